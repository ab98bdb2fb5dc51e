/-! BettingBookModel.wins(I)Z -/
noncomputable def F_X12_wins_J7 (N : Nat) (k7 : (Option Nat) → Int32 → Int32 → Int32 → Int32 → xH → Option (Int32 × xH)) (k26 : (Option Nat) → Int32 → Int32 → Int32 → xH → Option (Int32 × xH)) (x0 : (Option Nat)) (x1 : Int32) (x2 : Int32) (x3 : Int32) (x4 : Int32) (H : xH) : Option (Int32 × xH) :=
  (xgI H x0 11 58).bind fun v1 =>
  if v1 ≤ x4 then (k26 x0 x1 x2 x3 H) else (k7 x0 x1 x2 (x3 * (5 : Int32)) (x4 + 1) H)
set_option maxRecDepth 20000 in
set_option maxHeartbeats 4000000 in
theorem P_X12_wins_J7 {N : Nat} {Z : xZ} {rv : Int32} {Hf : xH} (hZ : Z = xZm cX12_wins yX12_wins 10 2 (some .boolean) (some (.int rv)) Hf) {k7 : (Option Nat) → Int32 → Int32 → Int32 → Int32 → xH → Option (Int32 × xH)} (hk7 : ∀ (x0 : (Option Nat)) (x1 : Int32) (x2 : Int32) (x3 : Int32) (x4 : Int32) (H : xH), k7 x0 x1 x2 x3 x4 H = some (rv, Hf) → xWq Z H 7 [xA x0, xI x1, xI x2, xI x3, xI x4, xN, xN, xN, xN, xN] []) {k26 : (Option Nat) → Int32 → Int32 → Int32 → xH → Option (Int32 × xH)} (hk26 : ∀ (x0 : (Option Nat)) (x1 : Int32) (x2 : Int32) (x3 : Int32) (H : xH), k26 x0 x1 x2 x3 H = some (rv, Hf) → xWq Z H 26 [xA x0, xI x1, xI x2, xI x3, xN, xN, xN, xN, xN, xN] []) : ∀ (x0 : (Option Nat)) (x1 : Int32) (x2 : Int32) (x3 : Int32) (x4 : Int32) (H : xH), F_X12_wins_J7 N k7 k26 x0 x1 x2 x3 x4 H = some (rv, Hf) → xWq Z H 7 [xA x0, xI x1, xI x2, xI x3, xI x4, xN, xN, xN, xN, xN] [] := by
  have hz : Z.1 = (cX12_wins, yX12_wins, 10) := by rw [hZ]; rfl
  have hδ : Z.2.1 = 2 := by rw [hZ]; rfl
  intro x0 x1 x2 x3 x4 H h
  unfold F_X12_wins_J7 at h
  refine x_iload hz dX12_wins_7 rfl ?_
  refine x_aload_n hz dX12_wins_9 rfl ?_
  obtain ⟨v1, e_v1, h⟩ := x_bnd h
  refine x_getI hz dX12_wins_10 fs_X12_407 e_v1 ?_
  refine x_icmp_ge (t := 26) hz dX12_wins_13 (by decide) (fun c2 => ?_) (fun c2 => ?_)
  · replace h := x_ip c2 h
    exact x_wk (xwk_c (xwk_c (xwk_c (xwk_c (xwk_n (xwk_n (xwk_n (xwk_n (xwk_n (xwk_n xwk_0)))))))))) (hk26 x0 x1 x2 x3 H h)
  · replace h := x_in c2 h
    refine x_iload_n hz dX12_wins_16 rfl ?_
    refine x_iconst (v := (5 : Int32)) hz dX12_wins_17 (by decide) ?_
    refine x_imul hz dX12_wins_18 ?_
    refine x_istore_n (pl' := [xA x0, xI x1, xI x2, xI (x3 * (5 : Int32)), xI x4, xN, xN, xN, xN, xN]) hz dX12_wins_19 (by decide) rfl ?_
    refine x_iinc (w := (x4 + 1)) (pl' := [xA x0, xI x1, xI x2, xI (x3 * (5 : Int32)), xI (x4 + 1), xN, xN, xN, xN, xN]) hz dX12_wins_20 rfl rfl (by decide) rfl ?_
    refine x_goto (t := 7) hz dX12_wins_23 (by decide) ?_
    exact x_wk (xwk_c (xwk_c (xwk_c (xwk_c (xwk_c (xwk_n (xwk_n (xwk_n (xwk_n (xwk_n xwk_0)))))))))) (hk7 x0 x1 x2 (x3 * (5 : Int32)) (x4 + 1) H h)
noncomputable def F_X12_wins_L7 (N : Nat) (k26 : (Option Nat) → Int32 → Int32 → Int32 → xH → Option (Int32 × xH)) : Nat → (Option Nat) → Int32 → Int32 → Int32 → Int32 → xH → Option (Int32 × xH)
  | 0 => fun _ _ _ _ _ _ => none
  | n + 1 => F_X12_wins_J7 N (F_X12_wins_L7 N k26 n) k26
theorem P_X12_wins_L7 {N : Nat} {Z : xZ} {rv : Int32} {Hf : xH} (hZ : Z = xZm cX12_wins yX12_wins 10 2 (some .boolean) (some (.int rv)) Hf) {k26 : (Option Nat) → Int32 → Int32 → Int32 → xH → Option (Int32 × xH)} (hk26 : ∀ (x0 : (Option Nat)) (x1 : Int32) (x2 : Int32) (x3 : Int32) (H : xH), k26 x0 x1 x2 x3 H = some (rv, Hf) → xWq Z H 26 [xA x0, xI x1, xI x2, xI x3, xN, xN, xN, xN, xN, xN] []) : ∀ (n : Nat) (x0 : (Option Nat)) (x1 : Int32) (x2 : Int32) (x3 : Int32) (x4 : Int32) (H : xH), F_X12_wins_L7 N k26 n x0 x1 x2 x3 x4 H = some (rv, Hf) → xWq Z H 7 [xA x0, xI x1, xI x2, xI x3, xI x4, xN, xN, xN, xN, xN] [] := by
  intro n
  induction n with
  | zero => intro _ _ _ _ _ _ h; cases h
  | succ n ih => exact P_X12_wins_J7 hZ ih hk26
noncomputable def F_X12_wins_J133 (N : Nat) (k61 : (Option Nat) → Int32 → Int32 → Int32 → Int32 → Int32 → Int32 → Int32 → Int32 → xH → Option (Int32 × xH)) (x0 : (Option Nat)) (x1 : Int32) (x2 : Int32) (x3 : Int32) (x4 : Int32) (x6 : Int32) (x7 : Int32) (x8 : Int32) (s0 : Int32) (s1 : Int32) (H : xH) : Option (Int32 × xH) :=
  k61 x0 x1 x2 x3 x4 (s0 + s1) (x6 / (5 : Int32)) (x7 / (3 : Int32)) (x8 + 1) H
set_option maxRecDepth 20000 in
set_option maxHeartbeats 4000000 in
theorem P_X12_wins_J133 {N : Nat} {Z : xZ} {rv : Int32} {Hf : xH} (hZ : Z = xZm cX12_wins yX12_wins 10 2 (some .boolean) (some (.int rv)) Hf) {k61 : (Option Nat) → Int32 → Int32 → Int32 → Int32 → Int32 → Int32 → Int32 → Int32 → xH → Option (Int32 × xH)} (hk61 : ∀ (x0 : (Option Nat)) (x1 : Int32) (x2 : Int32) (x3 : Int32) (x4 : Int32) (x5 : Int32) (x6 : Int32) (x7 : Int32) (x8 : Int32) (H : xH), k61 x0 x1 x2 x3 x4 x5 x6 x7 x8 H = some (rv, Hf) → xWq Z H 61 [xA x0, xI x1, xI x2, xI x3, xI x4, xI x5, xI x6, xI x7, xI x8, xN] []) : ∀ (x0 : (Option Nat)) (x1 : Int32) (x2 : Int32) (x3 : Int32) (x4 : Int32) (x6 : Int32) (x7 : Int32) (x8 : Int32) (s0 : Int32) (s1 : Int32) (H : xH), F_X12_wins_J133 N k61 x0 x1 x2 x3 x4 x6 x7 x8 s0 s1 H = some (rv, Hf) → xWq Z H 133 [xA x0, xI x1, xI x2, xI x3, xI x4, xN, xI x6, xI x7, xI x8, xN] [.int s1, .int s0] := by
  have hz : Z.1 = (cX12_wins, yX12_wins, 10) := by rw [hZ]; rfl
  have hδ : Z.2.1 = 2 := by rw [hZ]; rfl
  intro x0 x1 x2 x3 x4 x6 x7 x8 s0 s1 H h
  unfold F_X12_wins_J133 at h
  refine x_iadd hz dX12_wins_133 ?_
  refine x_istore (pl' := [xA x0, xI x1, xI x2, xI x3, xI x4, xI (s0 + s1), xI x6, xI x7, xI x8, xN]) hz dX12_wins_134 (by decide) rfl ?_
  refine x_iload hz dX12_wins_136 rfl ?_
  refine x_iconst (v := (5 : Int32)) hz dX12_wins_138 (by decide) ?_
  refine x_idiv hz dX12_wins_139 (by decide) ?_
  refine x_istore (pl' := [xA x0, xI x1, xI x2, xI x3, xI x4, xI (s0 + s1), xI (x6 / (5 : Int32)), xI x7, xI x8, xN]) hz dX12_wins_140 (by decide) rfl ?_
  refine x_iload hz dX12_wins_142 rfl ?_
  refine x_iconst (v := (3 : Int32)) hz dX12_wins_144 (by decide) ?_
  refine x_idiv hz dX12_wins_145 (by decide) ?_
  refine x_istore (pl' := [xA x0, xI x1, xI x2, xI x3, xI x4, xI (s0 + s1), xI (x6 / (5 : Int32)), xI (x7 / (3 : Int32)), xI x8, xN]) hz dX12_wins_146 (by decide) rfl ?_
  refine x_iinc (w := (x8 + 1)) (pl' := [xA x0, xI x1, xI x2, xI x3, xI x4, xI (s0 + s1), xI (x6 / (5 : Int32)), xI (x7 / (3 : Int32)), xI (x8 + 1), xN]) hz dX12_wins_148 rfl rfl (by decide) rfl ?_
  refine x_goto (t := 61) hz dX12_wins_151 (by decide) ?_
  exact x_wk (xwk_c (xwk_c (xwk_c (xwk_c (xwk_c (xwk_c (xwk_c (xwk_c (xwk_c (xwk_n xwk_0)))))))))) (hk61 x0 x1 x2 x3 x4 (s0 + s1) (x6 / (5 : Int32)) (x7 / (3 : Int32)) (x8 + 1) H h)
noncomputable def F_X12_wins_J61 (N : Nat) (k61 : (Option Nat) → Int32 → Int32 → Int32 → Int32 → Int32 → Int32 → Int32 → Int32 → xH → Option (Int32 × xH)) (k154 : (Option Nat) → Int32 → Int32 → Int32 → Int32 → Int32 → xH → Option (Int32 × xH)) (x0 : (Option Nat)) (x1 : Int32) (x2 : Int32) (x3 : Int32) (x4 : Int32) (x5 : Int32) (x6 : Int32) (x7 : Int32) (x8 : Int32) (H : xH) : Option (Int32 × xH) :=
  (xgI H x0 11 58).bind fun v1 =>
  if v1 ≤ x8 then (k154 x0 x1 x2 x3 x4 x5 H) else ((xgA H x0 11 11).bind fun v3 =>
  (xgA H x0 11 57).bind fun v4 =>
  (xlI .int H v4 x8).bind fun v5 =>
  (xlI .int H v3 v5).bind fun v6 =>
  (xgA H x0 11 10).bind fun v7 =>
  (xgA H x0 11 57).bind fun v8 =>
  (xlI .int H v8 x8).bind fun v9 =>
  (xlI .int H v7 v9).bind fun v10 =>
  x_bd2 (F_X12_amount N (x6 - x6 / (5 : Int32) * (5 : Int32)) v6 v10 H) fun v12 H11 =>
  if (x7 - x7 / (3 : Int32) * (3 : Int32)) = (1 : Int32) then ((F_X12_wins_J133 N k61) x0 x1 x2 x3 x4 x6 x7 x8 x5 v12 H11) else (if (x7 - x7 / (3 : Int32) * (3 : Int32)) = (2 : Int32) then ((F_X12_wins_J133 N k61) x0 x1 x2 x3 x4 x6 x7 x8 x5 (-v12) H11) else ((F_X12_wins_J133 N k61) x0 x1 x2 x3 x4 x6 x7 x8 x5 (0 : Int32) H11)))
set_option maxRecDepth 20000 in
set_option maxHeartbeats 4000000 in
theorem P_X12_wins_J61 {N : Nat} {Z : xZ} {rv : Int32} {Hf : xH} (hZ : Z = xZm cX12_wins yX12_wins 10 2 (some .boolean) (some (.int rv)) Hf) {k61 : (Option Nat) → Int32 → Int32 → Int32 → Int32 → Int32 → Int32 → Int32 → Int32 → xH → Option (Int32 × xH)} (hk61 : ∀ (x0 : (Option Nat)) (x1 : Int32) (x2 : Int32) (x3 : Int32) (x4 : Int32) (x5 : Int32) (x6 : Int32) (x7 : Int32) (x8 : Int32) (H : xH), k61 x0 x1 x2 x3 x4 x5 x6 x7 x8 H = some (rv, Hf) → xWq Z H 61 [xA x0, xI x1, xI x2, xI x3, xI x4, xI x5, xI x6, xI x7, xI x8, xN] []) {k154 : (Option Nat) → Int32 → Int32 → Int32 → Int32 → Int32 → xH → Option (Int32 × xH)} (hk154 : ∀ (x0 : (Option Nat)) (x1 : Int32) (x2 : Int32) (x3 : Int32) (x4 : Int32) (x5 : Int32) (H : xH), k154 x0 x1 x2 x3 x4 x5 H = some (rv, Hf) → xWq Z H 154 [xA x0, xI x1, xI x2, xI x3, xI x4, xI x5, xN, xN, xN, xN] []) : ∀ (x0 : (Option Nat)) (x1 : Int32) (x2 : Int32) (x3 : Int32) (x4 : Int32) (x5 : Int32) (x6 : Int32) (x7 : Int32) (x8 : Int32) (H : xH), F_X12_wins_J61 N k61 k154 x0 x1 x2 x3 x4 x5 x6 x7 x8 H = some (rv, Hf) → xWq Z H 61 [xA x0, xI x1, xI x2, xI x3, xI x4, xI x5, xI x6, xI x7, xI x8, xN] [] := by
  have hz : Z.1 = (cX12_wins, yX12_wins, 10) := by rw [hZ]; rfl
  have hδ : Z.2.1 = 2 := by rw [hZ]; rfl
  intro x0 x1 x2 x3 x4 x5 x6 x7 x8 H h
  unfold F_X12_wins_J61 at h
  refine x_iload hz dX12_wins_61 rfl ?_
  refine x_aload_n hz dX12_wins_63 rfl ?_
  obtain ⟨v1, e_v1, h⟩ := x_bnd h
  refine x_getI hz dX12_wins_64 fs_X12_407 e_v1 ?_
  refine x_icmp_ge (t := 154) hz dX12_wins_67 (by decide) (fun c2 => ?_) (fun c2 => ?_)
  · replace h := x_ip c2 h
    exact x_wk (xwk_c (xwk_c (xwk_c (xwk_c (xwk_c (xwk_c (xwk_n (xwk_n (xwk_n (xwk_n xwk_0)))))))))) (hk154 x0 x1 x2 x3 x4 x5 H h)
  · replace h := x_in c2 h
    refine x_iload hz dX12_wins_70 rfl ?_
    refine x_iconst (v := (5 : Int32)) hz dX12_wins_72 (by decide) ?_
    refine x_irem hz dX12_wins_73 (by decide) ?_
    refine x_aload_n hz dX12_wins_74 rfl ?_
    obtain ⟨v3, e_v3, h⟩ := x_bnd h
    refine x_getA hz dX12_wins_75 fs_X12_25 e_v3 ?_
    refine x_aload_n hz dX12_wins_78 rfl ?_
    obtain ⟨v4, e_v4, h⟩ := x_bnd h
    refine x_getA hz dX12_wins_79 fs_X12_115 e_v4 ?_
    refine x_iload hz dX12_wins_82 rfl ?_
    obtain ⟨v5, e_v5, h⟩ := x_bnd h
    refine x_iald hz dX12_wins_84 e_v5 ?_
    obtain ⟨v6, e_v6, h⟩ := x_bnd h
    refine x_iald hz dX12_wins_85 e_v6 ?_
    refine x_aload_n hz dX12_wins_86 rfl ?_
    obtain ⟨v7, e_v7, h⟩ := x_bnd h
    refine x_getA hz dX12_wins_87 fs_X12_22 e_v7 ?_
    refine x_aload_n hz dX12_wins_90 rfl ?_
    obtain ⟨v8, e_v8, h⟩ := x_bnd h
    refine x_getA hz dX12_wins_91 fs_X12_115 e_v8 ?_
    refine x_iload hz dX12_wins_94 rfl ?_
    obtain ⟨v9, e_v9, h⟩ := x_bnd h
    refine x_iald hz dX12_wins_96 e_v9 ?_
    obtain ⟨v10, e_v10, h⟩ := x_bnd h
    refine x_iald hz dX12_wins_97 e_v10 ?_
    obtain ⟨v12, H11, e_H11, h⟩ := x_b2 h
    refine x_callSi (as := [.inl (x6 - x6 / (5 : Int32) * (5 : Int32)), .inl v6, .inl v10]) (st := []) cs_X12_410 rfl rfl hz (by omega) (by decide) dX12_wins_98 (M_X12_amount e_H11) ?_
    refine x_istore (pl' := [xA x0, xI x1, xI x2, xI x3, xI x4, xI x5, xI x6, xI x7, xI x8, xI v12]) hz dX12_wins_101 (by decide) rfl ?_
    refine x_iload hz dX12_wins_103 rfl ?_
    refine x_iload hz dX12_wins_105 rfl ?_
    refine x_iconst (v := (3 : Int32)) hz dX12_wins_107 (by decide) ?_
    refine x_irem hz dX12_wins_108 (by decide) ?_
    refine x_iconst (v := (1 : Int32)) hz dX12_wins_109 (by decide) ?_
    refine x_icmp_ne (t := 118) hz dX12_wins_110 (by decide) (fun c13 => ?_) (fun c13 => ?_)
    · replace h := x_in c13 h
      refine x_iload hz dX12_wins_118 rfl ?_
      refine x_iconst (v := (3 : Int32)) hz dX12_wins_120 (by decide) ?_
      refine x_irem hz dX12_wins_121 (by decide) ?_
      refine x_iconst (v := (2 : Int32)) hz dX12_wins_122 (by decide) ?_
      refine x_icmp_ne (t := 132) hz dX12_wins_123 (by decide) (fun c14 => ?_) (fun c14 => ?_)
      · replace h := x_in c14 h
        refine x_iconst (v := (0 : Int32)) hz dX12_wins_132 (by decide) ?_
        exact x_wk (xwk_c (xwk_c (xwk_c (xwk_c (xwk_c (xwk_n (xwk_c (xwk_c (xwk_c (xwk_n xwk_0)))))))))) ((P_X12_wins_J133 hZ hk61) x0 x1 x2 x3 x4 x6 x7 x8 x5 (0 : Int32) H11 h)
      · replace h := x_ip c14 h
        refine x_iload hz dX12_wins_126 rfl ?_
        refine x_ineg hz dX12_wins_128 ?_
        refine x_goto (t := 133) hz dX12_wins_129 (by decide) ?_
        exact x_wk (xwk_c (xwk_c (xwk_c (xwk_c (xwk_c (xwk_n (xwk_c (xwk_c (xwk_c (xwk_n xwk_0)))))))))) ((P_X12_wins_J133 hZ hk61) x0 x1 x2 x3 x4 x6 x7 x8 x5 (-v12) H11 h)
    · replace h := x_ip c13 h
      refine x_iload hz dX12_wins_113 rfl ?_
      refine x_goto (t := 133) hz dX12_wins_115 (by decide) ?_
      exact x_wk (xwk_c (xwk_c (xwk_c (xwk_c (xwk_c (xwk_n (xwk_c (xwk_c (xwk_c (xwk_n xwk_0)))))))))) ((P_X12_wins_J133 hZ hk61) x0 x1 x2 x3 x4 x6 x7 x8 x5 v12 H11 h)
noncomputable def F_X12_wins_L61 (N : Nat) (k154 : (Option Nat) → Int32 → Int32 → Int32 → Int32 → Int32 → xH → Option (Int32 × xH)) : Nat → (Option Nat) → Int32 → Int32 → Int32 → Int32 → Int32 → Int32 → Int32 → Int32 → xH → Option (Int32 × xH)
  | 0 => fun _ _ _ _ _ _ _ _ _ _ => none
  | n + 1 => F_X12_wins_J61 N (F_X12_wins_L61 N k154 n) k154
theorem P_X12_wins_L61 {N : Nat} {Z : xZ} {rv : Int32} {Hf : xH} (hZ : Z = xZm cX12_wins yX12_wins 10 2 (some .boolean) (some (.int rv)) Hf) {k154 : (Option Nat) → Int32 → Int32 → Int32 → Int32 → Int32 → xH → Option (Int32 × xH)} (hk154 : ∀ (x0 : (Option Nat)) (x1 : Int32) (x2 : Int32) (x3 : Int32) (x4 : Int32) (x5 : Int32) (H : xH), k154 x0 x1 x2 x3 x4 x5 H = some (rv, Hf) → xWq Z H 154 [xA x0, xI x1, xI x2, xI x3, xI x4, xI x5, xN, xN, xN, xN] []) : ∀ (n : Nat) (x0 : (Option Nat)) (x1 : Int32) (x2 : Int32) (x3 : Int32) (x4 : Int32) (x5 : Int32) (x6 : Int32) (x7 : Int32) (x8 : Int32) (H : xH), F_X12_wins_L61 N k154 n x0 x1 x2 x3 x4 x5 x6 x7 x8 H = some (rv, Hf) → xWq Z H 61 [xA x0, xI x1, xI x2, xI x3, xI x4, xI x5, xI x6, xI x7, xI x8, xN] [] := by
  intro n
  induction n with
  | zero => intro _ _ _ _ _ _ _ _ _ _ h; cases h
  | succ n ih => exact P_X12_wins_J61 hZ ih hk154
noncomputable def F_X12_wins_J176 (N : Nat) (k29 : (Option Nat) → Int32 → Int32 → Int32 → Int32 → xH → Option (Int32 × xH)) (x0 : (Option Nat)) (x1 : Int32) (x2 : Int32) (x3 : Int32) (x4 : Int32) (H : xH) : Option (Int32 × xH) :=
  k29 x0 x1 x2 x3 (x4 + 1) H
set_option maxRecDepth 20000 in
set_option maxHeartbeats 4000000 in
theorem P_X12_wins_J176 {N : Nat} {Z : xZ} {rv : Int32} {Hf : xH} (hZ : Z = xZm cX12_wins yX12_wins 10 2 (some .boolean) (some (.int rv)) Hf) {k29 : (Option Nat) → Int32 → Int32 → Int32 → Int32 → xH → Option (Int32 × xH)} (hk29 : ∀ (x0 : (Option Nat)) (x1 : Int32) (x2 : Int32) (x3 : Int32) (x4 : Int32) (H : xH), k29 x0 x1 x2 x3 x4 H = some (rv, Hf) → xWq Z H 29 [xA x0, xI x1, xI x2, xI x3, xI x4, xN, xN, xN, xN, xN] []) : ∀ (x0 : (Option Nat)) (x1 : Int32) (x2 : Int32) (x3 : Int32) (x4 : Int32) (H : xH), F_X12_wins_J176 N k29 x0 x1 x2 x3 x4 H = some (rv, Hf) → xWq Z H 176 [xA x0, xI x1, xI x2, xI x3, xI x4, xN, xN, xN, xN, xN] [] := by
  have hz : Z.1 = (cX12_wins, yX12_wins, 10) := by rw [hZ]; rfl
  have hδ : Z.2.1 = 2 := by rw [hZ]; rfl
  intro x0 x1 x2 x3 x4 H h
  unfold F_X12_wins_J176 at h
  refine x_iinc (w := (x4 + 1)) (pl' := [xA x0, xI x1, xI x2, xI x3, xI (x4 + 1), xN, xN, xN, xN, xN]) hz dX12_wins_176 rfl rfl (by decide) rfl ?_
  refine x_goto (t := 29) hz dX12_wins_179 (by decide) ?_
  exact x_wk (xwk_c (xwk_c (xwk_c (xwk_c (xwk_c (xwk_n (xwk_n (xwk_n (xwk_n (xwk_n xwk_0)))))))))) (hk29 x0 x1 x2 x3 (x4 + 1) H h)
noncomputable def F_X12_wins_J175 (N : Nat) (k29 : (Option Nat) → Int32 → Int32 → Int32 → Int32 → xH → Option (Int32 × xH)) (x0 : (Option Nat)) (x1 : Int32) (x3 : Int32) (x4 : Int32) (s0 : Int32) (H : xH) : Option (Int32 × xH) :=
  (F_X12_wins_J176 N k29) x0 x1 s0 x3 x4 H
set_option maxRecDepth 20000 in
set_option maxHeartbeats 4000000 in
theorem P_X12_wins_J175 {N : Nat} {Z : xZ} {rv : Int32} {Hf : xH} (hZ : Z = xZm cX12_wins yX12_wins 10 2 (some .boolean) (some (.int rv)) Hf) {k29 : (Option Nat) → Int32 → Int32 → Int32 → Int32 → xH → Option (Int32 × xH)} (hk29 : ∀ (x0 : (Option Nat)) (x1 : Int32) (x2 : Int32) (x3 : Int32) (x4 : Int32) (H : xH), k29 x0 x1 x2 x3 x4 H = some (rv, Hf) → xWq Z H 29 [xA x0, xI x1, xI x2, xI x3, xI x4, xN, xN, xN, xN, xN] []) : ∀ (x0 : (Option Nat)) (x1 : Int32) (x3 : Int32) (x4 : Int32) (s0 : Int32) (H : xH), F_X12_wins_J175 N k29 x0 x1 x3 x4 s0 H = some (rv, Hf) → xWq Z H 175 [xA x0, xI x1, xN, xI x3, xI x4, xN, xN, xN, xN, xN] [.int s0] := by
  have hz : Z.1 = (cX12_wins, yX12_wins, 10) := by rw [hZ]; rfl
  have hδ : Z.2.1 = 2 := by rw [hZ]; rfl
  intro x0 x1 x3 x4 s0 H h
  unfold F_X12_wins_J175 at h
  refine x_istore_n (pl' := [xA x0, xI x1, xI s0, xI x3, xI x4, xN, xN, xN, xN, xN]) hz dX12_wins_175 (by decide) rfl ?_
  exact x_wk (xwk_c (xwk_c (xwk_c (xwk_c (xwk_c (xwk_n (xwk_n (xwk_n (xwk_n (xwk_n xwk_0)))))))))) ((P_X12_wins_J176 hZ hk29) x0 x1 s0 x3 x4 H h)
noncomputable def F_X12_wins_J170 (N : Nat) (k29 : (Option Nat) → Int32 → Int32 → Int32 → Int32 → xH → Option (Int32 × xH)) (x0 : (Option Nat)) (x1 : Int32) (x3 : Int32) (x4 : Int32) (H : xH) : Option (Int32 × xH) :=
  (F_X12_wins_J175 N k29) x0 x1 x3 x4 (1 : Int32) H
set_option maxRecDepth 20000 in
set_option maxHeartbeats 4000000 in
theorem P_X12_wins_J170 {N : Nat} {Z : xZ} {rv : Int32} {Hf : xH} (hZ : Z = xZm cX12_wins yX12_wins 10 2 (some .boolean) (some (.int rv)) Hf) {k29 : (Option Nat) → Int32 → Int32 → Int32 → Int32 → xH → Option (Int32 × xH)} (hk29 : ∀ (x0 : (Option Nat)) (x1 : Int32) (x2 : Int32) (x3 : Int32) (x4 : Int32) (H : xH), k29 x0 x1 x2 x3 x4 H = some (rv, Hf) → xWq Z H 29 [xA x0, xI x1, xI x2, xI x3, xI x4, xN, xN, xN, xN, xN] []) : ∀ (x0 : (Option Nat)) (x1 : Int32) (x3 : Int32) (x4 : Int32) (H : xH), F_X12_wins_J170 N k29 x0 x1 x3 x4 H = some (rv, Hf) → xWq Z H 170 [xA x0, xI x1, xN, xI x3, xI x4, xN, xN, xN, xN, xN] [] := by
  have hz : Z.1 = (cX12_wins, yX12_wins, 10) := by rw [hZ]; rfl
  have hδ : Z.2.1 = 2 := by rw [hZ]; rfl
  intro x0 x1 x3 x4 H h
  unfold F_X12_wins_J170 at h
  refine x_iconst (v := (1 : Int32)) hz dX12_wins_170 (by decide) ?_
  refine x_goto (t := 175) hz dX12_wins_171 (by decide) ?_
  exact x_wk (xwk_c (xwk_c (xwk_n (xwk_c (xwk_c (xwk_n (xwk_n (xwk_n (xwk_n (xwk_n xwk_0)))))))))) ((P_X12_wins_J175 hZ hk29) x0 x1 x3 x4 (1 : Int32) H h)
noncomputable def F_X12_wins_J154 (N : Nat) (k29 : (Option Nat) → Int32 → Int32 → Int32 → Int32 → xH → Option (Int32 × xH)) (x0 : (Option Nat)) (x1 : Int32) (x2 : Int32) (x3 : Int32) (x4 : Int32) (x5 : Int32) (H : xH) : Option (Int32 × xH) :=
  if 0 ≤ x5 then (if x2 = 0 then (if x5 ≤ 0 then ((F_X12_wins_J175 N k29) x0 x1 x3 x4 (0 : Int32) H) else ((F_X12_wins_J170 N k29) x0 x1 x3 x4 H)) else ((F_X12_wins_J170 N k29) x0 x1 x3 x4 H)) else (some ((0 : Int32), H))
set_option maxRecDepth 20000 in
set_option maxHeartbeats 4000000 in
theorem P_X12_wins_J154 {N : Nat} {Z : xZ} {rv : Int32} {Hf : xH} (hZ : Z = xZm cX12_wins yX12_wins 10 2 (some .boolean) (some (.int rv)) Hf) {k29 : (Option Nat) → Int32 → Int32 → Int32 → Int32 → xH → Option (Int32 × xH)} (hk29 : ∀ (x0 : (Option Nat)) (x1 : Int32) (x2 : Int32) (x3 : Int32) (x4 : Int32) (H : xH), k29 x0 x1 x2 x3 x4 H = some (rv, Hf) → xWq Z H 29 [xA x0, xI x1, xI x2, xI x3, xI x4, xN, xN, xN, xN, xN] []) : ∀ (x0 : (Option Nat)) (x1 : Int32) (x2 : Int32) (x3 : Int32) (x4 : Int32) (x5 : Int32) (H : xH), F_X12_wins_J154 N k29 x0 x1 x2 x3 x4 x5 H = some (rv, Hf) → xWq Z H 154 [xA x0, xI x1, xI x2, xI x3, xI x4, xI x5, xN, xN, xN, xN] [] := by
  have hz : Z.1 = (cX12_wins, yX12_wins, 10) := by rw [hZ]; rfl
  have hδ : Z.2.1 = 2 := by rw [hZ]; rfl
  intro x0 x1 x2 x3 x4 x5 H h
  unfold F_X12_wins_J154 at h
  refine x_iload hz dX12_wins_154 rfl ?_
  refine x_if_ge (t := 161) hz dX12_wins_156 (by decide) (fun c1 => ?_) (fun c1 => ?_)
  · replace h := x_ip c1 h
    refine x_iload_n hz dX12_wins_161 rfl ?_
    refine x_if_ne (t := 170) hz dX12_wins_162 (by decide) (fun c2 => ?_) (fun c2 => ?_)
    · replace h := x_in c2 h
      exact x_wk (xwk_c (xwk_c (xwk_n (xwk_c (xwk_c (xwk_n (xwk_n (xwk_n (xwk_n (xwk_n xwk_0)))))))))) ((P_X12_wins_J170 hZ hk29) x0 x1 x3 x4 H h)
    · replace h := x_ip c2 h
      refine x_iload hz dX12_wins_165 rfl ?_
      refine x_if_le (t := 174) hz dX12_wins_167 (by decide) (fun c3 => ?_) (fun c3 => ?_)
      · replace h := x_ip c3 h
        refine x_iconst (v := (0 : Int32)) hz dX12_wins_174 (by decide) ?_
        exact x_wk (xwk_c (xwk_c (xwk_n (xwk_c (xwk_c (xwk_n (xwk_n (xwk_n (xwk_n (xwk_n xwk_0)))))))))) ((P_X12_wins_J175 hZ hk29) x0 x1 x3 x4 (0 : Int32) H h)
      · replace h := x_in c3 h
        exact x_wk (xwk_c (xwk_c (xwk_n (xwk_c (xwk_c (xwk_n (xwk_n (xwk_n (xwk_n (xwk_n xwk_0)))))))))) ((P_X12_wins_J170 hZ hk29) x0 x1 x3 x4 H h)
  · replace h := x_in c1 h
    refine x_iconst (v := (0 : Int32)) hz dX12_wins_159 (by decide) ?_
    cases h
    exact x_zret01 hZ (Or.inl rfl) dX12_wins_160
noncomputable def F_X12_wins_J29 (N : Nat) (k29 : (Option Nat) → Int32 → Int32 → Int32 → Int32 → xH → Option (Int32 × xH)) (x0 : (Option Nat)) (x1 : Int32) (x2 : Int32) (x3 : Int32) (x4 : Int32) (H : xH) : Option (Int32 × xH) :=
  if x3 ≤ x4 then (if x2 = 0 ∨ x2 = 1 then some (x2, H) else none) else ((xgA H x0 11 56).bind fun v3 =>
  (xlI .boolean H v3 x4).bind fun v4 =>
  if v4 = 0 then ((F_X12_wins_J176 N k29) x0 x1 x2 x3 x4 H) else ((F_X12_wins_L61 N (F_X12_wins_J154 N k29) N) x0 x1 x2 x3 x4 (0 : Int32) x4 x1 (0 : Int32) H))
set_option maxRecDepth 20000 in
set_option maxHeartbeats 4000000 in
theorem P_X12_wins_J29 {N : Nat} {Z : xZ} {rv : Int32} {Hf : xH} (hZ : Z = xZm cX12_wins yX12_wins 10 2 (some .boolean) (some (.int rv)) Hf) {k29 : (Option Nat) → Int32 → Int32 → Int32 → Int32 → xH → Option (Int32 × xH)} (hk29 : ∀ (x0 : (Option Nat)) (x1 : Int32) (x2 : Int32) (x3 : Int32) (x4 : Int32) (H : xH), k29 x0 x1 x2 x3 x4 H = some (rv, Hf) → xWq Z H 29 [xA x0, xI x1, xI x2, xI x3, xI x4, xN, xN, xN, xN, xN] []) : ∀ (x0 : (Option Nat)) (x1 : Int32) (x2 : Int32) (x3 : Int32) (x4 : Int32) (H : xH), F_X12_wins_J29 N k29 x0 x1 x2 x3 x4 H = some (rv, Hf) → xWq Z H 29 [xA x0, xI x1, xI x2, xI x3, xI x4, xN, xN, xN, xN, xN] [] := by
  have hz : Z.1 = (cX12_wins, yX12_wins, 10) := by rw [hZ]; rfl
  have hδ : Z.2.1 = 2 := by rw [hZ]; rfl
  intro x0 x1 x2 x3 x4 H h
  unfold F_X12_wins_J29 at h
  refine x_iload hz dX12_wins_29 rfl ?_
  refine x_iload_n hz dX12_wins_31 rfl ?_
  refine x_icmp_ge (t := 182) hz dX12_wins_32 (by decide) (fun c1 => ?_) (fun c1 => ?_)
  · replace h := x_ip c1 h
    refine x_iload_n hz dX12_wins_182 rfl ?_
    obtain ⟨c2, h⟩ := x_inv h
    cases h
    exact x_zret01 hZ c2 dX12_wins_183
  · replace h := x_in c1 h
    refine x_aload_n hz dX12_wins_35 rfl ?_
    obtain ⟨v3, e_v3, h⟩ := x_bnd h
    refine x_getA hz dX12_wins_36 fs_X12_112 e_v3 ?_
    refine x_iload hz dX12_wins_39 rfl ?_
    obtain ⟨v4, e_v4, h⟩ := x_bnd h
    refine x_zald hz dX12_wins_41 e_v4 ?_
    refine x_if_ne (t := 48) hz dX12_wins_42 (by decide) (fun c5 => ?_) (fun c5 => ?_)
    · replace h := x_in c5 h
      refine x_iconst (v := (0 : Int32)) hz dX12_wins_48 (by decide) ?_
      refine x_istore (pl' := [xA x0, xI x1, xI x2, xI x3, xI x4, xI (0 : Int32), xN, xN, xN, xN]) hz dX12_wins_49 (by decide) rfl ?_
      refine x_iload hz dX12_wins_51 rfl ?_
      refine x_istore (pl' := [xA x0, xI x1, xI x2, xI x3, xI x4, xI (0 : Int32), xI x4, xN, xN, xN]) hz dX12_wins_53 (by decide) rfl ?_
      refine x_iload_n hz dX12_wins_55 rfl ?_
      refine x_istore (pl' := [xA x0, xI x1, xI x2, xI x3, xI x4, xI (0 : Int32), xI x4, xI x1, xN, xN]) hz dX12_wins_56 (by decide) rfl ?_
      refine x_iconst (v := (0 : Int32)) hz dX12_wins_58 (by decide) ?_
      refine x_istore (pl' := [xA x0, xI x1, xI x2, xI x3, xI x4, xI (0 : Int32), xI x4, xI x1, xI (0 : Int32), xN]) hz dX12_wins_59 (by decide) rfl ?_
      exact x_wk (xwk_c (xwk_c (xwk_c (xwk_c (xwk_c (xwk_c (xwk_c (xwk_c (xwk_c (xwk_n xwk_0)))))))))) ((P_X12_wins_L61 hZ (P_X12_wins_J154 hZ hk29) N) x0 x1 x2 x3 x4 (0 : Int32) x4 x1 (0 : Int32) H h)
    · replace h := x_ip c5 h
      refine x_goto (t := 176) hz dX12_wins_45 (by decide) ?_
      exact x_wk (xwk_c (xwk_c (xwk_c (xwk_c (xwk_c (xwk_n (xwk_n (xwk_n (xwk_n (xwk_n xwk_0)))))))))) ((P_X12_wins_J176 hZ hk29) x0 x1 x2 x3 x4 H h)
noncomputable def F_X12_wins_L29 (N : Nat) : Nat → (Option Nat) → Int32 → Int32 → Int32 → Int32 → xH → Option (Int32 × xH)
  | 0 => fun _ _ _ _ _ _ => none
  | n + 1 => F_X12_wins_J29 N (F_X12_wins_L29 N n)
theorem P_X12_wins_L29 {N : Nat} {Z : xZ} {rv : Int32} {Hf : xH} (hZ : Z = xZm cX12_wins yX12_wins 10 2 (some .boolean) (some (.int rv)) Hf) : ∀ (n : Nat) (x0 : (Option Nat)) (x1 : Int32) (x2 : Int32) (x3 : Int32) (x4 : Int32) (H : xH), F_X12_wins_L29 N n x0 x1 x2 x3 x4 H = some (rv, Hf) → xWq Z H 29 [xA x0, xI x1, xI x2, xI x3, xI x4, xN, xN, xN, xN, xN] [] := by
  intro n
  induction n with
  | zero => intro _ _ _ _ _ _ h; cases h
  | succ n ih => exact P_X12_wins_J29 hZ ih
noncomputable def F_X12_wins_J26 (N : Nat) (x0 : (Option Nat)) (x1 : Int32) (x2 : Int32) (x3 : Int32) (H : xH) : Option (Int32 × xH) :=
  (F_X12_wins_L29 N N) x0 x1 x2 x3 (0 : Int32) H
set_option maxRecDepth 20000 in
set_option maxHeartbeats 4000000 in
theorem P_X12_wins_J26 {N : Nat} {Z : xZ} {rv : Int32} {Hf : xH} (hZ : Z = xZm cX12_wins yX12_wins 10 2 (some .boolean) (some (.int rv)) Hf) : ∀ (x0 : (Option Nat)) (x1 : Int32) (x2 : Int32) (x3 : Int32) (H : xH), F_X12_wins_J26 N x0 x1 x2 x3 H = some (rv, Hf) → xWq Z H 26 [xA x0, xI x1, xI x2, xI x3, xN, xN, xN, xN, xN, xN] [] := by
  have hz : Z.1 = (cX12_wins, yX12_wins, 10) := by rw [hZ]; rfl
  have hδ : Z.2.1 = 2 := by rw [hZ]; rfl
  intro x0 x1 x2 x3 H h
  unfold F_X12_wins_J26 at h
  refine x_iconst (v := (0 : Int32)) hz dX12_wins_26 (by decide) ?_
  refine x_istore (pl' := [xA x0, xI x1, xI x2, xI x3, xI (0 : Int32), xN, xN, xN, xN, xN]) hz dX12_wins_27 (by decide) rfl ?_
  exact x_wk (xwk_c (xwk_c (xwk_c (xwk_c (xwk_c (xwk_n (xwk_n (xwk_n (xwk_n (xwk_n xwk_0)))))))))) ((P_X12_wins_L29 hZ N) x0 x1 x2 x3 (0 : Int32) H h)
noncomputable def F_X12_wins (N : Nat) (a0 : (Option Nat)) (a1 : Int32) (H : xH) : Option (Int32 × xH) :=
  (F_X12_wins_L7 N (F_X12_wins_J26 N) N) a0 a1 (0 : Int32) (1 : Int32) (0 : Int32) H
set_option maxRecDepth 20000 in
set_option maxHeartbeats 4000000 in
theorem P_X12_wins {N : Nat} {Z : xZ} {rv : Int32} {Hf : xH} (hZ : Z = xZm cX12_wins yX12_wins 10 2 (some .boolean) (some (.int rv)) Hf) : ∀ (a0 : (Option Nat)) (a1 : Int32) (H : xH), F_X12_wins N a0 a1 H = some (rv, Hf) → xWq Z H 0 [xA a0, xI a1, xN, xN, xN, xN, xN, xN, xN, xN] [] := by
  have hz : Z.1 = (cX12_wins, yX12_wins, 10) := by rw [hZ]; rfl
  have hδ : Z.2.1 = 2 := by rw [hZ]; rfl
  intro a0 a1 H h
  unfold F_X12_wins at h
  refine x_iconst (v := (0 : Int32)) hz dX12_wins_0 (by decide) ?_
  refine x_istore_n (pl' := [xA a0, xI a1, xI (0 : Int32), xN, xN, xN, xN, xN, xN, xN]) hz dX12_wins_1 (by decide) rfl ?_
  refine x_iconst (v := (1 : Int32)) hz dX12_wins_2 (by decide) ?_
  refine x_istore_n (pl' := [xA a0, xI a1, xI (0 : Int32), xI (1 : Int32), xN, xN, xN, xN, xN, xN]) hz dX12_wins_3 (by decide) rfl ?_
  refine x_iconst (v := (0 : Int32)) hz dX12_wins_4 (by decide) ?_
  refine x_istore (pl' := [xA a0, xI a1, xI (0 : Int32), xI (1 : Int32), xI (0 : Int32), xN, xN, xN, xN, xN]) hz dX12_wins_5 (by decide) rfl ?_
  exact x_wk (xwk_c (xwk_c (xwk_c (xwk_c (xwk_c (xwk_n (xwk_n (xwk_n (xwk_n (xwk_n xwk_0)))))))))) ((P_X12_wins_L7 hZ (P_X12_wins_J26 hZ) N) a0 a1 (0 : Int32) (1 : Int32) (0 : Int32) H h)
theorem M_X12_wins {N : Nat} {a0 : (Option Nat)} {a1 : Int32} {H H1 : xH} {r1 : Int32} (h : F_X12_wins N a0 a1 H = some (r1, H1)) : xM yX12_wins cX12_wins 10 (some .boolean) 2 [.inr (.inr a0), .inl a1] H (some (.int r1)) H1 :=
  xM_of (by decide +kernel) (xT_tb 1504 (by decide +kernel) (by decide +kernel)) (by simp [xargs, x2]) rfl (P_X12_wins rfl a0 a1 H h)
/-! BettingBookModel.staked(I)I -/
noncomputable def F_X12_staked_J62 (N : Nat) (k7 : (Option Nat) → Int32 → Int32 → Int32 → xH → Option (Int32 × xH)) (x0 : (Option Nat)) (x3 : Int32) (x4 : Int32) (s0 : Int32) (s1 : Int32) (H : xH) : Option (Int32 × xH) :=
  k7 x0 (s0 + s1) (x3 / (3 : Int32)) (x4 + 1) H
set_option maxRecDepth 20000 in
set_option maxHeartbeats 4000000 in
theorem P_X12_staked_J62 {N : Nat} {Z : xZ} {rv : Int32} {Hf : xH} (hZ : Z = xZm cX12_staked yX12_staked 5 1 (some .int) (some (.int rv)) Hf) {k7 : (Option Nat) → Int32 → Int32 → Int32 → xH → Option (Int32 × xH)} (hk7 : ∀ (x0 : (Option Nat)) (x2 : Int32) (x3 : Int32) (x4 : Int32) (H : xH), k7 x0 x2 x3 x4 H = some (rv, Hf) → xWq Z H 7 [xA x0, xN, xI x2, xI x3, xI x4] []) : ∀ (x0 : (Option Nat)) (x3 : Int32) (x4 : Int32) (s0 : Int32) (s1 : Int32) (H : xH), F_X12_staked_J62 N k7 x0 x3 x4 s0 s1 H = some (rv, Hf) → xWq Z H 62 [xA x0, xN, xN, xI x3, xI x4] [.int s1, .int s0] := by
  have hz : Z.1 = (cX12_staked, yX12_staked, 5) := by rw [hZ]; rfl
  have hδ : Z.2.1 = 1 := by rw [hZ]; rfl
  intro x0 x3 x4 s0 s1 H h
  unfold F_X12_staked_J62 at h
  refine x_iadd hz dX12_staked_62 ?_
  refine x_istore_n (pl' := [xA x0, xN, xI (s0 + s1), xI x3, xI x4]) hz dX12_staked_63 (by decide) rfl ?_
  refine x_iload_n hz dX12_staked_64 rfl ?_
  refine x_iconst (v := (3 : Int32)) hz dX12_staked_65 (by decide) ?_
  refine x_idiv hz dX12_staked_66 (by decide) ?_
  refine x_istore_n (pl' := [xA x0, xN, xI (s0 + s1), xI (x3 / (3 : Int32)), xI x4]) hz dX12_staked_67 (by decide) rfl ?_
  refine x_iinc (w := (x4 + 1)) (pl' := [xA x0, xN, xI (s0 + s1), xI (x3 / (3 : Int32)), xI (x4 + 1)]) hz dX12_staked_68 rfl rfl (by decide) rfl ?_
  refine x_goto (t := 7) hz dX12_staked_71 (by decide) ?_
  exact x_wk (xwk_c (xwk_n (xwk_c (xwk_c (xwk_c xwk_0))))) (hk7 x0 (s0 + s1) (x3 / (3 : Int32)) (x4 + 1) H h)
noncomputable def F_X12_staked_J7 (N : Nat) (k7 : (Option Nat) → Int32 → Int32 → Int32 → xH → Option (Int32 × xH)) (x0 : (Option Nat)) (x2 : Int32) (x3 : Int32) (x4 : Int32) (H : xH) : Option (Int32 × xH) :=
  (xgI H x0 11 58).bind fun v1 =>
  if v1 ≤ x4 then (some (x2, H)) else (if (x3 - x3 / (3 : Int32) * (3 : Int32)) = (1 : Int32) then ((xgA H x0 11 10).bind fun v9 =>
  (xgA H x0 11 57).bind fun v10 =>
  (xlI .int H v10 x4).bind fun v11 =>
  (xlI .int H v9 v11).bind fun v12 =>
  (F_X12_staked_J62 N k7) x0 x3 x4 x2 v12 H) else (if (x3 - x3 / (3 : Int32) * (3 : Int32)) = (2 : Int32) then ((xgA H x0 11 11).bind fun v5 =>
  (xgA H x0 11 57).bind fun v6 =>
  (xlI .int H v6 x4).bind fun v7 =>
  (xlI .int H v5 v7).bind fun v8 =>
  (F_X12_staked_J62 N k7) x0 x3 x4 x2 v8 H) else ((F_X12_staked_J62 N k7) x0 x3 x4 x2 (0 : Int32) H)))
set_option maxRecDepth 20000 in
set_option maxHeartbeats 4000000 in
theorem P_X12_staked_J7 {N : Nat} {Z : xZ} {rv : Int32} {Hf : xH} (hZ : Z = xZm cX12_staked yX12_staked 5 1 (some .int) (some (.int rv)) Hf) {k7 : (Option Nat) → Int32 → Int32 → Int32 → xH → Option (Int32 × xH)} (hk7 : ∀ (x0 : (Option Nat)) (x2 : Int32) (x3 : Int32) (x4 : Int32) (H : xH), k7 x0 x2 x3 x4 H = some (rv, Hf) → xWq Z H 7 [xA x0, xN, xI x2, xI x3, xI x4] []) : ∀ (x0 : (Option Nat)) (x2 : Int32) (x3 : Int32) (x4 : Int32) (H : xH), F_X12_staked_J7 N k7 x0 x2 x3 x4 H = some (rv, Hf) → xWq Z H 7 [xA x0, xN, xI x2, xI x3, xI x4] [] := by
  have hz : Z.1 = (cX12_staked, yX12_staked, 5) := by rw [hZ]; rfl
  have hδ : Z.2.1 = 1 := by rw [hZ]; rfl
  intro x0 x2 x3 x4 H h
  unfold F_X12_staked_J7 at h
  refine x_iload hz dX12_staked_7 rfl ?_
  refine x_aload_n hz dX12_staked_9 rfl ?_
  obtain ⟨v1, e_v1, h⟩ := x_bnd h
  refine x_getI hz dX12_staked_10 fs_X12_407 e_v1 ?_
  refine x_icmp_ge (t := 74) hz dX12_staked_13 (by decide) (fun c2 => ?_) (fun c2 => ?_)
  · replace h := x_ip c2 h
    refine x_iload_n hz dX12_staked_74 rfl ?_
    cases h
    exact x_iret hZ dX12_staked_75
  · replace h := x_in c2 h
    refine x_iload_n hz dX12_staked_16 rfl ?_
    refine x_iload_n hz dX12_staked_17 rfl ?_
    refine x_iconst (v := (3 : Int32)) hz dX12_staked_18 (by decide) ?_
    refine x_irem hz dX12_staked_19 (by decide) ?_
    refine x_iconst (v := (1 : Int32)) hz dX12_staked_20 (by decide) ?_
    refine x_icmp_ne (t := 39) hz dX12_staked_21 (by decide) (fun c3 => ?_) (fun c3 => ?_)
    · replace h := x_in c3 h
      refine x_iload_n hz dX12_staked_39 rfl ?_
      refine x_iconst (v := (3 : Int32)) hz dX12_staked_40 (by decide) ?_
      refine x_irem hz dX12_staked_41 (by decide) ?_
      refine x_iconst (v := (2 : Int32)) hz dX12_staked_42 (by decide) ?_
      refine x_icmp_ne (t := 61) hz dX12_staked_43 (by decide) (fun c4 => ?_) (fun c4 => ?_)
      · replace h := x_in c4 h
        refine x_iconst (v := (0 : Int32)) hz dX12_staked_61 (by decide) ?_
        exact x_wk (xwk_c (xwk_n (xwk_n (xwk_c (xwk_c xwk_0))))) ((P_X12_staked_J62 hZ hk7) x0 x3 x4 x2 (0 : Int32) H h)
      · replace h := x_ip c4 h
        refine x_aload_n hz dX12_staked_46 rfl ?_
        obtain ⟨v5, e_v5, h⟩ := x_bnd h
        refine x_getA hz dX12_staked_47 fs_X12_25 e_v5 ?_
        refine x_aload_n hz dX12_staked_50 rfl ?_
        obtain ⟨v6, e_v6, h⟩ := x_bnd h
        refine x_getA hz dX12_staked_51 fs_X12_115 e_v6 ?_
        refine x_iload hz dX12_staked_54 rfl ?_
        obtain ⟨v7, e_v7, h⟩ := x_bnd h
        refine x_iald hz dX12_staked_56 e_v7 ?_
        obtain ⟨v8, e_v8, h⟩ := x_bnd h
        refine x_iald hz dX12_staked_57 e_v8 ?_
        refine x_goto (t := 62) hz dX12_staked_58 (by decide) ?_
        exact x_wk (xwk_c (xwk_n (xwk_n (xwk_c (xwk_c xwk_0))))) ((P_X12_staked_J62 hZ hk7) x0 x3 x4 x2 v8 H h)
    · replace h := x_ip c3 h
      refine x_aload_n hz dX12_staked_24 rfl ?_
      obtain ⟨v9, e_v9, h⟩ := x_bnd h
      refine x_getA hz dX12_staked_25 fs_X12_22 e_v9 ?_
      refine x_aload_n hz dX12_staked_28 rfl ?_
      obtain ⟨v10, e_v10, h⟩ := x_bnd h
      refine x_getA hz dX12_staked_29 fs_X12_115 e_v10 ?_
      refine x_iload hz dX12_staked_32 rfl ?_
      obtain ⟨v11, e_v11, h⟩ := x_bnd h
      refine x_iald hz dX12_staked_34 e_v11 ?_
      obtain ⟨v12, e_v12, h⟩ := x_bnd h
      refine x_iald hz dX12_staked_35 e_v12 ?_
      refine x_goto (t := 62) hz dX12_staked_36 (by decide) ?_
      exact x_wk (xwk_c (xwk_n (xwk_n (xwk_c (xwk_c xwk_0))))) ((P_X12_staked_J62 hZ hk7) x0 x3 x4 x2 v12 H h)
noncomputable def F_X12_staked_L7 (N : Nat) : Nat → (Option Nat) → Int32 → Int32 → Int32 → xH → Option (Int32 × xH)
  | 0 => fun _ _ _ _ _ => none
  | n + 1 => F_X12_staked_J7 N (F_X12_staked_L7 N n)
theorem P_X12_staked_L7 {N : Nat} {Z : xZ} {rv : Int32} {Hf : xH} (hZ : Z = xZm cX12_staked yX12_staked 5 1 (some .int) (some (.int rv)) Hf) : ∀ (n : Nat) (x0 : (Option Nat)) (x2 : Int32) (x3 : Int32) (x4 : Int32) (H : xH), F_X12_staked_L7 N n x0 x2 x3 x4 H = some (rv, Hf) → xWq Z H 7 [xA x0, xN, xI x2, xI x3, xI x4] [] := by
  intro n
  induction n with
  | zero => intro _ _ _ _ _ h; cases h
  | succ n ih => exact P_X12_staked_J7 hZ ih
noncomputable def F_X12_staked (N : Nat) (a0 : (Option Nat)) (a1 : Int32) (H : xH) : Option (Int32 × xH) :=
  (F_X12_staked_L7 N N) a0 (0 : Int32) a1 (0 : Int32) H
set_option maxRecDepth 20000 in
set_option maxHeartbeats 4000000 in
theorem P_X12_staked {N : Nat} {Z : xZ} {rv : Int32} {Hf : xH} (hZ : Z = xZm cX12_staked yX12_staked 5 1 (some .int) (some (.int rv)) Hf) : ∀ (a0 : (Option Nat)) (a1 : Int32) (H : xH), F_X12_staked N a0 a1 H = some (rv, Hf) → xWq Z H 0 [xA a0, xI a1, xN, xN, xN] [] := by
  have hz : Z.1 = (cX12_staked, yX12_staked, 5) := by rw [hZ]; rfl
  have hδ : Z.2.1 = 1 := by rw [hZ]; rfl
  intro a0 a1 H h
  unfold F_X12_staked at h
  refine x_iconst (v := (0 : Int32)) hz dX12_staked_0 (by decide) ?_
  refine x_istore_n (pl' := [xA a0, xI a1, xI (0 : Int32), xN, xN]) hz dX12_staked_1 (by decide) rfl ?_
  refine x_iload_n hz dX12_staked_2 rfl ?_
  refine x_istore_n (pl' := [xA a0, xI a1, xI (0 : Int32), xI a1, xN]) hz dX12_staked_3 (by decide) rfl ?_
  refine x_iconst (v := (0 : Int32)) hz dX12_staked_4 (by decide) ?_
  refine x_istore (pl' := [xA a0, xI a1, xI (0 : Int32), xI a1, xI (0 : Int32)]) hz dX12_staked_5 (by decide) rfl ?_
  exact x_wk (xwk_c (xwk_n (xwk_c (xwk_c (xwk_c xwk_0))))) ((P_X12_staked_L7 hZ N) a0 (0 : Int32) a1 (0 : Int32) H h)
theorem M_X12_staked {N : Nat} {a0 : (Option Nat)} {a1 : Int32} {H H1 : xH} {r1 : Int32} (h : F_X12_staked N a0 a1 H = some (r1, H1)) : xM yX12_staked cX12_staked 5 (some .int) 1 [.inr (.inr a0), .inl a1] H (some (.int r1)) H1 :=
  xM_of (by decide +kernel) (xT_tb 1500 (by decide +kernel) (by decide +kernel)) (by simp [xargs, x2]) rfl (P_X12_staked rfl a0 a1 H h)
/-! BettingBookModel.win(II)I -/
noncomputable def F_X12_win_J89 (N : Nat) (k31 : (Option Nat) → Int32 → Int32 → Int32 → xH → Option (Int32 × xH)) (x0 : (Option Nat)) (x1 : Int32) (x2 : Int32) (x3 : Int32) (H : xH) : Option (Int32 × xH) :=
  k31 x0 x1 x2 (x3 + 1) H
set_option maxRecDepth 20000 in
set_option maxHeartbeats 4000000 in
theorem P_X12_win_J89 {N : Nat} {Z : xZ} {rv : Int32} {Hf : xH} (hZ : Z = xZm cX12_win yX12_win 6 4 (some .int) (some (.int rv)) Hf) {k31 : (Option Nat) → Int32 → Int32 → Int32 → xH → Option (Int32 × xH)} (hk31 : ∀ (x0 : (Option Nat)) (x1 : Int32) (x2 : Int32) (x3 : Int32) (H : xH), k31 x0 x1 x2 x3 H = some (rv, Hf) → xWq Z H 31 [xA x0, xI x1, xI x2, xI x3, xN, xN] []) : ∀ (x0 : (Option Nat)) (x1 : Int32) (x2 : Int32) (x3 : Int32) (H : xH), F_X12_win_J89 N k31 x0 x1 x2 x3 H = some (rv, Hf) → xWq Z H 89 [xA x0, xI x1, xI x2, xI x3, xN, xN] [] := by
  have hz : Z.1 = (cX12_win, yX12_win, 6) := by rw [hZ]; rfl
  have hδ : Z.2.1 = 4 := by rw [hZ]; rfl
  intro x0 x1 x2 x3 H h
  unfold F_X12_win_J89 at h
  refine x_iinc (w := (x3 + 1)) (pl' := [xA x0, xI x1, xI x2, xI (x3 + 1), xN, xN]) hz dX12_win_89 rfl rfl (by decide) rfl ?_
  refine x_goto (t := 31) hz dX12_win_92 (by decide) ?_
  exact x_wk (xwk_c (xwk_c (xwk_c (xwk_c (xwk_n (xwk_n xwk_0)))))) (hk31 x0 x1 x2 (x3 + 1) H h)
noncomputable def F_X12_win_J31 (N : Nat) (k31 : (Option Nat) → Int32 → Int32 → Int32 → xH → Option (Int32 × xH)) (k95 : (Option Nat) → Int32 → xH → Option (Int32 × xH)) (x0 : (Option Nat)) (x1 : Int32) (x2 : Int32) (x3 : Int32) (H : xH) : Option (Int32 × xH) :=
  (xgI H x0 11 2).bind fun v1 =>
  if v1 ≤ x3 then (k95 x0 x2 H) else (x_bd2 (F_X12_bit N x1 x3 H) fun v4 H3 =>
  if v4 = 0 then ((F_X12_win_J89 N k31) x0 x1 x2 x3 H3) else ((xob H3 x0 11).bind fun b7 =>
  x_bd2 (F_X12_isSure N x0 x3 H3) fun v8 H6 =>
  if v8 = 0 then ((xgI H6 x0 11 58).bind fun v10 =>
  if v10 = (6 : Int32) then (some ((-1 : Int32), H6)) else ((xgA H6 x0 11 57).bind fun v12 =>
  (xgI H6 x0 11 58).bind fun v13 =>
  (xsI .int H6 v12 v13 x3).bind fun H14 =>
  (xgI H14 x0 11 58).bind fun v15 =>
  (xpI H14 x0 11 58 (v15 + (1 : Int32))).bind fun H16 =>
  (F_X12_win_J89 N k31) x0 x1 x2 x3 H16)) else ((F_X12_win_J89 N k31) x0 x1 x2 x3 H6)))
set_option maxRecDepth 20000 in
set_option maxHeartbeats 4000000 in
theorem P_X12_win_J31 {N : Nat} {Z : xZ} {rv : Int32} {Hf : xH} (hZ : Z = xZm cX12_win yX12_win 6 4 (some .int) (some (.int rv)) Hf) {k31 : (Option Nat) → Int32 → Int32 → Int32 → xH → Option (Int32 × xH)} (hk31 : ∀ (x0 : (Option Nat)) (x1 : Int32) (x2 : Int32) (x3 : Int32) (H : xH), k31 x0 x1 x2 x3 H = some (rv, Hf) → xWq Z H 31 [xA x0, xI x1, xI x2, xI x3, xN, xN] []) {k95 : (Option Nat) → Int32 → xH → Option (Int32 × xH)} (hk95 : ∀ (x0 : (Option Nat)) (x2 : Int32) (H : xH), k95 x0 x2 H = some (rv, Hf) → xWq Z H 95 [xA x0, xN, xI x2, xN, xN, xN] []) : ∀ (x0 : (Option Nat)) (x1 : Int32) (x2 : Int32) (x3 : Int32) (H : xH), F_X12_win_J31 N k31 k95 x0 x1 x2 x3 H = some (rv, Hf) → xWq Z H 31 [xA x0, xI x1, xI x2, xI x3, xN, xN] [] := by
  have hz : Z.1 = (cX12_win, yX12_win, 6) := by rw [hZ]; rfl
  have hδ : Z.2.1 = 4 := by rw [hZ]; rfl
  intro x0 x1 x2 x3 H h
  unfold F_X12_win_J31 at h
  refine x_iload_n hz dX12_win_31 rfl ?_
  refine x_aload_n hz dX12_win_32 rfl ?_
  obtain ⟨v1, e_v1, h⟩ := x_bnd h
  refine x_getI hz dX12_win_33 fs_X12_288 e_v1 ?_
  refine x_icmp_ge (t := 95) hz dX12_win_36 (by decide) (fun c2 => ?_) (fun c2 => ?_)
  · replace h := x_ip c2 h
    exact x_wk (xwk_c (xwk_n (xwk_c (xwk_n (xwk_n (xwk_n xwk_0)))))) (hk95 x0 x2 H h)
  · replace h := x_in c2 h
    refine x_iload_n hz dX12_win_39 rfl ?_
    refine x_iload_n hz dX12_win_40 rfl ?_
    obtain ⟨v4, H3, e_H3, h⟩ := x_b2 h
    refine x_callSi (as := [.inl x1, .inl x3]) (st := []) cs_X12_345 rfl rfl hz (by omega) (by decide) dX12_win_41 (M_X12_bit e_H3) ?_
    refine x_if_eq (t := 89) hz dX12_win_44 (by decide) (fun c5 => ?_) (fun c5 => ?_)
    · replace h := x_ip c5 h
      exact x_wk (xwk_c (xwk_c (xwk_c (xwk_c (xwk_n (xwk_n xwk_0)))))) ((P_X12_win_J89 hZ hk31) x0 x1 x2 x3 H3 h)
    · replace h := x_in c5 h
      refine x_aload_n hz dX12_win_47 rfl ?_
      refine x_iload_n hz dX12_win_48 rfl ?_
      obtain ⟨b7, e_b7, h⟩ := x_bnd h
      obtain ⟨v8, H6, e_H6, h⟩ := x_b2 h
      refine x_callVi (as := [.inl x3]) (st := []) cs_X12_372 (ci := 11) ⟨rfl, rfl⟩ rfl rfl hz (by omega) (by decide) dX12_win_49 e_b7 (M_X12_isSure e_H6) ?_
      refine x_if_eq (t := 58) hz dX12_win_52 (by decide) (fun c9 => ?_) (fun c9 => ?_)
      · replace h := x_ip c9 h
        refine x_aload_n hz dX12_win_58 rfl ?_
        obtain ⟨v10, e_v10, h⟩ := x_bnd h
        refine x_getI hz dX12_win_59 fs_X12_407 e_v10 ?_
        refine x_bipush (v := (6 : Int32)) hz dX12_win_62 (by decide) ?_
        refine x_icmp_ne (t := 69) hz dX12_win_64 (by decide) (fun c11 => ?_) (fun c11 => ?_)
        · replace h := x_in c11 h
          refine x_aload_n hz dX12_win_69 rfl ?_
          obtain ⟨v12, e_v12, h⟩ := x_bnd h
          refine x_getA hz dX12_win_70 fs_X12_115 e_v12 ?_
          refine x_aload_n hz dX12_win_73 rfl ?_
          obtain ⟨v13, e_v13, h⟩ := x_bnd h
          refine x_getI hz dX12_win_74 fs_X12_407 e_v13 ?_
          refine x_iload_n hz dX12_win_77 rfl ?_
          obtain ⟨H14, e_H14, h⟩ := x_bnd h
          refine x_iast hz dX12_win_78 e_H14 ?_
          refine x_aload_n hz dX12_win_79 rfl ?_
          refine x_dup hz dX12_win_80 (x_rfc _) ?_
          obtain ⟨v15, e_v15, h⟩ := x_bnd h
          refine x_getI hz dX12_win_81 fs_X12_407 e_v15 ?_
          refine x_iconst (v := (1 : Int32)) hz dX12_win_84 (by decide) ?_
          refine x_iadd hz dX12_win_85 ?_
          obtain ⟨H16, e_H16, h⟩ := x_bnd h
          refine x_putV (v := .int (v15 + (1 : Int32))) hz dX12_win_86 fs_X12_407 rfl rfl e_H16 ?_
          exact x_wk (xwk_c (xwk_c (xwk_c (xwk_c (xwk_n (xwk_n xwk_0)))))) ((P_X12_win_J89 hZ hk31) x0 x1 x2 x3 H16 h)
        · replace h := x_ip c11 h
          refine x_iconst (v := (-1 : Int32)) hz dX12_win_67 (by decide) ?_
          cases h
          exact x_iret hZ dX12_win_68
      · replace h := x_in c9 h
        refine x_goto (t := 89) hz dX12_win_55 (by decide) ?_
        exact x_wk (xwk_c (xwk_c (xwk_c (xwk_c (xwk_n (xwk_n xwk_0)))))) ((P_X12_win_J89 hZ hk31) x0 x1 x2 x3 H6 h)
noncomputable def F_X12_win_L31 (N : Nat) (k95 : (Option Nat) → Int32 → xH → Option (Int32 × xH)) : Nat → (Option Nat) → Int32 → Int32 → Int32 → xH → Option (Int32 × xH)
  | 0 => fun _ _ _ _ _ => none
  | n + 1 => F_X12_win_J31 N (F_X12_win_L31 N k95 n) k95
theorem P_X12_win_L31 {N : Nat} {Z : xZ} {rv : Int32} {Hf : xH} (hZ : Z = xZm cX12_win yX12_win 6 4 (some .int) (some (.int rv)) Hf) {k95 : (Option Nat) → Int32 → xH → Option (Int32 × xH)} (hk95 : ∀ (x0 : (Option Nat)) (x2 : Int32) (H : xH), k95 x0 x2 H = some (rv, Hf) → xWq Z H 95 [xA x0, xN, xI x2, xN, xN, xN] []) : ∀ (n : Nat) (x0 : (Option Nat)) (x1 : Int32) (x2 : Int32) (x3 : Int32) (H : xH), F_X12_win_L31 N k95 n x0 x1 x2 x3 H = some (rv, Hf) → xWq Z H 31 [xA x0, xI x1, xI x2, xI x3, xN, xN] [] := by
  intro n
  induction n with
  | zero => intro _ _ _ _ _ h; cases h
  | succ n ih => exact P_X12_win_J31 hZ ih hk95
noncomputable def F_X12_win_J113 (N : Nat) (k113 : (Option Nat) → Int32 → Int32 → Int32 → xH → Option (Int32 × xH)) (k132 : (Option Nat) → Int32 → Int32 → xH → Option (Int32 × xH)) (x0 : (Option Nat)) (x2 : Int32) (x3 : Int32) (x4 : Int32) (H : xH) : Option (Int32 × xH) :=
  (xgI H x0 11 58).bind fun v1 =>
  if v1 ≤ x4 then (k132 x0 x2 x3 H) else (k113 x0 x2 (x3 * (3 : Int32)) (x4 + 1) H)
set_option maxRecDepth 20000 in
set_option maxHeartbeats 4000000 in
theorem P_X12_win_J113 {N : Nat} {Z : xZ} {rv : Int32} {Hf : xH} (hZ : Z = xZm cX12_win yX12_win 6 4 (some .int) (some (.int rv)) Hf) {k113 : (Option Nat) → Int32 → Int32 → Int32 → xH → Option (Int32 × xH)} (hk113 : ∀ (x0 : (Option Nat)) (x2 : Int32) (x3 : Int32) (x4 : Int32) (H : xH), k113 x0 x2 x3 x4 H = some (rv, Hf) → xWq Z H 113 [xA x0, xN, xI x2, xI x3, xI x4, xN] []) {k132 : (Option Nat) → Int32 → Int32 → xH → Option (Int32 × xH)} (hk132 : ∀ (x0 : (Option Nat)) (x2 : Int32) (x3 : Int32) (H : xH), k132 x0 x2 x3 H = some (rv, Hf) → xWq Z H 132 [xA x0, xN, xI x2, xI x3, xN, xN] []) : ∀ (x0 : (Option Nat)) (x2 : Int32) (x3 : Int32) (x4 : Int32) (H : xH), F_X12_win_J113 N k113 k132 x0 x2 x3 x4 H = some (rv, Hf) → xWq Z H 113 [xA x0, xN, xI x2, xI x3, xI x4, xN] [] := by
  have hz : Z.1 = (cX12_win, yX12_win, 6) := by rw [hZ]; rfl
  have hδ : Z.2.1 = 4 := by rw [hZ]; rfl
  intro x0 x2 x3 x4 H h
  unfold F_X12_win_J113 at h
  refine x_iload hz dX12_win_113 rfl ?_
  refine x_aload_n hz dX12_win_115 rfl ?_
  obtain ⟨v1, e_v1, h⟩ := x_bnd h
  refine x_getI hz dX12_win_116 fs_X12_407 e_v1 ?_
  refine x_icmp_ge (t := 132) hz dX12_win_119 (by decide) (fun c2 => ?_) (fun c2 => ?_)
  · replace h := x_ip c2 h
    exact x_wk (xwk_c (xwk_n (xwk_c (xwk_c (xwk_n (xwk_n xwk_0)))))) (hk132 x0 x2 x3 H h)
  · replace h := x_in c2 h
    refine x_iload_n hz dX12_win_122 rfl ?_
    refine x_iconst (v := (3 : Int32)) hz dX12_win_123 (by decide) ?_
    refine x_imul hz dX12_win_124 ?_
    refine x_istore_n (pl' := [xA x0, xN, xI x2, xI (x3 * (3 : Int32)), xI x4, xN]) hz dX12_win_125 (by decide) rfl ?_
    refine x_iinc (w := (x4 + 1)) (pl' := [xA x0, xN, xI x2, xI (x3 * (3 : Int32)), xI (x4 + 1), xN]) hz dX12_win_126 rfl rfl (by decide) rfl ?_
    refine x_goto (t := 113) hz dX12_win_129 (by decide) ?_
    exact x_wk (xwk_c (xwk_n (xwk_c (xwk_c (xwk_c (xwk_n xwk_0)))))) (hk113 x0 x2 (x3 * (3 : Int32)) (x4 + 1) H h)
noncomputable def F_X12_win_L113 (N : Nat) (k132 : (Option Nat) → Int32 → Int32 → xH → Option (Int32 × xH)) : Nat → (Option Nat) → Int32 → Int32 → Int32 → xH → Option (Int32 × xH)
  | 0 => fun _ _ _ _ _ => none
  | n + 1 => F_X12_win_J113 N (F_X12_win_L113 N k132 n) k132
theorem P_X12_win_L113 {N : Nat} {Z : xZ} {rv : Int32} {Hf : xH} (hZ : Z = xZm cX12_win yX12_win 6 4 (some .int) (some (.int rv)) Hf) {k132 : (Option Nat) → Int32 → Int32 → xH → Option (Int32 × xH)} (hk132 : ∀ (x0 : (Option Nat)) (x2 : Int32) (x3 : Int32) (H : xH), k132 x0 x2 x3 H = some (rv, Hf) → xWq Z H 132 [xA x0, xN, xI x2, xI x3, xN, xN] []) : ∀ (n : Nat) (x0 : (Option Nat)) (x2 : Int32) (x3 : Int32) (x4 : Int32) (H : xH), F_X12_win_L113 N k132 n x0 x2 x3 x4 H = some (rv, Hf) → xWq Z H 113 [xA x0, xN, xI x2, xI x3, xI x4, xN] [] := by
  intro n
  induction n with
  | zero => intro _ _ _ _ _ h; cases h
  | succ n ih => exact P_X12_win_J113 hZ ih hk132
noncomputable def F_X12_win_J200 (N : Nat) (k145 : (Option Nat) → Int32 → Int32 → Int32 → xH → Option (Int32 × xH)) (x0 : (Option Nat)) (x2 : Int32) (x3 : Int32) (x4 : Int32) (H : xH) : Option (Int32 × xH) :=
  k145 x0 x2 x3 (x4 + 1) H
set_option maxRecDepth 20000 in
set_option maxHeartbeats 4000000 in
theorem P_X12_win_J200 {N : Nat} {Z : xZ} {rv : Int32} {Hf : xH} (hZ : Z = xZm cX12_win yX12_win 6 4 (some .int) (some (.int rv)) Hf) {k145 : (Option Nat) → Int32 → Int32 → Int32 → xH → Option (Int32 × xH)} (hk145 : ∀ (x0 : (Option Nat)) (x2 : Int32) (x3 : Int32) (x4 : Int32) (H : xH), k145 x0 x2 x3 x4 H = some (rv, Hf) → xWq Z H 145 [xA x0, xN, xI x2, xI x3, xI x4, xN] []) : ∀ (x0 : (Option Nat)) (x2 : Int32) (x3 : Int32) (x4 : Int32) (H : xH), F_X12_win_J200 N k145 x0 x2 x3 x4 H = some (rv, Hf) → xWq Z H 200 [xA x0, xN, xI x2, xI x3, xI x4, xN] [] := by
  have hz : Z.1 = (cX12_win, yX12_win, 6) := by rw [hZ]; rfl
  have hδ : Z.2.1 = 4 := by rw [hZ]; rfl
  intro x0 x2 x3 x4 H h
  unfold F_X12_win_J200 at h
  refine x_iinc (w := (x4 + 1)) (pl' := [xA x0, xN, xI x2, xI x3, xI (x4 + 1), xN]) hz dX12_win_200 rfl rfl (by decide) rfl ?_
  refine x_goto (t := 145) hz dX12_win_203 (by decide) ?_
  exact x_wk (xwk_c (xwk_n (xwk_c (xwk_c (xwk_c (xwk_n xwk_0)))))) (hk145 x0 x2 x3 (x4 + 1) H h)
noncomputable def F_X12_win_J176 (N : Nat) (k145 : (Option Nat) → Int32 → Int32 → Int32 → xH → Option (Int32 × xH)) (x0 : (Option Nat)) (x2 : Int32) (x3 : Int32) (x4 : Int32) (x5 : Int32) (H : xH) : Option (Int32 × xH) :=
  (xob H x0 11).bind fun b2 =>
  x_bd2 (F_X12_wins N x0 x4 H) fun v3 H1 =>
  if v3 = 0 then ((F_X12_win_J200 N k145) x0 x2 x3 x4 H1) else ((xpI H1 x0 11 59 x4).bind fun H5 =>
  (xpI H5 x0 11 60 x5).bind fun H6 =>
  (F_X12_win_J200 N k145) x0 x2 x3 x4 H6)
set_option maxRecDepth 20000 in
set_option maxHeartbeats 4000000 in
theorem P_X12_win_J176 {N : Nat} {Z : xZ} {rv : Int32} {Hf : xH} (hZ : Z = xZm cX12_win yX12_win 6 4 (some .int) (some (.int rv)) Hf) {k145 : (Option Nat) → Int32 → Int32 → Int32 → xH → Option (Int32 × xH)} (hk145 : ∀ (x0 : (Option Nat)) (x2 : Int32) (x3 : Int32) (x4 : Int32) (H : xH), k145 x0 x2 x3 x4 H = some (rv, Hf) → xWq Z H 145 [xA x0, xN, xI x2, xI x3, xI x4, xN] []) : ∀ (x0 : (Option Nat)) (x2 : Int32) (x3 : Int32) (x4 : Int32) (x5 : Int32) (H : xH), F_X12_win_J176 N k145 x0 x2 x3 x4 x5 H = some (rv, Hf) → xWq Z H 176 [xA x0, xN, xI x2, xI x3, xI x4, xI x5] [] := by
  have hz : Z.1 = (cX12_win, yX12_win, 6) := by rw [hZ]; rfl
  have hδ : Z.2.1 = 4 := by rw [hZ]; rfl
  intro x0 x2 x3 x4 x5 H h
  unfold F_X12_win_J176 at h
  refine x_aload_n hz dX12_win_176 rfl ?_
  refine x_iload hz dX12_win_177 rfl ?_
  obtain ⟨b2, e_b2, h⟩ := x_bnd h
  obtain ⟨v3, H1, e_H1, h⟩ := x_b2 h
  refine x_callVi (as := [.inl x4]) (st := []) cs_X12_426 (ci := 11) ⟨rfl, rfl⟩ rfl rfl hz (by omega) (by decide) dX12_win_179 e_b2 (M_X12_wins e_H1) ?_
  refine x_if_ne (t := 188) hz dX12_win_182 (by decide) (fun c4 => ?_) (fun c4 => ?_)
  · replace h := x_in c4 h
    refine x_aload_n hz dX12_win_188 rfl ?_
    refine x_iload hz dX12_win_189 rfl ?_
    obtain ⟨H5, e_H5, h⟩ := x_bnd h
    refine x_putV (v := .int x4) hz dX12_win_191 fs_X12_417 rfl rfl e_H5 ?_
    refine x_aload_n hz dX12_win_194 rfl ?_
    refine x_iload hz dX12_win_195 rfl ?_
    obtain ⟨H6, e_H6, h⟩ := x_bnd h
    refine x_putV (v := .int x5) hz dX12_win_197 fs_X12_420 rfl rfl e_H6 ?_
    exact x_wk (xwk_c (xwk_n (xwk_c (xwk_c (xwk_c (xwk_n xwk_0)))))) ((P_X12_win_J200 hZ hk145) x0 x2 x3 x4 H6 h)
  · replace h := x_ip c4 h
    refine x_goto (t := 200) hz dX12_win_185 (by decide) ?_
    exact x_wk (xwk_c (xwk_n (xwk_c (xwk_c (xwk_c (xwk_n xwk_0)))))) ((P_X12_win_J200 hZ hk145) x0 x2 x3 x4 H1 h)
noncomputable def F_X12_win_J145 (N : Nat) (k145 : (Option Nat) → Int32 → Int32 → Int32 → xH → Option (Int32 × xH)) (k206 : (Option Nat) → Int32 → xH → Option (Int32 × xH)) (x0 : (Option Nat)) (x2 : Int32) (x3 : Int32) (x4 : Int32) (H : xH) : Option (Int32 × xH) :=
  if x3 ≤ x4 then (k206 x0 x2 H) else ((xob H x0 11).bind fun b3 =>
  x_bd2 (F_X12_staked N x0 x4 H) fun v4 H2 =>
  (xgI H2 x0 11 59).bind fun v5 =>
  if v5 = (-1 : Int32) then ((F_X12_win_J176 N k145) x0 x2 x3 x4 v4 H2) else ((xgI H2 x0 11 60).bind fun v7 =>
  if v7 ≤ v4 then ((F_X12_win_J200 N k145) x0 x2 x3 x4 H2) else ((F_X12_win_J176 N k145) x0 x2 x3 x4 v4 H2)))
set_option maxRecDepth 20000 in
set_option maxHeartbeats 4000000 in
theorem P_X12_win_J145 {N : Nat} {Z : xZ} {rv : Int32} {Hf : xH} (hZ : Z = xZm cX12_win yX12_win 6 4 (some .int) (some (.int rv)) Hf) {k145 : (Option Nat) → Int32 → Int32 → Int32 → xH → Option (Int32 × xH)} (hk145 : ∀ (x0 : (Option Nat)) (x2 : Int32) (x3 : Int32) (x4 : Int32) (H : xH), k145 x0 x2 x3 x4 H = some (rv, Hf) → xWq Z H 145 [xA x0, xN, xI x2, xI x3, xI x4, xN] []) {k206 : (Option Nat) → Int32 → xH → Option (Int32 × xH)} (hk206 : ∀ (x0 : (Option Nat)) (x2 : Int32) (H : xH), k206 x0 x2 H = some (rv, Hf) → xWq Z H 206 [xA x0, xN, xI x2, xN, xN, xN] []) : ∀ (x0 : (Option Nat)) (x2 : Int32) (x3 : Int32) (x4 : Int32) (H : xH), F_X12_win_J145 N k145 k206 x0 x2 x3 x4 H = some (rv, Hf) → xWq Z H 145 [xA x0, xN, xI x2, xI x3, xI x4, xN] [] := by
  have hz : Z.1 = (cX12_win, yX12_win, 6) := by rw [hZ]; rfl
  have hδ : Z.2.1 = 4 := by rw [hZ]; rfl
  intro x0 x2 x3 x4 H h
  unfold F_X12_win_J145 at h
  refine x_iload hz dX12_win_145 rfl ?_
  refine x_iload_n hz dX12_win_147 rfl ?_
  refine x_icmp_ge (t := 206) hz dX12_win_148 (by decide) (fun c1 => ?_) (fun c1 => ?_)
  · replace h := x_ip c1 h
    exact x_wk (xwk_c (xwk_n (xwk_c (xwk_n (xwk_n (xwk_n xwk_0)))))) (hk206 x0 x2 H h)
  · replace h := x_in c1 h
    refine x_aload_n hz dX12_win_151 rfl ?_
    refine x_iload hz dX12_win_152 rfl ?_
    obtain ⟨b3, e_b3, h⟩ := x_bnd h
    obtain ⟨v4, H2, e_H2, h⟩ := x_b2 h
    refine x_callVi (as := [.inl x4]) (st := []) cs_X12_423 (ci := 11) ⟨rfl, rfl⟩ rfl rfl hz (by omega) (by decide) dX12_win_154 e_b3 (M_X12_staked e_H2) ?_
    refine x_istore (pl' := [xA x0, xN, xI x2, xI x3, xI x4, xI v4]) hz dX12_win_157 (by decide) rfl ?_
    refine x_aload_n hz dX12_win_159 rfl ?_
    obtain ⟨v5, e_v5, h⟩ := x_bnd h
    refine x_getI hz dX12_win_160 fs_X12_417 e_v5 ?_
    refine x_iconst (v := (-1 : Int32)) hz dX12_win_163 (by decide) ?_
    refine x_icmp_eq (t := 176) hz dX12_win_164 (by decide) (fun c6 => ?_) (fun c6 => ?_)
    · replace h := x_ip c6 h
      exact x_wk (xwk_c (xwk_n (xwk_c (xwk_c (xwk_c (xwk_c xwk_0)))))) ((P_X12_win_J176 hZ hk145) x0 x2 x3 x4 v4 H2 h)
    · replace h := x_in c6 h
      refine x_iload hz dX12_win_167 rfl ?_
      refine x_aload_n hz dX12_win_169 rfl ?_
      obtain ⟨v7, e_v7, h⟩ := x_bnd h
      refine x_getI hz dX12_win_170 fs_X12_420 e_v7 ?_
      refine x_icmp_ge (t := 200) hz dX12_win_173 (by decide) (fun c8 => ?_) (fun c8 => ?_)
      · replace h := x_ip c8 h
        exact x_wk (xwk_c (xwk_n (xwk_c (xwk_c (xwk_c (xwk_n xwk_0)))))) ((P_X12_win_J200 hZ hk145) x0 x2 x3 x4 H2 h)
      · replace h := x_in c8 h
        exact x_wk (xwk_c (xwk_n (xwk_c (xwk_c (xwk_c (xwk_c xwk_0)))))) ((P_X12_win_J176 hZ hk145) x0 x2 x3 x4 v4 H2 h)
noncomputable def F_X12_win_L145 (N : Nat) (k206 : (Option Nat) → Int32 → xH → Option (Int32 × xH)) : Nat → (Option Nat) → Int32 → Int32 → Int32 → xH → Option (Int32 × xH)
  | 0 => fun _ _ _ _ _ => none
  | n + 1 => F_X12_win_J145 N (F_X12_win_L145 N k206 n) k206
theorem P_X12_win_L145 {N : Nat} {Z : xZ} {rv : Int32} {Hf : xH} (hZ : Z = xZm cX12_win yX12_win 6 4 (some .int) (some (.int rv)) Hf) {k206 : (Option Nat) → Int32 → xH → Option (Int32 × xH)} (hk206 : ∀ (x0 : (Option Nat)) (x2 : Int32) (H : xH), k206 x0 x2 H = some (rv, Hf) → xWq Z H 206 [xA x0, xN, xI x2, xN, xN, xN] []) : ∀ (n : Nat) (x0 : (Option Nat)) (x2 : Int32) (x3 : Int32) (x4 : Int32) (H : xH), F_X12_win_L145 N k206 n x0 x2 x3 x4 H = some (rv, Hf) → xWq Z H 145 [xA x0, xN, xI x2, xI x3, xI x4, xN] [] := by
  intro n
  induction n with
  | zero => intro _ _ _ _ _ h; cases h
  | succ n ih => exact P_X12_win_J145 hZ ih hk206
noncomputable def F_X12_win_J206 (N : Nat) (x0 : (Option Nat)) (x2 : Int32) (H : xH) : Option (Int32 × xH) :=
  if x2 = 0 then ((xgI H x0 11 59).bind fun v3 =>
  some (v3, H)) else ((xgI H x0 11 60).bind fun v2 =>
  some (v2, H))
set_option maxRecDepth 20000 in
set_option maxHeartbeats 4000000 in
theorem P_X12_win_J206 {N : Nat} {Z : xZ} {rv : Int32} {Hf : xH} (hZ : Z = xZm cX12_win yX12_win 6 4 (some .int) (some (.int rv)) Hf) : ∀ (x0 : (Option Nat)) (x2 : Int32) (H : xH), F_X12_win_J206 N x0 x2 H = some (rv, Hf) → xWq Z H 206 [xA x0, xN, xI x2, xN, xN, xN] [] := by
  have hz : Z.1 = (cX12_win, yX12_win, 6) := by rw [hZ]; rfl
  have hδ : Z.2.1 = 4 := by rw [hZ]; rfl
  intro x0 x2 H h
  unfold F_X12_win_J206 at h
  refine x_iload_n hz dX12_win_206 rfl ?_
  refine x_if_ne (t := 217) hz dX12_win_207 (by decide) (fun c1 => ?_) (fun c1 => ?_)
  · replace h := x_in c1 h
    refine x_aload_n hz dX12_win_217 rfl ?_
    obtain ⟨v2, e_v2, h⟩ := x_bnd h
    refine x_getI hz dX12_win_218 fs_X12_420 e_v2 ?_
    cases h
    exact x_iret hZ dX12_win_221
  · replace h := x_ip c1 h
    refine x_aload_n hz dX12_win_210 rfl ?_
    obtain ⟨v3, e_v3, h⟩ := x_bnd h
    refine x_getI hz dX12_win_211 fs_X12_417 e_v3 ?_
    refine x_goto (t := 221) hz dX12_win_214 (by decide) ?_
    cases h
    exact x_iret hZ dX12_win_221
noncomputable def F_X12_win_J132 (N : Nat) (x0 : (Option Nat)) (x2 : Int32) (x3 : Int32) (H : xH) : Option (Int32 × xH) :=
  (xpI H x0 11 59 (-1 : Int32)).bind fun H1 =>
  (xpI H1 x0 11 60 (-1 : Int32)).bind fun H2 =>
  (F_X12_win_L145 N (F_X12_win_J206 N) N) x0 x2 x3 (1 : Int32) H2
set_option maxRecDepth 20000 in
set_option maxHeartbeats 4000000 in
theorem P_X12_win_J132 {N : Nat} {Z : xZ} {rv : Int32} {Hf : xH} (hZ : Z = xZm cX12_win yX12_win 6 4 (some .int) (some (.int rv)) Hf) : ∀ (x0 : (Option Nat)) (x2 : Int32) (x3 : Int32) (H : xH), F_X12_win_J132 N x0 x2 x3 H = some (rv, Hf) → xWq Z H 132 [xA x0, xN, xI x2, xI x3, xN, xN] [] := by
  have hz : Z.1 = (cX12_win, yX12_win, 6) := by rw [hZ]; rfl
  have hδ : Z.2.1 = 4 := by rw [hZ]; rfl
  intro x0 x2 x3 H h
  unfold F_X12_win_J132 at h
  refine x_aload_n hz dX12_win_132 rfl ?_
  refine x_iconst (v := (-1 : Int32)) hz dX12_win_133 (by decide) ?_
  obtain ⟨H1, e_H1, h⟩ := x_bnd h
  refine x_putV (v := .int (-1 : Int32)) hz dX12_win_134 fs_X12_417 rfl rfl e_H1 ?_
  refine x_aload_n hz dX12_win_137 rfl ?_
  refine x_iconst (v := (-1 : Int32)) hz dX12_win_138 (by decide) ?_
  obtain ⟨H2, e_H2, h⟩ := x_bnd h
  refine x_putV (v := .int (-1 : Int32)) hz dX12_win_139 fs_X12_420 rfl rfl e_H2 ?_
  refine x_iconst (v := (1 : Int32)) hz dX12_win_142 (by decide) ?_
  refine x_istore (pl' := [xA x0, xN, xI x2, xI x3, xI (1 : Int32), xN]) hz dX12_win_143 (by decide) rfl ?_
  exact x_wk (xwk_c (xwk_n (xwk_c (xwk_c (xwk_c (xwk_n xwk_0)))))) ((P_X12_win_L145 hZ (P_X12_win_J206 hZ) N) x0 x2 x3 (1 : Int32) H2 h)
noncomputable def F_X12_win_J95 (N : Nat) (x0 : (Option Nat)) (x2 : Int32) (H : xH) : Option (Int32 × xH) :=
  (xgI H x0 11 58).bind fun v1 =>
  if v1 = 0 then (some ((-1 : Int32), H)) else ((xob H x0 11).bind fun b4 =>
  (F_X12_meets N x0 H).bind fun H3 =>
  (F_X12_win_L113 N (F_X12_win_J132 N) N) x0 x2 (1 : Int32) (0 : Int32) H3)
set_option maxRecDepth 20000 in
set_option maxHeartbeats 4000000 in
theorem P_X12_win_J95 {N : Nat} {Z : xZ} {rv : Int32} {Hf : xH} (hZ : Z = xZm cX12_win yX12_win 6 4 (some .int) (some (.int rv)) Hf) : ∀ (x0 : (Option Nat)) (x2 : Int32) (H : xH), F_X12_win_J95 N x0 x2 H = some (rv, Hf) → xWq Z H 95 [xA x0, xN, xI x2, xN, xN, xN] [] := by
  have hz : Z.1 = (cX12_win, yX12_win, 6) := by rw [hZ]; rfl
  have hδ : Z.2.1 = 4 := by rw [hZ]; rfl
  intro x0 x2 H h
  unfold F_X12_win_J95 at h
  refine x_aload_n hz dX12_win_95 rfl ?_
  obtain ⟨v1, e_v1, h⟩ := x_bnd h
  refine x_getI hz dX12_win_96 fs_X12_407 e_v1 ?_
  refine x_if_ne (t := 104) hz dX12_win_99 (by decide) (fun c2 => ?_) (fun c2 => ?_)
  · replace h := x_in c2 h
    refine x_aload_n hz dX12_win_104 rfl ?_
    obtain ⟨b4, e_b4, h⟩ := x_bnd h
    obtain ⟨H3, e_H3, h⟩ := x_bnd h
    refine x_callVv (as := []) (st := []) cs_X12_414 (ci := 11) ⟨rfl, rfl⟩ rfl rfl hz (by omega) (by decide) dX12_win_105 e_b4 (M_X12_meets e_H3) ?_
    refine x_iconst (v := (1 : Int32)) hz dX12_win_108 (by decide) ?_
    refine x_istore_n (pl' := [xA x0, xN, xI x2, xI (1 : Int32), xN, xN]) hz dX12_win_109 (by decide) rfl ?_
    refine x_iconst (v := (0 : Int32)) hz dX12_win_110 (by decide) ?_
    refine x_istore (pl' := [xA x0, xN, xI x2, xI (1 : Int32), xI (0 : Int32), xN]) hz dX12_win_111 (by decide) rfl ?_
    exact x_wk (xwk_c (xwk_n (xwk_c (xwk_c (xwk_c (xwk_n xwk_0)))))) ((P_X12_win_L113 hZ (P_X12_win_J132 hZ) N) x0 x2 (1 : Int32) (0 : Int32) H3 h)
  · replace h := x_ip c2 h
    refine x_iconst (v := (-1 : Int32)) hz dX12_win_102 (by decide) ?_
    cases h
    exact x_iret hZ dX12_win_103
noncomputable def F_X12_win (N : Nat) (a0 : (Option Nat)) (a1 : Int32) (a2 : Int32) (H : xH) : Option (Int32 × xH) :=
  x_bd2 (F_X12_isIn N a2 (0 : Int32) (1 : Int32) H) fun v2 H1 =>
  if v2 = 0 then (some ((-1 : Int32), H1)) else (if a1 < 0 then (some ((-1 : Int32), H1)) else ((xgI H1 a0 11 2).bind fun v5 =>
  if (a1 >>> (v5 &&& 31)) ≤ 0 then ((xpI H1 a0 11 58 (0 : Int32)).bind fun H7 =>
  (F_X12_win_L31 N (F_X12_win_J95 N) N) a0 a1 a2 (0 : Int32) H7) else (some ((-1 : Int32), H1))))
set_option maxRecDepth 20000 in
set_option maxHeartbeats 4000000 in
theorem P_X12_win {N : Nat} {Z : xZ} {rv : Int32} {Hf : xH} (hZ : Z = xZm cX12_win yX12_win 6 4 (some .int) (some (.int rv)) Hf) : ∀ (a0 : (Option Nat)) (a1 : Int32) (a2 : Int32) (H : xH), F_X12_win N a0 a1 a2 H = some (rv, Hf) → xWq Z H 0 [xA a0, xI a1, xI a2, xN, xN, xN] [] := by
  have hz : Z.1 = (cX12_win, yX12_win, 6) := by rw [hZ]; rfl
  have hδ : Z.2.1 = 4 := by rw [hZ]; rfl
  intro a0 a1 a2 H h
  unfold F_X12_win at h
  refine x_iload_n hz dX12_win_0 rfl ?_
  refine x_iconst (v := (0 : Int32)) hz dX12_win_1 (by decide) ?_
  refine x_iconst (v := (1 : Int32)) hz dX12_win_2 (by decide) ?_
  obtain ⟨v2, H1, e_H1, h⟩ := x_b2 h
  refine x_callSi (as := [.inl a2, .inl (0 : Int32), .inl (1 : Int32)]) (st := []) cs_X12_153 rfl rfl hz (by omega) (by decide) dX12_win_3 (M_X12_isIn e_H1) ?_
  refine x_if_eq (t := 22) hz dX12_win_6 (by decide) (fun c3 => ?_) (fun c3 => ?_)
  · replace h := x_ip c3 h
    refine x_iconst (v := (-1 : Int32)) hz dX12_win_22 (by decide) ?_
    cases h
    exact x_iret hZ dX12_win_23
  · replace h := x_in c3 h
    refine x_iload_n hz dX12_win_9 rfl ?_
    refine x_if_lt (t := 22) hz dX12_win_10 (by decide) (fun c4 => ?_) (fun c4 => ?_)
    · replace h := x_ip c4 h
      refine x_iconst (v := (-1 : Int32)) hz dX12_win_22 (by decide) ?_
      cases h
      exact x_iret hZ dX12_win_23
    · replace h := x_in c4 h
      refine x_iload_n hz dX12_win_13 rfl ?_
      refine x_aload_n hz dX12_win_14 rfl ?_
      obtain ⟨v5, e_v5, h⟩ := x_bnd h
      refine x_getI hz dX12_win_15 fs_X12_288 e_v5 ?_
      refine x_ishr hz dX12_win_18 ?_
      refine x_if_le (t := 24) hz dX12_win_19 (by decide) (fun c6 => ?_) (fun c6 => ?_)
      · replace h := x_ip c6 h
        refine x_aload_n hz dX12_win_24 rfl ?_
        refine x_iconst (v := (0 : Int32)) hz dX12_win_25 (by decide) ?_
        obtain ⟨H7, e_H7, h⟩ := x_bnd h
        refine x_putV (v := .int (0 : Int32)) hz dX12_win_26 fs_X12_407 rfl rfl e_H7 ?_
        refine x_iconst (v := (0 : Int32)) hz dX12_win_29 (by decide) ?_
        refine x_istore_n (pl' := [xA a0, xI a1, xI a2, xI (0 : Int32), xN, xN]) hz dX12_win_30 (by decide) rfl ?_
        exact x_wk (xwk_c (xwk_c (xwk_c (xwk_c (xwk_n (xwk_n xwk_0)))))) ((P_X12_win_L31 hZ (P_X12_win_J95 hZ) N) a0 a1 a2 (0 : Int32) H7 h)
      · replace h := x_in c6 h
        refine x_iconst (v := (-1 : Int32)) hz dX12_win_22 (by decide) ?_
        cases h
        exact x_iret hZ dX12_win_23
theorem M_X12_win {N : Nat} {a0 : (Option Nat)} {a1 : Int32} {a2 : Int32} {H H1 : xH} {r1 : Int32} (h : F_X12_win N a0 a1 a2 H = some (r1, H1)) : xM yX12_win cX12_win 6 (some .int) 4 [.inr (.inr a0), .inl a1, .inl a2] H (some (.int r1)) H1 :=
  xM_of (by decide +kernel) (xT_tb 1492 (by decide +kernel) (by decide +kernel)) (by simp [xargs, x2]) rfl (P_X12_win rfl a0 a1 a2 H h)
/-! BettingBookModel.chance(III)Z -/
noncomputable def F_X12_chance (N : Nat) (a0 : (Option Nat)) (a1 : Int32) (a2 : Int32) (a3 : Int32) (H : xH) : Option (Int32 × xH) :=
  (xob H a0 11).bind fun b2 =>
  x_bd2 (F_X12_isThing N a0 a1 H) fun v3 H1 =>
  if v3 = 0 then (some ((0 : Int32), H1)) else (x_bd2 (F_X12_isIn N a2 (-1 : Int32) (7 : Int32) H1) fun v6 H5 =>
  if v6 = 0 then (some ((0 : Int32), H5)) else (x_bd2 (F_X12_isIn N a3 (0 : Int32) (100 : Int32) H5) fun v9 H8 =>
  if v9 = 0 then (some ((0 : Int32), H8)) else ((xgA H8 a0 11 61).bind fun v11 =>
  (xsI .int H8 v11 ((((9 : Int32) * a1) + a2) + (1 : Int32)) a3).bind fun H12 =>
  some ((1 : Int32), H12))))
set_option maxRecDepth 20000 in
set_option maxHeartbeats 4000000 in
theorem P_X12_chance {N : Nat} {Z : xZ} {rv : Int32} {Hf : xH} (hZ : Z = xZm cX12_chance yX12_chance 4 3 (some .boolean) (some (.int rv)) Hf) : ∀ (a0 : (Option Nat)) (a1 : Int32) (a2 : Int32) (a3 : Int32) (H : xH), F_X12_chance N a0 a1 a2 a3 H = some (rv, Hf) → xWq Z H 0 [xA a0, xI a1, xI a2, xI a3] [] := by
  have hz : Z.1 = (cX12_chance, yX12_chance, 4) := by rw [hZ]; rfl
  have hδ : Z.2.1 = 3 := by rw [hZ]; rfl
  intro a0 a1 a2 a3 H h
  unfold F_X12_chance at h
  refine x_aload_n hz dX12_chance_0 rfl ?_
  refine x_iload_n hz dX12_chance_1 rfl ?_
  obtain ⟨b2, e_b2, h⟩ := x_bnd h
  obtain ⟨v3, H1, e_H1, h⟩ := x_b2 h
  refine x_callVi (as := [.inl a1]) (st := []) cs_X12_355 (ci := 11) ⟨rfl, rfl⟩ rfl rfl hz (by omega) (by decide) dX12_chance_2 e_b2 (M_X12_isThing e_H1) ?_
  refine x_if_eq (t := 28) hz dX12_chance_5 (by decide) (fun c4 => ?_) (fun c4 => ?_)
  · replace h := x_ip c4 h
    refine x_iconst (v := (0 : Int32)) hz dX12_chance_28 (by decide) ?_
    cases h
    exact x_zret01 hZ (Or.inl rfl) dX12_chance_29
  · replace h := x_in c4 h
    refine x_iload_n hz dX12_chance_8 rfl ?_
    refine x_iconst (v := (-1 : Int32)) hz dX12_chance_9 (by decide) ?_
    refine x_bipush (v := (7 : Int32)) hz dX12_chance_10 (by decide) ?_
    obtain ⟨v6, H5, e_H5, h⟩ := x_b2 h
    refine x_callSi (as := [.inl a2, .inl (-1 : Int32), .inl (7 : Int32)]) (st := []) cs_X12_153 rfl rfl hz (by omega) (by decide) dX12_chance_12 (M_X12_isIn e_H5) ?_
    refine x_if_eq (t := 28) hz dX12_chance_15 (by decide) (fun c7 => ?_) (fun c7 => ?_)
    · replace h := x_ip c7 h
      refine x_iconst (v := (0 : Int32)) hz dX12_chance_28 (by decide) ?_
      cases h
      exact x_zret01 hZ (Or.inl rfl) dX12_chance_29
    · replace h := x_in c7 h
      refine x_iload_n hz dX12_chance_18 rfl ?_
      refine x_iconst (v := (0 : Int32)) hz dX12_chance_19 (by decide) ?_
      refine x_bipush (v := (100 : Int32)) hz dX12_chance_20 (by decide) ?_
      obtain ⟨v9, H8, e_H8, h⟩ := x_b2 h
      refine x_callSi (as := [.inl a3, .inl (0 : Int32), .inl (100 : Int32)]) (st := []) cs_X12_153 rfl rfl hz (by omega) (by decide) dX12_chance_22 (M_X12_isIn e_H8) ?_
      refine x_if_ne (t := 30) hz dX12_chance_25 (by decide) (fun c10 => ?_) (fun c10 => ?_)
      · replace h := x_in c10 h
        refine x_aload_n hz dX12_chance_30 rfl ?_
        obtain ⟨v11, e_v11, h⟩ := x_bnd h
        refine x_getA hz dX12_chance_31 fs_X12_118 e_v11 ?_
        refine x_bipush (v := (9 : Int32)) hz dX12_chance_34 (by decide) ?_
        refine x_iload_n hz dX12_chance_36 rfl ?_
        refine x_imul hz dX12_chance_37 ?_
        refine x_iload_n hz dX12_chance_38 rfl ?_
        refine x_iadd hz dX12_chance_39 ?_
        refine x_iconst (v := (1 : Int32)) hz dX12_chance_40 (by decide) ?_
        refine x_iadd hz dX12_chance_41 ?_
        refine x_iload_n hz dX12_chance_42 rfl ?_
        obtain ⟨H12, e_H12, h⟩ := x_bnd h
        refine x_iast hz dX12_chance_43 e_H12 ?_
        refine x_iconst (v := (1 : Int32)) hz dX12_chance_44 (by decide) ?_
        cases h
        exact x_zret01 hZ (Or.inr rfl) dX12_chance_45
      · replace h := x_ip c10 h
        refine x_iconst (v := (0 : Int32)) hz dX12_chance_28 (by decide) ?_
        cases h
        exact x_zret01 hZ (Or.inl rfl) dX12_chance_29
theorem M_X12_chance {N : Nat} {a0 : (Option Nat)} {a1 : Int32} {a2 : Int32} {a3 : Int32} {H H1 : xH} {r1 : Int32} (h : F_X12_chance N a0 a1 a2 a3 H = some (r1, H1)) : xM yX12_chance cX12_chance 4 (some .boolean) 3 [.inr (.inr a0), .inl a1, .inl a2, .inl a3] H (some (.int r1)) H1 :=
  xM_of (by decide +kernel) (xT_tb 1511 (by decide +kernel) (by decide +kernel)) (by simp [xargs, x2]) rfl (P_X12_chance rfl a0 a1 a2 a3 H h)
/-! BettingBookModel.areWhole()Z -/
noncomputable def F_X12_areWhole_J17 (N : Nat) (k17 : (Option Nat) → Int32 → Int32 → Int32 → Int32 → xH → Option (Int32 × xH)) (k45 : (Option Nat) → Int32 → Int32 → Int32 → xH → Option (Int32 × xH)) (x0 : (Option Nat)) (x1 : Int32) (x2 : Int32) (x3 : Int32) (x4 : Int32) (H : xH) : Option (Int32 × xH) :=
  if (9 : Int32) ≤ x4 then (k45 x0 x1 x2 x3 H) else ((xgA H x0 11 61).bind fun v2 =>
  (xlI .int H v2 (((9 : Int32) * x2) + x4)).bind fun v3 =>
  k17 x0 x1 x2 (x3 + v3) (x4 + 1) H)
set_option maxRecDepth 20000 in
set_option maxHeartbeats 4000000 in
theorem P_X12_areWhole_J17 {N : Nat} {Z : xZ} {rv : Int32} {Hf : xH} (hZ : Z = xZm cX12_areWhole yX12_areWhole 5 1 (some .boolean) (some (.int rv)) Hf) {k17 : (Option Nat) → Int32 → Int32 → Int32 → Int32 → xH → Option (Int32 × xH)} (hk17 : ∀ (x0 : (Option Nat)) (x1 : Int32) (x2 : Int32) (x3 : Int32) (x4 : Int32) (H : xH), k17 x0 x1 x2 x3 x4 H = some (rv, Hf) → xWq Z H 17 [xA x0, xI x1, xI x2, xI x3, xI x4] []) {k45 : (Option Nat) → Int32 → Int32 → Int32 → xH → Option (Int32 × xH)} (hk45 : ∀ (x0 : (Option Nat)) (x1 : Int32) (x2 : Int32) (x3 : Int32) (H : xH), k45 x0 x1 x2 x3 H = some (rv, Hf) → xWq Z H 45 [xA x0, xI x1, xI x2, xI x3, xN] []) : ∀ (x0 : (Option Nat)) (x1 : Int32) (x2 : Int32) (x3 : Int32) (x4 : Int32) (H : xH), F_X12_areWhole_J17 N k17 k45 x0 x1 x2 x3 x4 H = some (rv, Hf) → xWq Z H 17 [xA x0, xI x1, xI x2, xI x3, xI x4] [] := by
  have hz : Z.1 = (cX12_areWhole, yX12_areWhole, 5) := by rw [hZ]; rfl
  have hδ : Z.2.1 = 1 := by rw [hZ]; rfl
  intro x0 x1 x2 x3 x4 H h
  unfold F_X12_areWhole_J17 at h
  refine x_iload hz dX12_areWhole_17 rfl ?_
  refine x_bipush (v := (9 : Int32)) hz dX12_areWhole_19 (by decide) ?_
  refine x_icmp_ge (t := 45) hz dX12_areWhole_21 (by decide) (fun c1 => ?_) (fun c1 => ?_)
  · replace h := x_ip c1 h
    exact x_wk (xwk_c (xwk_c (xwk_c (xwk_c (xwk_n xwk_0))))) (hk45 x0 x1 x2 x3 H h)
  · replace h := x_in c1 h
    refine x_iload_n hz dX12_areWhole_24 rfl ?_
    refine x_aload_n hz dX12_areWhole_25 rfl ?_
    obtain ⟨v2, e_v2, h⟩ := x_bnd h
    refine x_getA hz dX12_areWhole_26 fs_X12_118 e_v2 ?_
    refine x_bipush (v := (9 : Int32)) hz dX12_areWhole_29 (by decide) ?_
    refine x_iload_n hz dX12_areWhole_31 rfl ?_
    refine x_imul hz dX12_areWhole_32 ?_
    refine x_iload hz dX12_areWhole_33 rfl ?_
    refine x_iadd hz dX12_areWhole_35 ?_
    obtain ⟨v3, e_v3, h⟩ := x_bnd h
    refine x_iald hz dX12_areWhole_36 e_v3 ?_
    refine x_iadd hz dX12_areWhole_37 ?_
    refine x_istore_n (pl' := [xA x0, xI x1, xI x2, xI (x3 + v3), xI x4]) hz dX12_areWhole_38 (by decide) rfl ?_
    refine x_iinc (w := (x4 + 1)) (pl' := [xA x0, xI x1, xI x2, xI (x3 + v3), xI (x4 + 1)]) hz dX12_areWhole_39 rfl rfl (by decide) rfl ?_
    refine x_goto (t := 17) hz dX12_areWhole_42 (by decide) ?_
    exact x_wk (xwk_c (xwk_c (xwk_c (xwk_c (xwk_c xwk_0))))) (hk17 x0 x1 x2 (x3 + v3) (x4 + 1) H h)
noncomputable def F_X12_areWhole_L17 (N : Nat) (k45 : (Option Nat) → Int32 → Int32 → Int32 → xH → Option (Int32 × xH)) : Nat → (Option Nat) → Int32 → Int32 → Int32 → Int32 → xH → Option (Int32 × xH)
  | 0 => fun _ _ _ _ _ _ => none
  | n + 1 => F_X12_areWhole_J17 N (F_X12_areWhole_L17 N k45 n) k45
theorem P_X12_areWhole_L17 {N : Nat} {Z : xZ} {rv : Int32} {Hf : xH} (hZ : Z = xZm cX12_areWhole yX12_areWhole 5 1 (some .boolean) (some (.int rv)) Hf) {k45 : (Option Nat) → Int32 → Int32 → Int32 → xH → Option (Int32 × xH)} (hk45 : ∀ (x0 : (Option Nat)) (x1 : Int32) (x2 : Int32) (x3 : Int32) (H : xH), k45 x0 x1 x2 x3 H = some (rv, Hf) → xWq Z H 45 [xA x0, xI x1, xI x2, xI x3, xN] []) : ∀ (n : Nat) (x0 : (Option Nat)) (x1 : Int32) (x2 : Int32) (x3 : Int32) (x4 : Int32) (H : xH), F_X12_areWhole_L17 N k45 n x0 x1 x2 x3 x4 H = some (rv, Hf) → xWq Z H 17 [xA x0, xI x1, xI x2, xI x3, xI x4] [] := by
  intro n
  induction n with
  | zero => intro _ _ _ _ _ _ h; cases h
  | succ n ih => exact P_X12_areWhole_J17 hZ ih hk45
noncomputable def F_X12_areWhole_J60 (N : Nat) (k4 : (Option Nat) → Int32 → Int32 → xH → Option (Int32 × xH)) (x0 : (Option Nat)) (x2 : Int32) (s0 : Int32) (H : xH) : Option (Int32 × xH) :=
  k4 x0 s0 (x2 + 1) H
set_option maxRecDepth 20000 in
set_option maxHeartbeats 4000000 in
theorem P_X12_areWhole_J60 {N : Nat} {Z : xZ} {rv : Int32} {Hf : xH} (hZ : Z = xZm cX12_areWhole yX12_areWhole 5 1 (some .boolean) (some (.int rv)) Hf) {k4 : (Option Nat) → Int32 → Int32 → xH → Option (Int32 × xH)} (hk4 : ∀ (x0 : (Option Nat)) (x1 : Int32) (x2 : Int32) (H : xH), k4 x0 x1 x2 H = some (rv, Hf) → xWq Z H 4 [xA x0, xI x1, xI x2, xN, xN] []) : ∀ (x0 : (Option Nat)) (x2 : Int32) (s0 : Int32) (H : xH), F_X12_areWhole_J60 N k4 x0 x2 s0 H = some (rv, Hf) → xWq Z H 60 [xA x0, xN, xI x2, xN, xN] [.int s0] := by
  have hz : Z.1 = (cX12_areWhole, yX12_areWhole, 5) := by rw [hZ]; rfl
  have hδ : Z.2.1 = 1 := by rw [hZ]; rfl
  intro x0 x2 s0 H h
  unfold F_X12_areWhole_J60 at h
  refine x_istore_n (pl' := [xA x0, xI s0, xI x2, xN, xN]) hz dX12_areWhole_60 (by decide) rfl ?_
  refine x_iinc (w := (x2 + 1)) (pl' := [xA x0, xI s0, xI (x2 + 1), xN, xN]) hz dX12_areWhole_61 rfl rfl (by decide) rfl ?_
  refine x_goto (t := 4) hz dX12_areWhole_64 (by decide) ?_
  exact x_wk (xwk_c (xwk_c (xwk_c (xwk_n (xwk_n xwk_0))))) (hk4 x0 s0 (x2 + 1) H h)
noncomputable def F_X12_areWhole_J59 (N : Nat) (k4 : (Option Nat) → Int32 → Int32 → xH → Option (Int32 × xH)) (x0 : (Option Nat)) (x2 : Int32) (H : xH) : Option (Int32 × xH) :=
  (F_X12_areWhole_J60 N k4) x0 x2 (0 : Int32) H
set_option maxRecDepth 20000 in
set_option maxHeartbeats 4000000 in
theorem P_X12_areWhole_J59 {N : Nat} {Z : xZ} {rv : Int32} {Hf : xH} (hZ : Z = xZm cX12_areWhole yX12_areWhole 5 1 (some .boolean) (some (.int rv)) Hf) {k4 : (Option Nat) → Int32 → Int32 → xH → Option (Int32 × xH)} (hk4 : ∀ (x0 : (Option Nat)) (x1 : Int32) (x2 : Int32) (H : xH), k4 x0 x1 x2 H = some (rv, Hf) → xWq Z H 4 [xA x0, xI x1, xI x2, xN, xN] []) : ∀ (x0 : (Option Nat)) (x2 : Int32) (H : xH), F_X12_areWhole_J59 N k4 x0 x2 H = some (rv, Hf) → xWq Z H 59 [xA x0, xN, xI x2, xN, xN] [] := by
  have hz : Z.1 = (cX12_areWhole, yX12_areWhole, 5) := by rw [hZ]; rfl
  have hδ : Z.2.1 = 1 := by rw [hZ]; rfl
  intro x0 x2 H h
  unfold F_X12_areWhole_J59 at h
  refine x_iconst (v := (0 : Int32)) hz dX12_areWhole_59 (by decide) ?_
  exact x_wk (xwk_c (xwk_n (xwk_c (xwk_n (xwk_n xwk_0))))) ((P_X12_areWhole_J60 hZ hk4) x0 x2 (0 : Int32) H h)
noncomputable def F_X12_areWhole_J45 (N : Nat) (k4 : (Option Nat) → Int32 → Int32 → xH → Option (Int32 × xH)) (x0 : (Option Nat)) (x1 : Int32) (x2 : Int32) (x3 : Int32) (H : xH) : Option (Int32 × xH) :=
  if x1 = 0 then ((F_X12_areWhole_J59 N k4) x0 x2 H) else (if x3 = (100 : Int32) then ((F_X12_areWhole_J60 N k4) x0 x2 (1 : Int32) H) else ((F_X12_areWhole_J59 N k4) x0 x2 H))
set_option maxRecDepth 20000 in
set_option maxHeartbeats 4000000 in
theorem P_X12_areWhole_J45 {N : Nat} {Z : xZ} {rv : Int32} {Hf : xH} (hZ : Z = xZm cX12_areWhole yX12_areWhole 5 1 (some .boolean) (some (.int rv)) Hf) {k4 : (Option Nat) → Int32 → Int32 → xH → Option (Int32 × xH)} (hk4 : ∀ (x0 : (Option Nat)) (x1 : Int32) (x2 : Int32) (H : xH), k4 x0 x1 x2 H = some (rv, Hf) → xWq Z H 4 [xA x0, xI x1, xI x2, xN, xN] []) : ∀ (x0 : (Option Nat)) (x1 : Int32) (x2 : Int32) (x3 : Int32) (H : xH), F_X12_areWhole_J45 N k4 x0 x1 x2 x3 H = some (rv, Hf) → xWq Z H 45 [xA x0, xI x1, xI x2, xI x3, xN] [] := by
  have hz : Z.1 = (cX12_areWhole, yX12_areWhole, 5) := by rw [hZ]; rfl
  have hδ : Z.2.1 = 1 := by rw [hZ]; rfl
  intro x0 x1 x2 x3 H h
  unfold F_X12_areWhole_J45 at h
  refine x_iload_n hz dX12_areWhole_45 rfl ?_
  refine x_if_eq (t := 59) hz dX12_areWhole_46 (by decide) (fun c1 => ?_) (fun c1 => ?_)
  · replace h := x_ip c1 h
    exact x_wk (xwk_c (xwk_n (xwk_c (xwk_n (xwk_n xwk_0))))) ((P_X12_areWhole_J59 hZ hk4) x0 x2 H h)
  · replace h := x_in c1 h
    refine x_iload_n hz dX12_areWhole_49 rfl ?_
    refine x_bipush (v := (100 : Int32)) hz dX12_areWhole_50 (by decide) ?_
    refine x_icmp_ne (t := 59) hz dX12_areWhole_52 (by decide) (fun c2 => ?_) (fun c2 => ?_)
    · replace h := x_in c2 h
      exact x_wk (xwk_c (xwk_n (xwk_c (xwk_n (xwk_n xwk_0))))) ((P_X12_areWhole_J59 hZ hk4) x0 x2 H h)
    · replace h := x_ip c2 h
      refine x_iconst (v := (1 : Int32)) hz dX12_areWhole_55 (by decide) ?_
      refine x_goto (t := 60) hz dX12_areWhole_56 (by decide) ?_
      exact x_wk (xwk_c (xwk_n (xwk_c (xwk_n (xwk_n xwk_0))))) ((P_X12_areWhole_J60 hZ hk4) x0 x2 (1 : Int32) H h)
noncomputable def F_X12_areWhole_J4 (N : Nat) (k4 : (Option Nat) → Int32 → Int32 → xH → Option (Int32 × xH)) (x0 : (Option Nat)) (x1 : Int32) (x2 : Int32) (H : xH) : Option (Int32 × xH) :=
  (xgI H x0 11 0).bind fun v1 =>
  if v1 ≤ x2 then (if x1 = 0 ∨ x1 = 1 then some (x1, H) else none) else ((F_X12_areWhole_L17 N (F_X12_areWhole_J45 N k4) N) x0 x1 x2 (0 : Int32) (0 : Int32) H)
set_option maxRecDepth 20000 in
set_option maxHeartbeats 4000000 in
theorem P_X12_areWhole_J4 {N : Nat} {Z : xZ} {rv : Int32} {Hf : xH} (hZ : Z = xZm cX12_areWhole yX12_areWhole 5 1 (some .boolean) (some (.int rv)) Hf) {k4 : (Option Nat) → Int32 → Int32 → xH → Option (Int32 × xH)} (hk4 : ∀ (x0 : (Option Nat)) (x1 : Int32) (x2 : Int32) (H : xH), k4 x0 x1 x2 H = some (rv, Hf) → xWq Z H 4 [xA x0, xI x1, xI x2, xN, xN] []) : ∀ (x0 : (Option Nat)) (x1 : Int32) (x2 : Int32) (H : xH), F_X12_areWhole_J4 N k4 x0 x1 x2 H = some (rv, Hf) → xWq Z H 4 [xA x0, xI x1, xI x2, xN, xN] [] := by
  have hz : Z.1 = (cX12_areWhole, yX12_areWhole, 5) := by rw [hZ]; rfl
  have hδ : Z.2.1 = 1 := by rw [hZ]; rfl
  intro x0 x1 x2 H h
  unfold F_X12_areWhole_J4 at h
  refine x_iload_n hz dX12_areWhole_4 rfl ?_
  refine x_aload_n hz dX12_areWhole_5 rfl ?_
  obtain ⟨v1, e_v1, h⟩ := x_bnd h
  refine x_getI hz dX12_areWhole_6 fs_X12_282 e_v1 ?_
  refine x_icmp_ge (t := 67) hz dX12_areWhole_9 (by decide) (fun c2 => ?_) (fun c2 => ?_)
  · replace h := x_ip c2 h
    refine x_iload_n hz dX12_areWhole_67 rfl ?_
    obtain ⟨c3, h⟩ := x_inv h
    cases h
    exact x_zret01 hZ c3 dX12_areWhole_68
  · replace h := x_in c2 h
    refine x_iconst (v := (0 : Int32)) hz dX12_areWhole_12 (by decide) ?_
    refine x_istore_n (pl' := [xA x0, xI x1, xI x2, xI (0 : Int32), xN]) hz dX12_areWhole_13 (by decide) rfl ?_
    refine x_iconst (v := (0 : Int32)) hz dX12_areWhole_14 (by decide) ?_
    refine x_istore (pl' := [xA x0, xI x1, xI x2, xI (0 : Int32), xI (0 : Int32)]) hz dX12_areWhole_15 (by decide) rfl ?_
    exact x_wk (xwk_c (xwk_c (xwk_c (xwk_c (xwk_c xwk_0))))) ((P_X12_areWhole_L17 hZ (P_X12_areWhole_J45 hZ hk4) N) x0 x1 x2 (0 : Int32) (0 : Int32) H h)
noncomputable def F_X12_areWhole_L4 (N : Nat) : Nat → (Option Nat) → Int32 → Int32 → xH → Option (Int32 × xH)
  | 0 => fun _ _ _ _ => none
  | n + 1 => F_X12_areWhole_J4 N (F_X12_areWhole_L4 N n)
theorem P_X12_areWhole_L4 {N : Nat} {Z : xZ} {rv : Int32} {Hf : xH} (hZ : Z = xZm cX12_areWhole yX12_areWhole 5 1 (some .boolean) (some (.int rv)) Hf) : ∀ (n : Nat) (x0 : (Option Nat)) (x1 : Int32) (x2 : Int32) (H : xH), F_X12_areWhole_L4 N n x0 x1 x2 H = some (rv, Hf) → xWq Z H 4 [xA x0, xI x1, xI x2, xN, xN] [] := by
  intro n
  induction n with
  | zero => intro _ _ _ _ h; cases h
  | succ n ih => exact P_X12_areWhole_J4 hZ ih
noncomputable def F_X12_areWhole (N : Nat) (a0 : (Option Nat)) (H : xH) : Option (Int32 × xH) :=
  (F_X12_areWhole_L4 N N) a0 (1 : Int32) (0 : Int32) H
set_option maxRecDepth 20000 in
set_option maxHeartbeats 4000000 in
theorem P_X12_areWhole {N : Nat} {Z : xZ} {rv : Int32} {Hf : xH} (hZ : Z = xZm cX12_areWhole yX12_areWhole 5 1 (some .boolean) (some (.int rv)) Hf) : ∀ (a0 : (Option Nat)) (H : xH), F_X12_areWhole N a0 H = some (rv, Hf) → xWq Z H 0 [xA a0, xN, xN, xN, xN] [] := by
  have hz : Z.1 = (cX12_areWhole, yX12_areWhole, 5) := by rw [hZ]; rfl
  have hδ : Z.2.1 = 1 := by rw [hZ]; rfl
  intro a0 H h
  unfold F_X12_areWhole at h
  refine x_iconst (v := (1 : Int32)) hz dX12_areWhole_0 (by decide) ?_
  refine x_istore_n (pl' := [xA a0, xI (1 : Int32), xN, xN, xN]) hz dX12_areWhole_1 (by decide) rfl ?_
  refine x_iconst (v := (0 : Int32)) hz dX12_areWhole_2 (by decide) ?_
  refine x_istore_n (pl' := [xA a0, xI (1 : Int32), xI (0 : Int32), xN, xN]) hz dX12_areWhole_3 (by decide) rfl ?_
  exact x_wk (xwk_c (xwk_c (xwk_c (xwk_n (xwk_n xwk_0))))) ((P_X12_areWhole_L4 hZ N) a0 (1 : Int32) (0 : Int32) H h)
theorem M_X12_areWhole {N : Nat} {a0 : (Option Nat)} {H H1 : xH} {r1 : Int32} (h : F_X12_areWhole N a0 H = some (r1, H1)) : xM yX12_areWhole cX12_areWhole 5 (some .boolean) 1 [.inr (.inr a0)] H (some (.int r1)) H1 :=
  xM_of (by decide +kernel) (xT_tb 1519 (by decide +kernel) (by decide +kernel)) (by simp [xargs, x2]) rfl (P_X12_areWhole rfl a0 H h)
/-! BettingBookModel.weightOf(I)J -/
noncomputable def F_X12_weightOf_J8 (N : Nat) (k8 : (Option Nat) → Int64 → Int32 → Int32 → xH → Option (Int64 × xH)) (x0 : (Option Nat)) (x2 : Int64) (x4 : Int32) (x5 : Int32) (H : xH) : Option (Int64 × xH) :=
  (xgI H x0 11 0).bind fun v1 =>
  if v1 ≤ x5 then (some (x2, H)) else ((xgA H x0 11 61).bind fun v3 =>
  (xlI .int H v3 (((9 : Int32) * x5) + (x4 - x4 / (9 : Int32) * (9 : Int32)))).bind fun v4 =>
  k8 x0 (x2 * ((v4).toInt64)) (x4 / (9 : Int32)) (x5 + 1) H)
set_option maxRecDepth 20000 in
set_option maxHeartbeats 4000000 in
theorem P_X12_weightOf_J8 {N : Nat} {Z : xZ} {rv : Int64} {Hf : xH} (hZ : Z = xZm cX12_weightOf yX12_weightOf 6 1 (some .long) (some (.long rv)) Hf) {k8 : (Option Nat) → Int64 → Int32 → Int32 → xH → Option (Int64 × xH)} (hk8 : ∀ (x0 : (Option Nat)) (x2 : Int64) (x4 : Int32) (x5 : Int32) (H : xH), k8 x0 x2 x4 x5 H = some (rv, Hf) → xWq Z H 8 [xA x0, xN, xJ x2, xN, xI x4, xI x5] []) : ∀ (x0 : (Option Nat)) (x2 : Int64) (x4 : Int32) (x5 : Int32) (H : xH), F_X12_weightOf_J8 N k8 x0 x2 x4 x5 H = some (rv, Hf) → xWq Z H 8 [xA x0, xN, xJ x2, xN, xI x4, xI x5] [] := by
  have hz : Z.1 = (cX12_weightOf, yX12_weightOf, 6) := by rw [hZ]; rfl
  have hδ : Z.2.1 = 1 := by rw [hZ]; rfl
  intro x0 x2 x4 x5 H h
  unfold F_X12_weightOf_J8 at h
  refine x_iload hz dX12_weightOf_8 rfl ?_
  refine x_aload_n hz dX12_weightOf_10 rfl ?_
  obtain ⟨v1, e_v1, h⟩ := x_bnd h
  refine x_getI hz dX12_weightOf_11 fs_X12_282 e_v1 ?_
  refine x_icmp_ge (t := 50) hz dX12_weightOf_14 (by decide) (fun c2 => ?_) (fun c2 => ?_)
  · replace h := x_ip c2 h
    refine x_lload_n hz dX12_weightOf_50 rfl ?_
    cases h
    exact x_lret hZ dX12_weightOf_51
  · replace h := x_in c2 h
    refine x_lload_n hz dX12_weightOf_17 rfl ?_
    refine x_aload_n hz dX12_weightOf_18 rfl ?_
    obtain ⟨v3, e_v3, h⟩ := x_bnd h
    refine x_getA hz dX12_weightOf_19 fs_X12_118 e_v3 ?_
    refine x_bipush (v := (9 : Int32)) hz dX12_weightOf_22 (by decide) ?_
    refine x_iload hz dX12_weightOf_24 rfl ?_
    refine x_imul hz dX12_weightOf_26 ?_
    refine x_iload hz dX12_weightOf_27 rfl ?_
    refine x_bipush (v := (9 : Int32)) hz dX12_weightOf_29 (by decide) ?_
    refine x_irem hz dX12_weightOf_31 (by decide) ?_
    refine x_iadd hz dX12_weightOf_32 ?_
    obtain ⟨v4, e_v4, h⟩ := x_bnd h
    refine x_iald hz dX12_weightOf_33 e_v4 ?_
    refine x_i2l hz dX12_weightOf_34 ?_
    refine x_lmul hz dX12_weightOf_35 ?_
    refine x_lstore_n (pl' := [xA x0, xN, xJ (x2 * ((v4).toInt64)), xN, xI x4, xI x5]) hz dX12_weightOf_36 (by decide) rfl ?_
    refine x_iload hz dX12_weightOf_37 rfl ?_
    refine x_bipush (v := (9 : Int32)) hz dX12_weightOf_39 (by decide) ?_
    refine x_idiv hz dX12_weightOf_41 (by decide) ?_
    refine x_istore (pl' := [xA x0, xN, xJ (x2 * ((v4).toInt64)), xN, xI (x4 / (9 : Int32)), xI x5]) hz dX12_weightOf_42 (by decide) rfl ?_
    refine x_iinc (w := (x5 + 1)) (pl' := [xA x0, xN, xJ (x2 * ((v4).toInt64)), xN, xI (x4 / (9 : Int32)), xI (x5 + 1)]) hz dX12_weightOf_44 rfl rfl (by decide) rfl ?_
    refine x_goto (t := 8) hz dX12_weightOf_47 (by decide) ?_
    exact x_wk (xwk_c (xwk_n (xwk_c (xwk_n (xwk_c (xwk_c xwk_0)))))) (hk8 x0 (x2 * ((v4).toInt64)) (x4 / (9 : Int32)) (x5 + 1) H h)
noncomputable def F_X12_weightOf_L8 (N : Nat) : Nat → (Option Nat) → Int64 → Int32 → Int32 → xH → Option (Int64 × xH)
  | 0 => fun _ _ _ _ _ => none
  | n + 1 => F_X12_weightOf_J8 N (F_X12_weightOf_L8 N n)
theorem P_X12_weightOf_L8 {N : Nat} {Z : xZ} {rv : Int64} {Hf : xH} (hZ : Z = xZm cX12_weightOf yX12_weightOf 6 1 (some .long) (some (.long rv)) Hf) : ∀ (n : Nat) (x0 : (Option Nat)) (x2 : Int64) (x4 : Int32) (x5 : Int32) (H : xH), F_X12_weightOf_L8 N n x0 x2 x4 x5 H = some (rv, Hf) → xWq Z H 8 [xA x0, xN, xJ x2, xN, xI x4, xI x5] [] := by
  intro n
  induction n with
  | zero => intro _ _ _ _ _ h; cases h
  | succ n ih => exact P_X12_weightOf_J8 hZ ih
noncomputable def F_X12_weightOf (N : Nat) (a0 : (Option Nat)) (a1 : Int32) (H : xH) : Option (Int64 × xH) :=
  (F_X12_weightOf_L8 N N) a0 (1 : Int64) a1 (0 : Int32) H
set_option maxRecDepth 20000 in
set_option maxHeartbeats 4000000 in
theorem P_X12_weightOf {N : Nat} {Z : xZ} {rv : Int64} {Hf : xH} (hZ : Z = xZm cX12_weightOf yX12_weightOf 6 1 (some .long) (some (.long rv)) Hf) : ∀ (a0 : (Option Nat)) (a1 : Int32) (H : xH), F_X12_weightOf N a0 a1 H = some (rv, Hf) → xWq Z H 0 [xA a0, xI a1, xN, xN, xN, xN] [] := by
  have hz : Z.1 = (cX12_weightOf, yX12_weightOf, 6) := by rw [hZ]; rfl
  have hδ : Z.2.1 = 1 := by rw [hZ]; rfl
  intro a0 a1 H h
  unfold F_X12_weightOf at h
  refine x_lconst (v := (1 : Int64)) hz dX12_weightOf_0 (by decide) ?_
  refine x_lstore_n (pl' := [xA a0, xI a1, xJ (1 : Int64), xN, xN, xN]) hz dX12_weightOf_1 (by decide) rfl ?_
  refine x_iload_n hz dX12_weightOf_2 rfl ?_
  refine x_istore (pl' := [xA a0, xI a1, xJ (1 : Int64), xN, xI a1, xN]) hz dX12_weightOf_3 (by decide) rfl ?_
  refine x_iconst (v := (0 : Int32)) hz dX12_weightOf_5 (by decide) ?_
  refine x_istore (pl' := [xA a0, xI a1, xJ (1 : Int64), xN, xI a1, xI (0 : Int32)]) hz dX12_weightOf_6 (by decide) rfl ?_
  exact x_wk (xwk_c (xwk_n (xwk_c (xwk_n (xwk_c (xwk_c xwk_0)))))) ((P_X12_weightOf_L8 hZ N) a0 (1 : Int64) a1 (0 : Int32) H h)
theorem M_X12_weightOf {N : Nat} {a0 : (Option Nat)} {a1 : Int32} {H H1 : xH} {r1 : Int64} (h : F_X12_weightOf N a0 a1 H = some (r1, H1)) : xM yX12_weightOf cX12_weightOf 6 (some .long) 1 [.inr (.inr a0), .inl a1] H (some (.long r1)) H1 :=
  xM_of (by decide +kernel) (xT_tb 1524 (by decide +kernel) (by decide +kernel)) (by simp [xargs, x2]) rfl (P_X12_weightOf rfl a0 a1 H h)
/-! BettingBookModel.divisor(JJ)J -/
noncomputable def F_X12_divisor_J12 (N : Nat) (k12 : Int64 → Int64 → xH → Option (Int64 × xH)) (x4 : Int64) (x6 : Int64) (H : xH) : Option (Int64 × xH) :=
  if (lg_cmp x6 (0 : Int64)) ≤ 0 then (some (x4, H)) else (if x6 = 0 then none else k12 x6 (x4 - x4 / x6 * x6) H)
set_option maxRecDepth 20000 in
set_option maxHeartbeats 4000000 in
theorem P_X12_divisor_J12 {N : Nat} {Z : xZ} {rv : Int64} {Hf : xH} (hZ : Z = xZm cX12_divisor yX12_divisor 10 1 (some .long) (some (.long rv)) Hf) {k12 : Int64 → Int64 → xH → Option (Int64 × xH)} (hk12 : ∀ (x4 : Int64) (x6 : Int64) (H : xH), k12 x4 x6 H = some (rv, Hf) → xWq Z H 12 [xN, xN, xN, xN, xJ x4, xN, xJ x6, xN, xN, xN] []) : ∀ (x4 : Int64) (x6 : Int64) (H : xH), F_X12_divisor_J12 N k12 x4 x6 H = some (rv, Hf) → xWq Z H 12 [xN, xN, xN, xN, xJ x4, xN, xJ x6, xN, xN, xN] [] := by
  have hz : Z.1 = (cX12_divisor, yX12_divisor, 10) := by rw [hZ]; rfl
  have hδ : Z.2.1 = 1 := by rw [hZ]; rfl
  intro x4 x6 H h
  unfold F_X12_divisor_J12 at h
  refine x_lload hz dX12_divisor_12 rfl ?_
  refine x_lconst (v := (0 : Int64)) hz dX12_divisor_14 (by decide) ?_
  refine x_lcmp hz dX12_divisor_15 ?_
  refine x_if_le (t := 37) hz dX12_divisor_16 (by decide) (fun c1 => ?_) (fun c1 => ?_)
  · replace h := x_ip c1 h
    refine x_lload hz dX12_divisor_37 rfl ?_
    cases h
    exact x_lret hZ dX12_divisor_39
  · replace h := x_in c1 h
    refine x_lload hz dX12_divisor_19 rfl ?_
    refine x_lload hz dX12_divisor_21 rfl ?_
    obtain ⟨c2, h⟩ := x_inv0 h
    refine x_lrem hz dX12_divisor_23 c2 ?_
    refine x_lstore (pl' := [xN, xN, xN, xN, xJ x4, xN, xJ x6, xN, xJ (x4 - x4 / x6 * x6), xN]) hz dX12_divisor_24 (by decide) rfl ?_
    refine x_lload hz dX12_divisor_26 rfl ?_
    refine x_lstore (pl' := [xN, xN, xN, xN, xJ x6, xN, xJ x6, xN, xJ (x4 - x4 / x6 * x6), xN]) hz dX12_divisor_28 (by decide) rfl ?_
    refine x_lload hz dX12_divisor_30 rfl ?_
    refine x_lstore (pl' := [xN, xN, xN, xN, xJ x6, xN, xJ (x4 - x4 / x6 * x6), xN, xJ (x4 - x4 / x6 * x6), xN]) hz dX12_divisor_32 (by decide) rfl ?_
    refine x_goto (t := 12) hz dX12_divisor_34 (by decide) ?_
    exact x_wk (xwk_n (xwk_n (xwk_n (xwk_n (xwk_c (xwk_n (xwk_c (xwk_n (xwk_n (xwk_n xwk_0)))))))))) (hk12 x6 (x4 - x4 / x6 * x6) H h)
noncomputable def F_X12_divisor_L12 (N : Nat) : Nat → Int64 → Int64 → xH → Option (Int64 × xH)
  | 0 => fun _ _ _ => none
  | n + 1 => F_X12_divisor_J12 N (F_X12_divisor_L12 N n)
theorem P_X12_divisor_L12 {N : Nat} {Z : xZ} {rv : Int64} {Hf : xH} (hZ : Z = xZm cX12_divisor yX12_divisor 10 1 (some .long) (some (.long rv)) Hf) : ∀ (n : Nat) (x4 : Int64) (x6 : Int64) (H : xH), F_X12_divisor_L12 N n x4 x6 H = some (rv, Hf) → xWq Z H 12 [xN, xN, xN, xN, xJ x4, xN, xJ x6, xN, xN, xN] [] := by
  intro n
  induction n with
  | zero => intro _ _ _ h; cases h
  | succ n ih => exact P_X12_divisor_J12 hZ ih
noncomputable def F_X12_divisor (N : Nat) (a0 : Int64) (a2 : Int64) (H : xH) : Option (Int64 × xH) :=
  (F_X12_divisor_L12 N N) (xabs a0) (xabs a2) H
set_option maxRecDepth 20000 in
set_option maxHeartbeats 4000000 in
theorem P_X12_divisor {N : Nat} {Z : xZ} {rv : Int64} {Hf : xH} (hZ : Z = xZm cX12_divisor yX12_divisor 10 1 (some .long) (some (.long rv)) Hf) : ∀ (a0 : Int64) (a2 : Int64) (H : xH), F_X12_divisor N a0 a2 H = some (rv, Hf) → xWq Z H 0 [xJ a0, xN, xJ a2, xN, xN, xN, xN, xN, xN, xN] [] := by
  have hz : Z.1 = (cX12_divisor, yX12_divisor, 10) := by rw [hZ]; rfl
  have hδ : Z.2.1 = 1 := by rw [hZ]; rfl
  intro a0 a2 H h
  unfold F_X12_divisor at h
  refine x_lload_n hz dX12_divisor_0 rfl ?_
  refine x_mabs (st := []) jm_abs_X12_429 hz (by omega) (by decide) dX12_divisor_1 ?_
  refine x_lstore (pl' := [xJ a0, xN, xJ a2, xN, xJ (xabs a0), xN, xN, xN, xN, xN]) hz dX12_divisor_4 (by decide) rfl ?_
  refine x_lload_n hz dX12_divisor_6 rfl ?_
  refine x_mabs (st := []) jm_abs_X12_429 hz (by omega) (by decide) dX12_divisor_7 ?_
  refine x_lstore (pl' := [xJ a0, xN, xJ a2, xN, xJ (xabs a0), xN, xJ (xabs a2), xN, xN, xN]) hz dX12_divisor_10 (by decide) rfl ?_
  exact x_wk (xwk_n (xwk_n (xwk_n (xwk_n (xwk_c (xwk_n (xwk_c (xwk_n (xwk_n (xwk_n xwk_0)))))))))) ((P_X12_divisor_L12 hZ N) (xabs a0) (xabs a2) H h)
theorem M_X12_divisor {N : Nat} {a0 : Int64} {a2 : Int64} {H H1 : xH} {r1 : Int64} (h : F_X12_divisor N a0 a2 H = some (r1, H1)) : xM yX12_divisor cX12_divisor 10 (some .long) 1 [.inr (.inl a0), .inr (.inl a2)] H (some (.long r1)) H1 :=
  xM_of (by decide +kernel) (xT_tb 1530 (by decide +kernel) (by decide +kernel)) (by simp [xargs, x2]) rfl (P_X12_divisor rfl a0 a2 H h)
/-! BettingBookModel.part(JJI)J -/
noncomputable def F_X12_part_J22 (N : Nat) (x0 : Int64) (x2 : Int64) (s0 : Int64) (H : xH) : Option (Int64 × xH) :=
  x_bd2 (F_X12_divisor N x0 x2 H) fun v2 H1 =>
  if v2 = 0 then none else some ((s0 / v2), H1)
set_option maxRecDepth 20000 in
set_option maxHeartbeats 4000000 in
theorem P_X12_part_J22 {N : Nat} {Z : xZ} {rv : Int64} {Hf : xH} (hZ : Z = xZm cX12_part yX12_part 5 2 (some .long) (some (.long rv)) Hf) : ∀ (x0 : Int64) (x2 : Int64) (s0 : Int64) (H : xH), F_X12_part_J22 N x0 x2 s0 H = some (rv, Hf) → xWq Z H 22 [xJ x0, xN, xJ x2, xN, xN] [.long s0] := by
  have hz : Z.1 = (cX12_part, yX12_part, 5) := by rw [hZ]; rfl
  have hδ : Z.2.1 = 2 := by rw [hZ]; rfl
  intro x0 x2 s0 H h
  unfold F_X12_part_J22 at h
  refine x_lload_n hz dX12_part_22 rfl ?_
  refine x_lload_n hz dX12_part_23 rfl ?_
  obtain ⟨v2, H1, e_H1, h⟩ := x_b2 h
  refine x_callSl (as := [.inr (.inl x0), .inr (.inl x2)]) (st := [.long s0]) cs_X12_435 rfl rfl hz (by omega) (Nat.le_trans (x_sm2 rfl x_sm0) (by decide)) dX12_part_24 (M_X12_divisor e_H1) ?_
  obtain ⟨c3, h⟩ := x_inv0 h
  refine x_ldiv hz dX12_part_27 c3 ?_
  cases h
  exact x_lret hZ dX12_part_28
noncomputable def F_X12_part (N : Nat) (a0 : Int64) (a2 : Int64) (a4 : Int32) (H : xH) : Option (Int64 × xH) :=
  if (lg_cmp a2 (0 : Int64)) = 0 then (some ((-1000000000000000 : Int64), H)) else (if a4 = 0 then ((F_X12_part_J22 N) a0 a2 a0 H) else ((F_X12_part_J22 N) a0 a2 a2 H))
set_option maxRecDepth 20000 in
set_option maxHeartbeats 4000000 in
theorem P_X12_part {N : Nat} {Z : xZ} {rv : Int64} {Hf : xH} (hZ : Z = xZm cX12_part yX12_part 5 2 (some .long) (some (.long rv)) Hf) : ∀ (a0 : Int64) (a2 : Int64) (a4 : Int32) (H : xH), F_X12_part N a0 a2 a4 H = some (rv, Hf) → xWq Z H 0 [xJ a0, xN, xJ a2, xN, xI a4] [] := by
  have hz : Z.1 = (cX12_part, yX12_part, 5) := by rw [hZ]; rfl
  have hδ : Z.2.1 = 2 := by rw [hZ]; rfl
  intro a0 a2 a4 H h
  unfold F_X12_part at h
  refine x_lload_n hz dX12_part_0 rfl ?_
  refine x_lconst (v := (0 : Int64)) hz dX12_part_1 (by decide) ?_
  refine x_lcmp hz dX12_part_2 ?_
  refine x_if_ne (t := 12) hz dX12_part_3 (by decide) (fun c1 => ?_) (fun c1 => ?_)
  · replace h := x_in c1 h
    refine x_iload hz dX12_part_12 rfl ?_
    refine x_if_ne (t := 21) hz dX12_part_14 (by decide) (fun c2 => ?_) (fun c2 => ?_)
    · replace h := x_in c2 h
      refine x_lload_n hz dX12_part_21 rfl ?_
      exact x_wk (xwk_c (xwk_n (xwk_c (xwk_n (xwk_n xwk_0))))) ((P_X12_part_J22 hZ) a0 a2 a2 H h)
    · replace h := x_ip c2 h
      refine x_lload_n hz dX12_part_17 rfl ?_
      refine x_goto (t := 22) hz dX12_part_18 (by decide) ?_
      exact x_wk (xwk_c (xwk_n (xwk_c (xwk_n (xwk_n xwk_0))))) ((P_X12_part_J22 hZ) a0 a2 a0 H h)
  · replace h := x_ip c1 h
    refine x_ldc2 (v := (-1000000000000000 : Int64)) hz dX12_part_6 wc_X12_433 ?_
    refine x_goto (t := 28) hz dX12_part_9 (by decide) ?_
    cases h
    exact x_lret hZ dX12_part_28
theorem M_X12_part {N : Nat} {a0 : Int64} {a2 : Int64} {a4 : Int32} {H H1 : xH} {r1 : Int64} (h : F_X12_part N a0 a2 a4 H = some (r1, H1)) : xM yX12_part cX12_part 5 (some .long) 2 [.inr (.inl a0), .inr (.inl a2), .inl a4] H (some (.long r1)) H1 :=
  xM_of (by decide +kernel) (xT_tb 1527 (by decide +kernel) (by decide +kernel)) (by simp [xargs, x2]) rfl (P_X12_part rfl a0 a2 a4 H h)
/-! BettingBookModel.worth(II)J -/
noncomputable def F_X12_worth_J86 (N : Nat) (k36 : (Option Nat) → Int32 → Int32 → Int64 → Int64 → Int32 → xH → Option (Int64 × xH)) (x0 : (Option Nat)) (x1 : Int32) (x2 : Int32) (x3 : Int64) (x5 : Int64) (x7 : Int32) (H : xH) : Option (Int64 × xH) :=
  k36 x0 x1 x2 x3 x5 (x7 + 1) H
set_option maxRecDepth 20000 in
set_option maxHeartbeats 4000000 in
theorem P_X12_worth_J86 {N : Nat} {Z : xZ} {rv : Int64} {Hf : xH} (hZ : Z = xZm cX12_worth yX12_worth 10 3 (some .long) (some (.long rv)) Hf) {k36 : (Option Nat) → Int32 → Int32 → Int64 → Int64 → Int32 → xH → Option (Int64 × xH)} (hk36 : ∀ (x0 : (Option Nat)) (x1 : Int32) (x2 : Int32) (x3 : Int64) (x5 : Int64) (x7 : Int32) (H : xH), k36 x0 x1 x2 x3 x5 x7 H = some (rv, Hf) → xWq Z H 36 [xA x0, xI x1, xI x2, xJ x3, xN, xJ x5, xN, xI x7, xN, xN] []) : ∀ (x0 : (Option Nat)) (x1 : Int32) (x2 : Int32) (x3 : Int64) (x5 : Int64) (x7 : Int32) (H : xH), F_X12_worth_J86 N k36 x0 x1 x2 x3 x5 x7 H = some (rv, Hf) → xWq Z H 86 [xA x0, xI x1, xI x2, xJ x3, xN, xJ x5, xN, xI x7, xN, xN] [] := by
  have hz : Z.1 = (cX12_worth, yX12_worth, 10) := by rw [hZ]; rfl
  have hδ : Z.2.1 = 3 := by rw [hZ]; rfl
  intro x0 x1 x2 x3 x5 x7 H h
  unfold F_X12_worth_J86 at h
  refine x_iinc (w := (x7 + 1)) (pl' := [xA x0, xI x1, xI x2, xJ x3, xN, xJ x5, xN, xI (x7 + 1), xN, xN]) hz dX12_worth_86 rfl rfl (by decide) rfl ?_
  refine x_goto (t := 36) hz dX12_worth_89 (by decide) ?_
  exact x_wk (xwk_c (xwk_c (xwk_c (xwk_c (xwk_n (xwk_c (xwk_n (xwk_c (xwk_n (xwk_n xwk_0)))))))))) (hk36 x0 x1 x2 x3 x5 (x7 + 1) H h)
noncomputable def F_X12_worth_J36 (N : Nat) (k36 : (Option Nat) → Int32 → Int32 → Int64 → Int64 → Int32 → xH → Option (Int64 × xH)) (k92 : Int32 → Int64 → Int64 → xH → Option (Int64 × xH)) (x0 : (Option Nat)) (x1 : Int32) (x2 : Int32) (x3 : Int64) (x5 : Int64) (x7 : Int32) (H : xH) : Option (Int64 × xH) :=
  (xgI H x0 11 41).bind fun v1 =>
  if v1 ≤ x7 then (k92 x2 x3 x5 H) else ((xob H x0 11).bind fun b4 =>
  x_bd2 (F_X12_isLeft N x0 x7 H) fun v5 H3 =>
  if v5 = 0 then ((F_X12_worth_J86 N k36) x0 x1 x2 x3 x5 x7 H3) else ((xob H3 x0 11).bind fun b8 =>
  x_bd2 (F_X12_weightOf N x0 x7 H3) fun v9 H7 =>
  (xob H7 x0 11).bind fun b11 =>
  x_bd2 (F_X12_paysAt N x0 x1 x7 H7) fun v12 H10 =>
  (F_X12_worth_J86 N k36) x0 x1 x2 (x3 + (v9 * ((v12).toInt64))) (x5 + v9) x7 H10))
set_option maxRecDepth 20000 in
set_option maxHeartbeats 4000000 in
theorem P_X12_worth_J36 {N : Nat} {Z : xZ} {rv : Int64} {Hf : xH} (hZ : Z = xZm cX12_worth yX12_worth 10 3 (some .long) (some (.long rv)) Hf) {k36 : (Option Nat) → Int32 → Int32 → Int64 → Int64 → Int32 → xH → Option (Int64 × xH)} (hk36 : ∀ (x0 : (Option Nat)) (x1 : Int32) (x2 : Int32) (x3 : Int64) (x5 : Int64) (x7 : Int32) (H : xH), k36 x0 x1 x2 x3 x5 x7 H = some (rv, Hf) → xWq Z H 36 [xA x0, xI x1, xI x2, xJ x3, xN, xJ x5, xN, xI x7, xN, xN] []) {k92 : Int32 → Int64 → Int64 → xH → Option (Int64 × xH)} (hk92 : ∀ (x2 : Int32) (x3 : Int64) (x5 : Int64) (H : xH), k92 x2 x3 x5 H = some (rv, Hf) → xWq Z H 92 [xN, xN, xI x2, xJ x3, xN, xJ x5, xN, xN, xN, xN] []) : ∀ (x0 : (Option Nat)) (x1 : Int32) (x2 : Int32) (x3 : Int64) (x5 : Int64) (x7 : Int32) (H : xH), F_X12_worth_J36 N k36 k92 x0 x1 x2 x3 x5 x7 H = some (rv, Hf) → xWq Z H 36 [xA x0, xI x1, xI x2, xJ x3, xN, xJ x5, xN, xI x7, xN, xN] [] := by
  have hz : Z.1 = (cX12_worth, yX12_worth, 10) := by rw [hZ]; rfl
  have hδ : Z.2.1 = 3 := by rw [hZ]; rfl
  intro x0 x1 x2 x3 x5 x7 H h
  unfold F_X12_worth_J36 at h
  refine x_iload hz dX12_worth_36 rfl ?_
  refine x_aload_n hz dX12_worth_38 rfl ?_
  obtain ⟨v1, e_v1, h⟩ := x_bnd h
  refine x_getI hz dX12_worth_39 fs_X12_329 e_v1 ?_
  refine x_icmp_ge (t := 92) hz dX12_worth_42 (by decide) (fun c2 => ?_) (fun c2 => ?_)
  · replace h := x_ip c2 h
    exact x_wk (xwk_n (xwk_n (xwk_c (xwk_c (xwk_n (xwk_c (xwk_n (xwk_n (xwk_n (xwk_n xwk_0)))))))))) (hk92 x2 x3 x5 H h)
  · replace h := x_in c2 h
    refine x_aload_n hz dX12_worth_45 rfl ?_
    refine x_iload hz dX12_worth_46 rfl ?_
    obtain ⟨b4, e_b4, h⟩ := x_bnd h
    obtain ⟨v5, H3, e_H3, h⟩ := x_b2 h
    refine x_callVi (as := [.inl x7]) (st := []) cs_X12_348 (ci := 11) ⟨rfl, rfl⟩ rfl rfl hz (by omega) (by decide) dX12_worth_48 e_b4 (M_X12_isLeft e_H3) ?_
    refine x_if_ne (t := 57) hz dX12_worth_51 (by decide) (fun c6 => ?_) (fun c6 => ?_)
    · replace h := x_in c6 h
      refine x_aload_n hz dX12_worth_57 rfl ?_
      refine x_iload hz dX12_worth_58 rfl ?_
      obtain ⟨b8, e_b8, h⟩ := x_bnd h
      obtain ⟨v9, H7, e_H7, h⟩ := x_b2 h
      refine x_callVl (as := [.inl x7]) (st := []) cs_X12_442 (ci := 11) ⟨rfl, rfl⟩ rfl rfl hz (by omega) (by decide) dX12_worth_60 e_b8 (M_X12_weightOf e_H7) ?_
      refine x_lstore (pl' := [xA x0, xI x1, xI x2, xJ x3, xN, xJ x5, xN, xI x7, xJ v9, xN]) hz dX12_worth_63 (by decide) rfl ?_
      refine x_lload_n hz dX12_worth_65 rfl ?_
      refine x_lload hz dX12_worth_66 rfl ?_
      refine x_aload_n hz dX12_worth_68 rfl ?_
      refine x_iload_n hz dX12_worth_69 rfl ?_
      refine x_iload hz dX12_worth_70 rfl ?_
      obtain ⟨b11, e_b11, h⟩ := x_bnd h
      obtain ⟨v12, H10, e_H10, h⟩ := x_b2 h
      refine x_callVi (as := [.inl x1, .inl x7]) (st := [.long v9, .long x3]) cs_X12_364 (ci := 11) ⟨rfl, rfl⟩ rfl rfl hz (by omega) (Nat.le_trans (x_sm2 rfl (x_sm2 rfl x_sm0)) (by decide)) dX12_worth_72 e_b11 (M_X12_paysAt e_H10) ?_
      refine x_i2l hz dX12_worth_75 ?_
      refine x_lmul hz dX12_worth_76 ?_
      refine x_ladd hz dX12_worth_77 ?_
      refine x_lstore_n (pl' := [xA x0, xI x1, xI x2, xJ (x3 + (v9 * ((v12).toInt64))), xN, xJ x5, xN, xI x7, xJ v9, xN]) hz dX12_worth_78 (by decide) rfl ?_
      refine x_lload hz dX12_worth_79 rfl ?_
      refine x_lload hz dX12_worth_81 rfl ?_
      refine x_ladd hz dX12_worth_83 ?_
      refine x_lstore (pl' := [xA x0, xI x1, xI x2, xJ (x3 + (v9 * ((v12).toInt64))), xN, xJ (x5 + v9), xN, xI x7, xJ v9, xN]) hz dX12_worth_84 (by decide) rfl ?_
      exact x_wk (xwk_c (xwk_c (xwk_c (xwk_c (xwk_n (xwk_c (xwk_n (xwk_c (xwk_n (xwk_n xwk_0)))))))))) ((P_X12_worth_J86 hZ hk36) x0 x1 x2 (x3 + (v9 * ((v12).toInt64))) (x5 + v9) x7 H10 h)
    · replace h := x_ip c6 h
      refine x_goto (t := 86) hz dX12_worth_54 (by decide) ?_
      exact x_wk (xwk_c (xwk_c (xwk_c (xwk_c (xwk_n (xwk_c (xwk_n (xwk_c (xwk_n (xwk_n xwk_0)))))))))) ((P_X12_worth_J86 hZ hk36) x0 x1 x2 x3 x5 x7 H3 h)
noncomputable def F_X12_worth_L36 (N : Nat) (k92 : Int32 → Int64 → Int64 → xH → Option (Int64 × xH)) : Nat → (Option Nat) → Int32 → Int32 → Int64 → Int64 → Int32 → xH → Option (Int64 × xH)
  | 0 => fun _ _ _ _ _ _ _ => none
  | n + 1 => F_X12_worth_J36 N (F_X12_worth_L36 N k92 n) k92
theorem P_X12_worth_L36 {N : Nat} {Z : xZ} {rv : Int64} {Hf : xH} (hZ : Z = xZm cX12_worth yX12_worth 10 3 (some .long) (some (.long rv)) Hf) {k92 : Int32 → Int64 → Int64 → xH → Option (Int64 × xH)} (hk92 : ∀ (x2 : Int32) (x3 : Int64) (x5 : Int64) (H : xH), k92 x2 x3 x5 H = some (rv, Hf) → xWq Z H 92 [xN, xN, xI x2, xJ x3, xN, xJ x5, xN, xN, xN, xN] []) : ∀ (n : Nat) (x0 : (Option Nat)) (x1 : Int32) (x2 : Int32) (x3 : Int64) (x5 : Int64) (x7 : Int32) (H : xH), F_X12_worth_L36 N k92 n x0 x1 x2 x3 x5 x7 H = some (rv, Hf) → xWq Z H 36 [xA x0, xI x1, xI x2, xJ x3, xN, xJ x5, xN, xI x7, xN, xN] [] := by
  intro n
  induction n with
  | zero => intro _ _ _ _ _ _ _ h; cases h
  | succ n ih => exact P_X12_worth_J36 hZ ih hk92
noncomputable def F_X12_worth_J92 (N : Nat) (x2 : Int32) (x3 : Int64) (x5 : Int64) (H : xH) : Option (Int64 × xH) :=
  x_bd2 (F_X12_part N x3 x5 x2 H) fun v2 H1 =>
  some (v2, H1)
set_option maxRecDepth 20000 in
set_option maxHeartbeats 4000000 in
theorem P_X12_worth_J92 {N : Nat} {Z : xZ} {rv : Int64} {Hf : xH} (hZ : Z = xZm cX12_worth yX12_worth 10 3 (some .long) (some (.long rv)) Hf) : ∀ (x2 : Int32) (x3 : Int64) (x5 : Int64) (H : xH), F_X12_worth_J92 N x2 x3 x5 H = some (rv, Hf) → xWq Z H 92 [xN, xN, xI x2, xJ x3, xN, xJ x5, xN, xN, xN, xN] [] := by
  have hz : Z.1 = (cX12_worth, yX12_worth, 10) := by rw [hZ]; rfl
  have hδ : Z.2.1 = 3 := by rw [hZ]; rfl
  intro x2 x3 x5 H h
  unfold F_X12_worth_J92 at h
  refine x_lload_n hz dX12_worth_92 rfl ?_
  refine x_lload hz dX12_worth_93 rfl ?_
  refine x_iload_n hz dX12_worth_95 rfl ?_
  obtain ⟨v2, H1, e_H1, h⟩ := x_b2 h
  refine x_callSl (as := [.inr (.inl x3), .inr (.inl x5), .inl x2]) (st := []) cs_X12_446 rfl rfl hz (by omega) (by decide) dX12_worth_96 (M_X12_part e_H1) ?_
  cases h
  exact x_lret hZ dX12_worth_99
noncomputable def F_X12_worth (N : Nat) (a0 : (Option Nat)) (a1 : Int32) (a2 : Int32) (H : xH) : Option (Int64 × xH) :=
  (xob H a0 11).bind fun b2 =>
  x_bd2 (F_X12_isWager N a0 a1 H) fun v3 H1 =>
  if v3 = 0 then (some ((-1000000000000000 : Int64), H1)) else (x_bd2 (F_X12_isIn N a2 (0 : Int32) (1 : Int32) H1) fun v6 H5 =>
  if v6 = 0 then (some ((-1000000000000000 : Int64), H5)) else ((xob H5 a0 11).bind fun b9 =>
  x_bd2 (F_X12_areWhole N a0 H5) fun v10 H8 =>
  if v10 = 0 then (some ((-1000000000000000 : Int64), H8)) else ((F_X12_worth_L36 N (F_X12_worth_J92 N) N) a0 a1 a2 (0 : Int64) (0 : Int64) (0 : Int32) H8)))
set_option maxRecDepth 20000 in
set_option maxHeartbeats 4000000 in
theorem P_X12_worth {N : Nat} {Z : xZ} {rv : Int64} {Hf : xH} (hZ : Z = xZm cX12_worth yX12_worth 10 3 (some .long) (some (.long rv)) Hf) : ∀ (a0 : (Option Nat)) (a1 : Int32) (a2 : Int32) (H : xH), F_X12_worth N a0 a1 a2 H = some (rv, Hf) → xWq Z H 0 [xA a0, xI a1, xI a2, xN, xN, xN, xN, xN, xN, xN] [] := by
  have hz : Z.1 = (cX12_worth, yX12_worth, 10) := by rw [hZ]; rfl
  have hδ : Z.2.1 = 3 := by rw [hZ]; rfl
  intro a0 a1 a2 H h
  unfold F_X12_worth at h
  refine x_aload_n hz dX12_worth_0 rfl ?_
  refine x_iload_n hz dX12_worth_1 rfl ?_
  obtain ⟨b2, e_b2, h⟩ := x_bnd h
  obtain ⟨v3, H1, e_H1, h⟩ := x_b2 h
  refine x_callVi (as := [.inl a1]) (st := []) cs_X12_361 (ci := 11) ⟨rfl, rfl⟩ rfl rfl hz (by omega) (by decide) dX12_worth_2 e_b2 (M_X12_isWager e_H1) ?_
  refine x_if_eq (t := 24) hz dX12_worth_5 (by decide) (fun c4 => ?_) (fun c4 => ?_)
  · replace h := x_ip c4 h
    refine x_ldc2 (v := (-1000000000000000 : Int64)) hz dX12_worth_24 wc_X12_433 ?_
    cases h
    exact x_lret hZ dX12_worth_27
  · replace h := x_in c4 h
    refine x_iload_n hz dX12_worth_8 rfl ?_
    refine x_iconst (v := (0 : Int32)) hz dX12_worth_9 (by decide) ?_
    refine x_iconst (v := (1 : Int32)) hz dX12_worth_10 (by decide) ?_
    obtain ⟨v6, H5, e_H5, h⟩ := x_b2 h
    refine x_callSi (as := [.inl a2, .inl (0 : Int32), .inl (1 : Int32)]) (st := []) cs_X12_153 rfl rfl hz (by omega) (by decide) dX12_worth_11 (M_X12_isIn e_H5) ?_
    refine x_if_eq (t := 24) hz dX12_worth_14 (by decide) (fun c7 => ?_) (fun c7 => ?_)
    · replace h := x_ip c7 h
      refine x_ldc2 (v := (-1000000000000000 : Int64)) hz dX12_worth_24 wc_X12_433 ?_
      cases h
      exact x_lret hZ dX12_worth_27
    · replace h := x_in c7 h
      refine x_aload_n hz dX12_worth_17 rfl ?_
      obtain ⟨b9, e_b9, h⟩ := x_bnd h
      obtain ⟨v10, H8, e_H8, h⟩ := x_b2 h
      refine x_callVi (as := []) (st := []) cs_X12_439 (ci := 11) ⟨rfl, rfl⟩ rfl rfl hz (by omega) (by decide) dX12_worth_18 e_b9 (M_X12_areWhole e_H8) ?_
      refine x_if_ne (t := 28) hz dX12_worth_21 (by decide) (fun c11 => ?_) (fun c11 => ?_)
      · replace h := x_in c11 h
        refine x_lconst (v := (0 : Int64)) hz dX12_worth_28 (by decide) ?_
        refine x_lstore_n (pl' := [xA a0, xI a1, xI a2, xJ (0 : Int64), xN, xN, xN, xN, xN, xN]) hz dX12_worth_29 (by decide) rfl ?_
        refine x_lconst (v := (0 : Int64)) hz dX12_worth_30 (by decide) ?_
        refine x_lstore (pl' := [xA a0, xI a1, xI a2, xJ (0 : Int64), xN, xJ (0 : Int64), xN, xN, xN, xN]) hz dX12_worth_31 (by decide) rfl ?_
        refine x_iconst (v := (0 : Int32)) hz dX12_worth_33 (by decide) ?_
        refine x_istore (pl' := [xA a0, xI a1, xI a2, xJ (0 : Int64), xN, xJ (0 : Int64), xN, xI (0 : Int32), xN, xN]) hz dX12_worth_34 (by decide) rfl ?_
        exact x_wk (xwk_c (xwk_c (xwk_c (xwk_c (xwk_n (xwk_c (xwk_n (xwk_c (xwk_n (xwk_n xwk_0)))))))))) ((P_X12_worth_L36 hZ (P_X12_worth_J92 hZ) N) a0 a1 a2 (0 : Int64) (0 : Int64) (0 : Int32) H8 h)
      · replace h := x_ip c11 h
        refine x_ldc2 (v := (-1000000000000000 : Int64)) hz dX12_worth_24 wc_X12_433 ?_
        cases h
        exact x_lret hZ dX12_worth_27
theorem M_X12_worth {N : Nat} {a0 : (Option Nat)} {a1 : Int32} {a2 : Int32} {H H1 : xH} {r1 : Int64} (h : F_X12_worth N a0 a1 a2 H = some (r1, H1)) : xM yX12_worth cX12_worth 10 (some .long) 3 [.inr (.inr a0), .inl a1, .inl a2] H (some (.long r1)) H1 :=
  xM_of (by decide +kernel) (xT_tb 1515 (by decide +kernel) (by decide +kernel)) (by simp [xargs, x2]) rfl (P_X12_worth rfl a0 a1 a2 H h)
/-! BettingBookModel.holds(II)J -/
noncomputable def F_X12_holds_J93 (N : Nat) (k36 : (Option Nat) → Int32 → Int32 → Int64 → Int64 → Int32 → xH → Option (Int64 × xH)) (x0 : (Option Nat)) (x1 : Int32) (x2 : Int32) (x3 : Int64) (x5 : Int64) (x7 : Int32) (H : xH) : Option (Int64 × xH) :=
  k36 x0 x1 x2 x3 x5 (x7 + 1) H
set_option maxRecDepth 20000 in
set_option maxHeartbeats 4000000 in
theorem P_X12_holds_J93 {N : Nat} {Z : xZ} {rv : Int64} {Hf : xH} (hZ : Z = xZm cX12_holds yX12_holds 10 4 (some .long) (some (.long rv)) Hf) {k36 : (Option Nat) → Int32 → Int32 → Int64 → Int64 → Int32 → xH → Option (Int64 × xH)} (hk36 : ∀ (x0 : (Option Nat)) (x1 : Int32) (x2 : Int32) (x3 : Int64) (x5 : Int64) (x7 : Int32) (H : xH), k36 x0 x1 x2 x3 x5 x7 H = some (rv, Hf) → xWq Z H 36 [xA x0, xI x1, xI x2, xJ x3, xN, xJ x5, xN, xI x7, xN, xN] []) : ∀ (x0 : (Option Nat)) (x1 : Int32) (x2 : Int32) (x3 : Int64) (x5 : Int64) (x7 : Int32) (H : xH), F_X12_holds_J93 N k36 x0 x1 x2 x3 x5 x7 H = some (rv, Hf) → xWq Z H 93 [xA x0, xI x1, xI x2, xJ x3, xN, xJ x5, xN, xI x7, xN, xN] [] := by
  have hz : Z.1 = (cX12_holds, yX12_holds, 10) := by rw [hZ]; rfl
  have hδ : Z.2.1 = 4 := by rw [hZ]; rfl
  intro x0 x1 x2 x3 x5 x7 H h
  unfold F_X12_holds_J93 at h
  refine x_iinc (w := (x7 + 1)) (pl' := [xA x0, xI x1, xI x2, xJ x3, xN, xJ x5, xN, xI (x7 + 1), xN, xN]) hz dX12_holds_93 rfl rfl (by decide) rfl ?_
  refine x_goto (t := 36) hz dX12_holds_96 (by decide) ?_
  exact x_wk (xwk_c (xwk_c (xwk_c (xwk_c (xwk_n (xwk_c (xwk_n (xwk_c (xwk_n (xwk_n xwk_0)))))))))) (hk36 x0 x1 x2 x3 x5 (x7 + 1) H h)
noncomputable def F_X12_holds_J36 (N : Nat) (k36 : (Option Nat) → Int32 → Int32 → Int64 → Int64 → Int32 → xH → Option (Int64 × xH)) (k99 : Int32 → Int64 → Int64 → xH → Option (Int64 × xH)) (x0 : (Option Nat)) (x1 : Int32) (x2 : Int32) (x3 : Int64) (x5 : Int64) (x7 : Int32) (H : xH) : Option (Int64 × xH) :=
  (xgI H x0 11 41).bind fun v1 =>
  if v1 ≤ x7 then (k99 x2 x3 x5 H) else ((xob H x0 11).bind fun b4 =>
  x_bd2 (F_X12_isLeft N x0 x7 H) fun v5 H3 =>
  if v5 = 0 then ((F_X12_holds_J93 N k36) x0 x1 x2 x3 x5 x7 H3) else ((xob H3 x0 11).bind fun b8 =>
  x_bd2 (F_X12_weightOf N x0 x7 H3) fun v9 H7 =>
  (xob H7 x0 11).bind fun b11 =>
  x_bd2 (F_X12_endAtRow N x0 x1 x7 H7) fun v12 H10 =>
  (xgA H10 x0 11 53).bind fun v13 =>
  (xlI .int H10 v13 x1).bind fun v14 =>
  (F_X12_holds_J93 N k36) x0 x1 x2 (x3 + (v9 * (((v12 - v14)).toInt64))) (x5 + v9) x7 H10))
set_option maxRecDepth 20000 in
set_option maxHeartbeats 4000000 in
theorem P_X12_holds_J36 {N : Nat} {Z : xZ} {rv : Int64} {Hf : xH} (hZ : Z = xZm cX12_holds yX12_holds 10 4 (some .long) (some (.long rv)) Hf) {k36 : (Option Nat) → Int32 → Int32 → Int64 → Int64 → Int32 → xH → Option (Int64 × xH)} (hk36 : ∀ (x0 : (Option Nat)) (x1 : Int32) (x2 : Int32) (x3 : Int64) (x5 : Int64) (x7 : Int32) (H : xH), k36 x0 x1 x2 x3 x5 x7 H = some (rv, Hf) → xWq Z H 36 [xA x0, xI x1, xI x2, xJ x3, xN, xJ x5, xN, xI x7, xN, xN] []) {k99 : Int32 → Int64 → Int64 → xH → Option (Int64 × xH)} (hk99 : ∀ (x2 : Int32) (x3 : Int64) (x5 : Int64) (H : xH), k99 x2 x3 x5 H = some (rv, Hf) → xWq Z H 99 [xN, xN, xI x2, xJ x3, xN, xJ x5, xN, xN, xN, xN] []) : ∀ (x0 : (Option Nat)) (x1 : Int32) (x2 : Int32) (x3 : Int64) (x5 : Int64) (x7 : Int32) (H : xH), F_X12_holds_J36 N k36 k99 x0 x1 x2 x3 x5 x7 H = some (rv, Hf) → xWq Z H 36 [xA x0, xI x1, xI x2, xJ x3, xN, xJ x5, xN, xI x7, xN, xN] [] := by
  have hz : Z.1 = (cX12_holds, yX12_holds, 10) := by rw [hZ]; rfl
  have hδ : Z.2.1 = 4 := by rw [hZ]; rfl
  intro x0 x1 x2 x3 x5 x7 H h
  unfold F_X12_holds_J36 at h
  refine x_iload hz dX12_holds_36 rfl ?_
  refine x_aload_n hz dX12_holds_38 rfl ?_
  obtain ⟨v1, e_v1, h⟩ := x_bnd h
  refine x_getI hz dX12_holds_39 fs_X12_329 e_v1 ?_
  refine x_icmp_ge (t := 99) hz dX12_holds_42 (by decide) (fun c2 => ?_) (fun c2 => ?_)
  · replace h := x_ip c2 h
    exact x_wk (xwk_n (xwk_n (xwk_c (xwk_c (xwk_n (xwk_c (xwk_n (xwk_n (xwk_n (xwk_n xwk_0)))))))))) (hk99 x2 x3 x5 H h)
  · replace h := x_in c2 h
    refine x_aload_n hz dX12_holds_45 rfl ?_
    refine x_iload hz dX12_holds_46 rfl ?_
    obtain ⟨b4, e_b4, h⟩ := x_bnd h
    obtain ⟨v5, H3, e_H3, h⟩ := x_b2 h
    refine x_callVi (as := [.inl x7]) (st := []) cs_X12_348 (ci := 11) ⟨rfl, rfl⟩ rfl rfl hz (by omega) (by decide) dX12_holds_48 e_b4 (M_X12_isLeft e_H3) ?_
    refine x_if_ne (t := 57) hz dX12_holds_51 (by decide) (fun c6 => ?_) (fun c6 => ?_)
    · replace h := x_in c6 h
      refine x_aload_n hz dX12_holds_57 rfl ?_
      refine x_iload hz dX12_holds_58 rfl ?_
      obtain ⟨b8, e_b8, h⟩ := x_bnd h
      obtain ⟨v9, H7, e_H7, h⟩ := x_b2 h
      refine x_callVl (as := [.inl x7]) (st := []) cs_X12_442 (ci := 11) ⟨rfl, rfl⟩ rfl rfl hz (by omega) (by decide) dX12_holds_60 e_b8 (M_X12_weightOf e_H7) ?_
      refine x_lstore (pl' := [xA x0, xI x1, xI x2, xJ x3, xN, xJ x5, xN, xI x7, xJ v9, xN]) hz dX12_holds_63 (by decide) rfl ?_
      refine x_lload_n hz dX12_holds_65 rfl ?_
      refine x_lload hz dX12_holds_66 rfl ?_
      refine x_aload_n hz dX12_holds_68 rfl ?_
      refine x_iload_n hz dX12_holds_69 rfl ?_
      refine x_iload hz dX12_holds_70 rfl ?_
      obtain ⟨b11, e_b11, h⟩ := x_bnd h
      obtain ⟨v12, H10, e_H10, h⟩ := x_b2 h
      refine x_callVi (as := [.inl x1, .inl x7]) (st := [.long v9, .long x3]) cs_X12_399 (ci := 11) ⟨rfl, rfl⟩ rfl rfl hz (by omega) (Nat.le_trans (x_sm2 rfl (x_sm2 rfl x_sm0)) (by decide)) dX12_holds_72 e_b11 (M_X12_endAtRow e_H10) ?_
      refine x_aload_n hz dX12_holds_75 rfl ?_
      obtain ⟨v13, e_v13, h⟩ := x_bnd h
      refine x_getA hz dX12_holds_76 fs_X12_103 e_v13 ?_
      refine x_iload_n hz dX12_holds_79 rfl ?_
      obtain ⟨v14, e_v14, h⟩ := x_bnd h
      refine x_iald hz dX12_holds_80 e_v14 ?_
      refine x_isub hz dX12_holds_81 ?_
      refine x_i2l hz dX12_holds_82 ?_
      refine x_lmul hz dX12_holds_83 ?_
      refine x_ladd hz dX12_holds_84 ?_
      refine x_lstore_n (pl' := [xA x0, xI x1, xI x2, xJ (x3 + (v9 * (((v12 - v14)).toInt64))), xN, xJ x5, xN, xI x7, xJ v9, xN]) hz dX12_holds_85 (by decide) rfl ?_
      refine x_lload hz dX12_holds_86 rfl ?_
      refine x_lload hz dX12_holds_88 rfl ?_
      refine x_ladd hz dX12_holds_90 ?_
      refine x_lstore (pl' := [xA x0, xI x1, xI x2, xJ (x3 + (v9 * (((v12 - v14)).toInt64))), xN, xJ (x5 + v9), xN, xI x7, xJ v9, xN]) hz dX12_holds_91 (by decide) rfl ?_
      exact x_wk (xwk_c (xwk_c (xwk_c (xwk_c (xwk_n (xwk_c (xwk_n (xwk_c (xwk_n (xwk_n xwk_0)))))))))) ((P_X12_holds_J93 hZ hk36) x0 x1 x2 (x3 + (v9 * (((v12 - v14)).toInt64))) (x5 + v9) x7 H10 h)
    · replace h := x_ip c6 h
      refine x_goto (t := 93) hz dX12_holds_54 (by decide) ?_
      exact x_wk (xwk_c (xwk_c (xwk_c (xwk_c (xwk_n (xwk_c (xwk_n (xwk_c (xwk_n (xwk_n xwk_0)))))))))) ((P_X12_holds_J93 hZ hk36) x0 x1 x2 x3 x5 x7 H3 h)
noncomputable def F_X12_holds_L36 (N : Nat) (k99 : Int32 → Int64 → Int64 → xH → Option (Int64 × xH)) : Nat → (Option Nat) → Int32 → Int32 → Int64 → Int64 → Int32 → xH → Option (Int64 × xH)
  | 0 => fun _ _ _ _ _ _ _ => none
  | n + 1 => F_X12_holds_J36 N (F_X12_holds_L36 N k99 n) k99
theorem P_X12_holds_L36 {N : Nat} {Z : xZ} {rv : Int64} {Hf : xH} (hZ : Z = xZm cX12_holds yX12_holds 10 4 (some .long) (some (.long rv)) Hf) {k99 : Int32 → Int64 → Int64 → xH → Option (Int64 × xH)} (hk99 : ∀ (x2 : Int32) (x3 : Int64) (x5 : Int64) (H : xH), k99 x2 x3 x5 H = some (rv, Hf) → xWq Z H 99 [xN, xN, xI x2, xJ x3, xN, xJ x5, xN, xN, xN, xN] []) : ∀ (n : Nat) (x0 : (Option Nat)) (x1 : Int32) (x2 : Int32) (x3 : Int64) (x5 : Int64) (x7 : Int32) (H : xH), F_X12_holds_L36 N k99 n x0 x1 x2 x3 x5 x7 H = some (rv, Hf) → xWq Z H 36 [xA x0, xI x1, xI x2, xJ x3, xN, xJ x5, xN, xI x7, xN, xN] [] := by
  intro n
  induction n with
  | zero => intro _ _ _ _ _ _ _ h; cases h
  | succ n ih => exact P_X12_holds_J36 hZ ih hk99
noncomputable def F_X12_holds_J99 (N : Nat) (x2 : Int32) (x3 : Int64) (x5 : Int64) (H : xH) : Option (Int64 × xH) :=
  x_bd2 (F_X12_part N x3 x5 x2 H) fun v2 H1 =>
  some (v2, H1)
set_option maxRecDepth 20000 in
set_option maxHeartbeats 4000000 in
theorem P_X12_holds_J99 {N : Nat} {Z : xZ} {rv : Int64} {Hf : xH} (hZ : Z = xZm cX12_holds yX12_holds 10 4 (some .long) (some (.long rv)) Hf) : ∀ (x2 : Int32) (x3 : Int64) (x5 : Int64) (H : xH), F_X12_holds_J99 N x2 x3 x5 H = some (rv, Hf) → xWq Z H 99 [xN, xN, xI x2, xJ x3, xN, xJ x5, xN, xN, xN, xN] [] := by
  have hz : Z.1 = (cX12_holds, yX12_holds, 10) := by rw [hZ]; rfl
  have hδ : Z.2.1 = 4 := by rw [hZ]; rfl
  intro x2 x3 x5 H h
  unfold F_X12_holds_J99 at h
  refine x_lload_n hz dX12_holds_99 rfl ?_
  refine x_lload hz dX12_holds_100 rfl ?_
  refine x_iload_n hz dX12_holds_102 rfl ?_
  obtain ⟨v2, H1, e_H1, h⟩ := x_b2 h
  refine x_callSl (as := [.inr (.inl x3), .inr (.inl x5), .inl x2]) (st := []) cs_X12_446 rfl rfl hz (by omega) (by decide) dX12_holds_103 (M_X12_part e_H1) ?_
  cases h
  exact x_lret hZ dX12_holds_106
noncomputable def F_X12_holds (N : Nat) (a0 : (Option Nat)) (a1 : Int32) (a2 : Int32) (H : xH) : Option (Int64 × xH) :=
  (xob H a0 11).bind fun b2 =>
  x_bd2 (F_X12_isMember N a0 a1 H) fun v3 H1 =>
  if v3 = 0 then (some ((-1000000000000000 : Int64), H1)) else (x_bd2 (F_X12_isIn N a2 (0 : Int32) (1 : Int32) H1) fun v6 H5 =>
  if v6 = 0 then (some ((-1000000000000000 : Int64), H5)) else ((xob H5 a0 11).bind fun b9 =>
  x_bd2 (F_X12_areWhole N a0 H5) fun v10 H8 =>
  if v10 = 0 then (some ((-1000000000000000 : Int64), H8)) else ((F_X12_holds_L36 N (F_X12_holds_J99 N) N) a0 a1 a2 (0 : Int64) (0 : Int64) (0 : Int32) H8)))
set_option maxRecDepth 20000 in
set_option maxHeartbeats 4000000 in
theorem P_X12_holds {N : Nat} {Z : xZ} {rv : Int64} {Hf : xH} (hZ : Z = xZm cX12_holds yX12_holds 10 4 (some .long) (some (.long rv)) Hf) : ∀ (a0 : (Option Nat)) (a1 : Int32) (a2 : Int32) (H : xH), F_X12_holds N a0 a1 a2 H = some (rv, Hf) → xWq Z H 0 [xA a0, xI a1, xI a2, xN, xN, xN, xN, xN, xN, xN] [] := by
  have hz : Z.1 = (cX12_holds, yX12_holds, 10) := by rw [hZ]; rfl
  have hδ : Z.2.1 = 4 := by rw [hZ]; rfl
  intro a0 a1 a2 H h
  unfold F_X12_holds at h
  refine x_aload_n hz dX12_holds_0 rfl ?_
  refine x_iload_n hz dX12_holds_1 rfl ?_
  obtain ⟨b2, e_b2, h⟩ := x_bnd h
  obtain ⟨v3, H1, e_H1, h⟩ := x_b2 h
  refine x_callVi (as := [.inl a1]) (st := []) cs_X12_390 (ci := 11) ⟨rfl, rfl⟩ rfl rfl hz (by omega) (by decide) dX12_holds_2 e_b2 (M_X12_isMember e_H1) ?_
  refine x_if_eq (t := 24) hz dX12_holds_5 (by decide) (fun c4 => ?_) (fun c4 => ?_)
  · replace h := x_ip c4 h
    refine x_ldc2 (v := (-1000000000000000 : Int64)) hz dX12_holds_24 wc_X12_433 ?_
    cases h
    exact x_lret hZ dX12_holds_27
  · replace h := x_in c4 h
    refine x_iload_n hz dX12_holds_8 rfl ?_
    refine x_iconst (v := (0 : Int32)) hz dX12_holds_9 (by decide) ?_
    refine x_iconst (v := (1 : Int32)) hz dX12_holds_10 (by decide) ?_
    obtain ⟨v6, H5, e_H5, h⟩ := x_b2 h
    refine x_callSi (as := [.inl a2, .inl (0 : Int32), .inl (1 : Int32)]) (st := []) cs_X12_153 rfl rfl hz (by omega) (by decide) dX12_holds_11 (M_X12_isIn e_H5) ?_
    refine x_if_eq (t := 24) hz dX12_holds_14 (by decide) (fun c7 => ?_) (fun c7 => ?_)
    · replace h := x_ip c7 h
      refine x_ldc2 (v := (-1000000000000000 : Int64)) hz dX12_holds_24 wc_X12_433 ?_
      cases h
      exact x_lret hZ dX12_holds_27
    · replace h := x_in c7 h
      refine x_aload_n hz dX12_holds_17 rfl ?_
      obtain ⟨b9, e_b9, h⟩ := x_bnd h
      obtain ⟨v10, H8, e_H8, h⟩ := x_b2 h
      refine x_callVi (as := []) (st := []) cs_X12_439 (ci := 11) ⟨rfl, rfl⟩ rfl rfl hz (by omega) (by decide) dX12_holds_18 e_b9 (M_X12_areWhole e_H8) ?_
      refine x_if_ne (t := 28) hz dX12_holds_21 (by decide) (fun c11 => ?_) (fun c11 => ?_)
      · replace h := x_in c11 h
        refine x_lconst (v := (0 : Int64)) hz dX12_holds_28 (by decide) ?_
        refine x_lstore_n (pl' := [xA a0, xI a1, xI a2, xJ (0 : Int64), xN, xN, xN, xN, xN, xN]) hz dX12_holds_29 (by decide) rfl ?_
        refine x_lconst (v := (0 : Int64)) hz dX12_holds_30 (by decide) ?_
        refine x_lstore (pl' := [xA a0, xI a1, xI a2, xJ (0 : Int64), xN, xJ (0 : Int64), xN, xN, xN, xN]) hz dX12_holds_31 (by decide) rfl ?_
        refine x_iconst (v := (0 : Int32)) hz dX12_holds_33 (by decide) ?_
        refine x_istore (pl' := [xA a0, xI a1, xI a2, xJ (0 : Int64), xN, xJ (0 : Int64), xN, xI (0 : Int32), xN, xN]) hz dX12_holds_34 (by decide) rfl ?_
        exact x_wk (xwk_c (xwk_c (xwk_c (xwk_c (xwk_n (xwk_c (xwk_n (xwk_c (xwk_n (xwk_n xwk_0)))))))))) ((P_X12_holds_L36 hZ (P_X12_holds_J99 hZ) N) a0 a1 a2 (0 : Int64) (0 : Int64) (0 : Int32) H8 h)
      · replace h := x_ip c11 h
        refine x_ldc2 (v := (-1000000000000000 : Int64)) hz dX12_holds_24 wc_X12_433 ?_
        cases h
        exact x_lret hZ dX12_holds_27
theorem M_X12_holds {N : Nat} {a0 : (Option Nat)} {a1 : Int32} {a2 : Int32} {H H1 : xH} {r1 : Int64} (h : F_X12_holds N a0 a1 a2 H = some (r1, H1)) : xM yX12_holds cX12_holds 10 (some .long) 4 [.inr (.inr a0), .inl a1, .inl a2] H (some (.long r1)) H1 :=
  xM_of (by decide +kernel) (xT_tb 1535 (by decide +kernel) (by decide +kernel)) (by simp [xargs, x2]) rfl (P_X12_holds rfl a0 a1 a2 H h)
/-! BettingBookModel.possibleMany()I -/
noncomputable def F_X12_possibleMany_J4 (N : Nat) (k4 : (Option Nat) → Int32 → Int32 → xH → Option (Int32 × xH)) (x0 : (Option Nat)) (x1 : Int32) (x2 : Int32) (H : xH) : Option (Int32 × xH) :=
  (xgI H x0 11 41).bind fun v1 =>
  if v1 ≤ x2 then (some (x1, H)) else ((xob H x0 11).bind fun b4 =>
  x_bd2 (F_X12_isPossible N x0 x2 H) fun v5 H3 =>
  x_bd2 (F_X12_unit N v5 H3) fun v7 H6 =>
  k4 x0 (x1 + v7) (x2 + 1) H6)
set_option maxRecDepth 20000 in
set_option maxHeartbeats 4000000 in
theorem P_X12_possibleMany_J4 {N : Nat} {Z : xZ} {rv : Int32} {Hf : xH} (hZ : Z = xZm cX12_possibleMany yX12_possibleMany 3 2 (some .int) (some (.int rv)) Hf) {k4 : (Option Nat) → Int32 → Int32 → xH → Option (Int32 × xH)} (hk4 : ∀ (x0 : (Option Nat)) (x1 : Int32) (x2 : Int32) (H : xH), k4 x0 x1 x2 H = some (rv, Hf) → xWq Z H 4 [xA x0, xI x1, xI x2] []) : ∀ (x0 : (Option Nat)) (x1 : Int32) (x2 : Int32) (H : xH), F_X12_possibleMany_J4 N k4 x0 x1 x2 H = some (rv, Hf) → xWq Z H 4 [xA x0, xI x1, xI x2] [] := by
  have hz : Z.1 = (cX12_possibleMany, yX12_possibleMany, 3) := by rw [hZ]; rfl
  have hδ : Z.2.1 = 2 := by rw [hZ]; rfl
  intro x0 x1 x2 H h
  unfold F_X12_possibleMany_J4 at h
  refine x_iload_n hz dX12_possibleMany_4 rfl ?_
  refine x_aload_n hz dX12_possibleMany_5 rfl ?_
  obtain ⟨v1, e_v1, h⟩ := x_bnd h
  refine x_getI hz dX12_possibleMany_6 fs_X12_329 e_v1 ?_
  refine x_icmp_ge (t := 29) hz dX12_possibleMany_9 (by decide) (fun c2 => ?_) (fun c2 => ?_)
  · replace h := x_ip c2 h
    refine x_iload_n hz dX12_possibleMany_29 rfl ?_
    cases h
    exact x_iret hZ dX12_possibleMany_30
  · replace h := x_in c2 h
    refine x_iload_n hz dX12_possibleMany_12 rfl ?_
    refine x_aload_n hz dX12_possibleMany_13 rfl ?_
    refine x_iload_n hz dX12_possibleMany_14 rfl ?_
    obtain ⟨b4, e_b4, h⟩ := x_bnd h
    obtain ⟨v5, H3, e_H3, h⟩ := x_b2 h
    refine x_callVi (as := [.inl x2]) (st := [.int x1]) cs_X12_342 (ci := 11) ⟨rfl, rfl⟩ rfl rfl hz (by omega) (Nat.le_trans (x_sm1 rfl x_sm0) (by decide)) dX12_possibleMany_15 e_b4 (M_X12_isPossible e_H3) ?_
    obtain ⟨v7, H6, e_H6, h⟩ := x_b2 h
    refine x_callSi (as := [.inl v5]) (st := [.int x1]) cs_X12_319 rfl rfl hz (by omega) (Nat.le_trans (x_sm1 rfl x_sm0) (by decide)) dX12_possibleMany_18 (M_X12_unit e_H6) ?_
    refine x_iadd hz dX12_possibleMany_21 ?_
    refine x_istore_n (pl' := [xA x0, xI (x1 + v7), xI x2]) hz dX12_possibleMany_22 (by decide) rfl ?_
    refine x_iinc (w := (x2 + 1)) (pl' := [xA x0, xI (x1 + v7), xI (x2 + 1)]) hz dX12_possibleMany_23 rfl rfl (by decide) rfl ?_
    refine x_goto (t := 4) hz dX12_possibleMany_26 (by decide) ?_
    exact x_wk (xwk_c (xwk_c (xwk_c xwk_0))) (hk4 x0 (x1 + v7) (x2 + 1) H6 h)
noncomputable def F_X12_possibleMany_L4 (N : Nat) : Nat → (Option Nat) → Int32 → Int32 → xH → Option (Int32 × xH)
  | 0 => fun _ _ _ _ => none
  | n + 1 => F_X12_possibleMany_J4 N (F_X12_possibleMany_L4 N n)
theorem P_X12_possibleMany_L4 {N : Nat} {Z : xZ} {rv : Int32} {Hf : xH} (hZ : Z = xZm cX12_possibleMany yX12_possibleMany 3 2 (some .int) (some (.int rv)) Hf) : ∀ (n : Nat) (x0 : (Option Nat)) (x1 : Int32) (x2 : Int32) (H : xH), F_X12_possibleMany_L4 N n x0 x1 x2 H = some (rv, Hf) → xWq Z H 4 [xA x0, xI x1, xI x2] [] := by
  intro n
  induction n with
  | zero => intro _ _ _ _ h; cases h
  | succ n ih => exact P_X12_possibleMany_J4 hZ ih
noncomputable def F_X12_possibleMany (N : Nat) (a0 : (Option Nat)) (H : xH) : Option (Int32 × xH) :=
  (F_X12_possibleMany_L4 N N) a0 (0 : Int32) (0 : Int32) H
set_option maxRecDepth 20000 in
set_option maxHeartbeats 4000000 in
theorem P_X12_possibleMany {N : Nat} {Z : xZ} {rv : Int32} {Hf : xH} (hZ : Z = xZm cX12_possibleMany yX12_possibleMany 3 2 (some .int) (some (.int rv)) Hf) : ∀ (a0 : (Option Nat)) (H : xH), F_X12_possibleMany N a0 H = some (rv, Hf) → xWq Z H 0 [xA a0, xN, xN] [] := by
  have hz : Z.1 = (cX12_possibleMany, yX12_possibleMany, 3) := by rw [hZ]; rfl
  have hδ : Z.2.1 = 2 := by rw [hZ]; rfl
  intro a0 H h
  unfold F_X12_possibleMany at h
  refine x_iconst (v := (0 : Int32)) hz dX12_possibleMany_0 (by decide) ?_
  refine x_istore_n (pl' := [xA a0, xI (0 : Int32), xN]) hz dX12_possibleMany_1 (by decide) rfl ?_
  refine x_iconst (v := (0 : Int32)) hz dX12_possibleMany_2 (by decide) ?_
  refine x_istore_n (pl' := [xA a0, xI (0 : Int32), xI (0 : Int32)]) hz dX12_possibleMany_3 (by decide) rfl ?_
  exact x_wk (xwk_c (xwk_c (xwk_c xwk_0))) ((P_X12_possibleMany_L4 hZ N) a0 (0 : Int32) (0 : Int32) H h)
theorem M_X12_possibleMany {N : Nat} {a0 : (Option Nat)} {H H1 : xH} {r1 : Int32} (h : F_X12_possibleMany N a0 H = some (r1, H1)) : xM yX12_possibleMany cX12_possibleMany 3 (some .int) 2 [.inr (.inr a0)] H (some (.int r1)) H1 :=
  xM_of (by decide +kernel) (xT_tb 1543 (by decide +kernel) (by decide +kernel)) (by simp [xargs, x2]) rfl (P_X12_possibleMany rfl a0 H h)
/-! BettingBookModel.luck(II)I -/
noncomputable def F_X12_luck_J90 (N : Nat) (k54 : (Option Nat) → Int32 → Int32 → Int32 → Int32 → xH → Option (Int32 × xH)) (x0 : (Option Nat)) (x1 : Int32) (x3 : Int32) (x5 : Int32) (s0 : Int32) (s1 : Int32) (H : xH) : Option (Int32 × xH) :=
  x_bd2 (F_X12_unit N s1 H) fun v2 H1 =>
  k54 x0 x1 x3 (s0 + v2) (x5 + 1) H1
set_option maxRecDepth 20000 in
set_option maxHeartbeats 4000000 in
theorem P_X12_luck_J90 {N : Nat} {Z : xZ} {rv : Int32} {Hf : xH} (hZ : Z = xZm cX12_luck yX12_luck 6 5 (some .int) (some (.int rv)) Hf) {k54 : (Option Nat) → Int32 → Int32 → Int32 → Int32 → xH → Option (Int32 × xH)} (hk54 : ∀ (x0 : (Option Nat)) (x1 : Int32) (x3 : Int32) (x4 : Int32) (x5 : Int32) (H : xH), k54 x0 x1 x3 x4 x5 H = some (rv, Hf) → xWq Z H 54 [xA x0, xI x1, xN, xI x3, xI x4, xI x5] []) : ∀ (x0 : (Option Nat)) (x1 : Int32) (x3 : Int32) (x5 : Int32) (s0 : Int32) (s1 : Int32) (H : xH), F_X12_luck_J90 N k54 x0 x1 x3 x5 s0 s1 H = some (rv, Hf) → xWq Z H 90 [xA x0, xI x1, xN, xI x3, xN, xI x5] [.int s1, .int s0] := by
  have hz : Z.1 = (cX12_luck, yX12_luck, 6) := by rw [hZ]; rfl
  have hδ : Z.2.1 = 5 := by rw [hZ]; rfl
  intro x0 x1 x3 x5 s0 s1 H h
  unfold F_X12_luck_J90 at h
  obtain ⟨v2, H1, e_H1, h⟩ := x_b2 h
  refine x_callSi (as := [.inl s1]) (st := [.int s0]) cs_X12_319 rfl rfl hz (by omega) (Nat.le_trans (x_sm1 rfl x_sm0) (by decide)) dX12_luck_90 (M_X12_unit e_H1) ?_
  refine x_iadd hz dX12_luck_93 ?_
  refine x_istore (pl' := [xA x0, xI x1, xN, xI x3, xI (s0 + v2), xI x5]) hz dX12_luck_94 (by decide) rfl ?_
  refine x_iinc (w := (x5 + 1)) (pl' := [xA x0, xI x1, xN, xI x3, xI (s0 + v2), xI (x5 + 1)]) hz dX12_luck_96 rfl rfl (by decide) rfl ?_
  refine x_goto (t := 54) hz dX12_luck_99 (by decide) ?_
  exact x_wk (xwk_c (xwk_c (xwk_n (xwk_c (xwk_c (xwk_c xwk_0)))))) (hk54 x0 x1 x3 (s0 + v2) (x5 + 1) H1 h)
noncomputable def F_X12_luck_J89 (N : Nat) (k54 : (Option Nat) → Int32 → Int32 → Int32 → Int32 → xH → Option (Int32 × xH)) (x0 : (Option Nat)) (x1 : Int32) (x3 : Int32) (x5 : Int32) (s0 : Int32) (H : xH) : Option (Int32 × xH) :=
  (F_X12_luck_J90 N k54) x0 x1 x3 x5 s0 (0 : Int32) H
set_option maxRecDepth 20000 in
set_option maxHeartbeats 4000000 in
theorem P_X12_luck_J89 {N : Nat} {Z : xZ} {rv : Int32} {Hf : xH} (hZ : Z = xZm cX12_luck yX12_luck 6 5 (some .int) (some (.int rv)) Hf) {k54 : (Option Nat) → Int32 → Int32 → Int32 → Int32 → xH → Option (Int32 × xH)} (hk54 : ∀ (x0 : (Option Nat)) (x1 : Int32) (x3 : Int32) (x4 : Int32) (x5 : Int32) (H : xH), k54 x0 x1 x3 x4 x5 H = some (rv, Hf) → xWq Z H 54 [xA x0, xI x1, xN, xI x3, xI x4, xI x5] []) : ∀ (x0 : (Option Nat)) (x1 : Int32) (x3 : Int32) (x5 : Int32) (s0 : Int32) (H : xH), F_X12_luck_J89 N k54 x0 x1 x3 x5 s0 H = some (rv, Hf) → xWq Z H 89 [xA x0, xI x1, xN, xI x3, xN, xI x5] [.int s0] := by
  have hz : Z.1 = (cX12_luck, yX12_luck, 6) := by rw [hZ]; rfl
  have hδ : Z.2.1 = 5 := by rw [hZ]; rfl
  intro x0 x1 x3 x5 s0 H h
  unfold F_X12_luck_J89 at h
  refine x_iconst (v := (0 : Int32)) hz dX12_luck_89 (by decide) ?_
  exact x_wk (xwk_c (xwk_c (xwk_n (xwk_c (xwk_n (xwk_c xwk_0)))))) ((P_X12_luck_J90 hZ hk54) x0 x1 x3 x5 s0 (0 : Int32) H h)
noncomputable def F_X12_luck_J54 (N : Nat) (k54 : (Option Nat) → Int32 → Int32 → Int32 → Int32 → xH → Option (Int32 × xH)) (x0 : (Option Nat)) (x1 : Int32) (x3 : Int32) (x4 : Int32) (x5 : Int32) (H : xH) : Option (Int32 × xH) :=
  (xgI H x0 11 41).bind fun v1 =>
  if v1 ≤ x5 then (some (x4, H)) else ((xob H x0 11).bind fun b4 =>
  x_bd2 (F_X12_isPossible N x0 x5 H) fun v5 H3 =>
  if v5 = 0 then ((F_X12_luck_J89 N k54) x0 x1 x3 x5 x4 H3) else ((xob H3 x0 11).bind fun b8 =>
  x_bd2 (F_X12_endAtRow N x0 x1 x5 H3) fun v9 H7 =>
  if v9 < x3 then ((F_X12_luck_J89 N k54) x0 x1 x3 x5 x4 H7) else ((F_X12_luck_J90 N k54) x0 x1 x3 x5 x4 (1 : Int32) H7)))
set_option maxRecDepth 20000 in
set_option maxHeartbeats 4000000 in
theorem P_X12_luck_J54 {N : Nat} {Z : xZ} {rv : Int32} {Hf : xH} (hZ : Z = xZm cX12_luck yX12_luck 6 5 (some .int) (some (.int rv)) Hf) {k54 : (Option Nat) → Int32 → Int32 → Int32 → Int32 → xH → Option (Int32 × xH)} (hk54 : ∀ (x0 : (Option Nat)) (x1 : Int32) (x3 : Int32) (x4 : Int32) (x5 : Int32) (H : xH), k54 x0 x1 x3 x4 x5 H = some (rv, Hf) → xWq Z H 54 [xA x0, xI x1, xN, xI x3, xI x4, xI x5] []) : ∀ (x0 : (Option Nat)) (x1 : Int32) (x3 : Int32) (x4 : Int32) (x5 : Int32) (H : xH), F_X12_luck_J54 N k54 x0 x1 x3 x4 x5 H = some (rv, Hf) → xWq Z H 54 [xA x0, xI x1, xN, xI x3, xI x4, xI x5] [] := by
  have hz : Z.1 = (cX12_luck, yX12_luck, 6) := by rw [hZ]; rfl
  have hδ : Z.2.1 = 5 := by rw [hZ]; rfl
  intro x0 x1 x3 x4 x5 H h
  unfold F_X12_luck_J54 at h
  refine x_iload hz dX12_luck_54 rfl ?_
  refine x_aload_n hz dX12_luck_56 rfl ?_
  obtain ⟨v1, e_v1, h⟩ := x_bnd h
  refine x_getI hz dX12_luck_57 fs_X12_329 e_v1 ?_
  refine x_icmp_ge (t := 102) hz dX12_luck_60 (by decide) (fun c2 => ?_) (fun c2 => ?_)
  · replace h := x_ip c2 h
    refine x_iload hz dX12_luck_102 rfl ?_
    cases h
    exact x_iret hZ dX12_luck_104
  · replace h := x_in c2 h
    refine x_iload hz dX12_luck_63 rfl ?_
    refine x_aload_n hz dX12_luck_65 rfl ?_
    refine x_iload hz dX12_luck_66 rfl ?_
    obtain ⟨b4, e_b4, h⟩ := x_bnd h
    obtain ⟨v5, H3, e_H3, h⟩ := x_b2 h
    refine x_callVi (as := [.inl x5]) (st := [.int x4]) cs_X12_342 (ci := 11) ⟨rfl, rfl⟩ rfl rfl hz (by omega) (Nat.le_trans (x_sm1 rfl x_sm0) (by decide)) dX12_luck_68 e_b4 (M_X12_isPossible e_H3) ?_
    refine x_if_eq (t := 89) hz dX12_luck_71 (by decide) (fun c6 => ?_) (fun c6 => ?_)
    · replace h := x_ip c6 h
      exact x_wk (xwk_c (xwk_c (xwk_n (xwk_c (xwk_n (xwk_c xwk_0)))))) ((P_X12_luck_J89 hZ hk54) x0 x1 x3 x5 x4 H3 h)
    · replace h := x_in c6 h
      refine x_aload_n hz dX12_luck_74 rfl ?_
      refine x_iload_n hz dX12_luck_75 rfl ?_
      refine x_iload hz dX12_luck_76 rfl ?_
      obtain ⟨b8, e_b8, h⟩ := x_bnd h
      obtain ⟨v9, H7, e_H7, h⟩ := x_b2 h
      refine x_callVi (as := [.inl x1, .inl x5]) (st := [.int x4]) cs_X12_399 (ci := 11) ⟨rfl, rfl⟩ rfl rfl hz (by omega) (Nat.le_trans (x_sm1 rfl x_sm0) (by decide)) dX12_luck_78 e_b8 (M_X12_endAtRow e_H7) ?_
      refine x_iload_n hz dX12_luck_81 rfl ?_
      refine x_icmp_lt (t := 89) hz dX12_luck_82 (by decide) (fun c10 => ?_) (fun c10 => ?_)
      · replace h := x_ip c10 h
        exact x_wk (xwk_c (xwk_c (xwk_n (xwk_c (xwk_n (xwk_c xwk_0)))))) ((P_X12_luck_J89 hZ hk54) x0 x1 x3 x5 x4 H7 h)
      · replace h := x_in c10 h
        refine x_iconst (v := (1 : Int32)) hz dX12_luck_85 (by decide) ?_
        refine x_goto (t := 90) hz dX12_luck_86 (by decide) ?_
        exact x_wk (xwk_c (xwk_c (xwk_n (xwk_c (xwk_n (xwk_c xwk_0)))))) ((P_X12_luck_J90 hZ hk54) x0 x1 x3 x5 x4 (1 : Int32) H7 h)
noncomputable def F_X12_luck_L54 (N : Nat) : Nat → (Option Nat) → Int32 → Int32 → Int32 → Int32 → xH → Option (Int32 × xH)
  | 0 => fun _ _ _ _ _ _ => none
  | n + 1 => F_X12_luck_J54 N (F_X12_luck_L54 N n)
theorem P_X12_luck_L54 {N : Nat} {Z : xZ} {rv : Int32} {Hf : xH} (hZ : Z = xZm cX12_luck yX12_luck 6 5 (some .int) (some (.int rv)) Hf) : ∀ (n : Nat) (x0 : (Option Nat)) (x1 : Int32) (x3 : Int32) (x4 : Int32) (x5 : Int32) (H : xH), F_X12_luck_L54 N n x0 x1 x3 x4 x5 H = some (rv, Hf) → xWq Z H 54 [xA x0, xI x1, xN, xI x3, xI x4, xI x5] [] := by
  intro n
  induction n with
  | zero => intro _ _ _ _ _ _ h; cases h
  | succ n ih => exact P_X12_luck_J54 hZ ih
noncomputable def F_X12_luck (N : Nat) (a0 : (Option Nat)) (a1 : Int32) (a2 : Int32) (H : xH) : Option (Int32 × xH) :=
  (xob H a0 11).bind fun b2 =>
  x_bd2 (F_X12_isMember N a0 a1 H) fun v3 H1 =>
  if v3 = 0 then (some ((-1 : Int32), H1)) else (x_bd2 (F_X12_isIn N a2 (0 : Int32) (1 : Int32) H1) fun v6 H5 =>
  if v6 = 0 then (some ((-1 : Int32), H5)) else ((xob H5 a0 11).bind fun b9 =>
  x_bd2 (F_X12_leftMany N a0 H5) fun v10 H8 =>
  if v10 = (1 : Int32) then (if a2 = (1 : Int32) then ((xob H8 a0 11).bind fun b20 =>
  x_bd2 (F_X12_possibleMany N a0 H8) fun v21 H19 =>
  some (v21, H19)) else ((xob H8 a0 11).bind fun b14 =>
  x_bd2 (F_X12_rows N a0 (0 : Int32) H8) fun v15 H13 =>
  (xob H13 a0 11).bind fun b17 =>
  x_bd2 (F_X12_endAtRow N a0 a1 v15 H13) fun v18 H16 =>
  (F_X12_luck_L54 N N) a0 a1 v18 (0 : Int32) (0 : Int32) H16)) else (some ((-1 : Int32), H8))))
set_option maxRecDepth 20000 in
set_option maxHeartbeats 4000000 in
theorem P_X12_luck {N : Nat} {Z : xZ} {rv : Int32} {Hf : xH} (hZ : Z = xZm cX12_luck yX12_luck 6 5 (some .int) (some (.int rv)) Hf) : ∀ (a0 : (Option Nat)) (a1 : Int32) (a2 : Int32) (H : xH), F_X12_luck N a0 a1 a2 H = some (rv, Hf) → xWq Z H 0 [xA a0, xI a1, xI a2, xN, xN, xN] [] := by
  have hz : Z.1 = (cX12_luck, yX12_luck, 6) := by rw [hZ]; rfl
  have hδ : Z.2.1 = 5 := by rw [hZ]; rfl
  intro a0 a1 a2 H h
  unfold F_X12_luck at h
  refine x_aload_n hz dX12_luck_0 rfl ?_
  refine x_iload_n hz dX12_luck_1 rfl ?_
  obtain ⟨b2, e_b2, h⟩ := x_bnd h
  obtain ⟨v3, H1, e_H1, h⟩ := x_b2 h
  refine x_callVi (as := [.inl a1]) (st := []) cs_X12_390 (ci := 11) ⟨rfl, rfl⟩ rfl rfl hz (by omega) (by decide) dX12_luck_2 e_b2 (M_X12_isMember e_H1) ?_
  refine x_if_eq (t := 25) hz dX12_luck_5 (by decide) (fun c4 => ?_) (fun c4 => ?_)
  · replace h := x_ip c4 h
    refine x_iconst (v := (-1 : Int32)) hz dX12_luck_25 (by decide) ?_
    cases h
    exact x_iret hZ dX12_luck_26
  · replace h := x_in c4 h
    refine x_iload_n hz dX12_luck_8 rfl ?_
    refine x_iconst (v := (0 : Int32)) hz dX12_luck_9 (by decide) ?_
    refine x_iconst (v := (1 : Int32)) hz dX12_luck_10 (by decide) ?_
    obtain ⟨v6, H5, e_H5, h⟩ := x_b2 h
    refine x_callSi (as := [.inl a2, .inl (0 : Int32), .inl (1 : Int32)]) (st := []) cs_X12_153 rfl rfl hz (by omega) (by decide) dX12_luck_11 (M_X12_isIn e_H5) ?_
    refine x_if_eq (t := 25) hz dX12_luck_14 (by decide) (fun c7 => ?_) (fun c7 => ?_)
    · replace h := x_ip c7 h
      refine x_iconst (v := (-1 : Int32)) hz dX12_luck_25 (by decide) ?_
      cases h
      exact x_iret hZ dX12_luck_26
    · replace h := x_in c7 h
      refine x_aload_n hz dX12_luck_17 rfl ?_
      obtain ⟨b9, e_b9, h⟩ := x_bnd h
      obtain ⟨v10, H8, e_H8, h⟩ := x_b2 h
      refine x_callVi (as := []) (st := []) cs_X12_351 (ci := 11) ⟨rfl, rfl⟩ rfl rfl hz (by omega) (by decide) dX12_luck_18 e_b9 (M_X12_leftMany e_H8) ?_
      refine x_iconst (v := (1 : Int32)) hz dX12_luck_21 (by decide) ?_
      refine x_icmp_eq (t := 27) hz dX12_luck_22 (by decide) (fun c11 => ?_) (fun c11 => ?_)
      · replace h := x_ip c11 h
        refine x_iload_n hz dX12_luck_27 rfl ?_
        refine x_iconst (v := (1 : Int32)) hz dX12_luck_28 (by decide) ?_
        refine x_icmp_ne (t := 37) hz dX12_luck_29 (by decide) (fun c12 => ?_) (fun c12 => ?_)
        · replace h := x_in c12 h
          refine x_aload_n hz dX12_luck_37 rfl ?_
          refine x_iload_n hz dX12_luck_38 rfl ?_
          refine x_aload_n hz dX12_luck_39 rfl ?_
          refine x_iconst (v := (0 : Int32)) hz dX12_luck_40 (by decide) ?_
          obtain ⟨b14, e_b14, h⟩ := x_bnd h
          obtain ⟨v15, H13, e_H13, h⟩ := x_b2 h
          refine x_callVi (as := [.inl (0 : Int32)]) (st := [.int a1, va_rf a0]) cs_X12_453 (ci := 11) ⟨rfl, rfl⟩ rfl rfl hz (by omega) (Nat.le_trans (x_sm1 rfl (x_sm1 (x_rfc _) x_sm0)) (by decide)) dX12_luck_41 e_b14 (M_X12_rows e_H13) ?_
          obtain ⟨b17, e_b17, h⟩ := x_bnd h
          obtain ⟨v18, H16, e_H16, h⟩ := x_b2 h
          refine x_callVi (as := [.inl a1, .inl v15]) (st := []) cs_X12_399 (ci := 11) ⟨rfl, rfl⟩ rfl rfl hz (by omega) (by decide) dX12_luck_44 e_b17 (M_X12_endAtRow e_H16) ?_
          refine x_istore_n (pl' := [xA a0, xI a1, xI a2, xI v18, xN, xN]) hz dX12_luck_47 (by decide) rfl ?_
          refine x_iconst (v := (0 : Int32)) hz dX12_luck_48 (by decide) ?_
          refine x_istore (pl' := [xA a0, xI a1, xI a2, xI v18, xI (0 : Int32), xN]) hz dX12_luck_49 (by decide) rfl ?_
          refine x_iconst (v := (0 : Int32)) hz dX12_luck_51 (by decide) ?_
          refine x_istore (pl' := [xA a0, xI a1, xI a2, xI v18, xI (0 : Int32), xI (0 : Int32)]) hz dX12_luck_52 (by decide) rfl ?_
          exact x_wk (xwk_c (xwk_c (xwk_n (xwk_c (xwk_c (xwk_c xwk_0)))))) ((P_X12_luck_L54 hZ N) a0 a1 v18 (0 : Int32) (0 : Int32) H16 h)
        · replace h := x_ip c12 h
          refine x_aload_n hz dX12_luck_32 rfl ?_
          obtain ⟨b20, e_b20, h⟩ := x_bnd h
          obtain ⟨v21, H19, e_H19, h⟩ := x_b2 h
          refine x_callVi (as := []) (st := []) cs_X12_450 (ci := 11) ⟨rfl, rfl⟩ rfl rfl hz (by omega) (by decide) dX12_luck_33 e_b20 (M_X12_possibleMany e_H19) ?_
          cases h
          exact x_iret hZ dX12_luck_36
      · replace h := x_in c11 h
        refine x_iconst (v := (-1 : Int32)) hz dX12_luck_25 (by decide) ?_
        cases h
        exact x_iret hZ dX12_luck_26
theorem M_X12_luck {N : Nat} {a0 : (Option Nat)} {a1 : Int32} {a2 : Int32} {H H1 : xH} {r1 : Int32} (h : F_X12_luck N a0 a1 a2 H = some (r1, H1)) : xM yX12_luck cX12_luck 6 (some .int) 5 [.inr (.inr a0), .inl a1, .inl a2] H (some (.int r1)) H1 :=
  xM_of (by decide +kernel) (xT_tb 1539 (by decide +kernel) (by decide +kernel)) (by simp [xargs, x2]) rfl (P_X12_luck rfl a0 a1 a2 H h)
/-! BettingBookModel.image()I -/
noncomputable def F_X12_image_J54 (N : Nat) (k54 : (Option Nat) → Int32 → Int32 → xH → Option (Int32 × xH)) (k81 : (Option Nat) → Int32 → xH → Option (Int32 × xH)) (x0 : (Option Nat)) (x1 : Int32) (x2 : Int32) (H : xH) : Option (Int32 × xH) :=
  if (5 : Int32) ≤ x2 then (k81 x0 x1 H) else ((xgA H x0 11 63).bind fun v2 =>
  (xgA H x0 11 48).bind fun v3 =>
  (xlI .int H v3 x2).bind fun v4 =>
  (xsI .int H v2 ((x1 + (3 : Int32)) + x2) v4).bind fun H5 =>
  k54 x0 x1 (x2 + 1) H5)
set_option maxRecDepth 20000 in
set_option maxHeartbeats 4000000 in
theorem P_X12_image_J54 {N : Nat} {Z : xZ} {rv : Int32} {Hf : xH} (hZ : Z = xZm cX12_image yX12_image 3 1 (some .int) (some (.int rv)) Hf) {k54 : (Option Nat) → Int32 → Int32 → xH → Option (Int32 × xH)} (hk54 : ∀ (x0 : (Option Nat)) (x1 : Int32) (x2 : Int32) (H : xH), k54 x0 x1 x2 H = some (rv, Hf) → xWq Z H 54 [xA x0, xI x1, xI x2] []) {k81 : (Option Nat) → Int32 → xH → Option (Int32 × xH)} (hk81 : ∀ (x0 : (Option Nat)) (x1 : Int32) (H : xH), k81 x0 x1 H = some (rv, Hf) → xWq Z H 81 [xA x0, xI x1, xN] []) : ∀ (x0 : (Option Nat)) (x1 : Int32) (x2 : Int32) (H : xH), F_X12_image_J54 N k54 k81 x0 x1 x2 H = some (rv, Hf) → xWq Z H 54 [xA x0, xI x1, xI x2] [] := by
  have hz : Z.1 = (cX12_image, yX12_image, 3) := by rw [hZ]; rfl
  have hδ : Z.2.1 = 1 := by rw [hZ]; rfl
  intro x0 x1 x2 H h
  unfold F_X12_image_J54 at h
  refine x_iload_n hz dX12_image_54 rfl ?_
  refine x_iconst (v := (5 : Int32)) hz dX12_image_55 (by decide) ?_
  refine x_icmp_ge (t := 81) hz dX12_image_56 (by decide) (fun c1 => ?_) (fun c1 => ?_)
  · replace h := x_ip c1 h
    exact x_wk (xwk_c (xwk_c (xwk_n xwk_0))) (hk81 x0 x1 H h)
  · replace h := x_in c1 h
    refine x_aload_n hz dX12_image_59 rfl ?_
    obtain ⟨v2, e_v2, h⟩ := x_bnd h
    refine x_getA hz dX12_image_60 fs_X12_121 e_v2 ?_
    refine x_iload_n hz dX12_image_63 rfl ?_
    refine x_iconst (v := (3 : Int32)) hz dX12_image_64 (by decide) ?_
    refine x_iadd hz dX12_image_65 ?_
    refine x_iload_n hz dX12_image_66 rfl ?_
    refine x_iadd hz dX12_image_67 ?_
    refine x_aload_n hz dX12_image_68 rfl ?_
    obtain ⟨v3, e_v3, h⟩ := x_bnd h
    refine x_getA hz dX12_image_69 fs_X12_94 e_v3 ?_
    refine x_iload_n hz dX12_image_72 rfl ?_
    obtain ⟨v4, e_v4, h⟩ := x_bnd h
    refine x_iald hz dX12_image_73 e_v4 ?_
    obtain ⟨H5, e_H5, h⟩ := x_bnd h
    refine x_iast hz dX12_image_74 e_H5 ?_
    refine x_iinc (w := (x2 + 1)) (pl' := [xA x0, xI x1, xI (x2 + 1)]) hz dX12_image_75 rfl rfl (by decide) rfl ?_
    refine x_goto (t := 54) hz dX12_image_78 (by decide) ?_
    exact x_wk (xwk_c (xwk_c (xwk_c xwk_0))) (hk54 x0 x1 (x2 + 1) H5 h)
noncomputable def F_X12_image_L54 (N : Nat) (k81 : (Option Nat) → Int32 → xH → Option (Int32 × xH)) : Nat → (Option Nat) → Int32 → Int32 → xH → Option (Int32 × xH)
  | 0 => fun _ _ _ _ => none
  | n + 1 => F_X12_image_J54 N (F_X12_image_L54 N k81 n) k81
theorem P_X12_image_L54 {N : Nat} {Z : xZ} {rv : Int32} {Hf : xH} (hZ : Z = xZm cX12_image yX12_image 3 1 (some .int) (some (.int rv)) Hf) {k81 : (Option Nat) → Int32 → xH → Option (Int32 × xH)} (hk81 : ∀ (x0 : (Option Nat)) (x1 : Int32) (H : xH), k81 x0 x1 H = some (rv, Hf) → xWq Z H 81 [xA x0, xI x1, xN] []) : ∀ (n : Nat) (x0 : (Option Nat)) (x1 : Int32) (x2 : Int32) (H : xH), F_X12_image_L54 N k81 n x0 x1 x2 H = some (rv, Hf) → xWq Z H 54 [xA x0, xI x1, xI x2] [] := by
  intro n
  induction n with
  | zero => intro _ _ _ _ h; cases h
  | succ n ih => exact P_X12_image_J54 hZ ih hk81
noncomputable def F_X12_image_J83 (N : Nat) (k83 : (Option Nat) → Int32 → Int32 → xH → Option (Int32 × xH)) (k112 : (Option Nat) → Int32 → xH → Option (Int32 × xH)) (x0 : (Option Nat)) (x1 : Int32) (x2 : Int32) (H : xH) : Option (Int32 × xH) :=
  if (24 : Int32) ≤ x2 then (k112 x0 x1 H) else ((xgA H x0 11 63).bind fun v2 =>
  (xgA H x0 11 52).bind fun v3 =>
  (xlI .int H v3 x2).bind fun v4 =>
  (xsI .int H v2 ((x1 + (8 : Int32)) + x2) v4).bind fun H5 =>
  k83 x0 x1 (x2 + 1) H5)
set_option maxRecDepth 20000 in
set_option maxHeartbeats 4000000 in
theorem P_X12_image_J83 {N : Nat} {Z : xZ} {rv : Int32} {Hf : xH} (hZ : Z = xZm cX12_image yX12_image 3 1 (some .int) (some (.int rv)) Hf) {k83 : (Option Nat) → Int32 → Int32 → xH → Option (Int32 × xH)} (hk83 : ∀ (x0 : (Option Nat)) (x1 : Int32) (x2 : Int32) (H : xH), k83 x0 x1 x2 H = some (rv, Hf) → xWq Z H 83 [xA x0, xI x1, xI x2] []) {k112 : (Option Nat) → Int32 → xH → Option (Int32 × xH)} (hk112 : ∀ (x0 : (Option Nat)) (x1 : Int32) (H : xH), k112 x0 x1 H = some (rv, Hf) → xWq Z H 112 [xA x0, xI x1, xN] []) : ∀ (x0 : (Option Nat)) (x1 : Int32) (x2 : Int32) (H : xH), F_X12_image_J83 N k83 k112 x0 x1 x2 H = some (rv, Hf) → xWq Z H 83 [xA x0, xI x1, xI x2] [] := by
  have hz : Z.1 = (cX12_image, yX12_image, 3) := by rw [hZ]; rfl
  have hδ : Z.2.1 = 1 := by rw [hZ]; rfl
  intro x0 x1 x2 H h
  unfold F_X12_image_J83 at h
  refine x_iload_n hz dX12_image_83 rfl ?_
  refine x_bipush (v := (24 : Int32)) hz dX12_image_84 (by decide) ?_
  refine x_icmp_ge (t := 112) hz dX12_image_86 (by decide) (fun c1 => ?_) (fun c1 => ?_)
  · replace h := x_ip c1 h
    exact x_wk (xwk_c (xwk_c (xwk_n xwk_0))) (hk112 x0 x1 H h)
  · replace h := x_in c1 h
    refine x_aload_n hz dX12_image_89 rfl ?_
    obtain ⟨v2, e_v2, h⟩ := x_bnd h
    refine x_getA hz dX12_image_90 fs_X12_121 e_v2 ?_
    refine x_iload_n hz dX12_image_93 rfl ?_
    refine x_bipush (v := (8 : Int32)) hz dX12_image_94 (by decide) ?_
    refine x_iadd hz dX12_image_96 ?_
    refine x_iload_n hz dX12_image_97 rfl ?_
    refine x_iadd hz dX12_image_98 ?_
    refine x_aload_n hz dX12_image_99 rfl ?_
    obtain ⟨v3, e_v3, h⟩ := x_bnd h
    refine x_getA hz dX12_image_100 fs_X12_100 e_v3 ?_
    refine x_iload_n hz dX12_image_103 rfl ?_
    obtain ⟨v4, e_v4, h⟩ := x_bnd h
    refine x_iald hz dX12_image_104 e_v4 ?_
    obtain ⟨H5, e_H5, h⟩ := x_bnd h
    refine x_iast hz dX12_image_105 e_H5 ?_
    refine x_iinc (w := (x2 + 1)) (pl' := [xA x0, xI x1, xI (x2 + 1)]) hz dX12_image_106 rfl rfl (by decide) rfl ?_
    refine x_goto (t := 83) hz dX12_image_109 (by decide) ?_
    exact x_wk (xwk_c (xwk_c (xwk_c xwk_0))) (hk83 x0 x1 (x2 + 1) H5 h)
noncomputable def F_X12_image_L83 (N : Nat) (k112 : (Option Nat) → Int32 → xH → Option (Int32 × xH)) : Nat → (Option Nat) → Int32 → Int32 → xH → Option (Int32 × xH)
  | 0 => fun _ _ _ _ => none
  | n + 1 => F_X12_image_J83 N (F_X12_image_L83 N k112 n) k112
theorem P_X12_image_L83 {N : Nat} {Z : xZ} {rv : Int32} {Hf : xH} (hZ : Z = xZm cX12_image yX12_image 3 1 (some .int) (some (.int rv)) Hf) {k112 : (Option Nat) → Int32 → xH → Option (Int32 × xH)} (hk112 : ∀ (x0 : (Option Nat)) (x1 : Int32) (H : xH), k112 x0 x1 H = some (rv, Hf) → xWq Z H 112 [xA x0, xI x1, xN] []) : ∀ (n : Nat) (x0 : (Option Nat)) (x1 : Int32) (x2 : Int32) (H : xH), F_X12_image_L83 N k112 n x0 x1 x2 H = some (rv, Hf) → xWq Z H 83 [xA x0, xI x1, xI x2] [] := by
  intro n
  induction n with
  | zero => intro _ _ _ _ h; cases h
  | succ n ih => exact P_X12_image_J83 hZ ih hk112
noncomputable def F_X12_image_J114 (N : Nat) (k114 : (Option Nat) → Int32 → Int32 → xH → Option (Int32 × xH)) (k143 : (Option Nat) → xH → Option (Int32 × xH)) (x0 : (Option Nat)) (x1 : Int32) (x2 : Int32) (H : xH) : Option (Int32 × xH) :=
  if (6 : Int32) ≤ x2 then (k143 x0 H) else ((xgA H x0 11 63).bind fun v2 =>
  (xgA H x0 11 53).bind fun v3 =>
  (xlI .int H v3 x2).bind fun v4 =>
  (xsI .int H v2 ((x1 + (32 : Int32)) + x2) v4).bind fun H5 =>
  k114 x0 x1 (x2 + 1) H5)
set_option maxRecDepth 20000 in
set_option maxHeartbeats 4000000 in
theorem P_X12_image_J114 {N : Nat} {Z : xZ} {rv : Int32} {Hf : xH} (hZ : Z = xZm cX12_image yX12_image 3 1 (some .int) (some (.int rv)) Hf) {k114 : (Option Nat) → Int32 → Int32 → xH → Option (Int32 × xH)} (hk114 : ∀ (x0 : (Option Nat)) (x1 : Int32) (x2 : Int32) (H : xH), k114 x0 x1 x2 H = some (rv, Hf) → xWq Z H 114 [xA x0, xI x1, xI x2] []) {k143 : (Option Nat) → xH → Option (Int32 × xH)} (hk143 : ∀ (x0 : (Option Nat)) (H : xH), k143 x0 H = some (rv, Hf) → xWq Z H 143 [xA x0, xN, xN] []) : ∀ (x0 : (Option Nat)) (x1 : Int32) (x2 : Int32) (H : xH), F_X12_image_J114 N k114 k143 x0 x1 x2 H = some (rv, Hf) → xWq Z H 114 [xA x0, xI x1, xI x2] [] := by
  have hz : Z.1 = (cX12_image, yX12_image, 3) := by rw [hZ]; rfl
  have hδ : Z.2.1 = 1 := by rw [hZ]; rfl
  intro x0 x1 x2 H h
  unfold F_X12_image_J114 at h
  refine x_iload_n hz dX12_image_114 rfl ?_
  refine x_bipush (v := (6 : Int32)) hz dX12_image_115 (by decide) ?_
  refine x_icmp_ge (t := 143) hz dX12_image_117 (by decide) (fun c1 => ?_) (fun c1 => ?_)
  · replace h := x_ip c1 h
    exact x_wk (xwk_c (xwk_n (xwk_n xwk_0))) (hk143 x0 H h)
  · replace h := x_in c1 h
    refine x_aload_n hz dX12_image_120 rfl ?_
    obtain ⟨v2, e_v2, h⟩ := x_bnd h
    refine x_getA hz dX12_image_121 fs_X12_121 e_v2 ?_
    refine x_iload_n hz dX12_image_124 rfl ?_
    refine x_bipush (v := (32 : Int32)) hz dX12_image_125 (by decide) ?_
    refine x_iadd hz dX12_image_127 ?_
    refine x_iload_n hz dX12_image_128 rfl ?_
    refine x_iadd hz dX12_image_129 ?_
    refine x_aload_n hz dX12_image_130 rfl ?_
    obtain ⟨v3, e_v3, h⟩ := x_bnd h
    refine x_getA hz dX12_image_131 fs_X12_103 e_v3 ?_
    refine x_iload_n hz dX12_image_134 rfl ?_
    obtain ⟨v4, e_v4, h⟩ := x_bnd h
    refine x_iald hz dX12_image_135 e_v4 ?_
    obtain ⟨H5, e_H5, h⟩ := x_bnd h
    refine x_iast hz dX12_image_136 e_H5 ?_
    refine x_iinc (w := (x2 + 1)) (pl' := [xA x0, xI x1, xI (x2 + 1)]) hz dX12_image_137 rfl rfl (by decide) rfl ?_
    refine x_goto (t := 114) hz dX12_image_140 (by decide) ?_
    exact x_wk (xwk_c (xwk_c (xwk_c xwk_0))) (hk114 x0 x1 (x2 + 1) H5 h)
noncomputable def F_X12_image_L114 (N : Nat) (k143 : (Option Nat) → xH → Option (Int32 × xH)) : Nat → (Option Nat) → Int32 → Int32 → xH → Option (Int32 × xH)
  | 0 => fun _ _ _ _ => none
  | n + 1 => F_X12_image_J114 N (F_X12_image_L114 N k143 n) k143
theorem P_X12_image_L114 {N : Nat} {Z : xZ} {rv : Int32} {Hf : xH} (hZ : Z = xZm cX12_image yX12_image 3 1 (some .int) (some (.int rv)) Hf) {k143 : (Option Nat) → xH → Option (Int32 × xH)} (hk143 : ∀ (x0 : (Option Nat)) (H : xH), k143 x0 H = some (rv, Hf) → xWq Z H 143 [xA x0, xN, xN] []) : ∀ (n : Nat) (x0 : (Option Nat)) (x1 : Int32) (x2 : Int32) (H : xH), F_X12_image_L114 N k143 n x0 x1 x2 H = some (rv, Hf) → xWq Z H 114 [xA x0, xI x1, xI x2] [] := by
  intro n
  induction n with
  | zero => intro _ _ _ _ h; cases h
  | succ n ih => exact P_X12_image_J114 hZ ih hk143
noncomputable def F_X12_image_J143 (N : Nat) (x0 : (Option Nat)) (H : xH) : Option (Int32 × xH) :=
  (xgI H x0 11 62).bind fun v1 =>
  (xpI H x0 11 62 (v1 + (1 : Int32))).bind fun H2 =>
  (xgI H2 x0 11 62).bind fun v3 =>
  some ((v3 - (1 : Int32)), H2)
set_option maxRecDepth 20000 in
set_option maxHeartbeats 4000000 in
theorem P_X12_image_J143 {N : Nat} {Z : xZ} {rv : Int32} {Hf : xH} (hZ : Z = xZm cX12_image yX12_image 3 1 (some .int) (some (.int rv)) Hf) : ∀ (x0 : (Option Nat)) (H : xH), F_X12_image_J143 N x0 H = some (rv, Hf) → xWq Z H 143 [xA x0, xN, xN] [] := by
  have hz : Z.1 = (cX12_image, yX12_image, 3) := by rw [hZ]; rfl
  have hδ : Z.2.1 = 1 := by rw [hZ]; rfl
  intro x0 H h
  unfold F_X12_image_J143 at h
  refine x_aload_n hz dX12_image_143 rfl ?_
  refine x_dup hz dX12_image_144 (x_rfc _) ?_
  obtain ⟨v1, e_v1, h⟩ := x_bnd h
  refine x_getI hz dX12_image_145 fs_X12_310 e_v1 ?_
  refine x_iconst (v := (1 : Int32)) hz dX12_image_148 (by decide) ?_
  refine x_iadd hz dX12_image_149 ?_
  obtain ⟨H2, e_H2, h⟩ := x_bnd h
  refine x_putV (v := .int (v1 + (1 : Int32))) hz dX12_image_150 fs_X12_310 rfl rfl e_H2 ?_
  refine x_aload_n hz dX12_image_153 rfl ?_
  obtain ⟨v3, e_v3, h⟩ := x_bnd h
  refine x_getI hz dX12_image_154 fs_X12_310 e_v3 ?_
  refine x_iconst (v := (1 : Int32)) hz dX12_image_157 (by decide) ?_
  refine x_isub hz dX12_image_158 ?_
  cases h
  exact x_iret hZ dX12_image_159
noncomputable def F_X12_image_J112 (N : Nat) (x0 : (Option Nat)) (x1 : Int32) (H : xH) : Option (Int32 × xH) :=
  (F_X12_image_L114 N (F_X12_image_J143 N) N) x0 x1 (0 : Int32) H
set_option maxRecDepth 20000 in
set_option maxHeartbeats 4000000 in
theorem P_X12_image_J112 {N : Nat} {Z : xZ} {rv : Int32} {Hf : xH} (hZ : Z = xZm cX12_image yX12_image 3 1 (some .int) (some (.int rv)) Hf) : ∀ (x0 : (Option Nat)) (x1 : Int32) (H : xH), F_X12_image_J112 N x0 x1 H = some (rv, Hf) → xWq Z H 112 [xA x0, xI x1, xN] [] := by
  have hz : Z.1 = (cX12_image, yX12_image, 3) := by rw [hZ]; rfl
  have hδ : Z.2.1 = 1 := by rw [hZ]; rfl
  intro x0 x1 H h
  unfold F_X12_image_J112 at h
  refine x_iconst (v := (0 : Int32)) hz dX12_image_112 (by decide) ?_
  refine x_istore_n (pl' := [xA x0, xI x1, xI (0 : Int32)]) hz dX12_image_113 (by decide) rfl ?_
  exact x_wk (xwk_c (xwk_c (xwk_c xwk_0))) ((P_X12_image_L114 hZ (P_X12_image_J143 hZ) N) x0 x1 (0 : Int32) H h)
noncomputable def F_X12_image_J81 (N : Nat) (x0 : (Option Nat)) (x1 : Int32) (H : xH) : Option (Int32 × xH) :=
  (F_X12_image_L83 N (F_X12_image_J112 N) N) x0 x1 (0 : Int32) H
set_option maxRecDepth 20000 in
set_option maxHeartbeats 4000000 in
theorem P_X12_image_J81 {N : Nat} {Z : xZ} {rv : Int32} {Hf : xH} (hZ : Z = xZm cX12_image yX12_image 3 1 (some .int) (some (.int rv)) Hf) : ∀ (x0 : (Option Nat)) (x1 : Int32) (H : xH), F_X12_image_J81 N x0 x1 H = some (rv, Hf) → xWq Z H 81 [xA x0, xI x1, xN] [] := by
  have hz : Z.1 = (cX12_image, yX12_image, 3) := by rw [hZ]; rfl
  have hδ : Z.2.1 = 1 := by rw [hZ]; rfl
  intro x0 x1 H h
  unfold F_X12_image_J81 at h
  refine x_iconst (v := (0 : Int32)) hz dX12_image_81 (by decide) ?_
  refine x_istore_n (pl' := [xA x0, xI x1, xI (0 : Int32)]) hz dX12_image_82 (by decide) rfl ?_
  exact x_wk (xwk_c (xwk_c (xwk_c xwk_0))) ((P_X12_image_L83 hZ (P_X12_image_J112 hZ) N) x0 x1 (0 : Int32) H h)
noncomputable def F_X12_image (N : Nat) (a0 : (Option Nat)) (H : xH) : Option (Int32 × xH) :=
  (xgI H a0 11 62).bind fun v1 =>
  if v1 = (4 : Int32) then (some ((-1 : Int32), H)) else ((xgI H a0 11 62).bind fun v3 =>
  (xgA H a0 11 63).bind fun v4 =>
  (xgI H a0 11 46).bind fun v5 =>
  (xsI .int H v4 ((40 : Int32) * v3) v5).bind fun H6 =>
  (xgA H6 a0 11 63).bind fun v7 =>
  (xgI H6 a0 11 47).bind fun v8 =>
  (xsI .int H6 v7 (((40 : Int32) * v3) + (1 : Int32)) v8).bind fun H9 =>
  (xgA H9 a0 11 63).bind fun v10 =>
  (xgI H9 a0 11 51).bind fun v11 =>
  (xsI .int H9 v10 (((40 : Int32) * v3) + (2 : Int32)) v11).bind fun H12 =>
  (F_X12_image_L54 N (F_X12_image_J81 N) N) a0 ((40 : Int32) * v3) (0 : Int32) H12)
set_option maxRecDepth 20000 in
set_option maxHeartbeats 4000000 in
theorem P_X12_image {N : Nat} {Z : xZ} {rv : Int32} {Hf : xH} (hZ : Z = xZm cX12_image yX12_image 3 1 (some .int) (some (.int rv)) Hf) : ∀ (a0 : (Option Nat)) (H : xH), F_X12_image N a0 H = some (rv, Hf) → xWq Z H 0 [xA a0, xN, xN] [] := by
  have hz : Z.1 = (cX12_image, yX12_image, 3) := by rw [hZ]; rfl
  have hδ : Z.2.1 = 1 := by rw [hZ]; rfl
  intro a0 H h
  unfold F_X12_image at h
  refine x_aload_n hz dX12_image_0 rfl ?_
  obtain ⟨v1, e_v1, h⟩ := x_bnd h
  refine x_getI hz dX12_image_1 fs_X12_310 e_v1 ?_
  refine x_iconst (v := (4 : Int32)) hz dX12_image_4 (by decide) ?_
  refine x_icmp_ne (t := 10) hz dX12_image_5 (by decide) (fun c2 => ?_) (fun c2 => ?_)
  · replace h := x_in c2 h
    refine x_bipush (v := (40 : Int32)) hz dX12_image_10 (by decide) ?_
    refine x_aload_n hz dX12_image_12 rfl ?_
    obtain ⟨v3, e_v3, h⟩ := x_bnd h
    refine x_getI hz dX12_image_13 fs_X12_310 e_v3 ?_
    refine x_imul hz dX12_image_16 ?_
    refine x_istore_n (pl' := [xA a0, xI ((40 : Int32) * v3), xN]) hz dX12_image_17 (by decide) rfl ?_
    refine x_aload_n hz dX12_image_18 rfl ?_
    obtain ⟨v4, e_v4, h⟩ := x_bnd h
    refine x_getA hz dX12_image_19 fs_X12_121 e_v4 ?_
    refine x_iload_n hz dX12_image_22 rfl ?_
    refine x_aload_n hz dX12_image_23 rfl ?_
    obtain ⟨v5, e_v5, h⟩ := x_bnd h
    refine x_getI hz dX12_image_24 fs_X12_301 e_v5 ?_
    obtain ⟨H6, e_H6, h⟩ := x_bnd h
    refine x_iast hz dX12_image_27 e_H6 ?_
    refine x_aload_n hz dX12_image_28 rfl ?_
    obtain ⟨v7, e_v7, h⟩ := x_bnd h
    refine x_getA hz dX12_image_29 fs_X12_121 e_v7 ?_
    refine x_iload_n hz dX12_image_32 rfl ?_
    refine x_iconst (v := (1 : Int32)) hz dX12_image_33 (by decide) ?_
    refine x_iadd hz dX12_image_34 ?_
    refine x_aload_n hz dX12_image_35 rfl ?_
    obtain ⟨v8, e_v8, h⟩ := x_bnd h
    refine x_getI hz dX12_image_36 fs_X12_304 e_v8 ?_
    obtain ⟨H9, e_H9, h⟩ := x_bnd h
    refine x_iast hz dX12_image_39 e_H9 ?_
    refine x_aload_n hz dX12_image_40 rfl ?_
    obtain ⟨v10, e_v10, h⟩ := x_bnd h
    refine x_getA hz dX12_image_41 fs_X12_121 e_v10 ?_
    refine x_iload_n hz dX12_image_44 rfl ?_
    refine x_iconst (v := (2 : Int32)) hz dX12_image_45 (by decide) ?_
    refine x_iadd hz dX12_image_46 ?_
    refine x_aload_n hz dX12_image_47 rfl ?_
    obtain ⟨v11, e_v11, h⟩ := x_bnd h
    refine x_getI hz dX12_image_48 fs_X12_307 e_v11 ?_
    obtain ⟨H12, e_H12, h⟩ := x_bnd h
    refine x_iast hz dX12_image_51 e_H12 ?_
    refine x_iconst (v := (0 : Int32)) hz dX12_image_52 (by decide) ?_
    refine x_istore_n (pl' := [xA a0, xI ((40 : Int32) * v3), xI (0 : Int32)]) hz dX12_image_53 (by decide) rfl ?_
    exact x_wk (xwk_c (xwk_c (xwk_c xwk_0))) ((P_X12_image_L54 hZ (P_X12_image_J81 hZ) N) a0 ((40 : Int32) * v3) (0 : Int32) H12 h)
  · replace h := x_ip c2 h
    refine x_iconst (v := (-1 : Int32)) hz dX12_image_8 (by decide) ?_
    cases h
    exact x_iret hZ dX12_image_9
theorem M_X12_image {N : Nat} {a0 : (Option Nat)} {H H1 : xH} {r1 : Int32} (h : F_X12_image N a0 H = some (r1, H1)) : xM yX12_image cX12_image 3 (some .int) 1 [.inr (.inr a0)] H (some (.int r1)) H1 :=
  xM_of (by decide +kernel) (xT_tb 1548 (by decide +kernel) (by decide +kernel)) (by simp [xargs, x2]) rfl (P_X12_image rfl a0 H h)
/-! BettingBookModel.back(I)Z -/
noncomputable def F_X12_back_J57 (N : Nat) (k57 : (Option Nat) → Int32 → Int32 → xH → Option (Int32 × xH)) (k84 : (Option Nat) → Int32 → xH → Option (Int32 × xH)) (x0 : (Option Nat)) (x2 : Int32) (x3 : Int32) (H : xH) : Option (Int32 × xH) :=
  if (5 : Int32) ≤ x3 then (k84 x0 x2 H) else ((xgA H x0 11 48).bind fun v2 =>
  (xgA H x0 11 63).bind fun v3 =>
  (xlI .int H v3 ((x2 + (3 : Int32)) + x3)).bind fun v4 =>
  (xsI .int H v2 x3 v4).bind fun H5 =>
  k57 x0 x2 (x3 + 1) H5)
set_option maxRecDepth 20000 in
set_option maxHeartbeats 4000000 in
theorem P_X12_back_J57 {N : Nat} {Z : xZ} {rv : Int32} {Hf : xH} (hZ : Z = xZm cX12_back yX12_back 4 2 (some .boolean) (some (.int rv)) Hf) {k57 : (Option Nat) → Int32 → Int32 → xH → Option (Int32 × xH)} (hk57 : ∀ (x0 : (Option Nat)) (x2 : Int32) (x3 : Int32) (H : xH), k57 x0 x2 x3 H = some (rv, Hf) → xWq Z H 57 [xA x0, xN, xI x2, xI x3] []) {k84 : (Option Nat) → Int32 → xH → Option (Int32 × xH)} (hk84 : ∀ (x0 : (Option Nat)) (x2 : Int32) (H : xH), k84 x0 x2 H = some (rv, Hf) → xWq Z H 84 [xA x0, xN, xI x2, xN] []) : ∀ (x0 : (Option Nat)) (x2 : Int32) (x3 : Int32) (H : xH), F_X12_back_J57 N k57 k84 x0 x2 x3 H = some (rv, Hf) → xWq Z H 57 [xA x0, xN, xI x2, xI x3] [] := by
  have hz : Z.1 = (cX12_back, yX12_back, 4) := by rw [hZ]; rfl
  have hδ : Z.2.1 = 2 := by rw [hZ]; rfl
  intro x0 x2 x3 H h
  unfold F_X12_back_J57 at h
  refine x_iload_n hz dX12_back_57 rfl ?_
  refine x_iconst (v := (5 : Int32)) hz dX12_back_58 (by decide) ?_
  refine x_icmp_ge (t := 84) hz dX12_back_59 (by decide) (fun c1 => ?_) (fun c1 => ?_)
  · replace h := x_ip c1 h
    exact x_wk (xwk_c (xwk_n (xwk_c (xwk_n xwk_0)))) (hk84 x0 x2 H h)
  · replace h := x_in c1 h
    refine x_aload_n hz dX12_back_62 rfl ?_
    obtain ⟨v2, e_v2, h⟩ := x_bnd h
    refine x_getA hz dX12_back_63 fs_X12_94 e_v2 ?_
    refine x_iload_n hz dX12_back_66 rfl ?_
    refine x_aload_n hz dX12_back_67 rfl ?_
    obtain ⟨v3, e_v3, h⟩ := x_bnd h
    refine x_getA hz dX12_back_68 fs_X12_121 e_v3 ?_
    refine x_iload_n hz dX12_back_71 rfl ?_
    refine x_iconst (v := (3 : Int32)) hz dX12_back_72 (by decide) ?_
    refine x_iadd hz dX12_back_73 ?_
    refine x_iload_n hz dX12_back_74 rfl ?_
    refine x_iadd hz dX12_back_75 ?_
    obtain ⟨v4, e_v4, h⟩ := x_bnd h
    refine x_iald hz dX12_back_76 e_v4 ?_
    obtain ⟨H5, e_H5, h⟩ := x_bnd h
    refine x_iast hz dX12_back_77 e_H5 ?_
    refine x_iinc (w := (x3 + 1)) (pl' := [xA x0, xN, xI x2, xI (x3 + 1)]) hz dX12_back_78 rfl rfl (by decide) rfl ?_
    refine x_goto (t := 57) hz dX12_back_81 (by decide) ?_
    exact x_wk (xwk_c (xwk_n (xwk_c (xwk_c xwk_0)))) (hk57 x0 x2 (x3 + 1) H5 h)
noncomputable def F_X12_back_L57 (N : Nat) (k84 : (Option Nat) → Int32 → xH → Option (Int32 × xH)) : Nat → (Option Nat) → Int32 → Int32 → xH → Option (Int32 × xH)
  | 0 => fun _ _ _ _ => none
  | n + 1 => F_X12_back_J57 N (F_X12_back_L57 N k84 n) k84
theorem P_X12_back_L57 {N : Nat} {Z : xZ} {rv : Int32} {Hf : xH} (hZ : Z = xZm cX12_back yX12_back 4 2 (some .boolean) (some (.int rv)) Hf) {k84 : (Option Nat) → Int32 → xH → Option (Int32 × xH)} (hk84 : ∀ (x0 : (Option Nat)) (x2 : Int32) (H : xH), k84 x0 x2 H = some (rv, Hf) → xWq Z H 84 [xA x0, xN, xI x2, xN] []) : ∀ (n : Nat) (x0 : (Option Nat)) (x2 : Int32) (x3 : Int32) (H : xH), F_X12_back_L57 N k84 n x0 x2 x3 H = some (rv, Hf) → xWq Z H 57 [xA x0, xN, xI x2, xI x3] [] := by
  intro n
  induction n with
  | zero => intro _ _ _ _ h; cases h
  | succ n ih => exact P_X12_back_J57 hZ ih hk84
noncomputable def F_X12_back_J86 (N : Nat) (k86 : (Option Nat) → Int32 → Int32 → xH → Option (Int32 × xH)) (k115 : (Option Nat) → Int32 → xH → Option (Int32 × xH)) (x0 : (Option Nat)) (x2 : Int32) (x3 : Int32) (H : xH) : Option (Int32 × xH) :=
  if (24 : Int32) ≤ x3 then (k115 x0 x2 H) else ((xgA H x0 11 52).bind fun v2 =>
  (xgA H x0 11 63).bind fun v3 =>
  (xlI .int H v3 ((x2 + (8 : Int32)) + x3)).bind fun v4 =>
  (xsI .int H v2 x3 v4).bind fun H5 =>
  k86 x0 x2 (x3 + 1) H5)
set_option maxRecDepth 20000 in
set_option maxHeartbeats 4000000 in
theorem P_X12_back_J86 {N : Nat} {Z : xZ} {rv : Int32} {Hf : xH} (hZ : Z = xZm cX12_back yX12_back 4 2 (some .boolean) (some (.int rv)) Hf) {k86 : (Option Nat) → Int32 → Int32 → xH → Option (Int32 × xH)} (hk86 : ∀ (x0 : (Option Nat)) (x2 : Int32) (x3 : Int32) (H : xH), k86 x0 x2 x3 H = some (rv, Hf) → xWq Z H 86 [xA x0, xN, xI x2, xI x3] []) {k115 : (Option Nat) → Int32 → xH → Option (Int32 × xH)} (hk115 : ∀ (x0 : (Option Nat)) (x2 : Int32) (H : xH), k115 x0 x2 H = some (rv, Hf) → xWq Z H 115 [xA x0, xN, xI x2, xN] []) : ∀ (x0 : (Option Nat)) (x2 : Int32) (x3 : Int32) (H : xH), F_X12_back_J86 N k86 k115 x0 x2 x3 H = some (rv, Hf) → xWq Z H 86 [xA x0, xN, xI x2, xI x3] [] := by
  have hz : Z.1 = (cX12_back, yX12_back, 4) := by rw [hZ]; rfl
  have hδ : Z.2.1 = 2 := by rw [hZ]; rfl
  intro x0 x2 x3 H h
  unfold F_X12_back_J86 at h
  refine x_iload_n hz dX12_back_86 rfl ?_
  refine x_bipush (v := (24 : Int32)) hz dX12_back_87 (by decide) ?_
  refine x_icmp_ge (t := 115) hz dX12_back_89 (by decide) (fun c1 => ?_) (fun c1 => ?_)
  · replace h := x_ip c1 h
    exact x_wk (xwk_c (xwk_n (xwk_c (xwk_n xwk_0)))) (hk115 x0 x2 H h)
  · replace h := x_in c1 h
    refine x_aload_n hz dX12_back_92 rfl ?_
    obtain ⟨v2, e_v2, h⟩ := x_bnd h
    refine x_getA hz dX12_back_93 fs_X12_100 e_v2 ?_
    refine x_iload_n hz dX12_back_96 rfl ?_
    refine x_aload_n hz dX12_back_97 rfl ?_
    obtain ⟨v3, e_v3, h⟩ := x_bnd h
    refine x_getA hz dX12_back_98 fs_X12_121 e_v3 ?_
    refine x_iload_n hz dX12_back_101 rfl ?_
    refine x_bipush (v := (8 : Int32)) hz dX12_back_102 (by decide) ?_
    refine x_iadd hz dX12_back_104 ?_
    refine x_iload_n hz dX12_back_105 rfl ?_
    refine x_iadd hz dX12_back_106 ?_
    obtain ⟨v4, e_v4, h⟩ := x_bnd h
    refine x_iald hz dX12_back_107 e_v4 ?_
    obtain ⟨H5, e_H5, h⟩ := x_bnd h
    refine x_iast hz dX12_back_108 e_H5 ?_
    refine x_iinc (w := (x3 + 1)) (pl' := [xA x0, xN, xI x2, xI (x3 + 1)]) hz dX12_back_109 rfl rfl (by decide) rfl ?_
    refine x_goto (t := 86) hz dX12_back_112 (by decide) ?_
    exact x_wk (xwk_c (xwk_n (xwk_c (xwk_c xwk_0)))) (hk86 x0 x2 (x3 + 1) H5 h)
noncomputable def F_X12_back_L86 (N : Nat) (k115 : (Option Nat) → Int32 → xH → Option (Int32 × xH)) : Nat → (Option Nat) → Int32 → Int32 → xH → Option (Int32 × xH)
  | 0 => fun _ _ _ _ => none
  | n + 1 => F_X12_back_J86 N (F_X12_back_L86 N k115 n) k115
theorem P_X12_back_L86 {N : Nat} {Z : xZ} {rv : Int32} {Hf : xH} (hZ : Z = xZm cX12_back yX12_back 4 2 (some .boolean) (some (.int rv)) Hf) {k115 : (Option Nat) → Int32 → xH → Option (Int32 × xH)} (hk115 : ∀ (x0 : (Option Nat)) (x2 : Int32) (H : xH), k115 x0 x2 H = some (rv, Hf) → xWq Z H 115 [xA x0, xN, xI x2, xN] []) : ∀ (n : Nat) (x0 : (Option Nat)) (x2 : Int32) (x3 : Int32) (H : xH), F_X12_back_L86 N k115 n x0 x2 x3 H = some (rv, Hf) → xWq Z H 86 [xA x0, xN, xI x2, xI x3] [] := by
  intro n
  induction n with
  | zero => intro _ _ _ _ h; cases h
  | succ n ih => exact P_X12_back_J86 hZ ih hk115
noncomputable def F_X12_back_J117 (N : Nat) (k117 : (Option Nat) → Int32 → Int32 → xH → Option (Int32 × xH)) (x0 : (Option Nat)) (x2 : Int32) (x3 : Int32) (H : xH) : Option (Int32 × xH) :=
  if (6 : Int32) ≤ x3 then (some ((1 : Int32), H)) else ((xgA H x0 11 53).bind fun v2 =>
  (xgA H x0 11 63).bind fun v3 =>
  (xlI .int H v3 ((x2 + (32 : Int32)) + x3)).bind fun v4 =>
  (xsI .int H v2 x3 v4).bind fun H5 =>
  k117 x0 x2 (x3 + 1) H5)
set_option maxRecDepth 20000 in
set_option maxHeartbeats 4000000 in
theorem P_X12_back_J117 {N : Nat} {Z : xZ} {rv : Int32} {Hf : xH} (hZ : Z = xZm cX12_back yX12_back 4 2 (some .boolean) (some (.int rv)) Hf) {k117 : (Option Nat) → Int32 → Int32 → xH → Option (Int32 × xH)} (hk117 : ∀ (x0 : (Option Nat)) (x2 : Int32) (x3 : Int32) (H : xH), k117 x0 x2 x3 H = some (rv, Hf) → xWq Z H 117 [xA x0, xN, xI x2, xI x3] []) : ∀ (x0 : (Option Nat)) (x2 : Int32) (x3 : Int32) (H : xH), F_X12_back_J117 N k117 x0 x2 x3 H = some (rv, Hf) → xWq Z H 117 [xA x0, xN, xI x2, xI x3] [] := by
  have hz : Z.1 = (cX12_back, yX12_back, 4) := by rw [hZ]; rfl
  have hδ : Z.2.1 = 2 := by rw [hZ]; rfl
  intro x0 x2 x3 H h
  unfold F_X12_back_J117 at h
  refine x_iload_n hz dX12_back_117 rfl ?_
  refine x_bipush (v := (6 : Int32)) hz dX12_back_118 (by decide) ?_
  refine x_icmp_ge (t := 146) hz dX12_back_120 (by decide) (fun c1 => ?_) (fun c1 => ?_)
  · replace h := x_ip c1 h
    refine x_iconst (v := (1 : Int32)) hz dX12_back_146 (by decide) ?_
    cases h
    exact x_zret01 hZ (Or.inr rfl) dX12_back_147
  · replace h := x_in c1 h
    refine x_aload_n hz dX12_back_123 rfl ?_
    obtain ⟨v2, e_v2, h⟩ := x_bnd h
    refine x_getA hz dX12_back_124 fs_X12_103 e_v2 ?_
    refine x_iload_n hz dX12_back_127 rfl ?_
    refine x_aload_n hz dX12_back_128 rfl ?_
    obtain ⟨v3, e_v3, h⟩ := x_bnd h
    refine x_getA hz dX12_back_129 fs_X12_121 e_v3 ?_
    refine x_iload_n hz dX12_back_132 rfl ?_
    refine x_bipush (v := (32 : Int32)) hz dX12_back_133 (by decide) ?_
    refine x_iadd hz dX12_back_135 ?_
    refine x_iload_n hz dX12_back_136 rfl ?_
    refine x_iadd hz dX12_back_137 ?_
    obtain ⟨v4, e_v4, h⟩ := x_bnd h
    refine x_iald hz dX12_back_138 e_v4 ?_
    obtain ⟨H5, e_H5, h⟩ := x_bnd h
    refine x_iast hz dX12_back_139 e_H5 ?_
    refine x_iinc (w := (x3 + 1)) (pl' := [xA x0, xN, xI x2, xI (x3 + 1)]) hz dX12_back_140 rfl rfl (by decide) rfl ?_
    refine x_goto (t := 117) hz dX12_back_143 (by decide) ?_
    exact x_wk (xwk_c (xwk_n (xwk_c (xwk_c xwk_0)))) (hk117 x0 x2 (x3 + 1) H5 h)
noncomputable def F_X12_back_L117 (N : Nat) : Nat → (Option Nat) → Int32 → Int32 → xH → Option (Int32 × xH)
  | 0 => fun _ _ _ _ => none
  | n + 1 => F_X12_back_J117 N (F_X12_back_L117 N n)
theorem P_X12_back_L117 {N : Nat} {Z : xZ} {rv : Int32} {Hf : xH} (hZ : Z = xZm cX12_back yX12_back 4 2 (some .boolean) (some (.int rv)) Hf) : ∀ (n : Nat) (x0 : (Option Nat)) (x2 : Int32) (x3 : Int32) (H : xH), F_X12_back_L117 N n x0 x2 x3 H = some (rv, Hf) → xWq Z H 117 [xA x0, xN, xI x2, xI x3] [] := by
  intro n
  induction n with
  | zero => intro _ _ _ _ h; cases h
  | succ n ih => exact P_X12_back_J117 hZ ih
noncomputable def F_X12_back_J115 (N : Nat) (x0 : (Option Nat)) (x2 : Int32) (H : xH) : Option (Int32 × xH) :=
  (F_X12_back_L117 N N) x0 x2 (0 : Int32) H
set_option maxRecDepth 20000 in
set_option maxHeartbeats 4000000 in
theorem P_X12_back_J115 {N : Nat} {Z : xZ} {rv : Int32} {Hf : xH} (hZ : Z = xZm cX12_back yX12_back 4 2 (some .boolean) (some (.int rv)) Hf) : ∀ (x0 : (Option Nat)) (x2 : Int32) (H : xH), F_X12_back_J115 N x0 x2 H = some (rv, Hf) → xWq Z H 115 [xA x0, xN, xI x2, xN] [] := by
  have hz : Z.1 = (cX12_back, yX12_back, 4) := by rw [hZ]; rfl
  have hδ : Z.2.1 = 2 := by rw [hZ]; rfl
  intro x0 x2 H h
  unfold F_X12_back_J115 at h
  refine x_iconst (v := (0 : Int32)) hz dX12_back_115 (by decide) ?_
  refine x_istore_n (pl' := [xA x0, xN, xI x2, xI (0 : Int32)]) hz dX12_back_116 (by decide) rfl ?_
  exact x_wk (xwk_c (xwk_n (xwk_c (xwk_c xwk_0)))) ((P_X12_back_L117 hZ N) x0 x2 (0 : Int32) H h)
noncomputable def F_X12_back_J84 (N : Nat) (x0 : (Option Nat)) (x2 : Int32) (H : xH) : Option (Int32 × xH) :=
  (F_X12_back_L86 N (F_X12_back_J115 N) N) x0 x2 (0 : Int32) H
set_option maxRecDepth 20000 in
set_option maxHeartbeats 4000000 in
theorem P_X12_back_J84 {N : Nat} {Z : xZ} {rv : Int32} {Hf : xH} (hZ : Z = xZm cX12_back yX12_back 4 2 (some .boolean) (some (.int rv)) Hf) : ∀ (x0 : (Option Nat)) (x2 : Int32) (H : xH), F_X12_back_J84 N x0 x2 H = some (rv, Hf) → xWq Z H 84 [xA x0, xN, xI x2, xN] [] := by
  have hz : Z.1 = (cX12_back, yX12_back, 4) := by rw [hZ]; rfl
  have hδ : Z.2.1 = 2 := by rw [hZ]; rfl
  intro x0 x2 H h
  unfold F_X12_back_J84 at h
  refine x_iconst (v := (0 : Int32)) hz dX12_back_84 (by decide) ?_
  refine x_istore_n (pl' := [xA x0, xN, xI x2, xI (0 : Int32)]) hz dX12_back_85 (by decide) rfl ?_
  exact x_wk (xwk_c (xwk_n (xwk_c (xwk_c xwk_0)))) ((P_X12_back_L86 hZ (P_X12_back_J115 hZ) N) x0 x2 (0 : Int32) H h)
noncomputable def F_X12_back (N : Nat) (a0 : (Option Nat)) (a1 : Int32) (H : xH) : Option (Int32 × xH) :=
  (xgI H a0 11 62).bind fun v1 =>
  x_bd2 (F_X12_isIn N a1 (0 : Int32) (v1 - (1 : Int32)) H) fun v3 H2 =>
  if v3 = 0 then (some ((0 : Int32), H2)) else ((xgA H2 a0 11 63).bind fun v5 =>
  (xlI .int H2 v5 ((40 : Int32) * a1)).bind fun v6 =>
  (xpI H2 a0 11 46 v6).bind fun H7 =>
  (xgA H7 a0 11 63).bind fun v8 =>
  (xlI .int H7 v8 (((40 : Int32) * a1) + (1 : Int32))).bind fun v9 =>
  (xpI H7 a0 11 47 v9).bind fun H10 =>
  (xgA H10 a0 11 63).bind fun v11 =>
  (xlI .int H10 v11 (((40 : Int32) * a1) + (2 : Int32))).bind fun v12 =>
  (xpI H10 a0 11 51 v12).bind fun H13 =>
  (F_X12_back_L57 N (F_X12_back_J84 N) N) a0 ((40 : Int32) * a1) (0 : Int32) H13)
set_option maxRecDepth 20000 in
set_option maxHeartbeats 4000000 in
theorem P_X12_back {N : Nat} {Z : xZ} {rv : Int32} {Hf : xH} (hZ : Z = xZm cX12_back yX12_back 4 2 (some .boolean) (some (.int rv)) Hf) : ∀ (a0 : (Option Nat)) (a1 : Int32) (H : xH), F_X12_back N a0 a1 H = some (rv, Hf) → xWq Z H 0 [xA a0, xI a1, xN, xN] [] := by
  have hz : Z.1 = (cX12_back, yX12_back, 4) := by rw [hZ]; rfl
  have hδ : Z.2.1 = 2 := by rw [hZ]; rfl
  intro a0 a1 H h
  unfold F_X12_back at h
  refine x_iload_n hz dX12_back_0 rfl ?_
  refine x_iconst (v := (0 : Int32)) hz dX12_back_1 (by decide) ?_
  refine x_aload_n hz dX12_back_2 rfl ?_
  obtain ⟨v1, e_v1, h⟩ := x_bnd h
  refine x_getI hz dX12_back_3 fs_X12_310 e_v1 ?_
  refine x_iconst (v := (1 : Int32)) hz dX12_back_6 (by decide) ?_
  refine x_isub hz dX12_back_7 ?_
  obtain ⟨v3, H2, e_H2, h⟩ := x_b2 h
  refine x_callSi (as := [.inl a1, .inl (0 : Int32), .inl (v1 - (1 : Int32))]) (st := []) cs_X12_153 rfl rfl hz (by omega) (by decide) dX12_back_8 (M_X12_isIn e_H2) ?_
  refine x_if_ne (t := 16) hz dX12_back_11 (by decide) (fun c4 => ?_) (fun c4 => ?_)
  · replace h := x_in c4 h
    refine x_bipush (v := (40 : Int32)) hz dX12_back_16 (by decide) ?_
    refine x_iload_n hz dX12_back_18 rfl ?_
    refine x_imul hz dX12_back_19 ?_
    refine x_istore_n (pl' := [xA a0, xI a1, xI ((40 : Int32) * a1), xN]) hz dX12_back_20 (by decide) rfl ?_
    refine x_aload_n hz dX12_back_21 rfl ?_
    refine x_aload_n hz dX12_back_22 rfl ?_
    obtain ⟨v5, e_v5, h⟩ := x_bnd h
    refine x_getA hz dX12_back_23 fs_X12_121 e_v5 ?_
    refine x_iload_n hz dX12_back_26 rfl ?_
    obtain ⟨v6, e_v6, h⟩ := x_bnd h
    refine x_iald hz dX12_back_27 e_v6 ?_
    obtain ⟨H7, e_H7, h⟩ := x_bnd h
    refine x_putV (v := .int v6) hz dX12_back_28 fs_X12_301 rfl rfl e_H7 ?_
    refine x_aload_n hz dX12_back_31 rfl ?_
    refine x_aload_n hz dX12_back_32 rfl ?_
    obtain ⟨v8, e_v8, h⟩ := x_bnd h
    refine x_getA hz dX12_back_33 fs_X12_121 e_v8 ?_
    refine x_iload_n hz dX12_back_36 rfl ?_
    refine x_iconst (v := (1 : Int32)) hz dX12_back_37 (by decide) ?_
    refine x_iadd hz dX12_back_38 ?_
    obtain ⟨v9, e_v9, h⟩ := x_bnd h
    refine x_iald hz dX12_back_39 e_v9 ?_
    obtain ⟨H10, e_H10, h⟩ := x_bnd h
    refine x_putV (v := .int v9) hz dX12_back_40 fs_X12_304 rfl rfl e_H10 ?_
    refine x_aload_n hz dX12_back_43 rfl ?_
    refine x_aload_n hz dX12_back_44 rfl ?_
    obtain ⟨v11, e_v11, h⟩ := x_bnd h
    refine x_getA hz dX12_back_45 fs_X12_121 e_v11 ?_
    refine x_iload_n hz dX12_back_48 rfl ?_
    refine x_iconst (v := (2 : Int32)) hz dX12_back_49 (by decide) ?_
    refine x_iadd hz dX12_back_50 ?_
    obtain ⟨v12, e_v12, h⟩ := x_bnd h
    refine x_iald hz dX12_back_51 e_v12 ?_
    obtain ⟨H13, e_H13, h⟩ := x_bnd h
    refine x_putV (v := .int v12) hz dX12_back_52 fs_X12_307 rfl rfl e_H13 ?_
    refine x_iconst (v := (0 : Int32)) hz dX12_back_55 (by decide) ?_
    refine x_istore_n (pl' := [xA a0, xI a1, xI ((40 : Int32) * a1), xI (0 : Int32)]) hz dX12_back_56 (by decide) rfl ?_
    exact x_wk (xwk_c (xwk_n (xwk_c (xwk_c xwk_0)))) ((P_X12_back_L57 hZ (P_X12_back_J84 hZ) N) a0 ((40 : Int32) * a1) (0 : Int32) H13 h)
  · replace h := x_ip c4 h
    refine x_iconst (v := (0 : Int32)) hz dX12_back_14 (by decide) ?_
    cases h
    exact x_zret01 hZ (Or.inl rfl) dX12_back_15
theorem M_X12_back {N : Nat} {a0 : (Option Nat)} {a1 : Int32} {H H1 : xH} {r1 : Int32} (h : F_X12_back N a0 a1 H = some (r1, H1)) : xM yX12_back cX12_back 4 (some .boolean) 2 [.inr (.inr a0), .inl a1] H (some (.int r1)) H1 :=
  xM_of (by decide +kernel) (xT_tb 1552 (by decide +kernel) (by decide +kernel)) (by simp [xargs, x2]) rfl (P_X12_back rfl a0 a1 H h)
/-! BettingBookModel.count(I)I -/
noncomputable def F_X12_count_J79 (N : Nat) (k79 : (Option Nat) → Int32 → Int32 → xH → Option (Int32 × xH)) (x0 : (Option Nat)) (x2 : Int32) (x3 : Int32) (H : xH) : Option (Int32 × xH) :=
  (xgI H x0 11 2).bind fun v1 =>
  if v1 ≤ x3 then (some (x2, H)) else ((xob H x0 11).bind fun b4 =>
  x_bd2 (F_X12_isSure N x0 x3 H) fun v5 H3 =>
  x_bd2 (F_X12_unit N v5 H3) fun v7 H6 =>
  k79 x0 (x2 + v7) (x3 + 1) H6)
set_option maxRecDepth 20000 in
set_option maxHeartbeats 4000000 in
theorem P_X12_count_J79 {N : Nat} {Z : xZ} {rv : Int32} {Hf : xH} (hZ : Z = xZm cX12_count yX12_count 4 4 (some .int) (some (.int rv)) Hf) {k79 : (Option Nat) → Int32 → Int32 → xH → Option (Int32 × xH)} (hk79 : ∀ (x0 : (Option Nat)) (x2 : Int32) (x3 : Int32) (H : xH), k79 x0 x2 x3 H = some (rv, Hf) → xWq Z H 79 [xA x0, xN, xI x2, xI x3] []) : ∀ (x0 : (Option Nat)) (x2 : Int32) (x3 : Int32) (H : xH), F_X12_count_J79 N k79 x0 x2 x3 H = some (rv, Hf) → xWq Z H 79 [xA x0, xN, xI x2, xI x3] [] := by
  have hz : Z.1 = (cX12_count, yX12_count, 4) := by rw [hZ]; rfl
  have hδ : Z.2.1 = 4 := by rw [hZ]; rfl
  intro x0 x2 x3 H h
  unfold F_X12_count_J79 at h
  refine x_iload_n hz dX12_count_79 rfl ?_
  refine x_aload_n hz dX12_count_80 rfl ?_
  obtain ⟨v1, e_v1, h⟩ := x_bnd h
  refine x_getI hz dX12_count_81 fs_X12_288 e_v1 ?_
  refine x_icmp_ge (t := 104) hz dX12_count_84 (by decide) (fun c2 => ?_) (fun c2 => ?_)
  · replace h := x_ip c2 h
    refine x_iload_n hz dX12_count_104 rfl ?_
    cases h
    exact x_iret hZ dX12_count_105
  · replace h := x_in c2 h
    refine x_iload_n hz dX12_count_87 rfl ?_
    refine x_aload_n hz dX12_count_88 rfl ?_
    refine x_iload_n hz dX12_count_89 rfl ?_
    obtain ⟨b4, e_b4, h⟩ := x_bnd h
    obtain ⟨v5, H3, e_H3, h⟩ := x_b2 h
    refine x_callVi (as := [.inl x3]) (st := [.int x2]) cs_X12_372 (ci := 11) ⟨rfl, rfl⟩ rfl rfl hz (by omega) (Nat.le_trans (x_sm1 rfl x_sm0) (by decide)) dX12_count_90 e_b4 (M_X12_isSure e_H3) ?_
    obtain ⟨v7, H6, e_H6, h⟩ := x_b2 h
    refine x_callSi (as := [.inl v5]) (st := [.int x2]) cs_X12_319 rfl rfl hz (by omega) (Nat.le_trans (x_sm1 rfl x_sm0) (by decide)) dX12_count_93 (M_X12_unit e_H6) ?_
    refine x_iadd hz dX12_count_96 ?_
    refine x_istore_n (pl' := [xA x0, xN, xI (x2 + v7), xI x3]) hz dX12_count_97 (by decide) rfl ?_
    refine x_iinc (w := (x3 + 1)) (pl' := [xA x0, xN, xI (x2 + v7), xI (x3 + 1)]) hz dX12_count_98 rfl rfl (by decide) rfl ?_
    refine x_goto (t := 79) hz dX12_count_101 (by decide) ?_
    exact x_wk (xwk_c (xwk_n (xwk_c (xwk_c xwk_0)))) (hk79 x0 (x2 + v7) (x3 + 1) H6 h)
noncomputable def F_X12_count_L79 (N : Nat) : Nat → (Option Nat) → Int32 → Int32 → xH → Option (Int32 × xH)
  | 0 => fun _ _ _ _ => none
  | n + 1 => F_X12_count_J79 N (F_X12_count_L79 N n)
theorem P_X12_count_L79 {N : Nat} {Z : xZ} {rv : Int32} {Hf : xH} (hZ : Z = xZm cX12_count yX12_count 4 4 (some .int) (some (.int rv)) Hf) : ∀ (n : Nat) (x0 : (Option Nat)) (x2 : Int32) (x3 : Int32) (H : xH), F_X12_count_L79 N n x0 x2 x3 H = some (rv, Hf) → xWq Z H 79 [xA x0, xN, xI x2, xI x3] [] := by
  intro n
  induction n with
  | zero => intro _ _ _ _ h; cases h
  | succ n ih => exact P_X12_count_J79 hZ ih
noncomputable def F_X12_count (N : Nat) (a0 : (Option Nat)) (a1 : Int32) (H : xH) : Option (Int32 × xH) :=
  if a1 = 0 then ((xgI H a0 11 5).bind fun v2 =>
  some (v2, H)) else (if a1 = 1 then ((xgI H a0 11 46).bind fun v4 =>
  some (v4, H)) else (if a1 = 2 then ((xgI H a0 11 47).bind fun v6 =>
  some (v6, H)) else (if a1 = 3 then ((xgI H a0 11 31).bind fun v8 =>
  some (v8, H)) else (if a1 = 4 then ((xgI H a0 11 62).bind fun v10 =>
  some (v10, H)) else (if a1 = 5 then ((F_X12_count_L79 N N) a0 (0 : Int32) (0 : Int32) H) else (if a1 = 6 then ((xob H a0 11).bind fun b14 =>
  x_bd2 (F_X12_possibleMany N a0 H) fun v15 H13 =>
  some (v15, H13)) else (if a1 = 7 then ((xob H a0 11).bind fun b18 =>
  x_bd2 (F_X12_areWhole N a0 H) fun v19 H17 =>
  x_bd2 (F_X12_unit N v19 H17) fun v21 H20 =>
  some (v21, H20)) else (if a1 = 8 then ((xgI H a0 11 51).bind fun v23 =>
  some (v23, H)) else (some ((-1 : Int32), H))))))))))
set_option maxRecDepth 20000 in
set_option maxHeartbeats 4000000 in
theorem P_X12_count {N : Nat} {Z : xZ} {rv : Int32} {Hf : xH} (hZ : Z = xZm cX12_count yX12_count 4 4 (some .int) (some (.int rv)) Hf) : ∀ (a0 : (Option Nat)) (a1 : Int32) (H : xH), F_X12_count N a0 a1 H = some (rv, Hf) → xWq Z H 0 [xA a0, xI a1, xN, xN] [] := by
  have hz : Z.1 = (cX12_count, yX12_count, 4) := by rw [hZ]; rfl
  have hδ : Z.2.1 = 4 := by rw [hZ]; rfl
  intro a0 a1 H h
  unfold F_X12_count at h
  refine x_iconst (v := (0 : Int32)) hz dX12_count_0 (by decide) ?_
  refine x_istore_n (pl' := [xA a0, xI a1, xI (0 : Int32), xN]) hz dX12_count_1 (by decide) rfl ?_
  refine x_iload_n hz dX12_count_2 rfl ?_
  by_cases c1 : a1 = 0
  · replace h := x_ip c1 h
    refine x_tsIn (t := 52) (off := 49) hz dX12_count_3 (by rw [c1]; decide) (by rw [c1]; decide) (by rw [c1]; decide) (by decide) ?_
    refine x_aload_n hz dX12_count_52 rfl ?_
    obtain ⟨v2, e_v2, h⟩ := x_bnd h
    refine x_getI hz dX12_count_53 fs_X12_313 e_v2 ?_
    cases h
    exact x_iret hZ dX12_count_56
  replace h := x_in c1 h
  by_cases c3 : a1 = 1
  · replace h := x_ip c3 h
    refine x_tsIn (t := 57) (off := 54) hz dX12_count_3 (by rw [c3]; decide) (by rw [c3]; decide) (by rw [c3]; decide) (by decide) ?_
    refine x_aload_n hz dX12_count_57 rfl ?_
    obtain ⟨v4, e_v4, h⟩ := x_bnd h
    refine x_getI hz dX12_count_58 fs_X12_301 e_v4 ?_
    cases h
    exact x_iret hZ dX12_count_61
  replace h := x_in c3 h
  by_cases c5 : a1 = 2
  · replace h := x_ip c5 h
    refine x_tsIn (t := 62) (off := 59) hz dX12_count_3 (by rw [c5]; decide) (by rw [c5]; decide) (by rw [c5]; decide) (by decide) ?_
    refine x_aload_n hz dX12_count_62 rfl ?_
    obtain ⟨v6, e_v6, h⟩ := x_bnd h
    refine x_getI hz dX12_count_63 fs_X12_304 e_v6 ?_
    cases h
    exact x_iret hZ dX12_count_66
  replace h := x_in c5 h
  by_cases c7 : a1 = 3
  · replace h := x_ip c7 h
    refine x_tsIn (t := 67) (off := 64) hz dX12_count_3 (by rw [c7]; decide) (by rw [c7]; decide) (by rw [c7]; decide) (by decide) ?_
    refine x_aload_n hz dX12_count_67 rfl ?_
    obtain ⟨v8, e_v8, h⟩ := x_bnd h
    refine x_getI hz dX12_count_68 fs_X12_127 e_v8 ?_
    cases h
    exact x_iret hZ dX12_count_71
  replace h := x_in c7 h
  by_cases c9 : a1 = 4
  · replace h := x_ip c9 h
    refine x_tsIn (t := 72) (off := 69) hz dX12_count_3 (by rw [c9]; decide) (by rw [c9]; decide) (by rw [c9]; decide) (by decide) ?_
    refine x_aload_n hz dX12_count_72 rfl ?_
    obtain ⟨v10, e_v10, h⟩ := x_bnd h
    refine x_getI hz dX12_count_73 fs_X12_310 e_v10 ?_
    cases h
    exact x_iret hZ dX12_count_76
  replace h := x_in c9 h
  by_cases c11 : a1 = 5
  · replace h := x_ip c11 h
    refine x_tsIn (t := 77) (off := 74) hz dX12_count_3 (by rw [c11]; decide) (by rw [c11]; decide) (by rw [c11]; decide) (by decide) ?_
    refine x_iconst (v := (0 : Int32)) hz dX12_count_77 (by decide) ?_
    refine x_istore_n (pl' := [xA a0, xI a1, xI (0 : Int32), xI (0 : Int32)]) hz dX12_count_78 (by decide) rfl ?_
    exact x_wk (xwk_c (xwk_n (xwk_c (xwk_c xwk_0)))) ((P_X12_count_L79 hZ N) a0 (0 : Int32) (0 : Int32) H h)
  replace h := x_in c11 h
  by_cases c12 : a1 = 6
  · replace h := x_ip c12 h
    refine x_tsIn (t := 106) (off := 103) hz dX12_count_3 (by rw [c12]; decide) (by rw [c12]; decide) (by rw [c12]; decide) (by decide) ?_
    refine x_aload_n hz dX12_count_106 rfl ?_
    obtain ⟨b14, e_b14, h⟩ := x_bnd h
    obtain ⟨v15, H13, e_H13, h⟩ := x_b2 h
    refine x_callVi (as := []) (st := []) cs_X12_450 (ci := 11) ⟨rfl, rfl⟩ rfl rfl hz (by omega) (by decide) dX12_count_107 e_b14 (M_X12_possibleMany e_H13) ?_
    cases h
    exact x_iret hZ dX12_count_110
  replace h := x_in c12 h
  by_cases c16 : a1 = 7
  · replace h := x_ip c16 h
    refine x_tsIn (t := 111) (off := 108) hz dX12_count_3 (by rw [c16]; decide) (by rw [c16]; decide) (by rw [c16]; decide) (by decide) ?_
    refine x_aload_n hz dX12_count_111 rfl ?_
    obtain ⟨b18, e_b18, h⟩ := x_bnd h
    obtain ⟨v19, H17, e_H17, h⟩ := x_b2 h
    refine x_callVi (as := []) (st := []) cs_X12_439 (ci := 11) ⟨rfl, rfl⟩ rfl rfl hz (by omega) (by decide) dX12_count_112 e_b18 (M_X12_areWhole e_H17) ?_
    obtain ⟨v21, H20, e_H20, h⟩ := x_b2 h
    refine x_callSi (as := [.inl v19]) (st := []) cs_X12_319 rfl rfl hz (by omega) (by decide) dX12_count_115 (M_X12_unit e_H20) ?_
    cases h
    exact x_iret hZ dX12_count_118
  replace h := x_in c16 h
  by_cases c22 : a1 = 8
  · replace h := x_ip c22 h
    refine x_tsIn (t := 119) (off := 116) hz dX12_count_3 (by rw [c22]; decide) (by rw [c22]; decide) (by rw [c22]; decide) (by decide) ?_
    refine x_aload_n hz dX12_count_119 rfl ?_
    obtain ⟨v23, e_v23, h⟩ := x_bnd h
    refine x_getI hz dX12_count_120 fs_X12_307 e_v23 ?_
    cases h
    exact x_iret hZ dX12_count_123
  replace h := x_in c22 h
  refine x_tsOut (t := 124) hz dX12_count_3 (x_tsN a1 (0) (8) (by decide) (by decide) (fun i h1 h2 => ?_)) (by decide) ?_
  · (have h3 : i = 0 ∨ i = 1 ∨ i = 2 ∨ i = 3 ∨ i = 4 ∨ i = 5 ∨ i = 6 ∨ i = 7 ∨ i = 8 := by omega); rcases h3 with rfl | rfl | rfl | rfl | rfl | rfl | rfl | rfl | rfl <;> intro e <;> first | exact c1 (Int32.toInt_inj.mp (e.trans rfl)) | exact c3 (Int32.toInt_inj.mp (e.trans rfl)) | exact c5 (Int32.toInt_inj.mp (e.trans rfl)) | exact c7 (Int32.toInt_inj.mp (e.trans rfl)) | exact c9 (Int32.toInt_inj.mp (e.trans rfl)) | exact c11 (Int32.toInt_inj.mp (e.trans rfl)) | exact c12 (Int32.toInt_inj.mp (e.trans rfl)) | exact c16 (Int32.toInt_inj.mp (e.trans rfl)) | exact c22 (Int32.toInt_inj.mp (e.trans rfl))
  refine x_iconst (v := (-1 : Int32)) hz dX12_count_124 (by decide) ?_
  cases h
  exact x_iret hZ dX12_count_125
theorem M_X12_count {N : Nat} {a0 : (Option Nat)} {a1 : Int32} {H H1 : xH} {r1 : Int32} (h : F_X12_count N a0 a1 H = some (r1, H1)) : xM yX12_count cX12_count 4 (some .int) 4 [.inr (.inr a0), .inl a1] H (some (.int r1)) H1 :=
  xM_of (by decide +kernel) (xT_tb 1556 (by decide +kernel) (by decide +kernel)) (by simp [xargs, x2]) rfl (P_X12_count rfl a0 a1 H h)
