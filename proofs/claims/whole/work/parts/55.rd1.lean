/-! PURE: STEPS fault, told, fits, pays, same. -/
theorem upto {s : Nat} {P : Nat → Nat → Prop} (h0 : ∀ m, P (m + 1) s) (h1 : ∀ m i, i < s → P m (i + 1) → P (m + 1) i) : ∀ m i, i ≤ s → s - i < m → P m i := by
  intro m
  induction m with
  | zero => intro i hi hm; omega
  | succ m ih =>
    intro i hi hm
    by_cases h : i = s
    · subst h; exact h0 m
    · exact h1 m i (by omega) (ih (i + 1) (by omega) (by omega))
/-- from i on, the first of n that P picks, or NONE -/
noncomputable def fsc (P : Nat → Prop) : Nat → Nat → Int32
  | 0, _ => -1
  | n + 1, i => @ite _ (P i) (Classical.propDecidable _) (nI i) (fsc P n (i + 1))
theorem fsc_t {P : Nat → Prop} {s i : Nat} (hi : i < s) (h : P i) : fsc P (s - i) i = nI i := by
  rw [show s - i = (s - i - 1) + 1 by omega]; unfold fsc; rw [if_pos h]
theorem fsc_f {P : Nat → Prop} {s i : Nat} (hi : i < s) (h : ¬ P i) : fsc P (s - i) i = fsc P (s - (i + 1)) (i + 1) := by
  rw [show s - i = (s - i - 1) + 1 by omega]; conv => lhs; unfold fsc
  rw [if_neg h, show s - i - 1 = s - (i + 1) by omega]
theorem fsc_e {P : Nat → Prop} {s : Nat} : fsc P (s - s) s = -1 := by rw [Nat.sub_self]; rfl
theorem cvp1 {W : Nat} {ex ps lf : Prop} {oc : Nat → Nat} {x : Int64} (h : cv W ex ps lf oc x) (hp : ps) : ¬ (x &&& 2305843009213693952) = 0 := fun z => (cv_ps h).mp z hp
theorem cvp0 {W : Nat} {ex ps lf : Prop} {oc : Nat → Nat} {x : Int64} (h : cv W ex ps lf oc x) (hp : ¬ ps) : (x &&& 2305843009213693952) = 0 := (cv_ps h).mpr hp
theorem cvl1 {W : Nat} {ex ps lf : Prop} {oc : Nat → Nat} {x : Int64} (h : cv W ex ps lf oc x) (hp : lf) : ¬ (x &&& 4611686018427387904) = 0 := fun z => (cv_lf h).mp z hp
theorem cvl0 {W : Nat} {ex ps lf : Prop} {oc : Nat → Nat} {x : Int64} (h : cv W ex ps lf oc x) (hp : ¬ lf) : (x &&& 4611686018427387904) = 0 := (cv_lf h).mpr hp
section Rd1
variable {stf : Nat → Nat} {N K b m : Nat} {β : sB} {δ : sD} {H : xH}
theorem xStep.rd {τ : Type} {fx fm : xH → Option (τ × xH)} (h : Rel stf K b m β δ H) {r : τ} (hx : fx H = some (r, H)) (hm : fm H = some (r, H)) : xStep stf K b m fx fm H := ⟨r, H, H, β, δ, hx, hm, h.same⟩
theorem T_fault (h : Rel stf K b m β δ H) : xStep stf K b m (F_X11_fault N (some b)) (F_X12_fault N (some m)) H := by
  obtain ⟨⟨⟨c, tc, tk, cb, n, nk, ncb, ad, ho⟩, -⟩, v, hm⟩ := id h
  obtain ⟨g0, g1, g2, g3, g4, g5, g6, g7, g8, g9, g10, g11, g12, g13, g14⟩ := ho.g
  obtain ⟨o10, o2, o6, o4, o5, o3, o9⟩ := ho.o
  obtain ⟨k0, k1, k2, k4, k6, k7, k12⟩ := ho.k
  have q := hm.mq
  have qo := q.ob
  have qz := q.z
  obtain ⟨v0, v1, v2, v3, v46, t5, t6, t12⟩ := q.ac
  refine xStep.rd (r := dF δ) h ?_ ?_
  · simp only [F_X11_fault, g2, Option.bind_some, bd2_s]
  · simp only [F_X12_fault, gI hm.1.1.1 mi35, hm.1.2.1.2.2.1, Option.bind_some, bd2_s]
theorem T_told (h : Rel stf K b m β δ H) (x : Int32) : xStep stf K b m (F_X11_told N (some b) x) (F_X12_told N (some m) x) H := by
  obtain ⟨⟨⟨c, tc, tk, cb, n, nk, ncb, ad, ho⟩, -⟩, v, hm⟩ := id h
  obtain ⟨g0, g1, g2, g3, g4, g5, g6, g7, g8, g9, g10, g11, g12, g13, g14⟩ := ho.g
  obtain ⟨o10, o2, o6, o4, o5, o3, o9⟩ := ho.o
  obtain ⟨k0, k1, k2, k4, k6, k7, k12⟩ := ho.k
  have q := hm.mq
  have qo := q.ob
  have qz := q.z
  obtain ⟨v0, v1, v2, v3, v46, t5, t6, t12⟩ := q.ac
  by_cases c0 : x = 0
  · exact xStep.rd h (by simp only [F_X11_told, c0, if_true, g5, k0, Option.bind_some, bd2_s]; rfl) (by simp only [F_X12_told, c0, if_true, v0, Option.bind_some, bd2_s])
  by_cases c1 : x = 1
  · subst c1
    exact xStep.rd h (by simp only [F_X11_told, c0, if_true, if_false, g5, k1, Option.bind_some, bd2_s]; rfl) (by simp only [F_X12_told, c0, if_true, if_false, v1, Option.bind_some, bd2_s])
  by_cases c2 : x = 2
  · subst c2
    exact xStep.rd h (by simp only [F_X11_told, c0, c1, if_true, if_false, g5, k2, Option.bind_some, bd2_s]; rfl) (by simp only [F_X12_told, c0, c1, if_true, if_false, v2, Option.bind_some, bd2_s])
  by_cases c3 : x = 3
  · subst c3
    exact xStep.rd h (by simp only [F_X11_told, c0, c1, c2, if_true, if_false, g5, k4, Option.bind_some, bd2_s]; rfl) (by simp only [F_X12_told, c0, c1, c2, if_true, if_false, v3, Option.bind_some, bd2_s])
  have e99 : (99 : Int32) + (2 : Int32) * nI (bT β) = nI (99 + 2 * bT β) := by
    rw [show (2 : Int32) = nI 2 from rfl, pk_mul, show (99 : Int32) = nI 99 from rfl, nI_add]
  by_cases c4 : x < 100
  · refine xStep.rd (r := -1) h ?_ ?_
    · simp only [F_X11_told, F_X11_told_J80, c0, c1, c2, c3, c4, if_true, if_false, g5, o2, S_hTO ho (x := -1) (Or.inl (by decide)), Option.bind_some, bd2_s]
    · simp only [F_X12_told, c0, c1, c2, c3, if_false, v0, S_in, bI_f (fun z : ¬ x < 100 ∧ ¬ (99 : Int32) + (2 : Int32) * nI (bT β) < x => z.1 c4), if_true, Option.bind_some, bd2_s]
  obtain ⟨j, hj, rfl⟩ := nI_of (x := x) (fun z => c4 (by
    have := Int32.lt_iff_toInt_lt.mp z
    refine Int32.lt_iff_toInt_lt.mpr ?_
    rw [show (0 : Int32).toInt = 0 by decide] at this
    rw [show (100 : Int32).toInt = 100 by decide]; omega))
  have hj1 : 100 ≤ j := by
    rcases Nat.lt_or_ge j 100 with z | z
    · exact absurd (nI_lt z (by decide)) c4
    · exact z
  have ed : (nI j - (100 : Int32)) / (2 : Int32) = nI ((j - 100) / 2) := by
    rw [show (100 : Int32) = nI 100 from rfl, pk_sub hj1, show (2 : Int32) = nI 2 from rfl, pk_div (by omega) (by decide) (by decide)]
  have er : nI j - nI j / (2 : Int32) * (2 : Int32) = nI (j % 2) := by
    rw [show (2 : Int32) = nI 2 from rfl, pk_rem hj (by decide) (by decide)]
  rcases Nat.lt_or_ge ((j - 100) / 2) (bT β) with ht | ht
  · have hin : ¬ nI j < 100 ∧ ¬ nI (99 + 2 * bT β) < nI j := ⟨c4, nI_nlt (by omega) (by omega)⟩
    obtain ⟨⟨f, f1, f2⟩, ⟨u, u1, u2⟩⟩ : (∃ g, H.1 (c + 2) = some (aI 5 g) ∧ ∀ j, j < bT β → g j = bfr β j) ∧ (∃ g, H.1 (c + 3) = some (aI 5 g) ∧ ∀ j, j < bT β → g j = bun β j) := ⟨ho.2.2.2.2.1.2.1, ho.2.2.2.2.1.2.2.1⟩
    obtain ⟨⟨mf, mf1, mf2⟩, ⟨mu, mu1, mu2⟩⟩ : (∃ g, H.1 (m + 1) = some (aI 10 g) ∧ ∀ j, j < bT β → g j = bfr β j) ∧ (∃ g, H.1 (m + 2) = some (aI 10 g) ∧ ∀ j, j < bT β → g j = bun β j) := ⟨hm.1.2.2.1, hm.1.2.2.2.1⟩
    by_cases hp : j % 2 = 0
    · have hp' : nI (j % 2) = 0 := by rw [hp]; rfl
      refine xStep.rd (r := bfr β ((j - 100) / 2)) h ?_ ?_
      · simp only [F_X11_told, F_X11_told_J80, c0, c1, c2, c3, c4, if_false, g5, o2, ed, er, S_hTI ho t5 ht, show ¬ (1 : Int32) = 0 by decide, hp', if_true, k6, S_at f1 (by decide : 5 < 2 ^ 31), gat_nI (show (j - 100) / 2 < 2 ^ 31 by omega), show (j - 100) / 2 < 5 by omega, f2 _ ht, Option.bind_some, bd2_s]
      · simp only [F_X12_told, c0, c1, c2, c3, if_false, v0, S_in, e99, bI_t hin, show ¬ (1 : Int32) = 0 by decide, ed, er, hp', if_true, gA hm.1.1.1 ma6, rdI mf1 (show (j - 100) / 2 < 10 by omega) (by decide), mf2 _ ht, Option.bind_some, bd2_s]
    · have hp' : ¬ nI (j % 2) = 0 := nI_ne0 (by omega) (by omega)
      refine xStep.rd (r := bun β ((j - 100) / 2)) h ?_ ?_
      · simp only [F_X11_told, F_X11_told_J80, c0, c1, c2, c3, c4, if_false, g5, o2, ed, er, S_hTI ho t5 ht, show ¬ (1 : Int32) = 0 by decide, hp', if_true, k7, S_at u1 (by decide : 5 < 2 ^ 31), gat_nI (show (j - 100) / 2 < 2 ^ 31 by omega), show (j - 100) / 2 < 5 by omega, u2 _ ht, Option.bind_some, bd2_s]
      · simp only [F_X12_told, c0, c1, c2, c3, if_false, v0, S_in, e99, bI_t hin, show ¬ (1 : Int32) = 0 by decide, ed, er, hp', if_true, gA hm.1.1.1 ma7, rdI mu1 (show (j - 100) / 2 < 10 by omega) (by decide), mu2 _ ht, Option.bind_some, bd2_s]
  · have hin : ¬ (¬ nI j < 100 ∧ ¬ nI (99 + 2 * bT β) < nI j) := fun z => z.2 (nI_lt (by omega) hj)
    refine xStep.rd (r := -1) h ?_ ?_
    · simp only [F_X11_told, F_X11_told_J80, c0, c1, c2, c3, c4, if_true, if_false, g5, o2, ed, S_hTO ho (Or.inr (nI_le ht (by omega))), Option.bind_some, bd2_s]
    · simp only [F_X12_told, c0, c1, c2, c3, if_false, v0, S_in, e99, bI_f hin, if_true, Option.bind_some, bd2_s]
theorem T_fits (hN : 5 < N) (h : Rel stf K b m β δ H) (x : Int32) : xStep stf K b m (F_X11_fits N (some b) x) (F_X12_fits N (some m) x) H := by
  obtain ⟨⟨⟨c, tc, tk, cb, n, nk, ncb, ad, ho⟩, -⟩, v, hm⟩ := id h
  obtain ⟨g0, g1, g2, g3, g4, g5, g6, g7, g8, g9, g10, g11, g12, g13, g14⟩ := ho.g
  obtain ⟨o10, o2, o6, o4, o5, o3, o9⟩ := ho.o
  obtain ⟨k0, k1, k2, k4, k6, k7, k12⟩ := ho.k
  have q := hm.mq
  have qo := q.ob
  have qz := q.z
  obtain ⟨v0, v1, v2, v3, v46, t5, t6, t12⟩ := q.ac
  obtain ⟨cl, cert, tt, hc, hs, hs2, u0, u1, u2, u3, u4⟩ := ho.t
  rcases ix3 x (show bZ β < 2 ^ 31 by omega) with hx | ⟨j, hj, rfl⟩
  · refine xStep.rd (r := -1) h ?_ ?_
    · simp only [F_X11_fits, g6, o6, S_cellOut tt hx, lgc, if_true, Option.bind_some, bd2_s]
    · simp only [F_X12_fits, qo, S_mRowOut q hx, if_true, Option.bind_some, bd2_s]
  · have h0 := cv_0 (hc j hj) (hm.2.1.2.2.2.1 j hj) (fun z => z.1)
    have hl := cv_lf (hc j hj)
    have hp := cv_ps (hc j hj)
    by_cases e0 : bex β j
    · by_cases e1 : lft β (dL δ) j
      · refine xStep.rd (r := 2) h ?_ ?_
        · simp only [F_X11_fits, g6, o6, S_cellAt tt hj, lgc, h0, hl, hp, e0, e1, not_true, if_false, Option.bind_some, bd2_s]
        · simp only [F_X12_fits, qo, S_mRowIn q hj, bI_t e0, q.lf hN hj, bI_t e1, show ¬ (1 : Int32) = 0 by decide, if_false, Option.bind_some, bd2_s]
      · by_cases e2 : bps β j
        · refine xStep.rd (r := 1) h ?_ ?_
          · simp only [F_X11_fits, g6, o6, S_cellAt tt hj, lgc, h0, hl, hp, e0, e1, e2, not_true, not_false_iff, if_true, if_false, Option.bind_some, bd2_s]
          · simp only [F_X12_fits, qo, S_mRowIn q hj, bI_t e0, q.lf hN hj, bI_f e1, S_mPos q.1 q.2.1 hj, bI_t e2, show ¬ (1 : Int32) = 0 by decide, if_true, if_false, Option.bind_some, bd2_s]
        · refine xStep.rd (r := 0) h ?_ ?_
          · simp only [F_X11_fits, g6, o6, S_cellAt tt hj, lgc, h0, hl, hp, e0, e1, e2, not_true, not_false_iff, if_true, if_false, Option.bind_some, bd2_s]
          · simp only [F_X12_fits, qo, S_mRowIn q hj, bI_t e0, q.lf hN hj, bI_f e1, S_mPos q.1 q.2.1 hj, bI_f e2, show ¬ (1 : Int32) = 0 by decide, if_true, if_false, Option.bind_some, bd2_s]
    · refine xStep.rd (r := -1) h ?_ ?_
      · simp only [F_X11_fits, g6, o6, S_cellAt tt hj, lgc, h0, e0, not_false_iff, if_true, Option.bind_some, bd2_s]
      · simp only [F_X12_fits, qo, S_mRowIn q hj, bI_f e0, if_true, Option.bind_some, bd2_s]
/-- the outcome in a row that is there -/
theorem S_oc {W w : Nat} {ex ps lf : Prop} {oc : Nat → Nat} {x : Int64} (hc : cv W ex ps lf oc x) (he : ex) (ho : oc w < 5) (hw : w < W) (hW : W ≤ 12) : F_X11_outcome N x (nI w) H = some (nI (oc w), H) := by
  refine S_outcome (by omega) ho (W := W) ?_
  rw [hc.1 w (by omega), if_pos hw, bN_t he, Nat.one_mul]
theorem T_pays (h : Rel stf K b m β δ H) (x y : Int32) : xStep stf K b m (F_X11_pays N (some b) x y) (F_X12_pays N (some m) x y) H := by
  obtain ⟨⟨⟨c, tc, tk, cb, n, nk, ncb, ad, ho⟩, -⟩, v, hm⟩ := id h
  obtain ⟨g0, g1, g2, g3, g4, g5, g6, g7, g8, g9, g10, g11, g12, g13, g14⟩ := ho.g
  obtain ⟨o10, o2, o6, o4, o5, o3, o9⟩ := ho.o
  obtain ⟨k0, k1, k2, k4, k6, k7, k12⟩ := ho.k
  have q := hm.mq
  have qo := q.ob
  have qz := q.z
  obtain ⟨v0, v1, v2, v3, v46, t5, t6, t12⟩ := q.ac
  obtain ⟨cl, cert, tt, hc, hs, hs2, u0, u1, u2, u3, u4⟩ := ho.t
  rcases ix3 x (show bW β < 2 ^ 31 by omega) with hx | ⟨w, hw, rfl⟩
  · rcases ix3 y (show bZ β < 2 ^ 31 by omega) with hy | ⟨j, hj, rfl⟩
    · exact xStep.rd (r := -1000000) h (by simp only [F_X11_pays, g5, o2, S_btO ho hx, g6, o6, S_cellOut tt hy, if_true, Option.bind_some, bd2_s]) (by simp only [F_X12_pays, qo, S_mWO q hx, if_true, Option.bind_some, bd2_s])
    · exact xStep.rd (r := -1000000) h (by simp only [F_X11_pays, g5, o2, S_btO ho hx, g6, o6, S_cellAt tt hj, if_true, Option.bind_some, bd2_s]) (by simp only [F_X12_pays, qo, S_mWO q hx, if_true, Option.bind_some, bd2_s])
  · obtain ⟨p1, p2, p3, p4⟩ := ho.bt (N := N) hw
    rcases ix3 y (show bZ β < 2 ^ 31 by omega) with hy | ⟨j, hj, rfl⟩
    · refine xStep.rd (r := -1000000) h (by simp [F_X11_pays, g5, o2, S_btI ho t12 hw, g6, o6, S_cellOut tt hy, lgc, bd2_s]) (by simp [F_X12_pays, qo, S_mWI q hw, S_mRowOut q hy, bd2_s])
    · have h0 := cv_0 (hc j hj) (hm.2.1.2.2.2.1 j hj) (fun z => z.1)
      by_cases e0 : bex β j
      · have eo : F_X11_outcome N (cl j) (nI w) H = some (nI (boc β w j), H) := S_oc (hc j hj) e0 (hm.2.1.2.2.2.2.1 w j) hw t12
        exact xStep.rd (r := pay (boc β w j) (bc1 β w) (bc2 β w)) h (by simp [F_X11_pays, g5, o2, S_btI ho t12 hw, g6, o6, S_cellAt tt hj, lgc, h0, e0, eo, p1, p4 _ (hm.2.1.2.2.2.2.1 w j), bd2_s]) (by simp [F_X12_pays, qo, S_mWI q hw, S_mRowIn q hj, bI_t e0, S_mPays q hw hj e0, bd2_s])
      · exact xStep.rd (r := -1000000) h (by simp [F_X11_pays, g5, o2, S_btI ho t12 hw, g6, o6, S_cellAt tt hj, lgc, h0, e0, bd2_s]) (by simp [F_X12_pays, qo, S_mWI q hw, S_mRowIn q hj, bI_f e0, bd2_s])
end Rd1
