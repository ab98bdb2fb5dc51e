/-! PURE: STEPS paid, sell, chance. -/
section Sell
variable {stf : Nat → Nat} {N K b m : Nat} {β : sB} {δ : sD} {H : xH}
variable {c tc tk cb n nk ncb : Nat} {ad : Nat → Nat}
theorem mR.hb {v v' : Nat → Int32} (h : mR m v β δ H) {H' : xH} {σ : sL} (hv : ∀ j, j ≠ 51 → v' j = v j) (h51 : v' 51 = lS σ) (h0 : H'.1 m = some (mo m v')) (k : ∀ a, 1 ≤ a → a < 36 → a ≠ 28 → a ≠ 29 → H'.1 (m + a) = H.1 (m + a)) (h28 : ∃ g, H'.1 (m + 28) = some (aI 24 g) ∧ ∀ j, j < 24 → g j = lH σ j) (h29 : ∃ g, H'.1 (m + 29) = some (aI 6 g) ∧ ∀ j, j < 6 → g j = lB σ j) (hT : lT σ = lT (dL δ)) (hC : lC σ = lC (dL δ)) : mR m v' β (σ, δ.2) H' := by
  obtain ⟨⟨h1, ⟨e0, e1, e2, e3, e41, e46⟩, ⟨cb, c1, c2, c3⟩, h4, h5, h6, h7, h8⟩, ⟨⟨f1, f2, f3, f4, f5⟩, i2, i3, i4, i5, i6, i7, i8, i9, i10⟩⟩ := h
  refine ⟨?_, ?_⟩
  · show mCore m v' β σ H'
    unfold mCore
    rw [k 26 (by decide) (by decide) (by decide) (by decide), k 23 (by decide) (by decide) (by decide) (by decide), k 24 (by decide) (by decide) (by decide) (by decide), k 5 (by decide) (by decide) (by decide) (by decide), k 6 (by decide) (by decide) (by decide) (by decide), hC, hT]
    exact ⟨h0, ⟨(hv 0 (by decide)).trans e0, (hv 1 (by decide)).trans e1, (hv 2 (by decide)).trans e2, (hv 3 (by decide)).trans e3, (hv 41 (by decide)).trans e41, (hv 46 (by decide)).trans e46⟩, ⟨cb, c1, (hv 47 (by decide)).trans c2, c3⟩, h4, h5, h6, h7, h8⟩
  · unfold mMore
    rw [k 1 (by decide) (by decide) (by decide) (by decide), k 2 (by decide) (by decide) (by decide) (by decide), k 12 (by decide) (by decide) (by decide) (by decide), k 13 (by decide) (by decide) (by decide) (by decide), k 14 (by decide) (by decide) (by decide) (by decide), k 20 (by decide) (by decide) (by decide) (by decide), k 34 (by decide) (by decide) (by decide) (by decide), k 35 (by decide) (by decide) (by decide) (by decide)]
    refine ⟨⟨(hv 5 (by decide)).trans f1, (hv 31 (by decide)).trans f2, (hv 35 (by decide)).trans f3, h51, (hv 62 (by decide)).trans f5⟩, i2, i3, i4, i5, h28, h29, i8, i9, ?_⟩
    obtain ⟨s1, s2, s3, s4, s5, s6, s7, s8, s9, s10, s11, s12, s13⟩ := i10
    refine ⟨fun a ha => ?_, fun a a1 a2 => ?_, fun a a1 a2 => ?_, ?_, ?_, ?_, ?_, ?_, ?_, ?_, ?_, ?_, ?_⟩
    · rw [k a (by omega) (by omega) (by omega) (by omega)]; exact s1 a ha
    · rw [k a (by omega) (by omega) (by omega) (by omega)]; exact s2 a a1 a2
    · rw [k a (by omega) (by omega) (by omega) (by omega)]; exact s3 a a1 a2
    · rw [k _ (by omega) (by omega) (by omega) (by omega)]; exact s4
    · rw [k _ (by omega) (by omega) (by omega) (by omega)]; exact s5
    · rw [k _ (by omega) (by omega) (by omega) (by omega)]; exact s6
    · rw [k _ (by omega) (by omega) (by omega) (by omega)]; exact s7
    · rw [k _ (by omega) (by omega) (by omega) (by omega)]; exact s8
    · rw [k _ (by omega) (by omega) (by omega) (by omega)]; exact s9
    · rw [k _ (by omega) (by omega) (by omega) (by omega)]; exact s10
    · rw [k _ (by omega) (by omega) (by omega) (by omega)]; exact s11
    · rw [k _ (by omega) (by omega) (by omega) (by omega)]; exact s12
    · rw [k _ (by omega) (by omega) (by omega) (by omega)]; exact s13
/-- coin from one's account to another's -/
def crd (f : Nat → Int32) (i k : Nat) (x : Int32) : Nat → Int32 := upd (upd f i (f i + x)) k (upd f i (f i + x) k - x)
theorem crd_b {f : Nat → Int32} {K i k : Nat} {x : Int32} (hK : K ≤ 1000) (hik : i ≠ k) (hx : 0 ≤ x.toInt ∧ x.toInt ≤ 9999) (h : ∀ j, j < 6 → -(9999 * (K : Int)) ≤ (f j).toInt ∧ (f j).toInt ≤ 9999 * (K : Int)) : ∀ j, j < 6 → -(9999 * ((K + 1 : Nat) : Int)) ≤ (crd f i k x j).toInt ∧ (crd f i k x j).toInt ≤ 9999 * ((K + 1 : Nat) : Int) := by
  intro j hj
  have hj' := h j hj
  unfold crd
  by_cases e : j = k
  · rw [e, pk_us, pk_un (fun z => hik z.symm), ← e]
    rw [Int32.sub_eq_add_neg]
    have en : (-x).toInt = -x.toInt := by rw [Int32.toInt_neg, Int.bmod_eq_of_le] <;> omega
    rw [i32_add (a := 9999000) (c := 9999) (by omega) (by omega) (by omega), en]
    omega
  · rw [pk_un e]
    by_cases e2 : j = i
    · rw [e2, pk_us, ← e2, i32_add (a := 9999000) (c := 9999) (by omega) (by omega) (by omega)]
      omega
    · rw [pk_un e2]; omega
theorem S_credit {gb : Nat → Int32} {fs : List Value} {t a : Nat} (h1 : H.1 t = some (ob 4 fs)) (f4 : fs[4]? = some (va_rf (some a))) (h2 : H.1 a = some (aI 6 gb)) {i k : Nat} (hi : i < 6) (hk : k < 6) (x : Int32) : F_X4_credit N (some t) (nI i) (nI k) x H = some (xup H a (aI 6 (crd gb i k x))) := by
  have hne : t ≠ a := neA h1 h2 (fun e => by cases e)
  have h1' : ∀ e, (xup H a e).1 t = some (ob 4 fs) := fun e => by rw [xup_ne _ hne]; exact h1
  unfold F_X4_credit
  simp only [gA h1 f4, S_at h2 (by decide : 6 < 2 ^ 31), gat_nI (show i < 2 ^ 31 by omega), hi, if_true, S_set h2 hi (by decide), gA (h1' _) f4, S_at (xup_at _) (by decide : 6 < 2 ^ 31), gat_nI (show k < 2 ^ 31 by omega), hk, S_set (xup_at _) hk (by decide), xup_up, Option.bind_some, bd2_s]
  rfl
theorem lft_same {σ σ' : sL} (hT : lT σ' = lT σ) (hC : lC σ' = lC σ) : lft β σ' = lft β σ := by
  funext k
  unfold lft
  rw [hT, hC]
theorem xTab.same {t : Nat} {σ σ' : sL} (hT : lT σ' = lT σ) (hC : lC σ' = lC σ) (h : xTab t tc tk n nk β σ H) : xTab t tc tk n nk β σ' H := by
  unfold xTab at h ⊢
  rw [lft_same hT hC]; exact h
theorem T_paid (hN : 59049 < N) (hK : K ≤ 1000) (h : Rel stf K b m β δ H) (x y z : Int32) : xStep stf K b m (F_X11_paid N (some b) x y z) (F_X12_paid N (some m) x y z) H := by
  obtain ⟨⟨⟨c, tc, tk, cb, n, nk, ncb, ad, ho⟩, -⟩, v, hm⟩ := id h
  obtain ⟨g0, g1, g2, g3, g4, g5, g6, g7, g8, g9, g10, g11, g12, g13, g14⟩ := ho.g
  obtain ⟨o10, o2, o6, o4, o5, o3, o9⟩ := ho.o
  obtain ⟨k0, k1, k2, k4, k6, k7, k12⟩ := ho.k
  have q := hm.mq
  have qo := q.ob
  have qz := q.z
  obtain ⟨v0, v1, v2, v3, v46, t5, t6, t12⟩ := q.ac
  rcases ix3 x (show bM β < 2 ^ 31 by omega) with hx | ⟨i, hi, rfl⟩
  · exact xStep.rd (r := 0) h (by simp only [F_X11_paid, g5, o2, S_hMO ho hx, if_true, Option.bind_some, bd2_s]) (by simp only [F_X12_paid, qo, S_mMO q hx, if_true, Option.bind_some, bd2_s])
  rcases ix3 y (show bM β < 2 ^ 31 by omega) with hy | ⟨k, hk, rfl⟩
  · exact xStep.rd (r := 0) h (by simp only [F_X11_paid, g5, o2, S_hMI ho t6 hi, show ¬ (1 : Int32) = 0 by decide, if_false, S_hMO ho hy, if_true, Option.bind_some, bd2_s]) (by simp only [F_X12_paid, qo, S_mMI q hi, show ¬ (1 : Int32) = 0 by decide, if_false, S_mMO q hy, if_true, Option.bind_some, bd2_s])
  by_cases hik : i = k
  · subst hik
    exact xStep.rd (r := 0) h (by simp only [F_X11_paid, g5, o2, S_hMI ho t6 hi, show ¬ (1 : Int32) = 0 by decide, if_false, if_true, Option.bind_some, bd2_s]) (by simp only [F_X12_paid, qo, S_mMI q hi, show ¬ (1 : Int32) = 0 by decide, if_false, if_true, Option.bind_some, bd2_s])
  have hik' : ¬ nI i = nI k := fun e => hik ((nI_eq (by omega) (by omega)).mp e)
  by_cases hz : ¬ z < 1 ∧ ¬ 9999 < z
  · have hz2 : z ≤ 9999 := Int32.not_lt.mp hz.2
    have hzb : 0 ≤ z.toInt ∧ z.toInt ≤ 9999 := by
      have a := Int32.le_iff_toInt_le.mp hz2
      have b := Int32.le_iff_toInt_le.mp (Int32.not_lt.mp hz.1)
      rw [show (9999 : Int32).toInt = 9999 by decide] at a
      rw [show (1 : Int32).toInt = 1 by decide] at b
      omega
    obtain ⟨hl1, hl2, hl3, ⟨gb, hl4, hl5⟩⟩ := ho.2.2.2.2.2.2.1
    have ht := ho.2.2.2.2.2.1
    have hD := ho.1
    obtain ⟨d1, d2, ⟨d3, d4, d5⟩, ⟨d6, d7, d8⟩, -⟩ := id hD
    have hcr := S_credit (N := N) hl1 rfl hl4 (show i < 6 by omega) (show k < 6 by omega) z
    generalize hH1 : xup H (b + 20 + 3) (aI 6 (crd gb i k z)) = H1 at hcr
    have C1 : F_X11_paid N (some b) (nI i) (nI k) z H = some (1, H1) := by
      simp only [F_X11_paid, g5, o2, S_hMI ho t6 hi, S_hMI ho t6 hk, show ¬ (1 : Int32) = 0 by decide, if_false, hik', hz.1, hz2, if_true, g7, o4, hcr, Option.bind_some, bd2_s]
    have hcg : ∀ g, (∀ j, j < 6 → g j = lB (dL δ) j) → ∀ j, j < 6 → crd g i k z j = crd (lB (dL δ)) i k z j := fun g hg j hj => by
      unfold crd
      by_cases e : j = k
      · rw [e, pk_us, pk_us, pk_un (fun z => hik z.symm), pk_un (fun z => hik z.symm), hg k (by omega)]
      · rw [pk_un e, pk_un e]
        by_cases e2 : j = i
        · rw [e2, pk_us, pk_us, hg i (by omega)]
        · rw [pk_un e2, pk_un e2, hg j hj]
    generalize hσ : ((lT (dL δ), lS (dL δ), lC (dL δ), lH (dL δ), crd (lB (dL δ)) i k z) : sL) = σ
    have sT : lT σ = lT (dL δ) := by rw [← hσ]; rfl
    have sS : lS σ = lS (dL δ) := by rw [← hσ]; rfl
    have sC : lC σ = lC (dL δ) := by rw [← hσ]; rfl
    have sH : lH σ = lH (dL δ) := by rw [← hσ]; rfl
    have sB : lB σ = crd (lB (dL δ)) i k z := by rw [← hσ]; rfl
    have hL1 : xLed (b + 20) σ H1 := by
      rw [← hH1]
      unfold xLed
      rw [sT, sS, sC, sH, sB]
      refine ⟨by rw [xup_ne _ (by omega)]; exact hl1, by rw [xup_ne _ (by omega)]; exact hl2, by rw [xup_ne _ (by omega)]; exact hl3, ⟨_, xup_at _, hcg gb hl5⟩⟩
    have hT1 : xTab (b + 15) tc tk n nk β σ H1 := by rw [← hH1]; exact (ht.same sT sC).up (by omega)
    have hF1 : Fr (fun q => q = b + 15 ∨ q = tc ∨ q = b + 18 ∨ q = b + 19 ∨ (b + 20 ≤ q ∧ q ≤ b + 23)) H H1 := by rw [← hH1]; exact Fr.up (by omega)
    have hr := ho.led hF1 hT1 hL1
    have hm1 := hm.1.l hD hF1
    have q1 : mQ m v β (dL δ) H1 := (show CM K m v β δ H1 from ⟨hm1, hm.2⟩).mq
    obtain ⟨gm, gm1, gm2⟩ := hm1.2.2.2.2.2.2.2.1
    have ob1 := q1.1.1
    have ob2 : ∀ e, (xup H1 (m + 29) e).1 m = some (mo m v) := fun e => by rw [xup_ne _ (by omega)]; exact ob1
    have hmr : mR m v β (σ, δ.2) (xup H1 (m + 29) (aI 6 (crd gm i k z))) := hm1.hb (fun _ _ => rfl) (by rw [sS]; exact hm1.2.1.2.2.2.1) (ob2 _) (fun a a1 a2 a3 a4 => xup_ne _ (by omega)) (by rw [xup_ne _ (by omega), sH]; exact hm1.2.2.2.2.2.2.1) ⟨_, xup_at _, by rw [sB]; exact hcg gm gm2⟩ sT sC
    have hok : lOkK (K + 1) β σ := by
      obtain ⟨⟨k1, k2, k3⟩, k4, k5⟩ := hm.2.2.1
      refine ⟨⟨by rw [sT]; exact k1, by rw [sC]; exact k2, by rw [lft_same sT sC]; exact k3⟩, by rw [sH]; exact k4, by rw [sB]; exact crd_b hK hik hzb k5⟩
    refine ⟨1, H1, _, β, (σ, δ.2), C1, ?_, h.mkl ho hok hF1 hr (Fr.up (by omega)) hm1.ex hmr⟩
    have w2 : ∀ (g' : Nat → Int32) y, xsI .int (xup H1 (m + 29) (aI 6 g')) (some (m + 29)) (nI k) y = some (xup H1 (m + 29) (aI 6 (upd g' k y))) := fun g' y => by rw [stI (xup_at _) (show k < 6 by omega) (by decide), vnI, xup_up]
    simp only [F_X12_paid, q1.ob, S_mMI q1 hi, S_mMI q1 hk, show ¬ (1 : Int32) = 0 by decide, if_false, hik', S_in, bI_t hz, gA ob1 ma53, rdI gm1 (show i < 6 by omega) (by decide), stI gm1 (show i < 6 by omega) (by decide), vnI, gA (ob2 _) ma53, rdI (xup_at _) (show k < 6 by omega) (by decide), w2, Option.bind_some, bd2_s]
    rfl
  · refine xStep.rd (r := 0) h ?_ ?_
    · simp only [F_X11_paid, g5, o2, S_hMI ho t6 hi, S_hMI ho t6 hk, show ¬ (1 : Int32) = 0 by decide, if_false, hik', Option.bind_some, bd2_s]
      by_cases z1 : z < 1
      · rw [if_pos z1]
      · rw [if_neg z1, if_neg (fun w => hz ⟨z1, Int32.not_lt.mpr w⟩)]
    · simp only [F_X12_paid, qo, S_mMI q hi, S_mMI q hk, show ¬ (1 : Int32) = 0 by decide, if_false, hik', S_in, bI_f hz, if_true, Option.bind_some, bd2_s]
theorem T_sell (hN : 59049 < N) (hK : K ≤ 1000) (h : Rel stf K b m β δ H) (x y u z : Int32) : xStep stf K b m (F_X11_sell N (some b) x y u z) (F_X12_sell N (some m) x y u z) H := by
  obtain ⟨⟨⟨c, tc, tk, cb, n, nk, ncb, ad, ho⟩, -⟩, v, hm⟩ := id h
  obtain ⟨g0, g1, g2, g3, g4, g5, g6, g7, g8, g9, g10, g11, g12, g13, g14⟩ := ho.g
  obtain ⟨o10, o2, o6, o4, o5, o3, o9⟩ := ho.o
  obtain ⟨k0, k1, k2, k4, k6, k7, k12⟩ := ho.k
  have q := hm.mq
  have qo := q.ob
  have qz := q.z
  obtain ⟨v0, v1, v2, v3, v46, t5, t6, t12⟩ := q.ac
  rcases ix3 x (show bW β < 2 ^ 31 by omega) with hx | ⟨w, hw, rfl⟩
  · exact xStep.rd (r := 0) h (by simp only [F_X11_sell, g5, o2, S_btO ho hx, if_true, Option.bind_some, bd2_s]) (by simp only [F_X12_sell, qo, S_mWO q hx, if_true, Option.bind_some, bd2_s])
  by_cases hy : ¬ y < 0 ∧ ¬ 1 < y
  rotate_left
  · refine xStep.rd (r := 0) h ?_ ?_
    · simp only [F_X11_sell, g5, o2, S_btI ho t12 hw, reduceCtorEq, if_false, Option.bind_some, bd2_s]
      by_cases y0 : y < 0
      · rw [if_pos y0]
      · rw [if_neg y0, if_pos (Classical.byContradiction (fun w => hy ⟨y0, w⟩))]
    · simp only [F_X12_sell, qo, S_mWI q hw, show ¬ (1 : Int32) = 0 by decide, if_false, S_in, bI_f hy, if_true, Option.bind_some, bd2_s]
  obtain ⟨s, hs, rfl⟩ : ∃ s : Nat, s < 2 ∧ y = nI s := by
    obtain ⟨j, hj, rfl⟩ := nI_of hy.1
    exact ⟨j, by
      rcases Nat.lt_or_ge j 2 with z | z
      · exact z
      · exact absurd (nI_lt (show 1 < j by omega) hj) hy.2, rfl⟩
  rcases ix3 u (show bM β < 2 ^ 31 by omega) with hu | ⟨k, hk, rfl⟩
  · exact xStep.rd (r := 0) h (by simp only [F_X11_sell, g5, o2, S_btI ho t12 hw, reduceCtorEq, hy.1, hy.2, if_false, S_hMO ho hu, if_true, Option.bind_some, bd2_s]) (by simp only [F_X12_sell, qo, S_mWI q hw, show ¬ (1 : Int32) = 0 by decide, if_false, S_in, bI_t hy, S_mMO q hu, if_true, Option.bind_some, bd2_s])
  by_cases hz : ¬ z < 0 ∧ ¬ 9999 < z
  rotate_left
  · refine xStep.rd (r := 0) h ?_ ?_
    · simp only [F_X11_sell, g5, o2, S_btI ho t12 hw, reduceCtorEq, hy.1, hy.2, if_false, S_hMI ho t6 hk, show ¬ (1 : Int32) = 0 by decide, Option.bind_some, bd2_s]
      by_cases z1 : z < 0
      · rw [if_pos z1]
      · rw [if_neg z1, if_neg (fun w => hz ⟨z1, Int32.not_lt.mpr w⟩)]
    · simp only [F_X12_sell, qo, S_mWI q hw, show ¬ (1 : Int32) = 0 by decide, if_false, S_in, bI_t hy, S_mMI q hk, bI_f hz, if_true, Option.bind_some, bd2_s]
  have hz2 : z ≤ 9999 := Int32.not_lt.mp hz.2
  have hzb : 0 ≤ z.toInt ∧ z.toInt ≤ 9999 := by
    have a := Int32.le_iff_toInt_le.mp hz2
    have b := Int32.le_iff_toInt_le.mp (Int32.not_lt.mp hz.1)
    rw [show (9999 : Int32).toInt = 9999 by decide] at a
    rw [show (0 : Int32).toInt = 0 by decide] at b
    omega
  obtain ⟨i, hi, hiH⟩ := hm.2.2.1.2.1 (2 * w + s) (by omega)
  have e2w : (2 : Int32) * nI w + nI s = nI (2 * w + s) := by rw [show (2 : Int32) = nI 2 from rfl, pk_mul, nI_add]
  have hho := S_hold (N := N) ho (show w < 12 by omega) hs
  rw [hiH] at hho
  obtain ⟨gh0, gh01, gh02⟩ := hm.1.2.2.2.2.2.2.1
  have mho : xlI .int H (some (m + 28)) (nI (2 * w + s)) = some (nI i) := by rw [rdI gh01 (show 2 * w + s < 24 by omega) (by decide), gh02 _ (by omega), hiH]
  by_cases hik : i = k
  · subst hik
    exact xStep.rd (r := 0) h (by simp only [F_X11_sell, g5, o2, S_btI ho t12 hw, reduceCtorEq, hy.1, hy.2, if_false, S_hMI ho t6 hk, show ¬ (1 : Int32) = 0 by decide, hz.1, hz2, g7, o4, hho, if_true, Option.bind_some, bd2_s]) (by simp only [F_X12_sell, qo, S_mWI q hw, show ¬ (1 : Int32) = 0 by decide, if_false, S_in, bI_t hy, S_mMI q hk, bI_t hz, gA q.1.1 ma52, e2w, mho, if_true, Option.bind_some, bd2_s])
  have hik' : ¬ nI i = nI k := fun e => hik ((nI_eq (by omega) (by omega)).mp e)
  have hsx := S_xSure (N := N) ho t12 hw hm.2.1
  by_cases hsu : suW β (dL δ) w
  · obtain ⟨x0, hx1, hx2⟩ := S_mSu (N := N) hN hm hw
    refine ⟨0, H, _, β, δ, ?_, ?_, h.scr ho sc.rf hm.1.1.1 hm.1 (mS49 (x := x0) hm.1.1.1)⟩
    · simp only [F_X11_sell, g5, o2, S_btI ho t12 hw, reduceCtorEq, hy.1, hy.2, if_false, S_hMI ho t6 hk, show ¬ (1 : Int32) = 0 by decide, hz.1, hz2, g7, o4, hho, hik', g6, o6, hsx, bI_t hsu, if_true, Option.bind_some, bd2_s]
    · simp only [F_X12_sell, qo, S_mWI q hw, show ¬ (1 : Int32) = 0 by decide, if_false, S_in, bI_t hy, S_mMI q hk, bI_t hz, gA q.1.1 ma52, e2w, mho, hik', hx1, bI_t hsu, Option.bind_some, bd2_s]
  -- the class
  obtain ⟨hl1, hl2, ⟨gh, hl31, hl32⟩, ⟨gb, hl4, hl5⟩⟩ := ho.2.2.2.2.2.2.1
  have ht := ho.2.2.2.2.2.1
  have hD := ho.1
  obtain ⟨d1, d2, ⟨d3, d4, d5⟩, ⟨d6, d7, d8⟩, -⟩ := id hD
  have hcr := S_credit (N := N) hl1 rfl hl4 (show i < 6 by omega) (show k < 6 by omega) z
  generalize hσ : ((lT (dL δ), lS (dL δ) + 1, lC (dL δ), upd (lH (dL δ)) (2 * w + s) (nI k), crd (lB (dL δ)) i k z) : sL) = σ
  have sT : lT σ = lT (dL δ) := by rw [← hσ]; rfl
  have sS : lS σ = lS (dL δ) + 1 := by rw [← hσ]; rfl
  have sC : lC σ = lC (dL δ) := by rw [← hσ]; rfl
  have sH : lH σ = upd (lH (dL δ)) (2 * w + s) (nI k) := by rw [← hσ]; rfl
  have sB : lB σ = crd (lB (dL δ)) i k z := by rw [← hσ]; rfl
  have hcg : ∀ g, (∀ j, j < 6 → g j = lB (dL δ) j) → ∀ j, j < 6 → crd g i k z j = crd (lB (dL δ)) i k z j := fun g hg j hj => by
    unfold crd
    by_cases e : j = k
    · rw [e, pk_us, pk_us, pk_un (fun z => hik z.symm), pk_un (fun z => hik z.symm), hg k (by omega)]
    · rw [pk_un e, pk_un e]
      by_cases e2 : j = i
      · rw [e2, pk_us, pk_us, hg i (by omega)]
      · rw [pk_un e2, pk_un e2, hg j hj]
  have hhg : ∀ g, (∀ j, j < 24 → g j = lH (dL δ) j) → ∀ j, j < 24 → upd g (2 * w + s) (nI k) j = upd (lH (dL δ)) (2 * w + s) (nI k) j := fun g hg j hj => by
    by_cases e : j = 2 * w + s
    · rw [e, pk_us, pk_us]
    · rw [pk_un e, pk_un e, hg j hj]
  generalize hHa : xup H (b + 20 + 3) (aI 6 (crd gb i k z)) = Ha at hcr
  have oa : Ha.1 (b + 20) = some (ob 4 [.int (nI (lT (dL δ))), .int (lS (dL δ)), va_rf (some (b + 20 + 1)), va_rf (some (b + 20 + 2)), va_rf (some (b + 20 + 3))]) := by rw [← hHa, xup_ne _ (by omega)]; exact hl1
  have ha2 : Ha.1 (b + 20 + 2) = some (aI 24 gh) := by rw [← hHa, xup_ne _ (by omega)]; exact hl31
  have hset := S_set (N := N) (v := nI k) ha2 (show 2 * w + s < 24 by omega) (by decide)
  generalize hHb : xup Ha (b + 20 + 2) (aI 24 (upd gh (2 * w + s) (nI k))) = Hb at hset
  have ob' : Hb.1 (b + 20) = some (ob 4 [.int (nI (lT (dL δ))), .int (lS (dL δ)), va_rf (some (b + 20 + 1)), va_rf (some (b + 20 + 2)), va_rf (some (b + 20 + 3))]) := by rw [← hHb, xup_ne _ (by omega)]; exact oa
  have hput : xpI Hb (some (b + 20)) 4 1 (lS (dL δ) + 1) = some (xup Hb (b + 20) (ob 4 [.int (nI (lT (dL δ))), .int (lS (dL δ) + 1), va_rf (some (b + 20 + 1)), va_rf (some (b + 20 + 2)), va_rf (some (b + 20 + 3))])) := by
    unfold xpI
    rw [pV ob' (show (1 : Nat) < 5 by decide)]; rfl
  generalize hH1 : xup Hb (b + 20) (ob 4 [.int (nI (lT (dL δ))), .int (lS (dL δ) + 1), va_rf (some (b + 20 + 1)), va_rf (some (b + 20 + 2)), va_rf (some (b + 20 + 3))]) = H1 at hput
  have hss : F_X4_sellSide N (some (b + 20)) (nI w) (nI s) (nI k) z H = some H1 := by
    have e1 : xgA Ha (some (b + 20)) 4 3 = some (some (b + 20 + 2)) := gA oa rfl
    have e2 : xgI Hb (some (b + 20)) 4 1 = some (lS (dL δ)) := gI ob' rfl
    unfold F_X4_sellSide
    simp only [o4, hho, hcr, e1, e2w, hset, e2, hput, Option.bind_some, bd2_s]
  have C1 : F_X11_sell N (some b) (nI w) (nI s) (nI k) z H = some (1, H1) := by
    simp only [F_X11_sell, g5, o2, S_btI ho t12 hw, reduceCtorEq, hy.1, hy.2, if_false, S_hMI ho t6 hk, show ¬ (1 : Int32) = 0 by decide, hz.1, hz2, g7, o4, hho, hik', g6, o6, hsx, bI_f hsu, if_true, hss, Option.bind_some, bd2_s]
  have hL1 : xLed (b + 20) σ H1 := by
    unfold xLed
    rw [sT, sS, sC, sH, sB, ← hH1]
    refine ⟨xup_at _, ?_, ⟨_, ?_, hhg gh hl32⟩, ⟨_, ?_, hcg gb hl5⟩⟩
    · rw [xup_ne _ (by omega), ← hHb, xup_ne _ (by omega), ← hHa, xup_ne _ (by omega)]; exact hl2
    · rw [xup_ne _ (by omega), ← hHb]; exact xup_at _
    · rw [xup_ne _ (by omega), ← hHb, xup_ne _ (by omega), ← hHa]; exact xup_at _
  have hT1 : xTab (b + 15) tc tk n nk β σ H1 := by rw [← hH1, ← hHb, ← hHa]; exact (((ht.same sT sC).up (by omega)).up (by omega)).up (by omega)
  have hF1 : Fr (fun q => q = b + 15 ∨ q = tc ∨ q = b + 18 ∨ q = b + 19 ∨ (b + 20 ≤ q ∧ q ≤ b + 23)) H H1 := by rw [← hH1, ← hHb, ← hHa]; exact ((Fr.up (by omega)).tr (Fr.up (by omega))).tr (Fr.up (by omega))
  have hr := ho.led hF1 hT1 hL1
  -- the reference
  have hm1 : CM K m v β δ H1 := ⟨hm.1.l hD hF1, hm.2⟩
  have q1 := hm1.mq
  obtain ⟨x0, hx1, hx2⟩ := S_mSu (N := N) hN hm1 hw
  have hS1 : mS m v (upd v 49 x0) H1 (xup H1 m (mo m (upd v 49 x0))) := mS49 hm1.1.1.1
  have hm2 : mR m (upd v 49 x0) β δ (xup H1 m (mo m (upd v 49 x0))) := hm1.1.s hS1
  generalize hH2 : xup H1 m (mo m (upd v 49 x0)) = H2 at hx1 hS1 hm2
  generalize hv2 : upd v 49 x0 = v2 at hx1 hS1 hm2 hH2
  have ob2 := hm2.1.1
  obtain ⟨gm, gm1, gm2⟩ := hm2.2.2.2.2.2.2.2.1
  obtain ⟨gh1, gh11, gh12⟩ := hm2.2.2.2.2.2.2.1
  have mho1 : xlI .int H1 (some (m + 28)) (nI (2 * w + s)) = some (nI i) := by
    obtain ⟨ga, ga1, ga2⟩ := hm1.1.2.2.2.2.2.2.1
    rw [rdI ga1 (show 2 * w + s < 24 by omega) (by decide), ga2 _ (by omega), hiH]
  have mho2 : xlI .int H2 (some (m + 28)) (nI (2 * w + s)) = some (nI i) := by rw [rdI gh11 (show 2 * w + s < 24 by omega) (by decide), gh12 _ (by omega), hiH]
  have ob3 : ∀ e, (xup H2 (m + 29) e).1 m = some (mo m v2) := fun e => by rw [xup_ne _ (by omega)]; exact ob2
  have gh3 : ∀ e, (xup H2 (m + 29) e).1 (m + 28) = some (aI 24 gh1) := fun e => by rw [xup_ne _ (by omega)]; exact gh11
  have w2 : ∀ (g' : Nat → Int32) y, xsI .int (xup H2 (m + 29) (aI 6 g')) (some (m + 29)) (nI k) y = some (xup H2 (m + 29) (aI 6 (upd g' k y))) := fun g' y => by rw [stI (xup_at _) (show k < 6 by omega) (by decide), vnI, xup_up]
  have ob4 : ∀ e f, (xup (xup H2 (m + 29) e) (m + 28) f).1 m = some (mo m v2) := fun e f => by rw [xup_ne _ (by omega)]; exact ob3 e
  have hv51 : v2 51 = lS (dL δ) := hm2.2.1.2.2.2.1
  generalize hHf : xup (xup (xup H2 (m + 29) (aI 6 (crd gm i k z))) (m + 28) (aI 24 (upd gh1 (2 * w + s) (nI k)))) m (mo m (upd v2 51 (lS (dL δ) + 1))) = Hf
  have kf : ∀ a, a ≠ m → a ≠ m + 28 → a ≠ m + 29 → Hf.1 a = H2.1 a := fun a a1 a2 a3 => by rw [← hHf, xup_ne _ a1, xup_ne _ a2, xup_ne _ a3]
  have hmr : mR m (upd v2 51 (lS (dL δ) + 1)) β (σ, δ.2) Hf := hm2.hb (fun j hj => pk_un hj) (by rw [sS, pk_us]) (by rw [← hHf]; exact xup_at _) (fun a a1 a2 a3 a4 => kf _ (by omega) (by omega) (by omega)) ⟨upd gh1 (2 * w + s) (nI k), by rw [← hHf, xup_ne _ (by omega)]; exact xup_at _, by rw [sH]; exact hhg gh1 gh12⟩ ⟨crd gm i k z, by rw [← hHf, xup_ne _ (by omega), xup_ne _ (by omega)]; exact xup_at _, by rw [sB]; exact hcg gm gm2⟩ sT sC
  have hok : lOkK (K + 1) β σ := by
    obtain ⟨⟨k1, k2, k3⟩, k4, k5⟩ := hm.2.2.1
    refine ⟨⟨by rw [sT]; exact k1, by rw [sC]; exact k2, by rw [lft_same sT sC]; exact k3⟩, by
      rw [sH]
      intro j hj
      by_cases e : j = 2 * w + s
      · exact ⟨k, hk, by rw [e, pk_us]⟩
      · obtain ⟨a, a1, a2⟩ := k4 j hj
        exact ⟨a, a1, by rw [pk_un e]; exact a2⟩, by rw [sB]; exact crd_b hK hik hzb k5⟩
  have hFf : Fr (fun q => m ≤ q ∧ q < m + 36) H1 Hf := ⟨by rw [← hHf, ← hH2]; rfl, fun a ha => by rw [kf a (by omega) (by omega) (by omega), ← hH2, xup_ne _ (by omega)]⟩
  refine ⟨1, H1, Hf, β, (σ, δ.2), C1, ?_, h.mkl ho hok hF1 hr hFf hm1.1.ex hmr⟩
  have hp51 : ∀ Hx : xH, Hx.1 m = some (mo m v2) → xpI Hx (some m) 11 51 (lS (dL δ) + 1) = some (xup Hx m (mo m (upd v2 51 (lS (dL δ) + 1)))) := fun Hx hx => mpI hx (by decide) _ ms51
  have g51 : ∀ Hx : xH, Hx.1 m = some (mo m v2) → xgI Hx (some m) 11 51 = some (lS (dL δ)) := fun Hx hx => (gI hx mi51).trans (by rw [hv51])
  have w3 : ∀ e, xsI .int (xup H2 (m + 29) e) (some (m + 28)) (nI (2 * w + s)) (nI k) = some (xup (xup H2 (m + 29) e) (m + 28) (aI 24 (upd gh1 (2 * w + s) (nI k)))) := fun e => by rw [stI (gh3 e) (show 2 * w + s < 24 by omega) (by decide), vnI]
  simp only [F_X12_sell, q1.ob, S_mWI q1 hw, show ¬ (1 : Int32) = 0 by decide, if_false, S_in, bI_t hy, S_mMI q1 hk, bI_t hz, gA q1.1.1 ma52, e2w, mho1, hik', hx1, bI_f hsu, if_true, gA ob2 ma53, gA ob2 ma52, mho2, rdI gm1 (show i < 6 by omega) (by decide), stI gm1 (show i < 6 by omega) (by decide), vnI, gA (ob3 _) ma53, rdI (xup_at _) (show k < 6 by omega) (by decide), w2, gA (ob3 _) ma52, w3, g51 _ (ob4 _ _), hp51 _ (ob4 _ _), Option.bind_some, bd2_s]
  rw [← hHf]
  rfl
end Sell
