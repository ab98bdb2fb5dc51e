/-! PURE: STEP when: the class's side. -/
/-- the first of two unlike digits that comes, 9 of like ones -/
def mn (x y : Nat) : Nat := if x = y then 9 else if x = 0 then y else if y = 0 then x else min x y
def pm (c k : Nat) : Nat → Nat
  | 0 => 9
  | j + 1 => min (pm c k j) (mn (dig c j) (dig k j))
theorem mn_td : ∀ d, d < 8 → ∀ x, x < 9 → ∀ y, y < 9 → ((if x ≤ d + 1 then x else 0) = (if y ≤ d + 1 then y else 0) ↔ d + 1 < mn x y) := by decide +kernel
theorem mn_b : ∀ x, x < 9 → ∀ y, y < 9 → 1 ≤ mn x y ∧ mn x y ≤ 9 ∧ (x ≠ y → mn x y ≤ 8) := by decide +kernel
theorem pm_b (c k : Nat) : ∀ T, 1 ≤ pm c k T ∧ pm c k T ≤ 9 := by
  intro T
  induction T with
  | zero => simp [pm]
  | succ T ih =>
    have := mn_b _ (dig_lt c T) _ (dig_lt k T)
    simp only [pm]; omega
theorem pm_td {c k d : Nat} (hd : d < 8) : ∀ T, (∀ j, j < T → td d c j = td d k j) ↔ d + 1 < pm c k T := by
  intro T
  induction T with
  | zero => simp [pm]; omega
  | succ T ih =>
    have h1 := mn_td d hd _ (dig_lt c T) _ (dig_lt k T)
    have h2 : td d c T = td d k T ↔ d + 1 < mn (dig c T) (dig k T) := h1
    simp only [pm]
    rw [Nat.lt_min, ← ih, ← h2]
    exact ⟨fun h => ⟨fun j hj => h j (by omega), h T (by omega)⟩, fun h j hj => by
      by_cases e : j = T
      · rw [e]; exact h.2
      · exact h.1 j (by omega)⟩
theorem tl_pm {T c k d : Nat} (hd : d < 8) : tl T d c = tl T d k ↔ d + 1 < pm c k T := by
  unfold tl
  rw [nd_ext (td_lt d c) (td_lt d k)]
  exact pm_td hd T
theorem pm_8 {T c k : Nat} (hc : c < 9 ^ T) (hk : k < 9 ^ T) (h : c ≠ k) : pm c k T ≤ 8 := by
  rcases Nat.lt_or_ge 8 (pm c k T) with q | q
  · exfalso
    refine h (dig_ext hc hk (fun j hj => ?_))
    have := (pm_td (c := c) (k := k) (d := 7) (by decide) T).mpr (by omega) j hj
    have a := dig_lt c j
    have b := dig_lt k j
    unfold td at this
    rw [if_pos (by omega), if_pos (by omega)] at this
    exact this
  · exact q
/-- the greatest of the values of those that are bad -/
noncomputable def wmx (P : Nat → Prop) (f : Nat → Nat) : Nat → Nat
  | 0 => 0
  | i + 1 => @ite _ (P i) (Classical.propDecidable _) (max (wmx P f i) (f i)) (wmx P f i)
theorem wmx_t {P : Nat → Prop} {f : Nat → Nat} {i : Nat} (h : P i) : wmx P f (i + 1) = max (wmx P f i) (f i) := by conv => lhs; unfold wmx; rw [if_pos h]
theorem wmx_f {P : Nat → Prop} {f : Nat → Nat} {i : Nat} (h : ¬ P i) : wmx P f (i + 1) = wmx P f i := by conv => lhs; unfold wmx; rw [if_neg h]
theorem wmx_lt {P : Nat → Prop} {f : Nat → Nat} {d : Nat} : ∀ s, d < wmx P f s ↔ ∃ k, k < s ∧ P k ∧ d < f k := by
  intro s
  induction s with
  | zero => simp [wmx]
  | succ s ih =>
    by_cases h : P s
    · rw [wmx_t h, show d < max (wmx P f s) (f s) ↔ d < wmx P f s ∨ d < f s by omega, ih]
      constructor
      · rintro (⟨k, h1, h2⟩ | h1)
        · exact ⟨k, by omega, h2⟩
        · exact ⟨s, by omega, h, h1⟩
      · rintro ⟨k, h1, h2, h3⟩
        by_cases e : k = s
        · subst e; exact Or.inr h3
        · exact Or.inl ⟨k, by omega, h2, h3⟩
    · rw [wmx_f h, ih]
      constructor
      · rintro ⟨k, h1, h2⟩
        exact ⟨k, by omega, h2⟩
      · rintro ⟨k, h1, h2, h3⟩
        by_cases e : k = s
        · subst e; exact absurd h2 h
        · exact ⟨k, by omega, h2, h3⟩
theorem xmax_nI {a b : Nat} (ha : a < 2 ^ 31) (hb : b < 2 ^ 31) : xmax (nI a) (nI b) = nI (max a b) := by
  show (if nI a < nI b then nI b else nI a) = _
  by_cases h : a < b
  · rw [if_pos (nI_lt h hb), Nat.max_eq_right (by omega)]
  · rw [if_neg (nI_nlt (by omega) ha), Nat.max_eq_left (by omega)]
theorem xmin_nI {a b : Nat} (ha : a < 2 ^ 31) (hb : b < 2 ^ 31) : xmin (nI a) (nI b) = nI (min a b) := by
  show (if nI b < nI a then nI b else nI a) = _
  by_cases h : b < a
  · rw [if_pos (nI_lt h ha), Nat.min_eq_right (by omega)]
  · rw [if_neg (nI_nlt (by omega) hb), Nat.min_eq_left (by omega)]
theorem div9 {c i : Nat} (h : c < 2 ^ 31) : nI (c / 9 ^ i) / (9 : Int32) = nI (c / 9 ^ (i + 1)) := by
  rw [← div_succ9]
  exact pk_div (Nat.lt_of_le_of_lt (Nat.div_le_self _ _) h) (by decide : 0 < 9) (by decide)
theorem rem9 {c i : Nat} (h : c < 2 ^ 31) : nI (c / 9 ^ i) - nI (c / 9 ^ (i + 1)) * (9 : Int32) = nI (dig c i) := by
  rw [← div9 h]
  exact pk_rem (Nat.lt_of_le_of_lt (Nat.div_le_self _ _) h) (by decide : 0 < 9) (by decide)
theorem nI_e0 {n : Nat} (h : n < 2 ^ 31) : nI n = 0 ↔ n = 0 := by
  rw [show (0 : Int32) = nI 0 from rfl, nI_eq h (by decide)]
section When2
variable {stf : Nat → Nat} {N K b m : Nat} {β : sB} {δ : sD} {H : xH}
theorem S_parting {t T c k : Nat} (ht : xgI H (some t) 6 0 = some (nI T)) (hT : T ≤ 5) (hN : 5 < N) (hc : c < 2 ^ 31) (hk : k < 2 ^ 31) : F_X6_partingDay N (some t) (nI c) (nI k) H = some (nI (pm c k T - 1), H) := by
  have key : F_X6_partingDay_L12 N (F_X6_partingDay_J96 N) N (some t) (nI (pm c k 0)) (nI (c / 9 ^ 0)) (nI (k / 9 ^ 0)) (nI 0) H = some (nI (pm c k T - 1), H) := by
    refine upto (s := T) (P := fun n i => F_X6_partingDay_L12 N (F_X6_partingDay_J96 N) n (some t) (nI (pm c k i)) (nI (c / 9 ^ i)) (nI (k / 9 ^ i)) (nI i) H = some (nI (pm c k T - 1), H)) (fun n => ?_) (fun n i hi ih => ?_) N 0 (Nat.zero_le _) (by omega)
    · have := pm_b c k T
      simp only [F_X6_partingDay_L12, F_X6_partingDay_J12, F_X6_partingDay_J96, ht, Option.bind_some, bd2_s, nI_le (Nat.le_refl T) (show T < 2 ^ 31 by omega), if_true]
      rw [show (1 : Int32) = nI 1 from rfl, pk_sub this.1]
    · have hci : c / 9 ^ i < 2 ^ 31 := Nat.lt_of_le_of_lt (Nat.div_le_self _ _) (by omega)
      have hki : k / 9 ^ i < 2 ^ 31 := Nat.lt_of_le_of_lt (Nat.div_le_self _ _) (by omega)
      have e1 : nI (c / 9 ^ i) - nI (c / 9 ^ i) / (9 : Int32) * (9 : Int32) = nI (dig c i) := pk_rem hci (by decide : 0 < 9) (by decide)
      have e2 : nI (c / 9 ^ i) / (9 : Int32) = nI (c / 9 ^ (i + 1)) := by rw [← div_succ9]; exact pk_div hci (by decide : 0 < 9) (by decide)
      have f1 : nI (k / 9 ^ i) - nI (k / 9 ^ i) / (9 : Int32) * (9 : Int32) = nI (dig k i) := pk_rem hki (by decide : 0 < 9) (by decide)
      have f2 : nI (k / 9 ^ i) / (9 : Int32) = nI (k / 9 ^ (i + 1)) := by rw [← div_succ9]; exact pk_div hki (by decide : 0 < 9) (by decide)
      have a := dig_lt c i
      have b := dig_lt k i
      have p9 := pm_b c k i
      rw [show F_X6_partingDay_L12 N (F_X6_partingDay_J96 N) (n + 1) = F_X6_partingDay_J12 N (F_X6_partingDay_L12 N (F_X6_partingDay_J96 N) n) (F_X6_partingDay_J96 N) from rfl]
      simp only [F_X6_partingDay_J12, F_X6_partingDay_J76, F_X6_partingDay_J72, F_X6_partingDay_J55, ht, Option.bind_some, bd2_s, nI_ge hi (show T < 2 ^ 31 by omega), if_false, div9 hc, div9 hk, rem9 hc, rem9 hk, nI_1, nI_eq (show dig c i < 2 ^ 31 by omega) (show dig k i < 2 ^ 31 by omega), nI_e0 (show dig c i < 2 ^ 31 by omega), nI_e0 (show dig k i < 2 ^ 31 by omega)]
      have step : ∀ x, x = pm c k (i + 1) → F_X6_partingDay_L12 N (F_X6_partingDay_J96 N) n (some t) (nI x) (nI (c / 9 ^ (i + 1))) (nI (k / 9 ^ (i + 1))) (nI (i + 1)) H = some (nI (pm c k T - 1), H) := fun x hx => by rw [hx]; exact ih
      by_cases h : dig c i = dig k i
      · rw [if_pos h]
        exact step _ (by simp [pm, mn, h]; omega)
      · rw [if_neg h]
        by_cases h0 : dig c i = 0
        · have h1 : ¬ dig k i = 0 := fun z => h (h0.trans z.symm)
          rw [if_pos h0, if_neg h1, xmin_nI (by omega) (by omega), xmin_nI (by omega) (by omega)]
          exact step _ (by simp only [pm, mn, if_neg h, if_pos h0]; omega)
        · rw [if_neg h0]
          by_cases h1 : dig k i = 0
          · rw [if_pos h1, xmin_nI (by omega) (by omega), xmin_nI (by omega) (by omega)]
            exact step _ (by simp only [pm, mn, if_neg h, if_neg h0, if_pos h1]; omega)
          · rw [if_neg h1, xmin_nI (by omega) (by omega), xmin_nI (by omega) (by omega)]
            exact step _ (by simp only [pm, mn, if_neg h, if_neg h0, if_neg h1]; omega)
  rw [show c / 9 ^ 0 = c by simp, show k / 9 ^ 0 = k by simp] at key
  exact key
/-- outcome bits of a row that is there -/
theorem S_ob {W w : Nat} {ex ps lf : Prop} {oc : Nat → Nat} {x : Int64} (hc : cv W ex ps lf oc x) (he : ex) (hw : w < W) (hW : W ≤ 12) : obits x (nI w) = nI (2 ^ oc w) := by
  rw [obits_d5 x (by omega), hc.1 w (by omega), if_pos hw, bN_t he, Nat.one_mul]
theorem two_inj : ∀ a, a < 5 → ∀ b, b < 5 → (nI (2 ^ a) = nI (2 ^ b) ↔ a = b) := by decide +kernel
theorem T_when (hN : 59049 < N) (h : Rel stf K b m β δ H) (x y : Int32) : xStep stf K b m (F_X11_when N (some b) x y) (F_X12_when N (some m) x y) H := by
  obtain ⟨⟨⟨c, tc, tk, cb, n, nk, ncb, ad, ho⟩, -⟩, v, hm⟩ := id h
  obtain ⟨g0, g1, g2, g3, g4, g5, g6, g7, g8, g9, g10, g11, g12, g13, g14⟩ := ho.g
  obtain ⟨o10, o2, o6, o4, o5, o3, o9⟩ := ho.o
  obtain ⟨k0, k1, k2, k4, k6, k7, k12⟩ := ho.k
  have q := hm.mq
  have qo := q.ob
  have qz := q.z
  obtain ⟨v0, v1, v2, v3, v46, t5, t6, t12⟩ := q.ac
  obtain ⟨cl, cert, tt, hc, hs, hs2, u0, u1, u2, u3, u4⟩ := ho.t
  rcases ix3 x (show bW β < 2 ^ 31 by omega) with hx | ⟨w, hw, rfl⟩
  · exact xStep.rd (r := -1) h (by simp only [F_X11_when, F_X11_when_J32, F_X11_when_J33, g5, o2, S_btO ho hx, if_true, Option.bind_some, bd2_s]) (by simp only [F_X12_when, qo, S_mWO q hx, if_true, Option.bind_some, bd2_s])
  have hoc := hm.2.1.2.2.2.2.1
  have hpe := hm.2.1.2.2.2.1
  rcases ix3 y (show bZ β < 2 ^ 31 by omega) with hy | ⟨j, hj, rfl⟩
  · refine xStep.rd (r := -1) h ?_ ?_
    · have e0 : (0 : Int64) &&& (2305843009213693952 : Int64) = 0 := by decide
      simp only [F_X11_when, F_X11_when_J32, F_X11_when_J33, g5, o2, S_btI ho t12 hw, reduceCtorEq, if_false, g6, o6, S_cellOut tt hy, lgc, e0, if_true, Option.bind_some, bd2_s]
    · simp only [F_X12_when, qo, S_mWI q hw, show ¬ (1 : Int32) = 0 by decide, if_false, S_mRowOut q hy, if_true, Option.bind_some, bd2_s]
  by_cases hp : bps β j
  · have he := hpe j hj hp
    generalize hP : (fun k => bps β k ∧ boc β w k ≠ boc β w j) = P
    generalize hf : (fun k => pm j k (bT β) - 1) = f
    have hle : wmx P f (bZ β) ≤ 7 := by
      rcases Nat.lt_or_ge 7 (wmx P f (bZ β)) with z | z
      · obtain ⟨k, k1, k2, k3⟩ := (wmx_lt _).mp z
        rw [← hP] at k2
        rw [← hf] at k3
        have : j ≠ k := fun e => k2.2 (by rw [e])
        have := pm_8 hj k1 this
        simp at k3; omega
      · exact z
    have hfb : ∀ k, f k ≤ 8 := fun k => by
      have := pm_b j k (bT β)
      rw [← hf]; simp; omega
    have hwb : ∀ i, wmx P f i < 2 ^ 31 := fun i => by
      rcases Nat.lt_or_ge 8 (wmx P f i) with z | z
      · obtain ⟨k, k1, k2, k3⟩ := (wmx_lt _).mp z
        have := hfb k; omega
      · omega
    -- the class
    have L1 : F_X6_decidedOn_L16 N N (some (b + 15)) (nI w) (nI j) (nI (2 ^ boc β w j)) (nI (wmx P f 0)) (nI 0) H = some (nI (wmx P f (bZ β)), H) := by
      refine upto (s := bZ β) (P := fun n i => F_X6_decidedOn_L16 N n (some (b + 15)) (nI w) (nI j) (nI (2 ^ boc β w j)) (nI (wmx P f i)) (nI i) H = some (nI (wmx P f (bZ β)), H)) (fun n => ?_) (fun n i hi ih => ?_) N 0 (Nat.zero_le _) (by omega)
      · simp only [F_X6_decidedOn_L16, F_X6_decidedOn_J16, u1, Option.bind_some, bd2_s, nI_le (Nat.le_refl (bZ β)) (show bZ β < 2 ^ 31 by omega), if_true]
      · simp only [F_X6_decidedOn_L16, F_X6_decidedOn_J16, F_X6_decidedOn_J68, u1, o6, Option.bind_some, bd2_s, nI_ge hi (show bZ β < 2 ^ 31 by omega), if_false, S_cellAt tt hi, lgc, nI_1, S_obits]
        by_cases hpi : bps β i
        · simp only [cvp1 (hc i hi) hpi, if_false, S_ob (hc i hi) (hpe i hi hpi) hw t12, two_inj _ (hoc w i) _ (hoc w j)]
          by_cases ho : boc β w i = boc β w j
          · rw [if_pos ho]
            rw [wmx_f (by rw [← hP]; exact fun z => z.2 ho)] at ih
            exact ih
          · rw [if_neg ho, S_parting u0 t5 (by omega) (by omega) (by omega)]
            simp only [Option.bind_some, bd2_s]
            rw [show nI (pm j i (bT β) - 1) = nI (f i) by rw [← hf], xmax_nI (hwb i) (by have := hfb i; omega)]
            rw [wmx_t (by rw [← hP]; exact ⟨hpi, ho⟩)] at ih
            exact ih
        · simp only [cvp0 (hc i hi) hpi, if_true]
          rw [wmx_f (by rw [← hP]; exact fun z => hpi z.1)] at ih
          exact ih
    have C1 : F_X11_when N (some b) (nI w) (nI j) H = some (nI (wmx P f (bZ β)), H) := by
      have e := cvp1 (hc j hj) hp
      simp only [F_X11_when, F_X11_when_J33, g5, o2, S_btI ho t12 hw, reduceCtorEq, if_false, g6, o6, S_cellAt tt hj, lgc, e, show ¬ (1 : Int32) = 0 by decide, F_X6_decidedOn, S_obits, S_ob (hc j hj) he hw t12, Option.bind_some, bd2_s]
      rw [show F_X6_decidedOn_L16 N N (some (b + 15)) (nI w) (nI j) (nI (2 ^ boc β w j)) (0 : Int32) (0 : Int32) H = _ from L1]
      rfl
    -- the reference
    obtain ⟨gd, hgd⟩ : ∃ g, H.1 (m + 27) = some (aI 59049 g) := hm.1.2.2.2.2.2.2.2.2.2.2.2.2.2.2.2.2.2.2.1
    have hqs : ∀ g, mQ m v β (dL δ) (xup H (m + 27) (aI 59049 g)) := fun g => q.s (mS.sc q.1.1 (sc.upI (Or.inr (Or.inr (Or.inl rfl))) hgd))
    have L2 : ∀ n d, d ≤ 7 → 7 - d < n → ∀ g, d ≤ wmx P f (bZ β) → ∃ g', F_X12_when_L28 N n (some m) (nI w) (nI j) (nI d) (xup H (m + 27) (aI 59049 g)) = some (nI (wmx P f (bZ β)), xup H (m + 27) (aI 59049 g')) := by
      refine upto (s := 7) (P := fun n d => ∀ g, d ≤ wmx P f (bZ β) → ∃ g', F_X12_when_L28 N n (some m) (nI w) (nI j) (nI d) (xup H (m + 27) (aI 59049 g)) = some (nI (wmx P f (bZ β)), xup H (m + 27) (aI 59049 g'))) (fun n g hd => ⟨g, ?_⟩) (fun n d hd ih g hdw => ?_)
      · have : wmx P f (bZ β) = 7 := by omega
        simp only [F_X12_when_L28, F_X12_when_J28, show (7 : Int32) ≤ nI 7 from by decide, if_true, this]
        rfl
      · obtain ⟨g', g1, g2⟩ := S_begins (N := N) hN (hqs g) hw (show d ≤ 7 by omega) (xup_at _)
        rw [xup_up] at g1
        have q' := hqs g'
        have hat : (xup H (m + 27) (aI 59049 g')).1 (m + 27) = some (aI 59049 g') := xup_at _
        have hkl : tl (bT β) d j < bZ β := tl_lt _ _ _
        have hU := dcd_U hm.2.1 hw (g2 _ hkl)
        have hU2 : g' (tl (bT β) d j) = 5000 ↔ d < wmx P f (bZ β) := by
          rw [hU, wmx_lt]
          constructor
          · rintro ⟨k, k', k1, k2, k3, k4, k5, k6, k7⟩
            have : boc β w k ≠ boc β w j ∨ boc β w k' ≠ boc β w j := by
              by_cases z : boc β w k = boc β w j
              · exact Or.inr (fun z2 => k7 (z.trans z2.symm))
              · exact Or.inl z
            have fin : ∀ k, k < bZ β → bps β k → tl (bT β) d k = tl (bT β) d j → boc β w k ≠ boc β w j → ∃ k, k < bZ β ∧ P k ∧ d < f k := fun k a1 a2 a3 a4 => ⟨k, a1, by rw [← hP]; exact ⟨a2, a4⟩, by
              have := (tl_pm (by omega)).mp a3.symm
              rw [← hf]; simp; omega⟩
            rcases this with z | z
            · exact fin k k1 k3 k5 z
            · exact fin k' k2 k4 k6 z
          · rintro ⟨k, k1, k2, k3⟩
            rw [← hP] at k2
            rw [← hf] at k3
            refine ⟨k, j, k1, hj, k2.1, hp, ?_, rfl, k2.2⟩
            exact ((tl_pm (by omega)).mpr (by simp at k3; omega)).symm
        have q0 := hqs g
        have st7 : ¬ (7 : Int32) ≤ nI d := nI_ge (show d < 7 from hd) (by decide)
        simp only [F_X12_when_L28, F_X12_when_J28, st7, if_false, q0.ob, g1, q'.ob, gA q'.1.1 ma50, S_till (N := N) (by omega) q' hj (show d ≤ 7 by omega), rdI hat (show tl (bT β) d j < 59049 by omega) (by decide), hU2, nI_1, Option.bind_some, bd2_s]
        by_cases hlt : d < wmx P f (bZ β)
        · rw [if_pos hlt]
          exact ih g' (by omega)
        · rw [if_neg hlt]
          exact ⟨g', by rw [show d = wmx P f (bZ β) by omega]⟩
    obtain ⟨g', hg'⟩ := L2 N 0 (by decide) (by omega) gd (Nat.zero_le _)
    rw [xup_id hgd] at hg'
    refine ⟨nI (wmx P f (bZ β)), H, _, β, δ, C1, ?_, h.scr ho sc.rf hm.1.1.1 hm.1 (mS.sc hm.1.1.1 (sc.upI (g' := g') (Or.inr (Or.inr (Or.inl rfl))) hgd))⟩
    simp only [F_X12_when, qo, S_mWI q hw, S_mRowIn q hj, bI_t he, S_mPos q.1 q.2.1 hj, bI_t hp, show ¬ (1 : Int32) = 0 by decide, if_false, Option.bind_some, bd2_s]
    exact hg'
  · refine xStep.rd (r := -1) h ?_ ?_
    · have e := cvp0 (hc j hj) hp
      simp only [F_X11_when, F_X11_when_J32, F_X11_when_J33, g5, o2, S_btI ho t12 hw, reduceCtorEq, if_false, g6, o6, S_cellAt tt hj, lgc, e, if_true, Option.bind_some, bd2_s]
    · by_cases he : bex β j
      · simp only [F_X12_when, qo, S_mWI q hw, S_mRowIn q hj, bI_t he, S_mPos q.1 q.2.1 hj, bI_f hp, show ¬ (1 : Int32) = 0 by decide, if_false, if_true, Option.bind_some, bd2_s]
      · simp only [F_X12_when, qo, S_mWI q hw, S_mRowIn q hj, bI_f he, show ¬ (1 : Int32) = 0 by decide, if_false, if_true, Option.bind_some, bd2_s]
end When2
