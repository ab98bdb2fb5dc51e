/-! PURE: STEPS same, rows, wager, sure, split. -/
section Rd2
variable {stf : Nat → Nat} {N K b m : Nat} {β : sB} {δ : sD} {H : xH}
theorem T_same (hN : 59049 < N) (h : Rel stf K b m β δ H) (x y : Int32) : xStep stf K b m (F_X11_same N (some b) x y) (F_X12_same N (some m) x y) H := by
  obtain ⟨⟨⟨c, tc, tk, cb, n, nk, ncb, ad, ho⟩, -⟩, v, hm⟩ := id h
  obtain ⟨g0, g1, g2, g3, g4, g5, g6, g7, g8, g9, g10, g11, g12, g13, g14⟩ := ho.g
  obtain ⟨o10, o2, o6, o4, o5, o3, o9⟩ := ho.o
  obtain ⟨k0, k1, k2, k4, k6, k7, k12⟩ := ho.k
  have q := hm.mq
  have qo := q.ob
  have qz := q.z
  obtain ⟨v0, v1, v2, v3, v46, t5, t6, t12⟩ := q.ac
  obtain ⟨cl, cert, tt, hc, hs, hs2, u0, u1, u2, u3, u4⟩ := ho.t
  rcases ix3 x (show bW β < 2 ^ 31 by omega) with hx | ⟨w, hw, rfl⟩
  · rcases ix3 y (show bW β < 2 ^ 31 by omega) with hy | ⟨u, hu, rfl⟩
    · exact xStep.rd (r := -2) h (by simp [F_X11_same, g5, o2, S_btO ho hx, S_btO ho hy, bd2_s]) (by simp [F_X12_same, qo, S_mWO q hx, bd2_s])
    · exact xStep.rd (r := -2) h (by simp [F_X11_same, g5, o2, S_btO ho hx, S_btI ho t12 hu, bd2_s]) (by simp [F_X12_same, qo, S_mWO q hx, bd2_s])
  · rcases ix3 y (show bW β < 2 ^ 31 by omega) with hy | ⟨u, hu, rfl⟩
    · exact xStep.rd (r := -2) h (by simp [F_X11_same, g5, o2, S_btI ho t12 hw, S_btO ho hy, bd2_s]) (by simp [F_X12_same, qo, S_mWI q hw, S_mWO q hy, bd2_s])
    · obtain ⟨p1, p2, p3, p4⟩ := ho.bt (N := N) hw
      obtain ⟨r1, r2, r3, r4⟩ := ho.bt (N := N) hu
      have hoc := hm.2.1.2.2.2.2.1
      have hpe := hm.2.1.2.2.2.1
      have eq : ∀ k, k < bZ β → bex β k → ∀ w, w < bW β → F_X11_outcome N (cl k) (nI w) H = some (nI (boc β w k), H) := fun k hk he w hw => S_oc (hc k hk) he (hoc w k) hw t12
      generalize hP : (fun k => bps β k ∧ pay (boc β w k) (bc1 β w) (bc2 β w) ≠ pay (boc β u k) (bc1 β u) (bc2 β u)) = P
      have L1 : F_X11_same_L34 N N (some b) (nI w) (nI u) (some (ad w)) (some (ad u)) (nI 0) H = some (fsc P (bZ β - 0) 0, H) := by
        refine upto (s := bZ β) (P := fun n i => F_X11_same_L34 N n (some b) (nI w) (nI u) (some (ad w)) (some (ad u)) (nI i) H = some (fsc P (bZ β - i) i, H)) (fun n => ?_) (fun n i hi ih => ?_) N 0 (Nat.zero_le _) (by omega)
        · simp only [F_X11_same_L34, F_X11_same_J34, g6, u1, Option.bind_some, bd2_s, nI_le (Nat.le_refl (bZ β)) (show bZ β < 2 ^ 31 by omega), if_true, fsc_e]
        · simp only [F_X11_same_L34, F_X11_same_J34, F_X11_same_J95, g6, u1, o6, Option.bind_some, bd2_s, nI_ge hi (show bZ β < 2 ^ 31 by omega), if_false, S_cellAt tt hi, lgc, nI_1]
          by_cases hp : bps β i
          · have he := hpe i hi hp
            simp only [cvp1 (hc i hi) hp, if_false, eq i hi he w hw, eq i hi he u hu, p1, r1, p4 _ (hoc w i), r4 _ (hoc u i), Option.bind_some, bd2_s]
            by_cases hs : pay (boc β w i) (bc1 β w) (bc2 β w) = pay (boc β u i) (bc1 β u) (bc2 β u)
            · rw [if_pos hs, ih, fsc_f hi (by rw [← hP]; exact fun z => z.2 hs)]
            · rw [if_neg hs, fsc_t hi (by rw [← hP]; exact ⟨hp, hs⟩)]
          · simp only [cvp0 (hc i hi) hp, if_true]
            rw [ih, fsc_f hi (by rw [← hP]; exact fun z => hp z.1)]
      have L2 : F_X12_same_L21 N N (some m) (nI w) (nI u) (nI 0) H = some (fsc P (bZ β - 0) 0, H) := by
        refine upto (s := bZ β) (P := fun n i => F_X12_same_L21 N n (some m) (nI w) (nI u) (nI i) H = some (fsc P (bZ β - i) i, H)) (fun n => ?_) (fun n i hi ih => ?_) N 0 (Nat.zero_le _) (by omega)
        · simp only [F_X12_same_L21, F_X12_same_J21, q.rows, Option.bind_some, bd2_s, nI_le (Nat.le_refl (bZ β)) (show bZ β < 2 ^ 31 by omega), if_true, fsc_e]
        · simp only [F_X12_same_L21, F_X12_same_J21, F_X12_same_J54, q.rows, qo, Option.bind_some, bd2_s, nI_ge hi (show bZ β < 2 ^ 31 by omega), if_false, S_mPos q.1 q.2.1 hi, nI_1]
          by_cases hp : bps β i
          · have he := hpe i hi hp
            simp only [bI_t hp, show ¬ (1 : Int32) = 0 by decide, if_false, S_mPays q hw hi he, S_mPays q hu hi he, qo, Option.bind_some, bd2_s]
            by_cases hs : pay (boc β w i) (bc1 β w) (bc2 β w) = pay (boc β u i) (bc1 β u) (bc2 β u)
            · rw [if_pos hs, ih, fsc_f hi (by rw [← hP]; exact fun z => z.2 hs)]
            · rw [if_neg hs, fsc_t hi (by rw [← hP]; exact ⟨hp, hs⟩)]
          · simp only [bI_f hp, if_true]
            rw [ih, fsc_f hi (by rw [← hP]; exact fun z => hp z.1)]
      exact xStep.rd (r := fsc P (bZ β - 0) 0) h (by simp [F_X11_same, g5, o2, S_btI ho t12 hw, S_btI ho t12 hu, bd2_s]; exact L1) (by simp [F_X12_same, qo, S_mWI q hw, S_mWI q hu, bd2_s]; exact L2)
theorem T_rows (hN : 59049 < N) (h : Rel stf K b m β δ H) (x : Int32) : xStep stf K b m (F_X11_rows N (some b) x) (F_X12_rows N (some m) x) H := by
  obtain ⟨⟨⟨c, tc, tk, cb, n, nk, ncb, ad, ho⟩, -⟩, v, hm⟩ := id h
  obtain ⟨g0, g1, g2, g3, g4, g5, g6, g7, g8, g9, g10, g11, g12, g13, g14⟩ := ho.g
  obtain ⟨o10, o2, o6, o4, o5, o3, o9⟩ := ho.o
  obtain ⟨k0, k1, k2, k4, k6, k7, k12⟩ := ho.k
  have q := hm.mq
  have qo := q.ob
  have qz := q.z
  obtain ⟨v0, v1, v2, v3, v46, t5, t6, t12⟩ := q.ac
  obtain ⟨cl, cert, tt, hc, hs, hs2, u0, u1, u2, u3, u4⟩ := ho.t
  by_cases hx : x = -1
  · subst hx
    exact xStep.rd (r := nI (cnt (lft β (dL δ)) (bZ β))) h (by simp only [F_X11_rows, if_true, g6, u3, Option.bind_some, bd2_s]) (by simp only [F_X12_rows, if_true, qo, S_mMany q hN, Option.bind_some, bd2_s])
  · obtain ⟨r, hr1, hr2⟩ := S_leftCode (N := N) tt (fun k hk => cv_lf (hc k hk)) x N 0 (Nat.zero_le _) (by omega) (fun j hj => by omega)
    have L2 : ∀ (n i : Nat), i ≤ bZ β → bZ β - i < n → (∀ j, j < i → lft β (dL δ) j → ¬ nI (cnt (lft β (dL δ)) j) = x) → ∃ r, F_X12_rows_L14 N n (some m) x (x - nI (cnt (lft β (dL δ)) i)) (nI i) H = some (r, H) ∧ nth (lft β (dL δ)) (bZ β) x r := by
      refine upto (s := bZ β) (P := fun n i => (∀ j, j < i → lft β (dL δ) j → ¬ nI (cnt (lft β (dL δ)) j) = x) → ∃ r, F_X12_rows_L14 N n (some m) x (x - nI (cnt (lft β (dL δ)) i)) (nI i) H = some (r, H) ∧ nth (lft β (dL δ)) (bZ β) x r) (fun n hno => ?_) (fun n i hi ih hno => ?_)
      · refine ⟨-1, ?_, Or.inr ⟨hno, rfl⟩⟩
        simp only [F_X12_rows_L14, F_X12_rows_J14, q.rows, Option.bind_some, bd2_s, nI_le (Nat.le_refl (bZ β)) (show bZ β < 2 ^ 31 by omega), if_true]
      · simp only [F_X12_rows_L14, F_X12_rows_J14, F_X12_rows_J46, q.rows, qo, Option.bind_some, bd2_s, nI_ge hi (show bZ β < 2 ^ 31 by omega), if_false, q.lf (by omega : 5 < N) hi, nI_1]
        by_cases hneg : x < 0
        · rw [if_pos hneg]
          exact ⟨-1, rfl, Or.inr ⟨fun j hj _ e => by
            have := cnt_le (lft β (dL δ)) j
            rw [← e] at hneg
            exact nI_pos (by omega) hneg, rfl⟩⟩
        · rw [if_neg hneg]
          have hxz : x - nI (cnt (lft β (dL δ)) i) = 0 ↔ nI (cnt (lft β (dL δ)) i) = x := by
            rw [Int32.sub_eq_iff_eq_add, Int32.zero_add]; exact eq_comm
          by_cases hl : lft β (dL δ) i
          · rw [bI_t hl, if_neg (by decide : ¬ (1 : Int32) = 0)]
            by_cases hk : nI (cnt (lft β (dL δ)) i) = x
            · rw [if_pos (hxz.mpr hk)]
              exact ⟨nI i, rfl, Or.inl ⟨i, hi, hl, hk, rfl⟩⟩
            · rw [if_neg (fun z => hk (hxz.mp z)), show x - nI (cnt (lft β (dL δ)) i) + -1 = x - nI (cnt (lft β (dL δ)) (i + 1)) by
                rw [cnt_t hl, ← nI_1, Int32.sub_eq_add_neg, Int32.sub_eq_add_neg, Int32.neg_add, Int32.add_assoc, Int32.sub_eq_add_neg]]
              exact ih (fun j hj hlj => by
                by_cases hji : j = i
                · subst hji; exact hk
                · exact hno j (by omega) hlj)
          · rw [bI_f hl, if_pos rfl, ← cnt_f hl]
            exact ih (fun j hj hlj => by
              by_cases hji : j = i
              · subst hji; exact absurd hlj hl
              · exact hno j (by omega) hlj)
    obtain ⟨r', h1, h2⟩ := L2 N 0 (Nat.zero_le _) (by omega) (fun j hj => by omega)
    rw [show x - nI (cnt (lft β (dL δ)) 0) = x by show x - (0 : Int32) = x; rw [Int32.sub_zero]] at h1
    have e : r' = r := nth_fun (by omega) h2 hr2
    subst e
    refine xStep.rd (r := r') h ?_ ?_
    · simp only [F_X11_rows, hx, if_false, g6, o6, F_X6_leftCode, Option.bind_some, bd2_s]
      rw [show F_X6_leftCode_L4 N N (some (b + 15)) x (0 : Int32) (0 : Int32) H = some (r', H) from hr1]; rfl
    · simp only [F_X12_rows, hx, if_false]
      exact h1
theorem T_wager (h : Rel stf K b m β δ H) (x y : Int32) : xStep stf K b m (F_X11_wager N (some b) x y) (F_X12_wager N (some m) x y) H := by
  obtain ⟨⟨⟨c, tc, tk, cb, n, nk, ncb, ad, ho⟩, -⟩, v, hm⟩ := id h
  obtain ⟨g0, g1, g2, g3, g4, g5, g6, g7, g8, g9, g10, g11, g12, g13, g14⟩ := ho.g
  obtain ⟨o10, o2, o6, o4, o5, o3, o9⟩ := ho.o
  obtain ⟨k0, k1, k2, k4, k6, k7, k12⟩ := ho.k
  have q := hm.mq
  have qo := q.ob
  have qz := q.z
  obtain ⟨v0, v1, v2, v3, v46, t5, t6, t12⟩ := q.ac
  rcases ix3 x (show bW β < 2 ^ 31 by omega) with hx | ⟨w, hw, rfl⟩
  · exact xStep.rd (r := -1) h (by simp [F_X11_wager, g5, o2, S_btO ho hx, bd2_s]) (by simp [F_X12_wager, qo, S_mWO q hx, bd2_s])
  · obtain ⟨p1, p2, p3, p4⟩ := ho.bt (N := N) hw
    obtain ⟨gh, gh1, gh2⟩ := hm.1.2.2.2.2.2.2.1
    obtain ⟨b1, b2, b3, b4, b5, b6, b7⟩ := hm.1.2.2.2.2.1
    obtain ⟨f1, f2⟩ := b7 w hw
    obtain ⟨a5, a51, a52⟩ := hm.1.1.2.2.2.2.2.2.1
    obtain ⟨a6, a61, a62⟩ := hm.1.1.2.2.2.2.2.2.2
    obtain ⟨e1, e2, e3, e4, e5, e6, e7, e8⟩ := ho.2.2.2.2.1.2.2.2.2 w hw
    have z0 : (2 : Int32) * nI w = nI (2 * w) := by rw [show (2 : Int32) = nI 2 from rfl, pk_mul]
    have z1 : (2 : Int32) * nI w + 1 = nI (2 * w + 1) := by rw [z0, nI_1]
    have w12 : w < 12 := by omega
    by_cases y0 : y = 0
    · subst y0
      exact xStep.rd (r := lH (dL δ) (2 * w)) h (by simp [F_X11_wager, F_X11_wager_J56, g5, o2, S_btI ho t12 hw, g7, o4, show F_X4_holder N (some (b + 20)) (nI w) 0 H = _ from S_hold ho w12 (by decide : 0 < 2), bd2_s]) (by simp [F_X12_wager, qo, S_mWI q hw, gA hm.1.1.1 ma52, z0, rdI gh1 (show 2 * w < 24 by omega) (by decide), gh2 _ (show 2 * w < 24 by omega), bd2_s])
    by_cases y1 : y = 1
    · subst y1
      exact xStep.rd (r := lH (dL δ) (2 * w + 1)) h (by simp [F_X11_wager, F_X11_wager_J56, g5, o2, S_btI ho t12 hw, g7, o4, show F_X4_holder N (some (b + 20)) (nI w) 1 H = _ from S_hold ho w12 (by decide : 1 < 2), bd2_s]) (by simp [F_X12_wager, qo, S_mWI q hw, gA hm.1.1.1 ma52, z1, rdI gh1 (show 2 * w + 1 < 24 by omega) (by decide), gh2 _ (show 2 * w + 1 < 24 by omega), bd2_s])
    by_cases y2 : y = 2
    · subst y2
      exact xStep.rd (r := bc1 β w) h (by simp [F_X11_wager, F_X11_wager_J66, F_X0_stake, g5, o2, S_btI ho t12 hw, p1, p2, bd2_s]) (by simp [F_X12_wager, qo, S_mWI q hw, gA hm.1.1.1 ma10, rdI a51 (show w < 24 by omega) (by decide), a52 w hw, bd2_s])
    by_cases y3 : y = 3
    · subst y3
      exact xStep.rd (r := bc2 β w) h (by simp [F_X11_wager, F_X11_wager_J66, F_X0_stake, g5, o2, S_btI ho t12 hw, p1, p3, bd2_s]) (by simp [F_X12_wager, qo, S_mWI q hw, gA hm.1.1.1 ma11, rdI a61 (show w < 24 by omega) (by decide), a62 w hw, bd2_s])
    by_cases y4 : y = 4
    · subst y4
      have ea : xgA H (some (ad w)) 0 5 = some e4 := gA e6 rfl
      have k1 : b2 w ≤ b1 w ↔ ¬ bmo β w := by rw [← f1, Int32.not_lt]
      refine xStep.rd (r := bI (bmo β w)) h ?_ ?_
      · simp only [F_X11_wager, g5, o2, S_btI ho t12 hw, ea, Option.bind_some, bd2_s]
        by_cases ho4 : bmo β w
        · have : ¬ e4 = none := fun z => e7.mp z ho4
          simp [this, bI_t ho4]
        · have : e4 = none := e7.mpr ho4
          simp [this, bI_f ho4]
      · by_cases ho4 : bmo β w <;> simp [F_X12_wager, F_X12_wager_J102, F_X12_unit, qo, S_mWI q hw, gA hm.1.1.1 ma17, gA hm.1.1.1 ma18, rdI b4 (show w < 24 by omega) (by decide), rdI b5 (show w < 24 by omega) (by decide), k1, ho4, bI_t, bI_f, bd2_s]
    by_cases y5 : y = 5
    · subst y5
      have ea : xgA H (some (ad w)) 0 6 = some e5 := gA e6 rfl
      have k1 : b3 w ≤ b2 w ↔ ¬ bmd β w := by rw [← f2, Int32.not_lt]
      refine xStep.rd (r := bI (bmd β w)) h ?_ ?_
      · simp only [F_X11_wager, g5, o2, S_btI ho t12 hw, ea, Option.bind_some, bd2_s]
        by_cases ho4 : bmd β w
        · have : ¬ e5 = none := fun z => e8.mp z ho4
          simp [this, bI_t ho4]
        · have : e5 = none := e8.mpr ho4
          simp [this, bI_f ho4]
      · by_cases ho4 : bmd β w <;> simp [F_X12_wager, F_X12_wager_J126, F_X12_unit, qo, S_mWI q hw, gA hm.1.1.1 ma18, gA hm.1.1.1 ma19, rdI b5 (show w < 24 by omega) (by decide), rdI b6 (show w < 24 by omega) (by decide), k1, ho4, bI_t, bI_f, bd2_s]
    exact xStep.rd (r := -1) h (by simp [F_X11_wager, g5, o2, S_btI ho t12 hw, y0, y1, y2, y3, y4, y5, bd2_s]) (by simp [F_X12_wager, qo, S_mWI q hw, y0, y1, y2, y3, y4, y5, bd2_s])
end Rd2
