/-! PURE: STEPS count, luck. -/
theorem cb_md : ∀ cb, cb < 32 → ∀ i, i < 5 → (cb.testBit i = true → nI (cb % 2 ^ i) ||| ((1 : Int32) <<< (nI i &&& 31)) = nI (cb % 2 ^ (i + 1))) ∧ (¬ cb.testBit i = true → cb % 2 ^ i = cb % 2 ^ (i + 1)) := by decide +kernel
theorem cnt_0 {P : Nat → Prop} : cnt P 0 = 0 := rfl
section Count
variable {stf : Nat → Nat} {N K b m : Nat} {β : sB} {δ : sD} {H : xH}
variable {c tc tk cb n nk ncb : Nat} {ad : Nat → Nat}
theorem S_cameBits (hN : 5 < N) (ho : RXo stf K b m c tc tk cb n nk ncb ad β δ H) {cb0 : Nat} (h1 : cb0 < 32) (h2 : ∀ j, j < 5 → (cb0.testBit j = true ↔ lC (dL δ) j ≠ 0)) (h8 : ∀ j, lC (dL δ) j ≤ 8) : F_X4_cameBits N (some (b + 20)) H = some (nI cb0, H) := by
  obtain ⟨l0, l1, l2, l3, l4⟩ := ho.l
  obtain ⟨hl1, ⟨gc, hl2, hl2'⟩, hl3, hl4⟩ := ho.2.2.2.2.2.2.1
  have key := upto (s := 5) (P := fun n i => F_X4_cameBits_L4 N n (some (b + 20)) (nI (cb0 % 2 ^ i)) (nI i) H = some (nI cb0, H)) (fun n => by
    rw [show F_X4_cameBits_L4 N (n + 1) = F_X4_cameBits_J4 N (F_X4_cameBits_L4 N n) from rfl]
    simp only [F_X4_cameBits_J4, l2, leI hl2, show nI 5 ≤ nI 5 from by decide, if_true, Option.bind_some, bd2_s]
    rw [show cb0 % 2 ^ 5 = cb0 from Nat.mod_eq_of_lt h1]) (fun n i hi ih => by
    have hc := h8 i
    obtain ⟨z1, z2⟩ := cb_md cb0 h1 i hi
    rw [show F_X4_cameBits_L4 N (n + 1) = F_X4_cameBits_J4 N (F_X4_cameBits_L4 N n) from rfl]
    simp only [F_X4_cameBits_J4, F_X4_cameBits_J28, l2, leI hl2, nI_ge hi (by decide : 5 < 2 ^ 31), if_false, rdI hl2 hi (by decide), hl2' i hi, nI_1, Option.bind_some, bd2_s]
    by_cases q : lC (dL δ) i = 0
    · rw [if_pos (by rw [q]; rfl), z2 (fun z => (h2 i hi).mp z q)]
      exact ih
    · rw [if_neg (nI_ne0 (by omega) (by omega)), z1 ((h2 i hi).mpr q)]
      exact ih) N 0 (by omega) (by omega)
  rw [show cb0 % 2 ^ 0 = 0 by simp [Nat.mod_one]] at key
  exact key
theorem S_mPossMany {v : Nat → Int32} (hN : 59049 < N) (q : mQ m v β (dL δ) H) : F_X12_possibleMany N (some m) H = some (nI (cnt (bps β) (bZ β)), H) := by
  have qz := q.z
  have key := upto (s := bZ β) (P := fun n i => F_X12_possibleMany_L4 N n (some m) (nI (cnt (bps β) i)) (nI i) H = some (nI (cnt (bps β) (bZ β)), H)) (fun n => by
    rw [show F_X12_possibleMany_L4 N (n + 1) = F_X12_possibleMany_J4 N (F_X12_possibleMany_L4 N n) from rfl]
    simp only [F_X12_possibleMany_J4, q.rows, nI_le (Nat.le_refl _) (show bZ β < 2 ^ 31 by omega), if_true, Option.bind_some, bd2_s]) (fun n i hi ih => by
    rw [show F_X12_possibleMany_L4 N (n + 1) = F_X12_possibleMany_J4 N (F_X12_possibleMany_L4 N n) from rfl]
    simp only [F_X12_possibleMany_J4, q.rows, q.ob, nI_ge hi (show bZ β < 2 ^ 31 by omega), if_false, S_mPos q.1 q.2.1 hi, S_unit, bI_add, nI_1, Option.bind_some, bd2_s]
    exact ih) N 0 (Nat.zero_le _) (by omega)
  exact key
theorem S_mSureMany {v : Nat → Int32} (hN : 59049 < N) (h : CM K m v β δ H) : ∃ v' H', F_X12_count_L79 N N (some m) 0 0 H = some (nI (cnt (suW β (dL δ)) (bW β)), H') ∧ mS m v v' H H' := by
  obtain ⟨v0, v1, v2, v3, v46, t5, t6, t12⟩ := h.mq.ac
  have key := upto (s := bW β) (P := fun n w => ∀ v' H', mS m v v' H H' → ∃ v'' H'', F_X12_count_L79 N n (some m) (nI (cnt (suW β (dL δ)) w)) (nI w) H' = some (nI (cnt (suW β (dL δ)) (bW β)), H'') ∧ mS m v v'' H H'') (fun n v' H' hS => by
    obtain ⟨v0', v1', v2', -⟩ := (show CM K m v' β δ H' from ⟨h.1.s hS, h.2⟩).mq.ac
    refine ⟨v', H', ?_, hS⟩
    rw [show F_X12_count_L79 N (n + 1) = F_X12_count_J79 N (F_X12_count_L79 N n) from rfl]
    simp only [F_X12_count_J79, v2', nI_le (Nat.le_refl _) (show bW β < 2 ^ 31 by omega), if_true, Option.bind_some, bd2_s]) (fun n w hw ih v' H' hS => by
    have hc : CM K m v' β δ H' := ⟨h.1.s hS, h.2⟩
    obtain ⟨v0', v1', v2', -⟩ := hc.mq.ac
    obtain ⟨x, hx1, hx2⟩ := S_mSu (N := N) hN hc hw
    have hS1 : mS m v' (upd v' 49 x) H' (xup H' m (mo m (upd v' 49 x))) := mS49 hc.1.1.1
    obtain ⟨v'', H'', e1, e2⟩ := ih _ _ (hS.tr hS1)
    refine ⟨v'', H'', ?_, e2⟩
    rw [← e1, show F_X12_count_L79 N (n + 1) = F_X12_count_J79 N (F_X12_count_L79 N n) from rfl]
    simp only [F_X12_count_J79, v2', hc.mq.ob, nI_ge hw (show bW β < 2 ^ 31 by omega), if_false, hx1, S_unit, bI_add, nI_1, Option.bind_some, bd2_s]) N 0 (Nat.zero_le _) (by omega) v H (mS.rf h.1.1.1)
  exact key
/-- the bits of the outcomes that are SURE -/
theorem pop_cert {cert : Int64} {P : Nat → Prop} {o : Nat → Nat} {W : Nat} (hW : W ≤ 12) (ho : ∀ w, o w < 5) (h1 : ∀ w, w < W → P w → d5 cert w = 2 ^ o w) (h2 : ∀ w, w < W → ¬ P w → d5 cert w = 0) (h3 : ∀ w, W ≤ w → w < 12 → d5 cert w = 0) (h4 : d5 cert 12 = 0) : pop (uL cert) 64 = cnt P W := by
  have e5 : ∀ w, pop (uL cert / 2 ^ (5 * w)) 5 = pop (d5 cert w) 5 := fun w => by
    unfold d5
    rw [show (32 : Nat) = 2 ^ 5 from rfl, pop_mod _ 5 (Nat.le_refl _)]
  have up : ∀ k, k ≤ 12 → pop (uL cert) (5 * k) = cnt P (min k W) := by
    intro k
    induction k with
    | zero => intro _; rw [Nat.zero_min]; rfl
    | succ k ih =>
      intro hk
      rw [Nat.mul_succ, pop_add, ih (by omega), e5]
      by_cases hkW : k < W
      · rw [show min (k + 1) W = k + 1 by omega, show min k W = k by omega]
        by_cases hp : P k
        · rw [cnt_t hp, h1 k hkW hp, pop_5.2 _ (ho k)]
        · rw [cnt_f hp, h2 k hkW hp, pop_5.1, Nat.add_zero]
      · rw [show min (k + 1) W = W by omega, show min k W = W by omega, h3 k (by omega) (by omega), pop_5.1, Nat.add_zero]
  have e60 := up 12 (Nat.le_refl _)
  rw [show min 12 W = W by omega] at e60
  have e65 : pop (uL cert) 65 = cnt P W := by
    rw [show 65 = 5 * 12 + 5 from rfl, pop_add, e60, e5, h4, pop_5.1, Nat.add_zero]
  have e64 : pop (uL cert) 65 = pop (uL cert) 64 + (if (uL cert).testBit 64 then 1 else 0) := rfl
  have : (uL cert).testBit 64 = false := Nat.testBit_lt_two_pow (uL_lt cert)
  rw [this] at e64
  simp at e64
  omega
theorem T_count (hN : 59049 < N) (h : Rel stf K b m β δ H) (x : Int32) : xStep stf K b m (F_X11_count N (some b) x) (F_X12_count N (some m) x) H := by
  obtain ⟨⟨⟨c, tc, tk, cb, n, nk, ncb, ad, ho⟩, -⟩, v, hm⟩ := id h
  obtain ⟨g0, g1, g2, g3, g4, g5, g6, g7, g8, g9, g10, g11, g12, g13, g14⟩ := ho.g
  obtain ⟨o10, o2, o6, o4, o5, o3, o9⟩ := ho.o
  obtain ⟨k0, k1, k2, k4, k6, k7, k12⟩ := ho.k
  have q := hm.mq
  have qo := q.ob
  have qz := q.z
  obtain ⟨v0, v1, v2, v3, v46, t5, t6, t12⟩ := q.ac
  obtain ⟨cl, cert, tt, hc, hs, hs2, u0, u1, u2, u3, u4⟩ := ho.t
  obtain ⟨l0, l1, l2, l3, l4⟩ := ho.l
  obtain ⟨⟨n1, ⟨-, -, -, -, -, n46⟩, ⟨cb0, n47a, n47b, n47c⟩, n26, -⟩, ⟨⟨n5, n31, n35', n51, n62⟩, -⟩⟩ := id hm.1
  by_cases c0 : x = 0
  · exact xStep.rd (r := dB δ) h (by simp only [F_X11_count, c0, if_true, g3, Option.bind_some, bd2_s]) (by simp only [F_X12_count, c0, if_true, gI n1 mi5, n5, Option.bind_some, bd2_s])
  by_cases c1 : x = 1
  · subst c1
    exact xStep.rd (r := nI (lT (dL δ))) h (by simp only [F_X11_count, show ¬ (1 : Int32) = 0 by decide, if_true, if_false, g7, l0, Option.bind_some, bd2_s]) (by simp only [F_X12_count, show ¬ (1 : Int32) = 0 by decide, if_true, if_false, gI n1 mi46, n46, Option.bind_some, bd2_s])
  by_cases c2 : x = 2
  · subst c2
    exact xStep.rd (r := nI cb0) h (by simp only [F_X11_count, show ¬ (2 : Int32) = 0 by decide, show ¬ (2 : Int32) = 1 by decide, if_true, if_false, g7, o4, S_cameBits (N := N) (by omega) ho n47a n47c q.2.2.2, Option.bind_some, bd2_s]) (by simp only [F_X12_count, show ¬ (2 : Int32) = 0 by decide, show ¬ (2 : Int32) = 1 by decide, if_true, if_false, gI n1 mi47, n47b, Option.bind_some, bd2_s])
  by_cases c3 : x = 3
  · subst c3
    exact xStep.rd (r := nI (dN δ)) h (by simp only [F_X11_count, show ¬ (3 : Int32) = 0 by decide, show ¬ (3 : Int32) = 1 by decide, show ¬ (3 : Int32) = 2 by decide, if_true, if_false, g1, Option.bind_some, bd2_s]) (by simp only [F_X12_count, show ¬ (3 : Int32) = 0 by decide, show ¬ (3 : Int32) = 1 by decide, show ¬ (3 : Int32) = 2 by decide, if_true, if_false, gI n1 mi31, n31, Option.bind_some, bd2_s])
  by_cases c4 : x = 4
  · subst c4
    exact xStep.rd (r := nI (dI δ)) h (by simp only [F_X11_count, show ¬ (4 : Int32) = 0 by decide, show ¬ (4 : Int32) = 1 by decide, show ¬ (4 : Int32) = 2 by decide, show ¬ (4 : Int32) = 3 by decide, if_true, if_false, g9, Option.bind_some, bd2_s]) (by simp only [F_X12_count, show ¬ (4 : Int32) = 0 by decide, show ¬ (4 : Int32) = 1 by decide, show ¬ (4 : Int32) = 2 by decide, show ¬ (4 : Int32) = 3 by decide, if_true, if_false, gI n1 mi62, n62, Option.bind_some, bd2_s])
  by_cases c5 : x = 5
  · subst c5
    obtain ⟨v', H', s1, s2⟩ := S_mSureMany hN hm
    have hp := pop_cert (cert := cert) (P := suW β (dL δ)) (o := so β (dL δ)) t12 (so_lt hm.2.1) (fun w hw hsu => (hs w (by omega)).1 _ hw (so_t hsu)) (fun w hw hsu => (hs w (by omega)).2 (fun _ o z => hsu ⟨o, z⟩)) (fun w h1 h2 => (hs w h2).2 (fun z => absurd z (by omega))) hs2
    refine ⟨nI (cnt (suW β (dL δ)) (bW β)), H, H', β, δ, ?_, ?_, h.scr ho sc.rf n1 hm.1 s2⟩
    · simp only [F_X11_count, show ¬ (5 : Int32) = 0 by decide, show ¬ (5 : Int32) = 1 by decide, show ¬ (5 : Int32) = 2 by decide, show ¬ (5 : Int32) = 3 by decide, show ¬ (5 : Int32) = 4 by decide, if_true, if_false, g6, u4, S_bitCount, hp, Option.bind_some, bd2_s]
    · simp only [F_X12_count, show ¬ (5 : Int32) = 0 by decide, show ¬ (5 : Int32) = 1 by decide, show ¬ (5 : Int32) = 2 by decide, show ¬ (5 : Int32) = 3 by decide, show ¬ (5 : Int32) = 4 by decide, if_true, if_false]
      exact s1
  by_cases c6 : x = 6
  · subst c6
    refine xStep.rd (r := nI (cnt (bps β) (bZ β))) h ?_ ?_
    · simp only [F_X11_count, show ¬ (6 : Int32) = 0 by decide, show ¬ (6 : Int32) = 1 by decide, show ¬ (6 : Int32) = 2 by decide, show ¬ (6 : Int32) = 3 by decide, show ¬ (6 : Int32) = 4 by decide, show ¬ (6 : Int32) = 5 by decide, if_true, if_false, g6, u2, Option.bind_some, bd2_s]
    · simp only [F_X12_count, show ¬ (6 : Int32) = 0 by decide, show ¬ (6 : Int32) = 1 by decide, show ¬ (6 : Int32) = 2 by decide, show ¬ (6 : Int32) = 3 by decide, show ¬ (6 : Int32) = 4 by decide, show ¬ (6 : Int32) = 5 by decide, if_true, if_false, qo, S_mPossMany hN q, Option.bind_some, bd2_s]
  by_cases c7 : x = 7
  · subst c7
    refine xStep.rd (r := bI (whl β (dC δ))) h ?_ ?_
    · simp only [F_X11_count, show ¬ (7 : Int32) = 0 by decide, show ¬ (7 : Int32) = 1 by decide, show ¬ (7 : Int32) = 2 by decide, show ¬ (7 : Int32) = 3 by decide, show ¬ (7 : Int32) = 4 by decide, show ¬ (7 : Int32) = 5 by decide, show ¬ (7 : Int32) = 6 by decide, if_true, if_false, g10, g6, u0, o5, S_xWhole (N := N) (by omega) ho t5, Option.bind_some, bd2_s]
      by_cases hw : whl β (dC δ)
      · rw [bI_t hw, if_neg (by decide)]
      · rw [bI_f hw, if_pos rfl]
    · simp only [F_X12_count, show ¬ (7 : Int32) = 0 by decide, show ¬ (7 : Int32) = 1 by decide, show ¬ (7 : Int32) = 2 by decide, show ¬ (7 : Int32) = 3 by decide, show ¬ (7 : Int32) = 4 by decide, show ¬ (7 : Int32) = 5 by decide, show ¬ (7 : Int32) = 6 by decide, if_true, if_false, qo, S_mWhole (N := N) (by omega) hm, S_unit, Option.bind_some, bd2_s]
  by_cases c8 : x = 8
  · subst c8
    refine xStep.rd (r := lS (dL δ)) h ?_ ?_
    · simp only [F_X11_count, show ¬ (8 : Int32) = 0 by decide, show ¬ (8 : Int32) = 1 by decide, show ¬ (8 : Int32) = 2 by decide, show ¬ (8 : Int32) = 3 by decide, show ¬ (8 : Int32) = 4 by decide, show ¬ (8 : Int32) = 5 by decide, show ¬ (8 : Int32) = 6 by decide, show ¬ (8 : Int32) = 7 by decide, if_true, if_false, g7, l1, Option.bind_some, bd2_s]
    · simp only [F_X12_count, show ¬ (8 : Int32) = 0 by decide, show ¬ (8 : Int32) = 1 by decide, show ¬ (8 : Int32) = 2 by decide, show ¬ (8 : Int32) = 3 by decide, show ¬ (8 : Int32) = 4 by decide, show ¬ (8 : Int32) = 5 by decide, show ¬ (8 : Int32) = 6 by decide, show ¬ (8 : Int32) = 7 by decide, if_true, if_false, gI n1 mi51, n51, Option.bind_some, bd2_s]
  exact xStep.rd (r := -1) h (by simp only [F_X11_count, c0, c1, c2, c3, c4, c5, c6, c7, c8, if_false]) (by simp only [F_X12_count, c0, c1, c2, c3, c4, c5, c6, c7, c8, if_false])
/-- the first row left -/
theorem S_mRow0 {v : Nat → Int32} (hN : 59049 < N) (q : mQ m v β (dL δ) H) {j : Nat} (hj : j < bZ β) (hl : lft β (dL δ) j) (hno : ∀ i, i < j → ¬ lft β (dL δ) i) : F_X12_rows N (some m) 0 H = some (nI j, H) := by
  have qz := q.z
  have key := upto (s := j) (P := fun n i => F_X12_rows_L14 N n (some m) 0 0 (nI i) H = some (nI j, H)) (fun n => by
    rw [show F_X12_rows_L14 N (n + 1) = F_X12_rows_J14 N (F_X12_rows_L14 N n) from rfl]
    simp only [F_X12_rows_J14, q.rows, q.ob, nI_ge hj (show bZ β < 2 ^ 31 by omega), if_false, show ¬ (0 : Int32) < 0 by decide, q.lf (by omega : 5 < N) hj, bI_t hl, show ¬ (1 : Int32) = 0 by decide, if_true, Option.bind_some, bd2_s]) (fun n i hi ih => by
    rw [show F_X12_rows_L14 N (n + 1) = F_X12_rows_J14 N (F_X12_rows_L14 N n) from rfl]
    simp only [F_X12_rows_J14, F_X12_rows_J46, q.rows, q.ob, nI_ge (show i < bZ β by omega) (show bZ β < 2 ^ 31 by omega), if_false, show ¬ (0 : Int32) < 0 by decide, q.lf (by omega : 5 < N) (show i < bZ β by omega), bI_f (hno i hi), if_true, nI_1, Option.bind_some, bd2_s]
    exact ih) N 0 (Nat.zero_le _) (by omega)
  unfold F_X12_rows
  rw [if_neg (by decide)]
  exact key
theorem T_luck (hN : 59049 < N) (hK : K ≤ 1000) (h : Rel stf K b m β δ H) (x y : Int32) : xStep stf K b m (F_X11_luck N (some b) x y) (F_X12_luck N (some m) x y) H := by
  obtain ⟨⟨⟨c, tc, tk, cb, n, nk, ncb, ad, ho⟩, -⟩, v, hm⟩ := id h
  obtain ⟨g0, g1, g2, g3, g4, g5, g6, g7, g8, g9, g10, g11, g12, g13, g14⟩ := ho.g
  obtain ⟨o10, o2, o6, o4, o5, o3, o9⟩ := ho.o
  obtain ⟨k0, k1, k2, k4, k6, k7, k12⟩ := ho.k
  have q := hm.mq
  have qo := q.ob
  have qz := q.z
  obtain ⟨v0, v1, v2, v3, v46, t5, t6, t12⟩ := q.ac
  obtain ⟨cl, cert, tt, hc, hs, hs2, u0, u1, u2, u3, u4⟩ := ho.t
  have hpe := hm.2.1.2.2.2.1
  rcases ix3 x (show bM β < 2 ^ 31 by omega) with hx | ⟨j, hj, rfl⟩
  · exact xStep.rd (r := -1) h (by simp only [F_X11_luck, g5, o2, S_hMO ho hx, if_true, Option.bind_some, bd2_s]) (by simp only [F_X12_luck, qo, S_mMO q hx, if_true, Option.bind_some, bd2_s])
  have y1 : y ≤ 1 ↔ ¬ (1 : Int32) < y := by rw [Int32.not_lt]
  have hcz : cnt (lft β (dL δ)) (bZ β) < 2 ^ 31 := Nat.lt_of_le_of_lt (cnt_le _ _) (by omega)
  have hone : nI (cnt (lft β (dL δ)) (bZ β)) = 1 ↔ cnt (lft β (dL δ)) (bZ β) = 1 := nI_eq (b := 1) hcz (by decide)
  by_cases hc1 : cnt (lft β (dL δ)) (bZ β) = 1
  rotate_left
  · have hn : ¬ nI (cnt (lft β (dL δ)) (bZ β)) = 1 := fun z => hc1 (hone.mp z)
    refine xStep.rd (r := -1) h ?_ ?_
    · simp only [F_X11_luck, g5, o2, S_hMI ho t6 hj, show ¬ (1 : Int32) = 0 by decide, if_false, g6, u3, hn, Option.bind_some, bd2_s]
    · simp only [F_X12_luck, qo, S_mMI q hj, show ¬ (1 : Int32) = 0 by decide, if_false, S_in, S_mMany q hN, hn, Option.bind_some, bd2_s]
      split <;> rfl
  have hy1' : nI (cnt (lft β (dL δ)) (bZ β)) = 1 := hone.mpr hc1
  by_cases hy : ¬ y < 0 ∧ ¬ 1 < y
  rotate_left
  · refine xStep.rd (r := -1) h ?_ ?_
    · simp only [F_X11_luck, g5, o2, S_hMI ho t6 hj, show ¬ (1 : Int32) = 0 by decide, if_false, g6, u3, hy1', if_true, y1, Option.bind_some, bd2_s]
      by_cases y0 : y < 0
      · rw [if_pos y0]
      · rw [if_neg y0, if_neg (fun z => hy ⟨y0, z⟩)]
    · simp only [F_X12_luck, qo, S_mMI q hj, show ¬ (1 : Int32) = 0 by decide, if_false, S_in, bI_f hy, if_true, Option.bind_some, bd2_s]
  by_cases hy1 : y = 1
  · subst hy1
    refine xStep.rd (r := nI (cnt (bps β) (bZ β))) h ?_ ?_
    · simp only [F_X11_luck, g5, o2, S_hMI ho t6 hj, show ¬ (1 : Int32) = 0 by decide, if_false, g6, u3, hy1', if_true, show ¬ (1 : Int32) < 0 by decide, show (1 : Int32) ≤ 1 by decide, u2, Option.bind_some, bd2_s]
    · simp only [F_X12_luck, qo, S_mMI q hj, show ¬ (1 : Int32) = 0 by decide, if_false, S_in, bI_t hy, S_mMany q hN, hy1', if_true, S_mPossMany hN q, Option.bind_some, bd2_s]
  -- the one row left
  obtain ⟨jl, hjl, hll⟩ := cnt_pos.mp (show 0 < cnt (lft β (dL δ)) (bZ β) by omega)
  obtain ⟨j0, ⟨hj0, hl0⟩, hno0⟩ := pk_least (fun k => k < bZ β ∧ lft β (dL δ) k) ⟨jl, hjl, hll⟩
  have hno : ∀ i, i < j0 → ¬ lft β (dL δ) i := fun i hi z => hno0 i hi ⟨by omega, z⟩
  have hc00 : cnt (lft β (dL δ)) j0 = 0 := by
    rcases Nat.eq_zero_or_pos (cnt (lft β (dL δ)) j0) with z | z
    · exact z
    · obtain ⟨k, k1, k2⟩ := cnt_pos.mp z
      exact absurd k2 (hno k k1)
  have he0 := hpe j0 hj0 hl0.1
  obtain ⟨G, c1, c2⟩ := S_ofMember (N := N) (by omega) ho t12 (nI j)
  obtain ⟨e, gg, hgg⟩ := ho.gn
  have hx1 : RXo stf K b m c tc tk cb n nk ncb ad β δ (xup H (b + 44) (aI 60 G)) := ho.gc hgg
  have hat : (xup H (b + 44) (aI 60 G)).1 (b + 44) = some (aI 60 G) := xup_at _
  have hsc : sc (SX b tk cb) H (xup H (b + 44) (aI 60 G)) := sc.upI (by unfold SX; omega) hgg
  generalize hf : esum β (dL δ) (nI j) = f
  have hfb : ∀ k, -24000 ≤ (f k).toInt ∧ (f k).toInt ≤ 24000 := fun k => by rw [← hf]; exact esum_b hm.2.1 _ _ _
  generalize hP : (fun k => bps β k ∧ ¬ f k < f j0) = P
  have C1 : F_X11_luck N (some b) (nI j) y H = some (nI (cnt P (bZ β)), xup H (b + 44) (aI 60 G)) := by
    simp only [F_X11_luck, g5, o2, S_hMI ho t6 hj, show ¬ (1 : Int32) = 0 by decide, if_false, g6, u3, hy1', if_true, hy.1, y1, hy.2, not_false_iff, hy1, g11, g7, o3, c1, Option.bind_some, bd2_s]
    generalize hH1 : xup H (b + 44) (aI 60 G) = H1 at hx1 hat hsc
    obtain ⟨f0, f1, f2, f3, f4, f5, f6, f7, f8, f9, f10, f11, f12, f13, f14⟩ := hx1.g
    obtain ⟨p10, p2, p6, p4, p5, p3, p9⟩ := hx1.o
    obtain ⟨cl', cert', tt', hc', hs', hs2', u0', u1', u2', u3', u4'⟩ := hx1.t
    obtain ⟨r, hr1, hr2⟩ := S_leftCode (N := N) tt' (fun k hk => cv_lf (hc' k hk)) 0 N 0 (Nat.zero_le _) (by omega) (fun j hj => by omega)
    have er : r = nI j0 := nth_fun (by omega) hr2 (Or.inl ⟨j0, hj0, hl0, by rw [hc00]; rfl, rfl⟩)
    rw [er] at hr1
    have hlc : F_X6_leftCode N (some (b + 15)) 0 H1 = some (nI j0, H1) := hr1
    have hs0 := S_gsum (N := N) (by omega) hx1 hm.2.1 hat c2 (hc' j0 hj0) he0
    rw [hf] at hs0
    simp only [f11, f6, p6, hlc, S_cellAt tt' hj0, p3, hs0, Option.bind_some, bd2_s]
    have key := upto (s := bZ β) (P := fun n i => F_X11_luck_L91 N n (some b) (f j0) (nI (cnt P i)) (nI i) H1 = some (nI (cnt P (bZ β)), H1)) (fun n => by
      rw [show F_X11_luck_L91 N (n + 1) = F_X11_luck_J91 N (F_X11_luck_L91 N n) from rfl]
      simp only [F_X11_luck_J91, f6, u1', nI_le (Nat.le_refl _) (show bZ β < 2 ^ 31 by omega), if_true, Option.bind_some, bd2_s]) (fun n i hi ih => by
      rw [show F_X11_luck_L91 N (n + 1) = F_X11_luck_J91 N (F_X11_luck_L91 N n) from rfl]
      simp only [F_X11_luck_J91, F_X11_luck_J141, f6, u1', p6, nI_ge hi (show bZ β < 2 ^ 31 by omega), if_false, S_cellAt tt' hi, lgc, nI_1, Option.bind_some, bd2_s]
      by_cases hp : bps β i
      · have hs1 := S_gsum (N := N) (by omega) hx1 hm.2.1 hat c2 (hc' i hi) (hpe i hi hp)
        rw [hf] at hs1
        simp only [cvp1 (hc' i hi) hp, if_false, f11, p3, hs1, Option.bind_some, bd2_s]
        by_cases z : f i < f j0
        · rw [if_pos z]
          rw [cnt_f (P := P) (by rw [← hP]; exact fun w => w.2 z)] at ih
          exact ih
        · rw [if_neg z]
          rw [cnt_t (P := P) (by rw [← hP]; exact ⟨hp, z⟩)] at ih
          exact ih
      · simp only [cvp0 (hc' i hi) hp, if_true]
        rw [cnt_f (P := P) (by rw [← hP]; exact fun w => hp w.1)] at ih
        exact ih) N 0 (Nat.zero_le _) (by omega)
    exact key
  generalize xup H (b + 44) (aI 60 G) = H1 at C1 hsc
  have hm1 : CM K m v β δ H1 := ⟨hm.1.x ho.1 hsc, hm.2⟩
  have q1 := hm1.mq
  refine ⟨_, H1, H1, β, δ, C1, ?_, h.scr ho hsc hm1.1.1.1 hm1.1 (mS.rf hm1.1.1.1)⟩
  have hlB := hm.2.2.1.2.2 j (by omega)
  have hr0 := S_mRow0 (N := N) hN q1 hj0 hl0 hno
  have he1 := S_mEnd (N := N) (by omega) hm1 hj hj0 he0
  rw [hf] at he1
  simp only [F_X12_luck, q1.ob, S_mMI q1 hj, show ¬ (1 : Int32) = 0 by decide, if_false, S_in, bI_t hy, S_mMany q1 hN, hy1', if_true, hy1, hr0, he1, Option.bind_some, bd2_s]
  have key := upto (s := bZ β) (P := fun n i => F_X12_luck_L54 N n (some m) (nI j) (lB (dL δ) j + f j0) (nI (cnt P i)) (nI i) H1 = some (nI (cnt P (bZ β)), H1)) (fun n => by
    rw [show F_X12_luck_L54 N (n + 1) = F_X12_luck_J54 N (F_X12_luck_L54 N n) from rfl]
    simp only [F_X12_luck_J54, q1.rows, nI_le (Nat.le_refl _) (show bZ β < 2 ^ 31 by omega), if_true, Option.bind_some, bd2_s]) (fun n i hi ih => by
    have un0 : F_X12_unit N 0 H1 = some (0, H1) := by unfold F_X12_unit; rw [if_pos rfl]
    have un1 : F_X12_unit N 1 H1 = some (1, H1) := by unfold F_X12_unit; rw [if_neg (by decide)]
    rw [show F_X12_luck_L54 N (n + 1) = F_X12_luck_J54 N (F_X12_luck_L54 N n) from rfl]
    simp only [F_X12_luck_J54, F_X12_luck_J89, F_X12_luck_J90, q1.rows, q1.ob, nI_ge hi (show bZ β < 2 ^ 31 by omega), if_false, S_mPos q1.1 q1.2.1 hi, un0, un1, nI_1, Int32.add_zero, Option.bind_some, bd2_s]
    by_cases hp : bps β i
    · have he := hpe i hi hp
      simp only [bI_t hp, show ¬ (1 : Int32) = 0 by decide, if_false, S_mEnd (N := N) (by omega) hm1 hj hi he, hf, Option.bind_some, bd2_s]
      have hcm := i32_cmp (c := lB (dL δ) j) hK hlB (hfb i) (hfb j0)
      by_cases z : f i < f j0
      · rw [if_pos (hcm.mpr z), un0]
        simp only [Option.bind_some, bd2_s, Int32.add_zero]
        rw [cnt_f (P := P) (by rw [← hP]; exact fun w => w.2 z)] at ih
        exact ih
      · rw [if_neg (fun w => z (hcm.mp w)), un1]
        simp only [Option.bind_some, bd2_s, nI_1]
        rw [cnt_t (P := P) (by rw [← hP]; exact ⟨hp, z⟩)] at ih
        exact ih
    · simp only [bI_f hp, if_true]
      rw [cnt_f (P := P) (by rw [← hP]; exact fun w => hp w.1)] at ih
      exact ih) N 0 (Nat.zero_le _) (by omega)
  exact key
end Count
