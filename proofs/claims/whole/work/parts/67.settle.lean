/-! PURE: STEPS best, settle. -/
theorem mR.g31 {m : Nat} {v : Nat → Int32} {β : sB} {δ : sD} {H : xH} {g' : Nat → Int32} (h : mR m v β δ H) (h0 : g' 0 = 0) : mR m v β δ (xup H (m + 31) (aI 64 g')) := by
  have k : ∀ a, a ≠ 31 → (xup H (m + 31) (aI 64 g')).1 (m + a) = H.1 (m + a) := fun a ha => xup_ne _ (by omega)
  have k0 : (xup H (m + 31) (aI 64 g')).1 m = H.1 m := xup_ne _ (by omega)
  refine ⟨?_, ?_⟩
  · have := h.1
    unfold mCore at this ⊢
    rw [k0, k 26 (by decide), k 23 (by decide), k 24 (by decide), k 5 (by decide), k 6 (by decide)]
    exact this
  · obtain ⟨h1, h2, h3, h4, h5, h6, h7, h8, h9, h10⟩ := h.2
    unfold mMore
    rw [k 1 (by decide), k 2 (by decide), k 12 (by decide), k 13 (by decide), k 14 (by decide), k 20 (by decide), k 28 (by decide), k 29 (by decide), k 34 (by decide), k 35 (by decide)]
    refine ⟨h1, h2, h3, h4, h5, h6, h7, h8, h9, ?_⟩
    obtain ⟨e1, e2, e3, e4, e5, e6, e7, e8, e9, e10, e11, e12, e13⟩ := h10
    refine ⟨fun a ha => ?_, fun a a1 a2 => ?_, fun a a1 a2 => ?_, ?_, ?_, ?_, ?_, ?_, ?_, ?_, ⟨g', xup_at _, h0⟩, ?_, ?_⟩
    · rw [k a (by omega)]; exact e1 a ha
    · rw [k a (by omega)]; exact e2 a a1 a2
    · rw [k a (by omega)]; exact e3 a a1 a2
    · rw [k 18 (by decide)]; exact e4
    · rw [k 19 (by decide)]; exact e5
    · rw [k 21 (by decide)]; exact e6
    · rw [k 22 (by decide)]; exact e7
    · rw [k 25 (by decide)]; exact e8
    · rw [k 27 (by decide)]; exact e9
    · rw [k 30 (by decide)]; exact e10
    · rw [k 32 (by decide)]; exact e12
    · rw [k 33 (by decide)]; exact e13
section Settle
variable {stf : Nat → Nat} {N K b m : Nat} {β : sB} {δ : sD} {H : xH}
theorem Rel.m31 (h : Rel stf K b m β δ H) {g g' : Nat → Int32} (hg : H.1 (m + 31) = some (aI 64 g)) (h0 : g' 0 = 0) : Rel stf K b m β δ (xup H (m + 31) (aI 64 g')) := by
  obtain ⟨⟨⟨c, tc, tk, cb, n, nk, ncb, ad, ho⟩, hB, hd, hw, hs⟩, v, hm⟩ := h
  exact ⟨⟨⟨c, tc, tk, cb, n, nk, ncb, ad, ho.fr (show Fr (fun q => m ≤ q ∧ q < m + 36) H (xup H (m + 31) (aI 64 g')) from ⟨rfl, fun q hq => xup_ne _ (fun e => hq (by omega))⟩)⟩, hB, hd, hw.up hg, hs⟩, v, hm.1.g31 h0, hm.2⟩
/-- the best of the first i + 1 members -/
noncomputable def bst (P : Nat → Nat → Prop) : Nat → Nat
  | 0 => 0
  | i + 1 => @ite _ (P (i + 1) (bst P i)) (Classical.propDecidable _) (i + 1) (bst P i)
theorem bst_t {P : Nat → Nat → Prop} {i : Nat} (h : P (i + 1) (bst P i)) : bst P (i + 1) = i + 1 := by conv => lhs; unfold bst; rw [if_pos h]
theorem bst_f {P : Nat → Nat → Prop} {i : Nat} (h : ¬ P (i + 1) (bst P i)) : bst P (i + 1) = bst P i := by conv => lhs; unfold bst; rw [if_neg h]
theorem bst_le (P : Nat → Nat → Prop) : ∀ i, bst P i ≤ i := by
  intro i
  induction i with
  | zero => exact Nat.le_refl _
  | succ i ih =>
    by_cases h : P (i + 1) (bst P i)
    · rw [bst_t h]; exact Nat.le_refl _
    · rw [bst_f h]; omega
theorem neg_le {x y : Int32} (hx : -20000000 ≤ x.toInt ∧ x.toInt ≤ 20000000) (hy : -20000000 ≤ y.toInt ∧ y.toInt ≤ 20000000) : -x ≤ -y ↔ y ≤ x := by
  have e : ∀ z : Int32, -20000000 ≤ z.toInt ∧ z.toInt ≤ 20000000 → (-z).toInt = -z.toInt := fun z hz => by
    rw [Int32.toInt_neg, Int.bmod_eq_of_le] <;> omega
  rw [Int32.le_iff_toInt_le, Int32.le_iff_toInt_le, e x hx, e y hy]
  omega
theorem T_best (hN : 59049 < N) (hK : K ≤ 1000) (h : Rel stf K b m β δ H) (y : Int32) : xStep stf K b m (F_X11_best N (some b) y) (F_X12_best N (some m) y) H := by
  obtain ⟨⟨⟨c, tc, tk, cb, n, nk, ncb, ad, ho⟩, -⟩, v, hm⟩ := id h
  obtain ⟨g0, g1, g2, g3, g4, g5, g6, g7, g8, g9, g10, g11, g12, g13, g14⟩ := ho.g
  obtain ⟨o10, o2, o6, o4, o5, o3, o9⟩ := ho.o
  obtain ⟨k0, k1, k2, k4, k6, k7, k12⟩ := ho.k
  have q := hm.mq
  have qo := q.ob
  have qz := q.z
  obtain ⟨v0, v1, v2, v3, v46, t5, t6, t12⟩ := q.ac
  obtain ⟨e, gg, hgg⟩ := ho.gn
  have y1 : y ≤ 1 ↔ ¬ (1 : Int32) < y := by rw [Int32.not_lt]
  by_cases hy : ¬ y < 0 ∧ ¬ 1 < y
  · rcases Nat.eq_zero_or_pos (bM β) with hM0 | hM0
    · refine xStep.rd (r := -1) h ?_ ?_
      · obtain ⟨N', rfl⟩ : ∃ N', N = N' + 1 := ⟨N - 1, by omega⟩
        simp only [F_X11_best, hy.1, y1, hy.2, not_false_iff, if_false, if_true, F_X11_best_L18, F_X11_best_J18, g5, k1, hM0, Option.bind_some, bd2_s]
        rw [if_pos (by decide)]
      · simp only [F_X12_best, v1, hM0, Option.bind_some, bd2_s]
        rw [if_pos (by decide)]
    · generalize hP : (fun i j : Nat => if y = 0 then ¬ hsv β (dL δ) i ≤ hsv β (dL δ) j else ¬ hsv β (dL δ) j ≤ hsv β (dL δ) i) = P
      have hx : ∀ G, RXo stf K b m c tc tk cb n nk ncb ad β δ (xup H (b + 44) (aI 60 G)) := fun G => ho.gc hgg
      have hvb : ∀ j, j < 6 → -20000000 ≤ (hsv β (dL δ) j).toInt ∧ (hsv β (dL δ) j).toInt ≤ 20000000 := fun j hj => hsv_b hm.2.1 hm.2.2.1 hK hj
      generalize hV : (fun j => if y = 0 then hsv β (dL δ) j else - hsv β (dL δ) j) = V
      have hPV : ∀ i j, i < 6 → j < 6 → (V i ≤ V j ↔ ¬ P i j) := fun i j hi hj => by
        rw [← hV, ← hP]
        by_cases h0 : y = 0
        · simp only [h0, if_true, Classical.not_not]
        · simp only [h0, if_false, Classical.not_not]
          exact neg_le (hvb i hi) (hvb j hj)
      have step : ∀ i G, i < bM β → ∃ G', ∀ n a2 a3, F_X11_best_J18 N (F_X11_best_L18 N n) (some b) y a2 a3 (nI i) (xup H (b + 44) (aI 60 G)) = F_X11_best_J50 N (F_X11_best_L18 N n) (some b) y a2 a3 (nI i) (V i) (xup H (b + 44) (aI 60 G')) := by
        intro i G hi
        obtain ⟨G', hG⟩ := S_hasNow (N := N) (by omega) (hx G) hm.2.1 hi
        rw [xup_up] at hG
        obtain ⟨f0, f1, f2, f3, f4, f5, f6, f7, f8, f9, f10, f11, f12, f13, f14⟩ := (hx G).g
        obtain ⟨p10, -⟩ := (hx G).o
        obtain ⟨-, q1, -⟩ := (hx G).k
        refine ⟨G', fun n a2 a3 => ?_⟩
        simp only [F_X11_best_J18, f5, q1, p10, hG, Option.bind_some, bd2_s, nI_ge hi (show bM β < 2 ^ 31 by omega), if_false]
        rw [← hV]
        by_cases h0 : y = 0
        · simp only [h0, if_true]
        · simp only [h0, if_false]
      have loop : ∀ n i, i ≤ bM β → bM β - i < n → ∀ G, 1 ≤ i → ∃ G', F_X11_best_L18 N n (some b) y (nI (bst P (i - 1))) (V (bst P (i - 1))) (nI i) (xup H (b + 44) (aI 60 G)) = some (nI (bst P (bM β - 1)), xup H (b + 44) (aI 60 G')) := by
        refine upto (s := bM β) (P := fun n i => ∀ G, 1 ≤ i → ∃ G', F_X11_best_L18 N n (some b) y (nI (bst P (i - 1))) (V (bst P (i - 1))) (nI i) (xup H (b + 44) (aI 60 G)) = some (nI (bst P (bM β - 1)), xup H (b + 44) (aI 60 G'))) (fun n G h1 => ⟨G, ?_⟩) (fun n i hi ih G h1 => ?_)
        · obtain ⟨f0, f1, f2, f3, f4, f5, -⟩ := (hx G).g
          obtain ⟨-, q1, -⟩ := (hx G).k
          simp only [F_X11_best_L18, F_X11_best_J18, f5, q1, Option.bind_some, bd2_s, nI_le (Nat.le_refl _) (show bM β < 2 ^ 31 by omega), if_true]
        · obtain ⟨i, rfl⟩ : ∃ i', i = i' + 1 := ⟨i - 1, by omega⟩
          obtain ⟨G', hG'⟩ := step (i + 1) G hi
          have hb := bst_le P i
          have hm1 : ¬ nI (bst P i) = -1 := fun z => by
            have := congrArg (fun z => decide (z < 0)) z
            have h2 := nI_pos (n := bst P i) (by omega)
            simp [h2] at this
          obtain ⟨G'', hG''⟩ := ih G' (by omega)
          refine ⟨G'', ?_⟩
          rw [← hG'', show F_X11_best_L18 N (n + 1) = F_X11_best_J18 N (F_X11_best_L18 N n) from rfl, hG']
          simp only [F_X11_best_J50, F_X11_best_J69, F_X11_best_J63, Nat.add_sub_cancel, hm1, if_false, nI_1]
          have hpv := hPV (i + 1) (bst P i) (by omega) (by omega)
          by_cases z : P (i + 1) (bst P i)
          · rw [if_neg (fun w => hpv.mp w z), bst_t z]
          · rw [if_pos (hpv.mpr z), bst_f z]
      obtain ⟨G1, hG1⟩ := step 0 gg hM0
      obtain ⟨N', hN'⟩ : ∃ N', N = N' + 1 := ⟨N - 1, by omega⟩
      obtain ⟨G2, hG2⟩ := loop N' 1 hM0 (by omega) G1 (Nat.le_refl _)
      have C1 : F_X11_best N (some b) y H = some (nI (bst P (bM β - 1)), xup H (b + 44) (aI 60 G2)) := by
        have := hG1 N' (-1) 0
        rw [xup_id hgg] at this
        simp only [F_X11_best, hy.1, y1, hy.2, not_false_iff, if_false, if_true]
        rw [show F_X11_best_L18 N N = F_X11_best_L18 N (N' + 1) by rw [← hN'], show F_X11_best_L18 N (N' + 1) = F_X11_best_J18 N (F_X11_best_L18 N N') from rfl]
        rw [show F_X11_best_J18 N (F_X11_best_L18 N N') (some b) y (-1 : Int32) (0 : Int32) (0 : Int32) H = _ from this]
        simp only [F_X11_best_J50, F_X11_best_J69, F_X11_best_J63, if_true, nI_1]
        exact hG2
      have hsc : sc (SX b tk cb) H (xup H (b + 44) (aI 60 G2)) := sc.upI (by unfold SX; omega) hgg
      generalize xup H (b + 44) (aI 60 G2) = H1 at C1 hsc
      have hm1 : CM K m v β δ H1 := ⟨hm.1.x ho.1 hsc, hm.2⟩
      have q1 := hm1.mq
      obtain ⟨w0, w1, w2, w3, w46, -⟩ := q1.ac
      obtain ⟨v', H2, b1, b2, g, b3, b4⟩ := S_bal (N := N) hN hm1
      refine ⟨_, H1, H2, β, δ, C1, ?_, h.scr ho hsc hm1.1.1.1 hm1.1 b2⟩
      have hm2 : CM K m v' β δ H2 := ⟨hm1.1.s b2, hm1.2⟩
      obtain ⟨x0, x1, x2, x3, x46, -⟩ := hm2.mq.ac
      have rd : ∀ j, j < bM β → xlI .int H2 (some (m + 30)) (nI j) = some (hsv β (dL δ) j) := fun j hj => by rw [rdI b3 (show j < 6 by omega) (by decide), b4 j hj]
      have key := upto (s := bM β) (P := fun n i => 1 ≤ i → F_X12_best_L26 N n (some m) y (nI (bst P (i - 1))) (nI i) H2 = some (nI (bst P (bM β - 1)), H2)) (fun n h1 => by
        simp only [F_X12_best_L26, F_X12_best_J26, x1, Option.bind_some, bd2_s, nI_le (Nat.le_refl _) (show bM β < 2 ^ 31 by omega), if_true]) (fun n i hi ih h1 => by
        obtain ⟨i, rfl⟩ : ∃ i', i = i' + 1 := ⟨i - 1, by omega⟩
        have hb := bst_le P i
        rw [← ih (by omega)]
        simp only [F_X12_best_L26, F_X12_best_J26, F_X12_best_J73, F_X12_best_J71, x1, Option.bind_some, bd2_s, nI_ge hi (show bM β < 2 ^ 31 by omega), if_false, gA hm2.1.1.1 ma54, rd (i + 1) hi, rd (bst P i) (by omega), Nat.add_sub_cancel, nI_1]
        by_cases h0 : y = 0
        · rw [if_pos h0]
          have hz : P (i + 1) (bst P i) ↔ ¬ hsv β (dL δ) (i + 1) ≤ hsv β (dL δ) (bst P i) := by
            have e := congrFun (congrFun hP (i + 1)) (bst P i)
            rw [← e]; simp only [h0, if_true]
          by_cases z : P (i + 1) (bst P i)
          · rw [if_neg (hz.mp z), bst_t z]
          · rw [if_pos (Classical.byContradiction (fun w => z (hz.mpr w))), bst_f z]
        · rw [if_neg h0]
          have hz : P (i + 1) (bst P i) ↔ ¬ hsv β (dL δ) (bst P i) ≤ hsv β (dL δ) (i + 1) := by
            have e := congrFun (congrFun hP (i + 1)) (bst P i)
            rw [← e]; simp only [h0, if_false]
          by_cases z : P (i + 1) (bst P i)
          · rw [if_neg (hz.mp z), bst_t z]
          · rw [if_pos (Classical.byContradiction (fun w => z (hz.mpr w))), bst_f z]) N 1 hM0 (by omega) (Nat.le_refl _)
      simp only [F_X12_best, w1, nI_ne0 hM0 (show bM β < 2 ^ 31 by omega), if_false, S_in, bI_t hy, show ¬ (1 : Int32) = 0 by decide, q1.ob, b1, Option.bind_some, bd2_s]
      exact key
  · refine xStep.rd (r := -1) h ?_ ?_
    · simp only [F_X11_best, y1]
      by_cases y0 : y < 0
      · rw [if_pos y0]
      · rw [if_neg y0, if_neg (fun z => hy ⟨y0, z⟩)]
    · simp only [F_X12_best, v1, S_in, bI_f hy, if_true, Option.bind_some, bd2_s]
      split <;> rfl
/-- SETTLE's groups -/
noncomputable def stS (f : Nat → Int32) (s : Nat) : Nat → Int32
  | 0 => 0
  | i + 1 => if s.testBit i = true then stS f s i + f i else stS f s i
noncomputable def stM (t : Nat → Int32) (s : Nat) : Nat → Int32
  | 0 => 0
  | i + 1 => if s.testBit i = true then xmax (stM t s i) (t (s - 2 ^ i)) else stM t s i
noncomputable def stV (f t : Nat → Int32) (M s : Nat) : Int32 := if stS f s M = 0 then stM t s M + 1 else stM t s M
noncomputable def stT (f : Nat → Int32) (M : Nat) : Nat → Nat → Int32
  | 0 => fun _ => 0
  | s + 1 => upd (stT f M s) (s + 1) (stV f (stT f M s) M (s + 1))
theorem stM_congr {t t' : Nat → Int32} {s : Nat} : ∀ i, (∀ q, q < s → t q = t' q) → stM t s i = stM t' s i := by
  intro i
  induction i with
  | zero => intro _; rfl
  | succ i ih =>
    intro h
    simp only [stM]
    rw [ih h]
    by_cases hb : s.testBit i = true
    · have : s - 2 ^ i < s := by
        have h1 := Nat.pow_pos (n := i) (by decide : 0 < 2)
        have h2 : 2 ^ i ≤ s := Nat.ge_two_pow_of_testBit hb
        omega
      rw [if_pos hb, if_pos hb, h _ this]
    · rw [if_neg hb, if_neg hb]
theorem sbit : ∀ s, s < 64 → ∀ i, i < 6 → (((nI s >>> (nI i &&& 31)) &&& 1) = 0 ↔ ¬ s.testBit i = true) := by decide +kernel
theorem sbit1 : ∀ s, s < 64 → ∀ i, i < 6 → (((nI s >>> (nI i &&& 31)) &&& 1) = 1 ↔ s.testBit i = true) := by decide +kernel
theorem sclr : ∀ s, s < 64 → ∀ i, i < 6 → s.testBit i = true → nI s &&& (((1 : Int32) <<< (nI i &&& 31)) ^^^ (-1 : Int32)) = nI (s - 2 ^ i) ∧ s - 2 ^ i < s := by decide +kernel
theorem spow : ∀ i, i < 7 → (1 : Int32) <<< (nI i &&& 31) = nI (2 ^ i) := by decide +kernel
theorem pow64 : ∀ i, i < 7 → 2 ^ i ≤ 64 ∧ 1 ≤ 2 ^ i := by decide +kernel
theorem i32_set (a x M : Int32) : a - (x - (M - a)) = M - x := by grind
theorem T_settle (hN : 59049 < N) (h : Rel stf K b m β δ H) : xStep stf K b m (F_X11_settle N (some b)) (F_X12_settle N (some m)) H := by
  obtain ⟨⟨⟨c, tc, tk, cb, n, nk, ncb, ad, ho⟩, -⟩, v, hm⟩ := id h
  obtain ⟨g0, g1, g2, g3, g4, g5, g6, g7, g8, g9, g10, g11, g12, g13, g14⟩ := ho.g
  obtain ⟨o10, o2, o6, o4, o5, o3, o9⟩ := ho.o
  obtain ⟨k0, k1, k2, k4, k6, k7, k12⟩ := ho.k
  have q := hm.mq
  have qo := q.ob
  have qz := q.z
  obtain ⟨v0, v1, v2, v3, v46, t5, t6, t12⟩ := q.ac
  have M7 := pow64 (bM β) (by omega)
  generalize hf : hsv β (dL δ) = f
  generalize hA : stT f (bM β) (2 ^ bM β - 1) (2 ^ bM β - 1) = A
  -- the class
  obtain ⟨⟨go, hgo⟩, gr, hgr⟩ : (∃ g, H.1 (b + 49) = some (aI 6 g)) ∧ ∃ g, H.1 (b + 50) = some (aI 64 g) := ho.2.2.2.2.2.2.2.2.2.2.2.1
  obtain ⟨e, gg, hgg⟩ := ho.gn
  have own : ∀ n i, i ≤ bM β → bM β - i < n → ∀ H1, sc (SX b tk cb) H H1 → (∃ g, H1.1 (b + 49) = some (aI 6 g) ∧ ∀ j, j < i → g j = f j) → ∃ H2, F_X11_settle_L10 N (F_X11_settle_J34 N) n (some b) (nI (bM β)) (nI i) H1 = F_X11_settle_J34 N (some b) (nI (bM β)) H2 ∧ sc (SX b tk cb) H H2 ∧ ∃ g, H2.1 (b + 49) = some (aI 6 g) ∧ ∀ j, j < bM β → g j = f j := by
    refine upto (s := bM β) (P := fun n i => ∀ H1, sc (SX b tk cb) H H1 → (∃ g, H1.1 (b + 49) = some (aI 6 g) ∧ ∀ j, j < i → g j = f j) → ∃ H2, F_X11_settle_L10 N (F_X11_settle_J34 N) n (some b) (nI (bM β)) (nI i) H1 = F_X11_settle_J34 N (some b) (nI (bM β)) H2 ∧ sc (SX b tk cb) H H2 ∧ ∃ g, H2.1 (b + 49) = some (aI 6 g) ∧ ∀ j, j < bM β → g j = f j) (fun n H1 hs hg => ⟨H1, ?_, hs, hg⟩) (fun n i hi ih H1 hs hg => ?_)
    · simp only [F_X11_settle_L10, F_X11_settle_J10, nI_le (Nat.le_refl _) (show bM β < 2 ^ 31 by omega), if_true]
    · have hx := ho.sc hs
      obtain ⟨f0, f1, f2, f3, f4, f5, f6, f7, f8, f9, f10, f11, f12, f13, f14⟩ := hx.g
      obtain ⟨p10, -⟩ := hx.o
      obtain ⟨G, hG⟩ := S_hasNow (N := N) (by omega) hx hm.2.1 hi
      obtain ⟨-, gx, hgx⟩ := hx.gn
      obtain ⟨g, q1, q2⟩ := hg
      have q1' : (xup H1 (b + 44) (aI 60 G)).1 (b + 49) = some (aI 6 g) := by rw [xup_ne _ (by omega)]; exact q1
      rw [show F_X11_settle_L10 N (F_X11_settle_J34 N) (n + 1) = F_X11_settle_J10 N (F_X11_settle_L10 N (F_X11_settle_J34 N) n) (F_X11_settle_J34 N) from rfl]
      simp only [F_X11_settle_J10, nI_ge hi (show bM β < 2 ^ 31 by omega), if_false, f13, p10, hG, S_set q1' (show i < 6 by omega) (by decide), nI_1, Option.bind_some, bd2_s]
      refine ih _ ((hs.tr (sc.upI (by unfold SX; omega) hgx)).tr (sc.upI (by unfold SX; omega) q1')) ⟨_, xup_at _, fun j hj => ?_⟩
      by_cases ej : j = i
      · rw [ej, pk_us, hf]
      · rw [pk_un ej]; exact q2 j (by omega)
  obtain ⟨H2, c1, c2, go2, c3, c4⟩ := own N 0 (Nat.zero_le _) (by omega) H sc.rf ⟨go, hgo, fun j hj => by omega⟩
  have hx2 := ho.sc c2
  obtain ⟨gr2, hgr2⟩ : ∃ g, H2.1 (b + 50) = some (aI 64 g) := hx2.2.2.2.2.2.2.2.2.2.2.2.1.2
  have hxs : ∀ g, RXo stf K b m c tc tk cb n nk ncb ad β δ (xup H2 (b + 50) (aI 64 g)) := fun g => hx2.sc (sc.upI (by unfold SX; omega) hgr2)
  have rdo : ∀ g j, j < bM β → F_X11_at N (some (b + 49)) (nI j) (xup H2 (b + 50) (aI 64 g)) = some (f j, xup H2 (b + 50) (aI 64 g)) := fun g j hj => by
    have : (xup H2 (b + 50) (aI 64 g)).1 (b + 49) = some (aI 6 go2) := by rw [xup_ne _ (by omega)]; exact c3
    rw [S_at this (by decide : 6 < 2 ^ 31), gat_nI (show j < 2 ^ 31 by omega), if_pos (show j < 6 by omega), c4 j hj]
  have rdg : ∀ (g : Nat → Int32) j, j < 64 → F_X11_at N (some (b + 50)) (nI j) (xup H2 (b + 50) (aI 64 g)) = some (g j, xup H2 (b + 50) (aI 64 g)) := fun g j hj => by
    rw [S_at (xup_at _) (by decide : 64 < 2 ^ 31), gat_nI (show j < 2 ^ 31 by omega), if_pos hj]
  have wrg : ∀ (g : Nat → Int32) j x, j < 64 → F_X11_set N (some (b + 50)) (nI j) x (xup H2 (b + 50) (aI 64 g)) = some (xup H2 (b + 50) (aI 64 (upd g j x))) := fun g j x hj => by
    rw [S_set (xup_at _) hj (by decide), xup_up]
  have grp : ∀ n s, s ≤ 2 ^ bM β → 2 ^ bM β - s < n → ∀ g, 1 ≤ s → (∀ q, q < s → g q = stT f (bM β) (s - 1) q) → ∃ g', F_X11_settle_L51 N (F_X11_settle_J150 N) n (some b) (nI (bM β)) (nI (2 ^ bM β - 1)) (nI s) (xup H2 (b + 50) (aI 64 g)) = some (nI (bM β) - A, xup H2 (b + 50) (aI 64 g')) := by
    refine upto (s := 2 ^ bM β) (P := fun n s => ∀ g, 1 ≤ s → (∀ q, q < s → g q = stT f (bM β) (s - 1) q) → ∃ g', F_X11_settle_L51 N (F_X11_settle_J150 N) n (some b) (nI (bM β)) (nI (2 ^ bM β - 1)) (nI s) (xup H2 (b + 50) (aI 64 g)) = some (nI (bM β) - A, xup H2 (b + 50) (aI 64 g'))) (fun n g h1 hg => ⟨g, ?_⟩) (fun n s hs ih g h1 hg => ?_)
    · obtain ⟨f0, f1, f2, f3, f4, f5, f6, f7, f8, f9, f10, f11, f12, f13, f14⟩ := (hxs g).g
      simp only [F_X11_settle_L51, F_X11_settle_J51, F_X11_settle_J150, nI_lt (show 2 ^ bM β - 1 < 2 ^ bM β by omega) (by omega), if_true, f14, rdg g (2 ^ bM β - 1) (by omega), hg _ (show 2 ^ bM β - 1 < 2 ^ bM β by omega), hA, Option.bind_some, bd2_s]
    · obtain ⟨s, rfl⟩ : ∃ s', s = s' + 1 := ⟨s - 1, by omega⟩
      obtain ⟨f0, f1, f2, f3, f4, f5, f6, f7, f8, f9, f10, f11, f12, f13, f14⟩ := (hxs g).g
      have inn := upto (s := bM β) (P := fun n' i => F_X11_settle_L65 N (F_X11_settle_J122 N (F_X11_settle_L51 N (F_X11_settle_J150 N) n)) n' (some b) (nI (bM β)) (nI (2 ^ bM β - 1)) (nI (s + 1)) (stS f (s + 1) i) (stM g (s + 1) i) (nI i) (xup H2 (b + 50) (aI 64 g)) = F_X11_settle_J122 N (F_X11_settle_L51 N (F_X11_settle_J150 N) n) (some b) (nI (bM β)) (nI (2 ^ bM β - 1)) (nI (s + 1)) (stS f (s + 1) (bM β)) (stM g (s + 1) (bM β)) (xup H2 (b + 50) (aI 64 g))) (fun n' => by
        simp only [F_X11_settle_L65, F_X11_settle_J65, nI_le (Nat.le_refl _) (show bM β < 2 ^ 31 by omega), if_true]) (fun n' i hi ih2 => by
        rw [show F_X11_settle_L65 N (F_X11_settle_J122 N (F_X11_settle_L51 N (F_X11_settle_J150 N) n)) (n' + 1) = F_X11_settle_J65 N (F_X11_settle_L65 N (F_X11_settle_J122 N (F_X11_settle_L51 N (F_X11_settle_J150 N) n)) n') (F_X11_settle_J122 N (F_X11_settle_L51 N (F_X11_settle_J150 N) n)) from rfl]
        simp only [F_X11_settle_J65, F_X11_settle_J116, nI_ge hi (show bM β < 2 ^ 31 by omega), if_false, sbit (s + 1) (by omega) i (by omega), nI_1]
        by_cases hb : (s + 1).testBit i = true
        · obtain ⟨a1, a2⟩ := sclr (s + 1) (by omega) i (by omega) hb
          simp only [hb, not_true, if_false, f13, f14, rdo g i hi, a1, rdg g (s + 1 - 2 ^ i) (by omega), Option.bind_some, bd2_s]
          rw [show stS f (s + 1) (i + 1) = stS f (s + 1) i + f i by simp only [stS, hb, if_true], show stM g (s + 1) (i + 1) = xmax (stM g (s + 1) i) (g (s + 1 - 2 ^ i)) by simp only [stM, hb, if_true]] at ih2
          exact ih2
        · simp only [hb, not_false_iff, if_true]
          rw [show stS f (s + 1) (i + 1) = stS f (s + 1) i by simp only [stS, hb]; rfl, show stM g (s + 1) (i + 1) = stM g (s + 1) i by simp only [stM, hb]; rfl] at ih2
          exact ih2) N 0 (Nat.zero_le _) (by omega)
      have hgv : ∀ q, q < s + 1 → g q = stT f (bM β) s q := fun q hq => hg q hq
      obtain ⟨g', hg'⟩ := ih (upd g (s + 1) (stV f (stT f (bM β) s) (bM β) (s + 1))) (by omega) (fun q hq => by
        show _ = stT f (bM β) (s + 1) q
        simp only [stT]
        by_cases eq : q = s + 1
        · rw [eq, pk_us, pk_us]
        · rw [pk_un eq, pk_un eq, hgv q (by omega)])
      refine ⟨g', ?_⟩
      rw [← hg', show F_X11_settle_L51 N (F_X11_settle_J150 N) (n + 1) = F_X11_settle_J51 N (F_X11_settle_L51 N (F_X11_settle_J150 N) n) (F_X11_settle_J150 N) from rfl]
      simp only [F_X11_settle_J51, nI_nlt (show s + 1 ≤ 2 ^ bM β - 1 by omega) (by omega), if_false]
      rw [show F_X11_settle_L65 N (F_X11_settle_J122 N (F_X11_settle_L51 N (F_X11_settle_J150 N) n)) N (some b) (nI (bM β)) (nI (2 ^ bM β - 1)) (nI (s + 1)) (0 : Int32) (0 : Int32) (0 : Int32) (xup H2 (b + 50) (aI 64 g)) = _ from inn]
      have e1 := stM_congr (t := g) (t' := stT f (bM β) s) (s := s + 1) (bM β) hgv
      simp only [F_X11_settle_J122, F_X11_settle_J141, f14, e1, Option.bind_some, bd2_s]
      by_cases z : stS f (s + 1) (bM β) = 0
      · rw [if_pos z, show stM (stT f (bM β) s) (s + 1) (bM β) + (1 : Int32) = stV f (stT f (bM β) s) (bM β) (s + 1) by unfold stV; rw [if_pos z], wrg g (s + 1) _ (by omega)]
        simp only [Option.bind_some, bd2_s, nI_1]
      · rw [if_neg z, show stM (stT f (bM β) s) (s + 1) (bM β) = stV f (stT f (bM β) s) (bM β) (s + 1) by unfold stV; rw [if_neg z], wrg g (s + 1) _ (by omega)]
        simp only [Option.bind_some, bd2_s, nI_1]
  obtain ⟨g3, hg3⟩ := grp N 1 (by omega) (by omega) (upd gr2 0 0) (Nat.le_refl _) (fun q hq => by rw [show q = 0 by omega, pk_us]; rfl)
  have C1 : F_X11_settle N (some b) H = some (nI (bM β) - A, xup H2 (b + 50) (aI 64 g3)) := by
    obtain ⟨f0, f1, f2, f3, f4, f5, f6, f7, f8, f9, f10, f11, f12, f13, f14⟩ := hx2.g
    simp only [F_X11_settle, g5, k1, Option.bind_some, bd2_s]
    rw [show F_X11_settle_L10 N (F_X11_settle_J34 N) N (some b) (nI (bM β)) (0 : Int32) H = _ from c1]
    simp only [F_X11_settle_J34, f14, Option.bind_some, bd2_s, spow (bM β) (by omega)]
    rw [show (1 : Int32) = nI 1 from rfl, pk_sub M7.2, show (0 : Int32) = nI 0 from rfl, S_set hgr2 (show 0 < 64 by decide) (by decide)]
    simp only [Option.bind_some, bd2_s]
    exact hg3
  have hsc : sc (SX b tk cb) H (xup H2 (b + 50) (aI 64 g3)) := c2.tr (sc.upI (by unfold SX; omega) hgr2)
  generalize xup H2 (b + 50) (aI 64 g3) = H3 at C1 hsc
  -- the reference
  have hm1 : CM K m v β δ H3 := ⟨hm.1.x ho.1 hsc, hm.2⟩
  have q1 := hm1.mq
  obtain ⟨v', H4, b1, b2, g, b3, b4⟩ := S_bal (N := N) hN hm1
  rw [hf] at b4
  have hR := h.scr ho hsc hm1.1.1.1 hm1.1 b2
  have hm2 : CM K m v' β δ H4 := ⟨hm1.1.s b2, hm1.2⟩
  obtain ⟨gs, hgs, hgs0⟩ : ∃ g, H4.1 (m + 31) = some (aI 64 g) ∧ g 0 = 0 := hm2.1.2.2.2.2.2.2.2.2.2.2.2.2.2.2.2.2.2.2.2.2.1
  have hms : ∀ g', g' 0 = 0 → CM K m v' β δ (xup H4 (m + 31) (aI 64 g')) := fun g' h0 => ⟨hm2.1.g31 h0, hm2.2⟩
  have rb : ∀ g' j, j < bM β → xlI .int (xup H4 (m + 31) (aI 64 g')) (some (m + 30)) (nI j) = some (f j) := fun g' j hj => by
    rw [rdI (n := 6) (g := g) (by rw [xup_ne _ (by omega)]; exact b3) (show j < 6 by omega) (by decide), b4 j hj]
  have rg : ∀ (g' : Nat → Int32) j, j < 64 → xlI .int (xup H4 (m + 31) (aI 64 g')) (some (m + 31)) (nI j) = some (g' j) := fun g' j hj => rdI (xup_at _) hj (by decide)
  have wg : ∀ (g' : Nat → Int32) j x, j < 64 → xsI .int (xup H4 (m + 31) (aI 64 g')) (some (m + 31)) (nI j) x = some (xup H4 (m + 31) (aI 64 (upd g' j x))) := fun g' j x hj => by rw [stI (xup_at _) hj (by decide), vnI, xup_up]
  have unit0 : ∀ H', F_X12_unit N 0 H' = some (0, H') := fun H' => by unfold F_X12_unit; rw [if_pos rfl]
  have unit1 : ∀ H', F_X12_unit N 1 H' = some (1, H') := fun H' => by unfold F_X12_unit; rw [if_neg (by decide)]
  have set2 : ∀ a : Int32, ∀ n s, s ≤ 2 ^ bM β → 2 ^ bM β - s < n → ∀ g', 1 ≤ s → (∀ q, q < s → g' q = stT f (bM β) (s - 1) q) → ∃ g'', g'' 0 = 0 ∧ F_X12_settle_L44 N (F_X12_settle_J158 N) n (some m) a (nI s) (xup H4 (m + 31) (aI 64 g')) = some (nI (bM β) - A, xup H4 (m + 31) (aI 64 g'')) := by
    intro a
    refine upto (s := 2 ^ bM β) (P := fun n s => ∀ g', 1 ≤ s → (∀ q, q < s → g' q = stT f (bM β) (s - 1) q) → ∃ g'', g'' 0 = 0 ∧ F_X12_settle_L44 N (F_X12_settle_J158 N) n (some m) a (nI s) (xup H4 (m + 31) (aI 64 g')) = some (nI (bM β) - A, xup H4 (m + 31) (aI 64 g''))) (fun n g' h1 hg => ?_) (fun n s hs ih g' h1 hg => ?_)
    · have h00 : ∀ k, stT f (bM β) k 0 = 0 := fun k => by
        induction k with
        | zero => rfl
        | succ k ihk => simp only [stT]; rw [pk_un (by omega)]; exact ihk
      have g00 : g' 0 = 0 := by rw [hg 0 (by omega), h00]
      obtain ⟨w0, w1, w2, w3, w46, -⟩ := (hms g' g00).mq.ac
      refine ⟨g', g00, ?_⟩
      simp only [F_X12_settle_L44, F_X12_settle_J44, F_X12_settle_J158, w1, spow (bM β) (by omega), nI_le (Nat.le_refl _) (show 2 ^ bM β < 2 ^ 31 by omega), if_true, Option.bind_some, bd2_s]
      by_cases hM0 : bM β = 0
      · have : A = 0 := by rw [← hA, hM0]; rfl
        rw [this, hM0]; rfl
      · rw [if_neg (nI_ne0 (by omega) (by omega)), gA (hms g' g00).1.1.1 ma55]
        simp only [Option.bind_some, bd2_s]
        rw [show (1 : Int32) = nI 1 from rfl, pk_sub M7.2, rg g' _ (by omega), hg _ (by omega), hA]
        simp only [Option.bind_some, bd2_s, i32_set]
    · obtain ⟨s, rfl⟩ : ∃ s', s = s' + 1 := ⟨s - 1, by omega⟩
      have h00 : ∀ k, stT f (bM β) k 0 = 0 := fun k => by
        induction k with
        | zero => rfl
        | succ k ihk => simp only [stT]; rw [pk_un (by omega)]; exact ihk
      have g00 : ∀ x, upd g' (s + 1) x 0 = 0 := fun x => by rw [pk_un (by omega), hg 0 (by omega), h00]
      have g000 : g' 0 = 0 := by rw [hg 0 (by omega), h00]
      obtain ⟨w0, w1, w2, w3, w46, -⟩ := (hms g' g000).mq.ac
      have inn := upto (s := bM β) (P := fun n' i => F_X12_settle_L66 N (F_X12_settle_J131 N (F_X12_settle_L44 N (F_X12_settle_J158 N) n)) n' (some m) a (nI (s + 1)) (stS f (s + 1) i) (nI i) (xup H4 (m + 31) (aI 64 (upd g' (s + 1) (stM g' (s + 1) i)))) = F_X12_settle_J131 N (F_X12_settle_L44 N (F_X12_settle_J158 N) n) (some m) a (nI (s + 1)) (stS f (s + 1) (bM β)) (xup H4 (m + 31) (aI 64 (upd g' (s + 1) (stM g' (s + 1) (bM β)))))) (fun n' => by
        obtain ⟨w0, w1, w2, w3, w46, -⟩ := (hms _ (g00 (stM g' (s + 1) (bM β)))).mq.ac
        simp only [F_X12_settle_L66, F_X12_settle_J66, w1, nI_le (Nat.le_refl _) (show bM β < 2 ^ 31 by omega), if_true, Option.bind_some, bd2_s]) (fun n' i hi ih2 => by
        have hmi := hms _ (g00 (stM g' (s + 1) i))
        obtain ⟨w0, w1, w2, w3, w46, -⟩ := hmi.mq.ac
        rw [show F_X12_settle_L66 N (F_X12_settle_J131 N (F_X12_settle_L44 N (F_X12_settle_J158 N) n)) (n' + 1) = F_X12_settle_J66 N (F_X12_settle_L66 N (F_X12_settle_J131 N (F_X12_settle_L44 N (F_X12_settle_J158 N) n)) n') (F_X12_settle_J131 N (F_X12_settle_L44 N (F_X12_settle_J158 N) n)) from rfl]
        simp only [F_X12_settle_J66, F_X12_settle_J125, w1, nI_ge hi (show bM β < 2 ^ 31 by omega), if_false, S_bit, nI_1, Option.bind_some, bd2_s]
        by_cases hb : (s + 1).testBit i = true
        · obtain ⟨a1, a2⟩ := sclr (s + 1) (by omega) i (by omega) hb
          rw [bI_t ((sbit1 (s + 1) (by omega) i (by omega)).mpr hb), if_neg (by decide)]
          simp only [gA hmi.1.1.1 ma54, gA hmi.1.1.1 ma55, rb _ i hi, rg _ (s + 1) (show s + 1 < 64 by omega), a1, rg _ (s + 1 - 2 ^ i) (show s + 1 - 2 ^ i < 64 by omega), pk_us, pk_un (show s + 1 - 2 ^ i ≠ s + 1 by omega), wg _ (s + 1) _ (show s + 1 < 64 by omega), Option.bind_some, bd2_s]
          rw [show stS f (s + 1) (i + 1) = stS f (s + 1) i + f i by simp only [stS, hb, if_true], show stM g' (s + 1) (i + 1) = xmax (stM g' (s + 1) i) (g' (s + 1 - 2 ^ i)) by simp only [stM, hb, if_true]] at ih2
          rw [upd_upd]
          exact ih2
        · rw [bI_f (fun z => hb ((sbit1 (s + 1) (by omega) i (by omega)).mp z)), if_pos rfl]
          rw [show stS f (s + 1) (i + 1) = stS f (s + 1) i by simp only [stS, hb]; rfl, show stM g' (s + 1) (i + 1) = stM g' (s + 1) i by simp only [stM, hb]; rfl] at ih2
          exact ih2) N 0 (Nat.zero_le _) (by omega)
      have hgv : ∀ q, q < s + 1 → g' q = stT f (bM β) s q := fun q hq => hg q hq
      obtain ⟨g'', z1, z2⟩ := ih (upd g' (s + 1) (stV f (stT f (bM β) s) (bM β) (s + 1))) (by omega) (fun q hq => by
        show _ = stT f (bM β) (s + 1) q
        simp only [stT]
        by_cases eq : q = s + 1
        · rw [eq, pk_us, pk_us]
        · rw [pk_un eq, pk_un eq, hgv q (by omega)])
      refine ⟨g'', z1, ?_⟩
      rw [← z2, show F_X12_settle_L44 N (F_X12_settle_J158 N) (n + 1) = F_X12_settle_J44 N (F_X12_settle_L44 N (F_X12_settle_J158 N) n) (F_X12_settle_J158 N) from rfl]
      simp only [F_X12_settle_J44, w1, spow (bM β) (by omega), nI_ge hs (show 2 ^ bM β < 2 ^ 31 by omega), if_false, gA (hms g' g000).1.1.1 ma55, wg g' (s + 1) _ (show s + 1 < 64 by omega), Option.bind_some, bd2_s]
      rw [show F_X12_settle_L66 N (F_X12_settle_J131 N (F_X12_settle_L44 N (F_X12_settle_J158 N) n)) N (some m) a (nI (s + 1)) (0 : Int32) (0 : Int32) (xup H4 (m + 31) (aI 64 (upd g' (s + 1) 0))) = _ from inn]
      have e1 := stM_congr (t := g') (t' := stT f (bM β) s) (s := s + 1) (bM β) hgv
      have hmi := hms _ (g00 (stM g' (s + 1) (bM β)))
      simp only [F_X12_settle_J131, F_X12_settle_J147, gA hmi.1.1.1 ma55, rg _ (s + 1) (show s + 1 < 64 by omega), pk_us, Option.bind_some, bd2_s]
      by_cases z : stS f (s + 1) (bM β) = 0
      · rw [if_pos z, unit1]
        simp only [Option.bind_some, bd2_s, wg _ (s + 1) _ (show s + 1 < 64 by omega), upd_upd, nI_1]
        rw [e1, show stM (stT f (bM β) s) (s + 1) (bM β) + (1 : Int32) = stV f (stT f (bM β) s) (bM β) (s + 1) by unfold stV; rw [if_pos z]]
      · rw [if_neg z, unit0]
        simp only [Option.bind_some, bd2_s, wg _ (s + 1) _ (show s + 1 < 64 by omega), upd_upd, nI_1, Int32.add_zero]
        rw [e1, show stM (stT f (bM β) s) (s + 1) (bM β) = stV f (stT f (bM β) s) (bM β) (s + 1) by unfold stV; rw [if_neg z]]
  have cnt0 : ∀ n i, i ≤ bM β → bM β - i < n → ∀ a : Int32, ∃ a', F_X12_settle_L8 N (F_X12_settle_J42 N) n (some m) a (nI i) H4 = F_X12_settle_J42 N (some m) a' H4 := by
    obtain ⟨w0, w1, w2, w3, w46, -⟩ := hm2.mq.ac
    refine upto (s := bM β) (P := fun n i => ∀ a : Int32, ∃ a', F_X12_settle_L8 N (F_X12_settle_J42 N) n (some m) a (nI i) H4 = F_X12_settle_J42 N (some m) a' H4) (fun n a => ⟨a, ?_⟩) (fun n i hi ih a => ?_)
    · simp only [F_X12_settle_L8, F_X12_settle_J8, w1, nI_le (Nat.le_refl _) (show bM β < 2 ^ 31 by omega), if_true, Option.bind_some, bd2_s]
    · rw [show F_X12_settle_L8 N (F_X12_settle_J42 N) (n + 1) = F_X12_settle_J8 N (F_X12_settle_L8 N (F_X12_settle_J42 N) n) (F_X12_settle_J42 N) from rfl]
      simp only [F_X12_settle_J8, F_X12_settle_J31, w1, nI_ge hi (show bM β < 2 ^ 31 by omega), if_false, gA hm2.1.1.1 ma54, rdI b3 (show i < 6 by omega) (by decide), unit0, unit1, nI_1, Option.bind_some, bd2_s]
      by_cases z : g i = 0
      · rw [if_pos z]; exact ih _
      · rw [if_neg z]; exact ih _
  obtain ⟨a', ha'⟩ := cnt0 N 0 (Nat.zero_le _) (by omega) 0
  obtain ⟨g'', z1, z2⟩ := set2 a' N 1 (by omega) (by omega) gs (Nat.le_refl _) (fun q hq => by rw [show q = 0 by omega, hgs0]; rfl)
  rw [xup_id hgs] at z2
  refine ⟨_, H3, _, β, δ, C1, ?_, hR.m31 hgs z1⟩
  simp only [F_X12_settle, q1.ob, b1, Option.bind_some, bd2_s]
  rw [show F_X12_settle_L8 N (F_X12_settle_J42 N) N (some m) (0 : Int32) (0 : Int32) H4 = _ from ha']
  exact z2
end Settle
