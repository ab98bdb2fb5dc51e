/-! PURE: STEPS has, end, may. -/
theorem i32_add {x y : Int32} {a c : Int} (h1 : -a ≤ x.toInt ∧ x.toInt ≤ a) (h2 : -c ≤ y.toInt ∧ y.toInt ≤ c) (h : a + c ≤ 2000000000) : (x + y).toInt = x.toInt + y.toInt := by
  rw [Int32.toInt_add, Int.bmod_eq_of_le] <;> omega
theorem sm_b {f : Nat → Int32} {M : Int} (hM : 0 ≤ M) (hM2 : M ≤ 1000000) : ∀ n w, n ≤ 12 → (∀ v, w ≤ v → v < w + n → -M ≤ (f v).toInt ∧ (f v).toInt ≤ M) → -(n * M) ≤ (sm f n w).toInt ∧ (sm f n w).toInt ≤ n * M := by
  intro n
  induction n with
  | zero => intro w _ _; rw [show sm f 0 w = 0 from rfl, show (0 : Int32).toInt = 0 by decide]; omega
  | succ n ih =>
    intro w hn h
    have h1 := h w (Nat.le_refl _) (by omega)
    have h2 := ih (w + 1) (by omega) (fun v a c => h v (by omega) (by omega))
    have h3 : (n : Int) * M ≤ 12 * M := Int.mul_le_mul_of_nonneg_right (by omega) hM
    have e : (((n + 1 : Nat) : Int)) * M = n * M + M := by rw [Int.natCast_add, Int.add_mul]; omega
    rw [e, show sm f (n + 1) w = f w + sm f n (w + 1) from rfl, i32_add h1 h2 (by omega)]
    omega
theorem sd_b (l : sL) (mem : Int32) (w : Nat) : sd l mem w = 0 ∨ sd l mem w = 1 ∨ sd l mem w = -1 := by
  unfold sd
  by_cases h1 : lH l (2 * w) = mem <;> by_cases h2 : lH l (2 * w + 1) = mem
  · rw [bI_t h1, bI_t h2]; exact Or.inl (by decide)
  · rw [bI_t h1, bI_f h2]; exact Or.inr (Or.inl (by decide))
  · rw [bI_f h1, bI_t h2]; exact Or.inr (Or.inr (by decide))
  · rw [bI_f h1, bI_f h2]; exact Or.inl (by decide)
theorem sdp_b {β : sB} (hB : bOk β) (l : sL) (mem : Int32) {w o : Nat} (hw : w < bW β) (ho : o < 5) : -1998 ≤ (sd l mem w * pay o (bc1 β w) (bc2 β w)).toInt ∧ (sd l mem w * pay o (bc1 β w) (bc2 β w)).toInt ≤ 1998 := by
  have hcn := hB.2.2.2.2.2 w hw
  have hb := pay_b ⟨hcn.1, hcn.2.1⟩ ⟨hcn.2.2.1, hcn.2.2.2⟩ o ho
  have e0 : (0 : Int32).toInt = 0 := by decide
  rcases sd_b l mem w with e | e | e <;> rw [e]
  · rw [Int32.zero_mul, e0]; omega
  · rw [Int32.one_mul]; exact hb
  · rw [Int32.neg_mul, Int32.one_mul, Int32.toInt_neg, Int.bmod_eq_of_le] <;> omega
theorem esum_b {β : sB} (hB : bOk β) (l : sL) (mem : Int32) (k : Nat) : -24000 ≤ (esum β l mem k).toInt ∧ (esum β l mem k).toInt ≤ 24000 := by
  have h12 := hB.2.2.1
  have := sm_b (f := fun w => sd l mem w * pay (boc β w k) (bc1 β w) (bc2 β w)) (M := 1998) (by decide) (by decide) (bW β) 0 h12 (fun v _ hv => sdp_b hB l mem (by omega) (hB.2.2.2.2.1 v k))
  unfold esum
  omega
theorem hsv_b {β : sB} {K : Nat} {l : sL} (hB : bOk β) (hl : lOkK K β l) (hK : K ≤ 1000) {j : Nat} (hj : j < 6) : -20000000 ≤ (hsv β l j).toInt ∧ (hsv β l j).toInt ≤ 20000000 := by
  have h12 := hB.2.2.1
  have h1 := hl.2.2 j hj
  have h2 := sm_b (f := sst β l (nI j)) (M := 1998) (by decide) (by decide) (bW β) 0 h12 (fun v _ hv => by
    unfold sst
    by_cases q : suW β l v
    · rw [if_pos q]; exact sdp_b hB l _ (by omega) (so_lt hB v)
    · rw [if_neg q, show (0 : Int32).toInt = 0 by decide]; omega)
  have h3 : ((bW β : Nat) : Int) * 1998 ≤ 24000 := by omega
  unfold hsv
  rw [i32_add (a := 9999000) (c := 24000) (by omega) (by omega) (by omega)]
  omega
/-- the best so far of those that P picks -/
noncomputable def fo (P : Nat → Prop) (f : Nat → Int32) (lt : Int32 → Int32 → Prop) : Nat → Option Int32
  | 0 => none
  | i + 1 => @ite _ (P i) (Classical.propDecidable _) (some (match fo P f lt i with
    | none => f i
    | some a => @ite _ (lt (f i) a) (Classical.propDecidable _) (f i) a)) (fo P f lt i)
theorem fo_f {P : Nat → Prop} {f : Nat → Int32} {lt : Int32 → Int32 → Prop} {i : Nat} (h : ¬ P i) : fo P f lt (i + 1) = fo P f lt i := by conv => lhs; unfold fo; rw [if_neg h]
theorem fo_n {P : Nat → Prop} {f : Nat → Int32} {lt : Int32 → Int32 → Prop} {i : Nat} (h : P i) (e : fo P f lt i = none) : fo P f lt (i + 1) = some (f i) := by conv => lhs; unfold fo; rw [if_pos h, e]
theorem fo_s {P : Nat → Prop} {f : Nat → Int32} {lt : Int32 → Int32 → Prop} {i : Nat} {a : Int32} (h : P i) (e : fo P f lt i = some a) : fo P f lt (i + 1) = some (@ite _ (lt (f i) a) (Classical.propDecidable _) (f i) a) := by conv => lhs; unfold fo; rw [if_pos h, e]
theorem fo_st {P : Nat → Prop} {f : Nat → Int32} {lt : Int32 → Int32 → Prop} {i : Nat} {a : Int32} (h : P i) (e : fo P f lt i = some a) (q : lt (f i) a) : fo P f lt (i + 1) = some (f i) := by rw [fo_s h e, if_pos q]
theorem fo_sf {P : Nat → Prop} {f : Nat → Int32} {lt : Int32 → Int32 → Prop} {i : Nat} {a : Int32} (h : P i) (e : fo P f lt i = some a) (q : ¬ lt (f i) a) : fo P f lt (i + 1) = some a := by rw [fo_s h e, if_neg q]
theorem fo_none {P : Nat → Prop} {f g : Nat → Int32} {lt lt' : Int32 → Int32 → Prop} : ∀ i, fo P f lt i = none → fo P g lt' i = none := by
  intro i
  induction i with
  | zero => intro _; rfl
  | succ i ih =>
    intro h
    by_cases q : P i
    · exfalso
      unfold fo at h
      rw [if_pos q] at h
      cases h
    · rw [fo_f q] at h ⊢
      exact ih h
theorem fo_in {P : Nat → Prop} {f : Nat → Int32} {lt : Int32 → Int32 → Prop} {A : Int32 → Prop} (hA : ∀ k, A (f k)) : ∀ i a, fo P f lt i = some a → A a := by
  intro i
  induction i with
  | zero => intro a h; cases h
  | succ i ih =>
    intro a h
    by_cases q : P i
    · cases e : fo P f lt i with
      | none => rw [fo_n q e] at h; cases h; exact hA i
      | some x =>
        rw [fo_s q e] at h
        have := Option.some.inj h
        rw [← this]
        by_cases z : lt (f i) x
        · rw [if_pos z]; exact hA i
        · rw [if_neg z]; exact ih x e
    · rw [fo_f q] at h; exact ih a h
theorem fo_map {P : Nat → Prop} {f : Nat → Int32} {lt : Int32 → Int32 → Prop} {c : Int32} {A : Int32 → Prop} (hA : ∀ k, A (f k)) (hlt : ∀ x y, A x → A y → (lt (c + x) (c + y) ↔ lt x y)) : ∀ i, fo P (fun k => c + f k) lt i = (fo P f lt i).map (fun x => c + x) := by
  intro i
  induction i with
  | zero => rfl
  | succ i ih =>
    by_cases q : P i
    · cases e : fo P f lt i with
      | none =>
        rw [e] at ih
        rw [fo_n q e, fo_n q ih]; rfl
      | some a =>
        rw [e] at ih
        have ha := fo_in hA i a e
        by_cases z : lt (f i) a
        · rw [fo_st q e z, fo_st (f := fun k => c + f k) q ih ((hlt _ _ (hA i) ha).mpr z)]; rfl
        · rw [fo_sf q e z, fo_sf (f := fun k => c + f k) q ih (fun y => z ((hlt _ _ (hA i) ha).mp y))]; rfl
    · rw [fo_f q, fo_f q]; exact ih
theorem fo_some {P : Nat → Prop} {f : Nat → Int32} {lt : Int32 → Int32 → Prop} : ∀ s, (∃ k, k < s ∧ P k) → ∃ a, fo P f lt s = some a := by
  intro s
  induction s with
  | zero => rintro ⟨k, h, -⟩; omega
  | succ s ih =>
    rintro ⟨k, h1, h2⟩
    by_cases q : P s
    · exact ⟨_, by unfold fo; rw [if_pos q]⟩
    · rw [fo_f q]
      exact ih ⟨k, by
        by_cases e : k = s
        · subst e; exact absurd h2 q
        · omega, h2⟩
section Has
variable {stf : Nat → Nat} {N K b m : Nat} {β : sB} {δ : sD} {H : xH}
theorem T_has (hN : 59049 < N) (h : Rel stf K b m β δ H) (x : Int32) : xStep stf K b m (F_X11_has N (some b) x) (F_X12_has N (some m) x) H := by
  obtain ⟨⟨⟨c, tc, tk, cb, n, nk, ncb, ad, ho⟩, -⟩, v, hm⟩ := id h
  obtain ⟨g0, g1, g2, g3, g4, g5, g6, g7, g8, g9, g10, g11, g12, g13, g14⟩ := ho.g
  obtain ⟨o10, o2, o6, o4, o5, o3, o9⟩ := ho.o
  obtain ⟨k0, k1, k2, k4, k6, k7, k12⟩ := ho.k
  have q := hm.mq
  have qo := q.ob
  have qz := q.z
  obtain ⟨v0, v1, v2, v3, v46, t5, t6, t12⟩ := q.ac
  rcases ix3 x (show bM β < 2 ^ 31 by omega) with hx | ⟨j, hj, rfl⟩
  · exact xStep.rd (r := -1000000) h (by simp only [F_X11_has, g5, o2, S_hMO ho hx, if_true, Option.bind_some, bd2_s]) (by simp only [F_X12_has, qo, S_mMO q hx, if_true, Option.bind_some, bd2_s])
  obtain ⟨G, hG⟩ := S_hasNow (N := N) (by omega) ho hm.2.1 hj
  have C1 : F_X11_has N (some b) (nI j) H = some (hsv β (dL δ) j, xup H (b + 44) (aI 60 G)) := by
    simp only [F_X11_has, g5, o2, S_hMI ho t6 hj, show ¬ (1 : Int32) = 0 by decide, if_false, o10, hG, Option.bind_some, bd2_s]
  obtain ⟨e, gg, hgg⟩ := ho.gn
  have hsc : sc (SX b tk cb) H (xup H (b + 44) (aI 60 G)) := sc.upI (by unfold SX; omega) hgg
  generalize xup H (b + 44) (aI 60 G) = H1 at C1 hsc
  have hm1 : CM K m v β δ H1 := ⟨hm.1.x ho.1 hsc, hm.2⟩
  have q1 := hm1.mq
  obtain ⟨v', H2, b1, b2, g, b3, b4⟩ := S_bal (N := N) hN hm1
  refine ⟨hsv β (dL δ) j, H1, H2, β, δ, C1, ?_, h.scr ho hsc hm1.1.1.1 hm1.1 b2⟩
  simp only [F_X12_has, q1.ob, S_mMI q1 hj, show ¬ (1 : Int32) = 0 by decide, if_false, b1, gA b2.at ma54, rdI b3 (show j < 6 by omega) (by decide), b4 j hj, Option.bind_some, bd2_s]
theorem T_end (hN : 59049 < N) (h : Rel stf K b m β δ H) (x y : Int32) : xStep stf K b m (F_X11_end N (some b) x y) (F_X12_end N (some m) x y) H := by
  obtain ⟨⟨⟨c, tc, tk, cb, n, nk, ncb, ad, ho⟩, -⟩, v, hm⟩ := id h
  obtain ⟨g0, g1, g2, g3, g4, g5, g6, g7, g8, g9, g10, g11, g12, g13, g14⟩ := ho.g
  obtain ⟨o10, o2, o6, o4, o5, o3, o9⟩ := ho.o
  obtain ⟨k0, k1, k2, k4, k6, k7, k12⟩ := ho.k
  have q := hm.mq
  have qo := q.ob
  have qz := q.z
  obtain ⟨v0, v1, v2, v3, v46, t5, t6, t12⟩ := q.ac
  obtain ⟨cl, cert, tt, hc, hs, hs2, u0, u1, u2, u3, u4⟩ := ho.t
  have hpe := hm.2.1.2.2.2.1
  rcases ix3 x (show bM β < 2 ^ 31 by omega) with hx | ⟨j, hj, rfl⟩
  · refine xStep.rd (r := -1000000) h ?_ (by simp only [F_X12_end, qo, S_mMO q hx, if_true, Option.bind_some, bd2_s])
    rcases ix3 y (show bZ β < 2 ^ 31 by omega) with hy | ⟨k, hk, rfl⟩
    · simp only [F_X11_end, g6, o6, S_cellOut tt hy, g5, o2, S_hMO ho hx, if_true, Option.bind_some, bd2_s]
    · simp only [F_X11_end, g6, o6, S_cellAt tt hk, g5, o2, S_hMO ho hx, if_true, Option.bind_some, bd2_s]
  rcases ix3 y (show bZ β < 2 ^ 31 by omega) with hy | ⟨k, hk, rfl⟩
  · exact xStep.rd (r := -1000000) h (by simp only [F_X11_end, g6, o6, S_cellOut tt hy, g5, o2, S_hMI ho t6 hj, lgc, show ¬ (1 : Int32) = 0 by decide, if_false, if_true, Option.bind_some, bd2_s]) (by simp only [F_X12_end, qo, S_mMI q hj, S_mRowOut q hy, show ¬ (1 : Int32) = 0 by decide, if_false, if_true, Option.bind_some, bd2_s])
  have h0 := cv_0 (hc k hk) (hpe k hk) (fun z => z.1)
  by_cases he : bex β k
  · obtain ⟨G, q1, q2⟩ := S_ofMember (N := N) (by omega) ho t12 (nI j)
    obtain ⟨e, gg, hgg⟩ := ho.gn
    have hx : RXo stf K b m c tc tk cb n nk ncb ad β δ (xup H (b + 44) (aI 60 G)) := ho.gc hgg
    obtain ⟨f0, f1, f2, f3, f4, f5, f6, f7, f8, f9, f10, f11, f12, f13, f14⟩ := hx.g
    obtain ⟨p10, p2, p6, p4, p5, p3, p9⟩ := hx.o
    obtain ⟨l0, l1, l2, l3, l4⟩ := hx.l
    obtain ⟨-, -, -, ⟨gl, gl1, gl2⟩⟩ := hx.2.2.2.2.2.2.1
    have hsum := S_gsum (N := N) (by omega) hx hm.2.1 (xup_at _) q2 (hc k hk) he
    have C1 : F_X11_end N (some b) (nI j) (nI k) H = some (lB (dL δ) j + esum β (dL δ) (nI j) k, xup H (b + 44) (aI 60 G)) := by
      simp only [F_X11_end, g6, o6, S_cellAt tt hk, g5, o2, S_hMI ho t6 hj, lgc, h0, he, not_true, show ¬ (1 : Int32) = 0 by decide, if_false, g11, g7, o3, q1, f7, l4, S_at gl1 (by decide : 6 < 2 ^ 31), gat_nI (show j < 2 ^ 31 by omega), show j < 6 by omega, if_true, gl2 j (by omega), f11, p3, hsum, Option.bind_some, bd2_s]
    have hsc : sc (SX b tk cb) H (xup H (b + 44) (aI 60 G)) := sc.upI (by unfold SX; omega) hgg
    generalize xup H (b + 44) (aI 60 G) = H1 at C1 hsc
    have hm1 : CM K m v β δ H1 := ⟨hm.1.x ho.1 hsc, hm.2⟩
    have q1 := hm1.mq
    refine ⟨_, H1, H1, β, δ, C1, ?_, h.scr ho hsc hm1.1.1.1 hm1.1 (mS.rf hm1.1.1.1)⟩
    simp only [F_X12_end, q1.ob, S_mMI q1 hj, S_mRowIn q1 hk, bI_t he, show ¬ (1 : Int32) = 0 by decide, if_false, S_mEnd (N := N) (by omega) hm1 hj hk he, Option.bind_some, bd2_s]
  · exact xStep.rd (r := -1000000) h (by simp only [F_X11_end, g6, o6, S_cellAt tt hk, g5, o2, S_hMI ho t6 hj, lgc, h0, he, not_false_iff, show ¬ (1 : Int32) = 0 by decide, if_false, if_true, Option.bind_some, bd2_s]) (by simp only [F_X12_end, qo, S_mMI q hj, S_mRowIn q hk, bI_f he, show ¬ (1 : Int32) = 0 by decide, if_false, if_true, Option.bind_some, bd2_s])
theorem i32_cmp {c x y : Int32} {K : Nat} (hK : K ≤ 1000) (hc : -(9999 * (K : Int)) ≤ c.toInt ∧ c.toInt ≤ 9999 * (K : Int)) (hx : -24000 ≤ x.toInt ∧ x.toInt ≤ 24000) (hy : -24000 ≤ y.toInt ∧ y.toInt ≤ 24000) : (c + x < c + y ↔ x < y) := by
  rw [Int32.lt_iff_toInt_lt, Int32.lt_iff_toInt_lt, i32_add (a := 9999000) (c := 24000) (by omega) (by omega) (by omega), i32_add (a := 9999000) (c := 24000) (by omega) (by omega) (by omega)]
  omega
theorem T_may (hN : 59049 < N) (hK : K ≤ 1000) (h : Rel stf K b m β δ H) (x y : Int32) : xStep stf K b m (F_X11_may N (some b) x y) (F_X12_may N (some m) x y) H := by
  obtain ⟨⟨⟨c, tc, tk, cb, n, nk, ncb, ad, ho⟩, -⟩, v, hm⟩ := id h
  obtain ⟨g0, g1, g2, g3, g4, g5, g6, g7, g8, g9, g10, g11, g12, g13, g14⟩ := ho.g
  obtain ⟨o10, o2, o6, o4, o5, o3, o9⟩ := ho.o
  obtain ⟨k0, k1, k2, k4, k6, k7, k12⟩ := ho.k
  have q := hm.mq
  have qo := q.ob
  have qz := q.z
  obtain ⟨v0, v1, v2, v3, v46, t5, t6, t12⟩ := q.ac
  have hpe := hm.2.1.2.2.2.1
  rcases ix3 x (show bM β < 2 ^ 31 by omega) with hx | ⟨j, hj, rfl⟩
  · exact xStep.rd (r := -1000000) h (by simp only [F_X11_may, g5, o2, S_hMO ho hx, if_true, Option.bind_some, bd2_s]) (by simp only [F_X12_may, qo, S_mMO q hx, if_true, Option.bind_some, bd2_s])
  have y1 : y ≤ 1 ↔ ¬ (1 : Int32) < y := by rw [Int32.not_lt]
  by_cases hy : ¬ y < 0 ∧ ¬ 1 < y
  · obtain ⟨G, q1, q2⟩ := S_ofMember (N := N) (by omega) ho t12 (nI j)
    obtain ⟨e, gg, hgg⟩ := ho.gn
    have hx : RXo stf K b m c tc tk cb n nk ncb ad β δ (xup H (b + 44) (aI 60 G)) := ho.gc hgg
    have hat : (xup H (b + 44) (aI 60 G)).1 (b + 44) = some (aI 60 G) := xup_at _
    have hsc : sc (SX b tk cb) H (xup H (b + 44) (aI 60 G)) := sc.upI (by unfold SX; omega) hgg
    generalize hL : lft β (dL δ) = lf
    generalize hE : esum β (dL δ) (nI j) = f
    have hfb : ∀ k, -24000 ≤ (f k).toInt ∧ (f k).toInt ≤ 24000 := fun k => by rw [← hE]; exact esum_b hm.2.1 _ _ _
    obtain ⟨lo, hlo⟩ := fo_some (P := lf) (f := f) (lt := fun a c => a < c) (bZ β) (by rw [← hL]; exact hm.lf)
    obtain ⟨hi, hhi⟩ := fo_some (P := lf) (f := f) (lt := fun a c => c < a) (bZ β) (by rw [← hL]; exact hm.lf)
    have C1 : F_X11_may N (some b) (nI j) y H = some (lB (dL δ) j + (if y = 0 then lo else hi), xup H (b + 44) (aI 60 G)) := by
      simp only [F_X11_may, g5, o2, S_hMI ho t6 hj, show ¬ (1 : Int32) = 0 by decide, if_false, hy.1, y1, hy.2, not_false_iff, if_true, g11, g7, o3, q1, Option.bind_some, bd2_s]
      generalize hH1 : xup H (b + 44) (aI 60 G) = H1 at hx hat
      obtain ⟨f0, f1, f2, f3, f4, f5, f6, f7, f8, f9, f10, f11, f12, f13, f14⟩ := hx.g
      obtain ⟨p10, p2, p6, p4, p5, p3, p9⟩ := hx.o
      obtain ⟨l0, l1, l2, l3, l4⟩ := hx.l
      obtain ⟨-, -, -, ⟨gl, gl1, gl2⟩⟩ := hx.2.2.2.2.2.2.1
      obtain ⟨cl, cert, tt, hc, hcs, hcs2, u0, u1, u2, u3, u4⟩ := hx.t
      rw [hL] at hc
      have hl : ∀ i, i < bZ β → lf i → bex β i := fun i hi q => hpe i hi (by rw [← hL] at q; exact q.1)
      have key := upto (s := bZ β) (P := fun n i => ∀ a1 a2 a3 : Int32, ((a3 = 1 ∧ fo lf f (fun a c => a < c) i = none) ∨ (a3 = 0 ∧ fo lf f (fun a c => a < c) i = some a1 ∧ fo lf f (fun a c => c < a) i = some a2)) → F_X11_may_L50 N (F_X11_may_J140 N) n (some b) (nI j) y a1 a2 a3 (nI i) H1 = some (lB (dL δ) j + (if y = 0 then lo else hi), H1)) (fun n a1 a2 a3 ha => by
        have ha' : a1 = lo ∧ a2 = hi := by
          rcases ha with ⟨-, ha⟩ | ⟨-, ha, hb⟩
          · rw [hlo] at ha; cases ha
          · rw [hlo] at ha; rw [hhi] at hb
            exact ⟨(Option.some.inj ha).symm, (Option.some.inj hb).symm⟩
        simp only [F_X11_may_L50, F_X11_may_J50, F_X11_may_J140, F_X11_may_J161, f6, u1, Option.bind_some, bd2_s, nI_le (Nat.le_refl _) (show bZ β < 2 ^ 31 by omega), if_true, f7, l4, S_at gl1 (by decide : 6 < 2 ^ 31), gat_nI (show j < 2 ^ 31 by omega), show j < 6 by omega, gl2 j (by omega), ha'.1, ha'.2]
        by_cases h0 : y = 0
        · rw [if_pos h0, if_pos h0]
        · rw [if_neg h0, if_neg h0]) (fun n i hi ih a1 a2 a3 ha => by
        simp only [F_X11_may_L50, F_X11_may_J50, F_X11_may_J134, F_X11_may_J129, F_X11_may_J111, f6, u1, p6, Option.bind_some, bd2_s, nI_ge hi (show bZ β < 2 ^ 31 by omega), if_false, S_cellAt tt hi, lgc, nI_1]
        by_cases hli : lf i
        · have hs := S_gsum (N := N) (by omega) hx hm.2.1 hat q2 (hc i hi) (hl i hi hli)
          rw [hE] at hs
          simp only [cvl1 (hc i hi) hli, if_false, f11, p3, hs, Option.bind_some, bd2_s]
          rcases ha with ⟨h3, ha⟩ | ⟨h3, ha, hb⟩
          · rw [h3, if_neg (by decide), if_neg (by decide)]
            exact ih _ _ _ (Or.inr ⟨rfl, fo_n hli ha, fo_n hli (fo_none _ ha)⟩)
          · rw [h3, if_pos rfl, if_pos rfl]
            refine ih _ _ _ (Or.inr ⟨rfl, ?_, ?_⟩)
            · show _ = some (if f i < a1 then f i else a1)
              by_cases z : f i < a1
              · rw [if_pos z]; exact fo_st hli ha z
              · rw [if_neg z]; exact fo_sf hli ha z
            · show _ = some (if a2 < f i then f i else a2)
              by_cases z : a2 < f i
              · rw [if_pos z]; exact fo_st hli hb z
              · rw [if_neg z]; exact fo_sf hli hb z
        · simp only [cvl0 (hc i hi) hli, if_true]
          exact ih _ _ _ (by rw [fo_f hli, fo_f hli]; exact ha)) N 0 (Nat.zero_le _) (by omega) 0 0 1 (Or.inl ⟨rfl, rfl⟩)
      exact key
    generalize xup H (b + 44) (aI 60 G) = H1 at C1 hsc
    have hm1 : CM K m v β δ H1 := ⟨hm.1.x ho.1 hsc, hm.2⟩
    have q1 := hm1.mq
    refine ⟨_, H1, H1, β, δ, C1, ?_, h.scr ho hsc hm1.1.1.1 hm1.1 (mS.rf hm1.1.1.1)⟩
    have hlB := hm.2.2.1.2.2 j (by omega)
    have M1 : ∀ (lt : Int32 → Int32 → Prop) (r : Int32), fo lf f lt (bZ β) = some r → (∀ a c, -24000 ≤ a.toInt ∧ a.toInt ≤ 24000 → -24000 ≤ c.toInt ∧ c.toInt ≤ 24000 → (lt (lB (dL δ) j + a) (lB (dL δ) j + c) ↔ lt a c)) → (∀ a c : Int32, lt a c ↔ if y = 0 then ¬ c ≤ a else ¬ a ≤ c) → F_X12_may_L29 N N (some m) (nI j) y 0 0 0 H1 = some (lB (dL δ) j + r, H1) := by
      intro lt r hr hlt hy0
      have hfo := fo_map (P := lf) (f := f) (lt := lt) (c := lB (dL δ) j) hfb hlt
      have hr2 : fo lf (fun k => lB (dL δ) j + f k) lt (bZ β) = some (lB (dL δ) j + r) := by rw [hfo, hr]; rfl
      have key := upto (s := bZ β) (P := fun n i => ∀ a3 a4 : Int32, ((a3 = 0 ∧ fo lf (fun k => lB (dL δ) j + f k) lt i = none) ∨ (a3 = 1 ∧ fo lf (fun k => lB (dL δ) j + f k) lt i = some a4)) → F_X12_may_L29 N n (some m) (nI j) y a3 a4 (nI i) H1 = some (lB (dL δ) j + r, H1)) (fun n a3 a4 ha => by
        have ha' : a4 = lB (dL δ) j + r := by
          rcases ha with ⟨-, ha⟩ | ⟨-, ha⟩
          · rw [hr2] at ha; cases ha
          · rw [hr2] at ha; exact (Option.some.inj ha).symm
        simp only [F_X12_may_L29, F_X12_may_J29, q1.rows, Option.bind_some, bd2_s, nI_le (Nat.le_refl _) (show bZ β < 2 ^ 31 by omega), if_true, ha']) (fun n i hi ih a3 a4 ha => by
        simp only [F_X12_may_L29, F_X12_may_J29, F_X12_may_J90, F_X12_may_J88, F_X12_may_J84, q1.rows, q1.ob, Option.bind_some, bd2_s, nI_ge hi (show bZ β < 2 ^ 31 by omega), if_false, q1.lf (by omega : 5 < N) hi, nI_1]
        by_cases hli : lf i
        · have hli' : lft β (dL δ) i := by rw [hL]; exact hli
          have he := hpe i hi hli'.1
          simp only [bI_t hli', show ¬ (1 : Int32) = 0 by decide, if_false, S_mEnd (N := N) (by omega) hm1 hj hi he, hE, Option.bind_some, bd2_s]
          rcases ha with ⟨h3, ha⟩ | ⟨h3, ha⟩
          · rw [h3, if_pos rfl]
            exact ih _ _ (Or.inr ⟨rfl, fo_n hli ha⟩)
          · rw [h3, if_neg (by decide)]
            have hc := hy0 (lB (dL δ) j + f i) a4
            by_cases h0 : y = 0
            · rw [if_pos h0] at hc ⊢
              by_cases z : a4 ≤ lB (dL δ) j + f i
              · rw [if_pos z]
                exact ih _ _ (Or.inr ⟨rfl, fo_sf (f := fun k => lB (dL δ) j + f k) hli ha (fun w => hc.mp w z)⟩)
              · rw [if_neg z]
                exact ih _ _ (Or.inr ⟨rfl, fo_st (f := fun k => lB (dL δ) j + f k) hli ha (hc.mpr z)⟩)
            · rw [if_neg h0] at hc ⊢
              by_cases z : lB (dL δ) j + f i ≤ a4
              · rw [if_pos z]
                exact ih _ _ (Or.inr ⟨rfl, fo_sf (f := fun k => lB (dL δ) j + f k) hli ha (fun w => hc.mp w z)⟩)
              · rw [if_neg z]
                exact ih _ _ (Or.inr ⟨rfl, fo_st (f := fun k => lB (dL δ) j + f k) hli ha (hc.mpr z)⟩)
        · have hli' : ¬ lft β (dL δ) i := by rw [hL]; exact hli
          simp only [bI_f hli', if_true]
          exact ih _ _ (by rw [fo_f hli]; exact ha)) N 0 (Nat.zero_le _) (by omega) 0 0 (Or.inl ⟨rfl, rfl⟩)
      exact key
    simp only [F_X12_may, q1.ob, S_mMI q1 hj, S_in, bI_t hy, show ¬ (1 : Int32) = 0 by decide, if_false, Option.bind_some, bd2_s]
    by_cases h0 : y = 0
    · rw [if_pos h0]
      exact M1 _ lo hlo (fun a c ha hc => i32_cmp hK hlB ha hc) (fun a c => by rw [if_pos h0, Int32.not_le])
    · rw [if_neg h0]
      exact M1 _ hi hhi (fun a c ha hc => i32_cmp hK hlB hc ha) (fun a c => by rw [if_neg h0, Int32.not_le])
  · refine xStep.rd (r := -1000000) h ?_ ?_
    · simp only [F_X11_may, g5, o2, S_hMI ho t6 hj, show ¬ (1 : Int32) = 0 by decide, if_false, y1, Option.bind_some, bd2_s]
      by_cases y0 : y < 0
      · rw [if_pos y0]
      · rw [if_neg y0, if_neg (fun z => hy ⟨y0, z⟩)]
    · simp only [F_X12_may, qo, S_mMI q hj, S_in, bI_f hy, show ¬ (1 : Int32) = 0 by decide, if_true, if_false, Option.bind_some, bd2_s]
end Has
