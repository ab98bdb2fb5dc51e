/-! PURE: STEPS worth, holds. -/
noncomputable def wsd (P : Nat → Prop) (W : Nat → Int64) : Nat → Int64
  | 0 => 0
  | i + 1 => @ite _ (P i) (Classical.propDecidable _) (wsd P W i + W i) (wsd P W i)
noncomputable def wsu (P : Nat → Prop) (W : Nat → Int64) (f : Nat → Int32) : Nat → Int64
  | 0 => 0
  | i + 1 => @ite _ (P i) (Classical.propDecidable _) (wsu P W f i + W i * (f i).toInt64) (wsu P W f i)
theorem wsd_t {P : Nat → Prop} {W : Nat → Int64} {i : Nat} (h : P i) : wsd P W (i + 1) = wsd P W i + W i := by conv => lhs; unfold wsd; rw [if_pos h]
theorem wsd_f {P : Nat → Prop} {W : Nat → Int64} {i : Nat} (h : ¬ P i) : wsd P W (i + 1) = wsd P W i := by conv => lhs; unfold wsd; rw [if_neg h]
theorem wsu_t {P : Nat → Prop} {W : Nat → Int64} {f : Nat → Int32} {i : Nat} (h : P i) : wsu P W f (i + 1) = wsu P W f i + W i * (f i).toInt64 := by conv => lhs; unfold wsu; rw [if_pos h]
theorem wsu_f {P : Nat → Prop} {W : Nat → Int64} {f : Nat → Int32} {i : Nat} (h : ¬ P i) : wsu P W f (i + 1) = wsu P W f i := by conv => lhs; unfold wsu; rw [if_neg h]
theorem wsu_congr {P : Nat → Prop} {W : Nat → Int64} {f g : Nat → Int32} : ∀ n, (∀ k, k < n → P k → f k = g k) → wsu P W f n = wsu P W g n := by
  intro n
  induction n with
  | zero => intro _; rfl
  | succ n ih =>
    intro h
    by_cases q : P n
    · rw [wsu_t q, wsu_t q, ih (fun k hk => h k (by omega)), h n (by omega) q]
    · rw [wsu_f q, wsu_f q, ih (fun k hk => h k (by omega))]
theorem i64_bm {x : Int} (h : -9000000000000000000 ≤ x) (h2 : x ≤ 9000000000000000000) : x.bmod (2 ^ 64) = x := by
  apply Int.bmod_eq_of_le <;> omega
/-- what the sums come to -/
theorem ws_b {P : Nat → Prop} {Wn : Nat → Nat} {f : Nat → Int32} {B : Nat} (hf : ∀ k, -24000 ≤ (f k).toInt ∧ (f k).toInt ≤ 24000) (hB : B ≤ 10000000000) : ∀ n, tot Wn n ≤ B → ∃ D : Nat, D ≤ tot Wn n ∧ wsd P (fun k => lN (Wn k)) n = lN D ∧ -(24000 * (tot Wn n : Int)) ≤ (wsu P (fun k => lN (Wn k)) f n).toInt ∧ (wsu P (fun k => lN (Wn k)) f n).toInt ≤ 24000 * (tot Wn n : Int) := by
  intro n
  induction n with
  | zero => intro _; exact ⟨0, Nat.le_refl _, rfl, (by decide : -(24000 * ((0 : Nat) : Int)) ≤ (0 : Int64).toInt), (by decide : (0 : Int64).toInt ≤ 24000 * ((0 : Nat) : Int))⟩
  | succ n ih =>
    intro hn
    simp only [tot] at hn ⊢
    obtain ⟨D, d1, d2, d3, d4⟩ := ih (by omega)
    have hw : (lN (Wn n)).toInt = (Wn n : Int) := pk_lT (by omega)
    have hfn := hf n
    by_cases q : P n
    · rw [wsd_t q, wsu_t q, d2, lN_add]
      have e1 : (lN (Wn n) * (f n).toInt64).toInt = (Wn n : Int) * (f n).toInt := by
        rw [Int64.toInt_mul, hw, Int32.toInt_toInt64]
        have l1 : (Wn n : Int) * (f n).toInt ≤ (Wn n : Int) * 24000 := Int.mul_le_mul_of_nonneg_left hfn.2 (by omega)
        have l2 : (Wn n : Int) * (-24000) ≤ (Wn n : Int) * (f n).toInt := Int.mul_le_mul_of_nonneg_left hfn.1 (by omega)
        exact i64_bm (by omega) (by omega)
      have l1 : (Wn n : Int) * (f n).toInt ≤ (Wn n : Int) * 24000 := Int.mul_le_mul_of_nonneg_left hfn.2 (by omega)
      have l2 : (Wn n : Int) * (-24000) ≤ (Wn n : Int) * (f n).toInt := Int.mul_le_mul_of_nonneg_left hfn.1 (by omega)
      have e2 : (wsu P (fun k => lN (Wn k)) f n + lN (Wn n) * (f n).toInt64).toInt = (wsu P (fun k => lN (Wn k)) f n).toInt + (Wn n : Int) * (f n).toInt := by
        rw [Int64.toInt_add, e1]
        exact i64_bm (by omega) (by omega)
      refine ⟨D + Wn n, by omega, rfl, ?_, ?_⟩
      · rw [e2]; omega
      · rw [e2]; omega
    · rw [wsd_f q, wsu_f q]
      exact ⟨D, by omega, d2, by omega, by omega⟩
theorem abs_nat {x : Int64} {M : Nat} (hM : M < 2 ^ 62) (h1 : -(M : Int) ≤ x.toInt) (h2 : x.toInt ≤ M) : ∃ a, a ≤ M ∧ xabs x = lN a := by
  show ∃ a, a ≤ M ∧ (if 0 < x then x else -x) = lN a
  by_cases h : 0 < x
  · rw [if_pos h]
    have hx : 0 < x.toInt := by
      have := Int64.lt_iff_toInt_lt.mp h
      rwa [show (0 : Int64).toInt = 0 by decide] at this
    refine ⟨x.toInt.toNat, by omega, Int64.toInt_inj.mp ?_⟩
    rw [pk_lT (by omega)]; omega
  · rw [if_neg h]
    have hx : x.toInt ≤ 0 := by
      rcases Int.lt_or_le 0 x.toInt with q | q
      · exact absurd (Int64.lt_iff_toInt_lt.mpr (by rw [show (0 : Int64).toInt = 0 by decide]; exact q)) h
      · exact q
    have e : (-x).toInt = -x.toInt := by
      rw [Int64.toInt_neg]; exact i64_bm (by omega) (by omega)
    refine ⟨(-x.toInt).toNat, by omega, Int64.toInt_inj.mp ?_⟩
    rw [e, pk_lT (by omega)]; omega
/-- WORTH -/
noncomputable def wow (β : sB) (δ : sD) (f : Nat → Int32) (y : Int32) : Int64 :=
  if wsd (lft β (dL δ)) (fun k => wg (dC δ) k (bT β)) (bZ β) = 0 then -1000000000000000 else (if y = 0 then wsu (lft β (dL δ)) (fun k => wg (dC δ) k (bT β)) f (bZ β) else wsd (lft β (dL δ)) (fun k => wg (dC δ) k (bT β)) (bZ β)) / lN (Nat.gcd (Int64.toInt (xabs (wsu (lft β (dL δ)) (fun k => wg (dC δ) k (bT β)) f (bZ β)))).toNat (Int64.toInt (xabs (wsd (lft β (dL δ)) (fun k => wg (dC δ) k (bT β)) (bZ β)))).toNat)
section Worth
variable {stf : Nat → Nat} {N K b m : Nat} {β : sB} {δ : sD} {H : xH}
variable {c tc tk cb n nk ncb : Nat} {ad : Nat → Nat}
/-- what is so of the sums, where CHANCES are WHOLE -/
theorem ws_all {v : Nat → Int32} (h : CM K m v β δ H) (hw : whl β (dC δ)) {f : Nat → Int32} (hf : ∀ k, -24000 ≤ (f k).toInt ∧ (f k).toInt ≤ 24000) : ∃ D A : Nat, D ≤ 10000000000 ∧ A ≤ 240000000000000 ∧ wsd (lft β (dL δ)) (fun k => wg (dC δ) k (bT β)) (bZ β) = lN D ∧ xabs (wsu (lft β (dL δ)) (fun k => wg (dC δ) k (bT β)) f (bZ β)) = lN A ∧ xabs (wsd (lft β (dL δ)) (fun k => wg (dC δ) k (bT β)) (bZ β)) = lN D := by
  have t5 := h.2.1.1
  have hC : ∀ j, ∃ cj, j < 45 → cj ≤ 100 ∧ dC δ j = nI cj := fun j => by
    by_cases hj : j < 45
    · obtain ⟨cj, c1, c2⟩ := h.2.2.2.2 j hj
      exact ⟨cj, fun _ => ⟨c1, c2⟩⟩
    · exact ⟨0, fun z => absurd z hj⟩
  obtain ⟨cn, hcn⟩ := Classical.axiomOfChoice hC
  have hW : ∀ k, wg (dC δ) k (bT β) = lN (wn cn k (bT β)) := fun k => wg_wn hcn (bT β) t5
  have hall : tot (fun k => wn cn k (bT β)) (9 ^ bT β) = 100 ^ bT β := wn_all (bT β) (fun t ht => by
    obtain ⟨a1, a2⟩ := csm_tot hcn (show t < 5 by omega) 9 (Nat.le_refl _)
    have := hw t ht
    rw [a1, show (100 : Int32) = nI 100 from rfl, nI_eq (by omega) (by decide)] at this
    exact this)
  have h100 : 100 ^ bT β ≤ 10000000000 := Nat.le_trans (Nat.pow_le_pow_right (by decide) t5) (by decide)
  have hfun : (fun k => wg (dC δ) k (bT β)) = fun k => lN (wn cn k (bT β)) := funext hW
  rw [hfun]
  obtain ⟨D, d1, d2, d3, d4⟩ := ws_b (P := lft β (dL δ)) (f := f) (B := 10000000000) hf (Nat.le_refl _) (9 ^ bT β) (by rw [hall]; exact h100)
  rw [hall] at d1 d3 d4
  obtain ⟨A, a1, a2⟩ := abs_nat (M := 240000000000000) (x := wsu (lft β (dL δ)) (fun k => lN (wn cn k (bT β))) f (9 ^ bT β)) (by decide) (by omega) (by omega)
  have eD : (lN D).toInt = D := pk_lT (by omega)
  have hDD : xabs (lN D) = lN D := by
    show (if 0 < lN D then lN D else -lN D) = lN D
    by_cases q : 0 < lN D
    · rw [if_pos q]
    · have : D = 0 := by
        rcases Nat.eq_zero_or_pos D with z | z
        · exact z
        · exact absurd ((pk_lLT (a := 0) (by decide) (show D < 2 ^ 63 by omega)).mpr z) q
      rw [if_neg q, this]; decide
  refine ⟨D, A, by omega, a1, d2, a2, ?_⟩
  show xabs (wsd (lft β (dL δ)) (fun k => lN (wn cn k (bT β))) (9 ^ bT β)) = lN D
  rw [d2]; exact hDD
theorem gcd_pos' {A D : Nat} (h : D ≠ 0) : 0 < Nat.gcd A D := Nat.gcd_pos_of_pos_right A (Nat.pos_of_ne_zero h)
theorem S_worthOf (hN : 59049 < N) (ho : RXo stf K b m c tc tk cb n nk ncb ad β δ H) {v : Nat → Int32} (h : CM K m v β δ H) {f : Nat → Int32} (hf : ∀ k, -24000 ≤ (f k).toInt ∧ (f k).toInt ≤ 24000) (hss : ∀ (cl : Nat → Int64), (∀ k, k < bZ β → cv (bW β) (bex β k) (bps β k) (lft β (dL δ) k) (fun w => boc β w k) (cl k)) → ∀ k, k < bZ β → lft β (dL δ) k → F_X3_sum N (some (b + 43)) (cl k) H = some (f k, H)) (y : Int32) : F_X5_worthOf N (some (b + 41)) (some (b + 15)) (some (b + 43)) y H = some (@ite _ (¬ y < 0 ∧ ¬ 1 < y ∧ whl β (dC δ)) (Classical.propDecidable _) (wow β δ f y) (-1000000000000000), H) := by
  obtain ⟨cl, cert, tt, hc, hs, hs2, u0, u1, u2, u3, u4⟩ := ho.t
  obtain ⟨o10, o2, o6, o4, o5, o3, o9⟩ := ho.o
  have t5 := h.2.1.1
  have qz := bZ_le t5
  unfold F_X5_worthOf
  by_cases y0 : y < 0
  · rw [if_pos y0, if_neg (fun z => z.1 y0)]
  rw [if_neg y0]
  by_cases y1 : 1 < y
  · rw [if_pos y1, if_neg (fun z => z.2.1 y1)]
  rw [if_neg y1]
  simp only [u0, o5, S_xWhole (N := N) (by omega) ho t5, Option.bind_some, bd2_s]
  by_cases hw : whl β (dC δ)
  · rw [bI_t hw, if_neg (by decide), if_pos ⟨y0, y1, hw⟩]
    obtain ⟨D, A, hD, hA, e1, e2, e3⟩ := ws_all h hw hf
    have fin : F_X5_worthOf_J112 N y (wsu (lft β (dL δ)) (fun k => wg (dC δ) k (bT β)) f (bZ β)) (wsd (lft β (dL δ)) (fun k => wg (dC δ) k (bT β)) (bZ β)) H = some (wow β δ f y, H) := by
      have hg := S_xGcd (N := N) (H := H) 34 A D 0 N (by omega) (by omega) (by decide) (by decide) (by omega)
      have eA : (lN A).toInt.toNat = A := by rw [pk_lT (by omega)]; omega
      have eD : (lN D).toInt.toNat = D := by rw [pk_lT (by omega)]; omega
      unfold F_X5_worthOf_J112 F_X5_worthOf_J150 F_X5_commonDivisor wow
      rw [show nI 0 = (0 : Int32) from rfl] at hg
      rw [e2, e3, hg]
      simp only [bd2_s, lgc, eA, eD]
      by_cases hd : D = 0
      · have hd0 : wsd (lft β (dL δ)) (fun k => wg (dC δ) k (bT β)) (bZ β) = 0 := by rw [e1, hd]; rfl
        rw [if_pos hd0, if_pos hd0]
      · have hd0 : ¬ wsd (lft β (dL δ)) (fun k => wg (dC δ) k (bT β)) (bZ β) = 0 := by rw [e1]; exact fun z => hd ((lN_0 (by omega)).mp z)
        have hg0 : ¬ lN (Nat.gcd A D) = 0 := fun z => by
          have := gcd_pos' (A := A) hd
          have h2 := Nat.gcd_le_right A (Nat.pos_of_ne_zero hd)
          have := (lN_0 (by omega)).mp z
          omega
        rw [if_neg hd0, if_neg hg0, if_neg hd0, if_neg hg0]
        by_cases hy : y = 0
        · rw [if_pos hy, if_pos hy]
        · rw [if_neg hy, if_neg hy, if_neg hg0]
    have key := upto (s := bZ β) (P := fun n i => F_X5_worthOf_L33 N (F_X5_worthOf_J112 N) n (some (b + 41)) (some (b + 15)) (some (b + 43)) y (wsu (lft β (dL δ)) (fun k => wg (dC δ) k (bT β)) f i) (wsd (lft β (dL δ)) (fun k => wg (dC δ) k (bT β)) i) (nI i) H = some (wow β δ f y, H)) (fun n => by
      rw [show F_X5_worthOf_L33 N (F_X5_worthOf_J112 N) (n + 1) = F_X5_worthOf_J33 N (F_X5_worthOf_L33 N (F_X5_worthOf_J112 N) n) (F_X5_worthOf_J112 N) from rfl]
      simp only [F_X5_worthOf_J33, u1, nI_le (Nat.le_refl _) (show bZ β < 2 ^ 31 by omega), if_true, Option.bind_some, bd2_s]
      exact fin) (fun n i hi ih => by
      rw [show F_X5_worthOf_L33 N (F_X5_worthOf_J112 N) (n + 1) = F_X5_worthOf_J33 N (F_X5_worthOf_L33 N (F_X5_worthOf_J112 N) n) (F_X5_worthOf_J112 N) from rfl]
      simp only [F_X5_worthOf_J33, F_X5_worthOf_J75, F_X5_worthOf_J106, u1, u0, o6, o5, o3, nI_ge hi (show bZ β < 2 ^ 31 by omega), if_false, S_cellAt tt hi, lgc, nI_1, Option.bind_some, bd2_s]
      by_cases hl : lft β (dL δ) i
      · simp only [cvl1 (hc i hi) hl, if_false, S_xWeight (N := N) (by omega) ho t5 hi, Option.bind_some, bd2_s]
        rw [wsu_t hl, wsd_t hl] at ih
        by_cases hw0 : wg (dC δ) i (bT β) = 0
        · rw [if_pos hw0]
          rw [hw0, Int64.zero_mul, Int64.add_zero, Int64.add_zero] at ih
          exact ih
        · rw [if_neg hw0, hss cl hc i hi hl]
          simp only [o3, Option.bind_some, bd2_s]
          exact ih
      · simp only [cvl0 (hc i hi) hl, if_true]
        rw [wsu_f hl, wsd_f hl] at ih
        exact ih) N 0 (Nat.zero_le _) (by omega)
    exact key
  · rw [bI_f hw, if_pos rfl, if_neg (fun z => hw z.2.2)]
theorem S_part (hN : 100 < N) {v : Nat → Int32} (h : CM K m v β δ H) (hw : whl β (dC δ)) {f : Nat → Int32} (hf : ∀ k, -24000 ≤ (f k).toInt ∧ (f k).toInt ≤ 24000) (y : Int32) : F_X12_part N (wsu (lft β (dL δ)) (fun k => wg (dC δ) k (bT β)) f (bZ β)) (wsd (lft β (dL δ)) (fun k => wg (dC δ) k (bT β)) (bZ β)) y H = some (wow β δ f y, H) := by
  obtain ⟨D, A, hD, hA, e1, e2, e3⟩ := ws_all h hw hf
  have hg := S_mGcd (N := N) (H := H) 34 A D N (by omega) (by omega) (by decide) (by omega)
  have eA : (lN A).toInt.toNat = A := by rw [pk_lT (by omega)]; omega
  have eD : (lN D).toInt.toNat = D := by rw [pk_lT (by omega)]; omega
  unfold F_X12_part F_X12_part_J22 F_X12_divisor wow
  rw [e2, e3, hg]
  simp only [bd2_s, lgc, eA, eD]
  by_cases hd : D = 0
  · have hd0 : wsd (lft β (dL δ)) (fun k => wg (dC δ) k (bT β)) (bZ β) = 0 := by rw [e1, hd]; rfl
    rw [if_pos hd0, if_pos hd0]
  · have hd0 : ¬ wsd (lft β (dL δ)) (fun k => wg (dC δ) k (bT β)) (bZ β) = 0 := by rw [e1]; exact fun z => hd ((lN_0 (by omega)).mp z)
    have hg0 : ¬ lN (Nat.gcd A D) = 0 := fun z => by
      have := gcd_pos' (A := A) hd
      have h2 := Nat.gcd_le_right A (Nat.pos_of_ne_zero hd)
      have := (lN_0 (by omega)).mp z
      omega
    rw [if_neg hd0, if_neg hd0]
    by_cases hy : y = 0
    · rw [if_pos hy, if_neg hg0, if_pos hy]
    · rw [if_neg hy, if_neg hg0, if_neg hy]
theorem y01 {y : Int32} : (¬ y < 0 ∧ ¬ 1 < y ∧ whl β (dC δ)) ↔ (¬ y < 0 ∧ ¬ 1 < y) ∧ whl β (dC δ) := ⟨fun h => ⟨⟨h.1, h.2.1⟩, h.2.2⟩, fun h => ⟨h.1.1, h.1.2, h.2⟩⟩
theorem T_worth (hN : 59049 < N) (h : Rel stf K b m β δ H) (x y : Int32) : xStep stf K b m (F_X11_worth N (some b) x y) (F_X12_worth N (some m) x y) H := by
  obtain ⟨⟨⟨c, tc, tk, cb, n, nk, ncb, ad, ho⟩, -⟩, v, hm⟩ := id h
  obtain ⟨g0, g1, g2, g3, g4, g5, g6, g7, g8, g9, g10, g11, g12, g13, g14⟩ := ho.g
  obtain ⟨o10, o2, o6, o4, o5, o3, o9⟩ := ho.o
  obtain ⟨k0, k1, k2, k4, k6, k7, k12⟩ := ho.k
  have q := hm.mq
  have qo := q.ob
  have qz := q.z
  obtain ⟨v0, v1, v2, v3, v46, t5, t6, t12⟩ := q.ac
  rcases ix3 x (show bW β < 2 ^ 31 by omega) with hx | ⟨w, hw, rfl⟩
  · exact xStep.rd (r := -1000000000000000) h (by simp only [F_X11_worth, g5, o2, S_btO ho hx, if_true, Option.bind_some, bd2_s]) (by simp only [F_X12_worth, qo, S_mWO q hx, if_true, Option.bind_some, bd2_s])
  have hcn := hm.2.1.2.2.2.2.2 w hw
  have hoc := hm.2.1.2.2.2.2.1
  have hpe := hm.2.1.2.2.2.1
  generalize hfd : (fun k => pay (boc β w k) (bc1 β w) (bc2 β w)) = f
  have hf : ∀ k, -24000 ≤ (f k).toInt ∧ (f k).toInt ≤ 24000 := fun k => by
    have := pay_b ⟨hcn.1, hcn.2.1⟩ ⟨hcn.2.2.1, hcn.2.2.2⟩ _ (hoc w k)
    rw [← hfd]; simp only; omega
  -- the class
  obtain ⟨G0, c1, c2⟩ := S_gclear (N := N) (by omega) ho
  obtain ⟨e, gg, hgg⟩ := ho.gn
  have hx0 : RXo stf K b m c tc tk cb n nk ncb ad β δ (xup H (b + 44) (aI 60 G0)) := ho.gc hgg
  obtain ⟨G, c3, c4⟩ := S_addSide (N := N) (s := 0) (by omega) hx0 hw t12 (by decide) (xup_at _)
  rw [xup_up] at c3
  have hx1 : RXo stf K b m c tc tk cb n nk ncb ad β δ (xup H (b + 44) (aI 60 G)) := ho.gc hgg
  have hG : ∀ v o, o < 5 → v < 12 → G (5 * v + o) = if v = w then pay o (bc1 β w) (bc2 β w) else 0 := fun v o h1 h2 => by
    rw [c4 v o h1 h2, c2 _ (show 5 * v + o < 60 by omega)]
    by_cases q : v = w
    · rw [if_pos q, if_pos q, show adS β w 0 o = pay o (bc1 β w) (bc2 β w) from rfl, Int32.zero_add]
    · rw [if_neg q, if_neg q]
  have hat : (xup H (b + 44) (aI 60 G)).1 (b + 44) = some (aI 60 G) := xup_at _
  have hsc : sc (SX b tk cb) H (xup H (b + 44) (aI 60 G)) := sc.upI (by unfold SX; omega) hgg
  obtain ⟨f0, f1, f2, f3, f4, f5, f6, f7, f8, f9, f10, f11, f12, f13, f14⟩ := hx0.g
  obtain ⟨p10, p2, p6, p4, p5, p3, p9⟩ := hx0.o
  have C1 : F_X11_worth N (some b) (nI w) y H = some (@ite _ (¬ y < 0 ∧ ¬ 1 < y ∧ whl β (dC δ)) (Classical.propDecidable _) (wow β δ f y) (-1000000000000000), xup H (b + 44) (aI 60 G)) := by
    simp only [F_X11_worth, g5, o2, S_btI ho t12 hw, reduceCtorEq, if_false, g11, o3, c1, f11, f5, p2, S_btI hx0 t12 hw, p3, Option.bind_some, bd2_s]
    rw [show F_X3_addSide N (some (b + 43)) (some (ad w)) (nI w) (0 : Int32) (xup H (b + 44) (aI 60 G0)) = _ from c3]
    generalize hH1 : xup H (b + 44) (aI 60 G) = H1 at hx1 hat hsc
    obtain ⟨f0, f1, f2, f3, f4, f5, f6, f7, f8, f9, f10, f11, f12, f13, f14⟩ := hx1.g
    obtain ⟨p10, p2, p6, p4, p5, p3, p9⟩ := hx1.o
    obtain ⟨e', -⟩ := hx1.gn
    have hm1 : CM K m v β δ H1 := ⟨hm.1.x ho.1 hsc, hm.2⟩
    have hs : ∀ (cl : Nat → Int64), (∀ k, k < bZ β → cv (bW β) (bex β k) (bps β k) (lft β (dL δ) k) (fun w => boc β w k) (cl k)) → ∀ k, k < bZ β → lft β (dL δ) k → F_X3_sum N (some (b + 43)) (cl k) H1 = some (f k, H1) := fun cl hc k hk hl => by
      have he := hpe k hk hl.1
      have hd : ∀ v, v < 12 → d5 (cl k) v = if v < bW β then 2 ^ boc β v k else 0 := fun v hv => by
        rw [(hc k hk).1 v hv, bN_t he]
        by_cases q : v < bW β
        · rw [if_pos q, if_pos q, Nat.one_mul]
        · rw [if_neg q, if_neg q]
      rw [S_sum (N := N) (by omega) e' rfl hat (fun v => hoc v k) (fun v hv => by
        rw [hd v hv]
        by_cases q : v < bW β
        · rw [if_pos q]; exact Or.inr rfl
        · rw [if_neg q]; exact Or.inl rfl)]
      congr 2
      have hp : ∀ o, ¬ 2 ^ o = 0 := fun o z => by have := Nat.pow_pos (n := o) (by decide : 0 < 2); omega
      have e1 : ∀ v, v < 12 → (@ite _ (d5 (cl k) v = 0) (Classical.propDecidable _) 0 (G (5 * v + boc β v k)) : Int32) = if v = w then f k else 0 := fun v hv => by
        by_cases q : v < bW β
        · rw [if_neg (by rw [hd v hv, if_pos q]; exact hp _), hG v _ (hoc v k) hv]
          by_cases q2 : v = w
          · rw [if_pos q2, if_pos q2, q2, ← hfd]
          · rw [if_neg q2, if_neg q2]
        · rw [if_pos (by rw [hd v hv, if_neg q]), if_neg (by omega)]
      rw [sm_congr 12 0 (g := fun v => if v = w then f k else 0) (fun v _ hv => e1 v (by omega))]
      have one : ∀ n u, (u ≤ w ∧ w < u + n → sm (fun v => if v = w then f k else 0) n u = f k) ∧ (¬ (u ≤ w ∧ w < u + n) → sm (fun v => if v = w then f k else 0) n u = 0) := by
        intro n
        induction n with
        | zero => intro u; exact ⟨fun z => by omega, fun _ => rfl⟩
        | succ n ih =>
          intro u
          simp only [sm]
          by_cases q : u = w
          · rw [if_pos q, (ih (u + 1)).2 (by omega), Int32.add_zero]
            exact ⟨fun _ => rfl, fun z => absurd ⟨by omega, by omega⟩ z⟩
          · rw [if_neg q, Int32.zero_add]
            exact ⟨fun z => (ih (u + 1)).1 (by omega), fun z => (ih (u + 1)).2 (by omega)⟩
      exact (one 12 0).1 (by omega)
    simp only [f10, f6, f11, p5, S_worthOf hN hx1 hm1 hf hs y, Option.bind_some, bd2_s]
  generalize xup H (b + 44) (aI 60 G) = H1 at C1 hsc
  have hm1 : CM K m v β δ H1 := ⟨hm.1.x ho.1 hsc, hm.2⟩
  have q1 := hm1.mq
  refine ⟨_, H1, H1, β, δ, C1, ?_, h.scr ho hsc hm1.1.1.1 hm1.1 (mS.rf hm1.1.1.1)⟩
  simp only [F_X12_worth, q1.ob, S_mWI q1 hw, S_in, show ¬ (1 : Int32) = 0 by decide, if_false, S_mWhole (N := N) (by omega) hm1, Option.bind_some, bd2_s]
  by_cases hy : ¬ y < 0 ∧ ¬ 1 < y
  · rw [bI_t hy, if_neg (by decide)]
    by_cases hwh : whl β (dC δ)
    · rw [bI_t hwh, if_neg (by decide), if_pos ⟨hy.1, hy.2, hwh⟩]
      have key := upto (s := bZ β) (P := fun n i => F_X12_worth_L36 N (F_X12_worth_J92 N) n (some m) (nI w) y (wsu (lft β (dL δ)) (fun k => wg (dC δ) k (bT β)) f i) (wsd (lft β (dL δ)) (fun k => wg (dC δ) k (bT β)) i) (nI i) H1 = some (wow β δ f y, H1)) (fun n => by
        rw [show F_X12_worth_L36 N (F_X12_worth_J92 N) (n + 1) = F_X12_worth_J36 N (F_X12_worth_L36 N (F_X12_worth_J92 N) n) (F_X12_worth_J92 N) from rfl]
        simp only [F_X12_worth_J36, F_X12_worth_J92, q1.rows, nI_le (Nat.le_refl _) (show bZ β < 2 ^ 31 by omega), if_true, S_part (N := N) (by omega) hm1 hwh hf, Option.bind_some, bd2_s]) (fun n i hi ih => by
        rw [show F_X12_worth_L36 N (F_X12_worth_J92 N) (n + 1) = F_X12_worth_J36 N (F_X12_worth_L36 N (F_X12_worth_J92 N) n) (F_X12_worth_J92 N) from rfl]
        simp only [F_X12_worth_J36, F_X12_worth_J86, q1.rows, q1.ob, nI_ge hi (show bZ β < 2 ^ 31 by omega), if_false, q1.lf (by omega : 5 < N) hi, nI_1, Option.bind_some, bd2_s]
        by_cases hl : lft β (dL δ) i
        · have he := hpe i hi hl.1
          simp only [bI_t hl, show ¬ (1 : Int32) = 0 by decide, if_false, q1.ob, S_mWeight (N := N) (by omega) hm1 hi, S_mPays q1 hw hi he, Option.bind_some, bd2_s]
          rw [wsu_t hl, wsd_t hl, show f i = pay (boc β w i) (bc1 β w) (bc2 β w) by rw [← hfd]] at ih
          exact ih
        · simp only [bI_f hl, if_true]
          rw [wsu_f hl, wsd_f hl] at ih
          exact ih) N 0 (Nat.zero_le _) (by omega)
      exact key
    · rw [bI_f hwh, if_pos rfl, if_neg (fun z => hwh z.2.2)]
  · rw [bI_f hy, if_pos rfl, if_neg (fun z => hy ⟨z.1, z.2.1⟩)]
theorem T_holds (hN : 59049 < N) (h : Rel stf K b m β δ H) (x y : Int32) : xStep stf K b m (F_X11_holds N (some b) x y) (F_X12_holds N (some m) x y) H := by
  obtain ⟨⟨⟨c, tc, tk, cb, n, nk, ncb, ad, ho⟩, -⟩, v, hm⟩ := id h
  obtain ⟨g0, g1, g2, g3, g4, g5, g6, g7, g8, g9, g10, g11, g12, g13, g14⟩ := ho.g
  obtain ⟨o10, o2, o6, o4, o5, o3, o9⟩ := ho.o
  obtain ⟨k0, k1, k2, k4, k6, k7, k12⟩ := ho.k
  have q := hm.mq
  have qo := q.ob
  have qz := q.z
  obtain ⟨v0, v1, v2, v3, v46, t5, t6, t12⟩ := q.ac
  rcases ix3 x (show bM β < 2 ^ 31 by omega) with hx | ⟨j, hj, rfl⟩
  · exact xStep.rd (r := -1000000000000000) h (by simp only [F_X11_holds, g5, o2, S_hMO ho hx, if_true, Option.bind_some, bd2_s]) (by simp only [F_X12_holds, qo, S_mMO q hx, if_true, Option.bind_some, bd2_s])
  have hpe := hm.2.1.2.2.2.1
  generalize hfd : esum β (dL δ) (nI j) = f
  have hf : ∀ k, -24000 ≤ (f k).toInt ∧ (f k).toInt ≤ 24000 := fun k => by rw [← hfd]; exact esum_b hm.2.1 _ _ _
  obtain ⟨G, c1, c2⟩ := S_ofMember (N := N) (by omega) ho t12 (nI j)
  obtain ⟨e, gg, hgg⟩ := ho.gn
  have hx1 : RXo stf K b m c tc tk cb n nk ncb ad β δ (xup H (b + 44) (aI 60 G)) := ho.gc hgg
  have hat : (xup H (b + 44) (aI 60 G)).1 (b + 44) = some (aI 60 G) := xup_at _
  have hsc : sc (SX b tk cb) H (xup H (b + 44) (aI 60 G)) := sc.upI (by unfold SX; omega) hgg
  have C1 : F_X11_holds N (some b) (nI j) y H = some (@ite _ (¬ y < 0 ∧ ¬ 1 < y ∧ whl β (dC δ)) (Classical.propDecidable _) (wow β δ f y) (-1000000000000000), xup H (b + 44) (aI 60 G)) := by
    simp only [F_X11_holds, g5, o2, S_hMI ho t6 hj, show ¬ (1 : Int32) = 0 by decide, if_false, g11, g7, o3, c1, Option.bind_some, bd2_s]
    generalize hH1 : xup H (b + 44) (aI 60 G) = H1 at hx1 hat hsc
    obtain ⟨f0, f1, f2, f3, f4, f5, f6, f7, f8, f9, f10, f11, f12, f13, f14⟩ := hx1.g
    obtain ⟨p10, p2, p6, p4, p5, p3, p9⟩ := hx1.o
    have hm1 : CM K m v β δ H1 := ⟨hm.1.x ho.1 hsc, hm.2⟩
    have hs : ∀ (cl : Nat → Int64), (∀ k, k < bZ β → cv (bW β) (bex β k) (bps β k) (lft β (dL δ) k) (fun w => boc β w k) (cl k)) → ∀ k, k < bZ β → lft β (dL δ) k → F_X3_sum N (some (b + 43)) (cl k) H1 = some (f k, H1) := fun cl hc k hk hl => by
      rw [S_gsum (N := N) (by omega) hx1 hm.2.1 hat c2 (hc k hk) (hpe k hk hl.1), hfd]
    simp only [f10, f6, f11, p5, S_worthOf hN hx1 hm1 hf hs y, Option.bind_some, bd2_s]
  generalize xup H (b + 44) (aI 60 G) = H1 at C1 hsc
  have hm1 : CM K m v β δ H1 := ⟨hm.1.x ho.1 hsc, hm.2⟩
  have q1 := hm1.mq
  refine ⟨_, H1, H1, β, δ, C1, ?_, h.scr ho hsc hm1.1.1.1 hm1.1 (mS.rf hm1.1.1.1)⟩
  obtain ⟨gl, gl1, gl2⟩ := hm1.1.2.2.2.2.2.2.2.1
  simp only [F_X12_holds, q1.ob, S_mMI q1 hj, S_in, show ¬ (1 : Int32) = 0 by decide, if_false, S_mWhole (N := N) (by omega) hm1, Option.bind_some, bd2_s]
  by_cases hy : ¬ y < 0 ∧ ¬ 1 < y
  · rw [bI_t hy, if_neg (by decide)]
    by_cases hwh : whl β (dC δ)
    · rw [bI_t hwh, if_neg (by decide), if_pos ⟨hy.1, hy.2, hwh⟩]
      have key := upto (s := bZ β) (P := fun n i => F_X12_holds_L36 N (F_X12_holds_J99 N) n (some m) (nI j) y (wsu (lft β (dL δ)) (fun k => wg (dC δ) k (bT β)) f i) (wsd (lft β (dL δ)) (fun k => wg (dC δ) k (bT β)) i) (nI i) H1 = some (wow β δ f y, H1)) (fun n => by
        rw [show F_X12_holds_L36 N (F_X12_holds_J99 N) (n + 1) = F_X12_holds_J36 N (F_X12_holds_L36 N (F_X12_holds_J99 N) n) (F_X12_holds_J99 N) from rfl]
        simp only [F_X12_holds_J36, F_X12_holds_J99, q1.rows, nI_le (Nat.le_refl _) (show bZ β < 2 ^ 31 by omega), if_true, S_part (N := N) (by omega) hm1 hwh hf, Option.bind_some, bd2_s]) (fun n i hi ih => by
        rw [show F_X12_holds_L36 N (F_X12_holds_J99 N) (n + 1) = F_X12_holds_J36 N (F_X12_holds_L36 N (F_X12_holds_J99 N) n) (F_X12_holds_J99 N) from rfl]
        simp only [F_X12_holds_J36, F_X12_holds_J93, q1.rows, q1.ob, nI_ge hi (show bZ β < 2 ^ 31 by omega), if_false, q1.lf (by omega : 5 < N) hi, nI_1, Option.bind_some, bd2_s]
        by_cases hl : lft β (dL δ) i
        · have he := hpe i hi hl.1
          have ee : lB (dL δ) j + f i - lB (dL δ) j = f i := by rw [Int32.add_comm, Int32.add_sub_cancel]
          simp only [bI_t hl, show ¬ (1 : Int32) = 0 by decide, if_false, q1.ob, S_mWeight (N := N) (by omega) hm1 hi, S_mEnd (N := N) (by omega) hm1 hj hi he, hfd, gA hm1.1.1.1 ma53, rdI gl1 (show j < 6 by omega) (by decide), gl2 j (show j < 6 by omega), ee, Option.bind_some, bd2_s]
          rw [wsu_t hl, wsd_t hl] at ih
          exact ih
        · simp only [bI_f hl, if_true]
          rw [wsu_f hl, wsd_f hl] at ih
          exact ih) N 0 (Nat.zero_le _) (by omega)
      exact key
    · rw [bI_f hwh, if_pos rfl, if_neg (fun z => hwh z.2.2)]
  · rw [bI_f hy, if_pos rfl, if_neg (fun z => hy ⟨z.1, z.2.1⟩)]
end Worth
