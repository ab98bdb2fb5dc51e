/-! PURE: STEP hang: the reference's side. -/
theorem bt1 : ∀ s, s < 32 → ∀ i, i < 5 → nI (pop s i) + (nI (s / 2 ^ i) &&& 1) = nI (pop s (i + 1)) ∧ nI (s / 2 ^ i) >>> ((1 : Int32) &&& 31) = nI (s / 2 ^ (i + 1)) := by decide +kernel
theorem bt2 : ∀ s, s < 32 → ∀ i, i < 6 → s / 2 ^ i = 0 → pop s i = pop s 5 := by decide +kernel
theorem bt3 : ∀ T, T < 6 → ∀ i, i < 32 → i < 2 ^ T → pop (2 ^ T - 1) 5 ≤ pop i 5 → i = 2 ^ T - 1 := by decide +kernel
/-- the digits of some things -/
def on (S T c : Nat) : Nat := nd (fun k => if S.testBit k = true then dig c k else 0) T
theorem on_lt (S T c : Nat) : on S T c < 9 ^ T := nd_lt (fun k => by
  show (if S.testBit k = true then dig c k else 0) < 9
  have := dig_lt c k
  split <;> omega) T
theorem on_eq {S T c c' : Nat} : on S T c = on S T c' ↔ ∀ j, j < T → S.testBit j = true → dig c j = dig c' j := by
  have hl : ∀ c k, (if S.testBit k = true then dig c k else 0) < 9 := fun c k => by
    have := dig_lt c k
    split <;> omega
  unfold on
  rw [nd_ext (hl c) (hl c')]
  constructor
  · intro h j hj hb
    have := h j hj
    rwa [if_pos hb, if_pos hb] at this
  · intro h k hk
    by_cases hb : S.testBit k = true
    · rw [if_pos hb, if_pos hb]; exact h k hk hb
    · rw [if_neg hb, if_neg hb]
section Hang3
variable {stf : Nat → Nat} {N K b m : Nat} {β : sB} {δ : sD} {H : xH}
variable {c tc tk cb n nk ncb : Nat} {ad : Nat → Nat}
theorem S_mBits (hN : 5 < N) {s : Nat} (hs : s < 32) : F_X12_bits N (nI s) H = some (nI (pop s 5), H) := by
  have key := upto (s := 5) (P := fun n i => F_X12_bits_L4 N n (nI (pop s i)) (nI (s / 2 ^ i)) H = some (nI (pop s 5), H)) (fun n => by
    rw [show F_X12_bits_L4 N (n + 1) = F_X12_bits_J4 N (F_X12_bits_L4 N n) from rfl]
    rw [show s / 2 ^ 5 = 0 from Nat.div_eq_of_lt hs]
    unfold F_X12_bits_J4
    rw [if_pos (by decide)]) (fun n i hi ih => by
    obtain ⟨e1, e2⟩ := bt1 s hs i hi
    have hd : s / 2 ^ i < 32 := Nat.lt_of_le_of_lt (Nat.div_le_self _ _) hs
    rw [show F_X12_bits_L4 N (n + 1) = F_X12_bits_J4 N (F_X12_bits_L4 N n) from rfl]
    unfold F_X12_bits_J4
    by_cases h0 : s / 2 ^ i = 0
    · rw [h0, if_pos (by decide), bt2 s hs i (by omega) h0]
    · rw [if_neg (nI_nle (Nat.pos_of_ne_zero h0) (by omega)), e1, e2]
      exact ih) N 0 (by omega) (by omega)
  rw [show s / 2 ^ 0 = s by simp] at key
  exact key
theorem S_only {v : Nat → Int32} {l : sL} (hN : 5 < N) (q : mQ m v β l H) {S k : Nat} (hS : S < 32) (hk : k < bZ β) : F_X12_only N (some m) (nI k) (nI S) H = some (nI (on S (bT β) k), H) := by
  obtain ⟨v0, v1, v2, v3, v46, t5, t6, t12⟩ := q.ac
  have qz := q.z
  have hk31 : k < 2 ^ 31 := by omega
  have key := upto (s := bT β) (P := fun n i => F_X12_only_L11 N n (some m) (nI S) (nI (k / 9 ^ i)) (nI (on S i k)) (nI (9 ^ i)) (nI i) H = some (nI (on S (bT β) k), H)) (fun n => by
    rw [show F_X12_only_L11 N (n + 1) = F_X12_only_J11 N (F_X12_only_L11 N n) from rfl]
    simp only [F_X12_only_J11, v0, nI_le (Nat.le_refl _) (show bT β < 2 ^ 31 by omega), if_true, Option.bind_some, bd2_s]) (fun n i hi ih => by
    have e3 : nI (9 ^ i) * (9 : Int32) = nI (9 ^ (i + 1)) := by rw [Nat.pow_succ]; exact pk_mul _ _
    rw [show F_X12_only_L11 N (n + 1) = F_X12_only_J11 N (F_X12_only_L11 N n) from rfl]
    simp only [F_X12_only_J11, F_X12_only_J42, v0, nI_ge hi (show bT β < 2 ^ 31 by omega), if_false, S_bit, div9 hk31, rem9 hk31, e3, nI_1, Option.bind_some, bd2_s]
    by_cases hb : S.testBit i = true
    · rw [bI_t ((bit_tb S hS i (by omega)).mpr hb), if_neg (by decide), pk_mul, nI_add]
      have g : on S (i + 1) k = on S i k + dig k i * 9 ^ i := by simp [on, nd, hb]
      rw [← g]; exact ih
    · rw [bI_f (fun z => hb ((bit_tb S hS i (by omega)).mp z)), if_pos rfl, Int32.add_zero]
      have g : on S (i + 1) k = on S i k := by simp [on, nd, hb]
      rw [← g]; exact ih) N 0 (Nat.zero_le _) (by omega)
  rw [show k / 9 ^ 0 = k by simp] at key
  exact key
/-- what hangsOn has made of a key -/
def hcd (β : sB) (l : sL) (w S i : Nat) (g : Nat → Int32) (key : Nat) : Prop :=
  ((∀ k, k < i → lft β l k → on S (bT β) k ≠ key) ∧ g key = -5000) ∨
  ∃ o, o < 5 ∧ (∀ k, k < i → lft β l k → on S (bT β) k = key → boc β w k = o) ∧ (∃ k, k < i ∧ lft β l k ∧ on S (bT β) k = key) ∧ g key = pay o (bc1 β w) (bc2 β w)
theorem hcd_st {l : sL} {w S i : Nat} {g : Nat → Int32} {key : Nat} (h : hcd β l w S i g key) (hi : ¬ (lft β l i ∧ on S (bT β) i = key)) : hcd β l w S (i + 1) g key := by
  have hk : ∀ k, k < i + 1 → lft β l k → on S (bT β) k = key → k < i := fun k h1 h2 h3 => by
    by_cases e : k = i
    · subst e; exact absurd ⟨h2, h3⟩ hi
    · omega
  rcases h with ⟨h1, h2⟩ | ⟨o, ho, h1, ⟨k, k1, k2, k3⟩, h3⟩
  · exact Or.inl ⟨fun k a1 a2 a3 => h1 k (hk k a1 a2 a3) a2 a3, h2⟩
  · exact Or.inr ⟨o, ho, fun k a1 a2 a3 => h1 k (hk k a1 a2 a3) a2 a3, ⟨k, by omega, k2, k3⟩, h3⟩
theorem S_hangsOn (hN : 59049 < N) {v : Nat → Int32} {l : sL} (q : mQ m v β l H) {w S : Nat} (hw : w < bW β) (hS : S < 32) {g0 : Nat → Int32} (hg0 : H.1 (m + 27) = some (aI 59049 g0)) : ∃ g, F_X12_hangsOn N (some m) (nI w) (nI S) H = some (bI (tls (bT β) (lft β l) (boc β w) S), xup H (m + 27) (aI 59049 g)) := by
  have qz := q.z
  have hB := q.2.1
  have hcn := hB.2.2.2.2.2 w hw
  have hoc := hB.2.2.2.2.1
  have hpe := hB.2.2.2.1
  have hqs : ∀ g, mQ m v β l (xup H (m + 27) (aI 59049 g)) := fun g => q.s (mS.sc q.1.1 (sc.upI (Or.inr (Or.inr (Or.inl rfl))) hg0))
  have L27 : ∀ n i, i ≤ bZ β → bZ β - i < n → ∀ g, (∀ key, key < bZ β → hcd β l w S i g key) → ∃ g', F_X12_hangsOn_L27 N n (some m) (nI w) (nI S) (nI i) (xup H (m + 27) (aI 59049 g)) = some (bI (tls (bT β) (lft β l) (boc β w) S), xup H (m + 27) (aI 59049 g')) := by
    refine upto (s := bZ β) (P := fun n i => ∀ g, (∀ key, key < bZ β → hcd β l w S i g key) → ∃ g', F_X12_hangsOn_L27 N n (some m) (nI w) (nI S) (nI i) (xup H (m + 27) (aI 59049 g)) = some (bI (tls (bT β) (lft β l) (boc β w) S), xup H (m + 27) (aI 59049 g'))) (fun n g hg => ⟨g, ?_⟩) (fun n i hi ih g hg => ?_)
    · have ht : tls (bT β) (lft β l) (boc β w) S := fun c c1 c2 c' d1 d2 h => by
        have he := on_eq.mpr h
        have hk := on_lt S (bT β) c
        rcases hg _ hk with ⟨h1, -⟩ | ⟨o, -, h1, -, -⟩
        · exact absurd rfl (h1 c c1 c2)
        · rw [h1 c c1 c2 rfl, h1 c' d1 d2 he.symm]
      rw [show F_X12_hangsOn_L27 N (n + 1) = F_X12_hangsOn_J27 N (F_X12_hangsOn_L27 N n) from rfl]
      simp only [F_X12_hangsOn_J27, (hqs g).rows, Option.bind_some, bd2_s, nI_le (Nat.le_refl (bZ β)) (show bZ β < 2 ^ 31 by omega), if_true, bI_t ht]
    · have q' := hqs g
      have hat : (xup H (m + 27) (aI 59049 g)).1 (m + 27) = some (aI 59049 g) := xup_at _
      rw [show F_X12_hangsOn_L27 N (n + 1) = F_X12_hangsOn_J27 N (F_X12_hangsOn_L27 N n) from rfl]
      simp only [F_X12_hangsOn_J27, F_X12_hangsOn_J98, F_X12_hangsOn_J89, q'.rows, q'.ob, Option.bind_some, bd2_s, nI_ge hi (show bZ β < 2 ^ 31 by omega), if_false, q'.lf (by omega : 5 < N) hi, nI_1]
      by_cases hl : lft β l i
      · have he := hpe i hi hl.1
        have hkl : on S (bT β) i < bZ β := on_lt _ _ _
        have hp5 := pay_u ⟨hcn.1, hcn.2.1⟩ ⟨hcn.2.2.1, hcn.2.2.2⟩ (hoc w i)
        have rd := rdI hat (show on S (bT β) i < 59049 by omega) (by decide)
        have st : ∀ x, xsI .int (xup H (m + 27) (aI 59049 g)) (some (m + 27)) (nI (on S (bT β) i)) x = some (xup H (m + 27) (aI 59049 (upd g (on S (bT β) i) x))) := fun x => by
          rw [stI hat (by omega) (by decide), xup_up]; rfl
        simp only [bI_t hl, show ¬ (1 : Int32) = 0 by decide, if_false, S_only (N := N) (by omega) q' hS hi, S_mPays q' hw hi he, gA q'.1.1 ma50, rd, st, q'.ob, Option.bind_some, bd2_s]
        have fin : (∀ k, k < i → lft β l k → on S (bT β) k = on S (bT β) i → boc β w k = boc β w i) → ∃ g', F_X12_hangsOn_L27 N n (some m) (nI w) (nI S) (nI (i + 1)) (xup H (m + 27) (aI 59049 (upd g (on S (bT β) i) (pay (boc β w i) (bc1 β w) (bc2 β w))))) = some (bI (tls (bT β) (lft β l) (boc β w) S), xup H (m + 27) (aI 59049 g')) := fun hall => ih _ (fun key hk => by
          by_cases e : key = on S (bT β) i
          · refine Or.inr ⟨boc β w i, hoc w i, fun k k1 k2 k3 => ?_, ⟨i, by omega, hl, e.symm⟩, by rw [e, pk_us]⟩
            by_cases e2 : k = i
            · rw [e2]
            · exact hall k (by omega) k2 (by rw [k3, e])
          · have := hcd_st (hg key hk) (fun z => e z.2.symm)
            unfold hcd at this ⊢
            rw [pk_un e]; exact this)
        rcases hg _ hkl with ⟨h1, h2⟩ | ⟨o, ho, h1, ⟨k, k1, k2, k3⟩, h3⟩
        · rw [if_pos h2]
          exact fin (fun k a1 a2 a3 => absurd a3 (h1 k a1 a2))
        · rw [h3, if_neg (pay_u ⟨hcn.1, hcn.2.1⟩ ⟨hcn.2.2.1, hcn.2.2.2⟩ ho).2]
          by_cases e : o = boc β w i
          · rw [if_pos (by rw [e])]
            exact fin (fun k a1 a2 a3 => by rw [h1 k a1 a2 a3, e])
          · rw [if_neg (fun z => e (pay_inj ⟨hcn.1, hcn.2.1⟩ ⟨hcn.2.2.1, hcn.2.2.2⟩ _ ho _ (hoc w i) z))]
            have hnt : ¬ tls (bT β) (lft β l) (boc β w) S := fun ht => e (by
              rw [← h1 k k1 k2 k3]
              exact ht k (by show k < bZ β; omega) k2 i hi hl (on_eq.mp k3))
            exact ⟨g, by rw [bI_f hnt]⟩
      · simp only [bI_f hl, if_true]
        exact ih g (fun key hk => hcd_st (hg key hk) (fun z => hl z.1))
  have L2 : ∀ n i, i ≤ bZ β → bZ β - i < n → ∀ g, (∀ key, key < i → g key = -5000) → ∃ g', F_X12_hangsOn_L2 N (F_X12_hangsOn_J25 N) n (some m) (nI w) (nI S) (nI i) (xup H (m + 27) (aI 59049 g)) = some (bI (tls (bT β) (lft β l) (boc β w) S), xup H (m + 27) (aI 59049 g')) := by
    refine upto (s := bZ β) (P := fun n i => ∀ g, (∀ key, key < i → g key = -5000) → ∃ g', F_X12_hangsOn_L2 N (F_X12_hangsOn_J25 N) n (some m) (nI w) (nI S) (nI i) (xup H (m + 27) (aI 59049 g)) = some (bI (tls (bT β) (lft β l) (boc β w) S), xup H (m + 27) (aI 59049 g'))) (fun n g hg => ?_) (fun n i hi ih g hg => ?_)
    · rw [show F_X12_hangsOn_L2 N (F_X12_hangsOn_J25 N) (n + 1) = F_X12_hangsOn_J2 N (F_X12_hangsOn_L2 N (F_X12_hangsOn_J25 N) n) (F_X12_hangsOn_J25 N) from rfl]
      simp only [F_X12_hangsOn_J2, F_X12_hangsOn_J25, (hqs g).rows, Option.bind_some, bd2_s, nI_le (Nat.le_refl (bZ β)) (show bZ β < 2 ^ 31 by omega), if_true]
      exact L27 N 0 (Nat.zero_le _) (by omega) g (fun key hk => Or.inl ⟨fun k hk => by omega, hg key hk⟩)
    · have q' := hqs g
      have hat : (xup H (m + 27) (aI 59049 g)).1 (m + 27) = some (aI 59049 g) := xup_at _
      rw [show F_X12_hangsOn_L2 N (F_X12_hangsOn_J25 N) (n + 1) = F_X12_hangsOn_J2 N (F_X12_hangsOn_L2 N (F_X12_hangsOn_J25 N) n) (F_X12_hangsOn_J25 N) from rfl]
      simp only [F_X12_hangsOn_J2, q'.rows, Option.bind_some, bd2_s, nI_ge hi (show bZ β < 2 ^ 31 by omega), if_false, gA q'.1.1 ma50, stI hat (show i < 59049 by omega) (by decide), xup_up, nI_1, vnI]
      refine ih _ (fun key hk => ?_)
      by_cases e : key = i
      · rw [e]; exact pk_us
      · rw [pk_un e]; exact hg key (by omega)
  obtain ⟨g', hg'⟩ := L2 N 0 (Nat.zero_le _) (by omega) g0 (fun key hk => by omega)
  rw [xup_id hg0] at hg'
  exact ⟨g', hg'⟩
theorem T_hang (hN : 59049 < N) (h : Rel stf K b m β δ H) (x : Int32) : xStep stf K b m (F_X11_hang N (some b) x) (F_X12_hang N (some m) x) H := by
  obtain ⟨⟨⟨c, tc, tk, cb, n, nk, ncb, ad, ho⟩, -⟩, v, hm⟩ := id h
  obtain ⟨g0, g1, g2, g3, g4, g5, g6, g7, g8, g9, g10, g11, g12, g13, g14⟩ := ho.g
  obtain ⟨o10, o2, o6, o4, o5, o3, o9⟩ := ho.o
  obtain ⟨k0, k1, k2, k4, k6, k7, k12⟩ := ho.k
  have q := hm.mq
  have qo := q.ob
  have qz := q.z
  obtain ⟨v0, v1, v2, v3, v46, t5, t6, t12⟩ := q.ac
  rcases ix3 x (show bW β < 2 ^ 31 by omega) with hx | ⟨w, hw, rfl⟩
  · exact xStep.rd (r := -1) h (by simp only [F_X11_hang, g5, o2, S_btO ho hx, if_true, Option.bind_some, bd2_s]) (by simp only [F_X12_hang, qo, S_mWO q hx, if_true, Option.bind_some, bd2_s])
  obtain ⟨r, gx, c1, c2, c3⟩ := S_hanging (N := N) hN ho hm.2.1 hw
  obtain ⟨⟨gk, hgk⟩, -⟩ := ho.ck
  have C1 : F_X11_hang N (some b) (nI w) H = some (nI r, xup H tk (aB nk gx)) := by
    simp only [F_X11_hang, g5, o2, S_btI ho t12 hw, reduceCtorEq, if_false, g6, o6, c1, Option.bind_some, bd2_s]
  have hsc : sc (SX b tk cb) H (xup H tk (aB nk gx)) := sc.upI (by unfold SX; omega) hgk
  generalize xup H tk (aB nk gx) = H1 at C1 hsc
  have hm1 : mR m v β δ H1 := hm.1.x ho.1 hsc
  have q1 : mQ m v β (dL δ) H1 := (show CM K m v β δ H1 from ⟨hm1, hm.2⟩).mq
  obtain ⟨gd, hgd⟩ : ∃ g, H1.1 (m + 27) = some (aI 59049 g) := hm1.2.2.2.2.2.2.2.2.2.2.2.2.2.2.2.2.2.2.1
  have hqs : ∀ g, mQ m v β (dL δ) (xup H1 (m + 27) (aI 59049 g)) := fun g => q1.s (mS.sc q1.1.1 (sc.upI (Or.inr (Or.inr (Or.inl rfl))) hgd))
  have hp2 : 2 ^ bT β ≤ 32 := Nat.pow_le_pow_right (by decide) t5
  have hpos := Nat.pow_pos (n := bT β) (by decide : 0 < 2)
  have hfull : ∀ j, j < bT β → (2 ^ bT β - 1).testBit j = true := fun j hj => by rw [Nat.testBit_two_pow_sub_one]; simp [hj]
  generalize hlf : lft β (dL δ) = lf at *
  have htl : tls (bT β) lf (boc β w) (2 ^ bT β - 1) := fun c c1 c2 c' d1 d2 h => by
    rw [dig_ext c1 d1 (fun j hj => h j hj (hfull j hj))]
  have key := upto (s := 2 ^ bT β) (P := fun n i => ∀ best g, best < 2 ^ bT β → tls (bT β) lf (boc β w) best → (∀ S, S < i → tls (bT β) lf (boc β w) S → rk best ≤ rk S) → (best = 2 ^ bT β - 1 ∨ best < i) → ∃ g', F_X12_hang_L21 N n (some m) (nI w) (nI best) (nI i) (xup H1 (m + 27) (aI 59049 g)) = some (nI r, xup H1 (m + 27) (aI 59049 g'))) (fun n best g h1 h2 h3 h4 => by
    have he : best = r := isMin_u (by omega) c2 (show isMin (cC (bT β) lf (boc β w) (2 ^ bT β - 1) 0) best from ⟨⟨h1, fun j hj _ => hfull j hj, fun j hj => by omega, h2⟩, fun S' hS' => h3 S' hS'.1 hS'.2.2.2⟩) c3
    obtain ⟨w0, -⟩ := (hqs g).ac
    refine ⟨g, ?_⟩
    rw [show F_X12_hang_L21 N (n + 1) = F_X12_hang_J21 N (F_X12_hang_L21 N n) from rfl]
    simp only [F_X12_hang_J21, w0, spow (bT β) (by omega), nI_le (Nat.le_refl _) (show 2 ^ bT β < 2 ^ 31 by omega), if_true, he, Option.bind_some, bd2_s]) (fun n i hi ih best g h1 h2 h3 h4 => by
    obtain ⟨w0, -⟩ := (hqs g).ac
    have pi := pop_le i 5
    have pb := pop_le best 5
    rw [show F_X12_hang_L21 N (n + 1) = F_X12_hang_J21 N (F_X12_hang_L21 N n) from rfl]
    simp only [F_X12_hang_J21, F_X12_hang_J53, w0, spow (bT β) (by omega), nI_ge hi (show 2 ^ bT β < 2 ^ 31 by omega), if_false, S_mBits (N := N) (by omega) (show i < 32 by omega), S_mBits (N := N) (by omega) (show best < 32 by omega), nI_leI (show pop best 5 < 2 ^ 31 by omega) (show pop i 5 < 2 ^ 31 by omega), nI_1, Option.bind_some, bd2_s]
    have keep : (tls (bT β) lf (boc β w) i → pop best 5 ≤ pop i 5) → ∀ S, S < i + 1 → tls (bT β) lf (boc β w) S → rk best ≤ rk S := fun hk S hS ht => by
      by_cases e : S = i
      · rw [e] at ht ⊢
        have := hk ht
        rcases h4 with z | z
        · have := bt3 (bT β) (by omega) i (by omega) hi (by rw [← z]; exact this)
          rw [z, this]; exact Nat.le_refl _
        · unfold rk; omega
      · exact h3 S (by omega) ht
    by_cases hp : pop best 5 ≤ pop i 5
    · rw [if_pos hp]
      exact ih best g h1 h2 (keep (fun _ => hp)) (h4.imp id (fun z => by omega))
    · obtain ⟨g', hg'⟩ := S_hangsOn (N := N) (S := i) hN (hqs g) hw (by omega) (xup_at _)
      rw [hlf, xup_up] at hg'
      rw [if_neg hp]
      simp only [(hqs g).ob, hg', Option.bind_some, bd2_s]
      by_cases ht : tls (bT β) lf (boc β w) i
      · rw [bI_t ht, if_neg (by decide)]
        refine ih i g' hi ht (fun S hS hts => ?_) (Or.inr (by omega))
        by_cases e : S = i
        · rw [e]; exact Nat.le_refl _
        · have := h3 S (by omega) hts
          unfold rk at this ⊢
          omega
      · rw [bI_f ht, if_pos rfl]
        exact ih best g' h1 h2 (keep (fun z => absurd z ht)) (h4.imp id (fun z => by omega))) N 0 (Nat.zero_le _) (by omega) (2 ^ bT β - 1) gd (by omega) htl (fun S hS => by omega) (Or.inl rfl)
  obtain ⟨g', hg'⟩ := key
  rw [xup_id hgd] at hg'
  refine ⟨nI r, H1, _, β, δ, C1, ?_, h.scr ho hsc q1.1.1 hm1 (mS.sc q1.1.1 (sc.upI (g' := g') (Or.inr (Or.inr (Or.inl rfl))) hgd))⟩
  obtain ⟨w0, -⟩ := q1.ac
  have e1 : nI (2 ^ bT β) - (1 : Int32) = nI (2 ^ bT β - 1) := by rw [show (1 : Int32) = nI 1 from rfl, pk_sub hpos]
  simp only [F_X12_hang, q1.ob, S_mWI q1 hw, show ¬ (1 : Int32) = 0 by decide, if_false, w0, spow (bT β) (by omega), e1, Option.bind_some, bd2_s]
  exact hg'
end Hang3
