/-! PURE: STEP win: the reference's side. -/
theorem mdo_lt : ∀ o, o < 5 → mdo o < 5 := by decide +kernel
/-- the key of a row's outcomes: the last chosen first -/
def kd (oc : Nat → Nat → Nat) (ch : Nat → Nat) (k c : Nat) : Nat → Nat
  | 0 => 0
  | j + 1 => 5 * kd oc ch k c j + mdo (oc (ch (k - 1 - j)) c)
theorem kd_lt {oc : Nat → Nat → Nat} {ch : Nat → Nat} {k c : Nat} (ho : ∀ w r, oc w r < 5) : ∀ j, kd oc ch k c j < 5 ^ j := by
  intro j
  induction j with
  | zero => show 0 < 1; decide
  | succ j ih =>
    have := mdo_lt _ (ho (ch (k - 1 - j)) c)
    simp only [kd]
    rw [Nat.pow_succ]; omega
theorem kd_div {oc : Nat → Nat → Nat} {ch : Nat → Nat} {k c : Nat} (ho : ∀ w r, oc w r < 5) : ∀ i, i ≤ k → kd oc ch k c k / 5 ^ i = kd oc ch k c (k - i) := by
  intro i
  induction i with
  | zero => intro _; simp
  | succ i ih =>
    intro hi
    rw [Nat.pow_succ, ← Nat.div_div_eq_div_mul, ih (by omega)]
    obtain ⟨j, hj⟩ : ∃ j, k - i = j + 1 := ⟨k - i - 1, by omega⟩
    rw [hj, show k - (i + 1) = j by omega]
    have := mdo_lt _ (ho (ch (k - 1 - j)) c)
    simp only [kd]; omega
theorem kd_dig {oc : Nat → Nat → Nat} {ch : Nat → Nat} {k c i : Nat} (ho : ∀ w r, oc w r < 5) (hi : i < k) : kd oc ch k c k / 5 ^ i % 5 = mdo (oc (ch i) c) := by
  rw [kd_div ho i (by omega)]
  obtain ⟨j, hj⟩ : ∃ j, k - i = j + 1 := ⟨k - i - 1, by omega⟩
  rw [hj]
  have := mdo_lt _ (ho (ch (k - 1 - j)) c)
  simp only [kd]
  rw [show k - 1 - j = i by omega] at *
  omega
theorem div5 {x k : Nat} (h : x < 2 ^ 31) : nI (x / 5 ^ k) / (5 : Int32) = nI (x / 5 ^ (k + 1)) := by
  rw [Nat.pow_succ, ← Nat.div_div_eq_div_mul]
  exact pk_div (Nat.lt_of_le_of_lt (Nat.div_le_self _ _) h) (by decide : 0 < 5) (by decide)
theorem rem5 {x k : Nat} (h : x < 2 ^ 31) : nI (x / 5 ^ k) - nI (x / 5 ^ (k + 1)) * (5 : Int32) = nI (x / 5 ^ k % 5) := by
  rw [← div5 h]
  exact pk_rem (Nat.lt_of_le_of_lt (Nat.div_le_self _ _) h) (by decide : 0 < 5) (by decide)
theorem bo1 : vp_nar .boolean 1 = 1 := by decide
theorem bo0 : vp_nar .boolean 0 = 0 := by decide
section Win6
variable {stf : Nat → Nat} {N K b m : Nat} {β : sB} {δ : sD} {H : xH}
/-- what the reference has chosen -/
def mC (m k : Nat) (ch : Nat → Nat) (v : Nat → Int32) (H : xH) : Prop := v 58 = nI k ∧ ∃ g, H.1 (m + 33) = some (aI 6 g) ∧ ∀ i, i < k → g i = nI (ch i)
theorem S_amount (c1 c2 : Int32) : ∀ o, o < 5 → F_X12_amount N (nI (mdo o)) c2 c1 H = some (pay o c1 c2, H) := by
  refine five ?_ ?_ ?_ ?_ ?_ <;> unfold F_X12_amount
  · rw [if_pos (by decide)]; rfl
  · rw [if_neg (by decide), if_neg (by decide), if_pos (by decide)]; rfl
  · rw [if_neg (by decide), if_neg (by decide), if_neg (by decide), if_neg (by decide)]; rfl
  · rw [if_neg (by decide), if_pos (by decide)]; rfl
  · rw [if_neg (by decide), if_neg (by decide), if_neg (by decide), if_pos (by decide)]; rfl
theorem S_mStaked (hN : 59049 < N) {v : Nat → Int32} (h : CM K m v β δ H) {u k x : Nat} {ch : Nat → Nat} (hC : mC m k ch v H) (hk : k = cnt (wP β (dL δ) u) (bW β)) (hk6 : k ≤ 6) (hch : chs (wP β (dL δ) u) (bW β) ch) (hx : x < 3 ^ k) : F_X12_staked N (some m) (nI x) H = some (wst β (dL δ) u x, H) := by
  obtain ⟨v0, v1, v2, v3, v46, t5, t6, t12⟩ := h.mq.ac
  obtain ⟨e58, gc, gc1, gc2⟩ := hC
  have h1 := h.1.1.1
  obtain ⟨a5, a51, a52⟩ := h.1.1.2.2.2.2.2.2.1
  obtain ⟨a6, a61, a62⟩ := h.1.1.2.2.2.2.2.2.2
  have h3k : 3 ^ k ≤ 729 := Nat.le_trans (Nat.pow_le_pow_right (by decide) hk6) (by decide)
  have hx31 : x < 2 ^ 31 := by omega
  generalize hP : wP β (dL δ) u = P at *
  have hcv : ∀ i, i < k → ch i < bW β ∧ P (ch i) ∧ cnt P (ch i) = i := fun i hi => hch.inv (show i < cnt P (bW β) by omega)
  have hwst : wst β (dL δ) u x = sm (fun i => sgk (t3 x i) (bc1 β (ch i)) (bc2 β (ch i))) k 0 := by
    unfold wst
    rw [hP, sm_chs (f := fun w => sgk (t3 x (cnt P w)) (bc1 β w) (bc2 β w)) (bW β) hch, ← hk]
    exact sm_congr _ _ (fun i _ hi => by
      obtain ⟨a1, a2, a3⟩ := hcv i (by omega)
      show sgk (t3 x (cnt P (ch i))) _ _ = _
      rw [a3])
  have r58 : xgI H (some m) 11 58 = some (nI k) := (gI h1 mi58).trans (by rw [e58])
  have key := upto (s := k) (P := fun f i => F_X12_staked_L7 N f (some m) (sm (fun i => sgk (t3 x i) (bc1 β (ch i)) (bc2 β (ch i))) i 0) (nI (x / 3 ^ i)) (nI i) H = some (sm (fun i => sgk (t3 x i) (bc1 β (ch i)) (bc2 β (ch i))) k 0, H)) (fun f => by
    rw [show F_X12_staked_L7 N (f + 1) = F_X12_staked_J7 N (F_X12_staked_L7 N f) from rfl]
    simp only [F_X12_staked_J7, r58, nI_le (Nat.le_refl _) (show k < 2 ^ 31 by omega), if_true, Option.bind_some, bd2_s]) (fun f i hi ih => by
    obtain ⟨b1, b2, b3⟩ := hcv i hi
    have hd := t3_lt x i
    have esm : sm (fun i => sgk (t3 x i) (bc1 β (ch i)) (bc2 β (ch i))) (i + 1) 0 = sm (fun i => sgk (t3 x i) (bc1 β (ch i)) (bc2 β (ch i))) i 0 + sgk (t3 x i) (bc1 β (ch i)) (bc2 β (ch i)) := by rw [sm_snoc, Nat.zero_add]
    rw [esm] at ih
    rw [show F_X12_staked_L7 N (f + 1) = F_X12_staked_J7 N (F_X12_staked_L7 N f) from rfl]
    simp only [F_X12_staked_J7, F_X12_staked_J62, r58, nI_ge hi (show k < 2 ^ 31 by omega), if_false, div3 hx31, rem3 hx31, gA h1 ma10, gA h1 ma11, gA h1 ma57, rdI gc1 (show i < 6 by omega) (by decide), gc2 i hi, rdI a51 (show ch i < 24 by omega) (by decide), a52 _ b1, rdI a61 (show ch i < 24 by omega) (by decide), a62 _ b1, nI_1, Option.bind_some, bd2_s]
    have : t3 x i = 0 ∨ t3 x i = 1 ∨ t3 x i = 2 := by omega
    rcases this with z | z | z
    · rw [z, if_neg (by decide), if_neg (by decide)]
      rw [z] at ih
      exact ih
    · rw [z, if_pos (by decide)]
      rw [z] at ih
      exact ih
    · rw [z, if_neg (by decide), if_pos (by decide)]
      rw [z] at ih
      exact ih) N 0 (Nat.zero_le _) (by omega)
  rw [show x / 3 ^ 0 = x by simp] at key
  rw [hwst]
  exact key
/-- the keys met -/
def mMet (β : sB) (l : sL) (ch : Nat → Nat) (k i : Nat) (g : Nat → Int32) : Prop := ∀ key, key < 5 ^ k → (g key = 1 ∧ ∃ r, r < i ∧ lft β l r ∧ kd (boc β) ch k r k = key) ∨ (g key = 0 ∧ ∀ r, r < i → lft β l r → kd (boc β) ch k r k ≠ key)
theorem S_meets (hN : 59049 < N) {v : Nat → Int32} (h : CM K m v β δ H) {u k : Nat} {ch : Nat → Nat} (hC : mC m k ch v H) (hk : k = cnt (wP β (dL δ) u) (bW β)) (hk6 : k ≤ 6) (hk0 : 0 < k) (hch : chs (wP β (dL δ) u) (bW β) ch) : ∃ g, F_X12_meets N (some m) H = some (xup H (m + 32) (aZ 15625 g)) ∧ mMet β (dL δ) ch k (bZ β) g := by
  obtain ⟨v0, v1, v2, v3, v46, t5, t6, t12⟩ := h.mq.ac
  obtain ⟨e58, gc, gc1, gc2⟩ := hC
  have qz := h.mq.z
  have hoc := h.2.1.2.2.2.2.1
  have hpe := h.2.1.2.2.2.1
  have h1 := h.1.1.1
  obtain ⟨gd, gd1, gd2⟩ := h.1.1.2.2.2.2.2.1
  obtain ⟨gm, hgm⟩ : ∃ g, H.1 (m + 32) = some (aZ 15625 g) := h.1.2.2.2.2.2.2.2.2.2.2.2.2.2.2.2.2.2.2.2.2.2.1
  have h5k : 5 ^ k ≤ 15625 := Nat.le_trans (Nat.pow_le_pow_right (by decide) hk6) (by decide)
  have hcv : ∀ i, i < k → ch i < bW β := fun i hi => (hch.inv (show i < cnt (wP β (dL δ) u) (bW β) by omega)).1
  have cms : ∀ g, CM K m v β δ (xup H (m + 32) (aZ 15625 g)) := fun g => ⟨h.1.s (mS.sc h1 (sc.upI (by unfold SMa; omega) hgm)), h.2⟩
  have ob : ∀ g, (xup H (m + 32) (aZ 15625 g)).1 m = some (mo m v) := fun g => (cms g).1.1.1
  have r58 : ∀ g, xgI (xup H (m + 32) (aZ 15625 g)) (some m) 11 58 = some (nI k) := fun g => (gI (ob g) mi58).trans (by rw [e58])
  have rc : ∀ g i, i < k → xlI .int (xup H (m + 32) (aZ 15625 g)) (some (m + 33)) (nI i) = some (nI (ch i)) := fun g i hi => by rw [rdI (by rw [xup_ne _ (by omega)]; exact gc1) (show i < 6 by omega) (by decide), gc2 i hi]
  have rdo : ∀ g w c, w < bW β → c < bZ β → bex β c → xlI .byte (xup H (m + 32) (aZ 15625 g)) (some (m + 24)) (nI (59049 * w + c)) = some (nI (mdo (boc β w c))) := fun g w c hw hc he => by rw [rdI (by rw [xup_ne _ (by omega)]; exact gd1) (show 59049 * w + c < 708588 by omega) (by decide), gd2 w hw c hc he]
  have wm : ∀ (g : Nat → Int32) p y, p < 15625 → xsI .boolean (xup H (m + 32) (aZ 15625 g)) (some (m + 32)) (nI p) y = some (xup H (m + 32) (aZ 15625 (upd g p (vp_nar .boolean y)))) := fun g p y hp => by rw [stI (xup_at _) hp (by decide), xup_up]
  have rows := upto (s := bZ β) (P := fun f i => ∀ g, mMet β (dL δ) ch k i g → ∃ g', F_X12_meets_L24 N f (some m) (nI i) (xup H (m + 32) (aZ 15625 g)) = some (xup H (m + 32) (aZ 15625 g')) ∧ mMet β (dL δ) ch k (bZ β) g') (fun f g hg => ⟨g, by
    rw [show F_X12_meets_L24 N (f + 1) = F_X12_meets_J24 N (F_X12_meets_L24 N f) from rfl]
    simp only [F_X12_meets_J24, (cms g).mq.rows, nI_le (Nat.le_refl _) (show bZ β < 2 ^ 31 by omega), if_true, Option.bind_some, bd2_s], hg⟩) (fun f i hi ih g hg => by
    have q' := (cms g).mq
    rw [show F_X12_meets_L24 N (f + 1) = F_X12_meets_J24 N (F_X12_meets_L24 N f) from rfl]
    simp only [F_X12_meets_J24, F_X12_meets_J90, q'.rows, q'.ob, nI_ge hi (show bZ β < 2 ^ 31 by omega), if_false, q'.lf (by omega : 5 < N) hi, nI_1, Option.bind_some, bd2_s]
    by_cases hl : lft β (dL δ) i
    · have he := hpe i hi hl.1
      rw [bI_t hl, if_neg (by decide), r58]
      simp only [Option.bind_some, bd2_s]
      have kl := upto (s := k) (P := fun f2 j => F_X12_meets_L52 N (F_X12_meets_J83 N (F_X12_meets_L24 N f)) f2 (some m) (nI i) (nI (kd (boc β) ch k i j)) (nI (k - j) - 1) (xup H (m + 32) (aZ 15625 g)) = F_X12_meets_J83 N (F_X12_meets_L24 N f) (some m) (nI i) (nI (kd (boc β) ch k i k)) (xup H (m + 32) (aZ 15625 g))) (fun f2 => by
        rw [show ∀ kk, F_X12_meets_L52 N kk (f2 + 1) = F_X12_meets_J52 N (F_X12_meets_L52 N kk f2) kk from fun _ => rfl]
        unfold F_X12_meets_J52
        rw [Nat.sub_self, if_pos (by decide)]) (fun f2 j hj ih2 => by
        obtain ⟨e, he'⟩ : ∃ e, k - j = e + 1 := ⟨k - j - 1, by omega⟩
        have ee : k - 1 - j = e := by omega
        have e5 : (5 : Int32) * nI (kd (boc β) ch k i j) + nI (mdo (boc β (ch e) i)) = nI (kd (boc β) ch k i (j + 1)) := by
          rw [show (5 : Int32) = nI 5 from rfl, pk_mul, nI_add]
          simp only [kd]
          rw [ee]
        have e59 : (59049 : Int32) * nI (ch e) + nI i = nI (59049 * ch e + i) := by rw [show (59049 : Int32) = nI 59049 from rfl, pk_mul, nI_add]
        rw [show ∀ kk, F_X12_meets_L52 N kk (f2 + 1) = F_X12_meets_J52 N (F_X12_meets_L52 N kk f2) kk from fun _ => rfl, he', nI_pred]
        simp only [F_X12_meets_J52, nI_pos (show e < 2 ^ 31 by omega), if_false, gA (ob g) ma44, gA (ob g) ma57, rc g e (by omega), e59, rdo g (ch e) i (hcv e (by omega)) hi he, e5, nI_dm, Option.bind_some, bd2_s]
        rw [show k - (j + 1) = e by omega] at ih2
        exact ih2) N 0 (Nat.zero_le _) (by omega)
      rw [Nat.sub_zero] at kl
      rw [show F_X12_meets_L52 N (F_X12_meets_J83 N (F_X12_meets_L24 N f)) N (some m) (nI i) (0 : Int32) (nI k - 1) (xup H (m + 32) (aZ 15625 g)) = _ from kl]
      have hkl := kd_lt (oc := boc β) (ch := ch) (k := k) (c := i) hoc k
      simp only [F_X12_meets_J83, F_X12_meets_J90, gA (ob g) ma56, wm g _ _ (show kd (boc β) ch k i k < 15625 by omega), bo1, nI_1, Option.bind_some, bd2_s]
      refine ih _ (fun key hkey => ?_)
      by_cases e : key = kd (boc β) ch k i k
      · rw [e, pk_us]; exact Or.inl ⟨rfl, i, by omega, hl, rfl⟩
      · rw [pk_un e]
        rcases hg key hkey with ⟨z1, r, z2, z3, z4⟩ | ⟨z1, z2⟩
        · exact Or.inl ⟨z1, r, by omega, z3, z4⟩
        · refine Or.inr ⟨z1, fun r hr hrl => ?_⟩
          by_cases er : r = i
          · rw [er]; exact fun z => e z.symm
          · exact z2 r (by omega) hrl
    · simp only [bI_f hl, if_true]
      refine ih g (fun key hkey => ?_)
      rcases hg key hkey with ⟨z1, r, z2, z3, z4⟩ | ⟨z1, z2⟩
      · exact Or.inl ⟨z1, r, by omega, z3, z4⟩
      · refine Or.inr ⟨z1, fun r hr hrl => ?_⟩
        by_cases er : r = i
        · rw [er] at hrl; exact absurd hrl hl
        · exact z2 r (by omega) hrl) N 0 (Nat.zero_le _) (by omega)
  have clear := upto (s := 15625) (P := fun f i => ∀ g, (∀ p, p < i → g p = 0) → ∃ g', F_X12_meets_L2 N (F_X12_meets_J22 N) f (some m) (nI i) (xup H (m + 32) (aZ 15625 g)) = some (xup H (m + 32) (aZ 15625 g')) ∧ mMet β (dL δ) ch k (bZ β) g') (fun f g hg => by
    rw [show F_X12_meets_L2 N (F_X12_meets_J22 N) (f + 1) = F_X12_meets_J2 N (F_X12_meets_L2 N (F_X12_meets_J22 N) f) (F_X12_meets_J22 N) from rfl]
    unfold F_X12_meets_J2 F_X12_meets_J22
    rw [if_pos (by decide)]
    exact rows g (fun key hkey => Or.inr ⟨hg key (by omega), fun r hr => by omega⟩)) (fun f i hi ih g hg => by
    have i1 : ¬ (15625 : Int32) ≤ nI i := nI_ge hi (by decide)
    rw [show F_X12_meets_L2 N (F_X12_meets_J22 N) (f + 1) = F_X12_meets_J2 N (F_X12_meets_L2 N (F_X12_meets_J22 N) f) (F_X12_meets_J22 N) from rfl]
    simp only [F_X12_meets_J2, i1, if_false, gA (ob g) ma56, wm g i _ hi, bo0, nI_1, Option.bind_some, bd2_s]
    exact ih _ (fun p hp => by
      by_cases e : p = i
      · rw [e, pk_us]
      · rw [pk_un e]; exact hg p (by omega))) N 0 (Nat.zero_le _) (by omega) gm (fun p hp => by omega)
  rw [xup_id hgm] at clear
  exact clear
theorem S_mWins (hN : 59049 < N) {v : Nat → Int32} (h : CM K m v β δ H) {u k x : Nat} {ch : Nat → Nat} {g : Nat → Int32} (hC : mC m k ch v H) (hk : k = cnt (wP β (dL δ) u) (bW β)) (hk6 : k ≤ 6) (hch : chs (wP β (dL δ) u) (bW β) ch) (hg1 : H.1 (m + 32) = some (aZ 15625 g)) (hg : mMet β (dL δ) ch k (bZ β) g) (hx : x < 3 ^ k) : F_X12_wins N (some m) (nI x) H = some (bI (wok β (dL δ) u x), H) := by
  obtain ⟨v0, v1, v2, v3, v46, t5, t6, t12⟩ := h.mq.ac
  obtain ⟨e58, gc, gc1, gc2⟩ := hC
  have h1 := h.1.1.1
  have hoc := h.2.1.2.2.2.2.1
  obtain ⟨a5, a51, a52⟩ := h.1.1.2.2.2.2.2.2.1
  obtain ⟨a6, a61, a62⟩ := h.1.1.2.2.2.2.2.2.2
  have h3k : 3 ^ k ≤ 729 := Nat.le_trans (Nat.pow_le_pow_right (by decide) hk6) (by decide)
  have h5k : 5 ^ k ≤ 15625 := Nat.le_trans (Nat.pow_le_pow_right (by decide) hk6) (by decide)
  have hx31 : x < 2 ^ 31 := by omega
  generalize hP : wP β (dL δ) u = P at *
  have hcv : ∀ i, i < k → ch i < bW β ∧ P (ch i) ∧ cnt P (ch i) = i := fun i hi => hch.inv (show i < cnt P (bW β) by omega)
  have hwsm : ∀ r, wsm β (dL δ) u x r = sm (fun i => sgn (t3 x i) (pay (boc β (ch i) r) (bc1 β (ch i)) (bc2 β (ch i)))) k 0 := fun r => by
    unfold wsm
    rw [hP, sm_chs (f := fun w => sgn (t3 x (cnt P w)) (pay (boc β w r) (bc1 β w) (bc2 β w))) (bW β) hch, ← hk]
    exact sm_congr _ _ (fun i _ hi => by
      obtain ⟨a1, a2, a3⟩ := hcv i (by omega)
      show sgn (t3 x (cnt P (ch i))) _ = _
      rw [a3])
  have r58 : xgI H (some m) 11 58 = some (nI k) := (gI h1 mi58).trans (by rw [e58])
  have ksum : ∀ r y2 (kk : Option Nat → Int32 → Int32 → Int32 → Int32 → Int32 → xH → Option (Int32 × xH)), F_X12_wins_L61 N kk N (some m) (nI x) y2 (nI (5 ^ k)) (nI (kd (boc β) ch k r k)) 0 (nI (kd (boc β) ch k r k)) (nI x) 0 H = kk (some m) (nI x) y2 (nI (5 ^ k)) (nI (kd (boc β) ch k r k)) (wsm β (dL δ) u x r) H := fun r y2 kk => by
    have hkl := kd_lt (oc := boc β) (ch := ch) (k := k) (c := r) hoc k
    have hk31 : kd (boc β) ch k r k < 2 ^ 31 := by omega
    have key := upto (s := k) (P := fun f i => F_X12_wins_L61 N kk f (some m) (nI x) y2 (nI (5 ^ k)) (nI (kd (boc β) ch k r k)) (sm (fun i => sgn (t3 x i) (pay (boc β (ch i) r) (bc1 β (ch i)) (bc2 β (ch i)))) i 0) (nI (kd (boc β) ch k r k / 5 ^ i)) (nI (x / 3 ^ i)) (nI i) H = kk (some m) (nI x) y2 (nI (5 ^ k)) (nI (kd (boc β) ch k r k)) (sm (fun i => sgn (t3 x i) (pay (boc β (ch i) r) (bc1 β (ch i)) (bc2 β (ch i)))) k 0) H) (fun f => by
      rw [show F_X12_wins_L61 N kk (f + 1) = F_X12_wins_J61 N (F_X12_wins_L61 N kk f) kk from rfl]
      simp only [F_X12_wins_J61, r58, nI_le (Nat.le_refl _) (show k < 2 ^ 31 by omega), if_true, Option.bind_some, bd2_s]) (fun f i hi ih => by
      obtain ⟨b1, b2, b3⟩ := hcv i hi
      have hd := t3_lt x i
      have hdg := kd_dig (oc := boc β) (ch := ch) (c := r) hoc hi
      have esm : sm (fun i => sgn (t3 x i) (pay (boc β (ch i) r) (bc1 β (ch i)) (bc2 β (ch i)))) (i + 1) 0 = sm (fun i => sgn (t3 x i) (pay (boc β (ch i) r) (bc1 β (ch i)) (bc2 β (ch i)))) i 0 + sgn (t3 x i) (pay (boc β (ch i) r) (bc1 β (ch i)) (bc2 β (ch i))) := by rw [sm_snoc, Nat.zero_add]
      rw [esm] at ih
      rw [show F_X12_wins_L61 N kk (f + 1) = F_X12_wins_J61 N (F_X12_wins_L61 N kk f) kk from rfl]
      simp only [F_X12_wins_J61, F_X12_wins_J133, r58, nI_ge hi (show k < 2 ^ 31 by omega), if_false, div3 hx31, rem3 hx31, div5 hk31, rem5 hk31, hdg, gA h1 ma10, gA h1 ma11, gA h1 ma57, rdI gc1 (show i < 6 by omega) (by decide), gc2 i hi, rdI a51 (show ch i < 24 by omega) (by decide), a52 _ b1, rdI a61 (show ch i < 24 by omega) (by decide), a62 _ b1, S_amount _ _ _ (hoc (ch i) r), nI_1, Option.bind_some, bd2_s]
      have : t3 x i = 0 ∨ t3 x i = 1 ∨ t3 x i = 2 := by omega
      rcases this with z | z | z
      · rw [z, if_neg (by decide), if_neg (by decide)]
        rw [z] at ih
        exact ih
      · rw [z, if_pos (by decide)]
        rw [z] at ih
        exact ih
      · rw [z, if_neg (by decide), if_pos (by decide)]
        rw [z] at ih
        exact ih) N 0 (Nat.zero_le _) (by omega)
    rw [show x / 3 ^ 0 = x by simp, show kd (boc β) ch k r k / 5 ^ 0 = kd (boc β) ch k r k by simp] at key
    rw [hwsm]
    exact key
  -- the keys met tell all rows left
  have hall : wok β (dL δ) u x ↔ (∀ key, key < 5 ^ k → ∀ r, r < bZ β → lft β (dL δ) r → kd (boc β) ch k r k = key → ¬ wsm β (dL δ) u x r < 0) ∧ ∃ key, key < 5 ^ k ∧ ∃ r, r < bZ β ∧ lft β (dL δ) r ∧ kd (boc β) ch k r k = key ∧ 0 < wsm β (dL δ) u x r := by
    constructor
    · rintro ⟨z1, r, r1, r2, r3⟩
      exact ⟨fun key _ r' q1 q2 _ => z1 r' q1 q2, _, kd_lt hoc k, r, r1, r2, rfl, r3⟩
    · rintro ⟨z1, key, k1, r, r1, r2, r3, r4⟩
      exact ⟨fun r' q1 q2 => z1 _ (kd_lt hoc k) r' q1 q2 rfl, r, r1, r2, r4⟩
  have hsame : ∀ r r', kd (boc β) ch k r k = kd (boc β) ch k r' k → wsm β (dL δ) u x r = wsm β (dL δ) u x r' := fun r r' e => by
    rw [hwsm, hwsm]
    refine sm_congr _ _ (fun i _ hi => ?_)
    have d1 := kd_dig (oc := boc β) (ch := ch) (k := k) (c := r) hoc (show i < k by omega)
    have d2 := kd_dig (oc := boc β) (ch := ch) (k := k) (c := r') hoc (show i < k by omega)
    rw [e] at d1
    have hmi : ∀ a, a < 5 → ∀ b, b < 5 → mdo a = mdo b → a = b := by decide +kernel
    have := hmi _ (hoc (ch i) r) _ (hoc (ch i) r') (d1.symm.trans d2)
    simp only [this]
  have keys := upto (s := 5 ^ k) (P := fun f i => (∀ key, key < i → ∀ r, r < bZ β → lft β (dL δ) r → kd (boc β) ch k r k = key → ¬ wsm β (dL δ) u x r < 0) → F_X12_wins_L29 N f (some m) (nI x) (bI (∃ key, key < i ∧ ∃ r, r < bZ β ∧ lft β (dL δ) r ∧ kd (boc β) ch k r k = key ∧ 0 < wsm β (dL δ) u x r)) (nI (5 ^ k)) (nI i) H = some (bI (wok β (dL δ) u x), H)) (fun f hno => by
    rw [show F_X12_wins_L29 N (f + 1) = F_X12_wins_J29 N (F_X12_wins_L29 N f) from rfl]
    unfold F_X12_wins_J29
    rw [if_pos (nI_le (Nat.le_refl _) (by omega)), if_pos (bI_01 _), bI_c (show (∃ key, key < 5 ^ k ∧ ∃ r, r < bZ β ∧ lft β (dL δ) r ∧ kd (boc β) ch k r k = key ∧ 0 < wsm β (dL δ) u x r) ↔ wok β (dL δ) u x from ⟨fun z => hall.mpr ⟨hno, z⟩, fun z => (hall.mp z).2⟩)]) (fun f i hi ih hno => by
    rw [show F_X12_wins_L29 N (f + 1) = F_X12_wins_J29 N (F_X12_wins_L29 N f) from rfl]
    simp only [F_X12_wins_J29, F_X12_wins_J176, nI_ge hi (show 5 ^ k < 2 ^ 31 by omega), if_false, gA h1 ma56, rdI hg1 (show i < 15625 by omega) (by decide), nI_1, Option.bind_some, bd2_s]
    rcases hg i hi with ⟨z1, r, r1, r2, r3⟩ | ⟨z1, z2⟩
    · rw [z1, if_neg (by decide)]
      have ks := ksum r (bI (∃ key, key < i ∧ ∃ r, r < bZ β ∧ lft β (dL δ) r ∧ kd (boc β) ch k r k = key ∧ 0 < wsm β (dL δ) u x r)) (F_X12_wins_J154 N (F_X12_wins_L29 N f))
      rw [r3] at ks
      rw [ks]
      unfold F_X12_wins_J154 F_X12_wins_J175 F_X12_wins_J170 F_X12_wins_J175 F_X12_wins_J176
      by_cases hneg : 0 ≤ wsm β (dL δ) u x r
      · rw [if_pos hneg]
        have ih := ih (fun key hkey r' q1 q2 q3 => by
          by_cases e : key = i
          · rw [← hsame r r' (by rw [r3, q3, e])]; exact Int32.not_lt.mpr hneg
          · exact hno key (by omega) r' q1 q2 q3)
        rw [nI_1]
        by_cases hf : ∃ key, key < i ∧ ∃ r, r < bZ β ∧ lft β (dL δ) r ∧ kd (boc β) ch k r k = key ∧ 0 < wsm β (dL δ) u x r
        · rw [bI_t hf, if_neg (by decide)]
          rw [bI_t (by obtain ⟨key, k1, k2⟩ := hf; exact ⟨key, by omega, k2⟩)] at ih
          exact ih
        · rw [bI_f hf, if_pos rfl]
          by_cases hz : wsm β (dL δ) u x r ≤ 0
          · rw [if_pos hz]
            rw [bI_f (by
              rintro ⟨key, k1, r', q1, q2, q3, q4⟩
              by_cases e : key = i
              · rw [← hsame r r' (by rw [r3, q3, e])] at q4
                exact Int32.not_le.mpr q4 hz
              · exact hf ⟨key, by omega, r', q1, q2, q3, q4⟩)] at ih
            exact ih
          · rw [if_neg hz]
            rw [bI_t ⟨i, by omega, r, r1, r2, r3, Int32.not_le.mp hz⟩] at ih
            exact ih
      · rw [if_neg hneg, bI_f (fun z => (hall.mp z).1 i hi r r1 r2 r3 (Int32.not_le.mp hneg))]
    · rw [z1, if_pos rfl]
      have ih := ih (fun key hkey r' q1 q2 q3 => by
        by_cases e : key = i
        · exact absurd (q3.trans e) (z2 r' q1 q2)
        · exact hno key (by omega) r' q1 q2 q3)
      rw [bI_c (show (∃ key, key < i + 1 ∧ ∃ r, r < bZ β ∧ lft β (dL δ) r ∧ kd (boc β) ch k r k = key ∧ 0 < wsm β (dL δ) u x r) ↔ ∃ key, key < i ∧ ∃ r, r < bZ β ∧ lft β (dL δ) r ∧ kd (boc β) ch k r k = key ∧ 0 < wsm β (dL δ) u x r from ⟨fun ⟨key, k1, r', q1, q2, q3, q4⟩ => ⟨key, by
        by_cases e : key = i
        · exact absurd (q3.trans e) (z2 r' q1 q2)
        · omega, r', q1, q2, q3, q4⟩, fun ⟨key, k1, k2⟩ => ⟨key, by omega, k2⟩⟩)] at ih
      exact ih) N 0 (Nat.zero_le _) (by omega) (fun key hkey => by omega)
  rw [bI_f (by rintro ⟨key, k1, -⟩; omega)] at keys
  have pw := upto (s := k) (P := fun f i => F_X12_wins_L7 N (F_X12_wins_J26 N) f (some m) (nI x) 0 (nI (5 ^ i)) (nI i) H = F_X12_wins_J26 N (some m) (nI x) 0 (nI (5 ^ k)) H) (fun f => by
    rw [show F_X12_wins_L7 N (F_X12_wins_J26 N) (f + 1) = F_X12_wins_J7 N (F_X12_wins_L7 N (F_X12_wins_J26 N) f) (F_X12_wins_J26 N) from rfl]
    simp only [F_X12_wins_J7, r58, nI_le (Nat.le_refl _) (show k < 2 ^ 31 by omega), if_true, Option.bind_some, bd2_s]) (fun f i hi ih => by
    have e : nI (5 ^ i) * (5 : Int32) = nI (5 ^ (i + 1)) := by rw [Nat.pow_succ]; exact pk_mul _ _
    rw [show F_X12_wins_L7 N (F_X12_wins_J26 N) (f + 1) = F_X12_wins_J7 N (F_X12_wins_L7 N (F_X12_wins_J26 N) f) (F_X12_wins_J26 N) from rfl]
    simp only [F_X12_wins_J7, r58, nI_ge hi (show k < 2 ^ 31 by omega), if_false, e, nI_1, Option.bind_some, bd2_s]
    exact ih) N 0 (Nat.zero_le _) (by omega)
  unfold F_X12_wins
  rw [show F_X12_wins_L7 N (F_X12_wins_J26 N) N (some m) (nI x) (0 : Int32) (1 : Int32) (0 : Int32) H = _ from pw]
  exact keys
end Win6
