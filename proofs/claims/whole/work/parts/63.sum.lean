/-! PURE: the lowest bit of a long; the sum over the wagers of a cell. -/
theorem bit_hi {k Y r : Nat} (hr : r < 2 ^ (k + 1)) (i : Nat) : (2 ^ (k + 1) * Y + r).testBit i = if i < k + 1 then r.testBit i else Y.testBit (i - (k + 1)) := Nat.testBit_two_pow_mul_add Y hr i
theorem p2_lt (k : Nat) : 2 ^ k < 2 ^ (k + 1) := Nat.pow_lt_pow_right (by decide) (Nat.lt_succ_self k)
theorem low_pred {k Y : Nat} : 2 ^ (k + 1) * Y + 2 ^ k - 1 = 2 ^ (k + 1) * Y + (2 ^ k - 1) := by
  have := Nat.pow_pos (n := k) (by decide : 0 < 2)
  omega
theorem bit_pred (k i : Nat) : (2 ^ k - 1).testBit i = decide (i < k) := Nat.testBit_two_pow_sub_one k i
theorem ntz_nat {k Y n : Nat} (hX : 2 ^ (k + 1) * Y + 2 ^ k < 2 ^ n) : (2 ^ n - 1 - (2 ^ (k + 1) * Y + 2 ^ k)) &&& (2 ^ (k + 1) * Y + 2 ^ k - 1) = 2 ^ k - 1 := by
  have hk := p2_lt k
  refine Nat.eq_of_testBit_eq (fun i => ?_)
  rw [Nat.testBit_and, show 2 ^ n - 1 - (2 ^ (k + 1) * Y + 2 ^ k) = 2 ^ n - ((2 ^ (k + 1) * Y + 2 ^ k) + 1) by omega, Nat.testBit_two_pow_sub_succ hX, low_pred, bit_hi hk, bit_hi (by omega), bit_pred, Nat.testBit_two_pow]
  have hkn : k < n := by
    have : 2 ^ k < 2 ^ n := by omega
    exact (Nat.pow_lt_pow_iff_right (by decide)).mp this
  by_cases h : i < k + 1
  · rw [if_pos h, if_pos h]
    by_cases h2 : i < k
    · simp [h2, show ¬ k = i by omega, show i < n by omega]
    · simp [h2]
  · rw [if_neg h, if_neg h]
    simp [show ¬ i < k by omega]
theorem clr_nat {k Y : Nat} : (2 ^ (k + 1) * Y + 2 ^ k) &&& (2 ^ (k + 1) * Y + 2 ^ k - 1) = 2 ^ (k + 1) * Y := by
  have hk := p2_lt k
  refine Nat.eq_of_testBit_eq (fun i => ?_)
  have h0 := bit_hi (k := k) (Y := Y) (r := 0) (Nat.pow_pos (by decide)) i
  rw [Nat.add_zero] at h0
  rw [Nat.testBit_and, low_pred, bit_hi hk, bit_hi (by omega), bit_pred, Nat.testBit_two_pow, h0]
  by_cases h : i < k + 1
  · rw [if_pos h, if_pos h, if_pos h]
    by_cases h2 : i < k
    · simp [h2, show ¬ k = i by omega]
    · simp [h2]
  · rw [if_neg h, if_neg h, if_neg h]
    simp
section Ntz
variable {N : Nat} {H : xH}
noncomputable def nzF (N : Nat) (z : Int32) (H : xH) : Option (Int32 × xH) := if 0 < z then (if z ≤ (65536 : Int32) then ((F_J6_numberOfTrailingZeros_0f7a4_J34 N) z (1 : Int32) H) else ((F_J6_numberOfTrailingZeros_0f7a4_J34 N) ((z.toUInt32 >>> ((16 : Int32).toUInt32 &&& Int32.toUInt32 31)).toInt32) ((1 : Int32) + 16) H)) else (some ((z &&& (32 : Int32)), H))
theorem nzF_e (x : Int32) : F_J6_numberOfTrailingZeros_0f7a4 N x H = nzF N ((x ^^^ (-1 : Int32)) &&& (x - (1 : Int32))) H := rfl
theorem nzF_v : ∀ k, k < 32 → nzF N (nI (2 ^ k - 1)) H = some (nI k, H) := by
  intro k hk
  have : k = 0 ∨ k = 1 ∨ k = 2 ∨ k = 3 ∨ k = 4 ∨ k = 5 ∨ k = 6 ∨ k = 7 ∨ k = 8 ∨ k = 9 ∨ k = 10 ∨ k = 11 ∨ k = 12 ∨ k = 13 ∨ k = 14 ∨ k = 15 ∨ k = 16 ∨ k = 17 ∨ k = 18 ∨ k = 19 ∨ k = 20 ∨ k = 21 ∨ k = 22 ∨ k = 23 ∨ k = 24 ∨ k = 25 ∨ k = 26 ∨ k = 27 ∨ k = 28 ∨ k = 29 ∨ k = 30 ∨ k = 31 := by omega
  rcases this with rfl | rfl | rfl | rfl | rfl | rfl | rfl | rfl | rfl | rfl | rfl | rfl | rfl | rfl | rfl | rfl | rfl | rfl | rfl | rfl | rfl | rfl | rfl | rfl | rfl | rfl | rfl | rfl | rfl | rfl | rfl | rfl <;> rfl
theorem msk32 {x : Int32} {k Y : Nat} (h : x.toBitVec.toNat = 2 ^ (k + 1) * Y + 2 ^ k) : (x ^^^ (-1 : Int32)) &&& (x - (1 : Int32)) = nI (2 ^ k - 1) := by
  have hlt : x.toBitVec.toNat < 2 ^ 32 := x.toBitVec.isLt
  have hk : 2 ^ k < 2 ^ 32 := by omega
  have hp := Nat.pow_pos (n := k) (by decide : 0 < 2)
  apply Int32.toBitVec_inj.mp
  apply BitVec.eq_of_toNat_eq
  show ((x.toBitVec ^^^ (-1 : Int32).toBitVec) &&& (x.toBitVec - (1 : Int32).toBitVec)).toNat = (BitVec.ofNat 32 (2 ^ k - 1)).toNat
  rw [BitVec.toNat_and, show (-1 : Int32).toBitVec = BitVec.allOnes 32 by decide, BitVec.xor_allOnes, BitVec.toNat_not, BitVec.toNat_sub, BitVec.toNat_ofNat, show (1 : Int32).toBitVec.toNat = 1 by decide, h]
  have e : (2 ^ 32 - 1 + (2 ^ (k + 1) * Y + 2 ^ k)) % 2 ^ 32 = 2 ^ (k + 1) * Y + 2 ^ k - 1 := by omega
  rw [e, ntz_nat (by omega), Nat.mod_eq_of_lt (by omega)]
theorem S_ntz32 {x : Int32} {k Y : Nat} (h : x.toBitVec.toNat = 2 ^ (k + 1) * Y + 2 ^ k) : F_J6_numberOfTrailingZeros_0f7a4 N x H = some (nI k, H) := by
  have hlt : x.toBitVec.toNat < 2 ^ 32 := x.toBitVec.isLt
  have hk : k < 32 := (Nat.pow_lt_pow_iff_right (by decide : 1 < 2)).mp (by omega)
  rw [nzF_e, msk32 h, nzF_v k hk]
theorem lo32 (x : Int64) : x.toInt32.toBitVec.toNat = uL x % 2 ^ 32 := by
  show (x.toBitVec.signExtend 32).toNat = _
  rw [BitVec.signExtend_eq_setWidth_of_le _ (by decide), BitVec.toNat_setWidth]; rfl
theorem hi32 (x : Int64) : uL ((x.toUInt64 >>> ((32 : Int32).toInt64.toUInt64 &&& Int64.toUInt64 63)).toInt64) = uL x / 2 ^ 32 := by
  rw [show ((32 : Int32).toInt64.toUInt64 &&& Int64.toUInt64 63) = 32 by decide]
  show (x.toUInt64 >>> (32 : UInt64)).toBitVec.toNat = _
  rw [UInt64.toBitVec_shiftRight]
  show (x.toBitVec >>> ((32 : UInt64).toBitVec % 64)).toNat = _
  rw [BitVec.ushiftRight_eq', BitVec.toNat_ushiftRight, Nat.shiftRight_eq_div_pow]; rfl
theorem lowmod {k Y a b : Nat} (hb : a = k + 1 + b) : (2 ^ (k + 1) * Y + 2 ^ k) % 2 ^ a = 2 ^ (k + 1) * (Y % 2 ^ b) + 2 ^ k := by
  have hk := p2_lt k
  have hp : 2 ^ a = 2 ^ (k + 1) * 2 ^ b := by rw [hb, Nat.pow_add]
  rw [hp, Nat.mod_mul, Nat.mul_add_mod, Nat.mod_eq_of_lt hk, Nat.mul_add_div (Nat.pow_pos (by decide)), Nat.div_eq_of_lt hk, Nat.add_comm]; rfl
theorem S_ntz64 {x : Int64} {k Y : Nat} (h : uL x = 2 ^ (k + 1) * Y + 2 ^ k) : F_J13_numberOfTrailingZeros_95d88 N x H = some (nI k, H) := by
  have hlt := uL_lt x
  have hp := Nat.pow_pos (n := k) (by decide : 0 < 2)
  have hk : k < 64 := (Nat.pow_lt_pow_iff_right (by decide : 1 < 2)).mp (by omega)
  have h0 : x.toInt32 = 0 ↔ uL x % 2 ^ 32 = 0 := by
    rw [← lo32]
    exact ⟨fun e => by rw [e]; rfl, fun e => Int32.toBitVec_inj.mp (BitVec.eq_of_toNat_eq e)⟩
  unfold F_J13_numberOfTrailingZeros_95d88
  rcases Nat.lt_or_ge k 32 with q | q
  · have e := lowmod (k := k) (Y := Y) (a := 32) (b := 31 - k) (by omega)
    rw [if_neg (fun z => by rw [h0, h, e] at z; omega), S_ntz32 (Y := Y % 2 ^ (31 - k)) (by rw [lo32, h, e])]; rfl
  · have e : 2 ^ (k + 1) * Y + 2 ^ k = 2 ^ 32 * (2 ^ (k - 32 + 1) * Y + 2 ^ (k - 32)) := by
      rw [Nat.mul_add, ← Nat.mul_assoc, ← Nat.pow_add, ← Nat.pow_add, show 32 + (k - 32 + 1) = k + 1 by omega, show 32 + (k - 32) = k by omega]
    have e2 : uL x / 2 ^ 32 = 2 ^ (k - 32 + 1) * Y + 2 ^ (k - 32) := by
      rw [h, e, Nat.mul_div_cancel_left _ (by decide)]
    have e3 : 2 ^ (k - 32 + 1) * Y + 2 ^ (k - 32) < 2 ^ 32 := by rw [← e2]; omega
    rw [if_pos (by rw [h0, h, e, Nat.mul_mod_right]), S_ntz32 (k := k - 32) (Y := Y) (by rw [lo32, hi32, e2, Nat.mod_eq_of_lt e3])]
    show some ((32 : Int32) + nI (k - 32), H) = _
    rw [show (32 : Int32) = nI 32 from rfl, nI_add, show 32 + (k - 32) = k by omega]
theorem clr64 {x : Int64} {k Y : Nat} (h : uL x = 2 ^ (k + 1) * Y + 2 ^ k) : uL (x &&& (x - (1 : Int64))) = 2 ^ (k + 1) * Y := by
  have hlt := uL_lt x
  have hp := Nat.pow_pos (n := k) (by decide : 0 < 2)
  rw [uL_and]
  have e : uL (x - (1 : Int64)) = uL x - 1 := by
    show (x.toBitVec - (1 : Int64).toBitVec).toNat = _
    rw [BitVec.toNat_sub, show (1 : Int64).toBitVec.toNat = 1 by decide]
    show (2 ^ 64 - 1 + uL x) % 2 ^ 64 = _
    omega
  rw [e, h, clr_nat]
end Ntz
/-- digits below w are 0 -/
theorem d5_low {x : Int64} : ∀ w, (∀ v, v < w → d5 x v = 0) → uL x % 2 ^ (5 * w) = 0 := by
  intro w
  induction w with
  | zero => intro _; simp [Nat.mod_one]
  | succ w ih =>
    intro h
    have h1 := ih (fun v hv => h v (by omega))
    have h2 := h w (by omega)
    unfold d5 at h2
    rw [Nat.mul_succ, Nat.pow_add, Nat.mod_mul, h1, show 2 ^ 5 = 32 from rfl, h2, Nat.mul_zero]
theorem d5_split {x : Int64} {w o : Nat} (h0 : ∀ v, v < w → d5 x v = 0) (h1 : d5 x w = 2 ^ o) (ho : o < 5) : ∃ q, uL x = 2 ^ (5 * w + o + 1) * (q * 2 ^ (4 - o)) + 2 ^ (5 * w + o) ∧ uL x / 2 ^ (5 * (w + 1)) = q := by
  have hl := d5_low w h0
  refine ⟨uL x / 2 ^ (5 * (w + 1)), ?_, rfl⟩
  unfold d5 at h1
  have e0 : uL x = 2 ^ (5 * w) * (uL x / 2 ^ (5 * w)) := by
    have := Nat.div_add_mod (uL x) (2 ^ (5 * w))
    omega
  have e1 : uL x / 2 ^ (5 * w) = 32 * (uL x / 2 ^ (5 * (w + 1))) + 2 ^ o := by
    have := Nat.div_add_mod (uL x / 2 ^ (5 * w)) 32
    rw [h1, Nat.div_div_eq_div_mul, show 2 ^ (5 * w) * 32 = 2 ^ (5 * (w + 1)) by rw [show 5 * (w + 1) = 5 * w + 5 by omega, Nat.pow_add, show (2 : Nat) ^ 5 = 32 from rfl]] at this
    exact this.symm
  generalize uL x / 2 ^ (5 * (w + 1)) = q at e1
  rw [e0, e1, Nat.mul_add]
  congr 1
  · rw [← Nat.mul_assoc, Nat.mul_comm q, ← Nat.mul_assoc, ← Nat.pow_add]
    congr 1
    rw [show (32 : Nat) = 2 ^ 5 from rfl, ← Nat.pow_add]
    congr 1
    omega
  · rw [← Nat.pow_add]
theorem d5_clr {x : Int64} {w o : Nat} (h0 : ∀ v, v < w → d5 x v = 0) (h1 : d5 x w = 2 ^ o) (ho : o < 5) : (∀ v, v < w + 1 → d5 (x &&& (x - (1 : Int64))) v = 0) ∧ ∀ v, w < v → d5 (x &&& (x - (1 : Int64))) v = d5 x v := by
  obtain ⟨q, e1, e2⟩ := d5_split h0 h1 ho
  have e3 := clr64 e1
  have e4 : uL (x &&& (x - (1 : Int64))) = q * 2 ^ (5 * (w + 1)) := by
    rw [e3, Nat.mul_comm, Nat.mul_assoc, ← Nat.pow_add]
    congr 2
    omega
  refine ⟨fun v hv => ?_, fun v hv => ?_⟩
  · unfold d5
    rw [e4, show 5 * (w + 1) = (5 * (w - v) + 5) + 5 * v by omega, Nat.pow_add, ← Nat.mul_assoc, Nat.mul_div_cancel _ (Nat.pow_pos (by decide)), Nat.pow_add, ← Nat.mul_assoc]
    exact Nat.mul_mod_left _ _
  · unfold d5
    have hs : 2 ^ (5 * v) = 2 ^ (5 * (w + 1)) * 2 ^ (5 * (v - w - 1)) := by
      rw [← Nat.pow_add]
      congr 1
      omega
    rw [hs, ← Nat.div_div_eq_div_mul, ← Nat.div_div_eq_div_mul, e2, e4, Nat.mul_div_cancel _ (Nat.pow_pos (by decide))]
/-- what a cell's wagers come to: 12 - n of them on, by their outcomes -/
noncomputable def sm (f : Nat → Int32) : Nat → Nat → Int32
  | 0, _ => 0
  | n + 1, w => f w + sm f n (w + 1)
theorem sm_congr {f g : Nat → Int32} : ∀ n w, (∀ v, w ≤ v → v < w + n → f v = g v) → sm f n w = sm g n w := by
  intro n
  induction n with
  | zero => intro w _; rfl
  | succ n ih =>
    intro w h
    simp only [sm]
    rw [h w (Nat.le_refl _) (by omega), ih (w + 1) (fun v h1 h2 => h v (by omega) (by omega))]
theorem sm_snoc {f : Nat → Int32} : ∀ n w, sm f (n + 1) w = sm f n w + f (w + n) := by
  intro n
  induction n with
  | zero => intro w; simp [sm]
  | succ n ih =>
    intro w
    rw [show sm f (n + 1 + 1) w = f w + sm f (n + 1) (w + 1) from rfl, ih (w + 1), show sm f (n + 1) w = f w + sm f n (w + 1) from rfl, Int32.add_assoc, show w + 1 + n = w + (n + 1) by omega]
theorem sm_zero {f : Nat → Int32} : ∀ n w, (∀ v, w ≤ v → v < w + n → f v = 0) → sm f n w = 0 := by
  intro n
  induction n with
  | zero => intro w _; rfl
  | succ n ih =>
    intro w h
    simp only [sm]
    rw [h w (Nat.le_refl _) (by omega), ih (w + 1) (fun v h1 h2 => h v (by omega) (by omega)), Int32.add_zero]
theorem sm_cut {f : Nat → Int32} {W : Nat} (hW : W ≤ 12) (h : ∀ v, W ≤ v → v < 12 → f v = 0) : sm f 12 0 = sm f W 0 := by
  have key : ∀ k, k ≤ 12 - W → sm f (W + k) 0 = sm f W 0 := by
    intro k
    induction k with
    | zero => intro _; rfl
    | succ k ih =>
      intro hk
      rw [show W + (k + 1) = (W + k) + 1 by omega, sm_snoc, ih (by omega), h (0 + (W + k)) (by omega) (by omega), Int32.add_zero]
  have := key (12 - W) (Nat.le_refl _)
  rwa [show W + (12 - W) = 12 by omega] at this
theorem msk60 : ∀ w, w < 12 → d5 1152921504606846975 w = 31 := by decide +kernel
theorem msk60' : d5 1152921504606846975 12 = 0 := by decide +kernel
section Sum
variable {N : Nat} {H : xH}
theorem S_sumL {a gc : Nat} {fs : List Value} {G : Nat → Int32} (h1 : H.1 a = some (ob 3 fs)) (h2 : fs[0]? = some (va_rf (some gc))) (h3 : H.1 gc = some (aI 60 G)) {o : Nat → Nat} (ho : ∀ w, o w < 5) (x : Int64) : ∀ k w, k + w = 12 → ∀ n, k < n → ∀ i, i ≤ w → ∀ (acc : Int32) (r : Int64), (∀ v, v < w → d5 r v = 0) → (∀ v, w ≤ v → v < 12 → d5 r v = d5 x v) → d5 r 12 = 0 → (∀ v, v < 12 → d5 x v = 0 ∨ d5 x v = 2 ^ o v) →
    F_X3_sum_L12 N n (some a) acc r (nI i) H = some (acc + sm (fun v => @ite _ (d5 x v = 0) (Classical.propDecidable _) 0 (G (5 * v + o v))) k w, H) := by
  intro k
  induction k with
  | zero =>
    intro w hkw n hn i hi acc r r1 r2 r3 r4
    obtain ⟨n, rfl⟩ : ∃ n', n = n' + 1 := ⟨n - 1, by omega⟩
    have hr : r = 0 := d5_ext (fun v hv => by
      rw [d5_0]
      rcases Nat.lt_or_ge v 12 with z | z
      · exact r1 v (by omega)
      · rw [show v = 12 by omega]; exact r3)
    simp only [F_X3_sum_L12, F_X3_sum_J12, hr, lgc, if_true, sm, Int32.add_zero]
    split <;> rfl
  | succ k ih =>
    intro w hkw n hn i hi acc r r1 r2 r3 r4
    have hw : w < 12 := by omega
    rcases r4 w hw with z | z
    · have e := ih (w + 1) (by omega) n (by omega) i (by omega) acc r (fun v hv => by
        by_cases q : v = w
        · rw [q, r2 w (Nat.le_refl _) hw, z]
        · exact r1 v (by omega)) (fun v h1 h2 => r2 v (by omega) h2) r3 r4
      rw [e]
      simp only [sm, z, if_true, Int32.zero_add]
    · obtain ⟨n, rfl⟩ : ∃ n', n = n' + 1 := ⟨n - 1, by omega⟩
      have z' : d5 r w = 2 ^ o w := by rw [r2 w (Nat.le_refl _) hw, z]
      obtain ⟨q, e1, e2⟩ := d5_split r1 z' (ho w)
      obtain ⟨c1, c2⟩ := d5_clr r1 z' (ho w)
      have hr : ¬ r = 0 := fun q => by
        rw [q, d5_0] at z'
        have := Nat.pow_pos (n := o w) (by decide : 0 < 2)
        omega
      have how := ho w
      have e := ih (w + 1) (by omega) n (by omega) (i + 1) (by omega) (acc + G (5 * w + o w)) (r &&& (r - (1 : Int64))) c1 (fun v h1 h2 => by rw [c2 v (by omega), r2 v (by omega) h2]) (by rw [c2 12 (by omega), r3]) r4
      have i12 : ¬ (12 : Int32) ≤ nI i := nI_ge (show i < 12 by omega) (by decide)
      simp only [F_X3_sum_L12, F_X3_sum_J12, i12, if_false, lgc, hr, gA h1 h2, S_ntz64 e1, S_at h3 (by decide : 60 < 2 ^ 31), gat_nI (show 5 * w + o w < 2 ^ 31 by omega), show 5 * w + o w < 60 by omega, if_true, nI_1, Option.bind_some, bd2_s]
      rw [e]
      have hz : ¬ d5 x w = 0 := by
        have := Nat.pow_pos (n := o w) (by decide : 0 < 2)
        omega
      simp only [sm, hz, if_false, Int32.add_assoc]
/-- the sum over the wagers whose outcome a cell tells -/
theorem S_sum (hN : 12 < N) {a gc : Nat} {fs : List Value} {G : Nat → Int32} (h1 : H.1 a = some (ob 3 fs)) (h2 : fs[0]? = some (va_rf (some gc))) (h3 : H.1 gc = some (aI 60 G)) {o : Nat → Nat} (ho : ∀ w, o w < 5) {x : Int64} (hx : ∀ v, v < 12 → d5 x v = 0 ∨ d5 x v = 2 ^ o v) : F_X3_sum N (some a) x H = some (sm (fun v => @ite _ (d5 x v = 0) (Classical.propDecidable _) 0 (G (5 * v + o v))) 12 0, H) := by
  unfold F_X3_sum
  have := S_sumL (N := N) h1 h2 h3 ho x 12 0 rfl N hN 0 (Nat.le_refl _) 0 (x &&& (1152921504606846975 : Int64)) (fun v hv => by omega) (fun v _ hv => by rw [d5_and, msk60 v hv, and31 (d5_lt x v)]) (by rw [d5_and, msk60', Nat.and_zero]) hx
  rw [Int32.zero_add] at this
  exact this
end Sum
