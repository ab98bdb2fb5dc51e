/-! PURE: a long as thirteen digits to the base 32. -/
def uL (x : Int64) : Nat := x.toBitVec.toNat
theorem uL_lt (x : Int64) : uL x < 2 ^ 64 := x.toBitVec.isLt
theorem uL_inj {x y : Int64} (h : uL x = uL y) : x = y := Int64.toBitVec_inj.mp (BitVec.eq_of_toNat_eq h)
theorem uL_or (x y : Int64) : uL (x ||| y) = uL x ||| uL y := by simp [uL]
theorem uL_and (x y : Int64) : uL (x &&& y) = uL x &&& uL y := by simp [uL]
def d5 (x : Int64) (w : Nat) : Nat := uL x / 2 ^ (5 * w) % 32
theorem d5_lt (x : Int64) (w : Nat) : d5 x w < 32 := Nat.mod_lt _ (by decide)
theorem d5_or (x y : Int64) (w : Nat) : d5 (x ||| y) w = d5 x w ||| d5 y w := by
  unfold d5
  rw [uL_or, ← Nat.shiftRight_eq_div_pow, ← Nat.shiftRight_eq_div_pow, ← Nat.shiftRight_eq_div_pow, Nat.shiftRight_or_distrib]
  exact Nat.or_mod_two_pow (n := 5)
theorem d5_and (x y : Int64) (w : Nat) : d5 (x &&& y) w = d5 x w &&& d5 y w := by
  unfold d5
  rw [uL_and, ← Nat.shiftRight_eq_div_pow, ← Nat.shiftRight_eq_div_pow, ← Nat.shiftRight_eq_div_pow, Nat.shiftRight_and_distrib]
  exact Nat.and_mod_two_pow (n := 5)
theorem nat_d5 (a b : Nat) : ∀ n, a < 2 ^ (5 * n) → b < 2 ^ (5 * n) → (∀ w, w < n → a / 2 ^ (5 * w) % 32 = b / 2 ^ (5 * w) % 32) → a = b := by
  intro n
  induction n generalizing a b with
  | zero => intro ha hb _; simp at ha hb; omega
  | succ n ih =>
    intro ha hb h
    have e0 := h 0 (Nat.succ_pos n)
    simp at e0
    have e1 : a / 32 = b / 32 := by
      refine ih (a / 32) (b / 32) ?_ ?_ (fun w hw => ?_)
      · rw [Nat.div_lt_iff_lt_mul (by decide)]
        calc a < 2 ^ (5 * (n + 1)) := ha
          _ = 2 ^ (5 * n) * 32 := by rw [Nat.mul_succ, Nat.pow_add]
      · rw [Nat.div_lt_iff_lt_mul (by decide)]
        calc b < 2 ^ (5 * (n + 1)) := hb
          _ = 2 ^ (5 * n) * 32 := by rw [Nat.mul_succ, Nat.pow_add]
      · have := h (w + 1) (by omega)
        rw [Nat.mul_succ, Nat.pow_add, Nat.mul_comm, ← Nat.div_div_eq_div_mul, ← Nat.div_div_eq_div_mul] at this
        exact this
    omega
theorem d5_ext {x y : Int64} (h : ∀ w, w < 13 → d5 x w = d5 y w) : x = y := by
  refine uL_inj (nat_d5 _ _ 13 ?_ ?_ h)
  · exact Nat.lt_of_lt_of_le (uL_lt x) (by decide)
  · exact Nat.lt_of_lt_of_le (uL_lt y) (by decide)
theorem d5_0 (w : Nat) : d5 0 w = 0 := by simp [d5, uL]
theorem i32_nat (n : Nat) (h : n < 32) : (BitVec.ofNat 32 n).toNat = n := by simp; omega
theorem obits_d5 (x : Int64) {w : Nat} (hw : w < 12) : obits x (nI w) = nI (d5 x w) := by
  have hsh : (((5 : Int32) * nI w).toInt64.toUInt64 &&& Int64.toUInt64 63) = UInt64.ofNat (5 * w) := by
    have : ∀ w, w < 12 → (((5 : Int32) * nI w).toInt64.toUInt64 &&& Int64.toUInt64 63) = UInt64.ofNat (5 * w) := by decide +kernel
    exact this w hw
  unfold obits
  rw [hsh]
  apply Int32.toBitVec_inj.mp
  apply BitVec.eq_of_toNat_eq
  have h5 : 5 * w < 64 := by omega
  have e1 : (UInt64.ofNat (5 * w)).toNat % 64 = 5 * w := by
    rw [UInt64.toNat_ofNat']
    omega
  have e2 : ((x.toUInt64 >>> UInt64.ofNat (5 * w)).toInt64).toBitVec.toNat = uL x / 2 ^ (5 * w) := by
    show (x.toUInt64 >>> UInt64.ofNat (5 * w)).toBitVec.toNat = _
    rw [UInt64.toBitVec_shiftRight]
    show (x.toBitVec >>> ((UInt64.ofNat (5 * w)).toBitVec % 64)).toNat = _
    rw [BitVec.ushiftRight_eq', BitVec.toNat_ushiftRight, Nat.shiftRight_eq_div_pow]
    have : ((UInt64.ofNat (5 * w)).toBitVec % 64).toNat = 5 * w := by
      rw [BitVec.toNat_umod]
      exact e1
    rw [this]
    rfl
  show ((((x.toUInt64 >>> UInt64.ofNat (5 * w)).toInt64).toInt32).toBitVec &&& (31 : Int32).toBitVec).toNat = (BitVec.ofNat 32 (d5 x w)).toNat
  rw [BitVec.toNat_and, i32_nat _ (d5_lt x w)]
  have e3 : (((x.toUInt64 >>> UInt64.ofNat (5 * w)).toInt64).toInt32).toBitVec.toNat = uL x / 2 ^ (5 * w) % 2 ^ 32 := by
    show (((x.toUInt64 >>> UInt64.ofNat (5 * w)).toInt64).toBitVec.signExtend 32).toNat = _
    rw [BitVec.signExtend_eq_setWidth_of_le _ (by decide), BitVec.toNat_setWidth, e2]
  rw [e3]
  show _ &&& 31 = _
  rw [show (31 : Nat) = 2 ^ 5 - 1 from rfl, Nat.and_two_pow_sub_one_eq_mod]
  unfold d5
  rw [Nat.mod_mod_of_dvd _ (by decide : 2 ^ 5 ∣ 2 ^ 32)]
