/-! PURE: how many bits a long has. -/
theorem and_blk {q r M m0 : Nat} (hr : r < 256) (hm : m0 < 256) : (256 * q + r) &&& (256 * M + m0) = 256 * (q &&& M) + (r &&& m0) := by
  have h2 : r &&& m0 < 256 := Nat.lt_of_le_of_lt Nat.and_le_left hr
  refine Nat.eq_of_testBit_eq (fun i => ?_)
  rw [Nat.testBit_and, show (256 : Nat) = 2 ^ 8 from rfl, Nat.testBit_two_pow_mul_add q hr, Nat.testBit_two_pow_mul_add M hm, Nat.testBit_two_pow_mul_add (q &&& M) h2]
  by_cases h : i < 8
  · rw [if_pos h, if_pos h, if_pos h, Nat.testBit_and]
  · rw [if_neg h, if_neg h, if_neg h, Nat.testBit_and]
def mK (x : Nat) : Nat → Nat
  | 0 => 0
  | k + 1 => 256 * mK x k + x
def a1 (r : Nat) : Nat := r - (r / 2 &&& 85)
def a2 (r : Nat) : Nat := (r &&& 51) + (r / 4 &&& 51)
def a3 (r : Nat) : Nat := r % 16 + r / 16
theorem a1_d : ∀ r, r < 256 → (∀ e, e < 2 → (128 * e + r / 2) &&& 85 = r / 2 &&& 85) ∧ r / 2 &&& 85 ≤ r := by decide +kernel
theorem a2_d : ∀ r, r < 256 → (∀ e, e < 4 → (64 * e + r / 4) &&& 51 = r / 4 &&& 51) ∧ a2 r < 256 := by decide +kernel
theorem a3_d : ∀ r, r < 256 → (∀ e, e < 5 → r % 16 < 5 → r / 16 < 5 → r + 16 * e + r / 16 < 256 ∧ (r + 16 * e + r / 16) &&& 15 = a3 r) := by decide +kernel
theorem a12_d : ∀ r, r < 256 → a1 r < 256 ∧ a2 (a1 r) % 16 < 5 ∧ a2 (a1 r) / 16 < 5 ∧ a3 (a2 (a1 r)) ≤ 8 := by decide +kernel
/-- the bytes of a number, one by one -/
def bys (f : Nat → Nat) (X : Nat) : Nat → Nat
  | 0 => 0
  | k + 1 => 256 * bys f (X / 256) k + f (X % 256)
theorem s1_b : ∀ k X, X < 256 ^ k → X / 2 &&& mK 85 k ≤ X ∧ X - (X / 2 &&& mK 85 k) = bys a1 X k := by
  intro k
  induction k with
  | zero => intro X hX; simp [mK, bys] at hX ⊢; omega
  | succ k ih =>
    intro X hX
    have hq : X / 256 < 256 ^ k := by rw [Nat.div_lt_iff_lt_mul (by decide)]; rwa [Nat.pow_succ] at hX
    obtain ⟨i1, i2⟩ := ih _ hq
    have hr : X % 256 < 256 := Nat.mod_lt _ (by decide)
    obtain ⟨d1, d2⟩ := a1_d _ hr
    have e1 : X / 2 = 256 * (X / 256 / 2) + (128 * (X / 256 % 2) + X % 256 / 2) := by omega
    have e2 : X / 2 &&& mK 85 (k + 1) = 256 * (X / 256 / 2 &&& mK 85 k) + (X % 256 / 2 &&& 85) := by
      rw [e1, show mK 85 (k + 1) = 256 * mK 85 k + 85 from rfl, and_blk (by omega) (by decide), d1 _ (Nat.mod_lt _ (by decide))]
    rw [e2]
    simp only [bys, a1]
    omega
theorem s2_b : ∀ k X, X < 256 ^ k → (X &&& mK 51 k) + (X / 4 &&& mK 51 k) = bys a2 X k := by
  intro k
  induction k with
  | zero => intro X hX; simp [mK, bys]
  | succ k ih =>
    intro X hX
    have hq : X / 256 < 256 ^ k := by rw [Nat.div_lt_iff_lt_mul (by decide)]; rwa [Nat.pow_succ] at hX
    have i2 := ih _ hq
    have hr : X % 256 < 256 := Nat.mod_lt _ (by decide)
    obtain ⟨d1, d2⟩ := a2_d _ hr
    have e1 : X / 4 = 256 * (X / 256 / 4) + (64 * (X / 256 % 4) + X % 256 / 4) := by omega
    have e0 : X = 256 * (X / 256) + X % 256 := by omega
    have e2 : X / 4 &&& mK 51 (k + 1) = 256 * (X / 256 / 4 &&& mK 51 k) + (X % 256 / 4 &&& 51) := by
      rw [e1, show mK 51 (k + 1) = 256 * mK 51 k + 51 from rfl, and_blk (by omega) (by decide), d1 _ (Nat.mod_lt _ (by decide))]
    have e3 : X &&& mK 51 (k + 1) = 256 * (X / 256 &&& mK 51 k) + (X % 256 &&& 51) := by
      conv => lhs; rw [e0]
      rw [show mK 51 (k + 1) = 256 * mK 51 k + 51 from rfl, and_blk hr (by decide)]
    rw [e2, e3]
    simp only [bys, a2]
    omega
/-- all bytes are of two small halves -/
def smb : Nat → Nat → Prop
  | 0, _ => True
  | k + 1, X => X % 256 % 16 < 5 ∧ X % 256 / 16 < 5 ∧ smb k (X / 256)
theorem s3_b : ∀ k X, X < 256 ^ k → smb k X → (X + X / 16) &&& mK 15 k = bys a3 X k := by
  intro k
  induction k with
  | zero => intro X hX _; simp [mK, bys]
  | succ k ih =>
    intro X hX hs
    have hq : X / 256 < 256 ^ k := by rw [Nat.div_lt_iff_lt_mul (by decide)]; rwa [Nat.pow_succ] at hX
    have i2 := ih _ hq hs.2.2
    have hr : X % 256 < 256 := Nat.mod_lt _ (by decide)
    have hq16 : X / 256 % 16 < 5 := by
      rcases Nat.eq_zero_or_pos k with h0 | h0
      · subst h0
        rw [Nat.pow_zero] at hq
        omega
      · obtain ⟨k', rfl⟩ : ∃ k', k = k' + 1 := ⟨k - 1, by omega⟩
        have h1 : X / 256 % 256 % 16 < 5 := hs.2.2.1
        clear hX hq i2 ih hs
        omega
    obtain ⟨d1, d2⟩ := a3_d _ hr _ hq16 hs.1 hs.2.1
    have e1 : X + X / 16 = 256 * (X / 256 + X / 256 / 16) + (X % 256 + 16 * (X / 256 % 16) + X % 256 / 16) := by omega
    rw [e1, show mK 15 (k + 1) = 256 * mK 15 k + 15 from rfl, and_blk d1 (by decide), i2, d2]
    rfl
theorem bys_lt {f : Nat → Nat} (hf : ∀ r, r < 256 → f r < 256) : ∀ k X, bys f X k < 256 ^ k := by
  intro k
  induction k with
  | zero => intro X; simp [bys]
  | succ k ih =>
    intro X
    have h1 := ih (X / 256)
    have h2 := hf _ (Nat.mod_lt X (by decide : 256 > 0))
    simp only [bys]
    rw [Nat.pow_succ]; omega
theorem bys_c {f g : Nat → Nat} (hf : ∀ r, r < 256 → f r < 256) : ∀ k X, bys g (bys f X k) k = bys (fun r => g (f r)) X k := by
  intro k
  induction k with
  | zero => intro X; rfl
  | succ k ih =>
    intro X
    have h2 := hf _ (Nat.mod_lt X (by decide : 256 > 0))
    simp only [bys]
    rw [show (256 * bys f (X / 256) k + f (X % 256)) / 256 = bys f (X / 256) k by omega, show (256 * bys f (X / 256) k + f (X % 256)) % 256 = f (X % 256) by omega, ih]
theorem smb_bys {f : Nat → Nat} (hf : ∀ r, r < 256 → f r < 256 ∧ f r % 16 < 5 ∧ f r / 16 < 5) : ∀ k X, smb k (bys f X k) := by
  intro k
  induction k with
  | zero => intro X; trivial
  | succ k ih =>
    intro X
    obtain ⟨h1, h2, h3⟩ := hf _ (Nat.mod_lt X (by decide : 256 > 0))
    simp only [bys, smb]
    rw [show (256 * bys f (X / 256) k + f (X % 256)) / 256 = bys f (X / 256) k by omega, show (256 * bys f (X / 256) k + f (X % 256)) % 256 = f (X % 256) by omega]
    exact ⟨h2, h3, ih _⟩
def a321 (r : Nat) : Nat := a3 (a2 (a1 r))
theorem s123 {X : Nat} (hX : X < 256 ^ 8) : ((X - (X / 2 &&& mK 85 8) &&& mK 51 8) + ((X - (X / 2 &&& mK 85 8)) / 4 &&& mK 51 8) + ((X - (X / 2 &&& mK 85 8) &&& mK 51 8) + ((X - (X / 2 &&& mK 85 8)) / 4 &&& mK 51 8)) / 16) &&& mK 15 8 = bys a321 X 8 := by
  have h1 : ∀ r, r < 256 → a1 r < 256 := fun r hr => (a12_d r hr).1
  have h2 : ∀ r, r < 256 → a2 r < 256 := fun r hr => (a2_d r hr).2
  have h12 : ∀ r, r < 256 → a2 (a1 r) < 256 := fun r hr => h2 _ (h1 r hr)
  rw [(s1_b 8 X hX).2, s2_b 8 _ (bys_lt h1 8 X), bys_c h1, s3_b 8 _ (bys_lt h12 8 X) (smb_bys (fun r hr => ⟨h12 r hr, (a12_d r hr).2.1, (a12_d r hr).2.2.1⟩) 8 X), bys_c h12]
  rfl
/-- bits of the first n places -/
def pop (X : Nat) : Nat → Nat
  | 0 => 0
  | n + 1 => pop X n + (if X.testBit n then 1 else 0)
theorem pop_add (X a : Nat) : ∀ c, pop X (a + c) = pop X a + pop (X / 2 ^ a) c := by
  intro c
  induction c with
  | zero => rfl
  | succ c ih =>
    rw [← Nat.add_assoc]
    simp only [pop]
    rw [ih, Nat.testBit_div_two_pow, Nat.add_assoc, Nat.add_comm a c]
theorem pop_mod (X : Nat) {a : Nat} : ∀ c, c ≤ a → pop (X % 2 ^ a) c = pop X c := by
  intro c
  induction c with
  | zero => intro _; rfl
  | succ c ih =>
    intro h
    simp only [pop]
    rw [ih (by omega), Nat.testBit_mod_two_pow]
    simp [show c < a by omega]
theorem pop_8 : ∀ r, r < 256 → a321 r = pop r 8 := by decide +kernel
theorem pop_5 : pop 0 5 = 0 ∧ ∀ o, o < 5 → pop (2 ^ o) 5 = 1 := by decide +kernel
theorem bys_pop : ∀ k X, ∃ c : Nat → Nat, (∀ i, i < k → c i = a321 (X / 256 ^ i % 256)) := fun k X => ⟨fun i => a321 (X / 256 ^ i % 256), fun i _ => rfl⟩
/-- the sum of the bytes, as the machine makes it -/
theorem fold8 {c0 c1 c2 c3 c4 c5 c6 c7 : Nat} (h0 : c0 ≤ 8) (h1 : c1 ≤ 8) (h2 : c2 ≤ 8) (h3 : c3 ≤ 8) (h4 : c4 ≤ 8) (h5 : c5 ≤ 8) (h6 : c6 ≤ 8) (h7 : c7 ≤ 8) {A0 A1 A2 A3 A4 A5 A6 A7 : Nat} (g7 : A7 = 256 * 0 + c7) (g6 : A6 = 256 * A7 + c6) (g5 : A5 = 256 * A6 + c5) (g4 : A4 = 256 * A5 + c4) (g3 : A3 = 256 * A4 + c3) (g2 : A2 = 256 * A3 + c2) (g1 : A1 = 256 * A2 + c1) (g0 : A0 = 256 * A1 + c0) : ∀ S T U : Nat, S = A0 + A0 / 256 → T = S + S / 65536 → U = T + T / 4294967296 → U < 18446744073709551616 ∧ S < 18446744073709551616 ∧ T < 18446744073709551616 ∧ U % 128 = c0 + c1 + c2 + c3 + c4 + c5 + c6 + c7 := by
  intro S T U hS hT hU
  have x1 : A0 / 256 = A1 := by clear hS hT hU g1 g2 g3 g4 g5 g6 g7; omega
  rw [x1] at hS
  -- sums of neighbours
  have b6 : A6 + A7 = 256 * A7 + (c6 + c7) := by clear hS hT hU x1 g0 g1 g2 g3 g4 g5; omega
  have b5 : A5 + A6 = 256 * (A6 + A7) + (c5 + c6) := by clear hS hT hU x1 g0 g1 g2 g3 g4 g7 b6; omega
  have b4 : A4 + A5 = 256 * (A5 + A6) + (c4 + c5) := by clear hS hT hU x1 g0 g1 g2 g3 g6 g7 b6 b5; omega
  have b3 : A3 + A4 = 256 * (A4 + A5) + (c3 + c4) := by clear hS hT hU x1 g0 g1 g2 g5 g6 g7 b6 b5 b4; omega
  have b2 : A2 + A3 = 256 * (A3 + A4) + (c2 + c3) := by clear hS hT hU x1 g0 g1 g4 g5 g6 g7 b6 b5 b4 b3; omega
  have b1 : A1 + A2 = 256 * (A2 + A3) + (c1 + c2) := by clear hS hT hU x1 g0 g3 g4 g5 g6 g7 b6 b5 b4 b3 b2; omega
  have b0 : A0 + A1 = 256 * (A1 + A2) + (c0 + c1) := by clear hS hT hU x1 g2 g3 g4 g5 g6 g7 b6 b5 b4 b3 b2 b1; omega
  clear g0 g1 g2 g3 g4 g5 g6 x1
  generalize A6 + A7 = B6 at *
  generalize A5 + A6 = B5 at *
  generalize A4 + A5 = B4 at *
  generalize A3 + A4 = B3 at *
  generalize A2 + A3 = B2 at *
  generalize A1 + A2 = B1 at *
  generalize A0 + A1 = B0 at *
  have x2 : S / 65536 = B2 := by clear hT hU b2 b3 b4 b5 b6 g7; omega
  rw [x2, hS] at hT
  have d0 : B0 + B2 = 256 * (B1 + B3) + (c0 + c1 + c2 + c3) := by clear hS hT hU x2 b1 b3 b4 b5 b6 g7; omega
  have d1 : B1 + B3 = 256 * (B2 + B4) + (c1 + c2 + c3 + c4) := by clear hS hT hU x2 b0 b2 b4 b5 b6 g7 d0; omega
  have d2 : B2 + B4 = 256 * (B3 + B5) + (c2 + c3 + c4 + c5) := by clear hS hT hU x2 b0 b1 b3 b5 b6 g7 d0 d1; omega
  have d3 : B3 + B5 = 256 * (B4 + B6) + (c3 + c4 + c5 + c6) := by clear hS hT hU x2 b0 b1 b2 b4 b6 g7 d0 d1 d2; omega
  have d4 : B4 + B6 = 256 * (B5 + A7) + (c4 + c5 + c6 + c7) := by clear hS hT hU x2 b0 b1 b2 b3 b5 g7 d0 d1 d2 d3; omega
  have y6 : B6 ≤ 2064 := by clear hS hT hU x2 b0 b1 b2 b3 b4 b5 d0 d1 d2 d3 d4; omega
  have y5 : B5 ≤ 528400 := by clear hS hT hU x2 b0 b1 b2 b3 b4 b6 g7 d0 d1 d2 d3 d4; omega
  have y4 : B4 ≤ 135270416 := by clear hS hT hU x2 b0 b1 b2 b3 b5 b6 g7 d0 d1 d2 d3 d4 y6; omega
  have y3 : B3 ≤ 34629226512 := by clear hS hT hU x2 b0 b1 b2 b4 b5 b6 g7 d0 d1 d2 d3 d4 y6 y5; omega
  have y2 : B2 ≤ 8865081987088 := by clear hS hT hU x2 b0 b1 b3 b4 b5 b6 g7 d0 d1 d2 d3 d4 y6 y5 y4; omega
  have y1 : B1 ≤ 2269460988694544 := by clear hS hT hU x2 b0 b2 b3 b4 b5 b6 g7 d0 d1 d2 d3 d4 y6 y5 y4 y3; omega
  have y0 : B0 ≤ 580982013105803280 := by clear hS hT hU x2 b1 b2 b3 b4 b5 b6 g7 d0 d1 d2 d3 d4 y6 y5 y4 y3 y2; omega
  clear b0 b1 b2 b3 b4 b5 b6 x2
  generalize hC4 : B4 + B6 = C4 at *
  generalize hC3 : B3 + B5 = C3 at *
  generalize hC2 : B2 + B4 = C2 at *
  generalize hC1 : B1 + B3 = C1 at *
  generalize hC0 : B0 + B2 = C0 at *
  have x3 : T / 4294967296 = C4 := by clear hS hU d4 hC0 hC1 hC2 hC3 hC4 y0 y1 y2 y3 y4 y5 y6 g7; omega
  rw [x3, hT] at hU
  refine ⟨?_, ?_, ?_, ?_⟩
  · clear d0 d1 d2 d3 d4 x3 hC1 hC2 hC3; omega
  · rw [hS]; clear d0 d1 d2 d3 d4 x3 hC1 hC2 hC3 hC0 hC4; omega
  · rw [hT]; clear d0 d1 d2 d3 d4 x3 hC1 hC2 hC3 hC4; omega
  · clear x3 hC0 hC1 hC2 hC3 hC4 y0 y1 y2 y3 y4 y5 y6 hS hT d1 d2 d3; omega
theorem byss {f : Nat → Nat} {X j k : Nat} : bys f (X / 256 ^ j) (k + 1) = 256 * bys f (X / 256 ^ (j + 1)) k + f (X / 256 ^ j % 256) := by
  rw [Nat.pow_succ, ← Nat.div_div_eq_div_mul]; rfl
section Pop
variable {N : Nat} {H : xH}
def us (s : Int32) (x : Int64) : Int64 := (x.toUInt64 >>> (s.toInt64.toUInt64 &&& Int64.toUInt64 63)).toInt64
theorem us_n {s : Int32} {k : Nat} (hs : (s.toInt64.toUInt64 &&& Int64.toUInt64 63) = UInt64.ofNat k) (hk : k < 64) (x : Int64) : uL (us s x) = uL x / 2 ^ k := by
  unfold us
  rw [hs]
  show (x.toUInt64 >>> UInt64.ofNat k).toBitVec.toNat = _
  rw [UInt64.toBitVec_shiftRight]
  show (x.toBitVec >>> ((UInt64.ofNat k).toBitVec % 64)).toNat = _
  rw [BitVec.ushiftRight_eq', BitVec.toNat_ushiftRight, Nat.shiftRight_eq_div_pow]
  have : ((UInt64.ofNat k).toBitVec % 64).toNat = k := by
    rw [BitVec.toNat_umod]
    show (BitVec.ofNat 64 k).toNat % 64 = k
    rw [BitVec.toNat_ofNat]; omega
  rw [this]; rfl
theorem uL_sub {x y : Int64} (h : uL y ≤ uL x) : uL (x - y) = uL x - uL y := by
  have h1 := uL_lt x
  have h2 := uL_lt y
  show (x.toBitVec - y.toBitVec).toNat = _
  rw [BitVec.toNat_sub]
  show (2 ^ 64 - uL y + uL x) % 2 ^ 64 = _
  omega
theorem uL_add {x y : Int64} (h : uL x + uL y < 2 ^ 64) : uL (x + y) = uL x + uL y := by
  show (x.toBitVec + y.toBitVec).toNat = _
  rw [BitVec.toNat_add]
  show (uL x + uL y) % 2 ^ 64 = _
  omega
def q1 (x : Int64) : Int64 := x - (us 1 x &&& 6148914691236517205)
def q2 (x : Int64) : Int64 := (x &&& 3689348814741910323) + (us 2 x &&& 3689348814741910323)
def q3 (x : Int64) : Int64 := (x + us 4 x) &&& 1085102592571150095
def q4 (x : Int64) : Int64 := x + us 8 x
def q5 (x : Int64) : Int64 := x + us 16 x
def q6 (x : Int64) : Int64 := x + us 32 x
theorem bc_e (x : Int64) : F_J13_bitCount_95d88 N x H = some ((q6 (q5 (q4 (q3 (q2 (q1 x)))))).toInt32 &&& 127, H) := rfl
theorem mK1 : uL 6148914691236517205 = mK 85 8 := by decide +kernel
theorem mK2 : uL 3689348814741910323 = mK 51 8 := by decide +kernel
theorem mK3 : uL 1085102592571150095 = mK 15 8 := by decide +kernel
theorem S_bitCount (x : Int64) : F_J13_bitCount_95d88 N x H = some (nI (pop (uL x) 64), H) := by
  have hX : uL x < 256 ^ 8 := uL_lt x
  have h1 : ∀ r, r < 256 → a1 r < 256 := fun r hr => (a12_d r hr).1
  have h2 : ∀ r, r < 256 → a2 r < 256 := fun r hr => (a2_d r hr).2
  have h12 : ∀ r, r < 256 → a2 (a1 r) < 256 := fun r hr => h2 _ (h1 r hr)
  have u1 : uL (us 1 x) = uL x / 2 := us_n (k := 1) (by decide) (by decide) x
  have e1 : uL (q1 x) = bys a1 (uL x) 8 := by
    unfold q1
    have hm : uL (us 1 x &&& 6148914691236517205) = uL x / 2 &&& mK 85 8 := by rw [uL_and, u1, mK1]
    rw [uL_sub (by rw [hm]; exact (s1_b 8 _ hX).1), hm]
    exact (s1_b 8 _ hX).2
  have u2 : uL (us 2 (q1 x)) = uL (q1 x) / 4 := us_n (k := 2) (by decide) (by decide) _
  have b1 : bys a1 (uL x) 8 < 256 ^ 8 := bys_lt h1 8 _
  have e2 : uL (q2 (q1 x)) = bys (fun r => a2 (a1 r)) (uL x) 8 := by
    unfold q2
    have s2 := s2_b 8 _ b1
    have b2 : bys a2 (bys a1 (uL x) 8) 8 < 256 ^ 8 := bys_lt h2 8 _
    have ha : uL (q1 x &&& 3689348814741910323) = bys a1 (uL x) 8 &&& mK 51 8 := by rw [uL_and, e1, mK2]
    have hb : uL (us 2 (q1 x) &&& 3689348814741910323) = bys a1 (uL x) 8 / 4 &&& mK 51 8 := by rw [uL_and, u2, e1, mK2]
    rw [uL_add (by rw [ha, hb, s2]; exact b2), ha, hb, s2, bys_c h1]
  have b2 : bys (fun r => a2 (a1 r)) (uL x) 8 < 256 ^ 8 := bys_lt h12 8 _
  have u3 : uL (us 4 (q2 (q1 x))) = uL (q2 (q1 x)) / 16 := us_n (k := 4) (by decide) (by decide) _
  have sm8 := smb_bys (f := fun r => a2 (a1 r)) (fun r hr => ⟨h12 r hr, (a12_d r hr).2.1, (a12_d r hr).2.2.1⟩) 8 (uL x)
  have top : bys (fun r => a2 (a1 r)) (uL x) 8 < 5000000000000000000 := by
    have : bys (fun r => a2 (a1 r)) (uL x) 8 / 256 ^ 7 < 69 := by
      have z := sm8
      simp only [smb] at z
      obtain ⟨-, -, -, -, -, -, -, -, -, -, -, -, -, -, z1, z2, -⟩ := z
      simp only [Nat.div_div_eq_div_mul] at z1 z2
      have : bys (fun r => a2 (a1 r)) (uL x) 8 / 256 ^ 7 < 256 := by omega
      omega
    omega
  have e3 : uL (q3 (q2 (q1 x))) = bys a321 (uL x) 8 := by
    unfold q3
    rw [uL_and, mK3, uL_add (by rw [u3, e2]; omega), u3, e2, s3_b 8 _ b2 sm8, bys_c h12]
    rfl
  generalize hR : q3 (q2 (q1 x)) = R at e3
  have hc : ∀ i, i < 8 → a321 (uL x / 256 ^ i % 256) ≤ 8 := fun i _ => (a12_d _ (Nat.mod_lt _ (by decide))).2.2.2
  have hbys : ∀ k, bys a321 (uL x) (k + 1) = 256 * bys a321 (uL x / 256) k + a321 (uL x % 256) := fun k => rfl
  have f8 := fold8 (hc 0 (by decide)) (hc 1 (by decide)) (hc 2 (by decide)) (hc 3 (by decide)) (hc 4 (by decide)) (hc 5 (by decide)) (hc 6 (by decide)) (hc 7 (by decide)) (A0 := uL R) (A1 := bys a321 (uL x / 256 ^ 1) 7) (A2 := bys a321 (uL x / 256 ^ 2) 6) (A3 := bys a321 (uL x / 256 ^ 3) 5) (A4 := bys a321 (uL x / 256 ^ 4) 4) (A5 := bys a321 (uL x / 256 ^ 5) 3) (A6 := bys a321 (uL x / 256 ^ 6) 2) (A7 := bys a321 (uL x / 256 ^ 7) 1) (by rw [byss]; rfl) byss byss byss byss byss byss (by rw [e3, ← byss]; simp) (uL R + uL R / 256) ((uL R + uL R / 256) + (uL R + uL R / 256) / 65536) (((uL R + uL R / 256) + (uL R + uL R / 256) / 65536) + ((uL R + uL R / 256) + (uL R + uL R / 256) / 65536) / 4294967296) rfl rfl rfl
  obtain ⟨f1, f2, f3, f4⟩ := f8
  have e4 : uL (q4 R) = uL R + uL R / 256 := by
    have u : uL (us 8 R) = uL R / 256 := us_n (k := 8) (by decide) (by decide) _
    unfold q4
    rw [uL_add (by rw [u]; exact f2), u]
  have e5 : uL (q5 (q4 R)) = (uL R + uL R / 256) + (uL R + uL R / 256) / 65536 := by
    have u : uL (us 16 (q4 R)) = uL (q4 R) / 65536 := us_n (k := 16) (by decide) (by decide) _
    unfold q5
    rw [uL_add (by rw [u, e4]; exact f3), u, e4]
  have e6 : uL (q6 (q5 (q4 R))) = ((uL R + uL R / 256) + (uL R + uL R / 256) / 65536) + ((uL R + uL R / 256) + (uL R + uL R / 256) / 65536) / 4294967296 := by
    have u : uL (us 32 (q5 (q4 R))) = uL (q5 (q4 R)) / 4294967296 := us_n (k := 32) (by decide) (by decide) _
    unfold q6
    rw [uL_add (by rw [u, e5]; exact f1), u, e5]
  rw [bc_e, hR]
  congr 2
  apply Int32.toBitVec_inj.mp
  apply BitVec.eq_of_toNat_eq
  show ((q6 (q5 (q4 R))).toInt32.toBitVec &&& (127 : Int32).toBitVec).toNat = (BitVec.ofNat 32 (pop (uL x) 64)).toNat
  have hpop : pop (uL x) 64 = a321 (uL x / 256 ^ 0 % 256) + a321 (uL x / 256 ^ 1 % 256) + a321 (uL x / 256 ^ 2 % 256) + a321 (uL x / 256 ^ 3 % 256) + a321 (uL x / 256 ^ 4 % 256) + a321 (uL x / 256 ^ 5 % 256) + a321 (uL x / 256 ^ 6 % 256) + a321 (uL x / 256 ^ 7 % 256) := by
    have by8 : ∀ Y, a321 (Y % 256) = pop Y 8 := fun Y => by
      rw [pop_8 _ (Nat.mod_lt _ (by decide)), show (256 : Nat) = 2 ^ 8 from rfl, pop_mod Y 8 (Nat.le_refl _)]
    simp only [by8]
    rw [show 64 = 8 + (8 + (8 + (8 + (8 + (8 + (8 + 8)))))) from rfl, pop_add, pop_add, pop_add, pop_add, pop_add, pop_add, pop_add]
    simp only [Nat.div_div_eq_div_mul, ← Nat.pow_add, show (256 : Nat) = 2 ^ 8 from rfl, ← Nat.pow_mul]
    simp only [Nat.reduceMul, Nat.reduceAdd, Nat.pow_zero, Nat.div_one]
    clear f1 f2 f3 f4 e4 e5 e6 top b1 b2 u1 u2 u3 e1 e2 e3
    omega
  rw [BitVec.toNat_and, lo32, e6, show (127 : Int32).toBitVec.toNat = 2 ^ 7 - 1 by decide, Nat.and_two_pow_sub_one_eq_mod, BitVec.toNat_ofNat]
  have hle : pop (uL x) 64 ≤ 64 := by
    have := hc 0 (by decide); have := hc 1 (by decide); have := hc 2 (by decide); have := hc 3 (by decide); have := hc 4 (by decide); have := hc 5 (by decide); have := hc 6 (by decide); have := hc 7 (by decide)
    omega
  rw [Nat.mod_eq_of_lt (show pop (uL x) 64 < 2 ^ 32 by omega), hpop, ← f4]
  omega
end Pop
