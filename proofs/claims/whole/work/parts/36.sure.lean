/-! PURE: the outcomes that are SURE. -/
theorem uL_shl {d w : Nat} (hd : d < 32) (hw : w < 12) : uL ((nI d).toInt64 <<< (((5 : Int32) * nI w).toInt64 &&& 63)) = d * 2 ^ (5 * w) := by
  have h5 : 5 * w < 64 := by omega
  have e1 : (nI d).toInt64 = lN d := nI_l (by omega)
  have e2 : (((5 : Int32) * nI w).toInt64 &&& 63) = lN (5 * w) := by
    have : ∀ w, w < 12 → (((5 : Int32) * nI w).toInt64 &&& 63) = lN (5 * w) := by decide +kernel
    exact this w hw
  rw [e1, e2]
  show ((lN d).toBitVec <<< ((lN (5 * w)).toBitVec.smod 64)).toNat = _
  have e3 : (lN (5 * w)).toBitVec.smod 64 = BitVec.ofNat 64 (5 * w) := by
    have : ∀ w, w < 12 → (lN (5 * w)).toBitVec.smod 64 = BitVec.ofNat 64 (5 * w) := by decide +kernel
    exact this w hw
  rw [e3, BitVec.shiftLeft_eq', BitVec.toNat_shiftLeft]
  have e4 : (BitVec.ofNat 64 (5 * w)).toNat = 5 * w := by simp; omega
  have e5 : (lN d).toBitVec.toNat = d := by
    show (BitVec.ofNat 64 d).toNat = d
    simp; omega
  rw [e4, e5, Nat.shiftLeft_eq]
  refine Nat.mod_eq_of_lt ?_
  calc d * 2 ^ (5 * w) < 32 * 2 ^ (5 * w) := Nat.mul_lt_mul_of_pos_right hd (Nat.pow_pos (by decide))
    _ = 2 ^ (5 + 5 * w) := by rw [Nat.pow_add]
    _ ≤ 2 ^ 64 := Nat.pow_le_pow_right (by decide) (by omega)
theorem d5_shl {d w v : Nat} (hd : d < 32) (hw : w < 12) : d5 ((nI d).toInt64 <<< (((5 : Int32) * nI w).toInt64 &&& 63)) v = if v = w then d else 0 := by
  unfold d5
  rw [uL_shl hd hw]
  by_cases h : v = w
  · subst h
    rw [if_pos rfl, Nat.mul_div_cancel _ (Nat.pow_pos (by decide))]
    exact Nat.mod_eq_of_lt hd
  · rw [if_neg h]
    rcases Nat.lt_or_ge v w with q | q
    · have : 2 ^ (5 * w) = 2 ^ (5 * (w - v - 1)) * 32 * 2 ^ (5 * v) := by
        rw [show (32 : Nat) = 2 ^ 5 from rfl, ← Nat.pow_add, ← Nat.pow_add]
        congr 1
        omega
      rw [this, ← Nat.mul_assoc, Nat.mul_div_cancel _ (Nat.pow_pos (by decide)), ← Nat.mul_assoc]
      exact Nat.mul_mod_left _ _
    · have h1 : d * 2 ^ (5 * w) < 2 ^ (5 * v) := by
        calc d * 2 ^ (5 * w) < 32 * 2 ^ (5 * w) := Nat.mul_lt_mul_of_pos_right hd (Nat.pow_pos (by decide))
          _ = 2 ^ (5 + 5 * w) := by rw [Nat.pow_add]
          _ ≤ 2 ^ (5 * v) := Nat.pow_le_pow_right (by decide) (by omega)
      rw [Nat.div_eq_of_lt h1]
/-- one bit at most -/
def one1 (x : Nat) : Prop := (nI x &&& (nI x - 1)) = 0
theorem one1_iff {x : Nat} (hx : x < 32) : one1 x ↔ ∀ b, b < 5 → ∀ b', b' < 5 → x.testBit b = true → x.testBit b' = true → b = b' := by
  have : ∀ x, x < 32 → ((nI x &&& (nI x - 1)) = 0 ↔ ∀ b, b < 5 → ∀ b', b' < 5 → x.testBit b = true → x.testBit b' = true → b = b') := by decide +kernel
  exact this x hx
theorem sgl_d5 (seen : Int64) : ∀ n, n ≤ 12 → ∀ v, d5 (sgl seen n) v = @ite _ (v < n ∧ one1 (d5 seen v)) (Classical.propDecidable _) (d5 seen v) 0 := by
  intro n
  induction n with
  | zero => intro _ v; rw [if_neg (fun h => by omega)]; exact d5_0 v
  | succ n ih =>
    intro hn v
    have ih := ih (by omega) v
    have ho := obits_d5 seen (w := n) (by omega)
    unfold sgl
    rw [ho]
    by_cases h1 : one1 (d5 seen n)
    · have h1' : (nI (d5 seen n) &&& (nI (d5 seen n) - 1)) = 0 := h1
      rw [if_pos h1', d5_or, ih, d5_shl (d5_lt _ _) (by omega)]
      by_cases hv : v = n
      · subst hv
        rw [if_neg (fun h => by omega), if_pos rfl, if_pos ⟨by omega, h1⟩, Nat.zero_or]
      · rw [if_neg hv, Nat.or_zero]
        by_cases q : v < n ∧ one1 (d5 seen v)
        · rw [if_pos q, if_pos ⟨by omega, q.2⟩]
        · rw [if_neg q, if_neg (fun h => q ⟨by omega, h.2⟩)]
    · have h1' : ¬ (nI (d5 seen n) &&& (nI (d5 seen n) - 1)) = 0 := h1
      rw [if_neg h1', ih]
      by_cases q : v < n ∧ one1 (d5 seen v)
      · rw [if_pos q, if_pos ⟨by omega, q.2⟩]
      · rw [if_neg q, if_neg (fun h => by
          by_cases hv : v = n
          · subst hv; exact h1 h.2
          · exact q ⟨by omega, h.2⟩)]
/-- wager w is SURE with outcome o: some row is left, and all rows left have that outcome -/
def sureO (s : Nat) (lf : Nat → Prop) (oc : Nat → Nat) (o : Nat) : Prop := (∃ k, k < s ∧ lf k) ∧ ∀ k, k < s → lf k → oc k = o
theorem cert_d5 {c : Nat → Int64} {A : Nat → Prop} {W s : Nat} {ex ps lf : Nat → Prop} {oc : Nat → Nat → Nat} (h : ∀ k, k < s → cv W (ex k) (ps k) (lf k) (fun w => oc w k) (c k)) (hpe : ∀ k, k < s → ps k → ex k) (ho : ∀ w k, oc w k < 5) {w : Nat} (hw : w < 12) (hW : w < W) :
    (∀ o, sureO s (fun k => ps k ∧ A k) (oc w) o → d5 (sgl (sn c A s) 12) w = 2 ^ o) ∧ ((∀ o, ¬ sureO s (fun k => ps k ∧ A k) (oc w) o) → d5 (sgl (sn c A s) 12) w = 0) := by
  have hb := fun b => sn_bit (A := A) (b := b) h hpe hw hW s (Nat.le_refl s)
  have hd := sgl_d5 (sn c A s) 12 (Nat.le_refl 12) w
  have hlt := d5_lt (sn c A s) w
  constructor
  · rintro o ⟨⟨k, hk, hl⟩, hall⟩
    have ho5 : o < 5 := by rw [← hall k hk hl]; exact ho w k
    have hbit : ∀ b, (d5 (sn c A s) w).testBit b = decide (o = b) := by
      intro b
      by_cases q : o = b
      · subst q
        rw [(hb o).mpr ⟨k, hk, hl, hall k hk hl⟩]; simp
      · rw [decide_eq_false q]
        cases z : (d5 (sn c A s) w).testBit b with
        | false => rfl
        | true =>
          obtain ⟨j, j1, j2, j3⟩ := (hb b).mp z
          exact absurd ((hall j j1 j2).symm.trans j3) q
    have e : d5 (sn c A s) w = 2 ^ o := Nat.eq_of_testBit_eq (fun b => by rw [hbit, Nat.testBit_two_pow])
    have h1 : one1 (d5 (sn c A s) w) := (one1_iff hlt).mpr (fun b _ b' _ h1 h2 => by
      rw [hbit] at h1 h2
      exact (of_decide_eq_true h1).symm.trans (of_decide_eq_true h2))
    rw [hd, if_pos ⟨hw, h1⟩, e]
  · intro hno
    rw [hd]
    by_cases h1 : one1 (d5 (sn c A s) w)
    · rw [if_pos ⟨hw, h1⟩]
      refine Nat.eq_of_testBit_eq (fun b => ?_)
      rw [Nat.zero_testBit]
      cases z : (d5 (sn c A s) w).testBit b with
      | false => rfl
      | true =>
        exfalso
        obtain ⟨j, j1, j2, j3⟩ := (hb b).mp z
        refine hno b ⟨⟨j, j1, j2⟩, fun k hk hl => ?_⟩
        have z2 := (hb (oc w k)).mpr ⟨k, hk, hl, rfl⟩
        exact (one1_iff hlt).mp h1 _ (ho w k) _ (by rw [← j3]; exact ho w j) z2 z
    · rw [if_neg (fun q => h1 q.2)]
/-- of wagers that there are none of: never SURE -/
theorem cert_no {c : Nat → Int64} {A : Nat → Prop} {W s : Nat} {ex ps lf : Nat → Prop} {oc : Nat → Nat → Nat} (h : ∀ k, k < s → cv W (ex k) (ps k) (lf k) (fun w => oc w k) (c k)) {w : Nat} (hw : w < 12) (hW : ¬ w < W) : d5 (sgl (sn c A s) 12) w = 0 := by
  have key : ∀ k, k ≤ s → d5 (sn c A k) w = 0 := by
    intro k
    induction k with
    | zero => intro _; exact d5_0 w
    | succ k ih =>
      intro hk
      by_cases q : ncP c A k
      · rw [show sn c A (k + 1) = (sn c A k ||| nc c A k) by simp [sn, q], d5_or, ih (by omega), (nc_cv (A := A) (h k (by omega))).2.1 w hw, if_neg hW]
        rfl
      · rw [show sn c A (k + 1) = sn c A k by simp [sn, q]]
        exact ih (by omega)
  rw [sgl_d5 _ 12 (Nat.le_refl 12), key s (Nat.le_refl s)]
  split <;> rfl
