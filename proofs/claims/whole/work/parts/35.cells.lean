/-! PURE: what a table's cell says (ex, ps, lf: the row is there, POSSIBLE, LEFT; oc w k < 5: the outcome of wager w in row k), and what mark makes of it. -/
noncomputable def bN (p : Prop) : Nat := @ite _ p (Classical.propDecidable p) 1 0
theorem bN_t {p : Prop} (h : p) : bN p = 1 := by unfold bN; rw [if_pos h]
theorem bN_f {p : Prop} (h : ¬ p) : bN p = 0 := by unfold bN; rw [if_neg h]
theorem bN_le (p : Prop) : bN p ≤ 1 := by
  by_cases h : p
  · rw [bN_t h]; exact Nat.le_refl 1
  · rw [bN_f h]; exact Nat.zero_le 1
/-- the digits of a cell -/
def cv (W : Nat) (ex ps lf : Prop) (oc : Nat → Nat) (x : Int64) : Prop :=
  (∀ w, w < 12 → d5 x w = if w < W then bN ex * 2 ^ oc w else 0) ∧ d5 x 12 = bN ex + 2 * bN ps + 4 * bN lf
theorem d5k1 : ∀ w, w < 12 → d5 (-4611686018427387905) w = 31 := by decide +kernel
theorem d5k2 : d5 (-4611686018427387905) 12 = 11 := by decide +kernel
theorem d5p1 : ∀ w, w < 12 → d5 2305843009213693952 w = 0 := by decide +kernel
theorem d5p2 : d5 2305843009213693952 12 = 2 := by decide +kernel
theorem d5l1 : ∀ w, w < 12 → d5 4611686018427387904 w = 0 := by decide +kernel
theorem d5l2 : d5 4611686018427387904 12 = 4 := by decide +kernel
theorem and31 {n : Nat} (h : n < 32) : n &&& 31 = n := by
  have := Nat.and_two_pow_sub_one_eq_mod n 5
  rw [show (31 : Nat) = 2 ^ 5 - 1 from rfl, this]
  exact Nat.mod_eq_of_lt h
theorem cv_unmark {W : Nat} {ex ps lf : Prop} {oc : Nat → Nat} {x : Int64} (h : cv W ex ps lf oc x) : cv W ex ps False oc (x &&& (-4611686018427387905)) := by
  refine ⟨fun w hw => ?_, ?_⟩
  · rw [d5_and, d5k1 w hw, and31 (d5_lt x w), h.1 w hw]
  · rw [d5_and, d5k2, h.2, bN_f (fun h => h : ¬ False)]
    have a := bN_le ex; have b := bN_le ps; have c := bN_le lf
    have : ∀ a b c : Nat, a ≤ 1 → b ≤ 1 → c ≤ 1 → (a + 2 * b + 4 * c) &&& 11 = a + 2 * b + 4 * 0 := by
      intro a b c ha hb hc
      have ha : a = 0 ∨ a = 1 := by omega
      have hb : b = 0 ∨ b = 1 := by omega
      have hc : c = 0 ∨ c = 1 := by omega
      rcases ha with rfl | rfl <;> rcases hb with rfl | rfl <;> rcases hc with rfl | rfl <;> rfl
    exact this _ _ _ a b c
theorem cv_mark {W : Nat} {ex ps : Prop} {oc : Nat → Nat} {x : Int64} (h : cv W ex ps False oc x) : cv W ex ps True oc (x ||| 4611686018427387904) := by
  refine ⟨fun w hw => ?_, ?_⟩
  · rw [d5_or, d5l1 w hw, Nat.or_zero, h.1 w hw]
  · rw [d5_or, d5l2, h.2, bN_f (fun h => h : ¬ False), bN_t True.intro]
    have a := bN_le ex; have b := bN_le ps
    have : ∀ a b : Nat, a ≤ 1 → b ≤ 1 → (a + 2 * b + 4 * 0) ||| 4 = a + 2 * b + 4 * 1 := by
      intro a b ha hb
      have ha : a = 0 ∨ a = 1 := by omega
      have hb : b = 0 ∨ b = 1 := by omega
      rcases ha with rfl | rfl <;> rcases hb with rfl | rfl <;> rfl
    exact this _ _ a b
/-- the mark POSSIBLE read -/
theorem cv_ps {W : Nat} {ex ps lf : Prop} {oc : Nat → Nat} {x : Int64} (h : cv W ex ps lf oc x) : (x &&& 2305843009213693952) = 0 ↔ ¬ ps := by
  have key : d5 (x &&& 2305843009213693952) 12 = 2 * bN ps := by
    rw [d5_and, d5p2, h.2]
    have a := bN_le ex; have b := bN_le ps; have c := bN_le lf
    have : ∀ a b c : Nat, a ≤ 1 → b ≤ 1 → c ≤ 1 → (a + 2 * b + 4 * c) &&& 2 = 2 * b := by
      intro a b c ha hb hc
      have ha : a = 0 ∨ a = 1 := by omega
      have hb : b = 0 ∨ b = 1 := by omega
      have hc : c = 0 ∨ c = 1 := by omega
      rcases ha with rfl | rfl <;> rcases hb with rfl | rfl <;> rcases hc with rfl | rfl <;> rfl
    exact this _ _ _ a b c
  constructor
  · intro e hp
    rw [e, d5_0, bN_t hp] at key
    omega
  · intro hp
    refine d5_ext (fun w hw => ?_)
    rcases Nat.lt_or_ge w 12 with q | q
    · rw [d5_and, d5p1 w q, Nat.and_zero, d5_0]
    · have : w = 12 := by omega
      subst this
      rw [key, bN_f hp, d5_0]
theorem cv_lf {W : Nat} {ex ps lf : Prop} {oc : Nat → Nat} {x : Int64} (h : cv W ex ps lf oc x) : (x &&& 4611686018427387904) = 0 ↔ ¬ lf := by
  have key : d5 (x &&& 4611686018427387904) 12 = 4 * bN lf := by
    rw [d5_and, d5l2, h.2]
    have a := bN_le ex; have b := bN_le ps; have c := bN_le lf
    have : ∀ a b c : Nat, a ≤ 1 → b ≤ 1 → c ≤ 1 → (a + 2 * b + 4 * c) &&& 4 = 4 * c := by
      intro a b c ha hb hc
      have ha : a = 0 ∨ a = 1 := by omega
      have hb : b = 0 ∨ b = 1 := by omega
      have hc : c = 0 ∨ c = 1 := by omega
      rcases ha with rfl | rfl <;> rcases hb with rfl | rfl <;> rcases hc with rfl | rfl <;> rfl
    exact this _ _ _ a b c
  constructor
  · intro e hp
    rw [e, d5_0, bN_t hp] at key
    omega
  · intro hp
    refine d5_ext (fun w hw => ?_)
    rcases Nat.lt_or_ge w 12 with q | q
    · rw [d5_and, d5l1 w q, Nat.and_zero, d5_0]
    · have : w = 12 := by omega
      subst this
      rw [key, bN_f hp, d5_0]
/-- no row: the cell is 0 -/
theorem cv_0 {W : Nat} {ex ps lf : Prop} {oc : Nat → Nat} {x : Int64} (h : cv W ex ps lf oc x) (hpe : ps → ex) (hlp : lf → ps) : x = 0 ↔ ¬ ex := by
  constructor
  · intro e he
    have := h.2
    rw [e, d5_0, bN_t he] at this
    omega
  · intro he
    have hp : ¬ ps := fun q => he (hpe q)
    have hl : ¬ lf := fun q => hp (hlp q)
    refine d5_ext (fun w hw => ?_)
    rcases Nat.lt_or_ge w 12 with q | q
    · rw [h.1 w q, bN_f he, d5_0]; simp
    · have : w = 12 := by omega
      subst this
      rw [h.2, bN_f he, bN_f hp, bN_f hl, d5_0]
theorem nc_cv {c : Nat → Int64} {A : Nat → Prop} {W k : Nat} {ex ps lf : Prop} {oc : Nat → Nat} (h : cv W ex ps lf oc (c k)) : (ncP c A k ↔ ps ∧ A k) ∧ cv W ex ps (ps ∧ A k) oc (nc c A k) := by
  have hu := cv_unmark h
  have hP : ncP c A k ↔ ps ∧ A k := by
    unfold ncP
    rw [cv_ps hu, Classical.not_not]
  refine ⟨hP, ?_⟩
  unfold nc
  by_cases q : ncP c A k
  · rw [if_pos q, show (ps ∧ A k) = True from eq_true (hP.mp q)]
    exact cv_mark hu
  · rw [if_neg q, show (ps ∧ A k) = False from eq_false (fun z => q (hP.mpr z))]
    exact hu
/-- the outcomes seen among the first k rows -/
theorem sn_bit {c : Nat → Int64} {A : Nat → Prop} {W s : Nat} {ex ps lf : Nat → Prop} {oc : Nat → Nat → Nat} (h : ∀ k, k < s → cv W (ex k) (ps k) (lf k) (fun w => oc w k) (c k)) (hpe : ∀ k, k < s → ps k → ex k) {w b : Nat} (hw : w < 12) (hW : w < W) : ∀ k, k ≤ s → ((d5 (sn c A k) w).testBit b = true ↔ ∃ j, j < k ∧ (ps j ∧ A j) ∧ oc w j = b) := by
  intro k
  induction k with
  | zero => intro _; simp [sn, d5_0]
  | succ k ih =>
    intro hk
    have hc := nc_cv (A := A) (h k (by omega))
    have ih := ih (by omega)
    by_cases q : ncP c A k
    · have hq := hc.1.mp q
      have e1 : d5 (nc c A k) w = 2 ^ oc w k := by
        rw [hc.2.1 w hw, if_pos hW, bN_t (hpe k (by omega) hq.1), Nat.one_mul]
      rw [show sn c A (k + 1) = (sn c A k ||| nc c A k) by simp [sn, q], d5_or, Nat.testBit_or, Bool.or_eq_true, ih, e1, Nat.testBit_two_pow, decide_eq_true_eq]
      constructor
      · rintro (⟨j, h1, h2⟩ | h1)
        · exact ⟨j, by omega, h2⟩
        · exact ⟨k, by omega, hq, h1⟩
      · rintro ⟨j, h1, h2, h3⟩
        by_cases hj : j = k
        · subst hj; exact Or.inr h3
        · exact Or.inl ⟨j, by omega, h2, h3⟩
    · rw [show sn c A (k + 1) = sn c A k by simp [sn, q], ih]
      constructor
      · rintro ⟨j, h1, h2⟩
        exact ⟨j, by omega, h2⟩
      · rintro ⟨j, h1, h2, h3⟩
        by_cases hj : j = k
        · subst hj; exact absurd (hc.1.mpr h2) q
        · exact ⟨j, by omega, h2, h3⟩
