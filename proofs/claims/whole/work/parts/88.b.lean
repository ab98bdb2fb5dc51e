/-! PURE: a text's tokens; the class reads them. -/
variable {stf : Nat → Nat} {N K b m : Nat} {β : sB} {δ : sD} {H : xH}
def un (f : Nat → Nat) (k x : Nat) : Nat → Nat := fun j => if j = k then x else f j
theorem un_s {f : Nat → Nat} {k x : Nat} : un f k x k = x := by simp [un]
theorem un_n {f : Nat → Nat} {k x j : Nat} (h : j ≠ k) : un f k x j = f j := by simp [un, h]
/-- J tokens of the first n bytes: where they begin and end -/
def tkS (t : Nat → Nat) (n J : Nat) (S E : Nat → Nat) : Prop :=
  S J = n ∧ (∀ j, j < J → S j < E j ∧ E j ≤ S (j + 1)) ∧ (∀ j, j < J → kk (t (S j)) ≠ 1) ∧ (∀ q, q < S 0 → kk (t q) = 1) ∧ (∀ j, j < J → ∀ q, E j ≤ q → q < S (j + 1) → kk (t q) = 1) ∧
  (∀ j, j < J → (kk (t (S j)) = 2 ∨ kk (t (S j)) = 3) → (∀ q, S j ≤ q → q < E j → kk (t q) = kk (t (S j))) ∧ (E j = n ∨ kk (t (E j)) ≠ kk (t (S j)))) ∧
  ∀ j, j < J → ¬ (kk (t (S j)) = 2 ∨ kk (t (S j)) = 3) → E j = S j + 1
variable {t S E : Nat → Nat} {n J : Nat}
theorem tkS.le (h : tkS t n J S E) : ∀ {j : Nat}, j ≤ J → S j + (J - j) ≤ n := by
  intro j hj
  obtain ⟨h1, h2, -⟩ := h
  have : ∀ d, d ≤ J → S (J - d) + d ≤ n := by
    intro d
    induction d with
    | zero => intro _; simp [h1]
    | succ d ih =>
      intro hd
      have a := ih (by omega)
      have := h2 (J - (d + 1)) (by omega)
      rw [show J - (d + 1) + 1 = J - d by omega] at this
      omega
  have := this (J - j) (by omega)
  rwa [show J - (J - j) = j by omega] at this
theorem tkS.elt (h : tkS t n J S E) {j : Nat} (hj : j + 1 < J) : E j < n := by
  have h1 := h.2.1 j (by omega)
  have h2 := h.le (j := j + 1) (by omega)
  omega
theorem tkS.ele (h : tkS t n J S E) {j : Nat} (hj : j < J) : E j ≤ n := by
  have h1 := h.2.1 j hj
  have h2 := h.le (j := j + 1) (by omega)
  omega
theorem tk_blank (h : tkS t n J S E) (hk : kk (t n) = 1) : tkS t (n + 1) J (un S J (n + 1)) E := by
  obtain ⟨h1, h2, h3, h4, h5, h6, h7⟩ := id h
  have k : ∀ j, j < J → un S J (n + 1) j = S j := fun j hj => un_n (by omega)
  refine ⟨un_s, fun j hj => ?_, fun j hj => by rw [k j hj]; exact h3 j hj, fun q hq => ?_, fun j hj q q1 q2 => ?_, fun j hj => ?_, fun j hj => by rw [k j hj]; exact h7 j hj⟩
  · rw [k j hj]
    refine ⟨(h2 j hj).1, ?_⟩
    by_cases e : j + 1 = J
    · rw [e, un_s]; have := h.ele hj; omega
    · rw [un_n e]; exact (h2 j hj).2
  · by_cases e : 0 = J
    · subst e
      rw [un_s] at hq
      by_cases e2 : q = n
      · rw [e2]; exact hk
      · exact h4 q (by omega)
    · rw [un_n e] at hq; exact h4 q hq
  · by_cases e : j + 1 = J
    · rw [e, un_s] at q2
      by_cases e2 : q = n
      · rw [e2]; exact hk
      · exact h5 j hj q q1 (by rw [e, h1]; omega)
    · rw [un_n e] at q2; exact h5 j hj q q1 q2
  · rw [k j hj]
    intro hr
    obtain ⟨a, c⟩ := h6 j hj hr
    refine ⟨a, Or.inr ?_⟩
    rcases c with c | c
    · rw [c, hk]; omega
    · exact c
theorem tk_new (h : tkS t n J S E) (hk : kk (t n) ≠ 1) (hl : ∀ j, j + 1 = J → E j = n → (kk (t (S j)) = 2 ∨ kk (t (S j)) = 3) → kk (t n) ≠ kk (t (S j))) : tkS t (n + 1) (J + 1) (un S (J + 1) (n + 1)) (un E J (n + 1)) := by
  obtain ⟨h1, h2, h3, h4, h5, h6, h7⟩ := id h
  have k : ∀ j, j < J + 1 → un S (J + 1) (n + 1) j = S j := fun j hj => un_n (by omega)
  have ke : ∀ j, j < J → un E J (n + 1) j = E j := fun j hj => un_n (by omega)
  have c : ∀ j, j < J + 1 → j < J ∨ j = J := fun j hj => by omega
  refine ⟨un_s, fun j hj => ?_, fun j hj => ?_, fun q hq => ?_, fun j hj q q1 q2 => ?_, fun j hj => ?_, fun j hj => ?_⟩
  · rw [k j hj]
    rcases c j hj with q | rfl
    · rw [ke j q, k (j + 1) (by omega)]; exact h2 j q
    · rw [un_s, un_s, h1]; omega
  · rw [k j hj]
    rcases c j hj with q | rfl
    · exact h3 j q
    · rw [h1]; exact hk
  · rw [k 0 (by omega)] at hq; exact h4 q hq
  · rcases c j hj with z | rfl
    · rw [ke j z] at q1; rw [k (j + 1) (by omega)] at q2; exact h5 j z q q1 q2
    · rw [un_s] at q1 q2; omega
  · rw [k j hj]
    rcases c j hj with z | rfl
    · rw [ke j z]
      intro hr
      obtain ⟨a, d⟩ := h6 j z hr
      refine ⟨a, Or.inr ?_⟩
      rcases d with d | d
      · have : j + 1 = J := by
          rcases Nat.lt_or_ge (j + 1) J with q | q
          · have := h.elt q; omega
          · omega
        rw [d]; exact hl j this d hr
      · exact d
    · intro hr
      rw [un_s, h1]
      exact ⟨fun q q1 q2 => by rw [show q = n by omega], Or.inl rfl⟩
  · rw [k j hj]
    rcases c j hj with z | rfl
    · rw [ke j z]; exact h7 j z
    · intro _; rw [un_s, h1]
theorem tk_go {c : Nat} (h : tkS t n (c + 1) S E) (he : E c = n) (hk : kk (t n) = kk (t (S c))) (hr : kk (t (S c)) = 2 ∨ kk (t (S c)) = 3) : tkS t (n + 1) (c + 1) (un S (c + 1) (n + 1)) (un E c (n + 1)) := by
  obtain ⟨h1, h2, h3, h4, h5, h6, h7⟩ := id h
  have k : ∀ j, j < c + 1 → un S (c + 1) (n + 1) j = S j := fun j hj => un_n (by omega)
  have ke : ∀ j, j < c → un E c (n + 1) j = E j := fun j hj => un_n (by omega)
  have cc : ∀ j, j < c + 1 → j < c ∨ j = c := fun j hj => by omega
  refine ⟨un_s, fun j hj => ?_, fun j hj => by rw [k j hj]; exact h3 j hj, fun q hq => by rw [k 0 (by omega)] at hq; exact h4 q hq, fun j hj q q1 q2 => ?_, fun j hj => ?_, fun j hj => ?_⟩
  · rw [k j hj]
    rcases cc j hj with q | rfl
    · rw [ke j q, k (j + 1) (by omega)]; exact h2 j hj
    · rw [un_s, un_s]; have := (h2 j hj).1; omega
  · rcases cc j hj with z | rfl
    · rw [ke j z] at q1; rw [k (j + 1) (by omega)] at q2; exact h5 j hj q q1 q2
    · rw [un_s] at q1 q2; omega
  · rw [k j hj]
    rcases cc j hj with z | rfl
    · rw [ke j z]
      intro hr
      obtain ⟨a, d⟩ := h6 j hj hr
      refine ⟨a, Or.inr ?_⟩
      rcases d with d | d
      · have := h.elt (j := j) (by omega); omega
      · exact d
    · intro hr2
      rw [un_s]
      refine ⟨fun q q1 q2 => ?_, Or.inl rfl⟩
      by_cases e : q = n
      · rw [e]; exact hk
      · exact (h6 j hj hr2).1 q q1 (by omega)
  · rw [k j hj]
    rcases cc j hj with z | rfl
    · rw [ke j z]; exact h7 j hj
    · intro hn; exact absurd hr hn
/-- a token's value -/
def tv5 (t : Nat → Nat) (s e : Nat) : Int64 := if kk (t s) = 2 then (if e - s ≤ 8 then lN (w5 (wl t s (e - s))) else 0) else if kk (t s) = 3 then (if e - s ≤ 3 then lN (dc t s (e - s)) else -1) else 0
theorem shl5 {a x : Nat} (ha : a < 2 ^ 58) (hx : x < 32) : (lN a <<< ((5 : Int32).toInt64 &&& 63)) ||| lN x = lN (a * 32 + x) := by
  apply uL_inj
  have e0 : ((5 : Int32).toInt64 &&& 63) = (5 : Int64) := by decide
  rw [e0, uL_or, lN_u (by omega), lN_u (by omega)]
  have : uL (lN a <<< (5 : Int64)) = a * 32 := by
    show (lN a <<< (5 : Int64)).toBitVec.toNat = _
    rw [Int64.toBitVec_shiftLeft]
    show ((lN a).toBitVec <<< ((5 : Int64).toBitVec.smod 64)).toNat = _
    rw [show ((5 : Int64).toBitVec.smod 64) = 5#64 by decide]
    rw [BitVec.shiftLeft_eq', BitVec.toNat_shiftLeft]
    have : (lN a).toBitVec.toNat = a := lN_u (by omega)
    rw [this, Nat.shiftLeft_eq, show (5#64).toNat = 5 by decide]
    rw [Nat.mod_eq_of_lt (by omega)]
  rw [this]
  rw [show a * 32 = a <<< 5 by rw [Nat.shiftLeft_eq]]
  exact (Nat.shiftLeft_add_eq_or_of_lt (by omega) a).symm
