/-! PURE: what a text comes to; the class's cells. -/
variable {stf : Nat → Nat} {N K b m : Nat} {β : sB} {δ : sD} {H : xH}
variable {c lo : Nat} {τ : tS} {ad : Nat → Nat}
def oS (f : Option sem) (d : Nat → Nat) : Prop := ∃ σ, f = some σ ∧ σ d
/-- an outcome, by the class's codes -/
noncomputable def outc (x : tB) (d : Nat → Nat) : Nat := cif (oS x.2.2.2.2.2.1 d) 0 (cif (x.2.2.2.2.1 d) (cif (oS x.2.2.2.2.2.2 d) 4 3) (cif (oS x.2.2.2.2.2.2 d) 2 1))
theorem outc_lt (x : tB) (d : Nat → Nat) : outc x d < 5 := by
  unfold outc cif
  split
  · decide
  · split
    · split <;> decide
    · split <;> decide
def bX (τ : tS) (k : Nat) : Prop := ∀ i, i < yT τ → dig k i = 0 ∨ (yf τ i + 1 ≤ dig k i ∧ dig k i ≤ yu τ i + 1)
def rOk (d : Nat → Nat) (r : Nat × Nat × Option Nat) : Prop := d r.1 = 0 ∨ ((r.2.2 = none → d r.2.1 ≤ d r.1) ∧ ∀ x, r.2.2 = some x → 8 < d r.1 + x ∨ (d r.2.1 ≠ 0 ∧ d r.2.1 ≤ d r.1 + x))
def bP (τ : tS) (k : Nat) : Prop := bX τ k ∧ ∀ r, r < yR τ → rOk (dig k) (yr τ r)
/-- the book that a text tells -/
noncomputable def bet (τ : tS) : sB := (yT τ, yM τ, yW τ, nI (yS τ), (fun i => nI (yf τ i)), (fun i => nI (yu τ i)), (fun w => nI (yb τ w).2.2.1), (fun w => nI (yb τ w).2.2.2.1), (fun w => (yb τ w).2.2.2.2.2.1 ≠ none), (fun w => (yb τ w).2.2.2.2.2.2 ≠ none), bX τ, bP τ, fun w k => outc (yb τ w) (dig k))
theorem dig0 {k T j : Nat} (hk : k < 9 ^ T) (hj : T ≤ j) : dig k j = 0 := by
  unfold dig
  have : 9 ^ T ≤ 9 ^ j := Nat.pow_le_pow_right (by decide) hj
  rw [Nat.div_eq_of_lt (by omega)]
def dgs (dg : Nat) (d : Nat → Nat) (H : xH) : Prop := ∃ gd, H.1 dg = some (aI 5 gd) ∧ ∀ t, t < 5 → gd t = nI (d t) ∧ d t < 9
theorem dgs.at {dg : Nat} {d : Nat → Nat} (h : dgs dg d H) {t : Nat} (ht : t < 5) : F_X11_at N (some dg) (nI t) H = some (nI (d t), H) := by
  obtain ⟨gd, h1, h2⟩ := h
  rw [S_at h1 (by decide), gat_nI (by omega), if_pos ht, (h2 t ht).1]
theorem CT.run {lo a dg : Nat} {σ : sem} {d : Nat → Nat} {nx : Option Nat} (h : CT N 20 H lo a σ) (hn : nodeN H a nx) (hd : dgs dg d H) : F_X1_isTrue N (some a) (some dg) 0 H = some (bI (σ d), H) := by
  obtain ⟨gd, h1, h2⟩ := hd
  exact h H (fun _ _ _ => rfl) (same4.of hn rfl) dg gd d 0 45 h1 h2 (by decide) (by decide)
theorem S_outc {a dg : Nat} {x : tB} {d : Nat → Nat} (h : cBt N lo x a H) (hd : dgs dg d H) : F_X0_outcomeIn N (some a) (some dg) H = some (nI (outc x d), H) := by
  obtain ⟨p1, p2, p3, h1, h2, ⟨-, h3⟩, ⟨h4, h4'⟩, ⟨h5, h5'⟩⟩ := h
  obtain ⟨a1, e1, -, t1, n1⟩ := h3 _ rfl
  have g4 : xgA H (some a) 0 4 = some (some a1) := by rw [← e1]; exact gA h1 rfl
  have g5 : xgA H (some a) 0 5 = some p2 := gA h1 rfl
  have g6 : xgA H (some a) 0 6 = some p3 := gA h1 rfl
  have r1 := t1.run n1 hd
  have J45 : ∀ P : Prop, F_X0_outcomeIn_J45 N (some a) (some dg) (bI P) H = some (cif (x.2.2.2.2.1 d) (cif P (nI 4) (nI 3)) (cif P (nI 2) (nI 1)), H) := by
    intro P
    unfold F_X0_outcomeIn_J45
    simp only [g4, r1, bd2_s, Option.bind_some]
    by_cases q : x.2.2.2.2.1 d
    · rw [bI_t q, if_neg n10, cif_t q]
      by_cases z : P
      · rw [bI_t z, if_neg n10, cif_t z]; rfl
      · rw [bI_f z, if_pos rfl, cif_f z]; rfl
    · rw [bI_f q, if_pos rfl, cif_f q]
      by_cases z : P
      · rw [bI_t z, if_neg n10, cif_t z]; rfl
      · rw [bI_f z, if_pos rfl, cif_f z]; rfl
  have J21 : F_X0_outcomeIn_J21 N (some a) (some dg) H = some (cif (x.2.2.2.2.1 d) (cif (oS x.2.2.2.2.2.2 d) (nI 4) (nI 3)) (cif (oS x.2.2.2.2.2.2 d) (nI 2) (nI 1)), H) := by
    rw [← J45]
    unfold F_X0_outcomeIn_J21 F_X0_outcomeIn_J44
    cases hf : x.2.2.2.2.2.2 with
    | none =>
      simp only [g6, h5 hf, if_true, Option.bind_some]
      rw [bI_f (fun ⟨σ, z, _⟩ => by cases z)]
    | some σ =>
      obtain ⟨a3, e3, -, t3, n3⟩ := h5' σ hf
      have r3 := t3.run n3 hd
      simp only [g6, e3, reduceCtorEq, if_false, r3, bd2_s, Option.bind_some]
      by_cases q : σ d
      · rw [bI_t q, if_neg n10, bI_t ⟨σ, rfl, q⟩]
      · rw [bI_f q, if_pos rfl, bI_f (fun ⟨σ', z, z'⟩ => q (by cases z; exact z'))]
  unfold F_X0_outcomeIn outc
  cases hf : x.2.2.2.2.2.1 with
  | none =>
    simp only [g5, h4 hf, if_true, Option.bind_some, J21]
    rw [cif_f (show ¬ oS none d from fun ⟨σ, z, _⟩ => by cases z)]
    congr 2
    by_cases q1 : x.2.2.2.2.1 d <;> by_cases q2 : oS x.2.2.2.2.2.2 d <;> simp only [cif_t, cif_f, q1, q2, not_false_iff]
  | some σ =>
    obtain ⟨a3, e3, -, t3, n3⟩ := h4' σ hf
    have r3 := t3.run n3 hd
    simp only [g5, e3, reduceCtorEq, if_false, r3, bd2_s, Option.bind_some, J21]
    by_cases q : σ d
    · rw [bI_t q, if_neg n10, cif_t (show oS (some σ) d from ⟨σ, rfl, q⟩)]; rfl
    · rw [bI_f q, if_pos rfl, cif_f (show ¬ oS (some σ) d from fun ⟨σ', z, z'⟩ => q (by cases z; exact z'))]
      congr 2
      by_cases q1 : x.2.2.2.2.1 d <;> by_cases q2 : oS x.2.2.2.2.2.2 d <;> simp only [cif_t, cif_f, q1, q2, not_false_iff]
theorem S_inTime (hN : 5 < N) {dg k : Nat} (h : cL N c lo τ ad H) (hd : dgs dg (dig k) H) (ho : yOk τ) : F_X2_isInTime N (some c) (some dg) H = some (bI (bX τ k), H) := by
  obtain ⟨h1, ⟨a1, -⟩, ⟨g2, h2, h2'⟩, ⟨g3, h3, h3'⟩, -⟩ := h
  obtain ⟨k0, -⟩ := cob_g h1
  obtain ⟨-, q2, q3, -⟩ := cob_a h1
  have k0 : xgI H (some c) 2 0 = some (nI (yT τ)) := k0
  have loop : ∀ m i, i ≤ yT τ → yT τ - i < m → F_X2_isInTime_L2 N m (some c) (some dg) (nI i) H = some (bI (∀ j, i ≤ j → j < yT τ → dig k j = 0 ∨ (yf τ j + 1 ≤ dig k j ∧ dig k j ≤ yu τ j + 1)), H) := by
    refine upto (P := fun m i => F_X2_isInTime_L2 N m (some c) (some dg) (nI i) H = some (bI (∀ j, i ≤ j → j < yT τ → dig k j = 0 ∨ (yf τ j + 1 ≤ dig k j ∧ dig k j ≤ yu τ j + 1)), H)) ?_ ?_
    · intro m
      rw [show F_X2_isInTime_L2 N (m + 1) = F_X2_isInTime_J2 N (F_X2_isInTime_L2 N m) from rfl]
      simp only [F_X2_isInTime_J2, k0, Int32.le_refl, if_true, Option.bind_some]
      rw [bI_t (fun j z1 z2 => by omega)]
    · intro m i hi ih
      have hdl := dig_lt k i
      have f7 := ho.1 i hi
      have sf : F_X11_at N (some (c + 2)) (nI i) H = some (nI (yf τ i), H) := by rw [S_at h2 (by decide), gat_nI (by omega), if_pos (by omega), h2' i hi]
      have su : F_X11_at N (some (c + 3)) (nI i) H = some (nI (yu τ i), H) := by rw [S_at h3 (by decide), gat_nI (by omega), if_pos (by omega), h3' i hi]
      rw [show F_X2_isInTime_L2 N (m + 1) = F_X2_isInTime_J2 N (F_X2_isInTime_L2 N m) from rfl]
      simp only [F_X2_isInTime_J2, F_X2_isInTime_J48, k0, nI_ge hi (show yT τ < 2 ^ 31 by omega), if_false, hd.at (show i < 5 by omega), nI_1, ih, bd2_s, q2, sf, q3, su, Option.bind_some]
      have step : ∀ P : Prop, (dig k i = 0 ∨ (yf τ i + 1 ≤ dig k i ∧ dig k i ≤ yu τ i + 1)) → (some (bI (∀ j, i + 1 ≤ j → j < yT τ → dig k j = 0 ∨ (yf τ j + 1 ≤ dig k j ∧ dig k j ≤ yu τ j + 1)), H) : Option (Int32 × xH)) = some (bI (∀ j, i ≤ j → j < yT τ → dig k j = 0 ∨ (yf τ j + 1 ≤ dig k j ∧ dig k j ≤ yu τ j + 1)), H) := fun _ hp => by
        congr 2
        exact bI_c ⟨fun z j z1 z2 => by
          by_cases e : j = i
          · rw [e]; exact hp
          · exact z j (by omega) z2, fun z j z1 z2 => z j (by omega) z2⟩
      by_cases e0 : dig k i = 0
      · rw [if_pos (show nI (dig k i) - 1 < 0 by rw [e0]; decide)]
        exact step True (Or.inl e0)
      · have e1 : nI (dig k i) - 1 = nI (dig k i - 1) := by rw [show (1 : Int32) = nI 1 from rfl, pk_sub (by omega)]
        rw [e1, if_neg (nI_pos (by omega))]
        by_cases e2 : dig k i - 1 < yf τ i
        · rw [if_pos (nI_lt e2 (by omega)), bI_f (fun z => by have := z i (Nat.le_refl _) hi; omega)]
        · rw [if_neg (nI_nlt (by omega) (by omega))]
          by_cases e3 : dig k i - 1 ≤ yu τ i
          · rw [if_pos (nI_le e3 (by omega))]
            exact step True (Or.inr ⟨by omega, by omega⟩)
          · rw [if_neg (nI_ge (by omega) (by omega)), bI_f (fun z => by have := z i (Nat.le_refl _) hi; omega)]
  unfold F_X2_isInTime
  rw [show (0 : Int32) = nI 0 from rfl, loop N 0 (Nat.zero_le _) (by omega)]
  congr 2
  exact bI_c ⟨fun z j hj => z j (Nat.zero_le _) hj, fun z j _ hj => z j hj⟩
theorem S_kept {x y : Nat} {r : Option Nat} (hx : x < 9) (hy : y < 9) (hr : ∀ d, r = some d → d ≤ 7) (h0 : x ≠ 0) : F_X2_isKept N (nI x) (nI y) (rD r) H = some (bI ((r = none → y ≤ x) ∧ ∀ z, r = some z → 8 < x + z ∨ (y ≠ 0 ∧ y ≤ x + z)), H) := by
  unfold F_X2_isKept
  cases r with
  | none =>
    rw [if_pos (show rD none = (-1 : Int32) from rfl)]
    by_cases e : y ≤ x
    · rw [if_neg (nI_nlt e (by omega)), bI_t ⟨fun _ => e, fun z hz => by cases hz⟩]
    · rw [if_pos (nI_lt (by omega) (by omega)), bI_f (fun z => e (z.1 rfl))]
  | some d =>
    have hd := hr d rfl
    show (if nI d = (-1 : Int32) then _ else if (8 : Int32) < nI x + nI d then _ else _) = _
    rw [if_neg (nIm1 (by omega)), nI_add]
    by_cases e : 8 < x + d
    · rw [if_pos (show (8 : Int32) < nI (x + d) from nI_lt (a := 8) e (by omega)), bI_t ⟨fun z => (by cases z), fun z hz => by cases hz; exact Or.inl e⟩]
    · rw [if_neg (show ¬ (8 : Int32) < nI (x + d) from nI_nlt (a := 8) (by omega) (by decide))]
      by_cases e1 : y = 0
      · rw [if_pos (by rw [e1]; rfl), bI_f (fun z => by have := z.2 d rfl; omega)]
      · rw [if_neg (nI_ne0 (by omega) (by omega))]
        show (if nI x + nI d < nI y then _ else _) = _
        rw [nI_add]
        by_cases e2 : y ≤ x + d
        · rw [if_neg (nI_nlt e2 (by omega)), bI_t ⟨fun z => (by cases z), fun z hz => by cases hz; exact Or.inr ⟨e1, e2⟩⟩]
        · rw [if_pos (nI_lt (by omega) (by omega)), bI_f (fun z => by have := z.2 d rfl; omega)]
theorem S_poss (hN : 41 < N) {dg k : Nat} (h : cL N c lo τ ad H) (hd : dgs dg (dig k) H) (ho : yOk τ) : F_X2_isPossible N (some c) (some dg) H = some (bI (∀ r, r < yR τ → rOk (dig k) (yr τ r)), H) := by
  obtain ⟨h1, ⟨a1, -⟩, -, -, -, ⟨a5, -, g1, g2, g3, h6, h6', h6'', h9⟩, -⟩ := h
  obtain ⟨-, -, -, k3, -⟩ := cob_g h1
  obtain ⟨-, -, -, -, q5, q6, q7, -⟩ := cob_a h1
  have k3 : xgI H (some c) 2 3 = some (nI (yR τ)) := k3
  have loop : ∀ m i, i ≤ yR τ → yR τ - i < m → F_X2_isPossible_L2 N m (some c) (some dg) (nI i) H = some (bI (∀ r, i ≤ r → r < yR τ → rOk (dig k) (yr τ r)), H) := by
    refine upto (P := fun m i => F_X2_isPossible_L2 N m (some c) (some dg) (nI i) H = some (bI (∀ r, i ≤ r → r < yR τ → rOk (dig k) (yr τ r)), H)) ?_ ?_
    · intro m
      rw [show F_X2_isPossible_L2 N (m + 1) = F_X2_isPossible_J2 N (F_X2_isPossible_L2 N m) from rfl]
      simp only [F_X2_isPossible_J2, k3, Int32.le_refl, if_true, Option.bind_some]
      rw [bI_t (fun j z1 z2 => by omega)]
    · intro m i hi ih
      obtain ⟨z1, z2, z3⟩ := h9 i hi
      obtain ⟨o1, o2, o3⟩ := ho.2.1 i hi
      have s5 : F_X11_at N (some (c + 5)) (nI i) H = some (nI (yr τ i).1, H) := by rw [S_at h6 (by decide), gat_nI (by omega), if_pos (by omega), z1]
      have s6 : F_X11_at N (some (c + 6)) (nI i) H = some (nI (yr τ i).2.1, H) := by rw [S_at h6' (by decide), gat_nI (by omega), if_pos (by omega), z2]
      have s7 : F_X11_at N (some (c + 7)) (nI i) H = some (rD (yr τ i).2.2, H) := by rw [S_at h6'' (by decide), gat_nI (by omega), if_pos (by omega), z3]
      have l1 := dig_lt k (yr τ i).1
      have l2 := dig_lt k (yr τ i).2.1
      rw [show F_X2_isPossible_L2 N (m + 1) = F_X2_isPossible_J2 N (F_X2_isPossible_L2 N m) from rfl]
      simp only [F_X2_isPossible_J2, F_X2_isPossible_J60, k3, nI_ge hi (show yR τ < 2 ^ 31 by omega), if_false, q5, s5, bd2_s, hd.at (show (yr τ i).1 < 5 by omega), q6, s6, hd.at (show (yr τ i).2.1 < 5 by omega), nI_1, ih, q7, s7, Option.bind_some]
      have step : rOk (dig k) (yr τ i) → (some (bI (∀ r, i + 1 ≤ r → r < yR τ → rOk (dig k) (yr τ r)), H) : Option (Int32 × xH)) = some (bI (∀ r, i ≤ r → r < yR τ → rOk (dig k) (yr τ r)), H) := fun hp => by
        congr 2
        exact bI_c ⟨fun z j z1 z2 => by
          by_cases e : j = i
          · rw [e]; exact hp
          · exact z j (by omega) z2, fun z j z1 z2 => z j (by omega) z2⟩
      by_cases e0 : dig k (yr τ i).1 = 0
      · rw [if_pos (show nI (dig k (yr τ i).1) = 0 by rw [e0]; rfl)]
        exact step (Or.inl e0)
      · rw [if_neg (nI_ne0 (by omega) (by omega))]
        rw [S_kept l1 l2 o3 e0]
        simp only [bd2_s]
        by_cases e1 : ((yr τ i).2.2 = none → dig k (yr τ i).2.1 ≤ dig k (yr τ i).1) ∧ ∀ z, (yr τ i).2.2 = some z → 8 < dig k (yr τ i).1 + z ∨ (dig k (yr τ i).2.1 ≠ 0 ∧ dig k (yr τ i).2.1 ≤ dig k (yr τ i).1 + z)
        · rw [bI_t e1, if_neg n10, ih]
          exact step (Or.inr e1)
        · rw [bI_f e1, if_pos rfl, bI_f (fun z => (z i (Nat.le_refl _) hi).elim e0 e1)]
  unfold F_X2_isPossible
  rw [show (0 : Int32) = nI 0 from rfl, loop N 0 (Nat.zero_le _) (by omega)]
  congr 2
  exact bI_c ⟨fun z j hj => z j (Nat.zero_le _) hj, fun z j _ hj => z j hj⟩
theorem shl1 : ∀ w, w < 12 → ∀ o, o < 5 → (1 : Int64) <<< ((((5 : Int32) * nI w) + nI o).toInt64 &&& 63) = (nI (2 ^ o)).toInt64 <<< (((5 : Int32) * nI w).toInt64 &&& 63) := by decide +kernel
theorem c60 : ∀ w, w < 12 → d5 1152921504606846976 w = 0 ∧ d5 3458764513820540928 w = 0 := by decide +kernel
theorem c61 : d5 1152921504606846976 12 = 1 ∧ d5 3458764513820540928 12 = 3 := by decide +kernel
theorem S_cellOf (hN : 41 < N) {dg k : Nat} (h : cL N c lo τ ad H) (hd : dgs dg (dig k) H) (ho : yOk τ) : ∃ x, F_X2_cellOf N (some c) (some dg) H = some (x, H) ∧ cv (yW τ) (bX τ k) (bP τ k) False (fun w => outc (yb τ w) (dig k)) x := by
  have e1 := S_inTime (by omega) h hd ho
  have e2 := S_poss hN h hd ho
  obtain ⟨h1, -, -, -, -, -, ⟨a7, g8, h7, h7'⟩, h8⟩ := h
  obtain ⟨-, -, k2, -, -, ko⟩ := cob_g h1
  obtain ⟨-, -, -, -, -, -, -, q8⟩ := cob_a h1
  have k2 : xgI H (some c) 2 2 = some (nI (yW τ)) := k2
  unfold F_X2_cellOf
  simp only [ko, e1, bd2_s, Option.bind_some]
  by_cases q1 : bX τ k
  rotate_left
  · rw [bI_f q1, if_pos rfl]
    refine ⟨0, rfl, fun w hw => ?_, ?_⟩
    · rw [d5_0, bN_f q1]; split <;> simp
    · rw [d5_0, bN_f q1, bN_f (fun z => q1 z.1), bN_f id]
  have loop : ∀ (x0 : Int64) m i, i ≤ yW τ → yW τ - i < m → ∀ x, (∀ w, w < 12 → d5 x w = if w < i then 2 ^ outc (yb τ w) (dig k) else 0) → d5 x 12 = d5 x0 12 → ∃ x', F_X2_cellOf_L31 N m (some c) (some dg) x (nI i) H = some (x', H) ∧ (∀ w, w < 12 → d5 x' w = if w < yW τ then 2 ^ outc (yb τ w) (dig k) else 0) ∧ d5 x' 12 = d5 x0 12 := by
    intro x0
    refine upto (P := fun m i => ∀ x, (∀ w, w < 12 → d5 x w = if w < i then 2 ^ outc (yb τ w) (dig k) else 0) → d5 x 12 = d5 x0 12 → ∃ x', F_X2_cellOf_L31 N m (some c) (some dg) x (nI i) H = some (x', H) ∧ (∀ w, w < 12 → d5 x' w = if w < yW τ then 2 ^ outc (yb τ w) (dig k) else 0) ∧ d5 x' 12 = d5 x0 12) ?_ ?_
    · intro m x hx hx2
      rw [show F_X2_cellOf_L31 N (m + 1) = F_X2_cellOf_J31 N (F_X2_cellOf_L31 N m) from rfl]
      refine ⟨x, ?_, hx, hx2⟩
      simp only [F_X2_cellOf_J31, k2, Int32.le_refl, if_true, Option.bind_some]
    · intro m i hi ih x hx hx2
      have hb := h8 i hi
      have hob : xob H (some (ad i)) 0 = some (ad i) := by obtain ⟨_, _, _, z, -⟩ := hb; exact obx z
      have so := S_outc hb hd
      have ol := outc_lt (yb τ i) (dig k)
      rw [show F_X2_cellOf_L31 N (m + 1) = F_X2_cellOf_J31 N (F_X2_cellOf_L31 N m) from rfl]
      simp only [F_X2_cellOf_J31, F_X2_cellOf_J80, k2, nI_ge hi (show yW τ < 2 ^ 31 by omega), if_false, q8, leQ h7, nI_ge (show i < 12 by omega) (by decide), rdQ h7 (show i < 12 by omega) (by decide), h7' i hi, reduceCtorEq, hob, so, bd2_s, nI_1, shl1 i (by omega) _ ol, Option.bind_some]
      have p5 : 2 ^ outc (yb τ i) (dig k) < 32 := by
        have : 2 ^ outc (yb τ i) (dig k) ≤ 2 ^ 4 := Nat.pow_le_pow_right (by decide) (by omega)
        omega
      refine ih _ (fun w hw => ?_) ?_
      · rw [d5_or, hx w hw, d5_shl p5 (by omega)]
        by_cases e : w = i
        · rw [if_neg (by omega), if_pos e, if_pos (by omega), Nat.zero_or, e]
        · rw [if_neg e, Nat.or_zero]
          by_cases e2 : w < i
          · rw [if_pos e2, if_pos (by omega)]
          · rw [if_neg e2, if_neg (by omega)]
      · rw [d5_or, hx2, d5_shl p5 (by omega), if_neg (by omega), Nat.or_zero]
  rw [bI_t q1, if_neg n10]
  simp only [e2, bd2_s]
  have fin : ∀ x0 : Int64, (∀ w, w < 12 → d5 x0 w = 0) → d5 x0 12 = bN (bX τ k) + 2 * bN (bP τ k) + 4 * bN False → ∃ x, F_X2_cellOf_J27 N (some c) (some dg) x0 H = some (x, H) ∧ cv (yW τ) (bX τ k) (bP τ k) False (fun w => outc (yb τ w) (dig k)) x := by
    intro x0 z1 z2
    obtain ⟨x', w1, w2, w3⟩ := loop x0 N 0 (Nat.zero_le _) (by omega) x0 (fun w hw => by rw [if_neg (by omega)]; exact z1 w hw) rfl
    refine ⟨x', w1, fun w hw => ?_, w3.trans z2⟩
    rw [w2 w hw, bN_t q1, Nat.one_mul]
  by_cases q2 : ∀ r, r < yR τ → rOk (dig k) (yr τ r)
  · rw [bI_t q2, if_neg n10]
    exact fin _ (fun w hw => (c60 w hw).2) (by rw [c61.2, bN_t q1, bN_t ⟨q1, q2⟩, bN_f id])
  · rw [bI_f q2, if_pos rfl]
    exact fin _ (fun w hw => (c60 w hw).1) (by rw [c61.1, bN_t q1, bN_f (fun z => q2 z.2), bN_f id])
