/-! PURE ROWS: reading and writing known cells; numbers. -/
abbrev aI (n : Nat) (g : Nat → Int32) : xE := (true, .inl (.int, n, .inl g))
abbrev aB (n : Nat) (g : Nat → Int32) : xE := (true, .inl (.byte, n, .inl g))
abbrev aZ (n : Nat) (g : Nat → Int32) : xE := (true, .inl (.boolean, n, .inl g))
abbrev aJ (n : Nat) (g : Nat → Int64) : xE := (true, .inl (.long, n, .inr (.inl g)))
abbrev aQ (C : String) (n : Nat) (g : Nat → Option Nat) : xE := (true, .inl (.object C, n, .inr (.inr (.inr (.inr g)))))
abbrev ob (ci : Nat) (fs : List Value) : xE := (true, .inr (ci, fs))
section Pure
variable {H : xH} {a n k : Nat} {ty : FieldType} {g : Nat → Int32} {gl : Nat → Int64} {gq : Nat → Option Nat} {N : Nat}
theorem nI_nin {k n : Nat} (hk : k < n) (hn : n < 2 ^ 31) : ¬ (nI k < 0 ∨ n ≤ (nI k).toNatClampNeg) := nI_in hk hn
theorem rdI (h : H.1 a = some (true, .inl (ty, n, .inl g))) (hk : k < n) (hn : n < 2 ^ 31) : xlI ty H (some a) (nI k) = some (g k) := by
  have h1 : 0 ≤ nI k := nI_pos' (Nat.lt_trans hk hn)
  have h2 : (nI k).toNatClampNeg = k := nI_clamp (Nat.lt_trans hk hn)
  simp [xlI, xar, h, h1, h2, hk]
theorem rdJ (h : H.1 a = some (aJ n gl)) (hk : k < n) (hn : n < 2 ^ 31) : xlJ H (some a) (nI k) = some (gl k) := by
  have h1 : 0 ≤ nI k := nI_pos' (Nat.lt_trans hk hn)
  have h2 : (nI k).toNatClampNeg = k := nI_clamp (Nat.lt_trans hk hn)
  simp [xlJ, xar, h, h1, h2, hk]
theorem rdQ {C : String} (h : H.1 a = some (aQ C n gq)) (hk : k < n) (hn : n < 2 ^ 31) : xlA (.object C) H (some a) (nI k) = some (gq k) := by
  have h1 : 0 ≤ nI k := nI_pos' (Nat.lt_trans hk hn)
  have h2 : (nI k).toNatClampNeg = k := nI_clamp (Nat.lt_trans hk hn)
  simp [xlA, xar, h, h1, h2, hk]
theorem ldI {i : Int32} (h : H.1 a = some (true, .inl (ty, n, .inl g))) (hi : ¬ (i < 0 ∨ n ≤ i.toNatClampNeg)) : xlI ty H (some a) i = some (g i.toNatClampNeg) := by
  simp [xlI, xar, h, hi]
theorem leI (h : H.1 a = some (true, .inl (ty, n, .inl g))) : xal ty H (some a) = some (nI n) := by simp [xal, xar, h, nI]
theorem leJ (h : H.1 a = some (aJ n gl)) : xal .long H (some a) = some (nI n) := by simp [xal, xar, h, nI]
theorem leQ {C : String} (h : H.1 a = some (aQ C n gq)) : xal (.object C) H (some a) = some (nI n) := by simp [xal, xar, h, nI]
theorem stI {v : Int32} (h : H.1 a = some (true, .inl (ty, n, .inl g))) (hk : k < n) (hn : n < 2 ^ 31) : xsI ty H (some a) (nI k) v = some (xup H a (true, .inl (ty, n, .inl (upd g k (vp_nar ty v))))) := by
  have h1 : 0 ≤ nI k := nI_pos' (Nat.lt_trans hk hn)
  have h2 : (nI k).toNatClampNeg = k := nI_clamp (Nat.lt_trans hk hn)
  simp [xsI, h, h1, h2, hk]
theorem stJ {v : Int64} (h : H.1 a = some (aJ n gl)) (hk : k < n) (hn : n < 2 ^ 31) : xsJ H (some a) (nI k) v = some (xup H a (aJ n (vp_updL gl k v))) := by
  have h1 : 0 ≤ nI k := nI_pos' (Nat.lt_trans hk hn)
  have h2 : (nI k).toNatClampNeg = k := nI_clamp (Nat.lt_trans hk hn)
  simp [xsJ, h, h1, h2, hk]
theorem gI {ci j : Nat} {fs : List Value} {v : Int32} (h : H.1 a = some (ob ci fs)) (hv : fs[j]? = some (.int v)) : xgI H (some a) ci j = some v := by simp [xgI, xgf, h, hv]
theorem gJ {ci j : Nat} {fs : List Value} {v : Int64} (h : H.1 a = some (ob ci fs)) (hv : fs[j]? = some (.long v)) : xgJ H (some a) ci j = some v := by simp [xgJ, xgf, h, hv]
theorem gA {ci j : Nat} {fs : List Value} {v : Option Nat} (h : H.1 a = some (ob ci fs)) (hv : fs[j]? = some (va_rf v)) : xgA H (some a) ci j = some v := by
  cases v <;> simp [xgA, xgf, h, hv, va_rf]
theorem pV {ci j : Nat} {fs : List Value} {v : Value} (h : H.1 a = some (ob ci fs)) (hj : j < fs.length) : xpV H (some a) ci j v = some (xup H a (ob ci (fs.set j v))) := by simp [xpV, h, hj]
theorem obx {ci : Nat} {fs : List Value} (h : H.1 a = some (ob ci fs)) : xob H (some a) ci = some a := by simp [xob, h]
theorem xup_at (e : xE) : (xup H a e).1 a = some e := by simp [xup]
theorem xup_ne {b : Nat} (e : xE) (hb : b ≠ a) : (xup H a e).1 b = H.1 b := by simp [xup, hb]
theorem xup_up (e f : xE) : xup (xup H a e) a f = xup H a f := by
  unfold xup
  simp only [Prod.mk.injEq, and_true]
  funext q
  by_cases hq : q = a <;> simp [hq]
theorem xup_id {e : xE} (h : H.1 a = some e) : xup H a e = H := by
  obtain ⟨f, r⟩ := H
  unfold xup
  simp only [Prod.mk.injEq, and_true]
  funext q
  by_cases hq : q = a
  · subst hq; simpa using h.symm
  · simp [hq]
theorem bd2_s {α β γ : Type} {x : α} {y : β} {f : α → β → Option γ} : x_bd2 (some (x, y)) f = f x y := rfl
theorem vnI (v : Int32) : vp_nar .int v = v := rfl
/-- the value of a place, 0 outside -/
def gat (n : Nat) (g : Nat → Int32) (i : Int32) : Int32 := if i < 0 ∨ n ≤ i.toNatClampNeg then 0 else g i.toNatClampNeg
theorem gat_nI {k : Nat} (hk : k < 2 ^ 31) : gat n g (nI k) = if k < n then g k else 0 := by
  have h1 : ¬ nI k < 0 := nI_pos hk
  have h2 : (nI k).toNatClampNeg = k := nI_clamp hk
  unfold gat
  by_cases h : k < n
  · have h3 : ¬ n ≤ k := by omega
    simp [h1, h2, h, h3]
  · have h3 : n ≤ k := by omega
    simp [h1, h2, h, h3]
theorem ge_len {i : Int32} (hn : n < 2 ^ 31) (h0 : ¬ i < 0) : nI n ≤ i ↔ n ≤ i.toNatClampNeg := by
  obtain ⟨j, hj, rfl⟩ := nI_of h0
  rw [nI_leI hn hj, nI_clamp hj]
theorem S_at {i : Int32} (h : H.1 a = some (aI n g)) (hn : n < 2 ^ 31) : F_X11_at N (some a) i H = some (gat n g i, H) := by
  unfold F_X11_at gat
  by_cases h0 : i < 0
  · simp [h0]
  · have h1 := ge_len (n := n) hn h0
    by_cases h2 : n ≤ i.toNatClampNeg
    · simp [h0, leI h, h1, h2]
    · have h3 : ¬ (i < 0 ∨ n ≤ i.toNatClampNeg) := by simp [h0, h2]
      simp [h0, leI h, h1, h2, ldI h h3]
theorem S_set {v : Int32} (h : H.1 a = some (aI n g)) (hk : k < n) (hn : n < 2 ^ 31) : F_X11_set N (some a) (nI k) v H = some (xup H a (aI n (upd g k v))) := by
  unfold F_X11_set
  have h0 : ¬ nI k < 0 := nI_pos (Nat.lt_trans hk hn)
  have h1 : ¬ nI n ≤ nI k := nI_ge hk hn
  simp [h0, leI h, h1, stI h hk hn, vnI]
theorem S_fill (v : Int32) (hn : n < 2 ^ 31) : ∀ (m i : Nat) (H : xH) (g : Nat → Int32), H.1 a = some (aI n g) → i ≤ n → n - i < m → F_J7_fill_53178_L5 N m (some a) v (nI i) (nI n) H = some (xup H a (aI n (fun j => if i ≤ j ∧ j < n then v else g j))) := by
  intro m
  induction m with
  | zero => intro i H g h hi hm; omega
  | succ m ih =>
    intro i H g h hi hm
    show F_J7_fill_53178_J5 N (F_J7_fill_53178_L5 N m) (some a) v (nI i) (nI n) H = _
    unfold F_J7_fill_53178_J5
    by_cases hlt : i < n
    · have h1 : ¬ nI n ≤ nI i := nI_ge hlt hn
      simp only [h1, if_false, stI h hlt hn, Option.bind_some, nI_1, vnI]
      rw [ih (i + 1) _ _ (xup_at _) (by omega) (by omega), xup_up]
      congr 4
      funext j
      by_cases hj : j = i
      · subst hj
        have h9 : ¬ (j + 1 ≤ j ∧ j < n) := by omega
        simp [upd, hlt]
      · by_cases hj2 : i + 1 ≤ j ∧ j < n
        · have : i ≤ j ∧ j < n := by omega
          simp [hj2, this]
        · have : ¬ (i ≤ j ∧ j < n) := by omega
          rw [if_neg hj2, if_neg this]
          simp [upd, hj]
    · have h1 : nI n ≤ nI i := nI_le (by omega) (by omega)
      simp only [h1, if_true]
      rw [show (fun j => if i ≤ j ∧ j < n then v else g j) = g from funext fun j => by rw [if_neg (by omega)], xup_id h]
end Pure
