/-! PURE: a text's bytes, its tokens. -/
/-- bytes' kinds: 1 blank, 2 letter, 3 digit, three signs, 4 none -/
def kk (x : Nat) : Nat := if x = 32 ∨ x = 10 then 1 else if 97 ≤ x ∧ x ≤ 122 then 2 else if 48 ≤ x ∧ x ≤ 57 then 3 else if x = 59 ∨ x = 40 ∨ x = 41 then x else 4
theorem kk_lt {x : Nat} (h : x < 256) : kk x < 60 := by
  have : ∀ x, x < 256 → kk x < 60 := by decide +kernel
  exact this x h
theorem kk_pos {x : Nat} (h : x < 256) : 1 ≤ kk x := by
  have : ∀ x, x < 256 → 1 ≤ kk x := by decide +kernel
  exact this x h
/-- a byte as it's read -/
def sb (x : Nat) : Int32 := if x < 128 then nI x else nI x - 256
def ub (x : Int32) : Nat := (x &&& 255).toBitVec.toNat
theorem ub_m (x : Int32) : ub x = x.toBitVec.toNat % 256 := by
  show (x.toBitVec &&& (255 : Int32).toBitVec).toNat = _
  rw [BitVec.toNat_and, show ((255 : Int32).toBitVec).toNat = 2 ^ 8 - 1 by decide, Nat.and_two_pow_sub_one_eq_mod]
theorem ub_lt (x : Int32) : ub x < 256 := by rw [ub_m]; exact Nat.mod_lt _ (by decide)
theorem ub_a (x : Int32) : x &&& 255 = nI (ub x) := by
  apply Int32.toBitVec_inj.mp
  apply BitVec.eq_of_toNat_eq
  rw [pk_tn (by have := ub_lt x; omega)]
  rfl
theorem ub_s (x : Int32) : vp_nar .byte x = sb (ub x) := by
  have h1 : ∀ k, k < 256 → (nI k).toInt8.toInt32 = sb k := by decide +kernel
  have h2 : x.toInt8 = (nI (ub x)).toInt8 := i8_c (by rw [pk_tn (by have := ub_lt x; omega), ub_m, Nat.mod_mod])
  rw [← h1 _ (ub_lt x), ← h2]
  rfl
theorem sb_1 {x : Nat} (h : x < 256) : kk x = 1 ↔ (sb x = 32 ∨ sb x = 10) := by
  have : ∀ x, x < 256 → (kk x = 1 ↔ (sb x = 32 ∨ sb x = 10)) := by decide +kernel
  exact this x h
theorem sb_2 {x : Nat} (h : x < 256) : kk x = 2 ↔ (¬ sb x < 97 ∧ ¬ 122 < sb x) := by
  have : ∀ x, x < 256 → (kk x = 2 ↔ (¬ sb x < 97 ∧ ¬ 122 < sb x)) := by decide +kernel
  exact this x h
theorem sb_3 {x : Nat} (h : x < 256) : kk x = 3 ↔ (¬ sb x < 48 ∧ ¬ 57 < sb x) := by
  have : ∀ x, x < 256 → (kk x = 3 ↔ (¬ sb x < 48 ∧ ¬ 57 < sb x)) := by decide +kernel
  exact this x h
theorem sb_g {x s : Nat} (h : x < 256) (hs : s = 40 ∨ s = 41 ∨ s = 59) : kk x = s ↔ sb x = nI s := by
  have : ∀ x, x < 256 → (kk x = 40 ↔ sb x = nI 40) ∧ (kk x = 41 ↔ sb x = nI 41) ∧ (kk x = 59 ↔ sb x = nI 59) := by decide +kernel
  rcases hs with rfl | rfl | rfl
  · exact (this x h).1
  · exact (this x h).2.1
  · exact (this x h).2.2
theorem kk_2 {x : Nat} (h : kk x = 2) : 97 ≤ x ∧ x ≤ 122 := by
  unfold kk at h
  split at h
  · omega
  · split at h
    · assumption
    · split at h
      · omega
      · split at h <;> omega
theorem kk_3 {x : Nat} (h : kk x = 3) : 48 ≤ x ∧ x ≤ 57 := by
  unfold kk at h
  split at h
  · omega
  · split at h
    · omega
    · split at h
      · assumption
      · split at h <;> omega
theorem sb_n {x : Nat} (h : x < 128) : sb x = nI x := by unfold sb; rw [if_pos h]
theorem S_kindOf {N : Nat} {H : xH} {x : Nat} (h : x < 256) : F_X8_kindOf N (nI x) H = some (nI (kk x), H) := by
  have e : ∀ a : Int32, F_X8_kindOf N a H = some (if a = 32 then 1 else if a = 10 then 1 else if a < 97 then (if a < 48 then (if a = 59 then a else if a = 40 then a else if a = 41 then a else 4) else if 57 < a then (if a = 59 then a else if a = 40 then a else if a = 41 then a else 4) else 3) else if 122 < a then (if a < 48 then (if a = 59 then a else if a = 40 then a else if a = 41 then a else 4) else if 57 < a then (if a = 59 then a else if a = 40 then a else if a = 41 then a else 4) else 3) else 2, H) := by
    intro a
    unfold F_X8_kindOf F_X8_kindOf_J28 F_X8_kindOf_J42
    repeat' split
    all_goals rfl
  rw [e]
  have k : ∀ x, x < 256 → (if nI x = 32 then (1 : Int32) else if nI x = 10 then 1 else if nI x < 97 then (if nI x < 48 then (if nI x = 59 then nI x else if nI x = 40 then nI x else if nI x = 41 then nI x else 4) else if 57 < nI x then (if nI x = 59 then nI x else if nI x = 40 then nI x else if nI x = 41 then nI x else 4) else 3) else if 122 < nI x then (if nI x < 48 then (if nI x = 59 then nI x else if nI x = 40 then nI x else if nI x = 41 then nI x else 4) else if 57 < nI x then (if nI x = 59 then nI x else if nI x = 40 then nI x else if nI x = 41 then nI x else 4) else 3) else 2) = nI (kk x) := by decide +kernel
  rw [k x h]
/-- letters s, .. of a text, the last one first -/
def wl (t : Nat → Nat) (s : Nat) : Nat → List Nat
  | 0 => []
  | l + 1 => t (s + l) :: wl t s l
def w5 : List Nat → Nat
  | [] => 0
  | x :: L => w5 L * 32 + (x - 96)
def w8 : List Nat → Nat
  | [] => 0
  | x :: L => w8 L * 256 + x
def dc (t : Nat → Nat) (s : Nat) : Nat → Nat
  | 0 => 0
  | l + 1 => 10 * dc t s l + (t (s + l) - 48)
def lets (L : List Nat) : Prop := ∀ x, x ∈ L → 97 ≤ x ∧ x ≤ 122
theorem wl_len (t : Nat → Nat) (s : Nat) : ∀ l, (wl t s l).length = l
  | 0 => rfl
  | l + 1 => by simp [wl, wl_len t s l]
theorem wl_lets {t : Nat → Nat} {s : Nat} : ∀ {l : Nat}, (∀ q, s ≤ q → q < s + l → kk (t q) = 2) → lets (wl t s l)
  | 0, _ => fun x hx => by simp [wl] at hx
  | l + 1, h => fun x hx => by
    rcases List.mem_cons.mp hx with rfl | hx
    · exact kk_2 (h _ (by omega) (by omega))
    · exact wl_lets (fun q h1 h2 => h q h1 (by omega)) x hx
theorem lets.tl {x : Nat} {L : List Nat} (h : lets (x :: L)) : lets L := fun y hy => h y (List.mem_cons_of_mem _ hy)
theorem w5_inj : ∀ {L M : List Nat}, lets L → lets M → w5 L = w5 M → L = M
  | [], [], _, _, _ => rfl
  | [], y :: M, _, hM, h => by have := hM y (by simp); simp [w5] at h; omega
  | x :: L, [], hL, _, h => by have := hL x (by simp); simp [w5] at h; omega
  | x :: L, y :: M, hL, hM, h => by
    have h1 := hL x (by simp)
    have h2 := hM y (by simp)
    simp only [w5] at h
    have e : x = y := by omega
    have e2 : w5 L = w5 M := by omega
    rw [e, w5_inj hL.tl hM.tl e2]
theorem w8_inj : ∀ {L M : List Nat}, lets L → lets M → w8 L = w8 M → L = M
  | [], [], _, _, _ => rfl
  | [], y :: M, _, hM, h => by have := hM y (by simp); simp [w8] at h; omega
  | x :: L, [], hL, _, h => by have := hL x (by simp); simp [w8] at h; omega
  | x :: L, y :: M, hL, hM, h => by
    have h1 := hL x (by simp)
    have h2 := hM y (by simp)
    simp only [w8] at h
    have e : x = y := by omega
    have e2 : w8 L = w8 M := by omega
    rw [e, w8_inj hL.tl hM.tl e2]
theorem w5_lt : ∀ {L : List Nat}, lets L → w5 L < 32 ^ L.length
  | [], _ => by simp [w5]
  | x :: L, h => by
    have h1 := h x (by simp)
    have h2 := w5_lt h.tl
    simp only [w5, List.length_cons, Nat.pow_succ]
    omega
theorem w8_lt : ∀ {L : List Nat}, lets L → w8 L < 123 * 256 ^ (L.length - 1) ∨ L = []
  | [], _ => Or.inr rfl
  | [x], h => by have h1 := h x (by simp); simp [w8]; omega
  | x :: y :: L, h => by
    have h1 := h x (by simp)
    rcases w8_lt h.tl with h2 | h2
    · left
      have e : w8 (x :: y :: L) = w8 (y :: L) * 256 + x := rfl
      simp only [List.length_cons, Nat.add_sub_cancel] at h2 ⊢
      rw [e, Nat.pow_succ]
      omega
    · simp at h2
theorem w8_63 {L : List Nat} (h : lets L) (h8 : L.length ≤ 8) : w8 L < 2 ^ 63 := by
  rcases w8_lt h with h2 | rfl
  · have : 256 ^ (L.length - 1) ≤ 256 ^ 7 := Nat.pow_le_pow_right (by decide) (by omega)
    have : 123 * 256 ^ 7 < 2 ^ 63 := by decide
    omega
  · decide
theorem w5_63 {L : List Nat} (h : lets L) (h8 : L.length ≤ 8) : w5 L < 2 ^ 40 := by
  have h1 := w5_lt h
  have : 32 ^ L.length ≤ 32 ^ 8 := Nat.pow_le_pow_right (by decide) h8
  have : 32 ^ 8 = 2 ^ 40 := by decide
  omega
theorem lN_u {k : Nat} (h : k < 2 ^ 64) : uL (lN k) = k := by
  show (BitVec.ofNat 64 k).toNat = k
  rw [BitVec.toNat_ofNat, Nat.mod_eq_of_lt h]
theorem lN_e6 {a b : Nat} (ha : a < 2 ^ 64) (hb : b < 2 ^ 64) : lN a = lN b ↔ a = b := ⟨fun h => by rw [← lN_u ha, ← lN_u hb, h], fun h => by rw [h]⟩
