/-! PURE: keys of codes; STEP when. -/
/-- the number that has these digits -/
def nd (f : Nat → Nat) : Nat → Nat
  | 0 => 0
  | k + 1 => nd f k + f k * 9 ^ k
theorem nd_lt {f : Nat → Nat} (hf : ∀ k, f k < 9) : ∀ T, nd f T < 9 ^ T := by
  intro T
  induction T with
  | zero => simp [nd]
  | succ T ih =>
    have h1 := hf T
    have h2 : f T * 9 ^ T ≤ 8 * 9 ^ T := Nat.mul_le_mul_right _ (by omega)
    rw [Nat.pow_succ]
    simp only [nd]
    omega
theorem dig_nd {f : Nat → Nat} (hf : ∀ k, f k < 9) : ∀ T k, k < T → dig (nd f T) k = f k := by
  intro T
  induction T with
  | zero => intro k hk; omega
  | succ T ih =>
    intro k hk
    have hl := nd_lt hf T
    unfold dig
    simp only [nd]
    by_cases h : k = T
    · subst h
      rw [Nat.add_mul_div_right _ _ (Nat.pow_pos (by decide)), Nat.div_eq_of_lt hl, Nat.zero_add, Nat.mod_eq_of_lt (hf k)]
    · have hk' : k < T := by omega
      have e : f T * 9 ^ T = (f T * 9 ^ (T - k - 1) * 9) * 9 ^ k := by
        have hT : 9 ^ T = 9 ^ (T - k - 1) * 9 * 9 ^ k := by
          rw [← Nat.pow_succ, ← Nat.pow_add]
          congr 1
          omega
        rw [hT, Nat.mul_assoc (f T), Nat.mul_assoc (f T)]
      rw [e, Nat.add_mul_div_right _ _ (Nat.pow_pos (by decide)), Nat.add_mul_mod_self_right]
      exact ih k hk'
theorem nd_dig (c : Nat) : ∀ T, nd (dig c) T = c % 9 ^ T := by
  intro T
  induction T with
  | zero => simp [nd, Nat.mod_one]
  | succ T ih =>
    simp only [nd, ih]
    unfold dig
    rw [Nat.pow_succ, Nat.mod_mul, Nat.mul_comm]
theorem nd_congr {f g : Nat → Nat} : ∀ T, (∀ k, k < T → f k = g k) → nd f T = nd g T := by
  intro T
  induction T with
  | zero => intro _; rfl
  | succ T ih => intro h; simp only [nd]; rw [ih (fun k hk => h k (by omega)), h T (by omega)]
theorem nd_ext {f g : Nat → Nat} (hf : ∀ k, f k < 9) (hg : ∀ k, g k < 9) (T : Nat) : nd f T = nd g T ↔ ∀ k, k < T → f k = g k := ⟨fun h k hk => by rw [← dig_nd hf T k hk, ← dig_nd hg T k hk, h], nd_congr T⟩
theorem dig_ext {T c c' : Nat} (h : c < 9 ^ T) (h' : c' < 9 ^ T) (hd : ∀ k, k < T → dig c k = dig c' k) : c = c' := by
  have := nd_congr T hd
  rwa [nd_dig, nd_dig, Nat.mod_eq_of_lt h, Nat.mod_eq_of_lt h'] at this
/-- a digit till day d -/
def td (d c k : Nat) : Nat := if dig c k ≤ d + 1 then dig c k else 0
theorem td_lt (d c k : Nat) : td d c k < 9 := by
  have := dig_lt c k
  unfold td; split <;> omega
def tl (T d c : Nat) : Nat := nd (td d c) T
theorem tl_lt (T d c : Nat) : tl T d c < 9 ^ T := nd_lt (td_lt d c) T
theorem div_succ9 (c i : Nat) : c / 9 ^ i / 9 = c / 9 ^ (i + 1) := by rw [Nat.div_div_eq_div_mul, Nat.pow_succ]
section When
variable {stf : Nat → Nat} {N K b m : Nat} {β : sB} {δ : sD} {H : xH}
theorem S_till {v : Nat → Int32} {l : sL} (hN : 5 < N) (q : mQ m v β l H) {c d : Nat} (hc : c < bZ β) (hd : d ≤ 7) : F_X12_till N (some m) (nI c) (nI d) H = some (nI (tl (bT β) d c), H) := by
  obtain ⟨v0, v1, v2, v3, v46, t5, t6, t12⟩ := q.ac
  have qz := q.z
  have key : F_X12_till_L11 N N (some m) (nI d) (nI (c / 9 ^ 0)) (nI (nd (td d c) 0)) (nI (9 ^ 0)) (nI 0) H = some (nI (nd (td d c) (bT β)), H) := by
    refine upto (s := bT β) (P := fun n i => F_X12_till_L11 N n (some m) (nI d) (nI (c / 9 ^ i)) (nI (nd (td d c) i)) (nI (9 ^ i)) (nI i) H = some (nI (nd (td d c) (bT β)), H)) (fun n => ?_) (fun n i hi ih => ?_) N 0 (Nat.zero_le _) (by omega)
    · simp only [F_X12_till_L11, F_X12_till_J11, v0, Option.bind_some, bd2_s, nI_le (Nat.le_refl (bT β)) (show bT β < 2 ^ 31 by omega), if_true]
    · have hci : c / 9 ^ i < 2 ^ 31 := Nat.lt_of_le_of_lt (Nat.div_le_self _ _) (by omega)
      have e1 : nI (c / 9 ^ i) - nI (c / 9 ^ i) / (9 : Int32) * (9 : Int32) = nI (dig c i) := pk_rem hci (by decide : 0 < 9) (by decide)
      have e2 : nI (c / 9 ^ i) / (9 : Int32) = nI (c / 9 ^ (i + 1)) := by rw [← div_succ9]; exact pk_div hci (by decide : 0 < 9) (by decide)
      have e1' : nI (c / 9 ^ i) - nI (c / 9 ^ (i + 1)) * (9 : Int32) = nI (dig c i) := by rw [← e2]; exact e1
      have hdl := dig_lt c i
      have e3 : nI (9 ^ i) * (9 : Int32) = nI (9 ^ (i + 1)) := by rw [Nat.pow_succ]; exact pk_mul _ _
      simp only [F_X12_till_L11, F_X12_till_J11, F_X12_till_J54, F_X12_till_J55, v0, Option.bind_some, bd2_s, nI_ge hi (show bT β < 2 ^ 31 by omega), if_false, e1', e2, e3, nI_1]
      by_cases h0 : dig c i = 0
      · have g : nd (td d c) (i + 1) = nd (td d c) i := by simp [nd, td, h0]
        rw [if_pos (by rw [h0]; decide), Int32.add_zero, ← g]
        exact ih
      · have n0 : ¬ nI (dig c i) ≤ 0 := nI_nle (by omega) (by omega)
        have e4 : nI (dig c i) - (1 : Int32) = nI (dig c i - 1) := pk_sub (show 1 ≤ dig c i by omega)
        rw [if_neg n0, e4]
        by_cases h1 : dig c i ≤ d + 1
        · rw [if_neg (nI_nlt (show dig c i - 1 ≤ d by omega) (by omega)), pk_mul, nI_add]
          have g : nd (td d c) (i + 1) = nd (td d c) i + dig c i * 9 ^ i := by simp [nd, td, h1]
          rw [← g]
          exact ih
        · rw [if_pos (nI_lt (show d < dig c i - 1 by omega) (by omega))]
          have g : nd (td d c) (i + 1) = nd (td d c) i := by simp [nd, td, h1]
          rw [Int32.add_zero, ← g]
          exact ih
  unfold F_X12_till
  have e0 : c / 9 ^ 0 = c := by simp
  rw [e0] at key
  exact key
/-- what begins makes of a key, the first i rows seen -/
def dcd (β : sB) (w d i : Nat) (g : Nat → Int32) (key : Nat) : Prop :=
  ((∀ k, k < i → bps β k → tl (bT β) d k ≠ key) ∧ g key = -5000) ∨
  (∃ o, o < 5 ∧ (∀ k, k < i → bps β k → tl (bT β) d k = key → boc β w k = o) ∧ (∃ k, k < i ∧ bps β k ∧ tl (bT β) d k = key) ∧ g key = pay o (bc1 β w) (bc2 β w)) ∨
  ((∃ k k', k < i ∧ k' < i ∧ bps β k ∧ bps β k' ∧ tl (bT β) d k = key ∧ tl (bT β) d k' = key ∧ boc β w k ≠ boc β w k') ∧ g key = 5000)
theorem pay_b {c1 c2 : Int32} (h1 : 1 ≤ c1.toInt ∧ c1.toInt ≤ 999) (h2 : 1 ≤ c2.toInt ∧ c2.toInt ≤ 999) : ∀ o, o < 5 → -1998 ≤ (pay o c1 c2).toInt ∧ (pay o c1 c2).toInt ≤ 1998 := by
  have e1 : (-c1).toInt = -c1.toInt := by
    rw [Int32.toInt_neg]
    rw [Int.bmod_eq_of_le] <;> omega
  have e2 : ((-2 : Int32) * c1).toInt = -2 * c1.toInt := by
    rw [Int32.toInt_mul, show ((-2 : Int32)).toInt = -2 by decide]
    rw [Int.bmod_eq_of_le] <;> omega
  have e3 : ((2 : Int32) * c2).toInt = 2 * c2.toInt := by
    rw [Int32.toInt_mul, show ((2 : Int32)).toInt = 2 by decide]
    rw [Int.bmod_eq_of_le] <;> omega
  have e0 : (0 : Int32).toInt = 0 := by decide
  refine five ?_ ?_ ?_ ?_ ?_ <;> simp only [pay, e0, e1, e2, e3] <;> omega
theorem pay_u {c1 c2 : Int32} (h1 : 1 ≤ c1.toInt ∧ c1.toInt ≤ 999) (h2 : 1 ≤ c2.toInt ∧ c2.toInt ≤ 999) {o : Nat} (ho : o < 5) : ¬ pay o c1 c2 = 5000 ∧ ¬ pay o c1 c2 = -5000 := by
  have := pay_b h1 h2 o ho
  constructor
  · intro e
    rw [e, show (5000 : Int32).toInt = 5000 by decide] at this; omega
  · intro e
    rw [e, show (-5000 : Int32).toInt = -5000 by decide] at this; omega
theorem dcd_U {β : sB} {w d i : Nat} {g : Nat → Int32} {key : Nat} (hB : bOk β) (hw : w < bW β) (h : dcd β w d i g key) : g key = 5000 ↔ ∃ k k', k < i ∧ k' < i ∧ bps β k ∧ bps β k' ∧ tl (bT β) d k = key ∧ tl (bT β) d k' = key ∧ boc β w k ≠ boc β w k' := by
  have hcn := hB.2.2.2.2.2 w hw
  rcases h with ⟨h1, h2⟩ | ⟨o, ho, h1, h2, h3⟩ | ⟨h1, h2⟩
  · rw [h2]
    exact ⟨fun z => absurd z (by decide), fun ⟨k, k', k1, k2, k3, k4, k5, k6, k7⟩ => absurd k5 (h1 k k1 k3)⟩
  · rw [h3]
    exact ⟨fun z => absurd z (pay_u ⟨hcn.1, hcn.2.1⟩ ⟨hcn.2.2.1, hcn.2.2.2⟩ ho).1, fun ⟨k, k', k1, k2, k3, k4, k5, k6, k7⟩ => absurd ((h1 k k1 k3 k5).trans (h1 k' k2 k4 k6).symm) k7⟩
  · exact ⟨fun _ => h1, fun _ => h2⟩
theorem dcd_st {β : sB} {w d i : Nat} {g : Nat → Int32} {key : Nat} (h : dcd β w d i g key) (hi : ¬ (bps β i ∧ tl (bT β) d i = key)) : dcd β w d (i + 1) g key := by
  have hk : ∀ k, k < i + 1 → bps β k → tl (bT β) d k = key → k < i := fun k h1 h2 h3 => by
    by_cases e : k = i
    · subst e; exact absurd ⟨h2, h3⟩ hi
    · omega
  rcases h with ⟨h1, h2⟩ | ⟨o, ho, h1, ⟨k, k1, k2, k3⟩, h3⟩ | ⟨⟨k, k', k1, k2, k3⟩, h2⟩
  · exact Or.inl ⟨fun k a1 a2 a3 => h1 k (hk k a1 a2 a3) a2 a3, h2⟩
  · exact Or.inr (Or.inl ⟨o, ho, fun k a1 a2 a3 => h1 k (hk k a1 a2 a3) a2 a3, ⟨k, by omega, k2, k3⟩, h3⟩)
  · exact Or.inr (Or.inr ⟨⟨k, k', by omega, by omega, k3⟩, h2⟩)
theorem S_begins {v : Nat → Int32} {l : sL} (hN : 59049 < N) (q : mQ m v β l H) {w d : Nat} (hw : w < bW β) (hd : d ≤ 7) {g0 : Nat → Int32} (hg0 : H.1 (m + 27) = some (aI 59049 g0)) : ∃ g, F_X12_begins N (some m) (nI w) (nI d) H = some (xup H (m + 27) (aI 59049 g)) ∧ ∀ key, key < bZ β → dcd β w d (bZ β) g key := by
  have qz := q.z
  have hB := q.2.1
  have hcn := hB.2.2.2.2.2 w hw
  have hqs : ∀ g, mQ m v β l (xup H (m + 27) (aI 59049 g)) := fun g => q.s (mS.sc q.1.1 (sc.upI (Or.inr (Or.inr (Or.inl rfl))) hg0))
  -- the rows
  have L27 : ∀ n i, i ≤ bZ β → bZ β - i < n → ∀ g, (∀ key, key < bZ β → dcd β w d i g key) → ∃ g', F_X12_begins_L27 N n (some m) (nI w) (nI d) (nI i) (xup H (m + 27) (aI 59049 g)) = some (xup H (m + 27) (aI 59049 g')) ∧ ∀ key, key < bZ β → dcd β w d (bZ β) g' key := by
    refine upto (s := bZ β) (P := fun n i => ∀ g, (∀ key, key < bZ β → dcd β w d i g key) → ∃ g', F_X12_begins_L27 N n (some m) (nI w) (nI d) (nI i) (xup H (m + 27) (aI 59049 g)) = some (xup H (m + 27) (aI 59049 g')) ∧ ∀ key, key < bZ β → dcd β w d (bZ β) g' key) (fun n g hg => ⟨g, ?_, hg⟩) (fun n i hi ih g hg => ?_)
    · simp only [F_X12_begins_L27, F_X12_begins_J27, (hqs g).rows, Option.bind_some, bd2_s, nI_le (Nat.le_refl (bZ β)) (show bZ β < 2 ^ 31 by omega), if_true]
    · have q' := hqs g
      have hat : (xup H (m + 27) (aI 59049 g)).1 (m + 27) = some (aI 59049 g) := xup_at _
      simp only [F_X12_begins_L27, F_X12_begins_J27, F_X12_begins_J93, F_X12_begins_J101, F_X12_begins_J102, q'.rows, q'.ob, Option.bind_some, bd2_s, nI_ge hi (show bZ β < 2 ^ 31 by omega), if_false, S_mPos q'.1 q'.2.1 hi, nI_1]
      by_cases hp : bps β i
      · have he := hB.2.2.2.1 i hi hp
        have hkl : tl (bT β) d i < bZ β := tl_lt _ _ _
        have hoc := hB.2.2.2.2.1 w i
        have rd := rdI hat (show tl (bT β) d i < 59049 by omega) (by decide)
        have st : ∀ x, xsI .int (xup H (m + 27) (aI 59049 g)) (some (m + 27)) (nI (tl (bT β) d i)) x = some (xup H (m + 27) (aI 59049 (upd g (tl (bT β) d i) x))) := fun x => by
          rw [stI hat (by omega) (by decide), xup_up]; rfl
        simp only [bI_t hp, show ¬ (1 : Int32) = 0 by decide, if_false, S_till (N := N) (by omega) q' hi hd, S_mPays q' hw hi he, gA q'.1.1 ma50, rd, st, q'.ob, Option.bind_some, bd2_s]
        have other : ∀ x key, key ≠ tl (bT β) d i → dcd β w d i g key → dcd β w d (i + 1) (upd g (tl (bT β) d i) x) key := fun x key hne h1 => by
          have e : upd g (tl (bT β) d i) x key = g key := pk_un hne
          have := dcd_st h1 (fun z => hne z.2.symm)
          unfold dcd at this ⊢
          rw [e]; exact this
        have fin : ∀ x, dcd β w d (i + 1) (upd g (tl (bT β) d i) x) (tl (bT β) d i) → ∃ g', F_X12_begins_L27 N n (some m) (nI w) (nI d) (nI (i + 1)) (xup H (m + 27) (aI 59049 (upd g (tl (bT β) d i) x))) = some (xup H (m + 27) (aI 59049 g')) ∧ ∀ key, key < bZ β → dcd β w d (bZ β) g' key := fun x hx => ih _ (fun key hk => by
          by_cases e : key = tl (bT β) d i
          · rw [e]; exact hx
          · exact other x key e (hg key hk))
        have hpu := pay_u ⟨hcn.1, hcn.2.1⟩ ⟨hcn.2.2.1, hcn.2.2.2⟩ hoc
        rcases hg _ hkl with ⟨h1, h2⟩ | ⟨o, ho, h1, ⟨k, k1, k2, k3⟩, h3⟩ | ⟨⟨k, k', k1, k2, k3⟩, h2⟩
        · rw [if_pos h2]
          refine fin _ (Or.inr (Or.inl ⟨boc β w i, hoc, fun k a1 a2 a3 => ?_, ⟨i, by omega, hp, rfl⟩, pk_us⟩))
          by_cases e : k = i
          · rw [e]
          · exact absurd a3 (h1 k (by omega) a2)
        · rw [h3, if_neg (pay_u ⟨hcn.1, hcn.2.1⟩ ⟨hcn.2.2.1, hcn.2.2.2⟩ ho).2]
          by_cases e : boc β w i = o
          · rw [if_pos (by rw [e])]
            refine fin _ (Or.inr (Or.inl ⟨boc β w i, hoc, fun k a1 a2 a3 => ?_, ⟨i, by omega, hp, rfl⟩, pk_us⟩))
            by_cases e2 : k = i
            · rw [e2]
            · rw [h1 k (by omega) a2 a3, e]
          · rw [if_neg (fun z => e (pay_inj ⟨hcn.1, hcn.2.1⟩ ⟨hcn.2.2.1, hcn.2.2.2⟩ _ ho _ hoc z).symm)]
            exact fin _ (Or.inr (Or.inr ⟨⟨i, k, by omega, by omega, hp, k2, rfl, k3, fun z => e (z.trans (h1 k k1 k2 k3))⟩, pk_us⟩))
        · rw [h2, if_neg (by decide), if_neg (fun z => hpu.1 z.symm)]
          exact fin _ (Or.inr (Or.inr ⟨⟨k, k', by omega, by omega, k3⟩, pk_us⟩))
      · simp only [bI_f hp, if_true]
        exact ih g (fun key hk => dcd_st (hg key hk) (fun z => hp z.1))
  -- the clearing
  have L2 : ∀ n i, i ≤ bZ β → bZ β - i < n → ∀ g, (∀ key, key < i → g key = -5000) → ∃ g', F_X12_begins_L2 N (F_X12_begins_J25 N) n (some m) (nI w) (nI d) (nI i) (xup H (m + 27) (aI 59049 g)) = some (xup H (m + 27) (aI 59049 g')) ∧ ∀ key, key < bZ β → dcd β w d (bZ β) g' key := by
    refine upto (s := bZ β) (P := fun n i => ∀ g, (∀ key, key < i → g key = -5000) → ∃ g', F_X12_begins_L2 N (F_X12_begins_J25 N) n (some m) (nI w) (nI d) (nI i) (xup H (m + 27) (aI 59049 g)) = some (xup H (m + 27) (aI 59049 g')) ∧ ∀ key, key < bZ β → dcd β w d (bZ β) g' key) (fun n g hg => ?_) (fun n i hi ih g hg => ?_)
    · simp only [F_X12_begins_L2, F_X12_begins_J2, F_X12_begins_J25, (hqs g).rows, Option.bind_some, bd2_s, nI_le (Nat.le_refl (bZ β)) (show bZ β < 2 ^ 31 by omega), if_true]
      exact L27 N 0 (Nat.zero_le _) (by omega) g (fun key hk => Or.inl ⟨fun k hk => by omega, hg key hk⟩)
    · have q' := hqs g
      have hat : (xup H (m + 27) (aI 59049 g)).1 (m + 27) = some (aI 59049 g) := xup_at _
      simp only [F_X12_begins_L2, F_X12_begins_J2, q'.rows, Option.bind_some, bd2_s, nI_ge hi (show bZ β < 2 ^ 31 by omega), if_false, gA q'.1.1 ma50, stI hat (show i < 59049 by omega) (by decide), xup_up, nI_1, vnI]
      refine ih _ (fun key hk => ?_)
      by_cases e : key = i
      · rw [e]; exact pk_us
      · rw [pk_un e]; exact hg key (by omega)
  have := L2 N 0 (Nat.zero_le _) (by omega) g0 (fun key hk => by omega)
  rw [xup_id hg0] at this
  exact this
end When
