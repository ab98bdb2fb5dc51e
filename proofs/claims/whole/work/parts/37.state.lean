/-! PURE: the state of a book, and what the class's heap holds of it. -/
noncomputable def cnt (P : Nat → Prop) : Nat → Nat
  | 0 => 0
  | k + 1 => @ite _ (P k) (Classical.propDecidable _) (cnt P k + 1) (cnt P k)
theorem cnt_t {P : Nat → Prop} {k : Nat} (h : P k) : cnt P (k + 1) = cnt P k + 1 := by conv => lhs; unfold cnt; rw [if_pos h]
theorem cnt_f {P : Nat → Prop} {k : Nat} (h : ¬ P k) : cnt P (k + 1) = cnt P k := by conv => lhs; unfold cnt; rw [if_neg h]
theorem cnt_le (P : Nat → Prop) : ∀ k, cnt P k ≤ k := by
  intro k
  induction k with
  | zero => exact Nat.le_refl 0
  | succ k ih =>
    by_cases h : P k
    · rw [cnt_t h]; omega
    · rw [cnt_f h]; omega
theorem cnt_mono (P : Nat → Prop) {i : Nat} : ∀ {j : Nat}, i ≤ j → cnt P i ≤ cnt P j := by
  intro j
  induction j with
  | zero => intro h; rw [show i = 0 by omega]; exact Nat.le_refl _
  | succ j ih =>
    intro h
    by_cases hj : i = j + 1
    · rw [hj]; exact Nat.le_refl _
    · have := ih (by omega)
      by_cases hp : P j
      · rw [cnt_t hp]; omega
      · rw [cnt_f hp]; exact this
theorem cnt_congr {P Q : Nat → Prop} : ∀ {k : Nat}, (∀ j, j < k → (P j ↔ Q j)) → cnt P k = cnt Q k := by
  intro k
  induction k with
  | zero => intro _; rfl
  | succ k ih =>
    intro h
    have h0 := ih (fun j hj => h j (by omega))
    by_cases hp : P k
    · rw [cnt_t hp, cnt_t ((h k (by omega)).mp hp), h0]
    · rw [cnt_f hp, cnt_f (fun q => hp ((h k (by omega)).mpr q)), h0]
theorem cnt_pos {P : Nat → Prop} : ∀ {s : Nat}, (0 < cnt P s ↔ ∃ k, k < s ∧ P k) := by
  intro s
  induction s with
  | zero => simp [cnt]
  | succ s ih =>
    by_cases hp : P s
    · rw [cnt_t hp]; exact ⟨fun _ => ⟨s, by omega, hp⟩, fun _ => by omega⟩
    · rw [cnt_f hp, ih]
      exact ⟨fun ⟨k, h1, h2⟩ => ⟨k, by omega, h2⟩, fun ⟨k, h1, h2⟩ => ⟨k, by rcases Nat.lt_or_ge k s with q | q; exact q; exact absurd h2 (by rw [show k = s by omega]; exact hp), h2⟩⟩
theorem lfc_cnt (c : Nat → Int64) (A : Nat → Prop) : ∀ k, lfc c A k = cnt (ncP c A) k := by
  intro k
  induction k with
  | zero => rfl
  | succ k ih =>
    by_cases h : ncP c A k
    · rw [cnt_t h, ← ih]; simp [lfc, h]
    · rw [cnt_f h, ← ih]; simp [lfc, h]
/-- what a BOOK tells: things, members, wagers, statements; "from", "until"; the coins; may be off, double; rows there, POSSIBLE; outcomes -/
abbrev sB : Type := Nat × Nat × Nat × Int32 × (Nat → Int32) × (Nat → Int32) × (Nat → Int32) × (Nat → Int32) × (Nat → Prop) × (Nat → Prop) × (Nat → Prop) × (Nat → Prop) × (Nat → Nat → Nat)
def bT (β : sB) : Nat := β.1
def bM (β : sB) : Nat := β.2.1
def bW (β : sB) : Nat := β.2.2.1
def bS (β : sB) : Int32 := β.2.2.2.1
def bfr (β : sB) : Nat → Int32 := β.2.2.2.2.1
def bun (β : sB) : Nat → Int32 := β.2.2.2.2.2.1
def bc1 (β : sB) : Nat → Int32 := β.2.2.2.2.2.2.1
def bc2 (β : sB) : Nat → Int32 := β.2.2.2.2.2.2.2.1
def bmo (β : sB) : Nat → Prop := β.2.2.2.2.2.2.2.2.1
def bmd (β : sB) : Nat → Prop := β.2.2.2.2.2.2.2.2.2.1
def bex (β : sB) : Nat → Prop := β.2.2.2.2.2.2.2.2.2.2.1
def bps (β : sB) : Nat → Prop := β.2.2.2.2.2.2.2.2.2.2.2.1
def boc (β : sB) : Nat → Nat → Nat := β.2.2.2.2.2.2.2.2.2.2.2.2
/-- how many codes there are -/
def bZ (β : sB) : Nat := 9 ^ bT β
/-- what is so of every BOOK -/
def bOk (β : sB) : Prop := bT β ≤ 5 ∧ bM β ≤ 6 ∧ bW β ≤ 12 ∧ (∀ k, k < bZ β → bps β k → bex β k) ∧ (∀ w k, boc β w k < 5) ∧ (∀ w, w < bW β → 1 ≤ (bc1 β w).toInt ∧ (bc1 β w).toInt ≤ 999 ∧ 1 ≤ (bc2 β w).toInt ∧ (bc2 β w).toInt ≤ 999)
/-- what an IMAGE keeps: TODAY, sides sold, what came (0, or the DAY and 1), the holders, the balances -/
abbrev sL : Type := Nat × Int32 × (Nat → Nat) × (Nat → Int32) × (Nat → Int32)
def lT (l : sL) : Nat := l.1
def lS (l : sL) : Int32 := l.2.1
def lC (l : sL) : Nat → Nat := l.2.2.1
def lH (l : sL) : Nat → Int32 := l.2.2.2.1
def lB (l : sL) : Nat → Int32 := l.2.2.2.2
/-- a ROW is LEFT -/
def lft (β : sB) (l : sL) (k : Nat) : Prop := bps β k ∧ ∀ j, j < bT β → (if lC l j = 0 then dig k j = 0 ∨ lT l + 1 ≤ dig k j else dig k j = lC l j)
def lOk (β : sB) (l : sL) : Prop := lT l ≤ 7 ∧ (∀ j, lC l j ≤ 8) ∧ (∃ k, k < bZ β ∧ lft β l k)
/-- the rest: the state now, images, chances, the tape, the fault, books -/
abbrev sD : Type := sL × Nat × (Nat → sL) × (Nat → Int32) × Nat × (Nat → Int32) × Int32 × Int32
def dL (δ : sD) : sL := δ.1
def dI (δ : sD) : Nat := δ.2.1
def dM (δ : sD) : Nat → sL := δ.2.2.1
def dC (δ : sD) : Nat → Int32 := δ.2.2.2.1
def dN (δ : sD) : Nat := δ.2.2.2.2.1
def dT (δ : sD) : Nat → Int32 := δ.2.2.2.2.2.1
def dF (δ : sD) : Int32 := δ.2.2.2.2.2.2.1
def dB (δ : sD) : Int32 := δ.2.2.2.2.2.2.2
theorem okd1 : ∀ today, today < 8 → ∀ d, d < 9 → (((((adig (nI today) (nI 0)) >>> (nI d &&& 31)) &&& 1) = 0) ↔ ¬ (d = 0 ∨ today + 1 ≤ d)) := by decide +kernel
theorem okd2 : ∀ c, c < 9 → c ≠ 0 → ∀ d, d < 9 → (((((1 : Int32) <<< (nI c &&& 31)) >>> (nI d &&& 31)) &&& 1) = 0 ↔ ¬ d = c) := by decide +kernel
theorem adig_c {today : Int32} {c : Nat} (hc : c < 9) (h0 : c ≠ 0) : adig today (nI c) = (1 : Int32) <<< (nI c &&& 31) := by
  unfold adig
  rw [if_neg]
  have : ∀ c, c < 9 → c ≠ 0 → ¬ nI c = 0 := by decide +kernel
  exact this c hc h0
/-- the allowed digits are those of ROWS LEFT -/
theorem alw_lft {β : sB} {l : sL} {cm : Nat → Int32} (hT : bT β ≤ 5) (h7 : lT l ≤ 7) (h8 : ∀ j, lC l j ≤ 8) (hc : ∀ j, j < 5 → cm j = nI (lC l j)) (k : Nat) : (bps β k ∧ alw (bT β) (alf (bT β) (nI (lT l)) cm) k) ↔ lft β l k := by
  unfold lft alw
  refine and_congr_right (fun _ => ?_)
  have key : ∀ j, j < bT β → (okd (alf (bT β) (nI (lT l)) cm j) (nI (dig k j)) ↔ (if lC l j = 0 then dig k j = 0 ∨ lT l + 1 ≤ dig k j else dig k j = lC l j)) := by
    intro j hj
    unfold okd
    rw [show alf (bT β) (nI (lT l)) cm j = adig (nI (lT l)) (nI (lC l j)) by simp [alf, hj, hc j (by omega)]]
    by_cases h0 : lC l j = 0
    · rw [if_pos h0, h0, okd1 (lT l) (by omega) (dig k j) (dig_lt k j), Classical.not_not]
    · rw [if_neg h0, adig_c (by have := h8 j; omega) h0, okd2 (lC l j) (by have := h8 j; omega) h0 (dig k j) (dig_lt k j), Classical.not_not]
  exact ⟨fun h j hj => (key j hj).mp (h j hj), fun h j hj => (key j hj).mpr (h j hj)⟩
/-- a ledger -/
def xLed (l : Nat) (σ : sL) (H : xH) : Prop :=
  H.1 l = some (ob 4 [.int (nI (lT σ)), .int (lS σ), va_rf (some (l + 1)), va_rf (some (l + 2)), va_rf (some (l + 3))]) ∧ (∃ g, H.1 (l + 1) = some (aI 5 g) ∧ ∀ j, j < 5 → g j = nI (lC σ j)) ∧ (∃ g, H.1 (l + 2) = some (aI 24 g) ∧ ∀ j, j < 24 → g j = lH σ j) ∧ (∃ g, H.1 (l + 3) = some (aI 6 g) ∧ ∀ j, j < 6 → g j = lB σ j)
/-- the table, marked for the ledger σ -/
def xTab (t tc tk n nk : Nat) (β : sB) (σ : sL) (H : xH) : Prop :=
  (∃ cert : Int64, H.1 t = some (ob 6 [.int (nI (bT β)), .int (nI (bZ β)), .int (nI (cnt (bps β) (bZ β))), .int (nI (cnt (lft β σ) (bZ β))), .long cert, va_rf (some tc), va_rf (some tk), va_rf (some (t + 3)), va_rf (some (t + 4))]) ∧ (∀ w, w < 12 → (∀ o, w < bW β → sureO (bZ β) (lft β σ) (boc β w) o → d5 cert w = 2 ^ o) ∧ ((w < bW β → ∀ o, ¬ sureO (bZ β) (lft β σ) (boc β w) o) → d5 cert w = 0)) ∧ d5 cert 12 = 0) ∧
  (∃ c : Nat → Int64, H.1 tc = some (aJ n c) ∧ ∀ k, k < bZ β → cv (bW β) (bex β k) (bps β k) (lft β σ k) (fun w => boc β w k) (c k)) ∧ bZ β ≤ n ∧ n ≤ 59049 ∧
  (∃ g, H.1 tk = some (aB nk g)) ∧ bZ β + bZ β / 8 + 1 ≤ nk ∧ nk ≤ 70000 ∧ (∃ g, H.1 (t + 3) = some (aI 5 g)) ∧ (∃ g, H.1 (t + 4) = some (aI 5 g))
/-- the club, as far as it's read once the BOOK is taken; where the bets are: ad -/
def xClub (c : Nat) (ad : Nat → Nat) (β : sB) (H : xH) : Prop :=
  (∃ rc : Int32, H.1 c = some (ob 2 [.int (nI (bT β)), .int (nI (bM β)), .int (nI (bW β)), .int rc, .int (bS β), va_rf (some (c + 1)), va_rf (some (c + 2)), va_rf (some (c + 3)), va_rf (some (c + 4)), va_rf (some (c + 5)), va_rf (some (c + 6)), va_rf (some (c + 7)), va_rf (some (c + 8))])) ∧
  (∃ g, H.1 (c + 2) = some (aI 5 g) ∧ ∀ j, j < bT β → g j = bfr β j) ∧ (∃ g, H.1 (c + 3) = some (aI 5 g) ∧ ∀ j, j < bT β → g j = bun β j) ∧
  (∃ g, H.1 (c + 8) = some (aQ "BettingBook$Bet" 12 g) ∧ ∀ w, w < bW β → g w = some (ad w)) ∧
  ∀ w, w < bW β → ∃ (o1 o2 : Int32) (p1 p2 p3 : Option Nat), H.1 (ad w) = some (ob 0 [.int o1, .int o2, .int (bc1 β w), .int (bc2 β w), va_rf p1, va_rf p2, va_rf p3]) ∧ (p2 = none ↔ ¬ bmo β w) ∧ (p3 = none ↔ ¬ bmd β w)
