/-! PURE: STEP hang: the class's side. -/
theorem kb_c0 : ∀ κ, κ < 32 → ∀ t, t < 5 → κ.testBit t = true → ∀ j, j < 5 → (κ - 2 ^ t).testBit j = (κ.testBit j && !(j == t)) := by decide +kernel
theorem kb_c1 (κ : Nat) (hκ : κ < 32) (t : Nat) (ht : t < 5) (hb : κ.testBit t = true) (j : Nat) (hj : j < 5) : ((κ - 2 ^ t).testBit j = true ↔ κ.testBit j = true ∧ j ≠ t) := by
  rw [kb_c0 κ hκ t ht hb j hj]; simp
theorem kb_c2 : ∀ κ, κ < 32 → ∀ t, t < 5 → κ.testBit t = true → ∀ u, u < 6 → pop κ u = (if t < u then pop (κ - 2 ^ t) u + 1 else pop (κ - 2 ^ t) u) := by decide +kernel
theorem kb_c3 : ∀ κ, κ < 32 → ∀ t, t < 5 → κ.testBit t = true → κ - 2 ^ t < κ := by decide +kernel
theorem kb_cl {κ : Nat} (hκ : κ < 32) {t : Nat} (ht : t < 5) (hb : κ.testBit t = true) : (∀ j, j < 5 → ((κ - 2 ^ t).testBit j = true ↔ κ.testBit j = true ∧ j ≠ t)) ∧ (∀ u, u < 6 → pop κ u = (if t < u then pop (κ - 2 ^ t) u + 1 else pop (κ - 2 ^ t) u)) ∧ κ - 2 ^ t < κ := ⟨kb_c1 κ hκ t ht hb, kb_c2 κ hκ t ht hb, kb_c3 κ hκ t ht hb⟩
theorem pop_st (X n : Nat) : pop X (n + 1) = pop X n + (if X.testBit n = true then 1 else 0) := rfl
theorem pop_le (X : Nat) : ∀ n, pop X n ≤ n := by
  intro n
  induction n with
  | zero => exact Nat.le_refl _
  | succ n ih => rw [pop_st]; split <;> omega
theorem pop_all {X t : Nat} : ∀ d, (∀ j, t ≤ j → j < t + d → X.testBit j = true) → pop X (t + d) = pop X t + d := by
  intro d
  induction d with
  | zero => intro _; rfl
  | succ d ih =>
    intro h
    rw [← Nat.add_assoc, pop_st, ih (fun j h1 h2 => h j h1 (by omega)), if_pos (h _ (by omega) (by omega))]
    omega
/-- the digits of the things kept -/
def kp (κ c : Nat) : Nat → Nat
  | 0 => 0
  | t + 1 => if κ.testBit t = true then kp κ c t + dig c t * 9 ^ pop κ t else kp κ c t
theorem kp_lt (κ c : Nat) : ∀ t, kp κ c t < 9 ^ pop κ t := by
  intro t
  induction t with
  | zero => simp [kp, pop]
  | succ t ih =>
    rw [pop_st]
    by_cases h : κ.testBit t = true
    · simp only [kp, h, if_true]
      have h1 := dig_lt c t
      have h2 : dig c t * 9 ^ pop κ t ≤ 8 * 9 ^ pop κ t := Nat.mul_le_mul_right _ (by omega)
      rw [Nat.pow_succ]; omega
    · simp only [kp, h]
      exact ih
theorem kp_t {κ c t : Nat} (h : κ.testBit t = true) : kp κ c (t + 1) = kp κ c t + dig c t * 9 ^ pop κ t := by simp only [kp, h, if_true]
theorem kp_f {κ c t : Nat} (h : ¬ κ.testBit t = true) : kp κ c (t + 1) = kp κ c t := by simp only [kp, h]; rfl
theorem kp_drop {κ t : Nat} (hκ : κ < 32) (ht : t < 5) (hb : κ.testBit t = true) (c : Nat) : ∀ n, t + n < 5 → ∃ hi, kp κ c (t + 1 + n) = (hi * 9 + dig c t) * 9 ^ pop κ t + kp κ c t ∧ kp (κ - 2 ^ t) c (t + 1 + n) = hi * 9 ^ pop κ t + kp κ c t := by
  obtain ⟨b1, b2, b3⟩ := kb_cl hκ ht hb
  have low : ∀ u, u ≤ t → kp (κ - 2 ^ t) c u = kp κ c u := by
    intro u
    induction u with
    | zero => intro _; rfl
    | succ u ih =>
      intro hu
      have hp : pop κ u = pop (κ - 2 ^ t) u := by rw [b2 u (by omega), if_neg (by omega)]
      by_cases h : κ.testBit u = true
      · rw [kp_t h, kp_t ((b1 u (by omega)).mpr ⟨h, by omega⟩), ih (by omega), hp]
      · rw [kp_f h, kp_f (fun z => h ((b1 u (by omega)).mp z).1), ih (by omega)]
  intro n
  induction n with
  | zero =>
    intro _
    refine ⟨0, ?_, ?_⟩
    · rw [Nat.add_zero, kp_t hb, Nat.zero_mul, Nat.zero_add, Nat.add_comm]
    · rw [Nat.add_zero, kp_f (fun z => ((b1 t ht).mp z).2 rfl), low t (Nat.le_refl _)]; omega
  | succ n ih =>
    intro hn
    obtain ⟨hi, e1, e2⟩ := ih (by omega)
    have hp := b2 (t + 1 + n) (by omega)
    rw [if_pos (by omega)] at hp
    have hge : pop κ t ≤ pop (κ - 2 ^ t) (t + 1 + n) := by
      have h1 := b2 t (by omega)
      rw [if_neg (by omega)] at h1
      rw [h1]
      have : ∀ d, pop (κ - 2 ^ t) t ≤ pop (κ - 2 ^ t) (t + d) := fun d => by
        induction d with
        | zero => exact Nat.le_refl _
        | succ d ihd => rw [← Nat.add_assoc, pop_st]; omega
      have := this (1 + n)
      rwa [← Nat.add_assoc] at this
    rw [← Nat.add_assoc]
    by_cases h : κ.testBit (t + 1 + n) = true
    · refine ⟨hi + dig c (t + 1 + n) * 9 ^ (pop (κ - 2 ^ t) (t + 1 + n) - pop κ t), ?_, ?_⟩
      · rw [kp_t h, e1, hp]
        have : 9 ^ (pop (κ - 2 ^ t) (t + 1 + n) + 1) = 9 ^ (pop (κ - 2 ^ t) (t + 1 + n) - pop κ t) * 9 * 9 ^ pop κ t := by
          rw [← Nat.pow_succ, ← Nat.pow_add]
          congr 1
          omega
        rw [this, Nat.add_mul (hi * 9), Nat.add_mul, Nat.add_mul, Nat.add_mul]
        simp only [Nat.mul_assoc]
        omega
      · rw [kp_t ((b1 _ (by omega)).mpr ⟨h, by omega⟩), e2]
        have : 9 ^ (pop (κ - 2 ^ t) (t + 1 + n)) = 9 ^ (pop (κ - 2 ^ t) (t + 1 + n) - pop κ t) * 9 ^ pop κ t := by
          rw [← Nat.pow_add]
          congr 1
          omega
        conv => lhs; rw [this]
        rw [Nat.add_mul, Nat.mul_assoc]
        omega
    · refine ⟨hi, ?_, ?_⟩
      · rw [kp_f h, e1]
      · rw [kp_f (fun z => h ((b1 _ (by omega)).mp z).1), e2]
/-- alike in the things kept -/
theorem kp_eq {κ c c' : Nat} : ∀ T, (kp κ c T = kp κ c' T ↔ ∀ j, j < T → κ.testBit j = true → dig c j = dig c' j) := by
  intro T
  induction T with
  | zero => simp [kp]
  | succ T ih =>
    by_cases h : κ.testBit T = true
    · rw [kp_t h, kp_t h]
      have a := kp_lt κ c T
      have b := kp_lt κ c' T
      constructor
      · intro e
        have hp := Nat.pow_pos (n := pop κ T) (by decide : 0 < 9)
        have e1 : dig c T = dig c' T := by
          have := congrArg (· / 9 ^ pop κ T) e
          simp only [Nat.add_mul_div_right _ _ hp, Nat.div_eq_of_lt a, Nat.div_eq_of_lt b, Nat.zero_add] at this
          exact this
        rw [e1] at e
        have e2 := ih.mp (by omega)
        intro j hj hb
        by_cases q : j = T
        · rw [q]; exact e1
        · exact e2 j (by omega) hb
      · intro e
        rw [ih.mpr (fun j hj hb => e j (by omega) hb), e T (by omega) h]
    · rw [kp_f h, kp_f h, ih]
      exact ⟨fun e j hj hb => by
        by_cases q : j = T
        · rw [q] at hb; exact absurd hb h
        · exact e j (by omega) hb, fun e j hj hb => e j (by omega) hb⟩
/-- rows left that have these things alike have the outcome alike -/
def tls (T : Nat) (lf : Nat → Prop) (oc : Nat → Nat) (S : Nat) : Prop := ∀ c, c < 9 ^ T → lf c → ∀ c', c' < 9 ^ T → lf c' → (∀ j, j < T → S.testBit j = true → dig c j = dig c' j) → oc c = oc c'
theorem tls.mono {T : Nat} {lf : Nat → Prop} {oc : Nat → Nat} {S S' : Nat} (h : tls T lf oc S) (hs : ∀ j, j < T → S.testBit j = true → S'.testBit j = true) : tls T lf oc S' := fun c h1 h2 c' h3 h4 h5 => h c h1 h2 c' h3 h4 (fun j hj hb => h5 j hj (hs j hj hb))
/-- a segment's classes -/
def sG (T : Nat) (lf : Nat → Prop) (oc : Nat → Nat) (κ : Nat) (sg : Nat → Nat) : Prop := ∀ p, p < 9 ^ pop κ T → sg p < 32 ∧ ∀ b, b < 5 → ((sg p).testBit b = true ↔ ∃ c, c < 9 ^ T ∧ lf c ∧ kp κ c T = p ∧ oc c = b)
/-- nine joined, of them the first i -/
def jo (sg : Nat → Nat) (B s l : Nat) : Nat → Nat
  | 0 => 0
  | i + 1 => jo sg B s l i ||| sg ((B * 9 + i) * 9 ^ s + l)
def jd (sg : Nat → Nat) (s p : Nat) : Nat := jo sg (p / 9 ^ s) s (p % 9 ^ s) 9
theorem jo_lt {sg : Nat → Nat} {B s l : Nat} : ∀ i, (∀ e, e < i → sg ((B * 9 + e) * 9 ^ s + l) < 32) → jo sg B s l i < 32 := by
  intro i
  induction i with
  | zero => intro _; show 0 < 32; decide
  | succ i ih => intro h; exact Nat.or_lt_two_pow (n := 5) (ih (fun e he => h e (by omega))) (h i (by omega))
theorem jo_bit {sg : Nat → Nat} {B s l b : Nat} : ∀ i, ((jo sg B s l i).testBit b = true ↔ ∃ e, e < i ∧ (sg ((B * 9 + e) * 9 ^ s + l)).testBit b = true) := by
  intro i
  induction i with
  | zero => simp [jo]
  | succ i ih =>
    simp only [jo]
    rw [Nat.testBit_or, Bool.or_eq_true, ih]
    constructor
    · rintro (⟨e, h1, h2⟩ | h)
      · exact ⟨e, by omega, h2⟩
      · exact ⟨i, by omega, h⟩
    · rintro ⟨e, h1, h2⟩
      by_cases q : e = i
      · subst q; exact Or.inr h2
      · exact Or.inl ⟨e, by omega, h2⟩
theorem blk_lt {B s l r e : Nat} (hB : B < 9 ^ (r - s)) (hs : s ≤ r) (hl : l < 9 ^ s) (he : e < 9) : (B * 9 + e) * 9 ^ s + l < 9 ^ (r + 1) := by
  have h1 : 9 ^ (r + 1) = 9 ^ (r - s) * 9 * 9 ^ s := by
    rw [← Nat.pow_succ, ← Nat.pow_add]
    congr 1
    omega
  have h2 : B * 9 + e + 1 ≤ 9 ^ (r - s) * 9 := by omega
  have h3 := Nat.mul_le_mul_right (9 ^ s) h2
  rw [Nat.add_mul (B * 9 + e), Nat.one_mul] at h3
  rw [h1]; omega
/-- a thing dropped -/
theorem sG_drop {T κ t : Nat} {lf : Nat → Prop} {oc : Nat → Nat} {sg : Nat → Nat} (hT : T ≤ 5) (hκ : κ < 32) (ht : t < T) (hb : κ.testBit t = true) (h : sG T lf oc κ sg) : sG T lf oc (κ - 2 ^ t) (jd sg (pop κ t)) := by
  obtain ⟨b1, b2, b3⟩ := kb_cl hκ (show t < 5 by omega) hb
  have hp := b2 T (by omega)
  rw [if_pos ht] at hp
  have hge : pop κ t ≤ pop (κ - 2 ^ t) T := by
    have h1 := b2 t (by omega)
    rw [if_neg (by omega)] at h1
    rw [h1]
    have : ∀ d, pop (κ - 2 ^ t) t ≤ pop (κ - 2 ^ t) (t + d) := fun d => by
      induction d with
      | zero => exact Nat.le_refl _
      | succ d ihd => rw [← Nat.add_assoc, pop_st]; omega
    have := this (T - t)
    rwa [show t + (T - t) = T by omega] at this
  intro p hpl
  have hs9 := Nat.pow_pos (n := pop κ t) (by decide : 0 < 9)
  have hB : p / 9 ^ pop κ t < 9 ^ (pop (κ - 2 ^ t) T - pop κ t) := by
    rw [Nat.div_lt_iff_lt_mul hs9, ← Nat.pow_add, show pop (κ - 2 ^ t) T - pop κ t + pop κ t = pop (κ - 2 ^ t) T by omega]
    exact hpl
  have hl : p % 9 ^ pop κ t < 9 ^ pop κ t := Nat.mod_lt _ hs9
  have hin : ∀ e, e < 9 → (p / 9 ^ pop κ t * 9 + e) * 9 ^ pop κ t + p % 9 ^ pop κ t < 9 ^ pop κ T := fun e he => by
    rw [hp]; exact blk_lt hB hge hl he
  refine ⟨jo_lt 9 (fun e he => (h _ (hin e he)).1), fun b hb5 => ?_⟩
  unfold jd
  rw [jo_bit]
  have split : ∀ c, ∃ hi, kp κ c T = (hi * 9 + dig c t) * 9 ^ pop κ t + kp κ c t ∧ kp (κ - 2 ^ t) c T = hi * 9 ^ pop κ t + kp κ c t := fun c => by
    have := kp_drop hκ (by omega) hb c (T - t - 1) (by omega)
    rwa [show t + 1 + (T - t - 1) = T by omega] at this
  have dm : ∀ a l, l < 9 ^ pop κ t → (a * 9 ^ pop κ t + l) / 9 ^ pop κ t = a ∧ (a * 9 ^ pop κ t + l) % 9 ^ pop κ t = l := fun a l hl => by
    rw [Nat.add_comm, Nat.add_mul_div_right _ _ hs9, Nat.div_eq_of_lt hl, Nat.add_mul_mod_self_right, Nat.mod_eq_of_lt hl, Nat.zero_add]
    exact ⟨rfl, rfl⟩
  constructor
  · rintro ⟨e, he, h1⟩
    obtain ⟨c, c1, c2, c3, c4⟩ := ((h _ (hin e he)).2 b hb5).mp h1
    obtain ⟨hi, s1, s2⟩ := split c
    rw [s1] at c3
    have d1 := dm (hi * 9 + dig c t) (kp κ c t) (kp_lt κ c t)
    have d2 := dm (p / 9 ^ pop κ t * 9 + e) _ hl
    rw [c3] at d1
    have x1 : hi * 9 + dig c t = p / 9 ^ pop κ t * 9 + e := d1.1.symm.trans d2.1
    have x2 : kp κ c t = p % 9 ^ pop κ t := d1.2.symm.trans d2.2
    have hd := dig_lt c t
    have x3 : hi = p / 9 ^ pop κ t := by omega
    refine ⟨c, c1, c2, ?_, c4⟩
    rw [s2, x3, x2, Nat.mul_comm]
    exact Nat.div_add_mod p _
  · rintro ⟨c, c1, c2, c3, c4⟩
    obtain ⟨hi, s1, s2⟩ := split c
    have d1 := dm hi (kp κ c t) (kp_lt κ c t)
    rw [← s2, c3] at d1
    refine ⟨dig c t, dig_lt c t, ((h _ (hin _ (dig_lt c t))).2 b hb5).mpr ⟨c, c1, c2, ?_, c4⟩⟩
    rw [s1, d1.1, d1.2]
/-- where nothing's mixed, the things tell all -/
theorem sG_tls {T κ : Nat} {lf : Nat → Prop} {oc : Nat → Nat} {sg : Nat → Nat} (ho : ∀ c, oc c < 5) (h : sG T lf oc κ sg) : (∀ p, p < 9 ^ pop κ T → one1 (sg p)) ↔ tls T lf oc κ := by
  constructor
  · intro hm c h1 h2 c' h3 h4 h5
    have hk : kp κ c T = kp κ c' T := (kp_eq T).mpr h5
    have hlt := kp_lt κ c T
    have hp := h _ hlt
    exact (one1_iff hp.1).mp (hm _ hlt) _ (ho c) _ (ho c') ((hp.2 _ (ho c)).mpr ⟨c, h1, h2, rfl, rfl⟩) ((hp.2 _ (ho c')).mpr ⟨c', h3, h4, hk.symm, rfl⟩)
  · intro ht p hp
    refine (one1_iff (h p hp).1).mpr (fun b hb b' hb' t1 t2 => ?_)
    obtain ⟨c, c1, c2, c3, c4⟩ := ((h p hp).2 b hb).mp t1
    obtain ⟨c', d1, d2, d3, d4⟩ := ((h p hp).2 b' hb').mp t2
    rw [← c4, ← d4]
    exact ht c c1 c2 c' d1 d2 ((kp_eq T).mp (c3.trans d3.symm))
section Hang
variable {stf : Nat → Nat} {N K b m : Nat} {β : sB} {δ : sD} {H : xH}
variable {c tc tk cb n nk ncb : Nat} {ad : Nat → Nat}
theorem S_power9 (hN : 5 < N) {s : Nat} (hs : s ≤ 5) : F_X11_power N 9 (nI s) H = some (nI (9 ^ s), H) := by
  have key := upto (s := s) (P := fun n i => F_X11_power_L4 N n 9 (nI s) (nI (9 ^ i)) (nI i) H = some (nI (9 ^ s), H)) (fun n => by
    rw [show F_X11_power_L4 N (n + 1) = F_X11_power_J4 N (F_X11_power_L4 N n) from rfl]
    simp only [F_X11_power_J4, nI_le (Nat.le_refl _) (show s < 2 ^ 31 by omega), if_true]) (fun n i hi ih => by
    rw [show F_X11_power_L4 N (n + 1) = F_X11_power_J4 N (F_X11_power_L4 N n) from rfl]
    have e : nI (9 ^ i) * (9 : Int32) = nI (9 ^ (i + 1)) := by rw [Nat.pow_succ]; exact pk_mul _ _
    simp only [F_X11_power_J4, nI_ge hi (show s < 2 ^ 31 by omega), if_false, e, nI_1]
    exact ih) N 0 (Nat.zero_le _) (by omega)
  exact key
theorem S_dropThing (hN : 59049 < N) (ho : RXo stf K b m c tc tk cb n nk ncb ad β δ H) {o r s : Nat} {sg : Nat → Nat} (hsr : s ≤ r) (hr : r < 5) (hnk : o + 9 ^ (r + 1) + 9 ^ r ≤ nk) (h32 : ∀ p, p < 9 ^ (r + 1) → sg p < 32) {g : Nat → Int32} (hg0 : ∃ g, H.1 tk = some (aB nk g)) (hrp : ∀ p, p < 9 ^ (r + 1) → g (o + p) = nI (sg p)) : ∃ ret g', F_X6_dropThing N (some (b + 15)) (nI o) (nI (9 ^ (r + 1))) (nI (9 ^ s)) (xup H tk (aB nk g)) = some (ret, xup H tk (aB nk g')) ∧ (∀ q, q < o + 9 ^ (r + 1) → g' q = g q) ∧ ((ret = 1 ∧ (∀ p, p < 9 ^ r → g' (o + 9 ^ (r + 1) + p) = nI (jd sg s p)) ∧ ∀ p, p < 9 ^ r → one1 (jd sg s p)) ∨ (ret = 0 ∧ ∃ p, p < 9 ^ r ∧ ¬ one1 (jd sg s p))) := by
  obtain ⟨gk, hgk⟩ := id hg0
  obtain ⟨-, -, -, nk7⟩ := ho.ck
  have hos : ∀ g, RXo stf K b m c tc tk cb n nk ncb ad β δ (xup H tk (aB nk g)) := fun g => ho.tkU hgk
  have hs9 := Nat.pow_pos (n := s) (by decide : 0 < 9)
  have hrs : 9 ^ (r - s) * 9 ^ s = 9 ^ r := by
    rw [← Nat.pow_add]
    congr 1
    omega
  have hr9 : 9 ^ (r + 1) = 9 ^ r * 9 := Nat.pow_succ ..
  have hs_le : 9 ^ s ≤ 9 ^ r := Nat.pow_le_pow_right (by decide) hsr
  have hb_le : 9 ^ (r - s) ≤ 9 ^ r := Nat.pow_le_pow_right (by decide) (by omega)
  have hr6 : 9 ^ r ≤ 6561 := Nat.le_trans (Nat.pow_le_pow_right (by decide) (by omega : r ≤ 4)) (by decide)
  have hdm : ∀ B l, l < 9 ^ s → (B * 9 ^ s + l) / 9 ^ s = B ∧ (B * 9 ^ s + l) % 9 ^ s = l := fun B l hl => by
    rw [Nat.add_comm, Nat.add_mul_div_right _ _ hs9, Nat.div_eq_of_lt hl, Nat.add_mul_mod_self_right, Nat.mod_eq_of_lt hl, Nat.zero_add]
    exact ⟨rfl, rfl⟩
  -- what holds when the places ahead of pos are laid
  let Q : Nat → (Nat → Int32) → Prop := fun pos g' => (∀ q, q < o + 9 ^ (r + 1) → g' q = g q) ∧ (∀ p, p < pos → g' (o + 9 ^ (r + 1) + p) = nI (jd sg s p)) ∧ ∀ p, p < pos → one1 (jd sg s p)
  let R : Int32 → (Nat → Int32) → Prop := fun ret g' => (∀ q, q < o + 9 ^ (r + 1) → g' q = g q) ∧ ((ret = 1 ∧ (∀ p, p < 9 ^ r → g' (o + 9 ^ (r + 1) + p) = nI (jd sg s p)) ∧ ∀ p, p < 9 ^ r → one1 (jd sg s p)) ∨ (ret = 0 ∧ ∃ p, p < 9 ^ r ∧ ¬ one1 (jd sg s p)))
  have blk : ∀ n B, B ≤ 9 ^ (r - s) → 9 ^ (r - s) - B < n → ∀ g', Q (B * 9 ^ s) g' → ∃ ret g'', F_X6_dropThing_L19 N n (some (b + 15)) (nI o) (nI (9 ^ (r + 1))) (nI (9 ^ s)) (nI (9 ^ (r - s))) (nI B) (xup H tk (aB nk g')) = some (ret, xup H tk (aB nk g'')) ∧ R ret g'' := by
    refine upto (s := 9 ^ (r - s)) (P := fun n B => ∀ g', Q (B * 9 ^ s) g' → ∃ ret g'', F_X6_dropThing_L19 N n (some (b + 15)) (nI o) (nI (9 ^ (r + 1))) (nI (9 ^ s)) (nI (9 ^ (r - s))) (nI B) (xup H tk (aB nk g')) = some (ret, xup H tk (aB nk g'')) ∧ R ret g'') (fun n g' hQ => ?_) (fun n B hB ih g' hQ => ?_)
    · refine ⟨1, g', ?_, hQ.1, Or.inl ⟨rfl, ?_, ?_⟩⟩
      · rw [show F_X6_dropThing_L19 N (n + 1) = F_X6_dropThing_J19 N (F_X6_dropThing_L19 N n) from rfl]
        simp only [F_X6_dropThing_J19, nI_le (Nat.le_refl _) (show 9 ^ (r - s) < 2 ^ 31 by omega), if_true]
      · rw [← hrs]; exact hQ.2.1
      · rw [← hrs]; exact hQ.2.2
    · rw [show F_X6_dropThing_L19 N (n + 1) = F_X6_dropThing_J19 N (F_X6_dropThing_L19 N n) from rfl]
      simp only [F_X6_dropThing_J19, nI_ge hB (show 9 ^ (r - s) < 2 ^ 31 by omega), if_false]
      have hBs : B * 9 ^ s + 9 ^ s ≤ 9 ^ r := by
        have := Nat.mul_le_mul_right (9 ^ s) (show B + 1 ≤ 9 ^ (r - s) by omega)
        rw [Nat.succ_mul, hrs] at this
        exact this
      have low : ∀ n' l, l ≤ 9 ^ s → 9 ^ s - l < n' → ∀ g', Q (B * 9 ^ s + l) g' → ∃ ret g'', F_X6_dropThing_L29 N (F_X6_dropThing_J111 N (F_X6_dropThing_L19 N n)) n' (some (b + 15)) (nI o) (nI (9 ^ (r + 1))) (nI (9 ^ s)) (nI (9 ^ (r - s))) (nI B) (nI l) (xup H tk (aB nk g')) = some (ret, xup H tk (aB nk g'')) ∧ R ret g'' := by
        refine upto (s := 9 ^ s) (P := fun n' l => ∀ g', Q (B * 9 ^ s + l) g' → ∃ ret g'', F_X6_dropThing_L29 N (F_X6_dropThing_J111 N (F_X6_dropThing_L19 N n)) n' (some (b + 15)) (nI o) (nI (9 ^ (r + 1))) (nI (9 ^ s)) (nI (9 ^ (r - s))) (nI B) (nI l) (xup H tk (aB nk g')) = some (ret, xup H tk (aB nk g'')) ∧ R ret g'') (fun n' g' hQ => ?_) (fun n' l hl ih2 g' hQ => ?_)
        · rw [show F_X6_dropThing_L29 N (F_X6_dropThing_J111 N (F_X6_dropThing_L19 N n)) (n' + 1) = F_X6_dropThing_J29 N (F_X6_dropThing_L29 N (F_X6_dropThing_J111 N (F_X6_dropThing_L19 N n)) n') (F_X6_dropThing_J111 N (F_X6_dropThing_L19 N n)) from rfl]
          simp only [F_X6_dropThing_J29, F_X6_dropThing_J111, nI_le (Nat.le_refl _) (show 9 ^ s < 2 ^ 31 by omega), if_true, nI_1]
          refine ih g' ?_
          rw [Nat.succ_mul]
          exact hQ
        · obtain ⟨dm1, dm2⟩ := hdm B l hl
          have hjd : jd sg s (B * 9 ^ s + l) = jo sg B s l 9 := by unfold jd; rw [dm1, dm2]
          have hin : ∀ e, e < 9 → (B * 9 + e) * 9 ^ s + l < 9 ^ (r + 1) := fun e he => blk_lt hB hsr hl he
          have hat : (xup H tk (aB nk g')).1 tk = some (aB nk g') := xup_at _
          have o6 := (hos g').o.2.2.1
          have hj32 : ∀ i, i ≤ 9 → jo sg B s l i < 32 := fun i hi => jo_lt i (fun e he => h32 _ (hin e (by omega)))
          have dgt := upto (s := 9) (P := fun n'' i => F_X6_dropThing_L41 N (F_X6_dropThing_J78 N (F_X6_dropThing_L29 N (F_X6_dropThing_J111 N (F_X6_dropThing_L19 N n)) n')) n'' (some (b + 15)) (nI o) (nI (9 ^ (r + 1))) (nI (9 ^ s)) (nI (9 ^ (r - s))) (nI B) (nI l) (nI (jo sg B s l i)) (nI i) (xup H tk (aB nk g')) = F_X6_dropThing_J78 N (F_X6_dropThing_L29 N (F_X6_dropThing_J111 N (F_X6_dropThing_L19 N n)) n') (some (b + 15)) (nI o) (nI (9 ^ (r + 1))) (nI (9 ^ s)) (nI (9 ^ (r - s))) (nI B) (nI l) (nI (jo sg B s l 9)) (xup H tk (aB nk g'))) (fun n'' => by
            rw [show ∀ k, F_X6_dropThing_L41 N k (n'' + 1) = F_X6_dropThing_J41 N (F_X6_dropThing_L41 N k n'') k from fun _ => rfl]
            simp only [F_X6_dropThing_J41, show (9 : Int32) ≤ nI 9 from by decide, if_true]) (fun n'' i hi ih3 => by
            have i9 : ¬ (9 : Int32) ≤ nI i := nI_ge hi (by decide)
            have e1 : nI o + (nI B * (9 : Int32) + nI i) * nI (9 ^ s) + nI l = nI (o + ((B * 9 + i) * 9 ^ s + l)) := by
              rw [show (9 : Int32) = nI 9 from rfl, pk_mul, nI_add, pk_mul, nI_add, nI_add, Nat.add_assoc]
            have hi' := hin i hi
            have hv : g' (o + ((B * 9 + i) * 9 ^ s + l)) = nI (sg ((B * 9 + i) * 9 ^ s + l)) := by rw [hQ.1 _ (by omega), hrp _ hi']
            rw [show ∀ k, F_X6_dropThing_L41 N k (n'' + 1) = F_X6_dropThing_J41 N (F_X6_dropThing_L41 N k n'') k from fun _ => rfl]
            simp only [F_X6_dropThing_J41, i9, if_false, o6, e1, S_clAt (hos g') hat (show o + ((B * 9 + i) * 9 ^ s + l) < nk by omega), hv, nI_or, nI_1, Option.bind_some, bd2_s]
            exact ih3) N 0 (by omega) (by omega)
          have s9 : ¬ nI (9 ^ s) ≤ nI l := nI_ge hl (by omega)
          rw [show F_X6_dropThing_L29 N (F_X6_dropThing_J111 N (F_X6_dropThing_L19 N n)) (n' + 1) = F_X6_dropThing_J29 N (F_X6_dropThing_L29 N (F_X6_dropThing_J111 N (F_X6_dropThing_L19 N n)) n') (F_X6_dropThing_J111 N (F_X6_dropThing_L19 N n)) from rfl]
          simp only [F_X6_dropThing_J29, s9, if_false]
          rw [show F_X6_dropThing_L41 N (F_X6_dropThing_J78 N (F_X6_dropThing_L29 N (F_X6_dropThing_J111 N (F_X6_dropThing_L19 N n)) n')) N (some (b + 15)) (nI o) (nI (9 ^ (r + 1))) (nI (9 ^ s)) (nI (9 ^ (r - s))) (nI B) (nI l) (0 : Int32) (0 : Int32) (xup H tk (aB nk g')) = _ from dgt]
          have e2 : nI o + nI (9 ^ (r + 1)) + nI B * nI (9 ^ s) + nI l = nI (o + 9 ^ (r + 1) + (B * 9 ^ s + l)) := by
            rw [pk_mul, nI_add, nI_add, nI_add, Nat.add_assoc (o + 9 ^ (r + 1))]
          by_cases hone : one1 (jo sg B s l 9)
          · have hx : F_X6_isMixed N (nI (jo sg B s l 9)) (xup H tk (aB nk g')) = some (0, xup H tk (aB nk g')) := by
              rw [S_mixed, bI_f (fun z => z hone)]
            simp only [F_X6_dropThing_J78, hx, if_true, o6, e2, S_clSet (hos g') hat (show o + 9 ^ (r + 1) + (B * 9 ^ s + l) < nk by omega) (show jo sg B s l 9 < 64 by have := hj32 9 (Nat.le_refl _); omega), xup_up, nI_1, Option.bind_some, bd2_s]
            refine ih2 _ ⟨fun q hq => ?_, fun p hp => ?_, fun p hp => ?_⟩
            · rw [pk_un (by omega)]; exact hQ.1 q hq
            · by_cases e : p = B * 9 ^ s + l
              · rw [e, pk_us, hjd]
              · rw [pk_un (by omega)]; exact hQ.2.1 p (by omega)
            · by_cases e : p = B * 9 ^ s + l
              · rw [e, hjd]; exact hone
              · exact hQ.2.2 p (by omega)
          · have hx : F_X6_isMixed N (nI (jo sg B s l 9)) (xup H tk (aB nk g')) = some (1, xup H tk (aB nk g')) := by
              rw [S_mixed, bI_t (show ¬ (nI (jo sg B s l 9) &&& (nI (jo sg B s l 9) - 1)) = 0 from hone)]
            simp only [F_X6_dropThing_J78, hx, show ¬ (1 : Int32) = 0 by decide, if_false, Option.bind_some, bd2_s]
            exact ⟨0, g', rfl, hQ.1, Or.inr ⟨rfl, B * 9 ^ s + l, by omega, by rw [hjd]; exact hone⟩⟩
      have := low N 0 (Nat.zero_le _) (by omega) g' hQ
      exact this
  obtain ⟨ret, g'', r1, r2⟩ := blk N 0 (Nat.zero_le _) (by omega) g ⟨fun q _ => rfl, fun p hp => by omega, fun p hp => by omega⟩
  refine ⟨ret, g'', ?_, r2.1, r2.2⟩
  have n0 : ¬ nI (9 ^ s) ≤ 0 := nI_nle hs9 (by omega)
  have e9 : (9 : Int32) * nI (9 ^ s) = nI (9 * 9 ^ s) := by rw [show (9 : Int32) = nI 9 from rfl, pk_mul]
  have n1 : ¬ nI (9 * 9 ^ s) = 0 := nI_ne0 (by omega) (by omega)
  have ed : nI (9 ^ (r + 1)) / nI (9 * 9 ^ s) = nI (9 ^ (r - s)) := by
    rw [pk_div (by omega) (by omega) (by omega)]
    congr 1
    rw [show 9 ^ (r + 1) = 9 ^ (r - s) * (9 * 9 ^ s) by rw [hr9, ← hrs]; simp only [Nat.mul_assoc, Nat.mul_comm 9]]
    exact Nat.mul_div_cancel _ (by omega)
  unfold F_X6_dropThing F_X6_dropThing_J14
  rw [if_neg n0, e9, if_neg n1, ed]
  exact r1
end Hang
