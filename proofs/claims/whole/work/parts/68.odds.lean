/-! PURE: CHANCES, WEIGHTS, Euclid. -/
/-- a thing's parts together -/
def csm (C : Nat → Int32) (t : Nat) : Nat → Int32
  | 0 => 0
  | i + 1 => csm C t i + C (9 * t + i)
def whl (β : sB) (C : Nat → Int32) : Prop := ∀ t, t < bT β → csm C t 9 = 100
/-- a row's weight -/
def wg (C : Nat → Int32) (k : Nat) : Nat → Int64
  | 0 => 1
  | i + 1 => wg C k i * (C (9 * i + dig k i)).toInt64
section Odds
variable {stf : Nat → Nat} {N K b m : Nat} {β : sB} {δ : sD} {H : xH}
variable {c tc tk cb n nk ncb : Nat} {ad : Nat → Nat}
theorem RXo.od (h : RXo stf K b m c tc tk cb n nk ncb ad β δ H) : H.1 (b + 41) = some (ob 5 [va_rf (some (b + 42))]) ∧ ∃ g, H.1 (b + 42) = some (aI 45 g) ∧ ∀ j, j < 45 → g j = dC δ j := h.2.2.2.2.2.2.2.2.1
theorem RXo.od0 (h : RXo stf K b m c tc tk cb n nk ncb ad β δ H) : xgA H (some (b + 41)) 5 0 = some (some (b + 42)) := gA h.od.1 rfl
theorem S_xWhole (hN : 9 < N) (h : RXo stf K b m c tc tk cb n nk ncb ad β δ H) (hT : bT β ≤ 5) : F_X5_areWhole N (some (b + 41)) (nI (bT β)) H = some (bI (whl β (dC δ)), H) := by
  obtain ⟨e, g, g1, g2⟩ := h.od
  have key := upto (s := bT β) (P := fun n t => (∀ u, u < t → csm (dC δ) u 9 = 100) → F_X5_areWhole_L2 N n (some (b + 41)) (nI (bT β)) (nI t) H = some (bI (whl β (dC δ)), H)) (fun n ht => by
    simp only [F_X5_areWhole_L2, F_X5_areWhole_J2, nI_le (Nat.le_refl _) (show bT β < 2 ^ 31 by omega), if_true]
    rw [bI_t (show whl β (dC δ) from ht)]) (fun n t htT ih ht => by
    rw [show F_X5_areWhole_L2 N (n + 1) = F_X5_areWhole_J2 N (F_X5_areWhole_L2 N n) from rfl]
    simp only [F_X5_areWhole_J2, nI_ge htT (show bT β < 2 ^ 31 by omega), if_false]
    have inn := upto (s := 9) (P := fun n' i => F_X5_areWhole_L12 N (F_X5_areWhole_J42 N (F_X5_areWhole_L2 N n)) n' (some (b + 41)) (nI (bT β)) (nI t) (csm (dC δ) t i) (nI i) H = F_X5_areWhole_J42 N (F_X5_areWhole_L2 N n) (some (b + 41)) (nI (bT β)) (nI t) (csm (dC δ) t 9) H) (fun n' => by
      simp only [F_X5_areWhole_L12, F_X5_areWhole_J12, show (9 : Int32) ≤ nI 9 from by decide, if_true]) (fun n' i hi ih2 => by
      have e1 : (9 : Int32) * nI t + nI i = nI (9 * t + i) := by rw [show (9 : Int32) = nI 9 from rfl, pk_mul, nI_add]
      have i9 : ¬ (9 : Int32) ≤ nI i := nI_ge hi (by decide)
      rw [show F_X5_areWhole_L12 N (F_X5_areWhole_J42 N (F_X5_areWhole_L2 N n)) (n' + 1) = F_X5_areWhole_J12 N (F_X5_areWhole_L12 N (F_X5_areWhole_J42 N (F_X5_areWhole_L2 N n)) n') (F_X5_areWhole_J42 N (F_X5_areWhole_L2 N n)) from rfl]
      simp only [F_X5_areWhole_J12, i9, if_false, h.od0, e1, S_at g1 (by decide : 45 < 2 ^ 31), gat_nI (show 9 * t + i < 2 ^ 31 by omega), show 9 * t + i < 45 by omega, if_true, g2 _ (show 9 * t + i < 45 by omega), nI_1, Option.bind_some, bd2_s]
      exact ih2) N 0 (by omega) (by omega)
    rw [show F_X5_areWhole_L12 N (F_X5_areWhole_J42 N (F_X5_areWhole_L2 N n)) N (some (b + 41)) (nI (bT β)) (nI t) (0 : Int32) (0 : Int32) H = _ from inn]
    unfold F_X5_areWhole_J42
    by_cases q : csm (dC δ) t 9 = 100
    · rw [if_pos q, nI_1]
      exact ih (fun u hu => by
        by_cases eu : u = t
        · rw [eu]; exact q
        · exact ht u (by omega))
    · rw [if_neg q, bI_f (fun z : whl β (dC δ) => q (z t htT))]) N 0 (Nat.zero_le _) (by omega) (fun u hu => by omega)
  exact key
theorem S_mWhole (hN : 9 < N) {v : Nat → Int32} (h : CM K m v β δ H) : F_X12_areWhole N (some m) H = some (bI (whl β (dC δ)), H) := by
  obtain ⟨v0, v1, v2, v3, v46, t5, t6, t12⟩ := h.mq.ac
  obtain ⟨g, g1, g2⟩ := h.1.2.2.2.2.2.2.2.2.1
  have h1 := h.1.1.1
  have key := upto (s := bT β) (P := fun n t => F_X12_areWhole_L4 N n (some m) (bI (∀ u, u < t → csm (dC δ) u 9 = 100)) (nI t) H = some (bI (whl β (dC δ)), H)) (fun n => by
    simp only [F_X12_areWhole_L4, F_X12_areWhole_J4, v0, nI_le (Nat.le_refl _) (show bT β < 2 ^ 31 by omega), if_true, Option.bind_some, bd2_s]
    rw [if_pos]
    · rfl
    · by_cases q : ∀ u, u < bT β → csm (dC δ) u 9 = 100
      · rw [bI_t q]; exact Or.inr rfl
      · rw [bI_f q]; exact Or.inl rfl) (fun n t htT ih => by
    rw [show F_X12_areWhole_L4 N (n + 1) = F_X12_areWhole_J4 N (F_X12_areWhole_L4 N n) from rfl]
    simp only [F_X12_areWhole_J4, v0, nI_ge htT (show bT β < 2 ^ 31 by omega), if_false, Option.bind_some, bd2_s]
    have inn := upto (s := 9) (P := fun n' i => F_X12_areWhole_L17 N (F_X12_areWhole_J45 N (F_X12_areWhole_L4 N n)) n' (some m) (bI (∀ u, u < t → csm (dC δ) u 9 = 100)) (nI t) (csm (dC δ) t i) (nI i) H = F_X12_areWhole_J45 N (F_X12_areWhole_L4 N n) (some m) (bI (∀ u, u < t → csm (dC δ) u 9 = 100)) (nI t) (csm (dC δ) t 9) H) (fun n' => by
      simp only [F_X12_areWhole_L17, F_X12_areWhole_J17, show (9 : Int32) ≤ nI 9 from by decide, if_true]) (fun n' i hi ih2 => by
      have e1 : (9 : Int32) * nI t + nI i = nI (9 * t + i) := by rw [show (9 : Int32) = nI 9 from rfl, pk_mul, nI_add]
      have i9 : ¬ (9 : Int32) ≤ nI i := nI_ge hi (by decide)
      rw [show F_X12_areWhole_L17 N (F_X12_areWhole_J45 N (F_X12_areWhole_L4 N n)) (n' + 1) = F_X12_areWhole_J17 N (F_X12_areWhole_L17 N (F_X12_areWhole_J45 N (F_X12_areWhole_L4 N n)) n') (F_X12_areWhole_J45 N (F_X12_areWhole_L4 N n)) from rfl]
      simp only [F_X12_areWhole_J17, i9, if_false, gA h1 ma61, e1, rdI g1 (show 9 * t + i < 45 by omega) (by decide), g2 _ (show 9 * t + i < 45 by omega), nI_1, Option.bind_some, bd2_s]
      exact ih2) N 0 (by omega) (by omega)
    rw [show F_X12_areWhole_L17 N (F_X12_areWhole_J45 N (F_X12_areWhole_L4 N n)) N (some m) (bI (∀ u, u < t → csm (dC δ) u 9 = 100)) (nI t) (0 : Int32) (0 : Int32) H = _ from inn]
    have st : ∀ {p q : Prop}, (p ↔ q) → F_X12_areWhole_L4 N n (some m) (bI p) (nI (t + 1)) H = F_X12_areWhole_L4 N n (some m) (bI q) (nI (t + 1)) H := fun h => by rw [bI_c h]
    unfold F_X12_areWhole_J45 F_X12_areWhole_J59 F_X12_areWhole_J60
    rw [← ih]
    by_cases q : ∀ u, u < t → csm (dC δ) u 9 = 100
    · rw [bI_t q, if_neg (by decide)]
      by_cases q2 : csm (dC δ) t 9 = 100
      · rw [if_pos q2, nI_1, ← bI_t (show ∀ u, u < t + 1 → csm (dC δ) u 9 = 100 from fun u hu => by
          by_cases eu : u = t
          · rw [eu]; exact q2
          · exact q u (by omega))]
      · rw [if_neg q2, nI_1, ← bI_f (show ¬ ∀ u, u < t + 1 → csm (dC δ) u 9 = 100 from fun z => q2 (z t (by omega)))]
    · rw [bI_f q, if_pos rfl, nI_1, ← bI_f (show ¬ ∀ u, u < t + 1 → csm (dC δ) u 9 = 100 from fun z => q (fun u hu => z u (by omega)))]) N 0 (Nat.zero_le _) (by omega)
  rw [bI_t (fun u hu => by omega)] at key
  exact key
theorem S_xWeight (hN : 5 < N) (h : RXo stf K b m c tc tk cb n nk ncb ad β δ H) (hT : bT β ≤ 5) {k : Nat} (hk : k < bZ β) : F_X5_weightOf N (some (b + 41)) (nI k) (nI (bT β)) H = some (wg (dC δ) k (bT β), H) := by
  obtain ⟨e, g, g1, g2⟩ := h.od
  have hz := bZ_le hT
  have key := upto (s := bT β) (P := fun n i => F_X5_weightOf_L8 N n (some (b + 41)) (nI (bT β)) (wg (dC δ) k i) (nI (k / 9 ^ i)) (nI i) H = some (wg (dC δ) k (bT β), H)) (fun n => by
    simp only [F_X5_weightOf_L8, F_X5_weightOf_J8, nI_le (Nat.le_refl _) (show bT β < 2 ^ 31 by omega), if_true]) (fun n i hi ih => by
    have hk31 : k < 2 ^ 31 := by omega
    have e3 : (9 : Int32) * nI i + nI (dig k i) = nI (9 * i + dig k i) := by rw [show (9 : Int32) = nI 9 from rfl, pk_mul, nI_add]
    have hd := dig_lt k i
    rw [show F_X5_weightOf_L8 N (n + 1) = F_X5_weightOf_J8 N (F_X5_weightOf_L8 N n) from rfl]
    simp only [F_X5_weightOf_J8, nI_ge hi (show bT β < 2 ^ 31 by omega), if_false, h.od0, div9 hk31, rem9 hk31, e3, S_at g1 (by decide : 45 < 2 ^ 31), gat_nI (show 9 * i + dig k i < 2 ^ 31 by omega), show 9 * i + dig k i < 45 by omega, if_true, g2 _ (show 9 * i + dig k i < 45 by omega), nI_1, Option.bind_some, bd2_s]
    exact ih) N 0 (Nat.zero_le _) (by omega)
  rw [show k / 9 ^ 0 = k by simp] at key
  exact key
theorem S_mWeight (hN : 5 < N) {v : Nat → Int32} (h : CM K m v β δ H) {k : Nat} (hk : k < bZ β) : F_X12_weightOf N (some m) (nI k) H = some (wg (dC δ) k (bT β), H) := by
  obtain ⟨v0, v1, v2, v3, v46, t5, t6, t12⟩ := h.mq.ac
  obtain ⟨g, g1, g2⟩ := h.1.2.2.2.2.2.2.2.2.1
  have h1 := h.1.1.1
  have hz := bZ_le t5
  have key := upto (s := bT β) (P := fun n i => F_X12_weightOf_L8 N n (some m) (wg (dC δ) k i) (nI (k / 9 ^ i)) (nI i) H = some (wg (dC δ) k (bT β), H)) (fun n => by
    simp only [F_X12_weightOf_L8, F_X12_weightOf_J8, v0, nI_le (Nat.le_refl _) (show bT β < 2 ^ 31 by omega), if_true, Option.bind_some, bd2_s]) (fun n i hi ih => by
    have hk31 : k < 2 ^ 31 := by omega
    have e3 : (9 : Int32) * nI i + nI (dig k i) = nI (9 * i + dig k i) := by rw [show (9 : Int32) = nI 9 from rfl, pk_mul, nI_add]
    have hd := dig_lt k i
    rw [show F_X12_weightOf_L8 N (n + 1) = F_X12_weightOf_J8 N (F_X12_weightOf_L8 N n) from rfl]
    simp only [F_X12_weightOf_J8, v0, nI_ge hi (show bT β < 2 ^ 31 by omega), if_false, gA h1 ma61, div9 hk31, rem9 hk31, e3, rdI g1 (show 9 * i + dig k i < 45 by omega) (by decide), g2 _ (show 9 * i + dig k i < 45 by omega), nI_1, Option.bind_some, bd2_s]
    exact ih) N 0 (Nat.zero_le _) (by omega)
  rw [show k / 9 ^ 0 = k by simp] at key
  exact key
end Odds
/-- sums of naturals -/
def tot (f : Nat → Nat) : Nat → Nat
  | 0 => 0
  | n + 1 => tot f n + f n
theorem tot_congr {f g : Nat → Nat} : ∀ n, (∀ k, k < n → f k = g k) → tot f n = tot g n := by
  intro n
  induction n with
  | zero => intro _; rfl
  | succ n ih => intro h; simp only [tot]; rw [ih (fun k hk => h k (by omega)), h n (by omega)]
theorem tot_add (f : Nat → Nat) (a : Nat) : ∀ c, tot f (a + c) = tot f a + tot (fun k => f (a + k)) c := by
  intro c
  induction c with
  | zero => rfl
  | succ c ih => rw [← Nat.add_assoc]; simp only [tot]; rw [ih, Nat.add_assoc]
theorem tot_mul (f : Nat → Nat) (a : Nat) : ∀ n, tot (fun k => f k * a) n = tot f n * a := by
  intro n
  induction n with
  | zero => simp [tot]
  | succ n ih => simp only [tot]; rw [ih, Nat.add_mul]
theorem tot_blk (f : Nat → Nat) (a : Nat) : ∀ d, tot f (d * a) = tot (fun e => tot (fun k => f (e * a + k)) a) d := by
  intro d
  induction d with
  | zero => simp [tot]
  | succ d ih => rw [Nat.succ_mul, tot_add, ih]; rfl
theorem tot_le {f g : Nat → Nat} : ∀ n, (∀ k, k < n → f k ≤ g k) → tot f n ≤ tot g n := by
  intro n
  induction n with
  | zero => intro _; exact Nat.le_refl _
  | succ n ih => intro h; simp only [tot]; exact Nat.add_le_add (ih (fun k hk => h k (by omega))) (h n (by omega))
/-- a row's weight, a natural -/
def wn (C : Nat → Nat) (k : Nat) : Nat → Nat
  | 0 => 1
  | i + 1 => wn C k i * C (9 * i + dig k i)
theorem wn_congr {C : Nat → Nat} {k k' : Nat} : ∀ T, (∀ j, j < T → dig k j = dig k' j) → wn C k T = wn C k' T := by
  intro T
  induction T with
  | zero => intro _; rfl
  | succ T ih => intro h; simp only [wn]; rw [ih (fun j hj => h j (by omega)), h T (by omega)]
theorem dig_hi {T d k : Nat} (hk : k < 9 ^ T) (hd : d < 9) : (∀ j, j < T → dig (d * 9 ^ T + k) j = dig k j) ∧ dig (d * 9 ^ T + k) T = d := by
  have h0 : dig k T = 0 := by unfold dig; rw [Nat.div_eq_of_lt hk]
  have := dig_add h0 hd
  rw [Nat.add_comm]
  refine ⟨fun j hj => ?_, ?_⟩
  · rw [this, if_neg (by omega)]
  · rw [this, if_pos rfl]
/-- all weights together -/
theorem wn_all {C : Nat → Nat} : ∀ T, (∀ t, t < T → tot (fun d => C (9 * t + d)) 9 = 100) → tot (fun k => wn C k T) (9 ^ T) = 100 ^ T := by
  intro T
  induction T with
  | zero => intro _; rfl
  | succ T ih =>
    intro h
    rw [Nat.pow_succ, Nat.mul_comm, tot_blk]
    have e : ∀ d, d < 9 → tot (fun k => wn C (d * 9 ^ T + k) (T + 1)) (9 ^ T) = C (9 * T + d) * 100 ^ T := fun d hd => by
      rw [tot_congr (g := fun k => wn C k T * C (9 * T + d)) _ (fun k hk => by
        obtain ⟨a1, a2⟩ := dig_hi hk hd
        simp only [wn]
        rw [wn_congr T a1, a2]), tot_mul, ih (fun t ht => h t (by omega)), Nat.mul_comm]
    rw [tot_congr _ e, tot_mul, h T (by omega), Nat.pow_succ, Nat.mul_comm]
theorem wg_wn {C : Nat → Int32} {cn : Nat → Nat} (hC : ∀ j, j < 45 → cn j ≤ 100 ∧ C j = nI (cn j)) {k : Nat} : ∀ T, T ≤ 5 → wg C k T = lN (wn cn k T) := by
  intro T
  induction T with
  | zero => intro _; rfl
  | succ T ih =>
    intro hT
    have hd := dig_lt k T
    have h1 := hC (9 * T + dig k T) (by omega)
    simp only [wg, wn]
    rw [ih (by omega), h1.2, nI_l (by omega), lN_mul]
theorem csm_tot {C : Nat → Int32} {cn : Nat → Nat} (hC : ∀ j, j < 45 → cn j ≤ 100 ∧ C j = nI (cn j)) {t : Nat} (ht : t < 5) : ∀ i, i ≤ 9 → csm C t i = nI (tot (fun d => cn (9 * t + d)) i) ∧ tot (fun d => cn (9 * t + d)) i ≤ 100 * i := by
  intro i
  induction i with
  | zero => intro _; exact ⟨rfl, Nat.le_refl _⟩
  | succ i ih =>
    intro hi
    obtain ⟨a1, a2⟩ := ih (by omega)
    have h1 := hC (9 * t + i) (by omega)
    simp only [csm, tot]
    rw [a1, h1.2, nI_add]
    exact ⟨rfl, by omega⟩
section Euclid
variable {N : Nat} {H : xH}
theorem lN_0 {a : Nat} (ha : a < 2 ^ 63) : lN a = 0 ↔ a = 0 := by
  rw [show (0 : Int64) = lN 0 from rfl, pk_lEQ ha (by decide)]
theorem lgle {x : Int64} : lg_cmp x 0 ≤ 0 ↔ x ≤ 0 := by
  unfold lg_cmp
  by_cases h1 : (0 : Int64) < x
  · rw [if_pos h1]; exact ⟨fun q => absurd q (by decide), fun q => absurd h1 (Int64.not_lt.mpr q)⟩
  · rw [if_neg h1]
    have hx : x ≤ 0 := Int64.not_lt.mp h1
    by_cases h2 : x = 0
    · rw [if_pos h2]; exact ⟨fun _ => hx, fun _ => by decide⟩
    · rw [if_neg h2]; exact ⟨fun _ => hx, fun _ => by decide⟩
theorem half_mod {a r : Nat} (hr : r ≤ a) (h0 : 0 < r) : a % r < a / 2 + 1 ∧ 2 * (a % r) < a + 1 := by
  have h1 := Nat.mod_lt a h0
  have h2 := Nat.div_add_mod a r
  have h3 : 1 ≤ a / r := (Nat.le_div_iff_mul_le h0).mpr (by omega)
  have h4 : r * 1 ≤ r * (a / r) := Nat.mul_le_mul_left r h3
  omega
theorem S_xGcd : ∀ n a b i fuel, a < 2 ^ 63 → b < 2 ^ n → n < 63 → 2 * n + i ≤ 100 → 2 * n < fuel → F_X5_commonDivisor_L15 N fuel (lN a) (lN b) (nI i) H = some (lN (Nat.gcd a b), H) := by
  intro n
  induction n using Nat.strongRecOn with
  | ind n ih =>
    intro a b i fuel ha hb hn hi hf
    obtain ⟨fuel, rfl⟩ : ∃ f, fuel = f + 1 := ⟨fuel - 1, by omega⟩
    have hn2 : (2 : Nat) ^ n ≤ 2 ^ 62 := Nat.pow_le_pow_right (by decide) (by omega)
    by_cases h0 : b = 0
    · subst h0
      simp only [F_X5_commonDivisor_L15, F_X5_commonDivisor_J15, lgc, show lN 0 = 0 from rfl, if_true, Nat.gcd_zero_right]
      split <;> rfl
    · have hn0 : 0 < n := by
        rcases Nat.eq_zero_or_pos n with q | q
        · rw [q] at hb; omega
        · exact q
      have n100 : ¬ (100 : Int32) ≤ nI i := nI_ge (show i < 100 by omega) (by decide)
      have hbn : ¬ lN b = 0 := fun z => h0 ((lN_0 (by omega)).mp z)
      have hmod := Nat.mod_lt a (Nat.pos_of_ne_zero h0)
      rw [show F_X5_commonDivisor_L15 N (fuel + 1) = F_X5_commonDivisor_J15 N (F_X5_commonDivisor_L15 N fuel) from rfl]
      simp only [F_X5_commonDivisor_J15, n100, if_false, lgc, hbn, pk_lRem ha (Nat.pos_of_ne_zero h0) (show b < 2 ^ 63 by omega), nI_1]
      have hg : Nat.gcd a b = Nat.gcd b (a % b) := by rw [Nat.gcd_comm a b, Nat.gcd_rec b a, Nat.gcd_comm]
      rw [hg]
      generalize hr : a % b = r at hmod
      obtain ⟨fuel, rfl⟩ : ∃ f, fuel = f + 1 := ⟨fuel - 1, by omega⟩
      by_cases hr0 : r = 0
      · subst hr0
        simp only [F_X5_commonDivisor_L15, F_X5_commonDivisor_J15, lgc, show lN 0 = 0 from rfl, if_true, Nat.gcd_zero_right]
        split <;> rfl
      · have n101 : ¬ (100 : Int32) ≤ nI (i + 1) := nI_ge (show i + 1 < 100 by omega) (by decide)
        have hrn : ¬ lN r = 0 := fun z => hr0 ((lN_0 (by omega)).mp z)
        rw [show F_X5_commonDivisor_L15 N (fuel + 1) = F_X5_commonDivisor_J15 N (F_X5_commonDivisor_L15 N fuel) from rfl]
        simp only [F_X5_commonDivisor_J15, n101, if_false, lgc, hrn, pk_lRem (show b < 2 ^ 63 by omega) (Nat.pos_of_ne_zero hr0) (show r < 2 ^ 63 by omega), nI_1]
        have hg2 : Nat.gcd b r = Nat.gcd r (b % r) := by rw [Nat.gcd_comm b r, Nat.gcd_rec r b, Nat.gcd_comm]
        rw [hg2]
        have hh := half_mod (a := b) (r := r) (by omega) (Nat.pos_of_ne_zero hr0)
        have hp : 2 ^ n = 2 * 2 ^ (n - 1) := by
          rw [show n = (n - 1) + 1 by omega, Nat.pow_succ, Nat.mul_comm]; rfl
        exact ih (n - 1) (by omega) r (b % r) (i + 1 + 1) fuel (by omega) (by omega) (by omega) (by omega) (by omega)
theorem lN_le0 {a : Nat} (ha : a < 2 ^ 63) : lN a ≤ 0 ↔ a = 0 := by
  rw [show (0 : Int64) = lN 0 from rfl, pk_lLE ha (by decide)]; omega
theorem S_mGcd : ∀ n a b fuel, a < 2 ^ 63 → b < 2 ^ n → n < 63 → 2 * n < fuel → F_X12_divisor_L12 N fuel (lN a) (lN b) H = some (lN (Nat.gcd a b), H) := by
  intro n
  induction n using Nat.strongRecOn with
  | ind n ih =>
    intro a b fuel ha hb hn hf
    obtain ⟨fuel, rfl⟩ : ∃ f, fuel = f + 1 := ⟨fuel - 1, by omega⟩
    have hn2 : (2 : Nat) ^ n ≤ 2 ^ 62 := Nat.pow_le_pow_right (by decide) (by omega)
    by_cases h0 : b = 0
    · subst h0
      simp only [F_X12_divisor_L12, F_X12_divisor_J12, lgle, show lN 0 ≤ 0 from by decide, if_true, Nat.gcd_zero_right]
    · have hn0 : 0 < n := by
        rcases Nat.eq_zero_or_pos n with q | q
        · rw [q] at hb; omega
        · exact q
      have hbl : ¬ lN b ≤ 0 := fun z => h0 ((lN_le0 (by omega)).mp z)
      have hbn : ¬ lN b = 0 := fun z => h0 ((lN_0 (by omega)).mp z)
      have hmod := Nat.mod_lt a (Nat.pos_of_ne_zero h0)
      rw [show F_X12_divisor_L12 N (fuel + 1) = F_X12_divisor_J12 N (F_X12_divisor_L12 N fuel) from rfl]
      simp only [F_X12_divisor_J12, lgle, hbl, hbn, if_false, pk_lRem ha (Nat.pos_of_ne_zero h0) (show b < 2 ^ 63 by omega)]
      have hg : Nat.gcd a b = Nat.gcd b (a % b) := by rw [Nat.gcd_comm a b, Nat.gcd_rec b a, Nat.gcd_comm]
      rw [hg]
      generalize hr : a % b = r at hmod
      obtain ⟨fuel, rfl⟩ : ∃ f, fuel = f + 1 := ⟨fuel - 1, by omega⟩
      by_cases hr0 : r = 0
      · subst hr0
        simp only [F_X12_divisor_L12, F_X12_divisor_J12, lgle, show lN 0 ≤ 0 from by decide, if_true, Nat.gcd_zero_right]
      · have hrl : ¬ lN r ≤ 0 := fun z => hr0 ((lN_le0 (by omega)).mp z)
        have hrn : ¬ lN r = 0 := fun z => hr0 ((lN_0 (by omega)).mp z)
        rw [show F_X12_divisor_L12 N (fuel + 1) = F_X12_divisor_J12 N (F_X12_divisor_L12 N fuel) from rfl]
        simp only [F_X12_divisor_J12, lgle, hrl, hrn, if_false, pk_lRem (show b < 2 ^ 63 by omega) (Nat.pos_of_ne_zero hr0) (show r < 2 ^ 63 by omega)]
        have hg2 : Nat.gcd b r = Nat.gcd r (b % r) := by rw [Nat.gcd_comm b r, Nat.gcd_rec r b, Nat.gcd_comm]
        rw [hg2]
        have hh := half_mod (a := b) (r := r) (by omega) (Nat.pos_of_ne_zero hr0)
        have hp : 2 ^ n = 2 * 2 ^ (n - 1) := by
          rw [show n = (n - 1) + 1 by omega, Nat.pow_succ, Nat.mul_comm]; rfl
        exact ih (n - 1) (by omega) r (b % r) fuel (by omega) (by omega) (by omega) (by omega)
end Euclid
