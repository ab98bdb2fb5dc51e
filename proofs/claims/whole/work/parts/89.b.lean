/-! PURE: what the class does with its tokens: numbers, names. -/
variable {stf : Nat → Nat} {N K b m : Nat} {β : sB} {δ : sD} {H : xH}
variable {t S E : Nat → Nat} {n J : Nat}
theorem lglt' {x y : Int64} : lg_cmp x y < 0 ↔ x < y := by
  unfold lg_cmp
  by_cases h1 : y < x
  · rw [if_pos h1]; exact ⟨fun q => absurd q (by decide), fun q => (Int64.lt_irrefl (Int64.lt_trans h1 q)).elim⟩
  · rw [if_neg h1]
    by_cases h2 : x = y
    · rw [if_pos h2]; exact ⟨fun q => absurd q (by decide), fun q => (Int64.lt_irrefl (by rw [h2] at q; exact q)).elim⟩
    · rw [if_neg h2]; exact ⟨fun _ => (Int64.lt_or_eq_of_le (Int64.not_lt.mp h1)).resolve_right h2, fun _ => by decide⟩
theorem lgle' {x y : Int64} : lg_cmp x y ≤ 0 ↔ x ≤ y := by
  unfold lg_cmp
  by_cases h1 : y < x
  · rw [if_pos h1]; exact ⟨fun q => absurd q (by decide), fun q => absurd h1 (Int64.not_lt.mpr q)⟩
  · rw [if_neg h1]
    have hx := Int64.not_lt.mp h1
    by_cases h2 : x = y
    · rw [if_pos h2]; exact ⟨fun _ => hx, fun _ => by decide⟩
    · rw [if_neg h2]; exact ⟨fun _ => hx, fun _ => by decide⟩
theorem dc_lt {s : Nat} : ∀ {l : Nat}, (∀ q, s ≤ q → q < s + l → kk (t q) = 3) → dc t s l < 10 ^ l
  | 0, _ => by simp [dc]
  | l + 1, h => by
    have h1 := dc_lt (l := l) (fun q q1 q2 => h q q1 (by omega))
    have h2 := kk_3 (h (s + l) (by omega) (by omega))
    simp only [dc, Nat.pow_succ]
    omega
theorem nv_lt (hT : tkS t n J S E) {j lo hi : Nat} (h : isN t J S E j lo hi) : nv t S E j < 1000 := by
  obtain ⟨h1, h2, h3, -⟩ := h
  have h4 := hT.2.1 j h1
  have h5 := dc_lt (t := t) (s := S j) (l := E j - S j) (fun q q1 q2 => ((hT.2.2.2.2.2.1 j h1 (Or.inr h2)).1 q q1 (by omega)).trans h2)
  have : 10 ^ (E j - S j) ≤ 10 ^ 3 := Nat.pow_le_pow_right (by decide) h3
  unfold nv
  omega
/-- names told -/
def nmW (T : Nat) (nm : Nat → List Nat) : Prop := (∀ i, i < T → wdo (nm i) ∧ nm i ≠ []) ∧ ∀ i k, i < T → k < T → nm i = nm k → i = k
theorem and_b0 (p : Prop) : bI p &&& 0 = 0 := by
  by_cases h : p
  · rw [bI_t h]; decide
  · rw [bI_f h]; decide
theorem and_b1 (p : Prop) : bI p &&& 1 = bI p := by
  by_cases h : p
  · rw [bI_t h]; decide
  · rw [bI_f h]; decide
theorem bI_01' (p : Prop) : (bI p = 0 ∨ bI p = 1) := by
  by_cases h : p
  · exact Or.inr (bI_t h)
  · exact Or.inl (bI_f h)
theorem C_isOne (hN : 19 < N) (hw : xWd b stf H) {L : List Nat} (hL : wdo L) : F_X10_isOne N (lN (w5 L)) H = some (bI (∃ k, k < 19 ∧ kw k = L), H) := by
  have hs := hw.2.1
  have h4 := hw.2.2 (stf 19) (hw.1.2 19 (by omega))
  have e2 : H.1 (stf 19) = some (false, .inl (.object "BettingBook$Word", 19, .inr (.inr (.inr (.inr (fun j => if j < 19 then some (stf j) else none)))))) := by rw [h4]; unfold xh0; rw [if_pos rfl]
  have el : xalW H (some (stf 19)) = some (nI 19) := by simp [xalW, xar, e2, nI]
  have er : ∀ i, i < 19 → xlW H (some (stf 19)) (nI i) = some (some (stf i)) := fun i hi => by
    simp only [xlW, xar, e2]
    rw [if_pos (nI_in hi (by decide)), nI_clamp (by omega), if_pos hi]
  have loop : ∀ m i, i ≤ 19 → 19 - i < m → F_X10_isOne_L10 N m (lN (w5 L)) (some (stf 19)) (nI 19) (nI i) H = some (bI (∃ k, i ≤ k ∧ k < 19 ∧ kw k = L), H) := by
    refine upto (P := fun m i => F_X10_isOne_L10 N m (lN (w5 L)) (some (stf 19)) (nI 19) (nI i) H = some (bI (∃ k, i ≤ k ∧ k < 19 ∧ kw k = L), H)) ?_ ?_
    · intro m
      rw [show F_X10_isOne_L10 N (m + 1) = F_X10_isOne_J10 N (F_X10_isOne_L10 N m) from rfl]
      simp only [F_X10_isOne_J10, Int32.le_refl, if_true]
      rw [bI_f (fun ⟨k, h1, h2, _⟩ => by omega)]
    · intro m i hi ih
      rw [show F_X10_isOne_L10 N (m + 1) = F_X10_isOne_J10 N (F_X10_isOne_L10 N m) from rfl]
      simp only [F_X10_isOne_J10, nI_ge hi (show 19 < 2 ^ 31 by decide), if_false, er i hi, xgw_k hw hi, nI_1, ih, Option.bind_some, bd2_s]
      rw [← kw_5 i hi]
      by_cases e : kw i = L
      · rw [if_pos (lgc.mpr ((wdo_e5 (kw_w hi) hL).mpr e)), bI_t ⟨i, Nat.le_refl _, hi, e⟩]
      · rw [if_neg (fun z => e ((wdo_e5 (kw_w hi) hL).mp (lgc.mp z)))]
        congr 2
        exact bI_c ⟨fun ⟨k, a, b⟩ => ⟨k, by omega, b⟩, fun ⟨k, a, c, d⟩ => ⟨k, by rcases Nat.lt_or_ge i k with q | q; omega; exact absurd (by rw [show i = k by omega]; exact d) e, c, d⟩⟩
  unfold F_X10_isOne
  rw [hs]
  simp only [el, Option.bind_some]
  rw [show (0 : Int32) = nI 0 from rfl, loop N 0 (by omega) (by omega)]
  congr 2
  exact bI_c ⟨fun ⟨k, _, c, d⟩ => ⟨k, c, d⟩, fun ⟨k, c, d⟩ => ⟨k, Nat.zero_le _, c, d⟩⟩
section
theorem C_num (hT : tkS t n J S E) (hn : n ≤ 1200) (h6 : ∀ q, t q < 256) {j lo hi : Nat} (h : cTk t J S E b (nI j) H) (hj : j ≤ J) (hlo : lo < 1000) (hhi : hi < 1000) : (isN t J S E j lo hi → F_X8_takeNumber N (some (b + 2)) (nI lo) (nI hi) H = some (nI (nv t S E j), tkH b (j + 1) H)) ∧ (¬ isN t J S E j lo hi → F_X8_takeNumber N (some (b + 2)) (nI lo) (nI hi) H = some (-1, H)) := by
  obtain ⟨r0, r1, r2, r3, ra, rs, ⟨x, rv, rv'⟩, rp, ro, hJ⟩ := h.r (N := N) hT hn h6 hj
  unfold F_X8_takeNumber
  simp only [r0, r3, ra, r2, rv, nI_l (show lo < 2 ^ 31 by omega), nI_l (show hi < 2 ^ 31 by omega), nI_1, rp, Option.bind_some, bd2_s]
  by_cases e : sg t J S j = 3
  · rw [if_pos (show nI (sg t J S j) = (3 : Int32) by rw [e]; rfl)]
    have hj' : j < J ∧ kk (t (S j)) = 3 := by
      unfold sg at e
      split at e
      · rename_i q; exact ⟨q, e⟩
      · omega
    have ex : x = if E j - S j ≤ 3 then lN (nv t S E j) else -1 := by
      rw [rv' hj'.1]
      unfold tv5
      rw [if_neg (by omega), if_pos hj'.2]
      rfl
    by_cases h3 : E j - S j ≤ 3
    · rw [if_pos h3] at ex
      have hl : nv t S E j < 1000 := nv_lt hT (lo := 0) (hi := nv t S E j) ⟨hj'.1, hj'.2, h3, Nat.zero_le _, Nat.le_refl _⟩
      have c1 : lg_cmp x (lN lo) < 0 ↔ nv t S E j < lo := by rw [lglt', ex, lN_lt (by omega) (by omega)]
      have c2 : lg_cmp x (lN hi) ≤ 0 ↔ nv t S E j ≤ hi := by rw [lgle', ex, lN_le (by omega) (by omega)]
      simp only [c1, c2]
      refine ⟨fun ⟨_, _, _, q1, q2⟩ => ?_, fun q => ?_⟩
      · rw [if_neg (by unfold nv; omega), if_pos (by unfold nv; omega), ex, lN_i]
      · by_cases q1 : nv t S E j < lo
        · rw [if_pos q1]
        · rw [if_neg q1, if_neg (fun q2 : nv t S E j ≤ hi => q ⟨hj'.1, hj'.2, h3, Nat.not_lt.mp q1, q2⟩)]
    · rw [if_neg h3] at ex
      refine ⟨fun q => absurd q.2.2.1 h3, fun _ => ?_⟩
      rw [if_pos]
      rw [lglt', ex, Int64.lt_iff_toInt_lt, lN_toInt (by omega)]
      have : ((-1 : Int64)).toInt = -1 := by decide
      omega
  · rw [if_neg (show ¬ nI (sg t J S j) = (3 : Int32) from fun z => e ((sg_e h6 j (k := 3) (by decide)).mp z))]
    refine ⟨fun q => absurd ?_ e, fun _ => rfl⟩
    unfold sg
    rw [if_pos q.1]; exact q.2.1
theorem C_told (hT : tkS t n J S E) (hn : n ≤ 1200) (h6 : ∀ q, t q < 256) (hN : 6 < N) {j T L ta : Nat} {g : Nat → Int64} {nm : Nat → List Nat} {ot : Int32} (h : cTk t J S E b (nI j) H) (hj : j ≤ J) (hL : L ≤ 6) (hTL : T ≤ L) (ha : H.1 ta = some (aJ L g)) (hg : ∀ i, i < T → g i = lN (w5 (nm i))) (hnm : nmW T nm) :
    (∀ i, i < T → nm i = wd t J S E j → nI i ≠ ot → F_X8_takeTold N (some (b + 2)) (some ta) (nI T) ot H = some (nI i, tkH b (j + 1) H)) ∧ ((∀ i, i < T → nm i = wd t J S E j → nI i = ot) → F_X8_takeTold N (some (b + 2)) (some ta) (nI T) ot H = some (-1, H)) := by
  obtain ⟨r0, r1, r2, r3, ra, rs, ⟨x, rv, rv'⟩, rp, ro, hJ⟩ := h.r (N := N) hT hn h6 hj
  have eq : F_X8_takeTold N (some (b + 2)) (some ta) (nI T) ot H = F_X8_takeTold_L35 N (F_X8_takeTold_J64 N) N (some (b + 2)) (some ta) (nI T) ot (lN (w5 (wd t J S E j))) (nI 0) H := by
    unfold F_X8_takeTold
    simp only [r0, r3, ra, Option.bind_some, bd2_s]
    by_cases e : sg t J S j = 2
    · obtain ⟨e1, e2⟩ := wd_5 (E := E) e
      rw [if_pos (show nI (sg t J S j) = (2 : Int32) by rw [e]; rfl)]
      simp only [r2, r3, rv, F_X8_takeTold_J30, rv' e2, e1, Option.bind_some, bd2_s]
      rfl
    · rw [if_neg (show ¬ nI (sg t J S j) = (2 : Int32) from fun z => e ((sg_e h6 j (k := 2) (by decide)).mp z)), wd_n e]
      rfl
  have hw := wd_ok hT j
  rw [eq]
  have loop : ∀ m i, i ≤ T → T - i < m → (∀ k, k < i → nm k = wd t J S E j → nI k = ot) →
      (∀ k, k < T → nm k = wd t J S E j → nI k ≠ ot → F_X8_takeTold_L35 N (F_X8_takeTold_J64 N) m (some (b + 2)) (some ta) (nI T) ot (lN (w5 (wd t J S E j))) (nI i) H = some (nI k, tkH b (j + 1) H)) ∧ ((∀ k, k < T → nm k = wd t J S E j → nI k = ot) → F_X8_takeTold_L35 N (F_X8_takeTold_J64 N) m (some (b + 2)) (some ta) (nI T) ot (lN (w5 (wd t J S E j))) (nI i) H = some (-1, H)) := by
    refine upto (P := fun m i => (∀ k, k < i → nm k = wd t J S E j → nI k = ot) → (∀ k, k < T → nm k = wd t J S E j → nI k ≠ ot → F_X8_takeTold_L35 N (F_X8_takeTold_J64 N) m (some (b + 2)) (some ta) (nI T) ot (lN (w5 (wd t J S E j))) (nI i) H = some (nI k, tkH b (j + 1) H)) ∧ ((∀ k, k < T → nm k = wd t J S E j → nI k = ot) → F_X8_takeTold_L35 N (F_X8_takeTold_J64 N) m (some (b + 2)) (some ta) (nI T) ot (lN (w5 (wd t J S E j))) (nI i) H = some (-1, H))) ?_ ?_
    · intro m hp
      rw [show F_X8_takeTold_L35 N (F_X8_takeTold_J64 N) (m + 1) = F_X8_takeTold_J35 N (F_X8_takeTold_L35 N (F_X8_takeTold_J64 N) m) (F_X8_takeTold_J64 N) from rfl]
      simp only [F_X8_takeTold_J35, Int32.le_refl, if_true]
      exact ⟨fun k h1 h2 h3 => absurd (hp k h1 h2) h3, fun _ => trivial⟩
    · intro m i hi ih hp
      rw [show F_X8_takeTold_L35 N (F_X8_takeTold_J64 N) (m + 1) = F_X8_takeTold_J35 N (F_X8_takeTold_L35 N (F_X8_takeTold_J64 N) m) (F_X8_takeTold_J64 N) from rfl]
      simp only [F_X8_takeTold_J35, F_X8_takeTold_J64, F_X8_takeTold_J77, nI_ge hi (show T < 2 ^ 31 by omega), if_false, leJ ha, nI_ge (show i < L by omega) (by omega), rdJ ha (show i < L by omega) (by omega), hg i hi, r3, nI_1, rp, Option.bind_some, bd2_s]
      by_cases e : nm i = wd t J S E j
      · rw [if_pos (lgc.mpr ((wdo_e5 (hnm.1 i hi).1 hw).mpr e))]
        by_cases e2 : nI i = ot
        · rw [if_pos e2]
          exact ih (fun k hk hq => by
            by_cases e3 : k = i
            · rw [e3]; exact e2
            · exact hp k (by omega) hq)
        · rw [if_neg e2]
          refine ⟨fun k h1 h2 _ => by rw [hnm.2 i k hi h1 (e.trans h2.symm)], fun q => absurd (q i hi e) e2⟩
      · rw [if_neg (fun z => e ((wdo_e5 (hnm.1 i hi).1 hw).mp (lgc.mp z)))]
        exact ih (fun k hk hq => by
          by_cases e3 : k = i
          · rw [e3] at hq; exact absurd hq e
          · exact hp k (by omega) hq)
  exact loop N 0 (Nat.zero_le _) (by omega) (fun k hk => by omega)
theorem C_name (hT : tkS t n J S E) (hn : n ≤ 1200) (h6 : ∀ q, t q < 256) (hN : 19 < N) {j : Nat} (h : cTk t J S E b (nI j) H) (hj : j ≤ J) (hw : xWd b stf H) : F_X8_name N (some (b + 2)) H = some (@ite _ (∃ k, k < 19 ∧ kw k = wd t J S E j) (Classical.propDecidable _) 0 (lN (w5 (wd t J S E j))), H) := by
  obtain ⟨r0, r1, r2, r3, ra, rs, ⟨x, rv, rv'⟩, rp, ro, hJ⟩ := h.r (N := N) hT hn h6 hj
  have eq : F_X8_name N (some (b + 2)) H = F_X8_name_J30 N (lN (w5 (wd t J S E j))) H := by
    unfold F_X8_name
    simp only [r0, r3, ra, Option.bind_some, bd2_s]
    by_cases e : sg t J S j = 2
    · obtain ⟨e1, e2⟩ := wd_5 (E := E) e
      rw [if_pos (show nI (sg t J S j) = (2 : Int32) by rw [e]; rfl)]
      simp only [r2, r3, rv, rv' e2, e1, Option.bind_some, bd2_s]
    · rw [if_neg (show ¬ nI (sg t J S j) = (2 : Int32) from fun z => e ((sg_e h6 j (k := 2) (by decide)).mp z)), wd_n e]
      rfl
  rw [eq]
  unfold F_X8_name_J30
  simp only [C_isOne hN hw (wd_ok hT j), Option.bind_some, bd2_s]
  by_cases e : ∃ k, k < 19 ∧ kw k = wd t J S E j
  · rw [bI_t e, if_neg (by decide), if_pos e]
  · rw [bI_f e, if_pos rfl, if_neg e]
end
