/-! PURE: STEP latest: classes of rows, days forgotten. -/
theorem dig_add {p t e : Nat} (h0 : dig p t = 0) (he : e < 9) (j : Nat) : dig (p + e * 9 ^ t) j = if j = t then e else dig p j := by
  unfold dig at h0 ⊢
  rcases Nat.lt_trichotomy j t with h | h | h
  · rw [if_neg (by omega)]
    have : e * 9 ^ t = (e * 9 ^ (t - j - 1) * 9) * 9 ^ j := by
      have hT : 9 ^ t = 9 ^ (t - j - 1) * 9 * 9 ^ j := by
        rw [← Nat.pow_succ, ← Nat.pow_add]
        congr 1
        omega
      rw [hT, Nat.mul_assoc e, Nat.mul_assoc e]
    rw [this, Nat.add_mul_div_right _ _ (Nat.pow_pos (by decide)), Nat.add_mul_mod_self_right]
  · subst h
    rw [if_pos rfl, Nat.add_mul_div_right _ _ (Nat.pow_pos (by decide))]
    omega
  · rw [if_neg (by omega)]
    have e1 : 9 ^ j = 9 ^ t * 9 * 9 ^ (j - t - 1) := by
      rw [← Nat.pow_succ, ← Nat.pow_add]
      congr 1
      omega
    rw [e1, ← Nat.div_div_eq_div_mul, ← Nat.div_div_eq_div_mul, ← Nat.div_div_eq_div_mul, ← Nat.div_div_eq_div_mul, Nat.add_mul_div_right _ _ (Nat.pow_pos (by decide))]
    congr 2
    omega
theorem dig_add_lt {p t e T : Nat} (h0 : dig p t = 0) (he : e < 9) (ht : t < T) (hp : p < 9 ^ T) : p + e * 9 ^ t < 9 ^ T := by
  unfold dig at h0
  have e1 : 9 ^ T = 9 ^ (T - t - 1) * 9 * 9 ^ t := by
    rw [← Nat.pow_succ, ← Nat.pow_add]
    congr 1
    omega
  rw [e1] at hp ⊢
  have h1 : p / 9 ^ t < 9 ^ (T - t - 1) * 9 := (Nat.div_lt_iff_lt_mul (Nat.pow_pos (by decide))).mpr hp
  have h2 : p / 9 ^ t + e < 9 ^ (T - t - 1) * 9 := by omega
  have h3 : (p + e * 9 ^ t) / 9 ^ t < 9 ^ (T - t - 1) * 9 := by
    rw [Nat.add_mul_div_right _ _ (Nat.pow_pos (by decide))]; exact h2
  exact (Nat.div_lt_iff_lt_mul (Nat.pow_pos (by decide))).mp h3
/-- a digit, or never beyond h -/
def fl (h x : Nat) : Nat := if x ≤ h then x else 0
theorem fl_fl {h h' x y : Nat} (hh : h ≤ h') (e : fl h' x = fl h' y) : fl h x = fl h y := by
  unfold fl at e ⊢
  by_cases a : x ≤ h <;> by_cases b : y ≤ h <;> by_cases a' : x ≤ h' <;> by_cases b' : y ≤ h' <;> simp [a, b, a', b'] at e ⊢ <;> omega
def eE (T : Nat) (thr : Nat → Nat) (c p : Nat) : Prop := ∀ j, j < T → fl (thr j) (dig c j) = fl (thr j) (dig p j)
theorem eE_tl {T d c p : Nat} (h : eE T (fun _ => d + 1) c p) : tl T d c = tl T d p := nd_congr T (fun k hk => h k hk)
theorem eE_lt {T d c p : Nat} (h : tl T d c = tl T d p) : eE T (fun _ => d + 1) c p := fun j hj => (nd_ext (td_lt d c) (td_lt d p) T).mp h j hj
theorem eE.mono {T : Nat} {thr thr' : Nat → Nat} {c p : Nat} (h : eE T thr' c p) (hh : ∀ j, j < T → thr j ≤ thr' j) : eE T thr c p := fun j hj => fl_fl (hh j hj) (h j hj)
theorem eE.tr {T : Nat} {thr : Nat → Nat} {a b c : Nat} (h : eE T thr a b) (k : eE T thr b c) : eE T thr a c := fun j hj => (h j hj).trans (k j hj)
theorem eE.sy {T : Nat} {thr : Nat → Nat} {a b : Nat} (h : eE T thr a b) : eE T thr b a := fun j hj => (h j hj).symm
/-- no row left among unlike ones -/
def goodc (x : Nat) : Prop := x.testBit 5 = true → ∀ b, b < 5 → ∀ b', b' < 5 → x.testBit b = true → x.testBit b' = true → b = b'
theorem cg32 : ∀ x, x < 64 → ((nI x &&& 32) = 0 ↔ ¬ x.testBit 5 = true) := by decide +kernel
theorem cg31 : ∀ x, x < 64 → (((nI x &&& 31) &&& ((nI x &&& 31) - 1)) = 0 ↔ ∀ b, b < 5 → ∀ b', b' < 5 → x.testBit b = true → x.testBit b' = true → b = b') := by decide +kernel
theorem cg8 : ∀ x, x < 64 → vp_nar .byte ((nI x).toInt8.toInt32) = nI x := by
  intro x hx
  rw [pk_vb]
  have : ∀ x, x < 64 → (nI x).toInt8.toInt32 = nI x := by decide +kernel
  exact this x hx
theorem nI_or {a b : Nat} : nI a ||| nI b = nI (a ||| b) := by
  apply Int32.toBitVec_inj.mp
  show BitVec.ofNat 32 a ||| BitVec.ofNat 32 b = BitVec.ofNat 32 (a ||| b)
  apply BitVec.eq_of_toNat_eq
  rw [BitVec.toNat_or, BitVec.toNat_ofNat, BitVec.toNat_ofNat, BitVec.toNat_ofNat, Nat.or_mod_two_pow]
/-- the classes joined in thing t, of places ahead of pos -/
noncomputable def jn (cl : Nat → Nat) (t d pos : Nat) (q : Nat) : Nat := @ite _ (dig q t = 0 ∧ q < pos) (Classical.propDecidable _) (cl q ||| cl (q + (d + 1) * 9 ^ t)) (cl q)
theorem jn_t {cl : Nat → Nat} {t d pos q : Nat} (h : dig q t = 0 ∧ q < pos) : jn cl t d pos q = cl q ||| cl (q + (d + 1) * 9 ^ t) := by unfold jn; rw [if_pos h]
theorem jn_f {cl : Nat → Nat} {t d pos q : Nat} (h : ¬ (dig q t = 0 ∧ q < pos)) : jn cl t d pos q = cl q := by unfold jn; rw [if_neg h]
/-- the classes: of rows alike till thr -/
def cI (T : Nat) (ps lf : Nat → Prop) (oc : Nat → Nat) (thr cl : Nat → Nat) : Prop :=
  (∀ p, p < 9 ^ T → cl p < 64 ∧ goodc (cl p)) ∧
  (∀ p, p < 9 ^ T → (∀ b, b < 5 → (cl p).testBit b = true → ∃ c, c < 9 ^ T ∧ eE T thr c p ∧ ps c ∧ oc c = b) ∧ ((cl p).testBit 5 = true → ∃ c, c < 9 ^ T ∧ eE T thr c p ∧ lf c)) ∧
  ∀ p, p < 9 ^ T → (∀ j, j < T → dig p j ≤ thr j) → ∀ c, c < 9 ^ T → eE T thr c p → (ps c → (cl p).testBit (oc c) = true) ∧ (lf c → (cl p).testBit 5 = true)
/-- a row left stands among unlike ones -/
def cBad (T : Nat) (ps lf : Nat → Prop) (oc : Nat → Nat) (d : Nat) : Prop := ∃ c, c < 9 ^ T ∧ lf c ∧ ∃ k k', k < 9 ^ T ∧ k' < 9 ^ T ∧ ps k ∧ ps k' ∧ tl T d k = tl T d c ∧ tl T d k' = tl T d c ∧ oc k ≠ oc k'
def tht (d t j : Nat) : Nat := if j < t then d else d + 1
theorem six {x : Nat} (P : Nat → Prop) (h : ∀ b, b < 5 → P b) (h5 : P 5) (hx : x < 6) : P x := by
  by_cases e : x = 5
  · rw [e]; exact h5
  · exact h x (by omega)
theorem eE_join {T d t c p : Nat} (hd : d < 8) (ht : t < T) (h0 : dig p t = 0) (h : eE T (tht d t) c (p + (d + 1) * 9 ^ t)) : eE T (tht d (t + 1)) c p := by
  intro j hj
  have := h j hj
  rw [dig_add h0 (by omega)] at this
  unfold tht at this ⊢
  by_cases e : j = t
  · subst e
    rw [if_neg (by omega), if_pos rfl] at this
    rw [if_pos (by omega), h0]
    have := fl_fl (Nat.le_succ d) this
    rw [this]; simp [fl]
  · rw [if_neg e] at this
    by_cases q : j < t
    · rw [if_pos (by omega)]; rwa [if_pos q] at this
    · rw [if_neg (by omega)]; rwa [if_neg q] at this
theorem eE_up {T d t c p : Nat} (h : eE T (tht d t) c p) : eE T (tht d (t + 1)) c p := h.mono (fun j hj => by unfold tht; split <;> split <;> omega)
/-- what a joined class that isn't good says -/
theorem cI_bad {T d t : Nat} {ps lf : Nat → Prop} {oc cl : Nat → Nat} (hd : d < 8) (ht : t < T) (h : cI T ps lf oc (tht (d + 1) t) cl) (hd1 : d + 1 < 8) {p : Nat} (hp : p < 9 ^ T) (h0 : dig p t = 0) (hb : ¬ goodc (cl p ||| cl (p + (d + 1 + 1) * 9 ^ t))) : cBad T ps lf oc d := by
  have hp' := dig_add_lt (e := d + 1 + 1) h0 (by omega) ht hp
  have bit : ∀ b, b < 5 → (cl p ||| cl (p + (d + 1 + 1) * 9 ^ t)).testBit b = true → ∃ c, c < 9 ^ T ∧ eE T (tht (d + 1) (t + 1)) c p ∧ ps c ∧ oc c = b := by
    intro b hb h1
    rw [Nat.testBit_or, Bool.or_eq_true] at h1
    rcases h1 with h1 | h1
    · obtain ⟨c, c1, c2, c3⟩ := (h.2.1 p hp).1 b hb h1
      exact ⟨c, c1, eE_up c2, c3⟩
    · obtain ⟨c, c1, c2, c3⟩ := (h.2.1 _ hp').1 b hb h1
      exact ⟨c, c1, eE_join hd1 ht h0 c2, c3⟩
  have bit5 : (cl p ||| cl (p + (d + 1 + 1) * 9 ^ t)).testBit 5 = true → ∃ c, c < 9 ^ T ∧ eE T (tht (d + 1) (t + 1)) c p ∧ lf c := by
    intro h1
    rw [Nat.testBit_or, Bool.or_eq_true] at h1
    rcases h1 with h1 | h1
    · obtain ⟨c, c1, c2, c3⟩ := (h.2.1 p hp).2 h1
      exact ⟨c, c1, eE_up c2, c3⟩
    · obtain ⟨c, c1, c2, c3⟩ := (h.2.1 _ hp').2 h1
      exact ⟨c, c1, eE_join hd1 ht h0 c2, c3⟩
  have low : ∀ c c', eE T (tht (d + 1) (t + 1)) c p → eE T (tht (d + 1) (t + 1)) c' p → tl T d c = tl T d c' := fun c c' a a' => eE_tl ((a.tr a'.sy).mono (fun j hj => by unfold tht; split <;> omega))
  refine Classical.byContradiction (fun hno => hb (fun h5 b hb1 b' hb2 t1 t2 => ?_))
  obtain ⟨c, c1, c2, c3⟩ := bit5 h5
  obtain ⟨k, k1, k2, k3, k4⟩ := bit b hb1 t1
  obtain ⟨k', l1, l2, l3, l4⟩ := bit b' hb2 t2
  refine Classical.byContradiction (fun hne => hno ⟨c, c1, c3, k, k', k1, l1, k3, l3, low _ _ k2 c2, low _ _ l2 c2, fun e => hne ?_⟩)
  rw [← k4, ← l4, e]
/-- a thing's days joined -/
theorem cI_step {T d t : Nat} {ps lf : Nat → Prop} {oc cl : Nat → Nat} (hd : d < 8) (ht : t < T) (ho : ∀ c, oc c < 5) (h : cI T ps lf oc (tht d t) cl) (hg : ∀ p, p < 9 ^ T → dig p t = 0 → goodc (cl p ||| cl (p + (d + 1) * 9 ^ t))) : cI T ps lf oc (tht d (t + 1)) (jn cl t d (9 ^ T)) := by
  refine ⟨fun p hp => ?_, fun p hp => ?_, fun p hp hca c hc hE => ?_⟩
  · by_cases q : dig p t = 0
    · rw [jn_t ⟨q, hp⟩]
      exact ⟨Nat.or_lt_two_pow (n := 6) (h.1 p hp).1 (h.1 _ (dig_add_lt q (by omega) ht hp)).1, hg p hp q⟩
    · rw [jn_f (fun z => q z.1)]
      exact h.1 p hp
  · by_cases q : dig p t = 0
    · have hp' := dig_add_lt (e := d + 1) q (by omega) ht hp
      rw [jn_t ⟨q, hp⟩]
      refine ⟨fun b hb h1 => ?_, fun h1 => ?_⟩
      · rw [Nat.testBit_or, Bool.or_eq_true] at h1
        rcases h1 with h1 | h1
        · obtain ⟨c, c1, c2, c3⟩ := (h.2.1 p hp).1 b hb h1
          exact ⟨c, c1, eE_up c2, c3⟩
        · obtain ⟨c, c1, c2, c3⟩ := (h.2.1 _ hp').1 b hb h1
          exact ⟨c, c1, eE_join hd ht q c2, c3⟩
      · rw [Nat.testBit_or, Bool.or_eq_true] at h1
        rcases h1 with h1 | h1
        · obtain ⟨c, c1, c2, c3⟩ := (h.2.1 p hp).2 h1
          exact ⟨c, c1, eE_up c2, c3⟩
        · obtain ⟨c, c1, c2, c3⟩ := (h.2.1 _ hp').2 h1
          exact ⟨c, c1, eE_join hd ht q c2, c3⟩
    · rw [jn_f (fun z => q z.1)]
      refine ⟨fun b hb h1 => ?_, fun h1 => ?_⟩
      · obtain ⟨c, c1, c2, c3⟩ := (h.2.1 p hp).1 b hb h1
        exact ⟨c, c1, eE_up c2, c3⟩
      · obtain ⟨c, c1, c2, c3⟩ := (h.2.1 p hp).2 h1
        exact ⟨c, c1, eE_up c2, c3⟩
  · have oth : ∀ j, j < T → j ≠ t → ∀ x, fl (tht d (t + 1) j) x = fl (tht d t j) x := fun j hj hne x => by
      unfold tht
      by_cases q : j < t
      · rw [if_pos q, if_pos (by omega)]
      · rw [if_neg q, if_neg (by omega)]
    have cap : ∀ j, j < T → dig p j ≤ tht d t j := fun j hj => Nat.le_trans (hca j hj) (by unfold tht; split <;> split <;> omega)
    have ht' := hE t ht
    have e1 : tht d (t + 1) t = d := by unfold tht; rw [if_pos (by omega)]
    have e2 : tht d t t = d + 1 := by unfold tht; rw [if_neg (by omega)]
    rw [e1] at ht'
    by_cases q : dig p t = 0
    · have hp' := dig_add_lt (e := d + 1) q (by omega) ht hp
      rw [jn_t ⟨q, hp⟩]
      simp only [Nat.testBit_or, Bool.or_eq_true]
      rw [q, show fl d 0 = 0 by simp [fl]] at ht'
      by_cases z : dig c t = d + 1
      · have hE' : eE T (tht d t) c (p + (d + 1) * 9 ^ t) := fun j hj => by
          rw [dig_add q (by omega)]
          by_cases e : j = t
          · subst e; rw [if_pos rfl, z]
          · rw [if_neg e, ← oth j hj e, ← oth j hj e]; exact hE j hj
        have hc3 := h.2.2 _ hp' (fun j hj => by
          rw [dig_add q (by omega)]
          by_cases e : j = t
          · subst e; rw [if_pos rfl, e2]; exact Nat.le_refl _
          · rw [if_neg e]; exact cap j hj) c hc hE'
        exact ⟨fun a => Or.inr (hc3.1 a), fun a => Or.inr (hc3.2 a)⟩
      · have hE' : eE T (tht d t) c p := fun j hj => by
          by_cases e : j = t
          · subst e
            rw [e2, q]
            unfold fl at ht' ⊢
            by_cases y : dig c j ≤ d
            · rw [if_pos y] at ht'; rw [ht']
            · rw [if_neg (show ¬ dig c j ≤ d + 1 by omega)]; simp
          · rw [← oth j hj e, ← oth j hj e]; exact hE j hj
        have hc3 := h.2.2 _ hp cap c hc hE'
        exact ⟨fun a => Or.inl (hc3.1 a), fun a => Or.inl (hc3.2 a)⟩
    · rw [jn_f (fun z => q z.1)]
      have hpd : dig p t ≤ d := by have := hca t ht; rwa [e1] at this
      have hE' : eE T (tht d t) c p := fun j hj => by
        by_cases e : j = t
        · subst e
          rw [e2]
          unfold fl at ht' ⊢
          by_cases y : dig c j ≤ d
          · rw [if_pos y, if_pos hpd] at ht'; rw [ht']
          · rw [if_neg y, if_pos hpd] at ht'; omega
        · rw [← oth j hj e, ← oth j hj e]; exact hE j hj
      exact h.2.2 p hp cap c hc hE'
theorem tht_all {T d : Nat} {c p : Nat} : eE T (tht d T) c p ↔ eE T (fun _ => d) c p := ⟨fun h => h.mono (fun j hj => by unfold tht; rw [if_pos hj]; exact Nat.le_refl _), fun h => h.mono (fun j hj => by unfold tht; rw [if_pos hj]; exact Nat.le_refl _)⟩
theorem cI_next {T d : Nat} {ps lf : Nat → Prop} {oc cl : Nat → Nat} (h : cI T ps lf oc (tht (d + 1) T) cl) : cI T ps lf oc (tht d 0) cl := by
  have e : ∀ j, j < T → tht (d + 1) T j = tht d 0 j := fun j hj => by unfold tht; rw [if_pos hj, if_neg (by omega)]
  have e2 : ∀ c p, eE T (tht (d + 1) T) c p ↔ eE T (tht d 0) c p := fun c p => ⟨fun h j hj => by rw [← e j hj]; exact h j hj, fun h j hj => by rw [e j hj]; exact h j hj⟩
  refine ⟨h.1, fun p hp => ?_, fun p hp hca c hc hE => h.2.2 p hp (fun j hj => by rw [e j hj]; exact hca j hj) c hc ((e2 c p).mpr hE)⟩
  simp only [← e2]
  exact h.2.1 p hp
/-- a day forgotten: no row left among unlike ones -/
theorem cI_ok {T d : Nat} {ps lf : Nat → Prop} {oc cl : Nat → Nat} (hd : d < 8) (ho : ∀ c, oc c < 5) (hlp : ∀ c, lf c → ps c) (h : cI T ps lf oc (tht (d + 1) T) cl) : ¬ cBad T ps lf oc d := by
  rintro ⟨c, c1, c2, k, k', k1, l1, k3, l3, k4, l4, hne⟩
  have hp := tl_lt T d c
  have hdp : ∀ j, j < T → dig (tl T d c) j = td d c j := fun j hj => dig_nd (td_lt d c) T j hj
  have hE : ∀ x, tl T d x = tl T d c → eE T (tht (d + 1) T) x (tl T d c) := fun x hx => tht_all.mpr (fun j hj => by
    rw [hdp j hj]
    have := eE_lt hx j hj
    rw [this]
    unfold td fl
    by_cases y : dig c j ≤ d + 1
    · rw [if_pos y]; simp [y]
    · rw [if_neg y]; simp)
  have hcap : ∀ j, j < T → dig (tl T d c) j ≤ tht (d + 1) T j := fun j hj => by
    rw [hdp j hj]
    unfold tht td
    rw [if_pos hj]
    split <;> omega
  have g := (h.1 _ hp).2
  have b5 := (h.2.2 _ hp hcap c c1 (hE c rfl)).2 c2
  have b1 := (h.2.2 _ hp hcap k k1 (hE k k4)).1 k3
  have b2 := (h.2.2 _ hp hcap k' l1 (hE k' l4)).1 l3
  exact hne (g b5 _ (ho k) _ (ho k') b1 b2)
