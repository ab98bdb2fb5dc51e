/-! PURE: the class reads a claim of things; "not", brackets. -/
variable {stf : Nat → Nat} {N K b m : Nat} {β : sB} {δ : sD} {H : xH}
variable {t S E : Nat → Nat} {n J : Nat} {T tl c : Nat} {tn : Nat → List Nat}
theorem bd2_id {α β : Type} {x : Option (α × β)} : x_bd2 x (fun v h => some (v, h)) = x := by
  cases x with
  | none => rfl
  | some p => rfl
theorem kw_J (hT : tkS t n J S E) (hn : n ≤ 1200) (h6 : ∀ q, t q < 256) (hN : 1200 < N) {j k : Nat} (h : wd t J S E j = kw k) (hk : k < 19) : j < J := (wd_j hT hn h6 hN (j := j) (by
  intro z
  have k2 := (kw_ok k hk).2.2
  rw [← h, z] at k2
  simp at k2)).1
theorem nv_le {j lo hi : Nat} (h : isN t J S E j lo hi) : nv t S E j ≤ hi := h.2.2.2.2
theorem nv_ge {j lo hi : Nat} (h : isN t J S E j lo hi) : lo ≤ nv t S E j := h.2.2.2.1
theorem cOut.mono {D D' : Nat} {p : pr} {j : Nat} {x : Option (Option Nat × xH)} (h : cOut t J S E T tn b stf tl c N D p j H x) (hD : D ≤ D') : cOut t J S E T tn b stf tl c N D' p j H x := by
  obtain ⟨r, H', h1, h2, h3, h4⟩ := h
  refine ⟨r, H', h1, h2, h3, fun σ hσ => ?_⟩
  obtain ⟨q1, a, q2, q3, q4, q5⟩ := h4 σ hσ
  exact ⟨q1, a, q2, q3, q4.mono hD (Nat.le_refl _), q5⟩
/-- a word is taken, or not -/
theorem cP.w (hT : tkS t n J S E) (hn : n ≤ 1200) (h6 : ∀ q, t q < 256) {j k : Nat} (h : cP t J S E T tn b stf tl c j H) (hj : j ≤ J) (hk : k < 19) : F_X8_take N (some (b + 2)) (some (stf k)) H = if wd t J S E j = kw k then some (1, tkH b (j + 1) H) else some (0, H) := C_take hT hn h6 h.1 hj hk (xgw_k h.2.1 hk)
/-- a thing's name -/
theorem C_thing (hT : tkS t n J S E) (hn : n ≤ 1200) (h6 : ∀ q, t q < 256) (hN : 1200 < N) {j : Nat} (h : cP t J S E T tn b stf tl c j H) (hj : j ≤ J) (ot : Int32) : (∀ i, fnd T tn (wd t J S E j) = some i → i < 5 ∧ i < T ∧ j < J ∧ (nI i ≠ ot → F_X8_takeTold N (some (b + 2)) (some (c + 1)) (nI T) ot H = some (nI i, tkH b (j + 1) H)) ∧ (nI i = ot → F_X8_takeTold N (some (b + 2)) (some (c + 1)) (nI T) ot H = some (-1, H))) ∧ (fnd T tn (wd t J S E j) = none → F_X8_takeTold N (some (b + 2)) (some (c + 1)) (nI T) ot H = some (-1, H)) := by
  obtain ⟨-, hT5, hnm, g, hg, hgt⟩ := h.2.2.2.1
  obtain ⟨e1, e2⟩ := C_told (N := N) hT hn h6 (by omega) (ot := ot) h.1 hj (show 5 ≤ 6 by omega) hT5 hg hgt hnm
  rcases fnd_c T tn (wd t J S E j) with ⟨i, f1, f2, f3⟩ | ⟨f1, f2⟩
  · refine ⟨fun k hk => ?_, fun z => by rw [f1] at z; cases z⟩
    have : i = k := Option.some.inj (f1.symm.trans hk)
    subst this
    refine ⟨by omega, f2, (wd_j hT hn h6 hN (j := j) (by rw [← f3]; exact (hnm.1 i f2).2)).1, fun z => e1 i f2 f3 z, fun z => e2 (fun k k1 k2 => ?_)⟩
    rw [hnm.2 k i k1 f2 (k2.trans f3.symm)]; exact z
  · exact ⟨fun k hk => (by rw [f1] at hk; cases hk), fun _ => e2 (fun i i1 i2 => absurd i2 (f2 i i1))⟩
theorem C_least (hT : tkS t n J S E) (hn : n ≤ 1200) (h6 : ∀ q, t q < 256) (hN : 1200 < N) {j : Nat} (h : cP t J S E T tn b stf tl c j H) (hj : j ≤ J) : cOut t J S E T tn b stf tl c N 0 (pLe t J S E j) j H (F_X7_least N (some tl) H) := by
  obtain ⟨a1, a2, a3, a4, a5, a6, a7⟩ := h.a
  have e1 := C_num (N := N) hT hn h6 (lo := 0) (hi := 9) h.1 hj (by decide) (by decide)
  simp only [show nI 0 = (0 : Int32) from rfl, show nI 9 = (9 : Int32) from rfl] at e1
  unfold F_X7_least pLe
  simp only [a1, a3, Option.bind_some, bd2_s]
  by_cases q1 : isN t J S E j 0 9
  rotate_left
  · rw [cif_f q1]
    simp only [e1.2 q1, show (-1 : Int32) < 0 by decide, if_true, F_X7_least_J41, F_X7_least_J42, show ¬ (0 : Int32) ≤ -1 by decide, if_false, Option.bind_some, bd2_s]
    exact cOut.no (cR.rf h hj)
  have R1 := cR.tk hT h q1.1
  have l1 := nv_le q1
  rw [cif_t q1]
  simp only [e1.1 q1, nI_pos (show nv t S E j < 2 ^ 31 by omega), if_false, Option.bind_some, bd2_s]
  clear e1
  generalize tkH b (j + 1) H = H1 at *
  obtain ⟨a1, a2, a3, a4, a5, a6, a7⟩ := R1.1.a
  simp only [a1, a3, a7, R1.1.w hT hn h6 R1.2.2.2.2.1 (show 16 < 19 by decide), Option.bind_some, bd2_s]
  by_cases q2 : wd t J S E (j + 1) = kw 16
  rotate_left
  · rw [cif_f q2, if_neg q2]
    simp only [if_true, F_X7_least_J41, F_X7_least_J42, show ¬ (0 : Int32) ≤ -1 by decide, if_false, Option.bind_some, bd2_s]
    exact cOut.no R1
  have R2 := R1.tk' hT (kw_J hT hn h6 hN q2 (by decide))
  rw [cif_t q2, if_pos q2]
  simp only [show ¬ (1 : Int32) = 0 by decide, if_false, Option.bind_some, bd2_s]
  generalize tkH b (j + 1 + 1) H1 = H2 at *
  obtain ⟨a1, a2, a3, a4, a5, a6, a7⟩ := R2.1.a
  have e3 := C_num (N := N) hT hn h6 (lo := 0) (hi := 7) R2.1.1 R2.2.2.2.2.1 (by decide) (by decide)
  simp only [show nI 0 = (0 : Int32) from rfl, show nI 7 = (7 : Int32) from rfl] at e3
  simp only [a1, a3, Option.bind_some, bd2_s]
  by_cases q3 : isN t J S E (j + 2) 0 7
  rotate_left
  · rw [cif_f q3]
    simp only [e3.2 q3, F_X7_least_J42, show ¬ (0 : Int32) ≤ -1 by decide, if_false, Option.bind_some, bd2_s]
    exact cOut.no R2
  have R3 := R2.tk' hT q3.1
  have l3 := nv_le q3
  rw [cif_t q3]
  simp only [e3.1 q3, F_X7_least_J42, nI_pos' (show nv t S E (j + 1 + 1) < 2 ^ 31 from Nat.lt_of_le_of_lt l3 (by decide)), if_true, bd2_id, Option.bind_some, bd2_s]
  exact cOut.lf (by omega) (R3.le (by omega)) (by omega) (Or.inr (Or.inr ⟨rfl, by omega, by show nv t S E (j + 2) < 9; omega, rfl⟩))
theorem C_ofThing (hT : tkS t n J S E) (hn : n ≤ 1200) (h6 : ∀ q, t q < 256) (hN : 1200 < N) {j : Nat} (h : cP t J S E T tn b stf tl c j H) (hj : j ≤ J) : cOut t J S E T tn b stf tl c N 0 (pTh t J S E T tn j) j H (F_X7_ofThing N (some tl) H) := by
  obtain ⟨a1, a2, a3, a4, a5, a6, a7⟩ := h.a
  obtain ⟨e1, e1'⟩ := C_thing hT hn h6 hN h hj (-1)
  unfold F_X7_ofThing pTh
  simp only [a1, a2, a3, a5, a6, Option.bind_some, bd2_s]
  rcases fnd_c T tn (wd t J S E j) with ⟨i, f1, f2, f3⟩ | ⟨f1, f2⟩
  rotate_left
  · rw [obd_n f1]
    simp only [e1' f1, show ¬ (0 : Int32) ≤ -1 by decide, if_false, Option.bind_some, bd2_s]
    exact cOut.no (cR.rf h hj)
  obtain ⟨i5, -, j1, e2, -⟩ := e1 i f1
  have R1 := cR.tk hT h j1
  rw [obd_s f1]
  simp only [e2 (nIm1 (by omega)), nI_pos' (show i < 2 ^ 31 by omega), if_true, Option.bind_some, bd2_s]
  clear e1 e1' e2
  generalize tkH b (j + 1) H = H1 at *
  obtain ⟨a1, a2, a3, a4, a5, a6, a7⟩ := R1.1.a
  simp only [a1, a3, a7, R1.1.w hT hn h6 R1.2.2.2.2.1 (show 15 < 19 by decide), Option.bind_some, bd2_s]
  by_cases q2 : wd t J S E (j + 1) = kw 15
  · have R2 := R1.tk' hT (kw_J hT hn h6 hN q2 (by decide))
    rw [cif_t q2, if_pos q2]
    simp only [show ¬ (1 : Int32) = 0 by decide, if_false, bd2_id, Option.bind_some, bd2_s]
    exact cOut.lf (kd := 0) (y := 7) (by omega) (R2.le (by omega)) (by omega) (Or.inl ⟨rfl, by omega, by omega, rfl⟩)
  rw [cif_f q2, if_neg q2]
  simp only [if_true, a1, a3, a7, R1.1.w hT hn h6 R1.2.2.2.2.1 (show 16 < 19 by decide), Option.bind_some, bd2_s]
  by_cases q3 : wd t J S E (j + 1) = kw 16
  · have R2 := R1.tk' hT (kw_J hT hn h6 hN q3 (by decide))
    rw [cif_t q3, if_pos q3]
    simp only [show ¬ (1 : Int32) = 0 by decide, if_false, Option.bind_some, bd2_s]
    generalize tkH b (j + 1 + 1) H1 = H2 at *
    obtain ⟨a1, a2, a3, a4, a5, a6, a7⟩ := R2.1.a
    have e3 := C_num (N := N) hT hn h6 (lo := 0) (hi := 7) R2.1.1 R2.2.2.2.2.1 (by decide) (by decide)
    simp only [show nI 0 = (0 : Int32) from rfl, show nI 7 = (7 : Int32) from rfl] at e3
    simp only [a1, a3, Option.bind_some, bd2_s]
    by_cases q4 : isN t J S E (j + 2) 0 7
    · have R3 := R2.tk' hT q4.1
      have l3 := nv_le q4
      rw [cif_t q4]
      simp only [e3.1 q4, nI_pos' (show nv t S E (j + 1 + 1) < 2 ^ 31 from Nat.lt_of_le_of_lt l3 (by decide)), if_true, bd2_id, Option.bind_some, bd2_s]
      exact cOut.lf (kd := 0) (by omega) (R3.le (by omega)) (by omega) (Or.inl ⟨rfl, by omega, by show nv t S E (j + 2) < 9; omega, rfl⟩)
    · rw [cif_f q4]
      simp only [e3.2 q4, show ¬ (0 : Int32) ≤ -1 by decide, if_false, Option.bind_some, bd2_s]
      exact cOut.no R2
  rw [cif_f q3, if_neg q3]
  simp only [if_true, a1, a3, a7, R1.1.w hT hn h6 R1.2.2.2.2.1 (show 17 < 19 by decide), Option.bind_some, bd2_s]
  by_cases q4 : wd t J S E (j + 1) = kw 17
  rotate_left
  · rw [cif_f q4, if_neg q4]
    simp only [if_true, F_X7_ofThing_J128, show ¬ (0 : Int32) ≤ -1 by decide, if_false, Option.bind_some, bd2_s]
    exact cOut.no R1
  have R2 := R1.tk' hT (kw_J hT hn h6 hN q4 (by decide))
  rw [cif_t q4, if_pos q4]
  simp only [show ¬ (1 : Int32) = 0 by decide, if_false, Option.bind_some, bd2_s]
  generalize tkH b (j + 1 + 1) H1 = H2 at *
  obtain ⟨a1, a2, a3, a4, a5, a6, a7⟩ := R2.1.a
  obtain ⟨e1, e1'⟩ := C_thing hT hn h6 hN R2.1 R2.2.2.2.2.1 (nI i)
  simp only [a1, a2, a3, a5, a6, Option.bind_some, bd2_s]
  rcases fnd_c T tn (wd t J S E (j + 2)) with ⟨u, g1, g2, g3⟩ | ⟨g1, g2⟩
  rotate_left
  · rw [obd_n g1]
    simp only [e1' g1, F_X7_ofThing_J128, show ¬ (0 : Int32) ≤ -1 by decide, if_false, Option.bind_some, bd2_s]
    exact cOut.no R2
  obtain ⟨u5, -, j2, e2, e3⟩ := e1 u g1
  rw [obd_s g1]
  by_cases q5 : u = i
  · rw [cif_t q5]
    simp only [e3 (by rw [q5]), F_X7_ofThing_J128, show ¬ (0 : Int32) ≤ -1 by decide, if_false, Option.bind_some, bd2_s]
    exact cOut.no R2
  · rw [cif_f q5]
    have R3 := R2.tk' hT j2
    simp only [e2 (fun z => q5 ((nI_eq (by omega) (by omega)).mp z)), F_X7_ofThing_J128, nI_pos' (show u < 2 ^ 31 by omega), if_true, bd2_id, Option.bind_some, bd2_s]
    exact cOut.lf (kd := 1) (by omega) (R3.le (by omega)) (by omega) (Or.inr (Or.inl ⟨rfl, by omega, by omega, rfl⟩))
section
variable {cany cone : Option Nat → Int32 → xH → Option (Option Nat × xH)}
/-- "not", so many times -/
def ngm (k : Nat) (σ : sem) : sem := if k % 2 = 0 then σ else fun d => ¬ σ d
theorem ngm_s (k : Nat) (σ : sem) : ngm k (fun d => ¬ σ d) = ngm (k + 1) σ := by
  unfold ngm
  by_cases h : k % 2 = 0
  · rw [if_pos h, if_neg (show ¬ (k + 1) % 2 = 0 by omega)]
  · rw [if_neg h, if_pos (show (k + 1) % 2 = 0 by omega)]
    funext d
    exact propext Classical.not_not
def pNg (k : Nat) (p : pr) : pr := pbd p (fun σ j' => (some (ngm k σ), j'))
theorem pNg_0 {p : pr} : pNg 0 p = p := by
  obtain ⟨x, y⟩ := p
  cases x <;> rfl
theorem pNg_s {k : Nat} {p : pr} : pNg k (pbd p (fun σ j' => (some (fun d => ¬ σ d), j'))) = pNg (k + 1) p := by
  obtain ⟨x, y⟩ := p
  cases x with
  | none => rfl
  | some σ =>
    show ((some (ngm k (fun d => ¬ σ d)), y) : pr) = (some (ngm (k + 1) σ), y)
    rw [ngm_s]
theorem ng_z : ∀ k, k < 10 → ((nI k - nI k / (2 : Int32) * (2 : Int32)) = 0 ↔ k % 2 = 0) := by decide +kernel
/-- what was read is put under one "not", or none -/
theorem C_ng {k D j0 j : Nat} {p : pr} {H0 H2 : xH} {r : Option Nat} (hk : k < 10) (R0 : cR t J S E T tn b stf tl c k j0 j H0 H) (hx : cOut t J S E T tn b stf tl c N D p j H (some (r, H2))) : cOut t J S E T tn b stf tl c N (D + k) (pNg k p) j0 H0 (F_X7_one_J144 N cany cone (nI k) r H2) := by
  obtain ⟨r', H2', x1, x2, x3, x4⟩ := hx
  have x0 : (r', H2') = (r, H2) := (Option.some.inj x1).symm
  have z1 : r' = r := congrArg Prod.fst x0
  have z2 : H2' = H2 := congrArg Prod.snd x0
  rw [z1] at x3 x4
  rw [z2] at x2 x4
  clear x0 x1 z1 z2
  have R := R0.tr x2
  unfold pNg F_X7_one_J144
  cases hp : p.1 with
  | none =>
    rw [pbd_n hp, x3 hp, if_pos rfl]
    exact cOut.no R
  | some σ =>
    rw [pbd_s hp]
    obtain ⟨y1, a, y2, y3, y4, y5⟩ := x4 σ hp
    have ha : a < H2.2.1 := by obtain ⟨_, _, _, _, z⟩ := y5; exact x2.1.2.2.2.2 _ _ z
    have hl := R0.2.1.1
    have hj := R0.2.2.2.1
    have na : ¬ (some a : Option Nat) = none := fun z => by cases z
    rw [y2, if_neg na]
    by_cases qm : k % 2 = 0
    · rw [if_pos ((ng_z k hk).mpr qm)]
      refine ⟨_, _, rfl, R.le (Nat.zero_le _), (fun z => by cases z), fun τ hτ => ⟨by show j0 + 1 ≤ _; omega, a, rfl, by omega, ?_, y5⟩⟩
      cases hτ
      rw [show ngm k σ = σ from if_pos qm]
      exact y4.mono (by omega) hl
    · rw [if_neg (fun z => qm ((ng_z k hk).mp z))]
      simp only [S_over, Option.bind_some, bd2_s]
      refine ⟨_, _, rfl, (R.le (show 0 + 1 ≤ k + 0 by omega)).nw, (fun z => by cases z), fun τ hτ => ⟨by show j0 + 1 ≤ _; omega, H2.2.1, rfl, R.2.1.1, ?_, ⟨_, _, _, _, xnw_at⟩⟩⟩
      cases hτ
      rw [show ngm k σ = (fun d => ¬ σ d) from if_neg qm]
      have hne : ∀ q, q ≤ a → (xnw H2 (ob 1 [.int 3, .int 0, .int 0, va_rf (some a), va_rf none]) 5).1 q = H2.1 q := fun q hq => xnw_ne (by omega)
      have n2 := y5.of (hne a (Nat.le_refl _))
      exact (CT.not (xnw_at (H := H2)) y3 ha n2 (y4.fr (fun q _ hq => hne q (by omega)) (same4.of y5 (hne a (Nat.le_refl _))))).mono (by omega) hl
theorem C_ngb {k D j0 j : Nat} {p : pr} {H0 : xH} {x : Option (Option Nat × xH)} (hk : k < 10) (R0 : cR t J S E T tn b stf tl c k j0 j H0 H) (hx : cOut t J S E T tn b stf tl c N D p j H x) : cOut t J S E T tn b stf tl c N (D + k) (pNg k p) j0 H0 (x_bd2 x (fun v h => F_X7_one_J144 N cany cone (nI k) v h)) := by
  obtain ⟨r, H2, x1, x2⟩ := id hx
  rw [x1] at hx
  rw [x1, bd2_s]
  exact C_ng hk R0 hx
/-- no bracket: a claim of a thing, or of many -/
theorem C_J66 (hT : tkS t n J S E) (hn : n ≤ 1200) (h6 : ∀ q, t q < 256) (hN : 1200 < N) {k j0 j : Nat} {H0 : xH} (hk : k < 10) (R0 : cR t J S E T tn b stf tl c k j0 j H0 H) (o : Int32) (q2 : ¬ sg t J S j = 40) : cOut t J S E T tn b stf tl c N k (pNg k (pLf t J S E T tn j)) j0 H0 (F_X7_one_J66 N cany cone (some tl) (nI k) o H) := by
  have h := R0.1
  have hj := R0.2.2.2.2.1
  obtain ⟨a1, a2, a3, a4, a5, a6, a7⟩ := h.a
  have es := C_sign (N := N) hT hn h6 h.1 hj (s := 40) (by decide)
  rw [if_neg q2, show nI 40 = (40 : Int32) from rfl] at es
  unfold F_X7_one_J66 pLf
  simp only [a1, a3, a7, if_true, es, h.w hT hn h6 hj (show 18 < 19 by decide), a4, F_X7_one_J105, Option.bind_some, bd2_s]
  by_cases q3 : wd t J S E j = kw 18
  · have R1 := cR.tk hT h (kw_J hT hn h6 hN q3 (by decide))
    rw [cif_t q3, if_pos q3]
    simp only [show ¬ (1 : Int32) = 0 by decide, if_false, R1.1.a.2.2.2.1, Option.bind_some, bd2_s]
    have z := C_ngb (cany := cany) (cone := cone) hk R0 (cOut.pre R1 (C_least hT hn h6 hN R1.1 R1.2.2.2.2.1))
    rw [Nat.zero_add] at z
    exact z
  · rw [cif_f q3, if_neg q3]
    simp only [if_true, a4, Option.bind_some, bd2_s]
    have z := C_ngb (cany := cany) (cone := cone) hk R0 (C_ofThing hT hn h6 hN h hj)
    rw [Nat.zero_add] at z
    exact z
/-- nine are open -/
theorem C_J29z (hT : tkS t n J S E) (hn : n ≤ 1200) (h6 : ∀ q, t q < 256) (hN : 1200 < N) {l k j0 j : Nat} {H0 : xH} (hk : l + k = 9) (R0 : cR t J S E T tn b stf tl c k j0 j H0 H) : cOut t J S E T tn b stf tl c N k (pNg k (pSi t J S E T tn 0 j)) j0 H0 (F_X7_one_J29 N cany cone (some tl) (nI l) (nI k) H) := by
  have h := R0.1
  have hj := R0.2.2.2.2.1
  obtain ⟨a1, a2, a3, a4, a5, a6, a7⟩ := h.a
  have ew := C_isW (N := N) (stf := stf) hT hn h6 (k := 14) h.1 hj (by decide) (xgw_k h.2.1 (by decide))
  have es := C_isS (N := N) hT hn h6 h.1 hj (s := 40) (by decide)
  rw [show nI 40 = (40 : Int32) from rfl] at es
  unfold F_X7_one_J29
  rw [pSi, nI_add, hk]
  simp only [show ¬ nI 9 < (9 : Int32) by decide, if_false, a1, a3, a7, ew, Option.bind_some, bd2_s]
  by_cases q1 : wd t J S E j = kw 14
  · rw [cif_t (Or.inl q1), if_pos q1]
    simp only [show ¬ (1 : Int32) = 0 by decide, if_false, Option.bind_some, bd2_s]
    exact cOut.no (j' := j) R0
  rw [if_neg q1]
  simp only [if_true, a1, a3, es, Option.bind_some, bd2_s]
  by_cases q2 : sg t J S j = 40
  · rw [cif_t (Or.inr q2), if_pos q2]
    simp only [show ¬ (1 : Int32) = 0 by decide, if_false, Option.bind_some, bd2_s]
    exact cOut.no (j' := j) R0
  rw [if_neg q2, cif_f (fun z => z.elim q1 q2)]
  simp only [if_true, Option.bind_some, bd2_s]
  exact C_J66 hT hn h6 hN (by omega) R0 _ q2
/-- there is room for a bracket -/
theorem C_J29s (hT : tkS t n J S E) (hn : n ≤ 1200) (h6 : ∀ q, t q < 256) (hN : 1200 < N) {l k f D j0 j : Nat} {H0 : xH} (hk : l + k + (f + 1) = 9) (R0 : cR t J S E T tn b stf tl c k j0 j H0 H) (q1 : ¬ wd t J S E j = kw 14) (hany : ∀ j H, cP t J S E T tn b stf tl c j H → j ≤ J → cOut t J S E T tn b stf tl c N D (pAn t J S E (pSi t J S E T tn f) j) j H (cany (some tl) (nI (9 - f)) H)) : cOut t J S E T tn b stf tl c N (D + k) (pNg k (pSi t J S E T tn (f + 1) j)) j0 H0 (F_X7_one_J29 N cany cone (some tl) (nI l) (nI k) H) := by
  have h := R0.1
  have hj := R0.2.2.2.2.1
  obtain ⟨a1, a2, a3, a4, a5, a6, a7⟩ := h.a
  have es := C_sign (N := N) hT hn h6 h.1 hj (s := 40) (by decide)
  rw [show nI 40 = (40 : Int32) from rfl] at es
  have e9 : nI (l + k) + 1 = nI (9 - f) := by rw [nI_1]; congr 1; omega
  have k9 : k < 10 := by omega
  unfold F_X7_one_J29
  rw [nI_add, if_pos (show nI (l + k) < (9 : Int32) from nI_lt (b := 9) (by omega) (by decide)), pSi, cif_f q1]
  by_cases q2 : sg t J S j = 40
  · have j1 : j < J := by
      unfold sg at q2
      split at q2
      · assumption
      · omega
    have R1 := cR.tk hT h j1
    unfold F_X7_one_J66
    rw [cif_t q2]
    rw [if_pos q2] at es
    simp only [a1, a3, es, show ¬ (1 : Int32) = 0 by decide, if_false, R1.1.a.2.2.2.1, e9, F_X7_one_J141, F_X7_one_J142, Option.bind_some, bd2_s]
    obtain ⟨r, H2, x1, x2, x3, x4⟩ := hany _ _ R1.1 R1.2.2.2.2.1
    simp only [x1, Option.bind_some, bd2_s]
    cases hp : (pAn t J S E (pSi t J S E T tn f) (j + 1)).1 with
    | none =>
      rw [pbd_n hp]
      simp only [x3 hp, if_true, Option.bind_some, bd2_s]
      exact C_ng (D := D) k9 R0 (cOut.no (R1.tr x2))
    | some σ =>
      rw [pbd_s hp]
      obtain ⟨y1, a, y2, y3, y4, y5⟩ := x4 σ hp
      obtain ⟨b1, b2, b3, b4, b5, b6, b7⟩ := x2.1.a
      have es2 := C_sign (N := N) hT hn h6 x2.1.1 x2.2.2.2.2.1 (s := 41) (by decide)
      rw [show nI 41 = (41 : Int32) from rfl] at es2
      simp only [y2, reduceCtorEq, if_false, b1, b3, es2, Option.bind_some, bd2_s]
      generalize (pAn t J S E (pSi t J S E T tn f) (j + 1)).2 = j2 at *
      by_cases q3 : sg t J S j2 = 41
      · have j3 : j2 < J := by
          unfold sg at q3
          split at q3
          · assumption
          · omega
        rw [cif_t q3, if_pos q3]
        simp only [show ¬ (1 : Int32) = 0 by decide, if_false, Option.bind_some, bd2_s]
        have R2 := (R1.tr x2).tk' hT j3
        have hb := R1.2.2.1.1
        have hl := R1.2.1.1
        refine C_ng (D := D) k9 R0 ⟨_, _, rfl, R2.le (by omega), (fun z => by cases z), fun τ hτ => ⟨by show j + 1 ≤ j2 + 1; omega, a, rfl, by omega, ?_, y5.of (xup_ne _ (by omega))⟩⟩
        cases hτ
        exact (y4.fr (fun q q1 q2 => xup_ne _ (by omega)) (same4.of y5 (xup_ne _ (by omega)))).mono (Nat.le_refl _) hl
      · rw [cif_f q3, if_neg q3]
        simp only [if_true, Option.bind_some, bd2_s]
        exact C_ng (D := D) k9 R0 (cOut.no (R1.tr x2))
  · rw [cif_f q2]
    exact (C_J66 hT hn h6 hN k9 R0 _ q2).mono (by omega)
/-- the loop over "not" -/
theorem C_nots (hT : tkS t n J S E) (hn : n ≤ 1200) (h6 : ∀ q, t q < 256) (hN : 1200 < N) {f0 : Nat} (hf : f0 ≤ 9) (hany : ∀ f, f < f0 → ∀ j H, cP t J S E T tn b stf tl c j H → j ≤ J → cOut t J S E T tn b stf tl c N (2 * f + 2) (pAn t J S E (pSi t J S E T tn f) j) j H (cany (some tl) (nI (9 - f)) H)) {j0 : Nat} {H0 : xH} : ∀ f k g j H, f + k = f0 → f < g → cR t J S E T tn b stf tl c k j0 j H0 H → cOut t J S E T tn b stf tl c N (2 * f0) (pNg k (pSi t J S E T tn f j)) j0 H0 (F_X7_one_L2 N cany cone (F_X7_one_J29 N cany cone) g (some tl) (nI (9 - f0)) (nI k) H) := by
  intro f
  induction f with
  | zero =>
    intro k g j H hk hg R0
    obtain ⟨g, rfl⟩ : ∃ z, g = z + 1 := ⟨g - 1, by omega⟩
    rw [show F_X7_one_L2 N cany cone (F_X7_one_J29 N cany cone) (g + 1) = F_X7_one_J2 N cany cone (F_X7_one_L2 N cany cone (F_X7_one_J29 N cany cone) g) (F_X7_one_J29 N cany cone) from rfl]
    unfold F_X7_one_J2
    rw [nI_add, show 9 - f0 + k = 9 by omega, if_pos (show (9 : Int32) ≤ nI 9 by decide)]
    exact (C_J29z hT hn h6 hN (l := 9 - f0) (by omega) R0).mono (by omega)
  | succ f ih =>
    intro k g j H hk hg R0
    obtain ⟨g, rfl⟩ : ∃ z, g = z + 1 := ⟨g - 1, by omega⟩
    have h := R0.1
    have hj := R0.2.2.2.2.1
    obtain ⟨a1, a2, a3, a4, a5, a6, a7⟩ := h.a
    rw [show F_X7_one_L2 N cany cone (F_X7_one_J29 N cany cone) (g + 1) = F_X7_one_J2 N cany cone (F_X7_one_L2 N cany cone (F_X7_one_J29 N cany cone) g) (F_X7_one_J29 N cany cone) from rfl]
    unfold F_X7_one_J2
    rw [nI_add, if_neg (show ¬ (9 : Int32) ≤ nI (9 - f0 + k) from nI_ge (show 9 - f0 + k < 9 by omega) (by decide))]
    simp only [a1, a3, a7, h.w hT hn h6 hj (show 14 < 19 by decide), Option.bind_some, bd2_s]
    by_cases q1 : wd t J S E j = kw 14
    · have R1 := cR.tk' hT R0 (kw_J hT hn h6 hN q1 (by decide))
      rw [if_pos q1, pSi, cif_t q1, pNg_s]
      simp only [show ¬ (1 : Int32) = 0 by decide, if_false, nI_1, Option.bind_some, bd2_s]
      exact ih (k + 1) g _ _ (by omega) (by omega) R1
    · rw [if_neg q1]
      simp only [if_true, Option.bind_some, bd2_s]
      exact (C_J29s hT hn h6 hN (l := 9 - f0) (by omega) R0 q1 (hany f (by omega))).mono (by omega)
theorem C_one (hT : tkS t n J S E) (hn : n ≤ 1200) (h6 : ∀ q, t q < 256) (hN : 1200 < N) {f : Nat} (hf : f ≤ 9) (hany : ∀ g, g < f → ∀ j H, cP t J S E T tn b stf tl c j H → j ≤ J → cOut t J S E T tn b stf tl c N (2 * g + 2) (pAn t J S E (pSi t J S E T tn g) j) j H (cany (some tl) (nI (9 - g)) H)) {j : Nat} (h : cP t J S E T tn b stf tl c j H) (hj : j ≤ J) : cOut t J S E T tn b stf tl c N (2 * f) (pSi t J S E T tn f j) j H (B_X7_one N cany cone (some tl) (nI (9 - f)) H) := by
  have z := C_nots (cone := cone) hT hn h6 hN hf hany f 0 N j H (Nat.add_zero f) (by omega) (cR.rf h hj)
  rw [pNg_0] at z
  unfold B_X7_one
  exact z
end
