/-! PURE: the class's claims: what they come to. -/
variable {stf : Nat → Nat} {N K b m : Nat} {β : sB} {δ : sD} {H : xH}
/-- what is claimed, of the digits -/
abbrev sem : Type := (Nat → Nat) → Prop
def lBy (t day : Nat) : sem := fun d => d t ≠ 0 ∧ d t ≤ day + 1
def lBf (t u : Nat) : sem := fun d => d t ≠ 0 ∧ (d u = 0 ∨ d t < d u)
def lLe (k day : Nat) : sem := fun d => k ≤ cnt (fun t => d t ≠ 0 ∧ d t ≤ day + 1) 5
def nodeN (H : xH) (a : Nat) (nx : Option Nat) : Prop := ∃ k w y p : Value, H.1 a = some (ob 1 [k, w, y, p, va_rf nx])
def same4 (H H' : xH) (a : Nat) : Prop := ∃ (k w y p : Value) (nx nx' : Option Nat), H.1 a = some (ob 1 [k, w, y, p, va_rf nx]) ∧ H'.1 a = some (ob 1 [k, w, y, p, va_rf nx'])
theorem va_rf_inj {a c : Option Nat} (h : va_rf a = va_rf c) : a = c := by
  cases a <;> cases c <;> simp_all [va_rf]
theorem same4.tr {H1 H2 H3 : xH} {a : Nat} (h : same4 H1 H2 a) (k : same4 H2 H3 a) : same4 H1 H3 a := by
  obtain ⟨k1, w1, y1, p1, n1, n2, a1, a2⟩ := h
  obtain ⟨k2, w2, y2, p2, n3, n4, b1, b2⟩ := k
  have := a2.symm.trans b1
  simp only [Option.some.injEq, Prod.mk.injEq, Sum.inr.injEq, List.cons.injEq, true_and, and_true] at this
  obtain ⟨rfl, rfl, rfl, rfl, -⟩ := this
  exact ⟨k1, w1, y1, p1, n1, n4, a1, b2⟩
theorem same4.of {H H' : xH} {a : Nat} {nx : Option Nat} (h : nodeN H a nx) (k : H'.1 a = H.1 a) : same4 H H' a := by
  obtain ⟨k1, w1, y1, p1, a1⟩ := h
  exact ⟨k1, w1, y1, p1, nx, nx, a1, k.trans a1⟩
theorem nodeN.of {H H' : xH} {a : Nat} {nx : Option Nat} (h : nodeN H a nx) (k : H'.1 a = H.1 a) : nodeN H' a nx := by
  obtain ⟨k1, w1, y1, p1, a1⟩ := h
  exact ⟨k1, w1, y1, p1, k.trans a1⟩
def CT (N D : Nat) (H : xH) (lo a : Nat) (σ : sem) : Prop := ∀ H' : xH, (∀ q, lo ≤ q → q < a → H'.1 q = H.1 q) → same4 H H' a → ∀ (dg : Nat) (gd : Nat → Int32) (d : Nat → Nat) (dp f : Nat), H'.1 dg = some (aI 5 gd) → (∀ t, t < 5 → gd t = nI (d t) ∧ d t < 9) → dp + D ≤ 40 → D < f → R_X1_isTrue N f (some a) (some dg) (nI dp) H' = some (bI (σ d), H')
theorem CT.mono {D D' lo lo' a : Nat} {σ : sem} (h : CT N D H lo a σ) (hD : D ≤ D') (hl : lo' ≤ lo) : CT N D' H lo' a σ := fun H' h1 h2 dg gd d dp f h3 h4 h5 h6 => h H' (fun q q1 q2 => h1 q (by omega) q2) h2 dg gd d dp f h3 h4 (by omega) (by omega)
theorem CT.fr {D lo a : Nat} {σ : sem} {H1 : xH} (h : CT N D H lo a σ) (h1 : ∀ q, lo ≤ q → q < a → H1.1 q = H.1 q) (h2 : same4 H H1 a) : CT N D H1 lo a σ := fun H' k1 k2 dg gd d dp f h3 h4 h5 h6 => h H' (fun q q1 q2 => (k1 q q1 q2).trans (h1 q q1 q2)) (h2.tr k2) dg gd d dp f h3 h4 h5 h6
theorem S_cBy {x y : Nat} (hx : x < 9) (hy : y < 9) : F_X1_comesBy N (nI x) (nI y) H = some (bI (x ≠ 0 ∧ x ≤ y + 1), H) := by
  unfold F_X1_comesBy
  by_cases e : x = 0
  · rw [if_pos (by rw [e]; rfl), bI_f (fun z => z.1 e)]
  · rw [if_neg (nI_ne0 (by omega) (by omega)), nI_1]
    by_cases e2 : x ≤ y + 1
    · rw [if_neg (nI_nlt e2 (by omega)), bI_t ⟨e, e2⟩]
    · rw [if_pos (nI_lt (by omega) (by omega)), bI_f (fun z => e2 z.2)]
theorem S_cBf {x y : Nat} (hx : x < 9) (hy : y < 9) : F_X1_comesBefore N (nI x) (nI y) H = some (bI (x ≠ 0 ∧ (y = 0 ∨ x < y)), H) := by
  unfold F_X1_comesBefore
  by_cases e : x = 0
  · rw [if_pos (by rw [e]; rfl), bI_f (fun z => z.1 e)]
  · rw [if_neg (nI_ne0 (by omega) (by omega))]
    by_cases e1 : y = 0
    · rw [if_pos (by rw [e1]; rfl), bI_t ⟨e, Or.inl e1⟩]
    · rw [if_neg (nI_ne0 (by omega) (by omega))]
      by_cases e2 : x < y
      · rw [if_neg (nI_ge e2 (by omega)), bI_t ⟨e, Or.inr e2⟩]
      · rw [if_pos (nI_le (by omega) (by omega)), bI_f (fun z => z.2.elim e1 e2)]
theorem S_cCo (hN : 5 < N) {dg y : Nat} {gd : Nat → Int32} {d : Nat → Nat} (hd : H.1 dg = some (aI 5 gd)) (hg : ∀ t, t < 5 → gd t = nI (d t) ∧ d t < 9) (hy : y < 9) : F_X1_countBy N (some dg) (nI y) H = some (nI (cnt (fun t => d t ≠ 0 ∧ d t ≤ y + 1) 5), H) := by
  have loop : ∀ m i, i ≤ 5 → 5 - i < m → F_X1_countBy_L11 N m (nI y) (nI (cnt (fun t => d t ≠ 0 ∧ d t ≤ y + 1) i)) (some dg) (nI 5) (nI i) H = some (nI (cnt (fun t => d t ≠ 0 ∧ d t ≤ y + 1) 5), H) := by
    refine upto (P := fun m i => F_X1_countBy_L11 N m (nI y) (nI (cnt (fun t => d t ≠ 0 ∧ d t ≤ y + 1) i)) (some dg) (nI 5) (nI i) H = some (nI (cnt (fun t => d t ≠ 0 ∧ d t ≤ y + 1) 5), H)) ?_ ?_
    · intro m
      rw [show F_X1_countBy_L11 N (m + 1) = F_X1_countBy_J11 N (F_X1_countBy_L11 N m) from rfl]
      simp only [F_X1_countBy_J11, Int32.le_refl, if_true]
    · intro m i hi ih
      rw [show F_X1_countBy_L11 N (m + 1) = F_X1_countBy_J11 N (F_X1_countBy_L11 N m) from rfl]
      simp only [F_X1_countBy_J11, F_X1_countBy_J36, nI_ge hi (show 5 < 2 ^ 31 by decide), if_false, rdI hd hi (by decide), (hg i hi).1, S_cBy (hg i hi).2 hy, nI_1, Option.bind_some, bd2_s]
      by_cases e : d i ≠ 0 ∧ d i ≤ y + 1
      · rw [bI_t e, if_neg (by decide), ← ih, cnt_t e]
      · rw [bI_f e, if_pos rfl, ← ih, cnt_f e]
  unfold F_X1_countBy
  simp only [leI hd, Option.bind_some, bd2_s]
  exact loop N 0 (by omega) (by omega)
theorem R_isTrue_s {f : Nat} : R_X1_isTrue N (f + 1) = B_X1_isTrue N (R_X1_isTrue N f) := rfl
theorem bI_01s {p : Prop} : (bI p = 0 ∨ bI p = 1) = True := eq_true (bI_01' p)
/-- a claim of things -/
theorem CT.leaf (hN : 5 < N) {lo a kd w y : Nat} {p : Value} {nx : Option Nat} (h : H.1 a = some (ob 1 [.int (nI kd), .int (nI w), .int (nI y), p, va_rf nx])) {σ : sem} (hσ : (kd = 0 ∧ w < 5 ∧ y < 9 ∧ σ = lBy w y) ∨ (kd = 1 ∧ w < 5 ∧ y < 5 ∧ σ = lBf w y) ∨ (kd = 2 ∧ w < 100 ∧ y < 9 ∧ σ = lLe w y)) : CT N 0 H lo a σ := by
  intro H' h1 h2 dg gd d dp f h3 h4 h5 h6
  obtain ⟨k1, w1, y1, p1, n1, n2, a1, a2⟩ := h2
  have := a1.symm.trans h
  simp only [Option.some.injEq, Prod.mk.injEq, Sum.inr.injEq, List.cons.injEq, true_and, and_true] at this
  obtain ⟨rfl, rfl, rfl, rfl, -⟩ := this
  obtain ⟨f, rfl⟩ : ∃ g, f = g + 1 := ⟨f - 1, by omega⟩
  have ea : ∀ t, t < 5 → F_X11_at N (some dg) (nI t) H' = some (nI (d t), H') := fun t ht => by
    rw [S_at h3 (by decide), gat_nI (by omega), if_pos ht, (h4 t ht).1]
  rw [R_isTrue_s]
  unfold B_X1_isTrue
  simp only [reduceCtorEq, if_false, show nI dp ≤ (40 : Int32) from nI_le (b := 40) (by omega) (by decide), if_true, gI a2 (j := 0) rfl, gI a2 (j := 1) rfl, gI a2 (j := 2) rfl, Option.bind_some, bd2_s]
  rcases hσ with ⟨rfl, q1, q2, rfl⟩ | ⟨rfl, q1, q2, rfl⟩ | ⟨rfl, q1, q2, rfl⟩
  · simp only [show nI 0 = (0 : Int32) from rfl, if_true, gI a2 (j := 1) rfl, gI a2 (j := 2) rfl, ea w q1, S_cBy (h4 w q1).2 q2, bI_01s, Option.bind_some, bd2_s]
    rfl
  · simp only [show nI 1 = (1 : Int32) from rfl, show ¬ (1 : Int32) = 0 by decide, if_false, if_true, gI a2 (j := 1) rfl, gI a2 (j := 2) rfl, ea w q1, ea y q2, S_cBf (h4 w q1).2 (h4 y q2).2, bI_01s, Option.bind_some, bd2_s]
    rfl
  · simp only [show nI 2 = (2 : Int32) from rfl, show ¬ (2 : Int32) = 0 by decide, show ¬ (2 : Int32) = 1 by decide, if_false, if_true, gI a2 (j := 1) rfl, gI a2 (j := 2) rfl, S_cCo hN h3 h4 q2, Option.bind_some, bd2_s]
    have hc := cnt_le (fun t => d t ≠ 0 ∧ d t ≤ y + 1) 5
    by_cases e : w ≤ cnt (fun t => d t ≠ 0 ∧ d t ≤ y + 1) 5
    · rw [if_neg (nI_nlt e (by omega)), bI_t (show lLe w y d from e)]
    · rw [if_pos (nI_lt (by omega) (by omega)), bI_f (show ¬ lLe w y d from e)]
theorem CT.not {D lo a q : Nat} {w y : Value} {nx nq : Option Nat} {σ : sem} (h : H.1 a = some (ob 1 [.int (nI 3), w, y, va_rf (some q), va_rf nx])) (h1 : lo ≤ q) (h2 : q < a) (hn : nodeN H q nq) (hq : CT N D H lo q σ) : CT N (D + 1) H lo a (fun d => ¬ σ d) := by
  intro H' k1 k2 dg gd d dp f h3 h4 h5 h6
  obtain ⟨kk1, w1, y1, p1, n1, n2, a1, a2⟩ := k2
  have := a1.symm.trans h
  simp only [Option.some.injEq, Prod.mk.injEq, Sum.inr.injEq, List.cons.injEq, true_and, and_true] at this
  obtain ⟨rfl, rfl, rfl, rfl, -⟩ := this
  obtain ⟨f, rfl⟩ : ∃ g, f = g + 1 := ⟨f - 1, by omega⟩
  have e := hq H' (fun z z1 z2 => k1 z z1 (by omega)) (same4.of hn (k1 q h1 h2)) dg gd d (dp + 1) f h3 h4 (by omega) (by omega)
  rw [R_isTrue_s]
  unfold B_X1_isTrue
  simp only [reduceCtorEq, if_false, show nI dp ≤ (40 : Int32) from nI_le (b := 40) (by omega) (by decide), if_true, gI a2 (j := 0) rfl, show nI 3 = (3 : Int32) from rfl, show ¬ (3 : Int32) = 0 by decide, show ¬ (3 : Int32) = 1 by decide, show ¬ (3 : Int32) = 2 by decide, gA a2 (j := 3) rfl, nI_1, e, Option.bind_some, bd2_s]
  by_cases hs : σ d
  · rw [bI_t hs, if_neg (by decide), bI_f (fun z => z hs)]
  · rw [bI_f hs, if_pos rfl, bI_t hs]
/-- a chain of parts -/
def ch (N : Nat) (H : xH) (lo D k : Nat) (ad : Nat → Nat) (σ : Nat → sem) : Prop := (∀ i, i ≤ k → lo ≤ ad i ∧ CT N D H lo (ad i) (σ i)) ∧ (∀ i, i < k → ad i < ad (i + 1) ∧ nodeN H (ad i) (some (ad (i + 1)))) ∧ nodeN H (ad k) none
theorem ch.node {lo D k : Nat} {ad : Nat → Nat} {σ : Nat → sem} (h : ch N H lo D k ad σ) {i : Nat} (hi : i ≤ k) : nodeN H (ad i) (if i < k then some (ad (i + 1)) else none) := by
  by_cases e : i < k
  · rw [if_pos e]; exact (h.2.1 i e).2
  · rw [if_neg e, show i = k by omega]; exact h.2.2
theorem ch.le {lo D k : Nat} {ad : Nat → Nat} {σ : Nat → sem} (h : ch N H lo D k ad σ) : ∀ {i : Nat}, i ≤ k → ad i + (k - i) ≤ ad k := by
  intro i hi
  have : ∀ d, d ≤ k → ad (k - d) + d ≤ ad k := by
    intro d
    induction d with
    | zero => intro _; simp
    | succ d ih =>
      intro hd
      have a := ih (by omega)
      have c := (h.2.1 (k - (d + 1)) (by omega)).1
      rw [show k - (d + 1) + 1 = k - d by omega] at c
      omega
  have := this (k - i) (by omega)
  rwa [show k - (k - i) = i by omega] at this
theorem CT.over {D lo a k : Nat} {w y : Value} {nx : Option Nat} {ad : Nat → Nat} {σ : Nat → sem} {kd : Nat} (hN : k + 1 < N) (h : H.1 a = some (ob 1 [.int (nI kd), w, y, va_rf (some (ad 0)), va_rf nx])) (hc : ch N H lo D k ad σ) (ha : ad k < a) (hkd : kd = 4 ∨ kd = 5) : CT N (D + 1) H lo a (fun d => if kd = 4 then ∀ i, i ≤ k → σ i d else ∃ i, i ≤ k ∧ σ i d) := by
  intro H' k1 k2 dg gd d dp f h3 h4 h5 h6
  obtain ⟨kk1, w1, y1, p1, n1, n2, a1, a2⟩ := k2
  have := a1.symm.trans h
  simp only [Option.some.injEq, Prod.mk.injEq, Sum.inr.injEq, List.cons.injEq, true_and, and_true] at this
  obtain ⟨rfl, rfl, rfl, rfl, -⟩ := this
  obtain ⟨f, rfl⟩ : ∃ g, f = g + 1 := ⟨f - 1, by omega⟩
  have ag : ∀ i, i ≤ k → H'.1 (ad i) = H.1 (ad i) := fun i hi => k1 _ (hc.1 i hi).1 (by have := hc.le hi; omega)
  have e : ∀ i, i ≤ k → R_X1_isTrue N f (some (ad i)) (some dg) (nI (dp + 1)) H' = some (bI (σ i d), H') := fun i hi => (hc.1 i hi).2 H' (fun z z1 z2 => k1 z z1 (by have := hc.le hi; omega)) (same4.of (hc.node hi) (ag i hi)) dg gd d (dp + 1) f h3 h4 (by omega) (by omega)
  have loop : ∀ (x : Int32) (P : Prop), x = bI P → ∀ m i, i ≤ k → k - i < m → F_X1_isTrue_L145 N (R_X1_isTrue N f) (F_X1_isTrue_J175 N (R_X1_isTrue N f)) (m + 1) (some dg) (nI dp) x (some (ad i)) H' = some (@ite _ (∃ z, i ≤ z ∧ z ≤ k ∧ (σ z d ↔ P)) (Classical.propDecidable _) (bI P) (bI ¬ P), H') := by
    intro x P hx
    have st : ∀ m i, i ≤ k → F_X1_isTrue_L145 N (R_X1_isTrue N f) (F_X1_isTrue_J175 N (R_X1_isTrue N f)) (m + 1) (some dg) (nI dp) x (some (ad i)) H' = if bI (σ i d) = bI P then some (bI P, H') else F_X1_isTrue_L145 N (R_X1_isTrue N f) (F_X1_isTrue_J175 N (R_X1_isTrue N f)) m (some dg) (nI dp) x (if i < k then some (ad (i + 1)) else none) H' := by
      intro m i hi
      obtain ⟨z1, z2, z3, z4, z5⟩ := (hc.node hi).of (ag i hi)
      rw [show F_X1_isTrue_L145 N (R_X1_isTrue N f) (F_X1_isTrue_J175 N (R_X1_isTrue N f)) (m + 1) = F_X1_isTrue_J145 N (R_X1_isTrue N f) (F_X1_isTrue_L145 N (R_X1_isTrue N f) (F_X1_isTrue_J175 N (R_X1_isTrue N f)) m) (F_X1_isTrue_J175 N (R_X1_isTrue N f)) from rfl]
      simp only [F_X1_isTrue_J145, reduceCtorEq, if_false, nI_1, e i hi, hx, bI_01s, if_true, gA z5 (j := 4) rfl, Option.bind_some, bd2_s]
    have dec : ∀ i, (bI (σ i d) = bI P) ↔ (σ i d ↔ P) := by
      intro i
      refine ⟨fun z => ?_, fun z => bI_c z⟩
      by_cases p1 : σ i d <;> by_cases p2 : P
      · exact ⟨fun _ => p2, fun _ => p1⟩
      · rw [bI_t p1, bI_f p2] at z; exact absurd z (by decide)
      · rw [bI_f p1, bI_t p2] at z; exact absurd z (by decide)
      · exact ⟨fun q => absurd q p1, fun q => absurd q p2⟩
    intro m
    induction m with
    | zero => intro i _ h; omega
    | succ m ih =>
      intro i hi hm
      rw [st _ i hi]
      by_cases p1 : σ i d ↔ P
      · rw [if_pos ((dec i).mpr p1), if_pos ⟨i, Nat.le_refl _, hi, p1⟩]
      · rw [if_neg (fun z => p1 ((dec i).mp z))]
        by_cases hik : i < k
        · rw [if_pos hik, ih (i + 1) hik (by omega)]
          congr 2
          by_cases p2 : ∃ z, i + 1 ≤ z ∧ z ≤ k ∧ (σ z d ↔ P)
          · obtain ⟨z, b1, b2, b3⟩ := p2
            rw [if_pos ⟨z, b1, b2, b3⟩, if_pos ⟨z, by omega, b2, b3⟩]
          · rw [if_neg p2, if_neg]
            rintro ⟨z, b1, b2, b3⟩
            by_cases ez : z = i
            · rw [ez] at b3; exact p1 b3
            · exact p2 ⟨z, by omega, b2, b3⟩
        · rw [if_neg hik]
          rw [show F_X1_isTrue_L145 N (R_X1_isTrue N f) (F_X1_isTrue_J175 N (R_X1_isTrue N f)) (m + 1) = F_X1_isTrue_J145 N (R_X1_isTrue N f) (F_X1_isTrue_L145 N (R_X1_isTrue N f) (F_X1_isTrue_J175 N (R_X1_isTrue N f)) m) (F_X1_isTrue_J175 N (R_X1_isTrue N f)) from rfl]
          rw [if_neg (fun ⟨z, b1, b2, b3⟩ => p1 (by rw [show i = z by omega]; exact b3))]
          simp only [F_X1_isTrue_J145, F_X1_isTrue_J175, if_true, hx]
          by_cases p2 : P
          · rw [bI_t p2, if_neg (by decide), bI_f (fun z => z p2)]
          · rw [bI_f p2, if_pos rfl, bI_t p2]
  obtain ⟨M, rfl⟩ : ∃ M, N = M + 1 := ⟨N - 1, by omega⟩
  rw [R_isTrue_s]
  unfold B_X1_isTrue
  simp only [reduceCtorEq, if_false, show nI dp ≤ (40 : Int32) from nI_le (b := 40) (by omega) (by decide), if_true, gI a2 (j := 0) rfl, F_X1_isTrue_J138, gA a2 (j := 3) rfl, Option.bind_some, bd2_s]
  rcases hkd with rfl | rfl
  · have l0 := loop 0 False (by rw [bI_f id]) M 0 (Nat.zero_le _) (by omega)
    simp only [show nI 4 = (4 : Int32) from rfl, show ¬ (4 : Int32) = 0 by decide, show ¬ (4 : Int32) = 1 by decide, show ¬ (4 : Int32) = 2 by decide, show ¬ (4 : Int32) = 3 by decide, show ¬ (4 : Int32) = 5 by decide, if_false, gI a2 (j := 0) rfl, gA a2 (j := 3) rfl, l0, if_true, Option.bind_some]
    congr 2
    by_cases p2 : ∃ z, 0 ≤ z ∧ z ≤ k ∧ (σ z d ↔ False)
    · rw [if_pos p2]
      obtain ⟨z, b1, b2, b3⟩ := p2
      rw [bI_f id, bI_f (fun q => b3.mp (q z b2))]
    · rw [if_neg p2, bI_t id, bI_t]
      intro i hi
      exact Classical.byContradiction (fun q => p2 ⟨i, Nat.zero_le _, hi, ⟨q, False.elim⟩⟩)
  · have l0 := loop 1 True (by rw [bI_t trivial]) M 0 (Nat.zero_le _) (by omega)
    simp only [show nI 5 = (5 : Int32) from rfl, show ¬ (5 : Int32) = 0 by decide, show ¬ (5 : Int32) = 1 by decide, show ¬ (5 : Int32) = 2 by decide, show ¬ (5 : Int32) = 3 by decide, if_false, if_true, gI a2 (j := 0) rfl, gA a2 (j := 3) rfl, l0, show ¬ (5 : Nat) = 4 by decide, Option.bind_some]
    congr 2
    by_cases p2 : ∃ z, 0 ≤ z ∧ z ≤ k ∧ (σ z d ↔ True)
    · rw [if_pos p2]
      obtain ⟨z, b1, b2, b3⟩ := p2
      rw [bI_t trivial, bI_t ⟨z, b2, b3.mpr trivial⟩]
    · rw [if_neg p2, bI_f (fun z => z trivial), bI_f]
      rintro ⟨i, hi, q⟩
      exact p2 ⟨i, Nat.zero_le _, hi, ⟨fun _ => trivial, fun _ => q⟩⟩
