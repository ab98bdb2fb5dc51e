/-! PURE: what a claim's text says; the class's state as it reads one. -/
variable {stf : Nat → Nat} {N K b m : Nat} {β : sB} {δ : sD} {H : xH}
variable {t S E : Nat → Nat} {n J : Nat}
noncomputable def cif {α : Type} (p : Prop) (x y : α) : α := @ite _ p (Classical.propDecidable p) x y
theorem cif_t {α : Type} {p : Prop} {x y : α} (h : p) : cif p x y = x := by unfold cif; rw [if_pos h]
theorem cif_f {α : Type} {p : Prop} {x y : α} (h : ¬ p) : cif p x y = y := by unfold cif; rw [if_neg h]
/-- the number of a name -/
noncomputable def fnd (T : Nat) (nm : Nat → List Nat) (W : List Nat) : Option Nat := @dite _ (∃ i, i < T ∧ nm i = W) (Classical.propDecidable _) (fun h => some (Classical.choose h)) (fun _ => none)
theorem fnd_c (T : Nat) (nm : Nat → List Nat) (W : List Nat) : (∃ i, fnd T nm W = some i ∧ i < T ∧ nm i = W) ∨ (fnd T nm W = none ∧ ∀ i, i < T → nm i ≠ W) := by
  unfold fnd
  by_cases h : ∃ i, i < T ∧ nm i = W
  · rw [dif_pos h]; exact Or.inl ⟨_, rfl, Classical.choose_spec h⟩
  · rw [dif_neg h]; exact Or.inr ⟨rfl, fun i hi hq => h ⟨i, hi, hq⟩⟩
/-- what is said, if it's right; where the next token is, or the one at fault -/
abbrev pr : Type := Option sem × Nat
def pbd (p : pr) (f : sem → Nat → pr) : pr := match p.1 with
  | none => (none, p.2)
  | some σ => f σ p.2
theorem pbd_n {p : pr} {f : sem → Nat → pr} (h : p.1 = none) : pbd p f = (none, p.2) := by unfold pbd; rw [h]
theorem pbd_s {p : pr} {f : sem → Nat → pr} {σ : sem} (h : p.1 = some σ) : pbd p f = f σ p.2 := by unfold pbd; rw [h]
def obd {α : Type} (x : Option Nat) (d : α) (f : Nat → α) : α := match x with
  | none => d
  | some i => f i
theorem obd_n {α : Type} {x : Option Nat} {d : α} {f : Nat → α} (h : x = none) : obd x d f = d := by rw [h]; rfl
theorem obd_s {α : Type} {x : Option Nat} {d : α} {f : Nat → α} {i : Nat} (h : x = some i) : obd x d f = f i := by rw [h]; rfl
noncomputable def pLe (t : Nat → Nat) (J : Nat) (S E : Nat → Nat) (j : Nat) : pr := cif (isN t J S E j 0 9) (cif (wd t J S E (j + 1) = kw 16) (cif (isN t J S E (j + 2) 0 7) (some (lLe (nv t S E j) (nv t S E (j + 2))), j + 3) (none, j + 2)) (none, j + 1)) (none, j)
noncomputable def pTh (t : Nat → Nat) (J : Nat) (S E : Nat → Nat) (T : Nat) (tn : Nat → List Nat) (j : Nat) : pr := obd (fnd T tn (wd t J S E j)) (none, j) (fun i =>
  cif (wd t J S E (j + 1) = kw 15) (some (lBy i 7), j + 2) (cif (wd t J S E (j + 1) = kw 16) (cif (isN t J S E (j + 2) 0 7) (some (lBy i (nv t S E (j + 2))), j + 3) (none, j + 2))
    (cif (wd t J S E (j + 1) = kw 17) (obd (fnd T tn (wd t J S E (j + 2))) (none, j + 2) (fun u => cif (u = i) (none, j + 2) (some (lBf i u), j + 3))) (none, j + 1))))
noncomputable def pLf (t : Nat → Nat) (J : Nat) (S E : Nat → Nat) (T : Nat) (tn : Nat → List Nat) (j : Nat) : pr := cif (wd t J S E j = kw 18) (pLe t J S E (j + 1)) (pTh t J S E T tn j)
noncomputable def pLp (t : Nat → Nat) (J : Nat) (S E : Nat → Nat) (k : Nat) (op : sem → sem → sem) (one : Nat → pr) : Nat → sem → Nat → pr
  | 0, _, j => (none, j)
  | f + 1, σ, j => cif (wd t J S E j = kw k) (pbd (one (j + 1)) (fun τ j' => pLp t J S E k op one f (op σ τ) j')) (some σ, j)
def oAnd (σ τ : sem) : sem := fun d => σ d ∧ τ d
def oOr (σ τ : sem) : sem := fun d => σ d ∨ τ d
noncomputable def pAl (t : Nat → Nat) (J : Nat) (S E : Nat → Nat) (one : Nat → pr) (j : Nat) : pr := pbd (one j) (fun σ j' => pLp t J S E 13 oAnd one (J + 1) σ j')
noncomputable def pAn (t : Nat → Nat) (J : Nat) (S E : Nat → Nat) (one : Nat → pr) (j : Nat) : pr := pbd (pAl t J S E one j) (fun σ j' => pLp t J S E 12 oOr (pAl t J S E one) (J + 1) σ j')
noncomputable def pSi (t : Nat → Nat) (J : Nat) (S E : Nat → Nat) (T : Nat) (tn : Nat → List Nat) : Nat → Nat → pr
  | 0, j => cif (wd t J S E j = kw 14 ∨ sg t J S j = 40) (none, j) (pLf t J S E T tn j)
  | f + 1, j => cif (wd t J S E j = kw 14) (pbd (pSi t J S E T tn f (j + 1)) (fun σ j' => (some (fun d => ¬ σ d), j'))) (cif (sg t J S j = 40) (pbd (pAn t J S E (pSi t J S E T tn f) (j + 1)) (fun σ j' => cif (sg t J S j' = 41) (some σ, j' + 1) (none, j'))) (pLf t J S E T tn j))
/-- new cells -/
theorem xnw_at {e : xE} {k : Nat} : (xnw H e k).1 H.2.1 = some e := by simp [xnw]
theorem xnw_ne {e : xE} {k a : Nat} (h : a ≠ H.2.1) : (xnw H e k).1 a = H.1 a := by simp [xnw, h]
theorem xnw_up {e f : xE} {k : Nat} : xup (xnw H e k) H.2.1 f = xnw H f k := by
  unfold xup xnw
  simp only [Prod.mk.injEq, and_true]
  funext q
  by_cases hq : q = H.2.1 <;> simp [hq]
theorem hW.nw {e : xE} {k : Nat} (h : hW H) : hW (xnw H e k) := fun a f ha => by
  by_cases q : a = H.2.1
  · rw [q]; show H.2.1 < H.2.1 + 1; omega
  · rw [xnw_ne q] at ha
    have := h a f ha
    show a < H.2.1 + 1; omega
theorem pN {k ci j : Nat} {fs : List Value} {v : Value} (hj : j < fs.length) : xpV (xnw H (ob ci fs) k) (some H.2.1) ci j v = some (xnw H (ob ci (fs.set j v)) k) := by rw [pV xnw_at hj, xnw_up]
theorem S_init1 {k : Nat} {kd w y : Int32} {p : Option Nat} : F_X1_init N (some H.2.1) kd w y p (xnw H (ob 1 xdf_1) k) = some (xnw H (ob 1 [.int kd, .int w, .int y, va_rf p, va_rf none]) k) := by
  unfold F_X1_init xpI xpA
  rw [Option.bind_some, pN (by simp [xdf_1]), Option.bind_some, pN (by simp [xdf_1]), Option.bind_some, pN (by simp [xdf_1]), Option.bind_some, pN (by simp [xdf_1]), Option.bind_some]
  rfl
theorem S_of {kd w y : Int32} : F_X1_of N kd w y H = some (some H.2.1, xnw H (ob 1 [.int kd, .int w, .int y, va_rf none, va_rf none]) 5) := by
  unfold F_X1_of x_lt xno
  simp only [S_init1, Option.bind_some]
theorem S_over {kd : Int32} {p : Nat} : F_X1_over N kd (some p) H = some (some H.2.1, xnw H (ob 1 [.int kd, .int 0, .int 0, va_rf (some p), va_rf none]) 5) := by
  unfold F_X1_over x_lt xno
  simp only [S_init1, Option.bind_some]
/-- the things told, in the class -/
def cTh (c T : Nat) (tn : Nat → List Nat) (H : xH) : Prop := (∃ fs, H.1 c = some (ob 2 fs) ∧ fs[0]? = some (.int (nI T)) ∧ fs[5]? = some (va_rf (some (c + 1)))) ∧ T ≤ 5 ∧ nmW T tn ∧ ∃ g, H.1 (c + 1) = some (aJ 5 g) ∧ ∀ i, i < T → g i = lN (w5 (tn i))
/-- the class reads: it's at token j -/
def cP (t : Nat → Nat) (J : Nat) (S E : Nat → Nat) (T : Nat) (tn : Nat → List Nat) (b : Nat) (stf : Nat → Nat) (tl c j : Nat) (H : xH) : Prop := cTk t J S E b (nI j) H ∧ xWd b stf H ∧ H.1 tl = some (ob 7 [va_rf (some (b + 2)), va_rf (some c)]) ∧ cTh c T tn H ∧ hW H
/-- from token j to token j': what it has done, what room it took (k to spare) -/
def cR (t : Nat → Nat) (J : Nat) (S E : Nat → Nat) (T : Nat) (tn : Nat → List Nat) (b : Nat) (stf : Nat → Nat) (tl c k j j' : Nat) (H H' : xH) : Prop := cP t J S E T tn b stf tl c j' H' ∧ (H.2.1 ≤ H'.2.1 ∧ ∀ q, q < H.2.1 → q ≠ b + 2 → H'.1 q = H.1 q) ∧ (b + 6 ≤ H.2.1 ∧ tl < H.2.1 ∧ c + 1 < H.2.1) ∧ j ≤ j' ∧ j' ≤ J ∧ H'.2.1 + S j + k ≤ H.2.1 + S j' ∧ H'.2.2.1 + 5 * (S j + k) ≤ H.2.2.1 + 5 * S j'
variable {T tl c : Nat} {tn : Nat → List Nat}
theorem cP.big {j : Nat} (h : cP t J S E T tn b stf tl c j H) : b + 6 ≤ H.2.1 ∧ tl < H.2.1 ∧ c + 1 < H.2.1 := by
  obtain ⟨⟨gk, gs, gv, ⟨h1, h2, h3, h4⟩, -⟩, -, h5, ⟨-, -, -, g, h6, -⟩, hw⟩ := h
  have a1 := hw _ _ h4
  exact ⟨by omega, hw _ _ h5, hw _ _ h6⟩
theorem cP.ne {j : Nat} (h : cP t J S E T tn b stf tl c j H) : tl ≠ b + 2 ∧ c ≠ b + 2 ∧ c + 1 ≠ b + 2 := by
  obtain ⟨⟨gk, gs, gv, ⟨h1, h2, h3, h4⟩, -⟩, -, h5, ⟨⟨fs, h7, -⟩, -, -, g, h6, -⟩, hw⟩ := h
  exact ⟨neA h5 h1 (fun e => by cases e), neA h7 h1 (fun e => by cases e), neA h6 h1 (fun e => by cases e)⟩
/-- all but the tokens' object is as it was -/
theorem cP.fr {j j' : Nat} {H' : xH} (h : cP t J S E T tn b stf tl c j H) (k : cTk t J S E b (nI j') H') (hw : hW H') (h0 : H'.2.2.2 = H.2.2.2) (hf : ∀ q, q < H.2.1 → q ≠ b + 2 → H'.1 q = H.1 q) : cP t J S E T tn b stf tl c j' H' := by
  obtain ⟨b1, b2, b3⟩ := h.big
  obtain ⟨n1, n2, n3⟩ := h.ne
  obtain ⟨-, h2, h3, ⟨h4, h5, h6, h7⟩, -⟩ := h
  refine ⟨k, h2.fr h0 (fun a ha => hf a (by omega) (by omega)), (hf tl b2 n1).trans h3, ⟨?_, h5, h6, ?_⟩, hw⟩
  · rw [hf c (by omega) n2]; exact h4
  · rw [hf (c + 1) b3 n3]; exact h7
theorem cP.tk {j i : Nat} (h : cP t J S E T tn b stf tl c j H) : cP t J S E T tn b stf tl c i (tkH b i H) := by
  have hk := tkH_c (i := i) h.1
  obtain ⟨⟨gk, gs, gv, h0, -⟩, -, -, -, hw⟩ := id h
  exact h.fr hk (hw.up h0.1) rfl (fun q _ hq => xup_ne _ hq)
theorem cR.rf {j : Nat} (h : cP t J S E T tn b stf tl c j H) (hj : j ≤ J) : cR t J S E T tn b stf tl c 0 j j H H := ⟨h, ⟨Nat.le_refl _, fun _ _ _ => rfl⟩, h.big, Nat.le_refl _, hj, by omega, by omega⟩
theorem cR.tr {k k' j j1 j2 : Nat} {H1 H2 : xH} (h : cR t J S E T tn b stf tl c k j j1 H H1) (h2 : cR t J S E T tn b stf tl c k' j1 j2 H1 H2) : cR t J S E T tn b stf tl c (k + k') j j2 H H2 := by
  obtain ⟨-, ⟨a1, a2⟩, a3, a4, a5, a6, a7⟩ := h
  obtain ⟨c0, ⟨c1, c2⟩, c3, c4, c5, c6, c7⟩ := h2
  exact ⟨c0, ⟨by omega, fun q q1 q2 => (c2 q (by omega) q2).trans (a2 q q1 q2)⟩, a3, by omega, c5, by omega, by omega⟩
theorem cR.le {k k' j j1 : Nat} {H1 : xH} (h : cR t J S E T tn b stf tl c k j j1 H H1) (hk : k' ≤ k) : cR t J S E T tn b stf tl c k' j j1 H H1 := by
  obtain ⟨c0, a1, a3, a4, a5, a6, a7⟩ := h
  exact ⟨c0, a1, a3, a4, a5, by omega, by omega⟩
/-- a token is taken -/
theorem cR.tk (hT : tkS t n J S E) {j : Nat} (h : cP t J S E T tn b stf tl c j H) (hj : j < J) : cR t J S E T tn b stf tl c 1 j (j + 1) H (tkH b (j + 1) H) := by
  have h1 := hT.2.1 j hj
  exact ⟨h.tk, ⟨Nat.le_refl _, fun q _ hq => xup_ne _ hq⟩, h.big, by omega, by omega, by show H.2.1 + S j + 1 ≤ _; omega, by show H.2.2.1 + 5 * (S j + 1) ≤ _; omega⟩
theorem cR.tk' (hT : tkS t n J S E) {k j j1 : Nat} {H1 : xH} (h : cR t J S E T tn b stf tl c k j j1 H H1) (hj : j1 < J) : cR t J S E T tn b stf tl c (k + 1) j (j1 + 1) H (tkH b (j1 + 1) H1) := h.tr (cR.tk hT h.1 hj)
/-- something is done beyond what was there -/
theorem cR.go {k k' j j1 : Nat} {H1 H2 : xH} (h : cR t J S E T tn b stf tl c k j j1 H H1) (h0 : H2.2.2.2 = H1.2.2.2) (hf : ∀ q, q < H.2.1 → H2.1 q = H1.1 q) (hw : hW H2) (h4 : H.2.1 ≤ H2.2.1) (h5 : H2.2.1 + k' ≤ H1.2.1 + k) (h6 : H2.2.2.1 + 5 * k' ≤ H1.2.2.1 + 5 * k) : cR t J S E T tn b stf tl c k' j j1 H H2 := by
  obtain ⟨c0, ⟨a1, a2⟩, ⟨a3, a8, a9⟩, a4, a5, a6, a7⟩ := h
  obtain ⟨n1, n2, n3⟩ := c0.ne
  obtain ⟨⟨gk, gs, gv, ⟨t1, t2, t3, t4⟩, t5, t6⟩, h2, h3, ⟨i4, i5, i6, i7⟩, -⟩ := c0
  refine ⟨⟨⟨gk, gs, gv, ⟨(hf _ (by omega)).trans t1, (hf _ (by omega)).trans t2, (hf _ (by omega)).trans t3, (hf _ (by omega)).trans t4⟩, t5, t6⟩, h2.fr h0 (fun a ha => hf a (by omega)), (hf tl a8).trans h3, ⟨?_, i5, i6, ?_⟩, hw⟩, ⟨h4, fun q q1 q2 => (hf q q1).trans (a2 q q1 q2)⟩, ⟨a3, a8, a9⟩, a4, a5, by omega, by omega⟩
  · rw [hf c (by omega)]; exact i4
  · rw [hf (c + 1) a9]; exact i7
theorem cR.nw {k j j1 : Nat} {H1 : xH} {e : xE} (h : cR t J S E T tn b stf tl c (k + 1) j j1 H H1) : cR t J S E T tn b stf tl c k j j1 H (xnw H1 e 5) := by
  have hl := h.2.1.1
  exact h.go rfl (fun q hq => xnw_ne (by omega)) h.1.2.2.2.2.nw (by show H.2.1 ≤ H1.2.1 + 1; omega) (by show H1.2.1 + 1 + k ≤ _; omega) (by show H1.2.2.1 + 5 + 5 * k ≤ _; omega)
theorem cR.nx {k j j1 a : Nat} {H1 : xH} {e f : xE} (h : cR t J S E T tn b stf tl c k j j1 H H1) (ha : H.2.1 ≤ a) (hf : H1.1 a = some f) : cR t J S E T tn b stf tl c k j j1 H (xup H1 a e) :=
  h.go rfl (fun q hq => xup_ne _ (by omega)) (h.1.2.2.2.2.up hf) h.2.1.1 (Nat.le_refl _) (Nat.le_refl _)
/-- what's read off -/
theorem cP.a {j : Nat} (h : cP t J S E T tn b stf tl c j H) : xgA H (some tl) 7 0 = some (some (b + 2)) ∧ xgA H (some tl) 7 1 = some (some c) ∧ xob H (some (b + 2)) 8 = some (b + 2) ∧ xob H (some tl) 7 = some tl ∧ xgA H (some c) 2 5 = some (some (c + 1)) ∧ xgI H (some c) 2 0 = some (nI T) ∧ H.2.2.2 = stf := by
  obtain ⟨⟨gk, gs, gv, ⟨h1, h2, h3, h4⟩, -⟩, hs, h5, ⟨⟨fs, h7, h8, h9⟩, -, -, g, h6, -⟩, hw⟩ := h
  exact ⟨gA h5 rfl, gA h5 rfl, obx h1, obx h5, gA h7 h9, gI h7 h8, hs.2.1⟩
/-- how a try to read a claim ends -/
def cOut (t : Nat → Nat) (J : Nat) (S E : Nat → Nat) (T : Nat) (tn : Nat → List Nat) (b : Nat) (stf : Nat → Nat) (tl c N D : Nat) (p : pr) (j : Nat) (H : xH) (x : Option (Option Nat × xH)) : Prop := ∃ (r : Option Nat) (H' : xH), x = some (r, H') ∧ cR t J S E T tn b stf tl c 0 j p.2 H H' ∧ (p.1 = none → r = none) ∧ ∀ σ, p.1 = some σ → j + 1 ≤ p.2 ∧ ∃ a, r = some a ∧ H.2.1 ≤ a ∧ CT N D H' H.2.1 a σ ∧ nodeN H' a none
theorem cOut.no {D k j j' : Nat} {H' : xH} (h : cR t J S E T tn b stf tl c k j j' H H') : cOut t J S E T tn b stf tl c N D (none, j') j H (some (none, H')) := ⟨none, H', rfl, h.le (Nat.zero_le _), fun _ => rfl, fun σ hσ => by cases hσ⟩
theorem cOut.pre {D k j j1 : Nat} {H1 : xH} {p : pr} {x : Option (Option Nat × xH)} (h : cR t J S E T tn b stf tl c k j j1 H H1) (hx : cOut t J S E T tn b stf tl c N D p j1 H1 x) : cOut t J S E T tn b stf tl c N D p j H x := by
  obtain ⟨r, H', h1, h2, h3, h4⟩ := hx
  refine ⟨r, H', h1, (h.tr h2).le (Nat.zero_le _), h3, fun σ hσ => ?_⟩
  obtain ⟨q1, a, q2, q3, q4, q5⟩ := h4 σ hσ
  have := h.2.2.2.1
  exact ⟨by omega, a, q2, Nat.le_trans h.2.1.1 q3, q4.mono (Nat.le_refl _) h.2.1.1, q5⟩
theorem cOut.lf (hN : 5 < N) {j j' kd w y : Nat} {H' : xH} {σ : sem} (h : cR t J S E T tn b stf tl c 1 j j' H H') (hj : j + 1 ≤ j') (hσ : (kd = 0 ∧ w < 5 ∧ y < 9 ∧ σ = lBy w y) ∨ (kd = 1 ∧ w < 5 ∧ y < 5 ∧ σ = lBf w y) ∨ (kd = 2 ∧ w < 100 ∧ y < 9 ∧ σ = lLe w y)) : cOut t J S E T tn b stf tl c N 0 (some σ, j') j H (F_X1_of N (nI kd) (nI w) (nI y) H') := by
  rw [S_of]
  exact ⟨_, _, rfl, h.nw, (fun hn => by cases hn), fun τ hτ => ⟨hj, H'.2.1, rfl, h.2.1.1, by cases hτ; exact CT.leaf hN xnw_at hσ, ⟨_, _, _, _, xnw_at⟩⟩⟩
