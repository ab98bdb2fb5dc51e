/-! PURE: the class reads statements: things, members, rules. -/
variable {stf : Nat → Nat} {N K b m : Nat} {β : sB} {δ : sD} {H : xH}
variable {t S E : Nat → Nat} {n J tl c lo : Nat} {τ : tS} {ad : Nat → Nat}
/-- how a statement ends -/
def sOut (t : Nat → Nat) (J : Nat) (S E : Nat → Nat) (N b : Nat) (stf : Nat → Nat) (tl c lo : Nat) (p : ps) (j : Nat) (H : xH) (x : Option (Int32 × xH)) : Prop := ∃ (r : Int32) (H' : xH), x = some (r, H') ∧ sR t J S E b c 0 j p.2 H H' ∧ (p.1 = none → r = 0) ∧ ∀ τ', p.1 = some τ' → r = 1 ∧ ∃ ad', cY t J S E N b stf tl c lo τ' ad' p.2 H'
theorem sOut.no {k j j' : Nat} {H' : xH} (h : cY t J S E N b stf tl c lo τ ad j H) (r : cR t J S E (yT τ) (ytn τ) b stf tl c k j j' H H') : sOut t J S E N b stf tl c lo (none, j') j H (some (0, H')) := ⟨0, H', rfl, (r.s h).le (Nat.zero_le _), fun _ => rfl, fun τ hτ => by cases hτ⟩
theorem sOut.ok {k j j' : Nat} {H1 H2 : xH} {τ' : tS} {ad' : Nat → Nat} (h : cY t J S E N b stf tl c lo τ ad j H) (r : cR t J S E (yT τ) (ytn τ) b stf tl c k j j' H H1) (h2 : cY t J S E N b stf tl c lo τ' ad' j' H2) (d : clD c H1 H2) (e : H2.2 = H1.2) : sOut t J S E N b stf tl c lo (some τ', j') j H (some (1, H2)) := by
  have hc := h.2.2.2.2.2.2
  have hl := r.2.1.1
  exact ⟨1, H2, rfl, ((r.s h).le (Nat.zero_le _)).d d (by omega) (by omega) (by rw [e]; exact Nat.le_refl _) (by rw [e]; exact Nat.le_refl _), (fun z => by cases z), fun σ hσ => ⟨rfl, ad', by cases hσ; exact h2⟩⟩
theorem sOut.pre {k j j1 : Nat} {H1 : xH} {p : ps} {x : Option (Int32 × xH)} (h : cY t J S E N b stf tl c lo τ ad j H) (r : cR t J S E (yT τ) (ytn τ) b stf tl c k j j1 H H1) (hx : sOut t J S E N b stf tl c lo p j1 H1 x) : sOut t J S E N b stf tl c lo p j H x := by
  obtain ⟨a, H2, x1, x2, x3⟩ := hx
  exact ⟨a, H2, x1, ((r.s h).tr x2).le (Nat.zero_le _), x3⟩
theorem C_free (hN : 1200 < N) {j : Nat} (h : cY t J S E N b stf tl c lo τ ad j H) {W : List Nat} (hW : wdo W) : F_X2_isFree N (some c) (@ite _ (∃ k, k < 19 ∧ kw k = W) (Classical.propDecidable _) 0 (lN (w5 W))) H = some (bI (isNw τ W), H) := by
  obtain ⟨-, -, -, hw, ⟨h1, ⟨a1, a2, g1, h2, h2'⟩, -, -, ⟨a3, a4, g5, h5, h5'⟩, -⟩, -⟩ := id h
  obtain ⟨k0, k1, -⟩ := cob_g h1
  obtain ⟨q1, q2, q3, q4, -⟩ := cob_a h1
  have key : ∀ x : Int64, F_X2_isFree N (some c) x H = some (bI ((x ≠ 0 ∧ ∀ i, 0 ≤ i → i < yT τ → g1 i ≠ x) ∧ ∀ i, 0 ≤ i → i < yM τ → g5 i ≠ x), H) := by
    intro x
    have l2 : ∀ (P : Prop) m i, i ≤ yM τ → yM τ - i < m → F_X2_isFree_L63 N m (some c) x (bI P) (nI i) H = some (bI (P ∧ ∀ k, i ≤ k → k < yM τ → g5 k ≠ x), H) := by
      intro P
      have : ∀ m i, i ≤ yM τ → yM τ - i < m → ∀ P : Prop, F_X2_isFree_L63 N m (some c) x (bI P) (nI i) H = some (bI (P ∧ ∀ k, i ≤ k → k < yM τ → g5 k ≠ x), H) := by
        refine upto (P := fun m i => ∀ P : Prop, F_X2_isFree_L63 N m (some c) x (bI P) (nI i) H = some (bI (P ∧ ∀ k, i ≤ k → k < yM τ → g5 k ≠ x), H)) ?_ ?_
        · intro m P
          rw [show F_X2_isFree_L63 N (m + 1) = F_X2_isFree_J63 N (F_X2_isFree_L63 N m) from rfl]
          simp only [F_X2_isFree_J63, k1, show nI τ.1.2.1 ≤ nI (yM τ) from Int32.le_refl _, if_true, bI_01s, Option.bind_some]
          congr 2
          exact bI_c ⟨fun z => ⟨z, fun k z1 z2 => by omega⟩, fun z => z.1⟩
        · intro m i hi ih P
          rw [show F_X2_isFree_L63 N (m + 1) = F_X2_isFree_J63 N (F_X2_isFree_L63 N m) from rfl]
          simp only [F_X2_isFree_J63, F_X2_isFree_J100, k1, show ¬ nI τ.1.2.1 ≤ nI i from nI_ge hi (show yM τ < 2 ^ 31 by omega), if_false, q4, leJ h5, nI_ge (show i < 6 by omega) (by decide), rdJ h5 (show i < 6 by omega) (by decide), nI_1, lgc, Option.bind_some, and_b0, and_b1]
          by_cases e : g5 i = x
          · rw [if_pos e]
            have := ih False
            rw [bI_f id] at this
            rw [this]
            congr 2
            exact bI_c ⟨fun z => z.1.elim, fun z => absurd e (z.2 i (Nat.le_refl _) hi)⟩
          · rw [if_neg e, ih P]
            congr 2
            exact bI_c ⟨fun z => ⟨z.1, fun k z1 z2 => by
              by_cases ek : k = i
              · rw [ek]; exact e
              · exact z.2 k (by omega) z2⟩, fun z => ⟨z.1, fun k z1 z2 => z.2 k (by omega) z2⟩⟩
      exact fun m i h1 h2 => this m i h1 h2 P
    have l1 : ∀ m i, i ≤ yT τ → yT τ - i < m → ∀ P : Prop, F_X2_isFree_L15 N (F_X2_isFree_J60 N) m (some c) x (bI P) (nI i) H = some (bI ((P ∧ ∀ k, i ≤ k → k < yT τ → g1 k ≠ x) ∧ ∀ k, 0 ≤ k → k < yM τ → g5 k ≠ x), H) := by
      refine upto (P := fun m i => ∀ P : Prop, F_X2_isFree_L15 N (F_X2_isFree_J60 N) m (some c) x (bI P) (nI i) H = some (bI ((P ∧ ∀ k, i ≤ k → k < yT τ → g1 k ≠ x) ∧ ∀ k, 0 ≤ k → k < yM τ → g5 k ≠ x), H)) ?_ ?_
      · intro m P
        rw [show F_X2_isFree_L15 N (F_X2_isFree_J60 N) (m + 1) = F_X2_isFree_J15 N (F_X2_isFree_L15 N (F_X2_isFree_J60 N) m) (F_X2_isFree_J60 N) from rfl]
        have z := l2 P N 0 (Nat.zero_le _) (by omega)
        simp only [F_X2_isFree_J15, k0, show nI τ.1.1 ≤ nI (yT τ) from Int32.le_refl _, if_true, F_X2_isFree_J60, show (0 : Int32) = nI 0 from rfl, z, Option.bind_some]
        congr 2
        exact bI_c ⟨fun z => ⟨⟨z.1, fun k z1 z2 => by omega⟩, z.2⟩, fun z => ⟨z.1.1, z.2⟩⟩
      · intro m i hi ih P
        rw [show F_X2_isFree_L15 N (F_X2_isFree_J60 N) (m + 1) = F_X2_isFree_J15 N (F_X2_isFree_L15 N (F_X2_isFree_J60 N) m) (F_X2_isFree_J60 N) from rfl]
        simp only [F_X2_isFree_J15, F_X2_isFree_J52, k0, show ¬ nI τ.1.1 ≤ nI i from nI_ge hi (show yT τ < 2 ^ 31 by omega), if_false, q1, leJ h2, nI_ge (show i < 5 by omega) (by decide), rdJ h2 (show i < 5 by omega) (by decide), nI_1, lgc, Option.bind_some, and_b0, and_b1]
        by_cases e : g1 i = x
        · rw [if_pos e]
          have := ih False
          rw [bI_f id] at this
          rw [this]
          congr 2
          exact bI_c ⟨fun z => z.1.1.elim, fun z => absurd e (z.1.2 i (Nat.le_refl _) hi)⟩
        · rw [if_neg e, ih P]
          congr 2
          exact bI_c ⟨fun z => ⟨⟨z.1.1, fun k z1 z2 => by
            by_cases ek : k = i
            · rw [ek]; exact e
            · exact z.1.2 k (by omega) z2⟩, z.2⟩, fun z => ⟨⟨z.1.1, fun k z1 z2 => z.1.2 k (by omega) z2⟩, z.2⟩⟩
    unfold F_X2_isFree
    by_cases e : x = 0
    · rw [if_pos (lgc.mpr e)]
      have z := l1 N 0 (Nat.zero_le _) (by omega) False
      rw [bI_f id] at z
      simp only [F_X2_isFree_J11]
      rw [show F_X2_isFree_L15 N (F_X2_isFree_J60 N) N (some c) x 0 0 H = _ from z]
      congr 2
      exact bI_c ⟨fun z => z.1.1.elim, fun z => absurd e z.1.1⟩
    · rw [if_neg (fun z => e (lgc.mp z))]
      have z := l1 N 0 (Nat.zero_le _) (by omega) True
      rw [bI_t trivial] at z
      simp only [F_X2_isFree_J11]
      rw [show F_X2_isFree_L15 N (F_X2_isFree_J60 N) N (some c) x 1 0 H = _ from z]
      congr 2
      exact bI_c ⟨fun z => ⟨⟨e, z.1.2⟩, z.2⟩, fun z => ⟨⟨trivial, z.1.2⟩, z.2⟩⟩
  rw [key]
  congr 2
  by_cases e : ∃ k, k < 19 ∧ kw k = W
  · rw [if_pos e]
    exact bI_c ⟨fun z => absurd rfl z.1.1, fun z => absurd e z.2.1⟩
  · rw [if_neg e]
    have e0 : lN (w5 W) ≠ 0 ↔ W ≠ [] := not_congr ((show lN (w5 W) = 0 ↔ lN (w5 W) = lN (w5 []) from Iff.rfl).trans (wdo_e5 hW wdo_0))
    refine bI_c ⟨fun ⟨⟨z1, z2⟩, z3⟩ => ⟨e0.mp z1, e, fun i hi hq => z2 i (Nat.zero_le _) hi (by rw [h2' i hi, hq]), fun i hi hq => z3 i (Nat.zero_le _) hi (by rw [h5' i hi, hq])⟩, fun ⟨z1, _, z2, z3⟩ => ⟨⟨e0.mpr z1, fun i _ hi hq => z2 i hi ?_⟩, fun i _ hi hq => z3 i hi ?_⟩⟩
    · exact (wdo_e5 (a2.1 i hi).1 hW).mp ((h2' i hi).symm.trans hq)
    · exact (wdo_e5 (a4.1 i hi).1 hW).mp ((h5' i hi).symm.trans hq)
theorem cY.tt {j : Nat} (h : cY t J S E N b stf tl c lo τ ad j H) : xgA H (some tl) 7 0 = some (some (b + 2)) ∧ xgA H (some tl) 7 1 = some (some c) ∧ xob H (some (b + 2)) 8 = some (b + 2) ∧ xob H (some tl) 7 = some tl ∧ xob H (some c) 2 = some c ∧ H.2.2.2 = stf ∧ xgI H (some c) 2 0 = some (nI (yT τ)) ∧ xgI H (some c) 2 1 = some (nI (yM τ)) := by
  obtain ⟨a1, a2, a3, a4, a5, a6, a7⟩ := h.p.a
  obtain ⟨k0, k1, -, -, -, ko⟩ := cob_g h.2.2.2.2.1.1
  exact ⟨a1, a2, a3, a4, ko, a7, k0, k1⟩
theorem wd_ne_J (hT : tkS t n J S E) (hn : n ≤ 1200) (h6 : ∀ q, t q < 256) (hN : 1200 < N) {j : Nat} (h : isNw τ (wd t J S E j)) : j < J := (wd_j hT hn h6 hN h.1).1
theorem C_tu (hT : tkS t n J S E) (hn : n ≤ 1200) (h6 : ∀ q, t q < 256) (hN : 1200 < N) {j0 j f : Nat} {H0 : xH} {W : List Nat} (h0 : cY t J S E N b stf tl c lo τ ad j0 H0) {k : Nat} (r : cR t J S E (yT τ) (ytn τ) b stf tl c k j0 j H0 H) (hT5 : yT τ < 5) (hW : wdo W) (hf : isNw τ W) (f7 : f ≤ 7) : sOut t J S E N b stf tl c lo (pTu t J S E τ W f j) j0 H0 (F_X7_tellThing_J66 N (some tl) (lN (w5 W)) (nI f) H) := by
  have h := h0.cr r
  obtain ⟨a1, a2, a3, a4, a5, a6, -⟩ := h.tt
  unfold F_X7_tellThing_J66 pTu
  simp only [nI_pos' (show f < 2 ^ 31 by omega), if_true, a1, a3, a6, h.p.w hT hn h6 r.2.2.2.2.1 (show 2 < 19 by decide), Option.bind_some]
  by_cases q1 : wd t J S E j = kw 2
  rotate_left
  · rw [cif_f q1, if_neg q1]
    obtain ⟨H', e1, e2, e3, e4⟩ := C_addT (by omega) h hT5 hW hf f7 (Nat.le_refl 7)
    rw [show nI 7 = (7 : Int32) from rfl] at e1
    simp only [bd2_s, if_true, F_X7_tellThing_J101, show (0 : Int32) ≤ 7 by decide, a2, a5, e1, Option.bind_some]
    exact sOut.ok h0 r e2 e3 e4
  have R1 := r.tk' hT (kw_J hT hn h6 hN q1 (by decide))
  rw [cif_t q1, if_pos q1]
  have h1 := h0.cr R1
  simp only [bd2_s, if_neg n10]
  generalize tkH b (j + 1) H = H1 at *
  obtain ⟨a1, a2, a3, a4, a5, a6, -⟩ := h1.tt
  have e3 := C_num (N := N) hT hn h6 (lo := f) (hi := 7) R1.1.1 R1.2.2.2.2.1 (by omega) (by decide)
  rw [show nI 7 = (7 : Int32) from rfl] at e3
  simp only [a1, a3, Option.bind_some]
  by_cases q2 : isN t J S E (j + 1) f 7
  rotate_left
  · rw [cif_f q2, e3.2 q2]
    simp only [bd2_s, F_X7_tellThing_J101, show ¬ (0 : Int32) ≤ -1 by decide, if_false]
    exact sOut.no h0 R1
  have R2 := R1.tk' hT q2.1
  have l2 := nv_le q2
  have h2 := h0.cr R2
  rw [cif_t q2, e3.1 q2]
  obtain ⟨H', e1, e2, e3, e4⟩ := C_addT (by omega) h2 hT5 hW hf f7 l2
  simp only [bd2_s, F_X7_tellThing_J101, nI_pos' (show nv t S E (j + 1) < 2 ^ 31 by omega), if_true, h2.tt.2.1, h2.tt.2.2.2.2.1, e1, Option.bind_some]
  exact sOut.ok h0 R2 e2 e3 e4
theorem C_tellThing (hT : tkS t n J S E) (hn : n ≤ 1200) (h6 : ∀ q, t q < 256) (hN : 1200 < N) {j : Nat} (h : cY t J S E N b stf tl c lo τ ad j H) (hj : j ≤ J) : sOut t J S E N b stf tl c lo (pTt t J S E τ j) j H (F_X7_tellThing N (some tl) H) := by
  obtain ⟨a1, a2, a3, a4, a5, a6, a7, a8⟩ := h.tt
  have en := C_name (N := N) hT hn h6 (by omega) h.1 hj h.2.1
  have hW := wd_ok hT j
  have ef := C_free hN h hW
  unfold F_X7_tellThing pTt
  simp only [a1, a3, en, bd2_s, a2, a5, ef, Option.bind_some]
  by_cases q1 : isNw τ (wd t J S E j)
  rotate_left
  · rw [cif_f q1, bI_f q1, if_pos rfl]
    exact sOut.no h (cR.rf h.p hj)
  have nk := q1.2.1
  rw [cif_t q1, bI_t q1, if_neg n10, if_neg nk]
  simp only [a2, a7, Option.bind_some]
  by_cases q2 : yT τ < 5
  rotate_left
  · rw [cif_f q2, if_neg (show ¬ nI (yT τ) < (5 : Int32) from nI_nlt (b := 5) (a := yT τ) (by omega) (by have := h.2.2.2.2.1.2.1.1; omega))]
    exact sOut.no h (cR.rf h.p hj)
  rw [cif_t q2, if_pos (show nI (yT τ) < (5 : Int32) from nI_lt (b := 5) q2 (by decide))]
  have R1 := cR.tk hT h.p (wd_ne_J hT hn h6 hN q1)
  have h1 := h.cr R1
  simp only [a1, a3, C_skip (N := N) hT hn h6 h.1 hj, Option.bind_some]
  generalize tkH b (j + 1) H = H1 at *
  obtain ⟨a1, a2, a3, a4, a5, a6, a7, a8⟩ := h1.tt
  simp only [a1, a3, a6, h1.p.w hT hn h6 R1.2.2.2.2.1 (show 1 < 19 by decide), Option.bind_some]
  by_cases q3 : wd t J S E (j + 1) = kw 1
  rotate_left
  · rw [cif_f q3, if_neg q3]
    simp only [bd2_s, if_true]
    exact C_tu hT hn h6 hN (f := 0) h R1 q2 hW q1 (Nat.zero_le _)
  have R2 := R1.tk' hT (kw_J hT hn h6 hN q3 (by decide))
  rw [cif_t q3, if_pos q3]
  have h2 := h.cr R2
  simp only [bd2_s, if_neg n10]
  generalize tkH b (j + 1 + 1) H1 = H2 at *
  obtain ⟨a1, a2, a3, a4, a5, a6, a7, a8⟩ := h2.tt
  have e3 := C_num (N := N) hT hn h6 (lo := 0) (hi := 7) R2.1.1 R2.2.2.2.2.1 (by decide) (by decide)
  rw [show nI 7 = (7 : Int32) from rfl, show nI 0 = (0 : Int32) from rfl] at e3
  simp only [a1, a3, Option.bind_some]
  by_cases q4 : isN t J S E (j + 1 + 1) 0 7
  rotate_left
  · rw [cif_f q4, e3.2 q4]
    simp only [bd2_s, F_X7_tellThing_J66, show ¬ (0 : Int32) ≤ -1 by decide, if_false]
    exact sOut.no h R2
  have R3 := R2.tk' hT q4.1
  have l2 := nv_le q4
  rw [cif_t q4, e3.1 q4]
  simp only [bd2_s]
  exact C_tu hT hn h6 hN h R3 q2 hW q1 l2
theorem C_tellMember (hT : tkS t n J S E) (hn : n ≤ 1200) (h6 : ∀ q, t q < 256) (hN : 1200 < N) {j : Nat} (h : cY t J S E N b stf tl c lo τ ad j H) (hj : j ≤ J) : sOut t J S E N b stf tl c lo (pTm t J S E τ j) j H (F_X7_tellMember N (some tl) H) := by
  obtain ⟨a1, a2, a3, a4, a5, a6, a7, a8⟩ := h.tt
  have en := C_name (N := N) hT hn h6 (by omega) h.1 hj h.2.1
  have hW := wd_ok hT j
  have ef := C_free hN h hW
  unfold F_X7_tellMember pTm
  simp only [a1, a3, en, bd2_s, a2, a5, ef, Option.bind_some]
  by_cases q1 : isNw τ (wd t J S E j)
  rotate_left
  · rw [cif_f q1, bI_f q1, if_pos rfl]
    exact sOut.no h (cR.rf h.p hj)
  have nk := q1.2.1
  rw [cif_t q1, bI_t q1, if_neg n10, if_neg nk]
  simp only [a2, a8, Option.bind_some]
  by_cases q2 : yM τ < 6
  rotate_left
  · rw [cif_f q2, if_neg (show ¬ nI (yM τ) < (6 : Int32) from nI_nlt (b := 6) (a := yM τ) (by omega) (by have := h.2.2.2.2.1.2.2.2.2.1.1; omega))]
    exact sOut.no h (cR.rf h.p hj)
  rw [cif_t q2, if_pos (show nI (yM τ) < (6 : Int32) from nI_lt (b := 6) q2 (by decide))]
  have R1 := cR.tk hT h.p (wd_ne_J hT hn h6 hN q1)
  have h1 := h.cr R1
  simp only [a1, a3, C_skip (N := N) hT hn h6 h.1 hj, Option.bind_some]
  obtain ⟨H', e1, e2, e3, e4⟩ := C_addM h1 q2 hW q1
  simp only [h1.tt.2.1, h1.tt.2.2.2.2.1, e1, Option.bind_some]
  exact sOut.ok h R1 e2 e3 e4
theorem C_tellRule (hT : tkS t n J S E) (hn : n ≤ 1200) (h6 : ∀ q, t q < 256) (hN : 1200 < N) {j : Nat} {br : Prop} (h : cY t J S E N b stf tl c lo τ ad j H) (hj : j ≤ J) (hR : yR τ < 40) : sOut t J S E N b stf tl c lo (pTr t J S E br τ j) j H (F_X7_tellRule N (some tl) (bI br) H) := by
  obtain ⟨a1, a2, a3, a4, a5, a6, a7, a8⟩ := h.tt
  have b5 := h.p.a.2.2.2.2.1
  obtain ⟨e1, e1'⟩ := C_thing hT hn h6 hN h.p hj (-1)
  unfold F_X7_tellRule pTr
  simp only [a1, a2, a3, b5, a7, Option.bind_some]
  rcases fnd_c (yT τ) (ytn τ) (wd t J S E j) with ⟨i, f1, f2, f3⟩ | ⟨f1, f2⟩
  rotate_left
  · rw [obd_n f1, e1' f1]
    simp only [bd2_s, show ¬ (0 : Int32) ≤ -1 by decide, if_false, F_X7_tellRule_J53]
    exact sOut.no h (cR.rf h.p hj)
  obtain ⟨i5, iT, j1, e2, -⟩ := e1 i f1
  have R1 := cR.tk hT h.p j1
  have h1 := h.cr R1
  rw [obd_s f1, e2 (nIm1 (by omega))]
  simp only [bd2_s, nI_pos' (show i < 2 ^ 31 by omega), if_true]
  clear e1 e1' e2
  generalize tkH b (j + 1) H = H1 at *
  obtain ⟨a1, a2, a3, a4, a5, a6, a7, a8⟩ := h1.tt
  have b5 := h1.p.a.2.2.2.2.1
  obtain ⟨e1, e1'⟩ := C_thing hT hn h6 hN h1.p R1.2.2.2.2.1 (nI i)
  simp only [a1, a2, a3, b5, a7, Option.bind_some]
  rcases fnd_c (yT τ) (ytn τ) (wd t J S E (j + 1)) with ⟨u, g1, g2, g3⟩ | ⟨g1, g2⟩
  rotate_left
  · rw [obd_n g1, e1' g1]
    simp only [bd2_s, show ¬ (0 : Int32) ≤ -1 by decide, if_false, F_X7_tellRule_J53]
    exact sOut.no h R1
  obtain ⟨u5, uT, j2, e2, e3⟩ := e1 u g1
  rw [obd_s g1]
  by_cases q1 : u = i
  · rw [cif_t q1, e3 (by rw [q1])]
    simp only [bd2_s, show ¬ (0 : Int32) ≤ -1 by decide, if_false, F_X7_tellRule_J53]
    exact sOut.no h R1
  have R2 := R1.tk' hT j2
  have h2 := h.cr R2
  rw [cif_f q1, e2 (fun z => q1 ((nI_eq (by omega) (by omega)).mp z))]
  clear e1 e1' e2 e3
  simp only [bd2_s, F_X7_tellRule_J53, nI_pos' (show u < 2 ^ 31 by omega), if_true]
  generalize tkH b (j + 1 + 1) H1 = H2 at *
  obtain ⟨a1, a2, a3, a4, a5, a6, a7, a8⟩ := h2.tt
  by_cases hb : br
  rotate_left
  · rw [cif_f hb, bI_f hb, if_pos rfl]
    obtain ⟨H', e1, e2, e3, e4⟩ := C_addR (r := (i, u, none)) (by omega) h2 hR ⟨iT, uT, fun d hd => by cases hd⟩
    simp only [F_X7_tellRule_J103, a2, a5, show F_X2_addRule N (some c) (nI i) (nI u) (-1) H2 = some H' from e1, Option.bind_some]
    exact sOut.ok h R2 e2 e3 e4
  rw [cif_t hb, bI_t hb, if_neg n10]
  simp only [a1, a3, a6, h2.p.w hT hn h6 R2.2.2.2.2.1 (show 6 < 19 by decide), Option.bind_some]
  by_cases q2 : wd t J S E (j + 1 + 1) = kw 6
  rotate_left
  · rw [cif_f q2, if_neg q2]
    simp only [bd2_s, if_true, F_X7_tellRule_J94, show ¬ (0 : Int32) ≤ -1 by decide, if_false]
    exact sOut.no h R2
  have R3 := R2.tk' hT (kw_J hT hn h6 hN q2 (by decide))
  have h3 := h.cr R3
  rw [cif_t q2, if_pos q2]
  simp only [bd2_s, if_neg n10]
  generalize tkH b (j + 1 + 1 + 1) H2 = H3 at *
  obtain ⟨a1, a2, a3, a4, a5, a6, a7, a8⟩ := h3.tt
  have e3 := C_num (N := N) hT hn h6 (lo := 0) (hi := 7) R3.1.1 R3.2.2.2.2.1 (by decide) (by decide)
  rw [show nI 7 = (7 : Int32) from rfl, show nI 0 = (0 : Int32) from rfl] at e3
  simp only [a1, a3, Option.bind_some]
  by_cases q4 : isN t J S E (j + 1 + 1 + 1) 0 7
  rotate_left
  · rw [cif_f q4, e3.2 q4]
    simp only [bd2_s, F_X7_tellRule_J94, show ¬ (0 : Int32) ≤ -1 by decide, if_false]
    exact sOut.no h R3
  have R4 := R3.tk' hT q4.1
  have h4 := h.cr R4
  have l2 := nv_le q4
  rw [cif_t q4, e3.1 q4]
  obtain ⟨H', e1, e2, e3, e4⟩ := C_addR (r := (i, u, some (nv t S E (j + 1 + 1 + 1)))) (by omega) h4 hR ⟨iT, uT, fun d hd => by cases hd; exact l2⟩
  simp only [bd2_s, F_X7_tellRule_J94, nI_pos' (show nv t S E (j + 1 + 1 + 1) < 2 ^ 31 by omega), if_true, F_X7_tellRule_J103, h4.tt.2.1, h4.tt.2.2.2.2.1, show F_X2_addRule N (some c) (nI i) (nI u) (nI (nv t S E (j + 1 + 1 + 1))) _ = some H' from e1, Option.bind_some]
  exact sOut.ok h R4 e2 e3 e4
