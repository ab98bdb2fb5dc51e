/-! PURE: the class reads the whole text. -/
variable {stf : Nat → Nat} {N K b m : Nat} {β : sB} {δ : sD} {H : xH}
variable {t S E : Nat → Nat} {n J tl c lo : Nat} {τ : tS} {ad : Nat → Nat}
/-- what a statement can add -/
def yQ (τ : tS) (p : ps) : Prop := ∀ τ', p.1 = some τ' → yS τ' = yS τ ∧ yR τ' ≤ yR τ + 1
theorem yQ.no {j : Nat} : yQ τ (none, j) := fun _ h => by cases h
theorem yQ.s {τ' : tS} {j : Nat} (h : yS τ' = yS τ ∧ yR τ' ≤ yR τ + 1) : yQ τ (some τ', j) := fun _ h' => by cases h'; exact h
theorem yQ.i {p q : ps} {P : Prop} (h : yQ τ p) (k : yQ τ q) : yQ τ (cif P p q) := by
  by_cases e : P
  · rw [cif_t e]; exact h
  · rw [cif_f e]; exact k
theorem yQ.o {x : Option Nat} {p : ps} {f : Nat → ps} (h : yQ τ p) (k : ∀ i, yQ τ (f i)) : yQ τ (obd x p f) := by
  cases x with
  | none => exact h
  | some i => exact k i
theorem yQ.q {p : pr} {f : sem → Nat → ps} (k : ∀ i j, yQ τ (f i j)) : yQ τ (qbd p f) := by
  cases h : p.1 with
  | none => rw [qbd_n h]; exact yQ.no
  | some σ => rw [qbd_s h]; exact k _ _
theorem pSt_y {j : Nat} : yQ τ (pSt t J S E τ j) := by
  have u : ∀ W f j, yQ τ (pTu t J S E τ W f j) := fun W f j => yQ.i (yQ.i (yQ.s ⟨rfl, Nat.le_succ _⟩) yQ.no) (yQ.s ⟨rfl, Nat.le_succ _⟩)
  have d : ∀ a o x y σ f j, yQ τ (pTd t J S E τ a o x y σ f j) := fun a o x y σ f j => yQ.i (yQ.q fun _ _ => yQ.s ⟨rfl, Nat.le_succ _⟩) (yQ.s ⟨rfl, Nat.le_succ _⟩)
  have o : ∀ a o x y σ j, yQ τ (pTo t J S E τ a o x y σ j) := fun a o x y σ j => yQ.i (yQ.q fun _ _ => d _ _ _ _ _ _ _) (d _ _ _ _ _ _ _)
  have r : ∀ br j, yQ τ (pTr t J S E br τ j) := fun br j => yQ.o yQ.no fun _ => yQ.o yQ.no fun _ => yQ.i yQ.no (yQ.i (yQ.i (yQ.i (yQ.s ⟨rfl, Nat.le_refl _⟩) yQ.no) yQ.no) (yQ.s ⟨rfl, Nat.le_refl _⟩))
  have bt : ∀ j, yQ τ (pTb t J S E τ j) := fun j => yQ.o yQ.no fun _ => yQ.i (yQ.i (yQ.i (yQ.o yQ.no fun _ => yQ.i yQ.no (yQ.i (yQ.q fun _ _ => o _ _ _ _ _ _) yQ.no)) yQ.no) yQ.no) yQ.no
  exact yQ.i (yQ.i (yQ.i (yQ.i (u _ _ _) yQ.no) (u _ _ _)) yQ.no |>.i yQ.no) (yQ.i (yQ.i (yQ.i (yQ.s ⟨rfl, Nat.le_succ _⟩) yQ.no) yQ.no) (yQ.i (r _ _) (yQ.i (r _ _) (yQ.i (yQ.i (bt _) yQ.no) yQ.no))))
/-- a statement is read -/
theorem C_st (hT : tkS t n J S E) (hn : n ≤ 1200) (h6 : ∀ q, t q < 256) (hN : 1200 < N) {k2 : Option Nat → Int32 → xH → Option (Int32 × xH)} {k175 : Option Nat → xH → Option (Int32 × xH)} {j : Nat} (h : cY t J S E N b stf tl c lo τ ad j H) (hj : j < J) (hS : yS τ < 40) (hR : yR τ < 40) : ∃ (r : Int32) (H' : xH), F_X7_tellAll_J2 N k2 k175 (some tl) (nI (yS τ)) H = F_X7_tellAll_J137 N k2 (some tl) (nI (yS τ)) r H' ∧ sR t J S E b c 0 j (pSt t J S E τ j).2 H H' ∧ ((pSt t J S E τ j).1 = none → r = 0) ∧ ∀ τ', (pSt t J S E τ j).1 = some τ' → r = 1 ∧ ∃ ad', cY t J S E N b stf tl c lo τ' ad' (pSt t J S E τ j).2 H' := by
  have hj' := Nat.le_of_lt hj
  obtain ⟨a1, a2, a3, a4, a5, a6, a7, a8⟩ := h.tt
  have a9 := (cob_g h.2.2.2.2.1.1).2.2.1
  have w := fun k (hk : k < 19) => h.p.w (N := N) hT hn h6 hj' hk
  have ee := C_end (N := N) hT hn h6 h.1 hj'
  rw [if_neg (show ¬ j = J by omega)] at ee
  have fin : ∀ (p : ps) (x : Option (Int32 × xH)) (y : Option (Int32 × xH)), y = x_bd2 x (fun v H => F_X7_tellAll_J137 N k2 (some tl) (nI (yS τ)) v H) → sOut t J S E N b stf tl c lo p j H x → ∃ (r : Int32) (H' : xH), y = F_X7_tellAll_J137 N k2 (some tl) (nI (yS τ)) r H' ∧ sR t J S E b c 0 j p.2 H H' ∧ (p.1 = none → r = 0) ∧ ∀ τ', p.1 = some τ' → r = 1 ∧ ∃ ad', cY t J S E N b stf tl c lo τ' ad' p.2 H' := by
    intro p x y hy hx
    obtain ⟨r, H', x1, x2, x3, x4⟩ := hx
    exact ⟨r, H', by rw [hy, x1]; rfl, x2, x3, x4⟩
  unfold pSt
  rw [show F_X7_tellAll_J2 N k2 k175 (some tl) (nI (yS τ)) H = _ from rfl]
  unfold F_X7_tellAll_J2
  rw [if_neg (show ¬ (40 : Int32) ≤ nI (yS τ) from nI_ge (b := 40) hS (by decide))]
  simp only [a1, a3, a6, ee, w 0 (by decide), bd2_s, if_true, Option.bind_some]
  by_cases q0 : wd t J S E j = kw 0
  · have R1 := cR.tk hT h.p hj
    have h1 := h.cr R1
    rw [cif_t q0, if_pos q0]
    refine fin _ _ _ ?_ (sOut.pre h R1 (C_tellThing hT hn h6 hN h1 hj))
    simp only [bd2_s, if_neg n10, h1.tt.2.2.2.1, Option.bind_some]
  rw [cif_f q0, if_neg q0]
  simp only [a1, a3, a6, w 3 (by decide), bd2_s, if_true, Option.bind_some]
  by_cases q1 : wd t J S E j = kw 3
  · have R1 := cR.tk hT h.p hj
    have h1 := h.cr R1
    rw [cif_t q1, if_pos q1]
    refine fin _ _ _ ?_ (sOut.pre h R1 (C_tellMember hT hn h6 hN h1 hj))
    simp only [bd2_s, if_neg n10, h1.tt.2.2.2.1, Option.bind_some]
  rw [cif_f q1, if_neg q1]
  simp only [a1, a3, a6, w 4 (by decide), bd2_s, if_true, Option.bind_some]
  by_cases q2 : wd t J S E j = kw 4
  · have R1 := cR.tk hT h.p hj
    have h1 := h.cr R1
    have o := sOut.pre h R1 (C_tellRule (br := False) hT hn h6 hN h1 hj hR)
    rw [bI_f id] at o
    rw [cif_t q2, if_pos q2]
    refine fin _ _ _ ?_ o
    simp only [bd2_s, if_neg n10, h1.tt.2.2.2.1, Option.bind_some]
  rw [cif_f q2, if_neg q2]
  simp only [a1, a3, a6, w 5 (by decide), bd2_s, if_true, Option.bind_some]
  by_cases q3 : wd t J S E j = kw 5
  · have R1 := cR.tk hT h.p hj
    have h1 := h.cr R1
    have o := sOut.pre h R1 (C_tellRule (br := True) hT hn h6 hN h1 hj hR)
    rw [bI_t trivial] at o
    rw [cif_t q3, if_pos q3]
    refine fin _ _ _ ?_ o
    simp only [bd2_s, if_neg n10, h1.tt.2.2.2.1, Option.bind_some]
  rw [cif_f q3, if_neg q3]
  simp only [a2, a9, bd2_s, if_true, Option.bind_some]
  have hW12 := h.2.2.2.2.1.2.2.2.2.2.2.1.1
  by_cases q4 : yW τ < 12
  rotate_left
  · rw [cif_f q4, if_pos (show (12 : Int32) ≤ nI τ.1.2.2.1 from nI_le (a := 12) (b := yW τ) (by omega) (by omega))]
    obtain ⟨r, H', x1, x2, x3, x4⟩ := fin (none, j) (some (0, H)) (F_X7_tellAll_J136 N k2 (some tl) (nI (yS τ)) H) rfl (sOut.no h (cR.rf h.p hj'))
    exact ⟨r, H', x1, x2, fun _ => x3 rfl, x4⟩
  rw [cif_t q4, if_neg (show ¬ (12 : Int32) ≤ nI τ.1.2.2.1 from nI_ge (b := 12) q4 (by decide))]
  simp only [a1, a3, a6, w 7 (by decide), Option.bind_some]
  by_cases q5 : wd t J S E j = kw 7
  rotate_left
  · rw [cif_f q5, if_neg q5]
    simp only [bd2_s, if_true]
    obtain ⟨r, H', x1, x2, x3, x4⟩ := fin (none, j) (some (0, H)) (F_X7_tellAll_J136 N k2 (some tl) (nI (yS τ)) H) rfl (sOut.no h (cR.rf h.p hj'))
    exact ⟨r, H', x1, x2, fun _ => x3 rfl, x4⟩
  have R1 := cR.tk hT h.p hj
  have h1 := h.cr R1
  rw [cif_t q5, if_pos q5]
  refine fin _ _ _ ?_ (sOut.pre h R1 (C_tellBet hT hn h6 hN h1 hj q4))
  simp only [bd2_s, if_neg n10, h1.tt.2.2.2.1, Option.bind_some]
  obtain ⟨r, H', x1, -, x3, x4⟩ := C_tellBet hT hn h6 hN h1 hj q4
  rw [x1]
  simp only [bd2_s]
  cases hp : (pTb t J S E τ (j + 1)).1 with
  | none => rw [x3 hp, if_pos rfl]; rfl
  | some τ' => rw [(x4 τ' hp).1, if_neg n10]
theorem C_tellAll (hT : tkS t n J S E) (hn : n ≤ 1200) (h6 : ∀ q, t q < 256) (hN : 1200 < N) {j0 : Nat} {H0 : xH} (hb : b + 6 ≤ c) (hc : c ≤ H0.2.1) : ∀ (f m : Nat) (τ : tS) (ad : Nat → Nat) (j : Nat) (H : xH), J - j < f → J - j < m → cY t J S E N b stf tl c lo τ ad j H → sR t J S E b c 0 j0 j H0 H → yR τ ≤ yS τ → sOut t J S E N b stf tl c lo (pTx t J S E f τ j) j0 H0 (F_X7_tellAll_L2 N (F_X7_tellAll_J175 N) m (some tl) (nI (yS τ)) H) := by
  intro f
  induction f with
  | zero => intro m τ ad j H hf; omega
  | succ f ih =>
    intro m τ ad j H hf hm h r hR
    obtain ⟨m, rfl⟩ : ∃ z, m = z + 1 := ⟨m - 1, by omega⟩
    rw [show F_X7_tellAll_L2 N (F_X7_tellAll_J175 N) (m + 1) = F_X7_tellAll_J2 N (F_X7_tellAll_L2 N (F_X7_tellAll_J175 N) m) (F_X7_tellAll_J175 N) from rfl, pTx]
    have hj : j ≤ J := r.2.2.2.2.2.2.1
    have hS40 := h.2.2.2.2.1.2.2.2.2.2.1.2.1
    obtain ⟨a1, a2, a3, a4, a5, a6, a7, a8⟩ := h.tt
    have ee := C_end (N := N) hT hn h6 h.1 hj
    by_cases q0 : j = J
    · rw [cif_t q0]
      rw [if_pos q0] at ee
      have e : F_X7_tellAll_J2 N (F_X7_tellAll_L2 N (F_X7_tellAll_J175 N) m) (F_X7_tellAll_J175 N) (some tl) (nI (yS τ)) H = some (1, H) := by
        have f175 : F_X7_tellAll_J175 N (some tl) H = some (1, H) := by
          unfold F_X7_tellAll_J175
          simp only [a1, a3, ee, bd2_s, or_true, if_true, Option.bind_some]
        unfold F_X7_tellAll_J2
        split
        · exact f175
        · simp only [a1, a3, ee, bd2_s, if_neg n10, f175, Option.bind_some]
      rw [e]
      exact ⟨1, H, rfl, r, (fun z => by cases z), fun σ hσ => ⟨rfl, ad, by cases hσ; exact h⟩⟩
    rw [cif_f q0]
    rw [if_neg q0] at ee
    by_cases q1 : yS τ < 40
    rotate_left
    · rw [cif_f q1]
      have e : F_X7_tellAll_J2 N (F_X7_tellAll_L2 N (F_X7_tellAll_J175 N) m) (F_X7_tellAll_J175 N) (some tl) (nI (yS τ)) H = some (0, H) := by
        unfold F_X7_tellAll_J2
        rw [if_pos (show (40 : Int32) ≤ nI (yS τ) from nI_le (a := 40) (by omega) (by omega))]
        unfold F_X7_tellAll_J175
        simp only [a1, a3, ee, bd2_s, true_or, if_true, Option.bind_some]
      rw [e]
      exact ⟨0, H, rfl, r, fun _ => rfl, fun σ hσ => by cases hσ⟩
    rw [cif_t q1]
    obtain ⟨v, H', e1, e2, e3, e4⟩ := C_st (k2 := F_X7_tellAll_L2 N (F_X7_tellAll_J175 N) m) (k175 := F_X7_tellAll_J175 N) hT hn h6 hN h (by omega) q1 (by omega)
    rw [e1]
    cases hp : (pSt t J S E τ j).1 with
    | none =>
      rw [sbd_n hp, e3 hp]
      simp only [F_X7_tellAll_J137, if_true]
      exact ⟨0, H', rfl, r.tr e2, fun _ => rfl, fun σ hσ => by cases hσ⟩
    | some τ' =>
      rw [sbd_s hp]
      obtain ⟨z1, ad', z2⟩ := e4 τ' hp
      obtain ⟨y1, y2⟩ := pSt_y (t := t) (J := J) (S := S) (E := E) (τ := τ) (j := j) τ' hp
      rw [z1]
      obtain ⟨b1, b2, b3, b4, b5, b6, b7, b8⟩ := z2.tt
      generalize (pSt t J S E τ j).2 = j' at *
      have hj' : j' ≤ J := e2.2.2.2.2.2.2.1
      have jj : j ≤ j' := e2.2.2.2.2.2.1
      have es := C_sign (N := N) hT hn h6 z2.1 hj' (s := 59) (by decide)
      rw [show nI 59 = (59 : Int32) from rfl] at es
      simp only [F_X7_tellAll_J137, if_neg n10, b1, b3, es, Option.bind_some]
      by_cases q2 : sg t J S j' = 59
      rotate_left
      · rw [cif_f q2, if_neg q2]
        simp only [bd2_s, if_true]
        exact ⟨0, H', rfl, r.tr e2, fun _ => rfl, fun σ hσ => by cases hσ⟩
      rw [cif_t q2, if_pos q2]
      have j1 : j' < J := by
        unfold sg at q2
        split at q2
        · assumption
        · omega
      have R1 := cR.tk hT z2.p j1
      have h1 := z2.cr R1
      have s1 := (r.tr e2).tr (R1.s z2)
      generalize tkH b (j' + 1) H' = H1 at *
      obtain ⟨c1, ⟨u1, u2, l2⟩, l3, l4, ⟨u3, u4, l5⟩, ⟨u5, u6, l6⟩, ⟨u7, l7⟩, l8⟩ := id h1.2.2.2.2.1
      have e5 := (cob_p c1 (k := yS τ' + 1)).2.2.2.2
      have hd : clD c H1 (xup H1 c (cob c (tadS τ').1)) := clD.up h1.2.2.2.1 c1 (by omega)
      have hy := h1.2.2.2.2.2
      have h2 : cY t J S E N b stf tl c lo (tadS τ') ad' (j' + 1) (xup H1 c (cob c (tadS τ').1)) := by
        refine h1.d hd ⟨xup_at _, ⟨u1, u2, ?_⟩, ?_, ?_, ⟨u3, u4, ?_⟩, ⟨u5, by show yS τ' + 1 ≤ 40; omega, ?_⟩, ⟨u7, ?_⟩, fun w hq => (l8 w hq).fr h1.2.2.2.1 (fun q z1 z2 => xup_ne _ (by omega))⟩ hy.1
        · rw [xup_ne _ (by omega)]; exact l2
        · rw [xup_ne _ (by omega)]; exact l3
        · rw [xup_ne _ (by omega)]; exact l4
        · rw [xup_ne _ (by omega)]; exact l5
        · rw [xup_ne _ (by omega), xup_ne _ (by omega), xup_ne _ (by omega)]; exact l6
        · rw [xup_ne _ (by omega)]; exact l7
      simp only [bd2_s, if_neg n10, h1.tt.2.1, (cob_g c1).2.2.2.2.1, nI_1, show xpI H1 (some c) 2 4 (nI (τ'.1.2.2.2.2 + 1)) = some (xup H1 c (cob c (tadS τ').1)) from e5, Option.bind_some]
      have s2 := s1.le (k' := 0) (by omega) |>.d (k' := 0) hd hb (Nat.le_trans hc s1.2.2.2.1) (Nat.le_refl _) (Nat.le_refl _)
      have i := ih m (tadS τ') ad' (j' + 1) _ (by omega) (by omega) h2 s2 (by show yR τ' ≤ yS τ' + 1; omega)
      rw [show nI (yS (tadS τ')) = nI (yS τ + 1) by show nI (yS τ' + 1) = _; rw [y1]] at i
      exact i
