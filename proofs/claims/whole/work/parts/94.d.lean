/-! PURE: the class reads statements: wagers; the whole text. -/
variable {stf : Nat → Nat} {N K b m : Nat} {β : sB} {δ : sD} {H : xH}
variable {t S E : Nat → Nat} {n J tl c lo : Nat} {τ : tS} {ad : Nat → Nat}
theorem C_mem (hT : tkS t n J S E) (hn : n ≤ 1200) (h6 : ∀ q, t q < 256) (hN : 1200 < N) {j : Nat} (h : cY t J S E N b stf tl c lo τ ad j H) (hj : j ≤ J) (ot : Int32) : (∀ i, fnd (yM τ) (ymn τ) (wd t J S E j) = some i → i < 6 ∧ i < yM τ ∧ j < J ∧ (nI i ≠ ot → F_X8_takeTold N (some (b + 2)) (some (c + 4)) (nI (yM τ)) ot H = some (nI i, tkH b (j + 1) H)) ∧ (nI i = ot → F_X8_takeTold N (some (b + 2)) (some (c + 4)) (nI (yM τ)) ot H = some (-1, H))) ∧ (fnd (yM τ) (ymn τ) (wd t J S E j) = none → F_X8_takeTold N (some (b + 2)) (some (c + 4)) (nI (yM τ)) ot H = some (-1, H)) := by
  obtain ⟨hT5, hnm, g, hg, hgt⟩ := h.2.2.2.2.1.2.2.2.2.1
  obtain ⟨e1, e2⟩ := C_told (N := N) hT hn h6 (by omega) (ot := ot) h.1 hj (Nat.le_refl 6) hT5 hg hgt hnm
  rcases fnd_c (yM τ) (ymn τ) (wd t J S E j) with ⟨i, f1, f2, f3⟩ | ⟨f1, f2⟩
  · refine ⟨fun k hk => ?_, fun z => by rw [f1] at z; cases z⟩
    have : i = k := Option.some.inj (f1.symm.trans hk)
    subst this
    refine ⟨by omega, f2, (wd_j hT hn h6 hN (j := j) (by rw [← f3]; exact (hnm.1 i f2).2)).1, fun z => e1 i f2 f3 z, fun z => e2 (fun k k1 k2 => ?_)⟩
    rw [hnm.2 k i k1 f2 (k2.trans f3.symm)]; exact z
  · exact ⟨fun k hk => (by rw [f1] at hk; cases hk), fun _ => e2 (fun i i1 i2 => absurd i2 (f2 i i1))⟩
theorem S_init0 {x1 x2 x3 x4 : Int32} {p1 p2 p3 : Option Nat} : F_X0_init N (some H.2.1) x1 x2 x3 x4 p1 p2 p3 (xnw H (ob 0 xdf_0) 7) = some (xnw H (ob 0 [.int x1, .int x2, .int x3, .int x4, va_rf p1, va_rf p2, va_rf p3]) 7) := by
  unfold F_X0_init xpI xpA
  rw [Option.bind_some, pN (by simp [xdf_0]), Option.bind_some, pN (by simp [xdf_0]), Option.bind_some, pN (by simp [xdf_0]), Option.bind_some, pN (by simp [xdf_0]), Option.bind_some, pN (by simp [xdf_0]), Option.bind_some, pN (by simp [xdf_0]), Option.bind_some, pN (by simp [xdf_0]), Option.bind_some]
  rfl
theorem oCl.cr {k j j' : Nat} {p : Option Nat} {f : Option sem} {H' : xH} (o : oCl N lo H p f) (hw : hW H) (hb : b + 2 < lo) (r : cR t J S E (yT τ) (ytn τ) b stf tl c k j j' H H') : oCl N lo H' p f := o.fr hw (fun q q1 q2 => r.2.1.2 q q2 (by omega))
theorem C_254 {k j0 j a o x y : Nat} {σ : sem} {f g : Option sem} {p1 p2 p3 : Option Nat} {H0 : xH} (h0 : cY t J S E N b stf tl c lo τ ad j0 H0) (r : cR t J S E (yT τ) (ytn τ) b stf tl c k j0 j H0 H) (hk : 2 ≤ k) (hW : yW τ < 12) (ha : a < yM τ ∧ o < yM τ ∧ 1 ≤ x ∧ x ≤ 999 ∧ 1 ≤ y ∧ y ≤ 999) (o1 : oCl N lo H p1 (some σ)) (o2 : oCl N lo H p2 f) (o3 : oCl N lo H p3 g) : sOut t J S E N b stf tl c lo (some (tadB τ (a, o, x, y, σ, f, g)), j) j0 H0 (F_X7_tellBet_J254 N (some tl) (nI a) (nI x) (nI y) (nI o) p1 p2 p3 H) := by
  have h := h0.cr r
  obtain ⟨-, -, -, hw, ⟨h1, ⟨a1, a2, h2⟩, h3, h4, ⟨a3, a4, h5⟩, ⟨a5, a6, h6⟩, ⟨a7, g8, h7, h7'⟩, h8⟩, ⟨y1, y2, y3⟩, c1, c2, c3, c4⟩ := id h
  obtain ⟨k0, k1, k2, k3, k4, ko⟩ := cob_g h1
  obtain ⟨q1, q2, q3, q4, q5, q6, q7, q8⟩ := cob_a h1
  generalize x1 : xnw H (ob 0 [.int (nI a), .int (nI o), .int (nI x), .int (nI y), va_rf p1, va_rf p2, va_rf p3]) 7 = A at *
  have da : clD c H A := by rw [← x1]; exact clD.nw hw
  have ag : ∀ q, q < H.2.1 → A.1 q = H.1 q := fun q hq => by rw [← x1]; exact xnw_ne (by omega)
  have aa : A.1 H.2.1 = some (ob 0 [.int (nI a), .int (nI o), .int (nI x), .int (nI y), va_rf p1, va_rf p2, va_rf p3]) := by rw [← x1]; exact xnw_at
  have ah : A.1 c = some (cob c τ.1) := (ag c (by omega)).trans h1
  have a8 : A.1 (c + 8) = some (aQ "BettingBook$Bet" 12 g8) := (ag _ (by omega)).trans h7
  have st : xsA (.object "BettingBook$Bet") 0 A (some (c + 8)) (nI (yW τ)) (some H.2.1) = some (xup A (c + 8) (aQ "BettingBook$Bet" 12 (va_up g8 (yW τ) (some H.2.1)))) := by
    have z1 : ¬ (nI (yW τ) < 0 ∨ 12 ≤ yW τ) := fun z => z.elim (nI_pos (by omega)) (fun y => by omega)
    have z2 : (nI (yW τ)).toNatClampNeg = yW τ := nI_clamp (by omega)
    unfold xsA
    simp only [a8, aa, z2, z1, not_false_iff, and_self, if_true]
  generalize x2 : xup A (c + 8) (aQ "BettingBook$Bet" 12 (va_up g8 (yW τ) (some H.2.1))) = B at *
  have db : clD c A B := by rw [← x2]; exact clD.up da.2.2.2 a8 (by omega)
  have bh : B.1 c = some (cob c τ.1) := by rw [← x2, xup_ne _ (by omega)]; exact ah
  have e4 := (cob_p bh (k := yW τ + 1)).2.2.1
  have dd : clD c B (xup B c (cob c (τ.1.1, τ.1.2.1, yW τ + 1, τ.1.2.2.2))) := clD.up db.2.2.2 bh (by omega)
  have hd := (da.tr db).tr dd
  have fr : ∀ q, lo ≤ q → q < H.2.1 → (xup B c (cob c (τ.1.1, τ.1.2.1, yW τ + 1, τ.1.2.2.2))).1 q = H.1 q := fun q z1 z2 => hd.2.2.1 q z2 (by omega)
  have e : F_X7_tellBet_J254 N (some tl) (nI a) (nI x) (nI y) (nI o) p1 p2 p3 H = some (1, xup B c (cob c (τ.1.1, τ.1.2.1, yW τ + 1, τ.1.2.2.2))) := by
    unfold F_X7_tellBet_J254 x_lt xno F_X2_addBet
    have i0 := S_init0 (N := N) (H := H) (x1 := nI a) (x2 := nI o) (x3 := nI x) (x4 := nI y) (p1 := p1) (p2 := p2) (p3 := p3)
    rw [x1] at i0
    simp only [h.tt.2.1, i0, obx ah, (cob_g ah).2.2.1, (cob_a ah).2.2.2.2.2.2.2, leQ a8, show ¬ nI 12 ≤ nI τ.1.2.2.1 from nI_ge hW (by decide), if_false, show xsA (.object "BettingBook$Bet") 0 A (some (c + 8)) (nI τ.1.2.2.1) (some H.2.1) = some B from st, (cob_g bh).2.2.1, nI_1, show xpI B (some c) 2 2 (nI (τ.1.2.2.1 + 1)) = _ from e4, Option.bind_some]
  rw [e]
  have s0 := ((r.s h0).le (k' := 2) hk).d (k' := 0) hd (by omega) (by omega) (by show B.2.1 + 0 ≤ _; rw [← x2]; show A.2.1 + 0 ≤ _; rw [← x1]; show H.2.1 + 1 + 0 ≤ _; omega) (by show B.2.2.1 + 5 * 0 ≤ _; rw [← x2]; show A.2.2.1 + 5 * 0 ≤ _; rw [← x1]; show H.2.2.1 + 7 + 5 * 0 ≤ _; omega)
  refine ⟨1, _, rfl, s0, (fun z => by cases z), fun σ' hσ => ⟨rfl, ins ad (yW τ) H.2.1, ?_⟩⟩
  cases hσ
  refine h.d hd ⟨xup_at _, ⟨a1, a2, ?_⟩, ?_, ?_, ⟨a3, a4, ?_⟩, ⟨a5, a6, ?_⟩, ⟨by show yW τ + 1 ≤ 12; omega, va_up g8 (yW τ) (some H.2.1), ?_, fun w hw' => ?_⟩, fun w hq => ?_⟩ ⟨y1, y2, fun w hq => ?_⟩
  · rw [xup_ne _ (by omega), ← x2, xup_ne _ (by omega), ag _ (by omega)]; exact h2
  · rw [xup_ne _ (by omega), ← x2, xup_ne _ (by omega), ag _ (by omega)]; exact h3
  · rw [xup_ne _ (by omega), ← x2, xup_ne _ (by omega), ag _ (by omega)]; exact h4
  · rw [xup_ne _ (by omega), ← x2, xup_ne _ (by omega), ag _ (by omega)]; exact h5
  · rw [xup_ne _ (by omega), xup_ne _ (by omega), xup_ne _ (by omega), ← x2, xup_ne _ (by omega), xup_ne _ (by omega), xup_ne _ (by omega), ag _ (by omega), ag _ (by omega), ag _ (by omega)]; exact h6
  · rw [xup_ne _ (by omega), ← x2, xup_at]
  · by_cases q : w = yW τ
    · rw [q, va_us, ins_s]
    · rw [va_un q, ins_n q]; exact h7' w (by have : w < yW τ + 1 := hw'; omega)
  · show cBt N lo (ins (yb τ) (yW τ) (a, o, x, y, σ, f, g) w) (ins ad (yW τ) H.2.1 w) _
    by_cases q : w = yW τ
    · rw [q, ins_s, ins_s]
      exact ⟨p1, p2, p3, by rw [xup_ne _ (by omega), ← x2, xup_ne _ (by omega)]; exact aa, c4, o1.fr hw fr, o2.fr hw fr, o3.fr hw fr⟩
    · rw [ins_n q, ins_n q]
      exact (h8 w (by have : w < yW τ + 1 := hq; omega)).fr hw fr
  · show (ins (yb τ) (yW τ) (a, o, x, y, σ, f, g) w).1 < yM τ ∧ (ins (yb τ) (yW τ) (a, o, x, y, σ, f, g) w).2.1 < yM τ ∧ 1 ≤ (ins (yb τ) (yW τ) (a, o, x, y, σ, f, g) w).2.2.1 ∧ (ins (yb τ) (yW τ) (a, o, x, y, σ, f, g) w).2.2.1 ≤ 999 ∧ 1 ≤ (ins (yb τ) (yW τ) (a, o, x, y, σ, f, g) w).2.2.2.1 ∧ (ins (yb τ) (yW τ) (a, o, x, y, σ, f, g) w).2.2.2.1 ≤ 999
    by_cases q : w = yW τ
    · rw [q, ins_s]; exact ha
    · rw [ins_n q]; exact y3 w (by have : w < yW τ + 1 := hq; omega)
/-- a claim is read, within a wager -/
theorem C_cl (hT : tkS t n J S E) (hn : n ≤ 1200) (h6 : ∀ q, t q < 256) (hN : 1200 < N) {k j0 j : Nat} {H0 : xH} (h0 : cY t J S E N b stf tl c lo τ ad j0 H0) (r : cR t J S E (yT τ) (ytn τ) b stf tl c k j0 j H0 H) : ∃ (x : Option Nat) (H' : xH), F_X7_any N (some tl) 0 H = some (x, H') ∧ cR t J S E (yT τ) (ytn τ) b stf tl c k j0 (pCl t J S E τ j).2 H0 H' ∧ cR t J S E (yT τ) (ytn τ) b stf tl c 0 j (pCl t J S E τ j).2 H H' ∧ ((pCl t J S E τ j).1 = none → x = none) ∧ ∀ σ, (pCl t J S E τ j).1 = some σ → x ≠ none ∧ oCl N lo H' x (some σ) := by
  have h := h0.cr r
  obtain ⟨x, H', e1, e2, e3, e4⟩ := C_claim hT hn h6 hN h.p r.2.2.2.2.1
  refine ⟨x, H', e1, r.tr e2, e2, e3, fun σ hσ => ?_⟩
  obtain ⟨-, a, z2, z3, z4, z5⟩ := e4 σ hσ
  have hl := h.2.2.2.2.2.2.2.2.2
  exact ⟨(by rw [z2]; exact fun z => (by cases z)), fun z => (by cases z), fun ρ hρ => by cases hρ; exact ⟨a, z2, Nat.le_trans hl z3, z4.mono (Nat.le_refl _) hl, z5⟩⟩
theorem C_td (hT : tkS t n J S E) (hn : n ≤ 1200) (h6 : ∀ q, t q < 256) (hN : 1200 < N) {k j0 j a o x y : Nat} {σ : sem} {f : Option sem} {p1 p2 : Option Nat} {H0 : xH} (h0 : cY t J S E N b stf tl c lo τ ad j0 H0) (r : cR t J S E (yT τ) (ytn τ) b stf tl c k j0 j H0 H) (hk : 2 ≤ k) (hW : yW τ < 12) (ha : a < yM τ ∧ o < yM τ ∧ 1 ≤ x ∧ x ≤ 999 ∧ 1 ≤ y ∧ y ≤ 999) (o1 : oCl N lo H p1 (some σ)) (o2 : oCl N lo H p2 f) : sOut t J S E N b stf tl c lo (pTd t J S E τ a o x y σ f j) j0 H0 (F_X7_tellBet_J194 N (some tl) (nI a) (nI x) (nI y) (nI o) p1 p2 1 H) := by
  have h := h0.cr r
  obtain ⟨a1, a2, a3, a4, a5, a6, -⟩ := h.tt
  have hb : b + 2 < lo := by have := h.2.2.2.2.2.2; omega
  unfold F_X7_tellBet_J194 pTd
  simp only [if_neg n10, a1, a3, a6, h.p.w hT hn h6 r.2.2.2.2.1 (show 11 < 19 by decide), Option.bind_some]
  by_cases q1 : wd t J S E j = kw 11
  rotate_left
  · rw [cif_f q1, if_neg q1]
    simp only [bd2_s, if_true, F_X7_tellBet_J218, F_X7_tellBet_J219, F_X7_tellBet_J235, if_neg n10]
    exact C_254 h0 r hk hW ha o1 o2 ⟨fun _ => rfl, fun σ hσ => by cases hσ⟩
  have rt := cR.tk hT h.p (kw_J hT hn h6 hN q1 (by decide))
  have R1 := r.tk' hT (kw_J hT hn h6 hN q1 (by decide))
  rw [cif_t q1, if_pos q1]
  have h1 := h0.cr R1
  obtain ⟨v, H', e1, e2, e2', e3, e4⟩ := C_cl hT hn h6 hN h0 R1
  simp only [bd2_s, if_neg n10, F_X7_tellBet_J219, h1.tt.2.2.2.1, e1, Option.bind_some]
  cases hp : (pCl t J S E τ (j + 1)).1 with
  | none =>
    rw [qbd_n hp, e3 hp]
    simp only [F_X7_tellBet_J235, if_neg n10, if_true]
    exact sOut.no h0 e2
  | some ρ =>
    rw [qbd_s hp]
    obtain ⟨z1, z2⟩ := e4 ρ hp
    simp only [F_X7_tellBet_J235, if_neg n10, if_neg z1]
    exact C_254 h0 e2 (by omega) hW ha ((o1.cr h.2.2.2.1 hb rt).cr h1.2.2.2.1 hb e2') ((o2.cr h.2.2.2.1 hb rt).cr h1.2.2.2.1 hb e2') z2
theorem C_to (hT : tkS t n J S E) (hn : n ≤ 1200) (h6 : ∀ q, t q < 256) (hN : 1200 < N) {k j0 j a o x y : Nat} {σ : sem} {p1 : Option Nat} {H0 : xH} (h0 : cY t J S E N b stf tl c lo τ ad j0 H0) (r : cR t J S E (yT τ) (ytn τ) b stf tl c k j0 j H0 H) (hk : 2 ≤ k) (hW : yW τ < 12) (ha : a < yM τ ∧ o < yM τ ∧ 1 ≤ x ∧ x ≤ 999 ∧ 1 ≤ y ∧ y ≤ 999) (o1 : oCl N lo H p1 (some σ)) (hp1 : p1 ≠ none) : sOut t J S E N b stf tl c lo (pTo t J S E τ a o x y σ j) j0 H0 ((xgA H (some tl) 7 0).bind fun v11 => (xob H v11 8).bind fun b13 => x_bd2 (F_X8_take N v11 (some (H.2.2.2 10)) H) fun v14 H12 => if v14 = 0 then ((F_X7_tellBet_J155 N) (some tl) (nI a) (nI x) (nI y) (nI o) p1 H12) else ((F_X7_tellBet_J156 N) (some tl) (nI a) (nI x) (nI y) (nI o) p1 (1 : Int32) H12)) := by
  have h := h0.cr r
  obtain ⟨a1, a2, a3, a4, a5, a6, -⟩ := h.tt
  have hb : b + 2 < lo := by have := h.2.2.2.2.2.2; omega
  unfold pTo
  simp only [a1, a3, a6, h.p.w hT hn h6 r.2.2.2.2.1 (show 10 < 19 by decide), Option.bind_some]
  by_cases q1 : wd t J S E j = kw 10
  rotate_left
  · rw [cif_f q1, if_neg q1]
    simp only [bd2_s, if_true, F_X7_tellBet_J155, F_X7_tellBet_J156, F_X7_tellBet_J172, if_neg hp1, F_X7_tellBet_J189]
    exact C_td hT hn h6 hN h0 r hk hW ha o1 ⟨fun _ => rfl, fun σ hσ => by cases hσ⟩
  have rt := cR.tk hT h.p (kw_J hT hn h6 hN q1 (by decide))
  have R1 := r.tk' hT (kw_J hT hn h6 hN q1 (by decide))
  rw [cif_t q1, if_pos q1]
  have h1 := h0.cr R1
  obtain ⟨v, H', e1, e2, e2', e3, e4⟩ := C_cl hT hn h6 hN h0 R1
  simp only [bd2_s, if_neg n10, F_X7_tellBet_J156, h1.tt.2.2.2.1, e1, Option.bind_some]
  cases hp : (pCl t J S E τ (j + 1)).1 with
  | none =>
    rw [qbd_n hp, e3 hp]
    simp only [F_X7_tellBet_J172, if_neg hp1, if_true, if_neg n10, F_X7_tellBet_J193, F_X7_tellBet_J194, F_X7_tellBet_J218, F_X7_tellBet_J219, F_X7_tellBet_J235]
    exact sOut.no h0 e2
  | some ρ =>
    rw [qbd_s hp]
    obtain ⟨z1, z2⟩ := e4 ρ hp
    simp only [F_X7_tellBet_J172, if_neg hp1, if_neg z1, F_X7_tellBet_J189]
    exact C_td hT hn h6 hN h0 e2 (by omega) hW ha ((o1.cr h.2.2.2.1 hb rt).cr h1.2.2.2.1 hb e2') z2
theorem C_tellBet (hT : tkS t n J S E) (hn : n ≤ 1200) (h6 : ∀ q, t q < 256) (hN : 1200 < N) {j : Nat} (h : cY t J S E N b stf tl c lo τ ad j H) (hj : j ≤ J) (hW : yW τ < 12) : sOut t J S E N b stf tl c lo (pTb t J S E τ j) j H (F_X7_tellBet N (some tl) H) := by
  obtain ⟨a1, a2, a3, a4, a5, a6, a7, a8⟩ := h.tt
  have b8 := (cob_a h.2.2.2.2.1.1).2.2.2.1
  obtain ⟨e1, e1'⟩ := C_mem hT hn h6 hN h hj (-1)
  unfold F_X7_tellBet pTb
  simp only [a1, a2, a3, b8, a8, Option.bind_some]
  rcases fnd_c (yM τ) (ymn τ) (wd t J S E j) with ⟨i, f1, f2, f3⟩ | ⟨f1, f2⟩
  rotate_left
  · rw [obd_n f1, e1' f1]
    simp only [bd2_s, show ¬ (0 : Int32) ≤ -1 by decide, if_false, F_X7_tellBet_J42, show (-1 : Int32) < 0 by decide, if_true]
    exact sOut.no h (cR.rf h.p hj)
  obtain ⟨i6, iM, j1, e2, -⟩ := e1 i f1
  have R1 := cR.tk hT h.p j1
  have h1 := h.cr R1
  rw [obd_s f1, e2 (nIm1 (by omega))]
  simp only [bd2_s, nI_pos' (show i < 2 ^ 31 by omega), if_true]
  clear e1 e1' e2
  generalize tkH b (j + 1) H = H1 at *
  obtain ⟨a1, a2, a3, a4, a5, a6, a7, a8⟩ := h1.tt
  have e3 := C_num (N := N) hT hn h6 (lo := 1) (hi := 999) R1.1.1 R1.2.2.2.2.1 (by decide) (by decide)
  rw [show nI 1 = (1 : Int32) from rfl, show nI 999 = (999 : Int32) from rfl] at e3
  simp only [a1, a3, Option.bind_some]
  by_cases q1 : isN t J S E (j + 1) 1 999
  rotate_left
  · rw [cif_f q1, e3.2 q1]
    simp only [bd2_s, F_X7_tellBet_J42, show (-1 : Int32) < 0 by decide, if_true]
    exact sOut.no h R1
  have R2 := R1.tk' hT q1.1
  have h2 := h.cr R2
  have l2 := nv_le q1
  have g2 := nv_ge q1
  rw [cif_t q1, e3.1 q1]
  simp only [bd2_s, F_X7_tellBet_J42, nI_pos (show nv t S E (j + 1) < 2 ^ 31 by omega), if_false]
  clear e3
  generalize tkH b (j + 1 + 1) H1 = H2 at *
  obtain ⟨a1, a2, a3, a4, a5, a6, a7, a8⟩ := h2.tt
  simp only [a1, a3, a6, h2.p.w hT hn h6 R2.2.2.2.2.1 (show 8 < 19 by decide), Option.bind_some]
  by_cases q2 : wd t J S E (j + 1 + 1) = kw 8
  rotate_left
  · rw [cif_f q2, if_neg q2]
    simp only [bd2_s, if_true]
    exact sOut.no h R2
  have R3 := R2.tk' hT (kw_J hT hn h6 hN q2 (by decide))
  have h3 := h.cr R3
  rw [cif_t q2, if_pos q2]
  simp only [bd2_s, if_neg n10]
  generalize tkH b (j + 1 + 1 + 1) H2 = H3 at *
  obtain ⟨a1, a2, a3, a4, a5, a6, a7, a8⟩ := h3.tt
  have e3 := C_num (N := N) hT hn h6 (lo := 1) (hi := 999) R3.1.1 R3.2.2.2.2.1 (by decide) (by decide)
  rw [show nI 1 = (1 : Int32) from rfl, show nI 999 = (999 : Int32) from rfl] at e3
  simp only [a1, a3, Option.bind_some]
  by_cases q3 : isN t J S E (j + 1 + 1 + 1) 1 999
  rotate_left
  · rw [cif_f q3, e3.2 q3]
    simp only [bd2_s, show ¬ (0 : Int32) ≤ -1 by decide, if_false, F_X7_tellBet_J104, show (-1 : Int32) < 0 by decide, if_true]
    exact sOut.no h R3
  have R4 := R3.tk' hT q3.1
  have h4 := h.cr R4
  have l4 := nv_le q3
  have g4 := nv_ge q3
  rw [cif_t q3, e3.1 q3]
  simp only [bd2_s, nI_pos' (show nv t S E (j + 1 + 1 + 1) < 2 ^ 31 by omega), if_true]
  clear e3
  generalize tkH b (j + 1 + 1 + 1 + 1) H3 = H4 at *
  obtain ⟨a1, a2, a3, a4, a5, a6, a7, a8⟩ := h4.tt
  have b8 := (cob_a h4.2.2.2.2.1.1).2.2.2.1
  obtain ⟨e1, e1'⟩ := C_mem hT hn h6 hN h4 R4.2.2.2.2.1 (nI i)
  simp only [a1, a2, a3, b8, a8, Option.bind_some]
  rcases fnd_c (yM τ) (ymn τ) (wd t J S E (j + 1 + 1 + 1 + 1)) with ⟨u, g1, g2', g3⟩ | ⟨g1, g2'⟩
  rotate_left
  · rw [obd_n g1, e1' g1]
    simp only [bd2_s, F_X7_tellBet_J104, show (-1 : Int32) < 0 by decide, if_true]
    exact sOut.no h R4
  obtain ⟨u6, uM, j2, e2, e3⟩ := e1 u g1
  rw [obd_s g1]
  by_cases q4 : u = i
  · rw [cif_t q4, e3 (by rw [q4])]
    simp only [bd2_s, F_X7_tellBet_J104, show (-1 : Int32) < 0 by decide, if_true]
    exact sOut.no h R4
  have R5 := R4.tk' hT j2
  have h5 := h.cr R5
  rw [cif_f q4, e2 (fun z => q4 ((nI_eq (by omega) (by omega)).mp z))]
  simp only [bd2_s, F_X7_tellBet_J104, nI_pos (show u < 2 ^ 31 by omega), if_false]
  clear e1 e1' e2 e3
  generalize tkH b (j + 1 + 1 + 1 + 1 + 1) H4 = H5 at *
  obtain ⟨a1, a2, a3, a4, a5, a6, a7, a8⟩ := h5.tt
  simp only [a1, a3, a6, h5.p.w hT hn h6 R5.2.2.2.2.1 (show 9 < 19 by decide), Option.bind_some]
  by_cases q5 : wd t J S E (j + 1 + 1 + 1 + 1 + 1) = kw 9
  rotate_left
  · rw [cif_f q5, if_neg q5]
    simp only [bd2_s, if_true]
    exact sOut.no h R5
  have R6 := R5.tk' hT (kw_J hT hn h6 hN q5 (by decide))
  have h6' := h.cr R6
  rw [cif_t q5, if_pos q5]
  obtain ⟨v, H', e1, e2, e2', e3, e4⟩ := C_cl hT hn h6 hN h R6
  simp only [bd2_s, if_neg n10, h6'.tt.2.2.2.1, e1, Option.bind_some]
  cases hp : (pCl t J S E τ (j + 1 + 1 + 1 + 1 + 1 + 1)).1 with
  | none =>
    rw [qbd_n hp, e3 hp]
    simp only [if_true, F_X7_tellBet_J155, F_X7_tellBet_J156, F_X7_tellBet_J172, F_X7_tellBet_J193, F_X7_tellBet_J194, F_X7_tellBet_J218, F_X7_tellBet_J219, F_X7_tellBet_J235]
    exact sOut.no h e2
  | some ρ =>
    rw [qbd_s hp]
    obtain ⟨z1, z2⟩ := e4 ρ hp
    rw [if_neg z1]
    exact C_to hT hn h6 hN h e2 (by omega) hW ⟨iM, uM, g2, l2, g4, l4⟩ z2 z1
