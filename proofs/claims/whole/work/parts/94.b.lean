/-! PURE: the class takes up what is told. -/
variable {stf : Nat → Nat} {N K b m : Nat} {β : sB} {δ : sD} {H : xH}
variable {t S E : Nat → Nat} {n J tl c lo : Nat} {τ : tS} {ad : Nat → Nat}
/-- the class has read the statements τ and is at token j -/
def cY (t : Nat → Nat) (J : Nat) (S E : Nat → Nat) (N b : Nat) (stf : Nat → Nat) (tl c lo : Nat) (τ : tS) (ad : Nat → Nat) (j : Nat) (H : xH) : Prop := cTk t J S E b (nI j) H ∧ xWd b stf H ∧ H.1 tl = some (ob 7 [va_rf (some (b + 2)), va_rf (some c)]) ∧ hW H ∧ cL N c lo τ ad H ∧ yOk τ ∧ b + 6 ≤ c ∧ c + 9 ≤ tl ∧ tl < lo ∧ lo ≤ H.2.1
/-- from token j to token j', whatever came of it -/
def sR (t : Nat → Nat) (J : Nat) (S E : Nat → Nat) (b c k j j' : Nat) (H H' : xH) : Prop := cTk t J S E b (nI j') H' ∧ hW H' ∧ H'.2.2.2 = H.2.2.2 ∧ H.2.1 ≤ H'.2.1 ∧ (∀ q, q < c → q ≠ b + 2 → H'.1 q = H.1 q) ∧ j ≤ j' ∧ j' ≤ J ∧ H'.2.1 + S j + k ≤ H.2.1 + S j' ∧ H'.2.2.1 + 5 * (S j + k) ≤ H.2.2.1 + 5 * S j'
theorem cY.p {j : Nat} (h : cY t J S E N b stf tl c lo τ ad j H) : cP t J S E (yT τ) (ytn τ) b stf tl c j H := by
  obtain ⟨h1, h2, h3, h4, ⟨h5, h6, -⟩, -⟩ := h
  exact ⟨h1, h2, h3, ⟨⟨_, h5, rfl, rfl⟩, h6⟩, h4⟩
theorem cY.cr {k j j' : Nat} {H' : xH} (h : cY t J S E N b stf tl c lo τ ad j H) (r : cR t J S E (yT τ) (ytn τ) b stf tl c k j j' H H') : cY t J S E N b stf tl c lo τ ad j' H' := by
  obtain ⟨h1, h2, h3, h4, h5, h6, h7, h8, h9, h10⟩ := h
  obtain ⟨⟨r1, r2, r3, r4, r5⟩, ⟨r6, r7⟩, -⟩ := r
  exact ⟨r1, r2, r3, r5, h5.fr h4 (by omega) h10 (fun q q1 q2 => r7 q q2 (by omega)), h6, h7, h8, h9, by omega⟩
theorem cR.s {k j j' : Nat} {H' : xH} (h : cY t J S E N b stf tl c lo τ ad j H) (r : cR t J S E (yT τ) (ytn τ) b stf tl c k j j' H H') : sR t J S E b c k j j' H H' := by
  obtain ⟨h1, h2, h3, h4, h5, h6, h7, h8, h9, h10⟩ := h
  obtain ⟨⟨r1, r2, r3, r4, r5⟩, ⟨r6, r7⟩, -, r8, r9, r10, r11⟩ := r
  exact ⟨r1, r5, r2.2.1.trans h2.2.1.symm, r6, fun q q1 q2 => r7 q (by omega) q2, r8, r9, r10, r11⟩
theorem sR.tr {k k' j j1 j2 : Nat} {H1 H2 : xH} (h : sR t J S E b c k j j1 H H1) (g : sR t J S E b c k' j1 j2 H1 H2) : sR t J S E b c (k + k') j j2 H H2 := by
  obtain ⟨a1, a2, a3, a4, a5, a6, a7, a8, a9⟩ := h
  obtain ⟨b1, b2, b3, b4, b5, b6, b7, b8, b9⟩ := g
  exact ⟨b1, b2, b3.trans a3, by omega, fun q q1 q2 => (b5 q q1 q2).trans (a5 q q1 q2), by omega, b7, by omega, by omega⟩
theorem sR.le {k k' j j1 : Nat} {H1 : xH} (h : sR t J S E b c k j j1 H H1) (hk : k' ≤ k) : sR t J S E b c k' j j1 H H1 := by
  obtain ⟨a1, a2, a3, a4, a5, a6, a7, a8, a9⟩ := h
  exact ⟨a1, a2, a3, a4, a5, a6, a7, by omega, by omega⟩
/-- something's done to the club, and new cells -/
def clD (c : Nat) (H H' : xH) : Prop := H'.2.2.2 = H.2.2.2 ∧ H.2.1 ≤ H'.2.1 ∧ (∀ q, q < H.2.1 → ¬ (c ≤ q ∧ q < c + 9) → H'.1 q = H.1 q) ∧ hW H'
theorem cY.d {j : Nat} {H' : xH} {τ' : tS} {ad' : Nat → Nat} (h : cY t J S E N b stf tl c lo τ ad j H) (d : clD c H H') (l : cL N c lo τ' ad' H') (o : yOk τ') : cY t J S E N b stf tl c lo τ' ad' j H' := by
  obtain ⟨⟨gk, gs, gv, ⟨t1, t2, t3, t4⟩, t5, t6⟩, h2, h3, h4, h5, h6, h7, h8, h9, h10⟩ := h
  obtain ⟨d1, d2, d3, d4⟩ := d
  exact ⟨⟨gk, gs, gv, ⟨(d3 _ (by omega) (by omega)).trans t1, (d3 _ (by omega) (by omega)).trans t2, (d3 _ (by omega) (by omega)).trans t3, (d3 _ (by omega) (by omega)).trans t4⟩, t5, t6⟩, h2.fr d1 (fun a ha => d3 a (by omega) (by omega)), (d3 tl (by omega) (by omega)).trans h3, d4, l, o, h7, h8, h9, by omega⟩
theorem sR.d {k k' j j1 : Nat} {H1 H2 : xH} (h : sR t J S E b c k j j1 H H1) (d : clD c H1 H2) (hb : b + 6 ≤ c) (hc : c ≤ H1.2.1) (h5 : H2.2.1 + k' ≤ H1.2.1 + k) (h6 : H2.2.2.1 + 5 * k' ≤ H1.2.2.1 + 5 * k) : sR t J S E b c k' j j1 H H2 := by
  obtain ⟨⟨gk, gs, gv, ⟨t1, t2, t3, t4⟩, t5, t6⟩, a2, a3, a4, a5, a6, a7, a8, a9⟩ := h
  obtain ⟨d1, d2, d3, d4⟩ := d
  exact ⟨⟨gk, gs, gv, ⟨(d3 _ (by omega) (by omega)).trans t1, (d3 _ (by omega) (by omega)).trans t2, (d3 _ (by omega) (by omega)).trans t3, (d3 _ (by omega) (by omega)).trans t4⟩, t5, t6⟩, d4, d1.trans a3, by omega, fun q q1 q2 => (d3 q (by omega) (by omega)).trans (a5 q q1 q2), a6, a7, by omega, by omega⟩
theorem clD.up {a : Nat} {e f : xE} (hw : hW H) (hf : H.1 a = some f) (ha : c ≤ a ∧ a < c + 9) : clD c H (xup H a e) := ⟨rfl, Nat.le_refl _, fun q _ hq => xup_ne _ (fun z => hq (by rw [z]; exact ha)), hw.up hf⟩
theorem clD.tr {H1 H2 : xH} (h : clD c H H1) (g : clD c H1 H2) : clD c H H2 := ⟨g.1.trans h.1, Nat.le_trans h.2.1 g.2.1, fun q q1 q2 => (g.2.2.1 q (Nat.lt_of_lt_of_le q1 h.2.1) q2).trans (h.2.2.1 q q1 q2), g.2.2.2⟩
theorem clD.nw {e : xE} {k : Nat} (hw : hW H) : clD c H (xnw H e k) := ⟨rfl, Nat.le_succ _, fun q q1 _ => xnw_ne (by omega), hw.nw⟩
theorem nmW.ins {T : Nat} {nm : Nat → List Nat} {W : List Nat} (h : nmW T nm) (hW : wdo W) (h0 : W ≠ []) (hf : ∀ i, i < T → nm i ≠ W) : nmW (T + 1) (ins nm T W) := by
  refine ⟨fun i hi => ?_, fun i k hi hk e => ?_⟩
  · by_cases q : i = T
    · rw [q, ins_s]; exact ⟨hW, h0⟩
    · rw [ins_n q]; exact h.1 i (by omega)
  · by_cases q : i = T
    · by_cases q2 : k = T
      · rw [q, q2]
      · rw [q, ins_s, ins_n q2] at e; exact absurd e.symm (hf k (by omega))
    · by_cases q2 : k = T
      · rw [q2, ins_s, ins_n q] at e; exact absurd e (hf i (by omega))
      · rw [ins_n q, ins_n q2] at e; exact h.2 i k (by omega) (by omega) e
/-- arrays of a club, one place more -/
theorem gJ1 {T : Nat} {g : Nat → Int64} {f : Nat → Int64} {x : Int64} (h : ∀ i, i < T → g i = f i) : ∀ i, i < T + 1 → vp_updL g T x i = ins f T x i := fun i hi => by
  by_cases q : i = T
  · rw [q, pk_uLs, ins_s]
  · rw [pk_uLn q, ins_n q]; exact h i (by omega)
theorem gI1 {T : Nat} {g : Nat → Int32} {f : Nat → Nat} {x : Nat} (h : ∀ i, i < T → g i = nI (f i)) : ∀ i, i < T + 1 → upd g T (nI x) i = nI (ins f T x i) := fun i hi => by
  by_cases q : i = T
  · rw [q, pk_us, ins_s]
  · rw [pk_un q, ins_n q]; exact h i (by omega)
theorem gN1 {T : Nat} {g : Nat → Int64} {nm : Nat → List Nat} {W : List Nat} {w : List Nat → Nat} (h : ∀ i, i < T → g i = lN (w (nm i))) : ∀ i, i < T + 1 → vp_updL g T (lN (w W)) i = lN (w (ins nm T W i)) := fun i hi => by
  by_cases q : i = T
  · rw [q, pk_uLs, ins_s]
  · rw [pk_uLn q, ins_n q]; exact h i (by omega)
theorem cob_g {x : Nat × Nat × Nat × Nat × Nat} (h : H.1 c = some (cob c x)) : xgI H (some c) 2 0 = some (nI x.1) ∧ xgI H (some c) 2 1 = some (nI x.2.1) ∧ xgI H (some c) 2 2 = some (nI x.2.2.1) ∧ xgI H (some c) 2 3 = some (nI x.2.2.2.1) ∧ xgI H (some c) 2 4 = some (nI x.2.2.2.2) ∧ xob H (some c) 2 = some c := ⟨gI h rfl, gI h rfl, gI h rfl, gI h rfl, gI h rfl, obx h⟩
theorem cob_a {x : Nat × Nat × Nat × Nat × Nat} (h : H.1 c = some (cob c x)) : xgA H (some c) 2 5 = some (some (c + 1)) ∧ xgA H (some c) 2 6 = some (some (c + 2)) ∧ xgA H (some c) 2 7 = some (some (c + 3)) ∧ xgA H (some c) 2 8 = some (some (c + 4)) ∧ xgA H (some c) 2 9 = some (some (c + 5)) ∧ xgA H (some c) 2 10 = some (some (c + 6)) ∧ xgA H (some c) 2 11 = some (some (c + 7)) ∧ xgA H (some c) 2 12 = some (some (c + 8)) := ⟨gA h rfl, gA h rfl, gA h rfl, gA h rfl, gA h rfl, gA h rfl, gA h rfl, gA h rfl⟩
theorem cob_p {x : Nat × Nat × Nat × Nat × Nat} (h : H.1 c = some (cob c x)) {k : Nat} : xpI H (some c) 2 0 (nI k) = some (xup H c (cob c (k, x.2))) ∧ xpI H (some c) 2 1 (nI k) = some (xup H c (cob c (x.1, k, x.2.2))) ∧ xpI H (some c) 2 2 (nI k) = some (xup H c (cob c (x.1, x.2.1, k, x.2.2.2))) ∧ xpI H (some c) 2 3 (nI k) = some (xup H c (cob c (x.1, x.2.1, x.2.2.1, k, x.2.2.2.2))) ∧ xpI H (some c) 2 4 (nI k) = some (xup H c (cob c (x.1, x.2.1, x.2.2.1, x.2.2.2.1, k))) := ⟨pV h (by simp), pV h (by simp), pV h (by simp), pV h (by simp), pV h (by simp)⟩
theorem C_addT (hN : 5 < N) {j : Nat} {W : List Nat} {f u : Nat} (h : cY t J S E N b stf tl c lo τ ad j H) (hT : yT τ < 5) (hW : wdo W) (hf : isNw τ W) (f7 : f ≤ 7) (u7 : u ≤ 7) : ∃ H', F_X2_addThing N (some c) (lN (w5 W)) (nI f) (nI u) H = some H' ∧ cY t J S E N b stf tl c lo (tadT τ W f u) ad j H' ∧ clD c H H' ∧ H'.2 = H.2 := by
  obtain ⟨-, -, -, hw, ⟨h1, ⟨a1, a2, g1, h2, h2'⟩, ⟨g2, h3, h3'⟩, ⟨g3, h4, h4'⟩, ⟨a3, a4, h5⟩, ⟨a5, a6, h6⟩, ⟨a7, h7⟩, h8⟩, ⟨o1, o2, o3⟩, c1, c2, c3, c4⟩ := id h
  obtain ⟨k0, k1, k2, k3, k4, ko⟩ := cob_g h1
  obtain ⟨q1, q2, q3, q4, q5, q6, q7, q8⟩ := cob_a h1
  have e1 := stJ (v := lN (w5 W)) h2 hT (by decide)
  generalize x1 : xup H (c + 1) (aJ 5 (vp_updL g1 (yT τ) (lN (w5 W)))) = A at *
  have ah : A.1 c = some (cob c τ.1) := by rw [← x1, xup_ne _ (by omega)]; exact h1
  have a3' : A.1 (c + 2) = some (aI 5 g2) := by rw [← x1, xup_ne _ (by omega)]; exact h3
  have da : clD c H A := by rw [← x1]; exact clD.up hw h2 (by omega)
  have e2 := S_set (N := N) (v := nI f) a3' hT (by decide)
  generalize x2 : xup A (c + 2) (aI 5 (upd g2 (yT τ) (nI f))) = B at *
  have bh : B.1 c = some (cob c τ.1) := by rw [← x2, xup_ne _ (by omega)]; exact ah
  have b4 : B.1 (c + 3) = some (aI 5 g3) := by rw [← x2, xup_ne _ (by omega), ← x1, xup_ne _ (by omega)]; exact h4
  have db : clD c A B := by rw [← x2]; exact clD.up da.2.2.2 a3' (by omega)
  have e3 := S_set (N := N) (v := nI u) b4 hT (by decide)
  generalize x3 : xup B (c + 3) (aI 5 (upd g3 (yT τ) (nI u))) = D at *
  have dh : D.1 c = some (cob c τ.1) := by rw [← x3, xup_ne _ (by omega)]; exact bh
  have dd : clD c B D := by rw [← x3]; exact clD.up db.2.2.2 b4 (by omega)
  have e4 := (cob_p dh (k := yT τ + 1)).1
  have de : clD c D (xup D c (cob c (yT τ + 1, τ.1.2))) := clD.up dd.2.2.2 dh (by omega)
  have hd := ((da.tr db).tr dd).tr de
  refine ⟨_, ?_, h.d hd ⟨xup_at _, ⟨by show yT τ + 1 ≤ 5; omega, a2.ins hW hf.1 hf.2.2.1, _, ?_, gN1 h2'⟩, ⟨_, ?_, gI1 h3'⟩, ⟨_, ?_, gI1 h4'⟩, ⟨a3, a4, ?_⟩, ⟨a5, a6, ?_⟩, ⟨a7, ?_⟩, fun w hq => (h8 w hq).fr hw (fun q z1 z2 => hd.2.2.1 q z2 (by omega))⟩ ⟨fun i hi => ?_, fun r hr => ?_, o3⟩, hd, ?_⟩
  · unfold F_X2_addThing
    simp only [k0, q1, leJ h2, show ¬ nI 5 ≤ nI τ.1.1 from nI_ge hT (by decide), if_false, show xsJ H (some (c + 1)) (nI τ.1.1) (lN (w5 W)) = some A from e1, (cob_a ah).2.1, (cob_g ah).1, show F_X11_set N (some (c + 2)) (nI τ.1.1) (nI f) A = some B from e2, (cob_a bh).2.2.1, (cob_g bh).1, show F_X11_set N (some (c + 3)) (nI τ.1.1) (nI u) B = some D from e3, (cob_g dh).1, nI_1, show xpI D (some c) 2 0 (nI (τ.1.1 + 1)) = _ from e4, Option.bind_some]
  · rw [xup_ne _ (by omega), ← x3, xup_ne _ (by omega), ← x2, xup_ne _ (by omega), ← x1, xup_at]
  · rw [xup_ne _ (by omega), ← x3, xup_ne _ (by omega), ← x2, xup_at]
  · rw [xup_ne _ (by omega), ← x3, xup_at]
  · rw [xup_ne _ (by omega), ← x3, xup_ne _ (by omega), ← x2, xup_ne _ (by omega), ← x1, xup_ne _ (by omega)]; exact h5
  · rw [xup_ne _ (by omega), xup_ne _ (by omega), xup_ne _ (by omega), ← x3, xup_ne _ (by omega), xup_ne _ (by omega), xup_ne _ (by omega), ← x2, xup_ne _ (by omega), xup_ne _ (by omega), xup_ne _ (by omega), ← x1, xup_ne _ (by omega), xup_ne _ (by omega), xup_ne _ (by omega)]; exact h6
  · rw [xup_ne _ (by omega), ← x3, xup_ne _ (by omega), ← x2, xup_ne _ (by omega), ← x1, xup_ne _ (by omega)]; exact h7
  · show ins (yf τ) (yT τ) f i ≤ 7 ∧ ins (yu τ) (yT τ) u i ≤ 7
    by_cases q : i = yT τ
    · rw [q, ins_s, ins_s]; exact ⟨f7, u7⟩
    · rw [ins_n q, ins_n q]; exact o1 i (by have : i < yT τ + 1 := hi; omega)
  · obtain ⟨z1, z2, z3⟩ := o2 r hr
    exact ⟨by show _ < yT τ + 1; exact Nat.lt_succ_of_lt z1, by show _ < yT τ + 1; exact Nat.lt_succ_of_lt z2, z3⟩
  · show D.2 = H.2
    rw [← x3, ← x2, ← x1]; rfl
theorem C_addM {j : Nat} {W : List Nat} (h : cY t J S E N b stf tl c lo τ ad j H) (hM : yM τ < 6) (hW : wdo W) (hf : isNw τ W) : ∃ H', F_X2_addMember N (some c) (lN (w5 W)) H = some H' ∧ cY t J S E N b stf tl c lo (tadM τ W) ad j H' ∧ clD c H H' ∧ H'.2 = H.2 := by
  obtain ⟨-, -, -, hw, ⟨h1, ⟨a1, a2, h2⟩, h3, h4, ⟨a3, a4, g5, h5, h5'⟩, ⟨a5, a6, h6⟩, ⟨a7, h7⟩, h8⟩, ⟨o1, o2, o3⟩, c1, c2, c3, c4⟩ := id h
  obtain ⟨k0, k1, k2, k3, k4, ko⟩ := cob_g h1
  obtain ⟨q1, q2, q3, q4, q5, q6, q7, q8⟩ := cob_a h1
  have e1 := stJ (v := lN (w5 W)) h5 hM (by decide)
  generalize x1 : xup H (c + 4) (aJ 6 (vp_updL g5 (yM τ) (lN (w5 W)))) = A at *
  have ah : A.1 c = some (cob c τ.1) := by rw [← x1, xup_ne _ (by omega)]; exact h1
  have da : clD c H A := by rw [← x1]; exact clD.up hw h5 (by omega)
  have e4 := (cob_p ah (k := yM τ + 1)).2.1
  have de : clD c A (xup A c (cob c (τ.1.1, yM τ + 1, τ.1.2.2))) := clD.up da.2.2.2 ah (by omega)
  have hd := da.tr de
  refine ⟨_, ?_, h.d hd ⟨xup_at _, ⟨a1, a2, ?_⟩, ?_, ?_, ⟨by show yM τ + 1 ≤ 6; omega, a4.ins hW hf.1 hf.2.2.2, _, ?_, gN1 h5'⟩, ⟨a5, a6, ?_⟩, ⟨a7, ?_⟩, fun w hq => (h8 w hq).fr hw (fun q z1 z2 => hd.2.2.1 q z2 (by omega))⟩ ⟨o1, o2, fun w hw => ?_⟩, hd, ?_⟩
  · unfold F_X2_addMember
    simp only [k1, q4, leJ h5, show ¬ nI 6 ≤ nI τ.1.2.1 from nI_ge hM (by decide), if_false, show xsJ H (some (c + 4)) (nI τ.1.2.1) (lN (w5 W)) = some A from e1, (cob_g ah).2.1, nI_1, show xpI A (some c) 2 1 (nI (τ.1.2.1 + 1)) = _ from e4, Option.bind_some]
  · rw [xup_ne _ (by omega), ← x1, xup_ne _ (by omega)]; exact h2
  · rw [xup_ne _ (by omega), ← x1, xup_ne _ (by omega)]; exact h3
  · rw [xup_ne _ (by omega), ← x1, xup_ne _ (by omega)]; exact h4
  · rw [xup_ne _ (by omega), ← x1, xup_at]
  · rw [xup_ne _ (by omega), xup_ne _ (by omega), xup_ne _ (by omega), ← x1, xup_ne _ (by omega), xup_ne _ (by omega), xup_ne _ (by omega)]; exact h6
  · rw [xup_ne _ (by omega), ← x1, xup_ne _ (by omega)]; exact h7
  · obtain ⟨z1, z2, z3⟩ := o3 w hw
    exact ⟨by show _ < yM τ + 1; exact Nat.lt_succ_of_lt z1, by show _ < yM τ + 1; exact Nat.lt_succ_of_lt z2, z3⟩
  · show A.2 = H.2
    rw [← x1]; rfl
theorem C_addR (hN : 5 < N) {j : Nat} {r : Nat × Nat × Option Nat} (h : cY t J S E N b stf tl c lo τ ad j H) (hR : yR τ < 40) (hr : r.1 < yT τ ∧ r.2.1 < yT τ ∧ ∀ d, r.2.2 = some d → d ≤ 7) : ∃ H', F_X2_addRule N (some c) (nI r.1) (nI r.2.1) (rD r.2.2) H = some H' ∧ cY t J S E N b stf tl c lo (tadR τ r) ad j H' ∧ clD c H H' ∧ H'.2 = H.2 := by
  obtain ⟨-, -, -, hw, ⟨h1, ⟨a1, a2, h2⟩, h3, h4, ⟨a3, a4, h5⟩, ⟨a5, a6, g1, g2, g3, h6, h6', h6'', h9⟩, ⟨a7, h7⟩, h8⟩, ⟨o1, o2, o3⟩, c1, c2, c3, c4⟩ := id h
  obtain ⟨k0, k1, k2, k3, k4, ko⟩ := cob_g h1
  obtain ⟨q1, q2, q3, q4, q5, q6, q7, q8⟩ := cob_a h1
  have e1 := S_set (N := N) (v := nI r.1) h6 hR (by decide)
  generalize x1 : xup H (c + 5) (aI 40 (upd g1 (yR τ) (nI r.1))) = A at *
  have ah : A.1 c = some (cob c τ.1) := by rw [← x1, xup_ne _ (by omega)]; exact h1
  have a3' : A.1 (c + 6) = some (aI 40 g2) := by rw [← x1, xup_ne _ (by omega)]; exact h6'
  have da : clD c H A := by rw [← x1]; exact clD.up hw h6 (by omega)
  have e2 := S_set (N := N) (v := nI r.2.1) a3' hR (by decide)
  generalize x2 : xup A (c + 6) (aI 40 (upd g2 (yR τ) (nI r.2.1))) = B at *
  have bh : B.1 c = some (cob c τ.1) := by rw [← x2, xup_ne _ (by omega)]; exact ah
  have b4 : B.1 (c + 7) = some (aI 40 g3) := by rw [← x2, xup_ne _ (by omega), ← x1, xup_ne _ (by omega)]; exact h6''
  have db : clD c A B := by rw [← x2]; exact clD.up da.2.2.2 a3' (by omega)
  have e3 := S_set (N := N) (v := rD r.2.2) b4 hR (by decide)
  generalize x3 : xup B (c + 7) (aI 40 (upd g3 (yR τ) (rD r.2.2))) = D at *
  have dh : D.1 c = some (cob c τ.1) := by rw [← x3, xup_ne _ (by omega)]; exact bh
  have dd : clD c B D := by rw [← x3]; exact clD.up db.2.2.2 b4 (by omega)
  have e4 := (cob_p dh (k := yR τ + 1)).2.2.2.1
  have de : clD c D (xup D c (cob c (tadR τ r).1)) := clD.up dd.2.2.2 dh (by omega)
  have hd := ((da.tr db).tr dd).tr de
  refine ⟨_, ?_, h.d hd ⟨xup_at _, ⟨a1, a2, ?_⟩, ?_, ?_, ⟨a3, a4, ?_⟩, ⟨by show yR τ + 1 ≤ 40; omega, a6, upd g1 (yR τ) (nI r.1), upd g2 (yR τ) (nI r.2.1), upd g3 (yR τ) (rD r.2.2), ?_, ?_, ?_, fun i hi => ?_⟩, ⟨a7, ?_⟩, fun w hq => (h8 w hq).fr hw (fun q z1 z2 => hd.2.2.1 q z2 (by omega))⟩ ⟨o1, fun i hi => ?_, o3⟩, hd, ?_⟩
  · unfold F_X2_addRule
    simp only [k3, q5, show F_X11_set N (some (c + 5)) (nI τ.1.2.2.2.1) (nI r.1) H = some A from e1, (cob_a ah).2.2.2.2.2.1, (cob_g ah).2.2.2.1, show F_X11_set N (some (c + 6)) (nI τ.1.2.2.2.1) (nI r.2.1) A = some B from e2, (cob_a bh).2.2.2.2.2.2.1, (cob_g bh).2.2.2.1, show F_X11_set N (some (c + 7)) (nI τ.1.2.2.2.1) (rD r.2.2) B = some D from e3, (cob_g dh).2.2.2.1, nI_1, show xpI D (some c) 2 3 (nI (τ.1.2.2.2.1 + 1)) = _ from e4, Option.bind_some]
    rfl
  · rw [xup_ne _ (by omega), ← x3, xup_ne _ (by omega), ← x2, xup_ne _ (by omega), ← x1, xup_ne _ (by omega)]; exact h2
  · rw [xup_ne _ (by omega), ← x3, xup_ne _ (by omega), ← x2, xup_ne _ (by omega), ← x1, xup_ne _ (by omega)]; exact h3
  · rw [xup_ne _ (by omega), ← x3, xup_ne _ (by omega), ← x2, xup_ne _ (by omega), ← x1, xup_ne _ (by omega)]; exact h4
  · rw [xup_ne _ (by omega), ← x3, xup_ne _ (by omega), ← x2, xup_ne _ (by omega), ← x1, xup_ne _ (by omega)]; exact h5
  · rw [xup_ne _ (by omega), ← x3, xup_ne _ (by omega), ← x2, xup_ne _ (by omega), ← x1, xup_at]
  · rw [xup_ne _ (by omega), ← x3, xup_ne _ (by omega), ← x2, xup_at]
  · rw [xup_ne _ (by omega), ← x3, xup_at]
  · show upd g1 (yR τ) (nI r.1) i = nI (ins (yr τ) (yR τ) r i).1 ∧ upd g2 (yR τ) (nI r.2.1) i = nI (ins (yr τ) (yR τ) r i).2.1 ∧ upd g3 (yR τ) (rD r.2.2) i = rD (ins (yr τ) (yR τ) r i).2.2
    by_cases q : i = yR τ
    · rw [q, pk_us, pk_us, pk_us, ins_s]; exact ⟨rfl, rfl, rfl⟩
    · rw [pk_un q, pk_un q, pk_un q, ins_n q]; exact h9 i (by have : i < yR τ + 1 := hi; omega)
  · rw [xup_ne _ (by omega), ← x3, xup_ne _ (by omega), ← x2, xup_ne _ (by omega), ← x1, xup_ne _ (by omega)]; exact h7
  · show (ins (yr τ) (yR τ) r i).1 < yT τ ∧ (ins (yr τ) (yR τ) r i).2.1 < yT τ ∧ ∀ d, (ins (yr τ) (yR τ) r i).2.2 = some d → d ≤ 7
    by_cases q : i = yR τ
    · rw [q, ins_s]; exact hr
    · rw [ins_n q]; exact o2 i (by have : i < yR τ + 1 := hi; omega)
  · show D.2 = H.2
    rw [← x3, ← x2, ← x1]; rfl
