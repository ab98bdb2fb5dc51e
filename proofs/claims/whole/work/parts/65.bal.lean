/-! PURE: what a member HAS, END: the reference's side, the class's side. -/
theorem sd_add {l : sL} {mem : Int32} {w : Nat} (x p : Int32) : (if lH l (2 * w + 1) = mem then (if lH l (2 * w) = mem then x + p else x) - p else (if lH l (2 * w) = mem then x + p else x)) = x + sd l mem w * p := by
  unfold sd
  by_cases h1 : lH l (2 * w) = mem <;> by_cases h2 : lH l (2 * w + 1) = mem
  · rw [if_pos h2, if_pos h1, bI_t h1, bI_t h2, Int32.sub_self, Int32.zero_mul, Int32.add_zero, Int32.add_sub_cancel]
  · rw [if_neg h2, if_pos h1, bI_t h1, bI_f h2, Int32.sub_zero, Int32.one_mul]
  · rw [if_pos h2, if_neg h1, bI_f h1, bI_t h2, Int32.zero_sub, Int32.neg_mul, Int32.one_mul, Int32.sub_eq_add_neg]
  · rw [if_neg h2, if_neg h1, bI_f h1, bI_f h2, Int32.sub_self, Int32.zero_mul, Int32.add_zero]
/-- the outcome that's SURE -/
noncomputable def so (β : sB) (l : sL) (w : Nat) : Nat := @dite _ (suW β l w) (Classical.propDecidable _) (fun h => h.choose) (fun _ => 0)
theorem so_t {β : sB} {l : sL} {w : Nat} (h : suW β l w) : sureO (bZ β) (lft β l) (boc β w) (so β l w) := by
  unfold so
  rw [dif_pos h]
  exact h.choose_spec
theorem so_lt {β : sB} {l : sL} (hB : bOk β) (w : Nat) : so β l w < 5 := by
  by_cases h : suW β l w
  · obtain ⟨⟨k, k1, k2⟩, k3⟩ := so_t h
    rw [← k3 k k1 k2]; exact hB.2.2.2.2.1 w k
  · unfold so; rw [dif_neg h]; decide
/-- what the SURE ones pay a member -/
noncomputable def sst (β : sB) (l : sL) (mem : Int32) (w : Nat) : Int32 := @ite _ (suW β l w) (Classical.propDecidable _) (sd l mem w * pay (so β l w) (bc1 β w) (bc2 β w)) 0
noncomputable def hsv (β : sB) (l : sL) (j : Nat) : Int32 := lB l j + sm (sst β l (nI j)) (bW β) 0
section Bal
variable {stf : Nat → Nat} {N K b m : Nat} {β : sB} {δ : sD} {H : xH}
variable {c tc tk cb n nk ncb : Nat} {ad : Nat → Nat}
theorem S_sides {v : Nat → Int32} (h : mR m v β δ H) (hW : bW β ≤ 12) {w : Nat} (hw : w < bW β) (mem : Int32) : F_X12_sidesOf N (some m) (nI w) mem H = some (sd (dL δ) mem w, H) := by
  obtain ⟨g, g1, g2⟩ := h.2.2.2.2.2.2.1
  have h1 := h.1.1
  have e0 : (2 : Int32) * nI w = nI (2 * w) := by rw [show (2 : Int32) = nI 2 from rfl, pk_mul]
  have e1 : (2 : Int32) * nI w + (1 : Int32) = nI (2 * w + 1) := by rw [e0]; exact nI_1 _
  unfold F_X12_sidesOf sd
  simp only [gA h1 ma52, e0, rdI g1 (show 2 * w < 24 by omega) (by decide), g2 _ (show 2 * w < 24 by omega), Option.bind_some, bd2_s]
  have hu1 : F_X12_unit N 1 H = some (1, H) := by unfold F_X12_unit; rw [if_neg (by decide)]
  have hu0 : F_X12_unit N 0 H = some (0, H) := by unfold F_X12_unit; rw [if_pos rfl]
  by_cases q : lH (dL δ) (2 * w) = mem
  · rw [if_pos q, bI_t q]
    unfold F_X12_sidesOf_J17 F_X12_sidesOf_J39
    simp only [gA h1 ma52, e1, rdI g1 (show 2 * w + 1 < 24 by omega) (by decide), g2 _ (show 2 * w + 1 < 24 by omega), hu1, hu0, Option.bind_some, bd2_s]
    by_cases q2 : lH (dL δ) (2 * w + 1) = mem
    · rw [if_pos q2, bI_t q2]
    · rw [if_neg q2, bI_f q2]
  · rw [if_neg q, bI_f q]
    unfold F_X12_sidesOf_J17 F_X12_sidesOf_J39
    simp only [gA h1 ma52, e1, rdI g1 (show 2 * w + 1 < 24 by omega) (by decide), g2 _ (show 2 * w + 1 < 24 by omega), hu1, hu0, Option.bind_some, bd2_s]
    by_cases q2 : lH (dL δ) (2 * w + 1) = mem
    · rw [if_pos q2, bI_t q2]
    · rw [if_neg q2, bI_f q2]
/-- END of the reference -/
theorem S_mEnd (hN : 12 < N) {v : Nat → Int32} (h : CM K m v β δ H) {j k : Nat} (hj : j < bM β) (hk : k < bZ β) (he : bex β k) : F_X12_endAtRow N (some m) (nI j) (nI k) H = some (lB (dL δ) j + esum β (dL δ) (nI j) k, H) := by
  have q := h.mq
  have qo := q.ob
  obtain ⟨v0, v1, v2, v3, v46, t5, t6, t12⟩ := q.ac
  obtain ⟨g, g1, g2⟩ := h.1.2.2.2.2.2.2.2.1
  have h1 := h.1.1.1
  unfold F_X12_endAtRow
  simp only [gA h1 ma53, rdI g1 (show j < 6 by omega) (by decide), g2 _ (show j < 6 by omega), Option.bind_some, bd2_s]
  generalize hf : (fun w => sd (dL δ) (nI j) w * pay (boc β w k) (bc1 β w) (bc2 β w)) = f
  have key := upto (s := bW β) (P := fun n w => F_X12_endAtRow_L10 N n (some m) (nI j) (nI k) (lB (dL δ) j + sm f w 0) (nI w) H = some (lB (dL δ) j + sm f (bW β) 0, H)) (fun n => by
    simp only [F_X12_endAtRow_L10, F_X12_endAtRow_J10, v2, Option.bind_some, bd2_s, nI_le (Nat.le_refl _) (show bW β < 2 ^ 31 by omega), if_true]) (fun n w hw ih => by
    simp only [F_X12_endAtRow_L10, F_X12_endAtRow_J10, v2, qo, Option.bind_some, bd2_s, nI_ge hw (show bW β < 2 ^ 31 by omega), if_false, S_sides h.1 t12 hw, S_mPays q hw hk he, nI_1]
    rw [sm_snoc, Nat.zero_add, ← Int32.add_assoc] at ih
    rw [show sd (dL δ) (nI j) w * pay (boc β w k) (bc1 β w) (bc2 β w) = f w by rw [← hf]]
    exact ih) N 0 (Nat.zero_le _) (by omega)
  rw [show sm f 0 0 = 0 from rfl, Int32.add_zero] at key
  unfold esum
  rw [hf]
  exact key
theorem nI_inj6 {a b : Nat} (ha : a < 6) (hb : b < 6) : (nI a = nI b) ↔ a = b := nI_eq (by omega) (by omega)
/-- the balances of the reference -/
theorem S_bal (hN : 59049 < N) {v : Nat → Int32} (h : CM K m v β δ H) : ∃ v' H', F_X12_balances N (some m) H = some H' ∧ mS m v v' H H' ∧ ∃ g, H'.1 (m + 30) = some (aI 6 g) ∧ ∀ j, j < bM β → g j = hsv β (dL δ) j := by
  obtain ⟨v0, v1, v2, v3, v46, t5, t6, t12⟩ := h.mq.ac
  have hold := h.2.2.1.2.1
  have cm : ∀ v' H', mS m v v' H H' → CM K m v' β δ H' := fun v' H' hS => ⟨h.1.s hS, h.2⟩
  have second : ∀ n w, w ≤ bW β → bW β - w < n → ∀ v' H', mS m v v' H H' → (∃ g, H'.1 (m + 30) = some (aI 6 g) ∧ ∀ j, j < bM β → g j = lB (dL δ) j + sm (sst β (dL δ) (nI j)) w 0) → ∃ v'' H'', F_X12_balances_L30 N n (some m) (nI w) H' = some H'' ∧ mS m v v'' H H'' ∧ ∃ g, H''.1 (m + 30) = some (aI 6 g) ∧ ∀ j, j < bM β → g j = hsv β (dL δ) j := by
    refine upto (s := bW β) (P := fun n w => ∀ v' H', mS m v v' H H' → (∃ g, H'.1 (m + 30) = some (aI 6 g) ∧ ∀ j, j < bM β → g j = lB (dL δ) j + sm (sst β (dL δ) (nI j)) w 0) → ∃ v'' H'', F_X12_balances_L30 N n (some m) (nI w) H' = some H'' ∧ mS m v v'' H H'' ∧ ∃ g, H''.1 (m + 30) = some (aI 6 g) ∧ ∀ j, j < bM β → g j = hsv β (dL δ) j) (fun n v' H' hS hg => ⟨v', H', ?_, hS, hg⟩) (fun n w hw ih v' H' hS hg => ?_)
    · obtain ⟨v0', v1', v2', -⟩ := (cm v' H' hS).mq.ac
      simp only [F_X12_balances_L30, F_X12_balances_J30, v2', Option.bind_some, bd2_s, nI_le (Nat.le_refl _) (show bW β < 2 ^ 31 by omega), if_true]
    · have hc := cm v' H' hS
      obtain ⟨v0', v1', v2', -⟩ := hc.mq.ac
      obtain ⟨x, hx1, hx2⟩ := S_mSu (N := N) hN hc hw
      have hS1 : mS m v' (upd v' 49 x) H' (xup H' m (mo m (upd v' 49 x))) := mS49 hc.1.1.1
      have hS2 := hS.tr hS1
      have hc2 := cm _ _ hS2
      obtain ⟨g, g1, g2⟩ := hg
      have hne : m + 30 ≠ m := by omega
      have g1' : (xup H' m (mo m (upd v' 49 x))).1 (m + 30) = some (aI 6 g) := by rw [xup_ne _ hne]; exact g1
      simp only [F_X12_balances_L30, F_X12_balances_J30, F_X12_balances_J91, v2', hc.mq.ob, Option.bind_some, bd2_s, nI_ge hw (show bW β < 2 ^ 31 by omega), if_false, hx1, nI_1]
      by_cases hsu : suW β (dL δ) w
      · have hxe := hx2 _ (so_t hsu)
        obtain ⟨gh, gh1, gh2⟩ := hc2.1.2.2.2.2.2.2.1
        obtain ⟨a, a1, a2⟩ := hold (2 * w) (by omega)
        obtain ⟨d, d1, d2⟩ := hold (2 * w + 1) (by omega)
        have e0 : (2 : Int32) * nI w = nI (2 * w) := by rw [show (2 : Int32) = nI 2 from rfl, pk_mul]
        have e1 : (2 : Int32) * nI w + (1 : Int32) = nI (2 * w + 1) := by rw [e0]; exact nI_1 _
        have ob1 := hc2.1.1.1
        generalize hHH : xup H' m (mo m (upd v' 49 x)) = H2 at *
        generalize hvv : upd v' 49 x = v2' at *
        have hv49 : v2' 49 = x := by rw [← hvv]; exact pk_us
        have r0 : xlI .int H2 (some (m + 28)) (nI (2 * w)) = some (nI a) := by rw [rdI gh1 (show 2 * w < 24 by omega) (by decide), gh2 _ (by omega), a2]
        have hne2 : m + 28 ≠ m + 30 := by omega
        have hne3 : m ≠ m + 30 := by omega
        have ob3 : ∀ e, (xup H2 (m + 30) e).1 m = some (mo m v2') := fun e => by rw [xup_ne _ hne3]; exact ob1
        have gh1' : ∀ e, (xup H2 (m + 30) e).1 (m + 28) = some (aI 24 gh) := fun e => by rw [xup_ne _ hne2]; exact gh1
        have r1 : ∀ e, xlI .int (xup H2 (m + 30) e) (some (m + 28)) (nI (2 * w + 1)) = some (nI d) := fun e => by rw [rdI (gh1' e) (show 2 * w + 1 < 24 by omega) (by decide), gh2 _ (by omega), d2]
        have w1 : ∀ y, xsI .int H2 (some (m + 30)) (nI a) y = some (xup H2 (m + 30) (aI 6 (upd g a y))) := fun y => by rw [stI g1' (show a < 6 by omega) (by decide), vnI]
        have w2 : ∀ (g' : Nat → Int32) y, xsI .int (xup H2 (m + 30) (aI 6 g')) (some (m + 30)) (nI d) y = some (xup H2 (m + 30) (aI 6 (upd g' d y))) := fun g' y => by rw [stI (xup_at _) (show d < 6 by omega) (by decide), vnI, xup_up]
        simp only [bI_t hsu, show ¬ (1 : Int32) = 0 by decide, if_false, gA ob1 ma54, gA ob1 ma52, e0, nI_1, r0, rdI g1' (show a < 6 by omega) (by decide), gI ob1 mi49, hv49, w1, gA (ob3 _) ma54, gA (ob3 _) ma52, gI (ob3 _) mi49, r1, rdI (xup_at _) (show d < 6 by omega) (by decide), w2, Option.bind_some, bd2_s]
        refine ih v2' _ (hS2.tr (mS.sc ob1 (sc.upI (by unfold SMa; omega) g1'))) ⟨_, xup_at _, fun j hj => ?_⟩
        rw [sm_snoc, Nat.zero_add, ← Int32.add_assoc, ← g2 j hj]
        have hst : sst β (dL δ) (nI j) w = sd (dL δ) (nI j) w * x := by unfold sst; rw [if_pos hsu, hxe]
        rw [hst, ← sd_add, a2, d2]
        simp only [nI_inj6 (show a < 6 by omega) (show j < 6 by omega), nI_inj6 (show d < 6 by omega) (show j < 6 by omega)]
        by_cases hd : d = j
        · rw [if_pos hd, ← hd, pk_us]
          by_cases ha : a = d
          · rw [if_pos ha, ← ha, pk_us]
          · rw [if_neg ha, pk_un (fun e => ha e.symm)]
        · rw [if_neg hd, pk_un (fun e => hd e.symm)]
          by_cases ha : a = j
          · rw [if_pos ha, ← ha, pk_us]
          · rw [if_neg ha, pk_un (fun e => ha e.symm)]
      · simp only [bI_f hsu, if_true]
        refine ih _ _ hS2 ⟨g, g1', fun j hj => ?_⟩
        rw [sm_snoc, Nat.zero_add, show sst β (dL δ) (nI j) w = 0 by unfold sst; rw [if_neg hsu], Int32.add_zero]
        exact g2 j hj
  have first : ∀ n i, i ≤ bM β → bM β - i < n → ∀ g, (∀ j, j < i → g j = lB (dL δ) j) → ∃ v'' H'', F_X12_balances_L2 N (F_X12_balances_J28 N) n (some m) (nI i) (xup H (m + 30) (aI 6 g)) = some H'' ∧ mS m v v'' H H'' ∧ ∃ g, H''.1 (m + 30) = some (aI 6 g) ∧ ∀ j, j < bM β → g j = hsv β (dL δ) j := by
    obtain ⟨gb, hgb⟩ : ∃ g, H.1 (m + 30) = some (aI 6 g) := h.1.2.2.2.2.2.2.2.2.2.2.2.2.2.2.2.2.2.2.2.1
    have hS : ∀ g, mS m v v H (xup H (m + 30) (aI 6 g)) := fun g => mS.sc h.1.1.1 (sc.upI (by unfold SMa; omega) hgb)
    refine upto (s := bM β) (P := fun n i => ∀ g, (∀ j, j < i → g j = lB (dL δ) j) → ∃ v'' H'', F_X12_balances_L2 N (F_X12_balances_J28 N) n (some m) (nI i) (xup H (m + 30) (aI 6 g)) = some H'' ∧ mS m v v'' H H'' ∧ ∃ g, H''.1 (m + 30) = some (aI 6 g) ∧ ∀ j, j < bM β → g j = hsv β (dL δ) j) (fun n g hg => ?_) (fun n i hi ih g hg => ?_)
    · obtain ⟨v0', v1', v2', -⟩ := (cm v _ (hS g)).mq.ac
      simp only [F_X12_balances_L2, F_X12_balances_J2, F_X12_balances_J28, v1', Option.bind_some, bd2_s, nI_le (Nat.le_refl _) (show bM β < 2 ^ 31 by omega), if_true]
      exact second N 0 (Nat.zero_le _) (by omega) v _ (hS g) ⟨g, xup_at _, fun j hj => by rw [hg j hj, show sm (sst β (dL δ) (nI j)) 0 0 = 0 from rfl, Int32.add_zero]⟩
    · have hc := cm v _ (hS g)
      obtain ⟨v0', v1', v2', -⟩ := hc.mq.ac
      obtain ⟨gl, gl1, gl2⟩ := hc.1.2.2.2.2.2.2.2.1
      have ob1 := hc.1.1.1
      have w1 : ∀ y, xsI .int (xup H (m + 30) (aI 6 g)) (some (m + 30)) (nI i) y = some (xup H (m + 30) (aI 6 (upd g i y))) := fun y => by rw [stI (xup_at _) (show i < 6 by omega) (by decide), vnI, xup_up]
      simp only [F_X12_balances_L2, F_X12_balances_J2, v1', Option.bind_some, bd2_s, nI_ge hi (show bM β < 2 ^ 31 by omega), if_false, gA ob1 ma54, gA ob1 ma53, rdI gl1 (show i < 6 by omega) (by decide), gl2 _ (show i < 6 by omega), w1, nI_1]
      refine ih _ (fun j hj => ?_)
      by_cases e : j = i
      · rw [e, pk_us]
      · rw [pk_un e]; exact hg j (by omega)
  obtain ⟨gb, hgb⟩ : ∃ g, H.1 (m + 30) = some (aI 6 g) := h.1.2.2.2.2.2.2.2.2.2.2.2.2.2.2.2.2.2.2.2.1
  have := first N 0 (Nat.zero_le _) (by omega) gb (fun j hj => by omega)
  rw [xup_id hgb] at this
  exact this
/-- what a member HAS, of the class -/
theorem S_hasNow (hN : 60 < N) (h : RXo stf K b m c tc tk cb n nk ncb ad β δ H) (hB : bOk β) {j : Nat} (hj : j < bM β) : ∃ G, F_X11_hasNow N (some b) (nI j) H = some (hsv β (dL δ) j, xup H (b + 44) (aI 60 G)) := by
  obtain ⟨g0, g1, g2, g3, g4, g5, g6, g7, g8, g9, g10, g11, g12, g13, g14⟩ := h.g
  obtain ⟨o10, o2, o6, o4, o5, o3, o9⟩ := h.o
  have t12 := hB.2.2.1
  have t6 := hB.2.1
  obtain ⟨G, q1, q2⟩ := S_ofMember (N := N) hN h t12 (nI j)
  refine ⟨G, ?_⟩
  obtain ⟨e, gg, hgg⟩ := h.gn
  have hx : RXo stf K b m c tc tk cb n nk ncb ad β δ (xup H (b + 44) (aI 60 G)) := h.gc hgg
  obtain ⟨f0, f1, f2, f3, f4, f5, f6, f7, f8, f9, f10, f11, f12, f13, f14⟩ := hx.g
  obtain ⟨p10, p2, p6, p4, p5, p3, p9⟩ := hx.o
  obtain ⟨l0, l1, l2, l3, l4⟩ := hx.l
  obtain ⟨cl, cert, tt, hc, hcs, hcs2, u0, u1, u2, u3, u4⟩ := hx.t
  obtain ⟨-, -, -, ⟨gl, gl1, gl2⟩⟩ := hx.2.2.2.2.2.2.1
  obtain ⟨e', -⟩ := hx.gn
  have hd : ∀ v, v < 12 → d5 cert v = 0 ∨ d5 cert v = 2 ^ so β (dL δ) v := fun v hv => by
    by_cases hw : v < bW β
    · by_cases hsu : suW β (dL δ) v
      · exact Or.inr ((hcs v hv).1 _ hw (so_t hsu))
      · exact Or.inl ((hcs v hv).2 (fun _ o z => hsu ⟨o, z⟩))
    · exact Or.inl ((hcs v hv).2 (fun z => absurd z hw))
  have hsum := S_sum (N := N) (by omega) e' rfl (xup_at (H := H) (aI 60 G)) (so_lt hB) hd
  unfold F_X11_hasNow
  simp only [g11, g5, g7, o3, q1, f7, l4, S_at gl1 (by decide : 6 < 2 ^ 31), gat_nI (show j < 2 ^ 31 by omega), show j < 6 by omega, if_true, gl2 j (by omega), f11, f6, u4, p3, hsum, Option.bind_some, bd2_s]
  congr 2
  unfold hsv
  congr 1
  rw [sm_cut (W := bW β) t12 (fun v h1 h2 => by
    have : ¬ v < bW β := by omega
    rw [if_pos ((hcs v h2).2 (fun z => absurd z this))])]
  refine sm_congr _ _ (fun v _ hv => ?_)
  have hw : v < bW β := by omega
  unfold sst
  by_cases hsu : suW β (dL δ) v
  · have hz : ¬ d5 cert v = 0 := by
      rw [(hcs v (by omega)).1 _ hw (so_t hsu)]
      have := Nat.pow_pos (n := so β (dL δ) v) (by decide : 0 < 2)
      omega
    rw [if_neg hz, if_pos hsu, q2 v _ (so_lt hB v) (by omega), if_pos hw]
  · rw [if_pos ((hcs v (by omega)).2 (fun _ o z => hsu ⟨o, z⟩)), if_neg hsu]
end Bal
