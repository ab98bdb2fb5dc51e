/-! PURE: STEPS sure, split. -/
section Rd3
variable {stf : Nat → Nat} {N K b m : Nat} {β : sB} {δ : sD} {H : xH}
/-- a wager is SURE -/
def suW (β : sB) (l : sL) (w : Nat) : Prop := ∃ o, sureO (bZ β) (lft β l) (boc β w) o
theorem S_xSure {c tc tk cb n nk ncb : Nat} {ad : Nat → Nat} (ho : RXo stf K b m c tc tk cb n nk ncb ad β δ H) (hW : bW β ≤ 12) {w : Nat} (hw : w < bW β) (hB : bOk β) : F_X6_isSure N (some (b + 15)) (nI w) H = some (bI (suW β (dL δ) w), H) := by
  obtain ⟨cl, cert, tt, hc, hs, hs2, u0, u1, u2, u3, u4⟩ := ho.t
  rw [S_isSure tt]
  have e : (¬ obits cert (nI w) = 0) ↔ suW β (dL δ) w := by
    rw [obits_d5 cert (by omega)]
    by_cases hsu : suW β (dL δ) w
    · obtain ⟨o, hso⟩ := id hsu
      rw [(hs w (by omega)).1 o hw hso]
      have ho5 : o < 5 := by
        obtain ⟨k, k1, k2⟩ := hso.1
        rw [← hso.2 k k1 k2]; exact hB.2.2.2.2.1 w k
      have : ∀ o, o < 5 → ¬ nI (2 ^ o) = 0 := by decide +kernel
      exact ⟨fun _ => hsu, fun _ => this o ho5⟩
    · rw [(hs w (by omega)).2 (fun _ o z => hsu ⟨o, z⟩)]
      exact ⟨fun z => absurd rfl z, fun z => absurd z hsu⟩
  rw [bI_c e]
theorem S_mSu {v : Nat → Int32} (hN : 59049 < N) (h : CM K m v β δ H) {w : Nat} (hw : w < bW β) : ∃ x, F_X12_isSure N (some m) (nI w) H = some (bI (suW β (dL δ) w), xup H m (mo m (upd v 49 x))) ∧ ∀ o, sureO (bZ β) (lft β (dL δ)) (boc β w) o → x = pay o (bc1 β w) (bc2 β w) := S_mSure hN hw h.mq h.lf
theorem mS49 {v : Nat → Int32} {x : Int32} (h : H.1 m = some (mo m v)) : mS m v (upd v 49 x) H (xup H m (mo m (upd v 49 x))) := mS.fld h (fun j hj => by
  unfold upd
  rw [if_neg]
  intro e
  exact hj (Or.inl e))
theorem T_sure (hN : 59049 < N) (h : Rel stf K b m β δ H) (x y : Int32) : xStep stf K b m (F_X11_sure N (some b) x y) (F_X12_sure N (some m) x y) H := by
  obtain ⟨⟨⟨c, tc, tk, cb, n, nk, ncb, ad, ho⟩, -⟩, v, hm⟩ := id h
  obtain ⟨g0, g1, g2, g3, g4, g5, g6, g7, g8, g9, g10, g11, g12, g13, g14⟩ := ho.g
  obtain ⟨o10, o2, o6, o4, o5, o3, o9⟩ := ho.o
  obtain ⟨k0, k1, k2, k4, k6, k7, k12⟩ := ho.k
  have q := hm.mq
  have qo := q.ob
  have qz := q.z
  obtain ⟨v0, v1, v2, v3, v46, t5, t6, t12⟩ := q.ac
  obtain ⟨cl, cert, tt, hc, hs, hs2, u0, u1, u2, u3, u4⟩ := ho.t
  rcases ix3 x (show bW β < 2 ^ 31 by omega) with hx | ⟨w, hw, rfl⟩
  · exact xStep.rd (r := -1000000) h (by simp [F_X11_sure, g5, o2, S_btO ho hx, bd2_s]) (by simp [F_X12_sure, qo, S_mWO q hx, bd2_s])
  · have y1 : y ≤ 1 ↔ ¬ (1 : Int32) < y := by rw [Int32.not_lt]
    by_cases hy : ¬ y < 0 ∧ ¬ 1 < y
    · obtain ⟨x, hx1, hx2⟩ := S_mSu (N := N) hN hm hw
      have hc0 := S_xSure (N := N) ho t12 hw hm.2.1
      obtain ⟨p1, p2, p3, p4⟩ := ho.bt (N := N) hw
      by_cases hsu : suW β (dL δ) w
      · obtain ⟨o, hso⟩ := id hsu
        have ho5 : o < 5 := by
          obtain ⟨k, k1, k2⟩ := hso.1
          rw [← hso.2 k k1 k2]; exact hm.2.1.2.2.2.2.1 w k
        have eo : F_X11_outcome N cert (nI w) H = some (nI o, H) := S_outcome (W := 0) (by omega) ho5 ((hs w (by omega)).1 o hw hso)
        by_cases y0 : y = 0
        · subst y0
          refine ⟨1, H, _, β, δ, ?_, ?_, h.scr ho sc.rf hm.1.1.1 hm.1 (mS49 (x := x) hm.1.1.1)⟩
          · simp only [F_X11_sure, g5, o2, S_btI ho t12 hw, g6, o6, hc0, bI_t hsu, reduceCtorEq, hy, y1, if_true, if_false, not_false_iff, show ¬ (1 : Int32) = 0 by decide, show ¬ (0 : Int32) < 0 by decide, show (0 : Int32) ≤ 1 by decide, Option.bind_some, bd2_s]
          · simp only [F_X12_sure, qo, S_mWI q hw, S_in, bI_t hy, hx1, bI_t hsu, F_X12_unit, if_true, if_false, show ¬ (1 : Int32) = 0 by decide, Option.bind_some, bd2_s]
        · refine ⟨x, H, _, β, δ, ?_, ?_, h.scr ho sc.rf hm.1.1.1 hm.1 (mS49 (x := x) hm.1.1.1)⟩
          · simp only [F_X11_sure, g5, o2, S_btI ho t12 hw, g6, o6, hc0, bI_t hsu, reduceCtorEq, hy.1, y1, hy.2, y0, if_true, if_false, not_false_iff, show ¬ (1 : Int32) = 0 by decide, u4, eo, p1, p4 o ho5, hx2 o hso, Option.bind_some, bd2_s]
          · simp only [F_X12_sure, qo, S_mWI q hw, S_in, bI_t hy, hx1, bI_t hsu, show ¬ (1 : Int32) = 0 by decide, y0, if_true, if_false, gI (xup_at _) mi49, pk_us, Option.bind_some, bd2_s]
      · refine ⟨0, H, _, β, δ, ?_, ?_, h.scr ho sc.rf hm.1.1.1 hm.1 (mS49 (x := x) hm.1.1.1)⟩
        · simp only [F_X11_sure, g5, o2, S_btI ho t12 hw, g6, o6, hc0, bI_f hsu, reduceCtorEq, hy.1, y1, hy.2, if_true, if_false, not_false_iff, Option.bind_some, bd2_s]
        · simp only [F_X12_sure, qo, S_mWI q hw, S_in, bI_t hy, hx1, bI_f hsu, show ¬ (1 : Int32) = 0 by decide, if_true, if_false, F_X12_unit, Option.bind_some, bd2_s]
          by_cases y0 : y = 0
          · rw [if_pos y0]
          · rw [if_neg y0]
    · refine xStep.rd (r := -1000000) h ?_ ?_
      · simp only [F_X11_sure, g5, o2, S_btI ho t12 hw, reduceCtorEq, y1, if_false, Option.bind_some, bd2_s]
        by_cases y0 : y < 0
        · rw [if_pos y0]
        · rw [if_neg y0, if_neg (fun z => hy ⟨y0, z⟩)]
      · simp only [F_X12_sure, qo, S_mWI q hw, S_in, bI_f hy, show ¬ (1 : Int32) = 0 by decide, if_true, if_false, Option.bind_some, bd2_s]
/-- what SPLIT counts -/
def spN (y o : Nat) : Bool := if y = 0 then o == 3 || o == 4 else if y = 1 then o == 1 || o == 2 else if y = 2 then o == 0 else o == 2 || o == 4
def spM (y : Nat) : Int32 := if y = 0 then 24 else if y = 1 then 6 else if y = 2 then 1 else 20
theorem spM_N : ∀ y, y < 4 → ∀ o, o < 5 → ((nI (2 ^ o) &&& spM y) = 0 ↔ ¬ spN y o = true) := by decide +kernel
theorem four {P : Nat → Prop} (h0 : P 0) (h1 : P 1) (h2 : P 2) (h3 : P 3) : ∀ j, j < 4 → P j := by
  intro j hj
  match j with
  | 0 => exact h0
  | 1 => exact h1
  | 2 => exact h2
  | 3 => exact h3
  | n + 4 => omega
theorem sp_tree {α : Type} (A B : α) : ∀ y, y < 4 → ∀ o, o < 5 → (if nI y = 0 then (if nI (mdo o) = 1 then A else if nI (mdo o) = 3 then A else B) else if nI y = 1 then (if nI (mdo o) = 2 then A else if nI (mdo o) = 4 then A else B) else if nI y = 2 then (if nI (mdo o) = 0 then A else B) else if nI (mdo o) ≤ 2 then B else A) = if spN y o = true then A else B := by
  refine four ?_ ?_ ?_ ?_ <;> refine five ?_ ?_ ?_ ?_ ?_ <;> rfl
theorem bIt1 {p : Prop} (h : p) : nI 0 + bI p = nI 1 := by rw [bI_t h]; rfl
theorem T_split (hN : 59049 < N) (h : Rel stf K b m β δ H) (x y : Int32) : xStep stf K b m (F_X11_split N (some b) x y) (F_X12_split N (some m) x y) H := by
  obtain ⟨⟨⟨c, tc, tk, cb, n, nk, ncb, ad, ho⟩, -⟩, v, hm⟩ := id h
  obtain ⟨g0, g1, g2, g3, g4, g5, g6, g7, g8, g9, g10, g11, g12, g13, g14⟩ := ho.g
  obtain ⟨o10, o2, o6, o4, o5, o3, o9⟩ := ho.o
  obtain ⟨k0, k1, k2, k4, k6, k7, k12⟩ := ho.k
  have q := hm.mq
  have qo := q.ob
  have qz := q.z
  obtain ⟨v0, v1, v2, v3, v46, t5, t6, t12⟩ := q.ac
  obtain ⟨cl, cert, tt, hc, hs, hs2, u0, u1, u2, u3, u4⟩ := ho.t
  rcases ix3 x (show bW β < 2 ^ 31 by omega) with hx | ⟨w, hw, rfl⟩
  · exact xStep.rd (r := -1) h (by simp [F_X11_split, g5, o2, S_btO ho hx, bd2_s]) (by simp [F_X12_split, qo, S_mWO q hx, bd2_s])
  · by_cases hy : ¬ y < 0 ∧ ¬ 3 < y
    · have hpe := hm.2.1.2.2.2.1
      have hoc := hm.2.1.2.2.2.2.1
      obtain ⟨y4, hy4, rfl⟩ : ∃ j, j < 4 ∧ y = nI j := by
        obtain ⟨j, hj, rfl⟩ := nI_of hy.1
        exact ⟨j, by
          rcases Nat.lt_or_ge j 4 with z | z
          · exact z
          · exact absurd (nI_lt (show 3 < j by omega) hj) hy.2, rfl⟩
      have hCL : F_X6_countLeft N (some (b + 15)) (nI w) (spM y4) H = some (nI (cnt (fun k => lft β (dL δ) k ∧ spN y4 (boc β w k) = true) (bZ β)), H) := by
        have := S_countLeft (N := N) (w := nI w) (mask := spM y4) (Pk := fun k => spN y4 (boc β w k) = true) tt (fun k hk => cv_lf (hc k hk)) (fun k hk hl => by
          have he := hpe k hk hl.1
          rw [obits_d5 _ (by omega), (hc k hk).1 w (by omega), if_pos hw, bN_t he, Nat.one_mul]
          exact spM_N y4 hy4 (boc β w k) (hoc w k)) N 0 (Nat.zero_le _) (by omega)
        exact this
      obtain ⟨gd, gd1, gd2⟩ := hm.1.1.2.2.2.2.2.1
      have e1 : ∀ i, (59049 : Int32) * nI w + nI i = nI (59049 * w + i) := fun i => by
        rw [show (59049 : Int32) = nI 59049 from rfl, pk_mul, nI_add]
      have L2 : F_X12_split_L24 N N (some m) (nI w) (nI y4) (nI (cnt (fun k => lft β (dL δ) k ∧ spN y4 (boc β w k) = true) 0)) (nI 0) H = some (nI (cnt (fun k => lft β (dL δ) k ∧ spN y4 (boc β w k) = true) (bZ β)), H) := by
        refine upto (s := bZ β) (P := fun n i => F_X12_split_L24 N n (some m) (nI w) (nI y4) (nI (cnt (fun k => lft β (dL δ) k ∧ spN y4 (boc β w k) = true) i)) (nI i) H = some (nI (cnt (fun k => lft β (dL δ) k ∧ spN y4 (boc β w k) = true) (bZ β)), H)) (fun n => ?_) (fun n i hi ih => ?_) N 0 (Nat.zero_le _) (by omega)
        · simp only [F_X12_split_L24, F_X12_split_J24, q.rows, Option.bind_some, bd2_s, nI_le (Nat.le_refl (bZ β)) (show bZ β < 2 ^ 31 by omega), if_true]
        · simp only [F_X12_split_L24, F_X12_split_J24, q.rows, qo, Option.bind_some, bd2_s, nI_ge hi (show bZ β < 2 ^ 31 by omega), if_false, q.lf (by omega : 5 < N) hi]
          by_cases hl : lft β (dL δ) i
          · have he := hpe i hi hl.1
            simp only [bI_t hl, show ¬ (1 : Int32) = 0 by decide, if_false, gA hm.1.1.1 ma44, e1, rdI gd1 (show 59049 * w + i < 708588 by omega) (by decide), gd2 w hw i hi he, Option.bind_some, bd2_s, F_X12_split_J76, F_X12_split_J101, sp_tree _ _ y4 hy4 _ (hoc w i)]
            by_cases hs : spN y4 (boc β w i) = true
            · rw [if_pos hs]
              simp only [F_X12_split_J138, F_X12_split_J143, F_X12_unit, show ¬ (1 : Int32) = 0 by decide, if_false, Option.bind_some, bd2_s, nI_1]
              rw [cnt_t (P := fun k => lft β (dL δ) k ∧ spN y4 (boc β w k) = true) ⟨hl, hs⟩] at ih
              exact ih
            · rw [if_neg hs]
              simp only [F_X12_split_J138, F_X12_split_J143, F_X12_unit, if_true, Option.bind_some, bd2_s, nI_1, Int32.add_zero]
              rw [cnt_f (P := fun k => lft β (dL δ) k ∧ spN y4 (boc β w k) = true) (fun z => hs z.2)] at ih
              exact ih
          · simp only [bI_f hl, if_true, F_X12_split_J143, nI_1]
            rw [cnt_f (P := fun k => lft β (dL δ) k ∧ spN y4 (boc β w k) = true) (fun z => hl z.1)] at ih
            exact ih
      refine xStep.rd (r := nI (cnt (fun k => lft β (dL δ) k ∧ spN y4 (boc β w k) = true) (bZ β))) h ?_ ?_
      · have hy5 : y4 = 0 ∨ y4 = 1 ∨ y4 = 2 ∨ y4 = 3 := by omega
        rcases hy5 with rfl | rfl | rfl | rfl
        · have hCL' : F_X6_countLeft N (some (b + 15)) (nI w) 24 H = _ := hCL
          simp only [F_X11_split, g5, o2, S_btI ho t12 hw, g6, o6, reduceCtorEq, if_false, show nI 0 = 0 from rfl, if_true, hCL', Option.bind_some, bd2_s]
        · have hCL' : F_X6_countLeft N (some (b + 15)) (nI w) 6 H = _ := hCL
          simp only [F_X11_split, g5, o2, S_btI ho t12 hw, g6, o6, reduceCtorEq, if_false, show nI 1 = 1 from rfl, show ¬ (1 : Int32) = 0 by decide, if_true, hCL', Option.bind_some, bd2_s]
        · have hCL' : F_X6_countLeft N (some (b + 15)) (nI w) 1 H = _ := hCL
          simp only [F_X11_split, g5, o2, S_btI ho t12 hw, g6, o6, reduceCtorEq, if_false, show nI 2 = 2 from rfl, show ¬ (2 : Int32) = 0 by decide, show ¬ (2 : Int32) = 1 by decide, if_true, hCL', Option.bind_some, bd2_s]
        · have hCL' : F_X6_countLeft N (some (b + 15)) (nI w) 20 H = _ := hCL
          simp only [F_X11_split, g5, o2, S_btI ho t12 hw, g6, o6, reduceCtorEq, if_false, show nI 3 = 3 from rfl, show ¬ (3 : Int32) = 0 by decide, show ¬ (3 : Int32) = 1 by decide, show ¬ (3 : Int32) = 2 by decide, if_true, hCL', Option.bind_some, bd2_s]
      · simp only [F_X12_split, qo, S_mWI q hw, S_in, bI_t hy, show ¬ (1 : Int32) = 0 by decide, if_false, Option.bind_some, bd2_s]
        exact L2
    · refine xStep.rd (r := -1) h ?_ ?_
      · have a0 : ¬ y = 0 := fun z => hy (by subst z; decide)
        have a1 : ¬ y = 1 := fun z => hy (by subst z; decide)
        have a2 : ¬ y = 2 := fun z => hy (by subst z; decide)
        have a3 : ¬ y = 3 := fun z => hy (by subst z; decide)
        simp only [F_X11_split, g5, o2, S_btI ho t12 hw, reduceCtorEq, a0, a1, a2, a3, if_false, Option.bind_some, bd2_s]
      · simp only [F_X12_split, qo, S_mWI q hw, S_in, bI_f hy, show ¬ (1 : Int32) = 0 by decide, if_true, if_false, Option.bind_some, bd2_s]
end Rd3
