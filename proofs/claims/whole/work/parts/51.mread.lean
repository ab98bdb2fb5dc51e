/-! PURE: the reference's readers: leftMany, isRow, paysAt, isSure, rows, fits, pays. -/
theorem bI_add {P : Nat → Prop} (i : Nat) : nI (cnt P i) + bI (P i) = nI (cnt P (i + 1)) := by
  by_cases h : P i
  · rw [bI_t h, cnt_t h, nI_1]
  · rw [bI_f h, cnt_f h, show (0 : Int32) = nI 0 from rfl, nI_add]; rfl
/-- all that the readers ask -/
def mQ (m : Nat) (v : Nat → Int32) (β : sB) (l : sL) (H : xH) : Prop := mCore m v β l H ∧ bOk β ∧ lT l ≤ 7 ∧ ∀ j, lC l j ≤ 8
section MRead
variable {N m : Nat} {v : Nat → Int32} {β : sB} {l : sL} {H : xH}
theorem mQ.ob (h : mQ m v β l H) : xob H (some m) 11 = some m := obx h.1.1
theorem mQ.rows (h : mQ m v β l H) : xgI H (some m) 11 41 = some (nI (bZ β)) := by
  rw [gI h.1.1 mi41, h.1.2.1.2.2.2.2.1]
theorem mQ.lf (h : mQ m v β l H) (hN : 5 < N) {k : Nat} (hk : k < bZ β) : F_X12_isLeft N (some m) (nI k) H = some (bI (lft β l k), H) := S_mLeft h.1 h.2.1 h.2.2.1 h.2.2.2 hN hk
theorem mQ.z (h : mQ m v β l H) : bZ β ≤ 59049 := bZ_le h.2.1.1
theorem S_mManyL (h : mQ m v β l H) (hN : 5 < N) : ∀ (n i : Nat), i ≤ bZ β → bZ β - i < n → F_X12_leftMany_L4 N n (some m) (nI (cnt (lft β l) i)) (nI i) H = some (nI (cnt (lft β l) (bZ β)), H) := by
  have hz := h.z
  intro n
  induction n with
  | zero => intro i hi hm; omega
  | succ n ih =>
    intro i hi hm
    show F_X12_leftMany_J4 N (F_X12_leftMany_L4 N n) (some m) (nI (cnt (lft β l) i)) (nI i) H = _
    unfold F_X12_leftMany_J4
    by_cases hlt : i < bZ β
    · have n1 : ¬ nI (bZ β) ≤ nI i := nI_ge hlt (by omega)
      simp only [h.rows, Option.bind_some, n1, if_false, h.ob, h.lf hN hlt, bd2_s, S_unit, bI_add, nI_1]
      exact ih (i + 1) (by omega) (by omega)
    · have n1 : nI (bZ β) ≤ nI i := nI_le (by omega) (by omega)
      rw [show i = bZ β by omega] at n1 ⊢
      simp only [h.rows, Option.bind_some, n1, if_true]
theorem S_mMany (h : mQ m v β l H) (hN : 59049 < N) : F_X12_leftMany N (some m) H = some (nI (cnt (lft β l) (bZ β)), H) := by
  have hz := h.z
  exact S_mManyL h (by omega) N 0 (Nat.zero_le _) (by omega)
theorem S_mRowIn (h : mQ m v β l H) {k : Nat} (hk : k < bZ β) : F_X12_isRow N (some m) (nI k) H = some (bI (bex β k), H) := by
  have hz := h.z
  obtain ⟨g, g1, g2⟩ := h.1.2.2.2.2.1
  unfold F_X12_isRow
  have e1 : nI (bZ β) - 1 = nI (bZ β - 1) := by
    have : bZ β = (bZ β - 1) + 1 := by omega
    conv => lhs; rw [this]
    exact nI_pred _
  simp only [h.rows, Option.bind_some, S_in, bd2_s, e1]
  rw [bI_t ⟨nI_pos (by omega), nI_nlt (by omega) (by omega)⟩, if_neg (by decide : ¬ (1 : Int32) = 0), gA h.1.1 ma43]
  simp only [Option.bind_some]
  rw [rdI g1 (by omega) (by decide), g2 k hk]
  simp only [Option.bind_some]
  by_cases he : bex β k
  · rw [if_neg (fun q => (st_0 (h.2.1.2.2.2.1 k hk)).mp q he), bI_t he]
  · rw [if_pos ((st_0 (h.2.1.2.2.2.1 k hk)).mpr he), bI_f he]
theorem S_mRowOut (h : mQ m v β l H) {x : Int32} (hx : x < 0 ∨ nI (bZ β) ≤ x) : F_X12_isRow N (some m) x H = some (0, H) := by
  have hz := h.z
  have hp : 0 < bZ β := Nat.pow_pos (by decide)
  unfold F_X12_isRow
  have e1 : nI (bZ β) - 1 = nI (bZ β - 1) := by
    have : bZ β = (bZ β - 1) + 1 := by omega
    conv => lhs; rw [this]
    exact nI_pred _
  simp only [h.rows, Option.bind_some, S_in, bd2_s, e1]
  have : ¬ (¬ x < 0 ∧ ¬ nI (bZ β - 1) < x) := by
    rintro ⟨q1, q2⟩
    rcases hx with q | q
    · exact q1 q
    · obtain ⟨j, hj, rfl⟩ := nI_of q1
      have := (nI_leI (by omega) hj).mp q
      exact q2 (nI_lt (by omega) hj)
  rw [bI_f this, if_pos rfl]
theorem S_mPays (h : mQ m v β l H) {w k : Nat} (hw : w < bW β) (hk : k < bZ β) (he : bex β k) : F_X12_paysAt N (some m) (nI w) (nI k) H = some (pay (boc β w k) (bc1 β w) (bc2 β w), H) := by
  have hz := h.z
  have hW := h.2.1.2.2.1
  obtain ⟨-, -, -, -, -, ⟨g, g1, g2⟩, ⟨a, a1, a2⟩, ⟨b, b1, b2⟩⟩ := h.1
  unfold F_X12_paysAt
  have e1 : (59049 : Int32) * nI w + nI k = nI (59049 * w + k) := by
    rw [show (59049 : Int32) = nI 59049 from rfl, pk_mul, nI_add]
  have q1 : xlI .int H (some (m + 5)) (nI w) = some (bc1 β w) := by rw [rdI a1 (by omega) (by decide), a2 w hw]
  have q2 : xlI .int H (some (m + 6)) (nI w) = some (bc2 β w) := by rw [rdI b1 (by omega) (by decide), b2 w hw]
  rw [gA h.1.1 ma44, e1]
  simp only [Option.bind_some]
  rw [rdI g1 (by omega) (by decide), g2 w hw k hk he]
  simp only [Option.bind_some, gA h.1.1 ma10, gA h.1.1 ma11, q1, q2]
  have ho := h.2.1.2.2.2.2.1 w k
  generalize boc β w k = o at ho
  have key : ∀ o, o < 5 → (if nI (mdo o) = 0 then some ((0 : Int32), H) else if nI (mdo o) = 1 then some (bc2 β w, H) else if nI (mdo o) = 2 then some (-bc1 β w, H) else if nI (mdo o) = 3 then some (2 * bc2 β w, H) else some (-2 * bc1 β w, H)) = some (pay o (bc1 β w) (bc2 β w), H) := by
    refine five ?_ ?_ ?_ ?_ ?_
    · rw [if_pos (by decide)]; rfl
    · rw [if_neg (by decide), if_neg (by decide), if_pos (by decide)]; rfl
    · rw [if_neg (by decide), if_neg (by decide), if_neg (by decide), if_neg (by decide)]; rfl
    · rw [if_neg (by decide), if_pos (by decide)]; rfl
    · rw [if_neg (by decide), if_neg (by decide), if_neg (by decide), if_pos (by decide)]; rfl
  exact key o ho
/-- an object field of the reference is written -/
theorem mQ.scr (h : mQ m v β l H) {j : Nat} {x : Int32} (hj : j = 49) : mQ m (upd v j x) β l (xup H m (mo m (upd v j x))) := by
  subst hj
  obtain ⟨⟨h1, ⟨e0, e1, e2, e3, e41, e46⟩, ⟨cb, c1, c2, c3⟩, ⟨g1, p1, p2⟩, ⟨g2, p3, p4⟩, ⟨g3, p5, p6⟩, ⟨g4, p7, p8⟩, ⟨g5, p9, p10⟩⟩, hr⟩ := h
  have hne : ∀ {a : Nat}, a ≠ 0 → m + a ≠ m := fun h => by omega
  refine ⟨⟨xup_at _, ⟨by simpa [upd] using e0, by simpa [upd] using e1, by simpa [upd] using e2, by simpa [upd] using e3, by simpa [upd] using e41, by simpa [upd] using e46⟩, ⟨cb, c1, by simpa [upd] using c2, c3⟩, ⟨g1, ?_, p2⟩, ⟨g2, ?_, p4⟩, ⟨g3, ?_, p6⟩, ⟨g4, ?_, p8⟩, ⟨g5, ?_, p10⟩⟩, hr⟩
  · rw [xup_ne _ (hne (by decide))]; exact p1
  · rw [xup_ne _ (hne (by decide))]; exact p3
  · rw [xup_ne _ (hne (by decide))]; exact p5
  · rw [xup_ne _ (hne (by decide))]; exact p7
  · rw [xup_ne _ (hne (by decide))]; exact p9
theorem pay_inj {c1 c2 : Int32} (h1 : 1 ≤ c1.toInt ∧ c1.toInt ≤ 999) (h2 : 1 ≤ c2.toInt ∧ c2.toInt ≤ 999) : ∀ o, o < 5 → ∀ o', o' < 5 → pay o c1 c2 = pay o' c1 c2 → o = o' := by
  have e1 : (-c1).toInt = -c1.toInt := by
    rw [Int32.toInt_neg]
    rw [Int.bmod_eq_of_le] <;> omega
  have e2 : ((-2 : Int32) * c1).toInt = -2 * c1.toInt := by
    rw [Int32.toInt_mul, show ((-2 : Int32)).toInt = -2 by decide]
    rw [Int.bmod_eq_of_le] <;> omega
  have e3 : ((2 : Int32) * c2).toInt = 2 * c2.toInt := by
    rw [Int32.toInt_mul, show ((2 : Int32)).toInt = 2 by decide]
    rw [Int.bmod_eq_of_le] <;> omega
  have e0 : (0 : Int32).toInt = 0 := by decide
  refine five ?_ ?_ ?_ ?_ ?_ <;> refine five ?_ ?_ ?_ ?_ ?_ <;> intro h <;> first
    | rfl
    | (exfalso; have h := congrArg Int32.toInt h; simp only [pay, e0, e1, e2, e3] at h; omega)
end MRead
