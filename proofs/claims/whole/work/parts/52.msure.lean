/-! PURE: the reference's isSure. -/
theorem upd_upd (v : Nat → Int32) (j : Nat) (a b : Int32) : upd (upd v j a) j b = upd v j b := by
  funext q
  by_cases h : q = j <;> simp [upd, h]
theorem upd_id (v : Nat → Int32) (j : Nat) : upd v j (v j) = v := by
  funext q
  by_cases h : q = j
  · subst h; simp [upd]
  · simp [upd, h]
theorem mlen {m : Nat} {v : Nat → Int32} : (mfs m v).length = 64 := rfl
section MSure
variable {N m : Nat} {β : sB} {l : sL}
theorem mQ.put {v : Nat → Int32} {H : xH} (h : mQ m v β l H) (x : Int32) : xpI H (some m) 11 49 x = some (xup H m (mo m (upd v 49 x))) := by
  unfold xpI
  rw [pV h.1.1 (by rw [mlen]; decide), ms49]
theorem S_mSureL (hN : 5 < N) {w : Nat} (hw : w < bW β) : ∀ (n i : Nat) (v : Nat → Int32) (H : xH) (o : Nat), mQ m v β l H → i ≤ bZ β → bZ β - i < n → (∀ j, j < i → lft β l j → boc β w j = o) → ((∃ j, j < i ∧ lft β l j) → v 49 = pay o (bc1 β w) (bc2 β w)) → o < 5 →
    ∃ x r, F_X12_isSure_L9 N n (some m) (nI w) (bI (∃ j, j < i ∧ lft β l j)) (nI i) H = some (r, xup H m (mo m (upd v 49 x))) ∧
      ((r = 1 ∧ ∃ o', (∀ j, j < bZ β → lft β l j → boc β w j = o') ∧ ((∃ j, j < bZ β ∧ lft β l j) → x = pay o' (bc1 β w) (bc2 β w))) ∨ (r = 0 ∧ ∀ o', ¬ sureO (bZ β) (lft β l) (boc β w) o')) := by
  intro n
  induction n with
  | zero => intro i v H o h hi hm; omega
  | succ n ih =>
    intro i v H o h hi hm hall hpay ho
    have hz := h.z
    show ∃ x r, F_X12_isSure_J9 N (F_X12_isSure_L9 N n) (some m) (nI w) (bI (∃ j, j < i ∧ lft β l j)) (nI i) H = _ ∧ _
    unfold F_X12_isSure_J9 F_X12_isSure_J51 F_X12_isSure_J59
    by_cases hlt : i < bZ β
    · have n1 : ¬ nI (bZ β) ≤ nI i := nI_ge hlt (by omega)
      simp only [h.rows, Option.bind_some, n1, if_false, h.ob, h.lf hN hlt, bd2_s, nI_1]
      by_cases hl : lft β l i
      · have he : bex β i := h.2.1.2.2.2.1 i hlt hl.1
        have hok := h.2.1.2.2.2.2.2 w hw
        have ho' := h.2.1.2.2.2.2.1 w i
        rw [bI_t hl, if_neg (by decide : ¬ (1 : Int32) = 0), S_mPays h hw hlt he]
        simp only [bd2_s, gI h.1.1 mi49, Option.bind_some, h.put]
        -- the step that writes the pay
        have step : (∀ j, j < i + 1 → lft β l j → boc β w j = boc β w i) → ∃ x r, F_X12_isSure_L9 N n (some m) (nI w) 1 (nI (i + 1)) (xup H m (mo m (upd v 49 (pay (boc β w i) (bc1 β w) (bc2 β w))))) = some (r, xup H m (mo m (upd v 49 x))) ∧
            ((r = 1 ∧ ∃ o', (∀ j, j < bZ β → lft β l j → boc β w j = o') ∧ ((∃ j, j < bZ β ∧ lft β l j) → x = pay o' (bc1 β w) (bc2 β w))) ∨ (r = 0 ∧ ∀ o', ¬ sureO (bZ β) (lft β l) (boc β w) o')) := by
          intro hall'
          obtain ⟨x, r, r1, r2⟩ := ih (i + 1) (upd v 49 (pay (boc β w i) (bc1 β w) (bc2 β w))) _ (boc β w i) (h.scr rfl) (by omega) (by omega) hall' (fun _ => by simp [upd]) ho'
          rw [bI_t ⟨i, by omega, hl⟩, upd_upd, xup_up] at r1
          exact ⟨x, r, r1, r2⟩
        by_cases hany : ∃ j, j < i ∧ lft β l j
        · rw [bI_t hany, if_neg (by decide : ¬ (1 : Int32) = 0), hpay hany]
          by_cases hs : boc β w i = o
          · rw [if_pos (by rw [hs])]
            exact step (fun j hj hlj => by
              by_cases hji : j = i
              · rw [hji]
              · rw [hall j (by omega) hlj, hs])
          · have hne : ¬ pay (boc β w i) (bc1 β w) (bc2 β w) = pay o (bc1 β w) (bc2 β w) := fun e => hs (pay_inj ⟨hok.1, hok.2.1⟩ ⟨hok.2.2.1, hok.2.2.2⟩ _ ho' _ ho e)
            rw [if_neg hne]
            refine ⟨v 49, 0, by rw [upd_id, xup_id h.1.1], Or.inr ⟨rfl, fun o' hso => ?_⟩⟩
            obtain ⟨j, j1, j2⟩ := hany
            exact hs ((hso.2 i hlt hl).trans ((hso.2 j (by omega) j2).symm.trans (hall j j1 j2)))
        · rw [bI_f hany, if_pos rfl]
          exact step (fun j hj hlj => by
            by_cases hji : j = i
            · rw [hji]
            · exact absurd ⟨j, by omega, hlj⟩ hany)
      · rw [bI_f hl, if_pos rfl]
        have e : bI (∃ j, j < i ∧ lft β l j) = bI (∃ j, j < i + 1 ∧ lft β l j) := bI_c ⟨fun ⟨j, j1, j2⟩ => ⟨j, by omega, j2⟩, fun ⟨j, j1, j2⟩ => ⟨j, by
          by_cases hji : j = i
          · subst hji; exact absurd j2 hl
          · omega, j2⟩⟩
        rw [e]
        exact ih (i + 1) v H o h (by omega) (by omega) (fun j hj hlj => by
          by_cases hji : j = i
          · subst hji; exact absurd hlj hl
          · exact hall j (by omega) hlj) (fun ⟨j, j1, j2⟩ => hpay ⟨j, by
          by_cases hji : j = i
          · subst hji; exact absurd j2 hl
          · omega, j2⟩) ho
    · have e : i = bZ β := by omega
      have n1 : nI (bZ β) ≤ nI i := nI_le (by omega) (by omega)
      simp only [h.rows, Option.bind_some, n1, if_true]
      refine ⟨v 49, 1, by rw [upd_id, xup_id h.1.1], Or.inl ⟨rfl, o, fun j hj => hall j (by omega), fun ⟨j, j1, j2⟩ => hpay ⟨j, by omega, j2⟩⟩⟩
/-- isSure of the reference, where some row is left -/
theorem S_mSure (hN : 59049 < N) {w : Nat} (hw : w < bW β) {v : Nat → Int32} {H : xH} (h : mQ m v β l H) (hex : ∃ j, j < bZ β ∧ lft β l j) :
    ∃ x, F_X12_isSure N (some m) (nI w) H = some (bI (∃ o, sureO (bZ β) (lft β l) (boc β w) o), xup H m (mo m (upd v 49 x))) ∧ ∀ o, sureO (bZ β) (lft β l) (boc β w) o → x = pay o (bc1 β w) (bc2 β w) := by
  have hz := h.z
  unfold F_X12_isSure
  rw [h.put]
  simp only [Option.bind_some]
  obtain ⟨x, r, r1, r2⟩ := S_mSureL (N := N) (by omega) hw N 0 (upd v 49 0) _ 0 (h.scr rfl) (Nat.zero_le _) (by omega) (fun j hj => by omega) (fun ⟨j, j1, _⟩ => by omega) (by decide)
  rw [bI_f (fun ⟨j, j1, _⟩ => by omega), upd_upd, xup_up] at r1
  refine ⟨x, ?_, fun o hso => ?_⟩
  · rw [show (nI 0 : Int32) = 0 from rfl] at r1
    rw [r1]
    rcases r2 with ⟨rfl, o', q1, q2⟩ | ⟨rfl, q⟩
    · rw [bI_t ⟨o', hex, q1⟩]
    · rw [bI_f (fun ⟨o', q9⟩ => q o' q9)]
  · rcases r2 with ⟨rfl, o', q1, q2⟩ | ⟨rfl, q⟩
    · obtain ⟨j, j1, j2⟩ := hex
      rw [q2 ⟨j, j1, j2⟩, ← q1 j j1 j2, hso.2 j j1 j2]
    · exact absurd hso (q o)
end MSure
