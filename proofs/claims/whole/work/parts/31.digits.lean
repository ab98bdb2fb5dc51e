/-! PURE: comparison of longs, digits of a code, stepDigits. -/
theorem lgc {x y : Int64} : lg_cmp x y = 0 ↔ x = y := by
  unfold lg_cmp
  by_cases h1 : y < x
  · have : ¬ x = y := by intro e; subst e; exact absurd h1 (by simp)
    simp [h1, this]
  · by_cases h2 : x = y
    · subst h2; simp
    · simp [h1, h2]
def dig (c j : Nat) : Nat := c / 9 ^ j % 9
theorem dig_lt (c j : Nat) : dig c j < 9 := Nat.mod_lt _ (by decide)
theorem five {P : Nat → Prop} (h0 : P 0) (h1 : P 1) (h2 : P 2) (h3 : P 3) (h4 : P 4) : ∀ j, j < 5 → P j := by
  intro j hj
  match j with
  | 0 => exact h0
  | 1 => exact h1
  | 2 => exact h2
  | 3 => exact h3
  | 4 => exact h4
  | n + 5 => omega
theorem dig_stA (c : Nat) : ∀ i, i < 5 → c % 9 ^ i = 9 ^ i - 1 → ∀ j, j < 5 → j < i → dig (c + 1) j = 0 := by
  refine five ?_ ?_ ?_ ?_ ?_ <;> intro hi <;> refine five ?_ ?_ ?_ ?_ ?_ <;> intro hj <;> simp [dig] at hi hj ⊢ <;> omega
theorem dig_stB (c : Nat) : ∀ i, i < 5 → c % 9 ^ i = 9 ^ i - 1 → ¬ dig c i = 8 → dig (c + 1) i = dig c i + 1 := by
  refine five ?_ ?_ ?_ ?_ ?_ <;> intro hi h8 <;> simp [dig] at hi h8 ⊢ <;> omega
theorem dig_stC (c : Nat) : ∀ i, i < 5 → c % 9 ^ i = 9 ^ i - 1 → ¬ dig c i = 8 → ∀ j, j < 5 → i < j → dig (c + 1) j = dig c j := by
  refine five ?_ ?_ ?_ ?_ ?_ <;> intro hi h8 <;> refine five ?_ ?_ ?_ ?_ ?_ <;> intro hj <;> simp [dig] at hi h8 hj ⊢ <;> omega
theorem dig_carry (c : Nat) : ∀ i, i < 5 → c % 9 ^ i = 9 ^ i - 1 → dig c i = 8 → c % 9 ^ (i + 1) = 9 ^ (i + 1) - 1 := by
  refine five ?_ ?_ ?_ ?_ ?_ <;> intro hi h8 <;> simp [dig] at hi h8 ⊢ <;> omega
theorem dig_all (c : Nat) (h : c % 9 ^ 5 = 9 ^ 5 - 1) : ∀ j, j < 5 → dig (c + 1) j = 0 := by
  refine five ?_ ?_ ?_ ?_ ?_ <;> simp [dig] at h ⊢ <;> omega
theorem dig_zero (j : Nat) : dig 0 j = 0 := by simp [dig]
section Digits
variable {N t td : Nat} {fs : List Value}
theorem S_step (c : Nat) (htd : td ≠ t) : ∀ (m i : Nat) (H : xH) (g : Nat → Int32), H.1 t = some (ob 6 fs) → fs[7]? = some (va_rf (some td)) → H.1 td = some (aI 5 g) → i ≤ 5 → 5 - i < m → (∀ j, j < 5 → g j = if j < i then 0 else nI (dig c j)) → c % 9 ^ i = 9 ^ i - 1 →
    ∃ g', F_X6_stepDigits_L2 N m (some t) (nI i) H = some (xup H td (aI 5 g')) ∧ ∀ j, j < 5 → g' j = nI (dig (c + 1) j) := by
  intro m
  induction m with
  | zero => intro i H g h1 h2 h3 hi hm; omega
  | succ m ih =>
    intro i H g h1 h2 h3 hi hm hg hc
    have hgA : xgA H (some t) 6 7 = some (some td) := gA h1 h2
    by_cases hlt : i < 5
    · have hn : ¬ nI 5 ≤ nI i := nI_ge hlt (by decide)
      have hgi : g i = nI (dig c i) := by rw [hg i hlt, if_neg (Nat.lt_irrefl i)]
      have hd := dig_lt c i
      have h1' : ∀ e, (xup H td e).1 t = some (ob 6 fs) := fun e => by rw [xup_ne _ (Ne.symm htd), h1]
      have hgA' : ∀ e, xgA (xup H td e) (some t) 6 7 = some (some td) := fun e => gA (h1' e) h2
      have e1 : upd g i (nI (dig c i) + 1) i = nI (dig c i + 1) := by simp [upd, nI_1]
      by_cases h8 : dig c i = 8
      · have h9 : (9 : Int32) ≤ nI (dig c i + 1) := by rw [h8]; decide
        obtain ⟨g', hg1, hg2⟩ := ih (i + 1) (xup H td (aI 5 (upd (upd g i (nI (dig c i) + 1)) i 0))) _ (h1' _) h2 (xup_at _) (by omega) (by omega) (fun j hj => by
          by_cases hji : j = i
          · subst hji
            simp [upd]
          · simp only [upd, hji, if_false]
            rw [hg j hj]
            by_cases hj2 : j < i
            · rw [if_pos hj2, if_pos (by omega)]
            · rw [if_neg hj2, if_neg (by omega)]) (dig_carry c i hlt hc h8)
        refine ⟨g', ?_, hg2⟩
        show F_X6_stepDigits_J2 N (F_X6_stepDigits_L2 N m) (some t) (nI i) H = _
        unfold F_X6_stepDigits_J2
        simp only [hgA, Option.bind_some, leI h3, hn, if_false, rdI h3 hlt (by decide), stI h3 hlt (by decide), hgA', rdI (xup_at _) hlt (by decide), vnI, hgi, nI_1, pk_us, h9, if_true, stI (xup_at _) hlt (by decide), nI_1, xup_up]
        rw [nI_1] at hg1
        rw [hg1, xup_up]
      · refine ⟨upd g i (nI (dig c i) + 1), ?_, fun j hj => ?_⟩
        · have h9 : ¬ (9 : Int32) ≤ nI (dig c i + 1) := by
            have : dig c i + 1 < 9 := by omega
            exact nI_ge this (by decide)
          show F_X6_stepDigits_J2 N (F_X6_stepDigits_L2 N m) (some t) (nI i) H = _
          unfold F_X6_stepDigits_J2
          simp only [hgA, Option.bind_some, leI h3, hn, if_false, rdI h3 hlt (by decide), stI h3 hlt (by decide), hgA', rdI (xup_at _) hlt (by decide), vnI, hgi, nI_1, pk_us, h9, if_false]
        · by_cases hji : j = i
          · subst hji
            rw [dig_stB c j hlt hc h8]
            simp [upd, nI_1]
          · simp only [upd, hji, if_false]
            rw [hg j hj]
            by_cases hj2 : j < i
            · rw [if_pos hj2, dig_stA c i hlt hc j hj hj2]; rfl
            · rw [if_neg hj2, dig_stC c i hlt hc h8 j hj (by omega)]
    · have h5 : i = 5 := by omega
      subst h5
      refine ⟨g, ?_, fun j hj => ?_⟩
      · show F_X6_stepDigits_J2 N (F_X6_stepDigits_L2 N m) (some t) (nI 5) H = _
        unfold F_X6_stepDigits_J2
        have hn : nI 5 ≤ nI 5 := nI_le (Nat.le_refl 5) (by decide)
        simp only [hgA, Option.bind_some, leI h3, hn, if_true, xup_id h3]
      · rw [hg j hj, if_pos hj, dig_all c hc j hj]; rfl
end Digits
