/-! PURE: the class reads the tokens of a text. -/
variable {stf : Nat → Nat} {N K b m : Nat} {β : sB} {δ : sD} {H : xH}
variable {t S E : Nat → Nat} {n J : Nat}
/-- Tokens' cells -/
def cT0 (b : Nat) (gk gs : Nat → Int32) (gv : Nat → Int64) (j : Int32) (H : xH) : Prop := H.1 (b + 2) = some (ob 8 [va_rf (some (b + 3)), va_rf (some (b + 4)), va_rf (some (b + 5)), .int j]) ∧ H.1 (b + 3) = some (aI 1201 gk) ∧ H.1 (b + 4) = some (aI 1201 gs) ∧ H.1 (b + 5) = some (aJ 1201 gv)
theorem S_tput {gk gs : Nat → Int32} {gv : Nat → Int64} {j : Int32} (h : cT0 b gk gs gv j H) {c : Nat} (hc : c < 1201) (k s : Int32) : ∃ H', F_X8_put N (some (b + 2)) (nI c) k s H = some H' ∧ cT0 b (upd gk c k) (upd gs c s) (vp_updL gv c 0) j H' ∧ Fr (fun q => b + 3 ≤ q ∧ q ≤ b + 5) H H' := by
  obtain ⟨h1, h2, h3, h4⟩ := h
  have e1 := S_set (N := N) (v := k) h2 hc (by decide)
  have h1' : (xup H (b + 3) (aI 1201 (upd gk c k))).1 (b + 2) = _ := (xup_ne _ (by omega)).trans h1
  have h3' : (xup H (b + 3) (aI 1201 (upd gk c k))).1 (b + 4) = _ := (xup_ne _ (by omega)).trans h3
  have e2 := S_set (N := N) (v := s) h3' hc (by decide)
  generalize hA : xup H (b + 3) (aI 1201 (upd gk c k)) = H1 at *
  have h1'' : (xup H1 (b + 4) (aI 1201 (upd gs c s))).1 (b + 2) = _ := (xup_ne _ (by omega)).trans h1'
  have h4'' : (xup H1 (b + 4) (aI 1201 (upd gs c s))).1 (b + 5) = some (aJ 1201 gv) := by rw [xup_ne _ (by omega), ← hA, xup_ne _ (by omega)]; exact h4
  have h3'' : (xup H1 (b + 4) (aI 1201 (upd gs c s))).1 (b + 3) = some (aI 1201 (upd gk c k)) := by rw [xup_ne _ (by omega), ← hA, xup_at]
  have hF : Fr (fun q => b + 3 ≤ q ∧ q ≤ b + 5) H (xup H1 (b + 4) (aI 1201 (upd gs c s))) := by
    rw [← hA]
    exact ⟨rfl, fun q hq => by rw [xup_ne _ (by omega), xup_ne _ (by omega)]⟩
  generalize hB : xup H1 (b + 4) (aI 1201 (upd gs c s)) = H2 at *
  refine ⟨xup H2 (b + 5) (aJ 1201 (vp_updL gv c 0)), ?_, ⟨?_, ?_, ?_, xup_at _⟩, hF.1, fun q hq => ?_⟩
  · unfold F_X8_put
    simp only [gA h1 (j := 0) rfl, e1, gA h1' (j := 1) rfl, e2, nI_pos (show c < 2 ^ 31 by omega), if_false, gA h1'' (j := 2) rfl, leJ h4'', nI_ge hc (by decide), stJ h4'' hc (by decide), Option.bind_some, bd2_s]
  · rw [xup_ne _ (by omega)]; exact h1''
  · rw [xup_ne _ (by omega)]; exact h3''
  · rw [xup_ne _ (by omega), ← hB, xup_at]
  · rw [xup_ne _ (by omega)]; exact hF.2 q hq
theorem S_ext {gk gs : Nat → Int32} {gv : Nat → Int64} {j : Int32} (h : cT0 b gk gs gv j H) {c : Nat} (hc : c < 1201) (x r : Int32) : F_X8_extend N (some (b + 2)) (nI c) x r H = some (xup H (b + 5) (aJ 1201 (vp_updL gv c (if gk c = 2 then (if r ≤ 8 then (gv c <<< ((5 : Int32).toInt64 &&& 63)) ||| (((x - 97) + 1).toInt64) else 0) else (if r ≤ 3 then ((10 : Int64) * gv c + x.toInt64) - 48 else -1))))) := by
  obtain ⟨h1, h2, h3, h4⟩ := h
  have ea := S_at (N := N) (i := nI c) h2 (by decide)
  rw [gat_nI (by omega), if_pos hc] at ea
  unfold F_X8_extend
  simp only [nI_pos (show c < 2 ^ 31 by omega), if_false, gA h1 (j := 2) rfl, leJ h4, nI_lt hc (show 1201 < 2 ^ 31 by decide), if_true, gA h1 (j := 0) rfl, ea, rdJ h4 hc (by decide), F_X8_extend_J57, F_X8_extend_J94, stJ h4 hc (by decide), Option.bind_some, bd2_s]
  split <;> split <;> rfl
theorem cT0.e {gk gs : Nat → Int32} {gv gv' : Nat → Int64} {j : Int32} (h : cT0 b gk gs gv j H) : cT0 b gk gs gv' j (xup H (b + 5) (aJ 1201 gv')) := by
  obtain ⟨h1, h2, h3, h4⟩ := h
  exact ⟨(xup_ne _ (by omega)).trans h1, (xup_ne _ (by omega)).trans h2, (xup_ne _ (by omega)).trans h3, xup_at _⟩
/-- the tokens read, the next one -/
def cTk (t : Nat → Nat) (J : Nat) (S E : Nat → Nat) (b : Nat) (j : Int32) (H : xH) : Prop := ∃ gk gs gv, cT0 b gk gs gv j H ∧ (∀ i, i ≤ J → gk i = nI (if i < J then kk (t (S i)) else 0) ∧ gs i = nI (S i)) ∧ ∀ i, i < J → gv i = tv5 t (S i) (E i)
/-- the tokens read so far -/
def cTj (t : Nat → Nat) (J : Nat) (S E : Nat → Nat) (gk gs : Nat → Int32) (gv : Nat → Int64) : Prop := ∀ i, i < J → gk i = nI (kk (t (S i))) ∧ gs i = nI (S i) ∧ gv i = tv5 t (S i) (E i)
theorem ext_v {s r : Nat} {gv : Int64} (hs : 1 ≤ r) (ht : t (s + (r - 1)) < 256) (hk : kk (t s) = 2 ∨ kk (t s) = 3) (hr : ∀ q, s ≤ q → q < s + r → kk (t q) = kk (t s)) (hr31 : r < 2000) (hg : gv = if r = 1 then 0 else tv5 t s (s + (r - 1))) :
    (if (nI (kk (t s)) : Int32) = 2 then (if nI r ≤ 8 then (gv <<< ((5 : Int32).toInt64 &&& 63)) ||| (((nI (t (s + (r - 1))) - 97) + 1).toInt64) else 0) else (if nI r ≤ 3 then ((10 : Int64) * gv + (nI (t (s + (r - 1)))).toInt64) - 48 else -1)) = tv5 t s (s + r) := by
  have hx := hr (s + (r - 1)) (by omega) (by omega)
  obtain ⟨l, rfl⟩ : ∃ l, r = l + 1 := ⟨r - 1, by omega⟩
  simp only [Nat.add_sub_cancel] at *
  have e3 : s + (l + 1) - s = l + 1 := by omega
  have e4 : s + l - s = l := by omega
  rcases hk with hk | hk
  · have hx2 := kk_2 (hx.trans hk)
    rw [if_pos (show (nI (kk (t s)) : Int32) = 2 by rw [hk]; rfl)]
    unfold tv5
    rw [if_pos hk, e3]
    by_cases h8 : l + 1 ≤ 8
    · rw [if_pos (show nI (l + 1) ≤ (8 : Int32) from nI_le (b := 8) h8 (by decide)), if_pos h8]
      have eg : gv = lN (w5 (wl t s l)) := by
        rw [hg]
        by_cases h0 : l + 1 = 1
        · rw [if_pos h0]; have : l = 0 := by omega
          subst this; rfl
        · rw [if_neg h0]; unfold tv5; rw [if_pos hk, e4, if_pos (by omega)]
      have hL : lets (wl t s l) := wl_lets (fun q q1 q2 => (hr q q1 (by omega)).trans hk)
      have hb := w5_63 hL (by rw [wl_len]; omega)
      rw [eg, show (97 : Int32) = nI 97 from rfl, pk_sub hx2.1, nI_1, nI_l (by omega), shl5 (by omega) (by omega)]
      show _ = lN (w5 (wl t s l) * 32 + (t (s + l) - 96))
      congr 2
      omega
    · rw [if_neg (show ¬ nI (l + 1) ≤ (8 : Int32) from nI_ge (a := 8) (by omega) (by omega)), if_neg h8]
  · have hx2 := kk_3 (hx.trans hk)
    rw [if_neg (show ¬ (nI (kk (t s)) : Int32) = 2 by rw [hk]; decide)]
    unfold tv5
    rw [if_neg (show ¬ kk (t s) = 2 by rw [hk]; decide), if_pos hk, e3]
    by_cases h8 : l + 1 ≤ 3
    · rw [if_pos (show nI (l + 1) ≤ (3 : Int32) from nI_le (b := 3) h8 (by decide)), if_pos h8]
      have eg : gv = lN (dc t s l) := by
        rw [hg]
        by_cases h0 : l + 1 = 1
        · rw [if_pos h0]; have : l = 0 := by omega
          subst this; rfl
        · rw [if_neg h0]; unfold tv5; rw [if_neg (show ¬ kk (t s) = 2 by rw [hk]; decide), if_pos hk, e4, if_pos (by omega)]
      rw [eg, nI_l (by omega), show (10 : Int64) = lN 10 from rfl, show (48 : Int64) = lN 48 from rfl, lN_mul, lN_add, lN_sub (by omega)]
      show _ = lN (10 * dc t s l + (t (s + l) - 48))
      congr 1
      omega
    · rw [if_neg (show ¬ nI (l + 1) ≤ (3 : Int32) from nI_ge (a := 3) (by omega) (by omega)), if_neg h8]
