/-! PURE: the law's walk. -/
variable {stf : Nat → Nat} {N K b m : Nat} {β : sB} {δ : sD} {H : xH}
variable {k18 : Option Nat → Option Nat → Int32 → xH → Option (Int32 × xH)} {x3 w0 w1 w2 w3 w4 w5 : Int32} {L q0 : Nat} {xs : Nat → Int32}
theorem law_J18 (hN : 59049 < N) (hK : K ≤ 1000) (h : Rel stf K b m β δ H) (hc : ¬ ((Int32.ofNat L) - (6 : Int32)) < x3) (e0 : xlS L xs x3 = some w0) (e1 : xlS L xs (x3 + 1) = some w1) (e2 : xlS L xs (x3 + 2) = some w2) (e3 : xlS L xs (x3 + 3) = some w3) (e4 : xlS L xs (x3 + 4) = some w4) (e5 : xlS L xs (x3 + 5) = some w5) (hk : ∀ β' δ' H', Rel stf (K + 1) b m β' δ' H' → lwEnd q0 (k18 (some b) (some m) (x3 + 6) H')) : lwEnd q0 (F_L_law_J18 N L xs k18 (some b) (some m) x3 H) := by
  unfold F_L_law_J18
  rw [if_neg hc, e0, Option.bind_some]
  by_cases c0 : (w0 &&& (31 : Int32)) = 0
  · rw [if_pos c0]
    exact law_feed hN hK h e1 e2 e3 e4 e5 hk
  rw [if_neg c0]
  by_cases c1 : (w0 &&& (31 : Int32)) = 1
  · rw [if_pos c1]
    exact law_book hN hK h e1 e2 e3 e4 e5 hk
  rw [if_neg c1]
  by_cases c2 : (w0 &&& (31 : Int32)) = 2
  · rw [if_pos c2]
    exact law_fault hN hK h e1 e2 e3 e4 e5 hk
  rw [if_neg c2]
  by_cases c3 : (w0 &&& (31 : Int32)) = 3
  · rw [if_pos c3]
    exact law_told hN hK h e1 e2 e3 e4 e5 hk
  rw [if_neg c3]
  by_cases c4 : (w0 &&& (31 : Int32)) = 4
  · rw [if_pos c4]
    exact law_wager hN hK h e1 e2 e3 e4 e5 hk
  rw [if_neg c4]
  by_cases c5 : (w0 &&& (31 : Int32)) = 5
  · rw [if_pos c5]
    exact law_day hN hK h e1 e2 e3 e4 e5 hk
  rw [if_neg c5]
  by_cases c6 : (w0 &&& (31 : Int32)) = 6
  · rw [if_pos c6]
    exact law_come hN hK h e1 e2 e3 e4 e5 hk
  rw [if_neg c6]
  by_cases c7 : (w0 &&& (31 : Int32)) = 7
  · rw [if_pos c7]
    exact law_chance hN hK h e1 e2 e3 e4 e5 hk
  rw [if_neg c7]
  by_cases c8 : (w0 &&& (31 : Int32)) = 8
  · rw [if_pos c8]
    exact law_sell hN hK h e1 e2 e3 e4 e5 hk
  rw [if_neg c8]
  by_cases c9 : (w0 &&& (31 : Int32)) = 9
  · rw [if_pos c9]
    exact law_paid hN hK h e1 e2 e3 e4 e5 hk
  rw [if_neg c9]
  by_cases c10 : (w0 &&& (31 : Int32)) = 10
  · rw [if_pos c10]
    exact law_rows hN hK h e1 e2 e3 e4 e5 hk
  rw [if_neg c10]
  by_cases c11 : (w0 &&& (31 : Int32)) = 11
  · rw [if_pos c11]
    exact law_fits hN hK h e1 e2 e3 e4 e5 hk
  rw [if_neg c11]
  by_cases c12 : (w0 &&& (31 : Int32)) = 12
  · rw [if_pos c12]
    exact law_pays hN hK h e1 e2 e3 e4 e5 hk
  rw [if_neg c12]
  by_cases c13 : (w0 &&& (31 : Int32)) = 13
  · rw [if_pos c13]
    exact law_sure hN hK h e1 e2 e3 e4 e5 hk
  rw [if_neg c13]
  by_cases c14 : (w0 &&& (31 : Int32)) = 14
  · rw [if_pos c14]
    exact law_split hN hK h e1 e2 e3 e4 e5 hk
  rw [if_neg c14]
  by_cases c15 : (w0 &&& (31 : Int32)) = 15
  · rw [if_pos c15]
    exact law_when hN hK h e1 e2 e3 e4 e5 hk
  rw [if_neg c15]
  by_cases c16 : (w0 &&& (31 : Int32)) = 16
  · rw [if_pos c16]
    exact law_latest hN hK h e1 e2 e3 e4 e5 hk
  rw [if_neg c16]
  by_cases c17 : (w0 &&& (31 : Int32)) = 17
  · rw [if_pos c17]
    exact law_hang hN hK h e1 e2 e3 e4 e5 hk
  rw [if_neg c17]
  by_cases c18 : (w0 &&& (31 : Int32)) = 18
  · rw [if_pos c18]
    exact law_same hN hK h e1 e2 e3 e4 e5 hk
  rw [if_neg c18]
  by_cases c19 : (w0 &&& (31 : Int32)) = 19
  · rw [if_pos c19]
    exact law_has hN hK h e1 e2 e3 e4 e5 hk
  rw [if_neg c19]
  by_cases c20 : (w0 &&& (31 : Int32)) = 20
  · rw [if_pos c20]
    exact law_may hN hK h e1 e2 e3 e4 e5 hk
  rw [if_neg c20]
  by_cases c21 : (w0 &&& (31 : Int32)) = 21
  · rw [if_pos c21]
    exact law_end hN hK h e1 e2 e3 e4 e5 hk
  rw [if_neg c21]
  by_cases c22 : (w0 &&& (31 : Int32)) = 22
  · rw [if_pos c22]
    exact law_settle hN hK h e1 e2 e3 e4 e5 hk
  rw [if_neg c22]
  by_cases c23 : (w0 &&& (31 : Int32)) = 23
  · rw [if_pos c23]
    exact law_best hN hK h e1 e2 e3 e4 e5 hk
  rw [if_neg c23]
  by_cases c24 : (w0 &&& (31 : Int32)) = 24
  · rw [if_pos c24]
    exact law_win hN hK h e1 e2 e3 e4 e5 hk
  rw [if_neg c24]
  by_cases c25 : (w0 &&& (31 : Int32)) = 25
  · rw [if_pos c25]
    exact law_worth hN hK h e1 e2 e3 e4 e5 hk
  rw [if_neg c25]
  by_cases c26 : (w0 &&& (31 : Int32)) = 26
  · rw [if_pos c26]
    exact law_holds hN hK h e1 e2 e3 e4 e5 hk
  rw [if_neg c26]
  by_cases c27 : (w0 &&& (31 : Int32)) = 27
  · rw [if_pos c27]
    exact law_luck hN hK h e1 e2 e3 e4 e5 hk
  rw [if_neg c27]
  by_cases c28 : (w0 &&& (31 : Int32)) = 28
  · rw [if_pos c28]
    exact law_image hN hK h e1 e2 e3 e4 e5 hk
  rw [if_neg c28]
  by_cases c29 : (w0 &&& (31 : Int32)) = 29
  · rw [if_pos c29]
    exact law_back hN hK h e1 e2 e3 e4 e5 hk
  rw [if_neg c29]
  by_cases c30 : (w0 &&& (31 : Int32)) = 30
  · rw [if_pos c30]
    exact law_count hN hK h e1 e2 e3 e4 e5 hk
  rw [if_neg c30]
  exact hk β δ H h.same
theorem law_c (hL : L ≤ 3072) (i : Nat) (hi : i ≤ 512) : (Int32.ofNat L) - (6 : Int32) < nI (6 * i) ↔ L < 6 * i + 6 := by
  have h1 : (Int32.ofNat L).toInt = (L : Int) := nI_toInt (by omega)
  have h2 : ((Int32.ofNat L) - (6 : Int32)).toInt = (L : Int) - 6 := by
    rw [Int32.toInt_sub, h1, show (6 : Int32).toInt = 6 by decide, Int.bmod_eq_of_le] <;> omega
  rw [Int32.lt_iff_toInt_lt, h2, nI_toInt (by omega)]
  omega
theorem law_x (hL : L ≤ 3072) {k : Nat} (hk : k < L) : xlS L xs (nI k) = some (xs k) := by
  unfold xlS
  rw [if_pos (nI_nin hk (by omega)), nI_clamp (by omega)]
theorem Rel.room (h : Rel stf K b m β δ H) (hK : K ≤ 1000) : H.2.1 - b ≤ 600000 ∧ H.2.2.1 ≤ 7302250 := by
  obtain ⟨⟨⟨c, tc, tk, cb, n, nk, ncb, ad, ho⟩, -⟩, -⟩ := h
  obtain ⟨-, -, -, -, -, -, -, -, -, -, ⟨-, -, -, -, hw⟩, -, -, ⟨t, t5, rfl⟩, -, r3, r4⟩ := ho
  have h9 : 9 ^ t ≤ 9 ^ 5 := Nat.pow_le_pow_right (by decide) t5
  have h5 : ncb ≤ 5 ^ 6 := by
    rcases hw with rfl | ⟨s, s6, rfl⟩
    · exact Nat.zero_le _
    · exact Nat.pow_le_pow_right (by decide) s6
  rw [show 9 ^ 5 = 59049 from rfl] at h9
  rw [show 5 ^ 6 = 15625 from rfl] at h5
  omega
theorem law_all (hN : 59049 < N) (hL : L ≤ 3072) : ∀ z i, 513 - i < z → ∀ β δ H, i ≤ 512 → Rel stf i b m β δ H → lwEnd b (F_L_law_L18 N L xs z (some b) (some m) (nI (6 * i)) H) := by
  intro z
  induction z with
  | zero => intro i hz; omega
  | succ z ih =>
    intro i hz β δ H hi h
    show lwEnd b (F_L_law_J18 N L xs (F_L_law_L18 N L xs z) (some b) (some m) (nI (6 * i)) H)
    by_cases c : L < 6 * i + 6
    · unfold F_L_law_J18
      rw [if_pos ((law_c hL i hi).mpr c)]
      exact ⟨H, rfl, h.room (by omega)⟩
    · have hc : ¬ (Int32.ofNat L) - (6 : Int32) < nI (6 * i) := fun w => c ((law_c hL i hi).mp w)
      have ex : ∀ j, j < 6 → xlS L xs (nI (6 * i) + nI j) = some (xs (6 * i + j)) := fun j hj => by
        rw [nI_add]
        exact law_x hL (by omega)
      refine law_J18 (N := N) hN (by omega) h hc (law_x hL (by omega)) (ex 1 (by decide)) (ex 2 (by decide)) (ex 3 (by decide)) (ex 4 (by decide)) (ex 5 (by decide)) (fun β' δ' H' h' => ?_)
      rw [show nI (6 * i) + 6 = nI (6 * (i + 1)) from nI_add (6 * i) 6]
      exact ih (i + 1) (by omega) β' δ' H' (by omega) h'
