/-! PURE: the law's loop. -/
variable {stf : Nat → Nat} {N K b m : Nat} {β : sB} {δ : sD} {H : xH}
theorem nob {k : Nat} (e : xob H (some m) 11 = none) : xgI H (some m) 11 k = none := by
  have : xgf H (some m) 11 k = none := by
    unfold xob at e
    unfold xgf
    simp only at e ⊢
    split
    · rename_i c fs hc
      rw [hc] at e
      simp only at e
      split
      · rename_i h11
        rw [if_pos h11] at e
        cases e
      · rfl
    · rfl
  unfold xgI
  rw [this]
theorem bnone {α γ : Type} {o : Option α} {f : α → Option γ} {r : γ} (ho : o = none) (h : o.bind f = some r) : False := by
  subst ho
  simp at h
def lwEnd (q0 : Nat) (o : Option (Int32 × xH)) : Prop := ∃ Hf, o = some (1, Hf) ∧ Hf.2.1 - q0 ≤ 600000 ∧ Hf.2.2.1 ≤ 7302250
/-- whoever answers there stands upon the reference -/
def lwOb (m : Nat) {τ : Type} (fm : xH → Option (τ × xH)) : Prop := ∀ H1 r H2, fm H1 = some (r, H2) → (∀ H', H' = H2 → xob H' (some m) 11 ≠ none) → xob H1 (some m) 11 ≠ none
theorem law_k {τ : Type} {inst : ∀ u w : τ, Decidable (u = w)} {fx fm : xH → Option (τ × xH)} {k : xH → Option (Int32 × xH)} {q0 : Nat} (h : xStep stf K b m fx fm H) (ho : lwOb m fm) (hk : ∀ β' δ' H', Rel stf (K + 1) b m β' δ' H' → lwEnd q0 (k H')) : lwEnd q0 (x_bd2 (fx H) fun u H1 => (xob H1 (some m) 11).bind fun _ => x_bd2 (fm H1) fun w H2 => @ite _ (u = w) (inst u w) (k H2) (some ((0 : Int32), H2))) := by
  obtain ⟨r, H1, H2, β', δ', e1, e2, h2⟩ := h
  have h3 : xob H2 (some m) 11 ≠ none := by
    obtain ⟨-, v, hm⟩ := id h2
    rw [obx hm.1.1.1]
    simp
  have h4 := ho H1 r H2 e2 (fun H' e => by rw [e]; exact h3)
  cases e : xob H1 (some m) 11 with
  | none => exact absurd e h4
  | some i =>
    rw [e1, bd2_s, e, Option.bind_some, e2, bd2_s, if_pos rfl]
    exact hk β' δ' H2 h2
theorem ob_feed {w1 w2 w3 w4 w5 : Int32} : lwOb m (F_X12_feed N (some m) w1 w2 w3 w4 w5) := fun H1 r H2 h h2 e => by
  unfold F_X12_feed at h
  exact bnone (nob e) h
theorem ob_book {w1 : Int32} : lwOb m (F_X12_book N (some m) w1) := fun H1 r H2 h h2 e => by
  unfold F_X12_book at h
  exact bnone (nob e) h
theorem ob_fault : lwOb m (F_X12_fault N (some m)) := fun H1 r H2 h h2 e => by
  unfold F_X12_fault at h
  exact bnone (nob e) h
theorem ob_told {w1 : Int32} : lwOb m (F_X12_told N (some m) w1) := fun H1 r H2 h h2 e => by
  unfold F_X12_told at h
  split at h
  · exact bnone (nob e) h
  split at h
  · exact bnone (nob e) h
  split at h
  · exact bnone (nob e) h
  split at h
  · exact bnone (nob e) h
  · exact bnone (nob e) h
theorem ob_wager {w1 w2 : Int32} : lwOb m (F_X12_wager N (some m) w1 w2) := fun H1 r H2 h h2 e => by
  unfold F_X12_wager at h
  exact bnone e h
theorem ob_day {w1 : Int32} : lwOb m (F_X12_day N (some m) w1) := fun H1 r H2 h h2 e => by
  unfold F_X12_day at h
  exact bnone (nob e) h
theorem ob_come {w1 : Int32} : lwOb m (F_X12_come N (some m) w1) := fun H1 r H2 h h2 e => by
  unfold F_X12_come at h
  exact bnone e h
theorem ob_chance {w1 w2 w3 : Int32} : lwOb m (F_X12_chance N (some m) w1 w2 w3) := fun H1 r H2 h h2 e => by
  unfold F_X12_chance at h
  exact bnone e h
theorem ob_sell {w1 w2 w3 w4 : Int32} : lwOb m (F_X12_sell N (some m) w1 w2 w3 w4) := fun H1 r H2 h h2 e => by
  unfold F_X12_sell at h
  exact bnone e h
theorem ob_paid {w1 w2 w3 : Int32} : lwOb m (F_X12_paid N (some m) w1 w2 w3) := fun H1 r H2 h h2 e => by
  unfold F_X12_paid at h
  exact bnone e h
theorem ob_rows {w1 : Int32} (hN : 0 < N) : lwOb m (F_X12_rows N (some m) w1) := fun H1 r H2 h h2 e => by
  obtain ⟨z, rfl⟩ : ∃ z, N = z + 1 := ⟨N - 1, by omega⟩
  unfold F_X12_rows at h
  split at h
  · exact bnone e h
  · exact bnone (o := xgI H1 (some m) 11 41) (nob e) h
theorem ob_fits {w1 : Int32} : lwOb m (F_X12_fits N (some m) w1) := fun H1 r H2 h h2 e => by
  unfold F_X12_fits at h
  exact bnone e h
theorem ob_pays {w1 w2 : Int32} : lwOb m (F_X12_pays N (some m) w1 w2) := fun H1 r H2 h h2 e => by
  unfold F_X12_pays at h
  exact bnone e h
theorem ob_sure {w1 w2 : Int32} : lwOb m (F_X12_sure N (some m) w1 w2) := fun H1 r H2 h h2 e => by
  unfold F_X12_sure at h
  exact bnone e h
theorem ob_split {w1 w2 : Int32} : lwOb m (F_X12_split N (some m) w1 w2) := fun H1 r H2 h h2 e => by
  unfold F_X12_split at h
  exact bnone e h
theorem ob_when {w1 w2 : Int32} : lwOb m (F_X12_when N (some m) w1 w2) := fun H1 r H2 h h2 e => by
  unfold F_X12_when at h
  exact bnone e h
theorem ob_latest {w1 : Int32} : lwOb m (F_X12_latest N (some m) w1) := fun H1 r H2 h h2 e => by
  unfold F_X12_latest at h
  exact bnone e h
theorem ob_hang {w1 : Int32} : lwOb m (F_X12_hang N (some m) w1) := fun H1 r H2 h h2 e => by
  unfold F_X12_hang at h
  exact bnone e h
theorem ob_same {w1 w2 : Int32} : lwOb m (F_X12_same N (some m) w1 w2) := fun H1 r H2 h h2 e => by
  unfold F_X12_same at h
  exact bnone e h
theorem ob_has {w1 : Int32} : lwOb m (F_X12_has N (some m) w1) := fun H1 r H2 h h2 e => by
  unfold F_X12_has at h
  exact bnone e h
theorem ob_may {w1 w2 : Int32} : lwOb m (F_X12_may N (some m) w1 w2) := fun H1 r H2 h h2 e => by
  unfold F_X12_may at h
  exact bnone e h
theorem ob_end {w1 w2 : Int32} : lwOb m (F_X12_end N (some m) w1 w2) := fun H1 r H2 h h2 e => by
  unfold F_X12_end at h
  exact bnone e h
theorem ob_settle : lwOb m (F_X12_settle N (some m)) := fun H1 r H2 h h2 e => by
  unfold F_X12_settle at h
  exact bnone e h
theorem ob_best {w1 : Int32} : lwOb m (F_X12_best N (some m) w1) := fun H1 r H2 h h2 e => by
  unfold F_X12_best at h
  exact bnone (nob e) h
theorem ob_win {w1 w2 : Int32} : lwOb m (F_X12_win N (some m) w1 w2) := fun H1 r H2 h h2 e => by
  unfold F_X12_win at h
  rw [S_in, bd2_s] at h
  split at h
  · exact h2 H1 (Prod.mk.inj (Option.some.inj h)).2 e
  split at h
  · exact h2 H1 (Prod.mk.inj (Option.some.inj h)).2 e
  · exact bnone (nob e) h
theorem ob_worth {w1 w2 : Int32} : lwOb m (F_X12_worth N (some m) w1 w2) := fun H1 r H2 h h2 e => by
  unfold F_X12_worth at h
  exact bnone e h
theorem ob_holds {w1 w2 : Int32} : lwOb m (F_X12_holds N (some m) w1 w2) := fun H1 r H2 h h2 e => by
  unfold F_X12_holds at h
  exact bnone e h
theorem ob_luck {w1 w2 : Int32} : lwOb m (F_X12_luck N (some m) w1 w2) := fun H1 r H2 h h2 e => by
  unfold F_X12_luck at h
  exact bnone e h
theorem ob_image : lwOb m (F_X12_image N (some m)) := fun H1 r H2 h h2 e => by
  unfold F_X12_image at h
  exact bnone (nob e) h
theorem ob_back {w1 : Int32} : lwOb m (F_X12_back N (some m) w1) := fun H1 r H2 h h2 e => by
  unfold F_X12_back at h
  exact bnone (nob e) h
theorem ob_count {w1 : Int32} (hN : 0 < N) : lwOb m (F_X12_count N (some m) w1) := fun H1 r H2 h h2 e => by
  obtain ⟨z, rfl⟩ : ∃ z, N = z + 1 := ⟨N - 1, by omega⟩
  unfold F_X12_count at h
  split at h
  · exact bnone (nob e) h
  split at h
  · exact bnone (nob e) h
  split at h
  · exact bnone (nob e) h
  split at h
  · exact bnone (nob e) h
  split at h
  · exact bnone (nob e) h
  split at h
  · exact bnone (o := xgI H1 (some m) 11 2) (nob e) h
  split at h
  · exact bnone e h
  split at h
  · exact bnone e h
  split at h
  · exact bnone (nob e) h
  · exact h2 H1 (Prod.mk.inj (Option.some.inj h)).2 e
theorem law_kJ {fx fm : xH → Option (Int64 × xH)} {k : xH → Option (Int32 × xH)} {q0 : Nat} (h : xStep stf K b m fx fm H) (ho : lwOb m fm) (hk : ∀ β' δ' H', Rel stf (K + 1) b m β' δ' H' → lwEnd q0 (k H')) : lwEnd q0 (x_bd2 (fx H) fun u H1 => (xob H1 (some m) 11).bind fun _ => x_bd2 (fm H1) fun w H2 => if lg_cmp u w = 0 then k H2 else some ((0 : Int32), H2)) := by
  obtain ⟨r, H1, H2, β', δ', e1, e2, h2⟩ := h
  have h3 : xob H2 (some m) 11 ≠ none := by
    obtain ⟨-, v, hm⟩ := id h2
    rw [obx hm.1.1.1]
    simp
  have h4 := ho H1 r H2 e2 (fun H' e => by rw [e]; exact h3)
  cases e : xob H1 (some m) 11 with
  | none => exact absurd e h4
  | some i =>
    have l0 : lg_cmp r r = 0 := by unfold lg_cmp; simp
    rw [e1, bd2_s, e, Option.bind_some, e2, bd2_s, if_pos l0]
    exact hk β' δ' H2 h2
variable {k18 : Option Nat → Option Nat → Int32 → xH → Option (Int32 × xH)} {x3 w1 w2 w3 w4 w5 : Int32} {L q0 : Nat} {xs : Nat → Int32}
theorem Rel.obb (h : Rel stf K b m β δ H) : xob H (some b) 10 = some b := by
  obtain ⟨⟨⟨c, tc, tk, cb, n, nk, ncb, ad, ho⟩, -⟩, -⟩ := h
  exact obx ho.2.1
theorem law_feed (hN : 59049 < N) (hK : K ≤ 1000) (h : Rel stf K b m β δ H) (e1 : xlS L xs (x3 + 1) = some w1) (e2 : xlS L xs (x3 + 2) = some w2) (e3 : xlS L xs (x3 + 3) = some w3) (e4 : xlS L xs (x3 + 4) = some w4) (e5 : xlS L xs (x3 + 5) = some w5) (hk : ∀ β' δ' H', Rel stf (K + 1) b m β' δ' H' → lwEnd q0 (k18 (some b) (some m) (x3 + 6) H')) : lwEnd q0 (F_L_law_J172 N L xs k18 (some b) (some m) x3 H) := by
  unfold F_L_law_J172
  simp only [e1, e2, e3, e4, e5, h.obb, Option.bind_some]
  exact law_k (T_feed hN h w1 w2 w3 w4 w5) ob_feed hk
theorem law_book (hN : 59049 < N) (hK : K ≤ 1000) (h : Rel stf K b m β δ H) (e1 : xlS L xs (x3 + 1) = some w1) (e2 : xlS L xs (x3 + 2) = some w2) (e3 : xlS L xs (x3 + 3) = some w3) (e4 : xlS L xs (x3 + 4) = some w4) (e5 : xlS L xs (x3 + 5) = some w5) (hk : ∀ β' δ' H', Rel stf (K + 1) b m β' δ' H' → lwEnd q0 (k18 (some b) (some m) (x3 + 6) H')) : lwEnd q0 (F_L_law_J235 N L xs k18 (some b) (some m) x3 H) := by
  unfold F_L_law_J235
  simp only [e1, h.obb, Option.bind_some]
  exact law_k (T_book hN h w1) ob_book hk
theorem law_fault (hN : 59049 < N) (hK : K ≤ 1000) (h : Rel stf K b m β δ H) (e1 : xlS L xs (x3 + 1) = some w1) (e2 : xlS L xs (x3 + 2) = some w2) (e3 : xlS L xs (x3 + 3) = some w3) (e4 : xlS L xs (x3 + 4) = some w4) (e5 : xlS L xs (x3 + 5) = some w5) (hk : ∀ β' δ' H', Rel stf (K + 1) b m β' δ' H' → lwEnd q0 (k18 (some b) (some m) (x3 + 6) H')) : lwEnd q0 (F_L_law_J258 N L xs k18 (some b) (some m) x3 H) := by
  unfold F_L_law_J258
  simp only [h.obb, Option.bind_some]
  exact law_k (T_fault h) ob_fault hk
theorem law_told (hN : 59049 < N) (hK : K ≤ 1000) (h : Rel stf K b m β δ H) (e1 : xlS L xs (x3 + 1) = some w1) (e2 : xlS L xs (x3 + 2) = some w2) (e3 : xlS L xs (x3 + 3) = some w3) (e4 : xlS L xs (x3 + 4) = some w4) (e5 : xlS L xs (x3 + 5) = some w5) (hk : ∀ β' δ' H', Rel stf (K + 1) b m β' δ' H' → lwEnd q0 (k18 (some b) (some m) (x3 + 6) H')) : lwEnd q0 (F_L_law_J271 N L xs k18 (some b) (some m) x3 H) := by
  unfold F_L_law_J271
  simp only [e1, h.obb, Option.bind_some]
  exact law_k (T_told h w1) ob_told hk
theorem law_wager (hN : 59049 < N) (hK : K ≤ 1000) (h : Rel stf K b m β δ H) (e1 : xlS L xs (x3 + 1) = some w1) (e2 : xlS L xs (x3 + 2) = some w2) (e3 : xlS L xs (x3 + 3) = some w3) (e4 : xlS L xs (x3 + 4) = some w4) (e5 : xlS L xs (x3 + 5) = some w5) (hk : ∀ β' δ' H', Rel stf (K + 1) b m β' δ' H' → lwEnd q0 (k18 (some b) (some m) (x3 + 6) H')) : lwEnd q0 (F_L_law_J294 N L xs k18 (some b) (some m) x3 H) := by
  unfold F_L_law_J294
  simp only [e1, e2, h.obb, Option.bind_some]
  exact law_k (T_wager h w1 w2) ob_wager hk
theorem law_day (hN : 59049 < N) (hK : K ≤ 1000) (h : Rel stf K b m β δ H) (e1 : xlS L xs (x3 + 1) = some w1) (e2 : xlS L xs (x3 + 2) = some w2) (e3 : xlS L xs (x3 + 3) = some w3) (e4 : xlS L xs (x3 + 4) = some w4) (e5 : xlS L xs (x3 + 5) = some w5) (hk : ∀ β' δ' H', Rel stf (K + 1) b m β' δ' H' → lwEnd q0 (k18 (some b) (some m) (x3 + 6) H')) : lwEnd q0 (F_L_law_J327 N L xs k18 (some b) (some m) x3 H) := by
  unfold F_L_law_J327
  simp only [e1, h.obb, Option.bind_some]
  exact law_k (T_day hN h w1) ob_day hk
theorem law_come (hN : 59049 < N) (hK : K ≤ 1000) (h : Rel stf K b m β δ H) (e1 : xlS L xs (x3 + 1) = some w1) (e2 : xlS L xs (x3 + 2) = some w2) (e3 : xlS L xs (x3 + 3) = some w3) (e4 : xlS L xs (x3 + 4) = some w4) (e5 : xlS L xs (x3 + 5) = some w5) (hk : ∀ β' δ' H', Rel stf (K + 1) b m β' δ' H' → lwEnd q0 (k18 (some b) (some m) (x3 + 6) H')) : lwEnd q0 (F_L_law_J350 N L xs k18 (some b) (some m) x3 H) := by
  unfold F_L_law_J350
  simp only [e1, h.obb, Option.bind_some]
  exact law_k (T_come hN h w1) ob_come hk
theorem law_chance (hN : 59049 < N) (hK : K ≤ 1000) (h : Rel stf K b m β δ H) (e1 : xlS L xs (x3 + 1) = some w1) (e2 : xlS L xs (x3 + 2) = some w2) (e3 : xlS L xs (x3 + 3) = some w3) (e4 : xlS L xs (x3 + 4) = some w4) (e5 : xlS L xs (x3 + 5) = some w5) (hk : ∀ β' δ' H', Rel stf (K + 1) b m β' δ' H' → lwEnd q0 (k18 (some b) (some m) (x3 + 6) H')) : lwEnd q0 (F_L_law_J373 N L xs k18 (some b) (some m) x3 H) := by
  unfold F_L_law_J373
  simp only [e1, e2, e3, h.obb, Option.bind_some]
  exact law_k (T_chance hN h w1 w2 w3) ob_chance hk
theorem law_sell (hN : 59049 < N) (hK : K ≤ 1000) (h : Rel stf K b m β δ H) (e1 : xlS L xs (x3 + 1) = some w1) (e2 : xlS L xs (x3 + 2) = some w2) (e3 : xlS L xs (x3 + 3) = some w3) (e4 : xlS L xs (x3 + 4) = some w4) (e5 : xlS L xs (x3 + 5) = some w5) (hk : ∀ β' δ' H', Rel stf (K + 1) b m β' δ' H' → lwEnd q0 (k18 (some b) (some m) (x3 + 6) H')) : lwEnd q0 (F_L_law_J416 N L xs k18 (some b) (some m) x3 H) := by
  unfold F_L_law_J416
  simp only [e1, e2, e3, e4, h.obb, Option.bind_some]
  exact law_k (T_sell hN hK h w1 w2 w3 w4) ob_sell hk
theorem law_paid (hN : 59049 < N) (hK : K ≤ 1000) (h : Rel stf K b m β δ H) (e1 : xlS L xs (x3 + 1) = some w1) (e2 : xlS L xs (x3 + 2) = some w2) (e3 : xlS L xs (x3 + 3) = some w3) (e4 : xlS L xs (x3 + 4) = some w4) (e5 : xlS L xs (x3 + 5) = some w5) (hk : ∀ β' δ' H', Rel stf (K + 1) b m β' δ' H' → lwEnd q0 (k18 (some b) (some m) (x3 + 6) H')) : lwEnd q0 (F_L_law_J469 N L xs k18 (some b) (some m) x3 H) := by
  unfold F_L_law_J469
  simp only [e1, e2, e3, h.obb, Option.bind_some]
  exact law_k (T_paid hN hK h w1 w2 w3) ob_paid hk
theorem law_rows (hN : 59049 < N) (hK : K ≤ 1000) (h : Rel stf K b m β δ H) (e1 : xlS L xs (x3 + 1) = some w1) (e2 : xlS L xs (x3 + 2) = some w2) (e3 : xlS L xs (x3 + 3) = some w3) (e4 : xlS L xs (x3 + 4) = some w4) (e5 : xlS L xs (x3 + 5) = some w5) (hk : ∀ β' δ' H', Rel stf (K + 1) b m β' δ' H' → lwEnd q0 (k18 (some b) (some m) (x3 + 6) H')) : lwEnd q0 (F_L_law_J512 N L xs k18 (some b) (some m) x3 H) := by
  unfold F_L_law_J512
  simp only [e1, h.obb, Option.bind_some]
  exact law_k (T_rows hN h w1) (ob_rows (by omega)) hk
theorem law_fits (hN : 59049 < N) (hK : K ≤ 1000) (h : Rel stf K b m β δ H) (e1 : xlS L xs (x3 + 1) = some w1) (e2 : xlS L xs (x3 + 2) = some w2) (e3 : xlS L xs (x3 + 3) = some w3) (e4 : xlS L xs (x3 + 4) = some w4) (e5 : xlS L xs (x3 + 5) = some w5) (hk : ∀ β' δ' H', Rel stf (K + 1) b m β' δ' H' → lwEnd q0 (k18 (some b) (some m) (x3 + 6) H')) : lwEnd q0 (F_L_law_J535 N L xs k18 (some b) (some m) x3 H) := by
  unfold F_L_law_J535
  simp only [e1, h.obb, Option.bind_some]
  exact law_k (T_fits (by omega) h w1) ob_fits hk
theorem law_pays (hN : 59049 < N) (hK : K ≤ 1000) (h : Rel stf K b m β δ H) (e1 : xlS L xs (x3 + 1) = some w1) (e2 : xlS L xs (x3 + 2) = some w2) (e3 : xlS L xs (x3 + 3) = some w3) (e4 : xlS L xs (x3 + 4) = some w4) (e5 : xlS L xs (x3 + 5) = some w5) (hk : ∀ β' δ' H', Rel stf (K + 1) b m β' δ' H' → lwEnd q0 (k18 (some b) (some m) (x3 + 6) H')) : lwEnd q0 (F_L_law_J558 N L xs k18 (some b) (some m) x3 H) := by
  unfold F_L_law_J558
  simp only [e1, e2, h.obb, Option.bind_some]
  exact law_k (T_pays h w1 w2) ob_pays hk
theorem law_sure (hN : 59049 < N) (hK : K ≤ 1000) (h : Rel stf K b m β δ H) (e1 : xlS L xs (x3 + 1) = some w1) (e2 : xlS L xs (x3 + 2) = some w2) (e3 : xlS L xs (x3 + 3) = some w3) (e4 : xlS L xs (x3 + 4) = some w4) (e5 : xlS L xs (x3 + 5) = some w5) (hk : ∀ β' δ' H', Rel stf (K + 1) b m β' δ' H' → lwEnd q0 (k18 (some b) (some m) (x3 + 6) H')) : lwEnd q0 (F_L_law_J591 N L xs k18 (some b) (some m) x3 H) := by
  unfold F_L_law_J591
  simp only [e1, e2, h.obb, Option.bind_some]
  exact law_k (T_sure hN h w1 w2) ob_sure hk
theorem law_split (hN : 59049 < N) (hK : K ≤ 1000) (h : Rel stf K b m β δ H) (e1 : xlS L xs (x3 + 1) = some w1) (e2 : xlS L xs (x3 + 2) = some w2) (e3 : xlS L xs (x3 + 3) = some w3) (e4 : xlS L xs (x3 + 4) = some w4) (e5 : xlS L xs (x3 + 5) = some w5) (hk : ∀ β' δ' H', Rel stf (K + 1) b m β' δ' H' → lwEnd q0 (k18 (some b) (some m) (x3 + 6) H')) : lwEnd q0 (F_L_law_J624 N L xs k18 (some b) (some m) x3 H) := by
  unfold F_L_law_J624
  simp only [e1, e2, h.obb, Option.bind_some]
  exact law_k (T_split hN h w1 w2) ob_split hk
theorem law_when (hN : 59049 < N) (hK : K ≤ 1000) (h : Rel stf K b m β δ H) (e1 : xlS L xs (x3 + 1) = some w1) (e2 : xlS L xs (x3 + 2) = some w2) (e3 : xlS L xs (x3 + 3) = some w3) (e4 : xlS L xs (x3 + 4) = some w4) (e5 : xlS L xs (x3 + 5) = some w5) (hk : ∀ β' δ' H', Rel stf (K + 1) b m β' δ' H' → lwEnd q0 (k18 (some b) (some m) (x3 + 6) H')) : lwEnd q0 (F_L_law_J657 N L xs k18 (some b) (some m) x3 H) := by
  unfold F_L_law_J657
  simp only [e1, e2, h.obb, Option.bind_some]
  exact law_k (T_when hN h w1 w2) ob_when hk
theorem law_latest (hN : 59049 < N) (hK : K ≤ 1000) (h : Rel stf K b m β δ H) (e1 : xlS L xs (x3 + 1) = some w1) (e2 : xlS L xs (x3 + 2) = some w2) (e3 : xlS L xs (x3 + 3) = some w3) (e4 : xlS L xs (x3 + 4) = some w4) (e5 : xlS L xs (x3 + 5) = some w5) (hk : ∀ β' δ' H', Rel stf (K + 1) b m β' δ' H' → lwEnd q0 (k18 (some b) (some m) (x3 + 6) H')) : lwEnd q0 (F_L_law_J690 N L xs k18 (some b) (some m) x3 H) := by
  unfold F_L_law_J690
  simp only [e1, h.obb, Option.bind_some]
  exact law_k (T_latest hN h w1) ob_latest hk
theorem law_hang (hN : 59049 < N) (hK : K ≤ 1000) (h : Rel stf K b m β δ H) (e1 : xlS L xs (x3 + 1) = some w1) (e2 : xlS L xs (x3 + 2) = some w2) (e3 : xlS L xs (x3 + 3) = some w3) (e4 : xlS L xs (x3 + 4) = some w4) (e5 : xlS L xs (x3 + 5) = some w5) (hk : ∀ β' δ' H', Rel stf (K + 1) b m β' δ' H' → lwEnd q0 (k18 (some b) (some m) (x3 + 6) H')) : lwEnd q0 (F_L_law_J713 N L xs k18 (some b) (some m) x3 H) := by
  unfold F_L_law_J713
  simp only [e1, h.obb, Option.bind_some]
  exact law_k (T_hang hN h w1) ob_hang hk
theorem law_same (hN : 59049 < N) (hK : K ≤ 1000) (h : Rel stf K b m β δ H) (e1 : xlS L xs (x3 + 1) = some w1) (e2 : xlS L xs (x3 + 2) = some w2) (e3 : xlS L xs (x3 + 3) = some w3) (e4 : xlS L xs (x3 + 4) = some w4) (e5 : xlS L xs (x3 + 5) = some w5) (hk : ∀ β' δ' H', Rel stf (K + 1) b m β' δ' H' → lwEnd q0 (k18 (some b) (some m) (x3 + 6) H')) : lwEnd q0 (F_L_law_J736 N L xs k18 (some b) (some m) x3 H) := by
  unfold F_L_law_J736
  simp only [e1, e2, h.obb, Option.bind_some]
  exact law_k (T_same hN h w1 w2) ob_same hk
theorem law_has (hN : 59049 < N) (hK : K ≤ 1000) (h : Rel stf K b m β δ H) (e1 : xlS L xs (x3 + 1) = some w1) (e2 : xlS L xs (x3 + 2) = some w2) (e3 : xlS L xs (x3 + 3) = some w3) (e4 : xlS L xs (x3 + 4) = some w4) (e5 : xlS L xs (x3 + 5) = some w5) (hk : ∀ β' δ' H', Rel stf (K + 1) b m β' δ' H' → lwEnd q0 (k18 (some b) (some m) (x3 + 6) H')) : lwEnd q0 (F_L_law_J769 N L xs k18 (some b) (some m) x3 H) := by
  unfold F_L_law_J769
  simp only [e1, h.obb, Option.bind_some]
  exact law_k (T_has hN h w1) ob_has hk
theorem law_may (hN : 59049 < N) (hK : K ≤ 1000) (h : Rel stf K b m β δ H) (e1 : xlS L xs (x3 + 1) = some w1) (e2 : xlS L xs (x3 + 2) = some w2) (e3 : xlS L xs (x3 + 3) = some w3) (e4 : xlS L xs (x3 + 4) = some w4) (e5 : xlS L xs (x3 + 5) = some w5) (hk : ∀ β' δ' H', Rel stf (K + 1) b m β' δ' H' → lwEnd q0 (k18 (some b) (some m) (x3 + 6) H')) : lwEnd q0 (F_L_law_J792 N L xs k18 (some b) (some m) x3 H) := by
  unfold F_L_law_J792
  simp only [e1, e2, h.obb, Option.bind_some]
  exact law_k (T_may hN hK h w1 w2) ob_may hk
theorem law_end (hN : 59049 < N) (hK : K ≤ 1000) (h : Rel stf K b m β δ H) (e1 : xlS L xs (x3 + 1) = some w1) (e2 : xlS L xs (x3 + 2) = some w2) (e3 : xlS L xs (x3 + 3) = some w3) (e4 : xlS L xs (x3 + 4) = some w4) (e5 : xlS L xs (x3 + 5) = some w5) (hk : ∀ β' δ' H', Rel stf (K + 1) b m β' δ' H' → lwEnd q0 (k18 (some b) (some m) (x3 + 6) H')) : lwEnd q0 (F_L_law_J825 N L xs k18 (some b) (some m) x3 H) := by
  unfold F_L_law_J825
  simp only [e1, e2, h.obb, Option.bind_some]
  exact law_k (T_end hN h w1 w2) ob_end hk
theorem law_settle (hN : 59049 < N) (hK : K ≤ 1000) (h : Rel stf K b m β δ H) (e1 : xlS L xs (x3 + 1) = some w1) (e2 : xlS L xs (x3 + 2) = some w2) (e3 : xlS L xs (x3 + 3) = some w3) (e4 : xlS L xs (x3 + 4) = some w4) (e5 : xlS L xs (x3 + 5) = some w5) (hk : ∀ β' δ' H', Rel stf (K + 1) b m β' δ' H' → lwEnd q0 (k18 (some b) (some m) (x3 + 6) H')) : lwEnd q0 (F_L_law_J858 N L xs k18 (some b) (some m) x3 H) := by
  unfold F_L_law_J858
  simp only [h.obb, Option.bind_some]
  exact law_k (T_settle hN h) ob_settle hk
theorem law_best (hN : 59049 < N) (hK : K ≤ 1000) (h : Rel stf K b m β δ H) (e1 : xlS L xs (x3 + 1) = some w1) (e2 : xlS L xs (x3 + 2) = some w2) (e3 : xlS L xs (x3 + 3) = some w3) (e4 : xlS L xs (x3 + 4) = some w4) (e5 : xlS L xs (x3 + 5) = some w5) (hk : ∀ β' δ' H', Rel stf (K + 1) b m β' δ' H' → lwEnd q0 (k18 (some b) (some m) (x3 + 6) H')) : lwEnd q0 (F_L_law_J871 N L xs k18 (some b) (some m) x3 H) := by
  unfold F_L_law_J871
  simp only [e1, h.obb, Option.bind_some]
  exact law_k (T_best hN hK h w1) ob_best hk
theorem law_win (hN : 59049 < N) (hK : K ≤ 1000) (h : Rel stf K b m β δ H) (e1 : xlS L xs (x3 + 1) = some w1) (e2 : xlS L xs (x3 + 2) = some w2) (e3 : xlS L xs (x3 + 3) = some w3) (e4 : xlS L xs (x3 + 4) = some w4) (e5 : xlS L xs (x3 + 5) = some w5) (hk : ∀ β' δ' H', Rel stf (K + 1) b m β' δ' H' → lwEnd q0 (k18 (some b) (some m) (x3 + 6) H')) : lwEnd q0 (F_L_law_J894 N L xs k18 (some b) (some m) x3 H) := by
  unfold F_L_law_J894
  simp only [e1, e2, h.obb, Option.bind_some]
  exact law_k (T_win hN h w1 w2) ob_win hk
theorem law_worth (hN : 59049 < N) (hK : K ≤ 1000) (h : Rel stf K b m β δ H) (e1 : xlS L xs (x3 + 1) = some w1) (e2 : xlS L xs (x3 + 2) = some w2) (e3 : xlS L xs (x3 + 3) = some w3) (e4 : xlS L xs (x3 + 4) = some w4) (e5 : xlS L xs (x3 + 5) = some w5) (hk : ∀ β' δ' H', Rel stf (K + 1) b m β' δ' H' → lwEnd q0 (k18 (some b) (some m) (x3 + 6) H')) : lwEnd q0 (F_L_law_J927 N L xs k18 (some b) (some m) x3 H) := by
  unfold F_L_law_J927
  simp only [e1, e2, h.obb, Option.bind_some]
  exact law_kJ (T_worth hN h w1 w2) ob_worth hk
theorem law_holds (hN : 59049 < N) (hK : K ≤ 1000) (h : Rel stf K b m β δ H) (e1 : xlS L xs (x3 + 1) = some w1) (e2 : xlS L xs (x3 + 2) = some w2) (e3 : xlS L xs (x3 + 3) = some w3) (e4 : xlS L xs (x3 + 4) = some w4) (e5 : xlS L xs (x3 + 5) = some w5) (hk : ∀ β' δ' H', Rel stf (K + 1) b m β' δ' H' → lwEnd q0 (k18 (some b) (some m) (x3 + 6) H')) : lwEnd q0 (F_L_law_J961 N L xs k18 (some b) (some m) x3 H) := by
  unfold F_L_law_J961
  simp only [e1, e2, h.obb, Option.bind_some]
  exact law_kJ (T_holds hN h w1 w2) ob_holds hk
theorem law_luck (hN : 59049 < N) (hK : K ≤ 1000) (h : Rel stf K b m β δ H) (e1 : xlS L xs (x3 + 1) = some w1) (e2 : xlS L xs (x3 + 2) = some w2) (e3 : xlS L xs (x3 + 3) = some w3) (e4 : xlS L xs (x3 + 4) = some w4) (e5 : xlS L xs (x3 + 5) = some w5) (hk : ∀ β' δ' H', Rel stf (K + 1) b m β' δ' H' → lwEnd q0 (k18 (some b) (some m) (x3 + 6) H')) : lwEnd q0 (F_L_law_J995 N L xs k18 (some b) (some m) x3 H) := by
  unfold F_L_law_J995
  simp only [e1, e2, h.obb, Option.bind_some]
  exact law_k (T_luck hN hK h w1 w2) ob_luck hk
theorem law_image (hN : 59049 < N) (hK : K ≤ 1000) (h : Rel stf K b m β δ H) (e1 : xlS L xs (x3 + 1) = some w1) (e2 : xlS L xs (x3 + 2) = some w2) (e3 : xlS L xs (x3 + 3) = some w3) (e4 : xlS L xs (x3 + 4) = some w4) (e5 : xlS L xs (x3 + 5) = some w5) (hk : ∀ β' δ' H', Rel stf (K + 1) b m β' δ' H' → lwEnd q0 (k18 (some b) (some m) (x3 + 6) H')) : lwEnd q0 (F_L_law_J1028 N L xs k18 (some b) (some m) x3 H) := by
  unfold F_L_law_J1028
  simp only [h.obb, Option.bind_some]
  exact law_k (T_image hN h) ob_image hk
theorem law_back (hN : 59049 < N) (hK : K ≤ 1000) (h : Rel stf K b m β δ H) (e1 : xlS L xs (x3 + 1) = some w1) (e2 : xlS L xs (x3 + 2) = some w2) (e3 : xlS L xs (x3 + 3) = some w3) (e4 : xlS L xs (x3 + 4) = some w4) (e5 : xlS L xs (x3 + 5) = some w5) (hk : ∀ β' δ' H', Rel stf (K + 1) b m β' δ' H' → lwEnd q0 (k18 (some b) (some m) (x3 + 6) H')) : lwEnd q0 (F_L_law_J1041 N L xs k18 (some b) (some m) x3 H) := by
  unfold F_L_law_J1041
  simp only [e1, h.obb, Option.bind_some]
  exact law_k (T_back hN h w1) ob_back hk
theorem law_count (hN : 59049 < N) (hK : K ≤ 1000) (h : Rel stf K b m β δ H) (e1 : xlS L xs (x3 + 1) = some w1) (e2 : xlS L xs (x3 + 2) = some w2) (e3 : xlS L xs (x3 + 3) = some w3) (e4 : xlS L xs (x3 + 4) = some w4) (e5 : xlS L xs (x3 + 5) = some w5) (hk : ∀ β' δ' H', Rel stf (K + 1) b m β' δ' H' → lwEnd q0 (k18 (some b) (some m) (x3 + 6) H')) : lwEnd q0 (F_L_law_J1064 N L xs k18 (some b) (some m) x3 H) := by
  unfold F_L_law_J1064
  simp only [e1, h.obb, Option.bind_some]
  exact law_k (T_count hN h w1) (ob_count (by omega)) hk
