/-! PURE: how the reference finds names. -/
variable {stf : Nat → Nat} {N K b m : Nat} {β : sB} {δ : sD} {H : xH}
variable {t S E : Nat → Nat} {n J : Nat}
set_option maxRecDepth 4000 in
theorem M_isKept {L : List Nat} (hL : wdo L) : F_X12_isKept N (lN (w8 L)) H = some (bI (∃ k, k < 19 ∧ kw k = L), H) := by
  have e0 : (lN (w8 L) = (499967946343 : Int64)) ↔ kw 0 = L := by rw [show (499967946343 : Int64) = lN (w8 (kw 0)) by decide +kernel]; exact (wdo_e8 hL (kw_w (by decide))).trans ⟨Eq.symm, Eq.symm⟩
  have e1 : (lN (w8 L) = (1718775661 : Int64)) ↔ kw 1 = L := by rw [show (1718775661 : Int64) = lN (w8 (kw 1)) by decide +kernel]; exact (wdo_e8 hL (kw_w (by decide))).trans ⟨Eq.symm, Eq.symm⟩
  have e2 : (lN (w8 L) = (504364296556 : Int64)) ↔ kw 2 = L := by rw [show (504364296556 : Int64) = lN (w8 (kw 2)) by decide +kernel]; exact (wdo_e8 hL (kw_w (by decide))).trans ⟨Eq.symm, Eq.symm⟩
  have e3 : (lN (w8 L) = (120282394289522 : Int64)) ↔ kw 3 = L := by rw [show (120282394289522 : Int64) = lN (w8 (kw 3)) by decide +kernel]; exact (wdo_e8 hL (kw_w (by decide))).trans ⟨Eq.symm, Eq.symm⟩
  have e4 : (lN (w8 L) = (1650553459 : Int64)) ↔ kw 4 = L := by rw [show (1650553459 : Int64) = lN (w8 (kw 4)) by decide +kernel]; exact (wdo_e8 hL (kw_w (by decide))).trans ⟨Eq.symm, Eq.symm⟩
  have e5 : (lN (w8 L) = (108243534636915 : Int64)) ↔ kw 5 = L := by rw [show (108243534636915 : Int64) = lN (w8 (kw 5)) by decide +kernel]; exact (wdo_e8 hL (kw_w (by decide))).trans ⟨Eq.symm, Eq.symm⟩
  have e6 : (lN (w8 L) = (26990 : Int64)) ↔ kw 6 = L := by rw [show (26990 : Int64) = lN (w8 (kw 6)) by decide +kernel]; exact (wdo_e8 hL (kw_w (by decide))).trans ⟨Eq.symm, Eq.symm⟩
  have e7 : (lN (w8 L) = (6448500 : Int64)) ↔ kw 7 = L := by rw [show (6448500 : Int64) = lN (w8 (kw 7)) by decide +kernel]; exact (wdo_e8 hL (kw_w (by decide))).trans ⟨Eq.symm, Eq.symm⟩
  have e8 : (lN (w8 L) = (29807 : Int64)) ↔ kw 8 = L := by rw [show (29807 : Int64) = lN (w8 (kw 8)) by decide +kernel]; exact (wdo_e8 hL (kw_w (by decide))).trans ⟨Eq.symm, Eq.symm⟩
  have e9 : (lN (w8 L) = (1952997748 : Int64)) ↔ kw 9 = L := by rw [show (1952997748 : Int64) = lN (w8 (kw 9)) by decide +kernel]; exact (wdo_e8 hL (kw_w (by decide))).trans ⟨Eq.symm, Eq.symm⟩
  have e10 : (lN (w8 L) = (7300710 : Int64)) ↔ kw 10 = L := by rw [show (7300710 : Int64) = lN (w8 (kw 10)) by decide +kernel]; exact (wdo_e8 hL (kw_w (by decide))).trans ⟨Eq.symm, Eq.symm⟩
  have e11 : (lN (w8 L) = (110429873532005 : Int64)) ↔ kw 11 = L := by rw [show (110429873532005 : Int64) = lN (w8 (kw 11)) by decide +kernel]; exact (wdo_e8 hL (kw_w (by decide))).trans ⟨Eq.symm, Eq.symm⟩
  have e12 : (lN (w8 L) = (28530 : Int64)) ↔ kw 12 = L := by rw [show (28530 : Int64) = lN (w8 (kw 12)) by decide +kernel]; exact (wdo_e8 hL (kw_w (by decide))).trans ⟨Eq.symm, Eq.symm⟩
  have e13 : (lN (w8 L) = (6385252 : Int64)) ↔ kw 13 = L := by rw [show (6385252 : Int64) = lN (w8 (kw 13)) by decide +kernel]; exact (wdo_e8 hL (kw_w (by decide))).trans ⟨Eq.symm, Eq.symm⟩
  have e14 : (lN (w8 L) = (7237492 : Int64)) ↔ kw 14 = L := by rw [show (7237492 : Int64) = lN (w8 (kw 14)) by decide +kernel]; exact (wdo_e8 hL (kw_w (by decide))).trans ⟨Eq.symm, Eq.symm⟩
  have e15 : (lN (w8 L) = (427071202675 : Int64)) ↔ kw 15 = L := by rw [show (427071202675 : Int64) = lN (w8 (kw 15)) by decide +kernel]; exact (wdo_e8 hL (kw_w (by decide))).trans ⟨Eq.symm, Eq.symm⟩
  have e16 : (lN (w8 L) = (25209 : Int64)) ↔ kw 16 = L := by rw [show (25209 : Int64) = lN (w8 (kw 16)) by decide +kernel]; exact (wdo_e8 hL (kw_w (by decide))).trans ⟨Eq.symm, Eq.symm⟩
  have e17 : (lN (w8 L) = (108187649798757 : Int64)) ↔ kw 17 = L := by rw [show (108187649798757 : Int64) = lN (w8 (kw 17)) by decide +kernel]; exact (wdo_e8 hL (kw_w (by decide))).trans ⟨Eq.symm, Eq.symm⟩
  have e18 : (lN (w8 L) = (465557353332 : Int64)) ↔ kw 18 = L := by rw [show (465557353332 : Int64) = lN (w8 (kw 18)) by decide +kernel]; exact (wdo_e8 hL (kw_w (by decide))).trans ⟨Eq.symm, Eq.symm⟩
  simp only [F_X12_isKept, lgc, e0, e1, e2, e3, e4, e5, e6, e7, e8, e9, e10, e11, e12, e13, e14, e15, e16, e17, e18]
  by_cases h0 : kw 0 = L
  · rw [if_pos h0, bI_t ⟨0, by decide, h0⟩]
  rw [if_neg h0]
  by_cases h1 : kw 1 = L
  · rw [if_pos h1, bI_t ⟨1, by decide, h1⟩]
  rw [if_neg h1]
  by_cases h2 : kw 2 = L
  · rw [if_pos h2, bI_t ⟨2, by decide, h2⟩]
  rw [if_neg h2]
  by_cases h3 : kw 3 = L
  · rw [if_pos h3, bI_t ⟨3, by decide, h3⟩]
  rw [if_neg h3]
  by_cases h4 : kw 4 = L
  · rw [if_pos h4, bI_t ⟨4, by decide, h4⟩]
  rw [if_neg h4]
  by_cases h5 : kw 5 = L
  · rw [if_pos h5, bI_t ⟨5, by decide, h5⟩]
  rw [if_neg h5]
  by_cases h6 : kw 6 = L
  · rw [if_pos h6, bI_t ⟨6, by decide, h6⟩]
  rw [if_neg h6]
  by_cases h7 : kw 7 = L
  · rw [if_pos h7, bI_t ⟨7, by decide, h7⟩]
  rw [if_neg h7]
  by_cases h8 : kw 8 = L
  · rw [if_pos h8, bI_t ⟨8, by decide, h8⟩]
  rw [if_neg h8]
  by_cases h9 : kw 9 = L
  · rw [if_pos h9, bI_t ⟨9, by decide, h9⟩]
  rw [if_neg h9]
  by_cases h10 : kw 10 = L
  · rw [if_pos h10, bI_t ⟨10, by decide, h10⟩]
  rw [if_neg h10]
  by_cases h11 : kw 11 = L
  · rw [if_pos h11, bI_t ⟨11, by decide, h11⟩]
  rw [if_neg h11]
  by_cases h12 : kw 12 = L
  · rw [if_pos h12, bI_t ⟨12, by decide, h12⟩]
  rw [if_neg h12]
  by_cases h13 : kw 13 = L
  · rw [if_pos h13, bI_t ⟨13, by decide, h13⟩]
  rw [if_neg h13]
  by_cases h14 : kw 14 = L
  · rw [if_pos h14, bI_t ⟨14, by decide, h14⟩]
  rw [if_neg h14]
  by_cases h15 : kw 15 = L
  · rw [if_pos h15, bI_t ⟨15, by decide, h15⟩]
  rw [if_neg h15]
  by_cases h16 : kw 16 = L
  · rw [if_pos h16, bI_t ⟨16, by decide, h16⟩]
  rw [if_neg h16]
  by_cases h17 : kw 17 = L
  · rw [if_pos h17, bI_t ⟨17, by decide, h17⟩]
  rw [if_neg h17]
  by_cases h18 : kw 18 = L
  · rw [if_pos h18, bI_t ⟨18, by decide, h18⟩]
  rw [if_neg h18]
  rw [bI_f]
  rintro ⟨k, hk, e⟩
  have hk' : k = 0 ∨ k = 1 ∨ k = 2 ∨ k = 3 ∨ k = 4 ∨ k = 5 ∨ k = 6 ∨ k = 7 ∨ k = 8 ∨ k = 9 ∨ k = 10 ∨ k = 11 ∨ k = 12 ∨ k = 13 ∨ k = 14 ∨ k = 15 ∨ k = 16 ∨ k = 17 ∨ k = 18 := by omega
  rcases hk' with rfl | rfl | rfl | rfl | rfl | rfl | rfl | rfl | rfl | rfl | rfl | rfl | rfl | rfl | rfl | rfl | rfl | rfl | rfl <;> contradiction
theorem nIm1 {k : Nat} (hk : k < 2 ^ 31) : ¬ nI k = (-1 : Int32) := fun z => by
  have h1 := congrArg Int32.toInt z
  rw [nI_toInt hk, show (-1 : Int32).toInt = -1 by decide] at h1
  omega
theorem M_find (hN : 1200 < N) {T L a : Nat} {g : Nat → Int64} {nm : Nat → List Nat} {W : List Nat} (hW : wdo W) (hL : L ≤ 6) (hTL : T ≤ L) (ha : H.1 a = some (aJ L g)) (hg : ∀ i, i < T → g i = lN (w8 (nm i))) (hnm : nmW T nm) :
    (∀ i, i < T → nm i = W → F_X12_find N (some a) (nI T) (lN (w8 W)) H = some (nI i, H)) ∧ ((∀ i, i < T → nm i ≠ W) → F_X12_find N (some a) (nI T) (lN (w8 W)) H = some (-1, H)) := by
  have loop : ∀ m i, i ≤ T → T - i < m → (∀ k, k < i → nm k ≠ W) →
      (∀ k, k < T → nm k = W → F_X12_find_L3 N m (some a) (nI T) (lN (w8 W)) (nI i) H = some (nI k, H)) ∧ ((∀ k, k < T → nm k ≠ W) → F_X12_find_L3 N m (some a) (nI T) (lN (w8 W)) (nI i) H = some (-1, H)) := by
    refine upto (P := fun m i => (∀ k, k < i → nm k ≠ W) → (∀ k, k < T → nm k = W → F_X12_find_L3 N m (some a) (nI T) (lN (w8 W)) (nI i) H = some (nI k, H)) ∧ ((∀ k, k < T → nm k ≠ W) → F_X12_find_L3 N m (some a) (nI T) (lN (w8 W)) (nI i) H = some (-1, H))) ?_ ?_
    · intro m hp
      rw [show F_X12_find_L3 N (m + 1) = F_X12_find_J3 N (F_X12_find_L3 N m) from rfl]
      simp only [F_X12_find_J3, Int32.le_refl, if_true]
      exact ⟨fun k h1 h2 => absurd h2 (hp k h1), fun _ => trivial⟩
    · intro m i hi ih hp
      rw [show F_X12_find_L3 N (m + 1) = F_X12_find_J3 N (F_X12_find_L3 N m) from rfl]
      simp only [F_X12_find_J3, nI_ge hi (show T < 2 ^ 31 by omega), if_false, rdJ ha (show i < L by omega) (by omega), hg i hi, nI_1, lgc, wdo_e8 (hnm.1 i hi).1 hW, Option.bind_some, bd2_s]
      by_cases e : nm i = W
      · rw [if_pos e]
        exact ⟨fun k h1 h2 => by rw [hnm.2 i k hi h1 (e.trans h2.symm)], fun q => absurd e (q i hi)⟩
      · rw [if_neg e]
        exact ih (fun k hk => by
          by_cases e3 : k = i
          · rw [e3]; exact e
          · exact hp k (by omega))
  unfold F_X12_find
  exact loop N 0 (Nat.zero_le _) (by omega) (fun k hk => by omega)
/-- the names told, in the reference -/
def mNm (T M : Nat) (tn mn : Nat → List Nat) (m : Nat) (v : Nat → Int32) (H : xH) : Prop := (v 23 = nI T ∧ T ≤ 5 ∧ ∃ g, H.1 (m + 18) = some (aJ 5 g) ∧ ∀ i, i < T → g i = lN (w8 (tn i))) ∧ (v 24 = nI M ∧ M ≤ 6 ∧ ∃ g, H.1 (m + 19) = some (aJ 6 g) ∧ ∀ i, i < M → g i = lN (w8 (mn i))) ∧ nmW T tn ∧ nmW M mn
theorem mNm.mu {T M : Nat} {tn mn : Nat → List Nat} {v v' : Nat → Int32} (h : mNm T M tn mn m v H) (he : ex4 v v') : mNm T M tn mn m v' (mu m v' H) := by
  obtain ⟨⟨h1, h2, g, h3, h4⟩, ⟨k1, k2, g', k3, k4⟩, w1, w2⟩ := h
  exact ⟨⟨(he 23 (by decide) (by decide) (by decide) (by decide)).trans h1, h2, g, (mu_ne (by omega)).trans h3, h4⟩, ⟨(he 24 (by decide) (by decide) (by decide) (by decide)).trans k1, k2, g', (mu_ne (by omega)).trans k3, k4⟩, w1, w2⟩
theorem M_isNew (hN : 1200 < N) {T M : Nat} {tn mn : Nat → List Nat} {v : Nat → Int32} (h0 : H.1 m = some (mo m v)) (h : mNm T M tn mn m v H) {W : List Nat} (hW : wdo W) : F_X12_isNew N (some m) (lN (w8 W)) H = some (bI (W ≠ [] ∧ (¬ ∃ k, k < 19 ∧ kw k = W) ∧ (∀ i, i < T → tn i ≠ W) ∧ ∀ i, i < M → mn i ≠ W), H) := by
  obtain ⟨⟨h1, h2, g, h3, h4⟩, ⟨k1, k2, g', k3, k4⟩, w1, w2⟩ := h
  have f1 := M_find (N := N) hN hW (show 5 ≤ 6 by omega) h2 h3 h4 w1
  have f2 := M_find (N := N) hN hW (Nat.le_refl 6) k2 k3 k4 w2
  unfold F_X12_isNew
  by_cases e0 : W = []
  · rw [if_pos (lgc.mpr (by rw [e0]; rfl)), bI_f (fun z => z.1 e0)]
  · rw [if_neg (show ¬ lg_cmp (lN (w8 W)) 0 = 0 from fun z => e0 ((wdo_e8 hW wdo_0).mp (lgc.mp z)))]
    simp only [M_isKept hW, Option.bind_some, bd2_s]
    by_cases e1 : ∃ k, k < 19 ∧ kw k = W
    · rw [bI_t e1, if_neg (by decide), bI_f (fun z => z.2.1 e1)]
    · rw [bI_f e1, if_pos rfl]
      simp only [gA h0 ma29, gI h0 mi23, h1, gA h0 ma30, gI h0 mi24, k1, Option.bind_some, bd2_s]
      by_cases e2 : ∀ i, i < T → tn i ≠ W
      · simp only [f1.2 e2, if_true, gA h0 ma30, gI h0 mi24, k1, Option.bind_some, bd2_s]
        by_cases e3 : ∀ i, i < M → mn i ≠ W
        · simp only [f2.2 e3, if_true, Option.bind_some, bd2_s]
          rw [bI_t ⟨e0, e1, e2, e3⟩]
        · obtain ⟨i, hi, hq⟩ : ∃ i, i < M ∧ mn i = W := by
            apply Classical.byContradiction
            intro z
            exact e3 (fun i hi hq => z ⟨i, hi, hq⟩)
          simp only [f2.1 i hi hq, Option.bind_some, bd2_s]
          rw [if_neg (nIm1 (by omega)), bI_f (fun z => e3 z.2.2.2)]
      · obtain ⟨i, hi, hq⟩ : ∃ i, i < T ∧ tn i = W := by
          apply Classical.byContradiction
          intro z
          exact e2 (fun i hi hq => z ⟨i, hi, hq⟩)
        simp only [f1.1 i hi hq, Option.bind_some, bd2_s]
        rw [if_neg (nIm1 (by omega)), bI_f (fun z => e2 z.2.2.1)]
section
theorem M_tThing (hT : tkS t n J S E) (hn : n ≤ 1200) (h6 : ∀ q, t q < 256) (hN : 1200 < N) {T M : Nat} {tn mn : Nat → List Nat} {v : Nat → Int32} {j : Nat} {ot : Int32} (h : mP t n S j m v H) (hm : mNm T M tn mn m v H) (hj : j ≤ J) :
    (∀ i, i < T → tn i = wd t J S E j → nI i ≠ ot → ∃ v', F_X12_takesThing N (some m) ot H = some (1, mu m v' H) ∧ ex4 v v' ∧ v' 39 = v 39 ∧ v' 40 = nI i ∧ mP t n S (j + 1) m v' (mu m v' H)) ∧ ((∀ i, i < T → tn i = wd t J S E j → nI i = ot) → ∃ v', F_X12_takesThing N (some m) ot H = some (0, mu m v' H) ∧ ex4 v v' ∧ v' 33 = nI (S j) ∧ mP t n S j m v' (mu m v' H)) := by
  obtain ⟨h0, hx, h32, p, h33, hp⟩ := h
  obtain ⟨⟨h1, h2, g, h3, h4⟩, -, w1, -⟩ := hm
  have w := M_word hT hn h6 hN hx hj hp h0 h32 h33
  have hW := wd_ok hT j
  generalize hv : upd (upd v 33 (nI (S j))) 38 (nI (we t J S E j)) = v1 at *
  have e1 : ex4 v v1 := by rw [← hv]; exact (ex4.u (by simp)).tr (ex4.u (by simp))
  have e32 : v1 32 = nI n := (e1 32 (by decide) (by decide) (by decide) (by decide)).trans h32
  have e39 : v1 39 = v 39 := by rw [← hv, pk_un (by decide), pk_un (by decide)]
  have e33 : v1 33 = nI (S j) := by rw [← hv, pk_un (by decide), pk_us]
  have e38 : v1 38 = nI (we t J S E j) := by rw [← hv, pk_us]
  have f1 := M_find (N := N) (H := mu m v1 H) hN hW (show 5 ≤ 6 by omega) h2 ((mu_ne (by omega)).trans h3) h4 w1
  have st : ∀ x, xpI (mu m v1 H) (some m) 11 40 x = some (mu m (upd v1 40 x) H) := fun x => mu_p (by decide) ms40
  unfold F_X12_takesThing
  simp only [gA h0 ma29, gI h0 mi23, h1, obx h0, w, Option.bind_some, bd2_s]
  refine ⟨fun i hi hq ho => ?_, fun ha => ?_⟩
  · have hne : wd t J S E j ≠ [] := by rw [← hq]; exact (w1.1 i hi).2
    obtain ⟨j1, j2, j3⟩ := wd_j hT hn h6 hN hne
    have st2 : xpI (mu m (upd v1 40 (nI i)) H) (some m) 11 33 (nI (E j)) = some (mu m (upd (upd v1 40 (nI i)) 33 (nI (E j))) H) := mu_p (by decide) ms33
    refine ⟨upd (upd v1 40 (nI i)) 33 (nI (E j)), ?_, e1.tr ((ex4.u (by simp)).tr (ex4.u (by simp))), by rw [pk_un (by decide), pk_un (by decide)]; exact e39, by rw [pk_un (by decide), pk_us], mP.mk hx (by rw [pk_un (by decide), pk_un (by decide)]; exact e32) pk_us (gp_e hT hn h6 hN j1)⟩
    simp only [f1.1 i hi hq, st, gI mu_at mi40, pk_us, nIm1 (show i < 2 ^ 31 by omega), ho, if_false, gI mu_at mi38, pk_un (show (38 : Nat) ≠ 40 by decide), e38, j3, st2, Option.bind_some, bd2_s]
  · by_cases e : ∃ i, i < T ∧ tn i = wd t J S E j
    · obtain ⟨i, hi, hq⟩ := e
      refine ⟨upd v1 40 (nI i), ?_, e1.tr (ex4.u (by simp)), by rw [pk_un (by decide)]; exact e33, mP.mk hx (by rw [pk_un (by decide)]; exact e32) (by rw [pk_un (by decide)]; exact e33) gp_s⟩
      simp only [f1.1 i hi hq, st, gI mu_at mi40, pk_us, nIm1 (show i < 2 ^ 31 by omega), ha i hi hq, if_false, if_true, Option.bind_some, bd2_s]
      rw [← ha i hi hq, if_neg (nIm1 (by omega))]
    · refine ⟨upd v1 40 (-1), ?_, e1.tr (ex4.u (by simp)), by rw [pk_un (by decide)]; exact e33, mP.mk hx (by rw [pk_un (by decide)]; exact e32) (by rw [pk_un (by decide)]; exact e33) gp_s⟩
      simp only [f1.2 (fun i hi hq => e ⟨i, hi, hq⟩), st, gI mu_at mi40, pk_us, if_true, Option.bind_some, bd2_s]
theorem M_tMember (hT : tkS t n J S E) (hn : n ≤ 1200) (h6 : ∀ q, t q < 256) (hN : 1200 < N) {T M : Nat} {tn mn : Nat → List Nat} {v : Nat → Int32} {j : Nat} {ot : Int32} (h : mP t n S j m v H) (hm : mNm T M tn mn m v H) (hj : j ≤ J) :
    (∀ i, i < M → mn i = wd t J S E j → nI i ≠ ot → ∃ v', F_X12_takesMember N (some m) ot H = some (1, mu m v' H) ∧ ex4 v v' ∧ v' 39 = v 39 ∧ v' 40 = nI i ∧ mP t n S (j + 1) m v' (mu m v' H)) ∧ ((∀ i, i < M → mn i = wd t J S E j → nI i = ot) → ∃ v', F_X12_takesMember N (some m) ot H = some (0, mu m v' H) ∧ ex4 v v' ∧ v' 33 = nI (S j) ∧ mP t n S j m v' (mu m v' H)) := by
  obtain ⟨h0, hx, h32, p, h33, hp⟩ := h
  obtain ⟨-, ⟨h1, h2, g, h3, h4⟩, -, w1⟩ := hm
  have w := M_word hT hn h6 hN hx hj hp h0 h32 h33
  have hW := wd_ok hT j
  generalize hv : upd (upd v 33 (nI (S j))) 38 (nI (we t J S E j)) = v1 at *
  have e1 : ex4 v v1 := by rw [← hv]; exact (ex4.u (by simp)).tr (ex4.u (by simp))
  have e32 : v1 32 = nI n := (e1 32 (by decide) (by decide) (by decide) (by decide)).trans h32
  have e39 : v1 39 = v 39 := by rw [← hv, pk_un (by decide), pk_un (by decide)]
  have e33 : v1 33 = nI (S j) := by rw [← hv, pk_un (by decide), pk_us]
  have e38 : v1 38 = nI (we t J S E j) := by rw [← hv, pk_us]
  have f1 := M_find (N := N) (H := mu m v1 H) hN hW (Nat.le_refl 6) h2 ((mu_ne (by omega)).trans h3) h4 w1
  have st : ∀ x, xpI (mu m v1 H) (some m) 11 40 x = some (mu m (upd v1 40 x) H) := fun x => mu_p (by decide) ms40
  unfold F_X12_takesMember
  simp only [gA h0 ma30, gI h0 mi24, h1, obx h0, w, Option.bind_some, bd2_s]
  refine ⟨fun i hi hq ho => ?_, fun ha => ?_⟩
  · have hne : wd t J S E j ≠ [] := by rw [← hq]; exact (w1.1 i hi).2
    obtain ⟨j1, j2, j3⟩ := wd_j hT hn h6 hN hne
    have st2 : xpI (mu m (upd v1 40 (nI i)) H) (some m) 11 33 (nI (E j)) = some (mu m (upd (upd v1 40 (nI i)) 33 (nI (E j))) H) := mu_p (by decide) ms33
    refine ⟨upd (upd v1 40 (nI i)) 33 (nI (E j)), ?_, e1.tr ((ex4.u (by simp)).tr (ex4.u (by simp))), by rw [pk_un (by decide), pk_un (by decide)]; exact e39, by rw [pk_un (by decide), pk_us], mP.mk hx (by rw [pk_un (by decide), pk_un (by decide)]; exact e32) pk_us (gp_e hT hn h6 hN j1)⟩
    simp only [f1.1 i hi hq, st, gI mu_at mi40, pk_us, nIm1 (show i < 2 ^ 31 by omega), ho, if_false, gI mu_at mi38, pk_un (show (38 : Nat) ≠ 40 by decide), e38, j3, st2, Option.bind_some, bd2_s]
  · by_cases e : ∃ i, i < M ∧ mn i = wd t J S E j
    · obtain ⟨i, hi, hq⟩ := e
      refine ⟨upd v1 40 (nI i), ?_, e1.tr (ex4.u (by simp)), by rw [pk_un (by decide)]; exact e33, mP.mk hx (by rw [pk_un (by decide)]; exact e32) (by rw [pk_un (by decide)]; exact e33) gp_s⟩
      simp only [f1.1 i hi hq, st, gI mu_at mi40, pk_us, nIm1 (show i < 2 ^ 31 by omega), ha i hi hq, if_false, if_true, Option.bind_some, bd2_s]
      rw [← ha i hi hq, if_neg (nIm1 (by omega))]
    · refine ⟨upd v1 40 (-1), ?_, e1.tr (ex4.u (by simp)), by rw [pk_un (by decide)]; exact e33, mP.mk hx (by rw [pk_un (by decide)]; exact e32) (by rw [pk_un (by decide)]; exact e33) gp_s⟩
      simp only [f1.2 (fun i hi hq => e ⟨i, hi, hq⟩), st, gI mu_at mi40, pk_us, if_true, Option.bind_some, bd2_s]
end
