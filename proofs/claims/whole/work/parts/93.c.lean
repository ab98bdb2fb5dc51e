/-! PURE: the reference reads chains of claims, "not", brackets. -/
variable {stf : Nat → Nat} {N K b m : Nat} {β : sB} {δ : sD} {H : xH}
variable {t S E : Nat → Nat} {n J : Nat} {T M : Nat} {tn mn : Nat → List Nat}
variable {v v1 v2 : Nat → Int32} {c c1 c2 : cod} {sm sm1 sm2 : Nat} {H1 H2 : xH}
theorem M_opens {k : Nat} (hk : k ≤ 9) (h4 : v 34 = nI k) : F_X12_opens N (some m) (mu m v H) = if k = 9 then some (0, mu m v H) else some (1, mu m (upd v 34 (nI (k + 1))) H) := by
  unfold F_X12_opens
  simp only [gI mu_at mi34, h4, Option.bind_some]
  by_cases e : k = 9
  · rw [if_pos (by rw [e]; rfl), if_pos e]
  · rw [if_neg (show ¬ nI k = (9 : Int32) from fun z => e ((nI_eq (b := 9) (by omega) (by decide)).mp z)), if_neg e]
    simp only [nI_1, mu_p (show (34 : Nat) < 64 by decide) ms34, Option.bind_some]
section
variable {cany call csin : Option Nat → xH → Option (Int32 × xH)}
theorem M_single0 (hT : tkS t n J S E) (hn : n ≤ 1200) (h6 : ∀ q, t q < 256) (hN : 1200 < N) {j : Nat} (h : zC t S n T M tn mn m j v c sm H) (hj : j ≤ J) (hs : rmS S sm j) (h4 : v 34 = nI 9) : mOut t S n J T M tn mn m 1 (pSi t J S E T tn 0 j) j v c sm H (B_X12_single N cany call csin (some m) H) := by
  obtain ⟨v1, w, e1, e33, e38, R1⟩ := h.wo hT hn h6 hN hj
  have e34 : v1 34 = nI 9 := (e1 34 (by decide) (by decide) (by decide) (by decide)).trans h4
  have op := M_opens (N := N) (H := H) (m := m) (k := 9) (Nat.le_refl 9) e34
  rw [if_pos rfl] at op
  have hl := hT.le hj
  have wW := wd_ok hT j
  have e14 : lg_cmp (lN (w8 (wd t J S E j))) (7237492 : Int64) = 0 ↔ wd t J S E j = kw 14 := by rw [lgc, show (7237492 : Int64) = lN (w8 (kw 14)) by decide +kernel]; exact wdo_e8 wW (kw_w (by decide))
  unfold B_X12_single
  rw [pSi]
  simp only [h.ob, w, R1.1.ob, bd2_s, Option.bind_some]
  by_cases q1 : wd t J S E j = kw 14
  · rw [cif_t (Or.inl q1), if_pos (e14.mpr q1)]
    simp only [op, bd2_s, if_true]
    exact mOut.no R1 e33
  rw [if_neg (fun z => q1 (e14.mp z))]
  have e32 : v1 32 = nI n := R1.1.1.2.2.1
  obtain ⟨g, hg, hgt⟩ := R1.1.1.2.1
  simp only [gI R1.1.f mi33, gI R1.1.f mi32, e33, e32, Option.bind_some]
  by_cases q2 : sg t J S j = 40
  · rw [cif_t (Or.inr q2)]
    have j1 : j < J := by
      unfold sg at q2
      split at q2
      · assumption
      · omega
    have hlt : S j < n := by have := hT.2.1 j j1; have := hT.ele j1; omega
    have hk : kk (t (S j)) = 40 := by unfold sg at q2; rwa [if_pos j1] at q2
    rw [if_neg (nI_ge hlt (by omega))]
    simp only [gA R1.1.f ma37, gI R1.1.f mi33, e33, rdI hg (show S j < 1200 by omega) (by decide), hgt _ hlt, (sb_g (h6 (S j)) (s := 40) (by decide)).mp hk, show nI 40 = (40 : Int32) from rfl, if_true, op, bd2_s, Option.bind_some]
    exact mOut.no R1 e33
  rw [cif_f (fun z => z.elim q1 q2)]
  have L := mOut.pre R1 (e1 34 (by decide) (by decide) (by decide) (by decide)) (M_leaf (cany := cany) (call := call) (csin := csin) hT hn h6 hN R1.1 hj hs)
  by_cases z : n ≤ S j
  · rw [if_pos (nI_le z (by omega))]
    exact L
  · have j1 : j < J := by
      rcases Nat.lt_or_ge j J with q | q
      · exact q
      · exfalso; rw [show j = J by omega, hT.1] at z; omega
    have hk : ¬ kk (t (S j)) = 40 := fun y => q2 (by unfold sg; rw [if_pos j1]; exact y)
    rw [if_neg (nI_ge (by omega) (by omega))]
    simp only [gA R1.1.f ma37, gI R1.1.f mi33, e33, rdI hg (show S j < 1200 by omega) (by decide), hgt _ (show S j < n by omega), Option.bind_some]
    rw [if_neg (show ¬ sb (t (S j)) = (40 : Int32) from fun y => hk ((sb_g (h6 (S j)) (s := 40) (by decide)).mpr y))]
    exact L
theorem M_singleS (hT : tkS t n J S E) (hn : n ≤ 1200) (h6 : ∀ q, t q < 256) (hN : 1200 < N) {f hh : Nat} (hf : f + 1 ≤ 9) (hone : ∀ j v c sm H, zC t S n T M tn mn m j v c sm H → j ≤ J → rmS S sm j → v 34 = nI (9 - f) → mOut t S n J T M tn mn m hh (pSi t J S E T tn f j) j v c sm H (csin (some m) H)) (hany : ∀ j v c sm H, zC t S n T M tn mn m j v c sm H → j ≤ J → rmS S sm j → v 34 = nI (9 - f) → mOut t S n J T M tn mn m (hh + 2) (pAn t J S E (pSi t J S E T tn f) j) j v c sm H (cany (some m) H)) {j : Nat} (h : zC t S n T M tn mn m j v c sm H) (hj : j ≤ J) (hs : rmS S sm j) (h4 : v 34 = nI (9 - (f + 1))) : mOut t S n J T M tn mn m (hh + 2) (pSi t J S E T tn (f + 1) j) j v c sm H (B_X12_single N cany call csin (some m) H) := by
  obtain ⟨v1, w, e1, e33, e38, R1⟩ := h.wo hT hn h6 hN hj
  have e34 : v1 34 = nI (9 - (f + 1)) := (e1 34 (by decide) (by decide) (by decide) (by decide)).trans h4
  have op := M_opens (N := N) (H := H) (m := m) (k := 9 - (f + 1)) (by omega) e34
  rw [if_neg (by omega), show 9 - (f + 1) + 1 = 9 - f by omega] at op
  have hl := hT.le hj
  have wW := wd_ok hT j
  have e14 : lg_cmp (lN (w8 (wd t J S E j))) (7237492 : Int64) = 0 ↔ wd t J S E j = kw 14 := by rw [lgc, show (7237492 : Int64) = lN (w8 (kw 14)) by decide +kernel]; exact wdo_e8 wW (kw_w (by decide))
  have em : nI (9 - f) - 1 = nI (9 - (f + 1)) := by rw [show (1 : Int32) = nI 1 from rfl, pk_sub (by omega), show 9 - f - 1 = 9 - (f + 1) by omega]
  unfold B_X12_single
  rw [pSi]
  simp only [h.ob, w, R1.1.ob, bd2_s, Option.bind_some]
  by_cases q1 : wd t J S E j = kw 14
  · rw [cif_t q1, if_pos (e14.mpr q1)]
    have j1 := kw_J hT hn h6 hN q1 (by decide)
    have k2 := (kw_ok 14 (by decide)).2.2
    have ew : we t J S E j = E j := (wd_j hT hn h6 hN (j := j) (by intro z; rw [← q1, z] at k2; simp at k2)).2.2
    have b2 := kw_2b hT q1 (by decide) j1
    have C2 : zC t S n T M tn mn m (j + 1) (upd (upd v1 34 (nI (9 - f))) 33 (nI (E j))) c sm (mu m (upd (upd v1 34 (nI (9 - f))) 33 (nI (E j))) H) := by
      have := R1.1.pd (x := nI (9 - f)) (gp_e hT hn h6 hN j1)
      rwa [mu_mu] at this
    have st : xpI (mu m (upd v1 34 (nI (9 - f))) H) (some m) 11 33 (nI (E j)) = some (mu m (upd (upd v1 34 (nI (9 - f))) 33 (nI (E j))) H) := mu_p (by decide) ms33
    have x6 : ex6 v1 (upd (upd v1 34 (nI (9 - f))) 33 (nI (E j))) := fun i a _ _ _ _ q => by rw [pk_un a, pk_un q]
    simp only [op, bd2_s, if_neg n10, gI mu_at mi38, pk_un (show (38 : Nat) ≠ 34 by decide), e38, ew, st, C2.ob, Option.bind_some]
    have c34 : upd (upd v1 34 (nI (9 - f))) 33 (nI (E j)) 34 = nI (9 - f) := by rw [pk_un (by decide), pk_us]
    generalize upd (upd v1 34 (nI (9 - f))) 33 (nI (E j)) = v2 at *
    have R2 : zK t S n J T M tn mn m 2 j (j + 1) v c sm H v2 c sm (mu m v2 H) := ⟨C2, Fr.u (Or.inl rfl), e1.six.tr x6, fun _ _ => ⟨rfl, rfl, rfl⟩, Nat.le_refl _, by omega, by omega, by omega⟩
    obtain ⟨r, v3, c3, sm3, H3, y1, y2, y3, y4⟩ := hone _ _ _ _ _ C2 (by omega) (R2.rm hs) c34
    simp only [y1, bd2_s]
    cases hp : (pSi t J S E T tn f (j + 1)).1 with
    | none =>
      rw [pbd_n hp, (y3 hp).1]
      simp only [if_true]
      exact mOut.no (R2.tr y2) (y3 hp).2
    | some σ =>
      rw [pbd_s hp, (y4 σ hp).1]
      obtain ⟨-, z1, z2⟩ := y4 σ hp
      have z3 : xpI H3 (some m) 11 34 (nI (9 - (f + 1))) = some (mu m (upd v3 34 (nI (9 - (f + 1)))) H3) := mpI y2.1.f (by decide) _ ms34
      simp only [if_neg n10, gI y2.1.f mi34, z1, c34, em, z3, y2.1.dp.ob, Option.bind_some]
      obtain ⟨H4, u1, u2⟩ := zK.put (N := N) (k := 0) hT hn ((R2.tr y2).dp (x := nI (9 - (f + 1)))) hs 6 0 0
      rw [u1]
      refine ⟨1, _, _, _, H4, rfl, u2, (fun q => by cases q), fun τ hτ => ⟨rfl, ?_, ?_⟩⟩
      · rw [pk_un (by decide), pk_us, h4]
      · cases hτ
        exact ((z2.fr (Nat.le_refl T) (fun q _ q2 => ⟨pk_un (by omega), pk_un (by omega), pk_un (by omega)⟩)).not pk_us).hm (by omega)
  rw [cif_f q1, if_neg (fun z => q1 (e14.mp z))]
  have e32 : v1 32 = nI n := R1.1.1.2.2.1
  obtain ⟨g, hg, hgt⟩ := R1.1.1.2.1
  simp only [gI R1.1.f mi33, gI R1.1.f mi32, e33, e32, Option.bind_some]
  by_cases q2 : sg t J S j = 40
  · rw [cif_t q2]
    have j1 : j < J := by
      unfold sg at q2
      split at q2
      · assumption
      · omega
    have hlt : S j < n := by have := hT.2.1 j j1; have := hT.ele j1; omega
    have hk : kk (t (S j)) = 40 := by unfold sg at q2; rwa [if_pos j1] at q2
    have eE : E j = S j + 1 := hT.2.2.2.2.2.2 j j1 (by omega)
    have C2 : zC t S n T M tn mn m (j + 1) (upd (upd v1 34 (nI (9 - f))) 33 (nI (E j))) c sm (mu m (upd (upd v1 34 (nI (9 - f))) 33 (nI (E j))) H) := by
      have := R1.1.pd (x := nI (9 - f)) (gp_e hT hn h6 hN j1)
      rwa [mu_mu] at this
    have st : xpI (mu m (upd v1 34 (nI (9 - f))) H) (some m) 11 33 (nI (S j + 1)) = some (mu m (upd (upd v1 34 (nI (9 - f))) 33 (nI (E j))) H) := by rw [eE]; exact mu_p (by decide) ms33
    have x6 : ex6 v1 (upd (upd v1 34 (nI (9 - f))) 33 (nI (E j))) := fun i a _ _ _ _ q => by rw [pk_un a, pk_un q]
    rw [if_neg (nI_ge hlt (by omega))]
    simp only [gA R1.1.f ma37, gI R1.1.f mi33, e33, rdI hg (show S j < 1200 by omega) (by decide), hgt _ hlt, (sb_g (h6 (S j)) (s := 40) (by decide)).mp hk, show nI 40 = (40 : Int32) from rfl, if_true, op, bd2_s, if_neg n10, gI mu_at mi33, pk_un (show (33 : Nat) ≠ 34 by decide), nI_1, st, C2.ob, Option.bind_some]
    have c34 : upd (upd v1 34 (nI (9 - f))) 33 (nI (E j)) 34 = nI (9 - f) := by rw [pk_un (by decide), pk_us]
    generalize upd (upd v1 34 (nI (9 - f))) 33 (nI (E j)) = v2 at *
    have hE := hT.2.1 j j1
    have R2 : zK t S n J T M tn mn m 1 j (j + 1) v c sm H v2 c sm (mu m v2 H) := ⟨C2, Fr.u (Or.inl rfl), e1.six.tr x6, fun _ _ => ⟨rfl, rfl, rfl⟩, Nat.le_refl _, by omega, by omega, by omega⟩
    obtain ⟨r, v3, c3, sm3, H3, y1, y2, y3, y4⟩ := hany _ _ _ _ _ C2 (by omega) (R2.rm hs) c34
    simp only [y1, bd2_s]
    cases hp : (pAn t J S E (pSi t J S E T tn f) (j + 1)).1 with
    | none =>
      rw [pbd_n hp, (y3 hp).1]
      simp only [if_true]
      exact mOut.no (R2.tr y2) (y3 hp).2
    | some σ =>
      rw [pbd_s hp, (y4 σ hp).1]
      obtain ⟨-, z1, z2⟩ := y4 σ hp
      obtain ⟨s1, s2⟩ := y2.1.s hT hn h6 hN y2.2.2.2.2.2.2.2 (s := 41) (by decide)
      rw [show nI 41 = (41 : Int32) from rfl] at s1 s2
      simp only [if_neg n10, y2.1.ob, Option.bind_some]
      generalize (pAn t J S E (pSi t J S E T tn f) (j + 1)).2 = j2 at *
      by_cases q3 : sg t J S j2 = 41
      · obtain ⟨v4, H4, u1, u2, u3⟩ := s1 q3
        rw [cif_t q3, u1]
        have z3 : xpI H4 (some m) 11 34 (nI (9 - (f + 1))) = some (mu m (upd v4 34 (nI (9 - (f + 1)))) H4) := mpI u2.1.f (by decide) _ ms34
        simp only [bd2_s, if_neg n10, gI u2.1.f mi34, u3, z1, c34, em, z3, Option.bind_some]
        exact ⟨1, _, _, _, _, rfl, (((R2.tr y2).tr u2).dp).le (by omega), (fun q => by cases q), fun τ hτ => ⟨rfl, by rw [pk_us, h4], by cases hτ; exact z2⟩⟩
      · obtain ⟨v4, H4, u1, u2, u3⟩ := s2 q3
        rw [cif_f q3, u1]
        simp only [bd2_s, if_true]
        exact mOut.no ((R2.tr y2).tr u2) u3
  rw [cif_f q2]
  have L := (mOut.pre R1 (e1 34 (by decide) (by decide) (by decide) (by decide)) (M_leaf (cany := cany) (call := call) (csin := csin) hT hn h6 hN R1.1 hj hs)).hm (show 1 ≤ hh + 2 by omega)
  by_cases z : n ≤ S j
  · rw [if_pos (nI_le z (by omega))]
    exact L
  · have j1 : j < J := by
      rcases Nat.lt_or_ge j J with q | q
      · exact q
      · exfalso; rw [show j = J by omega, hT.1] at z; omega
    have hk : ¬ kk (t (S j)) = 40 := fun y => q2 (by unfold sg; rw [if_pos j1]; exact y)
    rw [if_neg (nI_ge (by omega) (by omega))]
    simp only [gA R1.1.f ma37, gI R1.1.f mi33, e33, rdI hg (show S j < 1200 by omega) (by decide), hgt _ (show S j < n by omega), Option.bind_some]
    rw [if_neg (show ¬ sb (t (S j)) = (40 : Int32) from fun y => hk ((sb_g (h6 (S j)) (s := 40) (by decide)).mpr y))]
    exact L
theorem M_ands (hT : tkS t n J S E) (hn : n ≤ 1200) (h6 : ∀ q, t q < 256) (hN : 1200 < N) {one : Nat → pr} {d : Int32} {hh : Nat} (hone : ∀ j v c sm H, zC t S n T M tn mn m j v c sm H → j ≤ J → rmS S sm j → v 34 = d → mOut t S n J T M tn mn m hh (one j) j v c sm H (csin (some m) H)) {j0 : Nat} (h4 : v 34 = d) (hs : rmS S sm j0) : ∀ (f k j : Nat) (v1 : Nat → Int32) (c1 : cod) (sm1 : Nat) (H1 : xH) (σ : sem), J - j < f → J - j < k → zK t S n J T M tn mn m 0 j0 j v c sm H v1 c1 sm1 H1 → v1 34 = d → PF T c1 sm sm1 (hh + 1) σ → mOut t S n J T M tn mn m (hh + 1) (pLp t J S E 13 oAnd one f σ j) j0 v c sm H (F_X12_all_L9 N cany call csin k (some m) H1) := by
  intro f
  induction f with
  | zero => intro k j v1 c1 sm1 H1 σ hf; omega
  | succ f ih =>
    intro k j v1 c1 sm1 H1 σ hf hk R h1 hp
    obtain ⟨k, rfl⟩ : ∃ z, k = z + 1 := ⟨k - 1, by omega⟩
    rw [show F_X12_all_L9 N cany call csin (k + 1) = F_X12_all_J9 N cany call csin (F_X12_all_L9 N cany call csin k) from rfl, pLp]
    have hj := R.2.2.2.2.2.2.2
    have w1 := R.1.w hT hn h6 hN hj (show 13 < 19 by decide) (show (6385252 : Int64) = lN (w8 (kw 13)) by decide +kernel)
    simp only [F_X12_all_J9, R.1.ob, Option.bind_some]
    by_cases q1 : wd t J S E j = kw 13
    rotate_left
    · obtain ⟨v2, H2, e1, R1, s1, d1, -⟩ := w1.2 q1
      rw [cif_f q1, e1]
      simp only [bd2_s, if_true]
      exact ⟨1, _, _, _, _, rfl, R.tr R1, (fun q => by cases q), fun τ hτ => ⟨rfl, d1.trans (h1.trans h4.symm), by cases hτ; exact hp⟩⟩
    obtain ⟨v2, H2, e1, R1, d1, -, -⟩ := w1.1 q1
    have j1 := kw_J hT hn h6 hN q1 (by decide)
    rw [cif_t q1, e1]
    simp only [bd2_s, if_neg n10, R1.1.ob, Option.bind_some]
    have R2 := R.tr R1
    obtain ⟨r, v3, c3, sm3, H3, y1, y2, y3, y4⟩ := hone _ _ _ _ _ R1.1 (by omega) (R2.rm hs) (d1.trans h1)
    simp only [y1, bd2_s]
    cases hq : (one (j + 1)).1 with
    | none =>
      rw [pbd_n hq, (y3 hq).1]
      simp only [if_true]
      exact mOut.no (R2.tr y2) (y3 hq).2
    | some τ =>
      rw [pbd_s hq, (y4 τ hq).1]
      obtain ⟨-, z1, z2⟩ := y4 τ hq
      have R3 := (R2.tr y2).le (k' := 0 + 2) (by omega)
      obtain ⟨H4, u1, u2⟩ := zK.put (N := N) hT hn R3 hs 5 0 0
      simp only [if_neg n10, y2.1.ob, u1, Option.bind_some]
      have ag := y2.2.2.2.1
      have p1 : PF T (upd c3.1 sm3 5, upd c3.2.1 sm3 0, upd c3.2.2 sm3 0) sm sm1 (hh + 1) σ := hp.fr (Nat.le_refl T) (fun q _ q2 => by
        have := y2.2.2.2.2.1
        obtain ⟨x1, x2, x3⟩ := ag q q2
        exact ⟨(pk_un (by omega)).trans x1, (pk_un (by omega)).trans x2, (pk_un (by omega)).trans x3⟩)
      have p2 : PF T (upd c3.1 sm3 5, upd c3.2.1 sm3 0, upd c3.2.2 sm3 0) sm1 sm3 hh τ := z2.fr (Nat.le_refl T) (fun q _ q2 => ⟨pk_un (by omega), pk_un (by omega), pk_un (by omega)⟩)
      have p3 := PF.bin (h := hh + 1) p1 p2 (Or.inr rfl) pk_us (Nat.le_refl _) (Nat.le_refl _)
      have jj := y2.2.2.2.2.2.2.1
      exact ih k _ _ _ _ H4 (oAnd σ τ) (by omega) (by omega) u2 ((pk_un (by decide)).trans (z1.trans (d1.trans h1))) (p3.cg (fun d => by rw [if_neg (by decide)]; exact Iff.rfl))
theorem M_all1 (hT : tkS t n J S E) (hn : n ≤ 1200) (h6 : ∀ q, t q < 256) (hN : 1200 < N) {one : Nat → pr} {d : Int32} {hh : Nat} (hone : ∀ j v c sm H, zC t S n T M tn mn m j v c sm H → j ≤ J → rmS S sm j → v 34 = d → mOut t S n J T M tn mn m hh (one j) j v c sm H (csin (some m) H)) {j : Nat} (h : zC t S n T M tn mn m j v c sm H) (hj : j ≤ J) (hs : rmS S sm j) (h4 : v 34 = d) : mOut t S n J T M tn mn m (hh + 1) (pAl t J S E one j) j v c sm H (B_X12_all N cany call csin (some m) H) := by
  unfold B_X12_all pAl
  obtain ⟨r, v3, c3, sm3, H3, y1, y2, y3, y4⟩ := hone _ _ _ _ _ h hj hs h4
  simp only [h.ob, y1, bd2_s, Option.bind_some]
  cases hq : (one j).1 with
  | none =>
    rw [pbd_n hq, (y3 hq).1]
    simp only [if_true]
    exact mOut.no y2 (y3 hq).2
  | some τ =>
    rw [pbd_s hq, (y4 τ hq).1]
    obtain ⟨-, z1, z2⟩ := y4 τ hq
    simp only [if_neg n10]
    have := hT.le (Nat.zero_le J)
    exact M_ands hT hn h6 hN hone h4 hs (J + 1) N _ _ _ _ H3 τ (by omega) (by omega) y2 (z1.trans h4) (z2.hm (by omega))
theorem M_ors (hT : tkS t n J S E) (hn : n ≤ 1200) (h6 : ∀ q, t q < 256) (hN : 1200 < N) {one : Nat → pr} {d : Int32} {hh : Nat} (hone : ∀ j v c sm H, zC t S n T M tn mn m j v c sm H → j ≤ J → rmS S sm j → v 34 = d → mOut t S n J T M tn mn m hh (one j) j v c sm H (call (some m) H)) {j0 : Nat} (h4 : v 34 = d) (hs : rmS S sm j0) : ∀ (f k j : Nat) (v1 : Nat → Int32) (c1 : cod) (sm1 : Nat) (H1 : xH) (σ : sem), J - j < f → J - j < k → zK t S n J T M tn mn m 0 j0 j v c sm H v1 c1 sm1 H1 → v1 34 = d → PF T c1 sm sm1 (hh + 1) σ → mOut t S n J T M tn mn m (hh + 1) (pLp t J S E 12 oOr one f σ j) j0 v c sm H (F_X12_any_L9 N cany call csin k (some m) H1) := by
  intro f
  induction f with
  | zero => intro k j v1 c1 sm1 H1 σ hf; omega
  | succ f ih =>
    intro k j v1 c1 sm1 H1 σ hf hk R h1 hp
    obtain ⟨k, rfl⟩ : ∃ z, k = z + 1 := ⟨k - 1, by omega⟩
    rw [show F_X12_any_L9 N cany call csin (k + 1) = F_X12_any_J9 N cany call csin (F_X12_any_L9 N cany call csin k) from rfl, pLp]
    have hj := R.2.2.2.2.2.2.2
    have w1 := R.1.w hT hn h6 hN hj (show 12 < 19 by decide) (show (28530 : Int64) = lN (w8 (kw 12)) by decide +kernel)
    simp only [F_X12_any_J9, R.1.ob, Option.bind_some]
    by_cases q1 : wd t J S E j = kw 12
    rotate_left
    · obtain ⟨v2, H2, e1, R1, s1, d1, -⟩ := w1.2 q1
      rw [cif_f q1, e1]
      simp only [bd2_s, if_true]
      exact ⟨1, _, _, _, _, rfl, R.tr R1, (fun q => by cases q), fun τ hτ => ⟨rfl, d1.trans (h1.trans h4.symm), by cases hτ; exact hp⟩⟩
    obtain ⟨v2, H2, e1, R1, d1, -, -⟩ := w1.1 q1
    have j1 := kw_J hT hn h6 hN q1 (by decide)
    rw [cif_t q1, e1]
    simp only [bd2_s, if_neg n10, R1.1.ob, Option.bind_some]
    have R2 := R.tr R1
    obtain ⟨r, v3, c3, sm3, H3, y1, y2, y3, y4⟩ := hone _ _ _ _ _ R1.1 (by omega) (R2.rm hs) (d1.trans h1)
    simp only [y1, bd2_s]
    cases hq : (one (j + 1)).1 with
    | none =>
      rw [pbd_n hq, (y3 hq).1]
      simp only [if_true]
      exact mOut.no (R2.tr y2) (y3 hq).2
    | some τ =>
      rw [pbd_s hq, (y4 τ hq).1]
      obtain ⟨-, z1, z2⟩ := y4 τ hq
      have R3 := (R2.tr y2).le (k' := 0 + 2) (by omega)
      obtain ⟨H4, u1, u2⟩ := zK.put (N := N) hT hn R3 hs 4 0 0
      simp only [if_neg n10, y2.1.ob, u1, Option.bind_some]
      have ag := y2.2.2.2.1
      have p1 : PF T (upd c3.1 sm3 4, upd c3.2.1 sm3 0, upd c3.2.2 sm3 0) sm sm1 (hh + 1) σ := hp.fr (Nat.le_refl T) (fun q _ q2 => by
        have := y2.2.2.2.2.1
        obtain ⟨x1, x2, x3⟩ := ag q q2
        exact ⟨(pk_un (by omega)).trans x1, (pk_un (by omega)).trans x2, (pk_un (by omega)).trans x3⟩)
      have p2 : PF T (upd c3.1 sm3 4, upd c3.2.1 sm3 0, upd c3.2.2 sm3 0) sm1 sm3 hh τ := z2.fr (Nat.le_refl T) (fun q _ q2 => ⟨pk_un (by omega), pk_un (by omega), pk_un (by omega)⟩)
      have p3 := PF.bin (h := hh + 1) p1 p2 (Or.inl rfl) pk_us (Nat.le_refl _) (Nat.le_refl _)
      have jj := y2.2.2.2.2.2.2.1
      exact ih k _ _ _ _ H4 (oOr σ τ) (by omega) (by omega) u2 ((pk_un (by decide)).trans (z1.trans (d1.trans h1))) (p3.cg (fun d => by rw [if_pos rfl]; exact Iff.rfl))
theorem M_any1 (hT : tkS t n J S E) (hn : n ≤ 1200) (h6 : ∀ q, t q < 256) (hN : 1200 < N) {one : Nat → pr} {d : Int32} {hh : Nat} (hone : ∀ j v c sm H, zC t S n T M tn mn m j v c sm H → j ≤ J → rmS S sm j → v 34 = d → mOut t S n J T M tn mn m hh (pAl t J S E one j) j v c sm H (call (some m) H)) {j : Nat} (h : zC t S n T M tn mn m j v c sm H) (hj : j ≤ J) (hs : rmS S sm j) (h4 : v 34 = d) : mOut t S n J T M tn mn m (hh + 1) (pAn t J S E one j) j v c sm H (B_X12_any N cany call csin (some m) H) := by
  unfold B_X12_any pAn
  obtain ⟨r, v3, c3, sm3, H3, y1, y2, y3, y4⟩ := hone _ _ _ _ _ h hj hs h4
  simp only [h.ob, y1, bd2_s, Option.bind_some]
  cases hq : (pAl t J S E one j).1 with
  | none =>
    rw [pbd_n hq, (y3 hq).1]
    simp only [if_true]
    exact mOut.no y2 (y3 hq).2
  | some τ =>
    rw [pbd_s hq, (y4 τ hq).1]
    obtain ⟨-, z1, z2⟩ := y4 τ hq
    simp only [if_neg n10]
    have := hT.le (Nat.zero_le J)
    exact M_ors hT hn h6 hN hone h4 hs (J + 1) N _ _ _ _ H3 τ (by omega) (by omega) y2 (z1.trans h4) (z2.hm (by omega))
end
theorem M_any (hT : tkS t n J S E) (hn : n ≤ 1200) (h6 : ∀ q, t q < 256) (hN : 1200 < N) : ∀ f, f ≤ 9 → (∀ F, 3 * f + 1 ≤ F → ∀ j v c sm H, zC t S n T M tn mn m j v c sm H → j ≤ J → rmS S sm j → v 34 = nI (9 - f) → mOut t S n J T M tn mn m (2 * f + 1) (pSi t J S E T tn f j) j v c sm H ((R_X12_any N F).2.2 (some m) H)) ∧ (∀ F, 3 * f + 3 ≤ F → ∀ j v c sm H, zC t S n T M tn mn m j v c sm H → j ≤ J → rmS S sm j → v 34 = nI (9 - f) → mOut t S n J T M tn mn m (2 * f + 1 + 2) (pAn t J S E (pSi t J S E T tn f) j) j v c sm H ((R_X12_any N F).1 (some m) H)) := by
  have any : ∀ f, (∀ F, 3 * f + 1 ≤ F → ∀ j v c sm H, zC t S n T M tn mn m j v c sm H → j ≤ J → rmS S sm j → v 34 = nI (9 - f) → mOut t S n J T M tn mn m (2 * f + 1) (pSi t J S E T tn f j) j v c sm H ((R_X12_any N F).2.2 (some m) H)) → (∀ F, 3 * f + 3 ≤ F → ∀ j v c sm H, zC t S n T M tn mn m j v c sm H → j ≤ J → rmS S sm j → v 34 = nI (9 - f) → mOut t S n J T M tn mn m (2 * f + 1 + 2) (pAn t J S E (pSi t J S E T tn f) j) j v c sm H ((R_X12_any N F).1 (some m) H)) := by
    intro f h F hF j v c sm H hP hj hs h4
    obtain ⟨F, rfl⟩ : ∃ z, F = z + 1 + 1 := ⟨F - 2, by omega⟩
    exact M_any1 hT hn h6 hN (fun j v c sm H hP hj hs h4 => M_all1 hT hn h6 hN (h F (by omega)) hP hj hs h4) hP hj hs h4
  intro f
  induction f with
  | zero =>
    intro _
    have one : ∀ F, 3 * 0 + 1 ≤ F → ∀ j v c sm H, zC t S n T M tn mn m j v c sm H → j ≤ J → rmS S sm j → v 34 = nI (9 - 0) → mOut t S n J T M tn mn m (2 * 0 + 1) (pSi t J S E T tn 0 j) j v c sm H ((R_X12_any N F).2.2 (some m) H) := by
      intro F hF j v c sm H hP hj hs h4
      obtain ⟨F, rfl⟩ : ∃ z, F = z + 1 := ⟨F - 1, by omega⟩
      exact M_single0 hT hn h6 hN hP hj hs h4
    exact ⟨one, any 0 one⟩
  | succ f ih =>
    intro hf
    obtain ⟨i1, i2⟩ := ih (by omega)
    have one : ∀ F, 3 * (f + 1) + 1 ≤ F → ∀ j v c sm H, zC t S n T M tn mn m j v c sm H → j ≤ J → rmS S sm j → v 34 = nI (9 - (f + 1)) → mOut t S n J T M tn mn m (2 * (f + 1) + 1) (pSi t J S E T tn (f + 1) j) j v c sm H ((R_X12_any N F).2.2 (some m) H) := by
      intro F hF j v c sm H hP hj hs h4
      obtain ⟨F, rfl⟩ : ∃ z, F = z + 1 := ⟨F - 1, by omega⟩
      exact M_singleS hT hn h6 hN hf (i1 F (by omega)) (i2 F (by omega)) hP hj hs h4
    exact ⟨one, any (f + 1) one⟩
/-- the reference reads a claim -/
theorem M_claim (hT : tkS t n J S E) (hn : n ≤ 1200) (h6 : ∀ q, t q < 256) (hN : 1200 < N) {j : Nat} (h : zC t S n T M tn mn m j v c sm H) (hj : j ≤ J) (hs : rmS S sm j) (h4 : v 34 = nI 0) : mOut t S n J T M tn mn m 21 (pAn t J S E (pSi t J S E T tn 9) j) j v c sm H (F_X12_any N (some m) H) := (M_any hT hn h6 hN 9 (Nat.le_refl _)).2 45 (by decide) j v c sm H h hj hs h4
