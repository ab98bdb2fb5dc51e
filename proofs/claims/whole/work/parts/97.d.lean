/-! PURE: the reference makes its table, whole. -/
variable {stf : Nat → Nat} {N K b m : Nat} {β : sB} {δ : sD} {H : xH}
variable {v : Nat → Int32} {c : cod} {d : Nat → Nat} {τ : tS} {Γ : Nat → Nat → Int32}
theorem vb3 : ∀ o, o < 5 → vp_nar .byte ((nI o).toInt8.toInt32) = nI o := by decide +kernel
def dp (m : Nat) (g : Nat → Int32) (H : xH) : xH := xup H (m + 24) (aB 708588 g)
theorem dp_up {g g' gz : Nat → Int32} : xup (pil m gz (dp m g H)) (m + 24) (aB 708588 g') = pil m gz (dp m g' H) := by
  unfold pil dp
  rw [xup_cm (show m + 25 ≠ m + 24 by omega), xup_up]
theorem M_dp (hN : 59049 < N) (h : gM m (yT τ) v c d H) (hG : aG m Γ H) (hD : yD τ c Γ) (h2 : v 2 = nI (yW τ)) (hW : yW τ ≤ 12) {k : Nat} (hk : k < 59049) {k112 : Option Nat → Int32 → xH → Option xH} {g0 : Nat → Int32} : ∀ z w, w ≤ yW τ → yW τ - w < z → ∀ (gz g : Nat → Int32), (∀ w', w' < w → g (59049 * w' + k) = nI (mdo (outc (yb τ w') d))) → (∀ w' j, j < 59049 → j ≠ k → g (59049 * w' + j) = g0 (59049 * w' + j)) → ∃ gz' g', F_X12_makes_L77 N k112 z (some m) (nI k) 1 (nI w) (pil m gz (dp m g H)) = k112 (some m) (nI k) (pil m gz' (dp m g' H)) ∧ (∀ w', w' < yW τ → g' (59049 * w' + k) = nI (mdo (outc (yb τ w') d))) ∧ ∀ w' j, j < 59049 → j ≠ k → g' (59049 * w' + j) = g0 (59049 * w' + j) := by
  refine upto (P := fun z w => ∀ (gz g : Nat → Int32), (∀ w', w' < w → g (59049 * w' + k) = nI (mdo (outc (yb τ w') d))) → (∀ w' j, j < 59049 → j ≠ k → g (59049 * w' + j) = g0 (59049 * w' + j)) → ∃ gz' g', F_X12_makes_L77 N k112 z (some m) (nI k) 1 (nI w) (pil m gz (dp m g H)) = k112 (some m) (nI k) (pil m gz' (dp m g' H)) ∧ (∀ w', w' < yW τ → g' (59049 * w' + k) = nI (mdo (outc (yb τ w') d))) ∧ ∀ w' j, j < 59049 → j ≠ k → g' (59049 * w' + j) = g0 (59049 * w' + j)) ?_ ?_
  · intro z gz g hg1 hg2
    have a0 : (pil m gz (dp m g H)).1 m = some (mo m v) := (xup_ne _ (by omega)).trans ((xup_ne _ (by omega)).trans h.1)
    rw [show F_X12_makes_L77 N k112 (z + 1) = F_X12_makes_J77 N (F_X12_makes_L77 N k112 z) k112 from rfl]
    refine ⟨gz, g, ?_, hg1, hg2⟩
    simp only [F_X12_makes_J77, gI a0 mi2, h2, Int32.le_refl, if_true, Option.bind_some]
  · intro z w hw ih gz g hg1 hg2
    have a0 : ∀ gz, (pil m gz (dp m g H)).1 m = some (mo m v) := fun gz => (xup_ne _ (by omega)).trans ((xup_ne _ (by omega)).trans h.1)
    have hM : gM m (yT τ) v c d (dp m g H) := by
      obtain ⟨h1, h2, h3, ⟨a, b, e⟩, ⟨g', hg, hgt⟩, h6⟩ := h
      exact ⟨(xup_ne _ (by omega)).trans h1, h2, h3, ⟨(xup_ne _ (by omega)).trans a, (xup_ne _ (by omega)).trans b, (xup_ne _ (by omega)).trans e⟩, ⟨g', (xup_ne _ (by omega)).trans hg, hgt⟩, h6⟩
    obtain ⟨gz', e1⟩ := M_does (N := N) (g := gz) (by omega) hM (hG.fr (fun a _ _ => xup_ne _ (by omega))) hD hw hW
    have ix : ((59049 : Int32) * nI w) + nI k = nI (59049 * w + k) := by rw [show (59049 : Int32) = nI 59049 from rfl, pk_mul, nI_add]
    have a24 : (pil m gz' (dp m g H)).1 (m + 24) = some (aB 708588 g) := (xup_ne _ (by omega)).trans (xup_at _)
    have st := stI (v := (nI (mdo (outc (yb τ w) d))).toInt8.toInt32) a24 (show 59049 * w + k < 708588 by omega) (by decide)
    rw [vb3 _ (mdo_lt _ (outc_lt _ _)), dp_up] at st
    rw [show F_X12_makes_L77 N k112 (z + 1) = F_X12_makes_J77 N (F_X12_makes_L77 N k112 z) k112 from rfl]
    simp only [F_X12_makes_J77, gI (a0 gz) mi2, h2, nI_ge hw (show yW τ < 2 ^ 31 by omega), if_false, if_neg n10, gA (a0 gz) ma44, obx (a0 gz), e1, bd2_s, ix, st, nI_1, Option.bind_some]
    refine ih gz' _ (fun w' hw' => ?_) (fun w' j hj hjk => ?_)
    · by_cases e : w' = w
      · rw [e, pk_us]
      · rw [pk_un (by omega)]; exact hg1 w' (by omega)
    · rw [pk_un (by omega)]; exact hg2 w' j hj hjk
theorem M_mkL (hN : 59049 < N) (hD : yD τ c Γ) (ho : yOk τ) (h0 : v 0 = nI (yT τ)) (h2 : v 2 = nI (yW τ)) (h4 : v 4 = nI (yR τ)) (h41 : v 41 = nI (9 ^ yT τ)) (hT : yT τ ≤ 5) (hW : yW τ ≤ 12) (hR : yR τ ≤ 40) : ∀ z k, k ≤ 9 ^ yT τ → 9 ^ yT τ - k < z → ∀ (H : xH) (g22 g23 g24 g25 : Nat → Int32), gB m v Γ c H → H.1 (m + 22) = some (aI 5 g22) → H.1 (m + 23) = some (aB 59049 g23) → H.1 (m + 24) = some (aB 708588 g24) → H.1 (m + 25) = some (aZ 64 g25) → (∀ j, j < k → g23 j = nI (bN (bX τ j) + bN (bP τ j))) → (∀ w, w < yW τ → ∀ j, j < k → bX τ j → g24 (59049 * w + j) = nI (mdo (outc (yb τ w) (dig j)))) →
    ∃ (H' : xH) (g22' g23' g24' g25' : Nat → Int32), F_X12_makes_L34 N z (some m) (nI k) H = some H' ∧ Fr (sB4 m) H H' ∧ H'.1 (m + 22) = some (aI 5 g22') ∧ H'.1 (m + 23) = some (aB 59049 g23') ∧ H'.1 (m + 24) = some (aB 708588 g24') ∧ H'.1 (m + 25) = some (aZ 64 g25') ∧ (∀ j, j < 9 ^ yT τ → g23' j = nI (bN (bX τ j) + bN (bP τ j))) ∧ ∀ w, w < yW τ → ∀ j, j < 9 ^ yT τ → bX τ j → g24' (59049 * w + j) = nI (mdo (outc (yb τ w) (dig j))) := by
  have h9 := (z9 _ hT).1
  refine upto (P := fun z k => ∀ (H : xH) (g22 g23 g24 g25 : Nat → Int32), gB m v Γ c H → H.1 (m + 22) = some (aI 5 g22) → H.1 (m + 23) = some (aB 59049 g23) → H.1 (m + 24) = some (aB 708588 g24) → H.1 (m + 25) = some (aZ 64 g25) → (∀ j, j < k → g23 j = nI (bN (bX τ j) + bN (bP τ j))) → (∀ w, w < yW τ → ∀ j, j < k → bX τ j → g24 (59049 * w + j) = nI (mdo (outc (yb τ w) (dig j)))) → ∃ (H' : xH) (g22' g23' g24' g25' : Nat → Int32), F_X12_makes_L34 N z (some m) (nI k) H = some H' ∧ Fr (sB4 m) H H' ∧ H'.1 (m + 22) = some (aI 5 g22') ∧ H'.1 (m + 23) = some (aB 59049 g23') ∧ H'.1 (m + 24) = some (aB 708588 g24') ∧ H'.1 (m + 25) = some (aZ 64 g25') ∧ (∀ j, j < 9 ^ yT τ → g23' j = nI (bN (bX τ j) + bN (bP τ j))) ∧ ∀ w, w < yW τ → ∀ j, j < 9 ^ yT τ → bX τ j → g24' (59049 * w + j) = nI (mdo (outc (yb τ w) (dig j)))) ?_ ?_
  · intro z H g22 g23 g24 g25 hB e22 e23 e24 e25 i1 i2
    rw [show F_X12_makes_L34 N (z + 1) = F_X12_makes_J34 N (F_X12_makes_L34 N z) from rfl]
    refine ⟨H, g22, g23, g24, g25, ?_, Fr.rf, e22, e23, e24, e25, i1, i2⟩
    simp only [F_X12_makes_J34, gI hB.1 mi41, h41, Int32.le_refl, if_true, Option.bind_some]
  · intro z k hk ih H g22 g23 g24 g25 hB e22 e23 e24 e25 i1 i2
    rw [show F_X12_makes_L34 N (z + 1) = F_X12_makes_J34 N (F_X12_makes_L34 N z) from rfl]
    obtain ⟨g', l1, l2⟩ := M_lays (N := N) (g := g22) (k := k) (by omega) hB hD ho h0 hT (by omega)
    have hid : dy m g22 H = H := xup_id e22
    rw [hid] at l1
    have hB1 := hB.dy (g := g')
    have pn := M_posN (N := N) (by omega) hB hD ho h4 hT hR l2
    have a23 : (dy m g' H).1 (m + 23) = some (aB 59049 g23) := (xup_ne _ (by omega)).trans e23
    have a24 : (dy m g' H).1 (m + 24) = some (aB 708588 g24) := (xup_ne _ (by omega)).trans e24
    have a25 : (dy m g' H).1 (m + 25) = some (aZ 64 g25) := (xup_ne _ (by omega)).trans e25
    have a22 : (dy m g' H).1 (m + 22) = some (aI 5 g') := dy_at
    have F1 : Fr (sB4 m) H (dy m g' H) := Fr.u (by unfold sB4; omega)
    unfold F_X12_makes_J34
    simp only [gI hB.1 mi41, h41, nI_ge hk (show 9 ^ yT τ < 2 ^ 31 by omega), if_false, obx hB.1, l1, bd2_s, gA hB1.1 ma43, Option.bind_some]
    generalize dy m g' H = X at *
    have rest : ∀ (s : Nat) (P : Prop), s < 5 → s = bN (bX τ k) + bN (bP τ k) → (P ↔ bX τ k) → ∃ (H' : xH) (g22' g23' g24' g25' : Nat → Int32), F_X12_makes_J73 N (F_X12_makes_L34 N z) (some m) (nI k) (bI P) (some (m + 23)) (nI k) (nI s) X = some H' ∧ Fr (sB4 m) H H' ∧ H'.1 (m + 22) = some (aI 5 g22') ∧ H'.1 (m + 23) = some (aB 59049 g23') ∧ H'.1 (m + 24) = some (aB 708588 g24') ∧ H'.1 (m + 25) = some (aZ 64 g25') ∧ (∀ j, j < 9 ^ yT τ → g23' j = nI (bN (bX τ j) + bN (bP τ j))) ∧ ∀ w, w < yW τ → ∀ j, j < 9 ^ yT τ → bX τ j → g24' (59049 * w + j) = nI (mdo (outc (yb τ w) (dig j))) := by
      intro s P hs5 hs hP
      have st := stI (v := (nI s).toInt8.toInt32) a23 (show k < 59049 by omega) (by decide)
      rw [vb3 s hs5] at st
      have F2 : Fr (sB4 m) H (xup X (m + 23) (aB 59049 (upd g23 k (nI s)))) := F1.tr (Fr.u (by unfold sB4; omega))
      have b22 : (xup X (m + 23) (aB 59049 (upd g23 k (nI s)))).1 (m + 22) = some (aI 5 g') := (xup_ne _ (by omega)).trans a22
      have b23 : (xup X (m + 23) (aB 59049 (upd g23 k (nI s)))).1 (m + 23) = some (aB 59049 (upd g23 k (nI s))) := xup_at _
      have b24 : (xup X (m + 23) (aB 59049 (upd g23 k (nI s)))).1 (m + 24) = some (aB 708588 g24) := (xup_ne _ (by omega)).trans a24
      have b25 : (xup X (m + 23) (aB 59049 (upd g23 k (nI s)))).1 (m + 25) = some (aZ 64 g25) := (xup_ne _ (by omega)).trans a25
      have hB2 := hB.fr F2
      have i1' : ∀ j, j < k + 1 → upd g23 k (nI s) j = nI (bN (bX τ j) + bN (bP τ j)) := fun j hj => by
        by_cases e : j = k
        · rw [e, pk_us, hs]
        · rw [pk_un e]; exact i1 j (by omega)
      unfold F_X12_makes_J73
      simp only [st, Option.bind_some]
      generalize upd g23 k (nI s) = gs at *
      generalize xup X (m + 23) (aB 59049 gs) = Y at *
      by_cases hx : bX τ k
      · have hM : gM m (yT τ) v c (dig k) Y := ⟨hB2.1, h0, hT, hB2.2.2, ⟨g', b22, l2⟩, fun t => dig_lt k t, fun t ht => dig0 hk ht⟩
        obtain ⟨gz', gd', q1, q2, q3⟩ := M_dp (N := N) (g0 := g24) (k112 := F_X12_makes_J112 N (F_X12_makes_L34 N z)) hN hM hB2.2.1 hD h2 hW (show k < 59049 by omega) N 0 (Nat.zero_le _) (by omega) g25 g24 (fun w' hw' => absurd hw' (Nat.not_lt_zero _)) (fun _ _ _ _ => rfl)
        have idd : dp m g24 Y = Y := xup_id b24
        have idp : pil m g25 Y = Y := xup_id b25
        rw [idd, idp] at q1
        rw [bI_t (hP.mpr hx), show (0 : Int32) = nI 0 from rfl, q1]
        have F3 : Fr (sB4 m) H (pil m gz' (dp m gd' Y)) := (F2.tr (Fr.u (e := aB 708588 gd') (by unfold sB4; omega))).tr (Fr.u (by unfold sB4; omega))
        unfold F_X12_makes_J112
        rw [nI_1]
        obtain ⟨H', x1, x2, x3, x4, w1, w2, w3⟩ := ih (pil m gz' (dp m gd' Y)) g' gs gd' gz' (hB.fr F3) ((xup_ne _ (by omega)).trans ((xup_ne _ (by omega)).trans b22)) ((xup_ne _ (by omega)).trans ((xup_ne _ (by omega)).trans b23)) ((xup_ne _ (by omega)).trans (xup_at _)) (xup_at _) i1' (fun w hw j hj hxj => by
          by_cases e : j = k
          · rw [e]; exact q2 w hw
          · rw [q3 w j (by omega) e]; exact i2 w hw j (by omega) hxj)
        exact ⟨H', x1, x2, x3, x4, w1, F3.tr w2, w3⟩
      · have ex : F_X12_makes_L77 N (F_X12_makes_J112 N (F_X12_makes_L34 N z)) N (some m) (nI k) (bI P) 0 Y = F_X12_makes_J112 N (F_X12_makes_L34 N z) (some m) (nI k) Y := by
          obtain ⟨N', hN'⟩ : ∃ y, N = y + 1 := ⟨N - 1, by omega⟩
          rw [show F_X12_makes_L77 N (F_X12_makes_J112 N (F_X12_makes_L34 N z)) N = F_X12_makes_J77 N (F_X12_makes_L77 N (F_X12_makes_J112 N (F_X12_makes_L34 N z)) N') (F_X12_makes_J112 N (F_X12_makes_L34 N z)) from (congrArg (F_X12_makes_L77 N (F_X12_makes_J112 N (F_X12_makes_L34 N z))) hN').trans rfl]
          unfold F_X12_makes_J77
          simp only [gI hB2.1 mi2, Option.bind_some]
          split
          · rfl
          · rw [bI_f (fun q => hx (hP.mp q)), if_pos rfl]
        rw [ex]
        unfold F_X12_makes_J112
        rw [nI_1]
        obtain ⟨H', x1, x2, x3, x4, w1, w2, w3⟩ := ih Y g' gs g24 g25 hB2 b22 b23 b24 b25 i1' (fun w hw j hj hxj => by
          by_cases e : j = k
          · rw [e] at hxj; exact absurd hxj hx
          · exact i2 w hw j (by omega) hxj)
        exact ⟨H', x1, x2, x3, x4, w1, F2.tr w2, w3⟩
    by_cases hx : bX τ k
    · rw [bI_t hx, if_neg n10]
      simp only [obx hB1.1, pn, bd2_s, Option.bind_some]
      by_cases hp : ∀ r, r < yR τ → rOk (dig k) (yr τ r)
      · rw [bI_t hp, if_neg n10]
        have := rest 2 True (by decide) (by rw [bN_t hx, bN_t ⟨hx, hp⟩]) ⟨fun _ => hx, fun _ => trivial⟩
        rwa [bI_t trivial] at this
      · rw [bI_f hp, if_pos rfl]
        have := rest 1 True (by decide) (by rw [bN_t hx, bN_f (fun q => hp q.2)]) ⟨fun _ => hx, fun _ => trivial⟩
        rwa [bI_t trivial] at this
    · rw [bI_f hx, if_pos rfl]
      have := rest 0 False (by decide) (by rw [bN_f hx, bN_f (fun q => hx q.1)]) ⟨False.elim, hx⟩
      rwa [bI_f id] at this
theorem M_makes (hN : 59049 < N) (hB : gB m v Γ c H) (hD : yD τ c Γ) (ho : yOk τ) (h0 : v 0 = nI (yT τ)) (h2 : v 2 = nI (yW τ)) (h4 : v 4 = nI (yR τ)) (hT : yT τ ≤ 5) (hW : yW τ ≤ 12) (hR : yR τ ≤ 40) {g22 g23 g24 g25 : Nat → Int32} (e22 : H.1 (m + 22) = some (aI 5 g22)) (e23 : H.1 (m + 23) = some (aB 59049 g23)) (e24 : H.1 (m + 24) = some (aB 708588 g24)) (e25 : H.1 (m + 25) = some (aZ 64 g25)) : ∃ (H' : xH) (g22' g23' g24' g25' : Nat → Int32), F_X12_makes N (some m) H = some H' ∧ H'.1 m = some (mo m (upd v 41 (nI (9 ^ yT τ)))) ∧ Fr (fun q => q = m ∨ sB4 m q) H H' ∧ H'.1 (m + 22) = some (aI 5 g22') ∧ H'.1 (m + 23) = some (aB 59049 g23') ∧ H'.1 (m + 24) = some (aB 708588 g24') ∧ H'.1 (m + 25) = some (aZ 64 g25') ∧ (∀ j, j < 9 ^ yT τ → g23' j = nI (bN (bX τ j) + bN (bP τ j))) ∧ ∀ w, w < yW τ → ∀ j, j < 9 ^ yT τ → bX τ j → g24' (59049 * w + j) = nI (mdo (outc (yb τ w) (dig j))) := by
  have loop : ∀ z i, i ≤ yT τ → yT τ - i < z → F_X12_makes_L7 N (F_X12_makes_J32 N) z (some m) (nI i) (mu m (upd v 41 (nI (9 ^ i))) H) = F_X12_makes_J32 N (some m) (mu m (upd v 41 (nI (9 ^ yT τ))) H) := by
    refine upto (P := fun z i => F_X12_makes_L7 N (F_X12_makes_J32 N) z (some m) (nI i) (mu m (upd v 41 (nI (9 ^ i))) H) = F_X12_makes_J32 N (some m) (mu m (upd v 41 (nI (9 ^ yT τ))) H)) ?_ ?_
    · intro z
      rw [show F_X12_makes_L7 N (F_X12_makes_J32 N) (z + 1) = F_X12_makes_J7 N (F_X12_makes_L7 N (F_X12_makes_J32 N) z) (F_X12_makes_J32 N) from rfl]
      simp only [F_X12_makes_J7, gI mu_at mi0, pk_un (show (0 : Nat) ≠ 41 by decide), h0, Int32.le_refl, if_true, Option.bind_some]
    · intro z i hi ih
      rw [show F_X12_makes_L7 N (F_X12_makes_J32 N) (z + 1) = F_X12_makes_J7 N (F_X12_makes_L7 N (F_X12_makes_J32 N) z) (F_X12_makes_J32 N) from rfl]
      have st := mu_p (m := m) (H := H) (v' := upd v 41 (nI (9 ^ i))) (k := 41) (x := nI (9 ^ (i + 1))) (by decide) ms41
      rw [updd] at st
      have e9 : nI (9 ^ i) * (9 : Int32) = nI (9 ^ (i + 1)) := by rw [show (9 : Int32) = nI 9 from rfl, pk_mul, Nat.pow_succ]
      simp only [F_X12_makes_J7, gI mu_at mi0, pk_un (show (0 : Nat) ≠ 41 by decide), h0, nI_ge hi (show yT τ < 2 ^ 31 by omega), if_false, gI mu_at mi41, pk_us, e9, st, nI_1, ih, Option.bind_some]
  have st0 : xpI H (some m) 11 41 (1 : Int32) = some (mu m (upd v 41 (nI (9 ^ 0))) H) := mpI hB.1 (by decide) _ ms41
  have l0 := loop N 0 (Nat.zero_le _) (by omega)
  have hB1 : gB m (upd v 41 (nI (9 ^ yT τ))) Γ c (mu m (upd v 41 (nI (9 ^ yT τ))) H) := by
    obtain ⟨_, h2, a, b, e⟩ := hB
    exact ⟨mu_at, h2.um, (mu_ne (by omega)).trans a, (mu_ne (by omega)).trans b, (mu_ne (by omega)).trans e⟩
  obtain ⟨H', x1, x2, x3, x4, w1, w2, w3⟩ := M_mkL (N := N) (v := upd v 41 (nI (9 ^ yT τ))) hN hD ho ((pk_un (by decide)).trans h0) ((pk_un (by decide)).trans h2) ((pk_un (by decide)).trans h4) pk_us hT hW hR N 0 (Nat.zero_le _) (by have := (z9 _ hT).1; omega) (mu m (upd v 41 (nI (9 ^ yT τ))) H) g22 g23 g24 g25 hB1 ((mu_ne (by omega)).trans e22) ((mu_ne (by omega)).trans e23) ((mu_ne (by omega)).trans e24) ((mu_ne (by omega)).trans e25) (fun j hj => absurd hj (Nat.not_lt_zero _)) (fun w _ j hj => absurd hj (Nat.not_lt_zero _))
  refine ⟨H', x1, x2, x3, x4, ?_, (w2.2 m (by unfold sB4; omega)).trans mu_at, (Fr.u (Or.inl rfl)).tr (w2.mono (fun q hq => Or.inr hq)), w3⟩
  unfold F_X12_makes
  simp only [st0, Option.bind_some]
  rw [show (0 : Int32) = nI 0 from rfl, l0]
  exact w1
