/-! PURE: STEP win. -/
section Win7
variable {stf : Nat → Nat} {N K b m : Nat} {β : sB} {δ : sD} {H : xH}
theorem xS_ad {v v' : Nat → Int32} {H H' : xH} (h : mS m v v' H H') : H'.2 = H.2 := h.2.1
/-- the reference's win, from the range on -/
theorem S_mWin (hN : 59049 < N) {v : Nat → Int32} (h : CM K m v β δ H) {u : Nat} (hu : u < 2 ^ bW β) {y : Int32} (hy : ¬ y < 0 ∧ ¬ 1 < y) : ∃ v' H', mS m v v' H H' ∧ ((¬ (0 < cnt (wP β (dL δ) u) (bW β) ∧ cnt (wP β (dL δ) u) (bW β) ≤ 6) ∧ F_X12_win N (some m) (nI u) y H = some (-1, H')) ∨ ((0 < cnt (wP β (dL δ) u) (bW β) ∧ cnt (wP β (dL δ) u) (bW β) ≤ 6) ∧ F_X12_win N (some m) (nI u) y H = some (if y = 0 then (wbs β (dL δ) u (3 ^ cnt (wP β (dL δ) u) (bW β) - 1)).1 else (wbs β (dL δ) u (3 ^ cnt (wP β (dL δ) u) (bW β) - 1)).2, H'))) := by
  obtain ⟨v0, v1, v2, v3, v46, t5, t6, t12⟩ := h.mq.ac
  have hp12 : 2 ^ bW β ≤ 4096 := Nat.le_trans (Nat.pow_le_pow_right (by decide) t12) (by decide)
  have h1 := h.1.1.1
  have cm : ∀ v' H', mS m v v' H H' → CM K m v' β δ H' := fun v' H' hS => ⟨h.1.s hS, h.2⟩
  have mf58 : ∀ x, ∀ j, ¬ mf j → (fun (v' : Nat → Int32) => upd v' 58 x j) = fun v' => v' j := fun x j hj => by
    funext v'
    exact pk_un (fun e => hj (by unfold mf; omega))
  have mf59 : ∀ (v' : Nat → Int32) (t : Nat) x j, (t = 58 ∨ t = 59 ∨ t = 60) → ¬ mf j → upd v' t x j = v' j := fun v' t x j ht hj => pk_un (fun e => hj (by unfold mf; omega))
  generalize hP : wP β (dL δ) u = P at *
  have fin : ∀ (k : Nat) (ch : Nat → Nat) (v1 : Nat → Int32) (H1 : xH), mS m v v1 H H1 → k = cnt P (bW β) → 0 < k → k ≤ 6 → chs P (bW β) ch → mC m k ch v1 H1 → ∃ v' H', mS m v v' H H' ∧ F_X12_win_J95 N (some m) y H1 = some (if y = 0 then (wbs β (dL δ) u (3 ^ cnt P (bW β) - 1)).1 else (wbs β (dL δ) u (3 ^ cnt P (bW β) - 1)).2, H') := by
    intro k ch v1 H1 hS hk hk0 hk6 hch hC
    have hc1 := cm v1 H1 hS
    have o1 := hc1.1.1.1
    have h3k : 3 ^ k ≤ 729 := Nat.le_trans (Nat.pow_le_pow_right (by decide) hk6) (by decide)
    have h3p := Nat.pow_pos (n := k) (by decide : 0 < 3)
    have hkP : k = cnt (wP β (dL δ) u) (bW β) := by rw [hP]; exact hk
    have hchP : chs (wP β (dL δ) u) (bW β) ch := by rw [hP]; exact hch
    obtain ⟨g, m1, m2⟩ := S_meets (N := N) hN hc1 hC hkP hk6 hk0 hchP
    obtain ⟨gm, hgm⟩ : ∃ g, H1.1 (m + 32) = some (aZ 15625 g) := hc1.1.2.2.2.2.2.2.2.2.2.2.2.2.2.2.2.2.2.2.2.2.2.1
    have hS2 : mS m v v1 H (xup H1 (m + 32) (aZ 15625 g)) := hS.tr (mS.sc o1 (sc.upI (by unfold SMa; omega) hgm))
    generalize hH2 : xup H1 (m + 32) (aZ 15625 g) = H2 at m1 hS2
    have hc2 := cm v1 H2 hS2
    have o2 := hc2.1.1.1
    obtain ⟨e58, gc, gc1, gc2⟩ := hC
    have g32 : H2.1 (m + 32) = some (aZ 15625 g) := by rw [← hH2]; exact xup_at _
    have g33 : H2.1 (m + 33) = some (aI 6 gc) := by rw [← hH2, xup_ne _ (by omega)]; exact gc1
    let V : Int32 → Int32 → Nat → Int32 := fun a c => upd (upd v1 59 a) 60 c
    have hSV : ∀ a c, mS m v (V a c) H (xup H2 m (mo m (V a c))) := fun a c => hS2.tr (mS.fld o2 (fun j hj => by
      show upd (upd v1 59 a) 60 c j = v1 j
      rw [mf59 _ 60 _ j (by decide) hj, mf59 _ 59 _ j (by decide) hj]))
    have hCV : ∀ a c, mC m k ch (V a c) (xup H2 m (mo m (V a c))) := fun a c => ⟨by show upd (upd v1 59 a) 60 c 58 = _; rw [pk_un (by decide), pk_un (by decide)]; exact e58, gc, by rw [xup_ne _ (by omega)]; exact g33, gc2⟩
    have oV : ∀ a c, (xup H2 m (mo m (V a c))).1 m = some (mo m (V a c)) := fun a c => xup_at _
    have r59 : ∀ a c, xgI (xup H2 m (mo m (V a c))) (some m) 11 59 = some a := fun a c => (gI (oV a c) mi59).trans (by show some (upd (upd v1 59 a) 60 c 59) = _; rw [pk_un (by decide), pk_us])
    have r60 : ∀ a c, xgI (xup H2 m (mo m (V a c))) (some m) 11 60 = some c := fun a c => (gI (oV a c) mi60).trans (by show some (upd (upd v1 59 a) 60 c 60) = _; rw [pk_us])
    have p59 : ∀ a c a', xpI (xup H2 m (mo m (V a c))) (some m) 11 59 a' = some (xup H2 m (mo m (V a' c))) := fun a c a' => by
      rw [mpI (oV a c) (by decide) _ ms59, xup_up]
      have : upd (V a c) 59 a' = V a' c := by
        funext j
        show upd (upd (upd v1 59 a) 60 c) 59 a' j = upd (upd v1 59 a') 60 c j
        by_cases j59 : j = 59
        · rw [j59, pk_us, pk_un (by decide), pk_us]
        · rw [pk_un j59]
          by_cases j60 : j = 60
          · rw [j60, pk_us, pk_us]
          · rw [pk_un j60, pk_un j60, pk_un j59, pk_un j59]
      rw [this]
    have p60 : ∀ a c c', xpI (xup H2 m (mo m (V a c))) (some m) 11 60 c' = some (xup H2 m (mo m (V a c'))) := fun a c c' => by
      rw [mpI (oV a c) (by decide) _ ms60, xup_up]
      have : upd (V a c) 60 c' = V a c' := upd_upd _ _ _ _
      rw [this]
    have loop := upto (s := 3 ^ k) (P := fun f i => 1 ≤ i → F_X12_win_L145 N (F_X12_win_J206 N) f (some m) y (nI (3 ^ k)) (nI i) (xup H2 m (mo m (V (wbs β (dL δ) u (i - 1)).1 (wbs β (dL δ) u (i - 1)).2))) = some (if y = 0 then (wbs β (dL δ) u (3 ^ k - 1)).1 else (wbs β (dL δ) u (3 ^ k - 1)).2, xup H2 m (mo m (V (wbs β (dL δ) u (3 ^ k - 1)).1 (wbs β (dL δ) u (3 ^ k - 1)).2)))) (fun f h1 => by
      rw [show F_X12_win_L145 N (F_X12_win_J206 N) (f + 1) = F_X12_win_J145 N (F_X12_win_L145 N (F_X12_win_J206 N) f) (F_X12_win_J206 N) from rfl]
      simp only [F_X12_win_J145, F_X12_win_J206, nI_le (Nat.le_refl _) (show 3 ^ k < 2 ^ 31 by omega), if_true, r59, r60, Option.bind_some, bd2_s]
      by_cases hy0 : y = 0
      · rw [if_pos hy0, if_pos hy0]
      · rw [if_neg hy0, if_neg hy0]) (fun f i hi ih h1 => by
      obtain ⟨i, rfl⟩ : ∃ i', i = i' + 1 := ⟨i - 1, by omega⟩
      have ih := ih (by omega)
      simp only [Nat.add_sub_cancel] at ih ⊢
      generalize hb1 : wbs β (dL δ) u i = bw at *
      obtain ⟨y3, y4⟩ := bw
      have hcV := cm _ _ (hSV y3 y4)
      have hst := S_mStaked (N := N) hN hcV (hCV y3 y4) hkP hk6 hchP hi
      have hwn := S_mWins (N := N) hN hcV (hCV y3 y4) hkP hk6 hchP (show (xup H2 m (mo m (V y3 y4))).1 (m + 32) = some (aZ 15625 g) by rw [xup_ne _ (by omega)]; exact g32) m2 hi
      have no : ¬ (((wbs β (dL δ) u i).1 = -1 ∨ ¬ (wbs β (dL δ) u i).2 ≤ wst β (dL δ) u (i + 1)) ∧ wok β (dL δ) u (i + 1)) → F_X12_win_L145 N (F_X12_win_J206 N) f (some m) y (nI (3 ^ k)) (nI (i + 1 + 1)) (xup H2 m (mo m (V y3 y4))) = some (if y = 0 then (wbs β (dL δ) u (3 ^ k - 1)).1 else (wbs β (dL δ) u (3 ^ k - 1)).2, xup H2 m (mo m (V (wbs β (dL δ) u (3 ^ k - 1)).1 (wbs β (dL δ) u (3 ^ k - 1)).2))) := fun h => by
        have e := wbs_f h
        rw [e, hb1] at ih
        exact ih
      have yes : (((wbs β (dL δ) u i).1 = -1 ∨ ¬ (wbs β (dL δ) u i).2 ≤ wst β (dL δ) u (i + 1)) ∧ wok β (dL δ) u (i + 1)) → F_X12_win_L145 N (F_X12_win_J206 N) f (some m) y (nI (3 ^ k)) (nI (i + 1 + 1)) (xup H2 m (mo m (V (nI (i + 1)) (wst β (dL δ) u (i + 1))))) = some (if y = 0 then (wbs β (dL δ) u (3 ^ k - 1)).1 else (wbs β (dL δ) u (3 ^ k - 1)).2, xup H2 m (mo m (V (wbs β (dL δ) u (3 ^ k - 1)).1 (wbs β (dL δ) u (3 ^ k - 1)).2))) := fun h => by
        have e := wbs_t h
        rw [e] at ih
        exact ih
      rw [hb1] at no yes
      rw [show F_X12_win_L145 N (F_X12_win_J206 N) (f + 1) = F_X12_win_J145 N (F_X12_win_L145 N (F_X12_win_J206 N) f) (F_X12_win_J206 N) from rfl]
      simp only [F_X12_win_J145, F_X12_win_J200, F_X12_win_J176, nI_ge hi (show 3 ^ k < 2 ^ 31 by omega), if_false, hcV.mq.ob, hst, r59, r60, hwn, nI_1, Option.bind_some, bd2_s]
      have go : (y3 = -1 ∨ ¬ y4 ≤ wst β (dL δ) u (i + 1)) → (if bI (wok β (dL δ) u (i + 1)) = 0 then F_X12_win_L145 N (F_X12_win_J206 N) f (some m) y (nI (3 ^ k)) (nI (i + 1 + 1)) (xup H2 m (mo m (V y3 y4))) else ((xpI (xup H2 m (mo m (V y3 y4))) (some m) 11 59 (nI (i + 1))).bind fun H5 => (xpI H5 (some m) 11 60 (wst β (dL δ) u (i + 1))).bind fun H6 => F_X12_win_L145 N (F_X12_win_J206 N) f (some m) y (nI (3 ^ k)) (nI (i + 1 + 1)) H6)) = some (if y = 0 then (wbs β (dL δ) u (3 ^ k - 1)).1 else (wbs β (dL δ) u (3 ^ k - 1)).2, xup H2 m (mo m (V (wbs β (dL δ) u (3 ^ k - 1)).1 (wbs β (dL δ) u (3 ^ k - 1)).2))) := fun h => by
        by_cases hok : wok β (dL δ) u (i + 1)
        · rw [bI_t hok, if_neg (by decide), p59]
          simp only [Option.bind_some, bd2_s, p60]
          exact yes ⟨h, hok⟩
        · rw [bI_f hok, if_pos rfl]
          exact no (fun z => hok z.2)
      by_cases hn : y3 = -1
      · rw [if_pos hn]
        exact go (Or.inl hn)
      · rw [if_neg hn]
        by_cases hle : y4 ≤ wst β (dL δ) u (i + 1)
        · rw [if_pos hle]
          exact no (fun z => z.1.elim (fun w => hn w) (fun w => w hle))
        · rw [if_neg hle]
          exact go (Or.inr hle)) N 1 h3p (by omega) (Nat.le_refl _)
    refine ⟨_, _, hSV (wbs β (dL δ) u (3 ^ k - 1)).1 (wbs β (dL δ) u (3 ^ k - 1)).2, ?_⟩
    rw [← hk]
    have r58 : xgI H1 (some m) 11 58 = some (nI k) := (gI o1 mi58).trans (by rw [e58])
    have r58' : xgI H2 (some m) 11 58 = some (nI k) := (gI o2 mi58).trans (by rw [e58])
    have pw := upto (s := k) (P := fun f i => F_X12_win_L113 N (F_X12_win_J132 N) f (some m) y (nI (3 ^ i)) (nI i) H2 = F_X12_win_J132 N (some m) y (nI (3 ^ k)) H2) (fun f => by
      rw [show F_X12_win_L113 N (F_X12_win_J132 N) (f + 1) = F_X12_win_J113 N (F_X12_win_L113 N (F_X12_win_J132 N) f) (F_X12_win_J132 N) from rfl]
      simp only [F_X12_win_J113, r58', nI_le (Nat.le_refl _) (show k < 2 ^ 31 by omega), if_true, Option.bind_some, bd2_s]) (fun f i hi ih => by
      have e : nI (3 ^ i) * (3 : Int32) = nI (3 ^ (i + 1)) := by rw [Nat.pow_succ]; exact pk_mul _ _
      rw [show F_X12_win_L113 N (F_X12_win_J132 N) (f + 1) = F_X12_win_J113 N (F_X12_win_L113 N (F_X12_win_J132 N) f) (F_X12_win_J132 N) from rfl]
      simp only [F_X12_win_J113, r58', nI_ge hi (show k < 2 ^ 31 by omega), if_false, e, nI_1, Option.bind_some, bd2_s]
      exact ih) N 0 (Nat.zero_le _) (by omega)
    have i59 : xpI H2 (some m) 11 59 (-1) = some (xup H2 m (mo m (upd v1 59 (-1)))) := mpI o2 (by decide) _ ms59
    have i60 : xpI (xup H2 m (mo m (upd v1 59 (-1)))) (some m) 11 60 (-1) = some (xup H2 m (mo m (V (-1) (-1)))) := by
      rw [mpI (xup_at _) (by decide) _ ms60, xup_up]
    simp only [F_X12_win_J95, r58, nI_ne0 hk0 (show k < 2 ^ 31 by omega), if_false, hc1.mq.ob, m1, Option.bind_some, bd2_s]
    rw [show F_X12_win_L113 N (F_X12_win_J132 N) N (some m) y (1 : Int32) (0 : Int32) H2 = _ from pw]
    simp only [F_X12_win_J132, i59, i60, Option.bind_some, bd2_s]
    exact loop
  -- the choice
  have choose := upto (s := bW β) (P := fun f w => ∀ v1 H1 gc, mS m v v1 H H1 → v1 58 = nI (cnt P w) → H1.1 (m + 33) = some (aI 6 gc) → cnt P w ≤ 6 → (∀ z, z < w → P z → gc (cnt P z) = nI z) → ∃ v' H', mS m v v' H H' ∧ ((¬ (0 < cnt P (bW β) ∧ cnt P (bW β) ≤ 6) ∧ F_X12_win_L31 N (F_X12_win_J95 N) f (some m) (nI u) y (nI w) H1 = some (-1, H')) ∨ ((0 < cnt P (bW β) ∧ cnt P (bW β) ≤ 6) ∧ F_X12_win_L31 N (F_X12_win_J95 N) f (some m) (nI u) y (nI w) H1 = some (if y = 0 then (wbs β (dL δ) u (3 ^ cnt P (bW β) - 1)).1 else (wbs β (dL δ) u (3 ^ cnt P (bW β) - 1)).2, H')))) (fun f v1 H1 gc hS e58 g33 h6 hg => by
    have hc1 := cm v1 H1 hS
    obtain ⟨w0, w1, w2, -⟩ := hc1.mq.ac
    rw [show F_X12_win_L31 N (F_X12_win_J95 N) (f + 1) = F_X12_win_J31 N (F_X12_win_L31 N (F_X12_win_J95 N) f) (F_X12_win_J95 N) from rfl]
    have e31 : F_X12_win_J31 N (F_X12_win_L31 N (F_X12_win_J95 N) f) (F_X12_win_J95 N) (some m) (nI u) y (nI (bW β)) H1 = F_X12_win_J95 N (some m) y H1 := by
      simp only [F_X12_win_J31, w2, nI_le (Nat.le_refl _) (show bW β < 2 ^ 31 by omega), if_true, Option.bind_some, bd2_s]
    rw [e31]
    rcases Nat.eq_zero_or_pos (cnt P (bW β)) with h0 | h0
    · refine ⟨v1, H1, hS, Or.inl ⟨fun z => by omega, ?_⟩⟩
      have r58 : xgI H1 (some m) 11 58 = some (nI (cnt P (bW β))) := (gI hc1.1.1.1 mi58).trans (by rw [e58])
      unfold F_X12_win_J95
      rw [r58]
      simp only [Option.bind_some, bd2_s]
      rw [if_pos (by rw [h0]; rfl)]
    · let ch : Nat → Nat := fun i => (gc i).toNatClampNeg
      have hch : chs P (bW β) ch := fun w hw hp => by
        show (gc (cnt P w)).toNatClampNeg = w
        rw [hg w hw hp, nI_clamp (by omega)]
      have hgn : ∀ i, i < cnt P (bW β) → gc i = nI (ch i) := fun i hi => by
        obtain ⟨c1, c2, c3⟩ := hch.inv hi
        have := hg (ch i) c1 c2
        rw [c3] at this
        exact this
      obtain ⟨v', H', s1, s2⟩ := fin (cnt P (bW β)) ch v1 H1 hS rfl h0 h6 hch ⟨e58, gc, g33, hgn⟩
      exact ⟨v', H', s1, Or.inr ⟨⟨h0, h6⟩, s2⟩⟩) (fun f w hw ih v1 H1 gc hS e58 g33 h6 hg => by
    have hc1 := cm v1 H1 hS
    obtain ⟨w0, w1, w2, -⟩ := hc1.mq.ac
    obtain ⟨e1, e2⟩ := bitw (u := u) (w := w) (by omega) (by omega)
    rw [show F_X12_win_L31 N (F_X12_win_J95 N) (f + 1) = F_X12_win_J31 N (F_X12_win_L31 N (F_X12_win_J95 N) f) (F_X12_win_J95 N) from rfl]
    have skip : ∀ v2 H2, mS m v v2 H H2 → v2 58 = nI (cnt P w) → H2.1 (m + 33) = some (aI 6 gc) → ¬ P w → ∃ v' H', mS m v v' H H' ∧ ((¬ (0 < cnt P (bW β) ∧ cnt P (bW β) ≤ 6) ∧ F_X12_win_L31 N (F_X12_win_J95 N) f (some m) (nI u) y (nI (w + 1)) H2 = some (-1, H')) ∨ ((0 < cnt P (bW β) ∧ cnt P (bW β) ≤ 6) ∧ F_X12_win_L31 N (F_X12_win_J95 N) f (some m) (nI u) y (nI (w + 1)) H2 = some (if y = 0 then (wbs β (dL δ) u (3 ^ cnt P (bW β) - 1)).1 else (wbs β (dL δ) u (3 ^ cnt P (bW β) - 1)).2, H'))) := fun v2 H2 hS2 e2 g2 hnp => ih v2 H2 gc hS2 (by rw [cnt_f hnp]; exact e2) g2 (by rw [cnt_f hnp]; exact h6) (fun z hz hpz => hg z (by
        by_cases e : z = w
        · rw [e] at hpz; exact absurd hpz hnp
        · omega) hpz)
    simp only [F_X12_win_J31, F_X12_win_J89, w2, nI_ge hw (show bW β < 2 ^ 31 by omega), if_false, S_bit, e1, nI_1, Option.bind_some, bd2_s]
    by_cases hb : u.testBit w = true
    · have hb1 : nI (u / 2 ^ w % 2) = 1 := by rw [(tb2 u w).mp hb]; rfl
      rw [bI_t hb1, if_neg (by decide)]
      obtain ⟨x, hx1, hx2⟩ := S_mSu (N := N) hN hc1 hw
      have hS1 : mS m v1 (upd v1 49 x) H1 (xup H1 m (mo m (upd v1 49 x))) := mS49 hc1.1.1.1
      have hS2 := hS.tr hS1
      have hc2 := cm _ _ hS2
      have e58' : upd v1 49 x 58 = nI (cnt P w) := by rw [pk_un (by decide)]; exact e58
      have g33' : (xup H1 m (mo m (upd v1 49 x))).1 (m + 33) = some (aI 6 gc) := by rw [xup_ne _ (by omega)]; exact g33
      simp only [hc1.mq.ob, hx1, Option.bind_some, bd2_s]
      generalize hHH : xup H1 m (mo m (upd v1 49 x)) = H2 at *
      generalize hvv : upd v1 49 x = v2' at *
      have o2 := hc2.1.1.1
      by_cases hsu : suW β (dL δ) w
      · rw [bI_t hsu, if_neg (by decide)]
        exact skip v2' H2 hS2 e58' g33' (by rw [← hP]; exact fun z => z.2 hsu)
      · have hp : P w := by rw [← hP]; exact ⟨hb, hsu⟩
        rw [bI_f hsu, if_pos rfl]
        have r58 : xgI H2 (some m) 11 58 = some (nI (cnt P w)) := (gI o2 mi58).trans (by rw [e58'])
        rw [r58]
        simp only [Option.bind_some, bd2_s]
        by_cases hc6 : cnt P w = 6
        · rw [if_pos (by rw [hc6]; rfl)]
          refine ⟨v2', H2, hS2, Or.inl ⟨fun z => ?_, rfl⟩⟩
          have := cnt_mono P (i := w + 1) (j := bW β) hw
          rw [cnt_t hp] at this
          omega
        · have h6' : cnt P w < 6 := by omega
          have n6 : ¬ nI (cnt P w) = (6 : Int32) := fun z => hc6 ((nI_eq (b := 6) (by omega) (by decide)).mp z)
          rw [if_neg n6]
          have stc : xsI .int H2 (some (m + 33)) (nI (cnt P w)) (nI w) = some (xup H2 (m + 33) (aI 6 (upd gc (cnt P w) (nI w)))) := by rw [stI g33' h6' (by decide), vnI]
          have o3 : (xup H2 (m + 33) (aI 6 (upd gc (cnt P w) (nI w)))).1 m = some (mo m v2') := by rw [xup_ne _ (by omega)]; exact o2
          have r58' : xgI (xup H2 (m + 33) (aI 6 (upd gc (cnt P w) (nI w)))) (some m) 11 58 = some (nI (cnt P w)) := (gI o3 mi58).trans (by rw [e58'])
          simp only [gA o2 ma57, stc, r58', nI_1, mpI o3 (by decide : 58 < 64) _ ms58, Option.bind_some, bd2_s]
          have hS3 : mS m v v2' H (xup H2 (m + 33) (aI 6 (upd gc (cnt P w) (nI w)))) := hS2.tr (mS.sc o2 (sc.upI (by unfold SMa; omega) g33'))
          refine ih _ _ (upd gc (cnt P w) (nI w)) (hS3.tr (mS.fld o3 (fun j hj => mf59 _ 58 _ j (by decide) hj))) (by rw [cnt_t hp, pk_us]) (by rw [xup_ne _ (by omega)]; exact xup_at _) (by rw [cnt_t hp]; omega) (fun z hz hpz => ?_)
          by_cases e : z = w
          · rw [e, pk_us]
          · have hne : cnt P z ≠ cnt P w := fun q => by
              have := cnt_mono P (i := z + 1) (j := w) (by omega)
              rw [cnt_t hpz] at this
              omega
            rw [pk_un hne]; exact hg z (by omega) hpz
    · have hb1 : ¬ nI (u / 2 ^ w % 2) = 1 := fun z => hb ((tb2 u w).mpr ((nI_eq (b := 1) (by omega) (by decide)).mp z))
      rw [bI_f hb1, if_pos rfl]
      exact skip v1 H1 hS e58 g33 (by rw [← hP]; exact fun z => hb z.1)) N 0 (Nat.zero_le _) (by omega)
  obtain ⟨gc, hgc⟩ : ∃ g, H.1 (m + 33) = some (aI 6 g) := h.1.2.2.2.2.2.2.2.2.2.2.2.2.2.2.2.2.2.2.2.2.2.2
  obtain ⟨v', H', s1, s2⟩ := choose (upd v 58 0) (xup H m (mo m (upd v 58 0))) gc (mS.fld h1 (fun j hj => mf59 _ 58 _ j (by decide) hj)) (by rw [pk_us]; rfl) (by rw [xup_ne _ (by omega)]; exact hgc) (by rw [cnt_0]; omega) (fun z hz => by omega)
  refine ⟨v', H', s1, ?_⟩
  have hW0 : u / 2 ^ bW β = 0 := Nat.div_eq_of_lt hu
  obtain ⟨-, e2⟩ := bitw (u := u) (w := bW β) (by omega) (by omega)
  have eq : F_X12_win N (some m) (nI u) y H = F_X12_win_L31 N (F_X12_win_J95 N) N (some m) (nI u) y (nI 0) (xup H m (mo m (upd v 58 0))) := by
    simp only [F_X12_win, S_in, bI_t hy, show ¬ (1 : Int32) = 0 by decide, if_false, nI_pos (show u < 2 ^ 31 by omega), v2, e2, hW0, show nI 0 ≤ 0 from by decide, if_true, mpI h1 (by decide : 58 < 64) _ ms58, Option.bind_some, bd2_s]
    rfl
  rw [eq]
  exact s2
theorem T_win (hN : 59049 < N) (h : Rel stf K b m β δ H) (x y : Int32) : xStep stf K b m (F_X11_win N (some b) x y) (F_X12_win N (some m) x y) H := by
  obtain ⟨⟨⟨c, tc, tk, cb, n, nk, ncb, ad, ho⟩, -⟩, v, hm⟩ := id h
  obtain ⟨g0, g1, g2, g3, g4, g5, g6, g7, g8, g9, g10, g11, g12, g13, g14⟩ := ho.g
  obtain ⟨o10, o2, o6, o4, o5, o3, o9⟩ := ho.o
  obtain ⟨k0, k1, k2, k4, k6, k7, k12⟩ := ho.k
  have q := hm.mq
  have qo := q.ob
  have qz := q.z
  obtain ⟨v0, v1, v2, v3, v46, t5, t6, t12⟩ := q.ac
  have hp12 : 2 ^ bW β ≤ 4096 := Nat.le_trans (Nat.pow_le_pow_right (by decide) t12) (by decide)
  have e1W : ∀ w, w < 13 → (1 : Int32) <<< (nI w &&& 31) = nI (2 ^ w) := by decide +kernel
  have y1 : y ≤ 1 ↔ ¬ (1 : Int32) < y := by rw [Int32.not_lt]
  by_cases hall : ¬ x < 0 ∧ ¬ nI (2 ^ bW β) ≤ x ∧ (¬ y < 0 ∧ ¬ 1 < y)
  · obtain ⟨hx0, hxW, hy⟩ := hall
    obtain ⟨u, hu31, rfl⟩ := nI_of hx0
    have hu : u < 2 ^ bW β := by
      rw [nI_leI (show 2 ^ bW β < 2 ^ 31 by omega) hu31] at hxW; omega
    have hw0 := h.1.2.2.2.1
    have hm36 := h.1.2.2.2.2
    have hD := ho.1
    obtain ⟨d1, -⟩ := id hD
    have hdd := hm.2.2.up (Nat.le_succ K)
    rcases S_choose2 (N := N) hN ho hm.2.1 hw0 hm36 hu with ⟨c1, H1, c2, c3, c4, c5, c6⟩ | ⟨c1, H1, cb', ncb', gq, gn, cc, x3, x4, cmb, c2, c3, c5, c6, c7, c8, c9, c10, c11, c12⟩
    · have C1 : F_X11_win N (some b) (nI u) y H = some (-1, H1) := by
        simp only [F_X11_win, hx0, if_false, g5, k2, e1W (bW β) (by omega), hxW, hy.1, y1, hy.2, not_false_iff, if_true, g12, g6, o9, c2, Option.bind_some, bd2_s]
      have hm1 : CM K m v β δ H1 := ⟨hm.1.wn hD hm36 c3.2, hm.2⟩
      obtain ⟨v', H2, s1, s2⟩ := S_mWin (N := N) hN hm1 hu hy
      rcases s2 with ⟨-, s2⟩ | ⟨z, -⟩
      · refine ⟨-1, H1, H2, β, δ, C1, s2, ⟨⟨c, tc, tk, cb, n, nk, ncb, ad, c5.fr s1.fr⟩, h.1.2.1, hdd, ?_, ?_⟩, v', hm1.1.s s1, hm.2.1, hdd⟩
        · exact (c6.up (e := mo m v') hm1.1.1.1).sc s1.2
        · rw [s1.2.1]
          show m + 36 ≤ H1.2.1
          rw [c4]; exact hm36
      · exact absurd z c1
    · obtain ⟨G, t1, t2⟩ := S_search (N := N) hN c5 hm.2.1 c6 c7 c8 rfl c1.2 c12 c9 c10 c11
      generalize hk : cnt (wP β (dL δ) u) (bW β) = k at *
      generalize hbw : wbs β (dL δ) u (3 ^ k - 1) = bw at *
      have hg44 := c5.gn
      obtain ⟨e44, gg, hgg⟩ := hg44
      generalize hH2 : xup (xup H1 (b + 44) (aI 60 G)) (b + 45) (wob b k cb' (nI cc) bw.1 bw.2) = H2 at t1 t2
      have o45 : H2.1 (b + 45) = some (wob b k cb' (nI cc) bw.1 bw.2) := by rw [← hH2]; exact xup_at _
      have hw2 : hW H2 := by rw [← hH2]; exact (c6.up hgg).up (by rw [xup_ne _ (by omega)]; exact c8.1)
      have hxp := c5.g
      obtain ⟨f0, f1, f2, f3, f4, f5, f6, f7, f8, f9, f10, f11, f12, f13, f14⟩ := c5.g
      obtain ⟨f0', f1', f2', f3', f4', f5', f6', f7', f8', f9', f10', f11', f12', f13', f14'⟩ := t2.g
      obtain ⟨p10, p2, p6, p4, p5, p3, p9⟩ := c5.o
      have r5 : xgI H2 (some (b + 45)) 9 5 = some bw.1 := gI o45 rfl
      have r6 : xgI H2 (some (b + 45)) 9 6 = some bw.2 := gI o45 rfl
      have C1 : F_X11_win N (some b) (nI u) y H = some (if y = 0 then bw.1 else bw.2, H2) := by
        simp only [F_X11_win, hx0, if_false, g5, k2, e1W (bW β) (by omega), hxW, hy.1, y1, hy.2, not_false_iff, if_true, g12, g6, o9, c2, show ¬ (1 : Int32) = 0 by decide, f12, f11, p9, t1, f12', r5, r6, Option.bind_some, bd2_s]
        by_cases hy0 : y = 0
        · rw [if_pos hy0, if_pos hy0]
        · rw [if_neg hy0, if_neg hy0]
      have hF2 : wF b cb' H1 H2 := by rw [← hH2]; exact (wF.rf.up (by omega)).up (by omega)
      have hm1 : CM K m v β δ H1 := ⟨hm.1.wn hD hm36 c3.2, hm.2⟩
      have hm2 : CM K m v β δ H2 := ⟨hm1.1.wn c5.1 c7 hF2.2, hm.2⟩
      obtain ⟨v', H3, s1, s2⟩ := S_mWin (N := N) hN hm2 hu hy
      rw [hk] at s2
      rcases s2 with ⟨z, -⟩ | ⟨-, s2⟩
      · exact absurd c1 z
      · rw [hbw] at s2
        refine ⟨_, H2, H3, β, δ, C1, s2, ⟨⟨c, tc, tk, cb', n, nk, ncb', ad, t2.fr s1.fr⟩, h.1.2.1, hdd, ?_, ?_⟩, v', hm2.1.s s1, hm.2.1, hdd⟩
        · exact (hw2.up (e := mo m v') hm2.1.1.1).sc s1.2
        · rw [s1.2.1]
          show m + 36 ≤ H2.2.1
          rw [← hH2]; exact c7
  · have hno : F_X11_win N (some b) x y H = some (-1, H) := by
      simp only [F_X11_win, g5, k2, e1W (bW β) (by omega), y1, Option.bind_some, bd2_s]
      by_cases x0 : x < 0
      · rw [if_pos x0]
      · rw [if_neg x0]
        by_cases xW : nI (2 ^ bW β) ≤ x
        · rw [if_pos xW]
        · rw [if_neg xW]
          by_cases y0 : y < 0
          · rw [if_pos y0]
          · rw [if_neg y0, if_neg (fun z => hall ⟨x0, xW, y0, z⟩)]
    refine xStep.rd (r := -1) h hno ?_
    simp only [F_X12_win, S_in, v2, Option.bind_some, bd2_s]
    by_cases hy : ¬ y < 0 ∧ ¬ 1 < y
    · rw [bI_t hy, if_neg (by decide)]
      by_cases x0 : x < 0
      · rw [if_pos x0]
      · rw [if_neg x0]
        obtain ⟨u, hu31, rfl⟩ := nI_of x0
        have xW : nI (2 ^ bW β) ≤ nI u := Classical.byContradiction (fun z => hall ⟨x0, z, hy⟩)
        rw [nI_leI (show 2 ^ bW β < 2 ^ 31 by omega) hu31] at xW
        obtain ⟨-, e2⟩ := bitw (u := u) (w := bW β) hu31 (by omega)
        have hd : 0 < u / 2 ^ bW β := Nat.div_pos xW (Nat.pow_pos (by decide))
        have hd2 : u / 2 ^ bW β < 2 ^ 31 := Nat.lt_of_le_of_lt (Nat.div_le_self _ _) hu31
        rw [e2, if_neg (nI_nle hd hd2)]
    · rw [bI_f hy, if_pos rfl]
end Win7
