/-! PURE: STEP come. -/
theorem cb_or : ∀ cb, cb < 32 → ∀ th, th < 5 → nI cb ||| ((1 : Int32) <<< (nI th &&& 31)) = nI (cb ||| 2 ^ th) ∧ cb ||| 2 ^ th < 32 ∧ ∀ j, j < 5 → ((cb ||| 2 ^ th).testBit j = true ↔ cb.testBit j = true ∨ j = th) := by decide +kernel
theorem cb_un : ∀ cb, cb < 32 → ∀ th, th < 5 → ¬ cb.testBit th = true → nI (cb ||| 2 ^ th) &&& (((1 : Int32) <<< (nI th &&& 31)) ^^^ (-1 : Int32)) = nI cb := by decide +kernel
section Come
variable {stf : Nat → Nat} {N K b m : Nat} {β : sB} {δ : sD} {H : xH}
variable {c tc tk cb n nk ncb : Nat} {ad : Nat → Nat}
theorem mR.cm {v : Nat → Int32} (h : mR m v β δ H) {σ : sL} (hT : lT σ = lT (dL δ)) (hS : lS σ = lS (dL δ)) (hH : lH σ = lH (dL δ)) (hB : lB σ = lB (dL δ)) {cb' : Nat} {g' : Nat → Int32} (h32 : cb' < 32) (hb : ∀ j, j < 5 → (cb'.testBit j = true ↔ lC σ j ≠ 0)) (hg : ∀ j, j < 5 → lC σ j ≠ 0 → g' j = nI (lC σ j - 1)) : mR m (upd v 47 (nI cb')) β (σ, δ.2) (xup (xup H m (mo m (upd v 47 (nI cb')))) (m + 26) (aI 5 g')) := by
  obtain ⟨⟨h1, ⟨e0, e1, e2, e3, e41, e46⟩, -, h4, h5, h6, h7, h8⟩, ⟨⟨f1, f2, f3, f4, f5⟩, i2, i3, i4, i5, i6, i7, i8, i9, i10⟩⟩ := h
  have k : ∀ a, 1 ≤ a → a ≠ 26 → (xup (xup H m (mo m (upd v 47 (nI cb')))) (m + 26) (aI 5 g')).1 (m + a) = H.1 (m + a) := fun a a1 a2 => by rw [xup_ne _ (by omega), xup_ne _ (by omega)]
  refine ⟨?_, ?_⟩
  · unfold mCore
    rw [k 23 (by decide) (by decide), k 24 (by decide) (by decide), k 5 (by decide) (by decide), k 6 (by decide) (by decide)]
    refine ⟨by rw [xup_ne _ (by omega)]; exact xup_at _, ⟨?_, ?_, ?_, ?_, ?_, ?_⟩, ⟨cb', h32, pk_us, hb⟩, ⟨g', xup_at _, hg⟩, h5, h6, h7, h8⟩
    · rw [pk_un (by decide)]; exact e0
    · rw [pk_un (by decide)]; exact e1
    · rw [pk_un (by decide)]; exact e2
    · rw [pk_un (by decide)]; exact e3
    · rw [pk_un (by decide)]; exact e41
    · rw [pk_un (by decide)]; show v 46 = nI (lT σ); rw [hT]; exact e46
  · unfold mMore
    rw [k 1 (by decide) (by decide), k 2 (by decide) (by decide), k 12 (by decide) (by decide), k 13 (by decide) (by decide), k 14 (by decide) (by decide), k 20 (by decide) (by decide), k 28 (by decide) (by decide), k 29 (by decide) (by decide), k 34 (by decide) (by decide), k 35 (by decide) (by decide)]
    refine ⟨⟨?_, ?_, ?_, ?_, ?_⟩, i2, i3, i4, i5, ?_, ?_, i8, i9, ?_⟩
    · rw [pk_un (by decide)]; exact f1
    · rw [pk_un (by decide)]; exact f2
    · rw [pk_un (by decide)]; exact f3
    · rw [pk_un (by decide)]; show v 51 = lS σ; rw [hS]; exact f4
    · rw [pk_un (by decide)]; exact f5
    · show ∃ g, H.1 (m + 28) = some (aI 24 g) ∧ ∀ j, j < 24 → g j = lH σ j
      rw [hH]; exact i6
    · show ∃ g, H.1 (m + 29) = some (aI 6 g) ∧ ∀ j, j < 6 → g j = lB σ j
      rw [hB]; exact i7
    · obtain ⟨s1, s2, s3, s4, s5, s6, s7, s8, s9, s10, s11, s12, s13⟩ := i10
      refine ⟨fun a ha => ?_, fun a a1 a2 => ?_, fun a a1 a2 => ?_, ?_, ?_, ?_, ?_, ?_, ?_, ?_, ?_, ?_, ?_⟩
      · rw [k a (by omega) (by omega)]; exact s1 a ha
      · rw [k a (by omega) (by omega)]; exact s2 a a1 a2
      · rw [k a (by omega) (by omega)]; exact s3 a a1 a2
      · rw [k _ (by omega) (by omega)]; exact s4
      · rw [k _ (by omega) (by omega)]; exact s5
      · rw [k _ (by omega) (by omega)]; exact s6
      · rw [k _ (by omega) (by omega)]; exact s7
      · rw [k _ (by omega) (by omega)]; exact s8
      · rw [k _ (by omega) (by omega)]; exact s9
      · rw [k _ (by omega) (by omega)]; exact s10
      · rw [k _ (by omega) (by omega)]; exact s11
      · rw [k _ (by omega) (by omega)]; exact s12
      · rw [k _ (by omega) (by omega)]; exact s13
/-- the table isn't touched -/
theorem xTab.up {t : Nat} {σ : sL} {a : Nat} {e : xE} (h : xTab t tc tk n nk β σ H) (hne : t ≠ a ∧ tc ≠ a ∧ tk ≠ a ∧ t + 3 ≠ a ∧ t + 4 ≠ a) : xTab t tc tk n nk β σ (xup H a e) := by
  unfold xTab at h ⊢
  rw [xup_ne _ hne.1, xup_ne _ hne.2.1, xup_ne _ hne.2.2.1, xup_ne _ hne.2.2.2.1, xup_ne _ hne.2.2.2.2]
  exact h
/-- what the class's own readers of its parts give, ahead of mark -/
theorem RXo.pre (ho : RXo stf K b m c tc tk cb n nk ncb ad β δ H) {H1 : xH} {σ : sL} (hF : Fr (fun q => q = b + 15 ∨ q = tc ∨ q = b + 18 ∨ q = b + 19 ∨ (b + 20 ≤ q ∧ q ≤ b + 23)) H H1) (ht : xTab (b + 15) tc tk n nk β σ H1) : xgA H1 (some b) 10 6 = some (some (b + 15)) ∧ xgA H1 (some b) 10 7 = some (some (b + 20)) ∧ xob H1 (some (b + 15)) 6 = some (b + 15) ∧ xgA H1 (some b) 10 8 = some (some (b + 24)) ∧ xgI H1 (some b) 10 9 = some (nI (dI δ)) := by
  have hD := ho.1
  obtain ⟨d1, d2, ⟨d3, d4, d5⟩, -⟩ := id hD
  have e1 : H1.1 b = H.1 b := hF.2 b (by omega)
  obtain ⟨cert, t1, -⟩ := ht.1
  have := ho.2.1
  unfold xBB at this
  exact ⟨gA (e1.trans this) rfl, gA (e1.trans this) rfl, obx t1, gA (e1.trans this) rfl, gI (e1.trans this) rfl⟩
def lCm (l : sL) (th x : Nat) : sL := (lT l, lS l, fun j => if j = th then x else lC l j, lH l, lB l)
theorem T_come (hN : 59049 < N) (h : Rel stf K b m β δ H) (x : Int32) : xStep stf K b m (F_X11_come N (some b) x) (F_X12_come N (some m) x) H := by
  obtain ⟨⟨⟨c, tc, tk, cb, n, nk, ncb, ad, ho⟩, -⟩, v, hm⟩ := id h
  obtain ⟨g0, g1, g2, g3, g4, g5, g6, g7, g8, g9, g10, g11, g12, g13, g14⟩ := ho.g
  obtain ⟨o10, o2, o6, o4, o5, o3, o9⟩ := ho.o
  obtain ⟨k0, k1, k2, k4, k6, k7, k12⟩ := ho.k
  have q := hm.mq
  have qo := q.ob
  have qz := q.z
  obtain ⟨v0, v1, v2, v3, v46, t5, t6, t12⟩ := q.ac
  obtain ⟨l0, l1, l2, l3, l4⟩ := ho.l
  have hT := q.2.2.1
  have h8 := q.2.2.2
  rcases ix3 x (show bT β < 2 ^ 31 by omega) with hx | ⟨th, hth, rfl⟩
  · exact xStep.rd (r := -1) h (by simp only [F_X11_come, g5, o2, S_hTO ho hx, if_true, Option.bind_some, bd2_s]) (by simp only [F_X12_come, qo, S_mTO q hx, if_true, Option.bind_some, bd2_s])
  have hth5 : th < 5 := by omega
  obtain ⟨hl1, ⟨gc, hl2, hl2'⟩, hl3, hl4⟩ := ho.2.2.2.2.2.2.1
  have ht := ho.2.2.2.2.2.1
  have hD := ho.1
  obtain ⟨d1, d2, ⟨d3, d4, d5⟩, ⟨d6, d7, d8⟩, -⟩ := id hD
  have h8t := h8 th
  obtain ⟨cb0, cb1, cb2, cb3⟩ := hm.1.1.2.2.1
  have v47 : xgI H (some m) 11 47 = some (nI cb0) := (gI hm.1.1.1 mi47).trans (by rw [cb2])
  by_cases hc : lC (dL δ) th = 0
  · have hbit : ¬ cb0.testBit th = true := fun z => (cb3 th hth5).mp z hc
    have hne : ∀ a, b + 20 ≤ a ∧ a ≤ b + 23 → b + 15 ≠ a ∧ tc ≠ a ∧ tk ≠ a ∧ b + 15 + 3 ≠ a ∧ b + 15 + 4 ≠ a := fun a ha => by omega
    have hread : F_X11_at N (some (b + 20 + 1)) (nI th) H = some (0, H) := by
      rw [S_at hl2 (by decide : 5 < 2 ^ 31), gat_nI (show th < 2 ^ 31 by omega), if_pos hth5, hl2' th hth5, hc]; rfl
    -- the class
    generalize hH1 : xup H (b + 20 + 1) (aI 5 (upd gc th (nI (lT (dL δ) + 1)))) = H1
    have hs1 : F_X11_set N (some (b + 20 + 1)) (nI th) (nI (lT (dL δ) + 1)) H = some H1 := by rw [S_set hl2 hth5 (by decide), hH1]
    have hL1 : xLed (b + 20) (lCm (dL δ) th (lT (dL δ) + 1)) H1 := by
      rw [← hH1]
      refine ⟨by rw [xup_ne _ (by omega)]; exact hl1, ⟨_, xup_at _, fun j hj => ?_⟩, by rw [xup_ne _ (by omega)]; exact hl3, by rw [xup_ne _ (by omega)]; exact hl4⟩
      show upd gc th (nI (lT (dL δ) + 1)) j = nI (if j = th then lT (dL δ) + 1 else lC (dL δ) j)
      by_cases e : j = th
      · rw [e, pk_us, if_pos rfl]
      · rw [pk_un e, if_neg e]; exact hl2' j hj
    have hT1 : xTab (b + 15) tc tk n nk β (dL δ) H1 := by rw [← hH1]; exact ht.up (hne _ (by omega))
    have hF1 : Fr (fun q => q = b + 15 ∨ q = tc ∨ q = b + 18 ∨ q = b + 19 ∨ (b + 20 ≤ q ∧ q ≤ b + 23)) H H1 := by rw [← hH1]; exact Fr.up (by omega)
    have h8' : ∀ j, lC (lCm (dL δ) th (lT (dL δ) + 1)) j ≤ 8 := fun j => by
      show (if j = th then lT (dL δ) + 1 else lC (dL δ) j) ≤ 8
      split
      · omega
      · exact h8 j
    obtain ⟨H2, a1, a2, a3, a4, a5⟩ := ho.mk hN hm.2.1 (σ := lCm (dL δ) th (lT (dL δ) + 1)) hT h8' hF1 hT1 hL1
    obtain ⟨f0, f1, f2, f3, f4, f5, f6, f7, f8, f9, f10, f11, f12, f13, f14⟩ := a2.g
    obtain ⟨_, _, _, _, _, _, u0, u1, u2, u3, u4⟩ := a2.t
    obtain ⟨r0, r1, r2, r3, r4⟩ := a2.l
    have gg1 := ho.pre hF1 hT1
    generalize hC : cnt (lft β (lCm (dL δ) th (lT (dL δ) + 1))) (bZ β) = C at a1 u3
    have hCz : C < 2 ^ 31 := by rw [← hC]; exact Nat.lt_of_le_of_lt (cnt_le _ _) (by omega)
    have u3' : xgI H2 (some (b + 15)) 6 3 = some (nI C) := by rw [← hC]; exact u3
    -- the reference: what it lays
    obtain ⟨o1, o2', o3'⟩ := cb_or cb0 cb1 th hth5
    have hb' : ∀ j, j < 5 → ((cb0 ||| 2 ^ th).testBit j = true ↔ lC (lCm (dL δ) th (lT (dL δ) + 1)) j ≠ 0) := fun j hj => by
      rw [o3' j hj]
      show _ ↔ (if j = th then lT (dL δ) + 1 else lC (dL δ) j) ≠ 0
      by_cases e : j = th
      · rw [if_pos e]; exact ⟨fun _ => by omega, fun _ => Or.inr e⟩
      · rw [if_neg e, ← cb3 j hj]; exact ⟨fun z => z.resolve_right e, fun z => Or.inl z⟩
    have hin : bI (((nI cb0 >>> (nI th &&& 31)) &&& 1) = 1) = 0 := bI_f (fun z => hbit ((bit_tb cb0 cb1 th hth5).mp z))
    rcases Nat.eq_zero_or_pos C with hc0 | hc0
    · obtain ⟨hl1', ⟨gc2, hl22, hl23⟩, hl32, hl42⟩ := a5
      generalize hH3 : xup H2 (b + 20 + 1) (aI 5 (upd gc2 th 0)) = H3
      have hs2 : F_X11_set N (some (b + 20 + 1)) (nI th) 0 H2 = some H3 := by rw [S_set hl22 hth5 (by decide), hH3]
      have hL3 : xLed (b + 20) (dL δ) H3 := by
        rw [← hH3]
        refine ⟨by rw [xup_ne _ (by omega)]; exact hl1', ⟨_, xup_at _, fun j hj => ?_⟩, by rw [xup_ne _ (by omega)]; exact hl32, by rw [xup_ne _ (by omega)]; exact hl42⟩
        by_cases e : j = th
        · rw [e, pk_us, hc]; rfl
        · rw [pk_un e, hl23 j hj]
          show nI (if j = th then lT (dL δ) + 1 else lC (dL δ) j) = _
          rw [if_neg e]
      have hT3 : xTab (b + 15) tc tk n nk β (lCm (dL δ) th (lT (dL δ) + 1)) H3 := by rw [← hH3]; exact a4.up (hne _ (by omega))
      have hF3 : Fr (fun q => q = b + 15 ∨ q = tc ∨ q = b + 18 ∨ q = b + 19 ∨ (b + 20 ≤ q ∧ q ≤ b + 23)) H H3 := a3.tr (by rw [← hH3]; exact Fr.up (by omega))
      obtain ⟨H4, b1, b2, b3, b4, b5⟩ := ho.mk hN hm.2.1 (σ := dL δ) hT h8 hF3 hT3 hL3
      have gg3 := ho.pre hF3 hT3
      have C1 : F_X11_come N (some b) (nI th) H = some (-1, H4) := by
        simp only [F_X11_come, g5, o2, S_hTI ho t5 hth, show ¬ (1 : Int32) = 0 by decide, if_false, g7, l2, hread, if_true, l0, nI_1, hs1, gg1.1, gg1.2.1, gg1.2.2.1, a1, hc0, show nI 0 ≤ 0 from by decide, f7, r2, hs2, gg3.1, gg3.2.1, gg3.2.2.1, b1, Option.bind_some, bd2_s]
      have hm4 : mR m v β δ H4 := hm.1.l hD b3
      have q4 : mQ m v β (dL δ) H4 := (show CM K m v β δ H4 from ⟨hm4, hm.2⟩).mq
      obtain ⟨gm, gm1, gm2⟩ := hm4.1.2.2.2.1
      have ob4 := q4.1.1
      have mR5 := hm4.cm (σ := lCm (dL δ) th (lT (dL δ) + 1)) rfl rfl rfl rfl (cb' := cb0 ||| 2 ^ th) (g' := upd gm th (nI (lT (dL δ)))) o2' hb' (fun j hj hne0 => by
        have hne1 : (if j = th then lT (dL δ) + 1 else lC (dL δ) j) ≠ 0 := hne0
        show _ = nI ((if j = th then lT (dL δ) + 1 else lC (dL δ) j) - 1)
        by_cases e : j = th
        · rw [e, pk_us, if_pos rfl, Nat.add_sub_cancel]
        · rw [if_neg e] at hne1 ⊢
          rw [pk_un e]; exact gm2 j hj hne1)
      have hq5 : mQ m (upd v 47 (nI (cb0 ||| 2 ^ th))) β (lCm (dL δ) th (lT (dL δ) + 1)) (xup (xup H4 m (mo m (upd v 47 (nI (cb0 ||| 2 ^ th))))) (m + 26) (aI 5 (upd gm th (nI (lT (dL δ)))))) := ⟨mR5.1, hm.2.1, hT, h8'⟩
      have mR6 := hm4.cm (σ := dL δ) rfl rfl rfl rfl (cb' := cb0) (g' := upd gm th (nI (lT (dL δ)))) cb1 cb3 (fun j hj hne0 => by
        by_cases e : j = th
        · rw [e] at hne0; exact absurd hc hne0
        · rw [pk_un e]; exact gm2 j hj hne0)
      have e47 : upd v 47 (nI cb0) = v := by rw [← cb2, upd_id]
      rw [e47] at mR6
      refine ⟨-1, H4, _, β, δ, C1, ?_, h.mkl ho (hm.2.2.1.up (Nat.le_succ K)) b3 b2 (((Fr.up (by omega)).tr (Fr.up (by omega))) : Fr (fun q => m ≤ q ∧ q < m + 36) H4 (xup (xup H4 m (mo m v)) (m + 26) (aI 5 (upd gm th (nI (lT (dL δ))))))) hm4.ex mR6⟩
      have ob5 : ∀ w, (xup H4 m (mo m w)).1 m = some (mo m w) := fun w => xup_at _
      have v47' : xgI H4 (some m) 11 47 = some (nI cb0) := (gI ob4 mi47).trans (by rw [cb2])
      have gm1' : ∀ w, (xup H4 m (mo m w)).1 (m + 26) = some (aI 5 gm) := fun w => by rw [xup_ne _ (by omega)]; exact gm1
      have v46' : xgI (xup H4 m (mo m (upd v 47 (nI (cb0 ||| 2 ^ th))))) (some m) 11 46 = some (nI (lT (dL δ))) := (gI (ob5 _) mi46).trans (by rw [pk_un (by decide), q4.1.2.1.2.2.2.2.2])
      have v47'' : xgI (xup (xup H4 m (mo m (upd v 47 (nI (cb0 ||| 2 ^ th))))) (m + 26) (aI 5 (upd gm th (nI (lT (dL δ)))))) (some m) 11 47 = some (nI (cb0 ||| 2 ^ th)) := (gI hq5.1.1 mi47).trans (by rw [pk_us])
      have fin : xup (xup (xup H4 m (mo m (upd v 47 (nI (cb0 ||| 2 ^ th))))) (m + 26) (aI 5 (upd gm th (nI (lT (dL δ)))))) m (mo m v) = xup (xup H4 m (mo m v)) (m + 26) (aI 5 (upd gm th (nI (lT (dL δ))))) := by
        rw [xup_cm (show m + 26 ≠ m by omega), xup_up]
      have e47b : upd (upd v 47 (nI (cb0 ||| 2 ^ th))) 47 (nI cb0) = v := by rw [upd_upd, e47]
      simp only [F_X12_come, q4.ob, S_mTI q4 hth, show ¬ (1 : Int32) = 0 by decide, if_false, v47', S_bit, hin, if_true, o1, mpI ob4 (by decide : 47 < 64) (nI (cb0 ||| 2 ^ th)) ms47, gA (ob5 _) ma48, v46', stI (gm1' _) hth5 (by decide), vnI, hq5.ob, S_mMany hq5 hN, hC, hc0, show nI 0 ≤ 0 from by decide, v47'', cb_un cb0 cb1 th hth5 hbit, mpI hq5.1.1 (by decide : 47 < 64) (nI cb0) ms47, e47b, fin, Option.bind_some, bd2_s]
    · have hne0 : ¬ nI C ≤ 0 := nI_nle hc0 hCz
      have C1 : F_X11_come N (some b) (nI th) H = some (nI C, H2) := by
        simp only [F_X11_come, g5, o2, S_hTI ho t5 hth, show ¬ (1 : Int32) = 0 by decide, if_false, g7, l2, hread, if_true, l0, nI_1, hs1, gg1.1, gg1.2.1, gg1.2.2.1, a1, hne0, f6, u3', Option.bind_some, bd2_s]
      have hm4 : mR m v β δ H2 := hm.1.l hD a3
      have q4 : mQ m v β (dL δ) H2 := (show CM K m v β δ H2 from ⟨hm4, hm.2⟩).mq
      obtain ⟨gm, gm1, gm2⟩ := hm4.1.2.2.2.1
      have ob4 := q4.1.1
      have mR5 := hm4.cm (σ := lCm (dL δ) th (lT (dL δ) + 1)) rfl rfl rfl rfl (cb' := cb0 ||| 2 ^ th) (g' := upd gm th (nI (lT (dL δ)))) o2' hb' (fun j hj hne0 => by
        have hne1 : (if j = th then lT (dL δ) + 1 else lC (dL δ) j) ≠ 0 := hne0
        show _ = nI ((if j = th then lT (dL δ) + 1 else lC (dL δ) j) - 1)
        by_cases e : j = th
        · rw [e, pk_us, if_pos rfl, Nat.add_sub_cancel]
        · rw [if_neg e] at hne1 ⊢
          rw [pk_un e]; exact gm2 j hj hne1)
      have hq5 : mQ m (upd v 47 (nI (cb0 ||| 2 ^ th))) β (lCm (dL δ) th (lT (dL δ) + 1)) (xup (xup H2 m (mo m (upd v 47 (nI (cb0 ||| 2 ^ th))))) (m + 26) (aI 5 (upd gm th (nI (lT (dL δ)))))) := ⟨mR5.1, hm.2.1, hT, h8'⟩
      have ob5 : ∀ w, (xup H2 m (mo m w)).1 m = some (mo m w) := fun w => xup_at _
      have v47' : xgI H2 (some m) 11 47 = some (nI cb0) := (gI ob4 mi47).trans (by rw [cb2])
      have gm1' : ∀ w, (xup H2 m (mo m w)).1 (m + 26) = some (aI 5 gm) := fun w => by rw [xup_ne _ (by omega)]; exact gm1
      have v46' : xgI (xup H2 m (mo m (upd v 47 (nI (cb0 ||| 2 ^ th))))) (some m) 11 46 = some (nI (lT (dL δ))) := (gI (ob5 _) mi46).trans (by rw [pk_un (by decide), q4.1.2.1.2.2.2.2.2])
      refine ⟨_, H2, _, β, (lCm (dL δ) th (lT (dL δ) + 1), δ.2), C1, ?_, h.mkl ho ⟨⟨hT, h8', cnt_pos.mp (by rw [hC]; exact hc0)⟩, (hm.2.2.1.up (Nat.le_succ K)).2⟩ a3 a2 ((Fr.up (by omega)).tr (Fr.up (by omega))) hm4.ex mR5⟩
      simp only [F_X12_come, q4.ob, S_mTI q4 hth, show ¬ (1 : Int32) = 0 by decide, if_false, v47', S_bit, hin, if_true, o1, mpI ob4 (by decide : 47 < 64) (nI (cb0 ||| 2 ^ th)) ms47, gA (ob5 _) ma48, v46', stI (gm1' _) hth5 (by decide), vnI, hq5.ob, S_mMany hq5 hN, hC, hne0, Option.bind_some, bd2_s]
  · have hin : bI (((nI cb0 >>> (nI th &&& 31)) &&& 1) = 1) = 1 := bI_t ((bit_tb cb0 cb1 th hth5).mpr ((cb3 th hth5).mpr hc))
    have hread : F_X11_at N (some (b + 20 + 1)) (nI th) H = some (nI (lC (dL δ) th), H) := by
      rw [S_at hl2 (by decide : 5 < 2 ^ 31), gat_nI (show th < 2 ^ 31 by omega), if_pos hth5, hl2' th hth5]
    have hn0 : ¬ nI (lC (dL δ) th) = 0 := nI_ne0 (by omega) (by omega)
    refine xStep.rd (r := -1) h ?_ ?_
    · simp only [F_X11_come, g5, o2, S_hTI ho t5 hth, show ¬ (1 : Int32) = 0 by decide, if_false, g7, l2, hread, hn0, Option.bind_some, bd2_s]
    · simp only [F_X12_come, qo, S_mTI q hth, v47, S_bit, hin, show ¬ (1 : Int32) = 0 by decide, if_false, Option.bind_some, bd2_s]
end Come
