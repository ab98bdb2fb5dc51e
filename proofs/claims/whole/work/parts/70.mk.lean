/-! PURE: mark, for a ledger; STEPS day, come. -/
theorem hW.fr {S : Nat → Prop} {H H' : xH} (h : hW H) (hF : Fr S H H') (hS : ∀ a, S a → ∃ e, H.1 a = some e) : hW H' := fun a e he => by
  rw [hF.1]
  by_cases q : S a
  · obtain ⟨e', h'⟩ := hS a q
    exact h a e' h'
  · rw [hF.2 a q] at he
    exact h a e he
section Mk
variable {stf : Nat → Nat} {N K b m : Nat} {β : sB} {δ : sD} {H : xH}
variable {c tc tk cb n nk ncb : Nat} {ad : Nat → Nat}
theorem S_mk (hN : 59049 < N) (hB : bOk β) {t l : Nat} {σ0 σ : sL} (h7 : lT σ ≤ 7) (h8 : ∀ j, lC σ j ≤ 8) (hlt : l + 1 ≠ t + 4) (ht : xTab t tc tk n nk β σ0 H) (hl : xLed l σ H) : ∃ H', F_X6_mark N (some t) (some l) H = some (nI (cnt (lft β σ) (bZ β)), H') ∧ xTab t tc tk n nk β σ H' ∧ Fr (fun q => q = t ∨ q = tc ∨ q = t + 3 ∨ q = t + 4) H H' := by
  have hz := bZ_le hB.1
  obtain ⟨⟨cert, h1, c1, c2⟩, ⟨cl, h2, h3⟩, h4, h5, ⟨gk, h6⟩, hk7, hk8, ⟨g3, h9⟩, ⟨g4, h10⟩⟩ := ht
  obtain ⟨l1, ⟨gc, l2, l3⟩, -, -⟩ := hl
  obtain ⟨H', g', al', m1, m2, m3, m4, m5, m6⟩ := S_mark (N := N) (fs := [.int (nI (bT β)), .int (nI (bZ β)), .int (nI (cnt (bps β) (bZ β))), .int (nI (cnt (lft β σ0) (bZ β))), .long cert, va_rf (some tc), va_rf (some tk), va_rf (some (t + 3)), va_rf (some (t + 4))]) (T := bT β) (s := bZ β) (today := nI (lT σ)) (cm := gc) hB.1 (show n < 2 ^ 31 by omega) h4 rfl rfl rfl rfl rfl (show (8 : Nat) < 9 by decide) rfl rfl hlt (by omega) (by omega) (by omega) h1 h2 h9 h10 l1 l2
  have hA : (fun k => bps β k ∧ alw (bT β) (alf (bT β) (nI (lT σ)) gc) k) = lft β σ := funext fun k => propext (alw_lft hB.1 h7 h8 l3 k)
  have hAk : ∀ k, (bps β k ∧ alw (bT β) (alf (bT β) (nI (lT σ)) gc) k) = lft β σ k := fun k => congrFun hA k
  have hcnt : lfc cl (alw (bT β) (alf (bT β) (nI (lT σ)) gc)) (bZ β) = cnt (lft β σ) (bZ β) := by
    rw [lfc_cnt]
    refine cnt_congr (fun k hk => ?_)
    rw [(nc_cv (h3 k hk)).1, hAk]
  rw [hcnt] at m1 m2
  refine ⟨H', m1, ⟨⟨_, m2, fun w hw => ⟨fun o hW hs => ?_, fun hno => ?_⟩, ?_⟩, ⟨_, m3, fun k hk => ?_⟩, h4, h5, ⟨gk, ?_⟩, hk7, hk8, ⟨g', m4⟩, ⟨al', m5⟩⟩, m6⟩
  · rw [← hA] at hs
    exact (cert_d5 h3 (fun k hk => hB.2.2.2.1 k hk) (fun w k => hB.2.2.2.2.1 w k) hw hW).1 o hs
  · by_cases hW : w < bW β
    · have h' := hno hW
      rw [← hA] at h'
      exact (cert_d5 h3 (fun k hk => hB.2.2.2.1 k hk) (fun w k => hB.2.2.2.2.1 w k) hw hW).2 h'
    · exact cert_no h3 hw hW
  · rw [sgl_d5 _ 12 (Nat.le_refl 12), if_neg (fun z => absurd z.1 (by decide))]
  · rw [if_pos hk, ← hAk]
    exact (nc_cv (h3 k hk)).2
  · rw [m6.2 tk (fun z => ?_)]
    · exact h6
    · rcases z with z | z | z | z
      · rw [z] at h6; rw [h1] at h6; cases h6
      · rw [z] at h6; rw [h2] at h6; cases h6
      · rw [z] at h6; rw [h9] at h6; cases h6
      · rw [z] at h6; rw [h10] at h6; cases h6
/-- the class's state with another ledger -/
theorem RXo.led (h : RXo stf K b m c tc tk cb n nk ncb ad β δ H) {H' : xH} {σ : sL} (hF : Fr (fun q => q = b + 15 ∨ q = tc ∨ q = b + 18 ∨ q = b + 19 ∨ (b + 20 ≤ q ∧ q ≤ b + 23)) H H') (ht : xTab (b + 15) tc tk n nk β σ H') (hl : xLed (b + 20) σ H') : RXo stf K b m c tc tk cb n nk ncb ad β (σ, δ.2) H' := by
  obtain ⟨hD, h1, h2, h3, h4, h5, h6, h7, h8, h9, h10, h11, h12, h13⟩ := h
  have hD' := hD
  obtain ⟨d1, d2, ⟨d3, d4, d5⟩, ⟨d6, d7, d8⟩, ⟨d9, d10, d11⟩, ⟨d12, d13, d14⟩, d15⟩ := hD
  have k : ∀ a, ¬ (a = b + 15 ∨ a = tc ∨ a = b + 18 ∨ a = b + 19 ∨ (b + 20 ≤ a ∧ a ≤ b + 23)) → H'.1 a = H.1 a := fun a ha => hF.2 a ha
  refine ⟨hD', (h1.fr (k b (by omega)) : xBB b c δ H'), (h2.fr (k _ (by omega)) : xTape b δ H'), h3.fr (fun a a1 a2 => k a (by omega)), h4.fr (fun a a1 a2 => k a (by omega)) (fun w hw => k _ (by have := d15 w hw; unfold oM at *; omega)), ht, hl, (h7.fr (fun a a1 a2 => k a (by omega)) : xImgs b δ H'), (h8.fr (fun a ha => k a (by omega)) : xOdds b δ H'), ?_, ?_, ?_, h12.fr (by rw [hF.1]) (fun a ha => k a (by omega)), ?_⟩
  · unfold xGain
    rw [k _ (by omega), k _ (by omega)]; exact h9
  · unfold xWin
    rw [k _ (by omega), k _ (by omega), k _ (by omega), k cb (by omega)]; exact h10
  · unfold xOG
    rw [k _ (by omega), k _ (by omega)]; exact h11
  · unfold Rm
    rw [hF.1]; exact h13
theorem RXo.exl (h : RXo stf K b m c tc tk cb n nk ncb ad β δ H) : ∀ a, (a = b + 15 ∨ a = tc ∨ a = b + 18 ∨ a = b + 19 ∨ (b + 20 ≤ a ∧ a ≤ b + 23)) → ∃ e, H.1 a = some e := by
  obtain ⟨hD, h1, h2, h3, h4, ⟨⟨cert, t1, -⟩, ⟨cl, t2, -⟩, -, -, -, -, -, ⟨g3, t3⟩, ⟨g4, t4⟩⟩, ⟨l1, ⟨gc, l2, -⟩, ⟨gh, l3, -⟩, ⟨gb, l4, -⟩⟩, -⟩ := h
  intro a ha
  have : a = b + 15 ∨ a = tc ∨ a = b + 18 ∨ a = b + 19 ∨ a = b + 20 ∨ a = b + 21 ∨ a = b + 22 ∨ a = b + 23 := by omega
  rcases this with rfl | rfl | rfl | rfl | rfl | rfl | rfl | rfl
  · exact ⟨_, t1⟩
  · exact ⟨_, t2⟩
  · exact ⟨_, t3⟩
  · exact ⟨_, t4⟩
  · exact ⟨_, l1⟩
  · exact ⟨_, l2⟩
  · exact ⟨_, l3⟩
  · exact ⟨_, l4⟩
/-- the class's ledger is another, the table marked for it: mark, and what then is -/
theorem RXo.mk (hN : 59049 < N) (h : RXo stf K b m c tc tk cb n nk ncb ad β δ H) (hB : bOk β) {H1 : xH} {σ σ0 : sL} (h7 : lT σ ≤ 7) (h8 : ∀ j, lC σ j ≤ 8) (hF : Fr (fun q => q = b + 15 ∨ q = tc ∨ q = b + 18 ∨ q = b + 19 ∨ (b + 20 ≤ q ∧ q ≤ b + 23)) H H1) (ht : xTab (b + 15) tc tk n nk β σ0 H1) (hl : xLed (b + 20) σ H1) : ∃ H2, F_X6_mark N (some (b + 15)) (some (b + 20)) H1 = some (nI (cnt (lft β σ) (bZ β)), H2) ∧ RXo stf K b m c tc tk cb n nk ncb ad β (σ, δ.2) H2 ∧ Fr (fun q => q = b + 15 ∨ q = tc ∨ q = b + 18 ∨ q = b + 19 ∨ (b + 20 ≤ q ∧ q ≤ b + 23)) H H2 ∧ xTab (b + 15) tc tk n nk β σ H2 ∧ xLed (b + 20) σ H2 := by
  obtain ⟨H2, m1, m2, m3⟩ := S_mk (N := N) hN hB h7 h8 (show b + 20 + 1 ≠ b + 15 + 4 by omega) ht hl
  have hD := h.1
  obtain ⟨d1, d2, ⟨d3, d4, d5⟩, ⟨d6, d7, d8⟩, ⟨d9, d10, d11⟩, ⟨d12, d13, d14⟩, d15⟩ := hD
  have hF2 := hF.tr (m3.mono (fun q hq => by omega))
  have hl2 : xLed (b + 20) σ H2 := hl.fr (fun a a1 a2 => m3.2 a (by omega))
  exact ⟨H2, m1, h.led hF2 m2 hl2, hF2, m2, hl2⟩
/-- what is done to the table and the ledger leaves the reference -/
theorem mR.l {v : Nat → Int32} (hD : DX b m c tc tk cb ad β) {H1 : xH} (hF : Fr (fun q => q = b + 15 ∨ q = tc ∨ q = b + 18 ∨ q = b + 19 ∨ (b + 20 ≤ q ∧ q ≤ b + 23)) H H1) (h : mR m v β δ H) : mR m v β δ H1 := by
  obtain ⟨d1, d2, ⟨d3, d4, d5⟩, -⟩ := hD
  exact h.fr (fun a a1 a2 => hF.2 a (by unfold oM at d4; omega))
/-- both sides with another ledger -/
theorem Rel.mkl (h : Rel stf K b m β δ H) (ho : RXo stf K b m c tc tk cb n nk ncb ad β δ H) {H1 H2 : xH} {v : Nat → Int32} {σ : sL} (hl : lOkK (K + 1) β σ) (hF : Fr (fun q => q = b + 15 ∨ q = tc ∨ q = b + 18 ∨ q = b + 19 ∨ (b + 20 ≤ q ∧ q ≤ b + 23)) H H1) (hr : RXo stf K b m c tc tk cb n nk ncb ad β (σ, δ.2) H1) (hF2 : Fr (fun q => m ≤ q ∧ q < m + 36) H1 H2) (hex : ∀ q, m ≤ q → q < m + 36 → ∃ e, H1.1 q = some e) (hm : mR m v β (σ, δ.2) H2) : Rel stf (K + 1) b m β (σ, δ.2) H2 := by
  have hB := h.1.2.1
  have hd : dOk (K + 1) β (σ, δ.2) := ⟨hl, fun k hk => (h.1.2.2.1.2.1 k hk).up (Nat.le_succ K), h.1.2.2.1.2.2⟩
  refine ⟨⟨⟨c, tc, tk, cb, n, nk, ncb, ad, (hr.fr hF2).up (Nat.le_succ K)⟩, hB, hd, ?_, ?_⟩, v, hm, hB, hd⟩
  · exact (h.1.2.2.2.1.fr hF ho.exl).fr hF2 (fun a ha => hex a ha.1 ha.2)
  · rw [hF2.1, hF.1]; exact h.1.2.2.2.2
/-- the reference's cells are there -/
theorem mR.ex {v : Nat → Int32} (h : mR m v β δ H) : ∀ q, m ≤ q → q < m + 36 → ∃ e, H.1 q = some e := by
  obtain ⟨⟨c1, -, -, ⟨c4, c5, -⟩, ⟨c6, c7, -⟩, ⟨c8, c9, -⟩, ⟨c10, c11, -⟩, ⟨c12, c13, -⟩⟩, -, ⟨m1, n1, -⟩, ⟨m2, n2, -⟩, ⟨m12, m13, m14, n12, n13, n14, -⟩, ⟨m20, n20, -⟩, ⟨m28, n28, -⟩, ⟨m29, n29, -⟩, ⟨m34, n34, -⟩, ⟨m35, n35, -⟩, s1, s2, s3, ⟨s18, t18⟩, ⟨s19, t19⟩, ⟨s21, t21⟩, ⟨s22, t22⟩, ⟨s25, t25⟩, ⟨s27, t27⟩, ⟨s30, t30⟩, ⟨s31, t31, -⟩, ⟨s32, t32⟩, ⟨s33, t33⟩⟩ := h
  intro q h1 h2
  obtain ⟨a, rfl⟩ : ∃ a, q = m + a := ⟨q - m, by omega⟩
  have e24 : ∀ a, a = 3 ∨ a = 4 ∨ a = 11 → ∃ e, H.1 (m + a) = some e := fun a ha => by obtain ⟨g, hg⟩ := s1 a ha; exact ⟨_, hg⟩
  have e80 : ∀ a, 7 ≤ a → a ≤ 10 → ∃ e, H.1 (m + a) = some e := fun a a1 a2 => by obtain ⟨g, hg⟩ := s2 a a1 a2; exact ⟨_, hg⟩
  have e14 : ∀ a, 15 ≤ a → a ≤ 17 → ∃ e, H.1 (m + a) = some e := fun a a1 a2 => by obtain ⟨g, hg⟩ := s3 a a1 a2; exact ⟨_, hg⟩
  have : a < 36 := by omega
  match a, this with
  | 0, _ => exact ⟨_, c1⟩
  | 1, _ => exact ⟨_, n1⟩
  | 2, _ => exact ⟨_, n2⟩
  | 3, _ => exact e24 3 (by decide)
  | 4, _ => exact e24 4 (by decide)
  | 5, _ => exact ⟨_, c11⟩
  | 6, _ => exact ⟨_, c13⟩
  | 7, _ => exact e80 7 (by decide) (by decide)
  | 8, _ => exact e80 8 (by decide) (by decide)
  | 9, _ => exact e80 9 (by decide) (by decide)
  | 10, _ => exact e80 10 (by decide) (by decide)
  | 11, _ => exact e24 11 (by decide)
  | 12, _ => exact ⟨_, n12⟩
  | 13, _ => exact ⟨_, n13⟩
  | 14, _ => exact ⟨_, n14⟩
  | 15, _ => exact e14 15 (by decide) (by decide)
  | 16, _ => exact e14 16 (by decide) (by decide)
  | 17, _ => exact e14 17 (by decide) (by decide)
  | 18, _ => exact ⟨_, t18⟩
  | 19, _ => exact ⟨_, t19⟩
  | 20, _ => exact ⟨_, n20⟩
  | 21, _ => exact ⟨_, t21⟩
  | 22, _ => exact ⟨_, t22⟩
  | 23, _ => exact ⟨_, c7⟩
  | 24, _ => exact ⟨_, c9⟩
  | 25, _ => exact ⟨_, t25⟩
  | 26, _ => exact ⟨_, c5⟩
  | 27, _ => exact ⟨_, t27⟩
  | 28, _ => exact ⟨_, n28⟩
  | 29, _ => exact ⟨_, n29⟩
  | 30, _ => exact ⟨_, t30⟩
  | 31, _ => exact ⟨_, t31⟩
  | 32, _ => exact ⟨_, t32⟩
  | 33, _ => exact ⟨_, t33⟩
  | 34, _ => exact ⟨_, n34⟩
  | 35, _ => exact ⟨_, n35⟩
  | a + 36, h => omega
/-- a field of the reference that only the ledger tells -/
theorem mR.fd {v : Nat → Int32} (h : mR m v β δ H) {j : Nat} {x : Int32} (hj : j = 46 ∨ j = 47 ∨ j = 51) {σ : sL} (hcore : mCore m (upd v j x) β σ (xup H m (mo m (upd v j x)))) (hS : j ≠ 51 → lS σ = lS (dL δ)) (hS2 : j = 51 → lS σ = x) (hH : lH σ = lH (dL δ)) (hBl : lB σ = lB (dL δ)) : mR m (upd v j x) β (σ, δ.2) (xup H m (mo m (upd v j x))) := by
  refine ⟨hcore, ?_⟩
  obtain ⟨⟨e1, e2, e3, e4, e5⟩, h2, h3, h4, h5, h6, h7, h8, h9, h10⟩ := h.2
  have k : ∀ a, 1 ≤ a → a < 36 → (xup H m (mo m (upd v j x))).1 (m + a) = H.1 (m + a) := fun a a1 a2 => xup_ne _ (by omega)
  unfold mMore
  rw [k 1 (by omega) (by omega), k 2 (by omega) (by omega), k 12 (by omega) (by omega), k 13 (by omega) (by omega), k 14 (by omega) (by omega), k 20 (by omega) (by omega), k 28 (by omega) (by omega), k 29 (by omega) (by omega), k 34 (by omega) (by omega), k 35 (by omega) (by omega)]
  refine ⟨⟨?_, ?_, ?_, ?_, ?_⟩, h2, h3, h4, h5, ?_, ?_, h8, h9, h10.fr k⟩
  · rw [pk_un (by omega)]; exact e1
  · rw [pk_un (by omega)]; exact e2
  · rw [pk_un (by omega)]; exact e3
  · show upd v j x 51 = lS σ
    by_cases q : j = 51
    · rw [hS2 q, q, pk_us]
    · rw [hS q, pk_un (fun e => q e.symm)]; exact e4
  · rw [pk_un (by omega)]; exact e5
  · show ∃ g, H.1 (m + 28) = some (aI 24 g) ∧ ∀ j, j < 24 → g j = lH σ j
    rw [hH]; exact h6
  · show ∃ g, H.1 (m + 29) = some (aI 6 g) ∧ ∀ j, j < 6 → g j = lB σ j
    rw [hBl]; exact h7
theorem mCore.f46 {v : Nat → Int32} {l : sL} (h : mCore m v β l H) (d : Nat) : mCore m (upd v 46 (nI d)) β (d, l.2) (xup H m (mo m (upd v 46 (nI d)))) := by
  obtain ⟨h1, ⟨e0, e1, e2, e3, e41, e46⟩, ⟨cb, c1, c2, c3⟩, h4, h5, h6, h7, h8⟩ := h
  have k : ∀ a, 1 ≤ a → (xup H m (mo m (upd v 46 (nI d)))).1 (m + a) = H.1 (m + a) := fun a a1 => xup_ne _ (by omega)
  unfold mCore
  rw [k 26 (by omega), k 23 (by omega), k 24 (by omega), k 5 (by omega), k 6 (by omega)]
  refine ⟨xup_at _, ⟨?_, ?_, ?_, ?_, ?_, ?_⟩, ⟨cb, c1, ?_, c3⟩, h4, h5, h6, h7, h8⟩
  · rw [pk_un (by decide)]; exact e0
  · rw [pk_un (by decide)]; exact e1
  · rw [pk_un (by decide)]; exact e2
  · rw [pk_un (by decide)]; exact e3
  · rw [pk_un (by decide)]; exact e41
  · rw [pk_us]; rfl
  · rw [pk_un (by decide)]; exact c2
theorem mpI {v : Nat → Int32} (h : H.1 m = some (mo m v)) {j : Nat} (hj : j < 64) (x : Int32) (hs : (mfs m v).set j (.int x) = mfs m (upd v j x)) : xpI H (some m) 11 j x = some (xup H m (mo m (upd v j x))) := by
  unfold xpI
  rw [pV h (by rw [mlen]; exact hj), hs]
theorem T_day (hN : 59049 < N) (h : Rel stf K b m β δ H) (x : Int32) : xStep stf K b m (F_X11_day N (some b) x) (F_X12_day N (some m) x) H := by
  obtain ⟨⟨⟨c, tc, tk, cb, n, nk, ncb, ad, ho⟩, -⟩, v, hm⟩ := id h
  obtain ⟨g0, g1, g2, g3, g4, g5, g6, g7, g8, g9, g10, g11, g12, g13, g14⟩ := ho.g
  obtain ⟨o10, o2, o6, o4, o5, o3, o9⟩ := ho.o
  obtain ⟨k0, k1, k2, k4, k6, k7, k12⟩ := ho.k
  have q := hm.mq
  have qo := q.ob
  have qz := q.z
  obtain ⟨v0, v1, v2, v3, v46, t5, t6, t12⟩ := q.ac
  obtain ⟨l0, l1, l2, l3, l4⟩ := ho.l
  have h7 := hm.2.2.1.1.1
  have hT := q.2.2.1
  by_cases hx : ¬ x ≤ nI (lT (dL δ)) ∧ x ≤ 7
  · obtain ⟨d, hd, rfl⟩ : ∃ d : Nat, d ≤ 7 ∧ x = nI d := by
      have h0 : ¬ x < 0 := fun z => hx.1 (by
        have a := Int32.lt_iff_toInt_lt.mp z
        have b := nI_toInt (n := lT (dL δ)) (by omega)
        rw [show (0 : Int32).toInt = 0 by decide] at a
        refine Int32.le_iff_toInt_le.mpr ?_
        rw [b]; omega)
      obtain ⟨j, hj, rfl⟩ := nI_of h0
      exact ⟨j, (nI_leI hj (by decide : 7 < 2 ^ 31)).mp hx.2, rfl⟩
    have hdT : lT (dL δ) < d := by
      have := hx.1
      rw [nI_leI (by omega) (by omega)] at this; omega
    have h7d : ¬ nI d ≤ nI (lT (dL δ)) := hx.1
    obtain ⟨hl1, hl2, hl3, hl4⟩ := ho.2.2.2.2.2.2.1
    have ht := ho.2.2.2.2.2.1
    have hD := ho.1
    obtain ⟨d1, d2, ⟨d3, d4, d5⟩, -⟩ := id hD
    -- the class
    have ne : ∀ a, a ≠ b + 20 → ∀ e, (xup H (b + 20) e).1 a = H.1 a := fun a ha e => xup_ne _ ha
    have hset : ∀ H0 : xH, ∀ σ : sL, ∀ d', H0.1 (b + 20) = some (ob 4 [.int (nI (lT σ)), .int (lS σ), va_rf (some (b + 20 + 1)), va_rf (some (b + 20 + 2)), va_rf (some (b + 20 + 3))]) → xpI H0 (some (b + 20)) 4 0 (nI d') = some (xup H0 (b + 20) (ob 4 [.int (nI d'), .int (lS σ), va_rf (some (b + 20 + 1)), va_rf (some (b + 20 + 2)), va_rf (some (b + 20 + 3))])) := fun H0 σ d' h0 => by
      unfold xpI
      rw [pV h0 (show (0 : Nat) < 5 by decide)]; rfl
    have hled : ∀ H0 : xH, ∀ σ : sL, ∀ d', xLed (b + 20) σ H0 → xLed (b + 20) (d', σ.2) (xup H0 (b + 20) (ob 4 [.int (nI d'), .int (lS σ), va_rf (some (b + 20 + 1)), va_rf (some (b + 20 + 2)), va_rf (some (b + 20 + 3))])) := fun H0 σ d' h0 => by
      obtain ⟨z1, z2, z3, z4⟩ := h0
      refine ⟨xup_at _, ?_, ?_, ?_⟩
      · rw [xup_ne _ (by omega)]; exact z2
      · rw [xup_ne _ (by omega)]; exact z3
      · rw [xup_ne _ (by omega)]; exact z4
    have htab : ∀ H0 : xH, ∀ σ0 : sL, ∀ e, xTab (b + 15) tc tk n nk β σ0 H0 → (tc ≠ b + 20 ∧ tk ≠ b + 20) → xTab (b + 15) tc tk n nk β σ0 (xup H0 (b + 20) e) := fun H0 σ0 e h0 hne => by
      unfold xTab at h0 ⊢
      rw [xup_ne _ (by omega), xup_ne _ hne.1, xup_ne _ hne.2, xup_ne _ (by omega), xup_ne _ (by omega)]
      exact h0
    have hD2 := hD
    obtain ⟨-, -, ⟨x1, -, -⟩, ⟨x2, -, -⟩, -⟩ := hD2
    have hne : tc ≠ b + 20 ∧ tk ≠ b + 20 := by omega
    generalize hH1 : xup H (b + 20) (ob 4 [.int (nI d), .int (lS (dL δ)), va_rf (some (b + 20 + 1)), va_rf (some (b + 20 + 2)), va_rf (some (b + 20 + 3))]) = H1
    have hL1 : xLed (b + 20) (d, (dL δ).2) H1 := by rw [← hH1]; exact hled H (dL δ) d ⟨hl1, hl2, hl3, hl4⟩
    have hT1 : xTab (b + 15) tc tk n nk β (dL δ) H1 := by rw [← hH1]; exact htab H (dL δ) _ ht hne
    have hF1 : Fr (fun q => q = b + 15 ∨ q = tc ∨ q = b + 18 ∨ q = b + 19 ∨ (b + 20 ≤ q ∧ q ≤ b + 23)) H H1 := by rw [← hH1]; exact Fr.up (by omega)
    obtain ⟨H2, a1, a2, a3, a4, a5⟩ := ho.mk hN hm.2.1 (σ := (d, (dL δ).2)) hd q.2.2.2 hF1 hT1 hL1
    obtain ⟨f0, f1, f2, f3, f4, f5, f6, f7, f8, f9, f10, f11, f12, f13, f14⟩ := a2.g
    obtain ⟨_, _, _, _, _, _, u0, u1, u2, u3, u4⟩ := a2.t
    have gg1 : xgA H1 (some b) 10 6 = some (some (b + 15)) ∧ xgA H1 (some b) 10 7 = some (some (b + 20)) ∧ xob H1 (some (b + 15)) 6 = some (b + 15) := by
      have e1 : H1.1 b = H.1 b := hF1.2 b (by omega)
      have e2 : H1.1 (b + 15) = H.1 (b + 15) := by rw [← hH1]; exact xup_ne _ (by omega)
      obtain ⟨cert, t1, -⟩ := ht.1
      have := ho.2.1
      unfold xBB at this
      exact ⟨gA (e1.trans this) rfl, gA (e1.trans this) rfl, obx (e2.trans t1)⟩
    have hcz : cnt (lft β (d, (dL δ).2)) (bZ β) < 2 ^ 31 := Nat.lt_of_le_of_lt (cnt_le _ _) (by omega)
    rcases Nat.eq_zero_or_pos (cnt (lft β (d, (dL δ).2)) (bZ β)) with hc0 | hc0
    · -- none would be left
      have hl5 := a5.1
      generalize hH3 : xup H2 (b + 20) (ob 4 [.int (nI (lT (dL δ))), .int (lS (dL δ)), va_rf (some (b + 20 + 1)), va_rf (some (b + 20 + 2)), va_rf (some (b + 20 + 3))]) = H3
      have hL3 : xLed (b + 20) (dL δ) H3 := by rw [← hH3]; exact hled H2 (d, (dL δ).2) (lT (dL δ)) a5
      have hT3 : xTab (b + 15) tc tk n nk β (d, (dL δ).2) H3 := by rw [← hH3]; exact htab H2 _ _ a4 hne
      have hF3 : Fr (fun q => q = b + 15 ∨ q = tc ∨ q = b + 18 ∨ q = b + 19 ∨ (b + 20 ≤ q ∧ q ≤ b + 23)) H H3 := a3.tr (by rw [← hH3]; exact Fr.up (by omega))
      obtain ⟨H4, b1, b2, b3, b4, b5⟩ := ho.mk hN hm.2.1 (σ := dL δ) hT q.2.2.2 hF3 hT3 hL3
      have gg3 : xgA H3 (some b) 10 6 = some (some (b + 15)) ∧ xgA H3 (some b) 10 7 = some (some (b + 20)) ∧ xob H3 (some (b + 15)) 6 = some (b + 15) := by
        have e1 : H3.1 b = H.1 b := hF3.2 b (by omega)
        have e2 : H3.1 (b + 15) = H2.1 (b + 15) := by rw [← hH3]; exact xup_ne _ (by omega)
        obtain ⟨cert, t1, -⟩ := a4.1
        have := ho.2.1
        unfold xBB at this
        exact ⟨gA (e1.trans this) rfl, gA (e1.trans this) rfl, obx (e2.trans t1)⟩
      have hs2 : xpI H2 (some (b + 20)) 4 0 (nI (lT (dL δ))) = some H3 := by rw [← hH3]; exact hset H2 (d, (dL δ).2) (lT (dL δ)) hl5
      have C1 : F_X11_day N (some b) (nI d) H = some (-1, H4) := by
        simp only [F_X11_day, g7, l0, h7d, if_false, hx.2, if_true, hset H (dL δ) d hl1, hH1, gg1.1, gg1.2.1, gg1.2.2, a1, hc0, show nI 0 ≤ 0 from by decide, f7, hs2, gg3.1, gg3.2.1, gg3.2.2, b1, Option.bind_some, bd2_s]
      have hm4 : mR m v β δ H4 := hm.1.l hD b3
      have q4 : mQ m v β (dL δ) H4 := (show CM K m v β δ H4 from ⟨hm4, hm.2⟩).mq
      have hq5 : mQ m (upd v 46 (nI d)) β (d, (dL δ).2) (xup H4 m (mo m (upd v 46 (nI d)))) := ⟨hm4.1.f46 d, hm.2.1, hd, q.2.2.2⟩
      refine ⟨-1, H4, H4, β, δ, C1, ?_, ?_⟩
      · have hin : ¬ nI d < nI (lT (dL δ)) + 1 ∧ ¬ 7 < nI d := ⟨by rw [nI_1]; exact nI_nlt (by omega) (by omega), fun z => by
          have := (nI_ltI (a := 7) (b := d) (by decide) (by omega)).mp z
          omega⟩
        have v46' := q4.ac.2.2.2.2.1
        have ob4 := q4.1.1
        have ob5 : (xup H4 m (mo m (upd v 46 (nI d)))).1 m = some (mo m (upd v 46 (nI d))) := xup_at _
        have e46 : upd (upd v 46 (nI d)) 46 (nI (lT (dL δ))) = v := by
          rw [upd_upd]
          have : v 46 = nI (lT (dL δ)) := q4.1.2.1.2.2.2.2.2
          rw [← this, upd_id]
        simp only [F_X12_day, v46', S_in, bI_t hin, show ¬ (1 : Int32) = 0 by decide, if_false, mpI ob4 (by decide : 46 < 64) (nI d) ms46, hq5.ob, S_mMany hq5 hN, hc0, show nI 0 ≤ 0 from by decide, if_true, mpI ob5 (by decide : 46 < 64) (nI (lT (dL δ))) ms46, e46, xup_up, xup_id ob4, Option.bind_some, bd2_s]
      · exact h.mkl ho (hm.2.2.1.up (Nat.le_succ K)) b3 b2 Fr.rf (hm4.ex) hm4
    · have hne0 : ¬ nI (cnt (lft β (d, (dL δ).2)) (bZ β)) ≤ 0 := nI_nle hc0 hcz
      have C1 : F_X11_day N (some b) (nI d) H = some (nI (cnt (lft β (d, (dL δ).2)) (bZ β)), H2) := by
        simp only [F_X11_day, g7, l0, h7d, if_false, hx.2, if_true, hset H (dL δ) d hl1, hH1, gg1.1, gg1.2.1, gg1.2.2, a1, hne0, f6, u3, Option.bind_some, bd2_s]
        rfl
      have hm2 : mR m v β δ H2 := hm.1.l hD a3
      have q2 : mQ m v β (dL δ) H2 := (show CM K m v β δ H2 from ⟨hm2, hm.2⟩).mq
      have hq5 : mQ m (upd v 46 (nI d)) β (d, (dL δ).2) (xup H2 m (mo m (upd v 46 (nI d)))) := ⟨hm2.1.f46 d, hm.2.1, hd, q.2.2.2⟩
      have hmR5 : mR m (upd v 46 (nI d)) β ((d, (dL δ).2), δ.2) (xup H2 m (mo m (upd v 46 (nI d)))) := hm2.fd (Or.inl rfl) (hm2.1.f46 d) (fun _ => rfl) (fun e => absurd e (by decide)) rfl rfl
      refine ⟨_, H2, _, β, ((d, (dL δ).2), δ.2), C1, ?_, h.mkl ho ⟨⟨hd, q.2.2.2, cnt_pos.mp hc0⟩, (hm.2.2.1.up (Nat.le_succ K)).2⟩ a3 a2 (Fr.up (by omega)) (hm2.ex) hmR5⟩
      have hin : ¬ nI d < nI (lT (dL δ)) + 1 ∧ ¬ 7 < nI d := ⟨by rw [nI_1]; exact nI_nlt (by omega) (by omega), fun z => by
        have := (nI_ltI (a := 7) (b := d) (by decide) (by omega)).mp z
        omega⟩
      have v46' := q2.ac.2.2.2.2.1
      simp only [F_X12_day, v46', S_in, bI_t hin, show ¬ (1 : Int32) = 0 by decide, if_false, mpI q2.1.1 (by decide : 46 < 64) (nI d) ms46, hq5.ob, S_mMany hq5 hN, hne0, Option.bind_some, bd2_s]
  · refine xStep.rd (r := -1) h ?_ ?_
    · simp only [F_X11_day, g7, l0, Option.bind_some, bd2_s]
      by_cases z : x ≤ nI (lT (dL δ))
      · rw [if_pos z]
      · rw [if_neg z, if_neg (fun w => hx ⟨z, w⟩)]
    · have hin : ¬ (¬ x < nI (lT (dL δ)) + 1 ∧ ¬ 7 < x) := by
        rintro ⟨z1, z2⟩
        refine hx ⟨fun w => z1 ?_, Int32.not_lt.mp z2⟩
        have a := Int32.le_iff_toInt_le.mp w
        have e1 := nI_toInt (n := lT (dL δ)) (by omega)
        have e2 := nI_toInt (n := lT (dL δ) + 1) (by omega)
        rw [nI_1]
        refine Int32.lt_iff_toInt_lt.mpr ?_
        rw [e2]; omega
      simp only [F_X12_day, v46, S_in, bI_f hin, if_true, Option.bind_some, bd2_s]
end Mk
