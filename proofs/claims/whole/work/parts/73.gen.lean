/-! PURE: other states of both; STEPS chance, image, back. -/
section Gen
variable {stf : Nat → Nat} {N K b m : Nat} {β : sB} {δ : sD} {H : xH}
variable {c tc tk cb n nk ncb : Nat} {ad : Nat → Nat}
theorem mR.gen {v v' : Nat → Int32} {δ' : sD} (h : mR m v β δ H) {H' : xH} (hv : ∀ j, j ≠ 31 → j ≠ 46 → j ≠ 47 → j ≠ 51 → j ≠ 62 → v' j = v j) (h0 : H'.1 m = some (mo m v')) (k : ∀ a, 1 ≤ a → a < 36 → a ≠ 20 → a ≠ 26 → a ≠ 28 → a ≠ 29 → a ≠ 34 → a ≠ 35 → H'.1 (m + a) = H.1 (m + a)) (e46 : v' 46 = nI (lT (dL δ'))) (c47 : ∃ cb : Nat, cb < 32 ∧ v' 47 = nI cb ∧ ∀ j, j < 5 → (cb.testBit j = true ↔ lC (dL δ') j ≠ 0)) (c26 : ∃ g, H'.1 (m + 26) = some (aI 5 g) ∧ ∀ j, j < 5 → lC (dL δ') j ≠ 0 → g j = nI (lC (dL δ') j - 1)) (hf : dB δ' = dB δ ∧ v' 31 = nI (dN δ') ∧ dF δ' = dF δ ∧ v' 51 = lS (dL δ') ∧ v' 62 = nI (dI δ')) (h20 : ∃ g, H'.1 (m + 20) = some (aB 1200 g) ∧ ∀ j, j < dN δ' → g j = dT δ' j) (h28 : ∃ g, H'.1 (m + 28) = some (aI 24 g) ∧ ∀ j, j < 24 → g j = lH (dL δ') j) (h29 : ∃ g, H'.1 (m + 29) = some (aI 6 g) ∧ ∀ j, j < 6 → g j = lB (dL δ') j) (h34 : ∃ g, H'.1 (m + 34) = some (aI 45 g) ∧ ∀ j, j < 45 → g j = dC δ' j) (h35 : ∃ g, H'.1 (m + 35) = some (aI 160 g) ∧ ∀ k, k < dI δ' → mImg g k (dM δ' k)) : mR m v' β δ' H' := by
  obtain ⟨⟨h1, ⟨e0, e1, e2, e3, e41, -⟩, -, -, h5, h6, h7, h8⟩, ⟨⟨f1, f2, f3, f4, f5⟩, i2, i3, i4, -, -, -, -, -, i10⟩⟩ := h
  have k' : ∀ a, 1 ≤ a → a < 36 → ¬ (a = 20 ∨ a = 26 ∨ a = 28 ∨ a = 29 ∨ a = 34 ∨ a = 35) → H'.1 (m + a) = H.1 (m + a) := fun a a1 a2 a3 => k a a1 a2 (by omega) (by omega) (by omega) (by omega) (by omega) (by omega)
  refine ⟨?_, ?_⟩
  · unfold mCore
    rw [k' 23 (by decide) (by decide) (by decide), k' 24 (by decide) (by decide) (by decide), k' 5 (by decide) (by decide) (by decide), k' 6 (by decide) (by decide) (by decide)]
    exact ⟨h0, ⟨(hv 0 (by decide) (by decide) (by decide) (by decide) (by decide)).trans e0, (hv 1 (by decide) (by decide) (by decide) (by decide) (by decide)).trans e1, (hv 2 (by decide) (by decide) (by decide) (by decide) (by decide)).trans e2, (hv 3 (by decide) (by decide) (by decide) (by decide) (by decide)).trans e3, (hv 41 (by decide) (by decide) (by decide) (by decide) (by decide)).trans e41, e46⟩, c47, c26, h5, h6, h7, h8⟩
  · unfold mMore
    rw [k' 1 (by decide) (by decide) (by decide), k' 2 (by decide) (by decide) (by decide), k' 12 (by decide) (by decide) (by decide), k' 13 (by decide) (by decide) (by decide), k' 14 (by decide) (by decide) (by decide)]
    refine ⟨⟨((hv 5 (by decide) (by decide) (by decide) (by decide) (by decide)).trans f1).trans hf.1.symm, hf.2.1, ((hv 35 (by decide) (by decide) (by decide) (by decide) (by decide)).trans f3).trans hf.2.2.1.symm, hf.2.2.2.1, hf.2.2.2.2⟩, i2, i3, i4, h20, h28, h29, h34, h35, ?_⟩
    obtain ⟨s1, s2, s3, s4, s5, s6, s7, s8, s9, s10, s11, s12, s13⟩ := i10
    refine ⟨fun a ha => ?_, fun a a1 a2 => ?_, fun a a1 a2 => ?_, ?_, ?_, ?_, ?_, ?_, ?_, ?_, ?_, ?_, ?_⟩
    · rw [k' a (by omega) (by omega) (by omega)]; exact s1 a ha
    · rw [k' a (by omega) (by omega) (by omega)]; exact s2 a a1 a2
    · rw [k' a (by omega) (by omega) (by omega)]; exact s3 a a1 a2
    · rw [k' _ (by omega) (by omega) (by omega)]; exact s4
    · rw [k' _ (by omega) (by omega) (by omega)]; exact s5
    · rw [k' _ (by omega) (by omega) (by omega)]; exact s6
    · rw [k' _ (by omega) (by omega) (by omega)]; exact s7
    · rw [k' _ (by omega) (by omega) (by omega)]; exact s8
    · rw [k' _ (by omega) (by omega) (by omega)]; exact s9
    · rw [k' _ (by omega) (by omega) (by omega)]; exact s10
    · rw [k' _ (by omega) (by omega) (by omega)]; exact s11
    · rw [k' _ (by omega) (by omega) (by omega)]; exact s12
    · rw [k' _ (by omega) (by omega) (by omega)]; exact s13
/-- the class's cells that may change -/
def SG (b tc q : Nat) : Prop := q = b ∨ q = b + 1 ∨ q = b + 15 ∨ q = tc ∨ q = b + 18 ∨ q = b + 19 ∨ (b + 20 ≤ q ∧ q ≤ b + 42)
theorem RXo.gen {δ' : sD} (h : RXo stf K b m c tc tk cb n nk ncb ad β δ H) {H' : xH} (hF : Fr (SG b tc) H H') (e1 : xBB b c δ' H') (e2 : xTape b δ' H') (e5 : xTab (b + 15) tc tk n nk β (dL δ') H') (e6 : xLed (b + 20) (dL δ') H') (e7 : xImgs b δ' H') (e8 : xOdds b δ' H') (eN : dN δ' ≤ dN δ + 20) : RXo stf (K + 1) b m c tc tk cb n nk ncb ad β δ' H' := by
  obtain ⟨hD, h1, h2, h3, h4, h5, h6, h7, h8, h9, h10, h11, h12, r1, r2, r3, r4⟩ := h
  have hD' := hD
  obtain ⟨d1, d2, ⟨d3, d4, d5⟩, ⟨d6, d7, d8⟩, ⟨d9, d10, d11⟩, ⟨d12, d13, d14⟩, d15⟩ := hD
  have k : ∀ a, ¬ SG b tc a → H'.1 a = H.1 a := fun a ha => hF.2 a ha
  refine ⟨hD', e1, e2, h3.fr (fun a a1 a2 => k a (by unfold SG; omega)), h4.fr (fun a a1 a2 => k a (by unfold SG; omega)) (fun w hw => k _ (by have := d15 w hw; unfold oM SG at *; omega)), e5, e6, e7, e8, ?_, ?_, ?_, h12.fr (by rw [hF.1]) (fun a ha => k a (by unfold SG; unfold oM at d4; omega)), ?_⟩
  · unfold xGain
    rw [k _ (by unfold SG; omega), k _ (by unfold SG; omega)]; exact h9
  · unfold xWin
    rw [k _ (by unfold SG; omega), k _ (by unfold SG; omega), k _ (by unfold SG; omega), k cb (by unfold SG; omega)]; exact h10
  · unfold xOG
    rw [k _ (by unfold SG; omega), k _ (by unfold SG; omega)]; exact h11
  · unfold Rm
    rw [hF.1]
    exact ⟨r1, r2, by omega, by omega⟩
theorem RXo.exG (h : RXo stf K b m c tc tk cb n nk ncb ad β δ H) : ∀ a, SG b tc a → ∃ e, H.1 a = some e := by
  obtain ⟨hD, h1, ⟨-, g2, h2, -⟩, h3, h4, ⟨⟨cert, t1, -⟩, ⟨cl, t2, -⟩, -, -, -, -, -, ⟨g3, t3⟩, ⟨g4, t4⟩⟩, ⟨l1, ⟨gc, l2, -⟩, ⟨gh, l3, -⟩, ⟨gb, l4, -⟩⟩, ⟨-, ⟨gi, i1, -⟩, -, i3⟩, ⟨o1, go, o2, -⟩, -⟩ := h
  intro a ha
  unfold SG at ha
  have hL : ∀ k, k < 4 → ∀ e, e < 4 → ∃ x, H.1 (b + 25 + 4 * k + e) = some x := fun k hk e he => by
    obtain ⟨σ, z1, ⟨g1, z2, -⟩, ⟨g2, z3, -⟩, ⟨g3, z4, -⟩⟩ := i3 k hk
    have : e = 0 ∨ e = 1 ∨ e = 2 ∨ e = 3 := by omega
    rcases this with rfl | rfl | rfl | rfl
    · exact ⟨_, z1⟩
    · exact ⟨_, z2⟩
    · exact ⟨_, z3⟩
    · exact ⟨_, z4⟩
  by_cases q : b + 25 ≤ a ∧ a ≤ b + 40
  · obtain ⟨x, hx⟩ := hL ((a - b - 25) / 4) (by omega) ((a - b - 25) % 4) (by omega)
    rw [show b + 25 + 4 * ((a - b - 25) / 4) + (a - b - 25) % 4 = a by omega] at hx
    exact ⟨x, hx⟩
  · have : a = b ∨ a = b + 1 ∨ a = b + 15 ∨ a = tc ∨ a = b + 18 ∨ a = b + 19 ∨ a = b + 20 ∨ a = b + 21 ∨ a = b + 22 ∨ a = b + 23 ∨ a = b + 24 ∨ a = b + 41 ∨ a = b + 42 := by omega
    rcases this with rfl | rfl | rfl | rfl | rfl | rfl | rfl | rfl | rfl | rfl | rfl | rfl | rfl
    · exact ⟨_, h1⟩
    · exact ⟨_, h2⟩
    · exact ⟨_, t1⟩
    · exact ⟨_, t2⟩
    · exact ⟨_, t3⟩
    · exact ⟨_, t4⟩
    · exact ⟨_, l1⟩
    · exact ⟨_, l2⟩
    · exact ⟨_, l3⟩
    · exact ⟨_, l4⟩
    · exact ⟨_, i1⟩
    · exact ⟨_, o1⟩
    · exact ⟨_, o2⟩
theorem mR.G {v : Nat → Int32} (hD : DX b m c tc tk cb ad β) {H1 : xH} (hF : Fr (SG b tc) H H1) (h : mR m v β δ H) : mR m v β δ H1 := by
  obtain ⟨d1, d2, ⟨d3, d4, d5⟩, -⟩ := hD
  exact h.fr (fun a a1 a2 => hF.2 a (by unfold SG; unfold oM at d4; omega))
theorem Rel.gen {δ' : sD} (h : Rel stf K b m β δ H) (ho : RXo stf K b m c tc tk cb n nk ncb ad β δ H) {H1 H2 : xH} {v v' : Nat → Int32} (hF : Fr (SG b tc) H H1) (hr : RXo stf (K + 1) b m c tc tk cb n nk ncb ad β δ' H1) (hd : dOk (K + 1) β δ') (hm1 : mR m v β δ H1) (hF2 : Fr (fun q => m ≤ q ∧ q < m + 36) H1 H2) (hm : mR m v' β δ' H2) : Rel stf (K + 1) b m β δ' H2 := by
  have hB := h.1.2.1
  refine ⟨⟨⟨c, tc, tk, cb, n, nk, ncb, ad, hr.fr hF2⟩, hB, hd, ?_, ?_⟩, v', hm, hB, hd⟩
  · exact (h.1.2.2.2.1.fr hF ho.exG).fr hF2 (fun a ha => hm1.ex a ha.1 ha.2)
  · rw [hF2.1, hF.1]; exact h.1.2.2.2.2
theorem T_chance (hN : 59049 < N) (h : Rel stf K b m β δ H) (x y z : Int32) : xStep stf K b m (F_X11_chance N (some b) x y z) (F_X12_chance N (some m) x y z) H := by
  obtain ⟨⟨⟨c, tc, tk, cb, n, nk, ncb, ad, ho⟩, -⟩, v, hm⟩ := id h
  obtain ⟨g0, g1, g2, g3, g4, g5, g6, g7, g8, g9, g10, g11, g12, g13, g14⟩ := ho.g
  obtain ⟨o10, o2, o6, o4, o5, o3, o9⟩ := ho.o
  obtain ⟨k0, k1, k2, k4, k6, k7, k12⟩ := ho.k
  have q := hm.mq
  have qo := q.ob
  have qz := q.z
  obtain ⟨v0, v1, v2, v3, v46, t5, t6, t12⟩ := q.ac
  have J36 : ∀ x y z, F_X11_chance_J36 N (some b) x y z H = some (0, H) := fun x y z => by
    simp only [F_X11_chance_J36, F_X11_chance_J37, if_true, true_or]
  rcases ix3 x (show bT β < 2 ^ 31 by omega) with hx | ⟨th, hth, rfl⟩
  · exact xStep.rd (r := 0) h (by simp only [F_X11_chance, g5, o2, S_hTO ho hx, if_true, J36, Option.bind_some, bd2_s]) (by simp only [F_X12_chance, qo, S_mTO q hx, if_true, Option.bind_some, bd2_s])
  by_cases hy : ¬ y < -1 ∧ ¬ 7 < y
  rotate_left
  · refine xStep.rd (r := 0) h ?_ ?_
    · simp only [F_X11_chance, g5, o2, S_hTI ho t5 hth, show ¬ (1 : Int32) = 0 by decide, if_false, J36, Option.bind_some, bd2_s]
      by_cases z : y < -1
      · rw [if_pos z]
      · rw [if_neg z, if_pos (Classical.byContradiction (fun w => hy ⟨z, w⟩))]
    · simp only [F_X12_chance, qo, S_mTI q hth, show ¬ (1 : Int32) = 0 by decide, if_false, S_in, bI_f hy, if_true, Option.bind_some, bd2_s]
  by_cases hz : ¬ z < 0 ∧ ¬ 100 < z
  rotate_left
  · refine xStep.rd (r := 0) h ?_ ?_
    · simp only [F_X11_chance, g5, o2, S_hTI ho t5 hth, show ¬ (1 : Int32) = 0 by decide, if_false, hy.1, hy.2, J36, Option.bind_some, bd2_s]
      by_cases w : z < 0
      · rw [if_pos w]
      · rw [if_neg w, if_pos (Classical.byContradiction (fun w2 => hz ⟨w, w2⟩))]
    · simp only [F_X12_chance, qo, S_mTI q hth, show ¬ (1 : Int32) = 0 by decide, if_false, S_in, bI_t hy, bI_f hz, if_true, Option.bind_some, bd2_s]
  obtain ⟨d, hd, ed⟩ : ∃ d : Nat, d ≤ 8 ∧ y + 1 = nI d := by
    have a := Int32.le_iff_toInt_le.mp (Int32.not_lt.mp hy.1)
    have b := Int32.le_iff_toInt_le.mp (Int32.not_lt.mp hy.2)
    rw [show (-1 : Int32).toInt = -1 by decide] at a
    rw [show (7 : Int32).toInt = 7 by decide] at b
    refine ⟨(y.toInt + 1).toNat, by omega, Int32.toInt_inj.mp ?_⟩
    rw [nI_toInt (by omega), Int32.toInt_add, show (1 : Int32).toInt = 1 by decide, Int.bmod_eq_of_le] <;> omega
  obtain ⟨p, hp, rfl⟩ : ∃ p : Nat, p ≤ 100 ∧ z = nI p := by
    obtain ⟨j, hj, rfl⟩ := nI_of hz.1
    exact ⟨j, by
      rcases Nat.lt_or_ge 100 j with w | w
      · exact absurd (nI_lt w hj) hz.2
      · exact w, rfl⟩
  have e1 : (9 : Int32) * nI th + nI d = nI (9 * th + d) := by rw [show (9 : Int32) = nI 9 from rfl, pk_mul, nI_add]
  have e2 : (9 : Int32) * nI th + y + 1 = nI (9 * th + d) := by rw [Int32.add_assoc, ed, e1]
  have hlt : 9 * th + d < 45 := by omega
  generalize hδ : ((dL δ, dI δ, dM δ, upd (dC δ) (9 * th + d) (nI p), dN δ, dT δ, dF δ, dB δ) : sD) = δ'
  have s1 : dL δ' = dL δ := by rw [← hδ]; rfl
  have s2 : dI δ' = dI δ := by rw [← hδ]; rfl
  have s3 : dM δ' = dM δ := by rw [← hδ]; rfl
  have s4 : dC δ' = upd (dC δ) (9 * th + d) (nI p) := by rw [← hδ]; rfl
  have s5 : dN δ' = dN δ := by rw [← hδ]; rfl
  have s6 : dT δ' = dT δ := by rw [← hδ]; rfl
  have s7 : dF δ' = dF δ := by rw [← hδ]; rfl
  have s8 : dB δ' = dB δ := by rw [← hδ]; rfl
  have hcg : ∀ g, (∀ j, j < 45 → g j = dC δ j) → ∀ j, j < 45 → upd g (9 * th + d) (nI p) j = dC δ' j := fun g hg j hj => by
    rw [s4]
    by_cases e : j = 9 * th + d
    · rw [e, pk_us, pk_us]
    · rw [pk_un e, pk_un e, hg j hj]
  obtain ⟨w1, go, w2, w3⟩ := ho.od
  have hD := ho.1
  obtain ⟨d1, d2, ⟨d3, d4, d5⟩, ⟨d6, d7, d8⟩, -⟩ := id hD
  have hset := S_set (N := N) (v := nI p) w2 hlt (by decide)
  generalize hH1 : xup H (b + 42) (aI 45 (upd go (9 * th + d) (nI p))) = H1 at hset
  have C1 : F_X11_chance N (some b) (nI th) y (nI p) H = some (1, H1) := by
    simp only [F_X11_chance, F_X11_chance_J37, g5, o2, S_hTI ho t5 hth, show ¬ (1 : Int32) = 0 by decide, if_false, hy.1, hy.2, hz.1, hz.2, g10, o5, F_X5_setParts, ho.od0, ed, e1, hset, or_true, if_true, Option.bind_some, bd2_s]
  have hF1 : Fr (SG b tc) H H1 := by rw [← hH1]; exact Fr.up (by unfold SG; omega)
  have kk : ∀ a, a ≠ b + 42 → H1.1 a = H.1 a := fun a ha => by rw [← hH1, xup_ne _ ha]
  have hr : RXo stf (K + 1) b m c tc tk cb n nk ncb ad β δ' H1 := by
    refine ho.gen hF1 ?_ ?_ ?_ ?_ ?_ ?_ (by rw [s5]; omega)
    · unfold xBB; rw [s2, s5, s7, s8, kk _ (by omega)]; exact ho.2.1
    · unfold xTape; rw [s5, s6, kk _ (by omega)]; exact ho.2.2.1
    · rw [s1, ← hH1]; exact ho.2.2.2.2.2.1.up (by omega)
    · rw [s1]; exact ho.2.2.2.2.2.2.1.fr (fun a a1 a2 => kk a (by omega))
    · have := ho.2.2.2.2.2.2.2.1.fr (H' := H1) (fun a a1 a2 => kk a (by omega))
      unfold xImgs at this ⊢
      rw [s2, s3]; exact this
    · refine ⟨by rw [kk _ (by omega)]; exact w1, _, by rw [← hH1]; exact xup_at _, hcg go w3⟩
  have hm1 : mR m v β δ H1 := hm.1.G hD hF1
  have q1 : mQ m v β (dL δ) H1 := (show CM K m v β δ H1 from ⟨hm1, hm.2⟩).mq
  obtain ⟨gm, gm1, gm2⟩ := hm1.2.2.2.2.2.2.2.2.1
  have hk2 : ∀ a, a ≠ m + 34 → (xup H1 (m + 34) (aI 45 (upd gm (9 * th + d) (nI p)))).1 a = H1.1 a := fun a ha => xup_ne _ ha
  have hmr : mR m v β δ' (xup H1 (m + 34) (aI 45 (upd gm (9 * th + d) (nI p)))) := by
    obtain ⟨⟨n1, ⟨-, -, -, -, -, n46⟩, n47, n26, -⟩, ⟨⟨n5, n31, n35', n51, n62⟩, -, -, -, n20, n28, n29, n34, n35, -⟩⟩ := hm1
    refine mR.gen (hm.1.G hD hF1) (fun _ _ _ _ _ _ => rfl) (by rw [hk2 _ (by omega)]; exact n1) (fun a a1 a2 a3 a4 a5 a6 a7 a8 => hk2 _ (by omega)) (by rw [s1]; exact n46) (by rw [s1]; exact n47) (by rw [s1, hk2 _ (by omega)]; exact n26) ⟨s8, by rw [s5]; exact n31, s7, by rw [s1]; exact n51, by rw [s2]; exact n62⟩ (by rw [s5, s6, hk2 _ (by omega)]; exact n20) (by rw [s1, hk2 _ (by omega)]; exact n28) (by rw [s1, hk2 _ (by omega)]; exact n29) ⟨_, xup_at _, hcg gm gm2⟩ (by rw [s2, s3, hk2 _ (by omega)]; exact n35)
  have hdd : dOk (K + 1) β δ' := by
    obtain ⟨z1, z2, z3⟩ := hm.2.2.up (Nat.le_succ K)
    refine ⟨by rw [s1]; exact z1, by rw [s2, s3]; exact z2, fun j hj => ?_⟩
    rw [s4]
    by_cases e : j = 9 * th + d
    · exact ⟨p, hp, by rw [e, pk_us]⟩
    · rw [pk_un e]; exact z3 j hj
  refine ⟨1, H1, _, β, δ', C1, ?_, h.gen ho hF1 hr hdd hm1 (Fr.up (by omega)) hmr⟩
  simp only [F_X12_chance, q1.ob, S_mTI q1 hth, show ¬ (1 : Int32) = 0 by decide, if_false, S_in, bI_t hy, bI_t hz, gA q1.1.1 ma61, e2, stI gm1 hlt (by decide), vnI, Option.bind_some, bd2_s]
theorem S_copyRow {x0 x1 : Nat} {k : Nat} (hk : k < N) (hk31 : k < 2 ^ 31) {g g1 : Nat → Int32} (h0 : H.1 x0 = some (aI k g)) (h1 : H.1 x1 = some (aI k g1)) (hne : x0 ≠ x1) : ∃ g', F_X4_copyRow N (some x0) (some x1) H = some (xup H x1 (aI k g')) ∧ ∀ j, j < k → g' j = g j := by
  have key := upto (s := k) (P := fun n i => ∀ g1, (∀ j, j < i → g1 j = g j) → ∃ g', F_X4_copyRow_L2 N n (some x0) (some x1) (nI i) (xup H x1 (aI k g1)) = some (xup H x1 (aI k g')) ∧ ∀ j, j < k → g' j = g j) (fun n g1 hg => ⟨g1, by
    rw [show F_X4_copyRow_L2 N (n + 1) = F_X4_copyRow_J2 N (F_X4_copyRow_L2 N n) from rfl]
    simp only [F_X4_copyRow_J2, leI (xup_at _), nI_le (Nat.le_refl _) hk31, if_true, Option.bind_some, bd2_s], hg⟩) (fun n i hi ih g1 hg => by
    have h0' : (xup H x1 (aI k g1)).1 x0 = some (aI k g) := by rw [xup_ne _ hne]; exact h0
    obtain ⟨g', e1, e2⟩ := ih (upd g1 i (g i)) (fun j hj => by
      by_cases e : j = i
      · rw [e, pk_us]
      · rw [pk_un e]; exact hg j (by omega))
    refine ⟨g', ?_, e2⟩
    rw [← e1, show F_X4_copyRow_L2 N (n + 1) = F_X4_copyRow_J2 N (F_X4_copyRow_L2 N n) from rfl]
    simp only [F_X4_copyRow_J2, leI (xup_at _), nI_ge hi hk31, if_false, S_at h0' hk31, gat_nI (show i < 2 ^ 31 by omega), hi, if_true, stI (xup_at _) hi hk31, vnI, xup_up, nI_1, Option.bind_some, bd2_s]) N 0 (Nat.zero_le _) (by omega) g1 (fun j hj => by omega)
  rw [xup_id h1] at key
  exact key
theorem S_become (hN : 24 < N) {l l2 : Nat} {σ σ2 : sL} (h : xLed l σ H) (h2 : xLed l2 σ2 H) (hne : l + 4 ≤ l2 ∨ l2 + 4 ≤ l) : ∃ H', F_X4_become N (some l) (some l2) H = some H' ∧ xLed l σ2 H' ∧ Fr (fun q => l ≤ q ∧ q ≤ l + 3) H H' := by
  obtain ⟨a1, ⟨gc, a2, a3⟩, ⟨gh, a4, a5⟩, ⟨gb, a6, a7⟩⟩ := h
  obtain ⟨b1, ⟨kc, b2, b3⟩, ⟨kh, b4, b5⟩, ⟨kb, b6, b7⟩⟩ := h2
  have p1 : xpI H (some l) 4 0 (nI (lT σ2)) = some (xup H l (ob 4 [.int (nI (lT σ2)), .int (lS σ), va_rf (some (l + 1)), va_rf (some (l + 2)), va_rf (some (l + 3))])) := by
    unfold xpI; rw [pV a1 (show (0 : Nat) < 5 by decide)]; rfl
  generalize hH1 : xup H l (ob 4 [.int (nI (lT σ2)), .int (lS σ), va_rf (some (l + 1)), va_rf (some (l + 2)), va_rf (some (l + 3))]) = H1 at p1
  have k1 : ∀ a, a ≠ l → H1.1 a = H.1 a := fun a ha => by rw [← hH1, xup_ne _ ha]
  have a1' : H1.1 l = some (ob 4 [.int (nI (lT σ2)), .int (lS σ), va_rf (some (l + 1)), va_rf (some (l + 2)), va_rf (some (l + 3))]) := by rw [← hH1]; exact xup_at _
  have p2 : xpI H1 (some l) 4 1 (lS σ2) = some (xup H1 l (ob 4 [.int (nI (lT σ2)), .int (lS σ2), va_rf (some (l + 1)), va_rf (some (l + 2)), va_rf (some (l + 3))])) := by
    unfold xpI; rw [pV a1' (show (1 : Nat) < 5 by decide)]; rfl
  generalize hH2 : xup H1 l (ob 4 [.int (nI (lT σ2)), .int (lS σ2), va_rf (some (l + 1)), va_rf (some (l + 2)), va_rf (some (l + 3))]) = H2 at p2
  have k2 : ∀ a, a ≠ l → H2.1 a = H.1 a := fun a ha => by rw [← hH2, xup_ne _ ha, k1 a ha]
  have a1'' : H2.1 l = some (ob 4 [.int (nI (lT σ2)), .int (lS σ2), va_rf (some (l + 1)), va_rf (some (l + 2)), va_rf (some (l + 3))]) := by rw [← hH2]; exact xup_at _
  obtain ⟨g1, c1, c2⟩ := S_copyRow (N := N) (H := H2) (x0 := l2 + 1) (x1 := l + 1) (k := 5) (by omega) (by decide) ((k2 _ (by omega)).trans b2) ((k2 _ (by omega)).trans a2) (by omega)
  generalize hH3 : xup H2 (l + 1) (aI 5 g1) = H3 at c1
  have k3 : ∀ a, a ≠ l + 1 → H3.1 a = H2.1 a := fun a ha => by rw [← hH3, xup_ne _ ha]
  obtain ⟨g2, c3, c4⟩ := S_copyRow (N := N) (H := H3) (x0 := l2 + 2) (x1 := l + 2) (k := 24) (by omega) (by decide) ((k3 _ (by omega)).trans ((k2 _ (by omega)).trans b4)) ((k3 _ (by omega)).trans ((k2 _ (by omega)).trans a4)) (by omega)
  generalize hH4 : xup H3 (l + 2) (aI 24 g2) = H4 at c3
  have k4 : ∀ a, a ≠ l + 2 → H4.1 a = H3.1 a := fun a ha => by rw [← hH4, xup_ne _ ha]
  obtain ⟨g3, c5, c6⟩ := S_copyRow (N := N) (H := H4) (x0 := l2 + 3) (x1 := l + 3) (k := 6) (by omega) (by decide) ((k4 _ (by omega)).trans ((k3 _ (by omega)).trans ((k2 _ (by omega)).trans b6))) ((k4 _ (by omega)).trans ((k3 _ (by omega)).trans ((k2 _ (by omega)).trans a6))) (by omega)
  have k5 : ∀ a, a ≠ l + 3 → (xup H4 (l + 3) (aI 6 g3)).1 a = H4.1 a := fun a ha => xup_ne _ ha
  have r0 : xgI H (some l2) 4 0 = some (nI (lT σ2)) := gI b1 rfl
  have r1 : xgI H1 (some l2) 4 1 = some (lS σ2) := gI ((k1 _ (by omega)).trans b1) rfl
  have m2 : H2.1 l2 = _ := (k2 _ (by omega)).trans b1
  have m3 : H3.1 l2 = _ := (k3 _ (by omega)).trans m2
  have m4 : H4.1 l2 = _ := (k4 _ (by omega)).trans m3
  have n3 : H3.1 l = _ := (k3 _ (by omega)).trans a1''
  have n4 : H4.1 l = _ := (k4 _ (by omega)).trans n3
  have r2 : xgA H2 (some l2) 4 2 = some (some (l2 + 1)) := gA m2 rfl
  have r3 : xgA H2 (some l) 4 2 = some (some (l + 1)) := gA a1'' rfl
  have r4 : xgA H3 (some l2) 4 3 = some (some (l2 + 2)) := gA m3 rfl
  have r5 : xgA H3 (some l) 4 3 = some (some (l + 2)) := gA n3 rfl
  have r6 : xgA H4 (some l2) 4 4 = some (some (l2 + 3)) := gA m4 rfl
  have r7 : xgA H4 (some l) 4 4 = some (some (l + 3)) := gA n4 rfl
  refine ⟨xup H4 (l + 3) (aI 6 g3), ?_, ⟨?_, ⟨g1, ?_, fun j hj => by rw [c2 j hj, b3 j hj]⟩, ⟨g2, ?_, fun j hj => by rw [c4 j hj, b5 j hj]⟩, ⟨g3, xup_at _, fun j hj => by rw [c6 j hj, b7 j hj]⟩⟩, ?_⟩
  · unfold F_X4_become
    simp only [r0, p1, r1, p2, r2, r3, c1, r4, r5, c3, r6, r7, c5, Option.bind_some, bd2_s]
  · rw [k5 _ (by omega)]; exact n4
  · rw [k5 _ (by omega), k4 _ (by omega), ← hH3]; exact xup_at _
  · rw [k5 _ (by omega), ← hH4]; exact xup_at _
  · refine ⟨by rw [← hH4, ← hH3, ← hH2, ← hH1]; rfl, fun a ha => ?_⟩
    rw [k5 _ (by omega), k4 _ (by omega), k3 _ (by omega), k2 _ (by omega)]
end Gen
