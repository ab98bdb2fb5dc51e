/-! PURE: STEP win: the class's search. -/
section Win4
variable {stf : Nat → Nat} {N K b m : Nat} {β : sB} {δ : sD} {H : xH}
variable {c tc tk cb n nk ncb : Nat} {ad : Nat → Nat}
/-- what choose leaves, where it may go on -/
theorem S_choose2 (hN : 59049 < N) (ho : RXo stf K b m c tc tk cb n nk ncb ad β δ H) (hB : bOk β) (hw0 : hW H) (hm36 : m + 36 ≤ H.2.1) {u : Nat} (hu : u < 2 ^ bW β) : (¬ (0 < cnt (wP β (dL δ) u) (bW β) ∧ cnt (wP β (dL δ) u) (bW β) ≤ 6) ∧ ∃ H', F_X9_choose N (some (b + 45)) (some c) (some (b + 15)) (nI u) H = some (0, H') ∧ wF b cb H H' ∧ H'.2 = H.2 ∧ RXo stf (K + 1) b m c tc tk cb n nk ncb ad β δ H' ∧ hW H') ∨ ((0 < cnt (wP β (dL δ) u) (bW β) ∧ cnt (wP β (dL δ) u) (bW β) ≤ 6) ∧ ∃ H' cb' ncb' gq gn cc x3 x4 cm, F_X9_choose N (some (b + 45)) (some c) (some (b + 15)) (nI u) H = some (1, H') ∧ wF b cb H H' ∧ RXo stf (K + 1) b m c tc tk cb' n nk ncb' ad β δ H' ∧ hW H' ∧ m + 36 ≤ H'.2.1 ∧ wS b cb' ncb' (cnt (wP β (dL δ) u) (bW β)) (nI cc) x3 x4 gq gn cm H' ∧ cc ≤ ncb' ∧ ncb' ≤ 15625 ∧ cOk β (dL δ) (wP β (dL δ) u) cc cm ∧ ∀ v, v < bW β → wP β (dL δ) u v → gq (cnt (wP β (dL δ) u) v) = some (ad v) ∧ gn (cnt (wP β (dL δ) u) v) = nI v) := by
  obtain ⟨Ha, gq, gn, x2, x3, x4, cm, f1, f2, hWa, f3, f4, f5⟩ := S_choose hN ho hB hw0 hm36 hu
  have hgain := ho.2.2.2.2.2.2.2.2.2.1
  have hD := ho.1
  have t12 := hB.2.2.1
  obtain ⟨d1, d2, ⟨d3, d4, d5'⟩, ⟨d6, d7, d8⟩, ⟨d9, d10, d11⟩, -⟩ := id hD
  have hb52 : b + 51 < H.2.1 := by omega
  have h43 : Ha.1 (b + 43) = H.1 (b + 43) := f1.2 _ (by omega) (by omega)
  have hga : xGain b Ha := ⟨h43.trans hgain.1, by rw [f3]; exact hgain.2⟩
  have hxa : RXo stf K b m c tc tk cb n nk ncb ad β δ Ha := ho.wnS hw0 hm36 f1 f2 hga f4 (Nat.le_refl K)
  have hxa1 : RXo stf (K + 1) b m c tc tk cb n nk ncb ad β δ Ha := ho.wnS hw0 hm36 f1 f2 hga f4 (Nat.le_succ K)
  have hcbH : cb < H.2.1 := by
    obtain ⟨-, -, -, ⟨g, z⟩, -⟩ := ho.2.2.2.2.2.2.2.2.2.2.1
    exact hw0 _ _ z
  have hw5 := ho.2.2.2.2.2.2.2.2.2.2.1.2.2.2.2
  generalize hP : wP β (dL δ) u = P at *
  rcases f5 with ⟨g1, g2⟩ | ⟨g1, g2, g3, g4⟩
  · exact Or.inl ⟨fun z => by omega, Ha, g2, f1, f2, hxa1, hWa⟩
  obtain ⟨w1, w2, w3, w4⟩ := id g3
  have r2 : xgI Ha (some (b + 45)) 9 2 = some (nI (cnt P (bW β))) := gI w1 rfl
  rcases Nat.eq_zero_or_pos (cnt P (bW β)) with h0 | h0
  · refine Or.inl ⟨fun z => by omega, Ha, ?_, f1, f2, hxa1, hWa⟩
    rw [g2]
    unfold F_X9_choose_J93 F_X9_choose_J105
    simp only [r2, h0, Option.bind_some, bd2_s, show nI 0 ≤ 0 from by decide, if_true]
  refine Or.inr ⟨⟨h0, g1⟩, ?_⟩
  generalize hk : cnt P (bW β) = k at *
  have n0 : ¬ nI k ≤ 0 := nI_nle h0 (by omega)
  let ch : Nat → Nat := fun i => (gn i).toNatClampNeg
  have hch : chs P (bW β) ch := fun w hw hp => by
    show (gn (cnt P w)).toNatClampNeg = w
    rw [(g4 w hw hp).2, nI_clamp (by omega)]
  have hgn : ∀ i, i < k → gn i = nI (ch i) := fun i hi => by
    obtain ⟨c1, c2, c3⟩ := hch.inv (show i < cnt P (bW β) by omega)
    have := (g4 (ch i) c1 c2).2
    rw [c3] at this
    exact this
  have h5k : 5 ^ k ≤ 15625 := Nat.le_trans (Nat.pow_le_pow_right (by decide) g1) (by decide)
  have hncb : ncb ≤ 15625 := by
    rcases hw5 with z | ⟨t, t1, t2⟩
    · omega
    · rw [t2]; exact Nat.le_trans (Nat.pow_le_pow_right (by decide) t1) (by decide)
  have r3 : xgA Ha (some (b + 45)) 9 3 = some (some cb) := gA w1 rfl
  have p9 := hxa.o.2.2.2.2.2.2
  have e5 := S_pow5 (N := N) (H := Ha) (by omega) g1
  by_cases hle : 5 ^ k ≤ ncb
  · obtain ⟨cc, cm', k1, k2, k3⟩ := S_comb25 (N := N) hN hxa hB g3 hk.symm g1 h0 hch hgn hle hncb
    have hcb : cb ≠ b + 45 ∧ cb ≠ b + 46 ∧ cb ≠ b + 47 := by
      refine ⟨fun e => ?_, fun e => ?_, fun e => ?_⟩
      · rw [e, w1] at w4; cases w4
      · rw [e, w2] at w4; cases w4
      · rw [e, w3] at w4; cases w4
    generalize hHb : xup (xup Ha cb (aJ ncb cm')) (b + 45) (wob b k cb (nI cc) x3 x4) = Hb at k1
    have kb : ∀ a, a ≠ cb → a ≠ b + 45 → Hb.1 a = Ha.1 a := fun a a1 a2 => by rw [← hHb, xup_ne _ a2, xup_ne _ a1]
    have hSb : wS b cb ncb k (nI cc) x3 x4 gq gn cm' Hb := ⟨by rw [← hHb]; exact xup_at _, by rw [kb _ hcb.2.1.symm (by omega)]; exact w2, by rw [kb _ hcb.2.2.symm (by omega)]; exact w3, by rw [← hHb, xup_ne _ hcb.1]; exact xup_at _⟩
    have hFb : wF b cb H Hb := by rw [← hHb]; exact (f1.up (by omega)).up (by omega)
    have hne43 : cb ≠ b + 43 ∧ cb ≠ b + 44 := by
      obtain ⟨z1, ⟨gz, z2⟩⟩ := hga
      refine ⟨fun e => ?_, fun e => ?_⟩
      · rw [e, z1] at w4; cases w4
      · rw [e, z2] at w4; cases w4
    have hgb : xGain b Hb := by
      unfold xGain
      rw [kb _ hne43.1.symm (by omega), kb _ hne43.2.symm (by omega)]; exact hga
    have h2b : Hb.2 = H.2 := by rw [← hHb]; exact f2
    refine ⟨Hb, cb, ncb, gq, gn, cc, x3, x4, cm', ?_, hFb, ho.wnS hw0 hm36 hFb h2b hgb (hSb.xw hw5) (Nat.le_succ K), ?_, by rw [h2b]; exact hm36, hSb, k2, hncb, k3, g4⟩
    · rw [g2]
      have r2' : xgI Hb (some (b + 45)) 9 2 = some (nI k) := gI hSb.1 rfl
      unfold F_X9_choose_J93 F_X9_choose_J105 F_X9_combine
      simp only [r2, n0, if_false, p9, e5, r3, leJ w4, nI_le hle (show ncb < 2 ^ 31 by omega), if_true, k1, r2', Option.bind_some, bd2_s]
    · rw [← hHb]
      exact (hWa.up w4).up (by rw [xup_ne _ hcb.1.symm]; exact w1)
  · -- a new array
    have hnle : ¬ nI (5 ^ k) ≤ nI ncb := nI_ge (by omega) (by omega)
    have hnew : xnJ Ha (nI (5 ^ k)) = some (xnw Ha (aJ (5 ^ k) (fun _ => 0)) (5 ^ k)) := by
      have a1 : ¬ nI (5 ^ k) < 0 := nI_pos (by omega)
      have a2 : (nI (5 ^ k)).toNatClampNeg = 5 ^ k := nI_clamp (by omega)
      unfold xnJ
      rw [a2, if_pos ⟨a1, by omega⟩]
    generalize hHn : xnw Ha (aJ (5 ^ k) (fun _ => 0)) (5 ^ k) = Hn at hnew
    have ha21 : Ha.2.1 = H.2.1 := by rw [f2]
    have kn : ∀ a, a ≠ H.2.1 → Hn.1 a = Ha.1 a := fun a h => by rw [← hHn]; show (if a = Ha.2.1 then _ else _) = _; rw [if_neg (by omega)]
    have kq : Hn.1 H.2.1 = some (aJ (5 ^ k) (fun _ => 0)) := by rw [← hHn]; show (if H.2.1 = Ha.2.1 then _ else _) = _; rw [if_pos ha21.symm]
    have hn1 : Hn.1 (b + 45) = _ := (kn _ (by omega)).trans w1
    have pt : xpA Hn (some (b + 45)) 9 3 (some H.2.1) = some (xup Hn (b + 45) (wob b k H.2.1 x2 x3 x4)) := by
      unfold xpA
      rw [pV hn1 (show (3 : Nat) < 7 by decide)]; rfl
    generalize hHo : xup Hn (b + 45) (wob b k H.2.1 x2 x3 x4) = Ho at pt
    have ko : ∀ a, a ≠ H.2.1 → a ≠ b + 45 → Ho.1 a = Ha.1 a := fun a h1 h2 => by rw [← hHo, xup_ne _ h2, kn a h1]
    have hSo : wS b H.2.1 (5 ^ k) k x2 x3 x4 gq gn (fun _ => 0) Ho := ⟨by rw [← hHo]; exact xup_at _, by rw [ko _ (by omega) (by omega)]; exact w2, by rw [ko _ (by omega) (by omega)]; exact w3, by rw [← hHo, xup_ne _ (by omega)]; exact kq⟩
    have hwo2 : Ho.2 = (H.2.1 + 1, H.2.2.1 + 5 ^ k, H.2.2.2) := by
      rw [← hHo, ← hHn]
      show (Ha.2.1 + 1, Ha.2.2.1 + 5 ^ k, Ha.2.2.2) = _
      rw [f2]
    have hFo : wF b cb H Ho := ⟨by rw [hwo2], fun a h1 h2 => by rw [ko a (by omega) (by omega)]; exact f1.2 a h1 h2⟩
    have hgo : xGain b Ho := by
      unfold xGain
      rw [ko _ (by omega) (by omega), ko _ (by omega) (by omega)]; exact hga
    have hnc2 : 2 * ncb ≤ 5 ^ k := by
      rcases hw5 with z | ⟨t, t1, t2⟩
      · omega
      · have : t < k := by
          rcases Nat.lt_or_ge t k with z | z
          · exact z
          · have := Nat.pow_le_pow_right (n := 5) (by decide) z
            omega
        have := p5lt this
        omega
    have hRm := ho.2.2.2.2.2.2.2.2.2.2.2.2.2
    obtain ⟨q1, q2, q3, q4⟩ := id hRm
    have hR' : ∀ Hx : xH, Hx.2 = Ho.2 → Hx.2.1 + dN δ ≤ b + 300 + 40 * (K + 1) ∧ Hx.2.2.1 + 5 * dN δ ≤ 1500000 + 500 * (K + 1) + 4 * n + 2 * 5 ^ k := fun Hx hx => by
      rw [hx, hwo2]
      show H.2.1 + 1 + dN δ ≤ _ ∧ H.2.2.1 + 5 ^ k + 5 * dN δ ≤ _
      omega
    have hcond : (5 ^ k = 0 ∨ ∃ t, t ≤ 6 ∧ 5 ^ k = 5 ^ t) := Or.inr ⟨k, g1, rfl⟩
    have hxo : RXo stf (K + 1) b m c tc tk H.2.1 n nk (5 ^ k) ad β δ Ho := ho.wn hw0 hm36 hFo.1 hFo.2 hgo (hSo.xw hcond) (Or.inr (Nat.le_refl _)) (hR' Ho rfl)
    obtain ⟨cc, cm', k1, k2, k3⟩ := S_comb25 (N := N) hN hxo hB hSo hk.symm g1 h0 hch hgn (Nat.le_refl _) h5k
    generalize hHb : xup (xup Ho H.2.1 (aJ (5 ^ k) cm')) (b + 45) (wob b k H.2.1 (nI cc) x3 x4) = Hb at k1
    have kb : ∀ a, a ≠ H.2.1 → a ≠ b + 45 → Hb.1 a = Ho.1 a := fun a a1 a2 => by rw [← hHb, xup_ne _ a2, xup_ne _ a1]
    have hSb : wS b H.2.1 (5 ^ k) k (nI cc) x3 x4 gq gn cm' Hb := ⟨by rw [← hHb]; exact xup_at _, by rw [kb _ (by omega) (by omega)]; exact hSo.2.1, by rw [kb _ (by omega) (by omega)]; exact hSo.2.2.1, by rw [← hHb, xup_ne _ (by omega)]; exact xup_at _⟩
    have hFb : wF b cb H Hb := by rw [← hHb]; exact (hFo.up (by omega)).up (by omega)
    have hgb : xGain b Hb := by
      unfold xGain
      rw [kb _ (by omega) (by omega), kb _ (by omega) (by omega)]; exact hgo
    have h2b : Hb.2 = Ho.2 := by rw [← hHb]; rfl
    refine ⟨Hb, H.2.1, 5 ^ k, gq, gn, cc, x3, x4, cm', ?_, hFb, ho.wn hw0 hm36 hFb.1 hFb.2 hgb (hSb.xw hcond) (Or.inr (Nat.le_refl _)) (hR' Hb h2b), ?_, by rw [h2b, hwo2]; show m + 36 ≤ H.2.1 + 1; omega, hSb, k2, h5k, k3, g4⟩
    · rw [g2]
      have r2' : xgI Hb (some (b + 45)) 9 2 = some (nI k) := gI hSb.1 rfl
      unfold F_X9_choose_J93 F_X9_choose_J105 F_X9_combine
      simp only [r2, n0, if_false, p9, e5, r3, leJ w4, hnle, hnew, ha21, pt, k1, r2', Option.bind_some, bd2_s]
    · intro a e he
      rw [h2b, hwo2]
      show a < H.2.1 + 1
      by_cases z : a = H.2.1
      · omega
      · by_cases z2 : a = b + 45
        · omega
        · rw [kb a z z2, ko a z z2] at he
          have := hWa a e he
          rw [ha21] at this
          omega
end Win4
