/-! PURE: STEP win: the class chooses, and combines. -/
theorem va_us {g : Nat → Option Nat} {k : Nat} {x : Option Nat} : va_up g k x k = x := if_pos rfl
theorem va_un {g : Nat → Option Nat} {k j : Nat} {x : Option Nat} (h : j ≠ k) : va_up g k x j = g j := if_neg h
def wF (b cb : Nat) (H H' : xH) : Prop := H'.2.2.2 = H.2.2.2 ∧ ∀ a, a < H.2.1 → ¬ (a = b + 44 ∨ a = b + 45 ∨ a = b + 46 ∨ a = b + 47 ∨ a = cb) → H'.1 a = H.1 a
theorem wF.rf {b cb : Nat} {H : xH} : wF b cb H H := ⟨rfl, fun _ _ _ => rfl⟩
theorem wF.up {b cb : Nat} {H H' : xH} (h : wF b cb H H') {a : Nat} {e : xE} (ha : a = b + 44 ∨ a = b + 45 ∨ a = b + 46 ∨ a = b + 47 ∨ a = cb ∨ H.2.1 ≤ a) : wF b cb H (xup H' a e) := ⟨h.1, fun q h1 h2 => by
  rw [xup_ne _ (by omega)]; exact h.2 q h1 h2⟩
def wS (b cb ncb k : Nat) (x2 x3 x4 : Int32) (gq : Nat → Option Nat) (gn : Nat → Int32) (cm : Nat → Int64) (H : xH) : Prop := H.1 (b + 45) = some (wob b k cb x2 x3 x4) ∧ H.1 (b + 46) = some (aQ "BettingBook$Bet" 6 gq) ∧ H.1 (b + 47) = some (aI 6 gn) ∧ H.1 cb = some (aJ ncb cm)
theorem wS.xw {b cb ncb k : Nat} {x2 x3 x4 : Int32} {gq : Nat → Option Nat} {gn : Nat → Int32} {cm : Nat → Int64} {H : xH} (h : wS b cb ncb k x2 x3 x4 gq gn cm H) (hn : ncb = 0 ∨ ∃ t, t ≤ 6 ∧ ncb = 5 ^ t) : xWin b cb ncb H := ⟨⟨nI k, x2, x3, x4, h.1⟩, ⟨gq, h.2.1⟩, ⟨gn, h.2.2.1⟩, ⟨cm, h.2.2.2⟩, hn⟩
theorem p5lt {a c : Nat} (h : a < c) : 5 ^ a * 5 ≤ 5 ^ c := by
  rw [← Nat.pow_succ]
  exact Nat.pow_le_pow_right (by decide) h
/-- where the outcomes of the chosen lie -/
def pl (oc : Nat → Nat → Nat) (ch : Nat → Nat) (c : Nat) : Nat → Nat
  | 0 => 0
  | i + 1 => pl oc ch c i * 5 + oc (ch i) c
theorem pl_lt {oc : Nat → Nat → Nat} {ch : Nat → Nat} {c : Nat} (ho : ∀ w k, oc w k < 5) : ∀ i, pl oc ch c i < 5 ^ i := by
  intro i
  induction i with
  | zero => show 0 < 1; decide
  | succ i ih =>
    have := ho (ch i) c
    simp only [pl]
    rw [Nat.pow_succ]; omega
theorem pl_inj {oc : Nat → Nat → Nat} {ch : Nat → Nat} {c c' : Nat} (ho : ∀ w k, oc w k < 5) : ∀ i, pl oc ch c i = pl oc ch c' i → ∀ j, j < i → oc (ch j) c = oc (ch j) c' := by
  intro i
  induction i with
  | zero => intro _ j hj; omega
  | succ i ih =>
    intro h j hj
    simp only [pl] at h
    have a := ho (ch i) c
    have b := ho (ch i) c'
    have e1 : pl oc ch c i = pl oc ch c' i := by omega
    by_cases e : j = i
    · rw [e]; omega
    · exact ih e1 j (by omega)
/-- a combination of a row's outcomes -/
def isC (β : sB) (P : Nat → Prop) (x : Int64) (c : Nat) : Prop := ∀ w, w < 12 → (w < bW β ∧ P w → d5 x w = 2 ^ boc β w c) ∧ (¬ (w < bW β ∧ P w) → d5 x w = 0)
theorem isC.same {β : sB} {P : Nat → Prop} {x : Int64} {c c' : Nat} (h : isC β P x c) (he : ∀ w, w < bW β → P w → boc β w c = boc β w c') : isC β P x c' := fun w hw => ⟨fun hp => by rw [(h w hw).1 hp, he w hp.1 hp.2], (h w hw).2⟩
theorem isC.ne0 {β : sB} {P : Nat → Prop} {x : Int64} {c w : Nat} (h : isC β P x c) (hw : w < 12) (hp : w < bW β ∧ P w) : ¬ x = 0 := fun e => by
  have := (h w hw).1 hp
  rw [e, d5_0] at this
  have := Nat.pow_pos (n := boc β w c) (by decide : 0 < 2)
  omega
theorem d5_31 {w v : Nat} (hw : w < 12) : d5 ((31 : Int64) <<< (((5 : Int32) * nI w).toInt64 &&& 63)) v = if v = w then 31 else 0 := by
  rw [show (31 : Int64) = (nI 31).toInt64 by decide]
  exact d5_shl (by decide) hw
section Win2
variable {stf : Nat → Nat} {N K b m : Nat} {β : sB} {δ : sD} {H : xH}
variable {c tc tk cb n nk ncb : Nat} {ad : Nat → Nat}
theorem RXo.wnS {K' : Nat} (h : RXo stf K b m c tc tk cb n nk ncb ad β δ H) (hw0 : hW H) (hm36 : m + 36 ≤ H.2.1) {H' : xH} (hF : wF b cb H H') (h2 : H'.2 = H.2) (hg : xGain b H') (hw : xWin b cb ncb H') (hK : K ≤ K') : RXo stf K' b m c tc tk cb n nk ncb ad β δ H' := by
  obtain ⟨-, -, -, -, -, -, -, -, -, -, -, -, -, r1, r2, r3, r4⟩ := id h
  exact h.wn hw0 hm36 hF.1 hF.2 hg hw (Or.inl rfl) (by rw [h2]; omega)
theorem S_choose (hN : 59049 < N) (ho : RXo stf K b m c tc tk cb n nk ncb ad β δ H) (hB : bOk β) (hw0 : hW H) (hm36 : m + 36 ≤ H.2.1) {u : Nat} (hu : u < 2 ^ bW β) : ∃ H' gq gn x2 x3 x4 cm, wF b cb H H' ∧ H'.2 = H.2 ∧ hW H' ∧ H'.1 (b + 44) = H.1 (b + 44) ∧ xWin b cb ncb H' ∧ ((6 < cnt (wP β (dL δ) u) (bW β) ∧ F_X9_choose N (some (b + 45)) (some c) (some (b + 15)) (nI u) H = some (0, H')) ∨ (cnt (wP β (dL δ) u) (bW β) ≤ 6 ∧ F_X9_choose N (some (b + 45)) (some c) (some (b + 15)) (nI u) H = F_X9_choose_J93 N (some (b + 45)) (some (b + 15)) H' ∧ wS b cb ncb (cnt (wP β (dL δ) u) (bW β)) x2 x3 x4 gq gn cm H' ∧ ∀ v, v < bW β → wP β (dL δ) u v → gq (cnt (wP β (dL δ) u) v) = some (ad v) ∧ gn (cnt (wP β (dL δ) u) v) = nI v)) := by
  have t12 := hB.2.2.1
  have hp12 : 2 ^ bW β ≤ 4096 := Nat.le_trans (Nat.pow_le_pow_right (by decide) t12) (by decide)
  obtain ⟨⟨x1, x2, x3, x4, w1⟩, ⟨gq, w2⟩, ⟨gn, w3⟩, ⟨cm, w4⟩, w5⟩ := ho.2.2.2.2.2.2.2.2.2.2.1
  have hgain := ho.2.2.2.2.2.2.2.2.2.1
  have hD := ho.1
  obtain ⟨d1, d2, ⟨d3, d4, d5'⟩, ⟨d6, d7, d8⟩, ⟨d9, d10, d11⟩, -⟩ := id hD
  generalize hP : wP β (dL δ) u = P
  have key := upto (s := bW β) (P := fun f w => ∀ H' gq gn, wF b cb H H' → H'.2 = H.2 → hW H' → H'.1 (b + 44) = H.1 (b + 44) → wS b cb ncb (cnt P w) x2 x3 x4 gq gn cm H' → H'.1 (b + 43) = H.1 (b + 43) → cnt P w ≤ 6 → (∀ v, v < w → P v → gq (cnt P v) = some (ad v) ∧ gn (cnt P v) = nI v) → ∃ H'' gq gn, wF b cb H H'' ∧ H''.2 = H.2 ∧ hW H'' ∧ H''.1 (b + 44) = H.1 (b + 44) ∧ xWin b cb ncb H'' ∧ ((6 < cnt P (bW β) ∧ F_X9_choose_L8 N (F_X9_choose_J93 N) f (some (b + 45)) (some c) (some (b + 15)) (nI u) (nI w) H' = some (0, H'')) ∨ (cnt P (bW β) ≤ 6 ∧ F_X9_choose_L8 N (F_X9_choose_J93 N) f (some (b + 45)) (some c) (some (b + 15)) (nI u) (nI w) H' = F_X9_choose_J93 N (some (b + 45)) (some (b + 15)) H'' ∧ wS b cb ncb (cnt P (bW β)) x2 x3 x4 gq gn cm H'' ∧ ∀ v, v < bW β → P v → gq (cnt P v) = some (ad v) ∧ gn (cnt P v) = nI v))) (fun f H' gq gn f1 f2 fw f3 f4 f5 f6 f7 => by
    have hx := ho.wnS hw0 hm36 f1 f2 (by obtain ⟨a, b'⟩ := hgain; exact ⟨f5.trans a, by rw [f3]; exact b'⟩) (f4.xw w5) (Nat.le_refl K)
    obtain ⟨-, -, q2, -⟩ := hx.k
    refine ⟨H', gq, gn, f1, f2, fw, f3, f4.xw w5, Or.inr ⟨f6, ?_, f4, f7⟩⟩
    rw [show F_X9_choose_L8 N (F_X9_choose_J93 N) (f + 1) = F_X9_choose_J8 N (F_X9_choose_L8 N (F_X9_choose_J93 N) f) (F_X9_choose_J93 N) from rfl]
    simp only [F_X9_choose_J8, q2, nI_le (Nat.le_refl _) (show bW β < 2 ^ 31 by omega), if_true, Option.bind_some, bd2_s]) (fun f w hw ih H' gq gn f1 f2 fw f3 f4 f5 f6 f7 => by
    have hx := ho.wnS hw0 hm36 f1 f2 (by obtain ⟨a, b'⟩ := hgain; exact ⟨f5.trans a, by rw [f3]; exact b'⟩) (f4.xw w5) (Nat.le_refl K)
    obtain ⟨-, -, q2, -⟩ := hx.k
    obtain ⟨p10, p2, p6, p4, p5, p3, p9⟩ := hx.o
    obtain ⟨e1, e2⟩ := bitw (u := u) (w := w) (by omega) (by omega)
    have hsx := S_xSure (N := N) hx t12 hw hB
    rw [show F_X9_choose_L8 N (F_X9_choose_J93 N) (f + 1) = F_X9_choose_J8 N (F_X9_choose_L8 N (F_X9_choose_J93 N) f) (F_X9_choose_J93 N) from rfl]
    simp only [F_X9_choose_J8, F_X9_choose_J87, q2, nI_ge hw (show bW β < 2 ^ 31 by omega), if_false, e1, p6, hsx, nI_1, Option.bind_some, bd2_s]
    have skip : ¬ P w → ∃ H'' gq gn, wF b cb H H'' ∧ H''.2 = H.2 ∧ hW H'' ∧ H''.1 (b + 44) = H.1 (b + 44) ∧ xWin b cb ncb H'' ∧ ((6 < cnt P (bW β) ∧ F_X9_choose_L8 N (F_X9_choose_J93 N) f (some (b + 45)) (some c) (some (b + 15)) (nI u) (nI (w + 1)) H' = some (0, H'')) ∨ (cnt P (bW β) ≤ 6 ∧ F_X9_choose_L8 N (F_X9_choose_J93 N) f (some (b + 45)) (some c) (some (b + 15)) (nI u) (nI (w + 1)) H' = F_X9_choose_J93 N (some (b + 45)) (some (b + 15)) H'' ∧ wS b cb ncb (cnt P (bW β)) x2 x3 x4 gq gn cm H'' ∧ ∀ v, v < bW β → P v → gq (cnt P v) = some (ad v) ∧ gn (cnt P v) = nI v)) := fun hnp => ih H' gq gn f1 f2 fw f3 (by rw [cnt_f hnp]; exact f4) f5 (by rw [cnt_f hnp]; exact f6) (fun v hv hpv => f7 v (by
        by_cases e : v = w
        · rw [e] at hpv; exact absurd hpv hnp
        · omega) hpv)
    by_cases hb : u.testBit w = true
    · have hb1 : ¬ nI (u / 2 ^ w % 2) = 0 := by rw [(tb2 u w).mp hb]; decide
      rw [if_neg hb1]
      by_cases hsu : suW β (dL δ) w
      · rw [bI_t hsu, if_neg (by decide)]
        exact skip (by rw [← hP]; exact fun z => z.2 hsu)
      · have hp : P w := by rw [← hP]; exact ⟨hb, hsu⟩
        rw [bI_f hsu, if_pos rfl]
        obtain ⟨g1, g2, g3, g4⟩ := f4
        have r1 : xgI H' (some (b + 45)) 9 2 = some (nI (cnt P w)) := gI g1 rfl
        have r2 : xgA H' (some (b + 45)) 9 0 = some (some (b + 46)) := gA g1 rfl
        simp only [r1, r2, leQ g2, Option.bind_some, bd2_s]
        by_cases hc6 : cnt P w = 6
        · have n6 : ¬ nI (cnt P w) < nI 6 := by rw [hc6]; decide
          rw [if_neg n6]
          refine ⟨H', gq, gn, f1, f2, fw, f3, (show wS b cb ncb (cnt P w) x2 x3 x4 gq gn cm H' from ⟨g1, g2, g3, g4⟩).xw w5, Or.inl ⟨?_, rfl⟩⟩
          have := cnt_mono P (i := w + 1) (j := bW β) hw
          rw [cnt_t hp] at this
          omega
        · have h6 : cnt P w < 6 := by omega
          rw [if_pos (nI_lt h6 (by decide))]
          obtain ⟨o1, -, -, -⟩ := hx.bt (N := N) hw
          obtain ⟨z1, z2, z3, z4, z5, z6, -⟩ := hx.2.2.2.2.1.2.2.2.2 w hw
          have st : xsA (.object "BettingBook$Bet") 0 H' (some (b + 46)) (nI (cnt P w)) (some (ad w)) = some (xup H' (b + 46) (aQ "BettingBook$Bet" 6 (va_up gq (cnt P w) (some (ad w))))) := by
            have a1 : ¬ (nI (cnt P w) < 0 ∨ 6 ≤ cnt P w) := fun z => z.elim (nI_pos (by omega)) (fun y => by omega)
            have a2 : (nI (cnt P w)).toNatClampNeg = cnt P w := nI_clamp (by omega)
            unfold xsA
            simp only [g2, z6, true_and, a1, not_false_iff, if_true, a2]
          generalize hHa : xup H' (b + 46) (aQ "BettingBook$Bet" 6 (va_up gq (cnt P w) (some (ad w)))) = Ha at st
          have ka : ∀ a, a ≠ b + 46 → Ha.1 a = H'.1 a := fun a ha => by rw [← hHa, xup_ne _ ha]
          have g1a : Ha.1 (b + 45) = _ := (ka _ (by omega)).trans g1
          have g3a : Ha.1 (b + 47) = _ := (ka _ (by omega)).trans g3
          have hs := S_set (N := N) (v := nI w) g3a h6 (by decide)
          generalize hHb : xup Ha (b + 47) (aI 6 (upd gn (cnt P w) (nI w))) = Hb at hs
          have kb : ∀ a, a ≠ b + 47 → Hb.1 a = Ha.1 a := fun a ha => by rw [← hHb, xup_ne _ ha]
          have g1b : Hb.1 (b + 45) = _ := (kb _ (by omega)).trans g1a
          have r3 : xgA Ha (some (b + 45)) 9 1 = some (some (b + 47)) := gA g1a rfl
          have r4 : xgI Ha (some (b + 45)) 9 2 = some (nI (cnt P w)) := gI g1a rfl
          have r5 : xgI Hb (some (b + 45)) 9 2 = some (nI (cnt P w)) := gI g1b rfl
          have pt : xpI Hb (some (b + 45)) 9 2 (nI (cnt P w + 1)) = some (xup Hb (b + 45) (wob b (cnt P w + 1) cb x2 x3 x4)) := by
            unfold xpI
            rw [pV g1b (show (2 : Nat) < 7 by decide)]; rfl
          simp only [p2, S_btI hx t12 hw, st, r3, r4, hs, r5, nI_1, pt, Option.bind_some, bd2_s]
          refine ih _ _ _ (((hHb ▸ (hHa ▸ f1.up (by omega)).up (by omega)) : wF b cb H Hb).up (by omega)) (by rw [← hHb, ← hHa]; exact f2) (((hHb ▸ ((hHa ▸ fw.up g2) : hW Ha).up g3a) : hW Hb).up g1b) (by rw [xup_ne _ (by omega), kb _ (by omega), ka _ (by omega)]; exact f3) ⟨by rw [cnt_t hp]; exact xup_at _, by rw [xup_ne _ (by omega), kb _ (by omega), ← hHa]; exact xup_at _, by rw [xup_ne _ (by omega), ← hHb]; exact xup_at _, by rw [xup_ne _ (by omega), kb _ (by omega), ka _ (by omega)]; exact g4⟩ (by rw [xup_ne _ (by omega), kb _ (by omega), ka _ (by omega)]; exact f5) (by rw [cnt_t hp]; omega) (fun v hv hpv => ?_)
          by_cases e : v = w
          · rw [e, va_us, pk_us]; exact ⟨rfl, rfl⟩
          · have hne : cnt P v ≠ cnt P w := fun z => by
              have := cnt_mono P (i := v + 1) (j := w) (by omega)
              rw [cnt_t hpv] at this
              omega
            rw [va_un hne, pk_un hne]
            exact f7 v (by omega) hpv
    · have hb1 : nI (u / 2 ^ w % 2) = 0 := by
        have : u / 2 ^ w % 2 = 0 := by
          have h1 := (not_congr (tb2 u w)).mp hb
          omega
        rw [this]; rfl
      rw [if_pos hb1]
      exact skip (by rw [← hP]; exact fun z => hb z.1)) N 0 (Nat.zero_le _) (by omega)
  have pt : xpI H (some (b + 45)) 9 2 0 = some (xup H (b + 45) (wob b 0 cb x2 x3 x4)) := by
    unfold xpI
    rw [pV w1 (show (2 : Nat) < 7 by decide)]; rfl
  obtain ⟨H'', gq', gn', k1, k2, kw, k3, k4, k5⟩ := key (xup H (b + 45) (wob b 0 cb x2 x3 x4)) gq gn (wF.rf.up (by omega)) rfl (hw0.up w1) (xup_ne _ (by omega)) ⟨xup_at _, by rw [xup_ne _ (by omega)]; exact w2, by rw [xup_ne _ (by omega)]; exact w3, by rw [xup_ne _ (by omega)]; exact w4⟩ (xup_ne _ (by omega)) (by rw [cnt_0]; omega) (fun v hv => by omega)
  refine ⟨H'', gq', gn', x2, x3, x4, cm, k1, k2, kw, k3, k4, ?_⟩
  unfold F_X9_choose
  rw [pt]
  exact k5
end Win2
