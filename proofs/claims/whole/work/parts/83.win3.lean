/-! PURE: STEP win: the combinations. -/
section Win3
variable {stf : Nat → Nat} {N K b m : Nat} {β : sB} {δ : sD} {H : xH}
variable {c tc tk cb n nk ncb : Nat} {ad : Nat → Nat}
/-- the list of the combinations: each of a row left, for each row left one -/
def cOk (β : sB) (l : sL) (P : Nat → Prop) (cc : Nat) (cm : Nat → Int64) : Prop := (∀ i, i < cc → ∃ k, k < bZ β ∧ lft β l k ∧ isC β P (cm i) k) ∧ ∀ k, k < bZ β → lft β l k → ∃ i, i < cc ∧ isC β P (cm i) k
theorem S_addC (hN : 59049 < N) (hB : bOk β) {P : Nat → Prop} {H' : xH} {k : Nat} {x2 x3 x4 : Int32} {gq : Nat → Option Nat} {gn : Nat → Int32} {cm : Nat → Int64} (hS : wS b cb ncb k x2 x3 x4 gq gn cm H') (hk : k = cnt P (bW β)) (hk6 : k ≤ 6) {ch : Nat → Nat} (hch : chs P (bW β) ch) (hgn : ∀ i, i < k → gn i = nI (ch i)) (hnc : 5 ^ k ≤ ncb) (hn31 : ncb ≤ 15625) {row : Nat} {ex ps lf : Prop} {x : Int64} (hc : cv (bW β) ex ps lf (fun w => boc β w row) x) (he : ex) : ∃ y, F_X9_addCombination N (some (b + 45)) x H' = some (xup H' cb (aJ ncb (vp_updL cm (pl (boc β) ch row k) y))) ∧ isC β P y row := by
  obtain ⟨g1, g2, g3, g4⟩ := hS
  have t12 := hB.2.2.1
  have hoc := hB.2.2.2.2.1
  have r1 : xgI H' (some (b + 45)) 9 2 = some (nI k) := gI g1 rfl
  have r2 : xgA H' (some (b + 45)) 9 1 = some (some (b + 47)) := gA g1 rfl
  have r3 : xgA H' (some (b + 45)) 9 3 = some (some cb) := gA g1 rfl
  have key := upto (s := k) (P := fun f i => ∀ y, (∀ v, v < 12 → d5 y v = @ite _ (∃ j, j < i ∧ ch j = v) (Classical.propDecidable _) (d5 x v) 0) → ∃ y', F_X9_addCombination_L8 N (F_X9_addCombination_J60 N) f (some (b + 45)) x (nI (pl (boc β) ch row i)) y (nI i) H' = some (xup H' cb (aJ ncb (vp_updL cm (pl (boc β) ch row k) y'))) ∧ ∀ v, v < 12 → d5 y' v = @ite _ (∃ j, j < k ∧ ch j = v) (Classical.propDecidable _) (d5 x v) 0) (fun f y hy => ⟨y, by
    have hpl := pl_lt (ch := ch) (c := row) hoc k
    rw [show F_X9_addCombination_L8 N (F_X9_addCombination_J60 N) (f + 1) = F_X9_addCombination_J8 N (F_X9_addCombination_L8 N (F_X9_addCombination_J60 N) f) (F_X9_addCombination_J60 N) from rfl]
    simp only [F_X9_addCombination_J8, F_X9_addCombination_J60, r1, nI_le (Nat.le_refl _) (show k < 2 ^ 31 by omega), if_true, nI_pos (show pl (boc β) ch row k < 2 ^ 31 by omega), if_false, r3, leJ g4, nI_ge (show pl (boc β) ch row k < ncb by omega) (show ncb < 2 ^ 31 by omega), stJ g4 (show pl (boc β) ch row k < ncb by omega) (show ncb < 2 ^ 31 by omega), Option.bind_some, bd2_s], hy⟩) (fun f i hi ih y hy => by
    obtain ⟨c1, c2, c3⟩ := hch.inv (show i < cnt P (bW β) by omega)
    have eo : F_X11_outcome N x (nI (ch i)) H' = some (nI (boc β (ch i) row), H') := S_oc hc he (hoc (ch i) row) c1 t12
    have e5 : nI (pl (boc β) ch row i) * (5 : Int32) + nI (boc β (ch i) row) = nI (pl (boc β) ch row (i + 1)) := by
      rw [show (5 : Int32) = nI 5 from rfl, pk_mul, nI_add]; rfl
    rw [show F_X9_addCombination_L8 N (F_X9_addCombination_J60 N) (f + 1) = F_X9_addCombination_J8 N (F_X9_addCombination_L8 N (F_X9_addCombination_J60 N) f) (F_X9_addCombination_J60 N) from rfl]
    simp only [F_X9_addCombination_J8, r1, nI_ge hi (show k < 2 ^ 31 by omega), if_false, r2, S_at g3 (by decide : 6 < 2 ^ 31), gat_nI (show i < 2 ^ 31 by omega), show i < 6 by omega, if_true, hgn i hi, eo, e5, nI_1, Option.bind_some, bd2_s]
    refine ih _ (fun v hv => ?_)
    rw [d5_or, d5_and, d5_31 (show ch i < 12 by omega), hy v hv]
    by_cases q : v = ch i
    · rw [if_pos q, and31 (d5_lt x v)]
      by_cases q2 : ∃ j, j < i ∧ ch j = v
      · rw [if_pos q2, if_pos (by obtain ⟨j, j1, j2⟩ := q2; exact ⟨j, by omega, j2⟩), Nat.or_self]
      · rw [if_neg q2, if_pos ⟨i, by omega, q.symm⟩, Nat.zero_or]
    · rw [if_neg q, Nat.and_zero, Nat.or_zero]
      by_cases q2 : ∃ j, j < i ∧ ch j = v
      · rw [if_pos q2, if_pos (by obtain ⟨j, j1, j2⟩ := q2; exact ⟨j, by omega, j2⟩)]
      · rw [if_neg q2, if_neg (by
          rintro ⟨j, j1, j2⟩
          by_cases e : j = i
          · rw [e] at j2; exact q j2.symm
          · exact q2 ⟨j, by omega, j2⟩)]) N 0 (Nat.zero_le _) (by omega) 0 (fun v hv => by
    rw [d5_0, if_neg (by rintro ⟨j, j1, -⟩; omega)])
  obtain ⟨y', k1, k2⟩ := key
  refine ⟨y', k1, fun w hw => ⟨fun hp => ?_, fun hp => ?_⟩⟩
  · have hlt : cnt P w < k := by
      have := cnt_mono P (i := w + 1) (j := bW β) hp.1
      rw [cnt_t hp.2] at this
      omega
    rw [k2 w hw, if_pos ⟨cnt P w, hlt, hch w hp.1 hp.2⟩, hc.1 w hw, if_pos hp.1, bN_t he, Nat.one_mul]
  · rw [k2 w hw, if_neg (by
      rintro ⟨j, j1, j2⟩
      obtain ⟨c1, c2, c3⟩ := hch.inv (show j < cnt P (bW β) by omega)
      rw [j2] at c1 c2
      exact hp ⟨c1, c2⟩)]
theorem S_pow5 (hN : 6 < N) {s : Nat} (hs : s ≤ 6) : F_X11_power N 5 (nI s) H = some (nI (5 ^ s), H) := by
  have key := upto (s := s) (P := fun n i => F_X11_power_L4 N n 5 (nI s) (nI (5 ^ i)) (nI i) H = some (nI (5 ^ s), H)) (fun n => by
    rw [show F_X11_power_L4 N (n + 1) = F_X11_power_J4 N (F_X11_power_L4 N n) from rfl]
    simp only [F_X11_power_J4, nI_le (Nat.le_refl _) (show s < 2 ^ 31 by omega), if_true]) (fun n i hi ih => by
    rw [show F_X11_power_L4 N (n + 1) = F_X11_power_J4 N (F_X11_power_L4 N n) from rfl]
    have e : nI (5 ^ i) * (5 : Int32) = nI (5 ^ (i + 1)) := by rw [Nat.pow_succ]; exact pk_mul _ _
    simp only [F_X11_power_J4, nI_ge hi (show s < 2 ^ 31 by omega), if_false, e, nI_1]
    exact ih) N 0 (Nat.zero_le _) (by omega)
  exact key
theorem S_pow3 (hN : 6 < N) {s : Nat} (hs : s ≤ 6) : F_X11_power N 3 (nI s) H = some (nI (3 ^ s), H) := by
  have key := upto (s := s) (P := fun n i => F_X11_power_L4 N n 3 (nI s) (nI (3 ^ i)) (nI i) H = some (nI (3 ^ s), H)) (fun n => by
    rw [show F_X11_power_L4 N (n + 1) = F_X11_power_J4 N (F_X11_power_L4 N n) from rfl]
    simp only [F_X11_power_J4, nI_le (Nat.le_refl _) (show s < 2 ^ 31 by omega), if_true]) (fun n i hi ih => by
    rw [show F_X11_power_L4 N (n + 1) = F_X11_power_J4 N (F_X11_power_L4 N n) from rfl]
    have e : nI (3 ^ i) * (3 : Int32) = nI (3 ^ (i + 1)) := by rw [Nat.pow_succ]; exact pk_mul _ _
    simp only [F_X11_power_J4, nI_ge hi (show s < 2 ^ 31 by omega), if_false, e, nI_1]
    exact ih) N 0 (Nat.zero_le _) (by omega)
  exact key
/-- J25: what is combined into a zeroed array -/
theorem S_comb25 (hN : 59049 < N) {H' : xH} (hx : RXo stf K b m c tc tk cb n nk ncb ad β δ H') (hB : bOk β) {P : Nat → Prop} {k : Nat} {x2 x3 x4 : Int32} {gq : Nat → Option Nat} {gn : Nat → Int32} {cm : Nat → Int64} (hS : wS b cb ncb k x2 x3 x4 gq gn cm H') (hk : k = cnt P (bW β)) (hk6 : k ≤ 6) (hk0 : 0 < k) {ch : Nat → Nat} (hch : chs P (bW β) ch) (hgn : ∀ i, i < k → gn i = nI (ch i)) (hnc : 5 ^ k ≤ ncb) (hn31 : ncb ≤ 15625) : ∃ cc cm', F_X9_combine_J25 N (some (b + 45)) (some (b + 15)) H' = some (xup (xup H' cb (aJ ncb cm')) (b + 45) (wob b k cb (nI cc) x3 x4)) ∧ cc ≤ ncb ∧ cOk β (dL δ) P cc cm' := by
  obtain ⟨g1, g2, g3, g4⟩ := id hS
  have hoc := hB.2.2.2.2.1
  have hpe := hB.2.2.2.1
  have t12 := hB.2.2.1
  have qz := bZ_le hB.1
  have hD := hx.1
  obtain ⟨d1, d2, ⟨d3, d4, d5'⟩, ⟨d6, d7, d8⟩, ⟨d9, d10, d11⟩, -⟩ := id hD
  have hcb : cb ≠ b + 45 ∧ cb ≠ b + 46 ∧ cb ≠ b + 47 := by
    refine ⟨fun e => ?_, fun e => ?_, fun e => ?_⟩
    · rw [e, g1] at g4; cases g4
    · rw [e, g2] at g4; cases g4
    · rw [e, g3] at g4; cases g4
  have hxs : ∀ g, RXo stf K b m c tc tk cb n nk ncb ad β δ (xup H' cb (aJ ncb g)) := fun g => hx.sc (sc.upJ (by unfold SX; omega) g4)
  have hSs : ∀ g, wS b cb ncb k x2 x3 x4 gq gn g (xup H' cb (aJ ncb g)) := fun g => ⟨by rw [xup_ne _ hcb.1.symm]; exact g1, by rw [xup_ne _ hcb.2.1.symm]; exact g2, by rw [xup_ne _ hcb.2.2.symm]; exact g3, xup_at _⟩
  have hpl : ∀ row, pl (boc β) ch row k < 5 ^ k := fun row => pl_lt hoc k
  have hsame : ∀ r r', pl (boc β) ch r k = pl (boc β) ch r' k → ∀ w, w < bW β → P w → boc β w r = boc β w r' := fun r r' e w hw hp => by
    have hlt : cnt P w < k := by
      have := cnt_mono P (i := w + 1) (j := bW β) hw
      rw [cnt_t hp] at this
      omega
    have := pl_inj hoc k e (cnt P w) hlt
    rwa [hch w hw hp] at this
  obtain ⟨c1, c2, c3⟩ := hch.inv (show 0 < cnt P (bW β) by omega)
  -- the compaction
  have comp : ∀ C : Nat → Int64, (∀ p, p < ncb → (C p = 0 ∨ ∃ r, r < bZ β ∧ lft β (dL δ) r ∧ isC β P (C p) r)) → (∀ r, r < bZ β → lft β (dL δ) r → ∃ p, p < ncb ∧ isC β P (C p) r) → ∃ cc cm', F_X9_combine_J73 N (some (b + 45)) (xup H' cb (aJ ncb C)) = some (xup (xup H' cb (aJ ncb cm')) (b + 45) (wob b k cb (nI cc) x3 x4)) ∧ cc ≤ ncb ∧ cOk β (dL δ) P cc cm' := by
    intro C hC1 hC2
    have wk : ∀ g y, (xup (xup H' cb (aJ ncb g)) (b + 45) (wob b k cb y x3 x4)).1 cb = some (aJ ncb g) := fun g y => by rw [xup_ne _ hcb.1]; exact xup_at _
    have wo : ∀ g y, (xup (xup H' cb (aJ ncb g)) (b + 45) (wob b k cb y x3 x4)).1 (b + 45) = some (wob b k cb y x3 x4) := fun g y => xup_at _
    have wsw : ∀ g g' y y', xup (xup (xup (xup H' cb (aJ ncb g)) (b + 45) (wob b k cb y x3 x4)) cb (aJ ncb g')) (b + 45) (wob b k cb y' x3 x4) = xup (xup H' cb (aJ ncb g')) (b + 45) (wob b k cb y' x3 x4) := fun g g' y y' => xW hcb.1
    have loop := upto (s := ncb) (P := fun f i => ∀ g cc, cc ≤ i → (∀ p, i ≤ p → p < ncb → g p = C p) → (∀ j, j < cc → ∃ r, r < bZ β ∧ lft β (dL δ) r ∧ isC β P (g j) r) → (∀ p, p < i → ¬ C p = 0 → ∃ j, j < cc ∧ g j = C p) → ∃ cc' cm', F_X9_combine_L90 N f (some (b + 45)) (some cb) (nI ncb) (nI i) (xup (xup H' cb (aJ ncb g)) (b + 45) (wob b k cb (nI cc) x3 x4)) = some (xup (xup H' cb (aJ ncb cm')) (b + 45) (wob b k cb (nI cc') x3 x4)) ∧ cc' ≤ ncb ∧ cOk β (dL δ) P cc' cm') (fun f g cc h1 h2 h3 h4 => ⟨cc, g, by
      rw [show F_X9_combine_L90 N (f + 1) = F_X9_combine_J90 N (F_X9_combine_L90 N f) from rfl]
      simp only [F_X9_combine_J90, nI_le (Nat.le_refl _) (show ncb < 2 ^ 31 by omega), if_true], h1, h3, fun r hr hl => by
      obtain ⟨p, p1, p2⟩ := hC2 r hr hl
      obtain ⟨j, j1, j2⟩ := h4 p p1 (p2.ne0 (by omega) ⟨c1, c2⟩)
      exact ⟨j, j1, by rw [j2]; exact p2⟩⟩) (fun f i hi ih g cc h1 h2 h3 h4 => by
      have rd : xlJ (xup (xup H' cb (aJ ncb g)) (b + 45) (wob b k cb (nI cc) x3 x4)) (some cb) (nI i) = some (C i) := by rw [rdJ (wk g _) hi (show ncb < 2 ^ 31 by omega), h2 i (Nat.le_refl _) hi]
      have r1 : xgI (xup (xup H' cb (aJ ncb g)) (b + 45) (wob b k cb (nI cc) x3 x4)) (some (b + 45)) 9 4 = some (nI cc) := gI (wo g _) rfl
      have r2 : xgA (xup (xup H' cb (aJ ncb g)) (b + 45) (wob b k cb (nI cc) x3 x4)) (some (b + 45)) 9 3 = some (some cb) := gA (wo g _) rfl
      rw [show F_X9_combine_L90 N (f + 1) = F_X9_combine_J90 N (F_X9_combine_L90 N f) from rfl]
      simp only [F_X9_combine_J90, F_X9_combine_J143, nI_ge hi (show ncb < 2 ^ 31 by omega), if_false, rd, lgc, nI_1, Option.bind_some, bd2_s]
      by_cases hz : C i = 0
      · rw [if_pos hz]
        exact ih g cc (by omega) (fun p p1 p2 => h2 p (by omega) p2) h3 (fun p p1 p2 => by
          by_cases e : p = i
          · rw [e] at p2; exact absurd hz p2
          · exact h4 p (by omega) p2)
      · rw [if_neg hz]
        have ws : ∀ y, xsJ (xup (xup H' cb (aJ ncb g)) (b + 45) (wob b k cb (nI cc) x3 x4)) (some cb) (nI cc) y = some (xup (xup (xup H' cb (aJ ncb g)) (b + 45) (wob b k cb (nI cc) x3 x4)) cb (aJ ncb (vp_updL g cc y))) := fun y => stJ (wk g _) (by omega) (by omega)
        have wo2 : ∀ y, (xup (xup (xup H' cb (aJ ncb g)) (b + 45) (wob b k cb (nI cc) x3 x4)) cb y).1 (b + 45) = some (wob b k cb (nI cc) x3 x4) := fun y => by rw [xup_ne _ hcb.1.symm]; exact xup_at _
        have r3 : ∀ y, xgI (xup (xup (xup H' cb (aJ ncb g)) (b + 45) (wob b k cb (nI cc) x3 x4)) cb y) (some (b + 45)) 9 4 = some (nI cc) := fun y => gI (wo2 y) rfl
        have pt : ∀ y, xpI (xup (xup (xup H' cb (aJ ncb g)) (b + 45) (wob b k cb (nI cc) x3 x4)) cb y) (some (b + 45)) 9 4 (nI (cc + 1)) = some (xup (xup (xup (xup H' cb (aJ ncb g)) (b + 45) (wob b k cb (nI cc) x3 x4)) cb y) (b + 45) (wob b k cb (nI (cc + 1)) x3 x4)) := fun y => by
          unfold xpI
          rw [pV (wo2 y) (show (4 : Nat) < 7 by decide)]; rfl
        simp only [r1, r2, leJ (wk g _), nI_ge (show cc < ncb by omega) (show ncb < 2 ^ 31 by omega), if_false, ws, r3, nI_1, pt, wsw, Option.bind_some, bd2_s]
        refine ih _ (cc + 1) (by omega) (fun p p1 p2 => by rw [pk_uLn (by omega)]; exact h2 p (by omega) p2) (fun j hj => ?_) (fun p p1 p2 => ?_)
        · by_cases e : j = cc
          · rw [e, pk_uLs]
            rcases hC1 i hi with z | z
            · exact absurd z hz
            · exact z
          · rw [pk_uLn e]; exact h3 j (by omega)
        · by_cases e : p = i
          · exact ⟨cc, by omega, by rw [e, pk_uLs]⟩
          · obtain ⟨j, j1, j2⟩ := h4 p (by omega) p2
            exact ⟨j, by omega, by rw [pk_uLn (by omega)]; exact j2⟩) N 0 (Nat.zero_le _) (by omega) C 0 (Nat.le_refl _) (fun p _ _ => rfl) (fun j hj => by omega) (fun p hp => by omega)
    obtain ⟨cc', cm', k1, k2, k3⟩ := loop
    refine ⟨cc', cm', ?_, k2, k3⟩
    have o1 : (xup H' cb (aJ ncb C)).1 (b + 45) = _ := (hSs C).1
    have pt : xpI (xup H' cb (aJ ncb C)) (some (b + 45)) 9 4 0 = some (xup (xup H' cb (aJ ncb C)) (b + 45) (wob b k cb 0 x3 x4)) := by
      unfold xpI
      rw [pV o1 (show (4 : Nat) < 7 by decide)]; rfl
    have r2 : xgA (xup (xup H' cb (aJ ncb C)) (b + 45) (wob b k cb 0 x3 x4)) (some (b + 45)) 9 3 = some (some cb) := gA (wo C _) rfl
    unfold F_X9_combine_J73
    simp only [pt, r2, leJ (wk C _), Option.bind_some, bd2_s]
    exact k1
  -- the rows
  have rows := upto (s := bZ β) (P := fun f i => ∀ C : Nat → Int64, (∀ p, p < ncb → (C p = 0 ∨ ∃ r, r < bZ β ∧ lft β (dL δ) r ∧ pl (boc β) ch r k = p ∧ isC β P (C p) r)) → (∀ r, r < i → lft β (dL δ) r → isC β P (C (pl (boc β) ch r k)) r) → ∃ cc cm', F_X9_combine_L35 N (F_X9_combine_J73 N) f (some (b + 45)) (some (b + 15)) (nI i) (xup H' cb (aJ ncb C)) = some (xup (xup H' cb (aJ ncb cm')) (b + 45) (wob b k cb (nI cc) x3 x4)) ∧ cc ≤ ncb ∧ cOk β (dL δ) P cc cm') (fun f C h1 h2 => by
    obtain ⟨cl', cert', tt', hc', hs', hs2', u0', u1', u2', u3', u4'⟩ := (hxs C).t
    rw [show F_X9_combine_L35 N (F_X9_combine_J73 N) (f + 1) = F_X9_combine_J35 N (F_X9_combine_L35 N (F_X9_combine_J73 N) f) (F_X9_combine_J73 N) from rfl]
    simp only [F_X9_combine_J35, u1', nI_le (Nat.le_refl _) (show bZ β < 2 ^ 31 by omega), if_true, Option.bind_some, bd2_s]
    exact comp C (fun p hp => (h1 p hp).imp id (fun ⟨r, r1, r2, r3, r4⟩ => ⟨r, r1, r2, r4⟩)) (fun r hr hl => ⟨_, by have := hpl r; omega, h2 r hr hl⟩)) (fun f i hi ih C h1 h2 => by
    obtain ⟨cl', cert', tt', hc', hs', hs2', u0', u1', u2', u3', u4'⟩ := (hxs C).t
    obtain ⟨p10, p2, p6, p4, p5, p3, p9⟩ := (hxs C).o
    rw [show F_X9_combine_L35 N (F_X9_combine_J73 N) (f + 1) = F_X9_combine_J35 N (F_X9_combine_L35 N (F_X9_combine_J73 N) f) (F_X9_combine_J73 N) from rfl]
    simp only [F_X9_combine_J35, F_X9_combine_J67, u1', p6, nI_ge hi (show bZ β < 2 ^ 31 by omega), if_false, S_cellAt tt' hi, lgc, nI_1, Option.bind_some, bd2_s]
    by_cases hl : lft β (dL δ) i
    · obtain ⟨y, y1, y2⟩ := S_addC (N := N) hN hB (hSs C) hk hk6 hch hgn hnc hn31 (hc' i hi) (hpe i hi hl.1)
      rw [xup_up] at y1
      simp only [cvl1 (hc' i hi) hl, if_false, p9, y1, Option.bind_some, bd2_s]
      refine ih _ (fun p hp => ?_) (fun r hr hrl => ?_)
      · by_cases e : p = pl (boc β) ch i k
        · rw [e, pk_uLs]; exact Or.inr ⟨i, hi, hl, rfl, y2⟩
        · rw [pk_uLn e]; exact h1 p hp
      · by_cases e : pl (boc β) ch r k = pl (boc β) ch i k
        · rw [e, pk_uLs]; exact y2.same (hsame i r e.symm)
        · rw [pk_uLn e]
          have : r ≠ i := fun z => e (by rw [z])
          exact h2 r (by omega) hrl
    · simp only [cvl0 (hc' i hi) hl, if_true]
      exact ih C h1 (fun r hr hrl => by
        by_cases e : r = i
        · rw [e] at hrl; exact absurd hrl hl
        · exact h2 r (by omega) hrl)) N 0 (Nat.zero_le _) (by omega)
  obtain ⟨g0, z1, z2⟩ := S_fillJ (N := N) (H := H') (k := ncb) (by omega) (by omega) g4 0
  obtain ⟨cc, cm', k1, k2, k3⟩ := rows g0 (fun p hp => Or.inl (z2 p hp)) (fun r hr => by omega)
  refine ⟨cc, cm', ?_, k2, k3⟩
  have r2 : xgA H' (some (b + 45)) 9 3 = some (some cb) := gA g1 rfl
  unfold F_X9_combine_J25
  simp only [r2, z1, Option.bind_some, bd2_s]
  exact k1
end Win3
