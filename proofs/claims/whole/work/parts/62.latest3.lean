/-! PURE: STEP latest. -/
section Latest3
variable {stf : Nat → Nat} {N K b m : Nat} {β : sB} {δ : sD} {H : xH}
/-- a class's first value -/
noncomputable def bas (ps lf : Prop) (o : Nat) : Nat := (@ite _ ps (Classical.propDecidable _) (2 ^ o) 0) ||| (@ite _ lf (Classical.propDecidable _) 32 0)
theorem bas_lt {ps lf : Prop} {o : Nat} (ho : o < 5) : bas ps lf o < 64 := by
  have h1 : (@ite _ ps (Classical.propDecidable _) (2 ^ o) 0) < 2 ^ 6 := by
    by_cases h : ps
    · rw [if_pos h]; exact Nat.pow_lt_pow_right (by decide) (by omega)
    · rw [if_neg h]; decide
  have h2 : (@ite _ lf (Classical.propDecidable _) 32 0) < 2 ^ 6 := by
    by_cases h : lf
    · rw [if_pos h]; decide
    · rw [if_neg h]; decide
  exact Nat.or_lt_two_pow h1 h2
theorem bas_bit {ps lf : Prop} {o b : Nat} (hb : b < 5) : (bas ps lf o).testBit b = true ↔ ps ∧ o = b := by
  unfold bas
  rw [Nat.testBit_or, Bool.or_eq_true]
  have h2 : ¬ (@ite Nat lf (Classical.propDecidable _) 32 0).testBit b = true := by
    by_cases h : lf
    · rw [if_pos h, show (32 : Nat) = 2 ^ 5 from rfl, Nat.testBit_two_pow]; simp; omega
    · rw [if_neg h]; simp
  by_cases h : ps
  · rw [if_pos h, Nat.testBit_two_pow, decide_eq_true_eq]
    exact ⟨fun z => ⟨h, z.resolve_right h2⟩, fun z => Or.inl z.2⟩
  · rw [if_neg h]
    exact ⟨fun z => z.elim (fun y => by simp at y) (fun y => absurd y h2), fun z => absurd z.1 h⟩
theorem bas_5 {ps lf : Prop} {o : Nat} (ho : o < 5) : (bas ps lf o).testBit 5 = true ↔ lf := by
  unfold bas
  rw [Nat.testBit_or, Bool.or_eq_true]
  have h1 : ¬ (@ite Nat ps (Classical.propDecidable _) (2 ^ o) 0).testBit 5 = true := by
    by_cases h : ps
    · rw [if_pos h, Nat.testBit_two_pow]; simp; omega
    · rw [if_neg h]; simp
  by_cases h : lf
  · rw [if_pos h]
    exact ⟨fun _ => h, fun _ => Or.inr (by decide)⟩
  · rw [if_neg h]
    exact ⟨fun z => z.elim (fun y => absurd y h1) (fun y => by simp at y), fun z => absurd z h⟩
theorem cI_0 {T : Nat} {ps lf : Nat → Prop} {oc : Nat → Nat} (ho : ∀ c, oc c < 5) : cI T ps lf oc (tht 7 0) (fun p => bas (ps p) (lf p) (oc p)) := by
  have hE : ∀ c p, c < 9 ^ T → p < 9 ^ T → eE T (tht 7 0) c p → c = p := fun c p hc hp h => dig_ext hc hp (fun k hk => by
    have := h k hk
    have a := dig_lt c k
    have b := dig_lt p k
    simp only [tht, fl, Nat.not_lt_zero, if_false] at this
    rw [if_pos (show dig c k ≤ 7 + 1 by omega), if_pos (show dig p k ≤ 7 + 1 by omega)] at this
    exact this)
  refine ⟨fun p hp => ⟨bas_lt (ho p), fun _ b1 h1 b2 h2 t1 t2 => ((bas_bit h1).mp t1).2.symm.trans ((bas_bit h2).mp t2).2⟩, fun p hp => ⟨fun b hb h1 => ⟨p, hp, fun j hj => rfl, (bas_bit hb).mp h1⟩, fun h1 => ⟨p, hp, fun j hj => rfl, (bas_5 (ho p)).mp h1⟩⟩, fun p hp hca c hc h => ?_⟩
  rw [hE c p hc hp h]
  exact ⟨fun h1 => (bas_bit (ho p)).mpr ⟨h1, rfl⟩, fun h1 => (bas_5 (ho p)).mpr h1⟩
theorem nI_dm (d : Nat) : nI d + (-1) = nI d - 1 := by rw [Int32.sub_eq_add_neg]
theorem T_latest (hN : 59049 < N) (h : Rel stf K b m β δ H) (x : Int32) : xStep stf K b m (F_X11_latest N (some b) x) (F_X12_latest N (some m) x) H := by
  obtain ⟨⟨⟨c, tc, tk, cb, n, nk, ncb, ad, ho⟩, -⟩, v, hm⟩ := id h
  obtain ⟨g0, g1, g2, g3, g4, g5, g6, g7, g8, g9, g10, g11, g12, g13, g14⟩ := ho.g
  obtain ⟨o10, o2, o6, o4, o5, o3, o9⟩ := ho.o
  obtain ⟨k0, k1, k2, k4, k6, k7, k12⟩ := ho.k
  have q := hm.mq
  have qo := q.ob
  have qz := q.z
  obtain ⟨v0, v1, v2, v3, v46, t5, t6, t12⟩ := q.ac
  obtain ⟨cl, cert, tt, hc, hs, hs2, u0, u1, u2, u3, u4⟩ := ho.t
  rcases ix3 x (show bW β < 2 ^ 31 by omega) with hx | ⟨w, hw, rfl⟩
  · exact xStep.rd (r := -1) h (by simp only [F_X11_latest, g5, o2, S_btO ho hx, if_true, Option.bind_some, bd2_s]) (by simp only [F_X12_latest, qo, S_mWO q hx, if_true, Option.bind_some, bd2_s])
  have hocw := hm.2.1.2.2.2.2.1 w
  have hpe := hm.2.1.2.2.2.1
  obtain ⟨⟨gk, hgk⟩, kA, kB, kC⟩ := ho.ck
  have hos : ∀ g, RXo stf K b m c tc tk cb n nk ncb ad β δ (xup H tk (aB nk g)) := fun g => ho.tkU hgk
  generalize hB : cBad (bT β) (bps β) (lft β (dL δ)) (boc β w) = B
  -- the class: what is laid
  have dec : ∀ n d, d ≤ 7 → d < n → ∀ g cl, rp (bZ β) g cl → cI (bT β) (bps β) (lft β (dL δ)) (boc β w) (tht d 0) cl → ∃ g', F_X6_lastDecided_L71 N n (some (b + 15)) (nI d) (xup H tk (aB nk g)) = some (nI (ltA B d), xup H tk (aB nk g')) := by
    intro n
    induction n with
    | zero => intro d h1 h2; omega
    | succ n ih =>
      intro d hd hn g cl hr hI
      have o6s := (hos g).o.2.2.1
      rcases d with _ | d
      · refine ⟨g, ?_⟩
        simp only [F_X6_lastDecided_L71, F_X6_lastDecided_J71, show nI 0 ≤ 0 from by decide, if_true]
        rfl
      · obtain ⟨r, g', q1, q2⟩ := S_forgetDay (N := N) ho t5 hN (show d + 1 < 8 by omega) hocw (fun c h => h.1) ⟨gk, hgk⟩ hr hI
        simp only [F_X6_lastDecided_L71, F_X6_lastDecided_J71, nI_nle (show 0 < d + 1 by omega) (show d + 1 < 2 ^ 31 by omega), if_false, o6s, q1, Option.bind_some, bd2_s]
        rcases q2 with ⟨rfl, cl', r1, r2⟩ | ⟨rfl, r1⟩
        · rw [if_neg (by decide), nI_dm, nI_pred]
          have hno : ¬ B d := by rw [← hB]; exact cI_ok (by omega) hocw (fun c h => h.1) r2
          rw [ltA_f hno]
          exact ih d (by omega) (by omega) g' cl' r1 (cI_next r2)
        · rw [if_pos rfl]
          have hyes : B d := by rw [← hB]; exact r1
          rw [ltA_t hyes]
          exact ⟨g', rfl⟩
  have L1 : ∀ n i, i ≤ bZ β → bZ β - i < n → ∀ g, (∀ p, p < i → g p = nI (bas (bps β p) (lft β (dL δ) p) (boc β w p))) → ∃ g', F_X6_lastDecided_L2 N (F_X6_lastDecided_J68 N) n (some (b + 15)) (nI w) (nI i) (xup H tk (aB nk g)) = some (nI (ltA B 7), xup H tk (aB nk g')) := by
    refine upto (s := bZ β) (P := fun n i => ∀ g, (∀ p, p < i → g p = nI (bas (bps β p) (lft β (dL δ) p) (boc β w p))) → ∃ g', F_X6_lastDecided_L2 N (F_X6_lastDecided_J68 N) n (some (b + 15)) (nI w) (nI i) (xup H tk (aB nk g)) = some (nI (ltA B 7), xup H tk (aB nk g'))) (fun n g hg => ?_) (fun n i hi ih g hg => ?_)
    · obtain ⟨cl', cert', tt', hc', hs', hs2', u0', u1', u2', u3', u4'⟩ := (hos g).t
      simp only [F_X6_lastDecided_L2, F_X6_lastDecided_J2, F_X6_lastDecided_J68, u1', Option.bind_some, bd2_s, nI_le (Nat.le_refl _) (show bZ β < 2 ^ 31 by omega), if_true]
      exact dec N 7 (by omega) (by omega) g _ hg (cI_0 hocw)
    · obtain ⟨cl', cert', tt', hc', hs', hs2', u0', u1', u2', u3', u4'⟩ := (hos g).t
      have o6s := (hos g).o.2.2.1
      have hat : (xup H tk (aB nk g)).1 tk = some (aB nk g) := xup_at _
      have hb := bas_lt (ps := bps β i) (lf := lft β (dL δ) i) (hocw i)
      have fin : ∃ g', ((F_X6_setClass N (some (b + 15)) (nI i) (nI (bas (bps β i) (lft β (dL δ) i) (boc β w i))) (xup H tk (aB nk g))).bind fun H1 => F_X6_lastDecided_L2 N (F_X6_lastDecided_J68 N) n (some (b + 15)) (nI w) (nI i + 1) H1) = some (nI (ltA B 7), xup H tk (aB nk g')) := by
        rw [S_clSet (hos g) hat (show i < nk by omega) hb]
        simp only [Option.bind_some, bd2_s, xup_up, nI_1]
        exact ih _ (fun p hp => by
          by_cases e : p = i
          · rw [e, pk_us]
          · rw [pk_un e]; exact hg p (by omega))
      simp only [F_X6_lastDecided_L2, F_X6_lastDecided_J2, F_X6_lastDecided_J35, F_X6_lastDecided_J59, u1', Option.bind_some, bd2_s, nI_ge hi (show bZ β < 2 ^ 31 by omega), if_false, o6s, S_cellAt tt' hi, lgc, S_obits]
      by_cases hp : bps β i
      · simp only [cvp1 (hc' i hi) hp, if_false, S_ob (hc' i hi) (hpe i hi hp) hw t12]
        by_cases hl : lft β (dL δ) i
        · have e : nI (2 ^ boc β w i) ||| (32 : Int32) = nI (bas (bps β i) (lft β (dL δ) i) (boc β w i)) := by
            unfold bas
            rw [if_pos hp, if_pos hl]
            exact nI_or
          simp only [cvl1 (hc' i hi) hl, if_false, e]
          exact fin
        · have e : nI (2 ^ boc β w i) = nI (bas (bps β i) (lft β (dL δ) i) (boc β w i)) := by
            unfold bas
            rw [if_pos hp, if_neg hl, Nat.or_zero]
          simp only [cvl0 (hc' i hi) hl, if_true, e]
          exact fin
      · have hl : ¬ lft β (dL δ) i := fun z => hp z.1
        have e : (0 : Int32) = nI (bas (bps β i) (lft β (dL δ) i) (boc β w i)) := by
          unfold bas
          rw [if_neg hp, if_neg hl]; rfl
        simp only [cvp0 (hc' i hi) hp, cvl0 (hc' i hi) hl, if_true]
        rw [e]
        exact fin
  obtain ⟨gx, hgx⟩ := L1 N 0 (Nat.zero_le _) (by omega) gk (fun p hp => by omega)
  rw [xup_id hgk] at hgx
  have C1 : F_X11_latest N (some b) (nI w) H = some (nI (ltA B 7), xup H tk (aB nk gx)) := by
    simp only [F_X11_latest, g5, o2, S_btI ho t12 hw, reduceCtorEq, if_false, g6, o6, F_X6_lastDecided, Option.bind_some, bd2_s]
    rw [show F_X6_lastDecided_L2 N (F_X6_lastDecided_J68 N) N (some (b + 15)) (nI w) (0 : Int32) H = _ from hgx]
    rfl
  -- the reference, over what the class left
  have hsc : sc (SX b tk cb) H (xup H tk (aB nk gx)) := sc.upI (by unfold SX; omega) hgk
  generalize hH1 : xup H tk (aB nk gx) = H1 at C1 hsc
  have hm1 : mR m v β δ H1 := hm.1.x ho.1 hsc
  have q : mQ m v β (dL δ) H1 := (show CM K m v β δ H1 from ⟨hm1, hm.2⟩).mq
  obtain ⟨gd, hgd⟩ : ∃ g, H1.1 (m + 27) = some (aI 59049 g) := hm1.2.2.2.2.2.2.2.2.2.2.2.2.2.2.2.2.2.2.1
  have hqs : ∀ g, mQ m v β (dL δ) (xup H1 (m + 27) (aI 59049 g)) := fun g => q.s (mS.sc q.1.1 (sc.upI (Or.inr (Or.inr (Or.inl rfl))) hgd))
  have ref : ∀ n d, d ≤ 7 → d < n → ∀ g, ∃ g', F_X12_latest_L13 N (F_X12_latest_J58 N) n (some m) (nI w) (nI d - 1) (xup H1 (m + 27) (aI 59049 g)) = some (nI (ltA B d), xup H1 (m + 27) (aI 59049 g')) := by
    intro n
    induction n with
    | zero => intro d h1 h2; omega
    | succ n ih =>
      intro d hd hn g
      rcases d with _ | d
      · refine ⟨g, ?_⟩
        simp only [F_X12_latest_L13, F_X12_latest_J13, show nI 0 - 1 < 0 from by decide, if_true]
        rfl
      · obtain ⟨g', g1, g2⟩ := S_begins (N := N) hN (hqs g) hw (show d ≤ 7 by omega) (xup_at _)
        rw [xup_up] at g1
        have q' := hqs g'
        have hat : (xup H1 (m + 27) (aI 59049 g')).1 (m + 27) = some (aI 59049 g') := xup_at _
        simp only [F_X12_latest_L13, F_X12_latest_J13, nI_pred, nI_pos (show d < 2 ^ 31 by omega), if_false, (hqs g).ob, g1, Option.bind_some, bd2_s]
        have hU : ∀ i, i < bZ β → (g' (tl (bT β) d i) = 5000 ↔ ∃ k k', k < bZ β ∧ k' < bZ β ∧ bps β k ∧ bps β k' ∧ tl (bT β) d k = tl (bT β) d i ∧ tl (bT β) d k' = tl (bT β) d i ∧ boc β w k ≠ boc β w k') := fun i hi => dcd_U hm.2.1 hw (g2 _ (tl_lt _ _ _))
        have inn : ∀ n' i, i ≤ bZ β → bZ β - i < n' → (∀ j, j < i → lft β (dL δ) j → ¬ g' (tl (bT β) d j) = 5000) → ∃ g'', F_X12_latest_L25 N (F_X12_latest_J58 N) (F_X12_latest_J68 N (F_X12_latest_L13 N (F_X12_latest_J58 N) n)) n' (some m) (nI w) (nI d) (nI i) (xup H1 (m + 27) (aI 59049 g')) = some (nI (ltA B (d + 1)), xup H1 (m + 27) (aI 59049 g'')) := by
          refine upto (s := bZ β) (P := fun n' i => (∀ j, j < i → lft β (dL δ) j → ¬ g' (tl (bT β) d j) = 5000) → ∃ g'', F_X12_latest_L25 N (F_X12_latest_J58 N) (F_X12_latest_J68 N (F_X12_latest_L13 N (F_X12_latest_J58 N) n)) n' (some m) (nI w) (nI d) (nI i) (xup H1 (m + 27) (aI 59049 g')) = some (nI (ltA B (d + 1)), xup H1 (m + 27) (aI 59049 g''))) (fun n' hno => ?_) (fun n' i hi ih2 hno => ?_)
          · simp only [F_X12_latest_L25, F_X12_latest_J25, F_X12_latest_J68, q'.rows, Option.bind_some, bd2_s, nI_le (Nat.le_refl _) (show bZ β < 2 ^ 31 by omega), if_true]
            have : ¬ B d := by
              rw [← hB]
              rintro ⟨c, c1, c2, k, k', k1, l1, k3, l3, k4, l4, hne⟩
              exact hno c c1 c2 ((hU c c1).mpr ⟨k, k', k1, l1, k3, l3, k4, l4, hne⟩)
            rw [ltA_f this, nI_dm]
            exact ih d (by omega) (by omega) g'
          · have hkl : tl (bT β) d i < bZ β := tl_lt _ _ _
            simp only [F_X12_latest_L25, F_X12_latest_J25, F_X12_latest_J62, q'.rows, q'.ob, Option.bind_some, bd2_s, nI_ge hi (show bZ β < 2 ^ 31 by omega), if_false, q'.lf (by omega : 5 < N) hi, nI_1]
            by_cases hl : lft β (dL δ) i
            · simp only [bI_t hl, show ¬ (1 : Int32) = 0 by decide, if_false, gA q'.1.1 ma50, S_till (N := N) (by omega) q' hi (show d ≤ 7 by omega), rdI hat (show tl (bT β) d i < 59049 by omega) (by decide), Option.bind_some, bd2_s]
              by_cases hu : g' (tl (bT β) d i) = 5000
              · rw [if_pos hu]
                have : B d := by
                  obtain ⟨k, k', k1, k2, k3, k4, k5, k6, k7⟩ := (hU i hi).mp hu
                  rw [← hB]
                  exact ⟨i, hi, hl, k, k', k1, k2, k3, k4, k5, k6, k7⟩
                rw [ltA_t this]
                exact ⟨g', by simp only [F_X12_latest_J58]; rw [show nI d + (1 : Int32) = nI (d + 1) from nI_1 d]⟩
              · rw [if_neg hu]
                exact ih2 (fun j hj hlj => by
                  by_cases e : j = i
                  · rw [e]; exact hu
                  · exact hno j (by omega) hlj)
            · simp only [bI_f hl, if_true]
              exact ih2 (fun j hj hlj => by
                by_cases e : j = i
                · rw [e] at hlj; exact absurd hlj hl
                · exact hno j (by omega) hlj)
        exact inn N 0 (Nat.zero_le _) (by omega) (fun j hj => by omega)
  obtain ⟨g', hg'⟩ := ref N 7 (by omega) (by omega) gd
  rw [xup_id hgd] at hg'
  refine ⟨nI (ltA B 7), H1, _, β, δ, C1, ?_, h.scr ho hsc q.1.1 hm1 (mS.sc q.1.1 (sc.upI (g' := g') (Or.inr (Or.inr (Or.inl rfl))) hgd))⟩
  simp only [F_X12_latest, q.ob, S_mWI q hw, show ¬ (1 : Int32) = 0 by decide, if_false, Option.bind_some, bd2_s]
  exact hg'
end Latest3
