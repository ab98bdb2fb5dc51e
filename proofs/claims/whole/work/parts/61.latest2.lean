/-! PURE: STEP latest, on the heap. -/
/-- the classes' array holds cl -/
def rp (Z : Nat) (g : Nat → Int32) (cl : Nat → Nat) : Prop := ∀ p, p < Z → g p = nI (cl p)
section Latest
variable {stf : Nat → Nat} {N K b m : Nat} {β : sB} {δ : sD} {H : xH}
variable {c tc tk cb n nk ncb : Nat} {ad : Nat → Nat}
theorem RXo.ck (h : RXo stf K b m c tc tk cb n nk ncb ad β δ H) : (∃ g, H.1 tk = some (aB nk g)) ∧ xgA H (some (b + 15)) 6 6 = some (some tk) ∧ bZ β + bZ β / 8 + 1 ≤ nk ∧ nk ≤ 70000 := by
  obtain ⟨hD, h1, h2, h3, h4, ⟨⟨cert, h5, -⟩, h6, h7, h8, h9, h10, h11, -⟩, -⟩ := h
  exact ⟨h9, gA h5 rfl, h10, h11⟩
theorem RXo.tkU (h : RXo stf K b m c tc tk cb n nk ncb ad β δ H) {g g' : Nat → Int32} (hg : H.1 tk = some (aB nk g)) : RXo stf K b m c tc tk cb n nk ncb ad β δ (xup H tk (aB nk g')) := h.sc (sc.upI (by unfold SX; omega) hg)
theorem S_clAt (h : RXo stf K b m c tc tk cb n nk ncb ad β δ H) {g : Nat → Int32} (hg : H.1 tk = some (aB nk g)) {p : Nat} (hp : p < nk) : F_X6_classAt N (some (b + 15)) (nI p) H = some (g p, H) := by
  obtain ⟨-, a, -, a4⟩ := h.ck
  unfold F_X6_classAt
  simp only [nI_pos (show p < 2 ^ 31 by omega), if_false, a, leI hg, nI_ge hp (show nk < 2 ^ 31 by omega), rdI hg hp (show nk < 2 ^ 31 by omega), Option.bind_some, bd2_s]
theorem S_clSet (h : RXo stf K b m c tc tk cb n nk ncb ad β δ H) {g : Nat → Int32} (hg : H.1 tk = some (aB nk g)) {p x : Nat} (hp : p < nk) (hx : x < 64) : F_X6_setClass N (some (b + 15)) (nI p) (nI x) H = some (xup H tk (aB nk (upd g p (nI x)))) := by
  obtain ⟨-, a, -, a4⟩ := h.ck
  unfold F_X6_setClass
  simp only [nI_pos (show p < 2 ^ 31 by omega), if_false, a, leI hg, nI_ge hp (show nk < 2 ^ 31 by omega), stI hg hp (show nk < 2 ^ 31 by omega), cg8 x hx, Option.bind_some, bd2_s]
theorem dig_blk {B t l : Nat} (hl : l < 9 ^ t) : dig (B * 9 ^ (t + 1) + l) t = 0 := by
  unfold dig
  rw [Nat.pow_succ, Nat.mul_comm (9 ^ t) 9, ← Nat.mul_assoc, Nat.add_comm, Nat.add_mul_div_right _ _ (Nat.pow_pos (by decide)), Nat.div_eq_of_lt hl]
  omega
theorem dig_blk' {B t q : Nat} (h1 : B * 9 ^ (t + 1) + 9 ^ t ≤ q) (h2 : q < (B + 1) * 9 ^ (t + 1)) : ¬ dig q t = 0 := by
  unfold dig
  rw [Nat.pow_succ] at h1 h2
  have e1 : B * (9 ^ t * 9) + 9 ^ t = (9 * B + 1) * 9 ^ t := by rw [Nat.add_mul, Nat.mul_comm (9 ^ t) 9, ← Nat.mul_assoc, Nat.mul_comm B 9, Nat.one_mul]
  have e2 : (B + 1) * (9 ^ t * 9) = (9 * B + 9) * 9 ^ t := by rw [Nat.mul_comm (9 ^ t) 9, ← Nat.mul_assoc, Nat.add_mul, Nat.mul_comm B 9]
  rw [e1] at h1
  rw [e2] at h2
  have a := (Nat.le_div_iff_mul_le (Nat.pow_pos (by decide : 0 < 9))).mpr h1
  have b := (Nat.div_lt_iff_lt_mul (Nat.pow_pos (by decide : 0 < 9))).mpr h2
  omega
/-- what forgetting a day in a block says -/
def fgR (Z t d : Nat) (cl : Nat → Nat) (pos : Nat) (r : Int32) (g : Nat → Int32) : Prop :=
  (r = 1 ∧ rp Z g (jn cl t d pos) ∧ ∀ p, p < Z → p < pos → dig p t = 0 → goodc (cl p ||| cl (p + (d + 1) * 9 ^ t))) ∨ (r = 0 ∧ ∃ p, p < Z ∧ dig p t = 0 ∧ ¬ goodc (cl p ||| cl (p + (d + 1) * 9 ^ t)))
theorem S_joinDay (ho : RXo stf K b m c tc tk cb n nk ncb ad β δ H) (hT : bT β ≤ 5) (hN : 59049 < N) {t d B : Nat} {cl : Nat → Nat} (ht : t < bT β) (hd : d < 8) (hcl : ∀ p, p < bZ β → cl p < 64) (hB : (B + 1) * 9 ^ (t + 1) ≤ bZ β) {g : Nat → Int32} (hg0 : ∃ g, H.1 tk = some (aB nk g)) (hr : rp (bZ β) g (jn cl t d (B * 9 ^ (t + 1)))) (hgo : ∀ p, p < bZ β → p < B * 9 ^ (t + 1) → dig p t = 0 → goodc (cl p ||| cl (p + (d + 1) * 9 ^ t))) :
    ∃ r g', F_X6_joinDay N (some (b + 15)) (nI (B * 9 ^ (t + 1))) (nI (9 ^ t)) (nI d) (xup H tk (aB nk g)) = some (r, xup H tk (aB nk g')) ∧ fgR (bZ β) t d cl ((B + 1) * 9 ^ (t + 1)) r g' := by
  obtain ⟨gk, hgk⟩ := hg0
  obtain ⟨-, -, a3, a4⟩ := ho.ck
  have hz := bZ_le hT
  have hst : 9 ^ t < 9 ^ (t + 1) := Nat.pow_lt_pow_right (by decide) (Nat.lt_succ_self t)
  have hB1 : B * 9 ^ (t + 1) + 9 ^ (t + 1) ≤ bZ β := by rw [Nat.succ_mul] at hB; exact hB
  have hos : ∀ g, RXo stf K b m c tc tk cb n nk ncb ad β δ (xup H tk (aB nk g)) := fun g => ho.tkU hgk
  have hsz : 9 ^ t ≤ N := by omega
  have key : ∀ n l, l ≤ 9 ^ t → 9 ^ t - l < n → ∀ g, rp (bZ β) g (jn cl t d (B * 9 ^ (t + 1) + l)) → (∀ p, p < bZ β → p < B * 9 ^ (t + 1) + l → dig p t = 0 → goodc (cl p ||| cl (p + (d + 1) * 9 ^ t))) → ∃ r g', F_X6_joinDay_L3 N n (some (b + 15)) (nI (B * 9 ^ (t + 1))) (nI (9 ^ t)) (nI d) (nI (B * 9 ^ (t + 1) + l)) (xup H tk (aB nk g)) = some (r, xup H tk (aB nk g')) ∧ fgR (bZ β) t d cl ((B + 1) * 9 ^ (t + 1)) r g' := by
    refine upto (s := 9 ^ t) (P := fun n l => ∀ g, rp (bZ β) g (jn cl t d (B * 9 ^ (t + 1) + l)) → (∀ p, p < bZ β → p < B * 9 ^ (t + 1) + l → dig p t = 0 → goodc (cl p ||| cl (p + (d + 1) * 9 ^ t))) → ∃ r g', F_X6_joinDay_L3 N n (some (b + 15)) (nI (B * 9 ^ (t + 1))) (nI (9 ^ t)) (nI d) (nI (B * 9 ^ (t + 1) + l)) (xup H tk (aB nk g)) = some (r, xup H tk (aB nk g')) ∧ fgR (bZ β) t d cl ((B + 1) * 9 ^ (t + 1)) r g') (fun n g hr hgo => ?_) (fun n l hl ih g hr hgo => ?_)
    · refine ⟨1, g, ?_, Or.inl ⟨rfl, fun p hp => ?_, fun p hp hpp hp0 => ?_⟩⟩
      · simp only [F_X6_joinDay_L3, F_X6_joinDay_J3, nI_add, nI_le (Nat.le_refl _) (show B * 9 ^ (t + 1) + 9 ^ t < 2 ^ 31 by omega), if_true]
      · rw [hr p hp]
        congr 1
        by_cases q : dig p t = 0 ∧ p < B * 9 ^ (t + 1) + 9 ^ t
        · rw [jn_t q, jn_t ⟨q.1, by rw [Nat.succ_mul]; omega⟩]
        · rw [jn_f q, jn_f (fun z => q ⟨z.1, by
            rcases Nat.lt_or_ge p (B * 9 ^ (t + 1) + 9 ^ t) with y | y
            · exact y
            · exact absurd z.1 (dig_blk' y z.2)⟩)]
      · refine hgo p hp ?_ hp0
        rcases Nat.lt_or_ge p (B * 9 ^ (t + 1) + 9 ^ t) with y | y
        · exact y
        · exact absurd hp0 (dig_blk' y hpp)
    · have hp : B * 9 ^ (t + 1) + l < bZ β := by omega
      have hp0 : dig (B * 9 ^ (t + 1) + l) t = 0 := dig_blk hl
      have hp' := dig_add_lt (e := d + 1) hp0 (by omega) ht hp
      have hat : (xup H tk (aB nk g)).1 tk = some (aB nk g) := xup_at _
      have o6 := (hos g).o.2.2.1
      have hpz : B * 9 ^ (t + 1) + l + (d + 1) * 9 ^ t < bZ β := hp'
      have e1 : nI (B * 9 ^ (t + 1) + l) + (nI d + 1) * nI (9 ^ t) = nI (B * 9 ^ (t + 1) + l + (d + 1) * 9 ^ t) := by rw [nI_1, pk_mul, nI_add]
      have r1 : g (B * 9 ^ (t + 1) + l) = nI (cl (B * 9 ^ (t + 1) + l)) := by rw [hr _ hp, jn_f (fun z => Nat.lt_irrefl _ z.2)]
      have r2 : g (B * 9 ^ (t + 1) + l + (d + 1) * 9 ^ t) = nI (cl (B * 9 ^ (t + 1) + l + (d + 1) * 9 ^ t)) := by
        rw [hr _ hpz, jn_f (fun z => by
          have := z.1
          rw [dig_add hp0 (by omega), if_pos rfl] at this
          omega)]
      have hx := Nat.or_lt_two_pow (n := 6) (hcl _ hp) (hcl _ hpz)
      have hge : ¬ nI (B * 9 ^ (t + 1)) + nI (9 ^ t) ≤ nI (B * 9 ^ (t + 1) + l) := by rw [nI_add]; exact nI_ge (by omega) (by omega)
      simp only [F_X6_joinDay_L3, F_X6_joinDay_J3, F_X6_joinDay_J53, hge, if_false, o6, S_clAt (hos g) hat (show B * 9 ^ (t + 1) + l < nk by omega), e1, S_clAt (hos g) hat (show B * 9 ^ (t + 1) + l + (d + 1) * 9 ^ t < nk by omega), r1, r2, nI_or, S_mixed, Option.bind_some, bd2_s]
      generalize hxx : cl (B * 9 ^ (t + 1) + l) ||| cl (B * 9 ^ (t + 1) + l + (d + 1) * 9 ^ t) = x at hx
      have go : goodc x → ∃ r g', ((F_X6_setClass N (some (b + 15)) (nI (B * 9 ^ (t + 1) + l)) (nI x) (xup H tk (aB nk g))).bind fun H1 => F_X6_joinDay_L3 N n (some (b + 15)) (nI (B * 9 ^ (t + 1))) (nI (9 ^ t)) (nI d) (nI (B * 9 ^ (t + 1) + l) + 1) H1) = some (r, xup H tk (aB nk g')) ∧ fgR (bZ β) t d cl ((B + 1) * 9 ^ (t + 1)) r g' := fun hgood => by
        rw [S_clSet (hos g) hat (show B * 9 ^ (t + 1) + l < nk by omega) hx]
        simp only [Option.bind_some, bd2_s, xup_up, nI_1]
        refine ih _ (fun p hpz => ?_) (fun p hpz hpp hp0' => ?_)
        · by_cases e : p = B * 9 ^ (t + 1) + l
          · rw [e, pk_us, jn_t ⟨hp0, by omega⟩, hxx]
          · rw [pk_un e, hr p hpz]
            congr 1
            by_cases q : dig p t = 0 ∧ p < B * 9 ^ (t + 1) + l
            · rw [jn_t q, jn_t ⟨q.1, by omega⟩]
            · rw [jn_f q, jn_f (fun z => q ⟨z.1, by omega⟩)]
        · by_cases e : p = B * 9 ^ (t + 1) + l
          · rw [e, hxx]; exact hgood
          · exact hgo p hpz (by omega) hp0'
      by_cases h5 : x.testBit 5 = true
      · rw [if_neg (fun z => (cg32 x hx).mp z h5)]
        by_cases hmx : ((nI x &&& 31) &&& ((nI x &&& 31) - 1)) = 0
        · rw [bI_f (fun z => z hmx), if_pos rfl]
          exact go (fun _ => (cg31 x hx).mp hmx)
        · rw [bI_t hmx, if_neg (by decide)]
          exact ⟨0, g, rfl, Or.inr ⟨rfl, _, hp, hp0, by rw [hxx]; exact fun z => hmx ((cg31 x hx).mpr (z h5))⟩⟩
      · rw [if_pos ((cg32 x hx).mpr h5)]
        exact go (fun z => absurd z h5)
  have := key N 0 (Nat.zero_le _) (by omega) g hr hgo
  exact this
theorem S_forgetDay (ho : RXo stf K b m c tc tk cb n nk ncb ad β δ H) (hT : bT β ≤ 5) (hN : 59049 < N) {d : Nat} (hd1 : d + 1 < 8) {ps lf : Nat → Prop} {oc : Nat → Nat} (hoc : ∀ c, oc c < 5) (hlp : ∀ c, lf c → ps c) {cl : Nat → Nat} {g : Nat → Int32} (hg0 : ∃ g, H.1 tk = some (aB nk g)) (hr : rp (bZ β) g cl) (hI : cI (bT β) ps lf oc (tht (d + 1) 0) cl) :
    ∃ r g', F_X6_forgetDay N (some (b + 15)) (nI (d + 1)) (xup H tk (aB nk g)) = some (r, xup H tk (aB nk g')) ∧ ((r = 1 ∧ ∃ cl', rp (bZ β) g' cl' ∧ cI (bT β) ps lf oc (tht (d + 1) (bT β)) cl') ∨ (r = 0 ∧ cBad (bT β) ps lf oc d)) := by
  obtain ⟨gk, hgk⟩ := id hg0
  have hz := bZ_le hT
  have hos : ∀ g, RXo stf K b m c tc tk cb n nk ncb ad β δ (xup H tk (aB nk g)) := fun g => ho.tkU hgk
  obtain ⟨_, _, _, _, _, _, u0, u1, -⟩ := ho.t
  have u0s : ∀ g, xgI (xup H tk (aB nk g)) (some (b + 15)) 6 0 = some (nI (bT β)) := fun g => by
    obtain ⟨_, _, _, _, _, _, u0, u1, -⟩ := (hos g).t
    exact u0
  have u1s : ∀ g, xgI (xup H tk (aB nk g)) (some (b + 15)) 6 1 = some (nI (bZ β)) := fun g => by
    obtain ⟨_, _, _, _, _, _, u0, u1, -⟩ := (hos g).t
    exact u1
  have key : ∀ n t, t ≤ bT β → bT β - t < n → ∀ cl g, rp (bZ β) g cl → cI (bT β) ps lf oc (tht (d + 1) t) cl → ∃ r g', F_X6_forgetDay_L4 N n (some (b + 15)) (nI (d + 1)) (nI (9 ^ t)) (nI t) (xup H tk (aB nk g)) = some (r, xup H tk (aB nk g')) ∧ ((r = 1 ∧ ∃ cl', rp (bZ β) g' cl' ∧ cI (bT β) ps lf oc (tht (d + 1) (bT β)) cl') ∨ (r = 0 ∧ cBad (bT β) ps lf oc d)) := by
    refine upto (s := bT β) (P := fun n t => ∀ cl g, rp (bZ β) g cl → cI (bT β) ps lf oc (tht (d + 1) t) cl → ∃ r g', F_X6_forgetDay_L4 N n (some (b + 15)) (nI (d + 1)) (nI (9 ^ t)) (nI t) (xup H tk (aB nk g)) = some (r, xup H tk (aB nk g')) ∧ ((r = 1 ∧ ∃ cl', rp (bZ β) g' cl' ∧ cI (bT β) ps lf oc (tht (d + 1) (bT β)) cl') ∨ (r = 0 ∧ cBad (bT β) ps lf oc d))) (fun n cl g hr hI => ⟨1, g, ?_, Or.inl ⟨rfl, cl, hr, hI⟩⟩) (fun n t ht ih cl g hr hI => ?_)
    · simp only [F_X6_forgetDay_L4, F_X6_forgetDay_J4, u0s, Option.bind_some, bd2_s, nI_le (Nat.le_refl _) (show bT β < 2 ^ 31 by omega), if_true]
    · have hG : bZ β = 9 ^ (bT β - t - 1) * 9 ^ (t + 1) := by
        unfold bZ
        rw [← Nat.pow_add]
        congr 1
        omega
      have hst : 0 < 9 ^ (t + 1) := Nat.pow_pos (by decide)
      simp only [F_X6_forgetDay_L4, F_X6_forgetDay_J4, u0s, Option.bind_some, bd2_s, nI_ge ht (show bT β < 2 ^ 31 by omega), if_false]
      have blk : ∀ n' B, B ≤ 9 ^ (bT β - t - 1) → 9 ^ (bT β - t - 1) - B < n' → ∀ g, rp (bZ β) g (jn cl t (d + 1) (B * 9 ^ (t + 1))) → (∀ p, p < bZ β → p < B * 9 ^ (t + 1) → dig p t = 0 → goodc (cl p ||| cl (p + (d + 1 + 1) * 9 ^ t))) → ∃ r g', F_X6_forgetDay_L15 N (F_X6_forgetDay_J49 N (F_X6_forgetDay_L4 N n)) n' (some (b + 15)) (nI (d + 1)) (nI (9 ^ t)) (nI t) (nI (B * 9 ^ (t + 1))) (xup H tk (aB nk g)) = some (r, xup H tk (aB nk g')) ∧ ((r = 1 ∧ ∃ cl', rp (bZ β) g' cl' ∧ cI (bT β) ps lf oc (tht (d + 1) (bT β)) cl') ∨ (r = 0 ∧ cBad (bT β) ps lf oc d)) := by
        refine upto (s := 9 ^ (bT β - t - 1)) (P := fun n' B => ∀ g, rp (bZ β) g (jn cl t (d + 1) (B * 9 ^ (t + 1))) → (∀ p, p < bZ β → p < B * 9 ^ (t + 1) → dig p t = 0 → goodc (cl p ||| cl (p + (d + 1 + 1) * 9 ^ t))) → ∃ r g', F_X6_forgetDay_L15 N (F_X6_forgetDay_J49 N (F_X6_forgetDay_L4 N n)) n' (some (b + 15)) (nI (d + 1)) (nI (9 ^ t)) (nI t) (nI (B * 9 ^ (t + 1))) (xup H tk (aB nk g)) = some (r, xup H tk (aB nk g')) ∧ ((r = 1 ∧ ∃ cl', rp (bZ β) g' cl' ∧ cI (bT β) ps lf oc (tht (d + 1) (bT β)) cl') ∨ (r = 0 ∧ cBad (bT β) ps lf oc d))) (fun n' g hr2 hgo => ?_) (fun n' B hB ihB g hr2 hgo => ?_)
        · rw [← hG] at hr2 hgo
          have e9 : nI (9 ^ t) * (9 : Int32) = nI (9 ^ (t + 1)) := by rw [Nat.pow_succ]; exact pk_mul _ _
          simp only [F_X6_forgetDay_L15, F_X6_forgetDay_J15, F_X6_forgetDay_J49, u1s, ← hG, Option.bind_some, bd2_s, nI_le (Nat.le_refl _) (show bZ β < 2 ^ 31 by omega), if_true, e9, nI_1]
          have hr3 : rp (bZ β) g (jn cl t (d + 1) (9 ^ bT β)) := hr2
          exact ih _ g hr3 (cI_step hd1 ht hoc hI (fun p hp hp0 => hgo p hp hp hp0))
        · have hB2 : (B + 1) * 9 ^ (t + 1) ≤ bZ β := by rw [hG]; exact Nat.mul_le_mul_right _ (by omega)
          have hBs := Nat.succ_mul B (9 ^ (t + 1))
          have hBs' : (B + 1) * 9 ^ (t + 1) = B * 9 ^ (t + 1) + 9 ^ (t + 1) := hBs
          obtain ⟨r, g', q1, q2⟩ := S_joinDay (N := N) ho hT hN ht hd1 (fun p hp => (hI.1 p hp).1) hB2 hg0 hr2 hgo
          have o6 := (hos g).o.2.2.1
          simp only [F_X6_forgetDay_L15, F_X6_forgetDay_J15, u1s, Option.bind_some, bd2_s, nI_ge (show B * 9 ^ (t + 1) < bZ β by omega) (show bZ β < 2 ^ 31 by omega), if_false, o6, q1]
          rcases q2 with ⟨rfl, q2, q3⟩ | ⟨rfl, p, p1, p2, p3⟩
          · rw [if_neg (by decide)]
            have e9 : nI (B * 9 ^ (t + 1)) + (9 : Int32) * nI (9 ^ t) = nI ((B + 1) * 9 ^ (t + 1)) := by
              rw [show (9 : Int32) = nI 9 from rfl, pk_mul, nI_add, hBs']
              congr 2
              rw [Nat.pow_succ, Nat.mul_comm]
            rw [e9]
            exact ihB g' q2 q3
          · rw [if_pos rfl]
            exact ⟨0, g', rfl, Or.inr ⟨rfl, cI_bad (by omega) ht hI hd1 p1 p2 p3⟩⟩
      have hpw : 9 ^ (bT β - t - 1) ≤ 59049 := Nat.le_trans (Nat.pow_le_pow_right (by decide) (by omega : bT β - t - 1 ≤ 5)) (by decide)
      have := blk N 0 (Nat.zero_le _) (by omega) g (fun p hp => by rw [hr p hp, jn_f (fun z => by have := z.2; omega)]) (fun p hp hpp => by omega)
      rw [Nat.zero_mul] at this
      exact this
  have := key N 0 (Nat.zero_le _) (by omega) cl g hr hI
  exact this
/-- LATEST, from day d on -/
noncomputable def ltA (P : Nat → Prop) : Nat → Nat
  | 0 => 0
  | d + 1 => @ite _ (P d) (Classical.propDecidable _) (d + 1) (ltA P d)
theorem ltA_t {P : Nat → Prop} {d : Nat} (h : P d) : ltA P (d + 1) = d + 1 := by conv => lhs; unfold ltA; rw [if_pos h]
theorem ltA_f {P : Nat → Prop} {d : Nat} (h : ¬ P d) : ltA P (d + 1) = ltA P d := by conv => lhs; unfold ltA; rw [if_neg h]
end Latest
