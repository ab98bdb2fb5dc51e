/-! PURE: the reference tells what its steps come to. -/
variable {stf : Nat → Nat} {N K b m : Nat} {β : sB} {δ : sD} {H : xH}
variable {T : Nat} {v : Nat → Int32} {c : cod} {d : Nat → Nat} {τ : tS}
def dO (m T : Nat) (d : Nat → Nat) (H : xH) : Prop := ∃ g, H.1 (m + 22) = some (aI 5 g) ∧ ∀ t, t < T → g t = nI (d t) - 1
/-- a row's digits, its steps -/
def gM (m T : Nat) (v : Nat → Int32) (c : cod) (d : Nat → Nat) (H : xH) : Prop := H.1 m = some (mo m v) ∧ v 0 = nI T ∧ T ≤ 5 ∧ mcd m c H ∧ dO m T d H ∧ (∀ t, d t < 9) ∧ ∀ t, T ≤ t → d t = 0
theorem vnZ (P : Prop) : vp_nar .boolean (bI P) = bI P := by
  by_cases h : P
  · rw [bI_t h]; decide
  · rw [bI_f h]; decide
theorem gM.dd (h : gM m T v c d H) {t : Nat} (ht : t < T) : xlI .int H (some (m + 22)) (nI t) = some (nI (d t) - 1) := by
  obtain ⟨-, -, h5, -, ⟨g, hg, hgt⟩, -⟩ := h
  rw [rdI hg (by omega) (by decide), hgt t ht]
theorem gM.st (h : gM m T v c d H) {k : Nat} (hk : k < 1400) : xlI .int H (some (m + 15)) (nI k) = some (c.1 k) ∧ xlI .int H (some (m + 16)) (nI k) = some (c.2.1 k) ∧ xlI .int H (some (m + 17)) (nI k) = some (c.2.2 k) := by
  obtain ⟨-, -, -, ⟨a, b, c⟩, -⟩ := h
  exact ⟨rdI a hk (by decide), rdI b hk (by decide), rdI c hk (by decide)⟩
theorem dm1 {x : Nat} (h0 : x ≠ 0) : nI x - 1 = nI (x - 1) := by rw [show (1 : Int32) = nI 1 from rfl, pk_sub (by omega)]
theorem M_comesBy (h : gM m T v c d H) {t y : Nat} (ht : t < T) (hy : y < 9) : F_X12_comesBy N (some m) (nI t) (nI y) H = some (bI (d t ≠ 0 ∧ d t ≤ y + 1), H) := by
  have hd := h.2.2.2.2.2.1 t
  unfold F_X12_comesBy
  simp only [gA h.1 ma42, h.dd ht, Option.bind_some]
  by_cases e : d t = 0
  · rw [if_pos ((dg0 _ hd).mpr e), bI_f (fun z => z.1 e)]
  · rw [if_neg (fun z => e ((dg0 _ hd).mp z)), dm1 e]
    by_cases e2 : d t ≤ y + 1
    · rw [if_neg (nI_nlt (by omega) (by omega)), bI_t ⟨e, e2⟩]
    · rw [if_pos (nI_lt (by omega) (by omega)), bI_f (fun z => e2 z.2)]
theorem cnt_z0 {P : Nat → Prop} {a k : Nat} (h : ∀ i, a ≤ i → ¬ P i) : ∀ {z : Nat}, z = a + k → cnt P z = cnt P a := by
  induction k with
  | zero => intro z hz; rw [hz]; rfl
  | succ k ih =>
    intro z hz
    rw [hz, show a + (k + 1) = (a + k) + 1 by omega, cnt_f (h _ (by omega))]
    exact ih rfl
theorem M_tells (hN : 5 < N) (h : gM m T v c d H) {k kd w y : Nat} (hk : k < 1400) (h1 : c.1 k = nI kd) (h2 : c.2.1 k = nI w) (h3 : c.2.2 k = nI y) (hl : lok T kd w y) : F_X12_tells N (some m) (nI k) H = some (bI (lsm kd w y d), H) := by
  obtain ⟨s1, s2, s3⟩ := h.st hk
  rw [h1] at s1
  rw [h2] at s2
  rw [h3] at s3
  obtain ⟨l1, l2, l3, l4, l5⟩ := hl
  have d9 := h.2.2.2.2.2.1
  have hT := h.2.2.1
  unfold F_X12_tells lsm
  simp only [gA h.1 ma20, s1, Option.bind_some]
  by_cases e0 : kd = 0
  · subst e0
    have hw := l1 (by omega)
    have dw := d9 w
    rw [if_pos (show nI 0 = (0 : Int32) from rfl), if_pos rfl]
    simp only [gA h.1 ma42, gA h.1 ma21, s2, h.dd hw, Option.bind_some]
    by_cases e : d w = 0
    · rw [if_pos ((dg0 _ dw).mpr e), bI_f (fun z : lBy w 7 d => z.1 e)]
    · rw [if_neg (fun z => e ((dg0 _ dw).mp z)), bI_t (show lBy w 7 d from ⟨e, by omega⟩)]
  rw [if_neg (show ¬ nI kd = (0 : Int32) from nI_ne0 (by omega) (by omega)), if_neg e0]
  by_cases e1 : kd = 1
  · subst e1
    have hw := l1 (by omega)
    rw [if_pos (show nI 1 = (1 : Int32) from rfl), if_pos rfl]
    simp only [gA h.1 ma21, s2, gA h.1 ma22, s3, obx h.1, M_comesBy h hw l4, bd2_s, bI_01s, if_true, Option.bind_some]
    rfl
  rw [if_neg (show ¬ nI kd = (1 : Int32) from fun z => e1 ((nI_eq (b := 1) (by omega) (by decide)).mp z)), if_neg e1]
  by_cases e2 : kd = 2
  · subst e2
    obtain ⟨hw, hy⟩ := l2 rfl
    have dw := d9 w
    have dy := d9 y
    rw [if_pos (show nI 2 = (2 : Int32) from rfl), if_pos rfl]
    simp only [gA h.1 ma42, gA h.1 ma21, s2, h.dd hw, gA h.1 ma22, s3, h.dd hy, Option.bind_some]
    by_cases e : d w = 0
    · rw [if_pos ((dg0 _ dw).mpr e), bI_f (fun z : lBf w y d => z.1 e)]
    · rw [if_neg (fun z => e ((dg0 _ dw).mp z))]
      by_cases e3 : d y = 0
      · rw [if_pos ((dg0 _ dy).mpr e3), bI_t (show lBf w y d from ⟨e, Or.inl e3⟩)]
      · rw [if_neg (fun z => e3 ((dg0 _ dy).mp z)), dm1 e, dm1 e3]
        by_cases e4 : d w < d y
        · rw [if_neg (nI_ge (by omega) (by omega)), bI_t (show lBf w y d from ⟨e, Or.inr e4⟩)]
        · rw [if_pos (nI_le (by omega) (by omega)), bI_f (fun z : lBf w y d => z.2.elim e3 e4)]
  rw [if_neg (show ¬ nI kd = (2 : Int32) from fun z => e2 ((nI_eq (b := 2) (by omega) (by decide)).mp z)), if_neg e2]
  have loop : ∀ z i, i ≤ T → T - i < z → F_X12_tells_L135 N (F_X12_tells_J166 N) z (some m) (nI k) (nI (cnt (fun t => d t ≠ 0 ∧ d t ≤ y + 1) i)) (nI i) H = some (bI (lLe w y d), H) := by
    refine upto (P := fun z i => F_X12_tells_L135 N (F_X12_tells_J166 N) z (some m) (nI k) (nI (cnt (fun t => d t ≠ 0 ∧ d t ≤ y + 1) i)) (nI i) H = some (bI (lLe w y d), H)) ?_ ?_
    · intro z
      rw [show F_X12_tells_L135 N (F_X12_tells_J166 N) (z + 1) = F_X12_tells_J135 N (F_X12_tells_L135 N (F_X12_tells_J166 N) z) (F_X12_tells_J166 N) from rfl]
      simp only [F_X12_tells_J135, F_X12_tells_J166, gI h.1 mi0, h.2.1, Int32.le_refl, if_true, gA h.1 ma21, s2, Option.bind_some]
      have hc : cnt (fun t => d t ≠ 0 ∧ d t ≤ y + 1) 5 = cnt (fun t => d t ≠ 0 ∧ d t ≤ y + 1) T := cnt_z0 (k := 5 - T) (fun i hi z => z.1 (h.2.2.2.2.2.2 i hi)) (by omega)
      have hcl := cnt_le (fun t => d t ≠ 0 ∧ d t ≤ y + 1) T
      by_cases e : w ≤ cnt (fun t => d t ≠ 0 ∧ d t ≤ y + 1) T
      · rw [if_neg (nI_nlt e (by omega)), bI_t (show lLe w y d by unfold lLe; rw [hc]; exact e)]
      · rw [if_pos (nI_lt (by omega) (by omega)), bI_f (fun z : lLe w y d => e (by unfold lLe at z; rwa [hc] at z))]
    · intro z i hi ih
      rw [show F_X12_tells_L135 N (F_X12_tells_J166 N) (z + 1) = F_X12_tells_J135 N (F_X12_tells_L135 N (F_X12_tells_J166 N) z) (F_X12_tells_J166 N) from rfl]
      simp only [F_X12_tells_J135, gI h.1 mi0, h.2.1, nI_ge hi (show T < 2 ^ 31 by omega), if_false, gA h.1 ma22, s3, obx h.1, M_comesBy h hi l4, bd2_s, S_unit, nI_1, Option.bind_some]
      rw [bI_add (P := fun t => d t ≠ 0 ∧ d t ≤ y + 1) i, ih]
  rw [show (0 : Int32) = nI 0 from rfl]
  exact loop N 0 (Nat.zero_le _) (by omega)
/-- only the pile has changed -/
def pil (m : Nat) (g : Nat → Int32) (H : xH) : xH := xup H (m + 25) (aZ 64 g)
theorem pil_pil {g g' : Nat → Int32} : pil m g' (pil m g H) = pil m g' H := xup_up _ _
theorem gM.pile {g : Nat → Int32} (h : gM m T v c d H) : gM m T v c d (pil m g H) := by
  obtain ⟨h1, h2, h3, ⟨a, b, e⟩, ⟨g', hg, hgt⟩, h6⟩ := h
  exact ⟨(xup_ne _ (by omega)).trans h1, h2, h3, ⟨(xup_ne _ (by omega)).trans a, (xup_ne _ (by omega)).trans b, (xup_ne _ (by omega)).trans e⟩, ⟨g', (xup_ne _ (by omega)).trans hg, hgt⟩, h6⟩
theorem pil_at {g : Nat → Int32} : (pil m g H).1 (m + 25) = some (aZ 64 g) := xup_at _
theorem pil_st {g : Nat → Int32} {k : Nat} (hk : k < 64) (P : Prop) : xsI .boolean (pil m g H) (some (m + 25)) (nI k) (bI P) = some (pil m (upd g k (bI P)) H) := by
  rw [stI pil_at hk (by decide), vnZ]
  exact congrArg some pil_pil
theorem M_run (hN : 5 < N) (h : gM m T v c d H) : ∀ (l k z : Nat) (n n' : Nat) (P P' : Nat → Prop) (g : Nat → Int32), k + l ≤ 1400 → l < z → prun T c d k l (n, P) = some (n', P') → (∀ i, i < n → g i = bI (P i)) → n ≤ 64 → ∃ g', F_X12_isTrue_L5 N (F_X12_isTrue_J160 N) z (some m) (nI (k + l)) (nI n) (nI k) (pil m g H) = F_X12_isTrue_J160 N (some m) (pil m g' H) ∧ ∀ i, i < n' → g' i = bI (P' i) := by
  intro l
  induction l with
  | zero =>
    intro k z n n' P P' g hk hz hr hg hn
    obtain ⟨z, rfl⟩ : ∃ y, z = y + 1 := ⟨z - 1, by omega⟩
    simp only [prun, Option.some.injEq, Prod.mk.injEq] at hr
    obtain ⟨rfl, rfl⟩ := hr
    rw [show F_X12_isTrue_L5 N (F_X12_isTrue_J160 N) (z + 1) = F_X12_isTrue_J5 N (F_X12_isTrue_L5 N (F_X12_isTrue_J160 N) z) (F_X12_isTrue_J160 N) from rfl]
    refine ⟨g, ?_, hg⟩
    unfold F_X12_isTrue_J5
    rw [Nat.add_zero, if_pos (Int32.le_refl _)]
  | succ l ih =>
    intro k z n n' P P' g hk hz hr hg hn
    obtain ⟨z, rfl⟩ : ∃ y, z = y + 1 := ⟨z - 1, by omega⟩
    have hp := h.pile (g := g)
    obtain ⟨s1, s2, s3⟩ := hp.st (show k < 1400 by omega)
    rw [show F_X12_isTrue_L5 N (F_X12_isTrue_J160 N) (z + 1) = F_X12_isTrue_J5 N (F_X12_isTrue_L5 N (F_X12_isTrue_J160 N) z) (F_X12_isTrue_J160 N) from rfl]
    simp only [prun] at hr
    cases hs : pst T c d k (n, P) with
    | none => rw [hs] at hr; cases hr
    | some s =>
      rw [hs] at hr
      obtain ⟨n1, P1⟩ := s
      simp only [Option.bind_some] at hr
      unfold F_X12_isTrue_J5
      rw [if_neg (nI_ge (show k < k + (l + 1) by omega) (by omega))]
      simp only [gA hp.1 ma20, s1, Option.bind_some]
      have next : ∀ (g1 : Nat → Int32) (n1' : Nat), n1' = n1 → n1 ≤ 64 → (∀ i, i < n1 → g1 i = bI (P1 i)) → ∃ g', F_X12_isTrue_J154 N (F_X12_isTrue_L5 N (F_X12_isTrue_J160 N) z) (some m) (nI (k + (l + 1))) (nI n1') (nI k) (pil m g1 H) = F_X12_isTrue_J160 N (some m) (pil m g' H) ∧ ∀ i, i < n' → g' i = bI (P' i) := by
        intro g1 n1' e1 hn1 hg1
        subst e1
        unfold F_X12_isTrue_J154
        rw [nI_1, show k + (l + 1) = k + 1 + l by omega]
        exact ih (k + 1) z n1' n' P1 P' g1 (by omega) (by omega) hr hg1 hn1
      by_cases hlf : ∃ kd w y, c.1 k = nI kd ∧ c.2.1 k = nI w ∧ c.2.2 k = nI y ∧ lok T kd w y
      · obtain ⟨kd, w, y, a1, a2, a3, a4⟩ := hlf
        have hs2 := hs
        unfold pst at hs2
        rw [if_pos ⟨kd, w, y, a1, a2, a3, a4⟩] at hs2
        have hn64 : n < 64 := by
          by_cases z : n < 64
          · exact z
          · rw [if_neg z] at hs2; cases hs2
        obtain ⟨P2, b1, b2, b3⟩ := pst_lf (d := d) (P := P) a1 a2 a3 a4 hn64
        rw [b1] at hs
        simp only [Option.some.injEq, Prod.mk.injEq] at hs
        obtain ⟨rfl, rfl⟩ := hs
        have kd3 := a4.2.2.2.2
        rw [a1, if_neg (show ¬ (3 : Int32) < nI kd from nI_nlt (a := 3) (b := kd) kd3 (by decide))]
        have tl := M_tells hN hp (show k < 1400 by omega) a1 a2 a3 a4
        simp only [gA hp.1 ma45, obx hp.1, tl, bd2_s, pil_st hn64, nI_1, Option.bind_some]
        refine next _ _ rfl (by omega) (fun i hi => ?_)
        by_cases e : i = n
        · rw [e, pk_us]; exact bI_c b2.symm
        · rw [pk_un e, hg i (by omega)]; exact bI_c (b3 i e).symm
      · unfold pst at hs
        rw [if_neg hlf] at hs
        by_cases k6 : c.1 k = nI 6
        · rw [if_pos k6] at hs
          have hn1 : 1 ≤ n ∧ n ≤ 64 := by
            by_cases z : 1 ≤ n ∧ n ≤ 64
            · exact z
            · rw [if_neg z] at hs; cases hs
          rw [if_pos hn1] at hs
          simp only [Option.some.injEq, Prod.mk.injEq] at hs
          obtain ⟨rfl, rfl⟩ := hs
          have em : nI n - 1 = nI (n - 1) := dm1 (by omega)
          have rdp : xlI .boolean (pil m g H) (some (m + 25)) (nI (n - 1)) = some (bI (P (n - 1))) := by rw [rdI pil_at (by omega) (by decide), hg _ (by omega)]
          rw [k6, if_pos (by decide)]
          simp only [show nI 6 = (6 : Int32) from rfl, if_true, gA hp.1 ma45, em, rdp, Option.bind_some]
          have fin : ∀ Q : Prop, (Q ↔ ¬ P (n - 1)) → ∃ g', F_X12_isTrue_J75 N (F_X12_isTrue_L5 N (F_X12_isTrue_J160 N) z) (some m) (nI (k + (l + 1))) (nI n) (nI k) (some (m + 25)) (nI (n - 1)) (bI Q) (pil m g H) = F_X12_isTrue_J160 N (some m) (pil m g' H) ∧ ∀ i, i < n' → g' i = bI (P' i) := by
            intro Q hQ
            unfold F_X12_isTrue_J75
            simp only [pil_st (show n - 1 < 64 by omega), Option.bind_some]
            refine next _ _ rfl (by omega) (fun i hi => ?_)
            by_cases e : i = n - 1
            · rw [e, pk_us]; exact bI_c (hQ.trans upP_s.symm)
            · rw [pk_un e, hg i hi]; exact bI_c (upP_n e).symm
          by_cases e : P (n - 1)
          · rw [bI_t e, if_neg n10]
            have := fin False ⟨False.elim, fun z => z e⟩
            rwa [bI_f id] at this
          · rw [bI_f e, if_pos rfl]
            have := fin True ⟨fun _ => e, fun _ => trivial⟩
            rwa [bI_t trivial] at this
        · rw [if_neg k6] at hs
          have bin : ∀ kd : Nat, (kd = 4 ∨ kd = 5) → c.1 k = nI kd → (2 ≤ n ∧ n ≤ 64) → n1 = n - 1 → (∀ i, P1 i ↔ upP P (n - 2) (if kd = 4 then P (n - 2) ∨ P (n - 1) else P (n - 2) ∧ P (n - 1)) i) → ∃ g', (if (3 : Int32) < nI kd then (if nI kd = (6 : Int32) then ((xgA (pil m g H) (some m) 11 45).bind fun v24 => (xgA (pil m g H) (some m) 11 45).bind fun v25 => (xlI .boolean (pil m g H) v25 (nI n - 1)).bind fun v26 => if v26 = 0 then F_X12_isTrue_J75 N (F_X12_isTrue_L5 N (F_X12_isTrue_J160 N) z) (some m) (nI (k + (l + 1))) (nI n) (nI k) v24 (nI n - 1) 1 (pil m g H) else F_X12_isTrue_J75 N (F_X12_isTrue_L5 N (F_X12_isTrue_J160 N) z) (some m) (nI (k + (l + 1))) (nI n) (nI k) v24 (nI n - 1) 0 (pil m g H)) else ((xgA (pil m g H) (some m) 11 45).bind fun v8 => if nI kd = (4 : Int32) then ((xgA (pil m g H) (some m) 11 45).bind fun v18 => (xlI .boolean (pil m g H) v18 ((nI n + (-1)) - 1)).bind fun v19 => if v19 = 0 then ((xgA (pil m g H) (some m) 11 45).bind fun v21 => (xlI .boolean (pil m g H) v21 (nI n + (-1))).bind fun v22 => if v22 = 0 then F_X12_isTrue_J153 N (F_X12_isTrue_L5 N (F_X12_isTrue_J160 N) z) (some m) (nI (k + (l + 1))) (nI n + (-1)) (nI k) v8 ((nI n + (-1)) - 1) 0 (pil m g H) else F_X12_isTrue_J120 N (F_X12_isTrue_L5 N (F_X12_isTrue_J160 N) z) (some m) (nI (k + (l + 1))) (nI n + (-1)) (nI k) v8 ((nI n + (-1)) - 1) (pil m g H)) else F_X12_isTrue_J120 N (F_X12_isTrue_L5 N (F_X12_isTrue_J160 N) z) (some m) (nI (k + (l + 1))) (nI n + (-1)) (nI k) v8 ((nI n + (-1)) - 1) (pil m g H)) else ((xgA (pil m g H) (some m) 11 45).bind fun v12 => (xlI .boolean (pil m g H) v12 ((nI n + (-1)) - 1)).bind fun v13 => if v13 = 0 then F_X12_isTrue_J152 N (F_X12_isTrue_L5 N (F_X12_isTrue_J160 N) z) (some m) (nI (k + (l + 1))) (nI n + (-1)) (nI k) v8 ((nI n + (-1)) - 1) (pil m g H) else ((xgA (pil m g H) (some m) 11 45).bind fun v15 => (xlI .boolean (pil m g H) v15 (nI n + (-1))).bind fun v16 => if v16 = 0 then F_X12_isTrue_J152 N (F_X12_isTrue_L5 N (F_X12_isTrue_J160 N) z) (some m) (nI (k + (l + 1))) (nI n + (-1)) (nI k) v8 ((nI n + (-1)) - 1) (pil m g H) else F_X12_isTrue_J153 N (F_X12_isTrue_L5 N (F_X12_isTrue_J160 N) z) (some m) (nI (k + (l + 1))) (nI n + (-1)) (nI k) v8 ((nI n + (-1)) - 1) 1 (pil m g H))))) else none) = F_X12_isTrue_J160 N (some m) (pil m g' H) ∧ ∀ i, i < n' → g' i = bI (P' i) := by
            intro kd hkd hc hn2 hn1 hP1
            have em1 : nI n + (-1) = nI (n - 1) := by rw [nI_dm, dm1 (by omega)]
            have em2 : nI (n - 1) - 1 = nI (n - 2) := by rw [dm1 (by omega), show n - 1 - 1 = n - 2 by omega]
            have r1 : xlI .boolean (pil m g H) (some (m + 25)) (nI (n - 1)) = some (bI (P (n - 1))) := by rw [rdI pil_at (by omega) (by decide), hg _ (by omega)]
            have r2 : xlI .boolean (pil m g H) (some (m + 25)) (nI (n - 2)) = some (bI (P (n - 2))) := by rw [rdI pil_at (by omega) (by decide), hg _ (by omega)]
            have fin : ∀ Q : Prop, (Q ↔ (if kd = 4 then P (n - 2) ∨ P (n - 1) else P (n - 2) ∧ P (n - 1))) → ∃ g', F_X12_isTrue_J153 N (F_X12_isTrue_L5 N (F_X12_isTrue_J160 N) z) (some m) (nI (k + (l + 1))) (nI (n - 1)) (nI k) (some (m + 25)) (nI (n - 2)) (bI Q) (pil m g H) = F_X12_isTrue_J160 N (some m) (pil m g' H) ∧ ∀ i, i < n' → g' i = bI (P' i) := by
              intro Q hQ
              unfold F_X12_isTrue_J153
              simp only [pil_st (show n - 2 < 64 by omega), Option.bind_some]
              refine next _ _ hn1.symm (by omega) (fun i hi => ?_)
              by_cases e : i = n - 2
              · rw [e, pk_us]; exact bI_c (hQ.trans (((hP1 (n - 2)).trans upP_s).symm))
              · rw [pk_un e, hg i (by omega)]; exact bI_c (((hP1 i).trans (upP_n e)).symm)
            have fT := fun hQ => fin True ⟨fun _ => hQ, fun _ => trivial⟩
            have fF := fun hQ : ¬ _ => fin False ⟨False.elim, hQ⟩
            rw [bI_t trivial] at fT
            rw [bI_f id] at fF
            simp only [gA hp.1 ma45, em1, em2, r1, r2, F_X12_isTrue_J120, F_X12_isTrue_J152, Option.bind_some]
            rcases hkd with rfl | rfl
            · rw [if_pos (by decide), if_neg (by decide), if_pos (by decide)]
              simp only [if_true] at fT fF
              by_cases e2 : P (n - 2)
              · rw [bI_t e2, if_neg n10]; exact fT (Or.inl e2)
              · rw [bI_f e2, if_pos rfl]
                by_cases e1 : P (n - 1)
                · rw [bI_t e1, if_neg n10]; exact fT (Or.inr e1)
                · rw [bI_f e1, if_pos rfl]; exact fF (fun z => z.elim e2 e1)
            · rw [if_pos (by decide), if_neg (by decide), if_neg (by decide)]
              simp only [show ¬ (5 : Nat) = 4 by decide, if_false] at fT fF
              by_cases e2 : P (n - 2)
              · rw [bI_t e2, if_neg n10]
                by_cases e1 : P (n - 1)
                · rw [bI_t e1, if_neg n10]; exact fT ⟨e2, e1⟩
                · rw [bI_f e1, if_pos rfl]; exact fF (fun z => e1 z.2)
              · rw [bI_f e2, if_pos rfl]; exact fF (fun z => e2 z.1)
          by_cases k4 : c.1 k = nI 4
          · rw [if_pos k4] at hs
            have hn2 : 2 ≤ n ∧ n ≤ 64 := by
              by_cases z : 2 ≤ n ∧ n ≤ 64
              · exact z
              · rw [if_neg z] at hs; cases hs
            rw [if_pos hn2] at hs
            simp only [Option.some.injEq, Prod.mk.injEq] at hs
            have hb := bin 4 (Or.inl rfl) k4 hn2 hs.1.symm (fun i => by rw [← hs.2, if_pos rfl])
            rw [if_pos (by decide)] at hb
            rw [k4, if_pos (by decide)]
            exact hb
          · rw [if_neg k4] at hs
            by_cases k5 : c.1 k = nI 5
            · rw [if_pos k5] at hs
              have hn2 : 2 ≤ n ∧ n ≤ 64 := by
                by_cases z : 2 ≤ n ∧ n ≤ 64
                · exact z
                · rw [if_neg z] at hs; cases hs
              rw [if_pos hn2] at hs
              simp only [Option.some.injEq, Prod.mk.injEq] at hs
              have hb := bin 5 (Or.inr rfl) k5 hn2 hs.1.symm (fun i => by rw [← hs.2, if_neg (by decide)])
              rw [if_pos (by decide)] at hb
              rw [k5, if_pos (by decide)]
              exact hb
            · rw [if_neg k5] at hs
              cases hs
theorem M_isT (hN : 1400 < N) (h : gM m T v c d H) {s e : Nat} {σ : sem} {g : Nat → Int32} (he : e ≤ 1400) (p : PF T c s e 21 σ) : ∃ g', F_X12_isTrue N (some m) (nI s) (nI e) (pil m g H) = some (bI (σ d), pil m g' H) := by
  obtain ⟨p1, p2, p3⟩ := p
  obtain ⟨P', a1, a2, -⟩ := p3 d 0 (fun _ => False) (by omega)
  obtain ⟨g', b1, b2⟩ := M_run (N := N) (show 5 < N by omega) h (e - s) s N 0 _ _ _ g (by omega) (by omega) a1 (fun i hi => absurd hi (Nat.not_lt_zero _)) (Nat.zero_le _)
  rw [show s + (e - s) = e by omega] at b1
  refine ⟨g', ?_⟩
  unfold F_X12_isTrue
  rw [show (0 : Int32) = nI 0 from rfl, b1]
  unfold F_X12_isTrue_J160
  simp only [gA (h.pile (g := g')).1 ma45, show (0 : Int32) = nI 0 from rfl, rdI (pil_at (m := m) (g := g') (H := H)) (show 0 < 64 by decide) (by decide), b2 0 (by omega), Option.bind_some]
  rw [show nI 0 = (0 : Int32) from rfl, if_pos (bI_01' _)]
  congr 2
  exact bI_c a2
