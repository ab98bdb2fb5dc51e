/-! PURE: the reference makes its table. -/
variable {stf : Nat → Nat} {N K b m : Nat} {β : sB} {δ : sD} {H : xH}
variable {v : Nat → Int32} {c : cod} {d : Nat → Nat} {τ : tS} {Γ : Nat → Nat → Int32}
/-- the arrays hold what is told, where it's in force -/
def yD (τ : tS) (c : cod) (Γ : Nat → Nat → Int32) : Prop :=
  (∀ i, i < yT τ → Γ 1 i = nI (yf τ i) ∧ Γ 2 i = nI (yu τ i)) ∧
  (∀ r, r < yR τ → Γ 7 r = rK (yr τ r).2.2 ∧ Γ 8 r = nI (yr τ r).1 ∧ Γ 9 r = nI (yr τ r).2.1 ∧ Γ 10 r = rI (yr τ r).2.2) ∧
  ∀ w, w < yW τ → ∃ s0 s1 s2 s3, Γ 11 w = nI s0 ∧ Γ 12 w = nI s1 ∧ Γ 13 w = nI s2 ∧ Γ 14 w = nI s3 ∧ s0 ≤ s1 ∧ s1 ≤ s2 ∧ s2 ≤ s3 ∧ s3 ≤ 1400 ∧ PF (yT τ) c s0 s1 21 (yb τ w).2.2.2.2.1 ∧ pO (yT τ) c s1 s2 (yb τ w).2.2.2.2.2.1 ∧ pO (yT τ) c s2 s3 (yb τ w).2.2.2.2.2.2
def gB (m : Nat) (v : Nat → Int32) (Γ : Nat → Nat → Int32) (c : cod) (H : xH) : Prop := H.1 m = some (mo m v) ∧ aG m Γ H ∧ mcd m c H
def sB4 (m q : Nat) : Prop := m + 22 ≤ q ∧ q ≤ m + 25
theorem gB.fr {H' : xH} (h : gB m v Γ c H) (hF : Fr (sB4 m) H H') : gB m v Γ c H' := by
  obtain ⟨h1, h2, a, b, e⟩ := h
  have k : ∀ q, q < m + 22 → H'.1 q = H.1 q := fun q hq => hF.2 q (by unfold sB4; omega)
  exact ⟨(k _ (by omega)).trans h1, h2.fr (fun a _ _ => k _ (by omega)), (k _ (by omega)).trans a, (k _ (by omega)).trans b, (k _ (by omega)).trans e⟩
theorem PF.lt {T s e h : Nat} {σ : sem} (p : PF T c s e h σ) (hh : h ≤ 64) : s < e := by
  rcases Nat.lt_or_ge s e with q | q
  · exact q
  · exfalso
    obtain ⟨P', a, -⟩ := p.2.2 (fun _ => 0) 0 (fun _ => False) (by omega)
    rw [show e - s = 0 by omega] at a
    simp [prun] at a
theorem pO.oS {T s e : Nat} {f : Option sem} (p : pO T c s e f) : (s < e ↔ f ≠ none) := by
  cases f with
  | none => exact ⟨fun z => (by rw [p.1 rfl] at z; omega), fun z => absurd rfl z⟩
  | some σ => exact ⟨fun _ z => (by cases z), fun _ => (p.2 σ rfl).lt (by omega)⟩
theorem M_opt (hN : 1400 < N) (h : gM m (yT τ) v c d H) {s e : Nat} {f : Option sem} {g : Nat → Int32} (he : e ≤ 1400) (p : pO (yT τ) c s e f) (hse : s < e) : ∃ g', F_X12_isTrue N (some m) (nI s) (nI e) (pil m g H) = some (bI (oS f d), pil m g' H) := by
  cases hf : f with
  | none => exact absurd hf (p.oS.mp hse)
  | some σ =>
    obtain ⟨g', e1⟩ := M_isT (g := g) hN h he (p.2 σ hf)
    refine ⟨g', ?_⟩
    rw [e1]
    congr 2
    exact bI_c ⟨fun z => ⟨σ, rfl, z⟩, fun ⟨ρ, z1, z2⟩ => by cases z1; exact z2⟩
theorem M_does (hN : 1400 < N) (h : gM m (yT τ) v c d H) (hG : aG m Γ H) (hD : yD τ c Γ) {w : Nat} (hw : w < yW τ) (hw12 : yW τ ≤ 12) {g : Nat → Int32} : ∃ g', F_X12_doesNow N (some m) (nI w) (pil m g H) = some (nI (mdo (outc (yb τ w) d)), pil m g' H) := by
  obtain ⟨s0, s1, s2, s3, k1, k2, k3, k4, l1, l2, l3, l4, p1, p2, p3⟩ := hD.2.2 w hw
  have pG : ∀ g, aG m Γ (pil m g H) := fun g => hG.fr (fun a _ _ => xup_ne _ (by omega))
  have r11 : ∀ g, xlI .int (pil m g H) (some (m + 11)) (nI w) = some (nI s0) := fun g => by rw [← k1]; exact (pG g).rd (by decide) (by decide) (show w < 24 by omega)
  have r12 : ∀ g, xlI .int (pil m g H) (some (m + 12)) (nI w) = some (nI s1) := fun g => by rw [← k2]; exact (pG g).rd (by decide) (by decide) (show w < 24 by omega)
  have r13 : ∀ g, xlI .int (pil m g H) (some (m + 13)) (nI w) = some (nI s2) := fun g => by rw [← k3]; exact (pG g).rd (by decide) (by decide) (show w < 24 by omega)
  have r14 : ∀ g, xlI .int (pil m g H) (some (m + 14)) (nI w) = some (nI s3) := fun g => by rw [← k4]; exact (pG g).rd (by decide) (by decide) (show w < 24 by omega)
  have hp := fun g => (h.pile (g := g)).1
  have J60 : ∀ (g : Nat → Int32) (a z : Nat), ∃ g', F_X12_doesNow_J60 N (some m) (nI w) (nI a) (pil m g H) = some (cif (oS (yb τ w).2.2.2.2.2.2 d) (nI (a + 2)) (nI a), pil m g' H) := by
    intro g a z
    unfold F_X12_doesNow_J60
    simp only [gA (hp g) ma18, r13, gA (hp g) ma19, r14, Option.bind_some]
    by_cases hlt : s2 < s3
    · rw [if_neg (nI_ge hlt (by omega))]
      obtain ⟨g', e1⟩ := M_opt (g := g) hN h l4 p3 hlt
      simp only [obx (hp g), e1, bd2_s, Option.bind_some]
      refine ⟨g', ?_⟩
      by_cases o : oS (yb τ w).2.2.2.2.2.2 d
      · rw [bI_t o, if_neg n10, cif_t o, show (2 : Int32) = nI 2 from rfl, nI_add]
      · rw [bI_f o, if_pos rfl, cif_f o]
    · rw [if_pos (nI_le (by omega) (by omega))]
      have hn : (yb τ w).2.2.2.2.2.2 = none := Classical.byContradiction fun z => hlt (p3.oS.mpr z)
      refine ⟨g, ?_⟩
      rw [cif_f]
      rintro ⟨ρ, z1, -⟩
      rw [hn] at z1; cases z1
  have J36 : ∀ (g : Nat → Int32), ∃ g', F_X12_doesNow_J36 N (some m) (nI w) (pil m g H) = some (cif ((yb τ w).2.2.2.2.1 d) (cif (oS (yb τ w).2.2.2.2.2.2 d) (nI 3) (nI 1)) (cif (oS (yb τ w).2.2.2.2.2.2 d) (nI 4) (nI 2)), pil m g' H) := by
    intro g
    unfold F_X12_doesNow_J36
    obtain ⟨g', e1⟩ := M_isT (g := g) hN h (show s1 ≤ 1400 by omega) p1
    simp only [gA (hp g) ma16, r11, gA (hp g) ma17, r12, obx (hp g), e1, bd2_s, Option.bind_some]
    by_cases o : (yb τ w).2.2.2.2.1 d
    · rw [bI_t o, if_neg n10, cif_t o]
      exact J60 g' 1 0
    · rw [bI_f o, if_pos rfl, cif_f o]
      exact J60 g' 2 0
  have fin : ∀ g', ¬ oS (yb τ w).2.2.2.2.2.1 d → (some (cif ((yb τ w).2.2.2.2.1 d) (cif (oS (yb τ w).2.2.2.2.2.2 d) (nI 3) (nI 1)) (cif (oS (yb τ w).2.2.2.2.2.2 d) (nI 4) (nI 2)), pil m g' H) : Option (Int32 × xH)) = some (nI (mdo (outc (yb τ w) d)), pil m g' H) := by
    intro g' o
    congr 2
    unfold outc
    rw [cif_f o]
    by_cases o1 : (yb τ w).2.2.2.2.1 d
    · rw [cif_t o1, cif_t o1]
      by_cases o2 : oS (yb τ w).2.2.2.2.2.2 d
      · rw [cif_t o2, cif_t o2]; rfl
      · rw [cif_f o2, cif_f o2]; rfl
    · rw [cif_f o1, cif_f o1]
      by_cases o2 : oS (yb τ w).2.2.2.2.2.2 d
      · rw [cif_t o2, cif_t o2]; rfl
      · rw [cif_f o2, cif_f o2]; rfl
  unfold F_X12_doesNow
  simp only [gA (hp g) ma17, r12, gA (hp g) ma18, r13, Option.bind_some]
  by_cases hlt : s1 < s2
  · rw [if_neg (nI_ge hlt (by omega))]
    obtain ⟨g', e1⟩ := M_opt (g := g) hN h (show s2 ≤ 1400 by omega) p2 hlt
    simp only [obx (hp g), e1, bd2_s, Option.bind_some]
    by_cases o : oS (yb τ w).2.2.2.2.2.1 d
    · rw [bI_t o, if_neg n10]
      refine ⟨g', ?_⟩
      congr 2
      unfold outc
      rw [cif_t o]; rfl
    · rw [bI_f o, if_pos rfl]
      obtain ⟨g'', e2⟩ := J36 g'
      exact ⟨g'', e2.trans (fin g'' o)⟩
  · rw [if_pos (nI_le (by omega) (by omega))]
    have hn : (yb τ w).2.2.2.2.2.1 = none := Classical.byContradiction fun z => hlt (p2.oS.mpr z)
    obtain ⟨g'', e2⟩ := J36 g
    exact ⟨g'', e2.trans (fin g'' (fun ⟨ρ, z1, _⟩ => by rw [hn] at z1; cases z1))⟩
/-- the row's days -/
def dy (m : Nat) (g : Nat → Int32) (H : xH) : xH := xup H (m + 22) (aI 5 g)
theorem dy_dy {g g' : Nat → Int32} : dy m g' (dy m g H) = dy m g' H := xup_up _ _
theorem dy_at {g : Nat → Int32} : (dy m g H).1 (m + 22) = some (aI 5 g) := xup_at _
theorem gB.dy {g : Nat → Int32} (h : gB m v Γ c H) : gB m v Γ c (dy m g H) := h.fr (Fr.u (by unfold sB4; omega))
theorem M_lays (hN : 5 < N) (h : gB m v Γ c H) (hD : yD τ c Γ) (ho : yOk τ) (h0 : v 0 = nI (yT τ)) (hT : yT τ ≤ 5) {k : Nat} (hk : k < 2 ^ 31) {g : Nat → Int32} : ∃ g', F_X12_lays N (some m) (nI k) (dy m g H) = some (bI (bX τ k), dy m g' H) ∧ ∀ t, t < yT τ → g' t = nI (dig k t) - 1 := by
  have loop : ∀ z i, i ≤ yT τ → yT τ - i < z → ∀ (P : Prop) (g : Nat → Int32), (∀ t, t < i → g t = nI (dig k t) - 1) → ∃ g', F_X12_lays_L7 N z (some m) (nI (k / 9 ^ i)) (bI P) (nI i) (dy m g H) = some (bI (P ∧ ∀ j, i ≤ j → j < yT τ → dig k j = 0 ∨ (yf τ j + 1 ≤ dig k j ∧ dig k j ≤ yu τ j + 1)), dy m g' H) ∧ ∀ t, t < yT τ → g' t = nI (dig k t) - 1 := by
    refine upto (P := fun z i => ∀ (P : Prop) (g : Nat → Int32), (∀ t, t < i → g t = nI (dig k t) - 1) → ∃ g', F_X12_lays_L7 N z (some m) (nI (k / 9 ^ i)) (bI P) (nI i) (dy m g H) = some (bI (P ∧ ∀ j, i ≤ j → j < yT τ → dig k j = 0 ∨ (yf τ j + 1 ≤ dig k j ∧ dig k j ≤ yu τ j + 1)), dy m g' H) ∧ ∀ t, t < yT τ → g' t = nI (dig k t) - 1) ?_ ?_
    · intro z P g hg
      rw [show F_X12_lays_L7 N (z + 1) = F_X12_lays_J7 N (F_X12_lays_L7 N z) from rfl]
      refine ⟨g, ?_, hg⟩
      simp only [F_X12_lays_J7, gI (h.dy (g := g)).1 mi0, h0, Int32.le_refl, if_true, bI_01s, Option.bind_some]
      congr 2
      exact bI_c ⟨fun z => ⟨z, fun j z1 z2 => by omega⟩, fun z => z.1⟩
    · intro z i hi ih P g hg
      have hq : k / 9 ^ i < 2 ^ 31 := Nat.lt_of_le_of_lt (Nat.div_le_self _ _) hk
      have hrem : nI (k / 9 ^ i) - nI (k / 9 ^ i) / 9 * 9 = nI (dig k i) := pk_rem hq (by decide) (by decide)
      have hdiv : nI (k / 9 ^ i) / 9 = nI (k / 9 ^ (i + 1)) := by
        rw [show (9 : Int32) = nI 9 from rfl, pk_div hq (by decide) (by decide), Nat.div_div_eq_div_mul, Nat.pow_succ]
      have hrem' : nI (k / 9 ^ i) - nI (k / 9 ^ (i + 1)) * 9 = nI (dig k i) := by rw [← hdiv]; exact hrem
      have hd := dig_lt k i
      have f7 := ho.1 i hi
      obtain ⟨gf, gu⟩ := hD.1 i hi
      have st : xsI .int (dy m g H) (some (m + 22)) (nI i) (nI (dig k i) - 1) = some (dy m (upd g i (nI (dig k i) - 1)) H) := by
        rw [stI dy_at (show i < 5 by omega) (by decide), vnI]; exact congrArg some dy_dy
      have hg1 : ∀ t, t < i + 1 → upd g i (nI (dig k i) - 1) t = nI (dig k t) - 1 := fun t ht => by
        by_cases e : t = i
        · rw [e, pk_us]
        · rw [pk_un e]; exact hg t (by omega)
      generalize upd g i (nI (dig k i) - 1) = g1 at *
      have b1 := h.dy (g := g1)
      have rd : xlI .int (dy m g1 H) (some (m + 22)) (nI i) = some (nI (dig k i) - 1) := by rw [rdI dy_at (show i < 5 by omega) (by decide), hg1 i (by omega)]
      have r1 := b1.2.1.rd (a := 1) (by decide) (by decide) (show i < 10 by omega)
      have r2 := b1.2.1.rd (a := 2) (by decide) (by decide) (show i < 10 by omega)
      rw [gf] at r1
      rw [gu] at r2
      rw [show F_X12_lays_L7 N (z + 1) = F_X12_lays_J7 N (F_X12_lays_L7 N z) from rfl]
      simp only [F_X12_lays_J7, F_X12_lays_J80, F_X12_lays_J76, F_X12_lays_J81, gI (h.dy (g := g)).1 mi0, h0, nI_ge hi (show yT τ < 2 ^ 31 by omega), if_false, gA (h.dy (g := g)).1 ma42, hdiv, hrem', st, gA b1.1 ma42, rd, gA b1.1 ma6, r1, gA b1.1 ma7, r2, nI_1, S_in, bd2_s, Option.bind_some]
      have fin : ∀ Q : Prop, (Q ↔ (P ∧ (dig k i = 0 ∨ (yf τ i + 1 ≤ dig k i ∧ dig k i ≤ yu τ i + 1)))) → ∃ g', F_X12_lays_L7 N z (some m) (nI (k / 9 ^ (i + 1))) (bI Q) (nI (i + 1)) (dy m g1 H) = some (bI (P ∧ ∀ j, i ≤ j → j < yT τ → dig k j = 0 ∨ (yf τ j + 1 ≤ dig k j ∧ dig k j ≤ yu τ j + 1)), dy m g' H) ∧ ∀ t, t < yT τ → g' t = nI (dig k t) - 1 := by
        intro Q hQ
        obtain ⟨g', w1, w2⟩ := ih Q g1 hg1
        refine ⟨g', ?_, w2⟩
        rw [w1]
        congr 2
        exact bI_c ⟨fun ⟨z1, z2⟩ => ⟨(hQ.mp z1).1, fun j j1 j2 => by
          by_cases e : j = i
          · rw [e]; exact (hQ.mp z1).2
          · exact z2 j (by omega) j2⟩, fun ⟨z1, z2⟩ => ⟨hQ.mpr ⟨z1, z2 i (Nat.le_refl _) hi⟩, fun j j1 j2 => z2 j (by omega) j2⟩⟩
      have fT := fun hQ => fin True ⟨fun _ => hQ, fun _ => trivial⟩
      have fF := fun hQ : ¬ _ => fin False ⟨False.elim, hQ⟩
      rw [bI_t trivial] at fT
      rw [bI_f id] at fF
      by_cases hP : P
      · rw [bI_t hP, if_neg n10]
        by_cases e0 : dig k i = 0
        · rw [if_pos ((dg0 _ hd).mpr e0)]
          exact fT ⟨hP, Or.inl e0⟩
        · rw [if_neg (fun z => e0 ((dg0 _ hd).mp z)), dm1 e0]
          by_cases e1 : yf τ i ≤ dig k i - 1 ∧ dig k i - 1 ≤ yu τ i
          · rw [bI_t ⟨nI_nlt e1.1 (by omega), nI_nlt e1.2 (by omega)⟩, if_neg n10]
            exact fT ⟨hP, Or.inr ⟨by omega, by omega⟩⟩
          · rw [bI_f (fun z => e1 ⟨Classical.byContradiction fun y => z.1 (nI_lt (by omega) (by omega)), Classical.byContradiction fun y => z.2 (nI_lt (by omega) (by omega))⟩), if_pos rfl]
            exact fF (fun z => by omega)
      · rw [bI_f hP, if_pos rfl]
        exact fF (fun z => hP z.1)
  obtain ⟨g', w1, w2⟩ := loop N 0 (Nat.zero_le _) (by omega) True g (fun t ht => absurd ht (Nat.not_lt_zero _))
  refine ⟨g', ?_, w2⟩
  unfold F_X12_lays
  rw [bI_t trivial] at w1
  rw [show nI k = nI (k / 9 ^ 0) by simp, show (0 : Int32) = nI 0 from rfl, w1]
  congr 2
  exact bI_c ⟨fun z j hj => z.2 j (Nat.zero_le _) hj, fun z => ⟨trivial, fun j _ hj => z j hj⟩⟩
theorem M_posN (hN : 41 < N) (h : gB m v Γ c H) (hD : yD τ c Γ) (ho : yOk τ) (h4 : v 4 = nI (yR τ)) (hT : yT τ ≤ 5) (hR : yR τ ≤ 40) {k : Nat} {g : Nat → Int32} (hg : ∀ t, t < yT τ → g t = nI (dig k t) - 1) : F_X12_isPossibleNow N (some m) (dy m g H) = some (bI (∀ r, r < yR τ → rOk (dig k) (yr τ r)), dy m g H) := by
  have b1 := h.dy (g := g)
  have loop : ∀ z i, i ≤ yR τ → yR τ - i < z → F_X12_isPossibleNow_L2 N z (some m) (nI i) (dy m g H) = some (bI (∀ r, i ≤ r → r < yR τ → rOk (dig k) (yr τ r)), dy m g H) := by
    refine upto (P := fun z i => F_X12_isPossibleNow_L2 N z (some m) (nI i) (dy m g H) = some (bI (∀ r, i ≤ r → r < yR τ → rOk (dig k) (yr τ r)), dy m g H)) ?_ ?_
    · intro z
      rw [show F_X12_isPossibleNow_L2 N (z + 1) = F_X12_isPossibleNow_J2 N (F_X12_isPossibleNow_L2 N z) from rfl]
      simp only [F_X12_isPossibleNow_J2, gI b1.1 mi4, h4, Int32.le_refl, if_true, Option.bind_some]
      rw [bI_t (fun r z1 z2 => by omega)]
    · intro z i hi ih
      obtain ⟨k7, k8, k9, k10⟩ := hD.2.1 i hi
      obtain ⟨o1, o2, o3⟩ := ho.2.1 i hi
      have r7 := b1.2.1.rd (a := 7) (by decide) (by decide) (show i < 80 by omega)
      have r8 := b1.2.1.rd (a := 8) (by decide) (by decide) (show i < 80 by omega)
      have r9 := b1.2.1.rd (a := 9) (by decide) (by decide) (show i < 80 by omega)
      have r10 := b1.2.1.rd (a := 10) (by decide) (by decide) (show i < 80 by omega)
      rw [k7] at r7
      rw [k8] at r8
      rw [k9] at r9
      rw [k10] at r10
      have d1 : xlI .int (dy m g H) (some (m + 22)) (nI (yr τ i).1) = some (nI (dig k (yr τ i).1) - 1) := by rw [rdI dy_at (by omega) (by decide), hg _ o1]
      have d2 : xlI .int (dy m g H) (some (m + 22)) (nI (yr τ i).2.1) = some (nI (dig k (yr τ i).2.1) - 1) := by rw [rdI dy_at (by omega) (by decide), hg _ o2]
      have l1 := dig_lt k (yr τ i).1
      have l2 := dig_lt k (yr τ i).2.1
      rw [show F_X12_isPossibleNow_L2 N (z + 1) = F_X12_isPossibleNow_J2 N (F_X12_isPossibleNow_L2 N z) from rfl]
      simp only [F_X12_isPossibleNow_J2, F_X12_isPossibleNow_J58, F_X12_isPossibleNow_J100, gI b1.1 mi4, h4, nI_ge hi (show yR τ < 2 ^ 31 by omega), if_false, gA b1.1 ma42, gA b1.1 ma13, r8, d1, gA b1.1 ma14, r9, d2, gA b1.1 ma12, r7, gA b1.1 ma15, r10, nI_1, ih, Option.bind_some]
      have sT : rOk (dig k) (yr τ i) → (some (bI (∀ r, i + 1 ≤ r → r < yR τ → rOk (dig k) (yr τ r)), dy m g H) : Option (Int32 × xH)) = some (bI (∀ r, i ≤ r → r < yR τ → rOk (dig k) (yr τ r)), dy m g H) := fun hp => by
        congr 2
        exact bI_c ⟨fun z j z1 z2 => by
          by_cases e : j = i
          · rw [e]; exact hp
          · exact z j (by omega) z2, fun z j z1 z2 => z j (by omega) z2⟩
      have sF : ¬ rOk (dig k) (yr τ i) → (some (0, dy m g H) : Option (Int32 × xH)) = some (bI (∀ r, i ≤ r → r < yR τ → rOk (dig k) (yr τ r)), dy m g H) := fun hp => by
        rw [bI_f (fun z => hp (z i (Nat.le_refl _) hi))]
      by_cases e0 : dig k (yr τ i).1 = 0
      · rw [if_pos ((dg0 _ l1).mpr e0)]
        exact sT (Or.inl e0)
      rw [if_neg (fun z => e0 ((dg0 _ l1).mp z)), dm1 e0]
      have neg : ∀ z : Nat, (nI (dig k (yr τ i).2.1) - 1 ≤ nI z ↔ dig k (yr τ i).2.1 ≤ z + 1) ∨ 2 ^ 20 ≤ z := fun z => by
        by_cases hz : z < 2 ^ 20
        · left
          by_cases e2 : dig k (yr τ i).2.1 = 0
          · rw [e2]
            refine ⟨fun _ => Nat.zero_le _, fun _ => ?_⟩
            rw [Int32.le_iff_toInt_le, show (nI 0 - 1).toInt = -1 by decide, nI_toInt (by omega)]
            omega
          · rw [dm1 e2, nI_leI (by omega) (by omega)]
            omega
        · right; omega
      cases hr : (yr τ i).2.2 with
      | none =>
        have q := (neg (dig k (yr τ i).1 - 1)).resolve_right (by omega)
        rw [show rK none = (0 : Int32) from rfl, if_pos rfl, if_neg (show ¬ (0 : Int32) = 1 by decide)]
        by_cases e1 : dig k (yr τ i).2.1 ≤ dig k (yr τ i).1
        · rw [if_pos (q.mpr (by omega))]
          exact sT (Or.inr ⟨fun _ => e1, fun x hx => by rw [hr] at hx; cases hx⟩)
        · rw [if_neg (fun z => e1 (by have := q.mp z; omega))]
          exact sF (fun z => z.elim e0 (fun z => e1 (z.1 hr)))
      | some x =>
        have hx7 := o3 x hr
        have q := (neg (dig k (yr τ i).1 - 1 + x)).resolve_right (by omega)
        rw [show rK (some x) = (1 : Int32) from rfl, show rI (some x) = nI x from rfl, if_neg n10, if_pos rfl, nI_add]
        by_cases e1 : 8 < dig k (yr τ i).1 + x
        · rw [if_pos (show (7 : Int32) < nI (dig k (yr τ i).1 - 1 + x) from nI_lt (a := 7) (by omega) (by omega))]
          exact sT (Or.inr ⟨fun z => (by rw [hr] at z; cases z), fun y hy => by rw [hr] at hy; cases hy; exact Or.inl e1⟩)
        rw [if_neg (show ¬ (7 : Int32) < nI (dig k (yr τ i).1 - 1 + x) from nI_nlt (a := 7) (by omega) (by decide))]
        by_cases e2 : dig k (yr τ i).2.1 = 0
        · rw [if_pos ((dg0 _ l2).mpr e2)]
          exact sF (fun z => z.elim e0 (fun z => (z.2 x hr).elim e1 (fun y => y.1 e2)))
        rw [if_neg (fun z => e2 ((dg0 _ l2).mp z))]
        by_cases e3 : dig k (yr τ i).2.1 ≤ dig k (yr τ i).1 + x
        · rw [if_pos (q.mpr (by omega))]
          exact sT (Or.inr ⟨fun z => (by rw [hr] at z; cases z), fun y hy => by rw [hr] at hy; cases hy; exact Or.inr ⟨e2, e3⟩⟩)
        · rw [if_neg (fun z => e3 (by have := q.mp z; omega))]
          exact sF (fun z => z.elim e0 (fun z => (z.2 x hr).elim e1 (fun y => e3 y.2)))
  unfold F_X12_isPossibleNow
  rw [show (0 : Int32) = nI 0 from rfl, loop N 0 (Nat.zero_le _) (by omega)]
  congr 2
  exact bI_c ⟨fun z j hj => z j (Nat.zero_le _) hj, fun z j _ hj => z j hj⟩
