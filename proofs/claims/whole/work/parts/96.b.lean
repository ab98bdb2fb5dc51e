/-! PURE: the class makes its table. -/
variable {stf : Nat → Nat} {N K b m : Nat} {β : sB} {δ : sD} {H : xH}
variable {c lo : Nat} {τ : tS} {ad : Nat → Nat} {t tc tk nn nk : Nat}
def tob (t tc tk : Nat) (x0 x1 x2 x3 : Int32) (ce : Int64) : xE := ob 6 [.int x0, .int x1, .int x2, .int x3, .long ce, va_rf (some tc), va_rf (some tk), va_rf (some (t + 3)), va_rf (some (t + 4))]
/-- the table, not marked yet -/
def xTw (t tc tk n nk : Nat) (β : sB) (H : xH) : Prop := (∃ (x3 : Int32) (ce : Int64), H.1 t = some (tob t tc tk (nI (bT β)) (nI (bZ β)) (nI (cnt (bps β) (bZ β))) x3 ce)) ∧ (∃ g, H.1 tc = some (aJ n g) ∧ ∀ k, k < bZ β → cv (bW β) (bex β k) (bps β k) False (fun w => boc β w k) (g k)) ∧ bZ β ≤ n ∧ n ≤ 59049 ∧ (∃ g, H.1 tk = some (aB nk g)) ∧ bZ β + bZ β / 8 + 1 ≤ nk ∧ nk ≤ 70000 ∧ (∃ g, H.1 (t + 3) = some (aI 5 g)) ∧ (∃ g, H.1 (t + 4) = some (aI 5 g))
theorem S_mkW (hN : 59049 < N) {β : sB} (hB : bOk β) {l : Nat} {σ : sL} (h7 : lT σ ≤ 7) (h8 : ∀ j, lC σ j ≤ 8) (hlt : l + 1 ≠ t + 4) (ht : xTw t tc tk nn nk β H) (hl : xLed l σ H) : ∃ H', F_X6_mark N (some t) (some l) H = some (nI (cnt (lft β σ) (bZ β)), H') ∧ xTab t tc tk nn nk β σ H' ∧ Fr (fun q => q = t ∨ q = tc ∨ q = t + 3 ∨ q = t + 4) H H' := by
  have hz := bZ_le hB.1
  obtain ⟨⟨x3, cert, h1⟩, ⟨cl, h2, h3⟩, h4, h5, ⟨gk, h6⟩, hk7, hk8, ⟨g3, h9⟩, ⟨g4, h10⟩⟩ := ht
  obtain ⟨l1, ⟨gc, l2, l3⟩, -, -⟩ := hl
  obtain ⟨H', g', al', m1, m2, m3, m4, m5, m6⟩ := S_mark (N := N) (fs := [.int (nI (bT β)), .int (nI (bZ β)), .int (nI (cnt (bps β) (bZ β))), .int x3, .long cert, va_rf (some tc), va_rf (some tk), va_rf (some (t + 3)), va_rf (some (t + 4))]) (T := bT β) (s := bZ β) (today := nI (lT σ)) (cm := gc) hB.1 (show nn < 2 ^ 31 by omega) h4 rfl rfl rfl rfl rfl (show (8 : Nat) < 9 by decide) rfl rfl hlt (by omega) (by omega) (by omega) h1 h2 h9 h10 l1 l2
  have hA : (fun k => bps β k ∧ alw (bT β) (alf (bT β) (nI (lT σ)) gc) k) = lft β σ := funext fun k => propext (alw_lft hB.1 h7 h8 l3 k)
  have hAk : ∀ k, (bps β k ∧ alw (bT β) (alf (bT β) (nI (lT σ)) gc) k) = lft β σ k := fun k => congrFun hA k
  have hcnt : lfc cl (alw (bT β) (alf (bT β) (nI (lT σ)) gc)) (bZ β) = cnt (lft β σ) (bZ β) := by
    rw [lfc_cnt]
    refine cnt_congr (fun k hk => ?_)
    rw [(nc_cv (h3 k hk)).1, hAk]
  rw [hcnt] at m1 m2
  refine ⟨H', m1, ⟨⟨_, m2, fun w hw => ⟨fun o hW hs => ?_, fun hno => ?_⟩, ?_⟩, ⟨_, m3, fun k hk => ?_⟩, h4, h5, ⟨gk, ?_⟩, hk7, hk8, ⟨g', m4⟩, ⟨al', m5⟩⟩, m6⟩
  · rw [← hA] at hs
    exact (cert_d5 h3 (fun k hk => hB.2.2.2.1 k hk) (fun w k => hB.2.2.2.2.1 w k) hw hW).1 o hs
  · by_cases hW : w < bW β
    · have h' := hno hW
      rw [← hA] at h'
      exact (cert_d5 h3 (fun k hk => hB.2.2.2.1 k hk) (fun w k => hB.2.2.2.2.1 w k) hw hW).2 h'
    · exact cert_no h3 hw hW
  · rw [sgl_d5 _ 12 (Nat.le_refl 12), if_neg (fun z => absurd z.1 (by decide))]
  · rw [if_pos hk, ← hAk]
    exact (nc_cv (h3 k hk)).2
  · rw [m6.2 tk (fun z => ?_)]
    · exact h6
    · rcases z with z | z | z | z
      · rw [z] at h6; rw [h1] at h6; cases h6
      · rw [z] at h6; rw [h2] at h6; cases h6
      · rw [z] at h6; rw [h9] at h6; cases h6
      · rw [z] at h6; rw [h10] at h6; cases h6
theorem tob_g {x0 x1 x2 x3 : Int32} {ce : Int64} (h : H.1 t = some (tob t tc tk x0 x1 x2 x3 ce)) : xgI H (some t) 6 0 = some x0 ∧ xgI H (some t) 6 1 = some x1 ∧ xgI H (some t) 6 2 = some x2 ∧ xgA H (some t) 6 5 = some (some tc) ∧ xgA H (some t) 6 6 = some (some tk) ∧ xgA H (some t) 6 7 = some (some (t + 3)) ∧ xob H (some t) 6 = some t := ⟨gI h rfl, gI h rfl, gI h rfl, gA h rfl, gA h rfl, gA h rfl, obx h⟩
theorem tob_p {x0 x1 x2 x3 y : Int32} {ce : Int64} {a : Nat} (h : H.1 t = some (tob t tc tk x0 x1 x2 x3 ce)) : xpI H (some t) 6 0 y = some (xup H t (tob t tc tk y x1 x2 x3 ce)) ∧ xpI H (some t) 6 1 y = some (xup H t (tob t tc tk x0 y x2 x3 ce)) ∧ xpI H (some t) 6 2 y = some (xup H t (tob t tc tk x0 x1 y x3 ce)) ∧ xpA H (some t) 6 5 (some a) = some (xup H t (tob t a tk x0 x1 x2 x3 ce)) ∧ xpA H (some t) 6 6 (some a) = some (xup H t (tob t tc a x0 x1 x2 x3 ce)) := ⟨pV h (by simp), pV h (by simp), pV h (by simp), pV h (by simp), pV h (by simp)⟩
theorem S_fillL (hN : 59049 < N) {Hp : xH} (hp : cL N c lo τ ad Hp) (hw : hW Hp) (hc : c + 8 < lo) (hl : lo ≤ Hp.2.1) (ho : yOk τ) (ht : ¬ (c ≤ t ∧ t < Hp.2.1)) (ht3 : ¬ (c ≤ t + 3 ∧ t + 3 < Hp.2.1)) (htc : ¬ (c ≤ tc ∧ tc < Hp.2.1)) (h1 : tc ≠ t) (h2 : tc ≠ t + 3) (hZ : 9 ^ yT τ ≤ nn) (hn : nn ≤ 59049) {x3 : Int32} {ce : Int64} :
    ∀ m k, k ≤ 9 ^ yT τ → 9 ^ yT τ - k < m → ∀ (H : xH) (g : Nat → Int64), (∀ q, c ≤ q → q < Hp.2.1 → H.1 q = Hp.1 q) → H.1 t = some (tob t tc tk (nI (yT τ)) (nI (9 ^ yT τ)) (nI (cnt (bP τ) k)) x3 ce) → H.1 tc = some (aJ nn g) → (∀ j, j < k → cv (yW τ) (bX τ j) (bP τ j) False (fun w => outc (yb τ w) (dig j)) (g j)) → dgs (t + 3) (dig k) H →
    ∃ (H' : xH) (g' : Nat → Int64), F_X6_fill_L78 N m (some t) (some c) (nI k) H = some H' ∧ H'.1 t = some (tob t tc tk (nI (yT τ)) (nI (9 ^ yT τ)) (nI (cnt (bP τ) (9 ^ yT τ))) x3 ce) ∧ H'.1 tc = some (aJ nn g') ∧ (∀ j, j < 9 ^ yT τ → cv (yW τ) (bX τ j) (bP τ j) False (fun w => outc (yb τ w) (dig j)) (g' j)) ∧ (∃ gd, H'.1 (t + 3) = some (aI 5 gd)) ∧ Fr (fun q => q = t ∨ q = tc ∨ q = t + 3) H H' := by
  refine upto (P := fun m k => ∀ (H : xH) (g : Nat → Int64), (∀ q, c ≤ q → q < Hp.2.1 → H.1 q = Hp.1 q) → H.1 t = some (tob t tc tk (nI (yT τ)) (nI (9 ^ yT τ)) (nI (cnt (bP τ) k)) x3 ce) → H.1 tc = some (aJ nn g) → (∀ j, j < k → cv (yW τ) (bX τ j) (bP τ j) False (fun w => outc (yb τ w) (dig j)) (g j)) → dgs (t + 3) (dig k) H → ∃ (H' : xH) (g' : Nat → Int64), F_X6_fill_L78 N m (some t) (some c) (nI k) H = some H' ∧ H'.1 t = some (tob t tc tk (nI (yT τ)) (nI (9 ^ yT τ)) (nI (cnt (bP τ) (9 ^ yT τ))) x3 ce) ∧ H'.1 tc = some (aJ nn g') ∧ (∀ j, j < 9 ^ yT τ → cv (yW τ) (bX τ j) (bP τ j) False (fun w => outc (yb τ w) (dig j)) (g' j)) ∧ (∃ gd, H'.1 (t + 3) = some (aI 5 gd)) ∧ Fr (fun q => q = t ∨ q = tc ∨ q = t + 3) H H') ?_ ?_
  · intro m H g hag e1 e2 e3 e4
    obtain ⟨k0, k1, k2, k5, k6, k7, ko⟩ := tob_g e1
    rw [show F_X6_fill_L78 N (m + 1) = F_X6_fill_J78 N (F_X6_fill_L78 N m) from rfl]
    refine ⟨H, g, ?_, e1, e2, e3, ?_, Fr.rf⟩
    · simp only [F_X6_fill_J78, k1, Int32.le_refl, if_true, Option.bind_some]
    · obtain ⟨gd, z, -⟩ := e4
      exact ⟨gd, z⟩
  · intro m k hk ih H g hag e1 e2 e3 e4
    obtain ⟨k0, k1, k2, k5, k6, k7, ko⟩ := tob_g e1
    have hcl := hp.fr hw hc hl hag
    have cob1 := (cob_g hcl.1).2.2.2.2.2
    obtain ⟨x, ex, hcv⟩ := S_cellOf (by omega) hcl e4 ho
    have st := stJ (v := x) e2 (show k < nn by omega) (by omega)
    rw [show F_X6_fill_L78 N (m + 1) = F_X6_fill_J78 N (F_X6_fill_L78 N m) from rfl]
    simp only [F_X6_fill_J78, k1, nI_ge hk (show 9 ^ yT τ < 2 ^ 31 by omega), if_false, k5, leJ e2, nI_ge (show k < nn by omega) (show nn < 2 ^ 31 by omega), k7, cob1, ex, bd2_s, st, Option.bind_some]
    obtain ⟨gd, d1, d2⟩ := e4
    have hF1 : Fr (fun q => q = t ∨ q = tc ∨ q = t + 3) H (xup H tc (aJ nn (vp_updL g k x))) := Fr.u (Or.inr (Or.inl rfl))
    have a1 : (xup H tc (aJ nn (vp_updL g k x))).1 t = _ := (xup_ne _ h1.symm).trans e1
    have a2 : (xup H tc (aJ nn (vp_updL g k x))).1 tc = some (aJ nn (vp_updL g k x)) := xup_at _
    have a3 : (xup H tc (aJ nn (vp_updL g k x))).1 (t + 3) = _ := (xup_ne _ h2.symm).trans d1
    generalize xup H tc (aJ nn (vp_updL g k x)) = H1 at *
    obtain ⟨l0, l1, l2, l5, l6, l7, lo1⟩ := tob_g a1
    have rdx := rdJ a2 (show k < nn by omega) (by omega)
    rw [pk_uLs] at rdx
    simp only [l5, rdx, lgc, Option.bind_some]
    have hcs : ∀ j, j < k + 1 → cv (yW τ) (bX τ j) (bP τ j) False (fun w => outc (yb τ w) (dig j)) (vp_updL g k x j) := fun j hj => by
      by_cases q : j = k
      · rw [q, pk_uLs]; exact hcv
      · rw [pk_uLn q]; exact e3 j (by omega)
    have rest : ∀ (H2 : xH), H2.1 t = some (tob t tc tk (nI (yT τ)) (nI (9 ^ yT τ)) (nI (cnt (bP τ) (k + 1))) x3 ce) → H2.1 tc = some (aJ nn (vp_updL g k x)) → H2.1 (t + 3) = some (aI 5 gd) → Fr (fun q => q = t ∨ q = tc ∨ q = t + 3) H H2 → ∃ (H' : xH) (g' : Nat → Int64), F_X6_fill_J134 N (F_X6_fill_L78 N m) (some t) (some c) (nI k) H2 = some H' ∧ H'.1 t = some (tob t tc tk (nI (yT τ)) (nI (9 ^ yT τ)) (nI (cnt (bP τ) (9 ^ yT τ))) x3 ce) ∧ H'.1 tc = some (aJ nn g') ∧ (∀ j, j < 9 ^ yT τ → cv (yW τ) (bX τ j) (bP τ j) False (fun w => outc (yb τ w) (dig j)) (g' j)) ∧ (∃ gd, H'.1 (t + 3) = some (aI 5 gd)) ∧ Fr (fun q => q = t ∨ q = tc ∨ q = t + 3) H H' := by
      intro H2 b1 b2 b3 hF2
      obtain ⟨g', s1, s2⟩ := S_step (N := N) (td := t + 3) (t := t) k (by omega) N 0 H2 gd b1 rfl b3 (by omega) (by omega) (fun j hj => by rw [if_neg (by omega)]; exact (d2 j hj).1) (by simp [Nat.mod_one])
      have hF3 : Fr (fun q => q = t ∨ q = tc ∨ q = t + 3) H (xup H2 (t + 3) (aI 5 g')) := hF2.tr (Fr.u (Or.inr (Or.inr rfl)))
      obtain ⟨H', g'', w1, w2, w3, w4, w5, w6⟩ := ih (xup H2 (t + 3) (aI 5 g')) _ (fun q q1 q2 => (hF3.2 q (fun z => by
        rcases z with z | z | z
        · exact ht (by omega)
        · exact htc (by omega)
        · exact ht3 (by omega))).trans (hag q q1 q2)) ((xup_ne _ (by omega)).trans b1) ((xup_ne _ h2).trans b2) hcs ⟨g', xup_at _, fun j hj => ⟨s2 j hj, dig_lt _ _⟩⟩
      refine ⟨H', g'', ?_, w2, w3, w4, w5, hF3.tr w6⟩
      unfold F_X6_fill_J134 F_X6_stepDigits
      rw [show (0 : Int32) = nI 0 from rfl]
      simp only [obx b1, s1, nI_1, w1, Option.bind_some]
    by_cases q : bP τ k
    · rw [if_neg (fun z => (cv_ps hcv).mp z q)]
      have st2 := (tob_p (a := 0) a1 (y := nI (cnt (bP τ) k + 1))).2.2.1
      simp only [l2, nI_1, st2, Option.bind_some]
      refine rest _ ?_ ((xup_ne _ h1).trans a2) ((xup_ne _ (by omega)).trans a3) (hF1.tr (Fr.u (Or.inl rfl)))
      rw [xup_at, cnt_t q]
    · rw [if_pos ((cv_ps hcv).mpr q)]
      exact rest _ (by rw [cnt_f q]; exact a1) a2 a3 hF1
