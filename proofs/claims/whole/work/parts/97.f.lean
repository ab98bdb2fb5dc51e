/-! PURE: the reference takes a book over, whole. -/
variable {stf : Nat → Nat} {N K b m : Nat} {β : sB} {δ : sD} {H : xH}
variable {v : Nat → Int32} {c c0 : cod} {τ : tS} {Γ Γ0 : Nat → Nat → Int32}
def sB7 (m q : Nat) : Prop := sB1 m q ∨ q = m + 28
theorem M_187 (hW : yW τ ≤ 12) (h2 : v 2 = nI (yW τ)) {h0 : Nat → Int32} (hwho : ∀ w, w < yW τ → Γ0 3 (12 + w) = nI (yb τ w).1 ∧ Γ0 4 (12 + w) = nI (yb τ w).2.1) : ∀ z i, i ≤ yW τ → yW τ - i < z → ∀ (Γ : Nat → Nat → Int32) (H : xH) (gh : Nat → Int32), gB m v Γ c H → H.1 (m + 28) = some (aI 24 gh) → (∀ j, j < 24 → gh j = if j < 2 * i then (if j % 2 = 0 then nI (yb τ (j / 2)).1 else nI (yb τ (j / 2)).2.1) else h0 j) → (∀ w, w < i → (∀ a, 3 ≤ a → a ≤ 6 → Γ a w = Γ0 a (12 + w)) ∧ ∀ a, 11 ≤ a → a ≤ 14 → Γ a w = Γ0 a (12 + w) - 700) → (∀ a, inO a → ∀ w, w < yW τ → Γ a (12 + w) = Γ0 a (12 + w)) → (∀ a, ¬ inO a → Γ a = Γ0 a) →
    ∃ Γ' H' gh', F_X12_book_L187 N (F_X12_book_J210 N) z (some m) (nI i) H = F_X12_book_J210 N (some m) H' ∧ gB m v Γ' c H' ∧ Fr (sB7 m) H H' ∧ H'.1 (m + 28) = some (aI 24 gh') ∧ (∀ j, j < 24 → gh' j = nH τ h0 j) ∧ (∀ w, w < yW τ → (∀ a, 3 ≤ a → a ≤ 6 → Γ' a w = Γ0 a (12 + w)) ∧ ∀ a, 11 ≤ a → a ≤ 14 → Γ' a w = Γ0 a (12 + w) - 700) ∧ ∀ a, ¬ inO a → Γ' a = Γ0 a := by
  refine upto (P := fun z i => ∀ (Γ : Nat → Nat → Int32) (H : xH) (gh : Nat → Int32), gB m v Γ c H → H.1 (m + 28) = some (aI 24 gh) → (∀ j, j < 24 → gh j = if j < 2 * i then (if j % 2 = 0 then nI (yb τ (j / 2)).1 else nI (yb τ (j / 2)).2.1) else h0 j) → (∀ w, w < i → (∀ a, 3 ≤ a → a ≤ 6 → Γ a w = Γ0 a (12 + w)) ∧ ∀ a, 11 ≤ a → a ≤ 14 → Γ a w = Γ0 a (12 + w) - 700) → (∀ a, inO a → ∀ w, w < yW τ → Γ a (12 + w) = Γ0 a (12 + w)) → (∀ a, ¬ inO a → Γ a = Γ0 a) → ∃ Γ' H' gh', F_X12_book_L187 N (F_X12_book_J210 N) z (some m) (nI i) H = F_X12_book_J210 N (some m) H' ∧ gB m v Γ' c H' ∧ Fr (sB7 m) H H' ∧ H'.1 (m + 28) = some (aI 24 gh') ∧ (∀ j, j < 24 → gh' j = nH τ h0 j) ∧ (∀ w, w < yW τ → (∀ a, 3 ≤ a → a ≤ 6 → Γ' a w = Γ0 a (12 + w)) ∧ ∀ a, 11 ≤ a → a ≤ 14 → Γ' a w = Γ0 a (12 + w) - 700) ∧ ∀ a, ¬ inO a → Γ' a = Γ0 a) ?_ ?_
  · intro z Γ H gh hB h28 i0 i1 i2 i3
    rw [show F_X12_book_L187 N (F_X12_book_J210 N) (z + 1) = F_X12_book_J187 N (F_X12_book_L187 N (F_X12_book_J210 N) z) (F_X12_book_J210 N) from rfl]
    refine ⟨Γ, H, gh, ?_, hB, Fr.rf, h28, i0, i1, i3⟩
    simp only [F_X12_book_J187, gI hB.1 mi2, h2, Int32.le_refl, if_true, Option.bind_some]
  · intro z i hi ih Γ H gh hB h28 i0 i1 i2 i3
    obtain ⟨Γ1, H1, e1, b1, f1, g1, p1, p2, p3, p4⟩ := M_over (N := N) hB (show i < 12 by omega) h28
    have in3 : ∀ a, 3 ≤ a → a ≤ 6 → inO a := fun a x y => Or.inl ⟨x, y⟩
    have in11 : ∀ a, 11 ≤ a → a ≤ 14 → inO a := fun a x y => Or.inr ⟨x, y⟩
    rw [show F_X12_book_L187 N (F_X12_book_J210 N) (z + 1) = F_X12_book_J187 N (F_X12_book_L187 N (F_X12_book_J210 N) z) (F_X12_book_J210 N) from rfl]
    simp only [F_X12_book_J187, gI hB.1 mi2, h2, nI_ge hi (show yW τ < 2 ^ 31 by omega), if_false, obx hB.1, n12k, e1, nI_1, Option.bind_some]
    obtain ⟨w1, w2⟩ := hwho i hi
    obtain ⟨Γ', H', gh', x1, x2, x3, x4⟩ := ih Γ1 H1 _ b1 g1 (fun j hj => by
      rw [i2 3 (in3 3 (by decide) (by decide)) i hi, i2 4 (in3 4 (by decide) (by decide)) i hi, w1, w2]
      by_cases q1 : j = 2 * i + 1
      · rw [q1, pk_us, if_pos (by omega), if_neg (by omega), show (2 * i + 1) / 2 = i by omega]
      · rw [pk_un q1]
        by_cases q2 : j = 2 * i
        · rw [q2, pk_us, if_pos (by omega), if_pos (by omega), show 2 * i / 2 = i by omega]
        · rw [pk_un q2, i0 j hj]
          by_cases q3 : j < 2 * i
          · rw [if_pos q3, if_pos (show j < 2 * (i + 1) by omega)]
          · rw [if_neg q3, if_neg (show ¬ j < 2 * (i + 1) by omega)]) (fun w hw => by
      by_cases e : w = i
      · subst e
        exact ⟨fun a h1 h2 => (p3 a h1 h2).trans (i2 a (in3 a h1 h2) w hi), fun a h1 h2 => by rw [p4 a h1 h2, i2 a (in11 a h1 h2) w hi]⟩
      · obtain ⟨z1, z2⟩ := i1 w (by omega)
        exact ⟨fun a h1 h2 => (p1 a w e).trans (z1 a h1 h2), fun a h1 h2 => (p1 a w e).trans (z2 a h1 h2)⟩) (fun a ha w hw => (p1 a _ (by omega)).trans (i2 a ha w hw)) (fun a ha => (p2 a ha).trans (i3 a ha))
    exact ⟨Γ', H', gh', x1, x2, f1.tr x3, x4⟩
theorem n700 {k : Nat} (h : 700 ≤ k) : nI k - (700 : Int32) = nI (k - 700) := by rw [show (700 : Int32) = nI 700 from rfl, pk_sub h]
theorem M_214 {sm : Nat} (hsm : 700 ≤ sm) (hs4 : sm ≤ 1400) (h28 : v 28 = nI sm) : ∀ z k, k ≤ sm → sm - k < z → 700 ≤ k → ∀ (c : cod) (H : xH), gB m v Γ c H → (∀ i, i + 700 < k → c.1 i = c0.1 (i + 700) ∧ c.2.1 i = c0.2.1 (i + 700) ∧ c.2.2 i = c0.2.2 (i + 700)) → (∀ i, 700 ≤ i → c.1 i = c0.1 i ∧ c.2.1 i = c0.2.1 i ∧ c.2.2 i = c0.2.2 i) → ∃ c' H', F_X12_book_L214 N (F_X12_book_J276 N) z (some m) (nI k) H = F_X12_book_J276 N (some m) H' ∧ gB m v Γ c' H' ∧ Fr (sB1 m) H H' ∧ ∀ i, i + 700 < sm → c'.1 i = c0.1 (i + 700) ∧ c'.2.1 i = c0.2.1 (i + 700) ∧ c'.2.2 i = c0.2.2 (i + 700) := by
  refine upto (P := fun z k => 700 ≤ k → ∀ (c : cod) (H : xH), gB m v Γ c H → (∀ i, i + 700 < k → c.1 i = c0.1 (i + 700) ∧ c.2.1 i = c0.2.1 (i + 700) ∧ c.2.2 i = c0.2.2 (i + 700)) → (∀ i, 700 ≤ i → c.1 i = c0.1 i ∧ c.2.1 i = c0.2.1 i ∧ c.2.2 i = c0.2.2 i) → ∃ c' H', F_X12_book_L214 N (F_X12_book_J276 N) z (some m) (nI k) H = F_X12_book_J276 N (some m) H' ∧ gB m v Γ c' H' ∧ Fr (sB1 m) H H' ∧ ∀ i, i + 700 < sm → c'.1 i = c0.1 (i + 700) ∧ c'.2.1 i = c0.2.1 (i + 700) ∧ c'.2.2 i = c0.2.2 (i + 700)) ?_ ?_
  · intro z _ c H hB i1 i2
    rw [show F_X12_book_L214 N (F_X12_book_J276 N) (z + 1) = F_X12_book_J214 N (F_X12_book_L214 N (F_X12_book_J276 N) z) (F_X12_book_J276 N) from rfl]
    refine ⟨c, H, ?_, hB, Fr.rf, i1⟩
    simp only [F_X12_book_J214, gI hB.1 mi28, h28, Int32.le_refl, if_true, Option.bind_some]
  · intro z k hk ih hk7 c H hB i1 i2
    obtain ⟨g1, g2, a15, a16, a17⟩ := id hB
    obtain ⟨q1, q2, q3⟩ := i2 k hk7
    have ix := n700 hk7
    have s1 := stI (v := c.1 k) a15 (show k - 700 < 1400 by omega) (by decide)
    rw [vnI] at s1
    have b0 : ∀ e, (xup H (m + 15) e).1 m = some (mo m v) := fun e => (xup_ne _ (by omega)).trans g1
    have b16 : ∀ e, (xup H (m + 15) e).1 (m + 16) = some (aI 1400 c.2.1) := fun e => (xup_ne _ (by omega)).trans a16
    have s2 := stI (v := c.2.1 k) (b16 (aI 1400 (upd c.1 (k - 700) (c.1 k)))) (show k - 700 < 1400 by omega) (by decide)
    rw [vnI] at s2
    have d0 : ∀ e f, (xup (xup H (m + 15) e) (m + 16) f).1 m = some (mo m v) := fun e f => (xup_ne _ (by omega)).trans (b0 e)
    have d17 : ∀ e f, (xup (xup H (m + 15) e) (m + 16) f).1 (m + 17) = some (aI 1400 c.2.2) := fun e f => (xup_ne _ (by omega)).trans ((xup_ne _ (by omega)).trans a17)
    have s3 := stI (v := c.2.2 k) (d17 (aI 1400 (upd c.1 (k - 700) (c.1 k))) (aI 1400 (upd c.2.1 (k - 700) (c.2.1 k)))) (show k - 700 < 1400 by omega) (by decide)
    rw [vnI] at s3
    rw [show F_X12_book_L214 N (F_X12_book_J276 N) (z + 1) = F_X12_book_J214 N (F_X12_book_L214 N (F_X12_book_J276 N) z) (F_X12_book_J276 N) from rfl]
    simp only [F_X12_book_J214, gI g1 mi28, h28, nI_ge hk (show sm < 2 ^ 31 by omega), if_false, gA g1 ma20, rdI a15 (show k < 1400 by omega) (by decide), ix, s1, gA (b0 _) ma21, rdI (b16 _) (show k < 1400 by omega) (by decide), s2, gA (d0 _ _) ma22, rdI (d17 _ _) (show k < 1400 by omega) (by decide), s3, nI_1, Option.bind_some]
    have fr : Fr (sB1 m) H (xup (xup (xup H (m + 15) (aI 1400 (upd c.1 (k - 700) (c.1 k)))) (m + 16) (aI 1400 (upd c.2.1 (k - 700) (c.2.1 k)))) (m + 17) (aI 1400 (upd c.2.2 (k - 700) (c.2.2 k)))) := ((Fr.u (by unfold sB1; omega)).tr (Fr.u (by unfold sB1; omega))).tr (Fr.u (by unfold sB1; omega))
    obtain ⟨c', H', w1, w2, w3, w4⟩ := ih (by omega) (upd c.1 (k - 700) (c.1 k), upd c.2.1 (k - 700) (c.2.1 k), upd c.2.2 (k - 700) (c.2.2 k)) _ ⟨(xup_ne _ (by omega)).trans (d0 _ _), g2.fr (fun a _ _ => (xup_ne _ (by omega)).trans ((xup_ne _ (by omega)).trans (xup_ne _ (by omega)))), (xup_ne _ (by omega)).trans ((xup_ne _ (by omega)).trans (xup_at _)), (xup_ne _ (by omega)).trans (xup_at _), xup_at _⟩ (fun i hi => by
      by_cases e : i = k - 700
      · show upd c.1 (k - 700) (c.1 k) i = _ ∧ upd c.2.1 (k - 700) (c.2.1 k) i = _ ∧ upd c.2.2 (k - 700) (c.2.2 k) i = _
        rw [e, pk_us, pk_us, pk_us, show k - 700 + 700 = k by omega]
        exact ⟨q1, q2, q3⟩
      · show upd c.1 (k - 700) (c.1 k) i = _ ∧ upd c.2.1 (k - 700) (c.2.1 k) i = _ ∧ upd c.2.2 (k - 700) (c.2.2 k) i = _
        rw [pk_un e, pk_un e, pk_un e]
        exact i1 i (by omega)) (fun i hi => by
      show upd c.1 (k - 700) (c.1 k) i = _ ∧ upd c.2.1 (k - 700) (c.2.1 k) i = _ ∧ upd c.2.2 (k - 700) (c.2.2 k) i = _
      rw [pk_un (by omega), pk_un (by omega), pk_un (by omega)]
      exact i2 i hi)
    exact ⟨c', H', w1, w2, fr.tr w3, w4⟩
theorem M_278 (h0 : H.1 m = some (mo m v)) : ∀ z i, i ≤ 45 → 45 - i < z → ∀ g : Nat → Int32, (∀ j, j < i → g j = 0) → ∃ g', F_X12_book_L278 N (F_X12_book_J297 N) z (some m) (nI i) (xup H (m + 34) (aI 45 g)) = F_X12_book_J297 N (some m) (xup H (m + 34) (aI 45 g')) ∧ ∀ j, j < 45 → g' j = 0 := by
  refine upto (P := fun z i => ∀ g : Nat → Int32, (∀ j, j < i → g j = 0) → ∃ g', F_X12_book_L278 N (F_X12_book_J297 N) z (some m) (nI i) (xup H (m + 34) (aI 45 g)) = F_X12_book_J297 N (some m) (xup H (m + 34) (aI 45 g')) ∧ ∀ j, j < 45 → g' j = 0) ?_ ?_
  · intro z g hg
    rw [show F_X12_book_L278 N (F_X12_book_J297 N) (z + 1) = F_X12_book_J278 N (F_X12_book_L278 N (F_X12_book_J297 N) z) (F_X12_book_J297 N) from rfl]
    refine ⟨g, ?_, hg⟩
    unfold F_X12_book_J278
    rw [if_pos (by decide)]
  · intro z i hi ih g hg
    have a0 : (xup H (m + 34) (aI 45 g)).1 m = some (mo m v) := (xup_ne _ (by omega)).trans h0
    have st := stI (v := 0) (xup_at (H := H) (a := m + 34) (aI 45 g)) hi (by decide)
    rw [vnI, xup_up] at st
    rw [show F_X12_book_L278 N (F_X12_book_J297 N) (z + 1) = F_X12_book_J278 N (F_X12_book_L278 N (F_X12_book_J297 N) z) (F_X12_book_J297 N) from rfl]
    unfold F_X12_book_J278
    rw [if_neg (show ¬ (45 : Int32) ≤ nI i from nI_ge (b := 45) hi (by decide))]
    simp only [gA a0 ma61, st, nI_1, Option.bind_some]
    exact ih _ (fun j hj => by
      by_cases e : j = i
      · rw [e, pk_us]
      · rw [pk_un e]; exact hg j (by omega))
theorem M_299 (h0 : H.1 m = some (mo m v)) : ∀ z i, i ≤ 6 → 6 - i < z → ∀ g : Nat → Int32, (∀ j, j < i → g j = 0) → ∃ g', F_X12_book_L299 N (F_X12_book_J318 N) z (some m) (nI i) (xup H (m + 29) (aI 6 g)) = F_X12_book_J318 N (some m) (xup H (m + 29) (aI 6 g')) ∧ ∀ j, j < 6 → g' j = 0 := by
  refine upto (P := fun z i => ∀ g : Nat → Int32, (∀ j, j < i → g j = 0) → ∃ g', F_X12_book_L299 N (F_X12_book_J318 N) z (some m) (nI i) (xup H (m + 29) (aI 6 g)) = F_X12_book_J318 N (some m) (xup H (m + 29) (aI 6 g')) ∧ ∀ j, j < 6 → g' j = 0) ?_ ?_
  · intro z g hg
    rw [show F_X12_book_L299 N (F_X12_book_J318 N) (z + 1) = F_X12_book_J299 N (F_X12_book_L299 N (F_X12_book_J318 N) z) (F_X12_book_J318 N) from rfl]
    refine ⟨g, ?_, hg⟩
    unfold F_X12_book_J299
    rw [if_pos (by decide)]
  · intro z i hi ih g hg
    have a0 : (xup H (m + 29) (aI 6 g)).1 m = some (mo m v) := (xup_ne _ (by omega)).trans h0
    have st := stI (v := 0) (xup_at (H := H) (a := m + 29) (aI 6 g)) hi (by decide)
    rw [vnI, xup_up] at st
    rw [show F_X12_book_L299 N (F_X12_book_J318 N) (z + 1) = F_X12_book_J299 N (F_X12_book_L299 N (F_X12_book_J318 N) z) (F_X12_book_J318 N) from rfl]
    unfold F_X12_book_J299
    rw [if_neg (show ¬ (6 : Int32) ≤ nI i from nI_ge (b := 6) hi (by decide))]
    simp only [gA a0 ma53, st, nI_1, Option.bind_some]
    exact ih _ (fun j hj => by
      by_cases e : j = i
      · rw [e, pk_us]
      · rw [pk_un e]; exact hg j (by omega))
/-- what was told, moved to where it's in force -/
theorem yG.D {sm : Nat} {c' : cod} {Γ1 Γ2 Γ3 : Nat → Nat → Int32} (hG : yG τ c0 sm Γ0) (hs : sm ≤ 1400) (m1 : ∀ j, j < yT τ → Γ1 1 j = nI (yf τ j) ∧ Γ1 2 j = nI (yu τ j)) (m1' : ∀ a, 3 ≤ a → Γ1 a = Γ0 a) (m2 : ∀ j, j < yR τ → Γ2 7 j = Γ1 7 (40 + j) ∧ Γ2 8 j = Γ1 8 (40 + j) ∧ Γ2 9 j = Γ1 9 (40 + j) ∧ Γ2 10 j = Γ1 10 (40 + j)) (m2' : ∀ a, ¬ (7 ≤ a ∧ a ≤ 10) → Γ2 a = Γ1 a) (m3 : ∀ w, w < yW τ → (∀ a, 3 ≤ a → a ≤ 6 → Γ3 a w = Γ2 a (12 + w)) ∧ ∀ a, 11 ≤ a → a ≤ 14 → Γ3 a w = Γ2 a (12 + w) - 700) (m3' : ∀ a, ¬ inO a → Γ3 a = Γ2 a) (mc : ∀ i, i + 700 < sm → c'.1 i = c0.1 (i + 700) ∧ c'.2.1 i = c0.2.1 (i + 700) ∧ c'.2.2 i = c0.2.2 (i + 700)) : yD τ c' Γ3 ∧ ∀ w, w < yW τ → Γ3 5 w = nI (yb τ w).2.2.1 ∧ Γ3 6 w = nI (yb τ w).2.2.2.1 := by
  obtain ⟨y1, y2, y3, y4⟩ := hG
  have sh : ∀ {s e : Nat} {σ : sem}, 700 ≤ s → s ≤ e → e ≤ sm → PF (yT τ) c0 s e 21 σ → PF (yT τ) c' (s - 700) (e - 700) 21 σ := fun {s e σ} h1 h2 h3 p => by
    refine PF.sh (z := 700) (c := c0) ?_ (fun q q1 q2 => mc q (by omega))
    rw [show s - 700 + 700 = s by omega, show e - 700 + 700 = e by omega]; exact p
  have sho : ∀ {s e : Nat} {f : Option sem}, 700 ≤ s → s ≤ e → e ≤ sm → pO (yT τ) c0 s e f → pO (yT τ) c' (s - 700) (e - 700) f := fun {s e f} h1 h2 h3 p => ⟨fun z => by rw [p.1 z], fun σ hσ => sh h1 h2 h3 (p.2 σ hσ)⟩
  refine ⟨⟨fun i hi => ?_, fun r hr => ?_, fun w hw => ?_⟩, fun w hw => ?_⟩
  · rw [m3' 1 (by unfold inO; omega), m3' 2 (by unfold inO; omega), m2' 1 (by omega), m2' 2 (by omega)]; exact m1 i hi
  · rw [m3' 7 (by unfold inO; omega), m3' 8 (by unfold inO; omega), m3' 9 (by unfold inO; omega), m3' 10 (by unfold inO; omega)]
    obtain ⟨q1, q2, q3, q4⟩ := m2 r hr
    rw [q1, q2, q3, q4, m1' 7 (by decide), m1' 8 (by decide), m1' 9 (by decide), m1' 10 (by decide)]
    exact y3 r hr
  · obtain ⟨s0, s1, s2, s3, a0, a1, a2, a3, b0, b1, b2, b3, b4, p1, p2, p3⟩ := y4 w hw
    have q := (m3 w hw).2
    refine ⟨s0 - 700, s1 - 700, s2 - 700, s3 - 700, ?_, ?_, ?_, ?_, by omega, by omega, by omega, by omega, sh b0 b1 (by omega) p1, sho (by omega) b2 (by omega) p2, sho (by omega) b3 b4 p3⟩
    · rw [q 11 (by decide) (by decide), m2' 11 (by omega), m1' 11 (by decide), a0, n700 b0]
    · rw [q 12 (by decide) (by decide), m2' 12 (by omega), m1' 12 (by decide), a1, n700 (by omega)]
    · rw [q 13 (by decide) (by decide), m2' 13 (by omega), m1' 13 (by decide), a2, n700 (by omega)]
    · rw [q 14 (by decide) (by decide), m2' 14 (by omega), m1' 14 (by decide), a3, n700 (by omega)]
  · obtain ⟨z1, z2, z3, z4⟩ := y2 w hw
    have q := (m3 w hw).1
    rw [q 5 (by decide) (by decide), q 6 (by decide) (by decide), m2' 5 (by omega), m2' 6 (by omega), m1' 5 (by decide), m1' 6 (by decide)]
    exact ⟨z3, z4⟩
