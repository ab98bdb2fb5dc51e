/-! PURE: the reference's state as it reads statements. -/
variable {stf : Nat → Nat} {N K b m : Nat} {β : sB} {δ : sD} {H : xH}
variable {t S E : Nat → Nat} {n J : Nat} {T M : Nat} {tn mn : Nat → List Nat} {τ : tS}
variable {v v1 v2 : Nat → Int32} {c c1 c2 : cod} {sm sm1 sm2 : Nat} {H1 H2 : xH} {Γ Γ1 Γ2 : Nat → Nat → Int32}
/-- sizes of its arrays 1 to 14 -/
def sz (a : Nat) : Nat := if a ≤ 2 then 10 else if a ≤ 6 then 24 else if a ≤ 10 then 80 else 24
theorem sz_lt (a : Nat) : sz a < 2 ^ 31 := by
  unfold sz
  split
  · decide
  · split
    · decide
    · split <;> decide
def aG (m : Nat) (Γ : Nat → Nat → Int32) (H : xH) : Prop := ∀ a, 1 ≤ a → a ≤ 14 → H.1 (m + a) = some (aI (sz a) (Γ a))
def lv (Γ Γ' : Nat → Nat → Int32) : Prop := ∀ a i, 2 * i < sz a → Γ' a i = Γ a i
def up2 (Γ : Nat → Nat → Int32) (a i : Nat) (x : Int32) : Nat → Nat → Int32 := fun a' => if a' = a then upd (Γ a) i x else Γ a'
theorem up2_s {a i : Nat} {x : Int32} : up2 Γ a i x a i = x := by simp [up2, pk_us]
theorem up2_a {a i a' : Nat} {x : Int32} (h : a' ≠ a) : up2 Γ a i x a' = Γ a' := by simp [up2, h]
theorem up2_i {a i j : Nat} {x : Int32} (h : j ≠ i) : up2 Γ a i x a j = Γ a j := by simp [up2, pk_un h]
theorem up2_n {a i a' j : Nat} {x : Int32} (h : j ≠ i) : up2 Γ a i x a' j = Γ a' j := by
  by_cases e : a' = a
  · rw [e]; exact up2_i h
  · rw [up2_a e]
theorem lv.rf : lv Γ Γ := fun _ _ _ => rfl
theorem lv.tr (h : lv Γ Γ1) (k : lv Γ1 Γ2) : lv Γ Γ2 := fun a i q => (k a i q).trans (h a i q)
theorem lv.u {a i : Nat} {x : Int32} (h : sz a ≤ 2 * i) : lv Γ (up2 Γ a i x) := fun a' j q => by
  by_cases e : a' = a
  · subst e; exact up2_i (by omega)
  · rw [up2_a e]
theorem aG.u {a i : Nat} {x : Int32} (h : aG m Γ H) : aG m (up2 Γ a i x) (xup H (m + a) (aI (sz a) (upd (Γ a) i x))) := fun a' h1 h2 => by
  by_cases e : a' = a
  · subst e
    rw [xup_at]; simp [up2]
  · rw [xup_ne _ (by omega), up2_a e]; exact h a' h1 h2
theorem aG.st {a i : Nat} {x : Int32} (h : aG m Γ H) (h1 : 1 ≤ a) (h2 : a ≤ 14) (hi : i < sz a) : xsI .int H (some (m + a)) (nI i) x = some (xup H (m + a) (aI (sz a) (upd (Γ a) i x))) := by
  rw [stI (h a h1 h2) hi (sz_lt a), vnI]
theorem aG.rd {a i : Nat} (h : aG m Γ H) (h1 : 1 ≤ a) (h2 : a ≤ 14) (hi : i < sz a) : xlI .int H (some (m + a)) (nI i) = some (Γ a i) := rdI (h a h1 h2) hi (sz_lt a)
theorem aG.fr (h : aG m Γ H) (hF : ∀ a, 1 ≤ a → a ≤ 14 → H1.1 (m + a) = H.1 (m + a)) : aG m Γ H1 := fun a h1 h2 => (hF a h1 h2).trans (h a h1 h2)
def sY (m q : Nat) : Prop := m ≤ q ∧ q < m + 22 ∧ q ≠ m + 20
def vk (v v' : Nat → Int32) : Prop := ∀ i, ¬ (23 ≤ i ∧ i ≤ 28) → ¬ (32 ≤ i ∧ i ≤ 34) → ¬ (38 ≤ i ∧ i ≤ 40) → v' i = v i
theorem vk.rf : vk v v := fun _ _ _ _ => rfl
theorem vk.tr (h : vk v v1) (k : vk v1 v2) : vk v v2 := fun i a b d => (k i a b d).trans (h i a b d)
theorem ex6.vk (h : ex6 v v1) : vk v v1 := fun i a b d => h i (by omega) (by omega) (by omega) (by omega) (by omega) (by omega)
theorem vk.u {k : Nat} {x : Int32} (hk : (23 ≤ k ∧ k ≤ 28) ∨ (32 ≤ k ∧ k ≤ 34) ∨ (38 ≤ k ∧ k ≤ 40)) : vk v (upd v k x) := fun i a b d => pk_un (by omega)
/-- a claim that may be there -/
def pO (T : Nat) (c : cod) (s e : Nat) (f : Option sem) : Prop := (f = none → s = e) ∧ ∀ σ, f = some σ → PF T c s e 21 σ
/-- the arrays hold what is told -/
def rK (x : Option Nat) : Int32 := match x with
  | none => 0
  | some _ => 1
def rI (x : Option Nat) : Int32 := match x with
  | none => 0
  | some d => nI d
def yG (τ : tS) (c : cod) (sm : Nat) (Γ : Nat → Nat → Int32) : Prop :=
  (∀ i, i < yT τ → Γ 1 (5 + i) = nI (yf τ i) ∧ Γ 2 (5 + i) = nI (yu τ i)) ∧
  (∀ w, w < yW τ → Γ 3 (12 + w) = nI (yb τ w).1 ∧ Γ 4 (12 + w) = nI (yb τ w).2.1 ∧ Γ 5 (12 + w) = nI (yb τ w).2.2.1 ∧ Γ 6 (12 + w) = nI (yb τ w).2.2.2.1) ∧
  (∀ r, r < yR τ → Γ 7 (40 + r) = rK (yr τ r).2.2 ∧ Γ 8 (40 + r) = nI (yr τ r).1 ∧ Γ 9 (40 + r) = nI (yr τ r).2.1 ∧ Γ 10 (40 + r) = rI (yr τ r).2.2) ∧
  ∀ w, w < yW τ → ∃ s0 s1 s2 s3, Γ 11 (12 + w) = nI s0 ∧ Γ 12 (12 + w) = nI s1 ∧ Γ 13 (12 + w) = nI s2 ∧ Γ 14 (12 + w) = nI s3 ∧ 700 ≤ s0 ∧ s0 ≤ s1 ∧ s1 ≤ s2 ∧ s2 ≤ s3 ∧ s3 ≤ sm ∧ PF (yT τ) c s0 s1 21 (yb τ w).2.2.2.2.1 ∧ pO (yT τ) c s1 s2 (yb τ w).2.2.2.2.2.1 ∧ pO (yT τ) c s2 s3 (yb τ w).2.2.2.2.2.2
theorem pO.fr {T' s e : Nat} {f : Option sem} (p : pO T c s e f) (hT : T ≤ T') (hc : ∀ q, s ≤ q → q < e → c1.1 q = c.1 q ∧ c1.2.1 q = c.2.1 q ∧ c1.2.2 q = c.2.2 q) : pO T' c1 s e f := ⟨p.1, fun σ hσ => (p.2 σ hσ).fr hT hc⟩
/-- the last of these four: it stands over more steps, more things -/
theorem yG.fr (h : yG τ c sm Γ) (hs : sm ≤ sm1) (hc : ∀ q, q < sm → c1.1 q = c.1 q ∧ c1.2.1 q = c.2.1 q ∧ c1.2.2 q = c.2.2 q) : yG τ c1 sm1 Γ := by
  obtain ⟨h1, h2, h3, h4⟩ := h
  refine ⟨h1, h2, h3, fun w hw => ?_⟩
  obtain ⟨s0, s1, s2, s3, a0, a1, a2, a3, b0, b1, b2, b3, b4, p1, p2, p3⟩ := h4 w hw
  exact ⟨s0, s1, s2, s3, a0, a1, a2, a3, b0, b1, b2, b3, by omega, p1.fr (Nat.le_refl _) (fun q _ q2 => hc q (by omega)), p2.fr (Nat.le_refl _) (fun q _ q2 => hc q (by omega)), p3.fr (Nat.le_refl _) (fun q _ q2 => hc q (by omega))⟩
/-- the reference has read the statements τ and is at token j -/
def mY (t S : Nat → Nat) (n m : Nat) (τ : tS) (j : Nat) (v : Nat → Int32) (c : cod) (sm : Nat) (Γ : Nat → Nat → Int32) (H : xH) : Prop := zC t S n (yT τ) (yM τ) (ytn τ) (ymn τ) m j v c sm H ∧ (v 25 = nI (yW τ) ∧ v 26 = nI (yS τ) ∧ v 27 = nI (yR τ)) ∧ aG m Γ H ∧ yG τ c sm Γ ∧ rmS S sm j ∧ 700 ≤ sm ∧ yW τ ≤ 12 ∧ yR τ ≤ 40 ∧ yS τ ≤ 40
/-- whatever comes of it -/
def mW (t S : Nat → Nat) (n J m j j' : Nat) (v : Nat → Int32) (Γ : Nat → Nat → Int32) (H : xH) (v' : Nat → Int32) (Γ' : Nat → Nat → Int32) (H' : xH) : Prop := (∃ T M tn mn c sm, zC t S n T M tn mn m j' v' c sm H') ∧ aG m Γ' H' ∧ lv Γ Γ' ∧ Fr (sY m) H H' ∧ vk v v' ∧ j ≤ j' ∧ j' ≤ J
def mOs (t S : Nat → Nat) (n J m : Nat) (p : ps) (j : Nat) (v : Nat → Int32) (Γ : Nat → Nat → Int32) (H : xH) (x : Option (Int32 × xH)) : Prop := ∃ (r : Int32) (v' : Nat → Int32) (c' : cod) (sm' : Nat) (Γ' : Nat → Nat → Int32) (H' : xH), x = some (r, H') ∧ mW t S n J m j p.2 v Γ H v' Γ' H' ∧ (p.1 = none → r = 0 ∧ v' 33 = nI (S p.2)) ∧ ∀ τ', p.1 = some τ' → r = 1 ∧ mY t S n m τ' p.2 v' c' sm' Γ' H'
theorem sC.y {q : Nat} (h : sC m q) : sY m q := by unfold sC sY at *; omega
theorem mW.tr {j j1 j2 : Nat} (h : mW t S n J m j j1 v Γ H v1 Γ1 H1) (k : mW t S n J m j1 j2 v1 Γ1 H1 v2 Γ2 H2) : mW t S n J m j j2 v Γ H v2 Γ2 H2 := by
  obtain ⟨-, a2, a3, a4, a5, a6, a7⟩ := h
  obtain ⟨b1, b2, b3, b4, b5, b6, b7⟩ := k
  exact ⟨b1, b2, a3.tr b3, a4.tr b4, a5.tr b5, by omega, b7⟩
theorem zK.w {k j j1 : Nat} (g : aG m Γ H) (h : zK t S n J T M tn mn m k j j1 v c sm H v1 c1 sm1 H1) : mW t S n J m j j1 v Γ H v1 Γ H1 := by
  obtain ⟨a1, a2, a3, a4, a5, a6, a7, a8⟩ := h
  exact ⟨⟨_, _, _, _, _, _, a1⟩, g.fr (fun a h1 h2 => a2.2 _ (fun q => by unfold sC at q; omega)), lv.rf, a2.mono (fun q hq => hq.y), a3.vk, a7, a8⟩
theorem mY.k {k j j1 : Nat} (h : mY t S n m τ j v c sm Γ H) (g : zK t S n J (yT τ) (yM τ) (ytn τ) (ymn τ) m k j j1 v c sm H v1 c1 sm1 H1) : mY t S n m τ j1 v1 c1 sm1 Γ H1 := by
  obtain ⟨h1, ⟨h2, h3, h4⟩, h5, h6, h7, h8, h9⟩ := h
  have w := g.w h5
  have rm := g.rm h7
  obtain ⟨a1, a2, a3, a4, a5, a6, a7, a8⟩ := g
  exact ⟨a1, ⟨(a3 25 (by decide) (by decide) (by decide) (by decide) (by decide) (by decide)).trans h2, (a3 26 (by decide) (by decide) (by decide) (by decide) (by decide) (by decide)).trans h3, (a3 27 (by decide) (by decide) (by decide) (by decide) (by decide) (by decide)).trans h4⟩, w.2.1, h6.fr a5 a4, rm, by omega, h9⟩
/-- an array's cell is set -/
theorem zC.el {j a : Nat} {e : xE} (h : zC t S n T M tn mn m j v c sm H) (h1 : 1 ≤ a) (h2 : a ≤ 14) : zC t S n T M tn mn m j v c sm (xup H (m + a) e) := by
  obtain ⟨⟨p1, ⟨g, p2, p2'⟩, p3⟩, ⟨⟨n1, n2, g1, n3, n3'⟩, ⟨n4, n5, g2, n6, n6'⟩, n7⟩, ⟨h3, h4, h5⟩, h6⟩ := h
  exact ⟨⟨(xup_ne _ (by omega)).trans p1, ⟨g, (xup_ne _ (by omega)).trans p2, p2'⟩, p3⟩, ⟨⟨n1, n2, g1, (xup_ne _ (by omega)).trans n3, n3'⟩, ⟨n4, n5, g2, (xup_ne _ (by omega)).trans n6, n6'⟩, n7⟩, ⟨(xup_ne _ (by omega)).trans h3, (xup_ne _ (by omega)).trans h4, (xup_ne _ (by omega)).trans h5⟩, h6⟩
/-- its place is set -/
theorem zC.p33 {j j' p : Nat} (h : zC t S n T M tn mn m j v c sm H) (hp : gp t S p j') : zC t S n T M tn mn m j' (upd v 33 (nI p)) c sm (mu m (upd v 33 (nI p)) H) := by
  obtain ⟨⟨p1, p2, p3, p4⟩, ⟨⟨n1, n2, g, n3, n3'⟩, ⟨n4, n5, g', n6, n6'⟩, n7⟩, ⟨h3, h4, h5⟩, h6⟩ := h
  have u : ∀ i, i ≠ 33 → upd v 33 (nI p) i = v i := fun i a => pk_un a
  refine ⟨⟨mu_at, p2.mu, (u 32 (by decide)).trans p3, p, pk_us, hp⟩, ⟨⟨(u 23 (by decide)).trans n1, n2, g, (mu_ne (by omega)).trans n3, n3'⟩, ⟨(u 24 (by decide)).trans n4, n5, g', (mu_ne (by omega)).trans n6, n6'⟩, n7⟩, ⟨(mu_ne (by omega)).trans h3, (mu_ne (by omega)).trans h4, (mu_ne (by omega)).trans h5⟩, (u 28 (by decide)).trans h6⟩
/-- a field that the text's reading doesn't need is set -/
theorem zC.fd {j k : Nat} {x : Int32} (h : zC t S n T M tn mn m j v c sm H) (hk : k = 25 ∨ k = 26 ∨ k = 27 ∨ k = 34) : zC t S n T M tn mn m j (upd v k x) c sm (mu m (upd v k x) H) := by
  obtain ⟨⟨p1, p2, p3, p, p4, p5⟩, ⟨⟨n1, n2, g, n3, n3'⟩, ⟨n4, n5, g', n6, n6'⟩, n7⟩, ⟨h3, h4, h5⟩, h6⟩ := h
  have u : ∀ i, i ≠ k → upd v k x i = v i := fun i a => pk_un a
  refine ⟨⟨mu_at, p2.mu, (u 32 (by omega)).trans p3, p, (u 33 (by omega)).trans p4, p5⟩, ⟨⟨(u 23 (by omega)).trans n1, n2, g, (mu_ne (by omega)).trans n3, n3'⟩, ⟨(u 24 (by omega)).trans n4, n5, g', (mu_ne (by omega)).trans n6, n6'⟩, n7⟩, ⟨(mu_ne (by omega)).trans h3, (mu_ne (by omega)).trans h4, (mu_ne (by omega)).trans h5⟩, (u 28 (by omega)).trans h6⟩
theorem aG.um (h : aG m Γ H) : aG m Γ (mu m v H) := h.fr (fun a h1 _ => mu_ne (by omega))
theorem Fr.um : Fr (sY m) H (mu m v H) := Fr.u (by unfold sY; omega)
theorem Fr.ar {a : Nat} {e : xE} (h2 : a ≤ 14) : Fr (sY m) H (xup H (m + a) e) := Fr.u (by unfold sY; omega)
theorem mW.el {j j1 a i : Nat} {x : Int32} (h : mW t S n J m j j1 v Γ H v1 Γ1 H1) (h1 : 1 ≤ a) (h2 : a ≤ 14) (hi : sz a ≤ 2 * i) : mW t S n J m j j1 v Γ H v1 (up2 Γ1 a i x) (xup H1 (m + a) (aI (sz a) (upd (Γ1 a) i x))) := by
  obtain ⟨⟨T, M, tn, mn, c, sm, a1⟩, a2, a3, a4, a5, a6, a7⟩ := h
  exact ⟨⟨_, _, _, _, _, _, a1.el h1 h2⟩, a2.u, a3.tr (lv.u hi), a4.tr (Fr.ar h2), a5, a6, a7⟩
theorem mOs.no {j j' : Nat} (g : mW t S n J m j j' v Γ H v1 Γ1 H1) (h3 : v1 33 = nI (S j')) : mOs t S n J m (none, j') j v Γ H (some (0, H1)) := ⟨0, v1, (fun _ => 0, fun _ => 0, fun _ => 0), 0, Γ1, H1, rfl, g, fun _ => ⟨rfl, h3⟩, fun σ hσ => by cases hσ⟩
theorem mOs.ok {j j' : Nat} (g : mW t S n J m j j' v Γ H v1 Γ1 H1) (h3 : mY t S n m τ j' v1 c1 sm1 Γ1 H1) : mOs t S n J m (some τ, j') j v Γ H (some (1, H1)) := ⟨1, v1, c1, sm1, Γ1, H1, rfl, g, (fun z => by cases z), fun σ hσ => ⟨rfl, by cases hσ; exact h3⟩⟩
