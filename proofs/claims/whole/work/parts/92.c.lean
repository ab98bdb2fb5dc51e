/-! PURE: the class reads chains of claims. -/
variable {stf : Nat → Nat} {N K b m : Nat} {β : sB} {δ : sD} {H : xH}
variable {t S E : Nat → Nat} {n J : Nat} {T tl c : Nat} {tn : Nat → List Nat}
def ins {α : Type} (g : Nat → α) (k : Nat) (x : α) : Nat → α := fun i => if i = k then x else g i
theorem ins_s {α : Type} {g : Nat → α} {k : Nat} {x : α} : ins g k x k = x := by simp [ins]
theorem ins_n {α : Type} {g : Nat → α} {k i : Nat} {x : α} (h : i ≠ k) : ins g k x i = g i := by simp [ins, h]
theorem ch.push {lo lo1 D k a : Nat} {ad : Nat → Nat} {σ : Nat → sem} {τ : sem} {H1 : xH} (h : ch N H lo D k ad σ) (hl : ad k < lo1) (hf : ∀ q, lo ≤ q → q < lo1 → H1.1 q = H.1 q) (ha : lo1 ≤ a) (hc : CT N D H1 lo1 a τ) (hn : nodeN H1 a none) : ∃ e, xpA H1 (some (ad k)) 1 4 (some a) = some (xup H1 (ad k) e) ∧ xgA (xup H1 (ad k) e) (some (ad k)) 1 4 = some (some a) ∧ ch N (xup H1 (ad k) e) lo D (k + 1) (ins ad (k + 1) a) (ins σ (k + 1) τ) := by
  obtain ⟨h1, h2, w1, w2, w3, w4, w5⟩ := id h
  have hk := h1 k (Nat.le_refl _)
  have w6 := (hf _ hk.1 hl).trans w5
  refine ⟨ob 1 [w1, w2, w3, w4, va_rf (some a)], by unfold xpA; rw [pV w6 (by simp)]; rfl, gA (xup_at _) rfl, fun i hi => ?_, fun i hi => ?_, ?_⟩
  · by_cases e : i = k + 1
    · rw [e, ins_s, ins_s]
      refine ⟨by omega, (hc.fr (fun q q1 q2 => xup_ne _ (by omega)) (same4.of hn (xup_ne _ (by omega)))).mono (Nat.le_refl _) (by omega)⟩
    · rw [ins_n e, ins_n e]
      have hi' : i ≤ k := by omega
      have hle := h.le hi'
      refine ⟨(h1 i hi').1, (h1 i hi').2.fr (fun q q1 q2 => (xup_ne _ (by omega)).trans (hf q q1 (by omega))) ?_⟩
      by_cases e2 : i = k
      · rw [e2]; exact ⟨w1, w2, w3, w4, _, _, w5, xup_at _⟩
      · exact same4.of (h.node hi') ((xup_ne _ (by omega)).trans (hf _ (h1 i hi').1 (by omega)))
  · by_cases e2 : i = k
    · rw [e2, ins_n (by omega), ins_s]
      exact ⟨by omega, _, _, _, _, xup_at _⟩
    · have hi' : i < k := by omega
      have hle := h.le (Nat.le_of_lt hi')
      rw [ins_n (by omega), ins_n (by omega)]
      exact ⟨(h2 i hi').1, (h2 i hi').2.of ((xup_ne _ (by omega)).trans (hf _ (h1 i (by omega)).1 (by omega)))⟩
  · rw [ins_s]
    exact hn.of (xup_ne _ (by omega))
theorem and_ins {k : Nat} {σ : Nat → sem} {τ : sem} : oAnd (fun d => ∀ i, i ≤ k → σ i d) τ = fun d => ∀ i, i ≤ k + 1 → ins σ (k + 1) τ i d := by
  funext d
  refine propext ⟨fun ⟨h1, h2⟩ i hi => ?_, fun h => ⟨fun i hi => ?_, ?_⟩⟩
  · by_cases e : i = k + 1
    · rw [e, ins_s]; exact h2
    · rw [ins_n e]; exact h1 i (by omega)
  · have := h i (by omega)
    rwa [ins_n (by omega)] at this
  · have := h (k + 1) (Nat.le_refl _)
    rwa [ins_s] at this
theorem or_ins {k : Nat} {σ : Nat → sem} {τ : sem} : oOr (fun d => ∃ i, i ≤ k ∧ σ i d) τ = fun d => ∃ i, i ≤ k + 1 ∧ ins σ (k + 1) τ i d := by
  funext d
  refine propext ⟨fun h => ?_, fun ⟨i, h1, h2⟩ => ?_⟩
  · rcases h with ⟨i, h1, h2⟩ | h
    · exact ⟨i, by omega, by rw [ins_n (by omega)]; exact h2⟩
    · exact ⟨k + 1, Nat.le_refl _, by rw [ins_s]; exact h⟩
  · by_cases e : i = k + 1
    · rw [e, ins_s] at h2; exact Or.inr h2
    · rw [ins_n e] at h2; exact Or.inl ⟨i, by omega, h2⟩
theorem one_le0 {σ : Nat → sem} : (fun d => ∀ i, i ≤ 0 → σ i d) = σ 0 := by
  funext d
  exact propext ⟨fun h => h 0 (Nat.le_refl _), fun h i hi => by rw [Nat.le_zero.mp hi]; exact h⟩
theorem one_ex0 {σ : Nat → sem} : (fun d => ∃ i, i ≤ 0 ∧ σ i d) = σ 0 := by
  funext d
  exact propext ⟨fun ⟨i, hi, h⟩ => by rw [← Nat.le_zero.mp hi]; exact h, fun h => ⟨0, Nat.le_refl _, h⟩⟩
section
variable {cany cone : Option Nat → Int32 → xH → Option (Option Nat × xH)} {one : Nat → pr} {D : Nat} {o : Int32}
/-- how many parts a chain can have -/
theorem ch_few (hT : tkS t n J S E) (hn : n ≤ 1200) {D k j0 j : Nat} {ad : Nat → Nat} {σ : Nat → sem} {H0 : xH} (hR : cR t J S E T tn b stf tl c k j0 j H0 H) (hc : ch N H H0.2.1 D k ad σ) : k < 600 := by
  have h1 := hT.le hR.2.2.2.2.1
  have h2 := hc.le (Nat.zero_le k)
  have h3 := (hc.1 0 (Nat.zero_le _)).1
  obtain ⟨_, _, _, _, z⟩ := hc.2.2
  have h4 := hR.1.2.2.2.2 _ _ z
  have h5 := hR.2.2.2.2.2.1
  omega
theorem ch_lt {lo D k j0 j k0 : Nat} {ad : Nat → Nat} {σ : Nat → sem} {H0 : xH} (hR : cR t J S E T tn b stf tl c k0 j0 j H0 H) (hc : ch N H lo D k ad σ) : ad k < H.2.1 := by
  obtain ⟨_, _, _, _, z⟩ := hc.2.2
  exact hR.1.2.2.2.2 _ _ z
theorem C_ands (hT : tkS t n J S E) (hn : n ≤ 1200) (h6 : ∀ q, t q < 256) (hN : 1200 < N) (hone : ∀ j H, cP t J S E T tn b stf tl c j H → j ≤ J → cOut t J S E T tn b stf tl c N D (one j) j H (cone (some tl) o H)) {k95 : Option Nat → Int32 → Option Nat → Option Nat → Int32 → Option Nat → Option Nat → xH → Option (Option Nat × xH)} {x2 x3 : Option Nat} {x4 : Int32} {j0 : Nat} {H0 : xH} : ∀ (f m k j : Nat) (ad : Nat → Nat) (σ : Nat → sem) (H : xH), J - j < f → J - j < m → cR t J S E T tn b stf tl c k j0 j H0 H → ch N H H0.2.1 D k ad σ →
    (∃ H', F_X7_any_L46 N cany cone k95 m (some tl) o x2 x3 x4 (some (ad 0)) (some (ad k)) (nI k) H = k95 (some tl) o x2 x3 x4 (some (ad 0)) none H' ∧ (pLp t J S E 13 oAnd one f (fun d => ∀ i, i ≤ k → σ i d) j).1 = none ∧ cR t J S E T tn b stf tl c 0 j0 (pLp t J S E 13 oAnd one f (fun d => ∀ i, i ≤ k → σ i d) j).2 H0 H') ∨
    (∃ (H' : xH) (k' : Nat) (ad' : Nat → Nat) (σ' : Nat → sem), F_X7_any_L46 N cany cone k95 m (some tl) o x2 x3 x4 (some (ad 0)) (some (ad k)) (nI k) H = k95 (some tl) o x2 x3 x4 (some (ad 0)) (some (ad' k')) H' ∧ ad' 0 = ad 0 ∧ (pLp t J S E 13 oAnd one f (fun d => ∀ i, i ≤ k → σ i d) j).1 = some (fun d => ∀ i, i ≤ k' → σ' i d) ∧ cR t J S E T tn b stf tl c k' j0 (pLp t J S E 13 oAnd one f (fun d => ∀ i, i ≤ k → σ i d) j).2 H0 H' ∧ ch N H' H0.2.1 D k' ad' σ') := by
  intro f
  induction f with
  | zero => intro m k j ad σ H hf; omega
  | succ f ih =>
    intro m k j ad σ H hf hm hR hc
    obtain ⟨m, rfl⟩ : ∃ z, m = z + 1 := ⟨m - 1, by omega⟩
    have k6 := ch_few (N := N) hT hn hR hc
    have akl := ch_lt hR hc
    obtain ⟨a1, a2, a3, a4, a5, a6, a7⟩ := hR.1.a
    rw [show F_X7_any_L46 N cany cone k95 (m + 1) = F_X7_any_J46 N cany cone (F_X7_any_L46 N cany cone k95 m) k95 from rfl, pLp]
    simp only [F_X7_any_J46, show ¬ (1200 : Int32) ≤ nI k from nI_ge (b := 1200) (by omega) (by decide), if_false, reduceCtorEq, a1, a3, a7, hR.1.w hT hn h6 hR.2.2.2.2.1 (show 13 < 19 by decide), Option.bind_some, bd2_s]
    by_cases q1 : wd t J S E j = kw 13
    rotate_left
    · right
      rw [cif_f q1, if_neg q1]
      simp only [if_true, Option.bind_some, bd2_s]
      exact ⟨H, k, ad, σ, rfl, rfl, rfl, hR, hc⟩
    have j1 := kw_J hT hn h6 hN q1 (by decide)
    have R1 := hR.tk' hT j1
    rw [cif_t q1, if_pos q1]
    simp only [show ¬ (1 : Int32) = 0 by decide, if_false, R1.1.a.2.2.2.1, Option.bind_some, bd2_s]
    obtain ⟨r, H2, y1, y2, y3, y4⟩ := hone _ _ R1.1 R1.2.2.2.2.1
    simp only [y1, Option.bind_some, bd2_s]
    have R2 := R1.tr y2
    have hb := R2.2.2.1.1
    have agr : ∀ q, H0.2.1 ≤ q → q < H.2.1 → H2.1 q = H.1 q := fun q q1 q2 => (y2.2.1.2 q q2 (by omega)).trans (xup_ne _ (by omega))
    cases hp : (one (j + 1)).1 with
    | none =>
      left
      rw [pbd_n hp, y3 hp]
      obtain ⟨w1, w2, w3, w4, w5⟩ := hc.2.2
      have lo := (hc.1 k (Nat.le_refl _)).1
      have w6 := (agr _ lo akl).trans w5
      have st : xpA H2 (some (ad k)) 1 4 none = some (xup H2 (ad k) (ob 1 [w1, w2, w3, w4, va_rf none])) := by unfold xpA; rw [pV w6 (by simp)]; rfl
      refine ⟨xup H2 (ad k) (ob 1 [w1, w2, w3, w4, va_rf none]), ?_, rfl, (R2.nx lo w6).le (by omega)⟩
      simp only [st, gA (H := xup H2 (ad k) (ob 1 [w1, w2, w3, w4, va_rf none])) (xup_at _) (j := 4) (v := none) rfl, Option.bind_some, bd2_s]
      obtain ⟨m, rfl⟩ : ∃ z, m = z + 1 := ⟨m - 1, by omega⟩
      rw [show F_X7_any_L46 N cany cone k95 (m + 1) = F_X7_any_J46 N cany cone (F_X7_any_L46 N cany cone k95 m) k95 from rfl]
      unfold F_X7_any_J46
      split
      · rfl
      · rw [if_pos rfl]
    | some τ =>
      rw [pbd_s hp]
      obtain ⟨z1, a, z2, z3, z4, z5⟩ := y4 τ hp
      obtain ⟨e, e1, e2, e3⟩ := hc.push akl agr z3 z4 z5
      rw [z2]
      simp only [e1, e2, Option.bind_some, bd2_s]
      have lo := (hc.1 k (Nat.le_refl _)).1
      obtain ⟨w1, w2, w3, w4, w5⟩ := hc.2.2
      have w6 := (agr _ lo akl).trans w5
      have R3 := R2.nx (e := e) lo w6
      have i := ih m (k + 1) _ (ins ad (k + 1) a) (ins σ (k + 1) τ) (xup H2 (ad k) e) (by omega) (by omega) R3 e3
      rw [ins_s, ins_n (show (0 : Nat) ≠ k + 1 by omega), ← and_ins, ← nI_1] at i
      exact i
theorem ch.fr {lo D k : Nat} {ad : Nat → Nat} {σ : Nat → sem} {H1 : xH} (h : ch N H lo D k ad σ) (hf : ∀ q, lo ≤ q → q ≤ ad k → H1.1 q = H.1 q) : ch N H1 lo D k ad σ := by
  obtain ⟨h1, h2, h3⟩ := id h
  have e : ∀ i, i ≤ k → H1.1 (ad i) = H.1 (ad i) := fun i hi => hf _ (h1 i hi).1 (by have := h.le hi; omega)
  refine ⟨fun i hi => ⟨(h1 i hi).1, (h1 i hi).2.fr (fun q q1 q2 => hf q q1 (by have := h.le hi; omega)) (same4.of (h.node hi) (e i hi))⟩, fun i hi => ⟨(h2 i hi).1, (h2 i hi).2.of (e i (by omega))⟩, h3.of (e k (Nat.le_refl _))⟩
theorem C_ov (hT : tkS t n J S E) (hn : n ≤ 1200) (hN : 1200 < N) {kd k j0 j : Nat} {ad : Nat → Nat} {σ : Nat → sem} {H0 : xH} (hkd : kd = 4 ∨ kd = 5) (hR : cR t J S E T tn b stf tl c k j0 j H0 H) (hk : 0 < k) (hc : ch N H H0.2.1 D k ad σ) : ∃ H', F_X1_over N (nI kd) (some (ad 0)) H = some (some H.2.1, H') ∧ cR t J S E T tn b stf tl c 0 j0 j H0 H' ∧ H0.2.1 ≤ H.2.1 ∧ CT N (D + 1) H' H0.2.1 H.2.1 (fun d => if kd = 4 then ∀ i, i ≤ k → σ i d else ∃ i, i ≤ k ∧ σ i d) ∧ nodeN H' H.2.1 none := by
  have k6 := ch_few (N := N) hT hn hR hc
  have akl := ch_lt hR hc
  refine ⟨_, S_over, (hR.le (k' := 0 + 1) (by omega)).nw, hR.2.1.1, ?_, ⟨_, _, _, _, xnw_at⟩⟩
  exact CT.over (by omega) xnw_at (hc.fr (fun q _ hq => xnw_ne (by omega))) akl hkd
theorem cR.adv (hT : tkS t n J S E) {k j j1 a : Nat} {H1 : xH} (h : cR t J S E T tn b stf tl c k j j1 H H1) (ha : H.2.1 ≤ a) (hb : a < H1.2.1) : j + 1 ≤ j1 := by
  rcases Nat.lt_or_ge j j1 with q | q
  · exact q
  · exfalso
    have h1 := h.2.2.2.1
    have e : j = j1 := by omega
    have h2 := h.2.2.2.2.2.1
    rw [e] at h2
    omega
theorem C_all (hT : tkS t n J S E) (hn : n ≤ 1200) (h6 : ∀ q, t q < 256) (hN : 1200 < N) (hone : ∀ j H, cP t J S E T tn b stf tl c j H → j ≤ J → cOut t J S E T tn b stf tl c N D (one j) j H (cone (some tl) o H)) {k7 : Option Nat → Int32 → Option Nat → Option Nat → Int32 → xH → Option (Option Nat × xH)} {x2 x3 : Option Nat} {x4 : Int32} {j : Nat} (h : cP t J S E T tn b stf tl c j H) (hj : j ≤ J) :
    (∃ H', F_X7_any_J32 N cany cone k7 (some tl) o x2 x3 x4 H = some (none, H') ∧ (pAl t J S E one j).1 = none ∧ cR t J S E T tn b stf tl c 0 j (pAl t J S E one j).2 H H') ∨ (∃ (a : Nat) (σ : sem) (H' : xH), (pAl t J S E one j).1 = some σ ∧ F_X7_any_J32 N cany cone k7 (some tl) o x2 x3 x4 H = F_X7_any_J120 N cany cone k7 (some tl) o x2 x3 x4 (some a) H' ∧ cR t J S E T tn b stf tl c 0 j (pAl t J S E one j).2 H H' ∧ H.2.1 ≤ a ∧ CT N (D + 1) H' H.2.1 a σ ∧ nodeN H' a none) := by
  obtain ⟨a1, a2, a3, a4, a5, a6, a7⟩ := h.a
  obtain ⟨r, H1, y1, y2, y3, y4⟩ := hone j H h hj
  unfold F_X7_any_J32 pAl
  simp only [a4, y1, Option.bind_some, bd2_s]
  cases hp : (one j).1 with
  | none =>
    left
    rw [pbd_n hp, y3 hp]
    refine ⟨H1, ?_, rfl, y2⟩
    obtain ⟨N', hN'⟩ : ∃ z, N = z + 1 := ⟨N - 1, by omega⟩
    rw [show F_X7_any_L46 N cany cone (F_X7_any_J95 N cany cone k7) N = F_X7_any_J46 N cany cone (F_X7_any_L46 N cany cone (F_X7_any_J95 N cany cone k7) N') (F_X7_any_J95 N cany cone k7) from (congrArg (F_X7_any_L46 N cany cone (F_X7_any_J95 N cany cone k7)) hN').trans rfl]
    simp only [F_X7_any_J46, show ¬ (1200 : Int32) ≤ 0 by decide, if_false, if_true, F_X7_any_J95]
  | some σ =>
    rw [pbd_s hp]
    obtain ⟨z1, a, z2, z3, z4, z5⟩ := y4 σ hp
    have hc : ch N H1 H.2.1 D 0 (fun _ => a) (fun _ => σ) := ⟨fun i _ => ⟨z3, z4⟩, fun i hi => absurd hi (Nat.not_lt_zero _), z5⟩
    have w := C_ands (cany := cany) (k95 := F_X7_any_J95 N cany cone k7) (x2 := x2) (x3 := x3) (x4 := x4) hT hn h6 hN hone (J + 1) N 0 (one j).2 (fun _ => a) (fun _ => σ) H1 (by omega) (by have := hT.le (Nat.zero_le J); omega) y2 hc
    rw [one_le0] at w
    rw [z2]
    rcases w with ⟨H', w1, w2, w3⟩ | ⟨H', k', ad', σ', w1, w2, w3, w4, w5⟩
    · left
      refine ⟨H', ?_, w2, w3⟩
      rw [show (0 : Int32) = nI 0 from rfl, w1]
      simp only [F_X7_any_J95, if_true]
    · right
      by_cases e : k' = 0
      · subst e
        refine ⟨a, _, H', w3, ?_, w4, z3, ?_, ?_⟩
        · rw [show (0 : Int32) = nI 0 from rfl, w1]
          simp only [F_X7_any_J95, w2, reduceCtorEq, if_false, if_true]
        · rw [one_le0, ← w2]; exact (w5.1 0 (Nat.le_refl _)).2.mono (by omega) (Nat.le_refl _)
        · rw [← w2]; exact w5.2.2
      · obtain ⟨H2, v1, v2, v3, v4, v5⟩ := C_ov (N := N) hT hn hN (kd := 4) (Or.inl rfl) w4 (by omega) w5
        have hne : ¬ ad' k' = a := by rw [← w2]; have := w5.le (Nat.zero_le k'); omega
        refine ⟨_, _, H2, w3, ?_, v2, v3, ?_, v5⟩
        · rw [show (0 : Int32) = nI 0 from rfl, w1]
          rw [w2, show nI 4 = (4 : Int32) from rfl] at v1
          simp only [F_X7_any_J95, reduceCtorEq, if_false, Option.some.injEq, hne, v1, Option.bind_some, bd2_s]
        · have : (fun d => if (4 : Nat) = 4 then ∀ i, i ≤ k' → σ' i d else ∃ i, i ≤ k' ∧ σ' i d) = (fun d => ∀ i, i ≤ k' → σ' i d) := by funext d; rw [if_pos rfl]
          rw [this] at v4; exact v4
theorem C_ors (hT : tkS t n J S E) (hn : n ≤ 1200) (h6 : ∀ q, t q < 256) (hN : 1200 < N) (hone : ∀ j H, cP t J S E T tn b stf tl c j H → j ≤ J → cOut t J S E T tn b stf tl c N D (one j) j H (cone (some tl) o H)) {j0 : Nat} {H0 : xH} : ∀ (f m k j : Nat) (ad : Nat → Nat) (σ : Nat → sem) (H : xH), J - j < f → J - j < m → cR t J S E T tn b stf tl c k j0 j H0 H → ch N H H0.2.1 (D + 1) k ad σ →
    cOut t J S E T tn b stf tl c N (D + 2) (pLp t J S E 12 oOr (pAl t J S E one) f (fun d => ∃ i, i ≤ k ∧ σ i d) j) j0 H0 (F_X7_any_L7 N cany cone (F_X7_any_J147 N cany cone) m (some tl) o (some (ad 0)) (some (ad k)) (nI (k + 1)) H) := by
  intro f
  induction f with
  | zero => intro m k j ad σ H hf; omega
  | succ f ih =>
    intro m k j ad σ H hf hm hR hc
    obtain ⟨m, rfl⟩ : ∃ z, m = z + 1 := ⟨m - 1, by omega⟩
    have k6 := ch_few (N := N) hT hn hR hc
    have akl := ch_lt hR hc
    obtain ⟨a1, a2, a3, a4, a5, a6, a7⟩ := hR.1.a
    rw [show F_X7_any_L7 N cany cone (F_X7_any_J147 N cany cone) (m + 1) = F_X7_any_J7 N cany cone (F_X7_any_L7 N cany cone (F_X7_any_J147 N cany cone) m) (F_X7_any_J147 N cany cone) from rfl, pLp]
    simp only [F_X7_any_J7, show ¬ (1200 : Int32) ≤ nI (k + 1) from nI_ge (b := 1200) (by omega) (by decide), if_false, reduceCtorEq, a1, a3, a7, hR.1.w hT hn h6 hR.2.2.2.2.1 (show 12 < 19 by decide), Option.bind_some, bd2_s]
    by_cases q1 : wd t J S E j = kw 12
    rotate_left
    · rw [cif_f q1, if_neg q1]
      simp only [if_true, F_X7_any_J147, Option.bind_some, bd2_s]
      by_cases e : k = 0
      · subst e
        simp only [if_true]
        refine ⟨_, _, rfl, hR.le (by omega), (fun z => by cases z), fun τ hτ => ⟨hR.adv hT (hc.1 0 (Nat.le_refl _)).1 akl, ad 0, rfl, (hc.1 0 (Nat.le_refl _)).1, ?_, hc.2.2⟩⟩
        cases hτ
        rw [one_ex0]
        exact (hc.1 0 (Nat.le_refl _)).2.mono (by omega) (Nat.le_refl _)
      · obtain ⟨H2, v1, v2, v3, v4, v5⟩ := C_ov (N := N) hT hn hN (kd := 5) (Or.inr rfl) hR (by omega) hc
        have hne : ¬ ad k = ad 0 := by have := hc.le (Nat.zero_le k); omega
        rw [show nI 5 = (5 : Int32) from rfl] at v1
        simp only [Option.some.injEq, hne, if_false, v1, Option.bind_some, bd2_s]
        have hl : H.2.1 < H2.2.1 := by
          obtain ⟨_, _, _, _, z⟩ := v5
          exact v2.1.2.2.2.2 _ _ z
        refine ⟨_, _, rfl, v2, (fun z => by cases z), fun τ hτ => ⟨v2.adv hT v3 hl, _, rfl, v3, ?_, v5⟩⟩
        cases hτ
        have : (fun d => if (5 : Nat) = 4 then ∀ i, i ≤ k → σ i d else ∃ i, i ≤ k ∧ σ i d) = (fun d => ∃ i, i ≤ k ∧ σ i d) := by funext d; rw [if_neg (by decide)]
        rw [this] at v4; exact v4
    have j1 := kw_J hT hn h6 hN q1 (by decide)
    have R1 := hR.tk' hT j1
    rw [cif_t q1, if_pos q1]
    simp only [show ¬ (1 : Int32) = 0 by decide, if_false, Option.bind_some, bd2_s]
    have hb := R1.2.2.1.1
    rcases C_all (cany := cany) (k7 := F_X7_any_L7 N cany cone (F_X7_any_J147 N cany cone) m) (x2 := some (ad 0)) (x3 := some (ad k)) (x4 := nI (k + 1)) hT hn h6 hN hone R1.1 R1.2.2.2.2.1 with ⟨H2, w1, w2, w3⟩ | ⟨a, τ, H2, w1, w2, w3, w4, w5, w6⟩
    · rw [w1, pbd_n w2]
      exact cOut.no (R1.tr w3)
    · rw [w2, pbd_s w1]
      have R2 := R1.tr w3
      have agr : ∀ q, H0.2.1 ≤ q → q < H.2.1 → H2.1 q = H.1 q := fun q q1 q2 => (w3.2.1.2 q q2 (by omega)).trans (xup_ne _ (by omega))
      obtain ⟨e, e1, e2, e3⟩ := hc.push akl agr w4 w5 w6
      simp only [F_X7_any_J120, F_X7_any_J138, reduceCtorEq, if_false, e1, Option.bind_some, bd2_s]
      have lo := (hc.1 k (Nat.le_refl _)).1
      obtain ⟨v1, v2, v3, v4, v5⟩ := hc.2.2
      have v6 := (agr _ lo akl).trans v5
      have R3 := R2.nx (e := e) lo v6
      have i := ih m (k + 1) _ (ins ad (k + 1) a) (ins σ (k + 1) τ) (xup H2 (ad k) e) (by have := w3.2.2.2.1; omega) (by have := w3.2.2.2.1; omega) R3 e3
      rw [ins_s, ins_n (show (0 : Nat) ≠ k + 1 by omega), ← or_ins, ← nI_1] at i
      exact i
theorem C_any1 (hT : tkS t n J S E) (hn : n ≤ 1200) (h6 : ∀ q, t q < 256) (hN : 1200 < N) (hone : ∀ j H, cP t J S E T tn b stf tl c j H → j ≤ J → cOut t J S E T tn b stf tl c N D (one j) j H (cone (some tl) o H)) {j : Nat} (h : cP t J S E T tn b stf tl c j H) (hj : j ≤ J) : cOut t J S E T tn b stf tl c N (D + 2) (pAn t J S E one j) j H (B_X7_any N cany cone (some tl) o H) := by
  unfold B_X7_any pAn
  obtain ⟨N', hN'⟩ : ∃ z, N = z + 1 := ⟨N - 1, by omega⟩
  rw [show F_X7_any_L7 N cany cone (F_X7_any_J147 N cany cone) N = F_X7_any_J7 N cany cone (F_X7_any_L7 N cany cone (F_X7_any_J147 N cany cone) N') (F_X7_any_J147 N cany cone) from (congrArg (F_X7_any_L7 N cany cone (F_X7_any_J147 N cany cone)) hN').trans rfl]
  simp only [F_X7_any_J7, show ¬ (1200 : Int32) ≤ 0 by decide, if_false, if_true]
  rcases C_all (cany := cany) (k7 := F_X7_any_L7 N cany cone (F_X7_any_J147 N cany cone) N') (x2 := none) (x3 := none) (x4 := 0) hT hn h6 hN hone h hj with ⟨H2, w1, w2, w3⟩ | ⟨a, τ, H2, w1, w2, w3, w4, w5, w6⟩
  · rw [w1, pbd_n w2]
    exact cOut.no w3
  · rw [w2, pbd_s w1]
    simp only [F_X7_any_J120, F_X7_any_J138, if_true]
    have hl : a < H2.2.1 := by obtain ⟨_, _, _, _, z⟩ := w6; exact w3.1.2.2.2.2 _ _ z
    have adv := w3.adv hT w4 hl
    have i := C_ors (cany := cany) (j0 := j) (H0 := H) hT hn h6 hN hone (J + 1) N' 0 _ (fun _ => a) (fun _ => τ) H2 (by omega) (by have := hT.le (Nat.zero_le J); omega) w3 ⟨fun i _ => ⟨w4, w5⟩, fun i hi => absurd hi (Nat.not_lt_zero _), w6⟩
    rw [one_ex0, ← nI_1] at i
    exact i
end
theorem C_any (hT : tkS t n J S E) (hn : n ≤ 1200) (h6 : ∀ q, t q < 256) (hN : 1200 < N) : ∀ f, f ≤ 9 → (∀ F, 2 * f + 1 ≤ F → ∀ j H, cP t J S E T tn b stf tl c j H → j ≤ J → cOut t J S E T tn b stf tl c N (2 * f) (pSi t J S E T tn f j) j H ((R_X7_any N F).2 (some tl) (nI (9 - f)) H)) ∧ (∀ F, 2 * f + 2 ≤ F → ∀ j H, cP t J S E T tn b stf tl c j H → j ≤ J → cOut t J S E T tn b stf tl c N (2 * f + 2) (pAn t J S E (pSi t J S E T tn f) j) j H ((R_X7_any N F).1 (some tl) (nI (9 - f)) H)) := by
  have any : ∀ f, (∀ F, 2 * f + 1 ≤ F → ∀ j H, cP t J S E T tn b stf tl c j H → j ≤ J → cOut t J S E T tn b stf tl c N (2 * f) (pSi t J S E T tn f j) j H ((R_X7_any N F).2 (some tl) (nI (9 - f)) H)) → (∀ F, 2 * f + 2 ≤ F → ∀ j H, cP t J S E T tn b stf tl c j H → j ≤ J → cOut t J S E T tn b stf tl c N (2 * f + 2) (pAn t J S E (pSi t J S E T tn f) j) j H ((R_X7_any N F).1 (some tl) (nI (9 - f)) H)) := by
    intro f h F hF j H hP hj
    obtain ⟨F, rfl⟩ : ∃ z, F = z + 1 := ⟨F - 1, by omega⟩
    exact C_any1 hT hn h6 hN (h F (by omega)) hP hj
  intro f
  induction f using Nat.strongRecOn with
  | ind f ih =>
    intro hf
    have one : ∀ F, 2 * f + 1 ≤ F → ∀ j H, cP t J S E T tn b stf tl c j H → j ≤ J → cOut t J S E T tn b stf tl c N (2 * f) (pSi t J S E T tn f j) j H ((R_X7_any N F).2 (some tl) (nI (9 - f)) H) := by
      intro F hF j H hP hj
      obtain ⟨F, rfl⟩ : ∃ z, F = z + 1 := ⟨F - 1, by omega⟩
      exact C_one hT hn h6 hN hf (fun g hg => (ih g hg (by omega)).2 F (by omega)) hP hj
    exact ⟨one, any f one⟩
/-- the class reads a claim -/
theorem C_claim (hT : tkS t n J S E) (hn : n ≤ 1200) (h6 : ∀ q, t q < 256) (hN : 1200 < N) {j : Nat} (h : cP t J S E T tn b stf tl c j H) (hj : j ≤ J) : cOut t J S E T tn b stf tl c N 20 (pAn t J S E (pSi t J S E T tn 9) j) j H (F_X7_any N (some tl) 0 H) := (C_any hT hn h6 hN 9 (Nat.le_refl _)).2 45 (by decide) j H h hj
