/-! PURE: the reference's claims: what their steps come to. -/
variable {stf : Nat → Nat} {N K b m : Nat} {β : sB} {δ : sD} {H : xH}
def lsm (kd w y : Nat) : sem := if kd = 0 then lBy w 7 else if kd = 1 then lBy w y else if kd = 2 then lBf w y else lLe w y
/-- what a step of things needs -/
def lok (T kd w y : Nat) : Prop := (kd ≤ 1 → w < T) ∧ (kd = 2 → w < T ∧ y < T) ∧ w < 100 ∧ y < 9 ∧ kd ≤ 3
def upP (P : Nat → Prop) (k : Nat) (x : Prop) : Nat → Prop := fun j => (j = k ∧ x) ∨ (j ≠ k ∧ P j)
theorem upP_s {P : Nat → Prop} {k : Nat} {x : Prop} : upP P k x k ↔ x := ⟨fun h => h.elim (fun q => q.2) (fun q => absurd rfl q.1), fun h => Or.inl ⟨rfl, h⟩⟩
theorem upP_n {P : Nat → Prop} {k j : Nat} {x : Prop} (h : j ≠ k) : upP P k x j ↔ P j := ⟨fun q => q.elim (fun z => absurd z.1 h) (fun z => z.2), fun q => Or.inr ⟨h, q⟩⟩
abbrev cod : Type := (Nat → Int32) × (Nat → Int32) × (Nat → Int32)
noncomputable def pst (T : Nat) (c : cod) (d : Nat → Nat) (k : Nat) (s : Nat × (Nat → Prop)) : Option (Nat × (Nat → Prop)) :=
  @ite _ (∃ kd w y, c.1 k = nI kd ∧ c.2.1 k = nI w ∧ c.2.2 k = nI y ∧ lok T kd w y) (Classical.propDecidable _) (if s.1 < 64 then some (s.1 + 1, upP s.2 s.1 (∃ kd w y, c.1 k = nI kd ∧ c.2.1 k = nI w ∧ c.2.2 k = nI y ∧ lok T kd w y ∧ lsm kd w y d)) else none)
    (if c.1 k = nI 6 then (if 1 ≤ s.1 ∧ s.1 ≤ 64 then some (s.1, upP s.2 (s.1 - 1) (¬ s.2 (s.1 - 1))) else none)
     else if c.1 k = nI 4 then (if 2 ≤ s.1 ∧ s.1 ≤ 64 then some (s.1 - 1, upP s.2 (s.1 - 2) (s.2 (s.1 - 2) ∨ s.2 (s.1 - 1))) else none)
     else if c.1 k = nI 5 then (if 2 ≤ s.1 ∧ s.1 ≤ 64 then some (s.1 - 1, upP s.2 (s.1 - 2) (s.2 (s.1 - 2) ∧ s.2 (s.1 - 1))) else none) else none)
noncomputable def prun (T : Nat) (c : cod) (d : Nat → Nat) : Nat → Nat → Nat × (Nat → Prop) → Option (Nat × (Nat → Prop))
  | _, 0, s => some s
  | k, l + 1, s => (pst T c d k s).bind (prun T c d (k + 1) l)
theorem prun_add {T : Nat} {c : cod} {d : Nat → Nat} : ∀ {l1 k l2 : Nat} {s : Nat × (Nat → Prop)}, prun T c d k (l1 + l2) s = (prun T c d k l1 s).bind (prun T c d (k + l1) l2)
  | 0, k, l2, s => by simp [prun]
  | l1 + 1, k, l2, s => by
    rw [show l1 + 1 + l2 = (l1 + l2) + 1 by omega]
    simp only [prun]
    cases h : pst T c d k s with
    | none => rfl
    | some s' =>
      simp only [Option.bind_some]
      rw [prun_add (l1 := l1), show k + 1 + l1 = k + (l1 + 1) by omega]
def PF (T : Nat) (c : cod) (s e h : Nat) (σ : sem) : Prop := s ≤ e ∧ 1 ≤ h ∧ ∀ (d : Nat → Nat) (n : Nat) (P : Nat → Prop), n + h ≤ 64 → ∃ P', prun T c d s (e - s) (n, P) = some (n + 1, P') ∧ (P' n ↔ σ d) ∧ ∀ i, i < n → (P' i ↔ P i)
theorem PF.hm {T s e h h' : Nat} {c : cod} {σ : sem} (p : PF T c s e h σ) (hh : h ≤ h') : PF T c s e h' σ := ⟨p.1, by have := p.2.1; omega, fun d n P hn => p.2.2 d n P (by omega)⟩
theorem PF.cg {T s e h : Nat} {c : cod} {σ τ : sem} (p : PF T c s e h σ) (q : ∀ d, σ d ↔ τ d) : PF T c s e h τ := ⟨p.1, p.2.1, fun d n P hn => by
  obtain ⟨P', a, b, c⟩ := p.2.2 d n P hn
  exact ⟨P', a, b.trans (q d), c⟩⟩
theorem lok.mono {T T' kd w y : Nat} (h : lok T kd w y) (hT : T ≤ T') : lok T' kd w y := ⟨fun q => Nat.lt_of_lt_of_le (h.1 q) hT, fun q => ⟨Nat.lt_of_lt_of_le (h.2.1 q).1 hT, Nat.lt_of_lt_of_le (h.2.1 q).2 hT⟩, h.2.2⟩
theorem nI_inj {a c : Nat} (h : nI a = nI c) (ha : a < 2 ^ 31) (hc : c < 2 ^ 31) : a = c := (nI_eq ha hc).mp h
/-- the step that these cells are, for what it is -/
theorem pst_lf {T k kd w y n : Nat} {c : cod} {d : Nat → Nat} {P : Nat → Prop} (h1 : c.1 k = nI kd) (h2 : c.2.1 k = nI w) (h3 : c.2.2 k = nI y) (hl : lok T kd w y) (hn : n < 64) : ∃ P', pst T c d k (n, P) = some (n + 1, P') ∧ (P' n ↔ lsm kd w y d) ∧ ∀ i, i ≠ n → (P' i ↔ P i) := by
  refine ⟨_, by unfold pst; rw [if_pos ⟨kd, w, y, h1, h2, h3, hl⟩, if_pos hn], ?_, fun i hi => upP_n hi⟩
  refine upP_s.trans ⟨fun ⟨kd', w', y', a, b, c, e, f⟩ => ?_, fun q => ⟨kd, w, y, h1, h2, h3, hl, q⟩⟩
  have e1 := nI_inj (h1.symm.trans a) (by have := hl.2.2.2.2; omega) (by have := e.2.2.2.2; omega)
  have e2 := nI_inj (h2.symm.trans b) (by have := hl.2.2.1; omega) (by have := e.2.2.1; omega)
  have e3 := nI_inj (h3.symm.trans c) (by have := hl.2.2.2.1; omega) (by have := e.2.2.2.1; omega)
  rw [e1, e2, e3]; exact f
theorem nlf {T k kd : Nat} {c : cod} (h1 : c.1 k = nI kd) (hk : 3 < kd) (hk2 : kd < 100) : ¬ ∃ kd w y, c.1 k = nI kd ∧ c.2.1 k = nI w ∧ c.2.2 k = nI y ∧ lok T kd w y := by
  rintro ⟨kd', w', y', a, b, c, e⟩
  have e1 := nI_inj (h1.symm.trans a) (by omega) (by have := e.2.2.2.2; omega)
  have := e.2.2.2.2
  omega
theorem PF.leaf {T k kd w y : Nat} {c : cod} (h1 : c.1 k = nI kd) (h2 : c.2.1 k = nI w) (h3 : c.2.2 k = nI y) (hl : lok T kd w y) : PF T c k (k + 1) 1 (lsm kd w y) := by
  refine ⟨by omega, Nat.le_refl _, fun d n P hn => ?_⟩
  obtain ⟨P', a, b, e⟩ := pst_lf (d := d) (P := P) h1 h2 h3 hl (show n < 64 by omega)
  refine ⟨P', ?_, b, fun i hi => e i (by omega)⟩
  rw [show k + 1 - k = 0 + 1 by omega]
  simp only [prun, a, Option.bind_some]
theorem PF.not {T s e h : Nat} {c : cod} {σ : sem} (p : PF T c s e h σ) (h1 : c.1 e = nI 6) : PF T c s (e + 1) h (fun d => ¬ σ d) := by
  obtain ⟨p1, p2, p3⟩ := p
  refine ⟨by omega, p2, fun d n P hn => ?_⟩
  obtain ⟨P', a, b, f⟩ := p3 d n P hn
  refine ⟨upP P' n (¬ P' n), ?_, upP_s.trans (not_congr b), fun i hi => (upP_n (by omega)).trans (f i hi)⟩
  rw [show e + 1 - s = (e - s) + 1 by omega, prun_add, a]
  simp only [Option.bind_some, prun]
  unfold pst
  rw [if_neg (nlf (by rw [show s + (e - s) = e by omega]; exact h1) (by omega) (by omega)), show s + (e - s) = e by omega, if_pos h1, if_pos (by omega)]
  rfl
theorem PF.bin {T s e1 e2 h1 h2 h kd : Nat} {c : cod} {σ τ : sem} (p : PF T c s e1 h1 σ) (q : PF T c e1 e2 h2 τ) (hk : kd = 4 ∨ kd = 5) (ho : c.1 e2 = nI kd) (hh1 : h1 ≤ h) (hh2 : h2 + 1 ≤ h) : PF T c s (e2 + 1) h (fun d => if kd = 4 then σ d ∨ τ d else σ d ∧ τ d) := by
  obtain ⟨p1, p2, p3⟩ := p
  obtain ⟨q1, q2, q3⟩ := q
  refine ⟨by omega, by omega, fun d n P hn => ?_⟩
  obtain ⟨P1, a, b, f⟩ := p3 d n P (by omega)
  obtain ⟨P2, a2, b2, f2⟩ := q3 d (n + 1) P1 (by omega)
  have hn1 : n + 1 + 1 - 2 = n := by omega
  have hn2 : n + 1 + 1 - 1 = n + 1 := by omega
  refine ⟨upP P2 n (if kd = 4 then P2 n ∨ P2 (n + 1) else P2 n ∧ P2 (n + 1)), ?_, ?_, fun i hi => (upP_n (by omega)).trans ((f2 i (by omega)).trans (f i hi))⟩
  · rw [show e2 + 1 - s = (e1 - s) + ((e2 - e1) + 1) by omega, prun_add, a]
    simp only [Option.bind_some]
    rw [prun_add, show s + (e1 - s) = e1 by omega, a2]
    simp only [Option.bind_some, prun]
    rw [show e1 + (e2 - e1) = e2 by omega]
    unfold pst
    rw [if_neg (nlf ho (by omega) (by omega)), ho]
    rcases hk with rfl | rfl
    · rw [if_neg (by decide), if_pos rfl, if_pos (by omega), hn1, hn2, if_pos rfl]; rfl
    · rw [if_neg (by decide), if_neg (by decide), if_pos rfl, if_pos (by omega), hn1, hn2, if_neg (by decide)]; rfl
  · refine upP_s.trans ?_
    have g1 : P2 n ↔ σ d := (f2 n (by omega)).trans b
    rcases hk with rfl | rfl
    · rw [if_pos rfl]; exact (or_congr g1 b2).trans (by simp)
    · rw [if_neg (by decide)]; exact (and_congr g1 b2).trans (by simp)
theorem pst_tm {T T' k : Nat} {c c' : cod} {d : Nat → Nat} {s r : Nat × (Nat → Prop)} (hT : T ≤ T') (hc : c'.1 k = c.1 k ∧ c'.2.1 k = c.2.1 k ∧ c'.2.2 k = c.2.2 k) (h : pst T c d k s = some r) : ∃ r', pst T' c' d k s = some r' ∧ r'.1 = r.1 ∧ ∀ i, r'.2 i ↔ r.2 i := by
  obtain ⟨c1, c2, c3⟩ := hc
  by_cases e : ∃ kd w y, c.1 k = nI kd ∧ c.2.1 k = nI w ∧ c.2.2 k = nI y ∧ lok T kd w y
  · obtain ⟨kd, w, y, a1, a2, a3, a4⟩ := e
    have hs : s.1 < 64 := by
      unfold pst at h
      rw [if_pos ⟨kd, w, y, a1, a2, a3, a4⟩] at h
      split at h
      · assumption
      · cases h
    obtain ⟨P', b1, b2, b3⟩ := pst_lf (d := d) (P := s.2) a1 a2 a3 a4 hs
    obtain ⟨P'', d1, d2, d3⟩ := pst_lf (d := d) (P := s.2) (c1.trans a1) (c2.trans a2) (c3.trans a3) (a4.mono hT) hs
    have : r = (s.1 + 1, P') := Option.some.inj (h.symm.trans b1)
    rw [this]
    refine ⟨_, d1, rfl, fun i => ?_⟩
    by_cases ei : i = s.1
    · rw [ei]; exact d2.trans b2.symm
    · exact (d3 i ei).trans (b3 i ei).symm
  · have e' : ¬ ∃ kd w y, c'.1 k = nI kd ∧ c'.2.1 k = nI w ∧ c'.2.2 k = nI y ∧ lok T' kd w y := by
      rintro ⟨kd, w, y, a1, a2, a3, a4⟩
      have hk : kd ≤ 3 := a4.2.2.2.2
      unfold pst at h
      rw [if_neg e, ← c1, a1] at h
      rw [if_neg (fun z => by have := nI_inj z (by omega) (by omega); omega), if_neg (fun z => by have := nI_inj z (by omega) (by omega); omega), if_neg (fun z => by have := nI_inj z (by omega) (by omega); omega)] at h
      cases h
    refine ⟨r, ?_, rfl, fun _ => Iff.rfl⟩
    rw [← h]
    unfold pst
    rw [if_neg e, if_neg e', c1]
theorem pst_P {T k : Nat} {c : cod} {d : Nat → Nat} {s s' r : Nat × (Nat → Prop)} (hs : s'.1 = s.1) (hp : ∀ i, s'.2 i ↔ s.2 i) (h : pst T c d k s = some r) : ∃ r', pst T c d k s' = some r' ∧ r'.1 = r.1 ∧ ∀ i, r'.2 i ↔ r.2 i := by
  have : s' = s := Prod.ext hs (funext fun i => propext (hp i))
  rw [this]
  exact ⟨r, h, rfl, fun _ => Iff.rfl⟩
theorem prun_tm {T T' : Nat} {c c' : cod} {d : Nat → Nat} (hT : T ≤ T') : ∀ {l k : Nat} {s r : Nat × (Nat → Prop)}, (∀ q, k ≤ q → q < k + l → c'.1 q = c.1 q ∧ c'.2.1 q = c.2.1 q ∧ c'.2.2 q = c.2.2 q) → prun T c d k l s = some r → prun T' c' d k l s = some r
  | 0, k, s, r, _, h => h
  | l + 1, k, s, r, hc, h => by
    simp only [prun] at h ⊢
    cases h1 : pst T c d k s with
    | none => rw [h1] at h; cases h
    | some r1 =>
      rw [h1] at h
      obtain ⟨r2, a1, a2, a3⟩ := pst_tm hT (hc k (by omega) (by omega)) h1
      have : r2 = r1 := Prod.ext a2 (funext fun i => propext (a3 i))
      rw [a1, this]
      exact prun_tm hT (fun q q1 q2 => hc q (by omega) (by omega)) h
theorem PF.fr {T T' s e h : Nat} {c c' : cod} {σ : sem} (p : PF T c s e h σ) (hT : T ≤ T') (hc : ∀ q, s ≤ q → q < e → c'.1 q = c.1 q ∧ c'.2.1 q = c.2.1 q ∧ c'.2.2 q = c.2.2 q) : PF T' c' s e h σ := ⟨p.1, p.2.1, fun d n P hn => by
  obtain ⟨P', a, b, f⟩ := p.2.2 d n P hn
  exact ⟨P', prun_tm hT (fun q q1 q2 => hc q q1 (by have := p.1; omega)) a, b, f⟩⟩
theorem pst_sh {T k z : Nat} {c c' : cod} {d : Nat → Nat} {s : Nat × (Nat → Prop)} (hc : c'.1 k = c.1 (k + z) ∧ c'.2.1 k = c.2.1 (k + z) ∧ c'.2.2 k = c.2.2 (k + z)) : pst T c' d k s = pst T c d (k + z) s := by
  unfold pst
  rw [hc.1, hc.2.1, hc.2.2]
theorem prun_sh {T z : Nat} {c c' : cod} {d : Nat → Nat} : ∀ {l k : Nat} {s : Nat × (Nat → Prop)}, (∀ q, k ≤ q → q < k + l → c'.1 q = c.1 (q + z) ∧ c'.2.1 q = c.2.1 (q + z) ∧ c'.2.2 q = c.2.2 (q + z)) → prun T c' d k l s = prun T c d (k + z) l s
  | 0, k, s, _ => rfl
  | l + 1, k, s, hc => by
    simp only [prun]
    rw [pst_sh (hc k (by omega) (by omega)), show k + z + 1 = (k + 1) + z by omega]
    congr 1
    funext s'
    exact prun_sh (fun q q1 q2 => hc q (by omega) (by omega))
theorem PF.sh {T s e h z : Nat} {c c' : cod} {σ : sem} (p : PF T c (s + z) (e + z) h σ) (hc : ∀ q, s ≤ q → q < e → c'.1 q = c.1 (q + z) ∧ c'.2.1 q = c.2.1 (q + z) ∧ c'.2.2 q = c.2.2 (q + z)) : PF T c' s e h σ := ⟨by have := p.1; omega, p.2.1, fun d n P hn => by
  obtain ⟨P', a, b, f⟩ := p.2.2 d n P hn
  refine ⟨P', ?_, b, f⟩
  have := p.1
  rw [prun_sh (fun q q1 q2 => hc q q1 (by omega)), ← a, show e + z - (s + z) = e - s by omega]⟩
