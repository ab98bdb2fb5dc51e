/-! PURE: the class's readers of table, club, bets. -/
theorem ix3 (x : Int32) {n : Nat} (hn : n < 2 ^ 31) : (x < 0 ∨ nI n ≤ x) ∨ ∃ j : Nat, j < n ∧ x = nI j := by
  rcases pk_ix x hn with h | h | h
  · exact Or.inl (Or.inl h)
  · exact Or.inl (Or.inr h)
  · exact Or.inr h
def tv (t tc s n : Nat) (c : Nat → Int64) (cert : Int64) (H : xH) : Prop := ∃ fs, H.1 t = some (ob 6 fs) ∧ fs[1]? = some (.int (nI s)) ∧ fs[4]? = some (.long cert) ∧ fs[5]? = some (va_rf (some tc)) ∧ H.1 tc = some (aJ n c) ∧ s ≤ n ∧ n ≤ 59049
/-- pays -/
def pay (o : Nat) (c1 c2 : Int32) : Int32 := match o with
  | 1 => -c1
  | 2 => (-2 : Int32) * c1
  | 3 => c2
  | 4 => (2 : Int32) * c2
  | _ => 0
section Read
variable {N t tc s n : Nat} {c : Nat → Int64} {cert : Int64} {H : xH}
theorem S_cellOut (h : tv t tc s n c cert H) {i : Int32} (hi : i < 0 ∨ nI s ≤ i) : F_X6_cellAt N (some t) i H = some (0, H) := by
  obtain ⟨fs, h1, f1, f4, f5, h2, hs, hn⟩ := h
  unfold F_X6_cellAt
  by_cases h0 : i < 0
  · rw [if_pos h0]
  · rw [if_neg h0]
    rcases hi with q | q
    · exact absurd q h0
    · rw [gI h1 f1]; simp only [Option.bind_some]; rw [if_pos q]
theorem S_cellAt (h : tv t tc s n c cert H) {k : Nat} (hk : k < s) : F_X6_cellAt N (some t) (nI k) H = some (c k, H) := by
  obtain ⟨fs, h1, f1, f4, f5, h2, hs, hn⟩ := h
  have n0 : ¬ nI k < 0 := nI_pos (by omega)
  have n1 : ¬ nI s ≤ nI k := nI_ge hk (by omega)
  have n2 : ¬ nI n ≤ nI k := nI_ge (by omega) (by omega)
  unfold F_X6_cellAt
  simp only [n0, if_false, gI h1 f1, Option.bind_some, n1, gA h1 f5, leJ h2, n2, rdJ h2 (by omega : k < n) (by omega : n < 2 ^ 31)]
theorem S_isSure (h : tv t tc s n c cert H) (w : Int32) : F_X6_isSure N (some t) w H = some (bI (¬ obits cert w = 0), H) := by
  obtain ⟨fs, h1, f1, f4, f5, h2, hs, hn⟩ := h
  unfold F_X6_isSure
  rw [gJ h1 f4]
  simp only [Option.bind_some]
  rw [S_obits, bd2_s]
  by_cases q : obits cert w = 0
  · rw [if_pos q, bI_f (fun z => z q)]
  · rw [if_neg q, bI_t q]
theorem tv.o (h : tv t tc s n c cert H) : xob H (some t) 6 = some t := by
  obtain ⟨fs, h1, -⟩ := h
  exact obx h1
theorem tv.sz (h : tv t tc s n c cert H) : xgI H (some t) 6 1 = some (nI s) := by
  obtain ⟨fs, h1, f1, -⟩ := h
  exact gI h1 f1
theorem S_ntz : ∀ o, o < 5 → F_J6_numberOfTrailingZeros_0f7a4 N (nI (2 ^ o)) H = some (nI o, H) := by
  refine five ?_ ?_ ?_ ?_ ?_ <;> rfl
theorem S_outcome {W o w : Nat} {x : Int64} (hw : w < 12) (ho : o < 5) (hd : d5 x w = 2 ^ o) : F_X11_outcome N x (nI w) H = some (nI o, H) := by
  unfold F_X11_outcome
  rw [S_obits, bd2_s, obits_d5 x hw, hd, S_ntz o ho, bd2_s]
theorem S_coinOf {a : Nat} {fs : List Value} {c1 c2 : Int32} (h : H.1 a = some (ob 0 fs)) (f2 : fs[2]? = some (.int c1)) (f3 : fs[3]? = some (.int c2)) : ∀ o, o < 5 → F_X0_coinOf N (some a) (nI o) H = some (pay o c1 c2, H) := by
  have g2 := gI h f2
  have g3 := gI h f3
  refine five ?_ ?_ ?_ ?_ ?_ <;> unfold F_X0_coinOf
  · rw [if_neg (by decide), if_neg (by decide), if_neg (by decide), if_neg (by decide)]; rfl
  · rw [if_pos (by decide), g2]; rfl
  · rw [if_neg (by decide), if_pos (by decide), g2]; rfl
  · rw [if_neg (by decide), if_neg (by decide), if_pos (by decide), g3]; rfl
  · rw [if_neg (by decide), if_neg (by decide), if_neg (by decide), if_pos (by decide), g3]; rfl
/-- the code of the k-th of the codes that P picks -/
def nth (P : Nat → Prop) (s : Nat) (k r : Int32) : Prop := (∃ j, j < s ∧ P j ∧ nI (cnt P j) = k ∧ r = nI j) ∨ ((∀ j, j < s → P j → ¬ nI (cnt P j) = k) ∧ r = -1)
theorem nth_fun {P : Nat → Prop} {s : Nat} {k r r' : Int32} (hs : s < 2 ^ 31) (h : nth P s k r) (h' : nth P s k r') : r = r' := by
  rcases h with ⟨j, j1, j2, j3, j4⟩ | ⟨a1, a2⟩
  · rcases h' with ⟨i, i1, i2, i3, i4⟩ | ⟨b1, b2⟩
    · have e := (nI_eq (by have := cnt_le P j; omega) (by have := cnt_le P i; omega)).mp (j3.trans i3.symm)
      have : j = i := by
        rcases Nat.lt_trichotomy j i with q | q | q
        · have := cnt_mono P (i := j + 1) (j := i) q
          rw [cnt_t j2] at this; omega
        · exact q
        · have := cnt_mono P (i := i + 1) (j := j) q
          rw [cnt_t i2] at this; omega
      rw [j4, i4, this]
    · exact absurd j3 (b1 j j1 j2)
  · rcases h' with ⟨i, i1, i2, i3, i4⟩ | ⟨b1, b2⟩
    · exact absurd i3 (a1 i i1 i2)
    · rw [a2, b2]
theorem S_leftCode {lf : Nat → Prop} (h : tv t tc s n c cert H) (hlf : ∀ k, k < s → ((c k &&& 4611686018427387904) = 0 ↔ ¬ lf k)) (k : Int32) : ∀ (m i : Nat), i ≤ s → s - i < m → (∀ j, j < i → lf j → ¬ nI (cnt lf j) = k) → ∃ r, F_X6_leftCode_L4 N m (some t) k (nI (cnt lf i)) (nI i) H = some (r, H) ∧ nth lf s k r := by
  have hs : s < 2 ^ 31 := by
    obtain ⟨fs, h1, f1, f4, f5, h2, hs, hn⟩ := h
    omega
  intro m
  induction m with
  | zero => intro i hi hm; omega
  | succ m ih =>
    intro i hi hm hno
    show ∃ r, F_X6_leftCode_J4 N (F_X6_leftCode_L4 N m) (some t) k (nI (cnt lf i)) (nI i) H = some (r, H) ∧ _
    unfold F_X6_leftCode_J4 F_X6_leftCode_J36
    by_cases hlt : i < s
    · have n1 : ¬ nI s ≤ nI i := nI_ge hlt (by omega)
      simp only [h.sz, Option.bind_some, n1, if_false, h.o, S_cellAt h hlt, bd2_s, lgc]
      by_cases hl : lf i
      · have q : ¬ (c i &&& 4611686018427387904) = 0 := fun z => (hlf i hlt).mp z hl
        rw [if_neg q]
        by_cases hk : nI (cnt lf i) = k
        · rw [if_pos hk]
          exact ⟨nI i, rfl, Or.inl ⟨i, hlt, hl, hk, rfl⟩⟩
        · rw [if_neg hk, nI_1, nI_1, ← cnt_t hl]
          exact ih (i + 1) (by omega) (by omega) (fun j hj hlj => by
            by_cases hji : j = i
            · subst hji; exact hk
            · exact hno j (by omega) hlj)
      · have q : (c i &&& 4611686018427387904) = 0 := (hlf i hlt).mpr hl
        rw [if_pos q, nI_1, ← cnt_f hl]
        exact ih (i + 1) (by omega) (by omega) (fun j hj hlj => by
          by_cases hji : j = i
          · subst hji; exact absurd hlj hl
          · exact hno j (by omega) hlj)
    · have n1 : nI s ≤ nI i := nI_le (by omega) (by omega)
      simp only [h.sz, Option.bind_some, n1, if_true]
      exact ⟨-1, rfl, Or.inr ⟨fun j hj => hno j (by omega), rfl⟩⟩
/-- counting rows left whose outcome a mask picks -/
theorem S_countLeft {lf Pk : Nat → Prop} {w mask : Int32} (h : tv t tc s n c cert H) (hlf : ∀ k, k < s → ((c k &&& 4611686018427387904) = 0 ↔ ¬ lf k)) (hP : ∀ k, k < s → lf k → ((obits (c k) w &&& mask) = 0 ↔ ¬ Pk k)) : ∀ (m i : Nat), i ≤ s → s - i < m → F_X6_countLeft_L5 N m (some t) w mask (nI (cnt (fun k => lf k ∧ Pk k) i)) (nI i) H = some (nI (cnt (fun k => lf k ∧ Pk k) s), H) := by
  have hs : s < 2 ^ 31 := by
    obtain ⟨fs, h1, f1, f4, f5, h2, hs, hn⟩ := h
    omega
  intro m
  induction m with
  | zero => intro i hi hm; omega
  | succ m ih =>
    intro i hi hm
    show F_X6_countLeft_J5 N (F_X6_countLeft_L5 N m) (some t) w mask (nI (cnt (fun k => lf k ∧ Pk k) i)) (nI i) H = _
    unfold F_X6_countLeft_J5 F_X6_countLeft_J47
    by_cases hlt : i < s
    · have n1 : ¬ nI s ≤ nI i := nI_ge hlt (by omega)
      have r := ih (i + 1) (by omega) (by omega)
      simp only [h.sz, Option.bind_some, n1, if_false, h.o, S_cellAt h hlt, bd2_s, lgc, S_obits, nI_1]
      by_cases hl : lf i
      · have q : ¬ (c i &&& 4611686018427387904) = 0 := fun z => (hlf i hlt).mp z hl
        rw [if_neg q]
        by_cases hp : Pk i
        · rw [if_neg (fun z => (hP i hlt hl).mp z hp)]
          rwa [cnt_t (P := fun k => lf k ∧ Pk k) ⟨hl, hp⟩] at r
        · rw [if_pos ((hP i hlt hl).mpr hp)]
          rwa [cnt_f (P := fun k => lf k ∧ Pk k) (fun z => hp z.2)] at r
      · have q : (c i &&& 4611686018427387904) = 0 := (hlf i hlt).mpr hl
        rw [if_pos q]
        rwa [cnt_f (P := fun k => lf k ∧ Pk k) (fun z => hl z.1)] at r
    · have n1 : nI s ≤ nI i := nI_le (by omega) (by omega)
      have : i = s := by omega
      subst this
      simp only [h.sz, Option.bind_some, n1, if_true]
end Read
