/-! PURE: frames; areAllowed, mark. -/
def Fr (S : Nat → Prop) (H H' : xH) : Prop := H'.2 = H.2 ∧ ∀ q, ¬ S q → H'.1 q = H.1 q
theorem Fr.rf {S : Nat → Prop} {H : xH} : Fr S H H := ⟨rfl, fun _ _ => rfl⟩
theorem Fr.tr {S : Nat → Prop} {H H1 H2 : xH} (h : Fr S H H1) (h2 : Fr S H1 H2) : Fr S H H2 := ⟨h2.1.trans h.1, fun q hq => (h2.2 q hq).trans (h.2 q hq)⟩
theorem Fr.mono {S S' : Nat → Prop} {H H1 : xH} (h : Fr S H H1) (hs : ∀ q, S q → S' q) : Fr S' H H1 := ⟨h.1, fun q hq => h.2 q (fun h9 => hq (hs q h9))⟩
theorem Fr.up {S : Nat → Prop} {H : xH} {a : Nat} {e : xE} (h : S a) : Fr S H (xup H a e) := ⟨rfl, fun q hq => xup_ne e (fun h9 => hq (by rw [h9]; exact h))⟩
theorem Fr.at {S : Nat → Prop} {H H1 : xH} {a : Nat} {e : xE} (h : Fr S H H1) (hS : ¬ S a) (he : H.1 a = some e) : H1.1 a = some e := (h.2 a hS).trans he
theorem neA {H : xH} {a b : Nat} {e f : xE} (ha : H.1 a = some e) (hb : H.1 b = some f) (h : e = f → False) : a ≠ b := fun e9 => h (by subst e9; exact Option.some.inj (ha.symm.trans hb))
def okd (a d : Int32) : Prop := ¬ ((a >>> (d &&& 31)) &&& 1) = 0
/-- a truth as an int -/
noncomputable def bI (p : Prop) : Int32 := @ite _ p (Classical.propDecidable p) 1 0
theorem bI_t {p : Prop} (h : p) : bI p = 1 := by unfold bI; rw [if_pos h]
theorem bI_f {p : Prop} (h : ¬ p) : bI p = 0 := by unfold bI; rw [if_neg h]
theorem bI_0 {p : Prop} : bI p = 0 ↔ ¬ p := ⟨fun h hp => by rw [bI_t hp] at h; exact absurd h (by decide), bI_f⟩
theorem bI_c {p q : Prop} (h : p ↔ q) : bI p = bI q := by rw [propext h]
section Mark
variable {N t td ta tc n s T : Nat} {fs : List Value} {al : Nat → Int32}
theorem S_allowed (hT : T ≤ 5) {H : xH} {g : Nat → Int32} (h1 : H.1 t = some (ob 6 fs)) (f0 : fs[0]? = some (.int (nI T))) (f7 : fs[7]? = some (va_rf (some td))) (f8 : fs[8]? = some (va_rf (some ta))) (h2 : H.1 td = some (aI 5 g)) (h3 : H.1 ta = some (aI 5 al)) : ∀ (m i : Nat), i ≤ T → T - i < m →
    F_X6_areAllowed_L2 N m (some t) (nI i) H = some (bI (∀ j, j < T → i ≤ j → okd (al j) (g j)), H) := by
  intro m
  induction m with
  | zero => intro i hi hm; omega
  | succ m ih =>
    intro i hi hm
    show F_X6_areAllowed_J2 N (F_X6_areAllowed_L2 N m) (some t) (nI i) H = _
    unfold F_X6_areAllowed_J2
    by_cases hlt : i < T
    · have hn : ¬ nI T ≤ nI i := nI_ge hlt (by omega)
      have h5 : i < 5 := by omega
      have e1 : gat 5 al (nI i) = al i := by rw [gat_nI (by omega), if_pos h5]
      have e2 : gat 5 g (nI i) = g i := by rw [gat_nI (by omega), if_pos h5]
      simp only [gI h1 f0, gA h1 f8, gA h1 f7, Option.bind_some, hn, if_false, S_at h3 (by decide : 5 < 2 ^ 31), S_at h2 (by decide : 5 < 2 ^ 31), bd2_s, e1, e2]
      by_cases hk : okd (al i) (g i)
      · rw [if_neg hk, nI_1, ih (i + 1) (by omega) (by omega)]
        congr 2
        refine bI_c ⟨fun h j hj hij => ?_, fun h j hj hij => h j hj (by omega)⟩
        by_cases hji : j = i
        · subst hji; exact hk
        · exact h j hj (by omega)
      · have hk' : ((al i >>> (g i &&& 31)) &&& 1) = 0 := Classical.not_not.mp hk
        rw [if_pos hk', bI_f (fun h => hk (h i hlt (Nat.le_refl i)))]
    · have hn : nI T ≤ nI i := nI_le (by omega) (by omega)
      simp only [gI h1 f0, Option.bind_some, hn, if_true]
      rw [bI_t (fun j hj hij => by omega)]
/-- a cell without its mark, whether it is marked, the cell with its mark -/
abbrev nc0 (c : Nat → Int64) (k : Nat) : Int64 := c k &&& (-4611686018427387905)
def ncP (c : Nat → Int64) (A : Nat → Prop) (k : Nat) : Prop := ¬ ((c k &&& (-4611686018427387905)) &&& 2305843009213693952) = 0 ∧ A k
noncomputable def nc (c : Nat → Int64) (A : Nat → Prop) (k : Nat) : Int64 := @ite _ (ncP c A k) (Classical.propDecidable _) ((c k &&& (-4611686018427387905)) ||| 4611686018427387904) (c k &&& (-4611686018427387905))
noncomputable def sn (c : Nat → Int64) (A : Nat → Prop) : Nat → Int64
  | 0 => 0
  | k + 1 => @ite _ (ncP c A k) (Classical.propDecidable _) (sn c A k ||| nc c A k) (sn c A k)
noncomputable def lfc (c : Nat → Int64) (A : Nat → Prop) : Nat → Nat
  | 0 => 0
  | k + 1 => @ite _ (ncP c A k) (Classical.propDecidable _) (lfc c A k + 1) (lfc c A k)
/-- whether the digits of a code are allowed -/
def alw (T : Nat) (al : Nat → Int32) (k : Nat) : Prop := ∀ j, j < T → okd (al j) (nI (dig k j))
theorem lfc_le (c : Nat → Int64) (A : Nat → Prop) : ∀ k, lfc c A k ≤ k := by
  intro k
  induction k with
  | zero => exact Nat.le_refl 0
  | succ k ih =>
    unfold lfc
    split <;> omega
def MkI (t tc td ta n s T : Nat) (fs : List Value) (al : Nat → Int32) (c : Nat → Int64) (k : Nat) (H : xH) : Prop :=
  H.1 t = some (ob 6 (fs.set 3 (.int (nI (lfc c (alw T al) k))))) ∧ H.1 tc = some (aJ n (fun j => if j < k then nc c (alw T al) j else c j)) ∧ (∃ g, H.1 td = some (aI 5 g) ∧ ∀ j, j < 5 → g j = nI (dig k j)) ∧ H.1 ta = some (aI 5 al)
theorem S_markL (hT : T ≤ 5) (hn : n < 2 ^ 31) (hs : s ≤ n) (f0 : fs[0]? = some (.int (nI T))) (f1 : fs[1]? = some (.int (nI s))) (f5 : fs[5]? = some (va_rf (some tc))) (f7 : fs[7]? = some (va_rf (some td))) (f8 : fs[8]? = some (va_rf (some ta))) (f3 : 3 < fs.length) (c : Nat → Int64) (htd : td ≠ t) (hta : ta ≠ td) (hN : 5 < N) {k139 : Option Nat → Int64 → xH → Option (Int32 × xH)} :
    ∀ (m k : Nat) (H : xH), MkI t tc td ta n s T fs al c k H → k ≤ s → s - k < m → ∃ H', F_X6_mark_L47 N k139 m (some t) (sn c (alw T al) k) (nI k) H = k139 (some t) (sn c (alw T al) s) H' ∧ MkI t tc td ta n s T fs al c s H' ∧ Fr (fun q => q = t ∨ q = tc ∨ q = td) H H' := by
  intro m
  induction m with
  | zero => intro k H hI hk hm; omega
  | succ m ih =>
    intro k H hI hk hm
    obtain ⟨h1, h2, ⟨g, h3, hg⟩, h4⟩ := hI
    have hset : ∀ (i : Nat) (v : Value), i ≠ 3 → fs[i]? = some v → (fs.set 3 (.int (nI (lfc c (alw T al) k))))[i]? = some v := fun i v hi hv => by rw [List.getElem?_set_ne (Ne.symm hi)]; exact hv
    have htt : tc ≠ t := neA h2 h1 (fun e => by cases e)
    have htc : tc ≠ td := neA h2 h3 (fun e => by cases e)
    have htc2 : tc ≠ ta := neA h2 h4 (fun e => by cases e)
    have hat : ta ≠ t := neA h4 h1 (fun e => by cases e)
    by_cases hlt : k < s
    · have hkn : k < n := by omega
      have n1 : ¬ nI s ≤ nI k := nI_ge hlt (by omega)
      have n2 : ¬ nI n ≤ nI k := nI_ge hkn hn
      have r1 : xlJ H (some tc) (nI k) = some (c k) := by rw [rdJ h2 hkn hn, if_neg (Nat.lt_irrefl k)]
      have hA : F_X6_areAllowed N (some t) H = some (bI (alw T al k), H) := by
        refine (S_allowed hT h1 (hset 0 _ (by decide) f0) (hset 7 _ (by decide) f7) (hset 8 _ (by decide) f8) h3 h4 N 0 (Nat.zero_le _) (by omega)).trans ?_
        rw [bI_c (q := alw T al k) ⟨fun h j hj => by have := h j hj (Nat.zero_le _); rwa [hg j (by omega)] at this, fun h j hj _ => by rw [hg j (by omega)]; exact h j hj⟩]
      -- the tail of a step: write the cell, step the digits
      have tail : ∀ (H2 : xH) (sv cv : Int64), H2.1 t = some (ob 6 (fs.set 3 (.int (nI (lfc c (alw T al) (k + 1)))))) → H2.1 tc = some (aJ n (fun j => if j < k then nc c (alw T al) j else c j)) → H2.1 td = some (aI 5 g) → H2.1 ta = some (aI 5 al) → Fr (fun q => q = t ∨ q = tc ∨ q = td) H H2 → sv = sn c (alw T al) (k + 1) → cv = nc c (alw T al) k →
          ∃ H', F_X6_mark_J120 N (F_X6_mark_L47 N k139 m) (some t) sv (nI k) cv H2 = k139 (some t) (sn c (alw T al) s) H' ∧ MkI t tc td ta n s T fs al c s H' ∧ Fr (fun q => q = t ∨ q = tc ∨ q = td) H H' := by
        intro H2 sv cv q1 q2 q3 q4 qF e1 e2
        subst e1; subst e2
        have hset2 : ∀ (i : Nat) (v : Value), i ≠ 3 → fs[i]? = some v → (fs.set 3 (.int (nI (lfc c (alw T al) (k + 1)))))[i]? = some v := fun i v hi hv => by rw [List.getElem?_set_ne (Ne.symm hi)]; exact hv
        have w1 : xsJ H2 (some tc) (nI k) (nc c (alw T al) k) = some (xup H2 tc (aJ n (vp_updL (fun j => if j < k then nc c (alw T al) j else c j) k (nc c (alw T al) k)))) := stJ q2 hkn hn
        generalize hH3 : xup H2 tc (aJ n (vp_updL (fun j => if j < k then nc c (alw T al) j else c j) k (nc c (alw T al) k))) = H3 at w1
        have p1 : H3.1 t = some (ob 6 (fs.set 3 (.int (nI (lfc c (alw T al) (k + 1)))))) := by rw [← hH3, xup_ne _ (Ne.symm htt)]; exact q1
        have p2 : H3.1 tc = some (aJ n (fun j => if j < k + 1 then nc c (alw T al) j else c j)) := by
          rw [← hH3, xup_at]
          congr 5
          funext j
          unfold vp_updL
          by_cases hj : j = k
          · subst hj; simp
          · by_cases hj2 : j < k
            · have : j < k + 1 := by omega
              simp [hj, hj2, this]
            · have : ¬ j < k + 1 := by omega
              simp [hj, hj2, this]
        have p3 : H3.1 td = some (aI 5 g) := by rw [← hH3, xup_ne _ (Ne.symm htc)]; exact q3
        have p4 : H3.1 ta = some (aI 5 al) := by rw [← hH3, xup_ne _ (Ne.symm htc2)]; exact q4
        obtain ⟨g', d1, d2⟩ := S_step (N := N) k htd N 0 H3 g p1 (hset2 7 _ (by decide) f7) p3 (Nat.zero_le _) (by omega) (fun j hj => by rw [hg j hj, if_neg (Nat.not_lt_zero j)]) (by simp [Nat.mod_one])
        have I4 : MkI t tc td ta n s T fs al c (k + 1) (xup H3 td (aI 5 g')) := ⟨by rw [xup_ne _ (Ne.symm htd)]; exact p1, by rw [xup_ne _ htc]; exact p2, ⟨g', xup_at _, d2⟩, by rw [xup_ne _ hta]; exact p4⟩
        obtain ⟨H', r9, r10, r11⟩ := ih (k + 1) _ I4 (by omega) (by omega)
        refine ⟨H', ?_, r10, ((qF.tr (by rw [← hH3]; exact Fr.up (Or.inr (Or.inl rfl)))).tr (Fr.up (Or.inr (Or.inr rfl)))).tr r11⟩
        unfold F_X6_mark_J120
        have d1' : F_X6_stepDigits N (some t) H3 = some (xup H3 td (aI 5 g')) := d1
        simp only [gA q1 (hset2 5 _ (by decide) f5), Option.bind_some, w1, obx p1, d1', nI_1]
        exact r9
      show ∃ H', F_X6_mark_J47 N (F_X6_mark_L47 N k139 m) k139 (some t) (sn c (alw T al) k) (nI k) H = _ ∧ _
      unfold F_X6_mark_J47
      simp only [gI h1 (hset 1 _ (by decide) f1), gA h1 (hset 5 _ (by decide) f5), gI h1 (show (fs.set 3 (.int (nI (lfc c (alw T al) k))))[3]? = _ from List.getElem?_set_self f3), Option.bind_some, n1, if_false, leJ h2, n2, r1, obx h1, hA, bd2_s, lgc]
      by_cases hp : ((c k &&& (-4611686018427387905)) &&& 2305843009213693952) = 0
      · have hnp : ¬ ncP c (alw T al) k := fun q => q.1 hp
        rw [if_pos hp]
        exact tail H _ _ (by rw [show lfc c (alw T al) (k + 1) = lfc c (alw T al) k by simp [lfc, hnp]]; exact h1) h2 h3 h4 Fr.rf (by simp [sn, hnp]) (by simp [nc, hnp])
      · rw [if_neg hp]
        by_cases ha : alw T al k
        · have hnp : ncP c (alw T al) k := ⟨hp, ha⟩
          rw [bI_t ha, if_neg (by decide : ¬ (1 : Int32) = 0)]
          have w0 : xpI H (some t) 6 3 (nI (lfc c (alw T al) k) + 1) = some (xup H t (ob 6 (fs.set 3 (.int (nI (lfc c (alw T al) (k + 1))))))) := by
            unfold xpI
            rw [pV h1 (by rw [List.length_set]; exact f3), List.set_set, nI_1, show lfc c (alw T al) (k + 1) = lfc c (alw T al) k + 1 by simp [lfc, hnp]]
          simp only [w0, Option.bind_some]
          exact tail _ _ _ (xup_at _) (by rw [xup_ne _ htt]; exact h2) (by rw [xup_ne _ htd]; exact h3) (by rw [xup_ne _ hat]; exact h4) (Fr.up (Or.inl rfl)) (by simp [sn, nc, hnp]) (by simp [nc, hnp])
        · have hnp : ¬ ncP c (alw T al) k := fun q => ha q.2
          rw [bI_f ha, if_pos rfl]
          exact tail H _ _ (by rw [show lfc c (alw T al) (k + 1) = lfc c (alw T al) k by simp [lfc, hnp]]; exact h1) h2 h3 h4 Fr.rf (by simp [sn, hnp]) (by simp [nc, hnp])
    · have hks : k = s := by omega
      subst hks
      refine ⟨H, ?_, ⟨h1, h2, ⟨g, h3, hg⟩, h4⟩, Fr.rf⟩
      show F_X6_mark_J47 N (F_X6_mark_L47 N k139 m) k139 (some t) (sn c (alw T al) k) (nI k) H = _
      unfold F_X6_mark_J47
      have n1 : nI k ≤ nI k := nI_le (Nat.le_refl k) (by omega)
      simp only [gI h1 (hset 1 _ (by decide) f1), Option.bind_some, n1, if_true]
end Mark
