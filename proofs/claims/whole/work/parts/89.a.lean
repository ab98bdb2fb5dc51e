/-! PURE: words; what the class does with its tokens. -/
variable {stf : Nat → Nat} {N K b m : Nat} {β : sB} {δ : sD} {H : xH}
variable {t S E : Nat → Nat} {n J : Nat}
/-- the words kept, letters last to first -/
def kw : Nat → List Nat
  | 0 => [103, 110, 105, 104, 116]
  | 1 => [109, 111, 114, 102]
  | 2 => [108, 105, 116, 110, 117]
  | 3 => [114, 101, 98, 109, 101, 109]
  | 4 => [115, 114, 97, 98]
  | 5 => [115, 103, 110, 105, 114, 98]
  | 6 => [110, 105]
  | 7 => [116, 101, 98]
  | 8 => [111, 116]
  | 9 => [116, 97, 104, 116]
  | 10 => [102, 102, 111]
  | 11 => [101, 108, 98, 117, 111, 100]
  | 12 => [114, 111]
  | 13 => [100, 110, 97]
  | 14 => [116, 111, 110]
  | 15 => [115, 101, 109, 111, 99]
  | 16 => [121, 98]
  | 17 => [101, 114, 111, 102, 101, 98]
  | _ => [116, 115, 97, 101, 108]
theorem kw_ok : ∀ k, k < 19 → lets (kw k) ∧ (kw k).length ≤ 8 ∧ (kw k).length ≥ 2 := by
  intro k hk
  have h1 : ∀ k, k < 19 → (∀ x, x ∈ kw k → 97 ≤ x ∧ x ≤ 122) ∧ (kw k).length ≤ 8 ∧ (kw k).length ≥ 2 := by decide +kernel
  exact h1 k hk
theorem kw_5 : ∀ k, k < 19 → lN (w5 (kw k)) = xlet k := by decide +kernel
/-- token j's letters, if it's a word of at most 8; its sign; its number -/
def wd (t : Nat → Nat) (J : Nat) (S E : Nat → Nat) (j : Nat) : List Nat := if j < J ∧ kk (t (S j)) = 2 ∧ E j - S j ≤ 8 then wl t (S j) (E j - S j) else []
def sg (t : Nat → Nat) (J : Nat) (S : Nat → Nat) (j : Nat) : Nat := if j < J then kk (t (S j)) else 0
def isN (t : Nat → Nat) (J : Nat) (S E : Nat → Nat) (j lo hi : Nat) : Prop := j < J ∧ kk (t (S j)) = 3 ∧ E j - S j ≤ 3 ∧ lo ≤ dc t (S j) (E j - S j) ∧ dc t (S j) (E j - S j) ≤ hi
def nv (t S E : Nat → Nat) (j : Nat) : Nat := dc t (S j) (E j - S j)
theorem wd_ok (hT : tkS t n J S E) (j : Nat) : lets (wd t J S E j) ∧ (wd t J S E j).length ≤ 8 := by
  unfold wd
  split
  · rename_i h
    refine ⟨wl_lets (fun q q1 q2 => ?_), by rw [wl_len]; exact h.2.2⟩
    have h1 := hT.2.1 j h.1
    exact ((hT.2.2.2.2.2.1 j h.1 (Or.inl h.2.1)).1 q q1 (by omega)).trans h.2.1
  · exact ⟨fun x hx => by simp at hx, by simp⟩
/-- a word of at most 8 letters -/
def wdo (L : List Nat) : Prop := lets L ∧ L.length ≤ 8
theorem wdo_e5 {L M : List Nat} (hL : wdo L) (hM : wdo M) : lN (w5 L) = lN (w5 M) ↔ L = M := ⟨fun h => w5_inj hL.1 hM.1 ((lN_e6 (by have := w5_63 hL.1 hL.2; omega) (by have := w5_63 hM.1 hM.2; omega)).mp h), fun h => by rw [h]⟩
theorem wdo_e8 {L M : List Nat} (hL : wdo L) (hM : wdo M) : lN (w8 L) = lN (w8 M) ↔ L = M := ⟨fun h => w8_inj hL.1 hM.1 ((lN_e6 (by have := w8_63 hL.1 hL.2; omega) (by have := w8_63 hM.1 hM.2; omega)).mp h), fun h => by rw [h]⟩
theorem wdo_0 : wdo [] := ⟨fun x hx => by simp at hx, by simp⟩
theorem kw_w {k : Nat} (hk : k < 19) : wdo (kw k) := ⟨(kw_ok k hk).1, (kw_ok k hk).2.1⟩
/-- what's named here is used -/
def tkH (b : Nat) (j : Nat) (H : xH) : xH := xup H (b + 2) (ob 8 [va_rf (some (b + 3)), va_rf (some (b + 4)), va_rf (some (b + 5)), .int (nI j)])
theorem tkH_id {gk gs : Nat → Int32} {gv : Nat → Int64} {j : Nat} (h : cT0 b gk gs gv (nI j) H) : tkH b j H = H := xup_id h.1
theorem tkH_c {j i : Nat} (h : cTk t J S E b (nI j) H) : cTk t J S E b (nI i) (tkH b i H) := by
  obtain ⟨gk, gs, gv, ⟨h1, h2, h3, h4⟩, h5, h6⟩ := h
  exact ⟨gk, gs, gv, ⟨xup_at _, (xup_ne _ (by omega)).trans h2, (xup_ne _ (by omega)).trans h3, (xup_ne _ (by omega)).trans h4⟩, h5, h6⟩
/-- what's read at the next token -/
theorem cTk.r (hT : tkS t n J S E) (hn : n ≤ 1200) (h6 : ∀ q, t q < 256) {j : Nat} (h : cTk t J S E b (nI j) H) (hj : j ≤ J) :
    xgA H (some (b + 2)) 8 0 = some (some (b + 3)) ∧ xgA H (some (b + 2)) 8 1 = some (some (b + 4)) ∧ xgA H (some (b + 2)) 8 2 = some (some (b + 5)) ∧ xgI H (some (b + 2)) 8 3 = some (nI j) ∧ F_X11_at N (some (b + 3)) (nI j) H = some (nI (sg t J S j), H) ∧ F_X11_at N (some (b + 4)) (nI j) H = some (nI (S j), H) ∧ (∃ x, F_X11_at_ N (some (b + 5)) (nI j) H = some (x, H) ∧ (j < J → x = tv5 t (S j) (E j))) ∧ (∀ i, xpI H (some (b + 2)) 8 3 (nI i) = some (tkH b i H)) ∧ xob H (some (b + 2)) 8 = some (b + 2) ∧ J ≤ 1200 := by
  obtain ⟨gk, gs, gv, ⟨h1, h2, h3, h4⟩, h5, h7⟩ := h
  have hJ : J ≤ 1200 := by have := hT.le (Nat.zero_le J); omega
  obtain ⟨a1, a2⟩ := h5 j hj
  refine ⟨gA h1 rfl, gA h1 rfl, gA h1 rfl, gI h1 rfl, ?_, ?_, ⟨gv j, ?_, fun q => h7 j q⟩, fun i => pV h1 (by simp), obx h1, hJ⟩
  · rw [S_at h2 (by decide), gat_nI (by omega), if_pos (by omega), a1]; rfl
  · rw [S_at h3 (by decide), gat_nI (by omega), if_pos (by omega), a2]
  · unfold F_X11_at_
    simp only [nI_pos (show j < 2 ^ 31 by omega), if_false, leJ h4, nI_ge (show j < 1201 by omega) (by decide), rdJ h4 (show j < 1201 by omega) (by decide), reduceCtorEq, Option.bind_some, bd2_s]
theorem sg_lt (h6 : ∀ q, t q < 256) (j : Nat) : sg t J S j < 60 := by
  unfold sg
  split
  · exact kk_lt (h6 _)
  · omega
theorem sg_e (h6 : ∀ q, t q < 256) (j : Nat) {k : Nat} (hk : k < 2 ^ 31) : nI (sg t J S j) = nI k ↔ sg t J S j = k := nI_eq (by have := sg_lt (S := S) (J := J) h6 j; omega) hk
/-- the letters of the next token, as the class has them -/
theorem wd_5 {j : Nat} (h : sg t J S j = 2) : tv5 t (S j) (E j) = lN (w5 (wd t J S E j)) ∧ j < J := by
  unfold sg at h
  split at h
  · rename_i hj
    refine ⟨?_, hj⟩
    unfold tv5 wd
    rw [if_pos h]
    by_cases h8 : E j - S j ≤ 8
    · rw [if_pos h8, if_pos ⟨hj, h, h8⟩]
    · rw [if_neg h8, if_neg (fun z => h8 z.2.2)]; rfl
  · omega
theorem wd_n {j : Nat} (h : sg t J S j ≠ 2) : wd t J S E j = [] := by
  unfold wd
  rw [if_neg]
  rintro ⟨a, c, -⟩
  exact h (by unfold sg; rw [if_pos a]; exact c)
theorem xgw_k {stf : Nat → Nat} (h : xWd b stf H) {k : Nat} (hk : k < 19) : xgW H (some (stf k)) = some (xlet k) := by
  obtain ⟨⟨h1, h2⟩, h3, h4⟩ := h
  have e := h4 (stf k) (h2 k (by omega))
  have e2 : xh0 stf (stf k) = some (false, .inr (99, [.long (xlet k)])) := by
    unfold xh0
    rw [if_neg (fun z => by have := h1 k 19 (by omega) (by omega) z; omega)]
    have : (List.range 19).find? (fun i => decide (stf k = stf i)) = some k := by
      rw [List.find?_range_eq_some]
      refine ⟨by simp, by simpa using hk, fun j hj => ?_⟩
      simp only [Bool.not_eq_true', decide_eq_false_iff_not]
      exact fun z => by have := h1 k j (by omega) (by omega) z; omega
    rw [this]
  have e3 := e.trans e2
  simp only [xgW, e3]
section
theorem C_take (hT : tkS t n J S E) (hn : n ≤ 1200) (h6 : ∀ q, t q < 256) {j k : Nat} (h : cTk t J S E b (nI j) H) (hj : j ≤ J) (hk : k < 19) (hw : xgW H (some (stf k)) = some (xlet k)) : F_X8_take N (some (b + 2)) (some (stf k)) H = if wd t J S E j = kw k then some (1, tkH b (j + 1) H) else some (0, H) := by
  obtain ⟨r0, r1, r2, r3, ra, rs, ⟨x, rv, rv'⟩, rp, ro, hJ⟩ := h.r (N := N) hT hn h6 hj
  have hid : tkH b j H = H := by obtain ⟨gk, gs, gv, h0, -⟩ := h; exact tkH_id h0
  unfold F_X8_take
  simp only [r0, r3, ra, Option.bind_some, bd2_s]
  by_cases e : sg t J S j = 2
  · obtain ⟨e1, e2⟩ := wd_5 (E := E) e
    rw [if_pos (show nI (sg t J S j) = 2 by rw [e]; rfl)]
    simp only [r2, r3, rv, hw, F_X8_take_J39, F_X8_take_J38, F_X8_take_J54, Option.bind_some, bd2_s]
    rw [rv' e2, e1, ← kw_5 k hk]
    by_cases e3 : wd t J S E j = kw k
    · rw [if_pos (lgc.mpr ((wdo_e5 (wd_ok hT j) (kw_w hk)).mpr e3)), if_pos e3]
      simp only [show ¬ (1 : Int32) = 0 by decide, if_false, nI_1, rp, or_true, if_true, Option.bind_some, bd2_s]
    · rw [if_neg (fun z => e3 ((wdo_e5 (wd_ok hT j) (kw_w hk)).mp (lgc.mp z))), if_neg e3]
      simp only [if_true, Int32.add_zero, rp, hid, true_or, Option.bind_some, bd2_s]
  · rw [if_neg (show ¬ nI (sg t J S j) = (2 : Int32) from fun z => e ((sg_e h6 j (k := 2) (by decide)).mp z)), if_neg (fun z => by have := (kw_ok k hk).2.2; rw [← z, wd_n e] at this; simp at this)]
    simp only [F_X8_take_J38, F_X8_take_J39, F_X8_take_J54, r3, if_true, Int32.add_zero, rp, hid, true_or, Option.bind_some, bd2_s]
theorem C_sign (hT : tkS t n J S E) (hn : n ≤ 1200) (h6 : ∀ q, t q < 256) {j s : Nat} (h : cTk t J S E b (nI j) H) (hj : j ≤ J) (hs : s < 2 ^ 31) : F_X8_take_ N (some (b + 2)) (nI s) H = if sg t J S j = s then some (1, tkH b (j + 1) H) else some (0, H) := by
  obtain ⟨r0, r1, r2, r3, ra, rs, ⟨x, rv, rv'⟩, rp, ro, hJ⟩ := h.r (N := N) hT hn h6 hj
  have hid : tkH b j H = H := by obtain ⟨gk, gs, gv, h0, -⟩ := h; exact tkH_id h0
  unfold F_X8_take_
  simp only [r0, r3, ra, F_X8_take__J20, F_X8_take__J35, Option.bind_some, bd2_s]
  by_cases e : sg t J S j = s
  · rw [if_pos (by rw [e]), if_pos e]
    simp only [show ¬ (1 : Int32) = 0 by decide, if_false, nI_1, rp, or_true, if_true, Option.bind_some, bd2_s]
  · rw [if_neg (fun z => e ((sg_e h6 j hs).mp z)), if_neg e]
    simp only [if_true, Int32.add_zero, rp, hid, true_or, Option.bind_some, bd2_s]
theorem C_isW (hT : tkS t n J S E) (hn : n ≤ 1200) (h6 : ∀ q, t q < 256) {j k : Nat} (h : cTk t J S E b (nI j) H) (hj : j ≤ J) (hk : k < 19) (hw : xgW H (some (stf k)) = some (xlet k)) : F_X8_isNext N (some (b + 2)) (some (stf k)) H = if wd t J S E j = kw k then some (1, H) else some (0, H) := by
  obtain ⟨r0, r1, r2, r3, ra, rs, ⟨x, rv, rv'⟩, rp, ro, hJ⟩ := h.r (N := N) hT hn h6 hj
  unfold F_X8_isNext
  simp only [r0, r3, ra, Option.bind_some, bd2_s]
  by_cases e : sg t J S j = 2
  · obtain ⟨e1, e2⟩ := wd_5 (E := E) e
    rw [if_pos (show nI (sg t J S j) = 2 by rw [e]; rfl)]
    simp only [r2, r3, rv, hw, Option.bind_some, bd2_s]
    rw [rv' e2, e1, ← kw_5 k hk]
    by_cases e3 : wd t J S E j = kw k
    · rw [if_pos (lgc.mpr ((wdo_e5 (wd_ok hT j) (kw_w hk)).mpr e3)), if_pos e3]
    · rw [if_neg (fun z => e3 ((wdo_e5 (wd_ok hT j) (kw_w hk)).mp (lgc.mp z))), if_neg e3]
  · rw [if_neg (show ¬ nI (sg t J S j) = (2 : Int32) from fun z => e ((sg_e h6 j (k := 2) (by decide)).mp z)), if_neg (fun z => by have := (kw_ok k hk).2.2; rw [← z, wd_n e] at this; simp at this)]
theorem C_isS (hT : tkS t n J S E) (hn : n ≤ 1200) (h6 : ∀ q, t q < 256) {j s : Nat} (h : cTk t J S E b (nI j) H) (hj : j ≤ J) (hs : s < 2 ^ 31) : F_X8_isNext_ N (some (b + 2)) (nI s) H = if sg t J S j = s then some (1, H) else some (0, H) := by
  obtain ⟨r0, r1, r2, r3, ra, rs, ⟨x, rv, rv'⟩, rp, ro, hJ⟩ := h.r (N := N) hT hn h6 hj
  unfold F_X8_isNext_
  simp only [r0, r3, ra, Option.bind_some, bd2_s]
  by_cases e : sg t J S j = s
  · rw [if_pos (by rw [e]), if_pos e]
  · rw [if_neg (fun z => e ((sg_e h6 j hs).mp z)), if_neg e]
theorem C_end (hT : tkS t n J S E) (hn : n ≤ 1200) (h6 : ∀ q, t q < 256) {j : Nat} (h : cTk t J S E b (nI j) H) (hj : j ≤ J) : F_X8_atEnd N (some (b + 2)) H = if j = J then some (1, H) else some (0, H) := by
  obtain ⟨r0, r1, r2, r3, ra, rs, ⟨x, rv, rv'⟩, rp, ro, hJ⟩ := h.r (N := N) hT hn h6 hj
  unfold F_X8_atEnd
  simp only [r0, r3, ra, Option.bind_some, bd2_s]
  by_cases e : j = J
  · rw [if_pos (show nI (sg t J S j) = 0 by unfold sg; rw [if_neg (by omega)]; rfl), if_pos e]
  · rw [if_neg (fun z => by
      have := (sg_e (S := S) (J := J) h6 j (k := 0) (by decide)).mp z
      unfold sg at this
      rw [if_pos (by omega)] at this
      have := kk_pos (h6 (S j))
      omega), if_neg e]
theorem C_next (hT : tkS t n J S E) (hn : n ≤ 1200) (h6 : ∀ q, t q < 256) {j : Nat} (h : cTk t J S E b (nI j) H) (hj : j ≤ J) : F_X8_nextStart N (some (b + 2)) H = some (nI (S j), H) := by
  obtain ⟨r0, r1, r2, r3, ra, rs, ⟨x, rv, rv'⟩, rp, ro, hJ⟩ := h.r (N := N) hT hn h6 hj
  unfold F_X8_nextStart
  simp only [r1, r3, rs, Option.bind_some, bd2_s]
theorem C_skip (hT : tkS t n J S E) (hn : n ≤ 1200) (h6 : ∀ q, t q < 256) {j : Nat} (h : cTk t J S E b (nI j) H) (hj : j ≤ J) : F_X8_skip N (some (b + 2)) H = some (tkH b (j + 1) H) := by
  obtain ⟨r0, r1, r2, r3, ra, rs, ⟨x, rv, rv'⟩, rp, ro, hJ⟩ := h.r (N := N) hT hn h6 hj
  unfold F_X8_skip
  simp only [r3, nI_1, rp, Option.bind_some, bd2_s]
end
