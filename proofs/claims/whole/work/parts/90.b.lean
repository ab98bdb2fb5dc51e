/-! PURE: how the reference takes words, signs, numbers, names. -/
variable {stf : Nat → Nat} {N K b m : Nat} {β : sB} {δ : sD} {H : xH}
variable {t S E : Nat → Nat} {n J : Nat}
def ex4 (v v' : Nat → Int32) : Prop := ∀ i, i ≠ 33 → i ≠ 38 → i ≠ 39 → i ≠ 40 → v' i = v i
theorem ex4.rf {v : Nat → Int32} : ex4 v v := fun _ _ _ _ _ => rfl
theorem ex4.tr {v v' v'' : Nat → Int32} (h : ex4 v v') (k : ex4 v' v'') : ex4 v v'' := fun i h1 h2 h3 h4 => (k i h1 h2 h3 h4).trans (h i h1 h2 h3 h4)
theorem ex4.u {v : Nat → Int32} {k : Nat} {x : Int32} (hk : k = 33 ∨ k = 38 ∨ k = 39 ∨ k = 40) : ex4 v (upd v k x) := fun i h1 h2 h3 h4 => pk_un (by omega)
/-- it reads between token j - 1 and token j -/
def mP (t : Nat → Nat) (n : Nat) (S : Nat → Nat) (j m : Nat) (v : Nat → Int32) (H : xH) : Prop := H.1 m = some (mo m v) ∧ mTx t n m H ∧ v 32 = nI n ∧ ∃ p, v 33 = nI p ∧ gp t S p j
theorem mP.mk {v : Nat → Int32} {p j : Nat} (hx : mTx t n m H) (h32 : v 32 = nI n) (h33 : v 33 = nI p) (hp : gp t S p j) : mP t n S j m v (mu m v H) := ⟨mu_at, hx.mu, h32, p, h33, hp⟩
theorem gp_s {j : Nat} : gp t S (S j) j := ⟨Nat.le_refl _, fun q q1 q2 => by omega⟩
section
theorem gp_e (hT : tkS t n J S E) (hn : n ≤ 1200) (h6 : ∀ q, t q < 256) (hN : 1200 < N) {j : Nat} (hj : j < J) : gp t S (E j) (j + 1) := ⟨(hT.2.1 j hj).2, hT.2.2.2.2.1 j hj⟩
theorem wd_j (hT : tkS t n J S E) (hn : n ≤ 1200) (h6 : ∀ q, t q < 256) (hN : 1200 < N) {j : Nat} (h : wd t J S E j ≠ []) : j < J ∧ kk (t (S j)) = 2 ∧ we t J S E j = E j := by
  unfold wd at h
  split at h
  · rename_i q
    exact ⟨q.1, q.2.1, by unfold we; rw [if_pos ⟨q.1, q.2.1⟩]⟩
  · exact absurd rfl h
theorem M_takes (hT : tkS t n J S E) (hn : n ≤ 1200) (h6 : ∀ q, t q < 256) (hN : 1200 < N) {v : Nat → Int32} {j k : Nat} {c : Int64} (h : mP t n S j m v H) (hj : j ≤ J) (hk : k < 19) (hc : c = lN (w8 (kw k))) :
    (wd t J S E j = kw k → ∃ v', F_X12_takes N (some m) c H = some (1, mu m v' H) ∧ ex4 v v' ∧ v' 39 = v 39 ∧ v' 40 = v 40 ∧ mP t n S (j + 1) m v' (mu m v' H)) ∧ (wd t J S E j ≠ kw k → ∃ v', F_X12_takes N (some m) c H = some (0, mu m v' H) ∧ ex4 v v' ∧ v' 39 = v 39 ∧ v' 40 = v 40 ∧ v' 33 = nI (S j) ∧ mP t n S j m v' (mu m v' H)) := by
  obtain ⟨h0, hx, h32, p, h33, hp⟩ := h
  have w := M_word hT hn h6 hN hx hj hp h0 h32 h33
  have k2 := (kw_ok k hk).2.2
  generalize hv : upd (upd v 33 (nI (S j))) 38 (nI (we t J S E j)) = v1 at *
  have e1 : ex4 v v1 := by rw [← hv]; exact (ex4.u (by simp)).tr (ex4.u (by simp))
  have e32 : v1 32 = nI n := (e1 32 (by decide) (by decide) (by decide) (by decide)).trans h32
  have e39 : v1 39 = v 39 := by rw [← hv, pk_un (by decide), pk_un (by decide)]
  have e40 : v1 40 = v 40 := by rw [← hv, pk_un (by decide), pk_un (by decide)]
  have e33 : v1 33 = nI (S j) := by rw [← hv, pk_un (by decide), pk_us]
  have e38 : v1 38 = nI (we t J S E j) := by rw [← hv, pk_us]
  have st : xpI (mu m v1 H) (some m) 11 33 (nI (we t J S E j)) = some (mu m (upd v1 33 (nI (we t J S E j))) H) := mu_p (by decide) ms33
  refine ⟨fun e => ?_, fun e => ?_⟩
  · obtain ⟨j1, j2, j3⟩ := wd_j hT hn h6 hN (j := j) (by intro z; rw [← e, z] at k2; simp at k2)
    rw [j3] at e38 st
    refine ⟨upd v1 33 (nI (E j)), ?_, e1.tr (ex4.u (by simp)), by rw [pk_un (by decide)]; exact e39, by rw [pk_un (by decide)]; exact e40, mP.mk hx (by rw [pk_un (by decide)]; exact e32) (by rw [pk_us]) (gp_e hT hn h6 hN j1)⟩
    unfold F_X12_takes
    simp only [obx h0, w, lgc, hc, e, if_true, gI mu_at mi38, e38, st, Option.bind_some, bd2_s]
  · refine ⟨v1, ?_, e1, e39, e40, e33, mP.mk hx e32 e33 gp_s⟩
    unfold F_X12_takes
    simp only [obx h0, w, lgc, hc, wdo_e8 (wd_ok hT j) (kw_w hk), if_neg e, Option.bind_some, bd2_s]
theorem M_sign (hT : tkS t n J S E) (hn : n ≤ 1200) (h6 : ∀ q, t q < 256) (hN : 1200 < N) {v : Nat → Int32} {j s : Nat} (h : mP t n S j m v H) (hj : j ≤ J) (hs : s = 40 ∨ s = 41 ∨ s = 59) :
    (sg t J S j = s → ∃ v', F_X12_takesSign N (some m) (nI s) H = some (1, mu m v' H) ∧ ex4 v v' ∧ mP t n S (j + 1) m v' (mu m v' H)) ∧ (sg t J S j ≠ s → ∃ v', F_X12_takesSign N (some m) (nI s) H = some (0, mu m v' H) ∧ ex4 v v' ∧ v' 33 = nI (S j) ∧ mP t n S j m v' (mu m v' H)) := by
  obtain ⟨h0, hx, h32, p, h33, hp⟩ := h
  have w := M_blanks hT hn h6 hN hx hj hp h0 h32 h33
  have hS : S j ≤ n := by have := hT.le hj; omega
  have st : xpI (mu m (upd v 33 (nI (S j))) H) (some m) 11 33 (nI (S j + 1)) = some (mu m (upd v 33 (nI (S j + 1))) H) := by rw [mu_p (by decide) ms33, updd]
  obtain ⟨g, hg, hgt⟩ := id hx
  have hg' : (mu m (upd v 33 (nI (S j))) H).1 (m + 21) = some (aB 1200 g) := (mu_ne (by omega)).trans hg
  have ejn : S j = n ↔ ¬ j < J := by
    refine ⟨fun z q => ?_, fun z => by rw [show j = J by omega]; exact hT.1⟩
    have := hT.2.1 j q; have := hT.ele q; omega
  refine ⟨fun e => ?_, fun e => ?_⟩
  · have hjJ : j < J := by
      rcases Nat.lt_or_ge j J with q | q
      · exact q
      · unfold sg at e; rw [if_neg (by omega)] at e; omega
    have hk : kk (t (S j)) = s := by unfold sg at e; rwa [if_pos hjJ] at e
    have hlt : S j < n := by have := hT.2.1 j hjJ; have := hT.ele hjJ; omega
    have eE : E j = S j + 1 := hT.2.2.2.2.2.2 j hjJ (by omega)
    refine ⟨upd v 33 (nI (S j + 1)), ?_, ex4.u (by simp), mP.mk hx (by rw [pk_un (by decide)]; exact h32) (by rw [pk_us]) (by rw [← eE]; exact gp_e hT hn h6 hN hjJ)⟩
    unfold F_X12_takesSign
    simp only [obx h0, w, gI mu_at mi33, gI mu_at mi32, pk_us, pk_un (show (32 : Nat) ≠ 33 by decide), h32, nI_eq (show S j < 2 ^ 31 by omega) (show n < 2 ^ 31 by omega), show ¬ S j = n by omega, if_false, gA mu_at ma37, rdI hg' (show S j < 1200 by omega) (by decide), hgt _ hlt, (sb_g (h6 (S j)) hs).mp hk, if_true, nI_1, st, Option.bind_some, bd2_s]
  · refine ⟨upd v 33 (nI (S j)), ?_, ex4.u (by simp), pk_us, mP.mk hx (by rw [pk_un (by decide)]; exact h32) pk_us gp_s⟩
    unfold F_X12_takesSign
    simp only [obx h0, w, gI mu_at mi33, gI mu_at mi32, pk_us, pk_un (show (32 : Nat) ≠ 33 by decide), h32, nI_eq (show S j < 2 ^ 31 by omega) (show n < 2 ^ 31 by omega), gA mu_at ma37, Option.bind_some, bd2_s]
    by_cases z : S j = n
    · rw [if_pos z]
    · have hlt : S j < n := by omega
      have hjJ : j < J := Classical.not_not.mp (fun q => z (ejn.mpr q))
      have hk : kk (t (S j)) ≠ s := by unfold sg at e; rwa [if_pos hjJ] at e
      rw [if_neg z]
      simp only [rdI hg' (show S j < 1200 by omega) (by decide), hgt _ hlt, if_neg (fun q => hk ((sb_g (h6 (S j)) hs).mpr q)), Option.bind_some, bd2_s]
def ne (t : Nat → Nat) (J : Nat) (S E : Nat → Nat) (j : Nat) : Nat := if j < J ∧ kk (t (S j)) = 3 then E j else S j
theorem ne_le (hT : tkS t n J S E) (hn : n ≤ 1200) (h6 : ∀ q, t q < 256) (hN : 1200 < N) {j : Nat} (hj : j ≤ J) : S j ≤ ne t J S E j ∧ ne t J S E j ≤ n ∧ (∀ q, S j ≤ q → q < ne t J S E j → kk (t q) = 3) ∧ (ne t J S E j = n ∨ (ne t J S E j < n ∧ kk (t (ne t J S E j)) ≠ 3)) := by
  have hS : S j ≤ n := by have := hT.le hj; omega
  by_cases h : j < J ∧ kk (t (S j)) = 3
  · have e : ne t J S E j = E j := by unfold ne; rw [if_pos h]
    rw [e]
    have a1 := hT.2.1 j h.1
    have a2 := hT.ele h.1
    obtain ⟨a3, a4⟩ := hT.2.2.2.2.2.1 j h.1 (Or.inr h.2)
    refine ⟨by omega, a2, fun q q1 q2 => (a3 q q1 q2).trans h.2, ?_⟩
    rcases a4 with q | q
    · exact Or.inl q
    · rcases Nat.lt_or_ge (E j) n with z | z
      · right; exact ⟨z, by rw [h.2] at q; exact q⟩
      · left; omega
  · have e : ne t J S E j = S j := by unfold ne; rw [if_neg h]
    rw [e]
    refine ⟨Nat.le_refl _, hS, fun q q1 q2 => by omega, ?_⟩
    rcases Nat.lt_or_ge (S j) n with z | z
    · right
      refine ⟨z, fun z2 => h ⟨?_, z2⟩⟩
      rcases Nat.lt_or_ge j J with q | q
      · exact q
      · exfalso; rw [show j = J by omega, hT.1] at z; omega
    · left; omega
theorem dc_3 (hT : tkS t n J S E) (hn : n ≤ 1200) (h6 : ∀ q, t q < 256) (hN : 1200 < N) {s l : Nat} (h : ∀ q, s ≤ q → q < s + l → kk (t q) = 3) (hl : l ≤ 3) : dc t s l < 1000 := by
  have h1 := dc_lt (t := t) (s := s) (l := l) h
  have : 10 ^ l ≤ 10 ^ 3 := Nat.pow_le_pow_right (by decide) hl
  omega
theorem M_num (hT : tkS t n J S E) (hn : n ≤ 1200) (h6 : ∀ q, t q < 256) (hN : 1200 < N) {v : Nat → Int32} {j lo hi : Nat} (h : mP t n S j m v H) (hj : j ≤ J) (hlo : lo < 1000) (hhi : hi < 1000) :
    (isN t J S E j lo hi → ∃ v', F_X12_takesNumber N (some m) (nI lo) (nI hi) H = some (1, mu m v' H) ∧ ex4 v v' ∧ v' 39 = nI (nv t S E j) ∧ mP t n S (j + 1) m v' (mu m v' H)) ∧ (¬ isN t J S E j lo hi → ∃ v', F_X12_takesNumber N (some m) (nI lo) (nI hi) H = some (0, mu m v' H) ∧ ex4 v v' ∧ v' 33 = nI (S j) ∧ mP t n S j m v' (mu m v' H)) := by
  obtain ⟨h0, hx, h32, p, h33, hp⟩ := h
  have hb := M_blanks hT hn h6 hN hx hj hp h0 h32 h33
  have hS : S j ≤ n := by have := hT.le hj; omega
  obtain ⟨w1, w2, w4, w3⟩ := ne_le hT hn h6 hN hj
  obtain ⟨g, hg, hgt⟩ := id hx
  generalize hv1 : upd v 33 (nI (S j)) = v1 at *
  have ex1 : ex4 v v1 := by rw [← hv1]; exact ex4.u (by simp)
  have b33 : ∀ x, upd v1 39 x 33 = nI (S j) := fun x => by rw [pk_un (by decide), ← hv1, pk_us]
  have b32 : ∀ x, upd v1 39 x 32 = nI n := fun x => by rw [pk_un (by decide)]; exact (ex1 32 (by decide) (by decide) (by decide) (by decide)).trans h32
  generalize hw : ne t J S E j = w at *
  have loop : ∀ k q, q ≤ w → w - q < k → S j ≤ q → F_X12_takesNumber_L14 N (F_X12_takesNumber_J81 N) k (some m) (nI lo) (nI hi) (nI q) (mu m (upd v1 39 (nI (dc t (S j) (if q - S j ≤ 3 then q - S j else 3)))) H) = F_X12_takesNumber_J81 N (some m) (nI lo) (nI hi) (nI w) (mu m (upd v1 39 (nI (dc t (S j) (if w - S j ≤ 3 then w - S j else 3)))) H) := by
    refine upto (P := fun k q => S j ≤ q → F_X12_takesNumber_L14 N (F_X12_takesNumber_J81 N) k (some m) (nI lo) (nI hi) (nI q) (mu m (upd v1 39 (nI (dc t (S j) (if q - S j ≤ 3 then q - S j else 3)))) H) = F_X12_takesNumber_J81 N (some m) (nI lo) (nI hi) (nI w) (mu m (upd v1 39 (nI (dc t (S j) (if w - S j ≤ 3 then w - S j else 3)))) H)) ?_ ?_
    · intro k _
      rw [show F_X12_takesNumber_L14 N (F_X12_takesNumber_J81 N) (k + 1) = F_X12_takesNumber_J14 N (F_X12_takesNumber_L14 N (F_X12_takesNumber_J81 N) k) (F_X12_takesNumber_J81 N) from rfl]
      generalize nI (dc t (S j) (if w - S j ≤ 3 then w - S j else 3)) = dd
      have hg' : (mu m (upd v1 39 dd) H).1 (m + 21) = some (aB 1200 g) := (mu_ne (by omega)).trans hg
      simp only [F_X12_takesNumber_J14, gI mu_at mi32, b32, gA mu_at ma37, Option.bind_some, bd2_s]
      rcases w3 with e | ⟨e, e2⟩
      · rw [if_pos (by rw [e]; exact Int32.le_refl _)]
      · rw [if_neg (nI_ge e (by omega))]
        simp only [rdI hg' (show w < 1200 by omega) (by decide), hgt _ e, Option.bind_some, bd2_s]
        have k2 := (not_congr (sb_3 (h6 w))).mp e2
        by_cases z : sb (t w) < 48
        · rw [if_pos z]
        · rw [if_neg z, if_pos (Classical.not_not.mp (fun y => k2 ⟨z, y⟩))]
    · intro k q hq ih hq1
      rw [show F_X12_takesNumber_L14 N (F_X12_takesNumber_J81 N) (k + 1) = F_X12_takesNumber_J14 N (F_X12_takesNumber_L14 N (F_X12_takesNumber_J81 N) k) (F_X12_takesNumber_J81 N) from rfl]
      have k2 := w4 q hq1 hq
      obtain ⟨z1, z2⟩ := (sb_3 (h6 q)).mp k2
      obtain ⟨y1, y2⟩ := kk_3 k2
      have ih' := ih (by omega)
      rw [← ih']
      generalize hdd : nI (dc t (S j) (if q - S j ≤ 3 then q - S j else 3)) = dd
      have hg' : (mu m (upd v1 39 dd) H).1 (m + 21) = some (aB 1200 g) := (mu_ne (by omega)).trans hg
      simp only [F_X12_takesNumber_J14, F_X12_takesNumber_J75, gI mu_at mi33, gI mu_at mi32, gI mu_at mi39, pk_us, b32, b33, gA mu_at ma37, nI_ge (show q < n by omega) (show n < 2 ^ 31 by omega), if_false, rdI hg' (show q < 1200 by omega) (by decide), hgt q (by omega), z1, z2, pk_sub hq1, nI_1, Option.bind_some, bd2_s]
      by_cases h8 : q + 1 - S j ≤ 3
      · rw [if_neg (show ¬ (3 : Int32) ≤ nI (q - S j) from nI_ge (b := 3) (by omega) (by decide)), if_pos h8]
        have ee : ((10 : Int32) * dd + sb (t q)) - 48 = nI (dc t (S j) (q + 1 - S j)) := by
          rw [← hdd, if_pos (by omega), sb_n (by omega), show (10 : Int32) = nI 10 from rfl, pk_mul, nI_add, show (48 : Int32) = nI 48 from rfl, pk_sub (by omega), show q + 1 - S j = (q - S j) + 1 by omega]
          show _ = nI (10 * dc t (S j) (q - S j) + (t (S j + (q - S j)) - 48))
          rw [show S j + (q - S j) = q by omega]
          congr 1
          omega
        rw [ee, mu_p (by decide) ms39, updd]
        rfl
      · rw [if_pos (show (3 : Int32) ≤ nI (q - S j) from nI_le (a := 3) (by omega) (by omega)), if_neg h8, ← hdd]
        congr 4
        by_cases h9 : q - S j ≤ 3
        · rw [if_pos h9, show q - S j = 3 by omega]
        · rw [if_neg h9]
  have hpre : F_X12_takesNumber N (some m) (nI lo) (nI hi) H = F_X12_takesNumber_J81 N (some m) (nI lo) (nI hi) (nI w) (mu m (upd v1 39 (nI (dc t (S j) (if w - S j ≤ 3 then w - S j else 3)))) H) := by
    have l0 := loop N (S j) w1 (by omega) (Nat.le_refl _)
    rw [Nat.sub_self, if_pos (by omega)] at l0
    rw [← l0]
    have st0 : xpI (mu m v1 H) (some m) 11 39 (0 : Int32) = some (mu m (upd v1 39 (nI 0)) H) := mu_p (by decide) ms39
    unfold F_X12_takesNumber
    simp only [obx h0, hb, gI mu_at mi33, show v1 33 = nI (S j) by rw [← hv1, pk_us], st0, Option.bind_some, bd2_s]
    rfl
  rw [hpre]
  generalize hdd : nI (dc t (S j) (if w - S j ≤ 3 then w - S j else 3)) = dd
  have ex2 : ex4 v (upd v1 39 dd) := ex1.tr (ex4.u (by simp))
  refine ⟨fun e => ?_, fun e => ?_⟩
  · obtain ⟨e1, e2, e3, e4, e5⟩ := e
    have ew : w = E j := by rw [← hw]; unfold ne; rw [if_pos ⟨e1, e2⟩]
    have hE := hT.2.1 j e1
    rw [if_pos (by omega), ew] at hdd
    have hd3 := dc_3 hT hn h6 hN (s := S j) (l := E j - S j) (fun q q1 q2 => w4 q q1 (by omega)) e3
    refine ⟨upd (upd v1 39 dd) 33 (nI (E j)), ?_, ex2.tr (ex4.u (by simp)), by rw [pk_un (by decide), pk_us, ← hdd]; rfl, mP.mk hx (by rw [pk_un (by decide)]; exact b32 _) pk_us (gp_e hT hn h6 hN e1)⟩
    have st : xpI (mu m (upd v1 39 dd) H) (some m) 11 33 (nI (E j)) = some (mu m (upd (upd v1 39 dd) 33 (nI (E j))) H) := mu_p (by decide) ms33
    have isin : F_X12_isIn N dd (nI lo) (nI hi) (mu m (upd v1 39 dd) H) = some (1, mu m (upd v1 39 dd) H) := by
      rw [S_in, bI_t]
      rw [← hdd]
      exact ⟨nI_nlt e4 (by omega), nI_nlt e5 (by omega)⟩
    simp only [F_X12_takesNumber_J81, gI mu_at mi33, gI mu_at mi39, b33, pk_us, ew, nI_eq (show E j < 2 ^ 31 by omega) (show S j < 2 ^ 31 by omega), show ¬ E j = S j by omega, if_false, pk_sub (show S j ≤ E j by omega), show ¬ (3 : Int32) < nI (E j - S j) from nI_nlt (b := E j - S j) (a := 3) e3 (by decide), isin, show ¬ (1 : Int32) = 0 by decide, st, Option.bind_some, bd2_s]
  · refine ⟨upd v1 39 dd, ?_, ex2, b33 _, mP.mk hx (b32 _) (b33 _) gp_s⟩
    simp only [F_X12_takesNumber_J81, gI mu_at mi33, gI mu_at mi39, b33, pk_us, nI_eq (show w < 2 ^ 31 by omega) (show S j < 2 ^ 31 by omega), pk_sub w1, Option.bind_some, bd2_s]
    by_cases z : w = S j
    · rw [if_pos z]
    · rw [if_neg z]
      by_cases z3 : w - S j ≤ 3
      · rw [if_neg (show ¬ (3 : Int32) < nI (w - S j) from nI_nlt (b := w - S j) (a := 3) z3 (by decide))]
        rw [if_pos z3] at hdd
        have hd3 := dc_3 hT hn h6 hN (s := S j) (l := w - S j) (fun q q1 q2 => w4 q q1 (by omega)) z3
        have hc : j < J ∧ kk (t (S j)) = 3 := Classical.not_not.mp (fun q => z (by rw [← hw]; unfold ne; rw [if_neg q]))
        have ew : w = E j := by rw [← hw]; unfold ne; rw [if_pos hc]
        have isin : F_X12_isIn N dd (nI lo) (nI hi) (mu m (upd v1 39 dd) H) = some (0, mu m (upd v1 39 dd) H) := by
          rw [S_in, bI_f]
          rw [← hdd]
          rintro ⟨a1, a2⟩
          rw [nI_ltI (by omega) (by omega)] at a1
          rw [nI_ltI (by omega) (by omega)] at a2
          exact e ⟨hc.1, hc.2, by omega, by rw [← ew]; omega, by rw [← ew]; omega⟩
        simp only [isin, if_true, Option.bind_some, bd2_s]
      · rw [if_pos (show (3 : Int32) < nI (w - S j) from nI_lt (a := 3) (by omega) (by omega))]
end
