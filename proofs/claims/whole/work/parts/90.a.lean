/-! PURE: how the reference reads. -/
variable {stf : Nat → Nat} {N K b m : Nat} {β : sB} {δ : sD} {H : xH}
variable {t S E : Nat → Nat} {n J : Nat}
theorem shl8 {a x : Nat} (ha : a < 2 ^ 55) (hx : x < 256) : (lN a <<< ((8 : Int32).toInt64 &&& 63)) ||| lN x = lN (a * 256 + x) := by
  apply uL_inj
  have e0 : ((8 : Int32).toInt64 &&& 63) = (8 : Int64) := by decide
  rw [e0, uL_or, lN_u (by omega), lN_u (by omega)]
  have : uL (lN a <<< (8 : Int64)) = a * 256 := by
    show (lN a <<< (8 : Int64)).toBitVec.toNat = _
    rw [Int64.toBitVec_shiftLeft]
    show ((lN a).toBitVec <<< ((8 : Int64).toBitVec.smod 64)).toNat = _
    rw [show ((8 : Int64).toBitVec.smod 64) = 8#64 by decide]
    rw [BitVec.shiftLeft_eq', BitVec.toNat_shiftLeft]
    have : (lN a).toBitVec.toNat = a := lN_u (by omega)
    rw [this, Nat.shiftLeft_eq, show (8#64).toNat = 8 by decide]
    rw [Nat.mod_eq_of_lt (by omega)]
  rw [this]
  rw [show a * 256 = a <<< 8 by rw [Nat.shiftLeft_eq]]
  exact (Nat.shiftLeft_add_eq_or_of_lt (by omega) a).symm
/-- between token j - 1 and token j -/
def gp (t S : Nat → Nat) (p j : Nat) : Prop := p ≤ S j ∧ ∀ q, p ≤ q → q < S j → kk (t q) = 1
/-- the text -/
def mTx (t : Nat → Nat) (n m : Nat) (H : xH) : Prop := ∃ g, H.1 (m + 21) = some (aB 1200 g) ∧ ∀ q, q < n → g q = sb (t q)
/-- the reference's place: where it reads -/
def mAt (m n p : Nat) (v : Nat → Int32) (H : xH) : Prop := H.1 m = some (mo m v) ∧ v 32 = nI n ∧ v 33 = nI p
/-- it's done at its object alone -/
def mu (m : Nat) (v : Nat → Int32) (H : xH) : xH := xup H m (mo m v)
theorem mu_at {v : Nat → Int32} : (mu m v H).1 m = some (mo m v) := xup_at _
theorem mu_mu {v v' : Nat → Int32} : mu m v' (mu m v H) = mu m v' H := xup_up _ _
theorem mu_id {v : Nat → Int32} (h : H.1 m = some (mo m v)) : mu m v H = H := xup_id h
theorem mu_ne {v : Nat → Int32} {a : Nat} (h : a ≠ m) : (mu m v H).1 a = H.1 a := xup_ne _ h
theorem mu_p {v' : Nat → Int32} {k : Nat} {x : Int32} (hk : k < 64) (hs : (mfs m v').set k (.int x) = mfs m (upd v' k x)) : xpI (mu m v' H) (some m) 11 k x = some (mu m (upd v' k x) H) := by
  rw [mpI mu_at hk x hs]
  exact congrArg some mu_mu
theorem mTx.mu {v : Nat → Int32} (h : mTx t n m H) : mTx t n m (mu m v H) := by
  obtain ⟨g, h1, h2⟩ := h
  exact ⟨g, (mu_ne (by omega)).trans h1, h2⟩
def we (t : Nat → Nat) (J : Nat) (S E : Nat → Nat) (j : Nat) : Nat := if j < J ∧ kk (t (S j)) = 2 then E j else S j
theorem updi {v : Nat → Int32} {k : Nat} {x : Int32} (h : v k = x) : upd v k x = v := by
  funext q
  by_cases e : q = k
  · rw [e, pk_us, h]
  · rw [pk_un e]
theorem updd {v : Nat → Int32} {k : Nat} {x y : Int32} : upd (upd v k x) k y = upd v k y := by
  funext q
  by_cases e : q = k
  · rw [e, pk_us, pk_us]
  · rw [pk_un e, pk_un e, pk_un e]
section
theorem M_blanks (hT : tkS t n J S E) (hn : n ≤ 1200) (h6 : ∀ q, t q < 256) (hN : 1200 < N) {v : Nat → Int32} {p j : Nat} (hx : mTx t n m H) (hj : j ≤ J) (hp : gp t S p j) (h0 : H.1 m = some (mo m v)) (h32 : v 32 = nI n) (h33 : v 33 = nI p) : F_X12_blanks N (some m) H = some (mu m (upd v 33 (nI (S j))) H) := by
  obtain ⟨g, hg, hgt⟩ := hx
  have hS : S j ≤ n := by have := hT.le hj; omega
  have loop : ∀ k q, q ≤ S j → S j - q < k → p ≤ q → F_X12_blanks_L0 N k (some m) (mu m (upd v 33 (nI q)) H) = some (mu m (upd v 33 (nI (S j))) H) := by
    refine upto (P := fun k q => p ≤ q → F_X12_blanks_L0 N k (some m) (mu m (upd v 33 (nI q)) H) = some (mu m (upd v 33 (nI (S j))) H)) ?_ ?_
    · intro k hpq
      rw [show F_X12_blanks_L0 N (k + 1) = F_X12_blanks_J0 N (F_X12_blanks_L0 N k) from rfl]
      have hg' : (mu m (upd v 33 (nI (S j))) H).1 (m + 21) = some (aB 1200 g) := (mu_ne (by omega)).trans hg
      simp only [F_X12_blanks_J0, gI mu_at mi33, pk_us, gI mu_at mi32, pk_un (show (32 : Nat) ≠ 33 by decide), h32, gA mu_at ma37, Option.bind_some, bd2_s]
      by_cases e : S j = n
      · rw [if_pos (by rw [e]; exact Int32.le_refl _)]
      · have hlt : S j < n := by omega
        have hjJ : j < J := by
          rcases Nat.lt_or_ge j J with q | q
          · exact q
          · exfalso; rw [show j = J by omega, hT.1] at hlt; omega
        have hk := hT.2.2.1 j hjJ
        rw [if_neg (nI_ge hlt (by omega))]
        simp only [rdI hg' (show S j < 1200 by omega) (by decide), hgt _ hlt, Option.bind_some, bd2_s]
        have k2 := (not_congr (sb_1 (h6 (S j)))).mp hk
        rw [if_neg (fun z => k2 (Or.inl z)), if_neg (fun z => k2 (Or.inr z))]
    · intro k q hq ih hpq
      rw [show F_X12_blanks_L0 N (k + 1) = F_X12_blanks_J0 N (F_X12_blanks_L0 N k) from rfl]
      have hg' : (mu m (upd v 33 (nI q)) H).1 (m + 21) = some (aB 1200 g) := (mu_ne (by omega)).trans hg
      have st : xpI (mu m (upd v 33 (nI q)) H) (some m) 11 33 (nI (q + 1)) = some (mu m (upd v 33 (nI (q + 1))) H) := by rw [mu_p (by decide) ms33, updd]
      simp only [F_X12_blanks_J0, F_X12_blanks_J39, gI mu_at mi33, pk_us, gI mu_at mi32, pk_un (show (32 : Nat) ≠ 33 by decide), h32, gA mu_at ma37, nI_ge (show q < n by omega) (show n < 2 ^ 31 by omega), if_false, rdI hg' (show q < 1200 by omega) (by decide), hgt q (by omega), nI_1, st, ih (by omega), Option.bind_some, bd2_s]
      rcases (sb_1 (h6 q)).mp (hp.2 q hpq hq) with z | z
      · rw [if_pos z]
      · by_cases z2 : sb (t q) = 32
        · rw [if_pos z2]
        · rw [if_neg z2, if_pos z]
  unfold F_X12_blanks
  have := loop N p hp.1 (by have := hp.1; omega) (Nat.le_refl _)
  rw [updi h33, mu_id h0] at this
  exact this
theorem we_c (hT : tkS t n J S E) (hn : n ≤ 1200) (h6 : ∀ q, t q < 256) (hN : 1200 < N) {j q : Nat} (hj : j ≤ J) (h1 : S j ≤ q) (h2 : q < we t J S E j) : kk (t q) = 2 := by
  unfold we at h2
  split at h2
  · rename_i h
    exact ((hT.2.2.2.2.2.1 j h.1 (Or.inl h.2)).1 q h1 h2).trans h.2
  · omega
theorem we_le (hT : tkS t n J S E) (hn : n ≤ 1200) (h6 : ∀ q, t q < 256) (hN : 1200 < N) {j : Nat} (hj : j ≤ J) : S j ≤ we t J S E j ∧ we t J S E j ≤ n := by
  have hS : S j ≤ n := by have := hT.le hj; omega
  unfold we
  split
  · rename_i h
    have := hT.2.1 j h.1
    have := hT.ele h.1
    omega
  · omega
theorem we_n (hT : tkS t n J S E) (hn : n ≤ 1200) (h6 : ∀ q, t q < 256) (hN : 1200 < N) {j : Nat} (hj : j ≤ J) : we t J S E j = n ∨ (we t J S E j < n ∧ kk (t (we t J S E j)) ≠ 2) := by
  have hS : S j ≤ n := by have := hT.le hj; omega
  have hb := we_le hT hn h6 hN hj
  by_cases h : j < J ∧ kk (t (S j)) = 2
  · have e : we t J S E j = E j := by unfold we; rw [if_pos h]
    rw [e] at hb ⊢
    rcases (hT.2.2.2.2.2.1 j h.1 (Or.inl h.2)).2 with q | q
    · exact Or.inl q
    · rcases Nat.lt_or_ge (E j) n with z | z
      · right; exact ⟨z, by rw [h.2] at q; exact q⟩
      · left; omega
  · have e : we t J S E j = S j := by unfold we; rw [if_neg h]
    rw [e] at hb ⊢
    rcases Nat.lt_or_ge (S j) n with z | z
    · right
      refine ⟨z, fun z2 => h ⟨?_, z2⟩⟩
      rcases Nat.lt_or_ge j J with q | q
      · exact q
      · exfalso; rw [show j = J by omega, hT.1] at z; omega
    · left; omega
theorem wd_8 (hT : tkS t n J S E) (hn : n ≤ 1200) (h6 : ∀ q, t q < 256) (hN : 1200 < N) {j : Nat} (hj : j ≤ J) : wd t J S E j = if we t J S E j - S j ≤ 8 then wl t (S j) (we t J S E j - S j) else [] := by
  unfold wd we
  by_cases h : j < J ∧ kk (t (S j)) = 2
  · rw [if_pos h]
    by_cases h8 : E j - S j ≤ 8
    · rw [if_pos h8, if_pos ⟨h.1, h.2, h8⟩]
    · rw [if_neg h8, if_neg (fun z => h8 z.2.2)]
  · rw [if_neg h, if_neg (fun z => h ⟨z.1, z.2.1⟩), Nat.sub_self, if_pos (by omega)]; rfl
theorem M_word (hT : tkS t n J S E) (hn : n ≤ 1200) (h6 : ∀ q, t q < 256) (hN : 1200 < N) {v : Nat → Int32} {p j : Nat} (hx : mTx t n m H) (hj : j ≤ J) (hp : gp t S p j) (h0 : H.1 m = some (mo m v)) (h32 : v 32 = nI n) (h33 : v 33 = nI p) : F_X12_word N (some m) H = some (lN (w8 (wd t J S E j)), mu m (upd (upd v 33 (nI (S j))) 38 (nI (we t J S E j))) H) := by
  have hb := M_blanks hT hn h6 hN hx hj hp h0 h32 h33
  obtain ⟨g, hg, hgt⟩ := hx
  have hS : S j ≤ n := by have := hT.le hj; omega
  obtain ⟨w1, w2⟩ := we_le hT hn h6 hN hj
  have w3 := we_n hT hn h6 hN hj
  have w4 : ∀ q, S j ≤ q → q < we t J S E j → kk (t q) = 2 := fun q q1 q2 => we_c hT hn h6 hN hj q1 q2
  rw [wd_8 hT hn h6 hN hj]
  generalize we t J S E j = w at *
  generalize hv1 : upd v 33 (nI (S j)) = v1 at *
  have a33 : v1 33 = nI (S j) := by rw [← hv1, pk_us]
  have a32 : v1 32 = nI n := by rw [← hv1, pk_un (by decide)]; exact h32
  have b33 : ∀ x, upd v1 38 x 33 = nI (S j) := fun x => by rw [pk_un (by decide)]; exact a33
  have b32 : ∀ x, upd v1 38 x 32 = nI n := fun x => by rw [pk_un (by decide)]; exact a32
  have loop : ∀ k q, q ≤ w → w - q < k → S j ≤ q → F_X12_word_L14 N (F_X12_word_J100 N) k (some m) (if q - S j ≤ 8 then lN (w8 (wl t (S j) (q - S j))) else 0) (mu m (upd v1 38 (nI q)) H) = some (lN (w8 (if w - S j ≤ 8 then wl t (S j) (w - S j) else [])), mu m (upd v1 38 (nI w)) H) := by
    refine upto (P := fun k q => S j ≤ q → F_X12_word_L14 N (F_X12_word_J100 N) k (some m) (if q - S j ≤ 8 then lN (w8 (wl t (S j) (q - S j))) else 0) (mu m (upd v1 38 (nI q)) H) = some (lN (w8 (if w - S j ≤ 8 then wl t (S j) (w - S j) else [])), mu m (upd v1 38 (nI w)) H)) ?_ ?_
    · intro k _
      rw [show F_X12_word_L14 N (F_X12_word_J100 N) (k + 1) = F_X12_word_J14 N (F_X12_word_L14 N (F_X12_word_J100 N) k) (F_X12_word_J100 N) from rfl]
      have fin : F_X12_word_J100 N (some m) (if w - S j ≤ 8 then lN (w8 (wl t (S j) (w - S j))) else 0) (mu m (upd v1 38 (nI w)) H) = some (lN (w8 (if w - S j ≤ 8 then wl t (S j) (w - S j) else [])), mu m (upd v1 38 (nI w)) H) := by
        simp only [F_X12_word_J100, gI mu_at mi38, gI mu_at mi33, pk_us, b33, pk_sub w1, Option.bind_some, bd2_s]
        by_cases h8 : w - S j ≤ 8
        · rw [if_pos (show nI (w - S j) ≤ (8 : Int32) from nI_le (b := 8) h8 (by decide)), if_pos h8, if_pos h8]
        · rw [if_neg (show ¬ nI (w - S j) ≤ (8 : Int32) from nI_ge (a := 8) (by omega) (by omega)), if_neg h8]; rfl
      have hg' : (mu m (upd v1 38 (nI w)) H).1 (m + 21) = some (aB 1200 g) := (mu_ne (by omega)).trans hg
      simp only [F_X12_word_J14, gI mu_at mi38, gI mu_at mi32, pk_us, b32, gA mu_at ma37, Option.bind_some, bd2_s]
      rcases w3 with e | ⟨e, e2⟩
      · rw [if_pos (by rw [e]; exact Int32.le_refl _)]; exact fin
      · rw [if_neg (nI_ge e (by omega))]
        simp only [rdI hg' (show w < 1200 by omega) (by decide), hgt _ e, Option.bind_some, bd2_s]
        have k2 := (not_congr (sb_2 (h6 w))).mp e2
        by_cases z : sb (t w) < 97
        · rw [if_pos z]; exact fin
        · rw [if_neg z, if_pos (Classical.not_not.mp (fun y => k2 ⟨z, y⟩))]; exact fin
    · intro k q hq ih hq1
      rw [show F_X12_word_L14 N (F_X12_word_J100 N) (k + 1) = F_X12_word_J14 N (F_X12_word_L14 N (F_X12_word_J100 N) k) (F_X12_word_J100 N) from rfl]
      have hg' : (mu m (upd v1 38 (nI q)) H).1 (m + 21) = some (aB 1200 g) := (mu_ne (by omega)).trans hg
      have st : xpI (mu m (upd v1 38 (nI q)) H) (some m) 11 38 (nI (q + 1)) = some (mu m (upd v1 38 (nI (q + 1))) H) := by rw [mu_p (by decide) ms38, updd]
      have k2 := w4 q hq1 hq
      obtain ⟨z1, z2⟩ := (sb_2 (h6 q)).mp k2
      obtain ⟨y1, y2⟩ := kk_2 k2
      have ih' := ih (by omega)
      simp only [F_X12_word_J14, F_X12_word_J86, gI mu_at mi38, gI mu_at mi33, gI mu_at mi32, pk_us, b32, b33, gA mu_at ma37, nI_ge (show q < n by omega) (show n < 2 ^ 31 by omega), if_false, rdI hg' (show q < 1200 by omega) (by decide), hgt q (by omega), z1, z2, pk_sub hq1, nI_1, st, Option.bind_some, bd2_s]
      rw [← ih']
      by_cases h8 : q + 1 - S j ≤ 8
      · rw [if_neg (show ¬ (8 : Int32) ≤ nI (q - S j) from nI_ge (b := 8) (by omega) (by decide)), if_pos (show q - S j ≤ 8 by omega), if_pos h8]
        have hL : lets (wl t (S j) (q - S j)) := wl_lets (fun r r1 r2 => w4 r r1 (by omega))
        have hb : w8 (wl t (S j) (q - S j)) < 2 ^ 55 := by
          rcases w8_lt hL with z | z
          · rw [wl_len] at z
            have : 256 ^ (q - S j - 1) ≤ 256 ^ 6 := Nat.pow_le_pow_right (by decide) (by omega)
            have : 123 * 256 ^ 6 < 2 ^ 55 := by decide
            omega
          · rw [z]; decide
        congr 1
        rw [sb_n (by omega), nI_l (by omega), shl8 hb (by omega), show q + 1 - S j = (q - S j) + 1 by omega]
        show _ = lN (w8 (wl t (S j) (q - S j)) * 256 + t (S j + (q - S j)))
        rw [show S j + (q - S j) = q by omega]
      · rw [if_pos (show (8 : Int32) ≤ nI (q - S j) from nI_le (a := 8) (by omega) (by omega)), if_neg h8]
  have st0 : xpI (mu m v1 H) (some m) 11 38 (nI (S j)) = some (mu m (upd v1 38 (nI (S j))) H) := mu_p (by decide) ms38
  unfold F_X12_word
  simp only [obx h0, hb, gI mu_at mi33, a33, st0, Option.bind_some, bd2_s]
  have := loop N (S j) w1 (by omega) (Nat.le_refl _)
  rw [Nat.sub_self, if_pos (by omega)] at this
  exact this
end
