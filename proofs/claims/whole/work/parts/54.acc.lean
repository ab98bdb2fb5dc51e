/-! PURE: what is read off the states. -/
section Acc
variable {stf : Nat → Nat} {N K b m c tc tk cb n nk ncb : Nat} {ad : Nat → Nat} {β : sB} {δ : sD} {H : xH} {v : Nat → Int32}
theorem RXo.g (h : RXo stf K b m c tc tk cb n nk ncb ad β δ H) : xgA H (some b) 10 0 = some (some (b + 1)) ∧ xgI H (some b) 10 1 = some (nI (dN δ)) ∧ xgI H (some b) 10 2 = some (dF δ) ∧ xgI H (some b) 10 3 = some (dB δ) ∧ xgA H (some b) 10 4 = some (some (b + 2)) ∧ xgA H (some b) 10 5 = some (some c) ∧ xgA H (some b) 10 6 = some (some (b + 15)) ∧ xgA H (some b) 10 7 = some (some (b + 20)) ∧ xgA H (some b) 10 8 = some (some (b + 24)) ∧ xgI H (some b) 10 9 = some (nI (dI δ)) ∧ xgA H (some b) 10 10 = some (some (b + 41)) ∧ xgA H (some b) 10 11 = some (some (b + 43)) ∧ xgA H (some b) 10 12 = some (some (b + 45)) ∧ xgA H (some b) 10 13 = some (some (b + 49)) ∧ xgA H (some b) 10 14 = some (some (b + 50)) := by
  have e := h.2.1
  exact ⟨gA e rfl, gI e rfl, gI e rfl, gI e rfl, gA e rfl, gA e rfl, gA e rfl, gA e rfl, gA e rfl, gI e rfl, gA e rfl, gA e rfl, gA e rfl, gA e rfl, gA e rfl⟩
theorem RXo.o (h : RXo stf K b m c tc tk cb n nk ncb ad β δ H) : xob H (some b) 10 = some b ∧ xob H (some c) 2 = some c ∧ xob H (some (b + 15)) 6 = some (b + 15) ∧ xob H (some (b + 20)) 4 = some (b + 20) ∧ xob H (some (b + 41)) 5 = some (b + 41) ∧ xob H (some (b + 43)) 3 = some (b + 43) ∧ xob H (some (b + 45)) 9 = some (b + 45) := by
  obtain ⟨hD, h1, h2, h3, ⟨⟨rc, h4⟩, -⟩, ⟨⟨cert, h5, -⟩, -⟩, ⟨h6, -⟩, h7, ⟨h8, -⟩, ⟨h9, -⟩, ⟨⟨x1, x2, x3, x4, h10⟩, -⟩, -⟩ := h
  exact ⟨obx h1, obx h4, obx h5, obx h6, obx h8, obx h9, obx h10⟩
theorem RXo.k (h : RXo stf K b m c tc tk cb n nk ncb ad β δ H) : xgI H (some c) 2 0 = some (nI (bT β)) ∧ xgI H (some c) 2 1 = some (nI (bM β)) ∧ xgI H (some c) 2 2 = some (nI (bW β)) ∧ xgI H (some c) 2 4 = some (bS β) ∧ xgA H (some c) 2 6 = some (some (c + 2)) ∧ xgA H (some c) 2 7 = some (some (c + 3)) ∧ xgA H (some c) 2 12 = some (some (c + 8)) := by
  obtain ⟨hD, h1, h2, h3, ⟨⟨rc, h4⟩, -⟩, -⟩ := h
  exact ⟨gI h4 rfl, gI h4 rfl, gI h4 rfl, gI h4 rfl, gA h4 rfl, gA h4 rfl, gA h4 rfl⟩
theorem RXo.t (h : RXo stf K b m c tc tk cb n nk ncb ad β δ H) : ∃ (cl : Nat → Int64) (cert : Int64), tv (b + 15) tc (bZ β) n cl cert H ∧ (∀ k, k < bZ β → cv (bW β) (bex β k) (bps β k) (lft β (dL δ) k) (fun w => boc β w k) (cl k)) ∧ (∀ w, w < 12 → (∀ o, w < bW β → sureO (bZ β) (lft β (dL δ)) (boc β w) o → d5 cert w = 2 ^ o) ∧ ((w < bW β → ∀ o, ¬ sureO (bZ β) (lft β (dL δ)) (boc β w) o) → d5 cert w = 0)) ∧ d5 cert 12 = 0 ∧ xgI H (some (b + 15)) 6 0 = some (nI (bT β)) ∧ xgI H (some (b + 15)) 6 1 = some (nI (bZ β)) ∧ xgI H (some (b + 15)) 6 2 = some (nI (cnt (bps β) (bZ β))) ∧ xgI H (some (b + 15)) 6 3 = some (nI (cnt (lft β (dL δ)) (bZ β))) ∧ xgJ H (some (b + 15)) 6 4 = some cert := by
  obtain ⟨hD, h1, h2, h3, h4, ⟨⟨cert, h5, c1, c2⟩, ⟨cl, h6, h7⟩, h8, h9, -⟩, -⟩ := h
  exact ⟨cl, cert, ⟨_, h5, rfl, rfl, rfl, h6, h8, h9⟩, h7, c1, c2, gI h5 rfl, gI h5 rfl, gI h5 rfl, gI h5 rfl, gJ h5 rfl⟩
theorem RXo.l (h : RXo stf K b m c tc tk cb n nk ncb ad β δ H) : xgI H (some (b + 20)) 4 0 = some (nI (lT (dL δ))) ∧ xgI H (some (b + 20)) 4 1 = some (lS (dL δ)) ∧ xgA H (some (b + 20)) 4 2 = some (some (b + 20 + 1)) ∧ xgA H (some (b + 20)) 4 3 = some (some (b + 20 + 2)) ∧ xgA H (some (b + 20)) 4 4 = some (some (b + 20 + 3)) := by
  obtain ⟨hD, h1, h2, h3, h4, h5, ⟨h6, -⟩, -⟩ := h
  exact ⟨gI h6 rfl, gI h6 rfl, gA h6 rfl, gA h6 rfl, gA h6 rfl⟩
/-- a bet -/
theorem RXo.bt (h : RXo stf K b m c tc tk cb n nk ncb ad β δ H) {w : Nat} (hw : w < bW β) : xob H (some (ad w)) 0 = some (ad w) ∧ xgI H (some (ad w)) 0 2 = some (bc1 β w) ∧ xgI H (some (ad w)) 0 3 = some (bc2 β w) ∧ ∀ o, o < 5 → F_X0_coinOf N (some (ad w)) (nI o) H = some (pay o (bc1 β w) (bc2 β w), H) := by
  obtain ⟨hD, h1, h2, h3, ⟨h4, h5, h6, h7, h8⟩, -⟩ := h
  obtain ⟨o1, o2, p1, p2, p3, q1, q2, q3⟩ := h8 w hw
  exact ⟨obx q1, gI q1 rfl, gI q1 rfl, S_coinOf q1 rfl rfl⟩
theorem pred_lt {n : Nat} (hn : n < 2 ^ 31) (x : Int32) : (nI n - 1 < x) ↔ nI n ≤ x := by
  have h1 := nI_toInt hn
  have h2 : (nI n - 1).toInt = (n : Int) - 1 := by
    rw [Int32.toInt_sub, h1, show (1 : Int32).toInt = 1 by decide, Int.bmod_eq_of_le] <;> omega
  rw [Int32.lt_iff_toInt_lt, Int32.le_iff_toInt_le, h1, h2]
  omega
theorem S_inO {n : Nat} (hn : n < 2 ^ 31) {x : Int32} (h : x < 0 ∨ nI n ≤ x) : F_X12_isIn N x 0 (nI n - 1) H = some (0, H) := by
  rw [S_in, bI_f]
  rintro ⟨h1, h2⟩
  exact h.elim h1 (fun q => h2 ((pred_lt hn x).mpr q))
theorem S_inI {n j : Nat} (hn : n < 2 ^ 31) (h : j < n) : F_X12_isIn N (nI j) 0 (nI n - 1) H = some (1, H) := by
  rw [S_in, bI_t]
  exact ⟨nI_pos (by omega), fun q => nI_ge h hn ((pred_lt hn _).mp q)⟩
theorem mQ.ac {l : sL} (h : mQ m v β l H) : xgI H (some m) 11 0 = some (nI (bT β)) ∧ xgI H (some m) 11 1 = some (nI (bM β)) ∧ xgI H (some m) 11 2 = some (nI (bW β)) ∧ xgI H (some m) 11 3 = some (bS β) ∧ xgI H (some m) 11 46 = some (nI (lT l)) ∧ bT β ≤ 5 ∧ bM β ≤ 6 ∧ bW β ≤ 12 := by
  obtain ⟨⟨h1, ⟨e0, e1, e2, e3, e41, e46⟩, -⟩, ⟨h2, h3, h4, -⟩, -⟩ := h
  exact ⟨(gI h1 mi0).trans (by rw [e0]), (gI h1 mi1).trans (by rw [e1]), (gI h1 mi2).trans (by rw [e2]), (gI h1 mi3).trans (by rw [e3]), (gI h1 mi46).trans (by rw [e46]), h2, h3, h4⟩
theorem S_mWO {l : sL} (h : mQ m v β l H) {x : Int32} (hx : x < 0 ∨ nI (bW β) ≤ x) : F_X12_isWager N (some m) x H = some (0, H) := by
  obtain ⟨v0, v1, v2, v3, v46, t5, t6, t12⟩ := h.ac
  unfold F_X12_isWager
  simp only [v2, Option.bind_some, S_inO (by omega) hx, bd2_s]
  rfl
theorem S_mWI {l : sL} (h : mQ m v β l H) {w : Nat} (hw : w < bW β) : F_X12_isWager N (some m) (nI w) H = some (1, H) := by
  obtain ⟨v0, v1, v2, v3, v46, t5, t6, t12⟩ := h.ac
  unfold F_X12_isWager
  simp only [v2, Option.bind_some, S_inI (by omega) hw, bd2_s]
  rfl
theorem S_mTO {l : sL} (h : mQ m v β l H) {x : Int32} (hx : x < 0 ∨ nI (bT β) ≤ x) : F_X12_isThing N (some m) x H = some (0, H) := by
  obtain ⟨v0, v1, v2, v3, v46, t5, t6, t12⟩ := h.ac
  unfold F_X12_isThing
  simp only [v0, Option.bind_some, S_inO (by omega) hx, bd2_s]
  rfl
theorem S_mTI {l : sL} (h : mQ m v β l H) {w : Nat} (hw : w < bT β) : F_X12_isThing N (some m) (nI w) H = some (1, H) := by
  obtain ⟨v0, v1, v2, v3, v46, t5, t6, t12⟩ := h.ac
  unfold F_X12_isThing
  simp only [v0, Option.bind_some, S_inI (by omega) hw, bd2_s]
  rfl
theorem S_mMO {l : sL} (h : mQ m v β l H) {x : Int32} (hx : x < 0 ∨ nI (bM β) ≤ x) : F_X12_isMember N (some m) x H = some (0, H) := by
  obtain ⟨v0, v1, v2, v3, v46, t5, t6, t12⟩ := h.ac
  unfold F_X12_isMember
  simp only [v1, Option.bind_some, S_inO (by omega) hx, bd2_s]
  rfl
theorem S_mMI {l : sL} (h : mQ m v β l H) {w : Nat} (hw : w < bM β) : F_X12_isMember N (some m) (nI w) H = some (1, H) := by
  obtain ⟨v0, v1, v2, v3, v46, t5, t6, t12⟩ := h.ac
  unfold F_X12_isMember
  simp only [v1, Option.bind_some, S_inI (by omega) hw, bd2_s]
  rfl
theorem S_btO (h : RXo stf K b m c tc tk cb n nk ncb ad β δ H) {x : Int32} (hx : x < 0 ∨ nI (bW β) ≤ x) : F_X2_betAt N (some c) x H = some (none, H) := by
  obtain ⟨k0, k1, k2, -⟩ := h.k
  unfold F_X2_betAt
  by_cases h0 : x < 0
  · rw [if_pos h0]
  · rw [if_neg h0, k2]
    simp only [Option.bind_some]
    rw [if_pos (hx.resolve_left h0)]
theorem S_btI (h : RXo stf K b m c tc tk cb n nk ncb ad β δ H) (hW : bW β ≤ 12) {w : Nat} (hw : w < bW β) : F_X2_betAt N (some c) (nI w) H = some (some (ad w), H) := by
  obtain ⟨k0, k1, k2, k4, k6, k7, k12⟩ := h.k
  obtain ⟨hD, h1, h2, h3, ⟨h4, h5, h6, ⟨g, h7, h8⟩, -⟩, -⟩ := h
  unfold F_X2_betAt
  simp only [nI_pos (show w < 2 ^ 31 by omega), if_false, k2, Option.bind_some, nI_ge hw (by omega), k12, leQ h7, nI_ge (show w < 12 by omega) (by decide), rdQ h7 (show w < 12 by omega) (by decide), h8 w hw]
theorem S_hTO (h : RXo stf K b m c tc tk cb n nk ncb ad β δ H) {x : Int32} (hx : x < 0 ∨ nI (bT β) ≤ x) : F_X2_hasThing N (some c) x H = some (0, H) := by
  obtain ⟨k0, k1, k2, -⟩ := h.k
  unfold F_X2_hasThing
  by_cases h0 : x < 0
  · rw [if_pos h0]
  · rw [if_neg h0, k0]
    simp only [Option.bind_some]
    rw [if_pos (hx.resolve_left h0)]
theorem S_hTI (h : RXo stf K b m c tc tk cb n nk ncb ad β δ H) (hT : bT β ≤ 5) {w : Nat} (hw : w < bT β) : F_X2_hasThing N (some c) (nI w) H = some (1, H) := by
  obtain ⟨k0, k1, k2, -⟩ := h.k
  unfold F_X2_hasThing
  simp only [nI_pos (show w < 2 ^ 31 by omega), if_false, k0, Option.bind_some, nI_ge hw (by omega)]
theorem S_hMO (h : RXo stf K b m c tc tk cb n nk ncb ad β δ H) {x : Int32} (hx : x < 0 ∨ nI (bM β) ≤ x) : F_X2_hasMember N (some c) x H = some (0, H) := by
  obtain ⟨k0, k1, k2, -⟩ := h.k
  unfold F_X2_hasMember
  by_cases h0 : x < 0
  · rw [if_pos h0]
  · rw [if_neg h0, k1]
    simp only [Option.bind_some]
    rw [if_pos (hx.resolve_left h0)]
theorem S_hMI (h : RXo stf K b m c tc tk cb n nk ncb ad β δ H) (hT : bM β ≤ 6) {w : Nat} (hw : w < bM β) : F_X2_hasMember N (some c) (nI w) H = some (1, H) := by
  obtain ⟨k0, k1, k2, -⟩ := h.k
  unfold F_X2_hasMember
  simp only [nI_pos (show w < 2 ^ 31 by omega), if_false, k1, Option.bind_some, nI_ge hw (by omega)]
theorem S_hold (h : RXo stf K b m c tc tk cb n nk ncb ad β δ H) {w s : Nat} (hw : w < 12) (hs : s < 2) : F_X4_holder N (some (b + 20)) (nI w) (nI s) H = some (lH (dL δ) (2 * w + s), H) := by
  obtain ⟨-, -, -, l3, -⟩ := h.l
  obtain ⟨hD, h1, h2, h3, h4, h5, ⟨-, -, ⟨g, h6, h7⟩, -⟩, -⟩ := h
  unfold F_X4_holder
  rw [l3, show (2 : Int32) * nI w + nI s = nI (2 * w + s) by rw [show (2 : Int32) = nI 2 from rfl, pk_mul, nI_add]]
  simp only [Option.bind_some, S_at h6 (by decide : 24 < 2 ^ 31), bd2_s]
  rw [gat_nI (by omega), if_pos (by omega), h7 _ (by omega)]
end Acc
