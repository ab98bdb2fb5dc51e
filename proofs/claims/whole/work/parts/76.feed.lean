/-! PURE: STEPS feed, count, luck. -/
theorem i8_c {y z : Int32} (h : y.toBitVec.toNat % 256 = z.toBitVec.toNat % 256) : y.toInt8 = z.toInt8 := by
  apply Int8.toBitVec_inj.mp
  apply BitVec.eq_of_toNat_eq
  show (y.toBitVec.signExtend 8).toNat = (z.toBitVec.signExtend 8).toNat
  rw [BitVec.signExtend_eq_setWidth_of_le _ (by decide), BitVec.signExtend_eq_setWidth_of_le _ (by decide), BitVec.toNat_setWidth, BitVec.toNat_setWidth]
  exact h
theorem i32_nat' (y : Int32) : (y.toBitVec.toNat : Int) = if 0 ≤ y.toInt then y.toInt else y.toInt + 4294967296 := by
  have h := BitVec.toInt_eq_toNat_cond y.toBitVec
  have h2 : y.toInt = y.toBitVec.toInt := rfl
  have h3 : y.toBitVec.toNat < 2 ^ 32 := y.toBitVec.isLt
  rw [h2, h]
  split <;> split <;> omega
theorem byt_k (x : Int32) (s : Int32) (k : Nat) (h1 : ((s.toUInt32 &&& Int32.toUInt32 31).toBitVec % 32).toNat = k) (h2 : ((s &&& 31).toBitVec.smod 32).toNat = k) (hk : k = 0 ∨ k = 8 ∨ k = 16 ∨ k = 24) : ((x.toUInt32 >>> (s.toUInt32 &&& Int32.toUInt32 31)).toInt32).toInt8.toInt32 = ((x >>> (s &&& 31))).toInt8.toInt32 := by
  rw [i8_c]
  have e1 := pk_ushr x s k h1
  have e2 := pk_shr x (s &&& 31) k h2
  have e3 := i32_nat' (x >>> (s &&& 31))
  have e4 := i32_nat' x
  have hx : x.toBitVec.toNat < 2 ^ 32 := x.toBitVec.isLt
  rw [e1]
  rw [e2, Int.shiftRight_eq_div_pow] at e3
  generalize x.toInt = X at *
  generalize (x >>> (s &&& 31)).toBitVec.toNat = Y at *
  generalize x.toBitVec.toNat = Z at *
  rcases hk with rfl | rfl | rfl | rfl
  · have : ((2 ^ 0 : Nat) : Int) = 1 := rfl
    rw [this] at e3
    split at e3 <;> split at e4 <;> omega
  · have : ((2 ^ 8 : Nat) : Int) = 256 := rfl
    rw [this] at e3
    split at e3 <;> split at e4 <;> omega
  · have : ((2 ^ 16 : Nat) : Int) = 65536 := rfl
    rw [this] at e3
    split at e3 <;> split at e4 <;> omega
  · have : ((2 ^ 24 : Nat) : Int) = 16777216 := rfl
    rw [this] at e3
    split at e3 <;> split at e4 <;> omega
def byt (x s : Int32) : Int32 := ((x >>> (s &&& 31))).toInt8.toInt32
theorem byt_n (x s : Int32) : vp_nar .byte (byt x s) = byt x s := pk_vb _
theorem byt_e (x : Int32) {s : Int32} (h : s = 24 ∨ s = 16 ∨ s = 8 ∨ s = 0) : ((x.toUInt32 >>> (s.toUInt32 &&& Int32.toUInt32 31)).toInt32).toInt8.toInt32 = byt x s := by
  rcases h with rfl | rfl | rfl | rfl
  · exact byt_k x 24 24 (by decide) (by decide) (by decide)
  · exact byt_k x 16 16 (by decide) (by decide) (by decide)
  · exact byt_k x 8 8 (by decide) (by decide) (by decide)
  · exact byt_k x 0 0 (by decide) (by decide) (by decide)
def t4 (g : Nat → Int32) (k : Nat) (x : Int32) : Nat → Int32 := upd (upd (upd (upd g k (byt x 24)) (k + 1) (byt x 16)) (k + 2) (byt x 8)) (k + 3) (byt x 0)
theorem t4_c {g g' : Nat → Int32} {k : Nat} {x : Int32} (h : ∀ j, j < k → g j = g' j) : ∀ j, j < k + 4 → t4 g k x j = t4 g' k x j := by
  intro j hj
  unfold t4
  by_cases e3 : j = k + 3
  · rw [e3, pk_us, pk_us]
  rw [pk_un e3, pk_un e3]
  by_cases e2 : j = k + 2
  · rw [e2, pk_us, pk_us]
  rw [pk_un e2, pk_un e2]
  by_cases e1 : j = k + 1
  · rw [e1, pk_us, pk_us]
  rw [pk_un e1, pk_un e1]
  by_cases e0 : j = k
  · rw [e0, pk_us, pk_us]
  rw [pk_un e0, pk_un e0]
  exact h j (by omega)
theorem xW {H : xH} {a c : Nat} {e e' f f' : xE} (hne : a ≠ c) : xup (xup (xup (xup H a e) c f) a e') c f' = xup (xup H a e') c f' := by
  rw [xup_cm (H := xup H a e) (show c ≠ a from fun h => hne h.symm), xup_up, xup_up]
def dK (δ : sD) (k : Nat) (T : Nat → Int32) : sD := (dL δ, dI δ, dM δ, dC δ, k, T, dF δ, dB δ)
def bobj (b c : Nat) (δ : sD) (k : Nat) : xE := ob 10 [va_rf (some (b + 1)), .int (nI k), .int (dF δ), .int (dB δ), va_rf (some (b + 2)), va_rf (some c), va_rf (some (b + 15)), va_rf (some (b + 20)), va_rf (some (b + 24)), .int (nI (dI δ)), va_rf (some (b + 41)), va_rf (some (b + 43)), va_rf (some (b + 45)), va_rf (some (b + 49)), va_rf (some (b + 50))]
section Feed
variable {stf : Nat → Nat} {N K b m : Nat} {β : sB} {δ : sD} {H : xH}
variable {c tc tk cb n nk ncb : Nat} {ad : Nat → Nat}
theorem S_put (hN : 5 < N) (H0 : xH) {k : Nat} (hk : k + 4 ≤ 1200) (g : Nat → Int32) (x : Int32) : F_X11_putBytes N (some b) x (xup (xup H0 (b + 1) (aB 1200 g)) b (bobj b c δ k)) = some (xup (xup H0 (b + 1) (aB 1200 (t4 g k x))) b (bobj b c δ (k + 4))) := by
  have step : ∀ n s k g, k < 1200 → (s = 24 ∨ s = 16 ∨ s = 8 ∨ s = 0) → F_X11_putBytes_L3 N (n + 1) (some b) x s (xup (xup H0 (b + 1) (aB 1200 g)) b (bobj b c δ k)) = F_X11_putBytes_L3 N n (some b) x (s + (-8)) (xup (xup H0 (b + 1) (aB 1200 (upd g k (byt x s)))) b (bobj b c δ (k + 1))) := by
    intro n s k g hk hs
    have n0 : ¬ s < 0 := by rcases hs with rfl | rfl | rfl | rfl <;> decide
    have h1 : ∀ e, (xup e b (bobj b c δ k)).1 b = some (bobj b c δ k) := fun e => xup_at _
    have h2 : (xup (xup H0 (b + 1) (aB 1200 g)) b (bobj b c δ k)).1 (b + 1) = some (aB 1200 g) := by rw [xup_ne _ (by omega)]; exact xup_at _
    have r1 : ∀ e, xgI (xup e b (bobj b c δ k)) (some b) 10 1 = some (nI k) := fun e => gI (h1 e) rfl
    have r2 : ∀ e, xgA (xup e b (bobj b c δ k)) (some b) 10 0 = some (some (b + 1)) := fun e => gA (h1 e) rfl
    have h3 : ∀ y, (xup (xup (xup H0 (b + 1) (aB 1200 g)) b (bobj b c δ k)) (b + 1) y).1 b = some (bobj b c δ k) := fun y => by rw [xup_ne _ (by omega)]; exact xup_at _
    have r3 : ∀ y, xgI (xup (xup (xup H0 (b + 1) (aB 1200 g)) b (bobj b c δ k)) (b + 1) y) (some b) 10 1 = some (nI k) := fun y => gI (h3 y) rfl
    have r4 : ∀ y, xpI (xup (xup (xup H0 (b + 1) (aB 1200 g)) b (bobj b c δ k)) (b + 1) y) (some b) 10 1 (nI (k + 1)) = some (xup (xup (xup (xup H0 (b + 1) (aB 1200 g)) b (bobj b c δ k)) (b + 1) y) b (bobj b c δ (k + 1))) := fun y => by
      unfold xpI
      rw [pV (h3 y) (show (1 : Nat) < 15 by decide)]; rfl
    rw [show F_X11_putBytes_L3 N (n + 1) = F_X11_putBytes_J3 N (F_X11_putBytes_L3 N n) from rfl]
    simp only [F_X11_putBytes_J3, F_X11_putBytes_J49, n0, if_false, r1, r2, nI_pos (show k < 2 ^ 31 by omega), leI h2, nI_ge hk (by decide : 1200 < 2 ^ 31), stI h2 hk (by decide), byt_e x hs, byt_n, r3, nI_1, r4, xW (show b + 1 ≠ b by omega), Option.bind_some, bd2_s]
  obtain ⟨N', hN'⟩ : ∃ N', N = N' + 1 + 1 + 1 + 1 + 1 := ⟨N - 5, by omega⟩
  unfold F_X11_putBytes
  rw [show F_X11_putBytes_L3 N N = F_X11_putBytes_L3 N (N' + 1 + 1 + 1 + 1 + 1) by rw [← hN'], step _ 24 k g (by omega) (by decide), show (24 : Int32) + (-8) = 16 by decide, step _ 16 (k + 1) _ (by omega) (by decide), show (16 : Int32) + (-8) = 8 by decide, step _ 8 (k + 1 + 1) _ (by omega) (by decide), show (8 : Int32) + (-8) = 0 by decide, step _ 0 (k + 1 + 1 + 1) _ (by omega) (by decide)]
  rw [show F_X11_putBytes_L3 N (N' + 1) = F_X11_putBytes_J3 N (F_X11_putBytes_L3 N N') from rfl]
  unfold F_X11_putBytes_J3
  rw [if_pos (by decide)]
  rfl
theorem S_four (hN : 5 < N) (v : Nat → Int32) (H0 : xH) {k : Nat} (hk : k + 4 ≤ 1200) (g : Nat → Int32) (x : Int32) : F_X12_four N (some m) x (xup (xup H0 (m + 20) (aB 1200 g)) m (mo m (upd v 31 (nI k)))) = some (xup (xup H0 (m + 20) (aB 1200 (t4 g k x))) m (mo m (upd v 31 (nI (k + 4))))) := by
  have step : ∀ n s k g, k < 1200 → (s = 24 ∨ s = 16 ∨ s = 8 ∨ s = 0) → F_X12_four_L3 N (n + 1) (some m) x s (xup (xup H0 (m + 20) (aB 1200 g)) m (mo m (upd v 31 (nI k)))) = F_X12_four_L3 N n (some m) x (s + (-8)) (xup (xup H0 (m + 20) (aB 1200 (upd g k (byt x s)))) m (mo m (upd v 31 (nI (k + 1))))) := by
    intro n s k g hk hs
    have n0 : ¬ s < 0 := by rcases hs with rfl | rfl | rfl | rfl <;> decide
    have h1 : ∀ e, (xup e m (mo m (upd v 31 (nI k)))).1 m = some (mo m (upd v 31 (nI k))) := fun e => xup_at _
    have h2 : (xup (xup H0 (m + 20) (aB 1200 g)) m (mo m (upd v 31 (nI k)))).1 (m + 20) = some (aB 1200 g) := by rw [xup_ne _ (by omega)]; exact xup_at _
    have h3 : ∀ y, (xup (xup (xup H0 (m + 20) (aB 1200 g)) m (mo m (upd v 31 (nI k)))) (m + 20) y).1 m = some (mo m (upd v 31 (nI k))) := fun y => by rw [xup_ne _ (by omega)]; exact xup_at _
    have r1 : ∀ e, xgI (xup e m (mo m (upd v 31 (nI k)))) (some m) 11 31 = some (nI k) := fun e => (gI (h1 e) mi31).trans (by rw [pk_us])
    have r3 : ∀ y, xgI (xup (xup (xup H0 (m + 20) (aB 1200 g)) m (mo m (upd v 31 (nI k)))) (m + 20) y) (some m) 11 31 = some (nI k) := fun y => (gI (h3 y) mi31).trans (by rw [pk_us])
    have r4 : ∀ y, xpI (xup (xup (xup H0 (m + 20) (aB 1200 g)) m (mo m (upd v 31 (nI k)))) (m + 20) y) (some m) 11 31 (nI (k + 1)) = some (xup (xup (xup (xup H0 (m + 20) (aB 1200 g)) m (mo m (upd v 31 (nI k)))) (m + 20) y) m (mo m (upd v 31 (nI (k + 1))))) := fun y => by
      rw [mpI (h3 y) (by decide) _ ms31, upd_upd]
    rw [show F_X12_four_L3 N (n + 1) = F_X12_four_J3 N (F_X12_four_L3 N n) from rfl]
    simp only [F_X12_four_J3, n0, if_false, gA (h1 _) ma36, r1, stI h2 hk (by decide), show ((x >>> (s &&& 31))).toInt8.toInt32 = byt x s from rfl, byt_n, r3, nI_1, r4, xW (show m + 20 ≠ m by omega), Option.bind_some, bd2_s]
  obtain ⟨N', hN'⟩ : ∃ N', N = N' + 1 + 1 + 1 + 1 + 1 := ⟨N - 5, by omega⟩
  unfold F_X12_four
  rw [show F_X12_four_L3 N N = F_X12_four_L3 N (N' + 1 + 1 + 1 + 1 + 1) by rw [← hN'], step _ 24 k g (by omega) (by decide), show (24 : Int32) + (-8) = 16 by decide, step _ 16 (k + 1) _ (by omega) (by decide), show (16 : Int32) + (-8) = 8 by decide, step _ 8 (k + 1 + 1) _ (by omega) (by decide), show (8 : Int32) + (-8) = 0 by decide, step _ 0 (k + 1 + 1 + 1) _ (by omega) (by decide)]
  rw [show F_X12_four_L3 N (N' + 1) = F_X12_four_J3 N (F_X12_four_L3 N N') from rfl]
  unfold F_X12_four_J3
  rw [if_pos (by decide)]
  rfl
theorem T_feed (hN : 59049 < N) (h : Rel stf K b m β δ H) (x1 x2 x3 x4 x5 : Int32) : xStep stf K b m (F_X11_feed N (some b) x1 x2 x3 x4 x5) (F_X12_feed N (some m) x1 x2 x3 x4 x5) H := by
  obtain ⟨⟨⟨c, tc, tk, cb, n, nk, ncb, ad, ho⟩, -⟩, v, hm⟩ := id h
  obtain ⟨g0, g1, g2, g3, g4, g5, g6, g7, g8, g9, g10, g11, g12, g13, g14⟩ := ho.g
  obtain ⟨o10, o2, o6, o4, o5, o3, o9⟩ := ho.o
  obtain ⟨k0, k1, k2, k4, k6, k7, k12⟩ := ho.k
  have q := hm.mq
  have qo := q.ob
  have qz := q.z
  obtain ⟨v0, v1, v2, v3, v46, t5, t6, t12⟩ := q.ac
  obtain ⟨tN, g0', tg1, tg2⟩ := ho.2.2.1
  have v31 : xgI H (some m) 11 31 = some (nI (dN δ)) := (gI hm.1.1.1 mi31).trans (by rw [hm.1.2.1.2.1])
  have e20 : nI (dN δ) + (20 : Int32) = nI (dN δ + 20) := by rw [show (20 : Int32) = nI 20 from rfl, nI_add]
  by_cases hle : dN δ + 20 ≤ 1200
  rotate_left
  · refine xStep.rd (r := -1) h ?_ ?_
    · simp only [F_X11_feed, g1, g0, leI tg1, e20, nI_ge (show 1200 < dN δ + 20 by omega) (show dN δ + 20 < 2 ^ 31 by omega), if_false, Option.bind_some, bd2_s]
    · have : ¬ nI (dN δ + 20) ≤ (1200 : Int32) := nI_ge (show 1200 < dN δ + 20 by omega) (show dN δ + 20 < 2 ^ 31 by omega)
      simp only [F_X12_feed, v31, e20, this, if_false, Option.bind_some, bd2_s]
  have hD := ho.1
  obtain ⟨d1, d2, ⟨d3, d4, d5⟩, ⟨d6, d7, d8⟩, -⟩ := id hD
  generalize hk : dN δ = k at *
  have hbb : H.1 b = some (bobj b c δ k) := by
    have := ho.2.1
    unfold xBB at this
    rw [hk] at this
    exact this
  have hW0 : H = xup (xup H (b + 1) (aB 1200 g0')) b (bobj b c δ k) := by rw [xup_id tg1, xup_id hbb]
  have oW : ∀ j g, xob (xup (xup H (b + 1) (aB 1200 g)) b (bobj b c δ j)) (some b) 10 = some b := fun j g => obx (xup_at _)
  generalize hgf : t4 (t4 (t4 (t4 (t4 g0' k x1) (k + 4) x2) (k + 4 + 4) x3) (k + 4 + 4 + 4) x4) (k + 4 + 4 + 4 + 4) x5 = gf
  have hk20 : k + 4 + 4 + 4 + 4 + 4 = k + 20 := by omega
  have C1 : F_X11_feed N (some b) x1 x2 x3 x4 x5 H = some (nI (k + 20), xup (xup H (b + 1) (aB 1200 gf)) b (bobj b c δ (k + 20))) := by
    have p1 := S_put (N := N) (b := b) (c := c) (δ := δ) (by omega) H (show k + 4 ≤ 1200 by omega) g0' x1
    rw [← hW0] at p1
    have p2 := S_put (N := N) (b := b) (c := c) (δ := δ) (by omega) H (show k + 4 + 4 ≤ 1200 by omega) (t4 g0' k x1) x2
    have p3 := S_put (N := N) (b := b) (c := c) (δ := δ) (by omega) H (show k + 4 + 4 + 4 ≤ 1200 by omega) (t4 (t4 g0' k x1) (k + 4) x2) x3
    have p4 := S_put (N := N) (b := b) (c := c) (δ := δ) (by omega) H (show k + 4 + 4 + 4 + 4 ≤ 1200 by omega) (t4 (t4 (t4 g0' k x1) (k + 4) x2) (k + 4 + 4) x3) x4
    have p5 := S_put (N := N) (b := b) (c := c) (δ := δ) (by omega) H (show k + 4 + 4 + 4 + 4 + 4 ≤ 1200 by omega) (t4 (t4 (t4 (t4 g0' k x1) (k + 4) x2) (k + 4 + 4) x3) (k + 4 + 4 + 4) x4) x5
    rw [hgf, hk20] at p5
    have r1 : xgI (xup (xup H (b + 1) (aB 1200 gf)) b (bobj b c δ (k + 20))) (some b) 10 1 = some (nI (k + 20)) := gI (xup_at _) rfl
    simp only [F_X11_feed, g1, g0, leI tg1, e20, nI_le hle (by decide : 1200 < 2 ^ 31), if_true, o10, p1, oW, p2, p3, p4, p5, r1, Option.bind_some, bd2_s]
  generalize hH1 : xup (xup H (b + 1) (aB 1200 gf)) b (bobj b c δ (k + 20)) = H1 at C1
  have kk : ∀ a, a ≠ b → a ≠ b + 1 → H1.1 a = H.1 a := fun a h1 h2 => by rw [← hH1, xup_ne _ h1, xup_ne _ h2]
  have hF1 : Fr (SG b tc) H H1 := ⟨by rw [← hH1]; rfl, fun a ha => kk a (by unfold SG at ha; omega) (by unfold SG at ha; omega)⟩
  have s1 : dL (dK δ (k + 20) gf) = dL δ := rfl
  have hr : RXo stf (K + 1) b m c tc tk cb n nk ncb ad β (dK δ (k + 20) gf) H1 := by
    refine ho.gen hF1 ?_ ?_ ?_ ?_ ?_ ?_ (by show k + 20 ≤ dN δ + 20; omega)
    · show H1.1 b = _
      rw [← hH1]; exact xup_at _
    · exact ⟨hle, gf, by rw [← hH1, xup_ne _ (by omega)]; exact xup_at _, fun j hj => rfl⟩
    · show xTab (b + 15) tc tk n nk β (dL δ) H1
      have := ho.2.2.2.2.2.1
      unfold xTab at this ⊢
      rw [kk _ (by omega) (by omega), kk _ (by omega) (by omega), kk _ (by omega) (by omega), kk _ (by omega) (by omega), kk _ (by omega) (by omega)]
      exact this
    · exact ho.2.2.2.2.2.2.1.fr (fun a a1 a2 => kk a (by omega) (by omega))
    · exact (ho.2.2.2.2.2.2.2.1.fr (H' := H1) (fun a a1 a2 => kk a (by omega) (by omega)) : xImgs b δ H1)
    · exact (ho.2.2.2.2.2.2.2.2.1.fr (H' := H1) (fun a ha => kk a (by omega) (by omega)) : xOdds b δ H1)
  have hm1 : mR m v β δ H1 := hm.1.G hD hF1
  have q1 : mQ m v β (dL δ) H1 := (show CM K m v β δ H1 from ⟨hm1, hm.2⟩).mq
  obtain ⟨⟨n1, ⟨-, -, -, -, -, n46⟩, n47, n26, -⟩, ⟨⟨n5, n31, n35', n51, n62⟩, -, -, -, ⟨gm, n20, n20'⟩, n28, n29, n34, n35, -⟩⟩ := id hm1
  have hV0 : H1 = xup (xup H1 (m + 20) (aB 1200 gm)) m (mo m (upd v 31 (nI k))) := by
    have : upd v 31 (nI k) = v := by rw [← hk, ← n31, upd_id]
    rw [this, xup_id n20, xup_id n1]
  have oV : ∀ j g, xob (xup (xup H1 (m + 20) (aB 1200 g)) m (mo m (upd v 31 (nI j)))) (some m) 11 = some m := fun j g => obx (xup_at _)
  generalize hgm : t4 (t4 (t4 (t4 (t4 gm k x1) (k + 4) x2) (k + 4 + 4) x3) (k + 4 + 4 + 4) x4) (k + 4 + 4 + 4 + 4) x5 = gmf
  have heq : ∀ j, j < k + 20 → gmf j = gf j := by
    have a0 : ∀ j, j < k → gm j = g0' j := fun j hj => by rw [n20' j (by omega), tg2 j (by omega)]
    have a5 := t4_c (x := x5) (t4_c (x := x4) (t4_c (x := x3) (t4_c (x := x2) (t4_c (x := x1) a0))))
    rw [hgf, hgm, hk20] at a5
    exact a5
  generalize hH2 : xup (xup H1 (m + 20) (aB 1200 gmf)) m (mo m (upd v 31 (nI (k + 20)))) = H2
  have kf : ∀ a, a ≠ m → a ≠ m + 20 → H2.1 a = H1.1 a := fun a h1 h2 => by rw [← hH2, xup_ne _ h1, xup_ne _ h2]
  have hmr : mR m (upd v 31 (nI (k + 20))) β (dK δ (k + 20) gf) H2 := by
    refine mR.gen hm1 (fun j hj _ _ _ _ => pk_un hj) (by rw [← hH2]; exact xup_at _) (fun a a1 a2 a3 a4 a5 a6 a7 a8 => kf _ (by omega) (by omega)) (by rw [pk_un (by decide)]; exact n46) (by rw [pk_un (by decide)]; exact n47) (by rw [kf _ (by omega) (by omega)]; exact n26) ⟨rfl, by rw [pk_us]; rfl, rfl, by rw [pk_un (by decide)]; exact n51, by rw [pk_un (by decide)]; exact n62⟩ ⟨gmf, by rw [← hH2, xup_ne _ (by omega)]; exact xup_at _, heq⟩ (by rw [kf _ (by omega) (by omega)]; exact n28) (by rw [kf _ (by omega) (by omega)]; exact n29) (by rw [kf _ (by omega) (by omega)]; exact n34) (by rw [kf _ (by omega) (by omega)]; exact n35)
  have hF2 : Fr (fun q => m ≤ q ∧ q < m + 36) H1 H2 := ⟨by rw [← hH2]; rfl, fun a ha => kf a (by omega) (by omega)⟩
  refine ⟨_, H1, H2, β, dK δ (k + 20) gf, C1, ?_, h.gen ho hF1 hr (hm.2.2.up (Nat.le_succ K)) hm1 hF2 hmr⟩
  have v31' : xgI H1 (some m) 11 31 = some (nI k) := (gI n1 mi31).trans (by rw [n31, hk])
  have hle' : nI (k + 20) ≤ (1200 : Int32) := nI_le hle (by decide : 1200 < 2 ^ 31)
  have p1 := S_four (N := N) (m := m) (by omega) v H1 (show k + 4 ≤ 1200 by omega) gm x1
  rw [← hV0] at p1
  have p2 := S_four (N := N) (m := m) (by omega) v H1 (show k + 4 + 4 ≤ 1200 by omega) (t4 gm k x1) x2
  have p3 := S_four (N := N) (m := m) (by omega) v H1 (show k + 4 + 4 + 4 ≤ 1200 by omega) (t4 (t4 gm k x1) (k + 4) x2) x3
  have p4 := S_four (N := N) (m := m) (by omega) v H1 (show k + 4 + 4 + 4 + 4 ≤ 1200 by omega) (t4 (t4 (t4 gm k x1) (k + 4) x2) (k + 4 + 4) x3) x4
  have p5 := S_four (N := N) (m := m) (by omega) v H1 (show k + 4 + 4 + 4 + 4 + 4 ≤ 1200 by omega) (t4 (t4 (t4 (t4 gm k x1) (k + 4) x2) (k + 4 + 4) x3) (k + 4 + 4 + 4) x4) x5
  rw [hgm, hk20, hH2] at p5
  have r1 : xgI H2 (some m) 11 31 = some (nI (k + 20)) := by rw [← hH2]; exact (gI (xup_at _) mi31).trans (by rw [pk_us])
  simp only [F_X12_feed, v31', e20, hle', if_true, q1.ob, p1, oV, p2, p3, p4, p5, r1, Option.bind_some, bd2_s]
end Feed
