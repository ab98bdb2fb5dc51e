/-! PURE: STEPS image, back. -/
/-- f's first i values laid at o -/
def ist (g : Nat → Int32) (o : Nat) (f : Nat → Int32) (i : Nat) : Nat → Int32 := fun q => if o ≤ q ∧ q < o + i then f (q - o) else g q
theorem ist_0 (g : Nat → Int32) (o : Nat) (f : Nat → Int32) : ist g o f 0 = g := by
  funext q
  unfold ist
  rw [if_neg (by omega)]
theorem ist_s (g : Nat → Int32) (o : Nat) (f : Nat → Int32) (i : Nat) : upd (ist g o f i) (o + i) (f i) = ist g o f (i + 1) := by
  funext q
  by_cases e : q = o + i
  · rw [e, pk_us]
    unfold ist
    rw [if_pos ⟨by omega, by omega⟩, show o + i - o = i by omega]
  · rw [pk_un e]
    unfold ist
    by_cases h : o ≤ q ∧ q < o + i
    · rw [if_pos h, if_pos ⟨h.1, by omega⟩]
    · rw [if_neg h, if_neg (by omega)]
theorem ist_in {g : Nat → Int32} {o : Nat} {f : Nat → Int32} {i j : Nat} (h : j < i) : ist g o f i (o + j) = f j := by
  unfold ist
  rw [if_pos ⟨by omega, by omega⟩, show o + j - o = j by omega]
theorem ist_out {g : Nat → Int32} {o : Nat} {f : Nat → Int32} {i q : Nat} (h : q < o ∨ o + i ≤ q) : ist g o f i q = g q := by
  unfold ist
  rw [if_neg (by omega)]
section Image
variable {stf : Nat → Nat} {N K b m : Nat} {β : sB} {δ : sD} {H : xH}
variable {c tc tk cb n nk ncb : Nat} {ad : Nat → Nat}
theorem T_image (hN : 59049 < N) (h : Rel stf K b m β δ H) : xStep stf K b m (F_X11_image N (some b)) (F_X12_image N (some m)) H := by
  obtain ⟨⟨⟨c, tc, tk, cb, n, nk, ncb, ad, ho⟩, -⟩, v, hm⟩ := id h
  obtain ⟨g0, g1, g2, g3, g4, g5, g6, g7, g8, g9, g10, g11, g12, g13, g14⟩ := ho.g
  obtain ⟨o10, o2, o6, o4, o5, o3, o9⟩ := ho.o
  obtain ⟨k0, k1, k2, k4, k6, k7, k12⟩ := ho.k
  have q := hm.mq
  have qo := q.ob
  have qz := q.z
  obtain ⟨v0, v1, v2, v3, v46, t5, t6, t12⟩ := q.ac
  obtain ⟨i1, ⟨ga, i2, i3⟩, i4, i5⟩ := ho.2.2.2.2.2.2.2.1
  have v62 : xgI H (some m) 11 62 = some (nI (dI δ)) := (gI hm.1.1.1 mi62).trans (by rw [hm.1.2.1.2.2.2.2])
  by_cases hI : dI δ = 4
  · refine xStep.rd (r := -1) h ?_ ?_
    · simp only [F_X11_image, g9, g8, leQ i2, Option.bind_some, bd2_s]
      rw [if_neg (by rw [hI]; decide)]
    · simp only [F_X12_image, v62, Option.bind_some, bd2_s]
      rw [if_pos (by rw [hI]; rfl)]
  have hI4 : dI δ < 4 := by omega
  have hlt : nI (dI δ) < nI 4 := nI_lt hI4 (by decide)
  have hD := ho.1
  obtain ⟨d1, d2, ⟨d3, d4, d5⟩, ⟨d6, d7, d8⟩, -⟩ := id hD
  have hled := ho.2.2.2.2.2.2.1
  obtain ⟨σ0, hσ0⟩ := i5 (dI δ) hI4
  obtain ⟨Ha, a1, a2, a3⟩ := S_become (N := N) (by omega) hσ0 hled (by omega)
  have ka : ∀ a, ¬ (b + 25 + 4 * dI δ ≤ a ∧ a ≤ b + 25 + 4 * dI δ + 3) → Ha.1 a = H.1 a := fun a ha => a3.2 a ha
  have hbb : Ha.1 b = _ := (ka b (by omega)).trans ho.2.1
  have hput : xpI Ha (some b) 10 9 (nI (dI δ + 1)) = some (xup Ha b (ob 10 [va_rf (some (b + 1)), .int (nI (dN δ)), .int (dF δ), .int (dB δ), va_rf (some (b + 2)), va_rf (some c), va_rf (some (b + 15)), va_rf (some (b + 20)), va_rf (some (b + 24)), .int (nI (dI δ + 1)), va_rf (some (b + 41)), va_rf (some (b + 43)), va_rf (some (b + 45)), va_rf (some (b + 49)), va_rf (some (b + 50))])) := by
    unfold xpI
    rw [pV hbb (show (9 : Nat) < 15 by decide)]; rfl
  generalize hH1 : xup Ha b (ob 10 [va_rf (some (b + 1)), .int (nI (dN δ)), .int (dF δ), .int (dB δ), va_rf (some (b + 2)), va_rf (some c), va_rf (some (b + 15)), va_rf (some (b + 20)), va_rf (some (b + 24)), .int (nI (dI δ + 1)), va_rf (some (b + 41)), va_rf (some (b + 43)), va_rf (some (b + 45)), va_rf (some (b + 49)), va_rf (some (b + 50))]) = H1 at hput
  have hobj : xob H (some (b + 25 + 4 * dI δ)) 4 = some (b + 25 + 4 * dI δ) := obx hσ0.1
  have g9' : xgI Ha (some b) 10 9 = some (nI (dI δ)) := gI hbb rfl
  have C1 : F_X11_image N (some b) H = some (nI (dI δ), H1) := by
    simp only [F_X11_image, F_X11_image_J36, g9, g8, leQ i2, hlt, if_true, rdQ i2 hI4 (by decide), i3 _ hI4, reduceCtorEq, if_false, g7, hobj, a1, g9', nI_1, hput, Option.bind_some, bd2_s]
  generalize hδ : ((dL δ, dI δ + 1, (fun k => if k = dI δ then dL δ else dM δ k), dC δ, dN δ, dT δ, dF δ, dB δ) : sD) = δ'
  have s1 : dL δ' = dL δ := by rw [← hδ]; rfl
  have s2 : dI δ' = dI δ + 1 := by rw [← hδ]; rfl
  have s3 : dM δ' = fun k => if k = dI δ then dL δ else dM δ k := by rw [← hδ]; rfl
  have s4 : dC δ' = dC δ := by rw [← hδ]; rfl
  have s5 : dN δ' = dN δ := by rw [← hδ]; rfl
  have s6 : dT δ' = dT δ := by rw [← hδ]; rfl
  have s7 : dF δ' = dF δ := by rw [← hδ]; rfl
  have s8 : dB δ' = dB δ := by rw [← hδ]; rfl
  have kk : ∀ a, a ≠ b → ¬ (b + 25 + 4 * dI δ ≤ a ∧ a ≤ b + 25 + 4 * dI δ + 3) → H1.1 a = H.1 a := fun a h1 h2 => by rw [← hH1, xup_ne _ h1, ka a h2]
  have hF1 : Fr (SG b tc) H H1 := ⟨by rw [← hH1]; exact a3.1, fun a ha => kk a (by unfold SG at ha; omega) (by unfold SG at ha; omega)⟩
  have hr : RXo stf (K + 1) b m c tc tk cb n nk ncb ad β δ' H1 := by
    refine ho.gen hF1 ?_ ?_ ?_ ?_ ?_ ?_ (by rw [s5]; omega)
    · unfold xBB; rw [s2, s5, s7, s8, ← hH1]; exact xup_at _
    · unfold xTape; rw [s5, s6, kk _ (by omega) (by omega)]; exact ho.2.2.1
    · rw [s1]
      have := ho.2.2.2.2.2.1
      unfold xTab at this ⊢
      rw [kk _ (by omega) (by omega), kk _ (by omega) (by omega), kk _ (by omega) (by omega), kk _ (by omega) (by omega), kk _ (by omega) (by omega)]
      exact this
    · rw [s1]; exact hled.fr (fun a a1 a2 => kk a (by omega) (by omega))
    · have hnew : xLed (b + 25 + 4 * dI δ) (dL δ) H1 := a2.fr (fun a a1 a2 => by rw [← hH1, xup_ne _ (by omega)])
      have hold : ∀ k σ, k ≠ dI δ → xLed (b + 25 + 4 * k) σ H → xLed (b + 25 + 4 * k) σ H1 := fun k σ hne hk => hk.fr (fun a a1 a2 => kk a (by omega) (by omega))
      refine ⟨by rw [s2]; omega, ⟨ga, by rw [kk _ (by omega) (by omega)]; exact i2, i3⟩, fun k hk => ?_, fun k hk => ?_⟩
      · simp only [s3]
        by_cases e : k = dI δ
        · rw [if_pos e, e]; exact hnew
        · rw [if_neg e]; rw [s2] at hk; exact hold k _ e (i4 k (by omega))
      · by_cases e : k = dI δ
        · rw [e]; exact ⟨_, hnew⟩
        · obtain ⟨σ, hσ⟩ := i5 k hk
          exact ⟨σ, hold k σ e hσ⟩
    · have := ho.2.2.2.2.2.2.2.2.1
      unfold xOdds at this ⊢
      rw [s4, kk _ (by omega) (by omega), kk _ (by omega) (by omega)]; exact this
  have hm1 : mR m v β δ H1 := hm.1.G hD hF1
  have q1 : mQ m v β (dL δ) H1 := (show CM K m v β δ H1 from ⟨hm1, hm.2⟩).mq
  obtain ⟨⟨n1, ⟨-, -, -, -, -, n46⟩, ⟨cb0, n47a, n47b, n47c⟩, ⟨g26, n26, n26'⟩, -⟩, ⟨⟨n5, n31, n35', n51, n62⟩, -, -, -, n20, ⟨g28, n28, n28'⟩, ⟨g29, n29, n29'⟩, n34, ⟨gi, n35, n35c⟩, -⟩⟩ := id hm1
  generalize hIe : dI δ = I at *
  have ob : ∀ g, (xup H1 (m + 35) (aI 160 g)).1 m = some (mo m v) := fun g => by rw [xup_ne _ (by omega)]; exact n1
  have wr : ∀ (g : Nat → Int32) p x, p < 160 → xsI .int (xup H1 (m + 35) (aI 160 g)) (some (m + 35)) (nI p) x = some (xup H1 (m + 35) (aI 160 (upd g p x))) := fun g p x hp => by rw [stI (xup_at _) hp (by decide), vnI, xup_up]
  have gim : ∀ g, xgA (xup H1 (m + 35) (aI 160 g)) (some m) 11 63 = some (some (m + 35)) := fun g => gA (ob g) ma63
  have r26 : ∀ g j, j < 5 → xlI .int (xup H1 (m + 35) (aI 160 g)) (some (m + 26)) (nI j) = some (g26 j) := fun g j hj => rdI (by rw [xup_ne _ (by omega)]; exact n26) hj (by decide)
  have r28 : ∀ g j, j < 24 → xlI .int (xup H1 (m + 35) (aI 160 g)) (some (m + 28)) (nI j) = some (g28 j) := fun g j hj => rdI (by rw [xup_ne _ (by omega)]; exact n28) hj (by decide)
  have r29 : ∀ g j, j < 6 → xlI .int (xup H1 (m + 35) (aI 160 g)) (some (m + 29)) (nI j) = some (g29 j) := fun g j hj => rdI (by rw [xup_ne _ (by omega)]; exact n29) hj (by decide)
  have e40 : (40 : Int32) * nI I = nI (40 * I) := by rw [show (40 : Int32) = nI 40 from rfl, pk_mul]
  have o3 : ∀ i, nI (40 * I) + (3 : Int32) + nI i = nI (40 * I + 3 + i) := fun i => by rw [show (3 : Int32) = nI 3 from rfl, nI_add, nI_add]
  have o8 : ∀ i, nI (40 * I) + (8 : Int32) + nI i = nI (40 * I + 8 + i) := fun i => by rw [show (8 : Int32) = nI 8 from rfl, nI_add, nI_add]
  have o32 : ∀ i, nI (40 * I) + (32 : Int32) + nI i = nI (40 * I + 32 + i) := fun i => by rw [show (32 : Int32) = nI 32 from rfl, nI_add, nI_add]
  have L1 : ∀ g, F_X12_image_L54 N (F_X12_image_J81 N) N (some m) (nI (40 * I)) 0 (xup H1 (m + 35) (aI 160 g)) = F_X12_image_J81 N (some m) (nI (40 * I)) (xup H1 (m + 35) (aI 160 (ist g (40 * I + 3) g26 5))) := fun g => by
    have key := upto (s := 5) (P := fun n i => F_X12_image_L54 N (F_X12_image_J81 N) n (some m) (nI (40 * I)) (nI i) (xup H1 (m + 35) (aI 160 (ist g (40 * I + 3) g26 i))) = F_X12_image_J81 N (some m) (nI (40 * I)) (xup H1 (m + 35) (aI 160 (ist g (40 * I + 3) g26 5)))) (fun n => by
      rw [show F_X12_image_L54 N (F_X12_image_J81 N) (n + 1) = F_X12_image_J54 N (F_X12_image_L54 N (F_X12_image_J81 N) n) (F_X12_image_J81 N) from rfl]
      simp only [F_X12_image_J54, show (5 : Int32) ≤ nI 5 from by decide, if_true]) (fun n i hi ih => by
      have i5 : ¬ (5 : Int32) ≤ nI i := nI_ge hi (by decide)
      rw [show F_X12_image_L54 N (F_X12_image_J81 N) (n + 1) = F_X12_image_J54 N (F_X12_image_L54 N (F_X12_image_J81 N) n) (F_X12_image_J81 N) from rfl]
      simp only [F_X12_image_J54, i5, if_false, gim, gA (ob _) ma48, r26 _ i hi, o3, wr _ _ _ (show 40 * I + 3 + i < 160 by omega), ist_s, nI_1, Option.bind_some, bd2_s]
      exact ih) N 0 (by omega) (by omega)
    rw [ist_0] at key
    exact key
  have L2 : ∀ g, F_X12_image_J81 N (some m) (nI (40 * I)) (xup H1 (m + 35) (aI 160 g)) = F_X12_image_J112 N (some m) (nI (40 * I)) (xup H1 (m + 35) (aI 160 (ist g (40 * I + 8) g28 24))) := fun g => by
    have key := upto (s := 24) (P := fun n i => F_X12_image_L83 N (F_X12_image_J112 N) n (some m) (nI (40 * I)) (nI i) (xup H1 (m + 35) (aI 160 (ist g (40 * I + 8) g28 i))) = F_X12_image_J112 N (some m) (nI (40 * I)) (xup H1 (m + 35) (aI 160 (ist g (40 * I + 8) g28 24)))) (fun n => by
      rw [show F_X12_image_L83 N (F_X12_image_J112 N) (n + 1) = F_X12_image_J83 N (F_X12_image_L83 N (F_X12_image_J112 N) n) (F_X12_image_J112 N) from rfl]
      simp only [F_X12_image_J83, show (24 : Int32) ≤ nI 24 from by decide, if_true]) (fun n i hi ih => by
      have i5 : ¬ (24 : Int32) ≤ nI i := nI_ge hi (by decide)
      rw [show F_X12_image_L83 N (F_X12_image_J112 N) (n + 1) = F_X12_image_J83 N (F_X12_image_L83 N (F_X12_image_J112 N) n) (F_X12_image_J112 N) from rfl]
      simp only [F_X12_image_J83, i5, if_false, gim, gA (ob _) ma52, r28 _ i hi, o8, wr _ _ _ (show 40 * I + 8 + i < 160 by omega), ist_s, nI_1, Option.bind_some, bd2_s]
      exact ih) N 0 (by omega) (by omega)
    rw [ist_0] at key
    exact key
  have L3 : ∀ g, F_X12_image_J112 N (some m) (nI (40 * I)) (xup H1 (m + 35) (aI 160 g)) = F_X12_image_J143 N (some m) (xup H1 (m + 35) (aI 160 (ist g (40 * I + 32) g29 6))) := fun g => by
    have key := upto (s := 6) (P := fun n i => F_X12_image_L114 N (F_X12_image_J143 N) n (some m) (nI (40 * I)) (nI i) (xup H1 (m + 35) (aI 160 (ist g (40 * I + 32) g29 i))) = F_X12_image_J143 N (some m) (xup H1 (m + 35) (aI 160 (ist g (40 * I + 32) g29 6)))) (fun n => by
      rw [show F_X12_image_L114 N (F_X12_image_J143 N) (n + 1) = F_X12_image_J114 N (F_X12_image_L114 N (F_X12_image_J143 N) n) (F_X12_image_J143 N) from rfl]
      simp only [F_X12_image_J114, show (6 : Int32) ≤ nI 6 from by decide, if_true]) (fun n i hi ih => by
      have i5 : ¬ (6 : Int32) ≤ nI i := nI_ge hi (by decide)
      rw [show F_X12_image_L114 N (F_X12_image_J143 N) (n + 1) = F_X12_image_J114 N (F_X12_image_L114 N (F_X12_image_J143 N) n) (F_X12_image_J143 N) from rfl]
      simp only [F_X12_image_J114, i5, if_false, gim, gA (ob _) ma53, r29 _ i hi, o32, wr _ _ _ (show 40 * I + 32 + i < 160 by omega), ist_s, nI_1, Option.bind_some, bd2_s]
      exact ih) N 0 (by omega) (by omega)
    rw [ist_0] at key
    exact key
  generalize hgf : ist (ist (ist (upd (upd (upd gi (40 * I) (nI (lT (dL δ)))) (40 * I + 1) (nI cb0)) (40 * I + 2) (lS (dL δ))) (40 * I + 3) g26 5) (40 * I + 8) g28 24) (40 * I + 32) g29 6 = gf
  have hgf0 : ∀ q, q < 40 * I ∨ 40 * I + 38 ≤ q → gf q = gi q := fun q hq => by
    rw [← hgf, ist_out (by omega), ist_out (by omega), ist_out (by omega), pk_un (by omega), pk_un (by omega), pk_un (by omega)]
  have hnewI : mImg gf I (dL δ) := by
    refine ⟨?_, ⟨cb0, n47a, ?_, n47c⟩, ?_, fun j hj hc => ?_, fun j hj => ?_, fun j hj => ?_⟩
    · rw [← hgf, ist_out (by omega), ist_out (by omega), ist_out (by omega), pk_un (by omega), pk_un (by omega), pk_us]
    · rw [← hgf, ist_out (by omega), ist_out (by omega), ist_out (by omega), pk_un (by omega), pk_us]
    · rw [← hgf, ist_out (by omega), ist_out (by omega), ist_out (by omega), pk_us]
    · rw [← hgf, ist_out (by omega), ist_out (by omega), ist_in hj]; exact n26' j hj hc
    · rw [← hgf, ist_out (by omega), ist_in hj]; exact n28' j hj
    · rw [← hgf, ist_in hj]; exact n29' j hj
  have holdI : ∀ k, k < I → mImg gf k (dM δ k) := fun k hk => by
    obtain ⟨z1, ⟨cz, z2, z3, z4⟩, z5, z6, z7, z8⟩ := n35c k hk
    refine ⟨?_, ⟨cz, z2, ?_, z4⟩, ?_, fun j hj hc => ?_, fun j hj => ?_, fun j hj => ?_⟩
    · rw [hgf0 _ (by omega)]; exact z1
    · rw [hgf0 _ (by omega)]; exact z3
    · rw [hgf0 _ (by omega)]; exact z5
    · rw [hgf0 _ (by omega)]; exact z6 j hj hc
    · rw [hgf0 _ (by omega)]; exact z7 j hj
    · rw [hgf0 _ (by omega)]; exact z8 j hj
  generalize hH2 : xup (xup H1 (m + 35) (aI 160 gf)) m (mo m (upd v 62 (nI (I + 1)))) = H2
  have kf : ∀ a, a ≠ m → a ≠ m + 35 → H2.1 a = H1.1 a := fun a h1 h2 => by rw [← hH2, xup_ne _ h1, xup_ne _ h2]
  have hmr : mR m (upd v 62 (nI (I + 1))) β δ' H2 := by
    refine mR.gen hm1 (fun j _ _ _ _ hj => pk_un hj) (by rw [← hH2]; exact xup_at _) (fun a a1 a2 a3 a4 a5 a6 a7 a8 => kf _ (by omega) (by omega)) (by rw [s1, pk_un (by decide)]; exact n46) (by rw [s1, pk_un (by decide)]; exact ⟨cb0, n47a, n47b, n47c⟩) (by rw [s1, kf _ (by omega) (by omega)]; exact ⟨g26, n26, n26'⟩) ⟨s8, by rw [s5, pk_un (by decide)]; exact n31, s7, by rw [s1, pk_un (by decide)]; exact n51, by rw [s2, pk_us]⟩ (by rw [s5, s6, kf _ (by omega) (by omega)]; exact n20) (by rw [s1, kf _ (by omega) (by omega)]; exact ⟨g28, n28, n28'⟩) (by rw [s1, kf _ (by omega) (by omega)]; exact ⟨g29, n29, n29'⟩) (by rw [s4, kf _ (by omega) (by omega)]; exact n34) ⟨gf, by rw [← hH2, xup_ne _ (by omega)]; exact xup_at _, fun k hk => ?_⟩
    simp only [s3]
    rw [s2] at hk
    by_cases e : k = I
    · rw [if_pos e, e]; exact hnewI
    · rw [if_neg e]; exact holdI k (by omega)
  have hdd : dOk (K + 1) β δ' := by
    obtain ⟨z1, z2, z3⟩ := hm.2.2.up (Nat.le_succ K)
    refine ⟨by rw [s1]; exact z1, fun k hk => ?_, by rw [s4]; exact z3⟩
    simp only [s3]
    rw [s2] at hk
    by_cases e : k = I
    · rw [if_pos e]; exact z1
    · rw [if_neg e]; exact z2 k (by omega)
  have hF2 : Fr (fun q => m ≤ q ∧ q < m + 36) H1 H2 := ⟨by rw [← hH2]; rfl, fun a ha => kf a (by omega) (by omega)⟩
  refine ⟨_, H1, H2, β, δ', C1, ?_, h.gen ho hF1 hr hdd hm1 hF2 hmr⟩
  have v62' : xgI H1 (some m) 11 62 = some (nI I) := (gI n1 mi62).trans (by rw [n62])
  have hI4' : ¬ nI I = 4 := fun e => hI ((nI_eq (b := 4) (by omega) (by decide)).mp e)
  have v46' : xgI H1 (some m) 11 46 = some (nI (lT (dL δ))) := (gI n1 mi46).trans (by rw [n46])
  have w0 : xsI .int H1 (some (m + 35)) (nI (40 * I)) (nI (lT (dL δ))) = some (xup H1 (m + 35) (aI 160 (upd gi (40 * I) (nI (lT (dL δ)))))) := by rw [stI n35 (show 40 * I < 160 by omega) (by decide), vnI]
  have v47' : ∀ g, xgI (xup H1 (m + 35) (aI 160 g)) (some m) 11 47 = some (nI cb0) := fun g => (gI (ob g) mi47).trans (by rw [n47b])
  have v51' : ∀ g, xgI (xup H1 (m + 35) (aI 160 g)) (some m) 11 51 = some (lS (dL δ)) := fun g => (gI (ob g) mi51).trans (by rw [n51])
  have e41 : nI (40 * I) + (1 : Int32) = nI (40 * I + 1) := nI_1 _
  have e42 : nI (40 * I) + (2 : Int32) = nI (40 * I + 2) := by rw [show (2 : Int32) = nI 2 from rfl, nI_add]
  have v62'' : xgI (xup H1 (m + 35) (aI 160 gf)) (some m) 11 62 = some (nI I) := (gI (ob gf) mi62).trans (by rw [n62])
  have v62''' : xgI H2 (some m) 11 62 = some (nI (I + 1)) := by rw [← hH2]; exact (gI (xup_at _) mi62).trans (by rw [pk_us])
  simp only [F_X12_image, v62', hI4', if_false, gA n1 ma63, e40, v46', w0, gim, v47', e41, wr _ _ _ (show 40 * I + 1 < 160 by omega), v51', e42, wr _ _ _ (show 40 * I + 2 < 160 by omega), L1, L2, L3, hgf, F_X12_image_J143, v62'', mpI (ob gf) (by decide : 62 < 64) _ ms62, nI_1, hH2, v62''', nI_pred, Option.bind_some, bd2_s]
theorem T_back (hN : 59049 < N) (h : Rel stf K b m β δ H) (x : Int32) : xStep stf K b m (F_X11_back N (some b) x) (F_X12_back N (some m) x) H := by
  obtain ⟨⟨⟨c, tc, tk, cb, n, nk, ncb, ad, ho⟩, -⟩, v, hm⟩ := id h
  obtain ⟨g0, g1, g2, g3, g4, g5, g6, g7, g8, g9, g10, g11, g12, g13, g14⟩ := ho.g
  obtain ⟨o10, o2, o6, o4, o5, o3, o9⟩ := ho.o
  obtain ⟨k0, k1, k2, k4, k6, k7, k12⟩ := ho.k
  have q := hm.mq
  have qo := q.ob
  have qz := q.z
  obtain ⟨v0, v1, v2, v3, v46, t5, t6, t12⟩ := q.ac
  obtain ⟨i1, ⟨ga, i2, i3⟩, i4, i5⟩ := ho.2.2.2.2.2.2.2.1
  have v62 : xgI H (some m) 11 62 = some (nI (dI δ)) := (gI hm.1.1.1 mi62).trans (by rw [hm.1.2.1.2.2.2.2])
  rcases ix3 x (show dI δ < 2 ^ 31 by omega) with hx | ⟨i, hi, rfl⟩
  · refine xStep.rd (r := 0) h ?_ ?_
    · unfold F_X11_back
      by_cases x0 : x < 0
      · rw [if_pos x0]
      · rw [if_neg x0, g9]
        simp only [Option.bind_some, bd2_s]
        rw [if_pos (hx.resolve_left x0)]
    · simp only [F_X12_back, v62, S_inO (show dI δ < 2 ^ 31 by omega) hx, if_true, Option.bind_some, bd2_s]
  have hD := ho.1
  obtain ⟨d1, d2, ⟨d3, d4, d5⟩, ⟨d6, d7, d8⟩, -⟩ := id hD
  have hled := ho.2.2.2.2.2.2.1
  have himg := i4 i hi
  obtain ⟨Ha, a1, a2, a3⟩ := S_become (N := N) (by omega) hled himg (by omega)
  have hla := hm.2.2.2.1 i hi
  generalize hσ : dM δ i = σ at *
  have hFa : Fr (fun q => q = b + 15 ∨ q = tc ∨ q = b + 18 ∨ q = b + 19 ∨ (b + 20 ≤ q ∧ q ≤ b + 23)) H Ha := a3.mono (fun q hq => by omega)
  have hTa : xTab (b + 15) tc tk n nk β (dL δ) Ha := by
    have := ho.2.2.2.2.2.1
    unfold xTab at this ⊢
    rw [a3.2 _ (by omega), a3.2 _ (by omega), a3.2 _ (by omega), a3.2 _ (by omega), a3.2 _ (by omega)]
    exact this
  obtain ⟨H1, b1, b2, b3, b4, b5⟩ := ho.mk hN hm.2.1 (σ := σ) hla.1.1 hla.1.2.1 hFa hTa a2
  have gg := ho.pre hFa hTa
  have n0 : ¬ nI i < 0 := nI_pos (by omega)
  have nI' : ¬ nI (dI δ) ≤ nI i := nI_ge hi (by omega)
  have n4 : ¬ nI 4 ≤ nI i := nI_ge (show i < 4 by omega) (by decide)
  have C1 : F_X11_back N (some b) (nI i) H = some (1, H1) := by
    simp only [F_X11_back, n0, if_false, g9, nI', g8, leQ i2, n4, rdQ i2 (show i < 4 by omega) (by decide), i3 _ (show i < 4 by omega), reduceCtorEq, g7, o4, a1, gg.1, gg.2.1, gg.2.2.1, b1, Option.bind_some, bd2_s]
  have hm1 : mR m v β δ H1 := hm.1.l hD b3
  have q1 : mQ m v β (dL δ) H1 := (show CM K m v β δ H1 from ⟨hm1, hm.2⟩).mq
  obtain ⟨⟨n1, ⟨-, -, -, -, -, n46⟩, ⟨cb0, n47a, n47b, n47c⟩, ⟨g26, n26, n26'⟩, -⟩, ⟨⟨n5, n31, n35', n51, n62⟩, -, -, -, n20, ⟨g28, n28, n28'⟩, ⟨g29, n29, n29'⟩, n34, ⟨gi, n35, n35c⟩, -⟩⟩ := id hm1
  obtain ⟨z1, ⟨cz, z2, z3, z4⟩, z5, z6, z7, z8⟩ := n35c i hi
  rw [hσ] at z1 z4 z5 z6 z7 z8
  generalize hva : upd (upd (upd v 46 (gi (40 * i))) 47 (gi (40 * i + 1))) 51 (gi (40 * i + 2)) = va
  have ob1 : ∀ w, (xup H1 m (mo m w)).1 m = some (mo m w) := fun w => xup_at _
  have kh : ∀ w a, 1 ≤ a → (xup H1 m (mo m w)).1 (m + a) = H1.1 (m + a) := fun w a ha => xup_ne _ (by omega)
  have e40 : (40 : Int32) * nI i = nI (40 * i) := by rw [show (40 : Int32) = nI 40 from rfl, pk_mul]
  have i160 : 40 * i + 40 ≤ 160 := by omega
  -- the three copies
  have st : ∀ (d k off : Nat) (Hx : xH) (g0 : Nat → Int32), d ≠ 0 → d ≠ 35 → k < 2 ^ 31 → Hx.1 (m + d) = some (aI k g0) → Hx.1 (m + 35) = some (aI 160 gi) → Hx.1 m = some (mo m va) → (∀ g, (xup Hx (m + d) (aI k g)).1 m = some (mo m va)) ∧ (∀ g p, p < 160 → xlI .int (xup Hx (m + d) (aI k g)) (some (m + 35)) (nI p) = some (gi p)) ∧ ∀ (g : Nat → Int32) p y, p < k → xsI .int (xup Hx (m + d) (aI k g)) (some (m + d)) (nI p) y = some (xup Hx (m + d) (aI k (upd g p y))) := fun d k off Hx g0 h1 h2 hk3 h3 h4 h5 =>
    ⟨fun g => by rw [xup_ne _ (by omega)]; exact h5, fun g p hp => rdI (by rw [xup_ne _ (by omega)]; exact h4) hp (by decide), fun g p y hp => by rw [stI (xup_at _) hp hk3, vnI, xup_up]⟩
  have o3 : ∀ j, nI (40 * i) + (3 : Int32) + nI j = nI (40 * i + 3 + j) := fun j => by rw [show (3 : Int32) = nI 3 from rfl, nI_add, nI_add]
  have o8 : ∀ j, nI (40 * i) + (8 : Int32) + nI j = nI (40 * i + 8 + j) := fun j => by rw [show (8 : Int32) = nI 8 from rfl, nI_add, nI_add]
  have o32 : ∀ j, nI (40 * i) + (32 : Int32) + nI j = nI (40 * i + 32 + j) := fun j => by rw [show (32 : Int32) = nI 32 from rfl, nI_add, nI_add]
  generalize hHb : xup H1 m (mo m va) = Hb
  have obb : Hb.1 m = some (mo m va) := by rw [← hHb]; exact xup_at _
  have khb : ∀ a, 1 ≤ a → Hb.1 (m + a) = H1.1 (m + a) := fun a ha => by rw [← hHb]; exact kh va a ha
  have b26 : Hb.1 (m + 26) = some (aI 5 g26) := (khb 26 (by decide)).trans n26
  have b35 : Hb.1 (m + 35) = some (aI 160 gi) := (khb 35 (by decide)).trans n35
  obtain ⟨p1, p2, p3⟩ := st 26 5 3 Hb g26 (by decide) (by decide) (by decide) b26 b35 obb
  have L1 : F_X12_back_L57 N (F_X12_back_J84 N) N (some m) (nI (40 * i)) 0 Hb = F_X12_back_J84 N (some m) (nI (40 * i)) (xup Hb (m + 26) (aI 5 (ist g26 0 (fun j => gi (40 * i + 3 + j)) 5))) := by
    have key := upto (s := 5) (P := fun n j => F_X12_back_L57 N (F_X12_back_J84 N) n (some m) (nI (40 * i)) (nI j) (xup Hb (m + 26) (aI 5 (ist g26 0 (fun j => gi (40 * i + 3 + j)) j))) = F_X12_back_J84 N (some m) (nI (40 * i)) (xup Hb (m + 26) (aI 5 (ist g26 0 (fun j => gi (40 * i + 3 + j)) 5)))) (fun n => by
      rw [show F_X12_back_L57 N (F_X12_back_J84 N) (n + 1) = F_X12_back_J57 N (F_X12_back_L57 N (F_X12_back_J84 N) n) (F_X12_back_J84 N) from rfl]
      simp only [F_X12_back_J57, show (5 : Int32) ≤ nI 5 from by decide, if_true]) (fun n j hj ih => by
      have i5 : ¬ (5 : Int32) ≤ nI j := nI_ge hj (by decide)
      rw [show F_X12_back_L57 N (F_X12_back_J84 N) (n + 1) = F_X12_back_J57 N (F_X12_back_L57 N (F_X12_back_J84 N) n) (F_X12_back_J84 N) from rfl]
      simp only [F_X12_back_J57, i5, if_false, gA (p1 _) ma48, gA (p1 _) ma63, o3, p2 _ _ (show 40 * i + 3 + j < 160 by omega), p3 _ _ _ hj, nI_1, Option.bind_some, bd2_s]
      have es := ist_s g26 0 (fun j => gi (40 * i + 3 + j)) j
      rw [Nat.zero_add] at es
      rw [es]
      exact ih) N 0 (by omega) (by omega)
    rw [ist_0, xup_id b26] at key
    exact key
  generalize hHc : xup Hb (m + 26) (aI 5 (ist g26 0 (fun j => gi (40 * i + 3 + j)) 5)) = Hc at L1
  have kc : ∀ a, a ≠ 26 → Hc.1 (m + a) = Hb.1 (m + a) := fun a ha => by rw [← hHc, xup_ne _ (by omega)]
  have obc : Hc.1 m = some (mo m va) := by rw [← hHc]; exact p1 _
  have c28 : Hc.1 (m + 28) = some (aI 24 g28) := (kc 28 (by decide)).trans ((khb 28 (by decide)).trans n28)
  have c35 : Hc.1 (m + 35) = some (aI 160 gi) := (kc 35 (by decide)).trans b35
  obtain ⟨p4, p5, p6⟩ := st 28 24 8 Hc g28 (by decide) (by decide) (by decide) c28 c35 obc
  have L2 : F_X12_back_J84 N (some m) (nI (40 * i)) Hc = F_X12_back_J115 N (some m) (nI (40 * i)) (xup Hc (m + 28) (aI 24 (ist g28 0 (fun j => gi (40 * i + 8 + j)) 24))) := by
    have key := upto (s := 24) (P := fun n j => F_X12_back_L86 N (F_X12_back_J115 N) n (some m) (nI (40 * i)) (nI j) (xup Hc (m + 28) (aI 24 (ist g28 0 (fun j => gi (40 * i + 8 + j)) j))) = F_X12_back_J115 N (some m) (nI (40 * i)) (xup Hc (m + 28) (aI 24 (ist g28 0 (fun j => gi (40 * i + 8 + j)) 24)))) (fun n => by
      rw [show F_X12_back_L86 N (F_X12_back_J115 N) (n + 1) = F_X12_back_J86 N (F_X12_back_L86 N (F_X12_back_J115 N) n) (F_X12_back_J115 N) from rfl]
      simp only [F_X12_back_J86, show (24 : Int32) ≤ nI 24 from by decide, if_true]) (fun n j hj ih => by
      have i5 : ¬ (24 : Int32) ≤ nI j := nI_ge hj (by decide)
      rw [show F_X12_back_L86 N (F_X12_back_J115 N) (n + 1) = F_X12_back_J86 N (F_X12_back_L86 N (F_X12_back_J115 N) n) (F_X12_back_J115 N) from rfl]
      simp only [F_X12_back_J86, i5, if_false, gA (p4 _) ma52, gA (p4 _) ma63, o8, p5 _ _ (show 40 * i + 8 + j < 160 by omega), p6 _ _ _ hj, nI_1, Option.bind_some, bd2_s]
      have es := ist_s g28 0 (fun j => gi (40 * i + 8 + j)) j
      rw [Nat.zero_add] at es
      rw [es]
      exact ih) N 0 (by omega) (by omega)
    rw [ist_0, xup_id c28] at key
    exact key
  generalize hHd : xup Hc (m + 28) (aI 24 (ist g28 0 (fun j => gi (40 * i + 8 + j)) 24)) = Hd at L2
  have kd : ∀ a, a ≠ 28 → Hd.1 (m + a) = Hc.1 (m + a) := fun a ha => by rw [← hHd, xup_ne _ (by omega)]
  have obd : Hd.1 m = some (mo m va) := by rw [← hHd]; exact p4 _
  have e29 : Hd.1 (m + 29) = some (aI 6 g29) := (kd 29 (by decide)).trans ((kc 29 (by decide)).trans ((khb 29 (by decide)).trans n29))
  have e35 : Hd.1 (m + 35) = some (aI 160 gi) := (kd 35 (by decide)).trans c35
  obtain ⟨p7, p8, p9⟩ := st 29 6 32 Hd g29 (by decide) (by decide) (by decide) e29 e35 obd
  have L3 : F_X12_back_J115 N (some m) (nI (40 * i)) Hd = some (1, xup Hd (m + 29) (aI 6 (ist g29 0 (fun j => gi (40 * i + 32 + j)) 6))) := by
    have key := upto (s := 6) (P := fun n j => F_X12_back_L117 N n (some m) (nI (40 * i)) (nI j) (xup Hd (m + 29) (aI 6 (ist g29 0 (fun j => gi (40 * i + 32 + j)) j))) = some (1, xup Hd (m + 29) (aI 6 (ist g29 0 (fun j => gi (40 * i + 32 + j)) 6)))) (fun n => by
      rw [show F_X12_back_L117 N (n + 1) = F_X12_back_J117 N (F_X12_back_L117 N n) from rfl]
      simp only [F_X12_back_J117, show (6 : Int32) ≤ nI 6 from by decide, if_true]) (fun n j hj ih => by
      have i5 : ¬ (6 : Int32) ≤ nI j := nI_ge hj (by decide)
      rw [show F_X12_back_L117 N (n + 1) = F_X12_back_J117 N (F_X12_back_L117 N n) from rfl]
      simp only [F_X12_back_J117, i5, if_false, gA (p7 _) ma53, gA (p7 _) ma63, o32, p8 _ _ (show 40 * i + 32 + j < 160 by omega), p9 _ _ _ hj, nI_1, Option.bind_some, bd2_s]
      have es := ist_s g29 0 (fun j => gi (40 * i + 32 + j)) j
      rw [Nat.zero_add] at es
      rw [es]
      exact ih) N 0 (by omega) (by omega)
    rw [ist_0, xup_id e29] at key
    exact key
  generalize hHe : xup Hd (m + 29) (aI 6 (ist g29 0 (fun j => gi (40 * i + 32 + j)) 6)) = He at L3
  have ke : ∀ a, a ≠ 29 → He.1 (m + a) = Hd.1 (m + a) := fun a ha => by rw [← hHe, xup_ne _ (by omega)]
  have kall : ∀ a, a ≠ 0 → a ≠ 26 → a ≠ 28 → a ≠ 29 → He.1 (m + a) = H1.1 (m + a) := fun a h0 h1 h2 h3 => by rw [ke a h3, kd a h2, kc a h1, khb a (by omega)]
  have iz : ∀ (g f : Nat → Int32) k j, j < k → ist g 0 f k j = f j := fun g f k j hj => by
    have := ist_in (g := g) (o := 0) (f := f) hj
    rwa [Nat.zero_add] at this
  have hv46 : va 46 = gi (40 * i) := by rw [← hva, pk_un (by decide), pk_un (by decide), pk_us]
  have hv47 : va 47 = gi (40 * i + 1) := by rw [← hva, pk_un (by decide), pk_us]
  have hv51 : va 51 = gi (40 * i + 2) := by rw [← hva, pk_us]
  have hvo : ∀ j, j ≠ 46 → j ≠ 47 → j ≠ 51 → va j = v j := fun j h1 h2 h3 => by rw [← hva, pk_un h3, pk_un h2, pk_un h1]
  have hmr : mR m va β (σ, δ.2) He := by
    refine mR.gen hm1 (fun j _ h1 h2 h3 _ => hvo j h1 h2 h3) (by rw [← hHe]; exact p7 _) (fun a a1 a2 a3 a4 a5 a6 a7 a8 => kall a (by omega) a4 a5 a6) (hv46.trans z1) ⟨cz, z2, hv47.trans z3, z4⟩ ⟨_, by rw [ke _ (by decide), kd _ (by decide), ← hHc]; exact xup_at _, fun j hj hc => by rw [iz _ _ _ _ hj]; exact z6 j hj hc⟩ ⟨rfl, (hvo 31 (by decide) (by decide) (by decide)).trans n31, rfl, hv51.trans z5, (hvo 62 (by decide) (by decide) (by decide)).trans n62⟩ (by rw [kall 20 (by decide) (by decide) (by decide) (by decide)]; exact n20) ⟨_, by rw [ke _ (by decide), ← hHd]; exact xup_at _, fun j hj => by rw [iz _ _ _ _ hj]; exact z7 j hj⟩ ⟨_, by rw [← hHe]; exact xup_at _, fun j hj => by rw [iz _ _ _ _ hj]; exact z8 j hj⟩ (by rw [kall 34 (by decide) (by decide) (by decide) (by decide)]; exact n34) (by rw [kall 35 (by decide) (by decide) (by decide) (by decide)]; exact ⟨gi, n35, n35c⟩)
  have hF2 : Fr (fun q => m ≤ q ∧ q < m + 36) H1 He := ⟨by rw [← hHe, ← hHd, ← hHc, ← hHb]; rfl, fun a ha => by rw [← hHe, xup_ne _ (by omega), ← hHd, xup_ne _ (by omega), ← hHc, xup_ne _ (by omega), ← hHb, xup_ne _ (by omega)]⟩
  refine ⟨1, H1, He, β, (σ, δ.2), C1, ?_, h.mkl ho (hla.up (Nat.le_succ K)) b3 b2 hF2 hm1.ex hmr⟩
  have v62' : xgI H1 (some m) 11 62 = some (nI (dI δ)) := (gI n1 mi62).trans (by rw [n62])
  have e41 : nI (40 * i) + (1 : Int32) = nI (40 * i + 1) := nI_1 _
  have e42 : nI (40 * i) + (2 : Int32) = nI (40 * i + 2) := by rw [show (2 : Int32) = nI 2 from rfl, nI_add]
  have rd : ∀ w p, p < 160 → xlI .int (xup H1 m (mo m w)) (some (m + 35)) (nI p) = some (gi p) := fun w p hp => rdI ((kh w 35 (by decide)).trans n35) hp (by decide)
  simp only [F_X12_back, v62', S_inI (show dI δ < 2 ^ 31 by omega) hi, show ¬ (1 : Int32) = 0 by decide, if_false, gA n1 ma63, e40, rdI n35 (show 40 * i < 160 by omega) (by decide), mpI n1 (by decide : 46 < 64) _ ms46, gA (ob1 _) ma63, e41, rd _ _ (show 40 * i + 1 < 160 by omega), mpI (ob1 _) (by decide : 47 < 64) _ ms47, xup_up, e42, rd _ _ (show 40 * i + 2 < 160 by omega), mpI (ob1 _) (by decide : 51 < 64) _ ms51, hva, hHb, L1, L2, L3, Option.bind_some, bd2_s]
end Image
