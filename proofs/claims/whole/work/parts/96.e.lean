/-! PURE: the class's book, whole. -/
variable {stf : Nat → Nat} {N K b m : Nat} {β : sB} {δ : sD} {H : xH}
variable {tc tk cb n nk ncb c lo : Nat} {τ : tS} {ad : Nat → Nat}
/-- a book refused: the tape is gone, the fault is told -/
def dNo (δ : sD) (f : Int32) : sD := (dL δ, dI δ, dM δ, dC δ, 0, dT δ, f, dB δ)
/-- a book taken -/
def dYes (δ : sD) (τ : tS) : sD := (newL τ (lH (dL δ)), 0, dM δ, (fun _ => 0), 0, dT δ, -1, dB δ + 1)
theorem C_bookN (hN : 59049 < N) {q : Nat} (ho : RXo stf K b m c tc tk cb n nk ncb ad β δ H) (hw : hW H) (hm : m + 36 ≤ H.2.1) {J : Nat} {t S E : Nat → Nat} {H0 : xH} {x : Option (Int32 × xH)} {p : ps} {y : Option (Int32 × xH)} {k2 : Int32 → xH → Option (Int32 × xH)} (hq : q ≤ dN δ) (hT : tkS t q J S E) (h6 : ∀ i, t i < 256) (hq12 : q ≤ 1200)
    (hy : y = x_bd2 x (fun v16 H14 => if v16 = 0 then ((xgA H14 (some b) 10 4).bind fun v38 => (xob H14 v38 8).bind fun b40 => x_bd2 (F_X8_nextStart N v38 H14) fun v41 H39 => (xpI H39 (some b) 10 2 v41).bind fun H42 => some ((-1 : Int32), H42)) else k2 v16 H14)) (hp : p.1 = none) (hx : sOut t J S E N b stf (H.2.1 + 9) H.2.1 (H.2.1 + 10) p 0 H0 x) (e1 : H0.2.1 = H.2.1 + 10) (e2 : H0.2.2.1 = H.2.2.1 + 168) (e3 : H0.2.2.2 = H.2.2.2) (e4 : H0.1 b = some (bobj b c δ 0)) (e5 : ∀ a, a < H.2.1 → a ≠ b → ¬ (b + 2 ≤ a ∧ a ≤ b + 5) → H0.1 a = H.1 a) : ∃ H', y = some (-1, H') ∧ RXo stf (K + 1) b m c tc tk cb n nk ncb ad β (dNo δ (nI (S p.2))) H' ∧ hW H' ∧ H.2.1 ≤ H'.2.1 ∧ ∀ a, m ≤ a → a < m + 36 → H'.1 a = H.1 a := by
  obtain ⟨r, H14, x1, ⟨k1, k2, k3, k4, k5, k6, k7, k8, k9⟩, x3, -⟩ := hx
  have hr := x3 hp
  obtain ⟨hD, h1, ⟨h2, gt, h2'⟩, ⟨⟨x2, h3⟩, ⟨g3, h3a⟩, ⟨g4, h3b⟩, ⟨g5, h3c⟩⟩, h4, h5, h6', h7, h8, h9, h10, h11, h12, ⟨rm1, rm2, rm3, rm4⟩⟩ := id ho
  have blt := hw _ _ h3c
  have b14 : H14.1 b = some (bobj b c δ 0) := (k5 b (by omega) (by omega)).trans e4
  obtain ⟨gk, gs, gv, ⟨t1, t2, t3, t4⟩, t5, t6⟩ := id k1
  have enx := C_next (N := N) hT hq12 h6 k1 k7
  have st : xpI H14 (some b) 10 2 (nI (S p.2)) = some (xup H14 b (bojb b c (dNo δ (nI (S p.2))))) := pV b14 (by simp)
  refine ⟨xup H14 b (bojb b c (dNo δ (nI (S p.2)))), ?_, ?_, k2.up b14, by show H.2.1 ≤ H14.2.1; omega, ?_⟩
  · rw [hy, x1, hr]
    simp only [bd2_s, if_true, gA b14 (j := 4) rfl, obx t1, enx, st, Option.bind_some]
  have ag : ∀ a, a < H.2.1 → a ≠ b → ¬ (b + 2 ≤ a ∧ a ≤ b + 5) → (xup H14 b (bojb b c (dNo δ (nI (S p.2))))).1 a = H.1 a := fun a a1 a2 a3 => (xup_ne _ a2).trans ((k5 a (by omega) (by omega)).trans (e5 a a1 a2 a3))
  have hD' := hD
  obtain ⟨d1, d2, ⟨d3, d4, d5⟩, ⟨d6, d7, d8⟩, ⟨d9, d10, d11⟩, ⟨d12, d13, d14⟩, d15⟩ := hD
  obtain ⟨⟨rc, u1⟩, ⟨gu, u2, -⟩, u3, ⟨gu8, u4, -⟩, u5⟩ := id h4
  obtain ⟨⟨ce, w1, -⟩, ⟨gc, w2, -⟩, -, -, ⟨gtk, w3⟩, -, -, ⟨gt3, w4⟩, ⟨gt4, w5⟩⟩ := id h5
  obtain ⟨⟨y1, y2, y3, y4, v1⟩, ⟨gv2, v2⟩, ⟨gv3, v3⟩, ⟨gv4, v4⟩, -⟩ := id h10
  have l1 := hw _ _ u1
  have l2 := hw _ _ u4
  have l3 := hw _ _ w2
  have l4 := hw _ _ w3
  have l5 := hw _ _ v4
  obtain ⟨i0, ⟨gi, i1, -⟩, -, i3⟩ := id h7
  obtain ⟨⟨go, o1⟩, ⟨go2, o2⟩⟩ := id h11
  have l6 := hw _ _ o2
  refine ⟨hD', xup_at _, ⟨Nat.zero_le _, gt, (ag _ (by omega) (by omega) (by omega)).trans h2'.1, fun j hj => absurd hj (Nat.not_lt_zero _)⟩, ⟨⟨_, (xup_ne _ (by omega)).trans t1⟩, ⟨_, (xup_ne _ (by omega)).trans t2⟩, ⟨_, (xup_ne _ (by omega)).trans t3⟩, ⟨_, (xup_ne _ (by omega)).trans t4⟩⟩, h4.fr (fun a a1 a2 => ag a (by omega) (by omega) (by omega)) (fun w hw' => ?_), ?_, (h6'.fr (fun a a1 a2 => ag a (by omega) (by omega) (by omega)) : xLed (b + 20) (dL δ) _), (h7.fr (fun a a1 a2 => ag a (by omega) (by omega) (by omega)) : xImgs b δ _), (h8.fr (fun a ha => ag a (by omega) (by omega) (by omega)) : xOdds b δ _), ?_, ?_, ?_, h12.fr (by show H14.2.2.2 = _; rw [k3, e3]) (fun a ha => ag a (by omega) (by omega) (by omega)), rm1, rm2, ?_, ?_⟩
  · obtain ⟨_, _, _, _, _, z, -⟩ := u5 w hw'
    have := hw _ _ z
    have := d15 w hw'
    exact ag _ (by omega) (by omega) (by omega)
  · show xTab (b + 15) tc tk n nk β (dL δ) _
    unfold xTab at h5 ⊢
    rw [ag (b + 15) (by omega) (by omega) (by omega), ag tc (by omega) (by omega) (by omega), ag tk (by omega) (by omega) (by omega), ag (b + 15 + 3) (by omega) (by omega) (by omega), ag (b + 15 + 4) (by omega) (by omega) (by omega)]
    exact h5
  · unfold xGain at h9 ⊢
    rw [ag _ (by omega) (by omega) (by omega), ag _ (by omega) (by omega) (by omega)]; exact h9
  · unfold xWin at h10 ⊢
    rw [ag _ (by omega) (by omega) (by omega), ag _ (by omega) (by omega) (by omega), ag _ (by omega) (by omega) (by omega), ag cb (by omega) (by omega) (by omega)]; exact h10
  · unfold xOG at h11 ⊢
    rw [ag _ (by omega) (by omega) (by omega), ag _ (by omega) (by omega) (by omega)]; exact h11
  · have := hT.le k7
    show H14.2.1 + 0 ≤ _
    omega
  · have := hT.le k7
    show H14.2.2.1 + 5 * 0 ≤ _
    omega
  · intro a a1 a2
    have d1 := hD.1
    exact (xup_ne _ (by omega)).trans ((k5 a (by omega) (by omega)).trans (e5 a (by omega) (by omega) (by omega)))
/-- a new book is in order -/
theorem bet_ok {N : Nat} (h : cL N c lo τ ad H) (ho : yOk τ) : bOk (bet τ) := by
  refine ⟨h.2.1.1, h.2.2.2.2.1.1, h.2.2.2.2.2.2.1.1, fun k _ hk => hk.1, fun w k => outc_lt _ _, fun w hw => ?_⟩
  obtain ⟨-, -, a1, a2, a3, a4⟩ := ho.2.2 w hw
  show 1 ≤ (nI (yb τ w).2.2.1).toInt ∧ (nI (yb τ w).2.2.1).toInt ≤ 999 ∧ 1 ≤ (nI (yb τ w).2.2.2.1).toInt ∧ (nI (yb τ w).2.2.2.1).toInt ≤ 999
  rw [nI_toInt (by omega), nI_toInt (by omega)]
  omega
