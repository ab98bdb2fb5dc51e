/-! PURE: book, both. -/
variable {stf : Nat → Nat} {N K b m : Nat} {β : sB} {δ : sD} {H : xH}
variable {c tc tk cb n nk ncb : Nat} {ad : Nat → Nat} {τ : tS}
theorem nI_gt {x : Int32} {n : Nat} (hn : n < 2147483647) (h : nI (n + 1) ≤ x) : nI n < x ∧ ¬ x ≤ nI n := by
  rw [Int32.le_iff_toInt_le, nI_toInt (by omega)] at h
  constructor
  · rw [Int32.lt_iff_toInt_lt, nI_toInt (by omega)]; omega
  · rw [Int32.le_iff_toInt_le, nI_toInt (by omega)]; omega
theorem dYes_ok (hT : bT (bet τ) ≤ 5) (ho : yOk τ) : dOk K (bet τ) (dYes δ τ) := by
  refine ⟨⟨⟨Nat.zero_le _, fun j => Nat.zero_le _, 0, Nat.pow_pos (by decide), ⟨fun i hi => Or.inl (dig_zero i), fun r hr => Or.inl (dig_zero _)⟩, fun j hj => ?_⟩, fun h hh => ?_, fun j hj => ?_⟩, fun k hk => absurd hk (Nat.not_lt_zero _), fun j hj => ⟨0, Nat.zero_le _, rfl⟩⟩
  · show (if (0 : Nat) = 0 then dig 0 j = 0 ∨ 0 + 1 ≤ dig 0 j else dig 0 j = 0)
    rw [if_pos rfl]
    exact Or.inl (dig_zero j)
  · have hh' : h < 2 * yW τ := hh
    obtain ⟨a1, a2, -⟩ := ho.2.2 (h / 2) (by omega)
    show ∃ j, j < yM τ ∧ nH τ (lH (dL δ)) h = nI j
    unfold nH
    rw [if_pos hh']
    split
    · exact ⟨_, a1, rfl⟩
    · exact ⟨_, a2, rfl⟩
  · show -(9999 * (K : Int)) ≤ (0 : Int32).toInt ∧ (0 : Int32).toInt ≤ 9999 * (K : Int)
    rw [show (0 : Int32).toInt = 0 from rfl]
    omega
theorem Rel.mk2 {v2 : Nat → Int32} {H1 H2 : xH} (ho : RXo stf K b m c tc tk cb n nk ncb ad β δ H1) (hw : hW H1) (hm : m + 36 ≤ H1.2.1) (hB : bOk β) (hd : dOk K β δ) (hx : ∀ q, m ≤ q → q < m + 36 → ∃ e, H1.1 q = some e) (h2 : mR m v2 β δ H2) (hF : Fr (fun a => m ≤ a ∧ a < m + 36) H1 H2) : Rel stf K b m β δ H2 :=
  ⟨⟨⟨c, tc, tk, cb, n, nk, ncb, ad, ho.fr hF⟩, hB, hd, hw.fr hF (fun a ha => hx a ha.1 ha.2), by rw [hF.1]; exact hm⟩, v2, h2, hB, hd⟩
theorem T_book (hN : 59049 < N) (h : Rel stf K b m β δ H) (x : Int32) : xStep stf K b m (F_X11_book N (some b) x) (F_X12_book N (some m) x) H := by
  obtain ⟨⟨⟨c, tc, tk, cb, n, nk, ncb, ad, ho⟩, hB, hd, hw, hm36⟩, v, hm, -, -⟩ := id h
  obtain ⟨h12, g, hg, hgt⟩ := id ho.2.2.1
  have i1 : xgI H (some m) 11 31 = some (nI (dN δ)) := (M_in (N := N) (q := 0) hm (Nat.zero_le _) h12).1
  have no : ∀ y, (¬ (¬ y < (0 : Int32) ∧ ¬ nI (dN δ) < y)) → F_X12_book N (some m) y H = some (-2, H) := fun y hy => by
    unfold F_X12_book
    simp only [i1, S_in, bI_f hy, bd2_s, if_true, Option.bind_some]
  have g1 : xgI H (some b) 10 1 = some (nI (dN δ)) := gI ho.2.1 rfl
  rcases ix3 x (n := dN δ + 1) (by omega) with (z | z) | ⟨q, hq, rfl⟩
  · refine xStep.rd h (r := (-2 : Int32)) ?_ (no x (fun w => w.1 z))
    unfold F_X11_book
    rw [if_pos z]
  · obtain ⟨z1, z2⟩ := nI_gt (by omega) z
    refine xStep.rd h (r := (-2 : Int32)) ?_ (no x (fun w => w.2 z1))
    unfold F_X11_book
    by_cases z0 : x < 0
    · rw [if_pos z0]
    · simp only [if_neg z0, g1, if_neg z2, Option.bind_some]
  have hq' : q ≤ dN δ := by omega
  obtain ⟨J, S, E, H0, y, hT, e, hs, e1, e2, e3, e4, e5⟩ := C_bookR hN ho hw hg hq' h12
  have h6 : ∀ i, ub (g i) < 256 := fun i => by rw [ub_m]; exact Nat.mod_lt _ (by decide)
  have ht : ∀ k, k < q → ub (g k) = ub (dT δ k) := fun k hk => by rw [hgt k (by omega)]
  cases hp : (pTx (fun i => ub (g i)) J S E (J + 1) tS0 0).1 with
  | none =>
    obtain ⟨H', f1, f2, f3, f4, f5⟩ := C_bookN hN ho hw hm36 hq' hT h6 (by omega) e hp hs e1 e2 e3 e4 e5
    have hm' : mR m v β δ H' := hm.fr f5
    obtain ⟨Γ, hG⟩ := aG.ofR hm'
    obtain ⟨r, v', c', sm', Γ', H1, r1, r2, r3, r4, r5⟩ := M_reads (N := N) hT h6 (by omega) hm' hq' (by omega) ht hG
    have hr := r4 hp
    subst hr
    obtain ⟨v2, H2, s1, s2, s3⟩ := M_bookN hm' hB hq' h12 hG r1 r2 r3
    exact ⟨-1, H', H2, β, dNo δ _, f1, s1, Rel.mk2 f2 f3 (by omega) hB (hd.up (Nat.le_succ K) : dOk (K + 1) β δ) hm'.ex s2 s3⟩
  | some τ =>
    obtain ⟨H', c', tc', tk', n', nk', ad', f1, f2, f3, f4, f5, f6, f7⟩ := C_bookS hN ho hw hm36 hq' hT e hp hs e1 e2 e3 e4 e5
    have hm' : mR m v β δ H' := hm.fr f5
    obtain ⟨Γ, hG⟩ := aG.ofR hm'
    obtain ⟨r, v', cc', sm', Γ', H1, r1, r2, r3, r4, r5⟩ := M_reads (N := N) hT h6 (by omega) hm' hq' (by omega) ht hG
    obtain ⟨hr, hy⟩ := r5 τ hp
    subst hr
    obtain ⟨v2, H2, s1, s2, s3⟩ := M_bookS hN hm' hq' h12 hT r1 r2 hy f6
    exact ⟨nI (yW τ), H', H2, bet τ, dYes δ τ, f1, s1, Rel.mk2 f2 f3 (by omega) f7 (dYes_ok f7.1 f6) hm'.ex s2 s3⟩
