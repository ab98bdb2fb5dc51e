/-! PURE: the class reads all tokens. -/
variable {stf : Nat → Nat} {N K b m : Nat} {β : sB} {δ : sD} {H : xH}
variable {t S E : Nat → Nat} {n J : Nat}
theorem tv5_un {S' E' : Nat → Nat} {j : Nat} (h1 : S' j = S j) (h2 : E' j = E j) : tv5 t (S' j) (E' j) = tv5 t (S j) (E j) := by rw [h1, h2]
theorem kk_n {x : Nat} (hx : x < 256) {k : Nat} (hk : k < 2 ^ 31) : (nI (kk x) = nI k) ↔ kk x = k := nI_eq (by have := kk_lt hx; omega) hk
theorem Fr.u {P : Nat → Prop} {a : Nat} {e : xE} (h : P a) : Fr P H (xup H a e) := ⟨rfl, fun q hq => xup_ne _ (fun z => hq (by rw [z]; exact h))⟩
theorem S_tread {g : Nat → Int32} {gk gs : Nat → Int32} {gv : Nat → Int64} {j : Int32} (hN : 1200 < N) (hn : n ≤ 1200) (h0 : H.1 (b + 1) = some (aB 1200 g)) (h : cT0 b gk gs gv j H) : ∃ (J : Nat) (S E : Nat → Nat) (H' : xH), F_X8_read N (some (b + 2)) (some (b + 1)) (nI n) H = some H' ∧ tkS (fun q => ub (g q)) n J S E ∧ cTk (fun q => ub (g q)) J S E b (nI 0) H' ∧ Fr (fun q => b + 2 ≤ q ∧ q ≤ b + 5) H H' := by
  generalize ht : (fun q => ub (g q)) = t
  have htq : ∀ q, g q &&& 255 = nI (t q) := fun q => by rw [← ht]; exact ub_a _
  have t6 : ∀ q, t q < 256 := fun q => by rw [← ht]; exact ub_lt _
  have loop : ∀ m i, i ≤ n → n - i < m → ∀ (c k r : Nat) (S E : Nat → Nat) (gk gs : Nat → Int32) (gv : Nat → Int64) (H : xH), H.1 (b + 1) = some (aB 1200 g) → cT0 b gk gs gv (nI 0) H → tkS t i c S E → cTj t c S E gk gs gv → c ≤ i → k < 60 → (i = 0 → k = 1) → (0 < i → k = kk (t (i - 1))) → (k = 2 ∨ k = 3 → 0 < c ∧ E (c - 1) = i ∧ kk (t (S (c - 1))) = k ∧ S (c - 1) + r = i) → r ≤ i →
      ∃ (J : Nat) (S E : Nat → Nat) (H' : xH), F_X8_read_L16 N (F_X8_read_J148 N) m (some (b + 2)) (some (b + 1)) (nI n) (nI c) (nI k) (nI r) (nI i) H = some H' ∧ tkS t n J S E ∧ cTk t J S E b (nI 0) H' ∧ Fr (fun q => b + 2 ≤ q ∧ q ≤ b + 5) H H' := by
    refine upto (P := fun m i => ∀ (c k r : Nat) (S E : Nat → Nat) (gk gs : Nat → Int32) (gv : Nat → Int64) (H : xH), H.1 (b + 1) = some (aB 1200 g) → cT0 b gk gs gv (nI 0) H → tkS t i c S E → cTj t c S E gk gs gv → c ≤ i → k < 60 → (i = 0 → k = 1) → (0 < i → k = kk (t (i - 1))) → (k = 2 ∨ k = 3 → 0 < c ∧ E (c - 1) = i ∧ kk (t (S (c - 1))) = k ∧ S (c - 1) + r = i) → r ≤ i → ∃ (J : Nat) (S E : Nat → Nat) (H' : xH), F_X8_read_L16 N (F_X8_read_J148 N) m (some (b + 2)) (some (b + 1)) (nI n) (nI c) (nI k) (nI r) (nI i) H = some H' ∧ tkS t n J S E ∧ cTk t J S E b (nI 0) H' ∧ Fr (fun q => b + 2 ≤ q ∧ q ≤ b + 5) H H') ?_ ?_
    · intro m c k r S E gk gs gv H h0 h hT hj hc hk hi0 hi hr hri
      rw [show F_X8_read_L16 N (F_X8_read_J148 N) (m + 1) = F_X8_read_J16 N (F_X8_read_L16 N (F_X8_read_J148 N) m) (F_X8_read_J148 N) from rfl]
      obtain ⟨H', e, h', hF⟩ := S_tput (N := N) h (c := c) (by omega) (0 : Int32) (nI n)
      refine ⟨c, S, E, H', ?_, hT, ⟨_, _, _, h', fun i hi => ?_, fun i hi => ?_⟩, hF.mono (fun q hq => by omega)⟩
      · simp only [F_X8_read_J16, F_X8_read_J148, Int32.le_refl, if_true, obx h.1, e, Option.bind_some, bd2_s]
      · by_cases e : i = c
        · rw [e, pk_us, pk_us, if_neg (by omega), hT.1]; exact ⟨rfl, rfl⟩
        · rw [pk_un e, pk_un e, if_pos (by omega)]; exact ⟨(hj i (by omega)).1, (hj i (by omega)).2.1⟩
      · rw [pk_uLn (by omega)]; exact (hj i hi).2.2
    · intro m i hi ih c k r S E gk gs gv H h0 h hT hj hc hk hi0 hik hr hri
      rw [show F_X8_read_L16 N (F_X8_read_J148 N) (m + 1) = F_X8_read_J16 N (F_X8_read_L16 N (F_X8_read_J148 N) m) (F_X8_read_J148 N) from rfl]
      have hSc := hT.1
      have p0 : i + 1 = 0 → kk (t i) = 1 := fun z => by omega
      have p1 : 0 < i + 1 → kk (t i) = kk (t (i + 1 - 1)) := fun _ => by simp
      have hkl := kk_lt (t6 i)
      have cls : F_X8_read_J16 N (F_X8_read_L16 N (F_X8_read_J148 N) m) (F_X8_read_J148 N) (some (b + 2)) (some (b + 1)) (nI n) (nI c) (nI k) (nI r) (nI i) H = (if kk (t i) = 2 ∨ kk (t i) = 3 then F_X8_read_J62 N (F_X8_read_L16 N (F_X8_read_J148 N) m) (some (b + 2)) (some (b + 1)) (nI n) (nI c) (nI (kk (t i))) (nI r) (nI i) (nI (t i)) (nI k) H else F_X8_read_J67 N (F_X8_read_L16 N (F_X8_read_J148 N) m) (some (b + 2)) (some (b + 1)) (nI n) (nI c) (nI (kk (t i))) (nI r) (nI i) (nI (t i)) (nI k) 0 H) := by
        simp only [F_X8_read_J16, nI_ge hi (show n < 2 ^ 31 by omega), if_false, leI h0, nI_ge (show i < 1200 by omega) (by decide), rdI h0 (show i < 1200 by omega) (by decide), htq, S_kindOf (t6 i), Option.bind_some, bd2_s]
        by_cases e2 : kk (t i) = 2
        · rw [if_pos (show nI (kk (t i)) = 2 from (kk_n (t6 i) (k := 2) (by decide)).mpr e2), if_pos (Or.inl e2)]
        · rw [if_neg (show ¬ nI (kk (t i)) = 2 from fun z => e2 ((kk_n (t6 i) (k := 2) (by decide)).mp z))]
          by_cases e3 : kk (t i) = 3
          · rw [if_pos (show nI (kk (t i)) = 3 from (kk_n (t6 i) (k := 3) (by decide)).mpr e3), if_pos (Or.inr e3)]
          · rw [if_neg (show ¬ nI (kk (t i)) = 3 from fun z => e3 ((kk_n (t6 i) (k := 3) (by decide)).mp z)), if_neg (by omega)]
      rw [cls]
      by_cases hrun : kk (t i) = 2 ∨ kk (t i) = 3
      · rw [if_pos hrun]
        by_cases hgo : kk (t i) = k
        · -- the run goes on
          obtain ⟨c0, hE, hkS, hSr⟩ := hr (by omega)
          obtain ⟨d, rfl⟩ : ∃ d, c = d + 1 := ⟨c - 1, by omega⟩
          simp only [Nat.add_sub_cancel] at *
          have hT' := tk_go hT hE (by omega) (by omega)
          have hd := S_ext (N := N) h (c := d) (by omega) (nI (t i)) (nI (r + 1))
          have hdj := hj d (by omega)
          rw [hdj.1] at hd
          have ev := ext_v (t := t) (s := S d) (r := r + 1) (gv := gv d) (by omega) (t6 _) (by omega) (fun q q1 q2 => by
            by_cases e : q = i
            · rw [e]; omega
            · exact (hT.2.2.2.2.2.1 d (by omega) (by omega)).1 q q1 (by omega)) (by omega) (by
            have := hT.2.1 d (by omega)
            rw [if_neg (by omega), hdj.2.2, hE, show S d + (r + 1 - 1) = i by omega])
          rw [show S d + (r + 1 - 1) = i by omega] at ev
          rw [ev] at hd
          obtain ⟨J, S', E', H', q1, q2, q3, q4⟩ := ih (d + 1) k (r + 1) _ _ gk gs _ (xup H (b + 5) (aJ 1201 (vp_updL gv d (tv5 t (S d) (S d + (r + 1)))))) ((xup_ne _ (by omega)).trans h0) h.e hT' (fun z hz => by
            by_cases e : z = d
            · rw [e, pk_uLs, un_n (by omega), un_s, show i + 1 = S d + (r + 1) by omega]; exact ⟨hdj.1, hdj.2.1, rfl⟩
            · rw [pk_uLn e, un_n (by omega), un_n e]; exact hj z hz) (by omega) hk (by omega) (fun _ => by simp [hgo]) (fun _ => ⟨by omega, by simp [un_s], by rw [Nat.add_sub_cancel, un_n (by omega)]; exact hkS, by rw [Nat.add_sub_cancel, un_n (by omega)]; omega⟩) (by omega)
          refine ⟨J, S', E', H', ?_, q2, q3, Fr.tr (Fr.u (by omega)) q4⟩
          rw [← q1]
          simp only [F_X8_read_J62, F_X8_read_J67, F_X8_read_J86, F_X8_read_J101, F_X8_read_J126, F_X8_read_J142, show ¬ (1 : Int32) = 0 by decide, if_false, hgo, if_true, show ¬ nI k = (1 : Int32) from fun z => by have := (nI_eq (a := k) (b := 1) (by omega) (by decide)).mp z; omega, nI_1, obx h.1, nI_pred, hd, Option.bind_some, bd2_s]
        · -- a new run
          obtain ⟨H1, e1, h1, hF1⟩ := S_tput (N := N) h (c := c) (by omega) (nI (kk (t i))) (nI i)
          have hT' := tk_new hT (by omega) (fun j j1 j2 j3 => by
            intro z
            have := (hT.2.2.2.2.2.1 j (by omega) j3).1 (i - 1) (by have := hT.2.1 j (by omega); omega) (by have := hT.2.1 j (by omega); omega)
            have h3 := hT.2.1 j (by omega)
            have := hik (by omega)
            omega)
          have hd := S_ext (N := N) h1 (c := c) (by omega) (nI (t i)) (1 : Int32)
          rw [pk_us, pk_uLs] at hd
          have ev := ext_v (t := t) (s := i) (r := 1) (gv := 0) (by omega) (t6 _) hrun (fun q q1 q2 => by rw [show q = i by omega]) (by omega) (by rw [if_pos rfl])
          simp only [Nat.sub_self, Nat.add_zero, show nI 1 = (1 : Int32) from rfl] at ev
          rw [ev] at hd
          obtain ⟨J, S', E', H', q1, q2, q3, q4⟩ := ih (c + 1) (kk (t i)) 1 _ _ _ _ _ (xup H1 (b + 5) (aJ 1201 (vp_updL (vp_updL gv c 0) c (tv5 t i (i + 1))))) (by rw [xup_ne _ (by omega), hF1.2 _ (by omega)]; exact h0) h1.e hT' (fun z hz => by
            by_cases e : z = c
            · rw [e, pk_us, pk_us, pk_uLs, un_n (by omega), un_s, hSc]; exact ⟨rfl, rfl, rfl⟩
            · rw [pk_un e, pk_un e, pk_uLn e, pk_uLn e, un_n (by omega), un_n e]; exact hj z (by omega)) (by omega) hkl (by omega) p1 (fun _ => ⟨by omega, by simp [un_s], by rw [Nat.add_sub_cancel, un_n (by omega), hSc], by rw [Nat.add_sub_cancel, un_n (by omega), hSc]⟩) (by omega)
          refine ⟨J, S', E', H', ?_, q2, q3, Fr.tr (hF1.mono (fun q hq => by omega)) (Fr.tr (Fr.u (by omega)) q4)⟩
          rw [← q1]
          simp only [F_X8_read_J62, F_X8_read_J67, F_X8_read_J85, F_X8_read_J86, F_X8_read_J101, F_X8_read_J126, F_X8_read_J142, show ¬ (1 : Int32) = 0 by decide, if_false, show ¬ nI (kk (t i)) = nI k from fun z => hgo ((kk_n (t6 i) (by omega)).mp z), if_true, show ¬ nI (kk (t i)) = (1 : Int32) from fun z => by have := (kk_n (t6 i) (k := 1) (by decide)).mp z; omega, nI_1, obx h.1, obx h1.1, nI_pred, e1, show nI 1 = (1 : Int32) from rfl, hd, Option.bind_some, bd2_s]
      · rw [if_neg hrun]
        by_cases hb : kk (t i) = 1
        · obtain ⟨J, S', E', H', q1, q2, q3, q4⟩ := ih c 1 1 _ _ gk gs gv H h0 h (tk_blank hT hb) (fun z hz => by rw [un_n (by omega)]; exact hj z hz) (by omega) (by omega) (by omega) (fun _ => by simp [hb]) (fun z => by omega) (by omega)
          refine ⟨J, S', E', H', ?_, q2, q3, q4⟩
          rw [← q1]
          simp only [F_X8_read_J62, F_X8_read_J67, F_X8_read_J85, F_X8_read_J86, F_X8_read_J101, F_X8_read_J126, F_X8_read_J142, if_true, hb, show nI 1 = (1 : Int32) from rfl, nI_1]
        · obtain ⟨H1, e1, h1, hF1⟩ := S_tput (N := N) h (c := c) (by omega) (nI (kk (t i))) (nI i)
          have hT' := tk_new hT hb (fun j j1 j2 j3 => by omega)
          obtain ⟨J, S', E', H', q1, q2, q3, q4⟩ := ih (c + 1) (kk (t i)) 1 _ _ _ _ _ H1 (by rw [hF1.2 _ (by omega)]; exact h0) h1 hT' (fun z hz => by
            by_cases e : z = c
            · rw [e, pk_us, pk_us, pk_uLs, un_n (by omega), un_s, hSc]
              refine ⟨rfl, rfl, ?_⟩
              unfold tv5
              rw [if_neg (by omega), if_neg (by omega)]
            · rw [pk_un e, pk_un e, pk_uLn e, un_n (by omega), un_n e]; exact hj z (by omega)) (by omega) hkl (by omega) p1 (fun z => absurd z hrun) (by omega)
          refine ⟨J, S', E', H', ?_, q2, q3, Fr.tr (hF1.mono (fun q hq => by omega)) q4⟩
          rw [← q1]
          simp only [F_X8_read_J62, F_X8_read_J67, F_X8_read_J85, F_X8_read_J86, F_X8_read_J101, F_X8_read_J126, F_X8_read_J142, if_true, show ¬ nI (kk (t i)) = (1 : Int32) from fun z => hb ((kk_n (t6 i) (k := 1) (by decide)).mp z), if_false, nI_1, obx h.1, e1, show nI 1 = (1 : Int32) from rfl, Option.bind_some, bd2_s]
  obtain ⟨x, e0, ex⟩ : ∃ H1, xpI H (some (b + 2)) 8 3 (0 : Int32) = some H1 ∧ H1 = xup H (b + 2) (ob 8 [va_rf (some (b + 3)), va_rf (some (b + 4)), va_rf (some (b + 5)), .int (nI 0)]) := ⟨_, pV h.1 (by simp), rfl⟩
  obtain ⟨J, S, E, H', q1, q2, q3, q4⟩ := loop N 0 (Nat.zero_le _) (by omega) 0 1 0 (fun _ => 0) (fun _ => 0) gk gs gv x (by rw [ex, xup_ne _ (by omega)]; exact h0) ⟨by rw [ex, xup_at], by rw [ex, xup_ne _ (by omega)]; exact h.2.1, by rw [ex, xup_ne _ (by omega)]; exact h.2.2.1, by rw [ex, xup_ne _ (by omega)]; exact h.2.2.2⟩ ⟨rfl, fun j hj => by omega, fun j hj => by omega, fun q hq => absurd hq (Nat.not_lt_zero _), fun j hj => by omega, fun j hj => by omega, fun j hj => by omega⟩ (fun j hj => by omega) (Nat.le_refl _) (by omega) (fun _ => rfl) (fun z => by omega) (fun z => by omega) (by omega)
  refine ⟨J, S, E, H', ?_, q2, q3, Fr.tr ⟨by rw [ex]; rfl, fun q hq => by rw [ex]; exact xup_ne _ (by omega)⟩ q4⟩
  unfold F_X8_read
  rw [e0]
  exact q1
