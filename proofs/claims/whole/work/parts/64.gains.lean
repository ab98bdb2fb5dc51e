/-! PURE: Gains: what each outcome of each wager pays a member. -/
/-- which side of a wager a member holds: 1, -1, or 0 (none, or both) -/
noncomputable def sd (l : sL) (mem : Int32) (w : Nat) : Int32 := bI (lH l (2 * w) = mem) - bI (lH l (2 * w + 1) = mem)
/-- what is put to a place -/
def adS (β : sB) (w s o : Nat) : Int32 := if s = 0 then pay o (bc1 β w) (bc2 β w) else - pay o (bc1 β w) (bc2 β w)
section Gains
variable {stf : Nat → Nat} {N K b m : Nat} {β : sB} {δ : sD} {H : xH}
variable {c tc tk cb n nk ncb : Nat} {ad : Nat → Nat}
theorem RXo.gn (h : RXo stf K b m c tc tk cb n nk ncb ad β δ H) : H.1 (b + 43) = some (ob 3 [va_rf (some (b + 44))]) ∧ ∃ g, H.1 (b + 44) = some (aI 60 g) := h.2.2.2.2.2.2.2.2.2.1
theorem RXo.gn0 (h : RXo stf K b m c tc tk cb n nk ncb ad β δ H) : xgA H (some (b + 43)) 3 0 = some (some (b + 44)) := gA h.gn.1 rfl
theorem RXo.gc (h : RXo stf K b m c tc tk cb n nk ncb ad β δ H) {g g' : Nat → Int32} (hg : H.1 (b + 44) = some (aI 60 g)) : RXo stf K b m c tc tk cb n nk ncb ad β δ (xup H (b + 44) (aI 60 g')) := h.sc (sc.upI (by unfold SX; omega) hg)
theorem S_gclear (hN : 60 < N) (h : RXo stf K b m c tc tk cb n nk ncb ad β δ H) : ∃ g', F_X3_clear N (some (b + 43)) H = some (xup H (b + 44) (aI 60 g')) ∧ ∀ j, j < 60 → g' j = 0 := by
  obtain ⟨e, g, hg⟩ := h.gn
  refine ⟨_, ?_, fun j hj => (if_pos ⟨Nat.zero_le j, hj⟩ : (if 0 ≤ j ∧ j < 60 then (0 : Int32) else g j) = 0)⟩
  unfold F_X3_clear F_J7_fill_53178
  simp only [h.gn0, leI hg, Option.bind_some]
  rw [show (0 : Int32) = nI 0 from rfl, S_fill (N := N) (nI 0) (by decide : 60 < 2 ^ 31) N 0 H g hg (by omega) (by omega)]
  rfl
/-- a side's pays are put to what is there -/
theorem S_addSide (hN : 5 < N) (h : RXo stf K b m c tc tk cb n nk ncb ad β δ H) {w s : Nat} (hw : w < bW β) (hW : bW β ≤ 12) (hs : s < 2) {G : Nat → Int32} (hg : H.1 (b + 44) = some (aI 60 G)) : ∃ G', F_X3_addSide N (some (b + 43)) (some (ad w)) (nI w) (nI s) H = some (xup H (b + 44) (aI 60 G')) ∧ ∀ v o, o < 5 → v < 12 → G' (5 * v + o) = if v = w then G (5 * v + o) + adS β w s o else G (5 * v + o) := by
  have key : ∀ n i, i ≤ 5 → 5 - i < n → ∀ G, H.1 (b + 44) = some (aI 60 G) ∨ True → ∃ G', F_X3_addSide_L8 N n (some (b + 43)) (some (ad w)) (nI w) (nI s) (nI i) (xup H (b + 44) (aI 60 G)) = some (xup H (b + 44) (aI 60 G')) ∧ ∀ v o, o < 5 → v < 12 → G' (5 * v + o) = if v = w ∧ i ≤ o then G (5 * v + o) + adS β w s o else G (5 * v + o) := by
    refine upto (s := 5) (P := fun n i => ∀ G, H.1 (b + 44) = some (aI 60 G) ∨ True → ∃ G', F_X3_addSide_L8 N n (some (b + 43)) (some (ad w)) (nI w) (nI s) (nI i) (xup H (b + 44) (aI 60 G)) = some (xup H (b + 44) (aI 60 G')) ∧ ∀ v o, o < 5 → v < 12 → G' (5 * v + o) = if v = w ∧ i ≤ o then G (5 * v + o) + adS β w s o else G (5 * v + o)) (fun n G _ => ⟨G, ?_, fun v o ho hv => ?_⟩) (fun n i hi ih G _ => ?_)
    · simp only [F_X3_addSide_L8, F_X3_addSide_J8, show (5 : Int32) ≤ nI 5 from by decide, if_true]
    · rw [if_neg (by omega)]
    · have hx := h.gc (g' := G) hg
      obtain ⟨e, -⟩ := hx.gn
      obtain ⟨p1, p2, p3, p4⟩ := hx.bt (N := N) hw
      have hat : (xup H (b + 44) (aI 60 G)).1 (b + 44) = some (aI 60 G) := xup_at _
      have e1 : (5 : Int32) * nI w + nI i = nI (5 * w + i) := by rw [show (5 : Int32) = nI 5 from rfl, pk_mul, nI_add]
      have hlt : 5 * w + i < 60 := by omega
      have i5 : ¬ (5 : Int32) ≤ nI i := nI_ge hi (by decide)
      obtain ⟨G', q1, q2⟩ := ih (upd G (5 * w + i) (G (5 * w + i) + adS β w s i)) (Or.inr trivial)
      refine ⟨G', ?_, fun v o ho hv => ?_⟩
      · simp only [F_X3_addSide_L8, F_X3_addSide_J8, F_X3_addSide_J57, i5, if_false, p1, p4 i hi, hx.gn0, e1, S_at hat (by decide : 60 < 2 ^ 31), gat_nI (show 5 * w + i < 2 ^ 31 by omega), hlt, if_true, S_set hat hlt (by decide), xup_up, nI_1, Option.bind_some, bd2_s]
        by_cases hs0 : s = 0
        · subst hs0
          rw [if_pos (show nI 0 = 0 from rfl)]
          exact q1
        · have hs1 : s = 1 := by omega
          subst hs1
          rw [if_neg (show ¬ nI 1 = 0 by decide)]
          exact q1
      · rw [q2 v o ho hv]
        by_cases hvw : v = w
        · subst hvw
          by_cases hio : o = i
          · subst hio
            rw [if_neg (by omega), if_pos ⟨rfl, Nat.le_refl _⟩, pk_us]
          · have hne : 5 * v + o ≠ 5 * v + i := by omega
            rw [pk_un hne]
            by_cases hle : i + 1 ≤ o
            · rw [if_pos ⟨rfl, hle⟩, if_pos ⟨rfl, by omega⟩]
            · rw [if_neg (fun z => hle z.2), if_neg (fun z => hle (by omega))]
        · have hne : 5 * v + o ≠ 5 * w + i := by omega
          rw [if_neg (fun z => hvw z.1), if_neg (fun z => hvw z.1), pk_un hne]
  obtain ⟨G', q1, q2⟩ := key N 0 (by omega) (by omega) G (Or.inr trivial)
  rw [xup_id hg] at q1
  refine ⟨G', ?_, fun v o ho hv => ?_⟩
  · unfold F_X3_addSide
    rw [if_neg (by simp)]
    exact q1
  · rw [q2 v o ho hv]
    by_cases hvw : v = w
    · rw [if_pos ⟨hvw, Nat.zero_le _⟩, if_pos hvw]
    · rw [if_neg (fun z => hvw z.1), if_neg hvw]
/-- what a member's sides pay, wager by wager -/
def gOk (β : sB) (l : sL) (mem : Int32) (i : Nat) (G : Nat → Int32) : Prop := ∀ v o, o < 5 → v < 12 → G (5 * v + o) = if v < i then sd l mem v * pay o (bc1 β v) (bc2 β v) else 0
theorem i32_ring1 (a : Int32) : (0 : Int32) + a = (1 - 0) * a := by rw [Int32.zero_add, Int32.sub_zero, Int32.one_mul]
theorem sd_pay {l : sL} {mem : Int32} {w : Nat} (p : Int32) : (if lH l (2 * w) = mem then (if lH l (2 * w + 1) = mem then (0 : Int32) + p + -p else 0 + p) else (if lH l (2 * w + 1) = mem then 0 + -p else 0)) = sd l mem w * p := by
  unfold sd
  by_cases h1 : lH l (2 * w) = mem <;> by_cases h2 : lH l (2 * w + 1) = mem
  · rw [if_pos h1, if_pos h2, bI_t h1, bI_t h2, Int32.zero_add, Int32.sub_self, Int32.zero_mul, Int32.add_right_neg]
  · rw [if_pos h1, if_neg h2, bI_t h1, bI_f h2, Int32.zero_add, Int32.sub_zero, Int32.one_mul]
  · rw [if_neg h1, if_pos h2, bI_f h1, bI_t h2, Int32.zero_add, Int32.zero_sub, Int32.neg_mul, Int32.one_mul]
  · rw [if_neg h1, if_neg h2, bI_f h1, bI_f h2, Int32.sub_self, Int32.zero_mul]
theorem S_ofMember (hN : 60 < N) (h : RXo stf K b m c tc tk cb n nk ncb ad β δ H) (hW : bW β ≤ 12) (mem : Int32) : ∃ G, F_X3_ofMember N (some (b + 43)) (some c) (some (b + 20)) mem H = some (xup H (b + 44) (aI 60 G)) ∧ gOk β (dL δ) mem (bW β) G := by
  obtain ⟨g1, q1, q2⟩ := S_gclear (N := N) hN h
  obtain ⟨e, g0, hg0⟩ := h.gn
  have hx : ∀ G, RXo stf K b m c tc tk cb n nk ncb ad β δ (xup H (b + 44) (aI 60 G)) := fun G => h.gc hg0
  have key : ∀ n w, w ≤ bW β → bW β - w < n → ∀ G, gOk β (dL δ) mem w G → ∃ G', F_X3_ofMember_L7 N n (some (b + 43)) (some c) (some (b + 20)) mem (nI w) (xup H (b + 44) (aI 60 G)) = some (xup H (b + 44) (aI 60 G')) ∧ gOk β (dL δ) mem (bW β) G' := by
    refine upto (s := bW β) (P := fun n w => ∀ G, gOk β (dL δ) mem w G → ∃ G', F_X3_ofMember_L7 N n (some (b + 43)) (some c) (some (b + 20)) mem (nI w) (xup H (b + 44) (aI 60 G)) = some (xup H (b + 44) (aI 60 G')) ∧ gOk β (dL δ) mem (bW β) G') (fun n G hG => ⟨G, ?_, hG⟩) (fun n w hw ih G hG => ?_)
    · obtain ⟨k0, k1, k2, -⟩ := (hx G).k
      simp only [F_X3_ofMember_L7, F_X3_ofMember_J7, k2, Option.bind_some, bd2_s, nI_le (Nat.le_refl _) (show bW β < 2 ^ 31 by omega), if_true]
    · -- the two sides
      have side : ∀ s, s < 2 → ∀ G, ∃ G', (∀ n', F_X3_ofMember_J19 N (F_X3_ofMember_L19 N (F_X3_ofMember_J57 N (F_X3_ofMember_L7 N n)) n') (F_X3_ofMember_J57 N (F_X3_ofMember_L7 N n)) (some (b + 43)) (some c) (some (b + 20)) mem (nI w) (nI s) (xup H (b + 44) (aI 60 G)) = F_X3_ofMember_L19 N (F_X3_ofMember_J57 N (F_X3_ofMember_L7 N n)) n' (some (b + 43)) (some c) (some (b + 20)) mem (nI w) (nI (s + 1)) (xup H (b + 44) (aI 60 G'))) ∧ ∀ v o, o < 5 → v < 12 → G' (5 * v + o) = if v = w ∧ lH (dL δ) (2 * w + s) = mem then G (5 * v + o) + adS β w s o else G (5 * v + o) := by
        intro s hs G
        have hx' := hx G
        obtain ⟨o10, o2, o6, o4, o5, o3, o9⟩ := hx'.o
        have s2 : ¬ (2 : Int32) ≤ nI s := nI_ge hs (by decide)
        by_cases hh : lH (dL δ) (2 * w + s) = mem
        · obtain ⟨G', r1, r2⟩ := S_addSide (N := N) (by omega) hx' hw hW hs (xup_at _)
          rw [xup_up] at r1
          refine ⟨G', fun n' => ?_, fun v o ho hv => ?_⟩
          · simp only [F_X3_ofMember_J19, F_X3_ofMember_J51, s2, if_false, o4, S_hold hx' (show w < 12 by omega) hs, hh, if_true, o2, S_btI hx' hW hw, o3, r1, nI_1, Option.bind_some, bd2_s]
          · rw [r2 v o ho hv]
            by_cases hvw : v = w
            · rw [if_pos hvw, if_pos ⟨hvw, hh⟩]
            · rw [if_neg hvw, if_neg (fun z => hvw z.1)]
        · refine ⟨G, fun n' => ?_, fun v o ho hv => by rw [if_neg (fun z => hh z.2)]⟩
          simp only [F_X3_ofMember_J19, F_X3_ofMember_J51, s2, if_false, o4, S_hold hx' (show w < 12 by omega) hs, hh, nI_1, Option.bind_some, bd2_s]
      obtain ⟨G1, a1, a2⟩ := side 0 (by decide) G
      obtain ⟨G2, b1, b2⟩ := side 1 (by decide) G1
      obtain ⟨k0, k1, k2, -⟩ := (hx G).k
      obtain ⟨N', rfl⟩ : ∃ N', N = N' + 1 + 1 + 1 := ⟨N - 3, by omega⟩
      obtain ⟨G', r1, r2⟩ := ih G2 (fun v o ho hv => by
        rw [b2 v o ho hv, a2 v o ho hv]
        by_cases hvw : v = w
        · subst hvw
          have g0 := hG v o ho hv
          rw [if_neg (Nat.lt_irrefl v)] at g0
          rw [if_pos (show v < v + 1 by omega), ← sd_pay (l := dL δ) (mem := mem), g0]
          by_cases h1 : lH (dL δ) (2 * v) = mem <;> by_cases h2 : lH (dL δ) (2 * v + 1) = mem <;> simp [h1, h2, adS]
        · have g0 := hG v o ho hv
          rw [if_neg (fun z => hvw z.1), if_neg (fun z => hvw z.1), g0]
          by_cases hlt : v < w
          · rw [if_pos hlt, if_pos (by omega)]
          · rw [if_neg hlt, if_neg (by omega)])
      refine ⟨G', ?_, r2⟩
      rw [← r1]
      simp only [F_X3_ofMember_L7]
      show F_X3_ofMember_J7 _ _ _ _ _ _ _ _ = _
      unfold F_X3_ofMember_J7
      rw [k2]
      simp only [Option.bind_some, bd2_s, nI_ge hw (show bW β < 2 ^ 31 by omega), if_false]
      have s1 := a1 (N' + 1 + 1)
      have s2 := b1 (N' + 1)
      rw [show (0 : Int32) = nI 0 from rfl, show F_X3_ofMember_L19 (N' + 1 + 1 + 1) (F_X3_ofMember_J57 (N' + 1 + 1 + 1) (F_X3_ofMember_L7 (N' + 1 + 1 + 1) n)) (N' + 1 + 1 + 1) = F_X3_ofMember_J19 (N' + 1 + 1 + 1) (F_X3_ofMember_L19 (N' + 1 + 1 + 1) (F_X3_ofMember_J57 (N' + 1 + 1 + 1) (F_X3_ofMember_L7 (N' + 1 + 1 + 1) n)) (N' + 1 + 1)) (F_X3_ofMember_J57 (N' + 1 + 1 + 1) (F_X3_ofMember_L7 (N' + 1 + 1 + 1) n)) from rfl, s1]
      rw [show F_X3_ofMember_L19 (N' + 1 + 1 + 1) (F_X3_ofMember_J57 (N' + 1 + 1 + 1) (F_X3_ofMember_L7 (N' + 1 + 1 + 1) n)) (N' + 1 + 1) = F_X3_ofMember_J19 (N' + 1 + 1 + 1) (F_X3_ofMember_L19 (N' + 1 + 1 + 1) (F_X3_ofMember_J57 (N' + 1 + 1 + 1) (F_X3_ofMember_L7 (N' + 1 + 1 + 1) n)) (N' + 1)) (F_X3_ofMember_J57 (N' + 1 + 1 + 1) (F_X3_ofMember_L7 (N' + 1 + 1 + 1) n)) from rfl, s2]
      rw [show F_X3_ofMember_L19 (N' + 1 + 1 + 1) (F_X3_ofMember_J57 (N' + 1 + 1 + 1) (F_X3_ofMember_L7 (N' + 1 + 1 + 1) n)) (N' + 1) = F_X3_ofMember_J19 (N' + 1 + 1 + 1) (F_X3_ofMember_L19 (N' + 1 + 1 + 1) (F_X3_ofMember_J57 (N' + 1 + 1 + 1) (F_X3_ofMember_L7 (N' + 1 + 1 + 1) n)) N') (F_X3_ofMember_J57 (N' + 1 + 1 + 1) (F_X3_ofMember_L7 (N' + 1 + 1 + 1) n)) from rfl]
      simp only [F_X3_ofMember_J19, F_X3_ofMember_J57, show (2 : Int32) ≤ nI (1 + 1) from by decide, if_true, nI_1]
  obtain ⟨G, r1, r2⟩ := key N 0 (Nat.zero_le _) (by omega) g1 (fun v o ho hv => by rw [if_neg (by omega)]; exact q2 _ (by omega))
  refine ⟨G, ?_, r2⟩
  obtain ⟨o10, o2, o6, o4, o5, o3, o9⟩ := h.o
  unfold F_X3_ofMember
  simp only [o3, q1, Option.bind_some, bd2_s]
  exact r1
/-- a member's sides in a row with the outcomes of wagers oc -/
noncomputable def esum (β : sB) (l : sL) (mem : Int32) (k : Nat) : Int32 := sm (fun w => sd l mem w * pay (boc β w k) (bc1 β w) (bc2 β w)) (bW β) 0
theorem S_gsum (hN : 60 < N) (h : RXo stf K b m c tc tk cb n nk ncb ad β δ H) (hB : bOk β) {mem : Int32} {G : Nat → Int32} (hg : H.1 (b + 44) = some (aI 60 G)) (hG : gOk β (dL δ) mem (bW β) G) {k : Nat} {ex ps lf : Prop} {x : Int64} (hc : cv (bW β) ex ps lf (fun w => boc β w k) x) (he : ex) : F_X3_sum N (some (b + 43)) x H = some (esum β (dL δ) mem k, H) := by
  obtain ⟨e, -⟩ := h.gn
  have hW := hB.2.2.1
  have ho : ∀ w, boc β w k < 5 := fun w => hB.2.2.2.2.1 w k
  have hd : ∀ v, v < 12 → d5 x v = if v < bW β then 2 ^ boc β v k else 0 := fun v hv => by
    rw [hc.1 v hv, bN_t he]
    by_cases q : v < bW β
    · rw [if_pos q, if_pos q, Nat.one_mul]
    · rw [if_neg q, if_neg q]
  rw [S_sum (N := N) (by omega) e rfl hg ho (fun v hv => by
    rw [hd v hv]
    by_cases q : v < bW β
    · rw [if_pos q]; exact Or.inr rfl
    · rw [if_neg q]; exact Or.inl rfl)]
  congr 2
  have hp : ∀ o, ¬ 2 ^ o = 0 := fun o z => by have := Nat.pow_pos (n := o) (by decide : 0 < 2); omega
  rw [sm_cut (W := bW β) hW (fun v h1 h2 => by
    have : ¬ v < bW β := by omega
    rw [if_pos (by rw [hd v h2, if_neg this])])]
  refine sm_congr _ _ (fun v _ hv => ?_)
  have hv' : v < bW β := by omega
  rw [if_neg (by rw [hd v (by omega), if_pos hv']; exact hp _), hG v _ (ho v) (by omega), if_pos hv']
end Gains
