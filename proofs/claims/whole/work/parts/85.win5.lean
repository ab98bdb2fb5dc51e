/-! PURE: STEP win: the class's search. -/
theorem bI_or0 (p : Prop) : bI p ||| 0 = bI p := by
  by_cases h : p
  · rw [bI_t h]; decide
  · rw [bI_f h]; decide
theorem bI_or1 (p : Prop) : bI p ||| 1 = 1 := by
  by_cases h : p
  · rw [bI_t h]; decide
  · rw [bI_f h]; decide
theorem bI_01 (p : Prop) : bI p = 0 ∨ bI p = 1 := by
  by_cases h : p
  · exact Or.inr (bI_t h)
  · exact Or.inl (bI_f h)
section Win5
variable {stf : Nat → Nat} {N K b m : Nat} {β : sB} {δ : sD} {H : xH}
variable {c tc tk cb n nk ncb : Nat} {ad : Nat → Nat}
/-- what takeSides lays -/
def gT (β : sB) (P : Nat → Prop) (x i : Nat) (G : Nat → Int32) : Prop := ∀ v o, o < 5 → v < 12 → G (5 * v + o) = @ite _ (v < bW β ∧ P v ∧ cnt P v < i) (Classical.propDecidable _) (sgn (t3 x (cnt P v)) (pay o (bc1 β v) (bc2 β v))) 0
theorem S_take (hN : 59049 < N) (ho : RXo stf K b m c tc tk cb n nk ncb ad β δ H) (hB : bOk β) {u k cc : Nat} {x3 x4 : Int32} {gq : Nat → Option Nat} {gn : Nat → Int32} {cm : Nat → Int64} (hS : wS b cb ncb k (nI cc) x3 x4 gq gn cm H) (hk : k = cnt (wP β (dL δ) u) (bW β)) (hk6 : k ≤ 6) (hg : ∀ v, v < bW β → wP β (dL δ) u v → gq (cnt (wP β (dL δ) u) v) = some (ad v) ∧ gn (cnt (wP β (dL δ) u) v) = nI v) {x : Nat} (hx : x < 3 ^ k) : ∃ G, F_X9_takeSides N (some (b + 45)) (nI x) (some (b + 43)) H = some (wst β (dL δ) u x, xup H (b + 44) (aI 60 G)) ∧ gT β (wP β (dL δ) u) x k G := by
  have t12 := hB.2.2.1
  obtain ⟨G0, c1, c2⟩ := S_gclear (N := N) (by omega) ho
  obtain ⟨e, gg, hgg⟩ := ho.gn
  have h3k : 3 ^ k ≤ 729 := Nat.le_trans (Nat.pow_le_pow_right (by decide) hk6) (by decide)
  have hx31 : x < 2 ^ 31 := by omega
  generalize hP : wP β (dL δ) u = P at *
  let ch : Nat → Nat := fun i => (gn i).toNatClampNeg
  have hch : chs P (bW β) ch := fun w hw hp => by
    show (gn (cnt P w)).toNatClampNeg = w
    rw [(hg w hw hp).2, nI_clamp (by omega)]
  have hcv : ∀ i, i < k → ch i < bW β ∧ P (ch i) ∧ cnt P (ch i) = i ∧ gn i = nI (ch i) ∧ gq i = some (ad (ch i)) := fun i hi => by
    obtain ⟨c1, c2, c3⟩ := hch.inv (show i < cnt P (bW β) by omega)
    have := hg (ch i) c1 c2
    rw [c3] at this
    exact ⟨c1, c2, c3, this.2, this.1⟩
  obtain ⟨w1, w2, w3, w4⟩ := id hS
  have hxs : ∀ G, RXo stf K b m c tc tk cb n nk ncb ad β δ (xup H (b + 44) (aI 60 G)) := fun G => ho.gc hgg
  have o1 : ∀ G, (xup H (b + 44) (aI 60 G)).1 (b + 45) = _ := fun G => (xup_ne _ (by omega)).trans w1
  have o2 : ∀ G, (xup H (b + 44) (aI 60 G)).1 (b + 46) = _ := fun G => (xup_ne _ (by omega)).trans w2
  have o3 : ∀ G, (xup H (b + 44) (aI 60 G)).1 (b + 47) = _ := fun G => (xup_ne _ (by omega)).trans w3
  have r1 : ∀ G, xgI (xup H (b + 44) (aI 60 G)) (some (b + 45)) 9 2 = some (nI k) := fun G => gI (o1 G) rfl
  have r2 : ∀ G, xgA (xup H (b + 44) (aI 60 G)) (some (b + 45)) 9 0 = some (some (b + 46)) := fun G => gA (o1 G) rfl
  have r3 : ∀ G, xgA (xup H (b + 44) (aI 60 G)) (some (b + 45)) 9 1 = some (some (b + 47)) := fun G => gA (o1 G) rfl
  have hwst : wst β (dL δ) u x = sm (fun i => sgk (t3 x i) (bc1 β (ch i)) (bc2 β (ch i))) k 0 := by
    unfold wst
    rw [hP, sm_chs (f := fun w => sgk (t3 x (cnt P w)) (bc1 β w) (bc2 β w)) (bW β) hch, ← hk]
    exact sm_congr _ _ (fun i _ hi => by
      obtain ⟨a1, a2, a3, a4⟩ := hcv i (by omega)
      show sgk (t3 x (cnt P (ch i))) _ _ = _
      rw [a3])
  have loop := upto (s := k) (P := fun f i => ∀ G, gT β P x i G → ∃ G', F_X9_takeSides_L12 N f (some (b + 45)) (some (b + 43)) (sm (fun i => sgk (t3 x i) (bc1 β (ch i)) (bc2 β (ch i))) i 0) (nI (x / 3 ^ i)) (nI i) (xup H (b + 44) (aI 60 G)) = some (sm (fun i => sgk (t3 x i) (bc1 β (ch i)) (bc2 β (ch i))) k 0, xup H (b + 44) (aI 60 G')) ∧ gT β P x k G') (fun f G hG => ⟨G, by
    rw [show F_X9_takeSides_L12 N (f + 1) = F_X9_takeSides_J12 N (F_X9_takeSides_L12 N f) from rfl]
    simp only [F_X9_takeSides_J12, r1, nI_le (Nat.le_refl _) (show k < 2 ^ 31 by omega), if_true, Option.bind_some, bd2_s], hG⟩) (fun f i hi ih G hG => by
    obtain ⟨a1, a2, a3, a4, a5⟩ := hcv i hi
    obtain ⟨p10, p2, p6, p4, p5, p3, p9⟩ := (hxs G).o
    have hd := t3_lt x i
    have esm : sm (fun i => sgk (t3 x i) (bc1 β (ch i)) (bc2 β (ch i))) (i + 1) 0 = sm (fun i => sgk (t3 x i) (bc1 β (ch i)) (bc2 β (ch i))) i 0 + sgk (t3 x i) (bc1 β (ch i)) (bc2 β (ch i)) := by rw [sm_snoc, Nat.zero_add]
    rw [esm] at ih
    rw [show F_X9_takeSides_L12 N (f + 1) = F_X9_takeSides_J12 N (F_X9_takeSides_L12 N f) from rfl]
    simp only [F_X9_takeSides_J12, F_X9_takeSides_J85, r1, nI_ge hi (show k < 2 ^ 31 by omega), if_false, r2, leQ (o2 G), nI_ge (show i < 6 by omega) (by decide : 6 < 2 ^ 31), rdQ (o2 G) (show i < 6 by omega) (by decide), a5, div3 hx31, rem3 hx31, reduceCtorEq, r3, S_at (o3 G) (by decide : 6 < 2 ^ 31), gat_nI (show i < 2 ^ 31 by omega), show i < 6 by omega, if_true, a4, p3, nI_1, Option.bind_some, bd2_s]
    have next : ∀ G', (∀ v o, o < 5 → v < 12 → G' (5 * v + o) = if v = ch i then G (5 * v + o) + sgn (t3 x i) (pay o (bc1 β (ch i)) (bc2 β (ch i))) else G (5 * v + o)) → gT β P x (i + 1) G' := fun G' h v o ho5 hv => by
      rw [h v o ho5 hv]
      by_cases e : v = ch i
      · rw [if_pos e, hG v o ho5 hv, if_neg (by rintro ⟨-, -, z⟩; rw [e, a3] at z; omega), Int32.zero_add, if_pos ⟨by rw [e]; exact a1, by rw [e]; exact a2, by rw [e, a3]; omega⟩, e, a3]
      · rw [if_neg e, hG v o ho5 hv]
        by_cases q : v < bW β ∧ P v ∧ cnt P v < i
        · rw [if_pos q, if_pos ⟨q.1, q.2.1, by omega⟩]
        · rw [if_neg q, if_neg (fun z => q ⟨z.1, z.2.1, by
            have h1 := z.2.2
            by_cases e2 : cnt P v = i
            · have := hch v z.1 z.2.1
              rw [e2] at this
              exact absurd this.symm e
            · omega⟩)]
    by_cases h0 : t3 x i = 0
    · rw [if_pos (by rw [h0]; decide)]
      have es : sgk (t3 x i) (bc1 β (ch i)) (bc2 β (ch i)) = 0 := by rw [h0]; rfl
      rw [es, Int32.add_zero] at ih
      exact ih G (next G (fun v o _ _ => by
        rw [h0, show ∀ p, sgn 0 p = 0 from fun _ => rfl, Int32.add_zero]
        split <;> rfl))
    · have hside : nI (t3 x i) - (1 : Int32) = nI (t3 x i - 1) := by rw [show (1 : Int32) = nI 1 from rfl, pk_sub (by omega)]
      rw [hside, if_neg (nI_pos (by omega))]
      obtain ⟨G', s1, s2⟩ := S_addSide (N := N) (s := t3 x i - 1) (by omega) (hxs G) a1 t12 (by omega) (xup_at _)
      rw [xup_up] at s1
      have hbt := (hxs G').bt (N := N) a1
      have hst : F_X0_stake N (some (ad (ch i))) (nI (t3 x i - 1)) (xup H (b + 44) (aI 60 G')) = some (sgk (t3 x i) (bc1 β (ch i)) (bc2 β (ch i)), xup H (b + 44) (aI 60 G')) := by
        unfold F_X0_stake
        have : t3 x i = 1 ∨ t3 x i = 2 := by omega
        rcases this with z | z
        · rw [z, if_pos (by decide), hbt.2.1]; rfl
        · rw [z, if_neg (by decide), hbt.2.2.1]; rfl
      simp only [s1, hbt.1, hst, Option.bind_some, bd2_s]
      exact ih G' (next G' (fun v o ho5 hv => by
        rw [s2 v o ho5 hv]
        by_cases e : v = ch i
        · rw [if_pos e, if_pos e]
          congr 1
          unfold adS sgn
          have : t3 x i = 1 ∨ t3 x i = 2 := by omega
          rcases this with z | z
          · rw [z]; rfl
          · rw [z]; rfl
        · rw [if_neg e, if_neg e]))) N 0 (Nat.zero_le _) (by omega) G0 (fun v o ho5 hv => by
      rw [c2 _ (show 5 * v + o < 60 by omega), if_neg (by rintro ⟨-, -, z⟩; omega)])
  obtain ⟨G', l1, l2⟩ := loop
  rw [show x / 3 ^ 0 = x by simp] at l1
  refine ⟨G', ?_, l2⟩
  obtain ⟨p10, p2, p6, p4, p5, p3, p9⟩ := ho.o
  unfold F_X9_takeSides
  simp only [p3, c1, Option.bind_some, bd2_s]
  rw [hwst]
  exact l1
theorem isC_wsm {P : Nat → Prop} {l : sL} {u x : Nat} {y : Int64} {r r' : Nat} (hB : bOk β) (hP : wP β l u = P) (h : isC β P y r) (h' : isC β P y r') : wsm β l u x r = wsm β l u x r' := by
  have t12 := hB.2.2.1
  unfold wsm
  refine sm_congr _ _ (fun w _ hw => ?_)
  by_cases hp : wP β l u w
  · rw [if_pos hp, if_pos hp]
    have hw' : w < bW β ∧ P w := ⟨by omega, by rw [← hP]; exact hp⟩
    have e := ((h w (by omega)).1 hw').symm.trans ((h' w (by omega)).1 hw')
    have : boc β w r = boc β w r' := (two_inj _ (hB.2.2.2.2.1 w r) _ (hB.2.2.2.2.1 w r')).mp (by rw [e])
    rw [this]
  · rw [if_neg hp, if_neg hp]
theorem S_can (hN : 59049 < N) (ho : RXo stf K b m c tc tk cb n nk ncb ad β δ H) (hB : bOk β) {u k cc x : Nat} {x3 x4 : Int32} {gq : Nat → Option Nat} {gn : Nat → Int32} {cm : Nat → Int64} {G : Nat → Int32} (hS : wS b cb ncb k (nI cc) x3 x4 gq gn cm H) (hk : k = cnt (wP β (dL δ) u) (bW β)) (hcc : cc ≤ ncb) (hncb : ncb ≤ 15625) (hC : cOk β (dL δ) (wP β (dL δ) u) cc cm) (hGa : H.1 (b + 44) = some (aI 60 G)) (hG : gT β (wP β (dL δ) u) x k G) : F_X9_canOnlyWin N (some (b + 45)) (some (b + 43)) H = some (bI (wok β (dL δ) u x), H) := by
  have t12 := hB.2.2.1
  have hoc := hB.2.2.2.2.1
  obtain ⟨w1, w2, w3, w4⟩ := id hS
  obtain ⟨e', -⟩ := ho.gn
  obtain ⟨p10, p2, p6, p4, p5, p3, p9⟩ := ho.o
  have r4 : xgI H (some (b + 45)) 9 4 = some (nI cc) := gI w1 rfl
  have r3 : xgA H (some (b + 45)) 9 3 = some (some cb) := gA w1 rfl
  generalize hP : wP β (dL δ) u = P at *
  have hrr : ∀ i, ∃ r, i < cc → r < bZ β ∧ lft β (dL δ) r ∧ isC β P (cm i) r := fun i => by
    by_cases h : i < cc
    · obtain ⟨r, h1⟩ := hC.1 i h
      exact ⟨r, fun _ => h1⟩
    · exact ⟨0, fun z => absurd z h⟩
  obtain ⟨rr, hrr⟩ := Classical.axiomOfChoice hrr
  have hp : ∀ o, ¬ 2 ^ o = 0 := fun o z => by have := Nat.pow_pos (n := o) (by decide : 0 < 2); omega
  have hsum : ∀ i, i < cc → F_X3_sum N (some (b + 43)) (cm i) H = some (wsm β (dL δ) u x (rr i), H) := fun i hi => by
    obtain ⟨h1, h2, h3⟩ := hrr i hi
    rw [S_sum (N := N) (by omega) e' rfl hGa (fun v => hoc v (rr i)) (fun v hv => by
      by_cases q : v < bW β ∧ P v
      · exact Or.inr ((h3 v hv).1 q)
      · exact Or.inl ((h3 v hv).2 q))]
    congr 2
    rw [sm_cut (W := bW β) t12 (fun v h1 h2 => by rw [if_pos ((h3 v h2).2 (fun z => by have := z.1; omega))])]
    unfold wsm
    rw [hP]
    refine sm_congr _ _ (fun v _ hv => ?_)
    have hv' : v < bW β := by omega
    by_cases q : P v
    · have hlt : cnt P v < k := by
        have := cnt_mono P (i := v + 1) (j := bW β) hv'
        rw [cnt_t q] at this
        omega
      rw [if_neg (by rw [(h3 v (by omega)).1 ⟨hv', q⟩]; exact hp _), if_pos q, hG v _ (hoc v (rr i)) (by omega), if_pos ⟨hv', q, hlt⟩]
    · rw [if_pos ((h3 v (by omega)).2 (fun z => q z.2)), if_neg q]
  have hall : wok β (dL δ) u x ↔ (∀ j, j < cc → ¬ wsm β (dL δ) u x (rr j) < 0) ∧ ∃ j, j < cc ∧ 0 < wsm β (dL δ) u x (rr j) := by
    constructor
    · rintro ⟨h1, r, r1, r2, r3⟩
      refine ⟨fun j hj => h1 _ (hrr j hj).1 (hrr j hj).2.1, ?_⟩
      obtain ⟨i, i1, i2⟩ := hC.2 r r1 r2
      exact ⟨i, i1, by rw [isC_wsm hB hP (hrr i i1).2.2 i2]; exact r3⟩
    · rintro ⟨h1, j, j1, j2⟩
      refine ⟨fun r r1 r2 => ?_, rr j, (hrr j j1).1, (hrr j j1).2.1, j2⟩
      obtain ⟨i, i1, i2⟩ := hC.2 r r1 r2
      rw [isC_wsm hB hP i2 (hrr i i1).2.2]
      exact h1 i i1
  have loop := upto (s := cc) (P := fun f i => (∀ j, j < i → ¬ wsm β (dL δ) u x (rr j) < 0) → F_X9_canOnlyWin_L4 N f (some (b + 45)) (some (b + 43)) (bI (∃ j, j < i ∧ 0 < wsm β (dL δ) u x (rr j))) (nI i) H = some (bI (wok β (dL δ) u x), H)) (fun f hno => by
    rw [show F_X9_canOnlyWin_L4 N (f + 1) = F_X9_canOnlyWin_J4 N (F_X9_canOnlyWin_L4 N f) from rfl]
    simp only [F_X9_canOnlyWin_J4, r4, nI_le (Nat.le_refl _) (show cc < 2 ^ 31 by omega), if_true, Option.bind_some, bd2_s]
    rw [if_pos (bI_01 _), bI_c (show (∃ j, j < cc ∧ 0 < wsm β (dL δ) u x (rr j)) ↔ wok β (dL δ) u x from ⟨fun z => hall.mpr ⟨hno, z⟩, fun z => (hall.mp z).2⟩)]) (fun f i hi ih hno => by
    rw [show F_X9_canOnlyWin_L4 N (f + 1) = F_X9_canOnlyWin_J4 N (F_X9_canOnlyWin_L4 N f) from rfl]
    simp only [F_X9_canOnlyWin_J4, F_X9_canOnlyWin_J51, r4, nI_ge hi (show cc < 2 ^ 31 by omega), if_false, r3, leJ w4, nI_ge (show i < ncb by omega) (show ncb < 2 ^ 31 by omega), rdJ w4 (show i < ncb by omega) (show ncb < 2 ^ 31 by omega), p3, hsum i hi, nI_1, Option.bind_some, bd2_s]
    by_cases hneg : 0 ≤ wsm β (dL δ) u x (rr i)
    · rw [if_pos hneg]
      have hno' : ∀ j, j < i + 1 → ¬ wsm β (dL δ) u x (rr j) < 0 := fun j hj => by
        by_cases e : j = i
        · rw [e]; exact Int32.not_lt.mpr hneg
        · exact hno j (by omega)
      have ih := ih hno'
      by_cases hz : wsm β (dL δ) u x (rr i) ≤ 0
      · rw [if_pos hz, bI_or0, bI_c (show (∃ j, j < i ∧ 0 < wsm β (dL δ) u x (rr j)) ↔ ∃ j, j < i + 1 ∧ 0 < wsm β (dL δ) u x (rr j) from ⟨fun ⟨j, j1, j2⟩ => ⟨j, by omega, j2⟩, fun ⟨j, j1, j2⟩ => ⟨j, by
          by_cases e : j = i
          · rw [e] at j2; exact absurd hz (Int32.not_le.mpr j2)
          · omega, j2⟩⟩)]
        exact ih
      · rw [if_neg hz, bI_or1, ← bI_t (show ∃ j, j < i + 1 ∧ 0 < wsm β (dL δ) u x (rr j) from ⟨i, by omega, Int32.not_le.mp hz⟩)]
        exact ih
    · rw [if_neg hneg, bI_f (fun z => (hall.mp z).1 i hi (Int32.not_le.mp hneg))]) N 0 (Nat.zero_le _) (by omega) (fun j hj => by omega)
  rw [bI_f (by rintro ⟨j, j1, -⟩; omega)] at loop
  exact loop
theorem S_search (hN : 59049 < N) (ho : RXo stf K b m c tc tk cb n nk ncb ad β δ H) (hB : bOk β) (hw0 : hW H) (hm36 : m + 36 ≤ H.2.1) {u k cc : Nat} {x3 x4 : Int32} {gq : Nat → Option Nat} {gn : Nat → Int32} {cm : Nat → Int64} (hS : wS b cb ncb k (nI cc) x3 x4 gq gn cm H) (hk : k = cnt (wP β (dL δ) u) (bW β)) (hk6 : k ≤ 6) (hg : ∀ v, v < bW β → wP β (dL δ) u v → gq (cnt (wP β (dL δ) u) v) = some (ad v) ∧ gn (cnt (wP β (dL δ) u) v) = nI v) (hcc : cc ≤ ncb) (hncb : ncb ≤ 15625) (hC : cOk β (dL δ) (wP β (dL δ) u) cc cm) : ∃ G, F_X9_search N (some (b + 45)) (some (b + 43)) H = some (xup (xup H (b + 44) (aI 60 G)) (b + 45) (wob b k cb (nI cc) (wbs β (dL δ) u (3 ^ k - 1)).1 (wbs β (dL δ) u (3 ^ k - 1)).2)) ∧ RXo stf K b m c tc tk cb n nk ncb ad β δ (xup (xup H (b + 44) (aI 60 G)) (b + 45) (wob b k cb (nI cc) (wbs β (dL δ) u (3 ^ k - 1)).1 (wbs β (dL δ) u (3 ^ k - 1)).2)) := by
  obtain ⟨w1, w2, w3, w4⟩ := id hS
  obtain ⟨e, gg, hgg⟩ := ho.gn
  have hw5 := ho.2.2.2.2.2.2.2.2.2.2.1.2.2.2.2
  have h3k : 3 ^ k ≤ 729 := Nat.le_trans (Nat.pow_le_pow_right (by decide) hk6) (by decide)
  have h3p := Nat.pow_pos (n := k) (by decide : 0 < 3)
  have hcb : cb ≠ b + 45 ∧ cb ≠ b + 44 := by
    refine ⟨fun z => ?_, fun z => ?_⟩
    · rw [z, w1] at w4; cases w4
    · rw [z, hgg] at w4; cases w4
  let W : (Nat → Int32) → Int32 → Int32 → xH := fun G y3 y4 => xup (xup H (b + 44) (aI 60 G)) (b + 45) (wob b k cb (nI cc) y3 y4)
  have wo : ∀ G y3 y4, (W G y3 y4).1 (b + 45) = some (wob b k cb (nI cc) y3 y4) := fun G y3 y4 => xup_at _
  have wg : ∀ G y3 y4, (W G y3 y4).1 (b + 44) = some (aI 60 G) := fun G y3 y4 => (xup_ne _ (by omega)).trans (xup_at _)
  have wk : ∀ G y3 y4 a, a ≠ b + 44 → a ≠ b + 45 → (W G y3 y4).1 a = H.1 a := fun G y3 y4 a h1 h2 => by
    show (xup (xup H (b + 44) (aI 60 G)) (b + 45) _).1 a = _
    rw [xup_ne _ h2, xup_ne _ h1]
  have hSw : ∀ G y3 y4, wS b cb ncb k (nI cc) y3 y4 gq gn cm (W G y3 y4) := fun G y3 y4 => ⟨wo G y3 y4, by rw [wk _ _ _ _ (by omega) (by omega)]; exact w2, by rw [wk _ _ _ _ (by omega) (by omega)]; exact w3, by rw [wk _ _ _ _ hcb.2 hcb.1]; exact w4⟩
  have hxw : ∀ G y3 y4, RXo stf K b m c tc tk cb n nk ncb ad β δ (W G y3 y4) := fun G y3 y4 => ho.wnS hw0 hm36 ((wF.rf.up (by omega)).up (by omega)) rfl ⟨by rw [wk _ _ _ _ (by omega) (by omega)]; exact e, _, wg G y3 y4⟩ ((hSw G y3 y4).xw hw5) (Nat.le_refl K)
  have wW : ∀ G G' y3 y4, xup (W G y3 y4) (b + 44) (aI 60 G') = W G' y3 y4 := fun G G' y3 y4 => by
    show xup (xup (xup H (b + 44) _) (b + 45) _) (b + 44) _ = xup (xup H (b + 44) _) (b + 45) _
    rw [xup_cm (show b + 45 ≠ b + 44 by omega), xup_up]
  have wP5 : ∀ G y3 y4 z, xpI (W G y3 y4) (some (b + 45)) 9 5 z = some (W G z y4) := fun G y3 y4 z => by
    unfold xpI
    rw [pV (wo G y3 y4) (show (5 : Nat) < 7 by decide)]
    show some (xup (xup (xup H (b + 44) _) (b + 45) _) (b + 45) _) = _
    rw [xup_up]; rfl
  have wP6 : ∀ G y3 y4 z, xpI (W G y3 y4) (some (b + 45)) 9 6 z = some (W G y3 z) := fun G y3 y4 z => by
    unfold xpI
    rw [pV (wo G y3 y4) (show (6 : Nat) < 7 by decide)]
    show some (xup (xup (xup H (b + 44) _) (b + 45) _) (b + 45) _) = _
    rw [xup_up]; rfl
  have r5 : ∀ G y3 y4, xgI (W G y3 y4) (some (b + 45)) 9 5 = some y3 := fun G y3 y4 => gI (wo G y3 y4) rfl
  have r6 : ∀ G y3 y4, xgI (W G y3 y4) (some (b + 45)) 9 6 = some y4 := fun G y3 y4 => gI (wo G y3 y4) rfl
  have p9 : ∀ G y3 y4, xob (W G y3 y4) (some (b + 45)) 9 = some (b + 45) := fun G y3 y4 => obx (wo G y3 y4)
  have loop := upto (s := 3 ^ k) (P := fun f i => ∀ G, 1 ≤ i → ∃ G', F_X9_search_L21 N f (some (b + 45)) (some (b + 43)) (nI (3 ^ k)) (nI i) (W G (wbs β (dL δ) u (i - 1)).1 (wbs β (dL δ) u (i - 1)).2) = some (W G' (wbs β (dL δ) u (3 ^ k - 1)).1 (wbs β (dL δ) u (3 ^ k - 1)).2)) (fun f G h1 => ⟨G, by
    rw [show F_X9_search_L21 N (f + 1) = F_X9_search_J21 N (F_X9_search_L21 N f) from rfl]
    simp only [F_X9_search_J21, nI_le (Nat.le_refl _) (show 3 ^ k < 2 ^ 31 by omega), if_true]⟩) (fun f i hi ih G h1 => by
    obtain ⟨i, rfl⟩ : ∃ i', i = i' + 1 := ⟨i - 1, by omega⟩
    simp only [Nat.add_sub_cancel] at ih ⊢
    generalize hb1 : wbs β (dL δ) u i = bw at *
    obtain ⟨y3, y4⟩ := bw
    obtain ⟨G1, t1, t2⟩ := S_take (N := N) hN (hxw G y3 y4) hB (hSw G y3 y4) hk hk6 hg hi
    rw [wW] at t1
    have hcan := S_can (N := N) hN (hxw G1 y3 y4) hB (hSw G1 y3 y4) hk hcc hncb hC (wg G1 y3 y4) t2
    obtain ⟨G', k1⟩ := ih G1 (by omega)
    have no : ¬ (((wbs β (dL δ) u i).1 = -1 ∨ ¬ (wbs β (dL δ) u i).2 ≤ wst β (dL δ) u (i + 1)) ∧ wok β (dL δ) u (i + 1)) → ∃ G', F_X9_search_L21 N f (some (b + 45)) (some (b + 43)) (nI (3 ^ k)) (nI (i + 1 + 1)) (W G1 y3 y4) = some (W G' (wbs β (dL δ) u (3 ^ k - 1)).1 (wbs β (dL δ) u (3 ^ k - 1)).2) := fun h => by
      have e := wbs_f h
      rw [e, hb1] at k1
      exact ⟨G', k1⟩
    have yes : (((wbs β (dL δ) u i).1 = -1 ∨ ¬ (wbs β (dL δ) u i).2 ≤ wst β (dL δ) u (i + 1)) ∧ wok β (dL δ) u (i + 1)) → ∃ G', F_X9_search_L21 N f (some (b + 45)) (some (b + 43)) (nI (3 ^ k)) (nI (i + 1 + 1)) (W G1 (nI (i + 1)) (wst β (dL δ) u (i + 1))) = some (W G' (wbs β (dL δ) u (3 ^ k - 1)).1 (wbs β (dL δ) u (3 ^ k - 1)).2) := fun h => by
      have e := wbs_t h
      rw [e] at k1
      exact ⟨G', k1⟩
    rw [hb1] at no yes
    rw [show F_X9_search_L21 N (f + 1) = F_X9_search_J21 N (F_X9_search_L21 N f) from rfl]
    simp only [F_X9_search_J21, F_X9_search_J70, F_X9_search_J51, nI_ge hi (show 3 ^ k < 2 ^ 31 by omega), if_false, p9, t1, r5, r6, hcan, nI_1, Option.bind_some, bd2_s]
    have go : (y3 = -1 ∨ ¬ y4 ≤ wst β (dL δ) u (i + 1)) → ∃ G', (if bI (wok β (dL δ) u (i + 1)) = 0 then F_X9_search_L21 N f (some (b + 45)) (some (b + 43)) (nI (3 ^ k)) (nI (i + 1 + 1)) (W G1 y3 y4) else ((xpI (W G1 y3 y4) (some (b + 45)) 9 5 (nI (i + 1))).bind fun H5 => (xpI H5 (some (b + 45)) 9 6 (wst β (dL δ) u (i + 1))).bind fun H6 => F_X9_search_L21 N f (some (b + 45)) (some (b + 43)) (nI (3 ^ k)) (nI (i + 1 + 1)) H6)) = some (W G' (wbs β (dL δ) u (3 ^ k - 1)).1 (wbs β (dL δ) u (3 ^ k - 1)).2) := fun h => by
      by_cases hok : wok β (dL δ) u (i + 1)
      · rw [bI_t hok, if_neg (by decide), wP5]
        simp only [Option.bind_some, bd2_s, wP6]
        exact yes ⟨h, hok⟩
      · rw [bI_f hok, if_pos rfl]
        exact no (fun z => hok z.2)
    by_cases hn : y3 = -1
    · rw [if_pos hn]
      exact go (Or.inl hn)
    · rw [if_neg hn]
      by_cases hle : y4 ≤ wst β (dL δ) u (i + 1)
      · rw [if_pos hle]
        exact no (fun z => z.1.elim (fun w => hn w) (fun w => w hle))
      · rw [if_neg hle]
        exact go (Or.inr hle)) N 1 h3p (by omega) gg (Nat.le_refl _)
  obtain ⟨G', l1⟩ := loop
  refine ⟨G', ?_, hxw G' _ _⟩
  have i1 : xpI H (some (b + 45)) 9 5 (-1) = some (W gg (-1) x4) := by
    have hW0 : H = W gg x3 x4 := by
      show H = xup (xup H (b + 44) (aI 60 gg)) (b + 45) (wob b k cb (nI cc) x3 x4)
      rw [xup_id hgg, xup_id w1]
    conv => lhs; rw [hW0]
    exact wP5 gg x3 x4 (-1)
  have r2 : xgI (W gg (-1) (-1)) (some (b + 45)) 9 2 = some (nI k) := gI (wo gg _ _) rfl
  unfold F_X9_search
  simp only [i1, wP6, r2, S_pow3 (N := N) (by omega) hk6, Option.bind_some, bd2_s]
  exact l1
end Win5
