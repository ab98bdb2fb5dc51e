/-! PURE: the reference. Its object: int fields v, arrays at m + 1 .. m + 35. -/
def mfs (m : Nat) (v : Nat → Int32) : List Value := [.int (v 0), .int (v 1), .int (v 2), .int (v 3), .int (v 4), .int (v 5), va_rf (some (m + 1)), va_rf (some (m + 2)), va_rf (some (m + 3)), va_rf (some (m + 4)), va_rf (some (m + 5)), va_rf (some (m + 6)), va_rf (some (m + 7)), va_rf (some (m + 8)), va_rf (some (m + 9)), va_rf (some (m + 10)), va_rf (some (m + 11)), va_rf (some (m + 12)), va_rf (some (m + 13)), va_rf (some (m + 14)), va_rf (some (m + 15)), va_rf (some (m + 16)), va_rf (some (m + 17)), .int (v 23), .int (v 24), .int (v 25), .int (v 26), .int (v 27), .int (v 28), va_rf (some (m + 18)), va_rf (some (m + 19)), .int (v 31), .int (v 32), .int (v 33), .int (v 34), .int (v 35), va_rf (some (m + 20)), va_rf (some (m + 21)), .int (v 38), .int (v 39), .int (v 40), .int (v 41), va_rf (some (m + 22)), va_rf (some (m + 23)), va_rf (some (m + 24)), va_rf (some (m + 25)), .int (v 46), .int (v 47), va_rf (some (m + 26)), .int (v 49), va_rf (some (m + 27)), .int (v 51), va_rf (some (m + 28)), va_rf (some (m + 29)), va_rf (some (m + 30)), va_rf (some (m + 31)), va_rf (some (m + 32)), va_rf (some (m + 33)), .int (v 58), .int (v 59), .int (v 60), va_rf (some (m + 34)), .int (v 62), va_rf (some (m + 35))]
abbrev mo (m : Nat) (v : Nat → Int32) : xE := ob 11 (mfs m v)
theorem mi0 {m : Nat} {v : Nat → Int32} : (mfs m v)[0]? = some (.int (v 0)) := rfl -- things
theorem ms0 {m : Nat} {v : Nat → Int32} {x : Int32} : (mfs m v).set 0 (.int x) = mfs m (upd v 0 x) := rfl
theorem mi1 {m : Nat} {v : Nat → Int32} : (mfs m v)[1]? = some (.int (v 1)) := rfl -- members
theorem ms1 {m : Nat} {v : Nat → Int32} {x : Int32} : (mfs m v).set 1 (.int x) = mfs m (upd v 1 x) := rfl
theorem mi2 {m : Nat} {v : Nat → Int32} : (mfs m v)[2]? = some (.int (v 2)) := rfl -- wagers
theorem ms2 {m : Nat} {v : Nat → Int32} {x : Int32} : (mfs m v).set 2 (.int x) = mfs m (upd v 2 x) := rfl
theorem mi3 {m : Nat} {v : Nat → Int32} : (mfs m v)[3]? = some (.int (v 3)) := rfl -- statements
theorem ms3 {m : Nat} {v : Nat → Int32} {x : Int32} : (mfs m v).set 3 (.int x) = mfs m (upd v 3 x) := rfl
theorem mi4 {m : Nat} {v : Nat → Int32} : (mfs m v)[4]? = some (.int (v 4)) := rfl -- links
theorem ms4 {m : Nat} {v : Nat → Int32} {x : Int32} : (mfs m v).set 4 (.int x) = mfs m (upd v 4 x) := rfl
theorem mi5 {m : Nat} {v : Nat → Int32} : (mfs m v)[5]? = some (.int (v 5)) := rfl -- books
theorem ms5 {m : Nat} {v : Nat → Int32} {x : Int32} : (mfs m v).set 5 (.int x) = mfs m (upd v 5 x) := rfl
theorem ma6 {m : Nat} {v : Nat → Int32} : (mfs m v)[6]? = some (va_rf (some (m + 1))) := rfl -- from
theorem ma7 {m : Nat} {v : Nat → Int32} : (mfs m v)[7]? = some (va_rf (some (m + 2))) := rfl -- until
theorem ma8 {m : Nat} {v : Nat → Int32} : (mfs m v)[8]? = some (va_rf (some (m + 3))) := rfl -- first
theorem ma9 {m : Nat} {v : Nat → Int32} : (mfs m v)[9]? = some (va_rf (some (m + 4))) := rfl -- second
theorem ma10 {m : Nat} {v : Nat → Int32} : (mfs m v)[10]? = some (va_rf (some (m + 5))) := rfl -- coinFirst
theorem ma11 {m : Nat} {v : Nat → Int32} : (mfs m v)[11]? = some (va_rf (some (m + 6))) := rfl -- coinSecond
theorem ma12 {m : Nat} {v : Nat → Int32} : (mfs m v)[12]? = some (va_rf (some (m + 7))) := rfl -- linkKind
theorem ma13 {m : Nat} {v : Nat → Int32} : (mfs m v)[13]? = some (va_rf (some (m + 8))) := rfl -- linkOne
theorem ma14 {m : Nat} {v : Nat → Int32} : (mfs m v)[14]? = some (va_rf (some (m + 9))) := rfl -- linkOther
theorem ma15 {m : Nat} {v : Nat → Int32} : (mfs m v)[15]? = some (va_rf (some (m + 10))) := rfl -- linkIn
theorem ma16 {m : Nat} {v : Nat → Int32} : (mfs m v)[16]? = some (va_rf (some (m + 11))) := rfl -- claimAt
theorem ma17 {m : Nat} {v : Nat → Int32} : (mfs m v)[17]? = some (va_rf (some (m + 12))) := rfl -- offAt
theorem ma18 {m : Nat} {v : Nat → Int32} : (mfs m v)[18]? = some (va_rf (some (m + 13))) := rfl -- doubleAt
theorem ma19 {m : Nat} {v : Nat → Int32} : (mfs m v)[19]? = some (va_rf (some (m + 14))) := rfl -- endAt
theorem ma20 {m : Nat} {v : Nat → Int32} : (mfs m v)[20]? = some (va_rf (some (m + 15))) := rfl -- op
theorem ma21 {m : Nat} {v : Nat → Int32} : (mfs m v)[21]? = some (va_rf (some (m + 16))) := rfl -- one
theorem ma22 {m : Nat} {v : Nat → Int32} : (mfs m v)[22]? = some (va_rf (some (m + 17))) := rfl -- two
theorem mi23 {m : Nat} {v : Nat → Int32} : (mfs m v)[23]? = some (.int (v 23)) := rfl -- newThings
theorem ms23 {m : Nat} {v : Nat → Int32} {x : Int32} : (mfs m v).set 23 (.int x) = mfs m (upd v 23 x) := rfl
theorem mi24 {m : Nat} {v : Nat → Int32} : (mfs m v)[24]? = some (.int (v 24)) := rfl -- newMembers
theorem ms24 {m : Nat} {v : Nat → Int32} {x : Int32} : (mfs m v).set 24 (.int x) = mfs m (upd v 24 x) := rfl
theorem mi25 {m : Nat} {v : Nat → Int32} : (mfs m v)[25]? = some (.int (v 25)) := rfl -- newWagers
theorem ms25 {m : Nat} {v : Nat → Int32} {x : Int32} : (mfs m v).set 25 (.int x) = mfs m (upd v 25 x) := rfl
theorem mi26 {m : Nat} {v : Nat → Int32} : (mfs m v)[26]? = some (.int (v 26)) := rfl -- newStatements
theorem ms26 {m : Nat} {v : Nat → Int32} {x : Int32} : (mfs m v).set 26 (.int x) = mfs m (upd v 26 x) := rfl
theorem mi27 {m : Nat} {v : Nat → Int32} : (mfs m v)[27]? = some (.int (v 27)) := rfl -- newLinks
theorem ms27 {m : Nat} {v : Nat → Int32} {x : Int32} : (mfs m v).set 27 (.int x) = mfs m (upd v 27 x) := rfl
theorem mi28 {m : Nat} {v : Nat → Int32} : (mfs m v)[28]? = some (.int (v 28)) := rfl -- stepMany
theorem ms28 {m : Nat} {v : Nat → Int32} {x : Int32} : (mfs m v).set 28 (.int x) = mfs m (upd v 28 x) := rfl
theorem ma29 {m : Nat} {v : Nat → Int32} : (mfs m v)[29]? = some (va_rf (some (m + 18))) := rfl -- thingName
theorem ma30 {m : Nat} {v : Nat → Int32} : (mfs m v)[30]? = some (va_rf (some (m + 19))) := rfl -- memberName
theorem mi31 {m : Nat} {v : Nat → Int32} : (mfs m v)[31]? = some (.int (v 31)) := rfl -- taped
theorem ms31 {m : Nat} {v : Nat → Int32} {x : Int32} : (mfs m v).set 31 (.int x) = mfs m (upd v 31 x) := rfl
theorem mi32 {m : Nat} {v : Nat → Int32} : (mfs m v)[32]? = some (.int (v 32)) := rfl -- size
theorem ms32 {m : Nat} {v : Nat → Int32} {x : Int32} : (mfs m v).set 32 (.int x) = mfs m (upd v 32 x) := rfl
theorem mi33 {m : Nat} {v : Nat → Int32} : (mfs m v)[33]? = some (.int (v 33)) := rfl -- at
theorem ms33 {m : Nat} {v : Nat → Int32} {x : Int32} : (mfs m v).set 33 (.int x) = mfs m (upd v 33 x) := rfl
theorem mi34 {m : Nat} {v : Nat → Int32} : (mfs m v)[34]? = some (.int (v 34)) := rfl -- deep
theorem ms34 {m : Nat} {v : Nat → Int32} {x : Int32} : (mfs m v).set 34 (.int x) = mfs m (upd v 34 x) := rfl
theorem mi35 {m : Nat} {v : Nat → Int32} : (mfs m v)[35]? = some (.int (v 35)) := rfl -- fault
theorem ms35 {m : Nat} {v : Nat → Int32} {x : Int32} : (mfs m v).set 35 (.int x) = mfs m (upd v 35 x) := rfl
theorem ma36 {m : Nat} {v : Nat → Int32} : (mfs m v)[36]? = some (va_rf (some (m + 20))) := rfl -- tape
theorem ma37 {m : Nat} {v : Nat → Int32} : (mfs m v)[37]? = some (va_rf (some (m + 21))) := rfl -- text
theorem mi38 {m : Nat} {v : Nat → Int32} : (mfs m v)[38]? = some (.int (v 38)) := rfl -- wordEnd
theorem ms38 {m : Nat} {v : Nat → Int32} {x : Int32} : (mfs m v).set 38 (.int x) = mfs m (upd v 38 x) := rfl
theorem mi39 {m : Nat} {v : Nat → Int32} : (mfs m v)[39]? = some (.int (v 39)) := rfl -- read
theorem ms39 {m : Nat} {v : Nat → Int32} {x : Int32} : (mfs m v).set 39 (.int x) = mfs m (upd v 39 x) := rfl
theorem mi40 {m : Nat} {v : Nat → Int32} : (mfs m v)[40]? = some (.int (v 40)) := rfl -- taken
theorem ms40 {m : Nat} {v : Nat → Int32} {x : Int32} : (mfs m v).set 40 (.int x) = mfs m (upd v 40 x) := rfl
theorem mi41 {m : Nat} {v : Nat → Int32} : (mfs m v)[41]? = some (.int (v 41)) := rfl -- rows
theorem ms41 {m : Nat} {v : Nat → Int32} {x : Int32} : (mfs m v).set 41 (.int x) = mfs m (upd v 41 x) := rfl
theorem ma42 {m : Nat} {v : Nat → Int32} : (mfs m v)[42]? = some (va_rf (some (m + 22))) := rfl -- dayOf
theorem ma43 {m : Nat} {v : Nat → Int32} : (mfs m v)[43]? = some (va_rf (some (m + 23))) := rfl -- state
theorem ma44 {m : Nat} {v : Nat → Int32} : (mfs m v)[44]? = some (va_rf (some (m + 24))) := rfl -- does
theorem ma45 {m : Nat} {v : Nat → Int32} : (mfs m v)[45]? = some (va_rf (some (m + 25))) := rfl -- pile
theorem mi46 {m : Nat} {v : Nat → Int32} : (mfs m v)[46]? = some (.int (v 46)) := rfl -- today
theorem ms46 {m : Nat} {v : Nat → Int32} {x : Int32} : (mfs m v).set 46 (.int x) = mfs m (upd v 46 x) := rfl
theorem mi47 {m : Nat} {v : Nat → Int32} : (mfs m v)[47]? = some (.int (v 47)) := rfl -- came
theorem ms47 {m : Nat} {v : Nat → Int32} {x : Int32} : (mfs m v).set 47 (.int x) = mfs m (upd v 47 x) := rfl
theorem ma48 {m : Nat} {v : Nat → Int32} : (mfs m v)[48]? = some (va_rf (some (m + 26))) := rfl -- cameOn
theorem mi49 {m : Nat} {v : Nat → Int32} : (mfs m v)[49]? = some (.int (v 49)) := rfl -- surePay
theorem ms49 {m : Nat} {v : Nat → Int32} {x : Int32} : (mfs m v).set 49 (.int x) = mfs m (upd v 49 x) := rfl
theorem ma50 {m : Nat} {v : Nat → Int32} : (mfs m v)[50]? = some (va_rf (some (m + 27))) := rfl -- decided
theorem mi51 {m : Nat} {v : Nat → Int32} : (mfs m v)[51]? = some (.int (v 51)) := rfl -- sold
theorem ms51 {m : Nat} {v : Nat → Int32} {x : Int32} : (mfs m v).set 51 (.int x) = mfs m (upd v 51 x) := rfl
theorem ma52 {m : Nat} {v : Nat → Int32} : (mfs m v)[52]? = some (va_rf (some (m + 28))) := rfl -- holder
theorem ma53 {m : Nat} {v : Nat → Int32} : (mfs m v)[53]? = some (va_rf (some (m + 29))) := rfl -- coins
theorem ma54 {m : Nat} {v : Nat → Int32} : (mfs m v)[54]? = some (va_rf (some (m + 30))) := rfl -- balance
theorem ma55 {m : Nat} {v : Nat → Int32} : (mfs m v)[55]? = some (va_rf (some (m + 31))) := rfl -- groups
theorem ma56 {m : Nat} {v : Nat → Int32} : (mfs m v)[56]? = some (va_rf (some (m + 32))) := rfl -- met
theorem ma57 {m : Nat} {v : Nat → Int32} : (mfs m v)[57]? = some (va_rf (some (m + 33))) := rfl -- chosen
theorem mi58 {m : Nat} {v : Nat → Int32} : (mfs m v)[58]? = some (.int (v 58)) := rfl -- chosenMany
theorem ms58 {m : Nat} {v : Nat → Int32} {x : Int32} : (mfs m v).set 58 (.int x) = mfs m (upd v 58 x) := rfl
theorem mi59 {m : Nat} {v : Nat → Int32} : (mfs m v)[59]? = some (.int (v 59)) := rfl -- winCode
theorem ms59 {m : Nat} {v : Nat → Int32} {x : Int32} : (mfs m v).set 59 (.int x) = mfs m (upd v 59 x) := rfl
theorem mi60 {m : Nat} {v : Nat → Int32} : (mfs m v)[60]? = some (.int (v 60)) := rfl -- winCoin
theorem ms60 {m : Nat} {v : Nat → Int32} {x : Int32} : (mfs m v).set 60 (.int x) = mfs m (upd v 60 x) := rfl
theorem ma61 {m : Nat} {v : Nat → Int32} : (mfs m v)[61]? = some (va_rf (some (m + 34))) := rfl -- chances
theorem mi62 {m : Nat} {v : Nat → Int32} : (mfs m v)[62]? = some (.int (v 62)) := rfl -- images
theorem ms62 {m : Nat} {v : Nat → Int32} {x : Int32} : (mfs m v).set 62 (.int x) = mfs m (upd v 62 x) := rfl
theorem ma63 {m : Nat} {v : Nat → Int32} : (mfs m v)[63]? = some (va_rf (some (m + 35))) := rfl -- image
/-- the reference's code of an outcome -/
def mdo (o : Nat) : Nat := match o with
  | 1 => 2
  | 2 => 4
  | 3 => 1
  | 4 => 3
  | _ => 0
/-- what its queries read: the table, the coins, TODAY and what came -/
def mCore (m : Nat) (v : Nat → Int32) (β : sB) (l : sL) (H : xH) : Prop :=
  H.1 m = some (mo m v) ∧ (v 0 = nI (bT β) ∧ v 1 = nI (bM β) ∧ v 2 = nI (bW β) ∧ v 3 = bS β ∧ v 41 = nI (bZ β) ∧ v 46 = nI (lT l)) ∧
  (∃ cb : Nat, cb < 32 ∧ v 47 = nI cb ∧ ∀ j, j < 5 → (cb.testBit j = true ↔ lC l j ≠ 0)) ∧
  (∃ g, H.1 (m + 26) = some (aI 5 g) ∧ ∀ j, j < 5 → lC l j ≠ 0 → g j = nI (lC l j - 1)) ∧
  (∃ g, H.1 (m + 23) = some (aB 59049 g) ∧ ∀ k, k < bZ β → g k = nI (bN (bex β k) + bN (bps β k))) ∧
  (∃ g, H.1 (m + 24) = some (aB 708588 g) ∧ ∀ w, w < bW β → ∀ k, k < bZ β → bex β k → g (59049 * w + k) = nI (mdo (boc β w k))) ∧
  (∃ g, H.1 (m + 5) = some (aI 24 g) ∧ ∀ w, w < bW β → g w = bc1 β w) ∧ (∃ g, H.1 (m + 6) = some (aI 24 g) ∧ ∀ w, w < bW β → g w = bc2 β w)
theorem bZ_le {β : sB} (h : bT β ≤ 5) : bZ β ≤ 59049 := by
  unfold bZ
  exact Nat.pow_le_pow_right (by decide : 0 < 9) h
section Model
variable {N m : Nat} {v : Nat → Int32} {β : sB} {l : sL} {H : xH}
theorem S_in (x lo hi : Int32) : F_X12_isIn N x lo hi H = some (bI (¬ x < lo ∧ ¬ hi < x), H) := by
  unfold F_X12_isIn
  by_cases h1 : x < lo
  · rw [if_pos h1, bI_f (fun h => h.1 h1)]
  · by_cases h2 : hi < x
    · rw [if_neg h1, if_pos h2, bI_f (fun h => h.2 h2)]
    · rw [if_neg h1, if_neg h2, bI_t ⟨h1, h2⟩]
theorem S_unit (p : Prop) : F_X12_unit N (bI p) H = some (bI p, H) := by
  unfold F_X12_unit
  by_cases h : p
  · rw [bI_t h, if_neg (by decide)]
  · rw [bI_f h, if_pos rfl]
theorem S_bit (s k : Int32) : F_X12_bit N s k H = some (bI (((s >>> (k &&& 31)) &&& 1) = 1), H) := by
  unfold F_X12_bit
  by_cases h : ((s >>> (k &&& 31)) &&& 1) = 1
  · rw [if_pos h, bI_t h]
  · rw [if_neg h, bI_f h]
theorem bit_tb : ∀ s, s < 32 → ∀ j, j < 5 → (((nI s >>> (nI j &&& 31)) &&& 1) = 1 ↔ s.testBit j = true) := by decide +kernel
theorem bN2 {p : Prop} : bN p = 1 ↔ p := ⟨fun h => Classical.byContradiction (fun q => by rw [bN_f q] at h; exact absurd h (by decide)), bN_t⟩
theorem st_2 {a b : Prop} (h : b → a) : (nI (bN a + bN b) = 2) ↔ b := by
  by_cases hb : b
  · rw [bN_t hb, bN_t (h hb)]; exact ⟨fun _ => hb, fun _ => rfl⟩
  · rw [bN_f hb]
    refine ⟨fun q => ?_, fun q => absurd q hb⟩
    by_cases ha : a
    · rw [bN_t ha] at q; exact absurd q (by decide)
    · rw [bN_f ha] at q; exact absurd q (by decide)
theorem st_0 {a b : Prop} (h : b → a) : (nI (bN a + bN b) ≤ 0) ↔ ¬ a := by
  by_cases hb : b
  · rw [bN_t hb, bN_t (h hb)]; exact ⟨fun q => absurd q (by decide), fun q => absurd (h hb) q⟩
  · rw [bN_f hb]
    by_cases ha : a
    · rw [bN_t ha]; exact ⟨fun q => absurd q (by decide), fun q => absurd ha q⟩
    · rw [bN_f ha]; exact ⟨fun _ => ha, fun _ => by decide⟩
theorem S_mPos (h : mCore m v β l H) (hB : bOk β) {k : Nat} (hk : k < bZ β) : F_X12_isPossible N (some m) (nI k) H = some (bI (bps β k), H) := by
  obtain ⟨h1, -, -, -, ⟨g, h2, h3⟩, -⟩ := h
  have hz := bZ_le hB.1
  have hpe := hB.2.2.2.1 k hk
  unfold F_X12_isPossible
  rw [gA h1 ma43]
  simp only [Option.bind_some]
  rw [rdI h2 (by omega) (by decide), h3 k hk]
  simp only [Option.bind_some]
  by_cases hp : bps β k
  · rw [if_pos ((st_2 hpe).mpr hp), bI_t hp]
  · rw [if_neg (fun q => hp ((st_2 hpe).mp q)), bI_f hp]
theorem dg0 : ∀ d, d < 9 → (nI d - 1 = -1 ↔ d = 0) := by decide +kernel
theorem dgt : ∀ t, t < 8 → ∀ d, d < 9 → d ≠ 0 → (nI t ≤ nI d - 1 ↔ t + 1 ≤ d) := by decide +kernel
theorem dgc : ∀ c, c < 9 → c ≠ 0 → ∀ d, d < 9 → (nI d - 1 = nI (c - 1) ↔ d = c) := by decide +kernel
theorem S_mLeftL (h : mCore m v β l H) (hT : bT β ≤ 5) (h7 : lT l ≤ 7) (h8 : ∀ j, lC l j ≤ 8) {k : Nat} (hk : k < 2 ^ 31) : ∀ (n i : Nat), i ≤ bT β → bT β - i < n →
    F_X12_isLeft_L14 N n (some m) (nI (k / 9 ^ i)) (nI i) H = some (bI (∀ j, j < bT β → i ≤ j → (if lC l j = 0 then dig k j = 0 ∨ lT l + 1 ≤ dig k j else dig k j = lC l j)), H) := by
  obtain ⟨h1, ⟨e0, -, -, -, -, e46⟩, ⟨cb, hcb, e47, htb⟩, ⟨gc, h2, h3⟩, -⟩ := h
  intro n
  induction n with
  | zero => intro i hi hm; omega
  | succ n ih =>
    intro i hi hm
    show F_X12_isLeft_J14 N (F_X12_isLeft_L14 N n) (some m) (nI (k / 9 ^ i)) (nI i) H = _
    unfold F_X12_isLeft_J14 F_X12_isLeft_J77
    by_cases hlt : i < bT β
    · have n1 : ¬ nI (bT β) ≤ nI i := nI_ge hlt (by omega)
      have hq : k / 9 ^ i < 2 ^ 31 := Nat.lt_of_le_of_lt (Nat.div_le_self _ _) hk
      have hrem : nI (k / 9 ^ i) - nI (k / 9 ^ i) / 9 * 9 = nI (dig k i) := pk_rem hq (by decide) (by decide)
      have hdiv : nI (k / 9 ^ i) / 9 = nI (k / 9 ^ (i + 1)) := by
        rw [show (9 : Int32) = nI 9 from rfl, pk_div hq (by decide) (by decide), Nat.div_div_eq_div_mul, Nat.pow_succ]
      have hd := dig_lt k i
      have r := ih (i + 1) (by omega) (by omega)
      have hstep : ∀ (P : Nat → Prop), P i → (bI (∀ j, j < bT β → i + 1 ≤ j → P j) = bI (∀ j, j < bT β → i ≤ j → P j)) := fun P hP => bI_c ⟨fun q j hj hij => by
        by_cases hji : j = i
        · subst hji; exact hP
        · exact q j hj (by omega), fun q j hj hij => q j hj (by omega)⟩
      have hbit := bit_tb cb hcb i (by omega)
      rw [hrem, hdiv]
      simp only [gI h1 mi0, gI h1 mi47, Option.bind_some, e0, n1, if_false, S_bit, bd2_s, e47]
      by_cases hc : lC l i = 0
      · have hb : ¬ ((nI cb >>> (nI i &&& 31)) &&& 1) = 1 := fun q => (htb i (by omega)).mp (hbit.mp q) hc
        rw [bI_f hb, if_pos rfl]
        by_cases hd0 : dig k i = 0
        · rw [if_pos ((dg0 _ hd).mpr hd0), nI_1, r, hstep _ (by rw [if_pos hc]; exact Or.inl hd0)]
        · rw [if_neg (fun q => hd0 ((dg0 _ hd).mp q)), gI h1 mi46, e46]
          simp only [Option.bind_some]
          by_cases ht : lT l + 1 ≤ dig k i
          · rw [if_pos ((dgt _ (by omega) _ hd hd0).mpr ht), nI_1, r, hstep _ (by rw [if_pos hc]; exact Or.inr ht)]
          · rw [if_neg (fun q => ht ((dgt _ (by omega) _ hd hd0).mp q)), bI_f (fun q => by
              have := q i hlt (Nat.le_refl i)
              rw [if_pos hc] at this
              rcases this with z | z
              · exact hd0 z
              · exact ht z)]
      · have hb : ((nI cb >>> (nI i &&& 31)) &&& 1) = 1 := hbit.mpr ((htb i (by omega)).mpr hc)
        rw [bI_t hb, if_neg (by decide : ¬ (1 : Int32) = 0), gA h1 ma48]
        simp only [Option.bind_some]
        rw [rdI h2 (by omega) (by decide), h3 i (by omega) hc]
        simp only [Option.bind_some]
        have h9 := h8 i
        by_cases hdc : dig k i = lC l i
        · rw [if_pos ((dgc _ (by omega) hc _ hd).mpr hdc), nI_1, r, hstep _ (by rw [if_neg hc]; exact hdc)]
        · rw [if_neg (fun q => hdc ((dgc _ (by omega) hc _ hd).mp q)), bI_f (fun q => by
            have := q i hlt (Nat.le_refl i)
            rw [if_neg hc] at this
            exact hdc this)]
    · have n1 : nI (bT β) ≤ nI i := nI_le (by omega) (by omega)
      simp only [gI h1 mi0, Option.bind_some, e0, n1, if_true]
      rw [bI_t (fun j hj hij => by omega)]
theorem S_mLeft (h : mCore m v β l H) (hB : bOk β) (h7 : lT l ≤ 7) (h8 : ∀ j, lC l j ≤ 8) (hN : 5 < N) {k : Nat} (hk : k < bZ β) : F_X12_isLeft N (some m) (nI k) H = some (bI (lft β l k), H) := by
  have hz := bZ_le hB.1
  unfold F_X12_isLeft
  rw [obx h.1]
  simp only [Option.bind_some]
  rw [S_mPos h hB hk, bd2_s]
  by_cases hp : bps β k
  · rw [bI_t hp, if_neg (by decide : ¬ (1 : Int32) = 0)]
    have r := S_mLeftL (N := N) h hB.1 h7 h8 (k := k) (by omega) N 0 (Nat.zero_le _) (by have := hB.1; omega)
    rw [show k / 9 ^ 0 = k by simp] at r
    rw [show (0 : Int32) = nI 0 from rfl, r]
    congr 2
    exact bI_c ⟨fun q => ⟨hp, fun j hj => q j hj (Nat.zero_le _)⟩, fun q j hj _ => q.2 j hj⟩
  · rw [bI_f hp, if_pos rfl, bI_f (fun q => hp q.1)]
end Model

