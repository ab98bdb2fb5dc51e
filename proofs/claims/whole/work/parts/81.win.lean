/-! PURE: STEP win: what it is. -/
theorem bitw {u w : Nat} (hu : u < 2 ^ 31) (hw : w < 31) : (nI u >>> (nI w &&& 31)) &&& (1 : Int32) = nI (u / 2 ^ w % 2) ∧ nI u >>> (nI w &&& 31) = nI (u / 2 ^ w) := by
  have e1 : ∀ w, w < 31 → nI w &&& 31 = nI w ∧ ((nI w).toBitVec.smod 32).toNat = w := by decide +kernel
  obtain ⟨a1, a2⟩ := e1 w hw
  have e2 : nI u >>> nI w = nI (u / 2 ^ w) := pk_shrN hu (nI w) w a2
  rw [a1, e2]
  refine ⟨?_, rfl⟩
  have hd : u / 2 ^ w < 2 ^ 32 := Nat.lt_of_le_of_lt (Nat.div_le_self _ _) (by omega)
  exact pk_andN hd 1 (by decide)
theorem tb2 (u w : Nat) : u.testBit w = true ↔ u / 2 ^ w % 2 = 1 := by rw [Nat.testBit_eq_decide_div_mod_eq, decide_eq_true_eq]
/-- the chosen ones, in their order -/
def chs (P : Nat → Prop) (i : Nat) (ch : Nat → Nat) : Prop := ∀ w, w < i → P w → ch (cnt P w) = w
theorem chs.inv {P : Nat → Prop} {i : Nat} {ch : Nat → Nat} (h : chs P i ch) {k : Nat} (hk : k < cnt P i) : ch k < i ∧ P (ch k) ∧ cnt P (ch k) = k := by
  induction i with
  | zero => simp [cnt] at hk
  | succ i ih =>
    by_cases hp : P i
    · rw [cnt_t hp] at hk
      by_cases e : k = cnt P i
      · have := h i (by omega) hp
        rw [← e] at this
        rw [this]; exact ⟨by omega, hp, e.symm⟩
      · obtain ⟨a, b, c⟩ := ih (fun w hw hpw => h w (by omega) hpw) (by omega)
        exact ⟨by omega, b, c⟩
    · rw [cnt_f hp] at hk
      obtain ⟨a, b, c⟩ := ih (fun w hw hpw => h w (by omega) hpw) hk
      exact ⟨by omega, b, c⟩
theorem sm_chs {P : Nat → Prop} {f : Nat → Int32} {ch : Nat → Nat} : ∀ W, chs P W ch → sm (fun w => @ite _ (P w) (Classical.propDecidable _) (f w) 0) W 0 = sm (fun k => f (ch k)) (cnt P W) 0 := by
  intro W
  induction W with
  | zero => intro _; rfl
  | succ W ih =>
    intro h
    rw [sm_snoc, ih (fun w hw hp => h w (by omega) hp), Nat.zero_add]
    by_cases hp : P W
    · rw [if_pos hp, cnt_t hp, sm_snoc, Nat.zero_add, h W (by omega) hp]
    · rw [if_neg hp, cnt_f hp, Int32.add_zero]
/-- a side's digit -/
def t3 (x k : Nat) : Nat := x / 3 ^ k % 3
def sgn (d : Nat) (p : Int32) : Int32 := if d = 1 then p else if d = 2 then -p else 0
def sgk (d : Nat) (c1 c2 : Int32) : Int32 := if d = 1 then c1 else if d = 2 then c2 else 0
/-- the wagers that are asked for -/
def wP (β : sB) (l : sL) (u w : Nat) : Prop := u.testBit w = true ∧ ¬ suW β l w
noncomputable def wsm (β : sB) (l : sL) (u x c : Nat) : Int32 := sm (fun w => @ite _ (wP β l u w) (Classical.propDecidable _) (sgn (t3 x (cnt (wP β l u) w)) (pay (boc β w c) (bc1 β w) (bc2 β w))) 0) (bW β) 0
noncomputable def wst (β : sB) (l : sL) (u x : Nat) : Int32 := sm (fun w => @ite _ (wP β l u w) (Classical.propDecidable _) (sgk (t3 x (cnt (wP β l u) w)) (bc1 β w) (bc2 β w)) 0) (bW β) 0
def wok (β : sB) (l : sL) (u x : Nat) : Prop := (∀ c, c < bZ β → lft β l c → ¬ wsm β l u x c < 0) ∧ ∃ c, c < bZ β ∧ lft β l c ∧ 0 < wsm β l u x c
/-- the best of the first i codes -/
noncomputable def wbs (β : sB) (l : sL) (u : Nat) : Nat → Int32 × Int32
  | 0 => (-1, -1)
  | i + 1 => @ite _ (((wbs β l u i).1 = -1 ∨ ¬ (wbs β l u i).2 ≤ wst β l u (i + 1)) ∧ wok β l u (i + 1)) (Classical.propDecidable _) (nI (i + 1), wst β l u (i + 1)) (wbs β l u i)
theorem wbs_t {β : sB} {l : sL} {u i : Nat} (h : ((wbs β l u i).1 = -1 ∨ ¬ (wbs β l u i).2 ≤ wst β l u (i + 1)) ∧ wok β l u (i + 1)) : wbs β l u (i + 1) = (nI (i + 1), wst β l u (i + 1)) := by conv => lhs; unfold wbs; rw [if_pos h]
theorem wbs_f {β : sB} {l : sL} {u i : Nat} (h : ¬ (((wbs β l u i).1 = -1 ∨ ¬ (wbs β l u i).2 ≤ wst β l u (i + 1)) ∧ wok β l u (i + 1))) : wbs β l u (i + 1) = wbs β l u i := by conv => lhs; unfold wbs; rw [if_neg h]
theorem t3_s (x k : Nat) : x / 3 ^ (k + 1) = x / 3 ^ k / 3 := by rw [Nat.pow_succ, Nat.div_div_eq_div_mul]
theorem div3 {x k : Nat} (h : x < 2 ^ 31) : nI (x / 3 ^ k) / (3 : Int32) = nI (x / 3 ^ (k + 1)) := by
  rw [t3_s]
  exact pk_div (Nat.lt_of_le_of_lt (Nat.div_le_self _ _) h) (by decide : 0 < 3) (by decide)
theorem rem3 {x k : Nat} (h : x < 2 ^ 31) : nI (x / 3 ^ k) - nI (x / 3 ^ (k + 1)) * (3 : Int32) = nI (t3 x k) := by
  rw [← div3 h]
  exact pk_rem (Nat.lt_of_le_of_lt (Nat.div_le_self _ _) h) (by decide : 0 < 3) (by decide)
theorem t3_lt (x k : Nat) : t3 x k < 3 := Nat.mod_lt _ (by decide)
section WinX
variable {stf : Nat → Nat} {N K b m : Nat} {β : sB} {δ : sD} {H : xH}
variable {c tc tk cb n nk ncb : Nat} {ad : Nat → Nat}
def wob (b k cb : Nat) (x2 x3 x4 : Int32) : xE := ob 9 [va_rf (some (b + 46)), va_rf (some (b + 47)), .int (nI k), va_rf (some cb), .int x2, .int x3, .int x4]
/-- the class's state, where Winner and Gains have worked -/
theorem RXo.wn {cb' ncb' K' : Nat} (h : RXo stf K b m c tc tk cb n nk ncb ad β δ H) {H' : xH} (hw0 : hW H) (hm36 : m + 36 ≤ H.2.1) (hs : H'.2.2.2 = H.2.2.2) (hF : ∀ a, a < H.2.1 → ¬ (a = b + 44 ∨ a = b + 45 ∨ a = b + 46 ∨ a = b + 47 ∨ a = cb) → H'.1 a = H.1 a) (hg : xGain b H') (hw : xWin b cb' ncb' H') (hcb : cb' = cb ∨ H.2.1 ≤ cb') (hR : H'.2.1 + dN δ ≤ b + 300 + 40 * K' ∧ H'.2.2.1 + 5 * dN δ ≤ 1500000 + 500 * K' + 4 * n + 2 * ncb') : RXo stf K' b m c tc tk cb' n nk ncb' ad β δ H' := by
  have hlt : ∀ a e, H.1 a = some e → a < H.2.1 := hw0
  have h' := h
  obtain ⟨hD, h1, h2, h3, h4, h5, h6, h7, h8, h9, h10, h11, h12, r1, r2, r3, r4⟩ := h
  have hD' := hD
  obtain ⟨d1, d2, ⟨d3, d4, d5⟩, ⟨d6, d7, d8⟩, ⟨d9, d10, d11⟩, ⟨d12, d13, d14⟩, d15⟩ := hD
  have hc8 : c + 8 < H.2.1 := by
    obtain ⟨-, -, -, ⟨g, z, -⟩, -⟩ := h4
    exact hlt _ _ z
  have htc : tc < H.2.1 := by
    obtain ⟨-, ⟨g, z, -⟩, -⟩ := h5
    exact hlt _ _ z
  have htk : tk < H.2.1 := by
    obtain ⟨-, -, -, -, ⟨g, z⟩, -⟩ := h5
    exact hlt _ _ z
  have had : ∀ w, w < bW β → ad w < H.2.1 := fun w hw => by
    obtain ⟨-, -, -, -, z⟩ := h4
    obtain ⟨o1, o2, p1, p2, p3, q1, -⟩ := z w hw
    exact hlt _ _ q1
  have k : ∀ a, a < H.2.1 → ¬ (a = b + 44 ∨ a = b + 45 ∨ a = b + 46 ∨ a = b + 47 ∨ a = cb) → H'.1 a = H.1 a := hF
  refine ⟨⟨d1, d2, ⟨d3, d4, d5⟩, ⟨d6, d7, d8⟩, ⟨?_, ?_, ?_⟩, ⟨d12, ?_, ?_⟩, fun w hw => ?_⟩, h1.fr (k b (by omega) (by omega)), h2.fr (k _ (by omega) (by omega)), h3.fr (fun a a1 a2 => k a (by omega) (by omega)), h4.fr (fun a a1 a2 => k a (by omega) (by omega)) (fun w hw => k _ (had w hw) (by have := d15 w hw; omega)), ?_, h6.fr (fun a a1 a2 => k a (by omega) (by omega)), h7.fr (fun a a1 a2 => k a (by omega) (by omega)), h8.fr (fun a ha => k a (by omega) (by omega)), hg, hw, ?_, h12.fr hs (fun a ha => k a (by omega) (by omega)), r1, r2, hR.1, hR.2⟩
  · rcases hcb with e | e
    · rw [e]; exact d9
    · exact Or.inr (by omega)
  · rcases hcb with e | e
    · rw [e]; exact d10
    · exact Or.inr (by omega)
  · rcases hcb with e | e
    · rw [e]; exact d11
    · exact Or.inr (by omega)
  · rcases hcb with e | e
    · rw [e]; exact d13
    · omega
  · rcases hcb with e | e
    · rw [e]; exact d14
    · omega
  · obtain ⟨w1, w2, w3, w4, w5, w6⟩ := d15 w hw
    refine ⟨w1, w2, w3, w4, ?_, w6⟩
    rcases hcb with e | e
    · rw [e]; exact w5
    · have := had w hw; omega
  · unfold xTab at h5 ⊢
    rw [k _ (by omega) (by omega), k tc htc (by omega), k tk htk (by omega), k _ (by omega) (by omega), k _ (by omega) (by omega)]
    exact h5
  · unfold xOG
    rw [k _ (by omega) (by omega), k _ (by omega) (by omega)]; exact h11
theorem mR.wn {v : Nat → Int32} (hD : DX b m c tc tk cb ad β) {H' : xH} (hm36 : m + 36 ≤ H.2.1) (hF : ∀ a, a < H.2.1 → ¬ (a = b + 44 ∨ a = b + 45 ∨ a = b + 46 ∨ a = b + 47 ∨ a = cb) → H'.1 a = H.1 a) (h : mR m v β δ H) : mR m v β δ H' := by
  obtain ⟨d1, d2, -, -, ⟨d9, d10, d11⟩, -⟩ := hD
  exact h.fr (fun a a1 a2 => hF a (by omega) (by unfold oM at d10; omega))
theorem S_fillJ {k : Nat} (hk : k < 2 ^ 31) (hN : k < N) {a : Nat} {g : Nat → Int64} (h : H.1 a = some (aJ k g)) (x : Int64) : ∃ g', F_J7_fill_d0a16 N (some a) x H = some (xup H a (aJ k g')) ∧ ∀ j, j < k → g' j = x := by
  have key := upto (s := k) (P := fun f i => ∀ g, (∀ j, j < i → g j = x) → ∃ g', F_J7_fill_d0a16_L6 N f (some a) x (nI i) (nI k) (xup H a (aJ k g)) = some (xup H a (aJ k g')) ∧ ∀ j, j < k → g' j = x) (fun f g hg => ⟨g, by
    rw [show F_J7_fill_d0a16_L6 N (f + 1) = F_J7_fill_d0a16_J6 N (F_J7_fill_d0a16_L6 N f) from rfl]
    unfold F_J7_fill_d0a16_J6
    rw [if_pos (nI_le (Nat.le_refl _) hk)], hg⟩) (fun f i hi ih g hg => by
    obtain ⟨g', e1, e2⟩ := ih (vp_updL g i x) (fun j hj => by
      by_cases e : j = i
      · rw [e, pk_uLs]
      · rw [pk_uLn e]; exact hg j (by omega))
    refine ⟨g', ?_, e2⟩
    rw [← e1, show F_J7_fill_d0a16_L6 N (f + 1) = F_J7_fill_d0a16_J6 N (F_J7_fill_d0a16_L6 N f) from rfl]
    unfold F_J7_fill_d0a16_J6
    rw [if_neg (nI_ge hi hk), stJ (xup_at _) hi hk]
    simp only [Option.bind_some, bd2_s, xup_up, nI_1]) N 0 (Nat.zero_le _) (by omega) g (fun j hj => by omega)
  rw [xup_id h] at key
  unfold F_J7_fill_d0a16
  rw [leJ h]
  exact key
end WinX
