/-! PURE: allowedDigits, singleOutcomes, mark. -/
/-- the outcome bits of a wager in a cell -/
def obits (cell : Int64) (w : Int32) : Int32 := (((cell.toUInt64 >>> (((5 : Int32) * w).toInt64.toUInt64 &&& Int64.toUInt64 63)).toInt64)).toInt32 &&& (31 : Int32)
theorem S_obits {N : Nat} {H : xH} (cell : Int64) (w : Int32) : F_X11_outcomeBits N cell w H = some (obits cell w, H) := rfl
theorem S_mixed {N : Nat} {H : xH} (o : Int32) : F_X6_isMixed N o H = some (bI (¬ (o &&& (o - 1)) = 0), H) := by
  unfold F_X6_isMixed
  by_cases h : (o &&& (o - 1)) = 0
  · rw [if_pos h, bI_f (fun q => q h)]
  · rw [if_neg h, bI_t h]
noncomputable def sgl (seen : Int64) : Nat → Int64
  | 0 => 0
  | w + 1 => if (obits seen (nI w) &&& (obits seen (nI w) - 1)) = 0 then sgl seen w ||| ((obits seen (nI w)).toInt64 <<< (((5 : Int32) * nI w).toInt64 &&& 63)) else sgl seen w
theorem S_single {N : Nat} {H : xH} (seen : Int64) : ∀ (m w : Nat), w ≤ 12 → 12 - w < m → F_X6_singleOutcomes_L5 N m seen (sgl seen w) (nI w) H = some (sgl seen 12, H) := by
  intro m
  induction m with
  | zero => intro w hw hm; omega
  | succ m ih =>
    intro w hw hm
    show F_X6_singleOutcomes_J5 N (F_X6_singleOutcomes_L5 N m) seen (sgl seen w) (nI w) H = _
    unfold F_X6_singleOutcomes_J5
    by_cases hlt : w < 12
    · have hn : ¬ (12 : Int32) ≤ nI w := nI_ge hlt (by decide)
      have hr := ih (w + 1) (by omega) (by omega)
      rw [if_neg hn, S_obits, bd2_s, S_mixed, bd2_s]
      unfold F_X6_singleOutcomes_J39
      by_cases ho : (obits seen (nI w) &&& (obits seen (nI w) - 1)) = 0
      · rw [bI_f (fun q => q ho), if_pos rfl, nI_1]
        rw [show sgl seen (w + 1) = sgl seen w ||| ((obits seen (nI w)).toInt64 <<< (((5 : Int32) * nI w).toInt64 &&& 63)) from if_pos ho] at hr
        exact hr
      · rw [bI_t ho, if_neg (by decide : ¬ (1 : Int32) = 0), nI_1]
        rw [show sgl seen (w + 1) = sgl seen w from if_neg ho] at hr
        exact hr
    · have : w = 12 := by omega
      subst this
      rw [if_pos (show (12 : Int32) ≤ nI 12 by decide)]
def adig (today c : Int32) : Int32 := if c = 0 then (((511 : Int32) &&& ((((1 : Int32) <<< ((today + (1 : Int32)) &&& 31)) - (1 : Int32)) ^^^ (-1 : Int32))) ||| (1 : Int32)) else ((1 : Int32) <<< (c &&& 31))
section Mark2
variable {N t td ta tc l lc n s T : Nat} {fs ls : List Value} {al cm : Nat → Int32} {today : Int32}
theorem S_adig {H : xH} {j : Nat} (hj : j < 5) (h1 : H.1 l = some (ob 4 ls)) (l0 : ls[0]? = some (.int today)) (l2 : ls[2]? = some (va_rf (some lc))) (h2 : H.1 lc = some (aI 5 cm)) : F_X4_allowedDigits N (some l) (nI j) H = some (adig today (cm j), H) := by
  unfold F_X4_allowedDigits adig
  have e1 : gat 5 cm (nI j) = cm j := by rw [gat_nI (by omega), if_pos hj]
  simp only [gA h1 l2, Option.bind_some, S_at h2 (by decide : 5 < 2 ^ 31), bd2_s, e1]
  by_cases h : cm j = 0
  · simp only [h, if_true, gI h1 l0, Option.bind_some]
  · simp only [h, if_false]
theorem S_markA (hT : T ≤ 5) (f0 : fs[0]? = some (.int (nI T))) (f8 : fs[8]? = some (va_rf (some ta))) (l0 : ls[0]? = some (.int today)) (l2 : ls[2]? = some (va_rf (some lc))) (hlc : lc ≠ ta) {k29 : Option Nat → xH → Option (Int32 × xH)} :
    ∀ (m i : Nat) (H : xH) (al : Nat → Int32), H.1 t = some (ob 6 fs) → H.1 l = some (ob 4 ls) → H.1 lc = some (aI 5 cm) → H.1 ta = some (aI 5 al) → i ≤ T → T - i < m → F_X6_mark_L2 N k29 m (some t) (some l) (nI i) H = k29 (some t) (xup H ta (aI 5 (fun j => if i ≤ j ∧ j < T then adig today (cm j) else al j))) := by
  intro m
  induction m with
  | zero => intro i H al h1 h2 h3 h4 hi hm; omega
  | succ m ih =>
    intro i H al h1 h2 h3 h4 hi hm
    have hat : t ≠ ta := neA h1 h4 (fun e => by cases e)
    have hlt' : l ≠ ta := neA h2 h4 (fun e => by cases e)
    show F_X6_mark_J2 N (F_X6_mark_L2 N k29 m) k29 (some t) (some l) (nI i) H = _
    unfold F_X6_mark_J2
    by_cases hlt : i < T
    · have hn : ¬ nI T ≤ nI i := nI_ge hlt (by omega)
      have h5 : i < 5 := by omega
      simp only [gI h1 f0, Option.bind_some, hn, if_false, gA h1 f8, obx h2, S_adig h5 h2 l0 l2 h3, bd2_s, S_set h4 h5 (by decide : 5 < 2 ^ 31), nI_1]
      rw [ih (i + 1) _ _ (by rw [xup_ne _ hat]; exact h1) (by rw [xup_ne _ hlt']; exact h2) (by rw [xup_ne _ hlc]; exact h3) (xup_at _) (by omega) (by omega), xup_up]
      congr 5
      funext j
      by_cases hj : j = i
      · subst hj
        have h9 : ¬ (j + 1 ≤ j ∧ j < T) := by omega
        simp [upd, hlt]
      · by_cases hj2 : i + 1 ≤ j ∧ j < T
        · have : i ≤ j ∧ j < T := by omega
          rw [if_pos hj2, if_pos this]
        · have : ¬ (i ≤ j ∧ j < T) := by omega
          rw [if_neg hj2, if_neg this]
          simp [upd, hj]
    · have hn : nI T ≤ nI i := nI_le (by omega) (by omega)
      simp only [gI h1 f0, Option.bind_some, hn, if_true]
      rw [show (fun j => if i ≤ j ∧ j < T then adig today (cm j) else al j) = al from funext fun j => by rw [if_neg (by omega)], xup_id h4]
/-- what the table's cells become: the mark anew by the allowed digits -/
abbrev alf (T : Nat) (today : Int32) (cm : Nat → Int32) : Nat → Int32 := fun j => if j < T then adig today (cm j) else 0
theorem alw_c {T : Nat} {al al' : Nat → Int32} (h : ∀ j, j < T → al j = al' j) : alw T al = alw T al' := by
  funext k
  unfold alw
  exact propext ⟨fun q j hj => by rw [← h j hj]; exact q j hj, fun q j hj => by rw [h j hj]; exact q j hj⟩
theorem S_mark {g0 : Nat → Int32} {c : Nat → Int64} (hT : T ≤ 5) (hn : n < 2 ^ 31) (hs : s ≤ n) (f0 : fs[0]? = some (.int (nI T))) (f1 : fs[1]? = some (.int (nI s))) (f5 : fs[5]? = some (va_rf (some tc))) (f7 : fs[7]? = some (va_rf (some td))) (f8 : fs[8]? = some (va_rf (some ta))) (f3 : 8 < fs.length) (l0 : ls[0]? = some (.int today)) (l2 : ls[2]? = some (va_rf (some lc))) (hlc : lc ≠ ta) (hta : ta ≠ td) (hN : 12 < N) (hNs : s < N)
    {H : xH} (h1 : H.1 t = some (ob 6 fs)) (h2 : H.1 tc = some (aJ n c)) (h3 : H.1 td = some (aI 5 g0)) (h4 : H.1 ta = some (aI 5 al)) (h5 : H.1 l = some (ob 4 ls)) (h6 : H.1 lc = some (aI 5 cm)) :
    ∃ H' g' al', F_X6_mark N (some t) (some l) H = some (nI (lfc c (alw T (alf T today cm)) s), H') ∧ H'.1 t = some (ob 6 ((fs.set 3 (.int (nI (lfc c (alw T (alf T today cm)) s)))).set 4 (.long (sgl (sn c (alw T (alf T today cm)) s) 12)))) ∧ H'.1 tc = some (aJ n (fun j => if j < s then nc c (alw T (alf T today cm)) j else c j)) ∧ H'.1 td = some (aI 5 g') ∧ H'.1 ta = some (aI 5 al') ∧ Fr (fun q => q = t ∨ q = tc ∨ q = td ∨ q = ta) H H' := by
  have htd : td ≠ t := neA h3 h1 (fun e => by cases e)
  have hat : ta ≠ t := neA h4 h1 (fun e => by cases e)
  have htc : tc ≠ ta := neA h2 h4 (fun e => by cases e)
  have htct : tc ≠ t := neA h2 h1 (fun e => by cases e)
  have htcd : tc ≠ td := neA h2 h3 (fun e => by cases e)
  unfold F_X6_mark
  rw [show (0 : Int32) = nI 0 from rfl, S_markA hT f0 f8 l0 l2 hlc N 0 H al h1 h5 h6 h4 (Nat.zero_le _) (by omega)]
  generalize hal : (fun j => if 0 ≤ j ∧ j < T then adig today (cm j) else al j) = al1
  have hw : alw T al1 = alw T (alf T today cm) := alw_c (fun j hj => by rw [← hal]; simp [hj])
  generalize hH1 : xup H ta (aI 5 al1) = H1
  have a1 : H1.1 t = some (ob 6 fs) := by rw [← hH1, xup_ne _ (Ne.symm hat)]; exact h1
  have a2 : H1.1 tc = some (aJ n c) := by rw [← hH1, xup_ne _ htc]; exact h2
  have a3 : H1.1 td = some (aI 5 g0) := by rw [← hH1, xup_ne _ (Ne.symm hta)]; exact h3
  have a4 : H1.1 ta = some (aI 5 al1) := by rw [← hH1, xup_at]
  have aF : Fr (fun q => q = t ∨ q = tc ∨ q = td ∨ q = ta) H H1 := by rw [← hH1]; exact Fr.up (Or.inr (Or.inr (Or.inr rfl)))
  unfold F_X6_mark_J29
  have w1 : xpI H1 (some t) 6 3 0 = some (xup H1 t (ob 6 (fs.set 3 (.int 0)))) := pV a1 (by omega)
  generalize hH2 : xup H1 t (ob 6 (fs.set 3 (.int 0))) = H2 at w1
  have b1 : H2.1 t = some (ob 6 (fs.set 3 (.int 0))) := by rw [← hH2, xup_at]
  have b2 : H2.1 tc = some (aJ n c) := by rw [← hH2, xup_ne _ htct]; exact a2
  have b3 : H2.1 td = some (aI 5 g0) := by rw [← hH2, xup_ne _ htd]; exact a3
  have b4 : H2.1 ta = some (aI 5 al1) := by rw [← hH2, xup_ne _ hat]; exact a4
  have bF : Fr (fun q => q = t ∨ q = tc ∨ q = td ∨ q = ta) H H2 := aF.tr (by rw [← hH2]; exact Fr.up (Or.inl rfl))
  have f7' : (fs.set 3 (Value.int 0))[7]? = some (va_rf (some td)) := by rw [List.getElem?_set_ne (by decide)]; exact f7
  have w2 : F_J7_fill_53178 N (some td) 0 H2 = some (xup H2 td (aI 5 (fun j => if 0 ≤ j ∧ j < 5 then 0 else g0 j))) := by
    unfold F_J7_fill_53178
    rw [leI b3]
    simp only [Option.bind_some]
    exact S_fill 0 (by decide) N 0 H2 g0 b3 (Nat.zero_le _) (by omega)
  generalize hH3 : xup H2 td (aI 5 (fun j => if 0 ≤ j ∧ j < 5 then 0 else g0 j)) = H3 at w2
  have c0 : MkI t tc td ta n s T fs al1 c 0 H3 := by
    refine ⟨by rw [← hH3, xup_ne _ (Ne.symm htd)]; exact b1, by rw [← hH3, xup_ne _ htcd, b2]; simp, ⟨_, by rw [← hH3, xup_at], fun j hj => by simp [hj, dig_zero]; rfl⟩, by rw [← hH3, xup_ne _ hta]; exact b4⟩
  have cF : Fr (fun q => q = t ∨ q = tc ∨ q = td ∨ q = ta) H H3 := bF.tr (by rw [← hH3]; exact Fr.up (Or.inr (Or.inr (Or.inl rfl))))
  obtain ⟨H4, d1, ⟨d2, d3, ⟨g4, d4, -⟩, d5⟩, d6⟩ := S_markL (N := N) hT hn hs f0 f1 f5 f7 f8 (by omega) c htd hta (by omega) (k139 := F_X6_mark_J139 N) N 0 H3 c0 (Nat.zero_le _) (by omega)
  have dF : Fr (fun q => q = t ∨ q = tc ∨ q = td ∨ q = ta) H H4 := cF.tr (d6.mono (fun q hq => by rcases hq with h | h | h <;> simp [h]))
  rw [hw] at d1 d2 d3
  refine ⟨xup H4 t (ob 6 ((fs.set 3 (.int (nI (lfc c (alw T (alf T today cm)) s)))).set 4 (.long (sgl (sn c (alw T (alf T today cm)) s) 12)))), g4, al1, ?_, xup_at _, by rw [xup_ne _ htct]; exact d3, by rw [xup_ne _ htd]; exact d4, by rw [xup_ne _ hat]; exact d5, dF.tr (Fr.up (Or.inl rfl))⟩
  simp only [w1, Option.bind_some, gA b1 f7', w2]
  refine Eq.trans d1 ?_
  unfold F_X6_mark_J139
  have w3 : F_X6_singleOutcomes N (sn c (alw T (alf T today cm)) s) H4 = some (sgl (sn c (alw T (alf T today cm)) s) 12, H4) := S_single _ N 0 (by decide) (by omega)
  have w4 : xpJ H4 (some t) 6 4 (sgl (sn c (alw T (alf T today cm)) s) 12) = some (xup H4 t (ob 6 ((fs.set 3 (.int (nI (lfc c (alw T (alf T today cm)) s)))).set 4 (.long (sgl (sn c (alw T (alf T today cm)) s) 12))))) := pV d2 (by rw [List.length_set]; omega)
  rw [w3, bd2_s, w4]
  simp only [Option.bind_some]
  rw [gI (xup_at _) (show ((fs.set 3 (.int (nI (lfc c (alw T (alf T today cm)) s)))).set 4 (.long (sgl (sn c (alw T (alf T today cm)) s) 12)))[3]? = some (.int (nI (lfc c (alw T (alf T today cm)) s))) by rw [List.getElem?_set_ne (by decide), List.getElem?_set_self (by omega)])]
  rfl
end Mark2
