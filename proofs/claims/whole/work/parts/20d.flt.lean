/-! the text's faults -/
theorem below_sub (x : Int32) {a b : Nat} (ha : a < 1000) (hb : b < 1000) : fX5_isBelow (x - nI a) (nI (b + 1)) = fX6_in x (nI a) (nI (a + b)) := by
  unfold fX5_isBelow fX6_in
  by_cases h0 : x < 0
  · have h1 : x.toInt < 0 := Int32.lt_iff_toInt_lt.mp h0
    have h2 : (nI a).toInt = (a : Int) := nI_toInt (by omega)
    have h3 : -2147483648 ≤ x.toInt := by have := Int32.le_toInt x; omega
    rw [if_pos (show x < nI a from Int32.lt_iff_toInt_lt.mpr (by omega))]
    have h4 : (x - nI a).toInt = (x.toInt - (nI a).toInt).bmod (2 ^ 32) := Int32.toInt_sub x (nI a)
    by_cases c : x - nI a < 0
    · rw [if_pos c]
    · rw [if_neg c, if_pos]
      have h5 : ¬ (x - nI a).toInt < 0 := fun q => c (Int32.lt_iff_toInt_lt.mpr q)
      refine Int32.le_iff_toInt_le.mpr ?_
      rw [nI_toInt (by omega)]
      rw [h4, h2] at h5 ⊢
      rw [Int.bmod_def] at h5 ⊢
      split at h5
      · rw [if_pos (by assumption)]; omega
      · rw [if_neg (by assumption)]; omega
  · obtain ⟨j, hj, rfl⟩ := nI_of h0
    by_cases h1 : j < a
    · have h2 : nI j - nI a < 0 := by
        refine Int32.lt_iff_toInt_lt.mpr ?_
        have h4 : (nI j - nI a).toInt = ((nI j).toInt - (nI a).toInt).bmod (2 ^ 32) := Int32.toInt_sub _ _
        rw [h4, nI_toInt hj, nI_toInt (by omega)]
        rw [Int.bmod_def]
        have : (0 : Int32).toInt = 0 := by decide
        split <;> omega
      rw [if_pos h2, if_pos ((nI_ltI hj (by omega)).mpr h1)]
    · have h2 : nI j - nI a = nI (j - a) := pk_sub (by omega)
      rw [h2, if_neg (nI_pos (by omega)), if_neg (fun q => h1 ((nI_ltI hj (by omega)).mp q))]
      by_cases h3 : a + b < j
      · rw [if_pos ((nI_leI (by omega) (by omega)).mpr (by omega)), if_pos ((nI_ltI (by omega) hj).mpr h3)]
      · rw [if_neg (fun q => h3 (by have := (nI_leI (by omega) (by omega)).mp q; omega)), if_neg (fun q => h3 ((nI_ltI (by omega) hj).mp q))]
/-- what is wanted behind a sign -/
def stp (x st : Int32) : Int32 := if st = (1 : Int32) then (if fX6_in x (48 : Int32) (51 : Int32) = 0 then (-1 : Int32) else 0) else if st = (2 : Int32) then (if fX6_in x (65 : Int32) (88 : Int32) = 0 then (-1 : Int32) else 0) else if st = (3 : Int32) then (if fX6_in x (65 : Int32) (88 : Int32) = 0 then (-1 : Int32) else 4) else if st = (4 : Int32) then (if fX6_in x (97 : Int32) (100 : Int32) = 0 then (-1 : Int32) else 0) else (if fX6_in x (97 : Int32) (100 : Int32) = 0 then (if x = (42 : Int32) then 2 else if x = (43 : Int32) then 3 else if x = (45 : Int32) then 2 else (-1 : Int32)) else 1)
def stOk (st : Int32) : Prop := st = (0 : Int32) ∨ st = (1 : Int32) ∨ st = (2 : Int32) ∨ st = (3 : Int32) ∨ st = (4 : Int32)
theorem stp_ok (x st : Int32) : stp x st = (-1 : Int32) ∨ stOk (stp x st) := by
  unfold stp stOk
  repeat' split
  all_goals simp
theorem wanted_stp {sg : Nat → Int32} {st : Int32} {j : Nat} (hj : j < 60) : fX1_wantedAfter sg st (nI j) = stp (sg j) st := by
  unfold fX1_wantedAfter fX1_wantedBy fX1_kindAt fX1_colourAt fX1_stitchAt fX1_knitterAt
  rw [at_nI hj (by decide)]
  have h1 : fX5_isBelow (sg j - (48 : Int32)) (4 : Int32) = fX6_in (sg j) (48 : Int32) (51 : Int32) := below_sub (sg j) (a := 48) (b := 3) (by decide) (by decide)
  have h2 : fX5_isBelow (sg j - (65 : Int32)) (24 : Int32) = fX6_in (sg j) (65 : Int32) (88 : Int32) := below_sub (sg j) (a := 65) (b := 23) (by decide) (by decide)
  have h3 : fX5_isBelow (sg j - (97 : Int32)) (4 : Int32) = fX6_in (sg j) (97 : Int32) (100 : Int32) := below_sub (sg j) (a := 97) (b := 3) (by decide) (by decide)
  rw [h1, h2, h3]
  unfold stp
  generalize sg j = x
  by_cases c1 : st = (1 : Int32)
  · rw [if_pos c1, if_pos c1]
  · rw [if_neg c1, if_neg c1]
    by_cases c2 : st = (2 : Int32)
    · rw [if_pos c2, if_pos c2]
    · rw [if_neg c2, if_neg c2]
      by_cases c3 : st = (3 : Int32)
      · rw [if_pos c3, if_pos c3]
      · rw [if_neg c3, if_neg c3]
        by_cases c4 : st = (4 : Int32)
        · rw [if_pos c4, if_pos c4]
        · rw [if_neg c4, if_neg c4]
          by_cases d1 : fX6_in x (97 : Int32) (100 : Int32) = 0
          · simp only [if_pos d1]
            by_cases e1 : x = (42 : Int32)
            · simp only [if_pos e1]; rfl
            · simp only [if_neg e1]
              by_cases e2 : x = (43 : Int32)
              · simp only [if_pos e2]; rfl
              · simp only [if_neg e2]
                by_cases e3 : x = (45 : Int32)
                · simp only [if_pos e3]; rfl
                · simp only [if_neg e3]; rfl
          · simp only [if_neg d1]; rfl
theorem flt_step (sn : Nat) (pd : Nat → Int32) (r j : Nat) {st : Int32} (hst : stOk st) : fX6_faultOf_L4 sn pd (r + 1) j st = if stp (pd j) st = (-1 : Int32) then nI j else fX6_faultOf_L4 sn pd r (j + 1) (stp (pd j) st) := by
  rw [fX6_faultOf_L4]
  unfold fX6_isHand fX6_isLetter stp
  generalize pd j = x
  rcases hst with rfl | rfl | rfl | rfl | rfl
  · by_cases d1 : fX6_in x (97 : Int32) (100 : Int32) = 0
    · by_cases e1 : x = (42 : Int32)
      · subst e1; simp [d1]
      · by_cases e2 : x = (43 : Int32)
        · subst e2; simp [d1]
        · by_cases e3 : x = (45 : Int32)
          · subst e3; simp [d1]
          · simp [d1, e1, e2, e3]
    · simp [d1]
  · by_cases d1 : fX6_in x (48 : Int32) (51 : Int32) = 0
    · simp [d1]
    · simp [d1]
  · by_cases d1 : fX6_in x (65 : Int32) (88 : Int32) = 0
    · simp [d1]
    · simp [d1]
  · by_cases d1 : fX6_in x (65 : Int32) (88 : Int32) = 0
    · simp [d1]
    · simp [d1]
  · by_cases d1 : fX6_in x (97 : Int32) (100 : Int32) = 0
    · simp [d1]
    · simp [d1]
theorem fault_eq {np : Nat} {psg pd : Nat → Int32} (hn : np ≤ 60) (h : ∀ k, k < np → psg k = pd k) : ∀ (r j : Nat) (st : Int32), r + j = np → stOk st → fX1_firstFault_L4 np psg r j st = fX6_faultOf_L4 np pd r j st := by
  intro r
  induction r with
  | zero => intro j st _ _; rw [fX1_firstFault_L4, fX6_faultOf_L4]
  | succ r ih =>
    intro j st hr hst
    rw [fX1_firstFault_L4, flt_step np pd r j hst, wanted_stp (by omega), h j (by omega)]
    by_cases c : stp (pd j) st = (-1 : Int32)
    · rw [if_pos c, if_pos c]
    · rw [if_neg c, if_neg c]
      exact ih _ _ (by omega) ((stp_ok _ _).resolve_left c)
/-- the fault is none, or a place -/
theorem flt_val (sn : Nat) (pd : Nat → Int32) : ∀ (r j : Nat) (st : Int32), r + j = sn → stOk st → fX6_faultOf_L4 sn pd r j st = (-6 : Int32) ∨ ∃ k, k ≤ sn ∧ fX6_faultOf_L4 sn pd r j st = nI k := by
  intro r
  induction r with
  | zero =>
    intro j st hr hst
    rw [fX6_faultOf_L4]
    by_cases c : st = 0
    · rw [if_pos c]; exact Or.inl rfl
    · rw [if_neg c]; exact Or.inr ⟨sn, Nat.le_refl _, rfl⟩
  | succ r ih =>
    intro j st hr hst
    rw [flt_step sn pd r j hst]
    by_cases c : stp (pd j) st = (-1 : Int32)
    · rw [if_pos c]; exact Or.inr ⟨j, by omega, rfl⟩
    · rw [if_neg c]; exact ih _ _ (by omega) ((stp_ok _ _).resolve_left c)
theorem fX6_faultOf_neg' {sn : Nat} {pd : Nat → Int32} (hsn : sn ≤ 60) (h : fX6_faultOf sn pd < 0) : fX6_faultOf sn pd = (-6 : Int32) := by
  rcases flt_val sn pd sn 0 0 rfl (Or.inl rfl) with q | ⟨k, hk, q⟩
  · exact q
  · exfalso
    have h2 : fX6_faultOf sn pd = nI k := q
    rw [h2] at h
    exact nI_pos (by omega) h

