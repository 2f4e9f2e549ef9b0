/-! weeks, in lockstep -/
theorem below_nn {k b : Nat} (hk : k < 2 ^ 31) (hb : b < 2 ^ 31) : fX5_isBelow (nI k) (nI b) = if k < b then (1 : Int32) else (0 : Int32) := by
  unfold fX5_isBelow
  rw [if_neg (nI_pos hk)]
  by_cases h : k < b
  · rw [if_pos h, if_neg (nI_ge h hb)]
  · rw [if_neg h, if_pos (nI_le (by omega) hk)]
theorem act_no {ac mu al er c t kk : Int32} {nr ks : Nat} {cr tr ar : Nat → Int32} (hn : nr ≤ 24) (hk : ks < 2 ^ 31) (h : ¬ ks < nr) (h3 : ¬ kk = (3 : Int32)) : fX4_act ac mu al nr er cr tr ar kk (nI ks) c t = ((0 : Int32), cr, tr, ar, nr, er, ac, (1 : Int32), mu, al) := by
  have e : fX4_reasonAgainst nr er kk (nI ks) = (1 : Int32) := by
    unfold fX4_reasonAgainst fX2_has
    rw [if_neg h3, below_nn hk (by omega), if_neg h, if_pos rfl]
  unfold fX4_act
  rw [e, if_neg (by decide)]
theorem act_unpick {ac mu al er c t : Int32} {nr ks : Nat} {cr tr ar : Nat → Int32} (hn : nr ≤ 24) (h : ks < nr) : fX4_act ac mu al nr er cr tr ar (0 : Int32) (nI ks) c t = ((1 : Int32), (fX2_unpick nr er cr tr ar ks).2.1, (fX2_unpick nr er cr tr ar ks).2.2.1, (fX2_unpick nr er cr tr ar ks).2.2.2.1, (fX2_unpick nr er cr tr ar ks).2.2.2.2.1, (fX2_unpick nr er cr tr ar ks).2.2.2.2.2, ac + (1 : Int32), (0 : Int32), (if mu < nI (fX2_unpick nr er cr tr ar ks).1 then nI (fX2_unpick nr er cr tr ar ks).1 else mu), al + nI (fX2_unpick nr er cr tr ar ks).1) := by
  have e : fX4_reasonAgainst nr er (0 : Int32) (nI ks) = (0 : Int32) := by
    unfold fX4_reasonAgainst fX2_has
    rw [if_neg (by decide), below_nn (by omega) (by omega), if_pos h, if_neg (by decide), if_pos rfl]
  unfold fX4_act
  rw [e, if_pos rfl, if_pos rfl, nI_clamp (by omega)]
  rfl
theorem act_eat {ac mu al er c t : Int32} {nr ks : Nat} {cr tr ar : Nat → Int32} (hn : nr ≤ 24) (h : ks < nr) : fX4_act ac mu al nr er cr tr ar (1 : Int32) (nI ks) c t = if bt er ks = true then ((0 : Int32), cr, tr, ar, nr, er, ac, (3 : Int32), mu, al) else ((1 : Int32), cr, tr, ar, nr, fX2_eat er (nI ks), ac + (1 : Int32), (0 : Int32), mu, al) := by
  have e : fX4_reasonAgainst nr er (1 : Int32) (nI ks) = if bt er ks = true then (3 : Int32) else (0 : Int32) := by
    unfold fX4_reasonAgainst fX2_has
    rw [if_neg (by decide), below_nn (by omega) (by omega), if_pos h, if_neg (by decide), if_neg (by decide), if_pos rfl, isEaten_bt (by omega)]
    cases bt er ks <;> rfl
  unfold fX4_act
  rw [e]
  by_cases q : bt er ks = true
  · rw [if_pos q, if_pos q, if_neg (by decide)]
  · rw [if_neg q, if_neg q, if_pos rfl, if_neg (by decide), if_pos rfl]
theorem act_mend {ac mu al er c t : Int32} {nr ks : Nat} {cr tr ar : Nat → Int32} (hn : nr ≤ 24) (h : ks < nr) : fX4_act ac mu al nr er cr tr ar (2 : Int32) (nI ks) c t = if bt er ks = true then ((1 : Int32), cr, (fX2_mend er tr (nI ks) t).1, ar, nr, (fX2_mend er tr (nI ks) t).2, ac + (1 : Int32), (0 : Int32), mu, al) else ((0 : Int32), cr, tr, ar, nr, er, ac, (3 : Int32), mu, al) := by
  have e : fX4_reasonAgainst nr er (2 : Int32) (nI ks) = if bt er ks = true then (0 : Int32) else (3 : Int32) := by
    unfold fX4_reasonAgainst fX2_has
    rw [if_neg (by decide), below_nn (by omega) (by omega), if_pos h, if_neg (by decide), if_neg (by decide), if_neg (by decide), isEaten_bt (by omega)]
    cases bt er ks <;> rfl
  unfold fX4_act
  rw [e]
  by_cases q : bt er ks = true
  · rw [if_pos q, if_pos q, if_pos rfl, if_neg (by decide), if_neg (by decide), if_pos rfl]
  · rw [if_neg q, if_neg q, if_neg (by decide)]
theorem act_knit {ac mu al er ks c t : Int32} {nr : Nat} {cr tr ar : Nat → Int32} (hn : nr ≤ 24) : fX4_act ac mu al nr er cr tr ar (3 : Int32) ks c t = if nr < 24 then ((1 : Int32), (fX2_knit nr er cr tr ar c t).1, (fX2_knit nr er cr tr ar c t).2.1, (fX2_knit nr er cr tr ar c t).2.2.1, (fX2_knit nr er cr tr ar c t).2.2.2, er, ac + (1 : Int32), (0 : Int32), mu, al) else ((0 : Int32), cr, tr, ar, nr, er, ac, (2 : Int32), mu, al) := by
  have e : fX4_reasonAgainst nr er (3 : Int32) ks = if nr < 24 then (0 : Int32) else (2 : Int32) := by
    unfold fX4_reasonAgainst fX2_isFull
    rw [if_pos rfl]
    by_cases q : nr < 24
    · rw [if_pos q, if_pos q, if_pos rfl]
    · rw [if_neg q, if_neg q, if_neg (by decide)]
  unfold fX4_act
  rw [e]
  by_cases q : nr < 24
  · rw [if_pos q, if_pos q, if_pos rfl, if_neg (by decide), if_neg (by decide), if_neg (by decide)]
  · rw [if_neg q, if_neg q, if_neg (by decide)]
/-! the reference's acts -/
theorem ref_pull_no {b pq : Nat → Int32} {ks : Nat} (h : ¬ ks < mN b) : fX6_pullOut b pq ks = ((-1 : Int32), b, pq) := by
  unfold fX6_pullOut; rw [if_neg h]
theorem ref_eat {b : Nat → Int32} {ks : Nat} : fX6_eat b ks = if ks < mN b then (if b (72 + ks) = (1 : Int32) then ((3 : Int32), b) else ((0 : Int32), upd b (72 + ks) (1 : Int32))) else ((1 : Int32), b) := rfl
theorem ref_mend {b kn : Nat → Int32} {ks kk : Nat} : fX6_mend b kn ks kk = if ks < mN b then (if b (72 + ks) = 0 then ((3 : Int32), b) else ((0 : Int32), upd (upd b (72 + ks) (0 : Int32)) (24 + ks) (kn kk))) else ((1 : Int32), b) := rfl
theorem RS_eq721 {co ti an : Nat → Int32} {n : Nat} {ea : Int32} {b : Nat → Int32} (h : RS co ti an n ea b) {k : Nat} (hk : k < n) : b (72 + k) = (1 : Int32) ↔ bt ea k = true := by
  rw [(h.2.2.1 k hk).2.2.2]
  cases bt ea k <;> decide
/-! the signs -/
theorem kind_eq {sg : Nat → Int32} {j : Nat} (hj : j < 60) : fX1_kindAt sg (nI j) = if fX6_in (sg j) (97 : Int32) (100 : Int32) = 0 then (if sg j = (42 : Int32) then (1 : Int32) else if sg j = (43 : Int32) then (2 : Int32) else if sg j = (45 : Int32) then (0 : Int32) else (-1 : Int32)) else (3 : Int32) := by
  unfold fX1_kindAt fX1_knitterAt
  rw [at_nI hj (by decide)]
  rw [show fX5_isBelow (sg j - (97 : Int32)) (4 : Int32) = fX6_in (sg j) (97 : Int32) (100 : Int32) from below_sub (sg j) (a := 97) (b := 3) (by decide) (by decide)]
theorem in_mn {x : Int32} {a b : Nat} (ha : a < 2 ^ 30) (hb : b < 2 ^ 30) (h : ¬ fX6_in x (nI a) (nI b) = 0) : ∃ y, a ≤ y ∧ y ≤ b ∧ x = nI y := by
  obtain ⟨h1, h2, h3⟩ := fX6_in_P a b (by omega) (by omega) h
  exact ⟨_, h2, h3, h1⟩
theorem stitch_sg {sg : Nat → Int32} {j : Nat} (hj : j < 60) (h : ¬ fX6_isLetter (sg j) = 0) : ∃ ks, ks < 24 ∧ fX1_stitchAt sg (nI j) = nI ks ∧ (sg j).toNatClampNeg - 65 = ks := by
  obtain ⟨y, h1, h2, h3⟩ := in_mn (a := 65) (b := 88) (by decide) (by decide) h
  refine ⟨y - 65, by omega, ?_, by rw [h3, nI_clamp (by omega)]⟩
  unfold fX1_stitchAt
  rw [at_nI hj (by decide), h3]
  exact pk_sub h1
theorem hand_sg {sg kt kn : Nat → Int32} (iK : RK kt kn) {j : Nat} (hj : j < 60) (h : ¬ fX6_isHand (sg j) = 0) : fX3_tightnessOf kt (fX1_knitterAt sg (nI j)) = kn ((sg j).toNatClampNeg - 97) ∧ ∃ i, i < 10 ∧ fX3_tightnessOf kt (fX1_knitterAt sg (nI j)) = nI i := by
  obtain ⟨y, h1, h2, h3⟩ := in_mn (a := 97) (b := 100) (by decide) (by decide) h
  have e : fX3_tightnessOf kt (fX1_knitterAt sg (nI j)) = kt (y - 97) := by
    unfold fX3_tightnessOf fX1_knitterAt
    rw [at_nI hj (by decide), h3, show nI y - (97 : Int32) = nI (y - 97) from pk_sub h1, at_nI (show y - 97 < 4 by omega) (by decide)]
  rw [e, h3, nI_clamp (by omega)]
  exact ⟨(iK _ (by omega)).1, (iK _ (by omega)).2⟩
theorem colour_sg {sg : Nat → Int32} {j : Nat} (hj : j < 60) (h : ¬ fX6_in (sg j) (48 : Int32) (51 : Int32) = 0) : fX1_colourAt sg (nI j) = sg j - (48 : Int32) ∧ ∃ i, i < 4 ∧ sg j - (48 : Int32) = nI i := by
  obtain ⟨y, h1, h2, h3⟩ := in_mn (a := 48) (b := 51) (by decide) (by decide) h
  refine ⟨by unfold fX1_colourAt; rw [at_nI hj (by decide)], y - 48, by omega, by rw [h3]; exact pk_sub h1⟩
theorem kindof_sign {sn : Nat} {pd : Nat → Int32} {j : Nat} (hsn : sn ≤ 60) (hj : j < sn) (h : fX6_faultOf_L4 sn pd (sn - j) j (0 : Int32) = (-6 : Int32)) (hd : fX6_isHand (pd j) = 0) : pd j = (42 : Int32) ∨ pd j = (43 : Int32) ∨ pd j = (45 : Int32) := by
  obtain ⟨-, n1, -, -⟩ := (flt_one hsn (Nat.le_of_lt hj) (Or.inl rfl) h).resolve_left (fun q => by omega)
  have hd' : fX6_in (pd j) (97 : Int32) (100 : Int32) = 0 := hd
  rw [stp_0, if_pos hd'] at n1
  by_cases e1 : pd j = (42 : Int32)
  · exact Or.inl e1
  · by_cases e2 : pd j = (43 : Int32)
    · exact Or.inr (Or.inl e2)
    · by_cases e3 : pd j = (45 : Int32)
      · exact Or.inr (Or.inr e3)
      · rw [if_neg e1, if_neg e2, if_neg e3] at n1; exact absurd rfl n1
/-- the weeks' end: books alike, most undone alike, acts alike, and the reason if there is one -/
def WE (Q : Int32 × (Nat → Int32) × (Nat → Int32) × (Nat → Int32) × Nat × Int32 × Int32 × Int32 × Int32 × Int32) (T : Int32 × (Nat → Int32) × (Nat → Int32) × Int32 × Int32 × Int32) : Prop := RS Q.2.1 Q.2.2.1 Q.2.2.2.1 Q.2.2.2.2.1 Q.2.2.2.2.2.1 T.2.1 ∧ Q.2.2.2.2.2.2.2.2.1 = T.2.2.2.1 ∧ Q.2.2.2.2.2.2.1 = T.2.2.2.2.2 ∧ ((Q.1 = 0 ∧ T.1 = Q.2.2.2.2.2.2.1 ∧ T.2.2.2.2.1 = Q.2.2.2.2.2.2.2.1 ∧ ∃ c, c ≤ 60 ∧ T.1 = nI c) ∨ (Q.1 = (1 : Int32) ∧ T.1 = (-6 : Int32)))
theorem max_eq (a b : Int32) : (if a < b then b else a) = (if b ≤ a then a else b) := by
  by_cases h : b ≤ a
  · rw [if_pos h, if_neg (Int32.not_lt.mpr h)]
  · rw [if_neg h, if_pos (Int32.not_le.mp h)]
theorem weeks_lock {kt kn : Nat → Int32} (iK : RK kt kn) {np : Nat} {sg : Nat → Int32} {sn : Nat} {pd : Nat → Int32} (iP : RP np sg sn pd) : ∀ (r j c : Nat) (gc gt ga : Nat → Int32) (gn : Nat) (ge rs mu al : Int32) (g1 g2 : Nat → Int32) (w2 : Int32), RS gc gt ga gn ge g1 → (j < sn → fX6_faultOf_L4 sn pd (sn - j) j (0 : Int32) = (-6 : Int32)) → c ≤ j → ¬ mu < 0 → WE (fX5_tryWeeks_L16 kt np sg r j gc gt ga gn ge (nI c) rs mu al) (fX6_goWeeks_L11 sn kn pd r j g1 g2 mu w2 (nI c)) := by
  obtain ⟨rfl, hnp, hsg⟩ := iP
  intro r
  induction r with
  | zero =>
    intro j c gc gt ga gn ge rs mu al g1 g2 w2 h hf hc hmu
    exact ⟨h, rfl, rfl, Or.inr ⟨rfl, rfl⟩⟩
  | succ r ih =>
    intro j c gc gt ga gn ge rs mu al g1 g2 w2 h hf hc hmu
    rw [fX5_tryWeeks_L16, fX6_goWeeks_L11]
    by_cases hj : np ≤ j
    · rw [if_pos hj, if_pos hj]
      exact ⟨h, rfl, rfl, Or.inr ⟨rfl, rfl⟩⟩
    · rw [if_neg hj, if_neg hj]
      have hm := RS_mN h
      have hn := h.1
      have hf := hf (by omega)
      obtain ⟨f1, f2, f3, f4⟩ := fX6_flt' hnp (show j < np by omega) hf
      have hk := kind_eq (sg := sg) (show j < 60 by omega)
      rw [hsg j (by omega)] at hk
      have failed : ∀ (x al' : Int32), WE ((0 : Int32), gc, gt, ga, gn, ge, nI c, x, mu, al') (nI c, g1, g2, mu, x, nI c) := fun x al' => ⟨h, rfl, rfl, Or.inl ⟨rfl, rfl, rfl, c, by omega, rfl⟩⟩
      by_cases hd : fX6_isHand (pd j) = 0
      · rw [if_pos hd]
        have hd' : fX6_in (pd j) (97 : Int32) (100 : Int32) = 0 := hd
        rw [if_pos hd'] at hk
        have k3 : ¬ fX1_kindAt sg (nI j) = (3 : Int32) := by
          rw [hk]
          rcases kindof_sign hnp (by omega) hf hd with e | e | e <;> (rw [e]; decide)
        rw [if_neg k3]
        rcases kindof_sign hnp (show j < np by omega) hf hd with e | e | e
        · -- eaten
          obtain ⟨l1, l2⟩ := f3 hd (Or.inr e)
          have l1' : ¬ fX6_isLetter (sg (j + 1)) = 0 := by rw [hsg (j + 1) (by omega)]; exact l1
          obtain ⟨ks, s1, s2, s3⟩ := stitch_sg (show j + 1 < 60 by omega) l1'
          rw [hsg (j + 1) (by omega)] at s3
          have hk' : fX1_kindAt sg (nI j) = (1 : Int32) := by rw [hk, e]; decide
          rw [hk', s2, s3, if_neg (show ¬ pd j = (45 : Int32) by rw [e]; decide), if_pos e, ref_eat, hm]
          by_cases hks : ks < gn
          · rw [act_eat hn hks, if_pos hks]
            by_cases q : bt ge ks = true
            · rw [if_pos q, if_pos ((RS_eq721 h hks).mpr q)]
              exact failed 3 al
            · rw [if_neg q, if_neg (fun w => q ((RS_eq721 h hks).mp w))]
              dsimp only
              rw [if_neg (show ¬ (1 : Int32) = 0 by decide), if_neg (show ¬ (1 : Int32) = 2 by decide), if_pos (show (0 : Int32) ≤ 0 by decide), nI_1]
              exact ih (j + 2) (c + 1) _ _ _ _ _ _ _ _ _ _ _ (RS_eat h hks) (fun _ => l2) (by omega) hmu
          · rw [act_no hn (by omega) hks (by decide), if_neg hks]
            exact failed 1 al
        · -- mended
          obtain ⟨l0, l1, l2, l3⟩ := f4 hd (by rw [e]; decide) (by rw [e]; decide)
          have l1' : ¬ fX6_isLetter (sg (j + 1)) = 0 := by rw [hsg (j + 1) (by omega)]; exact l1
          have l2' : ¬ fX6_isHand (sg (j + 2)) = 0 := by rw [hsg (j + 2) (by omega)]; exact l2
          obtain ⟨ks, s1, s2, s3⟩ := stitch_sg (show j + 1 < 60 by omega) l1'
          have ht := hand_sg iK (show j + 2 < 60 by omega) l2'
          rw [hsg (j + 1) (by omega)] at s3
          rw [hsg (j + 2) (by omega)] at ht
          have hk' : fX1_kindAt sg (nI j) = (2 : Int32) := by rw [hk, e]; decide
          rw [hk', s2, s3, if_neg (show ¬ pd j = (45 : Int32) by rw [e]; decide), if_neg (show ¬ pd j = (42 : Int32) by rw [e]; decide), ref_mend, hm]
          by_cases hks : ks < gn
          · rw [act_mend hn hks, if_pos hks]
            by_cases q : bt ge ks = true
            · rw [if_pos q, if_neg (fun w => by rw [RS_eq72 h hks, q] at w; cases w)]
              dsimp only
              rw [if_neg (show ¬ (1 : Int32) = 0 by decide), if_pos rfl, if_pos (show (0 : Int32) ≤ 0 by decide), nI_1]
              exact ih (j + 3) (c + 1) _ _ _ _ _ _ _ _ _ _ _ (RS_mend h hks ht) (fun _ => l3) (by omega) hmu
            · rw [if_neg q, if_pos ((RS_eq72 h hks).mpr (by simpa using q))]
              exact failed 3 al
          · rw [act_no hn (by omega) hks (by decide), if_neg hks]
            exact failed 1 al
        · -- unpicked
          obtain ⟨l1, l2⟩ := f3 hd (Or.inl e)
          have l1' : ¬ fX6_isLetter (sg (j + 1)) = 0 := by rw [hsg (j + 1) (by omega)]; exact l1
          obtain ⟨ks, s1, s2, s3⟩ := stitch_sg (show j + 1 < 60 by omega) l1'
          rw [hsg (j + 1) (by omega)] at s3
          have hk' : fX1_kindAt sg (nI j) = (0 : Int32) := by rw [hk, e]; decide
          rw [hk', s2, s3, if_pos e]
          by_cases hks : ks < gn
          · rw [act_unpick hn hks]
            obtain ⟨u1, u2⟩ := RS_unpick (pq := g2) h hks
            have hb : ¬ (fX6_pullOut g1 g2 ks).1 < 0 := by
              rw [← u1]
              refine nI_pos ?_
              have e9 : (fX2_unpick gn ge gc gt ga ks).1 = pcN (fX2_undoneWith gn ga ks) := rfl
              have := cnt_le (bt (fX2_undoneWith gn ga ks)) 32
              rw [e9, pcN_c]; omega
            rw [u1]
            generalize fX6_pullOut g1 g2 ks = T at u2 hb ⊢
            obtain ⟨Ta, Tb, Tc⟩ := T
            dsimp only at u2 hb ⊢
            rw [if_pos (Int32.not_lt.mp hb), max_eq, if_neg (by decide), if_neg (by decide), nI_1]
            by_cases q : Ta ≤ mu
            · rw [if_pos q, if_pos q]
              exact ih (j + 2) (c + 1) _ _ _ _ _ _ _ _ _ _ _ u2 (fun _ => l2) (by omega) hmu
            · rw [if_neg q, if_neg q]
              exact ih (j + 2) (c + 1) _ _ _ _ _ _ _ _ _ _ _ u2 (fun _ => l2) (by omega) hb
          · rw [act_no hn (by omega) hks (by decide), ref_pull_no (by rw [hm]; exact hks)]
            dsimp only
            rw [if_pos rfl, if_neg (by decide)]
            by_cases q : (-1 : Int32) ≤ mu
            · rw [if_pos q]; exact failed 1 al
            · exact absurd (Int32.le_trans (show (-1 : Int32) ≤ 0 by decide) (Int32.not_lt.mp hmu)) q
      · rw [if_neg hd]
        have hd' : ¬ fX6_in (pd j) (97 : Int32) (100 : Int32) = 0 := hd
        rw [if_neg hd'] at hk
        obtain ⟨l0, l1, l2⟩ := f2 hd
        have l1' : ¬ fX6_in (sg (j + 1)) (48 : Int32) (51 : Int32) = 0 := by rw [hsg (j + 1) (by omega)]; exact l1
        have l2' : ¬ fX6_isHand (sg j) = 0 := by rw [hsg j (by omega)]; exact hd
        have hc' := colour_sg (show j + 1 < 60 by omega) l1'
        have ht := hand_sg iK (show j < 60 by omega) l2'
        rw [hsg (j + 1) (by omega)] at hc'
        rw [hsg j (by omega)] at ht
        rw [hk, if_pos rfl, act_knit hn, hc'.1]
        by_cases q : gn < 24
        · obtain ⟨v1, v2⟩ := RS_knit (kn := kn) h q hc'.2 ht
          rw [if_pos q]
          generalize fX6_knit g1 kn ((pd j).toNatClampNeg - 97) (pd (j + 1) - 48) = T at v1 v2 ⊢
          obtain ⟨Ta, Tb⟩ := T
          dsimp only at v1 v2 ⊢
          subst v1
          rw [if_neg (show ¬ (1 : Int32) = 0 by decide), if_neg (show ¬ (3 : Int32) = 2 by decide), if_pos (show (0 : Int32) ≤ 0 by decide), nI_1]
          exact ih (j + 2) (c + 1) _ _ _ _ _ _ _ _ _ _ _ v2 (fun _ => l2) (by omega) hmu
        · rw [if_neg q]
          have e2 : fX6_knit g1 kn ((pd j).toNatClampNeg - 97) (pd (j + 1) - 48) = ((2 : Int32), g1) := by
            unfold fX6_knit
            rw [hm, if_pos (show gn = 24 by omega)]
          rw [e2]
          exact failed 2 al
