/-! a year, by draws -/
theorem draw_x {x : Nat} (hx : x ≤ 65536) : (((75 : Int32) * nI x) + (74 : Int32)) - (((75 : Int32) * nI x) + (74 : Int32)) / (65537 : Int32) * (65537 : Int32) = nI ((75 * x + 74) % 65537) := by
  have e : ((75 : Int32) * nI x) + (74 : Int32) = nI (75 * x + 74) := by
    rw [show (75 : Int32) * nI x = nI (75 * x) from pk_mul 75 x]
    exact nI_add (75 * x) 74
  rw [e]
  exact pk_rem (d := 65537) (by omega) (by decide) (by decide)
theorem draw_m {x d m : Nat} (hx : x ≤ 65536) (hd : 0 < d) (hd2 : d < 2 ^ 31) (hm : 0 < m) (hm2 : m < 2 ^ 31) : (nI x / nI d) - (nI x / nI d) / nI m * nI m = nI (x / d % m) := by
  rw [pk_div (by omega) hd hd2]
  have h : x / d ≤ x := Nat.div_le_self x d
  exact pk_rem (by omega) hm hm2
theorem tight_nI {kt kn : Nat → Int32} (iK : RK kt kn) {k : Nat} (hk : k < 4) : fX3_tightnessOf kt (nI k) = kn k ∧ ∃ i, i < 10 ∧ fX3_tightnessOf kt (nI k) = nI i := by
  have e : fX3_tightnessOf kt (nI k) = kt k := by
    unfold fX3_tightnessOf
    rw [at_nI hk (by decide)]
  rw [e]
  exact iK k hk
/-- one draw: the class's, with the number drawn -/
theorem draw_cl (kt : Nat → Int32) (ac mu al : Int32) (nr : Nat) (er : Int32) (cr tr ar : Nat → Int32) {x : Nat} (hx : x ≤ 65536) : fX5_tryDrawn kt ac mu al nr er cr tr ar (nI x) = (fX4_act ac mu al nr er cr tr ar (if 3 < x % 8 then (3 : Int32) else nI (x % 8)) (nI (x / 8 % 24)) (nI (x / 32 % 4)) (fX3_tightnessOf kt (nI (if 3 ≤ x % 8 then x / 8 % 4 else x / 192 % 4)))).2 := by
  have e1 : nI x - nI x / (8 : Int32) * (8 : Int32) = nI (x % 8) := pk_rem (d := 8) (by omega) (by decide) (by decide)
  have e2 : (nI x / (8 : Int32)) - (nI x / (8 : Int32)) / (24 : Int32) * (24 : Int32) = nI (x / 8 % 24) := draw_m (d := 8) (m := 24) hx (by decide) (by decide) (by decide) (by decide)
  have e3 : (nI x / (32 : Int32)) - (nI x / (32 : Int32)) / (4 : Int32) * (4 : Int32) = nI (x / 32 % 4) := draw_m (d := 32) (m := 4) hx (by decide) (by decide) (by decide) (by decide)
  have e4 : (nI x / (8 : Int32)) - (nI x / (8 : Int32)) / (4 : Int32) * (4 : Int32) = nI (x / 8 % 4) := draw_m (d := 8) (m := 4) hx (by decide) (by decide) (by decide) (by decide)
  have e5 : (nI x / (192 : Int32)) - (nI x / (192 : Int32)) / (4 : Int32) * (4 : Int32) = nI (x / 192 % 4) := draw_m (d := 192) (m := 4) hx (by decide) (by decide) (by decide) (by decide)
  have h8 : x % 8 < 8 := Nat.mod_lt _ (by decide)
  have e6 : (if (3 : Int32) < nI (x % 8) then (3 : Int32) else nI (x % 8)) = (if 3 < x % 8 then (3 : Int32) else nI (x % 8)) := by
    by_cases c : 3 < x % 8
    · rw [if_pos c, if_pos (show (3 : Int32) < nI (x % 8) from (nI_ltI (a := 3) (by decide) (by omega)).mpr c)]
    · rw [if_neg c, if_neg (show ¬ (3 : Int32) < nI (x % 8) from fun q => c ((nI_ltI (a := 3) (by decide) (by omega)).mp q))]
  have e7 : (if 3 < x % 8 then (3 : Int32) else nI (x % 8)) = (3 : Int32) ↔ 3 ≤ x % 8 := by
    by_cases c : 3 < x % 8
    · rw [if_pos c]; exact ⟨fun _ => by omega, fun _ => rfl⟩
    · rw [if_neg c]
      exact ⟨fun q => by have := (nI_eq (b := 3) (by omega) (by decide)).mp q; omega, fun q => by rw [show x % 8 = 3 by omega]; rfl⟩
  unfold fX5_tryDrawn
  rw [e1, e2, e3, e4, e5, e6]
  by_cases c : 3 ≤ x % 8
  · rw [if_pos (e7.mpr c), if_pos c]
  · rw [if_neg (fun q => c (e7.mp q)), if_neg c]
/-- one draw, in both: the scarf, and how many were undone in all -/
theorem draw_lock {kt kn : Nat → Int32} (iK : RK kt kn) {x : Nat} (hx : x ≤ 65536) {gc gt ga : Nat → Int32} {gn : Nat} {ge : Int32} {g1 g2 : Nat → Int32} (h : RS gc gt ga gn ge g1) (ac rs mu al : Int32) (r j : Nat) {T : Nat × Int32 × (Nat → Int32) × (Nat → Int32)} {Q : Int32 × (Nat → Int32) × (Nat → Int32) × (Nat → Int32) × Nat × Int32 × Int32 × Int32 × Int32 × Int32} (P : (Int32 × (Nat → Int32) × (Nat → Int32) × (Nat → Int32) × Nat × Int32 × Int32 × Int32 × Int32 × Int32) → (Nat × Int32 × (Nat → Int32) × (Nat → Int32)) → Prop) (ih : ∀ (gc gt ga : Nat → Int32) (gn : Nat) (ge : Int32) (g1 g2 : Nat → Int32) (ac rs mu al : Int32), RS gc gt ga gn ge g1 → P (fX5_year_L52 kt r j (nI ((75 * x + 74) % 65537)) gc gt ga gn ge ac rs mu al) (fX6_year_L46 kn r j ((75 * x + 74) % 65537) al g1 g2)) (j0 : Nat) (hj0 : j = j0 + 1) : P (fX5_year_L52 kt (r + 1) j0 (nI x) gc gt ga gn ge ac rs mu al) (fX6_year_L46 kn (r + 1) j0 x al g1 g2) := by
  subst hj0
  have hn := h.1
  have hm := RS_mN h
  have hX : (75 * x + 74) % 65537 ≤ 65536 := by have := Nat.mod_lt (75 * x + 74) (show 65537 > 0 by decide); omega
  rw [fX5_year_L52, fX6_year_L46, draw_x hx, draw_cl kt ac mu al gn ge gc gt ga hX]
  generalize hy : (75 * x + 74) % 65537 = y at hX ih ⊢
  have hs : y / 8 % 24 < 24 := Nat.mod_lt _ (by decide)
  have hk2 : y / 192 % 4 < 4 := Nat.mod_lt _ (by decide)
  have hk1 : y / 8 % 4 < 4 := Nat.mod_lt _ (by decide)
  have hc1 : y / 32 % 4 < 4 := Nat.mod_lt _ (by decide)
  by_cases c0 : y % 8 = 0
  · rw [if_neg (show ¬ 3 < y % 8 by omega), if_neg (show ¬ 3 ≤ y % 8 by omega), if_pos c0, c0]
    generalize y / 8 % 24 = ks at hs ⊢
    by_cases hks : ks < gn
    · rw [show nI 0 = (0 : Int32) from rfl, act_unpick hn hks]
      obtain ⟨u1, u2⟩ := RS_unpick (pq := g2) h hks
      have hb : 0 ≤ (fX6_pullOut g1 g2 ks).1 := by
        rw [← u1]
        refine nI_pos' ?_
        have e9 : (fX2_unpick gn ge gc gt ga ks).1 = pcN (fX2_undoneWith gn ga ks) := rfl
        have := cnt_le (bt (fX2_undoneWith gn ga ks)) 32
        rw [e9, pcN_c]; omega
      rw [u1]
      generalize fX6_pullOut g1 g2 ks = V at u2 hb ⊢
      obtain ⟨Va, Vb, Vc⟩ := V
      dsimp only at u2 hb ⊢
      rw [if_pos hb]
      exact ih _ _ _ _ _ _ _ _ _ _ _ u2
    · rw [act_no hn (by omega) hks (by decide), ref_pull_no (by rw [hm]; exact hks)]
      dsimp only
      rw [if_neg (by decide), show al + (0 : Int32) = al from Int32.add_zero al]
      exact ih _ _ _ _ _ _ _ _ _ _ _ h
  · rw [if_neg c0]
    by_cases c1 : y % 8 = 1
    · rw [if_neg (show ¬ 3 < y % 8 by omega), if_neg (show ¬ 3 ≤ y % 8 by omega), if_pos c1, c1, ref_eat, hm]
      generalize y / 8 % 24 = ks at hs ⊢
      by_cases hks : ks < gn
      · rw [if_pos hks, show nI 1 = (1 : Int32) from rfl, act_eat hn hks]
        by_cases q : bt ge ks = true
        · rw [if_pos q, if_pos ((RS_eq721 h hks).mpr q)]
          exact ih _ _ _ _ _ _ _ _ _ _ _ h
        · rw [if_neg q, if_neg (fun w => q ((RS_eq721 h hks).mp w))]
          exact ih _ _ _ _ _ _ _ _ _ _ _ (RS_eat h hks)
      · rw [if_neg hks, act_no hn (by omega) hks (by decide)]
        exact ih _ _ _ _ _ _ _ _ _ _ _ h
    · rw [if_neg c1]
      by_cases c2 : y % 8 = 2
      · rw [if_neg (show ¬ 3 < y % 8 by omega), if_neg (show ¬ 3 ≤ y % 8 by omega), if_pos c2, c2, ref_mend, hm]
        have ht := tight_nI iK hk2
        generalize y / 8 % 24 = ks at hs ⊢
        by_cases hks : ks < gn
        · rw [if_pos hks, show nI 2 = (2 : Int32) from rfl, act_mend hn hks]
          by_cases q : bt ge ks = true
          · rw [if_pos q, if_neg (fun w => by rw [RS_eq72 h hks, q] at w; cases w)]
            exact ih _ _ _ _ _ _ _ _ _ _ _ (RS_mend h hks ht)
          · rw [if_neg q, if_pos ((RS_eq72 h hks).mpr (by simpa using q))]
            exact ih _ _ _ _ _ _ _ _ _ _ _ h
        · rw [if_neg hks, act_no hn (by omega) hks (by decide)]
          exact ih _ _ _ _ _ _ _ _ _ _ _ h
      · rw [if_neg c2, if_pos (show 3 ≤ y % 8 by omega)]
        have e3 : (if 3 < y % 8 then (3 : Int32) else nI (y % 8)) = (3 : Int32) := by
          by_cases c : 3 < y % 8
          · rw [if_pos c]
          · rw [if_neg c, show y % 8 = 3 by omega]; rfl
        rw [e3, act_knit hn]
        have ht := tight_nI iK hk1
        by_cases q : gn < 24
        · obtain ⟨v1, v2⟩ := RS_knit (kn := kn) h q ⟨_, hc1, rfl⟩ ht
          rw [if_pos q]
          generalize fX6_knit g1 kn (y / 8 % 4) (nI (y / 32 % 4)) = V at v1 v2 ⊢
          obtain ⟨Va, Vb⟩ := V
          dsimp only at v1 v2 ⊢
          exact ih _ _ _ _ _ _ _ _ _ _ _ v2
        · rw [if_neg q]
          have e2 : fX6_knit g1 kn (y / 8 % 4) (nI (y / 32 % 4)) = ((2 : Int32), g1) := by
            unfold fX6_knit
            rw [hm, if_pos (show gn = 24 by omega)]
          rw [e2]
          exact ih _ _ _ _ _ _ _ _ _ _ _ h
def YE (Q : Int32 × (Nat → Int32) × (Nat → Int32) × (Nat → Int32) × Nat × Int32 × Int32 × Int32 × Int32 × Int32) (T : Nat × Int32 × (Nat → Int32) × (Nat → Int32)) : Prop := RS Q.2.1 Q.2.2.1 Q.2.2.2.1 Q.2.2.2.2.1 Q.2.2.2.2.2.1 T.2.2.1 ∧ Q.2.2.2.2.2.2.2.2.2 = T.2.1
theorem year_lock {kt kn : Nat → Int32} (iK : RK kt kn) : ∀ (r j x : Nat) (gc gt ga : Nat → Int32) (gn : Nat) (ge : Int32) (g1 g2 : Nat → Int32) (ac rs mu al : Int32), x ≤ 65536 → RS gc gt ga gn ge g1 → YE (fX5_year_L52 kt r j (nI x) gc gt ga gn ge ac rs mu al) (fX6_year_L46 kn r j x al g1 g2) := by
  intro r
  induction r with
  | zero =>
    intro j x gc gt ga gn ge g1 g2 ac rs mu al _ h
    rw [fX5_year_L52, fX6_year_L46]
    exact ⟨h, rfl⟩
  | succ r ih =>
    intro j x gc gt ga gn ge g1 g2 ac rs mu al hx h
    exact draw_lock (T := (0, 0, g1, g2)) (Q := (0, gc, gt, ga, gn, ge, ac, rs, mu, al)) iK hx h ac rs mu al r (j + 1) YE (fun gc gt ga gn ge g1 g2 ac rs mu al h => ih (j + 1) _ gc gt ga gn ge g1 g2 ac rs mu al (by have := Nat.mod_lt (75 * x + 74) (show 65537 > 0 by decide); omega) h) j rfl
theorem loose_hi {co ti an : Nat → Int32} {n : Nat} {ea : Int32} {b : Nat → Int32} (h : RS co ti an n ea b) : ∀ i, 24 ≤ i → i < 32 → bt (fX2_looseOnes n ea an) i = false := by
  have hn := h.1
  have L : ∀ (r j : Nat) (lo : Int32), r + j = n → (∀ i, 24 ≤ i → i < 32 → bt lo i = false) → ∀ i, 24 ≤ i → i < 32 → bt (fX2_looseOnes_L4 ea an r j lo) i = false := by
    intro r
    induction r with
    | zero => intro j lo _ h; exact h
    | succ r ih =>
      intro j lo hr h
      rw [fX2_looseOnes_L4]
      split
      · exact ih _ _ (by omega) h
      · refine ih _ _ (by omega) (fun i h1 h2 => ?_)
        rw [bt_orp (by omega) h2, h i h1 h2, decide_eq_false (by omega)]
        rfl
  exact L n 0 0 rfl (fun i _ _ => b_0 i)
theorem m_year {co ti an kt kn cr tr ar : Nat → Int32} {n nr : Nat} {ea ac1 rs mu al1 er ud : Int32} {bk nw pq : Nat → Int32} (iS : RS co ti an n ea bk) (iK : RK kt kn) (hnr : nr ≤ 500) (hJ : kx_I nw) (a1 a2 a3 : Int32) {q : Int32 × (Nat → Int32) × (Nat → Int32) × (Nat → Int32) × Nat × Int32 × Int32 × Int32 × Int32 × Int32} (hq : fX5_year kt n ea co ti an ac1 rs mu al1 nr er cr tr ar a1 a2 a3 = q) {r : Int32 × (Nat → Int32) × (Nat → Int32) × Int32} (hr : fX6_year ud bk nw kn pq a1 a2 a3 = r) : q.1 = r.1 ∧ q.2.2.2.2.1 ≤ 500 ∧ kx_I r.2.1 := by
  have hb1 : fX5_isBelow a1 (10000 : Int32) = fX6_in a1 (0 : Int32) (9999 : Int32) := below_in a1 (b := 9999) (by decide)
  have hb3 : fX5_isBelow a3 (3 : Int32) = fX6_in a3 (0 : Int32) (2 : Int32) := below_in a3 (b := 2) (by decide)
  have e1 : fX6_in a2 (1 : Int32) (99 : Int32) = if a2 < (1 : Int32) then (0 : Int32) else if (99 : Int32) < a2 then (0 : Int32) else (1 : Int32) := rfl
  unfold fX5_year at hq
  unfold fX6_year at hr
  rw [hb1, hb3] at hq
  by_cases c1 : fX6_in a1 (0 : Int32) (9999 : Int32) = 0
  · rw [if_pos c1] at hq hr
    subst hq; subst hr
    exact ⟨rfl, hnr, hJ⟩
  · rw [if_neg c1] at hq hr
    by_cases c2 : a2 < (1 : Int32)
    · rw [if_pos c2] at hq
      rw [if_pos (by rw [e1, if_pos c2])] at hr
      subst hq; subst hr
      exact ⟨rfl, hnr, hJ⟩
    · rw [if_neg c2] at hq
      by_cases c3 : (99 : Int32) < a2
      · rw [if_pos c3] at hq
        rw [if_pos (by rw [e1, if_neg c2, if_pos c3])] at hr
        subst hq; subst hr
        exact ⟨rfl, hnr, hJ⟩
      · have ne : ¬ fX6_in a2 (1 : Int32) (99 : Int32) = 0 := by rw [e1, if_neg c2, if_neg c3]; decide
        rw [if_neg c3] at hq
        rw [if_neg ne] at hr
        by_cases c4 : fX6_in a3 (0 : Int32) (2 : Int32) = 0
        · rw [if_pos c4] at hq hr
          subst hq; subst hr
          exact ⟨rfl, hnr, hJ⟩
        · rw [if_neg c4] at hq hr
          obtain ⟨sd, hsd, rfl⟩ := in_ok (b := 9999) (by decide) c1
          rw [nI_clamp (by omega)] at hr
          have eB : fX4_begin cr tr ar n ea co ti an = ((fX2_copy cr tr ar n ea co ti an).1, (fX2_copy cr tr ar n ea co ti an).2.1, (fX2_copy cr tr ar n ea co ti an).2.2.1, (fX2_copy cr tr ar n ea co ti an).2.2.2.1, (fX2_copy cr tr ar n ea co ti an).2.2.2.2, (0 : Int32), (0 : Int32), (0 : Int32), (0 : Int32)) := rfl
          rw [eB] at hq
          dsimp only at hq
          have eN : fX6_asNow bk nw = ((fX6_asNow bk nw).1, (0 : Int32)) := rfl
          rw [eN] at hr
          dsimp only at hr
          have hY := year_lock iK a2.toNatClampNeg 0 sd _ _ _ _ _ (fX6_asNow bk nw).1 pq (0 : Int32) (0 : Int32) (0 : Int32) (0 : Int32) (by omega) (RS_now (nw := nw) (RS_copy (co := cr) (ti := tr) (an := ar) iS))
          generalize fX5_year_L52 kt a2.toNatClampNeg 0 (nI sd) (fX2_copy cr tr ar n ea co ti an).1 (fX2_copy cr tr ar n ea co ti an).2.1 (fX2_copy cr tr ar n ea co ti an).2.2.1 (fX2_copy cr tr ar n ea co ti an).2.2.2.1 (fX2_copy cr tr ar n ea co ti an).2.2.2.2 (0 : Int32) (0 : Int32) (0 : Int32) (0 : Int32) = Q at hq hY
          generalize fX6_year_L46 kn a2.toNatClampNeg 0 sd (0 : Int32) (fX6_asNow bk nw).1 pq = T at hr hY
          obtain ⟨qa, qb, qc, qd, qe, qf, qg, qh, qi, qj⟩ := Q
          obtain ⟨ta, tb, tc, td⟩ := T
          obtain ⟨y1, y2⟩ := hY
          dsimp only at hq hr y1 y2
          have hn := y1.1
          obtain ⟨w, hw, e3⟩ := in_ok (b := 2) (by decide) c4
          rcases (show w = 0 ∨ w = 1 ∨ w = 2 by omega) with rfl | rfl | rfl
          · rw [if_pos (by rw [e3]; decide)] at hq hr
            subst hq; subst hr
            exact ⟨by show nI qe = nI (mN tc); rw [RS_mN y1], by show qe ≤ 500; omega, RS_kI y1⟩
          · rw [if_neg (by rw [e3]; decide), if_pos (by rw [e3]; decide)] at hq hr
            subst hq; subst hr
            refine ⟨?_, by show qe ≤ 500; omega, RS_kI y1⟩
            show nI (pcN (qf ||| fX2_looseOnes qe qf qd)) = fX6_bits (fX6_eatenSet tc ||| fX6_looseSet tc)
            rw [eaten_eq y1, ← loose_eq y1]
            refine pcN_bits (fun i h1 h2 => ?_)
            rw [b_or, y1.2.2.2 i (by omega) h2, loose_hi y1 i h1 h2]
            rfl
          · rw [if_neg (by rw [e3]; decide), if_neg (by rw [e3]; decide)] at hq hr
            subst hq; subst hr
            exact ⟨y2, by show qe ≤ 500; omega, RS_kI y1⟩
