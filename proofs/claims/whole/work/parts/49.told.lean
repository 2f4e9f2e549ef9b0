/-! the weeks tried, and what is told of them -/
theorem RS_congr {co ti an co' ti' an' : Nat → Int32} {n : Nat} {ea : Int32} {b : Nat → Int32} (h : RS co ti an n ea b) (h1 : ∀ k, k < n → co' k = co k ∧ ti' k = ti k ∧ an' k = an k) : RS co' ti' an' n ea b := by
  refine ⟨h.1, h.2.1, fun k hk => ?_, h.2.2.2⟩
  obtain ⟨e1, e2, e3⟩ := h1 k hk
  rw [e1, e2, e3]
  exact h.2.2.1 k hk
theorem RS_congrB {co ti an : Nat → Int32} {n : Nat} {ea : Int32} {b b' : Nat → Int32} (h : RS co ti an n ea b) (h1 : ∀ k, k < 97 → b' k = b k) : RS co ti an n ea b' := by
  have hn := h.1
  refine ⟨h.1, by rw [h1 96 (by omega)]; exact h.2.1, fun k hk => ?_, h.2.2.2⟩
  rw [h1 k (by omega), h1 (24 + k) (by omega), h1 (48 + k) (by omega), h1 (72 + k) (by omega)]
  exact h.2.2.1 k hk
theorem copy_L18 {co2 ti2 an2 : Nat → Int32} {n : Nat} (hn : n ≤ 24) : ∀ (r j : Nat) (gc gt ga : Nat → Int32), r + j = n → (∀ i, i < j → gc i = co2 i ∧ gt i = ti2 i ∧ ga i = an2 i) → ∀ i, i < n → (fX2_copy_L18 co2 ti2 an2 r j gc gt ga).1 i = co2 i ∧ (fX2_copy_L18 co2 ti2 an2 r j gc gt ga).2.1 i = ti2 i ∧ (fX2_copy_L18 co2 ti2 an2 r j gc gt ga).2.2 i = an2 i := by
  intro r
  induction r with
  | zero => intro j gc gt ga hr h i hi; exact h i (by omega)
  | succ r ih =>
    intro j gc gt ga hr h i hi
    rw [fX2_copy_L18, at_nI (show j < 24 by omega) (by decide), at_nI (show j < 24 by omega) (by decide), at_nI (show j < 24 by omega) (by decide), put_nI (show j < 24 by omega) (by decide), put_nI (show j < 24 by omega) (by decide), put_nI (show j < 24 by omega) (by decide)]
    refine ih (j + 1) _ _ _ (by omega) (fun i hi => ?_) i hi
    by_cases q : i = j
    · subst q; rw [upd_s, upd_s, upd_s]; exact ⟨rfl, rfl, rfl⟩
    · rw [upd_n q, upd_n q, upd_n q]; exact h i (by omega)
theorem RS_copy {co ti an co2 ti2 an2 : Nat → Int32} {n : Nat} {ea : Int32} {b : Nat → Int32} (h : RS co2 ti2 an2 n ea b) : RS (fX2_copy co ti an n ea co2 ti2 an2).1 (fX2_copy co ti an n ea co2 ti2 an2).2.1 (fX2_copy co ti an n ea co2 ti2 an2).2.2.1 (fX2_copy co ti an n ea co2 ti2 an2).2.2.2.1 (fX2_copy co ti an n ea co2 ti2 an2).2.2.2.2 b :=
  RS_congr h (copy_L18 h.1 n 0 co ti an rfl (fun i hi => absurd hi (by omega)))
theorem RS_now {co ti an : Nat → Int32} {n : Nat} {ea : Int32} {bk nw : Nat → Int32} (h : RS co ti an n ea bk) : RS co ti an n ea (fX6_asNow bk nw).1 := RS_congrB h (fun k hk => asNow_at bk nw hk)
theorem weeks_eq {co ti an kt kn cr tr ar : Nat → Int32} {n : Nat} {ea rz : Int32} {bk nw pq : Nat → Int32} (iS : RS co ti an n ea bk) (iK : RK kt kn) {np : Nat} {sg : Nat → Int32} {sn : Nat} {pd : Nat → Int32} (iP : RP np sg sn pd) (hf : fX6_faultOf sn pd = (-6 : Int32)) : WE (fX5_tryWeeks kt n ea co ti an np sg cr tr ar) (fX6_goWeeks sn rz bk nw kn pd pq) := by
  have e1 : fX5_tryWeeks kt n ea co ti an np sg cr tr ar = fX5_tryWeeks_L16 kt np sg np 0 (fX2_copy cr tr ar n ea co ti an).1 (fX2_copy cr tr ar n ea co ti an).2.1 (fX2_copy cr tr ar n ea co ti an).2.2.1 (fX2_copy cr tr ar n ea co ti an).2.2.2.1 (fX2_copy cr tr ar n ea co ti an).2.2.2.2 (nI 0) (0 : Int32) (0 : Int32) (0 : Int32) := rfl
  have e2 : fX6_goWeeks sn rz bk nw kn pd pq = fX6_goWeeks_L11 sn kn pd sn 0 (fX6_asNow bk nw).1 pq (0 : Int32) rz (nI 0) := rfl
  have e3 : sn = np := iP.1.symm
  rw [e1, e2]
  have k := weeks_lock iK iP np 0 0 _ _ _ _ _ (0 : Int32) (0 : Int32) (0 : Int32) (fX6_asNow bk nw).1 pq rz (RS_now (RS_copy (co := cr) (ti := tr) (an := ar) iS)) (fun _ => hf) (Nat.le_refl _) (by decide)
  rw [e3]
  rw [e3] at k
  exact k
/-- the weeks as a yes or no -/
theorem can_lock {co ti an kt kn cr tr ar : Nat → Int32} {n nr : Nat} {ea rz ac1 rs mu al1 er ud az : Int32} {bk nw pq : Nat → Int32} (iS : RS co ti an n ea bk) (iK : RK kt kn) {np : Nat} {sg : Nat → Int32} {sn : Nat} {pd : Nat → Int32} (iP : RP np sg sn pd) (hnr : nr ≤ 500) (hJ : kx_I nw) {q : Int32 × (Nat → Int32) × (Nat → Int32) × (Nat → Int32) × Nat × Int32 × Int32 × Int32 × Int32 × Int32} (hq : fX5_weeksCanBe kt n ea co ti an np sg ac1 rs mu al1 nr er cr tr ar = q) {r : Int32 × (Nat → Int32) × (Nat → Int32) × Int32 × Int32 × Int32} (hr : fX6_barOfWeeks sn ud rz az bk nw kn pd pq = r) : (q.1 = 0 ∧ r.1 = (-5 : Int32) ∧ q.2.2.2.2.1 ≤ 500 ∧ kx_I r.2.1) ∨ (q.1 = (1 : Int32) ∧ r.1 = 0 ∧ RS q.2.1 q.2.2.1 q.2.2.2.1 q.2.2.2.2.1 q.2.2.2.2.2.1 r.2.1 ∧ q.2.2.2.2.2.2.2.2.1 = r.2.2.2.1 ∧ q.2.2.2.2.2.2.1 = r.2.2.2.2.2) := by
  have hft := m_fault iP
  unfold fX5_weeksCanBe at hq
  unfold fX6_barOfWeeks at hr
  rw [hft] at hq
  by_cases hf : fX6_faultOf sn pd = (-6 : Int32)
  · rw [if_pos hf] at hq
    rw [hf, if_neg (by decide)] at hr
    have hW := weeks_eq (rz := rz) (cr := cr) (tr := tr) (ar := ar) (nw := nw) (pq := pq) iS iK iP hf
    generalize fX5_tryWeeks kt n ea co ti an np sg cr tr ar = Q at hq hW
    generalize fX6_goWeeks sn rz bk nw kn pd pq = T at hr hW
    obtain ⟨qa, qb, qc, qd, qe, qf, qg, qh, qi, qj⟩ := Q
    obtain ⟨ta, tb, tc, td, te, tf⟩ := T
    obtain ⟨w1, w2, w3, w4⟩ := hW
    dsimp only at hq hr w1 w2 w3 w4
    have hn := w1.1
    rcases w4 with ⟨x1, x2, x3, c, hc, x4⟩ | ⟨x1, x2⟩
    · rw [if_pos x1] at hq
      rw [if_neg (by rw [x4]; exact nI_pos (by omega))] at hr
      subst hq; subst hr
      exact Or.inl ⟨rfl, rfl, by show qe ≤ 500; omega, RS_kI w1⟩
    · rw [x1, if_neg (by decide)] at hq
      rw [x2, if_pos (by decide)] at hr
      subst hq; subst hr
      exact Or.inr ⟨rfl, rfl, w1, w2, w3⟩
  · rw [if_neg hf] at hq
    have hp : 0 ≤ fX6_faultOf sn pd := by
      rcases Int32.lt_or_le (fX6_faultOf sn pd) 0 with g | g
      · exact absurd (fX6_faultOf_neg' (by have := iP.1; have := iP.2.1; omega) g) hf
      · exact g
    rw [if_pos hp] at hr
    subst hq; subst hr
    exact Or.inl ⟨rfl, rfl, hnr, hJ⟩
theorem m_judge {co ti an kt kn cr tr ar : Nat → Int32} {n nr : Nat} {ea rz ac1 rs mu al1 er ud az : Int32} {bk nw pq : Nat → Int32} (iS : RS co ti an n ea bk) (iK : RK kt kn) {np : Nat} {sg : Nat → Int32} {sn : Nat} {pd : Nat → Int32} (iP : RP np sg sn pd) (hnr : nr ≤ 500) (hJ : kx_I nw) (a1 : Int32) {q : Int32 × (Nat → Int32) × (Nat → Int32) × (Nat → Int32) × Nat × Int32 × Int32 × Int32 × Int32 × Int32} (hq : fX5_judge kt n ea co ti an np sg ac1 rs mu al1 nr er cr tr ar a1 = q) {r : Int32 × (Nat → Int32) × (Nat → Int32) × Int32 × Int32 × Int32} (hr : fX6_judge sn ud rz az bk nw kn pd pq a1 = r) : q.1 = r.1 ∧ q.2.2.2.2.1 ≤ 500 ∧ kx_I r.2.1 := by
  have hft := m_fault iP
  have hb : fX5_isBelow a1 (2 : Int32) = fX6_in a1 (0 : Int32) (1 : Int32) := below_in a1 (b := 1) (by decide)
  unfold fX5_judge at hq
  unfold fX6_judge at hr
  rw [hb, hft] at hq
  by_cases h1 : fX6_in a1 (0 : Int32) (1 : Int32) = 0
  · rw [if_pos h1] at hq hr
    subst hq; subst hr
    exact ⟨rfl, hnr, hJ⟩
  · rw [if_neg h1] at hq hr
    by_cases hf : fX6_faultOf sn pd = (-6 : Int32)
    · rw [if_pos hf] at hq
      rw [hf, if_pos (by decide)] at hr
      have hW := weeks_eq (rz := rz) (cr := cr) (tr := tr) (ar := ar) (nw := nw) (pq := pq) iS iK iP hf
      generalize fX5_tryWeeks kt n ea co ti an np sg cr tr ar = Q at hq hW
      generalize fX6_goWeeks sn rz bk nw kn pd pq = T at hr hW
      obtain ⟨qa, qb, qc, qd, qe, qf, qg, qh, qi, qj⟩ := Q
      obtain ⟨ta, tb, tc, td, te, tf⟩ := T
      obtain ⟨w1, w2, w3, w4⟩ := hW
      dsimp only at hq hr w1 w2 w3 w4
      have hn := w1.1
      rcases w4 with ⟨x1, x2, x3, c, hc, x4⟩ | ⟨x1, x2⟩
      · rw [if_pos x1] at hq
        rw [if_neg (by rw [x4]; exact nI_pos (by omega))] at hr
        by_cases h0 : a1 = 0
        · rw [if_pos h0] at hq hr
          subst hq; subst hr
          exact ⟨x2.symm, by show qe ≤ 500; omega, RS_kI w1⟩
        · rw [if_neg h0] at hq hr
          subst hq; subst hr
          exact ⟨x3.symm, by show qe ≤ 500; omega, RS_kI w1⟩
      · rw [x1, if_neg (by decide)] at hq
        rw [x2, if_pos (by decide)] at hr
        subst hq; subst hr
        exact ⟨rfl, by show qe ≤ 500; omega, RS_kI w1⟩
    · rw [if_neg hf] at hq
      rw [if_neg (fun g => hf (fX6_faultOf_neg' (by have := iP.1; have := iP.2.1; omega) g))] at hr
      subst hq; subst hr
      exact ⟨rfl, hnr, hJ⟩
theorem done_L12 (t : Nat → Int32) : ∀ (r j : Nat) (g : Nat → Int32), fX6_done_L12 t r j g = fX6_asNow_L2 t r j g := by
  intro r
  induction r with
  | zero => intro j g; rfl
  | succ r ih => intro j g; rw [fX6_done_L12, fX6_asNow_L2, ih]
theorem m_done {co ti an kt kn cr tr ar : Nat → Int32} {n nr : Nat} {ea rz ac1 rs mu al1 er ud az : Int32} {bk nw pq : Nat → Int32} (iS : RS co ti an n ea bk) (iK : RK kt kn) {np : Nat} {psg : Nat → Int32} {sn : Nat} {pd : Nat → Int32} (iP : RP np psg sn pd) (hnr : nr ≤ 500) (hJ : kx_I nw) {q : Int32 × (Nat → Int32) × (Nat → Int32) × (Nat → Int32) × Nat × Int32 × Int32 × Int32 × Int32 × Int32 × (Nat → Int32) × (Nat → Int32) × (Nat → Int32) × Nat × Int32 × Nat} (hq : fX5_done kt n ea co ti an np psg ac1 rs mu al1 nr er cr tr ar = q) {r : Int32 × (Nat → Int32) × (Nat → Int32) × Int32 × Int32 × Int32 × (Nat → Int32) × Nat} (hr : fX6_done sn ud rz az bk nw kn pd pq = r) : q.1 = r.1 ∧ RS q.2.2.2.2.2.2.2.2.2.2.1 q.2.2.2.2.2.2.2.2.2.2.2.1 q.2.2.2.2.2.2.2.2.2.2.2.2.1 q.2.2.2.2.2.2.2.2.2.2.2.2.2.1 q.2.2.2.2.2.2.2.2.2.2.2.2.2.2.1 r.2.2.2.2.2.2.1 ∧ RP q.2.2.2.2.2.2.2.2.2.2.2.2.2.2.2 psg r.2.2.2.2.2.2.2 pd ∧ q.2.2.2.2.1 ≤ 500 ∧ kx_I r.2.1 := by
  unfold fX5_done at hq
  unfold fX6_done at hr
  generalize hW : fX5_weeksCanBe kt n ea co ti an np psg ac1 rs mu al1 nr er cr tr ar = W at hq
  generalize hB : fX6_barOfWeeks sn ud rz az bk nw kn pd pq = B at hr
  have hc := can_lock iS iK iP hnr hJ hW hB
  obtain ⟨qa, qb, qc, qd, qe, qf, qg, qh, qi, qj⟩ := W
  obtain ⟨ta, tb, tc, td, te, tf⟩ := B
  dsimp only at hq hr hc
  rcases hc with ⟨x1, x2, x3, x4⟩ | ⟨x1, x2, x3, x4, x5⟩
  · rw [if_pos x1] at hq
    rw [x2, if_neg (by decide)] at hr
    subst hq; subst hr
    exact ⟨rfl, iS, iP, x3, x4⟩
  · rw [x1, if_neg (by decide)] at hq
    rw [x2, if_pos (by decide), done_L12] at hr
    have hn := x3.1
    have hcp := RS_copy (co := co) (ti := ti) (an := an) x3
    generalize fX2_copy co ti an qe qf qb qc qd = C at hq hcp
    obtain ⟨ca, cb, cc, cd, ce⟩ := C
    dsimp only at hq hcp
    subst hq; subst hr
    refine ⟨x5, ?_, ⟨rfl, Nat.zero_le _, fun k hk => absurd hk (Nat.not_lt_zero k)⟩, by show qe ≤ 500; omega, RS_kI x3⟩
    exact RS_congrB hcp (fun k hk => asNow_at tb bk hk)
/-- the eaten ones -/
theorem eaten_L4 (nw : Nat → Int32) (n : Nat) (hn : n ≤ 24) : ∀ (r j : Nat) (es : Int32), r + j = n → ∀ i, i < 32 → bt (fX6_eatenSet_L4 nw r j es) i = (bt es i || (decide (j ≤ i ∧ i < n) && decide (nw (72 + i) = (1 : Int32)))) := by
  intro r
  induction r with
  | zero =>
    intro j es hr i hi
    rw [fX6_eatenSet_L4, decide_eq_false (show ¬ (j ≤ i ∧ i < n) by omega), Bool.false_and, Bool.or_false]
  | succ r ih =>
    intro j es hr i hi
    rw [fX6_eatenSet_L4]
    by_cases c : nw (72 + j) = (1 : Int32)
    · rw [if_pos c, ih _ _ (by omega) i hi, bt_orp (by omega) hi]
      by_cases q : i = j
      · subst q
        rw [decide_eq_true c, decide_eq_true rfl, decide_eq_true (show i ≤ i ∧ i < n by omega)]
        simp
      · rw [decide_eq_false q, Bool.or_false]
        by_cases g : j ≤ i ∧ i < n
        · rw [decide_eq_true g, decide_eq_true (show j + 1 ≤ i ∧ i < n by omega)]
        · rw [decide_eq_false g, decide_eq_false (show ¬ (j + 1 ≤ i ∧ i < n) by omega)]
    · rw [if_neg c, ih _ _ (by omega) i hi, bt_or0]
      by_cases q : i = j
      · subst q
        rw [decide_eq_false c, Bool.and_false, Bool.and_false]
      · by_cases g : j ≤ i ∧ i < n
        · rw [decide_eq_true g, decide_eq_true (show j + 1 ≤ i ∧ i < n by omega)]
        · rw [decide_eq_false g, decide_eq_false (show ¬ (j + 1 ≤ i ∧ i < n) by omega)]
theorem eaten_eq {co ti an : Nat → Int32} {n : Nat} {ea : Int32} {b : Nat → Int32} (h : RS co ti an n ea b) : fX6_eatenSet b = ea := by
  refine b_ext (fun i hi => ?_)
  have e : fX6_eatenSet b = fX6_eatenSet_L4 b (mN b) 0 (0 : Int32) := rfl
  rw [e, RS_mN h, eaten_L4 b n h.1 n 0 0 rfl i hi, b_0, Bool.false_or]
  by_cases q : i < n
  · rw [decide_eq_true (show 0 ≤ i ∧ i < n by omega), Bool.true_and]
    cases hb : bt ea i with
    | true => exact decide_eq_true ((RS_eq721 h q).mpr hb)
    | false => exact decide_eq_false (fun w => by rw [(RS_eq721 h q).mp w] at hb; cases hb)
  · rw [decide_eq_false (show ¬ (0 ≤ i ∧ i < n) by omega), Bool.false_and, h.2.2.2 i (by omega) hi]
theorem loose_eq {co ti an : Nat → Int32} {n : Nat} {ea : Int32} {b : Nat → Int32} (h : RS co ti an n ea b) : fX2_looseOnes n ea an = fX6_looseSet b := by
  have he := eaten_eq h
  have hn := h.1
  have L : ∀ (r j : Nat) (lo : Int32), r + j = n → fX2_looseOnes_L4 ea an r j lo = fX6_looseSet_L9 b r j lo := by
    intro r
    induction r with
    | zero => intro j lo _; rfl
    | succ r ih =>
      intro j lo hr
      rw [fX2_looseOnes_L4, fX6_looseSet_L9, at_nI (show j < 24 by omega) (by decide), he]
      rcases RS_an h (show j < n by omega) with ⟨q1, q2⟩ | ⟨a, ha, q1, q2⟩
      · rw [q1, q2, isIn_m1, if_pos rfl, if_pos (by decide), or_0]
        exact ih _ _ (by omega)
      · rw [q1, q2, if_neg (nI_pos (by omega)), isIn_bt (by omega), has_bt (by omega)]
        by_cases c : bt (ea ||| lo) a = true
        · rw [if_pos c, if_neg (by decide), if_neg (by decide)]; exact ih _ _ (by omega)
        · rw [if_neg c, if_pos rfl, if_pos rfl, or_0]; exact ih _ _ (by omega)
  have e2 : fX6_looseSet b = fX6_looseSet_L9 b (mN b) 0 (0 : Int32) := rfl
  rw [e2, RS_mN h]
  exact L n 0 0 rfl
theorem m_behind {co ti an kt kn cr tr ar : Nat → Int32} {n nr : Nat} {ea rz ac1 rs mu al1 er ud az : Int32} {bk nw pq : Nat → Int32} (iS : RS co ti an n ea bk) (iK : RK kt kn) {np : Nat} {sg : Nat → Int32} {sn : Nat} {pd : Nat → Int32} (iP : RP np sg sn pd) (hnr : nr ≤ 500) (hJ : kx_I nw) (a1 : Int32) {q : Int32 × (Nat → Int32) × (Nat → Int32) × (Nat → Int32) × Nat × Int32 × Int32 × Int32 × Int32 × Int32} (hq : fX5_behind kt n ea co ti an np sg ac1 rs mu al1 nr er cr tr ar a1 = q) {r : Int32 × (Nat → Int32) × (Nat → Int32) × Int32 × Int32 × Int32} (hr : fX6_behind sn ud rz az bk nw kn pd pq a1 = r) : q.1 = r.1 ∧ q.2.2.2.2.1 ≤ 500 ∧ kx_I r.2.1 := by
  have hb : fX5_isBelow a1 (4 : Int32) = fX6_in a1 (0 : Int32) (3 : Int32) := below_in a1 (b := 3) (by decide)
  unfold fX5_behind at hq
  unfold fX6_behind at hr
  rw [hb] at hq
  by_cases h1 : fX6_in a1 (0 : Int32) (3 : Int32) = 0
  · rw [if_pos h1] at hq hr
    subst hq; subst hr
    exact ⟨rfl, hnr, hJ⟩
  · rw [if_neg h1] at hq hr
    generalize hW : fX5_weeksCanBe kt n ea co ti an np sg ac1 rs mu al1 nr er cr tr ar = W at hq
    generalize hB : fX6_barOfWeeks sn ud rz az bk nw kn pd pq = B at hr
    have hc := can_lock iS iK iP hnr hJ hW hB
    obtain ⟨qa, qb, qc, qd, qe, qf, qg, qh, qi, qj⟩ := W
    obtain ⟨ta, tb, tc, td, te, tf⟩ := B
    dsimp only at hq hr hc
    rcases hc with ⟨x1, x2, x3, x4⟩ | ⟨x1, x2, x3, x4, x5⟩
    · rw [if_pos x1] at hq
      rw [x2, if_neg (by decide)] at hr
      subst hq; subst hr
      exact ⟨rfl, x3, x4⟩
    · rw [x1, if_neg (by decide)] at hq
      rw [x2, if_pos (by decide)] at hr
      have hn := x3.1
      by_cases w0 : a1 = 0
      · rw [if_pos w0] at hq hr
        subst hq; subst hr
        exact ⟨by show nI qe = nI (mN tb); rw [RS_mN x3], by show qe ≤ 500; omega, RS_kI x3⟩
      · rw [if_neg w0] at hq hr
        by_cases w1 : a1 = (1 : Int32)
        · rw [if_pos w1] at hq hr
          subst hq; subst hr
          exact ⟨(eaten_eq x3).symm, by show qe ≤ 500; omega, RS_kI x3⟩
        · rw [if_neg w1] at hq hr
          by_cases w2 : a1 = (2 : Int32)
          · rw [if_pos w2] at hq hr
            subst hq; subst hr
            exact ⟨loose_eq x3, by show qe ≤ 500; omega, RS_kI x3⟩
          · rw [if_neg w2] at hq hr
            subst hq; subst hr
            exact ⟨x4, by show qe ≤ 500; omega, RS_kI x3⟩
theorem trait_eq {co ti an : Nat → Int32} {n : Nat} {ea : Int32} {b : Nat → Int32} (h : RS co ti an n ea b) {k : Nat} (hk : k < n) {w : Nat} (hw : w < 3) : fX2_trait co ti an (nI k) (nI w) = b (24 * w + k) := by
  have hn := h.1
  obtain ⟨⟨r1, -⟩, ⟨r3, -⟩, r5, -⟩ := h.2.2.1 k hk
  unfold fX2_trait
  rw [at_nI (show k < 24 by omega) (by decide), at_nI (show k < 24 by omega) (by decide), at_nI (show k < 24 by omega) (by decide)]
  rcases (show w = 0 ∨ w = 1 ∨ w = 2 by omega) with rfl | rfl | rfl
  · rw [if_pos (by decide), show 24 * 0 + k = k by omega]; exact r1
  · rw [if_neg (by decide), if_pos (by decide)]; exact r3
  · rw [if_neg (by decide), if_neg (by decide)]
    rcases r5 with ⟨q1, q2⟩ | ⟨a, ha, q1, q2⟩
    · rw [if_pos q1]; exact q2.symm
    · rw [if_neg (fun w => by rw [q1] at w; exact nI_pos (n := a) (by omega) (by rw [w]; decide)), q1]; exact q2.symm
theorem m_of {co ti an kt kn cr tr ar : Nat → Int32} {n nr : Nat} {ea rz ac1 rs mu al1 er ud az : Int32} {bk nw pq : Nat → Int32} (iS : RS co ti an n ea bk) (iK : RK kt kn) {np : Nat} {sg : Nat → Int32} {sn : Nat} {pd : Nat → Int32} (iP : RP np sg sn pd) (hnr : nr ≤ 500) (hJ : kx_I nw) (a1 a2 : Int32) {q : Int32 × (Nat → Int32) × (Nat → Int32) × (Nat → Int32) × Nat × Int32 × Int32 × Int32 × Int32 × Int32} (hq : fX5_of kt n ea co ti an np sg ac1 rs mu al1 nr er cr tr ar a1 a2 = q) {r : Int32 × (Nat → Int32) × (Nat → Int32) × Int32 × Int32 × Int32} (hr : fX6_of sn ud rz az bk nw kn pd pq a1 a2 = r) : q.1 = r.1 ∧ q.2.2.2.2.1 ≤ 500 ∧ kx_I r.2.1 := by
  have hb : fX5_isBelow a2 (3 : Int32) = fX6_in a2 (0 : Int32) (2 : Int32) := below_in a2 (b := 2) (by decide)
  unfold fX5_of at hq
  unfold fX6_of at hr
  rw [hb] at hq
  by_cases h1 : fX6_in a2 (0 : Int32) (2 : Int32) = 0
  · rw [if_pos h1] at hq hr
    subst hq; subst hr
    exact ⟨rfl, hnr, hJ⟩
  · rw [if_neg h1] at hq hr
    generalize hW : fX5_weeksCanBe kt n ea co ti an np sg ac1 rs mu al1 nr er cr tr ar = W at hq
    generalize hB : fX6_barOfWeeks sn ud rz az bk nw kn pd pq = B at hr
    have hc := can_lock iS iK iP hnr hJ hW hB
    obtain ⟨qa, qb, qc, qd, qe, qf, qg, qh, qi, qj⟩ := W
    obtain ⟨ta, tb, tc, td, te, tf⟩ := B
    dsimp only at hq hr hc
    rcases hc with ⟨x1, x2, x3, x4⟩ | ⟨x1, x2, x3, x4, x5⟩
    · rw [if_pos x1] at hq
      rw [x2, if_neg (by decide)] at hr
      subst hq; subst hr
      exact ⟨rfl, x3, x4⟩
    · rw [x1, if_neg (by decide)] at hq
      rw [x2, if_pos (by decide)] at hr
      have hn := x3.1
      have hs := has_stitch x3 a1
      have hs' : fX6_isStitch tb a1 = fX6_in a1 (0 : Int32) ((nI (mN tb)) + (-1)) := rfl
      rw [hs'] at hs
      by_cases c : fX2_has qe a1 = 0
      · rw [if_pos c] at hq
        rw [if_pos (hs ▸ c)] at hr
        subst hq; subst hr
        exact ⟨rfl, by show qe ≤ 500; omega, RS_kI x3⟩
      · rw [if_neg c] at hq
        rw [if_neg (hs ▸ c)] at hr
        obtain ⟨k1, k2⟩ := below_P (b := qe) (by omega) c
        obtain ⟨w, -, hw2, hw⟩ := in_mn (a := 0) (b := 2) (by decide) (by decide) h1
        have := trait_eq x3 k2 (show w < 3 by omega)
        rw [← k1, ← hw] at this
        subst hq; subst hr
        refine ⟨?_, by show qe ≤ 500; omega, RS_kI x3⟩
        show fX2_trait qb qc qd a1 a2 = tb (24 * a2.toNatClampNeg + a1.toNatClampNeg)
        rw [this, hw, nI_clamp (by omega)]
