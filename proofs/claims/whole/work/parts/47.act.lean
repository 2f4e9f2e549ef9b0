/-! acts, in the class's scarf and in the reference's book -/
theorem RS_an {co ti an : Nat → Int32} {n : Nat} {ea : Int32} {b : Nat → Int32} (h : RS co ti an n ea b) {k : Nat} (hk : k < n) : (an k = (-1 : Int32) ∧ b (48 + k) = (-6 : Int32)) ∨ ∃ j, j < k ∧ an k = nI j ∧ b (48 + k) = nI j := (h.2.2.1 k hk).2.2.1
theorem undone_L8 {co ti an : Nat → Int32} {n : Nat} {ea : Int32} {b : Nat → Int32} (h : RS co ti an n ea b) : ∀ (r j : Nat) (u : Int32), r + j = n → fX2_undoneWith_L8 an r j u = fX6_threadOf_L8 b r j u := by
  have hn := h.1
  intro r
  induction r with
  | zero => intro j u _; rfl
  | succ r ih =>
    intro j u hr
    rw [fX2_undoneWith_L8, fX6_threadOf_L8, at_nI (show j < 24 by omega) (by decide)]
    rcases RS_an h (show j < n by omega) with ⟨q1, q2⟩ | ⟨a, ha, q1, q2⟩
    · rw [q1, q2, isIn_m1, if_pos rfl, if_pos (by decide), or_0]
      exact ih _ _ (by omega)
    · rw [q1, q2, if_neg (nI_pos (by omega)), isIn_bt (by omega), has_bt (by omega)]
      by_cases c : bt u a = true
      · rw [if_pos c, if_neg (by decide), if_neg (by decide)]; exact ih _ _ (by omega)
      · rw [if_neg c, if_pos rfl, if_pos rfl, or_0]; exact ih _ _ (by omega)
theorem undone_eq {co ti an : Nat → Int32} {n : Nat} {ea : Int32} {b : Nat → Int32} (h : RS co ti an n ea b) {ks : Nat} (hk : ks < n) : fX2_undoneWith n an ks = fX6_threadOf b ks := by
  unfold fX2_undoneWith fX6_threadOf
  rw [RS_mN h]
  exact undone_L8 h _ _ _ (by omega)
theorem b_mask : ∀ a, a < 25 → ∀ i, i < 32 → bt (((1 : Int32) <<< ((nI a) &&& 31)) - (1 : Int32)) i = decide (i < a) := by decide +kernel
theorem closed_P {x : Int32} {un : Int32} {i : Nat} (hi : i ≤ 24) (h : x = (-1 : Int32) ∨ ∃ a, a < i ∧ x = nI a) : (x = (-1 : Int32) ∧ fX2_closedUp x un = (-1 : Int32)) ∨ ∃ a, a < i ∧ x = nI a ∧ fX2_closedUp x un = nI (kc (bt un) a) := by
  rcases h with rfl | ⟨a, ha, rfl⟩
  · exact Or.inl ⟨rfl, by unfold fX2_closedUp; rw [if_pos rfl]⟩
  · refine Or.inr ⟨a, ha, rfl, ?_⟩
    unfold fX2_closedUp
    rw [if_neg (fun q => nI_pos (n := a) (by omega) (by rw [q]; decide))]
    have e : pcN (un &&& (((1 : Int32) <<< ((nI a) &&& 31)) - (1 : Int32))) = cnt (bt un) a := by
      rw [pcN_c, cnt_0 (a := a) (by omega) (fun i h1 h2 => by rw [b_and, b_mask a (by omega) i h2, decide_eq_false (by omega), Bool.and_false])]
      exact cnt_congr (fun i h1 => by rw [b_and, b_mask a (by omega) i (by omega), decide_eq_true h1, Bool.and_true])
    have hs := kc_sum (bt un) a
    rw [e, pk_sub (by omega)]
    exact congrArg nI (by omega)
def UK (f : Nat → Bool) (un : Int32) (co ti an : Nat → Int32) (ea : Int32) (j lf : Nat) (le : Int32) (gc gt ga : Nat → Int32) : Prop := lf = kc f j ∧ (∀ i, i < j → f i = false → gc (kc f i) = co i ∧ gt (kc f i) = ti i ∧ ga (kc f i) = fX2_closedUp (an i) un ∧ bt le (kc f i) = bt ea i) ∧ (∀ p, lf ≤ p → bt le p = false) ∧ (∀ i, j ≤ i → gc i = co i ∧ gt i = ti i ∧ ga i = an i)
theorem UK_keep {f : Nat → Bool} {un : Int32} {co ti an : Nat → Int32} {ea : Int32} {j lf : Nat} {le le' : Int32} {gc gt ga : Nat → Int32} (h : UK f un co ti an ea j lf le gc gt ga) (hf : f j = false) (h1 : ∀ p, p ≠ lf → bt le' p = bt le p) (h2 : bt le' lf = bt ea j) : UK f un co ti an ea (j + 1) (lf + 1) le' (upd gc lf (gc j)) (upd gt lf (gt j)) (upd ga lf (fX2_closedUp (ga j) un)) := by
  obtain ⟨a1, a2, a3, a4⟩ := h
  have ht : lf ≤ j := by rw [a1]; exact kc_le f j
  obtain ⟨k1, k2, k3⟩ := a4 j (Nat.le_refl _)
  refine ⟨by rw [kc_succ, hf, a1]; rfl, fun i hi hfi => ?_, fun p hp => by rw [h1 p (by omega)]; exact a3 p (by omega), fun i hi => ?_⟩
  · by_cases q : i = j
    · subst q
      rw [← a1, upd_s, upd_s, upd_s, h2, k1, k2, k3]
      exact ⟨rfl, rfl, rfl, rfl⟩
    · have hlt := kc_lt (show i < j by omega) hfi
      have hne : kc f i ≠ lf := by omega
      rw [upd_n hne, upd_n hne, upd_n hne, h1 _ hne]
      exact a2 i (by omega) hfi
  · have hne : i ≠ lf := by omega
    rw [upd_n hne, upd_n hne, upd_n hne]
    exact a4 i (by omega)
theorem UK_drop {f : Nat → Bool} {un : Int32} {co ti an : Nat → Int32} {ea : Int32} {j lf : Nat} {le : Int32} {gc gt ga : Nat → Int32} (h : UK f un co ti an ea j lf le gc gt ga) (hf : f j = true) : UK f un co ti an ea (j + 1) lf le gc gt ga := by
  obtain ⟨a1, a2, a3, a4⟩ := h
  refine ⟨by rw [kc_succ, hf, a1]; rfl, fun i hi hfi => ?_, a3, fun i hi => a4 i (by omega)⟩
  by_cases q : i = j
  · subst q; rw [hf] at hfi; cases hfi
  · exact a2 i (by omega) hfi
theorem unpick_L14 {n : Nat} {ea : Int32} {co ti an : Nat → Int32} {ks : Nat} (hn : n ≤ 24) : ∀ (r j lf : Nat) (le : Int32) (gc gt ga : Nat → Int32), r + j = n → UK (bt (fX2_undoneWith n an ks)) (fX2_undoneWith n an ks) co ti an ea j lf le gc gt ga → UK (bt (fX2_undoneWith n an ks)) (fX2_undoneWith n an ks) co ti an ea n (fX2_unpick_L14 n ea an ks r j lf le gc gt ga).1 (fX2_unpick_L14 n ea an ks r j lf le gc gt ga).2.1 (fX2_unpick_L14 n ea an ks r j lf le gc gt ga).2.2.1 (fX2_unpick_L14 n ea an ks r j lf le gc gt ga).2.2.2.1 (fX2_unpick_L14 n ea an ks r j lf le gc gt ga).2.2.2.2 := by
  intro r
  induction r with
  | zero => intro j lf le gc gt ga hr h; rw [fX2_unpick_L14]; have e : j = n := (by omega); subst e; exact h
  | succ r ih =>
    intro j lf le gc gt ga hr h
    have ht : lf ≤ j := by rw [h.1]; exact kc_le _ j
    have hd := h.2.2.1 lf (Nat.le_refl _)
    rw [fX2_unpick_L14, isIn_bt (show j < 32 by omega), at_nI (show j < 24 by omega) (by decide), at_nI (show j < 24 by omega) (by decide), at_nI (show j < 24 by omega) (by decide), put_nI (show lf < 24 by omega) (by decide), put_nI (show lf < 24 by omega) (by decide), put_nI (show lf < 24 by omega) (by decide), isEaten_bt (show j < 32 by omega)]
    by_cases c : bt (fX2_undoneWith n an ks) j = true
    · rw [if_pos c, if_neg (by decide)]
      exact ih _ _ _ _ _ _ (by omega) (UK_drop h c)
    · rw [if_neg c, if_pos rfl]
      have c' : bt (fX2_undoneWith n an ks) j = false := by simpa using c
      by_cases e : bt ea j = true
      · rw [if_pos e]
        show UK _ _ _ _ _ _ _ (fX2_unpick_L14 n ea an ks r (j + 1) (lf + 1) (le ||| ((1 : Int32) <<< ((nI lf) &&& 31))) _ _ _).1 _ _ _ _
        refine ih _ _ _ _ _ _ (by omega) (UK_keep h c' (fun p hp => ?_) ?_)
        · rcases Nat.lt_or_ge p 32 with g | g
          · rw [bt_orp (by omega) g, decide_eq_false hp, Bool.or_false]
          · rw [b_big g, b_big g]
        · rw [bt_orp (by omega) (by omega), decide_eq_true rfl, Bool.or_true, e]
      · rw [if_neg e]
        show UK _ _ _ _ _ _ _ (fX2_unpick_L14 n ea an ks r (j + 1) (lf + 1) (le ||| (0 : Int32)) _ _ _).1 _ _ _ _
        refine ih _ _ _ _ _ _ (by omega) (UK_keep h c' (fun p hp => bt_or0 _ _) ?_)
        rw [bt_or0, hd]; simpa using e
theorem unpick_P {n : Nat} {ea : Int32} {co ti an : Nat → Int32} (ks : Nat) (hn : n ≤ 24) : (fX2_unpick n ea co ti an ks).1 = pcN (fX2_undoneWith n an ks) ∧ UK (bt (fX2_undoneWith n an ks)) (fX2_undoneWith n an ks) co ti an ea n (fX2_unpick n ea co ti an ks).2.2.2.2.1 (fX2_unpick n ea co ti an ks).2.2.2.2.2 (fX2_unpick n ea co ti an ks).2.1 (fX2_unpick n ea co ti an ks).2.2.1 (fX2_unpick n ea co ti an ks).2.2.2.1 :=
  ⟨rfl, unpick_L14 hn n 0 0 0 co ti an rfl ⟨rfl, fun i hi => absurd hi (by omega), fun p _ => b_0 p, fun i _ => ⟨rfl, rfl, rfl⟩⟩⟩
theorem RS_unpick {co ti an : Nat → Int32} {n : Nat} {ea : Int32} {b pq : Nat → Int32} (h : RS co ti an n ea b) {ks : Nat} (hk : ks < n) : nI (fX2_unpick n ea co ti an ks).1 = (fX6_pullOut b pq ks).1 ∧ RS (fX2_unpick n ea co ti an ks).2.1 (fX2_unpick n ea co ti an ks).2.2.1 (fX2_unpick n ea co ti an ks).2.2.2.1 (fX2_unpick n ea co ti an ks).2.2.2.2.1 (fX2_unpick n ea co ti an ks).2.2.2.2.2 (fX6_pullOut b pq ks).2.1 := by
  have hI := RS_kI h
  have hm := RS_mN h
  have hn := h.1
  obtain ⟨e1, u1, u2, u3, -⟩ := unpick_P (ea := ea) (co := co) (ti := ti) (an := an) ks hn
  have eu := undone_eq h hk
  rw [eu] at e1 u1 u2
  obtain ⟨p1, p2⟩ := takeOut_P hI pq (fX6_threadOf b ks)
  obtain ⟨t1, t2, t3, t4⟩ := thr_P hI (show ks < mN b by omega)
  have e2 : fX6_pullOut b pq ks = (fX6_bits (fX6_threadOf b ks), (fX6_takeOut b pq (fX6_threadOf b ks)).1, (fX6_takeOut b pq (fX6_threadOf b ks)).2) := by
    unfold fX6_pullOut
    rw [if_pos (show ks < mN b by omega)]
  rw [e2, e1]
  refine ⟨pcN_bits (fun i h1 h2 => t3 i (by omega)), ?_⟩
  show RS _ _ _ _ _ (fX6_takeOut b pq (fX6_threadOf b ks)).1
  rw [hm] at p1 p2
  generalize (fX6_takeOut b pq (fX6_threadOf b ks)).1 = g at p1 p2 ⊢
  generalize fX2_unpick n ea co ti an ks = q at u1 u2 u3 ⊢
  obtain ⟨q0, gc, gt, ga, lf, le⟩ := q
  dsimp only at u1 u2 u3 ⊢
  have hkc := kc_le (bt (fX6_threadOf b ks)) n
  refine ⟨by omega, by rw [u1]; exact p1, fun p hp => ?_, fun i h1 h2 => u3 i h1⟩
  rw [u1] at hp
  obtain ⟨i, hi, hf, rfl⟩ := kc_surj _ _ _ hp
  obtain ⟨m1, m2, m3, m4⟩ := p2 i hi hf
  obtain ⟨n1, n2, n3, n4⟩ := u2 i hi hf
  obtain ⟨⟨r1, r2⟩, ⟨r3, r4⟩, r5, r6⟩ := h.2.2.1 i hi
  rw [m1, m2, m3, m4, n1, n2, n3, n4]
  refine ⟨⟨r1, r2⟩, ⟨r3, r4⟩, ?_, r6⟩
  rcases r5 with ⟨q1, q2⟩ | ⟨a, ha, q1, q2⟩
  · refine Or.inl ⟨?_, ?_⟩
    · rw [q1]; unfold fX2_closedUp; rw [if_pos rfl]
    · rw [q2]; unfold mapA; rw [if_pos (by decide)]
  · have hfa := thr_up hI (show ks < mN b by omega) (show i < mN b by omega) ha q2 hf
    refine Or.inr ⟨kc (bt (fX6_threadOf b ks)) a, kc_lt ha hfa, ?_, ?_⟩
    · rcases closed_P (un := fX6_threadOf b ks) (show i ≤ 24 by omega) (Or.inr ⟨a, ha, q1⟩) with ⟨c1, -⟩ | ⟨a', ha', c1, c2⟩
      · exact absurd (show nI a < 0 by rw [← q1, c1]; decide) (nI_pos (by omega))
      · have : a = a' := (nI_eq (by omega) (by omega)).mp (q1.symm.trans c1)
        rw [c2, this]
    · rw [q2]; unfold mapA; rw [if_neg (nI_pos (by omega)), nI_clamp (by omega)]
/-- the last of the colour that is whole -/
theorem last_L7 (ea : Int32) (co : Nat → Int32) (c : Int32) : ∀ j, j ≤ 24 → (fX2_lastWholeOf_L7 ea co c j = (-1 : Int32) ∧ ∀ i, i < j → ¬ (co i = c ∧ bt ea i = false)) ∨ ∃ i, i < j ∧ fX2_lastWholeOf_L7 ea co c j = nI i ∧ (co i = c ∧ bt ea i = false) ∧ ∀ i', i < i' → i' < j → ¬ (co i' = c ∧ bt ea i' = false) := by
  intro j
  induction j with
  | zero => intro _; exact Or.inl ⟨by rw [fX2_lastWholeOf_L7], fun i hi => absurd hi (by omega)⟩
  | succ j ih =>
    intro hj
    have skip : ¬ (co j = c ∧ bt ea j = false) → (fX2_lastWholeOf_L7 ea co c j = (-1 : Int32) ∧ ∀ i, i < j + 1 → ¬ (co i = c ∧ bt ea i = false)) ∨ ∃ i, i < j + 1 ∧ fX2_lastWholeOf_L7 ea co c j = nI i ∧ (co i = c ∧ bt ea i = false) ∧ ∀ i', i < i' → i' < j + 1 → ¬ (co i' = c ∧ bt ea i' = false) := by
      intro hno
      rcases ih (by omega) with ⟨h1, h2⟩ | ⟨i, hi, h1, h2, h3⟩
      · refine Or.inl ⟨h1, fun i hi => ?_⟩
        rcases Nat.eq_or_lt_of_le (Nat.le_of_lt_succ hi) with q | q
        · rw [q]; exact hno
        · exact h2 i q
      · refine Or.inr ⟨i, by omega, h1, h2, fun i' g1 g2 => ?_⟩
        rcases Nat.eq_or_lt_of_le (Nat.le_of_lt_succ g2) with q | q
        · rw [q]; exact hno
        · exact h3 i' g1 q
    rw [fX2_lastWholeOf_L7, at_nI (show j < 24 by omega) (by decide), isIn_bt (show j < 32 by omega)]
    by_cases h1 : co j = c
    · rw [if_pos h1]
      by_cases h2 : bt ea j = true
      · rw [if_pos h2, if_neg (by decide)]
        exact skip (fun q => by rw [h2] at q; exact absurd q.2 (by decide))
      · rw [if_neg h2, if_pos rfl]
        exact Or.inr ⟨j, by omega, rfl, ⟨h1, by simpa using h2⟩, fun i' g1 g2 => absurd g1 (by omega)⟩
    · rw [if_neg h1]
      exact skip (fun q => h1 q.1)
theorem last_L23 (nw : Nat → Int32) (c : Int32) (m : Nat) : ∀ (r j : Nat) (on : Int32), r + j = m → (fX6_knit_L23 nw c r j on = on ∧ ∀ i, j ≤ i → i < m → ¬ (nw i = c ∧ nw (72 + i) = 0)) ∨ ∃ i, j ≤ i ∧ i < m ∧ fX6_knit_L23 nw c r j on = nI i ∧ (nw i = c ∧ nw (72 + i) = 0) ∧ ∀ i', i < i' → i' < m → ¬ (nw i' = c ∧ nw (72 + i') = 0) := by
  intro r
  induction r with
  | zero => intro j on hr; exact Or.inl ⟨by rw [fX6_knit_L23], fun i h1 h2 => absurd h1 (by omega)⟩
  | succ r ih =>
    intro j on hr
    have skip : ¬ (nw j = c ∧ nw (72 + j) = 0) → (fX6_knit_L23 nw c r (j + 1) on = on ∧ ∀ i, j ≤ i → i < m → ¬ (nw i = c ∧ nw (72 + i) = 0)) ∨ ∃ i, j ≤ i ∧ i < m ∧ fX6_knit_L23 nw c r (j + 1) on = nI i ∧ (nw i = c ∧ nw (72 + i) = 0) ∧ ∀ i', i < i' → i' < m → ¬ (nw i' = c ∧ nw (72 + i') = 0) := by
      intro hno
      rcases ih (j + 1) on (by omega) with ⟨h1, h2⟩ | ⟨i, hi, him, h1, h2, h3⟩
      · refine Or.inl ⟨h1, fun i g1 g2 => ?_⟩
        rcases Nat.eq_or_lt_of_le g1 with q | q
        · rw [← q]; exact hno
        · exact h2 i (by omega) g2
      · exact Or.inr ⟨i, by omega, him, h1, h2, h3⟩
    rw [fX6_knit_L23]
    by_cases h1 : nw j = c
    · rw [if_pos h1]
      by_cases h2 : nw (72 + j) = 0
      · rw [if_pos h2]
        rcases ih (j + 1) (nI j) (by omega) with ⟨g1, g2⟩ | ⟨i, hi, him, g1, g2, g3⟩
        · exact Or.inr ⟨j, Nat.le_refl _, by omega, g1, ⟨h1, h2⟩, fun i' q1 q2 => g2 i' (by omega) q2⟩
        · exact Or.inr ⟨i, by omega, him, g1, g2, g3⟩
      · rw [if_neg h2]; exact skip (fun q => h2 q.2)
    · rw [if_neg h1]; exact skip (fun q => h1 q.1)
theorem RS_eq72 {co ti an : Nat → Int32} {n : Nat} {ea : Int32} {b : Nat → Int32} (h : RS co ti an n ea b) {k : Nat} (hk : k < n) : b (72 + k) = 0 ↔ bt ea k = false := by
  rw [(h.2.2.1 k hk).2.2.2]
  cases bt ea k <;> decide
theorem last_rel {co ti an : Nat → Int32} {n : Nat} {ea : Int32} {b : Nat → Int32} (h : RS co ti an n ea b) (c : Int32) : (fX2_lastWholeOf n ea co c = (-1 : Int32) ∧ fX6_knit_L23 b c n 0 (-6 : Int32) = (-6 : Int32)) ∨ ∃ j, j < n ∧ fX2_lastWholeOf n ea co c = nI j ∧ fX6_knit_L23 b c n 0 (-6 : Int32) = nI j := by
  have hn := h.1
  have eqv : ∀ i, i < n → ((co i = c ∧ bt ea i = false) ↔ (b i = c ∧ b (72 + i) = 0)) := fun i hi => by
    rw [RS_eq72 h hi, (RS_at h hi).1]
  unfold fX2_lastWholeOf
  rcases last_L7 ea co c n (by omega) with ⟨h1, h2⟩ | ⟨i, hi, h1, h2, h3⟩ <;> rcases last_L23 b c n n 0 (-6 : Int32) rfl with ⟨g1, g2⟩ | ⟨i', hi0, hi', g1, g2, g3⟩
  · exact Or.inl ⟨h1, g1⟩
  · exact absurd ((eqv i' hi').mpr g2) (h2 i' hi')
  · exact absurd ((eqv i hi).mp h2) (g2 i (by omega) hi)
  · refine Or.inr ⟨i, hi, h1, ?_⟩
    have : i = i' := by
      rcases Nat.lt_trichotomy i i' with q | q | q
      · exact absurd ((eqv i' hi').mpr g2) (h3 i' q hi')
      · exact q
      · exact absurd ((eqv i hi).mp h2) (g3 i q hi)
    rw [this]; exact g1
/-- the class knits as the reference does -/
theorem RS_knit {co ti an : Nat → Int32} {n : Nat} {ea : Int32} {b kn : Nat → Int32} (h : RS co ti an n ea b) (hn : n < 24) {c t : Int32} {kk : Nat} (hc : ∃ j, j < 4 ∧ c = nI j) (ht : t = kn kk ∧ ∃ j, j < 10 ∧ t = nI j) : (fX6_knit b kn kk c).1 = (0 : Int32) ∧ RS (fX2_knit n ea co ti an c t).1 (fX2_knit n ea co ti an c t).2.1 (fX2_knit n ea co ti an c t).2.2.1 (fX2_knit n ea co ti an c t).2.2.2 ea (fX6_knit b kn kk c).2 := by
  have hm := RS_mN h
  have e1 : fX2_knit n ea co ti an c t = fX2_append n co ti an c t (fX2_lastWholeOf n ea co c) := rfl
  have e2 : fX6_knit b kn kk c = ((0 : Int32), (upd (upd (upd (upd (upd b n c) (24 + n) (kn kk)) (48 + n) (fX6_knit_L23 b c n 0 (-6 : Int32))) (72 + n) (0 : Int32)) 96 (nI (n + 1)))) := by
    unfold fX6_knit
    rw [hm, if_neg (by omega)]
  rw [e1, e2, append_nI hn, ← ht.1]
  exact ⟨rfl, RS_app h hn hc ht.2 (last_rel h c)⟩
theorem RS_eat {co ti an : Nat → Int32} {n : Nat} {ea : Int32} {b : Nat → Int32} (h : RS co ti an n ea b) {k : Nat} (hk : k < n) : RS co ti an n (fX2_eat ea (nI k)) (upd b (72 + k) (1 : Int32)) := by
  have hn := h.1
  refine ⟨hn, by rw [upd_n (by omega)]; exact h.2.1, fun i hi => ?_, fun i h1 h2 => ?_⟩
  · obtain ⟨r1, r3, r5, r6⟩ := h.2.2.1 i hi
    rw [upd_n (by omega), upd_n (by omega), upd_n (by omega)]
    refine ⟨r1, r3, r5, ?_⟩
    unfold fX2_eat
    rw [bt_orp (by omega) (by omega)]
    by_cases q : i = k
    · subst q; rw [upd_s, decide_eq_true rfl, Bool.or_true, if_pos rfl]
    · rw [upd_n (by omega), decide_eq_false q, Bool.or_false]; exact r6
  · unfold fX2_eat
    rw [bt_orp (by omega) h2, decide_eq_false (by omega), Bool.or_false]
    exact h.2.2.2 i h1 h2
theorem RS_mend {co ti an : Nat → Int32} {n : Nat} {ea : Int32} {b kn : Nat → Int32} (h : RS co ti an n ea b) {k kk : Nat} (hk : k < n) {t : Int32} (ht : t = kn kk ∧ ∃ j, j < 10 ∧ t = nI j) : RS co (fX2_mend ea ti (nI k) t).1 an n (fX2_mend ea ti (nI k) t).2 (upd (upd b (72 + k) (0 : Int32)) (24 + k) (kn kk)) := by
  have hn := h.1
  have e : fX2_mend ea ti (nI k) t = (upd ti k t, (ea &&& (((1 : Int32) <<< ((nI k) &&& 31)) ^^^ (-1 : Int32)))) := by
    unfold fX2_mend
    rw [put_nI (show k < 24 by omega) (by decide)]
  rw [e]
  have eb : ∀ i, i < 32 → bt (ea &&& (((1 : Int32) <<< ((nI k) &&& 31)) ^^^ (-1 : Int32))) i = (bt ea i && !decide (i = k)) := fun i hi => by
    rw [b_and, b_xor, bt_p (by omega) hi, b_m1 i hi]
    cases decide (i = k) <;> rfl
  refine ⟨hn, by rw [upd_n (by omega), upd_n (by omega)]; exact h.2.1, fun i hi => ?_, fun i h1 h2 => by rw [eb i h2, h.2.2.2 i h1 h2, Bool.false_and]⟩
  obtain ⟨r1, r3, r5, r6⟩ := h.2.2.1 i hi
  rw [eb i (by omega)]
  rw [show upd (upd b (72 + k) (0 : Int32)) (24 + k) (kn kk) i = b i by rw [upd_n (by omega), upd_n (by omega)], show upd (upd b (72 + k) (0 : Int32)) (24 + k) (kn kk) (48 + i) = b (48 + i) by rw [upd_n (by omega), upd_n (by omega)]]
  refine ⟨r1, ?_, r5, ?_⟩
  · show upd ti k t i = _ ∧ ∃ j, j < 10 ∧ upd ti k t i = nI j
    by_cases q : i = k
    · subst q; rw [upd_s, upd_s]; exact ht
    · rw [upd_n q, upd_n (by omega), upd_n (by omega)]; exact r3
  · by_cases q : i = k
    · subst q; rw [upd_n (by omega), upd_s, decide_eq_true rfl]; simp
    · rw [upd_n (by omega), upd_n (by omega), decide_eq_false q, r6]; simp
