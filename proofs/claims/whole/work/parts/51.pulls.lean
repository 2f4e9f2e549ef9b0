/-! the fewest pulls -/
theorem all_iff1 {n : Nat} (hn : n ≤ 24) {se : Int32} : (se &&& (((1 : Int32) <<< ((nI n) &&& 31)) - (1 : Int32))) = se ↔ ∀ i, n ≤ i → i < 32 → bt se i = false := by
  constructor
  · intro h i h1 h2
    rw [← h, b_and, b_mask n (by omega) i h2, decide_eq_false (by omega), Bool.and_false]
  · intro h
    refine b_ext (fun i hi => ?_)
    rw [b_and, b_mask n (by omega) i hi]
    by_cases c : i < n
    · rw [decide_eq_true c, Bool.and_true]
    · rw [h i (by omega) hi, Bool.false_and]
theorem all_iff2 {n : Nat} (hn : n ≤ 24) {se : Int32} : (se &&& ((((1 : Int32) <<< ((nI n) &&& 31)) - (1 : Int32)) ^^^ (-1 : Int32))) = 0 ↔ ∀ i, n ≤ i → i < 32 → bt se i = false := by
  constructor
  · intro h i h1 h2
    have h3 : bt (se &&& ((((1 : Int32) <<< ((nI n) &&& 31)) - (1 : Int32)) ^^^ (-1 : Int32))) i = false := by rw [h]; exact b_0 i
    rw [b_and, b_xor, b_mask n (by omega) i h2, b_m1 i h2, decide_eq_false (by omega)] at h3
    simpa using h3
  · intro h
    refine b_ext (fun i hi => ?_)
    rw [b_and, b_xor, b_mask n (by omega) i hi, b_m1 i hi, b_0]
    by_cases c : i < n
    · rw [decide_eq_true c]; simp
    · rw [h i (by omega) hi, Bool.false_and]
theorem hasAll_eq {n : Nat} (hn : n ≤ 24) (se : Int32) : (fX2_hasAll n se = 0 ↔ ¬ (se &&& ((((1 : Int32) <<< ((nI n) &&& 31)) - (1 : Int32)) ^^^ (-1 : Int32))) = 0) := by
  unfold fX2_hasAll
  rw [all_iff2 hn]
  by_cases c : (se &&& (((1 : Int32) <<< ((nI n) &&& 31)) - (1 : Int32))) = se
  · rw [if_pos c]
    exact ⟨fun q => absurd q (by decide), fun q => absurd ((all_iff1 hn).mp c) q⟩
  · rw [if_neg c]
    exact ⟨fun _ q => c ((all_iff1 hn).mpr q), fun _ => rfl⟩
theorem wa_L9 {an : Nat → Int32} {n : Nat} (hn : n ≤ 24) (h : ∀ k, k < n → an k = (-1 : Int32) ∨ ∃ a, a < k ∧ an k = nI a) : ∀ (j : Nat) (al : Int32), j ≤ n → (∀ i, bt al i = true → bt (fX2_withAnchors_L9 an j al) i = true) ∧ (∀ k a, k < j → a < k → an k = nI a → bt (fX2_withAnchors_L9 an j al) k = true → bt (fX2_withAnchors_L9 an j al) a = true) ∧ (∀ i, i < 32 → bt (fX2_withAnchors_L9 an j al) i = true → bt al i = true ∨ ∃ k, i < k ∧ k < j ∧ an k = nI i ∧ bt (fX2_withAnchors_L9 an j al) k = true) ∧ (∀ i, j ≤ i → bt (fX2_withAnchors_L9 an j al) i = bt al i) := by
  intro j
  induction j with
  | zero =>
    intro al _
    rw [fX2_withAnchors_L9]
    exact ⟨fun i q => q, fun k a q => absurd q (Nat.not_lt_zero k), fun i _ q => Or.inl q, fun i _ => rfl⟩
  | succ j ih =>
    intro al hj
    have same : (∀ a, a < j → an j = nI a → bt al j = false) → (∀ i, bt al i = true → bt (fX2_withAnchors_L9 an j al) i = true) ∧ (∀ k a, k < j + 1 → a < k → an k = nI a → bt (fX2_withAnchors_L9 an j al) k = true → bt (fX2_withAnchors_L9 an j al) a = true) ∧ (∀ i, i < 32 → bt (fX2_withAnchors_L9 an j al) i = true → bt al i = true ∨ ∃ k, i < k ∧ k < j + 1 ∧ an k = nI i ∧ bt (fX2_withAnchors_L9 an j al) k = true) ∧ (∀ i, j + 1 ≤ i → bt (fX2_withAnchors_L9 an j al) i = bt al i) := by
      intro hno
      obtain ⟨g1, g2, g3, g4⟩ := ih al (by omega)
      refine ⟨g1, fun k a hk ha e q => ?_, fun i hi q => ?_, fun i hi => g4 i (by omega)⟩
      · by_cases c : k = j
        · subst c
          rw [g4 k (Nat.le_refl _), hno a ha e] at q
          cases q
        · exact g2 k a (by omega) ha e q
      · rcases g3 i hi q with w | ⟨k, w1, w2, w3, w4⟩
        · exact Or.inl w
        · exact Or.inr ⟨k, w1, by omega, w3, w4⟩
    rw [fX2_withAnchors_L9, isIn_bt (by omega), at_nI (show j < 24 by omega) (by decide)]
    by_cases c : bt al j = true
    · rw [if_pos c, if_neg (by decide)]
      rcases h j (by omega) with e | ⟨a, ha, e⟩
      · rw [if_pos e]
        exact same (fun a ha e2 => absurd (show nI a < 0 by rw [← e2, e]; decide) (nI_pos (by omega)))
      · rw [if_neg (fun q => nI_pos (n := a) (by omega) (by rw [← e, q]; decide)), e]
        obtain ⟨g1, g2, g3, g4⟩ := ih (al ||| ((1 : Int32) <<< ((nI a) &&& 31))) (by omega)
        have hj2 : bt (fX2_withAnchors_L9 an j (al ||| ((1 : Int32) <<< ((nI a) &&& 31)))) j = true := by
          rw [g4 j (Nat.le_refl _), bt_orp (by omega) (by omega), c, Bool.true_or]
        refine ⟨fun i q => g1 i ?_, fun k b hk hb e2 q => ?_, fun i hi q => ?_, fun i hi => ?_⟩
        · rw [bt_orp (by omega) (bt_lt32 q), q, Bool.true_or]
        · by_cases w : k = j
          · subst w
            have : b = a := (nI_eq (by omega) (by omega)).mp (e2.symm.trans e)
            subst this
            refine g1 b ?_
            rw [bt_orp (by omega) (by omega), decide_eq_true rfl, Bool.or_true]
          · exact g2 k b (by omega) hb e2 q
        · rcases g3 i hi q with w | ⟨k, w1, w2, w3, w4⟩
          · rw [bt_orp (by omega) hi] at w
            rcases Bool.or_eq_true _ _ |>.mp w with w | w
            · exact Or.inl w
            · have w := of_decide_eq_true w
              subst w
              exact Or.inr ⟨j, ha, by omega, e, hj2⟩
          · exact Or.inr ⟨k, w1, by omega, w3, w4⟩
        · rw [g4 i (by omega)]
          rcases Nat.lt_or_ge i 32 with w | w
          · rw [bt_orp (by omega) w, decide_eq_false (by omega), Bool.or_false]
          · rw [b_big w, b_big w]
    · rw [if_neg c, if_pos rfl]
      exact same (fun a _ _ => by simpa using c)
theorem RS_an2 {co ti an : Nat → Int32} {n : Nat} {ea : Int32} {b : Nat → Int32} (h : RS co ti an n ea b) : ∀ k, k < n → an k = (-1 : Int32) ∨ ∃ a, a < k ∧ an k = nI a := fun k hk => by
  rcases RS_an h hk with ⟨q, -⟩ | ⟨a, ha, q, -⟩
  · exact Or.inl q
  · exact Or.inr ⟨a, ha, q⟩
/-- the set with all that it hangs on -/
theorem wa_P {co ti an : Nat → Int32} {n : Nat} {ea : Int32} {b : Nat → Int32} (h : RS co ti an n ea b) {se : Int32} (hse : ∀ i, n ≤ i → i < 32 → bt se i = false) : (∀ i, bt se i = true → bt (fX2_withAnchors n an se) i = true) ∧ (∀ k a, k < n → a < k → an k = nI a → bt (fX2_withAnchors n an se) k = true → bt (fX2_withAnchors n an se) a = true) ∧ (∀ i, i < 32 → bt (fX2_withAnchors n an se) i = true → bt se i = true ∨ ∃ k, i < k ∧ k < n ∧ an k = nI i ∧ bt (fX2_withAnchors n an se) k = true) ∧ (∀ i, n ≤ i → i < 32 → bt (fX2_withAnchors n an se) i = false) := by
  obtain ⟨g1, g2, g3, g4⟩ := wa_L9 h.1 (RS_an2 h) n se (Nat.le_refl _)
  exact ⟨g1, g2, g3, fun i h1 h2 => (g4 i h1).trans (hse i h1 h2)⟩
/-- a pull leaves the set alone just where the stitch is none that the set hangs on -/
theorem thr_wa {co ti an : Nat → Int32} {n : Nat} {ea : Int32} {b : Nat → Int32} (h : RS co ti an n ea b) {se : Int32} (hse : ∀ i, n ≤ i → i < 32 → bt se i = false) {t : Nat} (ht : t < n) : (fX6_threadOf b t &&& se) = 0 ↔ bt (fX2_withAnchors n an se) t = false := by
  have hm := RS_mN h
  have hn := h.1
  obtain ⟨t1, t2, t3, t4⟩ := thr_P (RS_kI h) (show t < mN b by omega)
  rw [hm] at t3 t4
  obtain ⟨u1, u2, u3, u4⟩ := wa_P h hse
  have anc : ∀ k a, k < n → a < k → b (48 + k) = nI a → an k = nI a := fun k a hk ha e => by
    rcases RS_an h hk with ⟨-, q⟩ | ⟨a', ha', q, q2⟩
    · exact absurd (e.symm.trans q) (nI_m6 (by omega))
    · rw [q, ← e, q2]
  have anc2 : ∀ k a, k < n → a < k → an k = nI a → b (48 + k) = nI a := fun k a hk ha e => by
    rcases RS_an h hk with ⟨q, -⟩ | ⟨a', ha', q, q2⟩
    · exact absurd (show nI a < 0 by rw [← e, q]; decide) (nI_pos (by omega))
    · rw [q2, ← e, q]
  constructor
  · intro h0
    cases hu : bt (fX2_withAnchors n an se) t with
    | false => rfl
    | true =>
      exfalso
      have up : ∀ d i, n - i ≤ d → i < n → bt (fX6_threadOf b t) i = true → bt (fX2_withAnchors n an se) i = true → ∃ k, bt (fX6_threadOf b t) k = true ∧ bt se k = true := by
        intro d
        induction d with
        | zero => intro i hd hi; omega
        | succ d ih =>
          intro i hd hi q1 q2
          rcases u3 i (by omega) q2 with w | ⟨k, w1, w2, w3, w4⟩
          · exact ⟨i, q1, w⟩
          · have hik : t < k := by
              rcases Nat.lt_or_ge i t with g | g
              · rw [t2 i g] at q1; cases q1
              · omega
            exact ih k (by omega) w2 ((t4 k hik w2).mpr ⟨i, w1, anc2 k i w2 w1 w3, q1⟩) w4
      obtain ⟨k, q1, q2⟩ := up (n - t) t (Nat.le_refl _) ht t1 hu
      have q3 : bt (fX6_threadOf b t &&& se) k = false := by rw [h0]; exact b_0 k
      rw [b_and, q1, q2] at q3
      cases q3
  · intro hu
    have dn : ∀ d i, i ≤ d → bt (fX6_threadOf b t) i = true → bt (fX2_withAnchors n an se) i = false := by
      intro d
      induction d with
      | zero =>
        intro i hd q
        rcases Nat.lt_trichotomy i t with g | g | g
        · rw [t2 i g] at q; cases q
        · rw [g]; exact hu
        · omega
      | succ d ih =>
        intro i hd q
        rcases Nat.lt_trichotomy i t with g | g | g
        · rw [t2 i g] at q; cases q
        · rw [g]; exact hu
        · rcases Nat.lt_or_ge i n with hi | hi
          · obtain ⟨a, ha, e, q2⟩ := (t4 i g hi).mp q
            cases hb : bt (fX2_withAnchors n an se) i with
            | false => rfl
            | true =>
              have := u2 i a hi ha (anc i a hi ha e) hb
              rw [ih a (by omega) q2] at this
              cases this
          · rw [t3 i hi] at q; cases q
    refine b_ext (fun i hi => ?_)
    rw [b_and, b_0]
    cases q1 : bt (fX6_threadOf b t) i with
    | false => rfl
    | true =>
      cases q2 : bt se i with
      | false => rfl
      | true =>
        have := u1 i q2
        rw [dn i i (Nat.le_refl _) q1] at this
        cases this
theorem top_L7n {an : Nat → Int32} {un : Int32} {tp : Nat} (ht : tp < 24) : ∀ j, (∀ i, i < j → i < tp → ¬ (an tp = nI i ∧ bt un i = false)) → j ≤ tp → fX2_topOf_L7 an un j tp = tp := by
  intro j
  induction j with
  | zero => intro _ _; rfl
  | succ j ih =>
    intro h hj
    rw [fX2_topOf_L7, at_nI ht (by decide), isIn_bt (by omega)]
    have ih' := ih (fun i h1 h2 => h i (by omega) h2) (by omega)
    by_cases c : an tp = nI j
    · rw [if_pos c]
      by_cases c2 : bt un j = true
      · rw [if_pos c2, if_neg (by decide)]; exact ih'
      · exact absurd ⟨c, by simpa using c2⟩ (h j (by omega) (by omega))
    · rw [if_neg c]; exact ih'
theorem top_L7s {an : Nat → Int32} {un : Int32} {tp p : Nat} (ht : tp < 24) (hp : an tp = nI p) (hu : bt un p = false) : ∀ j, p < j → j ≤ tp → fX2_topOf_L7 an un j tp = fX2_topOf_L7 an un p p := by
  intro j
  induction j with
  | zero => intro h; exact absurd h (Nat.not_lt_zero p)
  | succ j ih =>
    intro h hj
    rw [fX2_topOf_L7, at_nI ht (by decide), isIn_bt (by omega)]
    by_cases c : p = j
    · subst c
      rw [if_pos hp, hu, if_neg (show ¬ (false = true) by decide), if_pos rfl]
    · rw [if_neg (fun q => c ((nI_eq (by omega) (by omega)).mp (hp.symm.trans q)))]
      exact ih (by omega) (by omega)
theorem top_le (an : Nat → Int32) (un : Int32) : ∀ j tp, j ≤ tp → fX2_topOf_L7 an un j tp ≤ tp := by
  intro j
  induction j with
  | zero => intro tp _; exact Nat.le_refl _
  | succ j ih =>
    intro tp hj
    rw [fX2_topOf_L7]
    have h1 := ih j (Nat.le_refl _)
    have h2 := ih tp (by omega)
    split
    · split
      · omega
      · exact h2
    · exact h2
/-- the reference's way down, where all is untouchable -/
theorem ref_in {co ti an : Nat → Int32} {n : Nat} {ea : Int32} {b : Nat → Int32} (h : RS co ti an n ea b) {sy : Int32} (hse : ∀ i, n ≤ i → i < 32 → bt sy i = false) : ∀ (f t : Nat) (tp : Int32), t < f → t < n → bt (fX2_withAnchors n an sy) t = true → (fX6_pulls_L84 sy b f tp (nI t)).1 = tp := by
  have hn := h.1
  obtain ⟨u1, u2, u3, u4⟩ := wa_P h hse
  intro f
  induction f with
  | zero => intro t tp ht; exact absurd ht (Nat.not_lt_zero t)
  | succ f ih =>
    intro t tp ht htn hu
    rw [fX6_pulls_L84, if_neg (nI_pos (by omega)), nI_clamp (by omega), if_neg (fun q => by rw [(thr_wa h hse htn).mp q] at hu; cases hu)]
    rcases RS_an h htn with ⟨q1, q2⟩ | ⟨a, ha, q1, q2⟩
    · rw [q2]
      cases f with
      | zero => rfl
      | succ f => rw [fX6_pulls_L84, if_pos (by decide)]
    · rw [q2]
      exact ih a tp (by omega) (by omega) (u2 t a htn ha q1 hu)
/-- and where it isn't -/
theorem ref_out {co ti an : Nat → Int32} {n : Nat} {ea : Int32} {b : Nat → Int32} (h : RS co ti an n ea b) {sy : Int32} (hse : ∀ i, n ≤ i → i < 32 → bt sy i = false) : ∀ (f t : Nat) (tp : Int32), t < f → t < n → bt (fX2_withAnchors n an sy) t = false → (fX6_pulls_L84 sy b f tp (nI t)).1 = nI (fX2_topOf_L7 an (fX2_withAnchors n an sy) t t) := by
  have hn := h.1
  intro f
  induction f with
  | zero => intro t tp ht; exact absurd ht (Nat.not_lt_zero t)
  | succ f ih =>
    intro t tp ht htn hu
    rw [fX6_pulls_L84, if_neg (nI_pos (by omega)), nI_clamp (by omega), if_pos ((thr_wa h hse htn).mpr hu)]
    rcases RS_an h htn with ⟨q1, q2⟩ | ⟨a, ha, q1, q2⟩
    · rw [q2, top_L7n (by omega) t (fun i h1 h2 q => nI_pos (n := i) (by omega) (by rw [← q.1, q1]; decide)) (Nat.le_refl _)]
      cases f with
      | zero => rfl
      | succ f => rw [fX6_pulls_L84, if_pos (by decide)]
    · rw [q2]
      cases hb : bt (fX2_withAnchors n an sy) a with
      | false =>
        rw [ih a _ (by omega) (by omega) hb, top_L7s (by omega) q1 hb t ha (Nat.le_refl _)]
      | true =>
        rw [ref_in h hse f a _ (by omega) (by omega) hb, top_L7n (by omega) t (fun i h1 h2 q => ?_) (Nat.le_refl _)]
        have : a = i := (nI_eq (by omega) (by omega)).mp (q1.symm.trans q.1)
        subst this
        rw [hb] at q
        exact absurd q.2 (by decide)
theorem tops_hi {an : Nat → Int32} {go un : Int32} {n : Nat} (hn : n ≤ 24) : ∀ (r j : Nat) (se : Int32), r + j = n → (∀ i, n ≤ i → i < 32 → bt se i = false) → ∀ i, n ≤ i → i < 32 → bt (fX2_topmostBelow_L5 an go un r j se) i = false := by
  intro r
  induction r with
  | zero => intro j se hr h; exact h
  | succ r ih =>
    intro j se hr h i h1 h2
    rw [fX2_topmostBelow_L5]
    split
    · exact ih _ _ (by omega) h i h1 h2
    · refine ih _ _ (by omega) (fun i h1 h2 => ?_) i h1 h2
      have e : fX2_topOf an j un = fX2_topOf_L7 an un j j := rfl
      have hle := top_le an un j j (Nat.le_refl _)
      rw [e, bt_orp (by omega) h2, h i h1 h2, decide_eq_false (by omega)]
      rfl
theorem pulls_ok {co ti an : Nat → Int32} {n : Nat} {ea : Int32} {b : Nat → Int32} (h : RS co ti an n ea b) {go sy wh : Int32} {Tb : Int32} (hse : ∀ i, n ≤ i → i < 32 → bt sy i = false) (hno : ∀ i, i < n → bt go i = true → bt (fX2_withAnchors n an sy) i = false) : ∀ (r j : Nat) (se : Int32), r + j = n → fX6_pulls_L55 go sy wh b Tb r j se = (if wh = (1 : Int32) then (fX2_topmostBelow_L5 an go (fX2_withAnchors n an sy) r j se, b, Tb) else (fX6_bits (fX2_topmostBelow_L5 an go (fX2_withAnchors n an sy) r j se), b, Tb)) := by
  have hn := h.1
  intro r
  induction r with
  | zero => intro j se hr; rw [fX6_pulls_L55, fX2_topmostBelow_L5]
  | succ r ih =>
    intro j se hr
    rw [fX6_pulls_L55, fX2_topmostBelow_L5, isIn_bt (by omega), has_bt (by omega)]
    by_cases c : bt go j = true
    · rw [if_pos c, if_neg (show ¬ (1 : Int32) = 0 by decide), if_neg (show ¬ (1 : Int32) = 0 by decide)]
      have ho := ref_out h hse (j + 1) j (-6 : Int32) (by omega) (by omega) (hno j (by omega) c)
      generalize fX6_pulls_L84 sy b (j + 1) (-6 : Int32) (nI j) = T at ho ⊢
      obtain ⟨T1, T2⟩ := T
      dsimp only at ho ⊢
      subst ho
      have hle := top_le an (fX2_withAnchors n an sy) j j (Nat.le_refl _)
      rw [if_pos (nI_pos' (by omega))]
      exact ih (j + 1) _ (by omega)
    · rw [if_neg c, if_pos rfl, if_pos rfl]
      exact ih (j + 1) _ (by omega)
theorem pulls_no {co ti an : Nat → Int32} {n : Nat} {ea : Int32} {b : Nat → Int32} (h : RS co ti an n ea b) {go sy wh : Int32} {Tb : Int32} (hse : ∀ i, n ≤ i → i < 32 → bt sy i = false) : ∀ (r j : Nat) (se : Int32), r + j = n → (∃ s, j ≤ s ∧ s < n ∧ bt go s = true ∧ bt (fX2_withAnchors n an sy) s = true) → fX6_pulls_L55 go sy wh b Tb r j se = ((-6 : Int32), b, Tb) := by
  have hn := h.1
  intro r
  induction r with
  | zero => intro j se hr hs; obtain ⟨s, h1, h2, -⟩ := hs; omega
  | succ r ih =>
    intro j se hr hs
    obtain ⟨s, h1, h2, h3, h4⟩ := hs
    rw [fX6_pulls_L55, has_bt (by omega)]
    by_cases c : bt go j = true
    · rw [if_pos c, if_neg (by decide)]
      cases hb : bt (fX2_withAnchors n an sy) j with
      | true =>
        have ho := ref_in h hse (j + 1) j (-6 : Int32) (by omega) (by omega) hb
        generalize fX6_pulls_L84 sy b (j + 1) (-6 : Int32) (nI j) = T at ho ⊢
        obtain ⟨T1, T2⟩ := T
        dsimp only at ho ⊢
        subst ho
        rw [if_neg (by decide)]
      | false =>
        have ho := ref_out h hse (j + 1) j (-6 : Int32) (by omega) (by omega) hb
        generalize fX6_pulls_L84 sy b (j + 1) (-6 : Int32) (nI j) = T at ho ⊢
        obtain ⟨T1, T2⟩ := T
        dsimp only at ho ⊢
        subst ho
        have hle := top_le an (fX2_withAnchors n an sy) j j (Nat.le_refl _)
        rw [if_pos (nI_pos' (by omega))]
        refine ih _ _ (by omega) ⟨s, ?_, h2, h3, h4⟩
        rcases Nat.eq_or_lt_of_le h1 with q | q
        · subst q; rw [hb] at h4; cases h4
        · exact q
    · rw [if_neg c, if_pos rfl]
      refine ih _ _ (by omega) ⟨s, ?_, h2, h3, h4⟩
      rcases Nat.eq_or_lt_of_le h1 with q | q
      · subst q; exact absurd h3 c
      · exact q
theorem m_pulls {co ti an : Nat → Int32} {n : Nat} {ea ud : Int32} {bk nw : Nat → Int32} (iS : RS co ti an n ea bk) (hJ : kx_I nw) (a1 a2 a3 : Int32) {r : Int32 × (Nat → Int32) × Int32} (hr : fX6_pulls ud bk nw a1 a2 a3 = r) : fX5_pulls n an a1 a2 a3 = r.1 ∧ kx_I r.2.1 := by
  have hn := iS.1
  have hm := RS_mN iS
  have hb : fX5_isBelow a3 (2 : Int32) = fX6_in a3 (0 : Int32) (1 : Int32) := below_in a3 (b := 1) (by decide)
  unfold fX6_pulls at hr
  unfold fX5_pulls
  rw [hm] at hr
  rw [hb]
  have g1 := hasAll_eq hn a1
  have g2 := hasAll_eq hn a2
  by_cases c1 : fX2_hasAll n a1 = 0
  · rw [if_neg (g1.mp c1)] at hr
    rw [if_pos c1]
    subst hr
    exact ⟨rfl, hJ⟩
  · have c1' : (a1 &&& ((((1 : Int32) <<< ((nI n) &&& 31)) - (1 : Int32)) ^^^ (-1 : Int32))) = 0 := Decidable.byContradiction (fun q => c1 (g1.mpr q))
    rw [if_pos c1'] at hr
    rw [if_neg c1]
    by_cases c2 : fX2_hasAll n a2 = 0
    · rw [if_neg (g2.mp c2)] at hr
      rw [if_pos c2]
      subst hr
      exact ⟨rfl, hJ⟩
    · have c2' : (a2 &&& ((((1 : Int32) <<< ((nI n) &&& 31)) - (1 : Int32)) ^^^ (-1 : Int32))) = 0 := Decidable.byContradiction (fun q => c2 (g2.mpr q))
      rw [if_pos c2'] at hr
      rw [if_neg c2]
      by_cases c3 : fX6_in a3 (0 : Int32) (1 : Int32) = 0
      · rw [if_pos c3] at hr
        rw [if_pos c3]
        subst hr
        exact ⟨rfl, hJ⟩
      · rw [if_neg c3] at hr
        rw [if_neg c3]
        have s1 := (all_iff2 hn).mp c1'
        have s2 := (all_iff2 hn).mp c2'
        have iN := RS_now (nw := nw) iS
        have hmN := RS_mN iN
        generalize fX6_asNow bk nw = T at hr iN hmN
        obtain ⟨Ta, Tb⟩ := T
        dsimp only at hr iN hmN
        rw [hmN] at hr
        obtain ⟨u1, u2, u3, u4⟩ := wa_P iN s2
        by_cases c4 : (a1 &&& fX2_withAnchors n an a2) = 0
        · rw [if_pos c4]
          have hno : ∀ i, i < n → bt a1 i = true → bt (fX2_withAnchors n an a2) i = false := fun i hi q => by
            have q2 : bt (a1 &&& fX2_withAnchors n an a2) i = false := by rw [c4]; exact b_0 i
            rw [b_and, q, Bool.true_and] at q2
            exact q2
          rw [pulls_ok iN s2 hno n 0 0 rfl] at hr
          have e : fX2_topmostBelow n an a1 (fX2_withAnchors n an a2) = fX2_topmostBelow_L5 an a1 (fX2_withAnchors n an a2) n 0 (0 : Int32) := rfl
          have hh := tops_hi (an := an) (go := a1) (un := fX2_withAnchors n an a2) hn n 0 (0 : Int32) rfl (fun i _ _ => b_0 i)
          rw [e]
          obtain ⟨j, hj, e3⟩ := in_ok (b := 1) (by decide) c3
          rcases (show j = 0 ∨ j = 1 by omega) with rfl | rfl
          · rw [if_neg (by rw [e3]; decide)] at hr
            rw [if_pos (by rw [e3]; decide)]
            subst hr
            exact ⟨pcN_bits (fun i h1 h2 => hh i (by omega) h2), RS_kI iN⟩
          · rw [if_pos (by rw [e3]; decide)] at hr
            rw [if_neg (by rw [e3]; decide)]
            subst hr
            exact ⟨rfl, RS_kI iN⟩
        · rw [if_neg c4]
          have hex : ∃ s, 0 ≤ s ∧ s < n ∧ bt a1 s = true ∧ bt (fX2_withAnchors n an a2) s = true := by
            refine Classical.byContradiction (fun q => c4 (b_ext (fun i hi => ?_)))
            rw [b_and, b_0]
            cases q1 : bt a1 i with
            | false => rfl
            | true =>
              cases q2 : bt (fX2_withAnchors n an a2) i with
              | false => rfl
              | true =>
                rcases Nat.lt_or_ge i n with g | g
                · exact absurd ⟨i, Nat.zero_le _, g, q1, q2⟩ q
                · rw [s1 i g hi] at q1; cases q1
          rw [pulls_no iN s2 n 0 0 rfl hex] at hr
          subst hr
          exact ⟨rfl, RS_kI iN⟩
