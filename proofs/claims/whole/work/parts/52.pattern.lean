/-! patterns and holes -/
theorem mod_sub {s j p : Nat} (h : s ≤ j) : (j - s) % p = 0 ↔ j % p = s % p := by
  constructor
  · intro q
    have e : j = s + p * ((j - s) / p) := by
      have := Nat.div_add_mod (j - s) p
      omega
    rw [e, Nat.add_mul_mod_self_left]
  · intro q
    exact Nat.sub_mod_eq_zero_of_mod_eq q
theorem neg_rem : ∀ p, p < 25 → ∀ d, d < 25 → 1 ≤ p → ((nI 0 - nI d) - (nI 0 - nI d) / nI p * nI p = 0 ↔ d % p = 0) := by decide +kernel
theorem rem_iff {j s p : Nat} (hj : j < 25) (hs : s < 25) (hp : p < 25) (h1 : 1 ≤ p) : ((nI j - nI s) - (nI j - nI s) / nI p * nI p = 0 ↔ j % p = s % p) := by
  rcases Nat.le_total s j with c | c
  · rw [pk_sub c, pk_rem (by omega) (by omega) (by omega), ← mod_sub c]
    exact nI_eq (b := 0) (by have := Nat.mod_lt (j - s) (show p > 0 by omega); omega) (by decide)
  · have e : nI j - nI s = nI 0 - nI (s - j) := by
      refine Int32.toInt_inj.mp ?_
      rw [pk_sub_toInt (by omega) (by omega), pk_sub_toInt (by decide) (by omega)]
      omega
    rw [e, neg_rem p hp (s - j) (by omega) h1, mod_sub c]
    exact eq_comm
/-- a pattern of length p fits -/
def Fit (co : Nat → Int32) (n : Nat) (ea : Int32) (p : Nat) : Prop := ∀ i k, i < k → k < n → i % p = k % p → bt ea i = false → bt ea k = false → co i = co k
theorem alike_iff {ea : Int32} {i k p : Nat} (hi : i < 24) (hk : k < 24) (hp : p < 25) (h1 : 1 ≤ p) : (fX2_areAlike ea (nI i) (nI k) (nI p) = 0 ↔ ¬ (i % p = k % p ∧ bt ea i = false ∧ bt ea k = false)) := by
  unfold fX2_areAlike
  rw [if_neg (show ¬ nI p ≤ 0 from fun q => by have := (nI_leI (b := 0) (show p < 2 ^ 31 by omega) (by decide)).mp q; omega), isEaten_bt (by omega), isEaten_bt (by omega)]
  by_cases c : i % p = k % p
  · rw [if_pos ((rem_iff (by omega) (by omega) hp h1).mpr c)]
    by_cases c1 : bt ea i = true
    · rw [if_pos c1, if_neg (by decide)]
      exact ⟨fun _ q => by rw [c1] at q; exact absurd q.2.1 (by decide), fun _ => rfl⟩
    · rw [if_neg c1, if_pos rfl]
      by_cases c2 : bt ea k = true
      · rw [if_pos c2, if_neg (by decide)]
        exact ⟨fun _ q => by rw [c2] at q; exact absurd q.2.2 (by decide), fun _ => rfl⟩
      · rw [if_neg c2, if_pos rfl]
        exact ⟨fun q => absurd q (by decide), fun q => absurd ⟨c, by simpa using c1, by simpa using c2⟩ q⟩
  · rw [if_neg (fun q => c ((rem_iff (by omega) (by omega) hp h1).mp q))]
    exact ⟨fun _ q => c q.1, fun _ => rfl⟩
theorem rep_L14 {ea : Int32} {co : Nat → Int32} {p n i : Nat} (hn : n ≤ 24) (hp : p < 25) (h1 : 1 ≤ p) (hi : i < n) (K : Int32) : ∀ (r j : Nat), r + j = n → (fX2_repeatsBy_L14 ea co (nI p) i K r j ≠ 0 ↔ K ≠ 0 ∧ ∀ k, j ≤ k → k < n → i % p = k % p → bt ea i = false → bt ea k = false → co i = co k) := by
  intro r
  induction r with
  | zero =>
    intro j hr
    rw [fX2_repeatsBy_L14]
    exact ⟨fun q => ⟨q, fun k g1 g2 => absurd g1 (by omega)⟩, fun q => q.1⟩
  | succ r ih =>
    intro j hr
    have hal := alike_iff (ea := ea) (show i < 24 by omega) (show j < 24 by omega) hp h1
    have cut : (∀ k, j ≤ k → k < n → i % p = k % p → bt ea i = false → bt ea k = false → co i = co k) ↔ (i % p = j % p → bt ea i = false → bt ea j = false → co i = co j) ∧ ∀ k, j + 1 ≤ k → k < n → i % p = k % p → bt ea i = false → bt ea k = false → co i = co k := by
      constructor
      · intro q; exact ⟨q j (Nat.le_refl _) (by omega), fun k g1 g2 => q k (by omega) g2⟩
      · intro q k g1 g2
        rcases Nat.eq_or_lt_of_le g1 with w | w
        · subst w; exact q.1
        · exact q.2 k w g2
    rw [fX2_repeatsBy_L14, at_nI (show i < 24 by omega) (by decide), at_nI (show j < 24 by omega) (by decide), cut]
    by_cases c : fX2_areAlike ea (nI i) (nI j) (nI p) = 0
    · rw [if_pos c, ih _ (by omega)]
      have c' := hal.mp c
      exact ⟨fun q => ⟨q.1, fun g1 g2 g3 => absurd ⟨g1, g2, g3⟩ c', q.2⟩, fun q => ⟨q.1, q.2.2⟩⟩
    · rw [if_neg c]
      have c' : i % p = j % p ∧ bt ea i = false ∧ bt ea j = false := Classical.byContradiction (fun q => c (hal.mpr q))
      by_cases d : co i = co j
      · rw [if_pos d, ih _ (by omega)]
        exact ⟨fun q => ⟨q.1, fun _ _ _ => d, q.2⟩, fun q => ⟨q.1, q.2.2⟩⟩
      · rw [if_neg d]
        exact ⟨fun q => absurd rfl q, fun q => absurd (q.2.1 c'.1 c'.2.1 c'.2.2) d⟩
theorem rep_L2 {ea : Int32} {co : Nat → Int32} {p n : Nat} (hn : n ≤ 24) (hp : p < 25) (h1 : 1 ≤ p) : ∀ (r j : Nat), r + j = n → (fX2_repeatsBy_L2 n ea co (nI p) r j ≠ 0 ↔ ∀ i k, j ≤ i → i < k → k < n → i % p = k % p → bt ea i = false → bt ea k = false → co i = co k) := by
  intro r
  induction r with
  | zero =>
    intro j hr
    rw [fX2_repeatsBy_L2]
    exact ⟨fun _ i k g1 g2 g3 => absurd g1 (by omega), fun _ => by decide⟩
  | succ r ih =>
    intro j hr
    rw [fX2_repeatsBy_L2, rep_L14 hn hp h1 (show j < n by omega) _ (n - (j + 1)) (j + 1) (by omega), ih _ (by omega)]
    constructor
    · rintro ⟨q1, q2⟩ i k g1 g2 g3
      rcases Nat.eq_or_lt_of_le g1 with w | w
      · subst w; exact q2 k (by omega) g3
      · exact q1 i k w g2 g3
    · intro q
      exact ⟨fun i k g1 g2 g3 => q i k (by omega) g2 g3, fun k g1 g2 => q j k (Nat.le_refl _) (by omega) g2⟩
theorem rep_Fit {ea : Int32} {co : Nat → Int32} {p n : Nat} (hn : n ≤ 24) (hp : p < 25) (h1 : 1 ≤ p) : fX2_repeatsBy n ea co (nI p) ≠ 0 ↔ Fit co n ea p := by
  have h := rep_L2 (ea := ea) (co := co) hn hp h1 n 0 rfl
  exact ⟨fun q i k g1 g2 => h.mp q i k (Nat.zero_le _) g1 g2, fun q => h.mpr (fun i k _ g1 g2 => q i k g1 g2)⟩
theorem mod_step {i k p : Nat} (h : i < k) (e : k % p = i % p) : i + p ≤ k := by
  have h1 := (mod_sub (p := p) (Nat.le_of_lt h)).mpr e
  rcases Nat.lt_or_ge (k - i) p with c | c
  · rw [Nat.mod_eq_of_lt c] at h1; omega
  · omega
/-- the reference's look at one stitch's likes -/
theorem ref_L43 {co ti an : Nat → Int32} {n : Nat} {ea : Int32} {b : Nat → Int32} (h : RS co ti an n ea b) {pp i : Nat} (hi : i < n) : ∀ (r j : Nat) (f : Int32), n ≤ j + r → (fX6_patternOf_L43 b pp i r j f ≠ 0 ↔ f ≠ 0 ∧ ∀ k, j ≤ k → k < n → k % (pp + 1) = j % (pp + 1) → bt ea i = false → bt ea k = false → co i = co k) := by
  have hm := RS_mN h
  intro r
  induction r with
  | zero =>
    intro j f hr
    rw [fX6_patternOf_L43]
    exact ⟨fun q => ⟨q, fun k g1 g2 => absurd g1 (by omega)⟩, fun q => q.1⟩
  | succ r ih =>
    intro j f hr
    rw [fX6_patternOf_L43, hm]
    by_cases hj : n ≤ j
    · rw [if_pos hj]
      exact ⟨fun q => ⟨q, fun k g1 g2 => absurd g1 (by omega)⟩, fun q => q.1⟩
    · rw [if_neg hj]
      have cut : (∀ k, j ≤ k → k < n → k % (pp + 1) = j % (pp + 1) → bt ea i = false → bt ea k = false → co i = co k) ↔ (bt ea i = false → bt ea j = false → co i = co j) ∧ ∀ k, j + (pp + 1) ≤ k → k < n → k % (pp + 1) = (j + (pp + 1)) % (pp + 1) → bt ea i = false → bt ea k = false → co i = co k := by
        rw [Nat.add_mod_right]
        constructor
        · intro q; exact ⟨q j (Nat.le_refl _) (by omega) rfl, fun k g1 g2 => q k (by omega) g2⟩
        · intro q k g1 g2 g3
          rcases Nat.eq_or_lt_of_le g1 with w | w
          · subst w; exact q.1
          · exact q.2 k (mod_step w g3) g2 g3
      rw [cut]
      by_cases cf : f = 0
      · rw [if_pos cf, ih _ _ (by omega)]
        exact ⟨fun q => absurd rfl q.1, fun q => absurd cf q.1⟩
      · rw [if_neg cf]
        by_cases c1 : b (72 + i) = (1 : Int32)
        · rw [if_pos c1, ih _ _ (by omega)]
          have c1' := (RS_eq721 h hi).mp c1
          exact ⟨fun q => ⟨cf, fun g => (by rw [c1'] at g; cases g), q.2⟩, fun q => ⟨by decide, q.2.2⟩⟩
        · rw [if_neg c1]
          have c1' : bt ea i = false := by
            cases hb : bt ea i with
            | false => rfl
            | true => exact absurd ((RS_eq721 h hi).mpr hb) c1
          by_cases c2 : b (72 + j) = (1 : Int32)
          · rw [if_pos c2, ih _ _ (by omega)]
            have c2' := (RS_eq721 h (show j < n by omega)).mp c2
            exact ⟨fun q => ⟨cf, fun _ g => (by rw [c2'] at g; cases g), q.2⟩, fun q => ⟨by decide, q.2.2⟩⟩
          · rw [if_neg c2]
            have c2' : bt ea j = false := by
              cases hb : bt ea j with
              | false => rfl
              | true => exact absurd ((RS_eq721 h (show j < n by omega)).mpr hb) c2
            have e1 := (RS_at h hi).1
            have e2 := (RS_at h (show j < n by omega)).1
            by_cases c3 : b i = b j
            · rw [if_pos c3, ih _ _ (by omega)]
              exact ⟨fun q => ⟨cf, fun _ _ => by rw [e1, e2, c3], q.2⟩, fun q => ⟨by decide, q.2.2⟩⟩
            · rw [if_neg c3, ih _ _ (by omega)]
              exact ⟨fun q => absurd rfl q.1, fun q => absurd (by rw [← e1, ← e2]; exact q.2.1 c1' c2') c3⟩
theorem ref_L27 {co ti an : Nat → Int32} {n : Nat} {ea : Int32} {b : Nat → Int32} (h : RS co ti an n ea b) {pp : Nat} : ∀ (r j : Nat) (f : Int32), r + j = n → (fX6_patternOf_L27 b pp r j f ≠ 0 ↔ f ≠ 0 ∧ ∀ i k, j ≤ i → i < k → k < n → i % (pp + 1) = k % (pp + 1) → bt ea i = false → bt ea k = false → co i = co k) := by
  have hm := RS_mN h
  intro r
  induction r with
  | zero =>
    intro j f hr
    rw [fX6_patternOf_L27]
    exact ⟨fun q => ⟨q, fun i k g1 g2 g3 => absurd g1 (by omega)⟩, fun q => q.1⟩
  | succ r ih =>
    intro j f hr
    rw [fX6_patternOf_L27]
    dsimp only
    rw [ih _ _ (by omega), hm, ref_L43 h (show j < n by omega) n _ _ (by omega), Nat.add_mod_right]
    constructor
    · rintro ⟨⟨q0, q1⟩, q2⟩
      refine ⟨q0, fun i k g1 g2 g3 g4 => ?_⟩
      rcases Nat.eq_or_lt_of_le g1 with w | w
      · subst w; exact q1 k (mod_step g2 g4.symm) g3 g4.symm
      · exact q2 i k w g2 g3 g4
    · rintro ⟨q0, q⟩
      exact ⟨⟨q0, fun k g1 g2 g3 => q j k (Nat.le_refl _) (by omega) g2 g3.symm⟩, fun i k g1 g2 g3 => q i k (by omega) g2 g3⟩
theorem ref_Fit {co ti an : Nat → Int32} {n : Nat} {ea : Int32} {b : Nat → Int32} (h : RS co ti an n ea b) {pp : Nat} : fX6_patternOf_L27 b pp (mN b) 0 (1 : Int32) ≠ 0 ↔ Fit co n ea (pp + 1) := by
  rw [RS_mN h, ref_L27 h n 0 1 rfl]
  exact ⟨fun q i k g1 g2 => q.2 i k (Nat.zero_le _) g1 g2, fun q => ⟨by decide, fun i k _ g1 g2 => q i k g1 g2⟩⟩
theorem pat_lock {co ti an : Nat → Int32} {n : Nat} {ea : Int32} {b : Nat → Int32} (h : RS co ti an n ea b) : ∀ (r pp : Nat), (r + 1) + pp = n → fX2_shortestPattern_L2 n ea co r (pp + 1) = nI (fX6_patternOf_L16 b (r + 1) pp (0 : Int32)) ∧ Fit co n ea (fX6_patternOf_L16 b (r + 1) pp (0 : Int32)) := by
  have hn := h.1
  have hm := RS_mN h
  intro r
  induction r with
  | zero =>
    intro pp hr
    rw [fX2_shortestPattern_L2, fX6_patternOf_L16, if_pos rfl]
    dsimp only
    rw [fX6_patternOf_L16]
    refine ⟨by rw [← hr]; exact congrArg nI (by omega), ?_⟩
    intro i k g1 g2 g3
    have := mod_step g1 g3.symm
    omega
  | succ r ih =>
    intro pp hr
    have hR := rep_Fit (ea := ea) (co := co) hn (show pp + 1 < 25 by omega) (by omega)
    have hF := ref_Fit (pp := pp) h
    rw [fX2_shortestPattern_L2, fX6_patternOf_L16, if_pos rfl]
    dsimp only
    by_cases c : Fit co n ea (pp + 1)
    · rw [if_neg (hR.mpr c)]
      have hne := hF.mpr c
      rw [fX6_patternOf_L16, if_neg hne]
      exact ⟨rfl, c⟩
    · rw [if_pos (Classical.byContradiction (fun q => c (hR.mp q)))]
      have e : fX6_patternOf_L27 b pp (mN b) 0 (1 : Int32) = 0 := Classical.byContradiction (fun q => c (hF.mp q))
      rw [e]
      exact ih (pp + 1) (by omega)
theorem pat_eq {co ti an : Nat → Int32} {n : Nat} {ea : Int32} {b : Nat → Int32} (h : RS co ti an n ea b) : fX2_shortestPattern n ea co = nI (fX6_patternOf b) ∧ (0 < n → Fit co n ea (fX6_patternOf b)) := by
  have hm := RS_mN h
  unfold fX2_shortestPattern fX6_patternOf
  rw [hm]
  by_cases c : n = 0
  · rw [if_pos c, c]
    exact ⟨rfl, fun q => absurd q (by decide)⟩
  · rw [if_neg c]
    obtain ⟨r, rfl⟩ : ∃ r, n = r + 1 := ⟨n - 1, by omega⟩
    obtain ⟨h1, h2⟩ := pat_lock h r 0 rfl
    exact ⟨h1, fun _ => h2⟩
theorem m_pattern {co ti an : Nat → Int32} {n : Nat} {ea : Int32} {b : Nat → Int32} (h : RS co ti an n ea b) : fX5_pattern n ea co = fX6_pattern b := (pat_eq h).1
/-- the likes of a hole, in the class -/
theorem hole_L7 {co : Nat → Int32} {n : Nat} {ea : Int32} {s p : Nat} (hn : n ≤ 24) (hs : s < n) (hp : fX2_shortestPattern n ea co = nI p) (h1 : 1 ≤ p) (h2 : p ≤ n) : ∀ (r j : Nat), r + j = n → (fX2_coloursOfHole_L7 n ea co (nI s) r j = (15 : Int32) ∧ ∀ k, j ≤ k → k < n → k % p = s % p → bt ea k = true) ∨ ∃ k, j ≤ k ∧ k < n ∧ k % p = s % p ∧ bt ea k = false ∧ fX2_coloursOfHole_L7 n ea co (nI s) r j = ((1 : Int32) <<< (co k &&& 31)) := by
  intro r
  induction r with
  | zero =>
    intro j hr
    exact Or.inl ⟨by rw [fX2_coloursOfHole_L7], fun k g1 g2 => absurd g1 (by omega)⟩
  | succ r ih =>
    intro j hr
    have skip : (j % p = s % p → bt ea j = true) → (fX2_coloursOfHole_L7 n ea co (nI s) r (j + 1) = (15 : Int32) ∧ ∀ k, j ≤ k → k < n → k % p = s % p → bt ea k = true) ∨ ∃ k, j ≤ k ∧ k < n ∧ k % p = s % p ∧ bt ea k = false ∧ fX2_coloursOfHole_L7 n ea co (nI s) r (j + 1) = ((1 : Int32) <<< (co k &&& 31)) := by
      intro hno
      rcases ih (j + 1) (by omega) with ⟨g1, g2⟩ | ⟨k, g1, g2⟩
      · refine Or.inl ⟨g1, fun k w1 w2 w3 => ?_⟩
        rcases Nat.eq_or_lt_of_le w1 with w | w
        · subst w; exact hno w3
        · exact g2 k w w2 w3
      · exact Or.inr ⟨k, by omega, g2⟩
    rw [fX2_coloursOfHole_L7, hp, if_neg (show ¬ nI p ≤ 0 from fun q => by have := (nI_leI (b := 0) (show p < 2 ^ 31 by omega) (by decide)).mp q; omega), isEaten_bt (by omega), at_nI (show j < 24 by omega) (by decide)]
    by_cases c : j % p = s % p
    · rw [if_pos ((rem_iff (by omega) (by omega) (by omega) h1).mpr c)]
      by_cases c2 : bt ea j = true
      · rw [if_pos c2, if_neg (by decide)]
        exact skip (fun _ => c2)
      · rw [if_neg c2, if_pos rfl]
        exact Or.inr ⟨j, Nat.le_refl _, by omega, c, by simpa using c2, rfl⟩
    · rw [if_neg (fun q => c ((rem_iff (by omega) (by omega) (by omega) h1).mp q))]
      exact skip (fun q => absurd q c)
/-- and in the reference: none is whole -/
theorem hole_none {co ti an : Nat → Int32} {n : Nat} {ea : Int32} {b : Nat → Int32} (h : RS co ti an n ea b) {p : Nat} (hp : fX6_patternOf b = p) : ∀ (r j : Nat) (es : Int32), (∀ k, j ≤ k → k < n → k % p = j % p → bt ea k = true) → fX6_hole_L37 b r j es = es := by
  have hm := RS_mN h
  intro r
  induction r with
  | zero => intro j es _; rw [fX6_hole_L37]
  | succ r ih =>
    intro j es hno
    rw [fX6_hole_L37, hm, hp]
    by_cases c : n ≤ j
    · rw [if_pos c]
    · have w2 := hno j (Nat.le_refl _) (by omega) rfl
      rw [if_neg c, if_neg (fun q => by rw [(RS_eq72 h (show j < n by omega)).mp q] at w2; cases w2), or_0]
      exact ih _ _ (fun k g1 g2 g3 => hno k (by omega) g2 (by rw [g3, Nat.add_mod_right]))
theorem or_idem (x y : Int32) : (x ||| y) ||| y = x ||| y := b_ext (fun i _ => by rw [b_or, b_or]; cases bt x i <;> cases bt y i <;> rfl)
/-- all that are whole are of one colour -/
theorem hole_one {co ti an : Nat → Int32} {n : Nat} {ea : Int32} {b : Nat → Int32} (h : RS co ti an n ea b) {p : Nat} (hp : fX6_patternOf b = p) (h1 : 1 ≤ p) {c : Int32} : ∀ (r j : Nat) (es : Int32), n ≤ j + r → (∀ k, j ≤ k → k < n → k % p = j % p → bt ea k = false → co k = c) → (∃ k, j ≤ k ∧ k < n ∧ k % p = j % p ∧ bt ea k = false) → fX6_hole_L37 b r j es = es ||| ((1 : Int32) <<< (c &&& 31)) := by
  have hm := RS_mN h
  intro r
  induction r with
  | zero => intro j es hr _ hex; obtain ⟨k, g1, g2, -⟩ := hex; omega
  | succ r ih =>
    intro j es hr hc hex
    obtain ⟨k, g1, g2, g3, g4⟩ := hex
    rw [fX6_hole_L37, hm, hp, if_neg (show ¬ n ≤ j by omega)]
    have hc2 : ∀ k, j + p ≤ k → k < n → k % p = (j + p) % p → bt ea k = false → co k = c := fun k w1 w2 w3 w4 => hc k (by omega) w2 (by rw [w3, Nat.add_mod_right]) w4
    by_cases e : bt ea j = true
    · rw [if_neg (fun q => by rw [(RS_eq72 h (show j < n by omega)).mp q] at e; cases e), or_0]
      refine ih _ _ (by omega) hc2 ⟨k, ?_, g2, by rw [g3, Nat.add_mod_right], g4⟩
      rcases Nat.eq_or_lt_of_le g1 with w | w
      · subst w; rw [e] at g4; cases g4
      · exact mod_step w g3
    · have e' : bt ea j = false := by simpa using e
      rw [if_pos ((RS_eq72 h (show j < n by omega)).mpr e'), ← (RS_at h (show j < n by omega)).1, hc j (Nat.le_refl _) (by omega) rfl e']
      by_cases hx : ∃ k, j + p ≤ k ∧ k < n ∧ k % p = (j + p) % p ∧ bt ea k = false
      · rw [ih _ _ (by omega) hc2 hx, or_idem]
      · exact hole_none h hp _ _ _ (fun k w1 w2 w3 => by
          cases hb : bt ea k with
          | true => rfl
          | false => exact absurd ⟨k, w1, w2, w3, hb⟩ hx)
theorem m_hole {co ti an : Nat → Int32} {n : Nat} {ea : Int32} {b : Nat → Int32} (h : RS co ti an n ea b) (a1 : Int32) : fX5_hole n ea co a1 = fX6_hole b a1 := by
  have hs := has_stitch h a1
  have hm := RS_mN h
  have hn := h.1
  unfold fX5_hole fX6_hole
  rw [← hs]
  by_cases c : fX2_has n a1 = 0
  · rw [if_pos c, if_pos c]
  · rw [if_neg c, if_neg c]
    obtain ⟨k1, k2⟩ := below_P (b := n) (by omega) c
    generalize a1.toNatClampNeg = s at k1 k2
    subst k1
    rw [isEaten_bt (by omega)]
    by_cases e : bt ea s = true
    · rw [if_pos e, if_neg (by decide), if_neg (fun q => by rw [(RS_eq72 h k2).mp q] at e; cases e)]
      dsimp only
      obtain ⟨p1, p2⟩ := pat_eq h
      obtain ⟨q1, q2⟩ := fX6_patternOf_lt (RS_kI h) (show 0 < mN b by omega)
      have hfit := p2 (by omega)
      rw [hm] at q2 ⊢
      generalize hp : fX6_patternOf b = p at p1 q1 q2 hfit
      have hsp : s % p < p := Nat.mod_lt _ (by omega)
      have hss : s % p ≤ s := Nat.mod_le _ _
      have e0 : fX2_coloursOfHole n ea co (nI s) = fX2_coloursOfHole_L7 n ea co (nI s) n 0 := rfl
      rw [e0]
      have low : ∀ k, k % p = s % p → s % p ≤ k := fun k q => by rw [← q]; exact Nat.mod_le _ _
      rcases hole_L7 hn k2 p1 q1 q2 n 0 rfl with ⟨g1, g2⟩ | ⟨k, g1, g2, g3, g4, g5⟩
      · rw [g1, hole_none h hp n (s % p) 0 (fun k w1 w2 w3 => g2 k (Nat.zero_le _) w2 (by rw [w3, Nat.mod_mod])), if_pos rfl]
      · rw [g5, hole_one h hp q1 (c := co k) n (s % p) 0 (by omega) (fun k' w1 w2 w3 w4 => ?_) ⟨k, low k g3, g2, by rw [g3, Nat.mod_mod], g4⟩]
        · obtain ⟨cc, hc, hce⟩ := (h.2.2.1 k g2).1.2
          have e3 : (0 : Int32) ||| ((1 : Int32) <<< (co k &&& 31)) = ((1 : Int32) <<< (co k &&& 31)) := b_ext (fun i _ => by rw [b_or, b_0, Bool.false_or])
          rw [e3, if_neg]
          intro q
          have q3 : bt ((1 : Int32) <<< (co k &&& 31)) cc = true := by rw [hce, bt_p (by omega) (by omega)]; exact decide_eq_true rfl
          rw [q, b_0] at q3
          cases q3
        · rw [Nat.mod_mod] at w3
          rcases Nat.lt_trichotomy k k' with g | g | g
          · exact (hfit k k' g w2 (by rw [g3, w3]) g4 w4).symm
          · rw [g]
          · exact hfit k' k g g2 (by rw [g3, w3]) w4 g4
    · rw [if_neg e, if_pos rfl, if_pos ((RS_eq72 h k2).mpr (by simpa using e))]
