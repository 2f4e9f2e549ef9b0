/-! changes of hands: both tables tell the same costs -/
def wR (v : Nat) : Nat := if v = 1000 then 1000000 else v
def oOk (b v : Nat) : Prop := v ≤ b ∨ v = 1000
theorem wR_ok {b v : Nat} (hb : b ≤ 100) (h : oOk b v) : (wR v = v ∧ v ≤ b) ∨ (wR v = 1000000 ∧ v = 1000) := by
  unfold wR
  rcases h with q | q
  · rw [if_neg (by omega)]; exact Or.inl ⟨rfl, q⟩
  · rw [if_pos q]; exact Or.inr ⟨rfl, q⟩
theorem step_cmp {b v w d : Nat} (hb : b ≤ 90) (hv : oOk b v) (hw : oOk (b + 1) w) (hd : d ≤ 1) : (wR w ≤ wR v + d ↔ ¬ v + d < w) ∧ (v + d < w → wR (v + d) = wR v + d ∧ oOk (b + 1) (v + d)) := by
  have hg := wR_ok (show b + 1 ≤ 100 by omega) hw
  rcases wR_ok (show b ≤ 100 by omega) hv with q | q
  · refine ⟨by omega, fun z => ⟨?_, Or.inl (by omega)⟩⟩
    rcases wR_ok (b := b + 1) (v := v + d) (by omega) (Or.inl (by omega)) with g | g <;> omega
  · exact ⟨by omega, fun z => absurd z (by omega)⟩
/-- the least cost, no more than w -/
def fw4 (o : Nat → Nat) : Nat → Nat → Nat → Nat
  | 0, _, w => w
  | r + 1, j, w => fw4 o r (j + 1) (if o j < w then o j else w)
theorem fw4_P (o : Nat → Nat) : ∀ (r j w : Nat), fw4 o r j w ≤ w ∧ (∀ k, j ≤ k → k < j + r → fw4 o r j w ≤ o k) ∧ (fw4 o r j w = w ∨ ∃ k, j ≤ k ∧ k < j + r ∧ fw4 o r j w = o k) := by
  intro r
  induction r with
  | zero => intro j w; exact ⟨Nat.le_refl _, fun k g1 g2 => absurd g1 (by omega), Or.inl rfl⟩
  | succ r ih =>
    intro j w
    have e : fw4 o (r + 1) j w = fw4 o r (j + 1) (if o j < w then o j else w) := rfl
    rw [e]
    by_cases c : o j < w
    · rw [if_pos c]
      obtain ⟨h1, h2, h3⟩ := ih (j + 1) (o j)
      refine ⟨by omega, fun k g1 g2 => ?_, ?_⟩
      · rcases Nat.eq_or_lt_of_le g1 with q | q
        · subst q; exact h1
        · exact h2 k q (by omega)
      · rcases h3 with q | ⟨k, g1, g2, g3⟩
        · exact Or.inr ⟨j, Nat.le_refl _, by omega, q⟩
        · exact Or.inr ⟨k, by omega, by omega, g3⟩
    · rw [if_neg c]
      obtain ⟨h1, h2, h3⟩ := ih (j + 1) w
      refine ⟨h1, fun k g1 g2 => ?_, ?_⟩
      · rcases Nat.eq_or_lt_of_le g1 with q | q
        · subst q; omega
        · exact h2 k q (by omega)
      · rcases h3 with q | ⟨k, g1, g2, g3⟩
        · exact Or.inl q
        · exact Or.inr ⟨k, by omega, by omega, g3⟩
def own (v : Nat → Nat) (h k : Nat) : Nat := v k + (if k = h then 0 else 1)
/-- the costs of a row, d rows ahead of the last -/
def rv (F : Nat → Nat → Bool) (n : Nat) : Nat → Nat → Nat
  | 0 => fun k => if F (n - 1) k = true then 0 else 1000
  | d + 1 => fun k => if F (n - 1 - (d + 1)) k = true then fw4 (own (rv F n d) k) 4 0 1000 else 1000
theorem rv_ok (F : Nat → Nat → Bool) (n : Nat) : ∀ d k, oOk d (rv F n d k) := by
  intro d
  induction d with
  | zero =>
    intro k
    show oOk 0 (if F (n - 1) k = true then 0 else 1000)
    split
    · exact Or.inl (Nat.le_refl _)
    · exact Or.inr rfl
  | succ d ih =>
    intro k
    show oOk (d + 1) (if F (n - 1 - (d + 1)) k = true then fw4 (own (rv F n d) k) 4 0 1000 else 1000)
    split
    · obtain ⟨h1, h2, h3⟩ := fw4_P (own (rv F n d) k) 4 0 1000
      rcases h3 with q | ⟨k', g1, g2, g3⟩
      · exact Or.inr q
      · have ho : rv F n d k' ≤ own (rv F n d) k k' ∧ own (rv F n d) k k' ≤ rv F n d k' + 1 := by
          unfold own
          split <;> omega
        rcases ih k' with w | w
        · exact Or.inl (by omega)
        · exact Or.inr (by omega)
    · exact Or.inr rfl
/-- the class's look at the next row -/
theorem few_L7 {ch : Nat → Int32} {q h b : Nat} {v : Nat → Nat} (hq : q < 24) (hb : b ≤ 90) (hv : ∀ k, k < 4 → ch (4 * q + k) = nI (v k) ∧ oOk b (v k)) : ∀ (r j w : Nat), r + j = 4 → w ≤ 1000 → fX0_fewestFrom_L7 ch q h r j (nI w) = nI (fw4 (own v h) r j w) := by
  intro r
  induction r with
  | zero => intro j w hr hw; rfl
  | succ r ih =>
    intro j w hr hw
    obtain ⟨e1, e2⟩ := hv j (by omega)
    have hv9 := wR_ok (show b ≤ 100 by omega) e2
    have ec : fX0_changesBy ch q j h = nI (own v h j) := by
      unfold fX0_changesBy own
      rw [show q * 4 + j = 4 * q + j by omega, at_nI (show 4 * q + j < 96 by omega) (by decide), e1]
      by_cases c : j = h
      · rw [if_pos c, if_pos c]; exact nI_add _ 0
      · rw [if_neg c, if_neg c, nI_1]
    have ho : own v h j ≤ v j + 1 := by
      unfold own
      split <;> omega
    have e : fw4 (own v h) (r + 1) j w = fw4 (own v h) r (j + 1) (if own v h j < w then own v h j else w) := rfl
    rw [fX0_fewestFrom_L7, ec, e]
    by_cases c : own v h j < w
    · rw [if_pos ((nI_ltI (by omega) (by omega)).mpr c), if_pos c]
      exact ih _ _ (by omega) (by omega)
    · rw [if_neg (fun z => c ((nI_ltI (by omega) (by omega)).mp z)), if_neg c]
      exact ih _ _ (by omega) hw
/-- the reference's -/
theorem few_L44 {bk cg : Nat → Int32} {n q h b : Nat} {v : Nat → Nat} (hm : mN bk = n) (hn : n ≤ 24) (hq : q + 1 < n) (hb : b ≤ 90) (hv : ∀ k, k < 4 → cg (4 * (q + 1) + k) = nI (wR (v k)) ∧ oOk b (v k)) : ∀ (r j w : Nat), r + j = 4 → oOk (b + 1) w → fX6_layHands_L44 bk q cg h r j (nI (wR w)) = nI (wR (fw4 (own v h) r j w)) := by
  intro r
  induction r with
  | zero => intro j w hr hw; rfl
  | succ r ih =>
    intro j w hr hw
    obtain ⟨e1, e2⟩ := hv j (by omega)
    have hl : ¬ nI n + (-1) ≤ nI q := by
      obtain ⟨m, rfl⟩ : ∃ m, n = m + 1 := ⟨n - 1, by omega⟩
      rw [pk_m1, nI_leI (by omega) (by omega)]
      omega
    have e : fw4 (own v h) (r + 1) j w = fw4 (own v h) r (j + 1) (if own v h j < w then own v h j else w) := rfl
    have b1 := wR_ok (show b ≤ 100 by omega) e2
    have b2 := wR_ok (show b + 1 ≤ 100 by omega) hw
    rw [fX6_layHands_L44, hm, if_neg hl, e, show 4 * q + 4 + j = 4 * (q + 1) + j by omega, e1, nI_1, show nI (wR (v j)) + (0 : Int32) = nI (wR (v j) + 0) from nI_add _ 0]
    by_cases c : j = h
    · have eo : own v h j = v j + 0 := by unfold own; rw [if_pos c]
      obtain ⟨s1, s2⟩ := step_cmp (d := 0) hb e2 hw (by omega)
      rw [if_pos c, eo]
      by_cases c2 : v j + 0 < w
      · obtain ⟨s3, s4⟩ := s2 c2
        rw [if_neg (fun z => s1.mp ((nI_leI (by omega) (by omega)).mp z) c2), if_pos c2, ← s3]
        exact ih _ _ (by omega) s4
      · rw [if_pos ((nI_leI (by omega) (by omega)).mpr (s1.mpr c2)), if_neg c2]
        exact ih _ _ (by omega) hw
    · have eo : own v h j = v j + 1 := by unfold own; rw [if_neg c]
      obtain ⟨s1, s2⟩ := step_cmp (d := 1) hb e2 hw (by omega)
      rw [if_neg c, eo]
      by_cases c2 : v j + 1 < w
      · obtain ⟨s3, s4⟩ := s2 c2
        rw [if_neg (fun z => s1.mp ((nI_leI (by omega) (by omega)).mp z) c2), if_pos c2, ← s3]
        exact ih _ _ (by omega) s4
      · rw [if_pos ((nI_leI (by omega) (by omega)).mpr (s1.mpr c2)), if_neg c2]
        exact ih _ _ (by omega) hw
theorem fit_iff : ∀ v, v < 10 → ∀ t, t < 10 → (fX5_isIn (fX5_near (nI v)) (nI t) = 0 ↔ fX6_in (nI v - nI t) (-1 : Int32) (1 : Int32) = 0) := by decide +kernel
def kF (b kn : Nat → Int32) (j k : Nat) : Bool := decide (¬ fX6_mayKnit b kn k j = 0)
theorem kF_iff {b kn : Nat → Int32} {j k : Nat} : fX6_mayKnit b kn k j = 0 ↔ kF b kn j k = false := by
  unfold kF
  by_cases c : fX6_mayKnit b kn k j = 0
  · exact ⟨fun _ => decide_eq_false (fun q => q c), fun _ => c⟩
  · exact ⟨fun q => absurd q c, fun q => absurd (decide_eq_true c) (by rw [q]; decide)⟩
theorem fits_cl {co ti an kt kn : Nat → Int32} {n : Nat} {ea : Int32} {b : Nat → Int32} (h : RS co ti an n ea b) (iK : RK kt kn) {j k : Nat} (hj : j < n) (hk : k < 4) : fX5_isIn (fX5_near (fX5_at ti 24 (nI j))) (fX3_tightnessOf kt (nI k)) = 0 ↔ kF b kn j k = false := by
  have hn := h.1
  obtain ⟨v, hv, e1, e2⟩ := RS_ti h hj
  obtain ⟨e3, t, ht, e4⟩ := iK k hk
  unfold fX3_tightnessOf
  rw [at_nI (show j < 24 by omega) (by decide), at_nI hk (by decide), e1, e4, fit_iff v hv t ht, ← kF_iff]
  unfold fX6_mayKnit
  rw [e2, ← e3, e4]
theorem at_last {n j : Nat} (hn : n ≤ 24) (hj : j < n) : nI j = nI n + (-1) ↔ j + 1 = n := by
  obtain ⟨m, rfl⟩ : ∃ m, n = m + 1 := ⟨n - 1, by omega⟩
  rw [pk_m1, nI_eq (by omega) (by omega)]
  omega
/-- the class's table, a row -/
theorem cnt_L35 {co ti an kt kn : Nat → Int32} {n : Nat} {ea : Int32} {b : Nat → Int32} (h : RS co ti an n ea b) (iK : RK kt kn) {j : Nat} (hj : j < n) : ∀ (r k : Nat) (g : Nat → Int32), r + k = 4 → (∀ q k', j < q → q < n → k' < 4 → g (4 * q + k') = nI (rv (kF b kn) n (n - 1 - q) k')) → (∀ k', k' < k → g (4 * j + k') = nI (rv (kF b kn) n (n - 1 - j) k')) → ∀ q k', j ≤ q → q < n → k' < 4 → fX0_count_L35 kt n ti j r k g (4 * q + k') = nI (rv (kF b kn) n (n - 1 - q) k') := by
  have hn := h.1
  intro r
  induction r with
  | zero =>
    intro k g hr h1 h2 q k' g1 g2 g3
    rw [fX0_count_L35]
    rcases Nat.eq_or_lt_of_le g1 with w | w
    · subst w; exact h2 k' (by omega)
    · exact h1 q k' w g2 g3
  | succ r ih =>
    intro k g hr h1 h2
    have put_ok : ∀ x, x = nI (rv (kF b kn) n (n - 1 - j) k) → ∀ q k', j ≤ q → q < n → k' < 4 → fX0_count_L35 kt n ti j r (k + 1) (fX5_put g 96 (nI (j * 4 + k)) x) (4 * q + k') = nI (rv (kF b kn) n (n - 1 - q) k') := by
      intro x hx
      rw [put_nI (show j * 4 + k < 96 by omega) (by decide)]
      refine ih (k + 1) _ (by omega) (fun q k' g1 g2 g3 => ?_) (fun k' g1 => ?_)
      · rw [upd_n (by omega)]; exact h1 q k' g1 g2 g3
      · by_cases w : k' = k
        · subst w
          rw [show j * 4 + k' = 4 * j + k' by omega, upd_s, hx]
        · rw [upd_n (by omega)]; exact h2 k' (by omega)
    have hf := fits_cl h iK hj (show k < 4 by omega)
    intro q k' g1 g2 g3
    rw [fX0_count_L35]
    by_cases c : j + 1 = n
    · rw [if_pos ((at_last hn hj).mpr c)]
      have e0 : rv (kF b kn) n (n - 1 - j) k = if kF b kn j k = true then 0 else 1000 := by
        rw [show n - 1 - j = 0 by omega]
        show (if kF b kn (n - 1) k = true then 0 else 1000) = _
        rw [show n - 1 = j by omega]
      by_cases d : kF b kn j k = false
      · rw [if_pos (hf.mpr d)]
        exact put_ok _ (by rw [e0, d]; rfl) q k' g1 g2 g3
      · rw [if_neg (fun z => d (hf.mp z))]
        exact put_ok _ (by rw [e0, if_pos (by simpa using d)]; rfl) q k' g1 g2 g3
    · rw [if_neg (fun z => c ((at_last hn hj).mp z))]
      have e0 : rv (kF b kn) n (n - 1 - j) k = if kF b kn j k = true then fw4 (own (rv (kF b kn) n (n - 1 - (j + 1))) k) 4 0 1000 else 1000 := by
        rw [show n - 1 - j = (n - 1 - (j + 1)) + 1 by omega]
        show (if kF b kn (n - 1 - (n - 1 - (j + 1) + 1)) k = true then fw4 (own (rv (kF b kn) n (n - 1 - (j + 1))) k) 4 0 1000 else 1000) = _
        rw [show n - 1 - (n - 1 - (j + 1) + 1) = j by omega]
      by_cases d : kF b kn j k = false
      · rw [if_pos (hf.mpr d)]
        exact put_ok _ (by rw [e0, d]; rfl) q k' g1 g2 g3
      · rw [if_neg (fun z => d (hf.mp z))]
        refine put_ok _ ?_ q k' g1 g2 g3
        rw [e0, if_pos (by simpa using d)]
        have e1 : fX0_fewestFrom g (j + 1) k = fX0_fewestFrom_L7 g (j + 1) k 4 0 (nI 1000) := rfl
        rw [e1]
        exact few_L7 (b := n - 1 - (j + 1)) (show j + 1 < 24 by omega) (by omega) (fun k' w => ⟨h1 (j + 1) k' (by omega) (by omega) w, rv_ok _ _ _ _⟩) 4 0 1000 rfl (Nat.le_refl _)
theorem cnt_L12 {co ti an kt kn : Nat → Int32} {n : Nat} {ea : Int32} {b : Nat → Int32} (h : RS co ti an n ea b) (iK : RK kt kn) : ∀ (j : Nat) (g : Nat → Int32), j ≤ n → (∀ q k, j ≤ q → q < n → k < 4 → g (4 * q + k) = nI (rv (kF b kn) n (n - 1 - q) k)) → ∀ q k, q < n → k < 4 → fX0_count_L12 kt n ti j g (4 * q + k) = nI (rv (kF b kn) n (n - 1 - q) k) := by
  intro j
  induction j with
  | zero => intro g _ h1 q k g1 g2; rw [fX0_count_L12]; exact h1 q k (Nat.zero_le _) g1 g2
  | succ j ih =>
    intro g hj h1 q k g1 g2
    rw [fX0_count_L12]
    exact ih _ (by omega) (fun q k w1 w2 w3 => cnt_L35 h iK (show j < n by omega) 4 0 g rfl (fun q k' z1 z2 z3 => h1 q k' z1 z2 z3) (fun k' z => absurd z (Nat.not_lt_zero k')) q k w1 w2 w3) q k g1 g2
theorem count_P {co ti an kt kn : Nat → Int32} {n : Nat} {ea : Int32} {b : Nat → Int32} (h : RS co ti an n ea b) (iK : RK kt kn) (ch : Nat → Int32) {q k : Nat} (hq : q < n) (hk : k < 4) : fX0_count ch kt n ti (4 * q + k) = nI (rv (kF b kn) n (n - 1 - q) k) :=
  cnt_L12 h iK n ch (Nat.le_refl _) (fun q k w1 w2 => absurd w1 (by omega)) q k hq hk
/-- the reference's table, a row -/
theorem lay_L16 {b kn : Nat → Int32} {n : Nat} (hm : mN b = n) (hn : n ≤ 24) {j : Nat} (hj : j < n) : ∀ (r k : Nat) (g : Nat → Int32), r + k = 4 → (∀ q k', j < q → q < n → k' < 4 → g (4 * q + k') = nI (wR (rv (kF b kn) n (n - 1 - q) k'))) → (∀ k', k' < k → g (4 * j + k') = nI (wR (rv (kF b kn) n (n - 1 - j) k'))) → ∀ q k', j ≤ q → q < n → k' < 4 → fX6_layHands_L16 b kn j r k g (4 * q + k') = nI (wR (rv (kF b kn) n (n - 1 - q) k')) := by
  intro r
  induction r with
  | zero =>
    intro k g hr h1 h2 q k' g1 g2 g3
    rw [fX6_layHands_L16]
    rcases Nat.eq_or_lt_of_le g1 with w | w
    · subst w; exact h2 k' (by omega)
    · exact h1 q k' w g2 g3
  | succ r ih =>
    intro k g hr h1 h2
    have put_ok : ∀ x, x = nI (wR (rv (kF b kn) n (n - 1 - j) k)) → ∀ q k', j ≤ q → q < n → k' < 4 → fX6_layHands_L16 b kn j r (k + 1) (upd g (4 * j + k) x) (4 * q + k') = nI (wR (rv (kF b kn) n (n - 1 - q) k')) := by
      intro x hx
      refine ih (k + 1) _ (by omega) (fun q k' g1 g2 g3 => ?_) (fun k' g1 => ?_)
      · rw [upd_n (by omega)]; exact h1 q k' g1 g2 g3
      · by_cases w : k' = k
        · subst w; rw [upd_s, hx]
        · rw [upd_n (by omega)]; exact h2 k' (by omega)
    have hf := kF_iff (b := b) (kn := kn) (j := j) (k := k)
    intro q k' g1 g2 g3
    rw [fX6_layHands_L16, hm]
    by_cases c : j + 1 = n
    · rw [if_pos ((at_last hn hj).mpr c)]
      dsimp only
      have e0 : rv (kF b kn) n (n - 1 - j) k = if kF b kn j k = true then 0 else 1000 := by
        rw [show n - 1 - j = 0 by omega]
        show (if kF b kn (n - 1) k = true then 0 else 1000) = _
        rw [show n - 1 = j by omega]
      have e1 : fX6_layHands_L44 b j g k 4 0 (0 : Int32) = 0 := by
        rw [fX6_layHands_L44, hm, if_pos (show nI n + (-1) ≤ nI j by rw [← (at_last hn hj).mpr c]; exact Int32.le_refl _)]
      rw [e1]
      by_cases d : kF b kn j k = false
      · rw [if_pos (hf.mpr d)]
        exact put_ok _ (by rw [e0, d]; rfl) q k' g1 g2 g3
      · rw [if_neg (fun z => d (hf.mp z))]
        exact put_ok _ (by rw [e0, if_pos (by simpa using d)]; rfl) q k' g1 g2 g3
    · rw [if_neg (fun z => c ((at_last hn hj).mp z))]
      dsimp only
      have e0 : rv (kF b kn) n (n - 1 - j) k = if kF b kn j k = true then fw4 (own (rv (kF b kn) n (n - 1 - (j + 1))) k) 4 0 1000 else 1000 := by
        rw [show n - 1 - j = (n - 1 - (j + 1)) + 1 by omega]
        show (if kF b kn (n - 1 - (n - 1 - (j + 1) + 1)) k = true then fw4 (own (rv (kF b kn) n (n - 1 - (j + 1))) k) 4 0 1000 else 1000) = _
        rw [show n - 1 - (n - 1 - (j + 1) + 1) = j by omega]
      by_cases d : kF b kn j k = false
      · rw [if_pos (hf.mpr d)]
        exact put_ok _ (by rw [e0, d]; rfl) q k' g1 g2 g3
      · rw [if_neg (fun z => d (hf.mp z))]
        refine put_ok _ ?_ q k' g1 g2 g3
        rw [e0, if_pos (by simpa using d)]
        exact few_L44 (b := n - 1 - (j + 1)) (w := 1000) hm hn (show j + 1 < n by omega) (by omega) (fun k' w => ⟨h1 (j + 1) k' (by omega) (by omega) w, rv_ok _ _ _ _⟩) 4 0 rfl (Or.inr rfl)
theorem lay_L10 {b kn : Nat → Int32} {n : Nat} (hm : mN b = n) (hn : n ≤ 24) : ∀ (j : Nat) (g : Nat → Int32), j ≤ n → (∀ q k, j ≤ q → q < n → k < 4 → g (4 * q + k) = nI (wR (rv (kF b kn) n (n - 1 - q) k))) → ∀ q k, q < n → k < 4 → fX6_layHands_L10 b kn j g (4 * q + k) = nI (wR (rv (kF b kn) n (n - 1 - q) k)) := by
  intro j
  induction j with
  | zero => intro g _ h1 q k g1 g2; rw [fX6_layHands_L10]; exact h1 q k (Nat.zero_le _) g1 g2
  | succ j ih =>
    intro g hj h1 q k g1 g2
    rw [fX6_layHands_L10]
    exact ih _ (by omega) (fun q k w1 w2 w3 => lay_L16 hm hn (show j < n by omega) 4 0 g rfl (fun q k' z1 z2 z3 => h1 q k' z1 z2 z3) (fun k' z => absurd z (Nat.not_lt_zero k')) q k w1 w2 w3) q k g1 g2
theorem lay_P {b kn : Nat → Int32} {n : Nat} (hm : mN b = n) (hn : n ≤ 24) (cg : Nat → Int32) {q k : Nat} (hq : q < n) (hk : k < 4) : fX6_layHands b kn cg (4 * q + k) = nI (wR (rv (kF b kn) n (n - 1 - q) k)) := by
  have e : fX6_layHands b kn cg = fX6_layHands_L10 b kn n cg := by unfold fX6_layHands; rw [hm]
  rw [e]
  exact lay_L10 hm hn n cg (Nat.le_refl _) (fun q k w1 w2 => absurd w1 (by omega)) q k hq hk
/-- the least of the first row, in both -/
theorem fst_L12 {ch : Nat → Int32} {v : Nat → Nat} (hv : ∀ k, k < 4 → ch k = nI (v k) ∧ v k ≤ 1000) : ∀ (r j w : Nat), r + j = 4 → w ≤ 1000 → fX0_fewest_L12 ch r j (nI w) = nI (fw4 v r j w) := by
  intro r
  induction r with
  | zero => intro j w hr hw; rfl
  | succ r ih =>
    intro j w hr hw
    obtain ⟨e1, e2⟩ := hv j (by omega)
    have e : fw4 v (r + 1) j w = fw4 v r (j + 1) (if v j < w then v j else w) := rfl
    rw [fX0_fewest_L12, at_nI (show j < 96 by omega) (by decide), e1, e]
    by_cases c : v j < w
    · rw [if_pos ((nI_ltI (by omega) (by omega)).mpr c), if_pos c]
      exact ih _ _ (by omega) e2
    · rw [if_neg (fun z => c ((nI_ltI (by omega) (by omega)).mp z)), if_neg c]
      exact ih _ _ (by omega) hw
theorem fst_L5 {cg : Nat → Int32} {b : Nat} {v : Nat → Nat} (hb : b ≤ 90) (hv : ∀ k, k < 4 → cg (4 * 0 + k) = nI (wR (v k)) ∧ oOk b (v k)) : ∀ (r j w : Nat), r + j = 4 → oOk (b + 1) w → fX6_fewest_L5 cg 0 r j (nI (wR w)) = nI (wR (fw4 v r j w)) := by
  intro r
  induction r with
  | zero => intro j w hr hw; rfl
  | succ r ih =>
    intro j w hr hw
    obtain ⟨e1, e2⟩ := hv j (by omega)
    have b1 := wR_ok (show b ≤ 100 by omega) e2
    have b2 := wR_ok (show b + 1 ≤ 100 by omega) hw
    obtain ⟨s1, s2⟩ := step_cmp (d := 0) hb e2 hw (by omega)
    simp only [Nat.add_zero] at s1 s2
    have e : fw4 v (r + 1) j w = fw4 v r (j + 1) (if v j < w then v j else w) := rfl
    rw [fX6_fewest_L5, e1, e]
    by_cases c : v j < w
    · obtain ⟨s3, s4⟩ := s2 c
      rw [if_neg (fun z => s1.mp ((nI_leI (by omega) (by omega)).mp z) c), if_pos c]
      exact ih _ _ (by omega) s4
    · rw [if_pos ((nI_leI (by omega) (by omega)).mpr (s1.mpr c)), if_neg c]
      exact ih _ _ (by omega) hw
theorem fst_ok {F : Nat → Nat → Bool} {n d : Nat} (hd : d ≤ 23) : oOk d (fw4 (rv F n d) 4 0 1000) := by
  obtain ⟨-, -, h3⟩ := fw4_P (rv F n d) 4 0 1000
  rcases h3 with q | ⟨k, -, -, q⟩
  · exact Or.inr q
  · rw [q]; exact rv_ok _ _ _ _
/-- the fewest changes, in both -/
theorem few_both {co ti an kt kn : Nat → Int32} {n : Nat} {ea : Int32} {b : Nat → Int32} (h : RS co ti an n ea b) (iK : RK kt kn) (ch cg : Nat → Int32) (hn0 : 0 < n) : fX0_fewest (fX0_count ch kt n ti) n = (if (1000 : Int32) ≤ nI (fw4 (rv (kF b kn) n (n - 1)) 4 0 1000) then (-6 : Int32) else nI (fw4 (rv (kF b kn) n (n - 1)) 4 0 1000)) ∧ fX6_fewest (fX6_layHands b kn cg) 0 = nI (wR (fw4 (rv (kF b kn) n (n - 1)) 4 0 1000)) := by
  have hn := h.1
  constructor
  · unfold fX0_fewest
    rw [if_neg (by omega)]
    dsimp only
    rw [show (1000 : Int32) = nI 1000 from rfl, fst_L12 (v := rv (kF b kn) n (n - 1)) (fun k hk => ?_) 4 0 1000 rfl (Nat.le_refl _)]
    have e := count_P h iK ch hn0 hk
    rw [show 4 * 0 + k = k by omega, show n - 1 - 0 = n - 1 by omega] at e
    refine ⟨e, ?_⟩
    rcases rv_ok (kF b kn) n (n - 1) k with q | q <;> omega
  · have e : fX6_fewest (fX6_layHands b kn cg) 0 = fX6_fewest_L5 (fX6_layHands b kn cg) 0 4 0 (nI (wR 1000)) := rfl
    rw [e]
    exact fst_L5 (b := n - 1) (by omega) (fun k hk => ⟨by rw [lay_P (RS_mN h) hn cg hn0 hk, show n - 1 - 0 = n - 1 by omega], rv_ok _ _ _ _⟩) 4 0 1000 rfl (Or.inr rfl)
theorem m_hands {co ti an kt kn ch cg : Nat → Int32} {n : Nat} {ea : Int32} {b : Nat → Int32} (h : RS co ti an n ea b) (iK : RK kt kn) {q : Int32 × (Nat → Int32)} (hq : fX5_hands ch kt n ti = q) {r : Int32 × (Nat → Int32)} (hr : fX6_hands b kn cg = r) : q.1 = r.1 := by
  have hm := RS_mN h
  have hn := h.1
  unfold fX6_hands at hr
  rw [hm] at hr
  have e1 : q.1 = fX0_fewest (fX0_count ch kt n ti) n := by rw [← hq]; rfl
  rw [e1]
  by_cases c : n = 0
  · rw [if_pos c] at hr
    subst hr
    unfold fX0_fewest
    rw [if_pos c]
  · rw [if_neg c] at hr
    dsimp only at hr
    obtain ⟨f1, f2⟩ := few_both h iK ch cg (show 0 < n by omega)
    rw [f1]
    rw [f2] at hr
    have ho := wR_ok (show n - 1 ≤ 100 by omega) (fst_ok (F := kF b kn) (n := n) (d := n - 1) (by omega))
    generalize fw4 (rv (kF b kn) n (n - 1)) 4 0 1000 = m at hr ho ⊢
    rcases ho with ⟨o1, o2⟩ | ⟨o1, o2⟩
    · rw [o1, if_neg (show ¬ (1000000 : Int32) ≤ nI m from fun z => by have := (nI_leI (a := 1000000) (by decide) (by omega)).mp z; omega)] at hr
      rw [if_neg (show ¬ (1000 : Int32) ≤ nI m from fun z => by have := (nI_leI (a := 1000) (by decide) (by omega)).mp z; omega)]
      subst hr
      rfl
    · rw [o1, if_pos (show (1000000 : Int32) ≤ nI 1000000 by decide)] at hr
      rw [o2, if_pos (show (1000 : Int32) ≤ nI 1000 by decide)]
      subst hr
      rfl
/-! the first row of as few changes -/
def am (o : Nat → Nat) : Nat → Nat → Nat → Nat
  | 0, _, le => le
  | r + 1, j, le => if o le ≤ o j then am o r (j + 1) le else am o r (j + 1) j
theorem am_P (o : Nat → Nat) : ∀ (r j le : Nat), le < j → (∀ k, k < j → o le ≤ o k) → (∀ k, k < le → o le < o k) → am o r j le < j + r ∧ (∀ k, k < j + r → o (am o r j le) ≤ o k) ∧ (∀ k, k < am o r j le → o (am o r j le) < o k) := by
  intro r
  induction r with
  | zero => intro j le h1 h2 h3; exact ⟨h1, h2, h3⟩
  | succ r ih =>
    intro j le h1 h2 h3
    have e : am o (r + 1) j le = if o le ≤ o j then am o r (j + 1) le else am o r (j + 1) j := rfl
    rw [e]
    by_cases c : o le ≤ o j
    · rw [if_pos c]
      obtain ⟨g1, g2, g3⟩ := ih (j + 1) le (by omega) (fun k hk => by
        rcases Nat.eq_or_lt_of_le (Nat.le_of_lt_succ hk) with q | q
        · rw [q]; exact c
        · exact h2 k q) h3
      exact ⟨by omega, fun k hk => g2 k (by omega), g3⟩
    · rw [if_neg c]
      obtain ⟨g1, g2, g3⟩ := ih (j + 1) j (by omega) (fun k hk => by
        rcases Nat.eq_or_lt_of_le (Nat.le_of_lt_succ hk) with q | q
        · rw [q]; exact Nat.le_refl _
        · have := h2 k q; omega) (fun k hk => by have := h2 k hk; omega)
      exact ⟨by omega, fun k hk => g2 k (by omega), g3⟩
theorem kn_L4 {ch : Nat → Int32} {v : Nat → Nat} (hv : ∀ k, k < 4 → ch k = nI (v k) ∧ v k ≤ 1000) : ∀ (r j le : Nat), r + j = 4 → le < j → fX0_knitterOf_L4 ch r j le = am v r j le := by
  intro r
  induction r with
  | zero => intro j le hr hl; rfl
  | succ r ih =>
    intro j le hr hl
    obtain ⟨e1, e2⟩ := hv j (by omega)
    obtain ⟨e3, e4⟩ := hv le (by omega)
    have e : am v (r + 1) j le = if v le ≤ v j then am v r (j + 1) le else am v r (j + 1) j := rfl
    rw [fX0_knitterOf_L4, at_nI (show j < 96 by omega) (by decide), at_nI (show le < 96 by omega) (by decide), e1, e3, e, ih _ _ (by omega) (by omega), ih _ _ (by omega) (by omega)]
    by_cases c : v le ≤ v j
    · rw [if_pos ((nI_leI (by omega) (by omega)).mpr c), if_pos c]
    · rw [if_neg (fun z => c ((nI_leI (by omega) (by omega)).mp z)), if_neg c]
theorem after_L5 {ch : Nat → Int32} {q h : Nat} {v : Nat → Nat} (hq : q < 24) (hv : ∀ k, k < 4 → ch (4 * q + k) = nI (v k) ∧ v k ≤ 1000) : ∀ (r j le : Nat), r + j = 4 → le < j → fX0_leastAfter_L5 ch q h r j le = am (own v h) r j le := by
  have ec : ∀ j, j < 4 → fX0_changesBy ch q j h = nI (own v h j) ∧ own v h j ≤ 1001 := by
    intro j hj
    obtain ⟨e1, e2⟩ := hv j hj
    unfold fX0_changesBy own
    rw [show q * 4 + j = 4 * q + j by omega, at_nI (show 4 * q + j < 96 by omega) (by decide), e1]
    by_cases c : j = h
    · rw [if_pos c, if_pos c]; exact ⟨nI_add _ 0, by omega⟩
    · rw [if_neg c, if_neg c, nI_1]; exact ⟨rfl, by omega⟩
  intro r
  induction r with
  | zero => intro j le hr hl; rfl
  | succ r ih =>
    intro j le hr hl
    obtain ⟨e1, e2⟩ := ec j (by omega)
    obtain ⟨e3, e4⟩ := ec le (by omega)
    have e : am (own v h) (r + 1) j le = if own v h le ≤ own v h j then am (own v h) r (j + 1) le else am (own v h) r (j + 1) j := rfl
    rw [fX0_leastAfter_L5, e1, e3, e, ih _ _ (by omega) (by omega), ih _ _ (by omega) (by omega)]
    by_cases c : own v h le ≤ own v h j
    · rw [if_pos ((nI_leI (by omega) (by omega)).mpr c), if_pos c]
    · rw [if_neg (fun z => c ((nI_leI (by omega) (by omega)).mp z)), if_neg c]
/-- the reference's search of one stitch's knitter -/
theorem w52_none {q11 : Nat → Int32} {lf bz : Int32} {q : Nat} {o : Nat → Nat} {L : Nat} (hs : ∀ (k : Nat) (fo : Int32), k < 4 → fX6_who_L52 q11 lf bz q (k + 1) fo = if o k = L then fX6_who_L52 q11 lf bz q k (nI k) else fX6_who_L52 q11 lf bz q k fo) : ∀ (f : Nat) (fo : Int32), f ≤ 4 → (∀ k, k < f → ¬ o k = L) → fX6_who_L52 q11 lf bz q f fo = fo := by
  intro f
  induction f with
  | zero => intro fo _ _; rfl
  | succ f ih =>
    intro fo hf hno
    rw [hs f fo (by omega), if_neg (hno f (by omega))]
    exact ih fo (by omega) (fun k hk => hno k (by omega))
theorem w52_some {q11 : Nat → Int32} {lf bz : Int32} {q : Nat} {o : Nat → Nat} {L m : Nat} (hs : ∀ (k : Nat) (fo : Int32), k < 4 → fX6_who_L52 q11 lf bz q (k + 1) fo = if o k = L then fX6_who_L52 q11 lf bz q k (nI k) else fX6_who_L52 q11 lf bz q k fo) (hm : o m = L) (hlow : ∀ k, k < m → ¬ o k = L) : ∀ (f : Nat) (fo : Int32), f ≤ 4 → m < f → fX6_who_L52 q11 lf bz q f fo = nI m := by
  intro f
  induction f with
  | zero => intro fo _ h; exact absurd h (Nat.not_lt_zero m)
  | succ f ih =>
    intro fo hf hmf
    rw [hs f fo (by omega)]
    rcases Nat.eq_or_lt_of_le (Nat.le_of_lt_succ hmf) with w | w
    · subst w
      rw [if_pos hm]
      exact w52_none hs m _ (by omega) hlow
    · rw [ih _ (by omega) w, ih _ (by omega) w]
      split <;> rfl
theorem wR_eq {b v d L : Nat} (hb : b ≤ 100) (h : oOk b v) (hd : d ≤ 1) (hL : L < 1000) : nI (wR v + d) = nI L ↔ v + d = L := by
  rcases wR_ok hb h with ⟨o1, o2⟩ | ⟨o1, o2⟩
  · rw [o1, nI_eq (by omega) (by omega)]
  · rw [o1, nI_eq (by omega) (by omega)]
    omega
theorem s52_first {q11 : Nat → Int32} {b L : Nat} {v : Nat → Nat} (hb : b ≤ 100) (hL : L < 1000) (hv : ∀ k, k < 4 → q11 (4 * 0 + k) = nI (wR (v k)) ∧ oOk b (v k)) : ∀ (k : Nat) (fo : Int32), k < 4 → fX6_who_L52 q11 (nI L) (-6 : Int32) 0 (k + 1) fo = if v k = L then fX6_who_L52 q11 (nI L) (-6 : Int32) 0 k (nI k) else fX6_who_L52 q11 (nI L) (-6 : Int32) 0 k fo := by
  intro k fo hk
  obtain ⟨e1, e2⟩ := hv k hk
  have hw := wR_eq (d := 0) (L := L) hb e2 (by omega) hL
  rw [fX6_who_L52, if_pos (by decide), e1, show nI (wR (v k)) + (0 : Int32) = nI (wR (v k) + 0) from nI_add _ 0]
  by_cases c : v k = L
  · rw [if_pos (hw.mpr c), if_pos c]
  · rw [if_neg (fun z => c (hw.mp z)), if_neg c]
theorem s52_next {q11 : Nat → Int32} {b L q h : Nat} {v : Nat → Nat} (hb : b ≤ 100) (hL : L < 1000) (hh : h < 4) (hv : ∀ k, k < 4 → q11 (4 * q + k) = nI (wR (v k)) ∧ oOk b (v k)) : ∀ (k : Nat) (fo : Int32), k < 4 → fX6_who_L52 q11 (nI L) (nI h) q (k + 1) fo = if own v h k = L then fX6_who_L52 q11 (nI L) (nI h) q k (nI k) else fX6_who_L52 q11 (nI L) (nI h) q k fo := by
  intro k fo hk
  obtain ⟨e1, e2⟩ := hv k hk
  rw [fX6_who_L52, if_neg (nI_pos (by omega)), e1, show nI (wR (v k)) + (0 : Int32) = nI (wR (v k) + 0) from nI_add _ 0, nI_1]
  by_cases c : k = h
  · have eo : own v h k = v k + 0 := by unfold own; rw [if_pos c]
    have hw := wR_eq (d := 0) (L := L) hb e2 (by omega) hL
    rw [if_pos (show nI h = nI k by rw [c]), eo]
    by_cases c2 : v k + 0 = L
    · rw [if_pos (hw.mpr c2), if_pos c2]
    · rw [if_neg (fun z => c2 (hw.mp z)), if_neg c2]
  · have eo : own v h k = v k + 1 := by unfold own; rw [if_neg c]
    have hw := wR_eq (d := 1) (L := L) hb e2 (by omega) hL
    rw [if_neg (fun z => c ((nI_eq (by omega) (by omega)).mp z).symm), eo]
    by_cases c2 : v k + 1 = L
    · rw [if_pos (hw.mpr c2), if_pos c2]
    · rw [if_neg (fun z => c2 (hw.mp z)), if_neg c2]
theorem who_lock {F : Nat → Nat → Bool} {n : Nat} {ch cg : Nat → Int32} (hn : n ≤ 24) (h1 : ∀ q k, q < n → k < 4 → ch (4 * q + k) = nI (rv F n (n - 1 - q) k)) (h2 : ∀ q k, q < n → k < 4 → cg (4 * q + k) = nI (wR (rv F n (n - 1 - q) k))) : ∀ (r q h L : Nat), r + q ≤ n → 1 ≤ q → h < 4 → L < 1000 → L = rv F n (n - 1 - (q - 1)) h → (fX6_who_L39 cg r q (nI L) (nI h)).2 = nI (fX0_knitterOf_L38 ch r q h) := by
  intro r
  induction r with
  | zero => intro q h L _ _ _ _ _; rfl
  | succ r ih =>
    intro q h L hr hq hh hL e
    have e2 : L = fw4 (own (rv F n (n - 1 - q)) h) 4 0 1000 := by
      rw [show n - 1 - (q - 1) = (n - 1 - q) + 1 by omega] at e
      have e3 : rv F n ((n - 1 - q) + 1) h = if F (n - 1 - ((n - 1 - q) + 1)) h = true then fw4 (own (rv F n (n - 1 - q)) h) 4 0 1000 else 1000 := rfl
      rw [e3] at e
      by_cases c : F (n - 1 - ((n - 1 - q) + 1)) h = true
      · rw [if_pos c] at e; exact e
      · rw [if_neg c] at e; omega
    obtain ⟨f1, f2, f3⟩ := fw4_P (own (rv F n (n - 1 - q)) h) 4 0 1000
    rw [← e2] at f1 f2 f3
    obtain ⟨k', -, g2, g3⟩ := f3.resolve_left (by omega)
    have ea : fX0_leastAfter ch q h = am (own (rv F n (n - 1 - q)) h) 3 1 0 :=
      after_L5 (v := rv F n (n - 1 - q)) (show q < 24 by omega) (fun k hk => ⟨h1 q k (by omega) hk, by rcases rv_ok F n (n - 1 - q) k with w | w <;> omega⟩) 3 1 0 rfl (by decide)
    obtain ⟨m1, m2, m3⟩ := am_P (own (rv F n (n - 1 - q)) h) 3 1 0 (by decide) (fun k hk => by rw [show k = 0 by omega]; exact Nat.le_refl _) (fun k hk => absurd hk (Nat.not_lt_zero k))
    rw [fX6_who_L39, fX0_knitterOf_L38, ea]
    generalize am (own (rv F n (n - 1 - q)) h) 3 1 0 = m at m1 m2 m3 ⊢
    have em : own (rv F n (n - 1 - q)) h m = L := by
      have w1 := m2 k' (by omega)
      have w2 := f2 m (Nat.zero_le _) (by omega)
      omega
    have hs := w52_some (m := m) (s52_next (b := n - 1 - q) (L := L) (q := q) (h := h) (q11 := cg) (v := rv F n (n - 1 - q)) (by omega) hL hh (fun k hk => ⟨h2 q k (by omega) hk, rv_ok _ _ _ _⟩)) em (fun k hk z => by have := m3 k hk; omega) 4 (-6 : Int32) (Nat.le_refl _) (by omega)
    dsimp only
    rw [hs, if_neg (nI_pos (by omega))]
    by_cases c : m = h
    · have eo : own (rv F n (n - 1 - q)) h m = rv F n (n - 1 - q) m + 0 := by unfold own; rw [if_pos c]
      rw [if_pos (show nI h = nI m by rw [c]), show nI L - (0 : Int32) = nI (L - 0) from pk_sub (Nat.zero_le _), Nat.sub_zero]
      exact ih (q + 1) m L (by omega) (by omega) (by omega) hL (by rw [show q + 1 - 1 = q by omega]; omega)
    · have eo : own (rv F n (n - 1 - q)) h m = rv F n (n - 1 - q) m + 1 := by unfold own; rw [if_neg c]
      rw [if_neg (fun z => c ((nI_eq (by omega) (by omega)).mp z).symm), show nI L - (1 : Int32) = nI (L - 1) from pk_sub (b := 1) (by omega)]
      exact ih (q + 1) m (L - 1) (by omega) (by omega) (by omega) (by omega) (by rw [show q + 1 - 1 = q by omega]; omega)
theorem m_who {co ti an kt kn ch cg : Nat → Int32} {n : Nat} {ea : Int32} {b : Nat → Int32} (h : RS co ti an n ea b) (iK : RK kt kn) (a1 : Int32) {q : Int32 × (Nat → Int32)} (hq : fX5_who ch kt n ti a1 = q) {r : Int32 × (Nat → Int32)} (hr : fX6_who b kn cg a1 = r) : q.1 = r.1 := by
  have hm := RS_mN h
  have hn := h.1
  have hs := has_stitch h a1
  unfold fX5_who at hq
  unfold fX6_who at hr
  by_cases c : fX2_has n a1 = 0
  · rw [if_pos c] at hq
    rw [if_pos (hs ▸ c)] at hr
    subst hq; subst hr
    rfl
  · rw [if_neg c] at hq
    rw [if_neg (hs ▸ c)] at hr
    obtain ⟨k1, k2⟩ := below_P (b := n) (by omega) c
    generalize a1.toNatClampNeg = s at hq hr k1 k2
    dsimp only at hq hr
    obtain ⟨f1, f2⟩ := few_both h iK ch cg (show 0 < n by omega)
    have t1 : ∀ q k, q < n → k < 4 → fX0_count ch kt n ti (4 * q + k) = nI (rv (kF b kn) n (n - 1 - q) k) := fun q k w1 w2 => count_P h iK ch w1 w2
    have t2 : ∀ q k, q < n → k < 4 → fX6_layHands b kn cg (4 * q + k) = nI (wR (rv (kF b kn) n (n - 1 - q) k)) := fun q k w1 w2 => lay_P hm hn cg w1 w2
    rw [f1] at hq
    rw [f2] at hr
    have hok := fst_ok (F := kF b kn) (n := n) (d := n - 1) (by omega)
    have ho := wR_ok (show n - 1 ≤ 100 by omega) hok
    obtain ⟨g1, g2, g3⟩ := fw4_P (rv (kF b kn) n (n - 1)) 4 0 1000
    generalize fw4 (rv (kF b kn) n (n - 1)) 4 0 1000 = L at hq hr ho g1 g2 g3
    generalize fX0_count ch kt n ti = C at hq t1
    generalize fX6_layHands b kn cg = D at hr t2
    rcases ho with ⟨o1, o2⟩ | ⟨o1, o2⟩
    · rw [if_neg (show ¬ (1000 : Int32) ≤ nI L from fun z => by have := (nI_leI (a := 1000) (by decide) (by omega)).mp z; omega), if_neg (fun z => nI_m6 (k := L) (by omega) z)] at hq
      rw [o1, if_pos (show nI L < (1000000 : Int32) from (nI_ltI (b := 1000000) (by omega) (by decide)).mpr (by omega))] at hr
      obtain ⟨k', -, w2, w3⟩ := g3.resolve_left (by omega)
      have hv1 : ∀ k, k < 4 → C k = nI (rv (kF b kn) n (n - 1) k) ∧ rv (kF b kn) n (n - 1) k ≤ 1000 := fun k hk => by
        have e := t1 0 k (by omega) hk
        rw [show 4 * 0 + k = k by omega, show n - 1 - 0 = n - 1 by omega] at e
        exact ⟨e, by rcases rv_ok (kF b kn) n (n - 1) k with w | w <;> omega⟩
      have hv2 : ∀ k, k < 4 → D (4 * 0 + k) = nI (wR (rv (kF b kn) n (n - 1) k)) ∧ oOk (n - 1) (rv (kF b kn) n (n - 1) k) := fun k hk => by
        have e := t2 0 k (by omega) hk
        rw [show n - 1 - 0 = n - 1 by omega] at e
        exact ⟨e, rv_ok _ _ _ _⟩
      have ek : fX0_knitterOf C s = fX0_knitterOf_L38 C s 1 (am (rv (kF b kn) n (n - 1)) 3 1 0) := by
        have e0 : fX0_knitterOf C s = fX0_knitterOf_L38 C ((s + 1) - 1) 1 (fX0_knitterOf_L4 C (4 - 1) 1 0) := rfl
        rw [e0, kn_L4 hv1 3 1 0 rfl (by decide), show (s + 1) - 1 = s by omega]
      obtain ⟨m1, m2, m3⟩ := am_P (rv (kF b kn) n (n - 1)) 3 1 0 (by decide) (fun k hk => by rw [show k = 0 by omega]; exact Nat.le_refl _) (fun k hk => absurd hk (Nat.not_lt_zero k))
      rw [ek] at hq
      generalize am (rv (kF b kn) n (n - 1)) 3 1 0 = m at hq m1 m2 m3
      have em : rv (kF b kn) n (n - 1) m = L := by
        have w4 := m2 k' (by omega)
        have w5 := g2 m (Nat.zero_le _) (by omega)
        omega
      have hf := w52_some (m := m) (s52_first (b := n - 1) (L := L) (q11 := D) (v := rv (kF b kn) n (n - 1)) (by omega) (by omega) hv2) em (fun k hk z => by have := m3 k hk; omega) 4 (-6 : Int32) (Nat.le_refl _) (by omega)
      have e39 : fX6_who_L39 D (s + 1) 0 (nI L) (-6 : Int32) = fX6_who_L39 D s 1 (nI L) (nI m) := by
        rw [fX6_who_L39]
        dsimp only
        rw [hf, if_pos (by decide), show nI L - (0 : Int32) = nI (L - 0) from pk_sub (Nat.zero_le _), Nat.sub_zero]
      have hl := who_lock hn t1 t2 s 1 m L (by omega) (Nat.le_refl _) (by omega) (by omega) (by rw [show n - 1 - (1 - 1) = n - 1 by omega]; exact em.symm)
      rw [e39] at hr
      generalize fX6_who_L39 D s 1 (nI L) (nI m) = T at hr hl
      obtain ⟨T1, T2⟩ := T
      dsimp only at hr hl
      subst hq; subst hr
      exact hl.symm
    · rw [o2, if_pos (show (1000 : Int32) ≤ nI 1000 by decide), if_pos rfl] at hq
      rw [o1, if_neg (show ¬ nI 1000000 < (1000000 : Int32) by decide)] at hr
      subst hq; subst hr
      rfl
