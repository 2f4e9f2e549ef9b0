/-! ripping till two rows agree: both keep the longest common row -/
def lcR (prev : Nat → Nat) (e : Nat → Bool) : Nat → Nat
  | 0 => 0
  | j + 1 => max (max (prev (j + 1)) (lcR prev e j)) (prev j + (if e j = true then 1 else 0))
def lcs (a b : Nat → Int32) : Nat → Nat → Nat
  | 0 => fun _ => 0
  | i + 1 => lcR (lcs a b i) (fun j => decide (a i = b j))
theorem lcs_0 (a b : Nat → Int32) (i : Nat) : lcs a b i 0 = 0 := by
  cases i with
  | zero => rfl
  | succ i => rfl
theorem lcs_s (a b : Nat → Int32) (i j : Nat) : lcs a b (i + 1) (j + 1) = max (max (lcs a b i (j + 1)) (lcs a b (i + 1) j)) (lcs a b i j + (if a i = b j then 1 else 0)) := by
  show max (max (lcs a b i (j + 1)) (lcs a b (i + 1) j)) (lcs a b i j + (if decide (a i = b j) = true then 1 else 0)) = _
  by_cases c : a i = b j
  · rw [if_pos (decide_eq_true c), if_pos c]
  · rw [if_neg (by simpa using c), if_neg c]
theorem lcs_mono (a b : Nat → Int32) (i j : Nat) : lcs a b i j ≤ lcs a b i (j + 1) := by
  cases i with
  | zero => exact Nat.le_refl _
  | succ i =>
    rw [lcs_s]
    omega
theorem lcs_le (a b : Nat → Int32) : ∀ i j, lcs a b i j ≤ i := by
  intro i
  induction i with
  | zero => intro j; exact Nat.le_refl _
  | succ i ih =>
    intro j
    induction j with
    | zero => rw [lcs_0]; exact Nat.zero_le _
    | succ j ihj =>
      rw [lcs_s]
      have h1 := ih (j + 1)
      have h2 := ih j
      split <;> omega
theorem if_max {x y : Nat} (hx : x < 2 ^ 31) (hy : y < 2 ^ 31) : (if nI x < nI y then nI y else nI x) = nI (max x y) := by
  by_cases c : x < y
  · rw [if_pos ((nI_ltI hx hy).mpr c)]
    exact congrArg nI (by omega)
  · rw [if_neg (fun q => c ((nI_ltI hx hy).mp q))]
    exact congrArg nI (by omega)
theorem ls_L2 : ∀ (r j : Nat) (g : Nat → Int32), r + j ≤ 25 → ∀ i, fX5_longestShared_L2 r j g i = if j ≤ i ∧ i < j + r then (0 : Int32) else g i := by
  intro r
  induction r with
  | zero => intro j g hr i; rw [fX5_longestShared_L2, if_neg (by omega)]
  | succ r ih =>
    intro j g hr i
    rw [fX5_longestShared_L2]
    dsimp only
    rw [put_nI (by omega) (by decide), ih _ _ (by omega)]
    by_cases q : i = j
    · subst q; rw [if_neg (by omega), if_pos (by omega), upd_s]
    · rw [upd_n q]
      by_cases c : j + 1 ≤ i ∧ i < j + 1 + r
      · rw [if_pos c, if_pos (by omega)]
      · rw [if_neg c, if_neg (by omega)]
theorem ls_L41 {co co2 a b : Nat → Int32} {n m i : Nat} (hn : n ≤ 24) (hm : m ≤ 24) (hi : i < n) (ha : ∀ k, k < n → co k = a k) (hb : ∀ k, k < m → co2 k = b k) : ∀ (r j : Nat) (g : Nat → Int32), r + j = m → (∀ k, k ≤ j → g k = nI (lcs a b (i + 1) k)) → (∀ k, j < k → k ≤ m → g k = nI (lcs a b i k)) → ∀ k, k ≤ m → (fX5_longestShared_L41 co co2 i r j (nI (lcs a b i j)) g).2 k = nI (lcs a b (i + 1) k) := by
  intro r
  induction r with
  | zero =>
    intro j g hr h1 h2 k hk
    rw [fX5_longestShared_L41]
    exact h1 k (by omega)
  | succ r ih =>
    intro j g hr h1 h2 k hk
    have b1 := lcs_le a b i j
    have b2 := lcs_le a b i (j + 1)
    have b3 := lcs_le a b (i + 1) j
    have mo := lcs_mono a b i j
    have hs := lcs_s a b i j
    rw [fX5_longestShared_L41, at_nI (show i < 24 by omega) (by decide), at_nI (show j < 24 by omega) (by decide), at_nI (show j + 1 < 25 by omega) (by decide), at_nI (show j < 25 by omega) (by decide), ha i hi, hb j (by omega), h1 j (Nat.le_refl _), h2 (j + 1) (by omega) (by omega), if_max (by omega) (by omega)]
    have put_ok : ∀ v, v = lcs a b (i + 1) (j + 1) → ∀ k, k ≤ m → (fX5_longestShared_L41 co co2 i r (j + 1) (nI (lcs a b i (j + 1))) (fX5_put g 25 (nI (j + 1)) (nI v))).2 k = nI (lcs a b (i + 1) k) := by
      intro v hv
      rw [put_nI (by omega) (by decide)]
      refine ih (j + 1) _ (by omega) (fun k hk => ?_) (fun k w1 w2 => ?_)
      · by_cases q : k = j + 1
        · subst q; rw [upd_s, hv]
        · rw [upd_n q]; exact h1 k (by omega)
      · rw [upd_n (by omega)]; exact h2 k (by omega) w2
    by_cases c : a i = b j
    · rw [if_pos c] at hs
      rw [if_pos c]
      dsimp only
      rw [nI_1, if_max (by omega) (by omega)]
      exact put_ok _ (by omega) k hk
    · rw [if_neg c] at hs
      rw [if_neg c]
      dsimp only
      rw [show (0 : Int32) = nI 0 from rfl, if_max (by decide) (by omega)]
      exact put_ok _ (by omega) k hk
theorem ls_L27 {co co2 a b : Nat → Int32} {n m : Nat} (hn : n ≤ 24) (hm : m ≤ 24) (ha : ∀ k, k < n → co k = a k) (hb : ∀ k, k < m → co2 k = b k) : ∀ (r i : Nat) (g : Nat → Int32), r + i = n → (∀ k, k ≤ m → g k = nI (lcs a b i k)) → ∀ k, k ≤ m → fX5_longestShared_L27 co m co2 r i g k = nI (lcs a b n k) := by
  intro r
  induction r with
  | zero => intro i g hr h k hk; rw [fX5_longestShared_L27]; rw [← (show i = n by omega)]; exact h k hk
  | succ r ih =>
    intro i g hr h k hk
    rw [fX5_longestShared_L27]
    have hL := ls_L41 hn hm (show i < n by omega) ha hb m 0 g rfl (fun k hk => by
      have : k = 0 := by omega
      subst this
      rw [h 0 (Nat.zero_le _), lcs_0, lcs_0]) (fun k _ hk => h k hk)
    rw [lcs_0, nI_0] at hL
    generalize fX5_longestShared_L41 co co2 i m 0 (0 : Int32) g = T at hL ⊢
    obtain ⟨T1, T2⟩ := T
    dsimp only at hL ⊢
    exact ih _ _ (by omega) hL k hk
theorem ls_eq {co co2 a b sc : Nat → Int32} {n m : Nat} (hn : n ≤ 24) (hm : m ≤ 24) (ha : ∀ k, k < n → co k = a k) (hb : ∀ k, k < m → co2 k = b k) : (fX5_longestShared sc n co m co2).1 = nI (lcs a b n m) := by
  have e : (fX5_longestShared sc n co m co2).1 = fX5_at (fX5_longestShared_L27 co m co2 n 0 (fX5_longestShared_L2 (m + 1) 0 sc)) 25 (nI m) := rfl
  rw [e, at_nI (by omega) (by decide)]
  exact ls_L27 hn hm ha hb n 0 _ rfl (fun k hk => by rw [ls_L2 _ _ _ (by omega), if_pos (by omega)]; rfl) m (Nat.le_refl _)
/-- the reference's table -/
theorem rp_L54 {bk im b : Nat → Int32} {kni : Int32} {K n m i : Nat} (hK : kni.toNatClampNeg = K) (hn : n ≤ 24) (hm : m ≤ 24) (hi : i ≤ n) (hb : ∀ k, k < m → im (150 * K + k) = b k) : ∀ (r j : Nat) (g : Nat → Int32), r + j = m + 1 → (∀ i' k, i' < i → k ≤ m → g (25 * i' + k) = nI (lcs bk b i' k)) → (∀ k, k < j → g (25 * i + k) = nI (lcs bk b i k)) → ∀ i' k, i' ≤ i → k ≤ m → fX6_rip_L54 bk im kni i r j g (25 * i' + k) = nI (lcs bk b i' k) := by
  intro r
  induction r with
  | zero =>
    intro j g hr h1 h2 i' k g1 g2
    rw [fX6_rip_L54]
    rcases Nat.eq_or_lt_of_le g1 with q | q
    · subst q; exact h2 k (by omega)
    · exact h1 i' k q g2
  | succ r ih =>
    intro j g hr h1 h2
    have put_ok : ∀ v, v = nI (lcs bk b i j) → ∀ i' k, i' ≤ i → k ≤ m → fX6_rip_L54 bk im kni i r (j + 1) (upd g (25 * i + j) v) (25 * i' + k) = nI (lcs bk b i' k) := by
      intro v hv
      refine ih (j + 1) _ (by omega) (fun i' k g1 g2 => ?_) (fun k g1 => ?_)
      · rw [upd_n (by omega)]; exact h1 i' k g1 g2
      · by_cases q : k = j
        · subst q; rw [upd_s, hv]
        · rw [upd_n (by omega)]; exact h2 k (by omega)
    intro i' k g1 g2
    rw [fX6_rip_L54]
    by_cases ci : i = 0
    · rw [if_pos ci]
      exact put_ok _ (by rw [ci]; rfl) i' k g1 g2
    · rw [if_neg ci]
      by_cases cj : j = 0
      · rw [if_pos cj]
        exact put_ok _ (by rw [cj, lcs_0]; rfl) i' k g1 g2
      · rw [if_neg cj]
        have x1 : g (25 * (i - 1) + j) = nI (lcs bk b (i - 1) j) := h1 (i - 1) j (by omega) (by omega)
        have x2 : g ((25 * i + j) - 1) = nI (lcs bk b i (j - 1)) := by
          rw [show (25 * i + j) - 1 = 25 * i + (j - 1) by omega]; exact h2 (j - 1) (by omega)
        have x3 : g ((25 * (i - 1) + j) - 1) = nI (lcs bk b (i - 1) (j - 1)) := by
          rw [show (25 * (i - 1) + j) - 1 = 25 * (i - 1) + (j - 1) by omega]; exact h1 (i - 1) (j - 1) (by omega) (by omega)
        have x4 : im ((150 * kni.toNatClampNeg + j) - 1) = b (j - 1) := by
          rw [hK, show (150 * K + j) - 1 = 150 * K + (j - 1) by omega]; exact hb (j - 1) (by omega)
        have hs := lcs_s bk b (i - 1) (j - 1)
        rw [show i - 1 + 1 = i by omega, show j - 1 + 1 = j by omega] at hs
        have l1 := lcs_le bk b (i - 1) j
        have l2 := lcs_le bk b i (j - 1)
        have l3 := lcs_le bk b (i - 1) (j - 1)
        rw [x1, x2, x3, x4, nI_1, show nI (lcs bk b (i - 1) (j - 1)) + (0 : Int32) = nI (lcs bk b (i - 1) (j - 1)) from nI_add _ 0]
        by_cases c : bk (i - 1) = b (j - 1)
        · rw [if_pos c] at hs
          rw [if_pos c]
          by_cases d1 : lcs bk b (i - 1) j ≤ lcs bk b i (j - 1)
          · rw [if_pos ((nI_leI (by omega) (by omega)).mpr d1)]
            by_cases d2 : lcs bk b (i - 1) (j - 1) + 1 ≤ lcs bk b i (j - 1)
            · rw [if_pos ((nI_leI (by omega) (by omega)).mpr d2)]
              exact put_ok _ (congrArg nI (by omega)) i' k g1 g2
            · rw [if_neg (fun q => d2 ((nI_leI (by omega) (by omega)).mp q))]
              exact put_ok _ (congrArg nI (by omega)) i' k g1 g2
          · rw [if_neg (fun q => d1 ((nI_leI (by omega) (by omega)).mp q))]
            by_cases d2 : lcs bk b (i - 1) (j - 1) + 1 ≤ lcs bk b (i - 1) j
            · rw [if_pos ((nI_leI (by omega) (by omega)).mpr d2)]
              exact put_ok _ (congrArg nI (by omega)) i' k g1 g2
            · rw [if_neg (fun q => d2 ((nI_leI (by omega) (by omega)).mp q))]
              exact put_ok _ (congrArg nI (by omega)) i' k g1 g2
        · rw [if_neg c] at hs
          rw [if_neg c]
          by_cases d1 : lcs bk b (i - 1) j ≤ lcs bk b i (j - 1)
          · rw [if_pos ((nI_leI (by omega) (by omega)).mpr d1)]
            by_cases d2 : lcs bk b (i - 1) (j - 1) ≤ lcs bk b i (j - 1)
            · rw [if_pos ((nI_leI (by omega) (by omega)).mpr d2)]
              exact put_ok _ (congrArg nI (by omega)) i' k g1 g2
            · rw [if_neg (fun q => d2 ((nI_leI (by omega) (by omega)).mp q))]
              exact put_ok _ (congrArg nI (by omega)) i' k g1 g2
          · rw [if_neg (fun q => d1 ((nI_leI (by omega) (by omega)).mp q))]
            by_cases d2 : lcs bk b (i - 1) (j - 1) ≤ lcs bk b (i - 1) j
            · rw [if_pos ((nI_leI (by omega) (by omega)).mpr d2)]
              exact put_ok _ (congrArg nI (by omega)) i' k g1 g2
            · rw [if_neg (fun q => d2 ((nI_leI (by omega) (by omega)).mp q))]
              exact put_ok _ (congrArg nI (by omega)) i' k g1 g2
theorem rp_L40 {bk im b : Nat → Int32} {kni : Int32} {K n m : Nat} (hK : kni.toNatClampNeg = K) (hn : n ≤ 24) (hm : m ≤ 24) (hmm : mN (imB im K) = m) (hb : ∀ k, k < m → im (150 * K + k) = b k) : ∀ (r i : Nat) (g : Nat → Int32), r + i = n + 1 → (∀ i' k, i' < i → k ≤ m → g (25 * i' + k) = nI (lcs bk b i' k)) → ∀ i' k, i' ≤ n → k ≤ m → fX6_rip_L40 bk im kni r i g (25 * i' + k) = nI (lcs bk b i' k) := by
  intro r
  induction r with
  | zero =>
    intro i g hr h i' k g1 g2
    rw [fX6_rip_L40]
    exact h i' k (by omega) g2
  | succ r ih =>
    intro i g hr h i' k g1 g2
    rw [fX6_rip_L40]
    dsimp only
    rw [hK, hmm]
    exact ih _ _ (by omega) (fun i' k w1 w2 => rp_L54 hK hn hm (show i ≤ n by omega) hb (m + 1) 0 g rfl h (fun k w => absurd w (Nat.not_lt_zero k)) i' k (by omega) w2) i' k g1 g2
theorem rip_one {co ti an : Nat → Int32} {n : Nat} {ea : Int32} {bk : Nat → Int32} (iS : RS co ti an n ea bk) {i : Nat} (hi : i < 2) {kp : Int32} {zk co2 ti2 an2 kt2 im sc ag : Nat → Int32} {n2 si2 : Nat} {ea2 fi2 : Int32} (h : RM i kp zk co2 ti2 an2 n2 ea2 kt2 si2 fi2 im) (hz : ¬ zk i = 0) : nI (n + n2) - (2 : Int32) * (fX5_longestShared sc n co n2 co2).1 = nI (mN bk + mN (imB im i)) - (2 : Int32) * (fX6_rip_L40 bk im (nI i) (mN bk + 1) 0 ag (25 * mN bk + mN (imB im i))) := by
  have g1 := (h.2.2 hz).1
  have hm := RS_mN iS
  have hm2 := RS_mN g1
  have hcl : (nI i).toNatClampNeg = i := nI_clamp (by omega)
  rw [ls_eq (a := bk) (b := imB im i) iS.1 h.1 (fun k hk => (RS_at iS hk).1) (fun k hk => (RS_at g1 hk).1), hm, hm2]
  rw [rp_L40 (b := imB im i) hcl iS.1 h.1 hm2 (fun k hk => rfl) (n + 1) 0 ag rfl (fun i' k w => absurd w (Nat.not_lt_zero i')) n n2 (Nat.le_refl _) (Nat.le_refl _)]
theorem m_rip {kp ea ea_1 fi_1 ea_2 fi_2 : Int32} {n n_1 si_1 n_2 si_2 : Nat} {co ti an co_1 ti_1 an_1 kt_1 co_2 ti_2 an_2 kt_2 bk im zk sc ag : Nat → Int32} (iS : RS co ti an n ea bk) (iM1 : RM 0 kp zk co_1 ti_1 an_1 n_1 ea_1 kt_1 si_1 fi_1 im) (iM2 : RM 1 kp zk co_2 ti_2 an_2 n_2 ea_2 kt_2 si_2 fi_2 im) (a1 : Int32) {q : Int32 × (Nat → Int32)} (hq : fX5_rip kp n co sc n_1 co_1 n_2 co_2 a1 = q) {r : Int32 × (Nat → Int32)} (hr : fX6_rip bk im zk ag a1 = r) : q.1 = r.1 := by
  have hb : fX5_isBelow a1 (2 : Int32) = fX6_in a1 (0 : Int32) (1 : Int32) := below_in a1 (b := 1) (by decide)
  unfold fX5_rip at hq
  unfold fX6_rip at hr
  rw [hb] at hq
  by_cases c : fX6_in a1 (0 : Int32) (1 : Int32) = 0
  · rw [if_pos c] at hq hr
    subst hq; subst hr
    rfl
  · rw [if_neg c] at hq hr
    obtain ⟨j, hj, rfl⟩ := in_ok (b := 1) (by decide) c
    have hcl : (nI j).toNatClampNeg = j := nI_clamp (by omega)
    have hz : fX5_isIn kp (nI j) = 0 ↔ zk j = 0 := by
      rcases (show j = 0 ∨ j = 1 by omega) with rfl | rfl
      · exact iM1.2.1
      · exact iM2.2.1
    rw [hcl] at hr
    by_cases z : zk j = 0
    · rw [if_pos (hz.mpr z)] at hq
      rw [if_pos z] at hr
      subst hq; subst hr
      rfl
    · rw [if_neg (fun w => z (hz.mp w))] at hq
      rw [if_neg z] at hr
      dsimp only at hr
      subst hr
      rcases (show j = 0 ∨ j = 1 by omega) with rfl | rfl
      · rw [if_pos (by decide)] at hq
        have hT := rip_one (sc := sc) (ag := ag) iS (by decide) iM1 z
        generalize fX5_longestShared sc n co n_1 co_1 = C at hq hT
        obtain ⟨ca, cb⟩ := C
        dsimp only at hq hT
        subst hq
        exact hT
      · rw [if_neg (by decide)] at hq
        have hT := rip_one (sc := sc) (ag := ag) iS (by decide) iM2 z
        generalize fX5_longestShared sc n co n_2 co_2 = C at hq hT
        obtain ⟨ca, cb⟩ := C
        dsimp only at hq hT
        subst hq
        exact hT
