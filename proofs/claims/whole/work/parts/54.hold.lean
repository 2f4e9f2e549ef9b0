/-! the wearers -/
def psum (f : Nat → Int32) : Nat → Nat
  | 0 => 0
  | k + 1 => psum f k + (f k).toNatClampNeg
theorem psum_le {f : Nat → Int32} {n : Nat} (h : ∀ k, k < n → (f k).toNatClampNeg ≤ 9) : ∀ k, k ≤ n → psum f k ≤ 9 * k := by
  intro k
  induction k with
  | zero => intro _; exact Nat.le_refl _
  | succ k ih =>
    intro hk
    have h1 := ih (by omega)
    have h2 := h k (by omega)
    show psum f k + (f k).toNatClampNeg ≤ 9 * (k + 1)
    omega
theorem psum_mono (f : Nat → Int32) {a : Nat} : ∀ {b : Nat}, a ≤ b → psum f a ≤ psum f b := by
  intro b
  induction b with
  | zero => intro h; rw [Nat.le_zero.mp h]; exact Nat.le_refl _
  | succ b ih =>
    intro h
    rcases Nat.eq_or_lt_of_le h with q | q
    · rw [q]; exact Nat.le_refl _
    · have := ih (by omega)
      show psum f a ≤ psum f b + (f b).toNatClampNeg
      omega
theorem RS_ti {co ti an : Nat → Int32} {n : Nat} {ea : Int32} {b : Nat → Int32} (h : RS co ti an n ea b) {k : Nat} (hk : k < n) : ∃ t, t < 10 ∧ ti k = nI t ∧ b (24 + k) = nI t := by
  obtain ⟨e, t, ht, e2⟩ := (h.2.2.1 k hk).2.1
  exact ⟨t, ht, e2, by rw [← e, e2]⟩
theorem RS_ti9 {co ti an : Nat → Int32} {n : Nat} {ea : Int32} {b : Nat → Int32} (h : RS co ti an n ea b) {k : Nat} (hk : k < n) : (ti k).toNatClampNeg ≤ 9 := by
  obtain ⟨t, ht, e, -⟩ := RS_ti h hk
  rw [e, nI_clamp (by omega)]
  omega
theorem tf_L4 {co ti an : Nat → Int32} {n : Nat} {ea : Int32} {b : Nat → Int32} (h : RS co ti an n ea b) : ∀ (r j : Nat), r + j = n → fX2_tightnessFrom_L4 ti r j (nI (psum ti j)) = nI (psum ti n) := by
  have hn := h.1
  intro r
  induction r with
  | zero => intro j hr; rw [fX2_tightnessFrom_L4]; rw [← (show j = n by omega)]
  | succ r ih =>
    intro j hr
    obtain ⟨t, ht, e, -⟩ := RS_ti h (show j < n by omega)
    have e2 : (ti j).toNatClampNeg = t := by rw [e, nI_clamp (by omega)]
    rw [fX2_tightnessFrom_L4, at_nI (show j < 24 by omega) (by decide), e, nI_add]
    have e3 : psum ti (j + 1) = psum ti j + t := by
      show psum ti j + (ti j).toNatClampNeg = _
      rw [e2]
    rw [← e3]
    exact ih _ (by omega)
theorem tf_eq {co ti an : Nat → Int32} {n : Nat} {ea : Int32} {b : Nat → Int32} (h : RS co ti an n ea b) : fX2_tightnessFrom n ti 0 = nI (psum ti n) ∧ (fX2_tightnessFrom n ti 0).toNatClampNeg = psum ti n ∧ psum ti n ≤ 216 := by
  have hn := h.1
  have e : fX2_tightnessFrom n ti 0 = nI (psum ti n) := tf_L4 h n 0 rfl
  have hp := psum_le (f := ti) (n := n) (fun k hk => RS_ti9 h hk) n (Nat.le_refl _)
  exact ⟨e, by rw [e, nI_clamp (by omega)], by omega⟩
/-- stretches: the same number, or too many on both sides -/
def SR (x y : Int32) : Prop := (∃ c, c ≤ 24 ∧ x = nI c ∧ y = nI c) ∨ (x = (25 : Int32) ∧ y = (1000000 : Int32))
theorem str_lock {co ti an : Nat → Int32} {n : Nat} {ea : Int32} {b : Nat → Int32} (h : RS co ti an n ea b) {B : Nat} (hB : B ≤ 216) : ∀ (r j c : Nat) (ro su op : Int32), r + j = n → c ≤ j → ((op = 0 ∧ ro = (-1 : Int32)) ∨ (¬ op = 0 ∧ ∃ S, S ≤ B ∧ ro = nI (B - S) ∧ su = nI S)) → SR (fX2_stretchesFrom_L8 ti (nI B) r j (nI c) ro) (fX6_stretches_L11 b (nI B) r j (nI c) su op) := by
  have hn := h.1
  intro r
  induction r with
  | zero =>
    intro j c ro su op hr hc _
    rw [fX2_stretchesFrom_L8, fX6_stretches_L11]
    exact Or.inl ⟨c, by omega, rfl, rfl⟩
  | succ r ih =>
    intro j c ro su op hr hc ho
    obtain ⟨t, ht, e1, e2⟩ := RS_ti h (show j < n by omega)
    rw [fX2_stretchesFrom_L8, fX6_stretches_L11, at_nI (show j < 24 by omega) (by decide), e1, e2]
    by_cases c1 : t ≤ B
    · have c1' : nI t ≤ nI B := (nI_leI (by omega) (by omega)).mpr c1
      rw [if_pos c1', if_pos c1', show (0 : Int32) + nI t = nI (0 + t) from nI_add 0 t, nI_1, pk_sub c1, Nat.zero_add]
      have anew := ih (j + 1) (c + 1) (nI (B - t)) (nI t) (1 : Int32) (by omega) (by omega) (Or.inr ⟨by decide, t, c1, rfl, rfl⟩)
      rcases ho with ⟨o1, o2⟩ | ⟨o1, S, o2, o3, o4⟩
      · rw [if_neg (show ¬ nI t ≤ ro from fun q => by
          rw [o2] at q
          have q1 := Int32.le_iff_toInt_le.mp q
          rw [nI_toInt (by omega)] at q1
          have q2 : (-1 : Int32).toInt = -1 := by decide
          omega), if_pos o1]
        exact anew
      · rw [if_neg o1, o3, o4, nI_add]
        by_cases c2 : S + t ≤ B
        · rw [if_pos ((nI_leI (a := t) (b := B - S) (by omega) (by omega)).mpr (by omega)), if_pos ((nI_leI (a := S + t) (b := B) (by omega) (by omega)).mpr c2), pk_sub (show t ≤ B - S by omega)]
          exact ih (j + 1) c _ _ _ (by omega) (by omega) (Or.inr ⟨o1, S + t, c2, congrArg nI (by omega), rfl⟩)
        · rw [if_neg (fun q => c2 (by have := (nI_leI (a := t) (b := B - S) (by omega) (by omega)).mp q; omega)), if_neg (fun q => c2 ((nI_leI (a := S + t) (b := B) (by omega) (by omega)).mp q))]
          exact anew
    · have c1' : ¬ nI t ≤ nI B := fun q => c1 ((nI_leI (by omega) (by omega)).mp q)
      rw [if_neg c1', if_neg c1']
      exact Or.inr ⟨rfl, rfl⟩
theorem str_SR {co ti an : Nat → Int32} {n : Nat} {ea : Int32} {b : Nat → Int32} (h : RS co ti an n ea b) {B : Nat} (hB : B ≤ 216) {k : Nat} (hk : k ≤ n) : SR (fX2_stretchesFrom n ti k (nI B)) (fX6_stretches b k (nI B)) := by
  have e : fX6_stretches b k (nI B) = fX6_stretches_L11 b (nI B) (n - k) k (nI 0) (0 : Int32) (0 : Int32) := by
    unfold fX6_stretches
    rw [RS_mN h]
    rfl
  rw [e]
  exact str_lock h hB (n - k) k 0 (-1 : Int32) (0 : Int32) (0 : Int32) (by omega) (Nat.zero_le _) (Or.inl ⟨rfl, rfl⟩)
theorem SR_cmp {x y : Int32} (h : SR x y) {w : Nat} (hw : w ≤ 9) : nI w < x ↔ ¬ y ≤ nI w := by
  rcases h with ⟨c, hc, rfl, rfl⟩ | ⟨rfl, rfl⟩
  · rw [nI_ltI (by omega) (by omega), nI_leI (by omega) (by omega)]
    omega
  · rw [show (25 : Int32) = nI 25 from rfl, show (1000000 : Int32) = nI 1000000 from rfl, nI_ltI (by omega) (by decide), nI_leI (by decide) (by omega)]
    constructor
    · intro _ q; omega
    · intro _; omega
theorem burden_lock {co ti an : Nat → Int32} {n : Nat} {ea : Int32} {b : Nat → Int32} (h : RS co ti an n ea b) {w : Nat} (hw : w ≤ 9) : ∀ (r j : Nat), r + j = psum ti n → fX5_leastBurden_L14 n ti (nI w) r j = nI (fX6_hold_L24 b (nI w) r j) ∧ fX6_hold_L24 b (nI w) r j ≤ psum ti n := by
  obtain ⟨t1, t2, t3⟩ := tf_eq h
  intro r
  induction r with
  | zero =>
    intro j hr
    rw [fX5_leastBurden_L14, fX6_hold_L24, t1]
    exact ⟨congrArg nI (by omega), by omega⟩
  | succ r ih =>
    intro j hr
    have hS := SR_cmp (str_SR h (show j ≤ 216 by omega) (Nat.zero_le n)) hw
    rw [fX5_leastBurden_L14, fX6_hold_L24]
    by_cases c : fX6_stretches b 0 (nI j) ≤ nI w
    · rw [if_neg (fun q => hS.mp q c), if_pos c]
      exact ⟨rfl, by omega⟩
    · rw [if_pos (hS.mpr c), if_neg c]
      exact ih _ (by omega)
theorem first_lock {co ti an : Nat → Int32} {n : Nat} {ea : Int32} {b : Nat → Int32} (h : RS co ti an n ea b) {w B : Nat} (hw : w ≤ 9) (h1 : 1 ≤ w) (hB : B ≤ 216) : ∀ (r j : Nat), r + j = n → fX5_fewestOfFirst_L2 n ti (nI w) (nI B) r j = fX6_hold_L49 b (nI w) B r j := by
  intro r
  induction r with
  | zero =>
    intro j hr
    rw [fX5_fewestOfFirst_L2, fX6_hold_L49]
    exact congrArg nI (by omega)
  | succ r ih =>
    intro j hr
    have hS := SR_cmp (str_SR h hB (show j ≤ n by omega)) (show w - 1 ≤ 9 by omega)
    rw [fX5_fewestOfFirst_L2, fX6_hold_L49, show nI w - (1 : Int32) = nI (w - 1) from pk_sub (b := 1) h1]
    by_cases c : fX6_stretches b j (nI B) ≤ nI (w - 1)
    · rw [if_neg (fun q => hS.mp q c), if_pos c]
    · rw [if_pos (hS.mpr c), if_neg c]
      exact ih _ (by omega)
theorem m_hold {co ti an : Nat → Int32} {n : Nat} {ea : Int32} {b : Nat → Int32} (h : RS co ti an n ea b) (a1 a2 : Int32) : fX5_hold n ti a1 a2 = fX6_hold b a1 a2 (fX2_tightnessFrom n ti 0).toNatClampNeg := by
  obtain ⟨t1, t2, t3⟩ := tf_eq h
  have hb : fX5_isBelow a2 (2 : Int32) = fX6_in a2 (0 : Int32) (1 : Int32) := below_in a2 (b := 1) (by decide)
  unfold fX5_hold fX6_hold
  rw [hb, t2]
  have e1 : fX6_in a1 (1 : Int32) (9 : Int32) = if a1 < (1 : Int32) then (0 : Int32) else if (9 : Int32) < a1 then (0 : Int32) else (1 : Int32) := rfl
  by_cases c1 : a1 < (1 : Int32)
  · rw [if_pos c1, if_pos (by rw [e1, if_pos c1])]
  · rw [if_neg c1]
    by_cases c2 : (9 : Int32) < a1
    · rw [if_pos c2, if_pos (by rw [e1, if_neg c1, if_pos c2])]
    · rw [if_neg c2]
      have ne : ¬ fX6_in a1 (1 : Int32) (9 : Int32) = 0 := by rw [e1, if_neg c1, if_neg c2]; decide
      rw [if_neg ne]
      obtain ⟨w, hw1, hw2, rfl⟩ := in_mn (a := 1) (b := 9) (by decide) (by decide) ne
      by_cases c3 : fX6_in a2 (0 : Int32) (1 : Int32) = 0
      · rw [if_pos c3, if_pos c3]
      · rw [if_neg c3, if_neg c3]
        dsimp only
        have e2 : fX5_leastBurden n ti (nI w) = fX5_leastBurden_L14 n ti (nI w) (psum ti n) 0 := by
          unfold fX5_leastBurden
          rw [t2]
        obtain ⟨l1, l2⟩ := burden_lock h hw2 (psum ti n) 0 rfl
        rw [e2, l1]
        by_cases c4 : a2 = 0
        · rw [if_pos c4, if_pos c4]
        · rw [if_neg c4, if_neg c4, RS_mN h]
          exact first_lock h hw2 hw1 (by omega) n 0 rfl
/-- with the whole of it, one wearer is enough -/
theorem one_L11 {co ti an : Nat → Int32} {n : Nat} {ea : Int32} {b : Nat → Int32} (h : RS co ti an n ea b) : ∀ (r j : Nat), r + j = n → fX6_stretches_L11 b (nI (psum ti n)) r j (nI 1) (nI (psum ti j)) (1 : Int32) = nI 1 := by
  obtain ⟨t1, t2, t3⟩ := tf_eq h
  intro r
  induction r with
  | zero => intro j hr; rw [fX6_stretches_L11]
  | succ r ih =>
    intro j hr
    obtain ⟨t, ht, e1, e2⟩ := RS_ti h (show j < n by omega)
    have e3 : psum ti (j + 1) = psum ti j + t := by
      show psum ti j + (ti j).toNatClampNeg = _
      rw [e1, nI_clamp (by omega)]
    have hmo := psum_mono ti (show j + 1 ≤ n by omega)
    rw [fX6_stretches_L11, e2, if_pos ((nI_leI (by omega) (by omega)).mpr (by omega)), if_neg (by decide), nI_add, ← e3, if_pos ((nI_leI (by omega) (by omega)).mpr hmo)]
    exact ih _ (by omega)
theorem law_wm {co ti an : Nat → Int32} {n : Nat} {ea : Int32} {bk : Nat → Int32} (iS : RS co ti an n ea bk) : (fX2_tightnessFrom n ti 0).toNatClampNeg ≤ 1000 ∧ ∀ kw : Int32, (1 : Int32) ≤ kw → fX6_stretches bk 0 (nI ((fX2_tightnessFrom n ti 0).toNatClampNeg)) ≤ kw := by
  obtain ⟨t1, t2, t3⟩ := tf_eq iS
  have hn := iS.1
  refine ⟨by omega, fun kw hk => ?_⟩
  rw [t2]
  have e : fX6_stretches bk 0 (nI (psum ti n)) = fX6_stretches_L11 bk (nI (psum ti n)) n 0 (0 : Int32) (0 : Int32) (0 : Int32) := by
    unfold fX6_stretches
    rw [RS_mN iS, Nat.sub_zero]
  rw [e]
  rcases Nat.eq_zero_or_pos n with q | q
  · rw [q, fX6_stretches_L11]
    exact Int32.le_trans (by decide) hk
  · obtain ⟨m, hm⟩ : ∃ m, n = m + 1 := ⟨n - 1, by omega⟩
    obtain ⟨t, ht, e1, e2⟩ := RS_ti iS (show 0 < n by omega)
    have e3 : psum ti 1 = t := by
      show 0 + (ti 0).toNatClampNeg = _
      rw [e1, nI_clamp (by omega), Nat.zero_add]
    have hmo := psum_mono ti (show 1 ≤ n by omega)
    have e4 : ∀ x, x = m + 1 → fX6_stretches_L11 bk (nI (psum ti n)) x 0 (0 : Int32) (0 : Int32) (0 : Int32) = fX6_stretches_L11 bk (nI (psum ti n)) m 1 (nI 1) (nI (psum ti 1)) (1 : Int32) := by
      intro x hx
      subst hx
      rw [fX6_stretches_L11, show bk (24 + 0) = nI t from e2, if_pos ((nI_leI (by omega) (by omega)).mpr (by omega)), if_pos rfl, e3, Int32.zero_add (nI t), show (0 : Int32) + (1 : Int32) = nI 1 by decide]
    rw [e4 n hm, one_L11 iS m 1 (by omega)]
    exact hk
