/-! bits and ranges, as class and reference ask for them -/
theorem bt_1 (i : Nat) : bt (1 : Int32) i = decide (i = 0) := by
  rcases Nat.lt_or_ge i 32 with h | h
  · exact (by decide +kernel : ∀ i, i < 32 → bt (1 : Int32) i = decide (i = 0)) i h
  · rw [b_big h, decide_eq_false (by omega)]
theorem bt_p {j i : Nat} (hj : j < 32) (hi : i < 32) : bt ((1 : Int32) <<< (nI j &&& 31)) i = decide (i = j) := by
  rw [b_shl j hj 1 hi, bt_1]
  by_cases h : i = j
  · subst h; simp
  · by_cases h2 : j ≤ i
    · have h3 : ¬ i - j = 0 := by omega
      simp [h, h3]
    · simp [h, h2]
theorem bt_and_p {x : Int32} {j : Nat} (hj : j < 32) : (x &&& ((1 : Int32) <<< (nI j &&& 31))) = 0 ↔ bt x j = false := by
  constructor
  · intro h
    have h2 : bt (x &&& ((1 : Int32) <<< (nI j &&& 31))) j = false := by rw [h]; exact b_0 j
    rw [b_and, bt_p hj hj] at h2
    simpa using h2
  · intro h
    refine b_ext (fun i hi => ?_)
    rw [b_and, bt_p hj hi, b_0]
    by_cases q : i = j
    · subst q; simp [h]
    · simp [q]
theorem isIn_bt {x : Int32} {j : Nat} (hj : j < 32) : fX5_isIn x (nI j) = if bt x j = true then (1 : Int32) else (0 : Int32) := by
  unfold fX5_isIn
  rw [if_neg (nI_pos (by omega)), if_neg (show ¬ (32 : Int32) ≤ nI j from fun h => absurd ((nI_leI (a := 32) (by omega) (by omega)).mp h) (by omega))]
  by_cases h : bt x j = true
  · rw [if_pos h, if_neg (fun q => by rw [bt_and_p hj] at q; rw [q] at h; cases h)]
  · rw [if_neg h, if_pos ((bt_and_p hj).mpr (by simpa using h))]
theorem isIn_m1 (x : Int32) : fX5_isIn x (-1 : Int32) = 0 := by
  unfold fX5_isIn
  rw [if_pos (by decide)]
theorem isEaten_bt {x : Int32} {j : Nat} (hj : j < 32) : fX2_isEaten x (nI j) = if bt x j = true then (1 : Int32) else (0 : Int32) := isIn_bt hj
theorem bt_and1 (y : Int32) : (y &&& (1 : Int32)) = if bt y 0 = true then (1 : Int32) else (0 : Int32) := by
  refine b_ext (fun i hi => ?_)
  rw [b_and, bt_1]
  by_cases h : bt y 0 = true
  · rw [if_pos h, bt_1]
    by_cases q : i = 0
    · subst q; simp [h]
    · simp [q]
  · rw [if_neg h, b_0]
    by_cases q : i = 0
    · subst q; simpa using h
    · simp [q]
theorem shr_bt {x : Int32} {j : Nat} (hj : j < 32) : ((x >>> (nI j &&& 31)) &&& (1 : Int32)) = if bt x j = true then (1 : Int32) else (0 : Int32) := by
  rw [bt_and1, b_sshr j hj x (by omega), Nat.add_zero, if_pos hj]
theorem has_bt {x : Int32} {j : Nat} (hj : j < 32) : fX6_has x (nI j) = if bt x j = true then (1 : Int32) else (0 : Int32) := by
  unfold fX6_has
  rw [shr_bt hj]
  by_cases h : bt x j = true
  · rw [if_pos h, if_pos rfl]
  · rw [if_neg h, if_neg (by decide)]
theorem at_nI {f : Nat → Int32} {N j : Nat} (hj : j < N) (hN : N < 2 ^ 31) : fX5_at f N (nI j) = f j := by
  unfold fX5_at
  rw [if_neg (nI_pos (by omega)), if_neg (fun h => absurd ((nI_leI hN (by omega)).mp h) (by omega)), nI_clamp (by omega)]
theorem put_nI {f : Nat → Int32} {N j : Nat} {v : Int32} (hj : j < N) (hN : N < 2 ^ 31) : fX5_put f N (nI j) v = upd f j v := by
  unfold fX5_put
  rw [if_neg (nI_pos (by omega)), if_neg (fun h => absurd ((nI_leI hN (by omega)).mp h) (by omega)), nI_clamp (by omega)]
/-- below b + 1, and from 0 to b: the same question -/
theorem below_in (x : Int32) {b : Nat} (hb : b + 1 < 2 ^ 31) : fX5_isBelow x (nI (b + 1)) = fX6_in x (0 : Int32) (nI b) := by
  unfold fX5_isBelow fX6_in
  by_cases h0 : x < 0
  · rw [if_pos h0, if_pos h0]
  · rw [if_neg h0, if_neg h0]
    obtain ⟨j, hj, rfl⟩ := nI_of h0
    by_cases h : b < j
    · rw [if_pos ((nI_leI (by omega) hj).mpr (by omega)), if_pos ((nI_ltI (by omega) hj).mpr h)]
    · rw [if_neg (fun q => h (by have := (nI_leI (by omega) hj).mp q; omega)), if_neg (fun q => h ((nI_ltI (by omega) hj).mp q))]
theorem below_P {x : Int32} {b : Nat} (hb : b < 2 ^ 31) (h : ¬ fX5_isBelow x (nI b) = 0) : x = nI x.toNatClampNeg ∧ x.toNatClampNeg < b := by
  unfold fX5_isBelow at h
  rcases pk_ix x hb with h1 | h1 | ⟨j, hj, rfl⟩
  · rw [if_pos h1] at h; exact absurd rfl h
  · by_cases h0 : x < 0
    · rw [if_pos h0] at h; exact absurd rfl h
    · rw [if_neg h0, if_pos h1] at h; exact absurd rfl h
  · rw [nI_clamp (by omega)]; exact ⟨rfl, hj⟩
theorem has_stitch {co ti an : Nat → Int32} {n : Nat} {ea : Int32} {b : Nat → Int32} (h : RS co ti an n ea b) (k : Int32) : fX2_has n k = fX6_isStitch b k := by
  have hm := RS_mN h
  have hn := h.1
  unfold fX2_has fX6_isStitch
  rw [hm]
  rcases Nat.eq_zero_or_pos n with q | q
  · subst q
    unfold fX5_isBelow fX6_in
    by_cases h0 : k < 0
    · rw [if_pos h0, if_pos h0]
    · rw [if_neg h0, if_neg h0]
      obtain ⟨j, hj, rfl⟩ := nI_of h0
      rw [if_pos (show nI 0 ≤ nI j from nI_pos' hj), if_pos]
      refine Int32.lt_iff_toInt_lt.mpr ?_
      rw [nI_toInt hj]
      have : (nI 0 + (-1)).toInt = -1 := by decide
      omega
  · obtain ⟨w, rfl⟩ : ∃ w, n = w + 1 := ⟨n - 1, by omega⟩
    rw [pk_m1]
    exact below_in k (by omega)
theorem RS_at {co ti an : Nat → Int32} {n : Nat} {ea : Int32} {b : Nat → Int32} (h : RS co ti an n ea b) {k : Nat} (hk : k < n) : co k = b k ∧ ti k = b (24 + k) ∧ (if bt ea k = true then (1 : Int32) else (0 : Int32)) = b (72 + k) := ⟨(h.2.2.1 k hk).1.1, (h.2.2.1 k hk).2.1.1, (h.2.2.1 k hk).2.2.2.symm⟩
