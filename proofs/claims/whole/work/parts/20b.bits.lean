/-! ===== Int32 by its bits: bt x i ===== -/
def bt (x : Int32) (i : Nat) : Bool := x.toBitVec.getLsbD i
theorem b_ext {x y : Int32} (h : ∀ i, i < 32 → bt x i = bt y i) : x = y := Int32.toBitVec_inj.mp (BitVec.eq_of_getLsbD_eq (fun i hi => h i hi))
theorem b_or (x y : Int32) (i : Nat) : bt (x ||| y) i = (bt x i || bt y i) := by unfold bt; rw [Int32.toBitVec_or, BitVec.getLsbD_or]
theorem b_and (x y : Int32) (i : Nat) : bt (x &&& y) i = (bt x i && bt y i) := by unfold bt; rw [Int32.toBitVec_and, BitVec.getLsbD_and]
theorem b_xor (x y : Int32) (i : Nat) : bt (x ^^^ y) i = (bt x i ^^ bt y i) := by unfold bt; rw [Int32.toBitVec_xor, BitVec.getLsbD_xor]
theorem b_big {x : Int32} {i : Nat} (h : 32 ≤ i) : bt x i = false := BitVec.getLsbD_of_ge _ _ h
theorem b_255 (i : Nat) : bt 255 i = decide (i < 8) := by
  rcases Nat.lt_or_ge i 32 with h | h
  · exact (by decide +kernel : ∀ i, i < 32 → bt 255 i = decide (i < 8)) i h
  · rw [b_big h, decide_eq_false (by omega)]
theorem b_65535 (i : Nat) : bt 65535 i = decide (i < 16) := by
  rcases Nat.lt_or_ge i 32 with h | h
  · exact (by decide +kernel : ∀ i, i < 32 → bt 65535 i = decide (i < 16)) i h
  · rw [b_big h, decide_eq_false (by omega)]
theorem b_m1 : ∀ i, i < 32 → bt (-1) i = true := by decide +kernel
theorem b_0 (i : Nat) : bt 0 i = false := BitVec.getLsbD_zero
theorem s_l : ∀ n, n < 32 → ((nI n &&& 31).toBitVec.smod 32).toNat = n := by decide +kernel
theorem s_u : ∀ n, n < 32 → (((nI n).toUInt32 &&& Int32.toUInt32 31).toBitVec % 32).toNat = n := by decide +kernel
theorem b_shl (n : Nat) (hn : n < 32) (x : Int32) {i : Nat} (hi : i < 32) : bt (x <<< (nI n &&& 31)) i = (decide (n ≤ i) && bt x (i - n)) := by
  unfold bt
  rw [Int32.toBitVec_shiftLeft]
  show (x.toBitVec <<< ((nI n &&& 31).toBitVec.smod 32).toNat).getLsbD i = _
  rw [s_l n hn, BitVec.getLsbD_shiftLeft]
  rcases Nat.lt_or_ge i n with h | h
  · simp [h, Nat.not_le.mpr h]
  · simp [hi, h, Nat.not_lt.mpr h]
theorem b_ushr (n : Nat) (hn : n < 32) (x : Int32) (i : Nat) : bt ((x.toUInt32 >>> ((nI n).toUInt32 &&& Int32.toUInt32 31)).toInt32) i = bt x (n + i) := by
  show (x.toUInt32 >>> ((nI n).toUInt32 &&& Int32.toUInt32 31)).toBitVec.getLsbD i = x.toUInt32.toBitVec.getLsbD (n + i)
  rw [UInt32.toBitVec_shiftRight]
  show (x.toUInt32.toBitVec >>> (((nI n).toUInt32 &&& Int32.toUInt32 31).toBitVec % 32).toNat).getLsbD i = _
  rw [s_u n hn, BitVec.getLsbD_ushiftRight]
theorem b_sshr (n : Nat) (hn : n < 32) (x : Int32) {i : Nat} (hi : i < 32) : bt (x >>> (nI n &&& 31)) i = if n + i < 32 then bt x (n + i) else bt x 31 := by
  unfold bt
  rw [Int32.toBitVec_shiftRight]
  show (x.toBitVec.sshiftRight ((nI n &&& 31).toBitVec.smod 32).toNat).getLsbD i = _
  rw [s_l n hn, BitVec.getLsbD_sshiftRight, BitVec.msb_eq_getLsbD_last]
  simp [hi]
theorem b_shl8 (x : Int32) {i : Nat} (hi : i < 32) : bt (x <<< ((8 : Int32) &&& 31)) i = (decide (8 ≤ i) && bt x (i - 8)) := b_shl 8 (by omega) x hi
theorem b_shl16 (x : Int32) {i : Nat} (hi : i < 32) : bt (x <<< ((16 : Int32) &&& 31)) i = (decide (16 ≤ i) && bt x (i - 16)) := b_shl 16 (by omega) x hi
theorem b_shl24 (x : Int32) {i : Nat} (hi : i < 32) : bt (x <<< ((24 : Int32) &&& 31)) i = (decide (24 ≤ i) && bt x (i - 24)) := b_shl 24 (by omega) x hi
theorem b_sshr8 (x : Int32) {i : Nat} (hi : i < 32) : bt (x >>> ((8 : Int32) &&& 31)) i = if 8 + i < 32 then bt x (8 + i) else bt x 31 := b_sshr 8 (by omega) x hi
/-! bits and ranges, as class and reference ask for them -/
theorem bt_1 (i : Nat) : bt (1 : Int32) i = decide (i = 0) := by
  rcases Nat.lt_or_ge i 32 with h | h
  · exact (by decide +kernel : ∀ i, i < 32 → bt (1 : Int32) i = decide (i = 0)) i h
  · rw [b_big h, decide_eq_false (by omega)]
theorem bt_p {j i : Nat} (hj : j < 32) (hi : i < 32) : bt ((1 : Int32) <<< (nI j &&& 31)) i = decide (i = j) := by
  rw [b_shl j hj 1 hi, bt_1]
  by_cases h : i = j
  · subst h; simp
  · by_cases h2 : j ≤ i
    · have h3 : ¬ i - j = 0 := by omega
      simp [h, h3]
    · simp [h, h2]
theorem bt_and_p {x : Int32} {j : Nat} (hj : j < 32) : (x &&& ((1 : Int32) <<< (nI j &&& 31))) = 0 ↔ bt x j = false := by
  constructor
  · intro h
    have h2 : bt (x &&& ((1 : Int32) <<< (nI j &&& 31))) j = false := by rw [h]; exact b_0 j
    rw [b_and, bt_p hj hj] at h2
    simpa using h2
  · intro h
    refine b_ext (fun i hi => ?_)
    rw [b_and, bt_p hj hi, b_0]
    by_cases q : i = j
    · subst q; simp [h]
    · simp [q]
theorem isIn_bt {x : Int32} {j : Nat} (hj : j < 32) : fX5_isIn x (nI j) = if bt x j = true then (1 : Int32) else (0 : Int32) := by
  unfold fX5_isIn
  rw [if_neg (nI_pos (by omega)), if_neg (show ¬ (32 : Int32) ≤ nI j from fun h => absurd ((nI_leI (a := 32) (by omega) (by omega)).mp h) (by omega))]
  by_cases h : bt x j = true
  · rw [if_pos h, if_neg (fun q => by rw [bt_and_p hj] at q; rw [q] at h; cases h)]
  · rw [if_neg h, if_pos ((bt_and_p hj).mpr (by simpa using h))]
theorem isIn_m1 (x : Int32) : fX5_isIn x (-1 : Int32) = 0 := by
  unfold fX5_isIn
  rw [if_pos (by decide)]
theorem isEaten_bt {x : Int32} {j : Nat} (hj : j < 32) : fX2_isEaten x (nI j) = if bt x j = true then (1 : Int32) else (0 : Int32) := isIn_bt hj
theorem bt_and1 (y : Int32) : (y &&& (1 : Int32)) = if bt y 0 = true then (1 : Int32) else (0 : Int32) := by
  refine b_ext (fun i hi => ?_)
  rw [b_and, bt_1]
  by_cases h : bt y 0 = true
  · rw [if_pos h, bt_1]
    by_cases q : i = 0
    · subst q; simp [h]
    · simp [q]
  · rw [if_neg h, b_0]
    by_cases q : i = 0
    · subst q; simpa using h
    · simp [q]
theorem shr_bt {x : Int32} {j : Nat} (hj : j < 32) : ((x >>> (nI j &&& 31)) &&& (1 : Int32)) = if bt x j = true then (1 : Int32) else (0 : Int32) := by
  rw [bt_and1, b_sshr j hj x (by omega), Nat.add_zero, if_pos hj]
theorem has_bt {x : Int32} {j : Nat} (hj : j < 32) : fX6_has x (nI j) = if bt x j = true then (1 : Int32) else (0 : Int32) := by
  unfold fX6_has
  rw [shr_bt hj]
  by_cases h : bt x j = true
  · rw [if_pos h, if_pos rfl]
  · rw [if_neg h, if_neg (by decide)]
theorem at_nI {f : Nat → Int32} {N j : Nat} (hj : j < N) (hN : N < 2 ^ 31) : fX5_at f N (nI j) = f j := by
  unfold fX5_at
  rw [if_neg (nI_pos (by omega)), if_neg (fun h => absurd ((nI_leI hN (by omega)).mp h) (by omega)), nI_clamp (by omega)]
theorem put_nI {f : Nat → Int32} {N j : Nat} {v : Int32} (hj : j < N) (hN : N < 2 ^ 31) : fX5_put f N (nI j) v = upd f j v := by
  unfold fX5_put
  rw [if_neg (nI_pos (by omega)), if_neg (fun h => absurd ((nI_leI hN (by omega)).mp h) (by omega)), nI_clamp (by omega)]
/-- below b + 1, and from 0 to b: the same question -/
theorem below_in (x : Int32) {b : Nat} (hb : b + 1 < 2 ^ 31) : fX5_isBelow x (nI (b + 1)) = fX6_in x (0 : Int32) (nI b) := by
  unfold fX5_isBelow fX6_in
  by_cases h0 : x < 0
  · rw [if_pos h0, if_pos h0]
  · rw [if_neg h0, if_neg h0]
    obtain ⟨j, hj, rfl⟩ := nI_of h0
    by_cases h : b < j
    · rw [if_pos ((nI_leI (by omega) hj).mpr (by omega)), if_pos ((nI_ltI (by omega) hj).mpr h)]
    · rw [if_neg (fun q => h (by have := (nI_leI (by omega) hj).mp q; omega)), if_neg (fun q => h ((nI_ltI (by omega) hj).mp q))]
theorem below_P {x : Int32} {b : Nat} (hb : b < 2 ^ 31) (h : ¬ fX5_isBelow x (nI b) = 0) : x = nI x.toNatClampNeg ∧ x.toNatClampNeg < b := by
  unfold fX5_isBelow at h
  rcases pk_ix x hb with h1 | h1 | ⟨j, hj, rfl⟩
  · rw [if_pos h1] at h; exact absurd rfl h
  · by_cases h0 : x < 0
    · rw [if_pos h0] at h; exact absurd rfl h
    · rw [if_neg h0, if_pos h1] at h; exact absurd rfl h
  · rw [nI_clamp (by omega)]; exact ⟨rfl, hj⟩
theorem upd_s {f : Nat → Int32} {k : Nat} {x : Int32} : upd f k x k = x := pk_us
theorem upd_n {f : Nat → Int32} {k j : Nat} {x : Int32} (h : j ≠ k) : upd f k x j = f j := pk_un h
theorem bt_ite {c : Prop} [Decidable c] {x y : Int32} {i : Nat} : bt (if c then x else y) i = if c then bt x i else bt y i := by
  by_cases h : c
  · rw [if_pos h, if_pos h]
  · rw [if_neg h, if_neg h]
theorem in_01 (x lo hi : Int32) : fX6_in x lo hi = 0 ∨ fX6_in x lo hi = 1 := by
  unfold fX6_in
  by_cases c : x < lo
  · rw [if_pos c]; exact Or.inl rfl
  · rw [if_neg c]
    by_cases c2 : hi < x
    · rw [if_pos c2]; exact Or.inl rfl
    · rw [if_neg c2]; exact Or.inr rfl
