/-! how many are in a set -/
def cnt (f : Nat → Bool) : Nat → Nat
  | 0 => 0
  | k + 1 => cnt f k + (if f k = true then 1 else 0)
theorem cnt_le (f : Nat → Bool) : ∀ k, cnt f k ≤ k := by
  intro k
  induction k with
  | zero => exact Nat.le_refl _
  | succ k ih => unfold cnt; split <;> omega
theorem cnt_congr {f g : Nat → Bool} : ∀ {k : Nat}, (∀ i, i < k → f i = g i) → cnt f k = cnt g k := by
  intro k
  induction k with
  | zero => intro _; rfl
  | succ k ih => intro h; unfold cnt; rw [ih (fun i hi => h i (by omega)), h k (by omega)]
theorem cnt_add (f : Nat → Bool) (a : Nat) : ∀ b, cnt f (a + b) = cnt f a + cnt (fun i => f (a + i)) b := by
  intro b
  induction b with
  | zero => rfl
  | succ b ih =>
    show cnt f (a + b) + (if f (a + b) = true then 1 else 0) = cnt f a + (cnt (fun i => f (a + i)) b + (if f (a + b) = true then 1 else 0))
    rw [ih]; omega
theorem cnt_0 {f : Nat → Bool} {a b : Nat} (hab : a ≤ b) (h : ∀ i, a ≤ i → i < b → f i = false) : cnt f b = cnt f a := by
  obtain ⟨c, rfl⟩ : ∃ c, b = a + c := ⟨b - a, by omega⟩
  have h2 : ∀ c, cnt (fun _ => false) c = 0 := by
    intro c
    induction c with
    | zero => rfl
    | succ c ih => unfold cnt; rw [ih]; rfl
  have h3 : cnt (fun i => f (a + i)) c = cnt (fun _ => false) c := cnt_congr (fun i hi => h _ (by omega) (by omega))
  rw [cnt_add, h3, h2]; rfl
/-- a byte's count -/
def pb1 (b : Nat) : Nat := b - ((b / 2) &&& 85)
def pb2 (b : Nat) : Nat := (pb1 b &&& 51) + ((pb1 b / 4) &&& 51)
def pb (b : Nat) : Nat := (pb2 b + pb2 b / 16) &&& 15
def w4b (a b c d : Nat) : Nat := a + 256 * b + 65536 * c + 16777216 * d
theorem and_w4 {a b c d : Nat} {A B C D : Nat} (ha : a < 256) (hb : b < 256) (hc : c < 256) (hA : A < 256) (hB : B < 256) (hC : C < 256) : w4b a b c d &&& w4b A B C D = w4b (a &&& A) (b &&& B) (c &&& C) (d &&& D) := by
  have one : ∀ r R q Q : Nat, r < 256 → R < 256 → (r + 256 * q) &&& (R + 256 * Q) = (r &&& R) + 256 * (q &&& Q) := by
    intro r R q Q hr hR
    have h1 := Nat.and_mod_two_pow (a := r + 256 * q) (b := R + 256 * Q) (n := 8)
    have h2 := Nat.and_div_two_pow (a := r + 256 * q) (b := R + 256 * Q) (n := 8)
    have e1 : (r + 256 * q) % 2 ^ 8 = r := by omega
    have e2 : (R + 256 * Q) % 2 ^ 8 = R := by omega
    have e3 : (r + 256 * q) / 2 ^ 8 = q := by omega
    have e4 : (R + 256 * Q) / 2 ^ 8 = Q := by omega
    rw [e1, e2] at h1
    rw [e3, e4] at h2
    omega
  have e : ∀ a b c d : Nat, w4b a b c d = a + 256 * (b + 256 * (c + 256 * d)) := by intro a b c d; unfold w4b; omega
  rw [e a b c d, e A B C D, e (a &&& A), one _ _ _ _ ha hA, one _ _ _ _ hb hB, one _ _ _ _ hc hC]
theorem by_55 : ∀ u, u < 128 → ∀ v, v < 2 → (u + 128 * v) &&& 85 = u &&& 85 := by decide +kernel
theorem by_33 : ∀ u, u < 64 → ∀ v, v < 4 → (u + 64 * v) &&& 51 = u &&& 51 := by decide +kernel
theorem by_0f : ∀ u, u < 80 → ∀ v, v < 5 → (u + 16 * v) &&& 15 = u &&& 15 := by decide +kernel
theorem pb_r : ∀ b, b < 256 → ((b / 2) &&& 85) ≤ b ∧ pb1 b < 256 ∧ pb2 b ≤ 68 ∧ pb2 b / 16 ≤ 4 ∧ pb2 b % 16 ≤ 4 ∧ pb b ≤ 8 ∧ (pb1 b &&& 51) ≤ 51 ∧ ((pb1 b / 4) &&& 51) ≤ 51 ∧ ((b / 2) &&& 85) ≤ 85 := by decide +kernel
theorem pb_c : ∀ b, b < 256 → cnt (fun i => decide (b / 2 ^ i % 2 = 1)) 8 = pb b := by decide +kernel
theorem w4_of (x : Nat) (hx : x < 2 ^ 32) : x = w4b (x % 256) (x / 256 % 256) (x / 65536 % 256) (x / 16777216) ∧ x / 16777216 < 256 := by
  unfold w4b; omega
theorem pop_nat (a b c d : Nat) (ha : a < 256) (hb : b < 256) (hc : c < 256) (hd : d < 256) : let x := w4b a b c d
    let w1 := x - ((x / 2) &&& 1431655765)
    let w2 := (w1 &&& 858993459) + ((w1 / 4) &&& 858993459)
    let w3 := (w2 + w2 / 16) &&& 252645135
    let w4 := w3 + w3 / 256
    let w5 := w4 + w4 / 65536
    ((x / 2) &&& 1431655765) ≤ x ∧ w2 < 2 ^ 32 ∧ w2 + w2 / 16 < 2 ^ 32 ∧ w4 < 2 ^ 32 ∧ w5 < 2 ^ 32 ∧ w5 % 64 = pb a + pb b + pb c + pb d := by
  intro x w1 w2 w3 w4 w5
  obtain ⟨a1, a2, a3, a4, a5, a6, a7, a8, a9⟩ := pb_r a ha
  obtain ⟨b1, b2, b3, b4, b5, b6, b7, b8, b9⟩ := pb_r b hb
  obtain ⟨c1, c2, c3, c4, c5, c6, c7, c8, c9⟩ := pb_r c hc
  obtain ⟨d1, d2, d3, d4, d5, d6, d7, d8, d9⟩ := pb_r d hd
  have e1 : ((x / 2) &&& 1431655765) = w4b ((a / 2) &&& 85) ((b / 2) &&& 85) ((c / 2) &&& 85) ((d / 2) &&& 85) := by
    have h : x / 2 = w4b (a / 2 + 128 * (b % 2)) (b / 2 + 128 * (c % 2)) (c / 2 + 128 * (d % 2)) (d / 2) := by
      show w4b a b c d / 2 = _
      unfold w4b; omega
    rw [h, show (1431655765 : Nat) = w4b 85 85 85 85 from rfl, and_w4 (by omega) (by omega) (by omega) (by decide) (by decide) (by decide), by_55 _ (by omega) _ (by omega), by_55 _ (by omega) _ (by omega), by_55 _ (by omega) _ (by omega)]
  have e2 : w1 = w4b (pb1 a) (pb1 b) (pb1 c) (pb1 d) := by
    show x - ((x / 2) &&& 1431655765) = _
    rw [e1]
    show w4b a b c d - _ = _
    unfold w4b pb1; omega
  have e3 : (w1 &&& 858993459) = w4b (pb1 a &&& 51) (pb1 b &&& 51) (pb1 c &&& 51) (pb1 d &&& 51) := by
    rw [e2, show (858993459 : Nat) = w4b 51 51 51 51 from rfl, and_w4 (by omega) (by omega) (by omega) (by decide) (by decide) (by decide)]
  have e4 : ((w1 / 4) &&& 858993459) = w4b ((pb1 a / 4) &&& 51) ((pb1 b / 4) &&& 51) ((pb1 c / 4) &&& 51) ((pb1 d / 4) &&& 51) := by
    have h : w1 / 4 = w4b (pb1 a / 4 + 64 * (pb1 b % 4)) (pb1 b / 4 + 64 * (pb1 c % 4)) (pb1 c / 4 + 64 * (pb1 d % 4)) (pb1 d / 4) := by
      rw [e2]; unfold w4b; omega
    rw [h, show (858993459 : Nat) = w4b 51 51 51 51 from rfl, and_w4 (by omega) (by omega) (by omega) (by decide) (by decide) (by decide), by_33 _ (by omega) _ (by omega), by_33 _ (by omega) _ (by omega), by_33 _ (by omega) _ (by omega)]
  have e5 : w2 = w4b (pb2 a) (pb2 b) (pb2 c) (pb2 d) := by
    show (w1 &&& 858993459) + ((w1 / 4) &&& 858993459) = _
    rw [e3, e4]; unfold w4b pb2; omega
  have e6 : w2 + w2 / 16 = w4b (pb2 a + pb2 a / 16 + 16 * (pb2 b % 16)) (pb2 b + pb2 b / 16 + 16 * (pb2 c % 16)) (pb2 c + pb2 c / 16 + 16 * (pb2 d % 16)) (pb2 d + pb2 d / 16) := by
    rw [e5]; unfold w4b; omega
  have e7 : w3 = w4b (pb a) (pb b) (pb c) (pb d) := by
    show (w2 + w2 / 16) &&& 252645135 = _
    rw [e6, show (252645135 : Nat) = w4b 15 15 15 15 from rfl, and_w4 (by omega) (by omega) (by omega) (by decide) (by decide) (by decide), by_0f _ (by omega) _ (by omega), by_0f _ (by omega) _ (by omega), by_0f _ (by omega) _ (by omega)]
    rfl
  have e8 : w4 = w4b (pb a + pb b) (pb b + pb c) (pb c + pb d) (pb d) := by
    show w3 + w3 / 256 = _
    rw [e7]; unfold w4b; omega
  have e9 : w5 = w4b (pb a + pb b + (pb c + pb d)) (pb b + pb c + pb d) (pb c + pb d) (pb d) := by
    show w4 + w4 / 65536 = _
    rw [e8]; unfold w4b; omega
  refine ⟨?_, ?_, ?_, ?_, ?_, ?_⟩
  · rw [e1]; show _ ≤ w4b a b c d; unfold w4b; omega
  · rw [e5]; unfold w4b; omega
  · rw [e6]; unfold w4b; omega
  · rw [e8]; unfold w4b; omega
  · rw [e9]; unfold w4b; omega
  · rw [e9]; unfold w4b; omega
theorem nI_self (x : Int32) : x = nI x.toBitVec.toNat := by
  refine Int32.toBitVec_inj.mp (BitVec.eq_of_toNat_eq ?_)
  rw [pk_tn x.toBitVec.isLt]
theorem nI_and {a b : Nat} (ha : a < 2 ^ 32) (hb : b < 2 ^ 32) : nI a &&& nI b = nI (a &&& b) := by
  refine Int32.toBitVec_inj.mp (BitVec.eq_of_toNat_eq ?_)
  have h : a &&& b < 2 ^ 32 := Nat.and_lt_two_pow a hb
  rw [pk_tn h, Int32.toBitVec_and, BitVec.toNat_and, pk_tn ha, pk_tn hb]
theorem bt_nI {n : Nat} (hn : n < 2 ^ 32) (i : Nat) : bt (nI n) i = decide (n / 2 ^ i % 2 = 1) := by
  unfold bt
  rw [← BitVec.testBit_toNat, pk_tn hn, Nat.testBit_eq_decide_div_mod_eq]
def bc1 (x : Int32) : Int32 := x - ((x.toUInt32 >>> ((1 : Int32).toUInt32 &&& Int32.toUInt32 31)).toInt32 &&& (1431655765 : Int32))
def bc2 (x : Int32) : Int32 := (x &&& (858993459 : Int32)) + ((x.toUInt32 >>> ((2 : Int32).toUInt32 &&& Int32.toUInt32 31)).toInt32 &&& (858993459 : Int32))
def bc3 (x : Int32) : Int32 := (x + (x.toUInt32 >>> ((4 : Int32).toUInt32 &&& Int32.toUInt32 31)).toInt32) &&& (252645135 : Int32)
def bc4 (x : Int32) : Int32 := x + (x.toUInt32 >>> ((8 : Int32).toUInt32 &&& Int32.toUInt32 31)).toInt32
def bc5 (x : Int32) : Int32 := (x + (x.toUInt32 >>> ((16 : Int32).toUInt32 &&& Int32.toUInt32 31)).toInt32) &&& (63 : Int32)
theorem bc1_N {N : Nat} (h : N < 2 ^ 32) (h2 : ((N / 2) &&& 1431655765) ≤ N) : bc1 (nI N) = nI (N - ((N / 2) &&& 1431655765)) := by
  unfold bc1
  rw [pk_ushrN h 1 1 (by decide), show (1431655765 : Int32) = nI 1431655765 by decide, nI_and (show N / 2 ^ 1 < 2 ^ 32 by omega) (by decide), pk_sub (show N / 2 ^ 1 &&& 1431655765 ≤ N from h2)]
theorem bc2_N {N : Nat} (h : N < 2 ^ 32) : bc2 (nI N) = nI ((N &&& 858993459) + ((N / 4) &&& 858993459)) := by
  unfold bc2
  rw [pk_ushrN h 2 2 (by decide), show (858993459 : Int32) = nI 858993459 by decide, nI_and h (by decide), nI_and (show N / 2 ^ 2 < 2 ^ 32 by omega) (by decide), nI_add]
theorem bc3_N {N : Nat} (h : N < 2 ^ 32) (h2 : N + N / 16 < 2 ^ 32) : bc3 (nI N) = nI ((N + N / 16) &&& 252645135) := by
  unfold bc3
  rw [pk_ushrN h 4 4 (by decide), show (252645135 : Int32) = nI 252645135 by decide, nI_add, nI_and (show N + N / 2 ^ 4 < 2 ^ 32 by omega) (by decide)]
theorem bc4_N {N : Nat} (h : N < 2 ^ 32) : bc4 (nI N) = nI (N + N / 256) := by
  unfold bc4
  rw [pk_ushrN h 8 8 (by decide), nI_add]
theorem bc5_N {N : Nat} (h : N < 2 ^ 32) (h2 : N + N / 65536 < 2 ^ 32) : bc5 (nI N) = nI ((N + N / 65536) % 64) := by
  unfold bc5
  rw [pk_ushrN h 16 16 (by decide), nI_add, pk_andN (show N + N / 2 ^ 16 < 2 ^ 32 by omega) 6 (by decide)]
theorem bc_def (x : Int32) : fJ6_bitCount_0f7a4 x = bc5 (bc4 (bc3 (bc2 (bc1 x)))) := by
  unfold bc5 bc4 bc3 bc2 bc1 fJ6_bitCount_0f7a4
  dsimp only
theorem bc_N {N : Nat} (hx : N < 2 ^ 32) : fJ6_bitCount_0f7a4 (nI N) = nI (pb (N % 256) + pb (N / 256 % 256) + pb (N / 65536 % 256) + pb (N / 16777216)) := by
  obtain ⟨e, hd⟩ := w4_of N hx
  obtain ⟨ha, hb, hc⟩ : N % 256 < 256 ∧ N / 256 % 256 < 256 ∧ N / 65536 % 256 < 256 := ⟨by omega, by omega, by omega⟩
  have q := pop_nat (N % 256) (N / 256 % 256) (N / 65536 % 256) (N / 16777216) ha hb hc hd
  rw [← e] at q
  obtain ⟨q1, q2, q3, q4, q5, q6⟩ := q
  rw [bc_def, bc1_N hx q1]
  have l1 : N - ((N / 2) &&& 1431655765) < 2 ^ 32 := by omega
  generalize N - ((N / 2) &&& 1431655765) = w1 at l1 q2 q3 q4 q5 q6 ⊢
  rw [bc2_N l1]
  generalize (w1 &&& 858993459) + ((w1 / 4) &&& 858993459) = w2 at q2 q3 q4 q5 q6 ⊢
  rw [bc3_N q2 q3]
  generalize (w2 + w2 / 16) &&& 252645135 = w3 at q4 q5 q6 ⊢
  rw [bc4_N (show w3 < 2 ^ 32 by omega)]
  generalize w3 + w3 / 256 = w4 at q4 q5 q6 ⊢
  rw [bc5_N q4 q5, q6]
theorem bit_low (N : Nat) : ∀ i, i < 8 → (N / 2 ^ i % 2 = 1 ↔ N % 256 / 2 ^ i % 2 = 1) := fun i hi => by
  rcases (show i = 0 ∨ i = 1 ∨ i = 2 ∨ i = 3 ∨ i = 4 ∨ i = 5 ∨ i = 6 ∨ i = 7 by omega) with rfl | rfl | rfl | rfl | rfl | rfl | rfl | rfl <;> omega
theorem cnt_byte {N : Nat} (hx : N < 2 ^ 32) {j : Nat} (M : Nat) (hM : N / 2 ^ j = M) : cnt (fun i => bt (nI N) (j + i)) 8 = pb (M % 256) := by
  rw [← pb_c _ (Nat.mod_lt _ (by decide))]
  refine cnt_congr (fun i hi => ?_)
  show bt (nI N) (j + i) = _
  rw [bt_nI hx, Nat.pow_add, ← Nat.div_div_eq_div_mul, hM]
  exact decide_eq_decide.mpr (bit_low M i hi)
theorem bitCount_eq (x : Int32) : fJ6_bitCount_0f7a4 x = nI (cnt (bt x) 32) := by
  obtain ⟨N, hN, rfl⟩ : ∃ N, N < 2 ^ 32 ∧ x = nI N := ⟨x.toBitVec.toNat, x.toBitVec.isLt, nI_self x⟩
  rw [bc_N hN]
  refine congrArg nI ?_
  have f0 := cnt_byte hN (j := 0) N (by omega)
  have f1 := cnt_byte hN (j := 8) (N / 256) rfl
  have f2 := cnt_byte hN (j := 16) (N / 65536) rfl
  have f3 := cnt_byte hN (j := 24) (N / 16777216) rfl
  have e : cnt (bt (nI N)) 32 = cnt (bt (nI N)) 24 + cnt (fun i => bt (nI N) (24 + i)) 8 := cnt_add _ 24 8
  have e1 : cnt (bt (nI N)) 24 = cnt (bt (nI N)) 16 + cnt (fun i => bt (nI N) (16 + i)) 8 := cnt_add _ 16 8
  have e2 : cnt (bt (nI N)) 16 = cnt (bt (nI N)) 8 + cnt (fun i => bt (nI N) (8 + i)) 8 := cnt_add _ 8 8
  have e3 : cnt (bt (nI N)) 8 = cnt (fun i => bt (nI N) (0 + i)) 8 := cnt_congr (fun i _ => by rw [Nat.zero_add])
  rw [e, e1, e2, e3, f0, f1, f2, f3, Nat.mod_eq_of_lt (show N / 16777216 < 256 by omega)]
theorem pcN_c (x : Int32) : pcN x = cnt (bt x) 32 := by
  have h := cnt_le (bt x) 32
  unfold pcN
  rw [bitCount_eq, nI_clamp (by omega)]
theorem bits_L4 (x : Int32) : ∀ (r j : Nat) (bs : Nat), r + j = 24 → fX6_bits_L4 x r j (nI bs) = nI (bs + cnt (fun i => bt x (j + i)) r) := by
  intro r
  induction r with
  | zero => intro j bs _; rfl
  | succ r ih =>
    intro j bs hr
    rw [fX6_bits_L4, shr_bt (by omega)]
    have e : cnt (fun i => bt x (j + i)) (r + 1) = (if bt x j = true then 1 else 0) + cnt (fun i => bt x (j + 1 + i)) r := by
      rw [Nat.add_comm r 1, cnt_add]
      have e1 : cnt (fun i => bt x (j + i)) 1 = (if bt x j = true then 1 else 0) := by
        show 0 + _ = _
        rw [Nat.zero_add]; rfl
      have e2 : cnt (fun i => (fun i => bt x (j + i)) (1 + i)) r = cnt (fun i => bt x (j + 1 + i)) r := cnt_congr (fun i _ => by show bt x (j + (1 + i)) = _; rw [← Nat.add_assoc])
      rw [e1, e2]
    rw [e]
    by_cases h : bt x j = true
    · rw [if_pos h, if_pos h, nI_1, ih _ _ (by omega), Nat.add_assoc]
    · rw [if_neg h, if_neg h, Nat.zero_add, show nI bs + 0 = nI bs from nI_add bs 0, ih _ _ (by omega)]
theorem bits_eq (x : Int32) : fX6_bits x = nI (cnt (bt x) 24) := by
  have h := bits_L4 x 24 0 0 rfl
  rw [Nat.zero_add] at h
  have e : cnt (fun i => bt x (0 + i)) 24 = cnt (bt x) 24 := cnt_congr (fun i _ => by rw [Nat.zero_add])
  rw [e] at h
  exact h
theorem pcN_bits {x : Int32} (h : ∀ i, 24 ≤ i → i < 32 → bt x i = false) : nI (pcN x) = fX6_bits x := by
  rw [pcN_c, bits_eq, cnt_0 (by decide) h]
