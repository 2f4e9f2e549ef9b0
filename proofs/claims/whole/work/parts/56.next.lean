/-! the next one to ask -/
theorem cnt_split (f g : Nat → Bool) : ∀ k, cnt (fun i => f i && g i) k + cnt (fun i => f i && !g i) k = cnt f k := by
  intro k
  induction k with
  | zero => rfl
  | succ k ih =>
    show cnt (fun i => f i && g i) k + (if (f k && g k) = true then 1 else 0) + (cnt (fun i => f i && !g i) k + (if (f k && !g k) = true then 1 else 0)) = cnt f k + (if f k = true then 1 else 0)
    cases f k <;> cases g k <;> simp <;> omega
def nA (fi : Int32) (v : Nat) : Nat := cnt (fun i => bt fi i && bt (fX5_near (nI v)) i) 10
def nT (fi : Int32) : Nat := cnt (bt fi) 10
def nM (fi : Int32) (v : Nat) : Nat := if nA fi v < nT fi - nA fi v then nT fi - nA fi v else nA fi v
theorem nA_le (fi : Int32) (v : Nat) : nA fi v ≤ nT fi ∧ nT fi ≤ 10 := by
  have h := cnt_split (bt fi) (bt (fX5_near (nI v))) 10
  have h2 := cnt_le (bt fi) 10
  unfold nA nT
  omega
theorem most_eq {fi : Int32} (hf : ∀ i, 10 ≤ i → i < 32 → bt fi i = false) (v : Nat) : fX5_mostLeftBy fi (nI v) = nI (nM fi v) := by
  have h := cnt_split (bt fi) (bt (fX5_near (nI v))) 10
  have hA := nA_le fi v
  have e1 : pcN (fi &&& fX5_near (nI v)) = nA fi v := by
    rw [pcN_c, cnt_0 (a := 10) (by decide) (fun i h1 h2 => by rw [b_and, hf i h1 h2, Bool.false_and])]
    exact cnt_congr (fun i _ => b_and _ _ _)
  have e2 : pcN (fi &&& (fX5_near (nI v) ^^^ (-1 : Int32))) = nT fi - nA fi v := by
    rw [pcN_c, cnt_0 (a := 10) (by decide) (fun i h1 h2 => by rw [b_and, hf i h1 h2, Bool.false_and])]
    have e3 : cnt (bt (fi &&& (fX5_near (nI v) ^^^ (-1 : Int32)))) 10 = cnt (fun i => bt fi i && !bt (fX5_near (nI v)) i) 10 := cnt_congr (fun i hi => by
      rw [b_and, b_xor, b_m1 i (by omega)]
      cases bt (fX5_near (nI v)) i <;> rfl)
    rw [e3]
    unfold nT nA
    omega
  unfold fX5_mostLeftBy nM
  rw [e1, e2]
  by_cases c : nA fi v < nT fi - nA fi v
  · rw [if_pos ((nI_ltI (by omega) (by omega)).mpr c), if_pos c]
  · rw [if_neg (fun q => c ((nI_ltI (by omega) (by omega)).mp q)), if_neg c]
theorem own_L44 (sg : Nat) (sh : Nat → Int32) {v : Nat} (hv : v < 10) : ∀ (r j ow : Nat), r + j = 10 → fX6_next_L44 sg sh v r j (nI ow) = nI (ow + cnt (fun i => bt (fX6_tightSet sg sh) (j + i) && bt (fX5_near (nI v)) (j + i)) r) := by
  intro r
  induction r with
  | zero => intro j ow _; rfl
  | succ r ih =>
    intro j ow hr
    have e : cnt (fun i => bt (fX6_tightSet sg sh) (j + i) && bt (fX5_near (nI v)) (j + i)) (r + 1) = (if (bt (fX6_tightSet sg sh) j && bt (fX5_near (nI v)) j) = true then 1 else 0) + cnt (fun i => bt (fX6_tightSet sg sh) (j + 1 + i) && bt (fX5_near (nI v)) (j + 1 + i)) r := by
      rw [Nat.add_comm r 1, cnt_add]
      have e1 : cnt (fun i => bt (fX6_tightSet sg sh) (j + i) && bt (fX5_near (nI v)) (j + i)) 1 = (if (bt (fX6_tightSet sg sh) j && bt (fX5_near (nI v)) j) = true then 1 else 0) := by
        show 0 + _ = _
        rw [Nat.zero_add]; rfl
      have e2 : cnt (fun i => (fun i => bt (fX6_tightSet sg sh) (j + i) && bt (fX5_near (nI v)) (j + i)) (1 + i)) r = cnt (fun i => bt (fX6_tightSet sg sh) (j + 1 + i) && bt (fX5_near (nI v)) (j + 1 + i)) r := cnt_congr (fun i _ => by show (bt _ (j + (1 + i)) && bt _ (j + (1 + i))) = _; rw [← Nat.add_assoc])
      rw [e1, e2]
    have hn := near_bt v hv j (by omega)
    rw [fX6_next_L44, has_bt (by omega), e]
    by_cases c1 : bt (fX6_tightSet sg sh) j = true
    · rw [if_pos c1, if_neg (by decide), c1, Bool.true_and]
      by_cases c2 : bt (fX5_near (nI v)) j = true
      · have := (hn.mp c2).2
        rw [this, if_neg (by decide), if_pos c2, nI_1, ih _ _ (by omega), Nat.add_assoc]
      · have : fX6_in (nI j - nI v) (-1 : Int32) (1 : Int32) = 0 := (in_01 _ _ _).resolve_right (fun q => c2 (hn.mpr ⟨by omega, q⟩))
        rw [this, if_pos rfl, if_neg c2, Nat.zero_add, show nI ow + (0 : Int32) = nI ow from nI_add ow 0, ih _ _ (by omega)]
    · have c1' : bt (fX6_tightSet sg sh) j = false := by simpa using c1
      rw [if_neg c1, if_pos rfl, c1', Bool.false_and, if_neg (by decide), Nat.zero_add, show nI ow + (0 : Int32) = nI ow from nI_add ow 0, ih _ _ (by omega)]
theorem own_eq (sg : Nat) (sh : Nat → Int32) {v : Nat} (hv : v < 10) : fX6_next_L44 sg sh v 10 0 (0 : Int32) = nI (nA (fX6_tightSet sg sh) v) := by
  have h := own_L44 sg sh hv 10 0 0 rfl
  have e : cnt (fun i => bt (fX6_tightSet sg sh) (0 + i) && bt (fX5_near (nI v)) (0 + i)) 10 = nA (fX6_tightSet sg sh) v := cnt_congr (fun i _ => by rw [Nat.zero_add])
  rw [e, Nat.zero_add] at h
  exact h
theorem bits_nT {fi : Int32} (hf : ∀ i, 10 ≤ i → i < 32 → bt fi i = false) : fX6_bits fi = nI (nT fi) := by
  rw [bits_eq, cnt_0 (a := 10) (by decide) (fun i h1 h2 => hf i h1 (by omega))]
  rfl
theorem next_step {sg : Nat} {sh : Nat → Int32} {fi : Int32} (he : fX6_tightSet sg sh = fi) (hf : ∀ i, 10 ≤ i → i < 32 → bt fi i = false) (h0 : ¬ fi = 0) {r j : Nat} (hj : j < 10) (fo ls : Int32) : fX6_next_L27 sg sh (r + 1) j fo ls = if ls ≤ nI (nM fi j) then fX6_next_L27 sg sh r (j + 1) fo ls else fX6_next_L27 sg sh r (j + 1) (nI j) (nI (nM fi j)) := by
  obtain ⟨hA, hT⟩ := nA_le fi j
  rw [fX6_next_L27, own_eq sg sh hj, he, if_neg h0, bits_nT hf]
  dsimp only
  rw [pk_sub hA]
  unfold nM
  by_cases c : nA fi j ≤ nT fi - nA fi j
  · rw [if_pos ((nI_leI (by omega) (by omega)).mpr c)]
    have e : (if nA fi j < nT fi - nA fi j then nT fi - nA fi j else nA fi j) = nT fi - nA fi j := by split <;> omega
    rw [e]
    by_cases d : ls ≤ nI (nT fi - nA fi j)
    · rw [if_pos d, if_pos d, if_pos d]
    · rw [if_neg d, if_neg d, if_neg d]
  · rw [if_neg (fun q => c ((nI_leI (by omega) (by omega)).mp q))]
    have e : (if nA fi j < nT fi - nA fi j then nT fi - nA fi j else nA fi j) = nA fi j := by split <;> omega
    rw [e]
    by_cases d : ls ≤ nI (nA fi j)
    · rw [if_pos d, if_pos d, if_pos d]
    · rw [if_neg d, if_neg d, if_neg d]
theorem nM_lt (fi : Int32) (v : Nat) : nM fi v ≤ 10 := by
  obtain ⟨hA, hT⟩ := nA_le fi v
  unfold nM
  split <;> omega
theorem next_lock {sg : Nat} {sh : Nat → Int32} {fi : Int32} (he : fX6_tightSet sg sh = fi) (hf : ∀ i, 10 ≤ i → i < 32 → bt fi i = false) (h0 : ¬ fi = 0) : ∀ (r j be : Nat), r + j = 10 → be < 10 → fX6_next_L27 sg sh r j (nI be) (nI (nM fi be)) = (nI (fX5_next_L28 fi r j be), nI (nM fi (fX5_next_L28 fi r j be))) ∧ fX5_next_L28 fi r j be < 10 := by
  intro r
  induction r with
  | zero =>
    intro j be hr hb
    rw [fX6_next_L27, fX5_next_L28]
    exact ⟨rfl, hb⟩
  | succ r ih =>
    intro j be hr hb
    rw [next_step he hf h0 (by omega), fX5_next_L28, most_eq hf, most_eq hf]
    by_cases c : nI (nM fi be) ≤ nI (nM fi j)
    · rw [if_pos c, if_pos c]
      exact ih (j + 1) be (by omega) hb
    · rw [if_neg c, if_neg c]
      exact ih (j + 1) j (by omega) (by omega)
theorem m_next {si : Nat} {fi : Int32} {rg : Nat} {sh : Nat → Int32} (iF : RF si fi rg sh) (a1 : Int32) : fX5_next fi a1 = fX6_next rg sh a1 := by
  obtain ⟨-, -, he⟩ := iF
  have hb : fX5_isBelow a1 (2 : Int32) = fX6_in a1 (0 : Int32) (1 : Int32) := below_in a1 (b := 1) (by decide)
  have hf : ∀ i, 10 ≤ i → i < 32 → bt fi i = false := fun i h1 h2 => by
    cases hb : bt fi i with
    | false => rfl
    | true =>
      rw [he] at hb
      have := ((tightSet_bt rg sh h2).mp hb).1
      omega
  unfold fX5_next fX6_next
  rw [hb]
  by_cases c1 : fX6_in a1 (0 : Int32) (1 : Int32) = 0
  · rw [if_pos c1, if_pos c1]
  · rw [if_neg c1, if_neg c1]
    by_cases c2 : fi = 0
    · rw [if_pos c2]
      have e : fX6_next_L27 rg sh 10 0 (-6 : Int32) (1000000 : Int32) = ((-6 : Int32), (1000000 : Int32)) := by
        rw [fX6_next_L27, ← he, if_pos c2]
      rw [e]
      dsimp only
      rw [if_pos (by decide)]
    · rw [if_neg c2]
      have hlt := nM_lt fi 0
      have e1 : fX6_next_L27 rg sh 10 0 (-6 : Int32) (1000000 : Int32) = fX6_next_L27 rg sh 9 1 (nI 0) (nI (nM fi 0)) := by
        have w := next_step he.symm hf c2 (r := 9) (j := 0) (by decide) (-6 : Int32) (1000000 : Int32)
        rw [if_neg (fun q => by have := (nI_leI (a := 1000000) (by decide) (by omega)).mp q; omega)] at w
        exact w
      obtain ⟨k1, k2⟩ := next_lock he.symm hf c2 9 1 0 rfl (by decide)
      rw [e1, k1]
      dsimp only
      rw [show (10 - 1 : Nat) = 9 from rfl, if_neg (nI_pos (by omega)), most_eq hf]
