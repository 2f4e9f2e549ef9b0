/-! what hangs on a stitch, and how the rest closes up -/
def kc (f : Nat → Bool) (k : Nat) : Nat := cnt (fun i => !f i) k
theorem kc_succ (f : Nat → Bool) (k : Nat) : kc f (k + 1) = kc f k + (if f k = true then 0 else 1) := by
  show cnt (fun i => !f i) k + (if (!f k) = true then 1 else 0) = _
  unfold kc
  cases f k <;> rfl
theorem kc_le (f : Nat → Bool) (k : Nat) : kc f k ≤ k := cnt_le _ k
theorem kc_sum (f : Nat → Bool) : ∀ k, cnt f k + kc f k = k := by
  intro k
  induction k with
  | zero => rfl
  | succ k ih =>
    rw [kc_succ]
    show cnt f k + _ + _ = _
    by_cases h : f k = true
    · rw [if_pos h, if_pos h]; omega
    · rw [if_neg h, if_neg h]; omega
theorem kc_mono (f : Nat → Bool) {a : Nat} : ∀ {b : Nat}, a ≤ b → kc f a ≤ kc f b := by
  intro b
  induction b with
  | zero => intro h; rw [Nat.le_zero.mp h]; exact Nat.le_refl _
  | succ b ih =>
    intro h
    rcases Nat.eq_or_lt_of_le h with q | q
    · rw [q]; exact Nat.le_refl _
    · rw [kc_succ]; have := ih (by omega); omega
theorem kc_lt {f : Nat → Bool} {a b : Nat} (h : a < b) (ha : f a = false) : kc f a < kc f b := by
  have h1 := kc_mono f (show a + 1 ≤ b from h)
  rw [kc_succ, ha] at h1
  have : kc f a + 1 ≤ kc f b := h1
  omega
theorem kc_surj (f : Nat → Bool) : ∀ (m p : Nat), p < kc f m → ∃ i, i < m ∧ f i = false ∧ kc f i = p := by
  intro m
  induction m with
  | zero => intro p hp; exact absurd hp (Nat.not_lt_zero p)
  | succ m ih =>
    intro p hp
    rw [kc_succ] at hp
    by_cases h : f m = true
    · rw [if_pos h] at hp
      obtain ⟨i, h1, h2, h3⟩ := ih p (by omega)
      exact ⟨i, by omega, h2, h3⟩
    · rw [if_neg h] at hp
      by_cases q : p = kc f m
      · exact ⟨m, by omega, by simpa using h, q.symm⟩
      · obtain ⟨i, h1, h2, h3⟩ := ih p (by omega)
        exact ⟨i, by omega, h2, h3⟩
theorem bt_orp {x : Int32} {j i : Nat} (hj : j < 32) (hi : i < 32) : bt (x ||| ((1 : Int32) <<< (nI j &&& 31))) i = (bt x i || decide (i = j)) := by
  rw [b_or, bt_p hj hi]
theorem bt_or0 (x : Int32) (i : Nat) : bt (x ||| (0 : Int32)) i = bt x i := by
  rw [b_or, b_0, Bool.or_false]
theorem or_0 (x : Int32) : x ||| (0 : Int32) = x := b_ext (fun i _ => bt_or0 x i)
theorem bt_lt32 {x : Int32} {i : Nat} (h : bt x i = true) : i < 32 := by
  rcases Nat.lt_or_ge i 32 with q | q
  · exact q
  · rw [b_big q] at h; cases h
theorem thr_L8 {nw : Nat → Int32} {m : Nat} (hm : m ≤ 24) (hon : ∀ k, k < m → kx_on (nw (48 + k)) k) : ∀ (r j : Nat) (u : Int32), r + j = m → (∀ i, j ≤ i → bt u i = false) → (∀ i, i < j → bt (fX6_threadOf_L8 nw r j u) i = bt u i) ∧ (∀ i, m ≤ i → bt (fX6_threadOf_L8 nw r j u) i = false) ∧ (∀ i, j ≤ i → i < m → (bt (fX6_threadOf_L8 nw r j u) i = true ↔ ∃ a, a < i ∧ nw (48 + i) = nI a ∧ bt (fX6_threadOf_L8 nw r j u) a = true)) := by
  intro r
  induction r with
  | zero =>
    intro j u hr hu
    rw [fX6_threadOf_L8]
    exact ⟨fun i _ => rfl, fun i hi => hu i (by omega), fun i h1 h2 => absurd h1 (by omega)⟩
  | succ r ih =>
    intro j u hr hu
    -- one step: v holds j if its anchor is in u
    have key : ∀ v : Int32, (∀ i, i < j → bt v i = bt u i) → (∀ i, j + 1 ≤ i → bt v i = false) → (bt v j = true ↔ ∃ a, a < j ∧ nw (48 + j) = nI a ∧ bt u a = true) → (∀ i, i < j → bt (fX6_threadOf_L8 nw r (j + 1) v) i = bt u i) ∧ (∀ i, m ≤ i → bt (fX6_threadOf_L8 nw r (j + 1) v) i = false) ∧ (∀ i, j ≤ i → i < m → (bt (fX6_threadOf_L8 nw r (j + 1) v) i = true ↔ ∃ a, a < i ∧ nw (48 + i) = nI a ∧ bt (fX6_threadOf_L8 nw r (j + 1) v) a = true)) := by
      intro v v1 v2 v3
      obtain ⟨h1, h2, h3⟩ := ih (j + 1) v (by omega) v2
      refine ⟨fun i hi => by rw [h1 i (by omega), v1 i hi], h2, fun i hi him => ?_⟩
      by_cases q : i = j
      · subst q
        rw [h1 i (by omega), v3]
        constructor
        · rintro ⟨a, ha, e, hb⟩; exact ⟨a, ha, e, by rw [h1 a (by omega), v1 a ha]; exact hb⟩
        · rintro ⟨a, ha, e, hb⟩; rw [h1 a (by omega), v1 a ha] at hb; exact ⟨a, ha, e, hb⟩
      · exact h3 i (by omega) him
    have same : ¬ (∃ a, a < j ∧ nw (48 + j) = nI a ∧ bt u a = true) → (∀ i, i < j → bt (fX6_threadOf_L8 nw r (j + 1) (u ||| (0 : Int32))) i = bt u i) ∧ (∀ i, m ≤ i → bt (fX6_threadOf_L8 nw r (j + 1) (u ||| (0 : Int32))) i = false) ∧ (∀ i, j ≤ i → i < m → (bt (fX6_threadOf_L8 nw r (j + 1) (u ||| (0 : Int32))) i = true ↔ ∃ a, a < i ∧ nw (48 + i) = nI a ∧ bt (fX6_threadOf_L8 nw r (j + 1) (u ||| (0 : Int32))) a = true)) := by
      intro hno
      rw [or_0]
      refine key u (fun i _ => rfl) (fun i hi => hu i (by omega)) ?_
      constructor
      · intro h; rw [hu j (Nat.le_refl _)] at h; cases h
      · intro h; exact absurd h hno
    rw [fX6_threadOf_L8]
    rcases hon j (by omega) with q | ⟨a, ha, q⟩
    · rw [if_pos (by rw [q]; decide)]
      refine same ?_
      rintro ⟨b, hb, e, -⟩
      rw [q] at e
      exact nI_m6 (by omega) e.symm
    · rw [if_neg (by rw [q]; exact nI_pos (by omega)), q, has_bt (by omega)]
      by_cases h : bt u a = true
      · rw [if_pos h, if_neg (by decide)]
        refine key _ (fun i hi => ?_) (fun i hi => ?_) ?_
        · rw [bt_orp (by omega) (by omega), decide_eq_false (by omega), Bool.or_false]
        · rcases Nat.lt_or_ge i 32 with c | c
          · rw [bt_orp (by omega) c, decide_eq_false (by omega), Bool.or_false]; exact hu i (by omega)
          · exact b_big c
        · rw [bt_orp (by omega) (by omega), decide_eq_true rfl, Bool.or_true]
          exact ⟨fun _ => ⟨a, ha, q, h⟩, fun _ => rfl⟩
      · rw [if_neg h, if_pos rfl]
        refine same ?_
        rintro ⟨b, hb, e, hb2⟩
        rw [q] at e
        have : a = b := (nI_eq (by omega) (by omega)).mp e
        subst this
        exact h hb2
/-- the thread of a stitch: itself, and what hangs on one of it -/
theorem thr_P {nw : Nat → Int32} (hI : kx_I nw) {ks : Nat} (hk : ks < mN nw) : bt (fX6_threadOf nw ks) ks = true ∧ (∀ i, i < ks → bt (fX6_threadOf nw ks) i = false) ∧ (∀ i, mN nw ≤ i → bt (fX6_threadOf nw ks) i = false) ∧ (∀ i, ks < i → i < mN nw → (bt (fX6_threadOf nw ks) i = true ↔ ∃ a, a < i ∧ nw (48 + i) = nI a ∧ bt (fX6_threadOf nw ks) a = true)) := by
  obtain ⟨-, hm, hon⟩ := hI
  obtain ⟨h1, h2, h3⟩ := thr_L8 hm hon (mN nw - (ks + 1)) (ks + 1) ((1 : Int32) <<< ((nI ks) &&& 31)) (by omega) (fun i hi => by
    rcases Nat.lt_or_ge i 32 with c | c
    · rw [bt_p (by omega) c, decide_eq_false (by omega)]
    · exact b_big c)
  refine ⟨?_, fun i hi => ?_, h2, fun i hi him => h3 i (by omega) him⟩
  · have := h1 ks (by omega)
    rw [bt_p (by omega) (by omega), decide_eq_true rfl] at this
    exact this
  · have := h1 i (by omega)
    rw [bt_p (by omega) (by omega), decide_eq_false (by omega)] at this
    exact this
/-- what is kept hangs on what is kept -/
theorem thr_up {nw : Nat → Int32} (hI : kx_I nw) {ks : Nat} (hk : ks < mN nw) {i a : Nat} (hi : i < mN nw) (ha : a < i) (e : nw (48 + i) = nI a) (h : bt (fX6_threadOf nw ks) i = false) : bt (fX6_threadOf nw ks) a = false := by
  obtain ⟨t1, t2, t3, t4⟩ := thr_P hI hk
  rcases Nat.lt_trichotomy i ks with c | c | c
  · exact t2 a (by omega)
  · subst c; rw [t1] at h; cases h
  · cases hb : bt (fX6_threadOf nw ks) a with
    | false => rfl
    | true => rw [(t4 i c hi).mpr ⟨a, ha, e, hb⟩] at h; cases h
/-! the rest closes up, in the reference's book -/
def row4 (g : Nat → Int32) (t : Nat) (a b c d : Int32) : Nat → Int32 := upd (upd (upd (upd g t a) (24 + t) b) (48 + t) c) (72 + t) d
theorem row4_s {g : Nat → Int32} {t : Nat} (ht : t < 24) (a b c d : Int32) : row4 g t a b c d t = a ∧ row4 g t a b c d (24 + t) = b ∧ row4 g t a b c d (48 + t) = c ∧ row4 g t a b c d (72 + t) = d := by
  unfold row4
  refine ⟨?_, ?_, ?_, ?_⟩
  · rw [upd_n (by omega), upd_n (by omega), upd_n (by omega), upd_s]
  · rw [upd_n (by omega), upd_n (by omega), upd_s]
  · rw [upd_n (by omega), upd_s]
  · rw [upd_s]
theorem row4_n {g : Nat → Int32} {t i : Nat} (ht : t < 24) (hi : i < 24) (h : i ≠ t) (a b c d : Int32) : row4 g t a b c d i = g i ∧ row4 g t a b c d (24 + i) = g (24 + i) ∧ row4 g t a b c d (48 + i) = g (48 + i) ∧ row4 g t a b c d (72 + i) = g (72 + i) := by
  unfold row4
  refine ⟨?_, ?_, ?_, ?_⟩ <;> rw [upd_n (by omega), upd_n (by omega), upd_n (by omega), upd_n (by omega)]
def mapA (f : Nat → Bool) (x : Int32) : Int32 := if x < 0 then (-6 : Int32) else nI (kc f x.toNatClampNeg)
def TK (f : Nat → Bool) (nw : Nat → Int32) (j : Nat) (tn : Nat) (g1 g2 : Nat → Int32) : Prop := tn = kc f j ∧ (∀ i, i < j → g1 i = nI (kc f i)) ∧ (∀ i, i < j → f i = false → g2 (kc f i) = nw i ∧ g2 (24 + kc f i) = nw (24 + i) ∧ g2 (48 + kc f i) = mapA f (nw (48 + i)) ∧ g2 (72 + kc f i) = nw (72 + i)) ∧ (∀ i, j ≤ i → i < 24 → g2 i = nw i ∧ g2 (24 + i) = nw (24 + i) ∧ g2 (48 + i) = nw (48 + i) ∧ g2 (72 + i) = nw (72 + i))
theorem TK_keep {f : Nat → Bool} {nw : Nat → Int32} {j tn : Nat} {g1 g2 : Nat → Int32} (h : TK f nw j tn g1 g2) (hj : j < 24) (hf : f j = false) {c : Int32} (hc : c = mapA f (nw (48 + j))) : TK f nw (j + 1) (tn + 1) (upd g1 j (nI tn)) (row4 g2 tn (g2 j) (g2 (24 + j)) c (g2 (72 + j))) := by
  obtain ⟨h1, h2, h3, h4⟩ := h
  have ht : tn ≤ j := by rw [h1]; exact kc_le f j
  obtain ⟨s1, s2, s3, s4⟩ := row4_s (g := g2) (show tn < 24 by omega) (g2 j) (g2 (24 + j)) c (g2 (72 + j))
  obtain ⟨k1, k2, k3, k4⟩ := h4 j (Nat.le_refl _) hj
  refine ⟨by rw [kc_succ, hf, h1]; rfl, fun i hi => ?_, fun i hi hfi => ?_, fun i h5 h6 => ?_⟩
  · by_cases q : i = j
    · subst q; rw [upd_s, h1]
    · rw [upd_n q]; exact h2 i (by omega)
  · by_cases q : i = j
    · subst q
      rw [← h1]
      exact ⟨s1.trans k1, s2.trans k2, s3.trans hc, s4.trans k4⟩
    · have hlt := kc_lt (show i < j by omega) hfi
      obtain ⟨n1, n2, n3, n4⟩ := row4_n (g := g2) (show tn < 24 by omega) (show kc f i < 24 by omega) (show kc f i ≠ tn by omega) (g2 j) (g2 (24 + j)) c (g2 (72 + j))
      obtain ⟨m1, m2, m3, m4⟩ := h3 i (by omega) hfi
      exact ⟨n1.trans m1, n2.trans m2, n3.trans m3, n4.trans m4⟩
  · obtain ⟨n1, n2, n3, n4⟩ := row4_n (g := g2) (show tn < 24 by omega) h6 (show i ≠ tn by omega) (g2 j) (g2 (24 + j)) c (g2 (72 + j))
    obtain ⟨m1, m2, m3, m4⟩ := h4 i (by omega) h6
    exact ⟨n1.trans m1, n2.trans m2, n3.trans m3, n4.trans m4⟩
theorem TK_drop {f : Nat → Bool} {nw : Nat → Int32} {j tn : Nat} {g1 g2 : Nat → Int32} (h : TK f nw j tn g1 g2) (hf : f j = true) : TK f nw (j + 1) tn (upd g1 j (nI tn)) g2 := by
  obtain ⟨h1, h2, h3, h4⟩ := h
  refine ⟨by rw [kc_succ, hf, h1]; rfl, fun i hi => ?_, fun i hi hfi => ?_, fun i h5 h6 => h4 i (by omega) h6⟩
  · by_cases q : i = j
    · subst q; rw [upd_s, h1]
    · rw [upd_n q]; exact h2 i (by omega)
  · by_cases q : i = j
    · subst q; rw [hf] at hfi; cases hfi
    · exact h3 i (by omega) hfi
theorem takeOut_L4 {nw : Nat → Int32} {m : Nat} (hm : m ≤ 24) (hon : ∀ k, k < m → kx_on (nw (48 + k)) k) (se : Int32) : ∀ (r j tn : Nat) (g1 g2 : Nat → Int32), r + j = m → TK (bt se) nw j tn g1 g2 → TK (bt se) nw m (fX6_takeOut_L4 se r j tn g1 g2).1 (fX6_takeOut_L4 se r j tn g1 g2).2.1 (fX6_takeOut_L4 se r j tn g1 g2).2.2 := by
  intro r
  induction r with
  | zero => intro j tn g1 g2 hr h; rw [fX6_takeOut_L4]; rw [← (show j = m by omega)]; exact h
  | succ r ih =>
    intro j tn g1 g2 hr h
    have ht : tn ≤ j := by rw [h.1]; exact kc_le _ j
    rw [fX6_takeOut_L4, has_bt (show j < 32 by omega)]
    by_cases hb : bt se j = true
    · rw [if_pos hb, if_neg (by decide)]
      exact ih _ _ _ _ (by omega) (TK_drop h hb)
    · rw [if_neg hb, if_pos rfl]
      have hb' : bt se j = false := by simpa using hb
      obtain ⟨k1, k2, k3, k4⟩ := h.2.2.2 j (Nat.le_refl _) (by omega)
      have e2 : (upd g2 tn (g2 j)) (24 + j) = g2 (24 + j) := upd_n (by omega)
      have e3 : ∀ c, (upd (upd (upd g2 tn (g2 j)) (24 + tn) (g2 (24 + j))) (48 + tn) c) (72 + j) = g2 (72 + j) := fun c => by rw [upd_n (by omega), upd_n (by omega), upd_n (by omega)]
      rw [e2, e3, e3, k3]
      rcases hon j (by omega) with q | ⟨a, ha, q⟩
      · rw [if_neg (by rw [q]; decide)]
        refine ih _ _ _ _ (by omega) (TK_keep h (by omega) hb' ?_)
        unfold mapA
        rw [if_pos (by rw [q]; decide)]
      · rw [if_pos (by rw [q]; exact nI_pos' (by omega))]
        refine ih _ _ _ _ (by omega) (TK_keep h (by omega) hb' ?_)
        unfold mapA
        rw [if_neg (by rw [q]; exact nI_pos (by omega)), q, nI_clamp (by omega), upd_n (by omega)]
        exact h.2.1 a ha
theorem takeOut_P {nw : Nat → Int32} (hI : kx_I nw) (pq : Nat → Int32) (se : Int32) : (fX6_takeOut nw pq se).1 96 = nI (kc (bt se) (mN nw)) ∧ ∀ i, i < mN nw → bt se i = false → (fX6_takeOut nw pq se).1 (kc (bt se) i) = nw i ∧ (fX6_takeOut nw pq se).1 (24 + kc (bt se) i) = nw (24 + i) ∧ (fX6_takeOut nw pq se).1 (48 + kc (bt se) i) = mapA (bt se) (nw (48 + i)) ∧ (fX6_takeOut nw pq se).1 (72 + kc (bt se) i) = nw (72 + i) := by
  obtain ⟨-, hm, hon⟩ := hI
  have h := takeOut_L4 hm hon se (mN nw) 0 0 pq nw rfl ⟨rfl, fun i hi => absurd hi (by omega), fun i hi => absurd hi (by omega), fun i _ _ => ⟨rfl, rfl, rfl, rfl⟩⟩
  obtain ⟨h1, h2, h3, h4⟩ := h
  have e : (fX6_takeOut nw pq se).1 = upd (fX6_takeOut_L4 se (mN nw) 0 0 pq nw).2.2 96 (nI (fX6_takeOut_L4 se (mN nw) 0 0 pq nw).1) := rfl
  rw [e]
  refine ⟨?_, fun i hi hf => ?_⟩
  · rw [upd_s, h1]
  · have hk := kc_le (bt se) i
    obtain ⟨m1, m2, m3, m4⟩ := h3 i hi hf
    rw [upd_n (by omega), upd_n (by omega), upd_n (by omega), upd_n (by omega)]
    exact ⟨m1, m2, m3, m4⟩
theorem fX6_pullOut_I' {nw pq : Nat → Int32} {ks : Nat} {t : Int32 × (Nat → Int32) × (Nat → Int32)} (hJ : kx_I nw) (h : fX6_pullOut nw pq ks = t) : kx_I t.2.1 := by
  subst h
  unfold fX6_pullOut
  split
  · rename_i hk
    show kx_I (fX6_takeOut nw pq (fX6_threadOf nw ks)).1
    obtain ⟨p1, p2⟩ := takeOut_P hJ pq (fX6_threadOf nw ks)
    generalize (fX6_takeOut nw pq (fX6_threadOf nw ks)).1 = g at p1 p2
    have hm := hJ.2.1
    have hkc := kc_le (bt (fX6_threadOf nw ks)) (mN nw)
    have hmg : mN g = kc (bt (fX6_threadOf nw ks)) (mN nw) := by
      show (g 96).toNatClampNeg = _
      rw [p1, nI_clamp (by omega)]
    refine ⟨by rw [hmg]; exact p1, by omega, fun p hp => ?_⟩
    rw [hmg] at hp
    obtain ⟨i, hi, hf, rfl⟩ := kc_surj _ _ _ hp
    rw [(p2 i hi hf).2.2.1]
    unfold mapA
    rcases hJ.2.2 i hi with q | ⟨a, ha, q⟩
    · rw [q]; exact Or.inl (if_pos (by decide))
    · have hfa := thr_up hJ hk hi ha q hf
      rw [q, if_neg (nI_pos (by omega)), nI_clamp (by omega)]
      exact Or.inr ⟨_, kc_lt ha hfa, rfl⟩
  · exact hJ
