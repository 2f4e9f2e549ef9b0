/-! moths, exactly -/
theorem moth_L62 {co ti an : Nat → Int32} {n : Nat} {ea : Int32} {b : Nat → Int32} (h : RS co ti an n ea b) : ∀ (j : Nat) (al gx : Int32), j ≤ n → (gx = 0 ∨ gx = (1 : Int32)) → (fX6_moths_L62 b j al gx).1 = fX2_withAnchors_L9 an j al ∧ ((fX6_moths_L62 b j al gx).2 = 0 ∨ (fX6_moths_L62 b j al gx).2 = (1 : Int32)) ∧ ((fX6_moths_L62 b j al gx).2 = 0 ↔ gx = 0 ∧ ∀ k, k < j → bt (fX2_withAnchors_L9 an j al) k = true → bt ea k = false) := by
  have hn := h.1
  intro j
  induction j with
  | zero =>
    intro al gx _ hg
    rw [fX6_moths_L62, fX2_withAnchors_L9]
    exact ⟨rfl, hg, ⟨fun q => ⟨q, fun k hk => absurd hk (Nat.not_lt_zero k)⟩, fun q => q.1⟩⟩
  | succ j ih =>
    intro al gx hj hg
    have top : ∀ al', bt (fX2_withAnchors_L9 an j al') j = bt al' j := fun al' => (wa_L9 hn (RS_an2 h) j al' (by omega)).2.2.2 j (Nat.le_refl _)
    have cut : ∀ al', (∀ k, k < j + 1 → bt (fX2_withAnchors_L9 an j al') k = true → bt ea k = false) ↔ (bt al' j = true → bt ea j = false) ∧ ∀ k, k < j → bt (fX2_withAnchors_L9 an j al') k = true → bt ea k = false := by
      intro al'
      constructor
      · intro q; exact ⟨fun w => q j (by omega) (by rw [top]; exact w), fun k hk => q k (by omega)⟩
      · intro q k hk w
        rcases Nat.eq_or_lt_of_le (Nat.le_of_lt_succ hk) with e | e
        · subst e; rw [top] at w; exact q.1 w
        · exact q.2 k e w
    -- one step: the number that says whether one of it is eaten
    have go : ∀ al', bt al' j = true → (if gx = 0 then (if b (72 + j) = (1 : Int32) then fX6_moths_L62 b j al' (1 : Int32) else fX6_moths_L62 b j al' (0 : Int32)) else fX6_moths_L62 b j al' (1 : Int32)).1 = fX2_withAnchors_L9 an j al' ∧ ((if gx = 0 then (if b (72 + j) = (1 : Int32) then fX6_moths_L62 b j al' (1 : Int32) else fX6_moths_L62 b j al' (0 : Int32)) else fX6_moths_L62 b j al' (1 : Int32)).2 = 0 ∨ (if gx = 0 then (if b (72 + j) = (1 : Int32) then fX6_moths_L62 b j al' (1 : Int32) else fX6_moths_L62 b j al' (0 : Int32)) else fX6_moths_L62 b j al' (1 : Int32)).2 = (1 : Int32)) ∧ ((if gx = 0 then (if b (72 + j) = (1 : Int32) then fX6_moths_L62 b j al' (1 : Int32) else fX6_moths_L62 b j al' (0 : Int32)) else fX6_moths_L62 b j al' (1 : Int32)).2 = 0 ↔ gx = 0 ∧ ∀ k, k < j + 1 → bt (fX2_withAnchors_L9 an j al') k = true → bt ea k = false) := by
      intro al' ha
      rw [cut al']
      have i0 := ih al' 0 (by omega) (Or.inl rfl)
      have i1 := ih al' 1 (by omega) (Or.inr rfl)
      have h721 := RS_eq721 h (show j < n by omega)
      by_cases c : gx = 0
      · rw [if_pos c]
        by_cases c2 : b (72 + j) = (1 : Int32)
        · rw [if_pos c2]
          refine ⟨i1.1, i1.2.1, ⟨fun q => absurd (i1.2.2.mp q).1 (by decide), fun q => ?_⟩⟩
          have := q.2.1 ha
          rw [h721.mp c2] at this
          cases this
        · rw [if_neg c2]
          have c3 : bt ea j = false := by
            cases hb : bt ea j with
            | false => rfl
            | true => exact absurd (h721.mpr hb) c2
          exact ⟨i0.1, i0.2.1, ⟨fun q => ⟨c, fun _ => c3, (i0.2.2.mp q).2⟩, fun q => i0.2.2.mpr ⟨rfl, q.2.2⟩⟩⟩
      · rw [if_neg c]
        exact ⟨i1.1, i1.2.1, ⟨fun q => absurd (i1.2.2.mp q).1 (by decide), fun q => absurd q.1 c⟩⟩
    rw [fX6_moths_L62, fX2_withAnchors_L9, has_bt (by omega), isIn_bt (by omega), at_nI (show j < 24 by omega) (by decide)]
    by_cases c : bt al j = true
    · rw [if_pos c, if_neg (show ¬ (1 : Int32) = 0 by decide), if_neg (show ¬ (1 : Int32) = 0 by decide)]
      rcases RS_an h (show j < n by omega) with ⟨q1, q2⟩ | ⟨a, ha, q1, q2⟩
      · rw [q1, q2, if_pos (show (-1 : Int32) = (-1 : Int32) from rfl), if_pos (show (-6 : Int32) < 0 by decide), or_0]
        exact go al c
      · rw [q1, q2, if_neg (nI_pos (show a < 2 ^ 31 by omega)), if_neg (show ¬ nI a = (-1 : Int32) from fun q => nI_pos (n := a) (by omega) (by rw [q]; decide))]
        exact go _ (by rw [bt_orp (by omega) (by omega), c, Bool.true_or])
    · rw [if_neg c, if_pos rfl, if_pos rfl, cut al]
      have i0 := ih al gx (by omega) hg
      exact ⟨i0.1, i0.2.1, ⟨fun q => ⟨(i0.2.2.mp q).1, fun w => absurd w c, (i0.2.2.mp q).2⟩, fun q => i0.2.2.mpr ⟨q.1, q.2.2⟩⟩⟩
theorem term_eq : ∀ t, t < 11 → fX5_termOfTenths ((10 : Int32) - nI t) (0 : Int32) = nI ((10 - t) / Nat.gcd (10 - t) 10) ∧ fX5_termOfTenths ((10 : Int32) - nI t) (1 : Int32) = nI (10 / Nat.gcd (10 - t) 10) := by decide +kernel
theorem gcd_pow : ∀ t, t < 11 → ∀ c, c < 19 → (10 - t) ^ c / Nat.gcd ((10 - t) ^ c) (10 ^ c) = ((10 - t) / Nat.gcd (10 - t) 10) ^ c ∧ 10 ^ c / Nat.gcd ((10 - t) ^ c) (10 ^ c) = (10 / Nat.gcd (10 - t) 10) ^ c := by decide +kernel
theorem ten_le : ∀ t, t < 11 → (10 - t) / Nat.gcd (10 - t) 10 < 2 ^ 31 ∧ 10 / Nat.gcd (10 - t) 10 < 2 ^ 31 := by decide +kernel
theorem moth_L203 (pa : Int32) {u w : Nat} : ∀ (f a b : Nat), b ≤ f → a < 2 ^ 63 → b < 2 ^ 63 → fX6_moths_L203 pa (lN u) (lN w) f (lN a) (lN b) = if pa = 0 then lN u / lN (Nat.gcd a b) else lN w / lN (Nat.gcd a b) := by
  intro f
  induction f with
  | zero =>
    intro a b hb _ _
    have e : b = 0 := by omega
    subst e
    rw [fX6_moths_L203, Nat.gcd_zero_right]
  | succ f ih =>
    intro a b hb h1 h2
    rw [fX6_moths_L203]
    by_cases c : b = 0
    · subst c
      rw [if_pos ((lg_cmp0 (by decide)).mpr rfl), Nat.gcd_zero_right]
    · have hlt : a % b < b := Nat.mod_lt _ (by omega)
      rw [if_neg (fun q => c ((lg_cmp0 h2).mp q)), pk_lRem h1 (by omega) h2, ih b (a % b) (by omega) h2 (by omega)]
      have e : Nat.gcd b (a % b) = Nat.gcd a b := by
        rw [Nat.gcd_comm b (a % b), ← Nat.gcd_rec, Nat.gcd_comm]
      rw [e]
theorem pow_5 (b : Nat) : ∀ (r j p : Nat), fX5_power_L5 (lN b) r j (lN p) = lN (p * b ^ r) := by
  intro r
  induction r with
  | zero => intro j p; rw [fX5_power_L5, Nat.pow_zero, Nat.mul_one]
  | succ r ih =>
    intro j p
    rw [fX5_power_L5, lN_mul, ih]
    exact congrArg lN (by rw [Nat.pow_succ, Nat.mul_assoc, Nat.mul_comm b (b ^ r)])
theorem pow_5N (b n : Nat) (hn : n < 2 ^ 31) : fX5_power (lN b) (nI n) = lN (b ^ n) := by
  have h := pow_5 b n 0 1
  rw [Nat.one_mul] at h
  unfold fX5_power
  rw [nI_clamp hn]
  exact h
theorem ten_pow {c : Nat} (hc : c ≤ 18) : 10 ^ c < 2 ^ 63 ∧ 0 < 10 ^ c := by
  have p1 : 10 ^ c ≤ 10 ^ 18 := Nat.pow_le_pow_right (by decide) hc
  have p3 : 0 < 10 ^ c := Nat.pow_pos (by decide)
  exact ⟨Nat.lt_of_le_of_lt p1 (by decide), p3⟩
/-- the reference's fraction, in lowest terms -/
theorem moth_frac {u c : Nat} (hc : c ≤ 18) (hu : u ≤ 10 ^ c) (pa : Int32) : fX6_moths_L203 pa (lN u) (lN (10 ^ c)) (lN (10 ^ c)).toInt.toNat (lN u) (lN (10 ^ c)) = if pa = 0 then lN (u / Nat.gcd u (10 ^ c)) else lN (10 ^ c / Nat.gcd u (10 ^ c)) := by
  obtain ⟨p1, p2⟩ := ten_pow hc
  have hg : 0 < Nat.gcd u (10 ^ c) := Nat.gcd_pos_of_pos_right _ p2
  have hg2 : Nat.gcd u (10 ^ c) ≤ 10 ^ c := Nat.gcd_le_right _ p2
  have p4 : (lN (10 ^ c)).toInt.toNat = 10 ^ c := by rw [pk_lT p1]; rfl
  rw [p4, moth_L203 pa _ _ _ (Nat.le_refl _) (Nat.lt_of_le_of_lt hu p1) p1, pk_lDiv (Nat.lt_of_le_of_lt hu p1) hg (Nat.lt_of_le_of_lt hg2 p1), pk_lDiv p1 hg (Nat.lt_of_le_of_lt hg2 p1)]
theorem m_moths {co ti an : Nat → Int32} {n : Nat} {ea : Int32} {b : Nat → Int32} (h : RS co ti an n ea b) (a1 a2 a3 : Int32) : fX5_moths n ea an a1 a2 a3 = fX6_moths b a1 a2 a3 := by
  have hm := RS_mN h
  have hn := h.1
  have g1 := hasAll_eq hn a1
  have hb : fX5_isBelow a3 (2 : Int32) = fX6_in a3 (0 : Int32) (1 : Int32) := below_in a3 (b := 1) (by decide)
  have e1 : fX6_in a2 (0 : Int32) (10 : Int32) = if a2 < (0 : Int32) then (0 : Int32) else if (10 : Int32) < a2 then (0 : Int32) else (1 : Int32) := rfl
  unfold fX5_moths fX6_moths
  rw [hm, hb]
  by_cases c1 : fX2_hasAll n a1 = 0
  · rw [if_pos c1, if_neg (g1.mp c1)]
  · have c1' : (a1 &&& ((((1 : Int32) <<< ((nI n) &&& 31)) - (1 : Int32)) ^^^ (-1 : Int32))) = 0 := Decidable.byContradiction (fun q => c1 (g1.mpr q))
    have s1 := (all_iff2 hn).mp c1'
    rw [if_neg c1, if_pos c1']
    by_cases c2 : a2 < (0 : Int32)
    · rw [if_pos c2, if_pos (by rw [e1, if_pos c2])]
    · rw [if_neg c2]
      by_cases c3 : (10 : Int32) < a2
      · rw [if_pos c3, if_pos (by rw [e1, if_neg c2, if_pos c3])]
      · have ne : ¬ fX6_in a2 (0 : Int32) (10 : Int32) = 0 := by rw [e1, if_neg c2, if_neg c3]; decide
        rw [if_neg c3, if_neg ne]
        by_cases c4 : fX6_in a3 (0 : Int32) (1 : Int32) = 0
        · rw [if_pos c4, if_pos c4]
        · rw [if_neg c4, if_neg c4]
          obtain ⟨t, ht, rfl⟩ := in_ok (b := 10) (by decide) ne
          obtain ⟨w1, w2, w3⟩ := moth_L62 h n a1 (0 : Int32) (Nat.le_refl _) (Or.inl rfl)
          obtain ⟨u1, u2, u3, u4⟩ := wa_P h s1
          have eU : fX2_withAnchors_L9 an n a1 = fX2_withAnchors n an a1 := rfl
          rw [eU] at w1 w3
          generalize fX6_moths_L62 b n a1 (0 : Int32) = T at w1 w2 w3 ⊢
          obtain ⟨al, gx⟩ := T
          dsimp only at w1 w2 w3 ⊢
          subst w1
          generalize fX2_withAnchors n an a1 = U at w3 u4 ⊢
          have hbits : nI (pcN U) = fX6_bits U := pcN_bits (fun i h1 h2 => u4 i (by omega) h2)
          rw [← hbits]
          have hcl : pcN U ≤ 32 := by rw [pcN_c]; exact cnt_le _ _
          by_cases c5 : pcN U ≤ 18
          · rw [if_pos c5, if_pos (show nI (pcN U) ≤ (18 : Int32) from (nI_leI (b := 18) (by omega) (by decide)).mpr c5)]
            generalize pcN U = c at c5
            have hgone : gx = 0 ↔ (U &&& ea) = 0 := by
              rw [w3]
              constructor
              · intro q
                refine b_ext (fun i hi => ?_)
                rw [b_and, b_0]
                cases hU : bt U i with
                | false => rfl
                | true =>
                  rcases Nat.lt_or_ge i n with g | g
                  · rw [q.2 i g hU]; rfl
                  · rw [u4 i g hi] at hU; cases hU
              · intro q
                refine ⟨rfl, fun k hk hU => ?_⟩
                have e : bt (U &&& ea) k = false := by rw [q]; exact b_0 k
                rw [b_and, hU, Bool.true_and] at e
                exact e
            obtain ⟨t1, t2⟩ := term_eq t (by omega)
            obtain ⟨d1, d2⟩ := gcd_pow t (by omega) c (by omega)
            obtain ⟨x1, x2⟩ := ten_le t (by omega)
            have hle : (10 - t) ^ c ≤ 10 ^ c := Nat.pow_le_pow_left (Nat.sub_le 10 t) c
            obtain ⟨p1, p2⟩ := ten_pow c5
            by_cases c6 : (U &&& ea) = 0
            · rw [if_pos c6, if_pos (hgone.mpr c6)]
              rw [ten_sub t (by omega), show (10 : Int64) = lN 10 from rfl, pow_N _ c (by omega), pow_N _ c (by omega), moth_frac c5 hle]
              obtain ⟨j, hj, e3⟩ := in_ok (b := 1) (by decide) c4
              rcases (show j = 0 ∨ j = 1 by omega) with rfl | rfl
              · rw [if_pos (by rw [e3]; decide), e3, show nI 0 = (0 : Int32) from rfl, t1, nI_l x1, pow_5N _ c (by omega), d1]
              · rw [if_neg (by rw [e3]; decide), e3, show nI 1 = (1 : Int32) from rfl, t2, nI_l x2, pow_5N _ c (by omega), d2]
            · rw [if_neg c6, if_neg (fun q => c6 (hgone.mp q))]
              rw [show (10 : Int64) = lN 10 from rfl, pow_N _ c (by omega), show (0 : Int64) = lN 0 from rfl, moth_frac c5 (Nat.zero_le _), Nat.gcd_zero_left, Nat.zero_div, Nat.div_self p2]
              rfl
          · rw [if_neg c5, if_neg (show ¬ nI (pcN U) ≤ (18 : Int32) from fun q => c5 ((nI_leI (b := 18) (by omega) (by decide)).mp q))]
