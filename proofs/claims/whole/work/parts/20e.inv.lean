/-! the reference's books stay books -/
theorem nI_m6 {k : Nat} (hk : k < 2 ^ 31) : ¬ nI k = (-6 : Int32) := fun q => by
  have h := nI_pos hk
  rw [q] at h
  exact h (by decide)
theorem stp_0 (x : Int32) : stp x 0 = (if fX6_in x (97 : Int32) (100 : Int32) = 0 then (if x = (42 : Int32) then 2 else if x = (43 : Int32) then 3 else if x = (45 : Int32) then 2 else (-1 : Int32)) else 1) := by
  unfold stp
  rw [if_neg (by decide), if_neg (by decide), if_neg (by decide), if_neg (by decide)]
theorem flt_one {sn : Nat} {pd : Nat → Int32} (hsn : sn ≤ 60) {j : Nat} {st : Int32} (hj : j ≤ sn) (hst : stOk st) (h : fX6_faultOf_L4 sn pd (sn - j) j st = (-6 : Int32)) : (j = sn ∧ st = 0) ∨ (j < sn ∧ ¬ stp (pd j) st = (-1 : Int32) ∧ stOk (stp (pd j) st) ∧ fX6_faultOf_L4 sn pd (sn - (j + 1)) (j + 1) (stp (pd j) st) = (-6 : Int32)) := by
  rcases Nat.eq_or_lt_of_le hj with q | q
  · subst q
    rw [Nat.sub_self, fX6_faultOf_L4] at h
    by_cases c : st = 0
    · exact Or.inl ⟨rfl, c⟩
    · rw [if_neg c] at h; exact absurd h (nI_m6 (by omega))
  · obtain ⟨r, hr⟩ : ∃ r, sn - j = r + 1 := ⟨sn - j - 1, by omega⟩
    rw [hr, flt_step sn pd r j hst] at h
    by_cases c : stp (pd j) st = (-1 : Int32)
    · rw [if_pos c] at h; exact absurd h (nI_m6 (by omega))
    · rw [if_neg c] at h
      exact Or.inr ⟨q, c, (stp_ok _ _).resolve_left c, by rw [show sn - (j + 1) = r by omega]; exact h⟩
theorem fX6_flt' {sn : Nat} {pd : Nat → Int32} {j : Nat} (hsn : sn ≤ 60) (hj : j < sn) (h : fX6_faultOf_L4 sn pd (sn - j) j (0 : Int32) = (-6 : Int32)) : j + 1 < sn ∧ (¬ fX6_isHand (pd j) = 0 → j + 1 < sn ∧ ¬ fX6_in (pd (j + 1)) (48 : Int32) (51 : Int32) = 0 ∧ fX6_faultOf_L4 sn pd (sn - (j + 2)) (j + 2) (0 : Int32) = (-6 : Int32)) ∧ (fX6_isHand (pd j) = 0 → (pd j = (45 : Int32) ∨ pd j = (42 : Int32)) → ¬ fX6_isLetter (pd (j + 1)) = 0 ∧ fX6_faultOf_L4 sn pd (sn - (j + 2)) (j + 2) (0 : Int32) = (-6 : Int32)) ∧ (fX6_isHand (pd j) = 0 → ¬ pd j = (45 : Int32) → ¬ pd j = (42 : Int32) → j + 2 < sn ∧ ¬ fX6_isLetter (pd (j + 1)) = 0 ∧ ¬ fX6_isHand (pd (j + 2)) = 0 ∧ fX6_faultOf_L4 sn pd (sn - (j + 3)) (j + 3) (0 : Int32) = (-6 : Int32)) := by
  obtain ⟨-, n1, o1, h1⟩ := (flt_one hsn (Nat.le_of_lt hj) (Or.inl rfl) h).resolve_left (fun q => by omega)
  have two : ∀ st : Int32, stOk st → ¬ st = 0 → fX6_faultOf_L4 sn pd (sn - (j + 1)) (j + 1) st = (-6 : Int32) → j + 1 < sn ∧ ¬ stp (pd (j + 1)) st = (-1 : Int32) ∧ stOk (stp (pd (j + 1)) st) ∧ fX6_faultOf_L4 sn pd (sn - (j + 2)) (j + 2) (stp (pd (j + 1)) st) = (-6 : Int32) := fun st hs hz hh => (flt_one hsn (by omega) hs hh).resolve_left (fun q => hz q.2)
  by_cases hd : fX6_isHand (pd j) = 0
  · have hd' : fX6_in (pd j) (97 : Int32) (100 : Int32) = 0 := hd
    by_cases e2 : pd j = (43 : Int32)
    · have hs : stp (pd j) 0 = (3 : Int32) := by rw [stp_0, if_pos hd', if_neg (by rw [e2]; decide), if_pos e2]
      rw [hs] at h1
      obtain ⟨k1, k2, k3, k4⟩ := two 3 (Or.inr (Or.inr (Or.inr (Or.inl rfl)))) (by decide) h1
      have hl : ¬ fX6_isLetter (pd (j + 1)) = 0 := fun q => k2 (by
        have q' : fX6_in (pd (j + 1)) (65 : Int32) (88 : Int32) = 0 := q
        unfold stp; simp [q'])
      have hl' : ¬ fX6_in (pd (j + 1)) (65 : Int32) (88 : Int32) = 0 := hl
      have hs2 : stp (pd (j + 1)) 3 = (4 : Int32) := by unfold stp; simp [hl']
      rw [hs2] at k4
      obtain ⟨m1, m2, m3, m4⟩ := (flt_one hsn (by omega) (Or.inr (Or.inr (Or.inr (Or.inr rfl)))) k4).resolve_left (fun q => absurd q.2 (by decide))
      have hh : ¬ fX6_isHand (pd (j + 2)) = 0 := fun q => m2 (by
        have q' : fX6_in (pd (j + 2)) (97 : Int32) (100 : Int32) = 0 := q
        unfold stp; simp [q'])
      have hh' : ¬ fX6_in (pd (j + 2)) (97 : Int32) (100 : Int32) = 0 := hh
      have hs3 : stp (pd (j + 2)) 4 = (0 : Int32) := by unfold stp; simp [hh']
      rw [hs3] at m4
      exact ⟨k1, fun q => absurd hd q, fun _ q => by rcases q with q | q <;> (rw [e2] at q; exact absurd q (by decide)), fun _ _ _ => ⟨m1, hl, hh, m4⟩⟩
    · have hs : stp (pd j) 0 = (2 : Int32) ∧ (pd j = (45 : Int32) ∨ pd j = (42 : Int32)) := by
        rw [stp_0, if_pos hd'] at n1 ⊢
        by_cases e1 : pd j = (42 : Int32)
        · rw [if_pos e1]; exact ⟨rfl, Or.inr e1⟩
        · rw [if_neg e1, if_neg e2] at n1 ⊢
          by_cases e3 : pd j = (45 : Int32)
          · rw [if_pos e3]; exact ⟨rfl, Or.inl e3⟩
          · rw [if_neg e3] at n1; exact absurd rfl n1
      rw [hs.1] at h1
      obtain ⟨k1, k2, k3, k4⟩ := two 2 (Or.inr (Or.inr (Or.inl rfl))) (by decide) h1
      have hl : ¬ fX6_isLetter (pd (j + 1)) = 0 := fun q => k2 (by
        have q' : fX6_in (pd (j + 1)) (65 : Int32) (88 : Int32) = 0 := q
        unfold stp; simp [q'])
      have hl' : ¬ fX6_in (pd (j + 1)) (65 : Int32) (88 : Int32) = 0 := hl
      have hs2 : stp (pd (j + 1)) 2 = (0 : Int32) := by unfold stp; simp [hl']
      rw [hs2] at k4
      exact ⟨k1, fun q => absurd hd q, fun _ _ => ⟨hl, k4⟩, fun _ q1 q2 => (hs.2.elim (fun q => absurd q q1) (fun q => absurd q q2))⟩
  · have hd' : ¬ fX6_in (pd j) (97 : Int32) (100 : Int32) = 0 := hd
    have hs : stp (pd j) 0 = (1 : Int32) := by unfold stp; simp [hd']
    rw [hs] at h1
    obtain ⟨k1, k2, k3, k4⟩ := two 1 (Or.inr (Or.inl rfl)) (by decide) h1
    have hl : ¬ fX6_in (pd (j + 1)) (48 : Int32) (51 : Int32) = 0 := fun q => k2 (by unfold stp; simp [q])
    have hs2 : stp (pd (j + 1)) 1 = (0 : Int32) := by unfold stp; simp [hl]
    rw [hs2] at k4
    exact ⟨k1, fun _ => ⟨k1, hl, k4⟩, fun q => absurd q hd, fun q => absurd q hd⟩
theorem asNow_L2 (bk : Nat → Int32) : ∀ (r j : Nat) (g : Nat → Int32), r + j = 97 → ∀ i, fX6_asNow_L2 bk r j g i = if j ≤ i ∧ i < 97 then bk i else g i := by
  intro r
  induction r with
  | zero =>
    intro j g hr i
    rw [fX6_asNow_L2, if_neg (by omega)]
  | succ r ih =>
    intro j g hr i
    rw [fX6_asNow_L2, ih _ _ (by omega)]
    by_cases q : i = j
    · subst q
      rw [if_neg (by omega), if_pos (by omega), upd_s]
    · rw [upd_n q]
      by_cases c : j + 1 ≤ i ∧ i < 97
      · rw [if_pos c, if_pos (by omega)]
      · rw [if_neg c, if_neg (by omega)]
theorem asNow_at (bk nw : Nat → Int32) {i : Nat} (hi : i < 97) : (fX6_asNow bk nw).1 i = bk i := by
  show fX6_asNow_L2 bk 97 0 nw i = bk i
  rw [asNow_L2 bk 97 0 nw rfl, if_pos (by omega)]
theorem fX6_asNow_I' {bk nw : Nat → Int32} {t : (Nat → Int32) × Int32} (hI : kx_I bk) (h : fX6_asNow bk nw = t) : kx_I t.1 := by
  subst h
  exact kx_bI hI (asNow_at bk nw (by omega)) (fun k hk => asNow_at bk nw (by omega))
theorem fX6_asNow_m' {bk nw : Nat → Int32} {t : (Nat → Int32) × Int32} (h : fX6_asNow bk nw = t) : mN t.1 = mN bk := by
  subst h
  unfold mN
  rw [asNow_at bk nw (by omega)]
theorem fX6_eat_I' {nw : Nat → Int32} {ks : Nat} {t : Int32 × (Nat → Int32)} (hJ : kx_I nw) (h : fX6_eat nw ks = t) : kx_I t.2 := by
  subst h
  unfold fX6_eat
  have hm := hJ.2.1
  split
  · split
    · exact hJ
    · exact kx_bI hJ (upd_n (by omega)) (fun k hk => upd_n (by omega))
  · exact hJ
theorem fX6_mend_I' {nw kn : Nat → Int32} {ks kk : Nat} {t : Int32 × (Nat → Int32)} (hJ : kx_I nw) (h : fX6_mend nw kn ks kk = t) : kx_I t.2 := by
  subst h
  unfold fX6_mend
  have hm := hJ.2.1
  split
  · split
    · exact hJ
    · refine kx_bI hJ ?_ (fun k hk => ?_)
      · show upd (upd nw (72 + ks) 0) (24 + ks) (kn kk) 96 = _
        rw [upd_n (by omega), upd_n (by omega)]
      · show upd (upd nw (72 + ks) 0) (24 + ks) (kn kk) (48 + k) = _
        rw [upd_n (by omega), upd_n (by omega)]
  · exact hJ
theorem knit_L23_on (nw : Nat → Int32) (kcl : Int32) (m : Nat) : ∀ (r j : Nat) (on : Int32), r + j = m → kx_on on j → kx_on (fX6_knit_L23 nw kcl r j on) m := by
  intro r
  induction r with
  | zero => intro j on hr h; rw [fX6_knit_L23]; rw [← (by omega : j = m)]; exact h
  | succ r ih =>
    intro j on hr h
    have h2 : kx_on on (j + 1) := by
      rcases h with h | ⟨i, hi, h⟩
      · exact Or.inl h
      · exact Or.inr ⟨i, by omega, h⟩
    rw [fX6_knit_L23]
    split
    · split
      · exact ih _ _ (by omega) (Or.inr ⟨j, by omega, rfl⟩)
      · exact ih _ _ (by omega) h2
    · exact ih _ _ (by omega) h2
theorem fX6_knit_I' {nw kn : Nat → Int32} {kk : Nat} {kcl : Int32} {t : Int32 × (Nat → Int32)} (hJ : kx_I nw) (h : fX6_knit nw kn kk kcl = t) : kx_I t.2 := by
  subst h
  unfold fX6_knit
  have hm := hJ.2.1
  split
  · exact hJ
  · rename_i c
    have hon := knit_L23_on nw kcl (mN nw) (mN nw) 0 (-6 : Int32) (by omega) (Or.inl rfl)
    generalize fX6_knit_L23 nw kcl (mN nw) 0 (-6 : Int32) = on at hon
    show kx_I (upd (upd (upd (upd (upd nw (mN nw) kcl) (24 + mN nw) (kn kk)) (48 + mN nw) on) (72 + mN nw) 0) 96 (nI (mN nw + 1)))
    generalize hg : upd (upd (upd (upd (upd nw (mN nw) kcl) (24 + mN nw) (kn kk)) (48 + mN nw) on) (72 + mN nw) 0) 96 (nI (mN nw + 1)) = g
    have h96 : g 96 = nI (mN nw + 1) := by rw [← hg, upd_s]
    have hmg : mN g = mN nw + 1 := by
      show (g 96).toNatClampNeg = _
      rw [h96, nI_clamp (by omega)]
    refine ⟨by rw [hmg]; exact h96, by omega, fun k hk => ?_⟩
    rw [hmg] at hk
    by_cases q : k = mN nw
    · subst q
      rw [← hg, upd_n (by omega), upd_n (by omega), upd_s]
      exact hon
    · rw [← hg, upd_n (by omega), upd_n (by omega), upd_n (by omega), upd_n (by omega), upd_n (by omega)]
      exact hJ.2.2 k (by omega)
