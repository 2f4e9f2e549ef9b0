theorem kx_subN {x : Int32} (a : Nat) (h : x = nI x.toNatClampNeg) (h2 : a ≤ x.toNatClampNeg) : x - nI a = nI (x.toNatClampNeg - a) := by
  have h3 := pk_sub h2
  rw [← h] at h3
  exact h3
theorem fX6_asNow_I {bk nw : Nat → Int32} {t : (Nat → Int32) × Int32} (hI : kx_I bk) (h : fX6_asNow bk nw = t) : kx_I t.1 := fX6_asNow_I' hI h
theorem fX6_knit_I {nw kn : Nat → Int32} {kk : Nat} {kcl : Int32} {t : Int32 × (Nat → Int32)} (hJ : kx_I nw) (h : fX6_knit nw kn kk kcl = t) : kx_I t.2 := fX6_knit_I' hJ h
theorem fX6_eat_I {nw : Nat → Int32} {ks : Nat} {t : Int32 × (Nat → Int32)} (hJ : kx_I nw) (h : fX6_eat nw ks = t) : kx_I t.2 := fX6_eat_I' hJ h
theorem fX6_mend_I {nw kn : Nat → Int32} {ks kk : Nat} {t : Int32 × (Nat → Int32)} (hJ : kx_I nw) (h : fX6_mend nw kn ks kk = t) : kx_I t.2 := fX6_mend_I' hJ h
theorem fX6_pullOut_I {nw pq : Nat → Int32} {ks : Nat} {t : Int32 × (Nat → Int32) × (Nat → Int32)} (hJ : kx_I nw) (hk : ks < 100) (h : fX6_pullOut nw pq ks = t) : kx_I t.2.1 := fX6_pullOut_I' hJ h
theorem fX6_flt {sn : Nat} {pd : Nat → Int32} {j : Nat} (hsn : sn ≤ 60) (hj : j < sn) (h : fX6_faultOf_L4 sn pd (sn - j) j (0 : Int32) = (-6 : Int32)) : j + 1 < sn ∧ (¬ fX6_isHand (pd j) = 0 → j + 1 < sn ∧ ¬ fX6_in (pd (j + 1)) (48 : Int32) (51 : Int32) = 0 ∧ fX6_faultOf_L4 sn pd (sn - (j + 2)) (j + 2) (0 : Int32) = (-6 : Int32)) ∧ (fX6_isHand (pd j) = 0 → (pd j = (45 : Int32) ∨ pd j = (42 : Int32)) → ¬ fX6_isLetter (pd (j + 1)) = 0 ∧ fX6_faultOf_L4 sn pd (sn - (j + 2)) (j + 2) (0 : Int32) = (-6 : Int32)) ∧ (fX6_isHand (pd j) = 0 → ¬ pd j = (45 : Int32) → ¬ pd j = (42 : Int32) → j + 2 < sn ∧ ¬ fX6_isLetter (pd (j + 1)) = 0 ∧ ¬ fX6_isHand (pd (j + 2)) = 0 ∧ fX6_faultOf_L4 sn pd (sn - (j + 3)) (j + 3) (0 : Int32) = (-6 : Int32)) := fX6_flt' hsn hj h
