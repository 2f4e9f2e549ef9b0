theorem has_stitch {co ti an : Nat → Int32} {n : Nat} {ea : Int32} {b : Nat → Int32} (h : RS co ti an n ea b) (k : Int32) : fX2_has n k = fX6_isStitch b k := by
  have hm := RS_mN h
  have hn := h.1
  unfold fX2_has fX6_isStitch
  rw [hm]
  rcases Nat.eq_zero_or_pos n with q | q
  · subst q
    unfold fX5_isBelow fX6_in
    by_cases h0 : k < 0
    · rw [if_pos h0, if_pos h0]
    · rw [if_neg h0, if_neg h0]
      obtain ⟨j, hj, rfl⟩ := nI_of h0
      rw [if_pos (show nI 0 ≤ nI j from nI_pos' hj), if_pos]
      refine Int32.lt_iff_toInt_lt.mpr ?_
      rw [nI_toInt hj]
      have : (nI 0 + (-1)).toInt = -1 := by decide
      omega
  · obtain ⟨w, rfl⟩ : ∃ w, n = w + 1 := ⟨n - 1, by omega⟩
    rw [pk_m1]
    exact below_in k (by omega)
theorem RS_at {co ti an : Nat → Int32} {n : Nat} {ea : Int32} {b : Nat → Int32} (h : RS co ti an n ea b) {k : Nat} (hk : k < n) : co k = b k ∧ ti k = b (24 + k) ∧ (if bt ea k = true then (1 : Int32) else (0 : Int32)) = b (72 + k) := ⟨(h.2.2.1 k hk).1.1, (h.2.2.1 k hk).2.1.1, (h.2.2.1 k hk).2.2.2.symm⟩

