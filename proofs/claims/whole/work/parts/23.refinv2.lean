theorem fX6_faultOf_neg {sn : Nat} {pd : Nat → Int32} (hsn : sn ≤ 60) (h : fX6_faultOf sn pd < 0) : fX6_faultOf sn pd = (-6 : Int32) := fX6_faultOf_neg' hsn h
theorem fX6_asNow_m {bk nw : Nat → Int32} {t : (Nat → Int32) × Int32} (h : fX6_asNow bk nw = t) : mN t.1 = mN bk := fX6_asNow_m' h
theorem kx_onC {x : Int32} {k f : Nat} (h : kx_on x k) (hk : k ≤ f) (hf : f < 2 ^ 31) : x < 0 ∨ (x = nI x.toNatClampNeg ∧ x.toNatClampNeg < f) := by
  rcases h with rfl | ⟨j, hj, rfl⟩
  · exact Or.inl (by decide)
  · rw [nI_clamp (by omega)]; exact Or.inr ⟨rfl, by omega⟩
