theorem m_fault {np : Nat} {psg : Nat → Int32} {sn : Nat} {pd : Nat → Int32} (iP : RP np psg sn pd) : fX1_firstFault np psg = fX6_faultOf sn pd := by
  obtain ⟨rfl, h2, h3⟩ := iP
  exact fault_eq h2 h3 np 0 0 rfl (Or.inl rfl)
