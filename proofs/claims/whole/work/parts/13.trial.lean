def fX4_begin (cr : Nat → Int32) (tr : Nat → Int32) (ar : Nat → Int32) (n2 : Nat) (ea2 : Int32) (co2 : Nat → Int32) (ti2 : Nat → Int32) (an2 : Nat → Int32) : (Nat → Int32) × (Nat → Int32) × (Nat → Int32) × Nat × Int32 × Int32 × Int32 × Int32 × Int32 :=
  (match fX2_copy cr tr ar n2 ea2 co2 ti2 an2 with | (q5a, q5b, q5c, q5d, q5e) => (q5a, q5b, q5c, q5d, q5e, (0 : Int32), (0 : Int32), (0 : Int32), (0 : Int32)))
set_option maxHeartbeats 4000000 in
set_option maxRecDepth 100000 in
theorem c_X4_begin (l : Launch) (dC : Nat → ClassId) (dI : Nat → Nat → Nat) (cyI cyZ : ClassId) (htr hq r0 r1 r2 g b0 b1 b2 : Nat) (ac1 : Int32) (rs : Int32) (mu : Int32) (al1 : Int32) (nr : Nat) (er : Int32) (cr : Nat → Int32) (tr : Nat → Int32) (ar : Nat → Int32) (n2 : Nat) (ea2 : Int32) (co2 : Nat → Int32) (ti2 : Nat → Int32) (an2 : Nat → Int32) (hn2 : n2 ≤ 1000) (sz : Nat) (r : (Nat → Int32) × (Nat → Int32) × (Nat → Int32) × Nat × Int32 × Int32 × Int32 × Int32 × Int32) (hF : fX4_begin cr tr ar n2 ea2 co2 ti2 an2 = r) : Met l yX4_begin wsX4_begin ({ frames := 2, cells := 0, slots := 0, locals := 44 }) (kx_wp (dC, dI) [(htr, .inr (4, [.ref hq, .int ac1, .int rs, .int mu, .int al1])), (hq, .inr (2, [.ref r0, .ref r1, .ref r2, .int (nI nr), .int er])), (r0, .inl (cyI, 24, .inl cr)), (r1, .inl (cyI, 24, .inl tr)), (r2, .inl (cyI, 24, .inl ar)), (g, .inr (2, [.ref b0, .ref b1, .ref b2, .int (nI n2), .int ea2])), (b0, .inl (cyI, 24, .inl co2)), (b1, .inl (cyI, 24, .inl ti2)), (b2, .inl (cyI, 24, .inl an2))] [(cyI, .int), (cyZ, .boolean)] sz [.ref htr, .ref g]) (kx_Qv (dC, dI) [(htr, .inr (4, [.ref hq, .int ac1, .int rs, .int mu, .int al1])), (hq, .inr (2, [.ref r0, .ref r1, .ref r2, .int (nI nr), .int er])), (r0, .inl (cyI, 24, .inl cr)), (r1, .inl (cyI, 24, .inl tr)), (r2, .inl (cyI, 24, .inl ar)), (g, .inr (2, [.ref b0, .ref b1, .ref b2, .int (nI n2), .int ea2])), (b0, .inl (cyI, 24, .inl co2)), (b1, .inl (cyI, 24, .inl ti2)), (b2, .inl (cyI, 24, .inl an2))] [(htr, .inr (4, [.ref hq, .int r.2.2.2.2.2.1, .int r.2.2.2.2.2.2.1, .int r.2.2.2.2.2.2.2.1, .int r.2.2.2.2.2.2.2.2])), (hq, .inr (2, [.ref r0, .ref r1, .ref r2, .int (nI (r.2.2.2.1)), .int r.2.2.2.2.1])), (r0, .inl (cyI, 24, .inl r.1)), (r1, .inl (cyI, 24, .inl r.2.1)), (r2, .inl (cyI, 24, .inl r.2.2.1)), (g, .inr (2, [.ref b0, .ref b1, .ref b2, .int (nI n2), .int ea2])), (b0, .inl (cyI, 24, .inl co2)), (b1, .inl (cyI, 24, .inl ti2)), (b2, .inl (cyI, 24, .inl an2))] sz) 0 0 (va_A [(htr, .inr (4, [.ref hq, .int ac1, .int rs, .int mu, .int al1])), (hq, .inr (2, [.ref r0, .ref r1, .ref r2, .int (nI nr), .int er])), (r0, .inl (cyI, 24, .inl cr)), (r1, .inl (cyI, 24, .inl tr)), (r2, .inl (cyI, 24, .inl ar)), (g, .inr (2, [.ref b0, .ref b1, .ref b2, .int (nI n2), .int ea2])), (b0, .inl (cyI, 24, .inl co2)), (b1, .inl (cyI, 24, .inl ti2)), (b2, .inl (cyI, 24, .inl an2))] sz) := by
  refine Met.ofW (cc := cX4_begin) (maxL := 2) (ret := none) (by decide) rfl ?_
  intro p e s m args below meth c s₁ B hml hv
  obtain ⟨rfl, hsz, hP, hK, hN, hD0⟩ := hv
  have hx := B.exec
  have hb := B.bytes
  have hr := B.returns
  have hts := atoms_spec (ws := wsX4_begin) B.pre
  have hown : s.vm.findClass RX4 = some m.cls := findClass_of_methodNamed B.named
  have hlocks := B.notSynchronized
  subst hsz
  obtain ⟨A, hAe⟩ : ∃ A, A = va_A [(htr, .inr (4, [.ref hq, .int ac1, .int rs, .int mu, .int al1])), (hq, .inr (2, [.ref r0, .ref r1, .ref r2, .int (nI nr), .int er])), (r0, .inl (cyI, 24, .inl cr)), (r1, .inl (cyI, 24, .inl tr)), (r2, .inl (cyI, 24, .inl ar)), (g, .inr (2, [.ref b0, .ref b1, .ref b2, .int (nI n2), .int ea2])), (b0, .inl (cyI, 24, .inl co2)), (b1, .inl (cyI, 24, .inl ti2)), (b2, .inl (cyI, 24, .inl an2))] s.heap.size := ⟨_, rfl⟩
  have hD : va_D A [(htr, .inr (4, [.ref hq, .int ac1, .int rs, .int mu, .int al1])), (hq, .inr (2, [.ref r0, .ref r1, .ref r2, .int (nI nr), .int er])), (r0, .inl (cyI, 24, .inl cr)), (r1, .inl (cyI, 24, .inl tr)), (r2, .inl (cyI, 24, .inl ar)), (g, .inr (2, [.ref b0, .ref b1, .ref b2, .int (nI n2), .int ea2])), (b0, .inl (cyI, 24, .inl co2)), (b1, .inl (cyI, 24, .inl ti2)), (b2, .inl (cyI, 24, .inl an2))] := by rw [hAe]; exact hD0.self
  have hA : ∀ q : Nat, s.heap.size ≤ q → A q := fun q h => by rw [hAe]; exact Or.inr h
  have hS : va_S A s.heap s.heap [] := va_S.rf
  have hiX4 : ∀ w ∈ wsX40, w ∈ wsX4_begin := by decide +kernel
  have fl12 := hts (.fieldLink RX4 12 "KnitChronicle$Trial" "scarf" "LKnitChronicle$Scarf;") (by decide +kernel)
  have fl22 := hts (.fieldLink RX4 22 "KnitChronicle$Trial" "acts" "I") (by decide +kernel)
  have fl26 := hts (.fieldLink RX4 26 "KnitChronicle$Trial" "reason" "I") (by decide +kernel)
  have fl29 := hts (.fieldLink RX4 29 "KnitChronicle$Trial" "mostUndone" "I") (by decide +kernel)
  have fl32 := hts (.fieldLink RX4 32 "KnitChronicle$Trial" "allUndone" "I") (by decide +kernel)
  have hl := lv_entry ([.ref htr, .ref g]) (n := 2) (Nat.le_of_ble_eq_true rfl)
  rw [lg_entry_eq]
  generalize (lg_sl ([.ref htr, .ref g]) ++ List.replicate (2 - (lg_sl ([.ref htr, .ref g])).length) Slot.unset).toArray = ls at hl ⊢
  have hl : lv_has ls 2 [(0, .ref htr), (1, .ref g)] := hl
  unfold fX4_begin at hF
  refine lv_aload_n hx hb dX4_begin_0 rfl (lv_at hl 0 rfl) ?_
  refine va_get (D := (dC, dI)) (ci := 4) (v := .ref hq) (C := RX4) (T := TX4) (N := 5) hx hb hts hiX4 hown hK hP 0 rfl rfl 0 (by decide) fl12 (fun _ h9 => h9) rfl dX4_begin_1 ?_
  refine lv_aload_n hx hb dX4_begin_4 rfl (lv_at hl 1 rfl) ?_
  generalize hq5 : fX2_copy cr tr ar n2 ea2 co2 ti2 an2 = q5 at hF
  obtain ⟨q5a, q5b, q5c, q5d, q5e⟩ := q5
  dsimp only at hF
  refine kx_wVv (As := [.ref g]) (rest := []) (wr := [(htr, .inr (4, [.ref hq, .int ac1, .int rs, .int mu, .int al1]))]) (wc' := [(hq, .inr (2, [.ref r0, .ref r1, .ref r2, .int (nI q5d), .int q5e])), (r0, .inl (cyI, 24, .inl q5a)), (r1, .inl (cyI, 24, .inl q5b)), (r2, .inl (cyI, 24, .inl q5c)), (g, .inr (2, [.ref b0, .ref b1, .ref b2, .int (nI n2), .int ea2])), (b0, .inl (cyI, 24, .inl co2)), (b1, .inl (cyI, 24, .inl ti2)), (b2, .inl (cyI, 24, .inl an2))]) (W1 := [(htr, .inr (4, [.ref hq, .int ac1, .int rs, .int mu, .int al1])), (hq, .inr (2, [.ref r0, .ref r1, .ref r2, .int (nI q5d), .int q5e])), (r0, .inl (cyI, 24, .inl q5a)), (r1, .inl (cyI, 24, .inl q5b)), (r2, .inl (cyI, 24, .inl q5c)), (g, .inr (2, [.ref b0, .ref b1, .ref b2, .int (nI n2), .int ea2])), (b0, .inl (cyI, 24, .inl co2)), (b1, .inl (cyI, 24, .inl ti2)), (b2, .inl (cyI, 24, .inl an2))]) ⟨hx, hb, hml, hown, hts⟩ (c_X2_copy l dC dI cyI cyZ hq r0 r1 r2 g b0 b1 b2 nr er cr tr ar n2 ea2 co2 ti2 an2 (by omega) _ _ hq5) (cwV 1 hts gX4_begin_X2_copy rfl rfl rfl (by decide +kernel) ⟨Nat.le_of_ble_eq_true rfl, Nat.le_of_ble_eq_true rfl⟩) hP hD hS hA hK hN [1, 2, 3, 4, 5, 6, 7, 8] [0] [0, 1, 2, 3, 4, 5, 6, 7, 8] rfl (by decide) rfl (by decide) (by decide) (by decide) rfl [0, 1] rfl 2 1 rfl rfl rfl rfl hl.1 rfl (Nat.le_of_ble_eq_true rfl) dX4_begin_5 ⟨Nat.zero_le _, Nat.zero_le _⟩ (fun H locs hP hD hS => ?_)
  refine lv_aload_n hx hb dX4_begin_8 rfl (lv_at hl 0 rfl) ?_
  refine lv_iconst (v := (0 : Int32)) hx hb dX4_begin_9 (by decide) ?_
  refine va_put (D := (dC, dI)) (ci := 4) (v := .int (0 : Int32)) (ty := .int) (C := RX4) (T := TX4) (N := 5) hx hb hts hiX4 tyX4 tyX4_ok nmX4 hown hK hP hD hS 0 rfl rfl 1 (by decide) fl22 (fun _ h9 => h9) rfl (by decide +kernel) rfl rfl (Nat.le_of_ble_eq_true rfl) dX4_begin_10 (fun H locs hP hD hS => ?_)
  have hP : va_P (dC, dI) vwCl [(htr, .inr (4, [.ref hq, .int (0 : Int32), .int rs, .int mu, .int al1])), (hq, .inr (2, [.ref r0, .ref r1, .ref r2, .int (nI q5d), .int q5e])), (r0, .inl (cyI, 24, .inl q5a)), (r1, .inl (cyI, 24, .inl q5b)), (r2, .inl (cyI, 24, .inl q5c)), (g, .inr (2, [.ref b0, .ref b1, .ref b2, .int (nI n2), .int ea2])), (b0, .inl (cyI, 24, .inl co2)), (b1, .inl (cyI, 24, .inl ti2)), (b2, .inl (cyI, 24, .inl an2))] H := hP
  have hD : va_D A [(htr, .inr (4, [.ref hq, .int (0 : Int32), .int rs, .int mu, .int al1])), (hq, .inr (2, [.ref r0, .ref r1, .ref r2, .int (nI q5d), .int q5e])), (r0, .inl (cyI, 24, .inl q5a)), (r1, .inl (cyI, 24, .inl q5b)), (r2, .inl (cyI, 24, .inl q5c)), (g, .inr (2, [.ref b0, .ref b1, .ref b2, .int (nI n2), .int ea2])), (b0, .inl (cyI, 24, .inl co2)), (b1, .inl (cyI, 24, .inl ti2)), (b2, .inl (cyI, 24, .inl an2))] := hD
  refine lv_aload_n hx hb dX4_begin_13 rfl (lv_at hl 0 rfl) ?_
  refine lv_iconst (v := (0 : Int32)) hx hb dX4_begin_14 (by decide) ?_
  refine va_put (D := (dC, dI)) (ci := 4) (v := .int (0 : Int32)) (ty := .int) (C := RX4) (T := TX4) (N := 5) hx hb hts hiX4 tyX4 tyX4_ok nmX4 hown hK hP hD hS 0 rfl rfl 2 (by decide) fl26 (fun _ h9 => h9) rfl (by decide +kernel) rfl rfl (Nat.le_of_ble_eq_true rfl) dX4_begin_15 (fun H locs hP hD hS => ?_)
  have hP : va_P (dC, dI) vwCl [(htr, .inr (4, [.ref hq, .int (0 : Int32), .int (0 : Int32), .int mu, .int al1])), (hq, .inr (2, [.ref r0, .ref r1, .ref r2, .int (nI q5d), .int q5e])), (r0, .inl (cyI, 24, .inl q5a)), (r1, .inl (cyI, 24, .inl q5b)), (r2, .inl (cyI, 24, .inl q5c)), (g, .inr (2, [.ref b0, .ref b1, .ref b2, .int (nI n2), .int ea2])), (b0, .inl (cyI, 24, .inl co2)), (b1, .inl (cyI, 24, .inl ti2)), (b2, .inl (cyI, 24, .inl an2))] H := hP
  have hD : va_D A [(htr, .inr (4, [.ref hq, .int (0 : Int32), .int (0 : Int32), .int mu, .int al1])), (hq, .inr (2, [.ref r0, .ref r1, .ref r2, .int (nI q5d), .int q5e])), (r0, .inl (cyI, 24, .inl q5a)), (r1, .inl (cyI, 24, .inl q5b)), (r2, .inl (cyI, 24, .inl q5c)), (g, .inr (2, [.ref b0, .ref b1, .ref b2, .int (nI n2), .int ea2])), (b0, .inl (cyI, 24, .inl co2)), (b1, .inl (cyI, 24, .inl ti2)), (b2, .inl (cyI, 24, .inl an2))] := hD
  refine lv_aload_n hx hb dX4_begin_18 rfl (lv_at hl 0 rfl) ?_
  refine lv_iconst (v := (0 : Int32)) hx hb dX4_begin_19 (by decide) ?_
  refine va_put (D := (dC, dI)) (ci := 4) (v := .int (0 : Int32)) (ty := .int) (C := RX4) (T := TX4) (N := 5) hx hb hts hiX4 tyX4 tyX4_ok nmX4 hown hK hP hD hS 0 rfl rfl 3 (by decide) fl29 (fun _ h9 => h9) rfl (by decide +kernel) rfl rfl (Nat.le_of_ble_eq_true rfl) dX4_begin_20 (fun H locs hP hD hS => ?_)
  have hP : va_P (dC, dI) vwCl [(htr, .inr (4, [.ref hq, .int (0 : Int32), .int (0 : Int32), .int (0 : Int32), .int al1])), (hq, .inr (2, [.ref r0, .ref r1, .ref r2, .int (nI q5d), .int q5e])), (r0, .inl (cyI, 24, .inl q5a)), (r1, .inl (cyI, 24, .inl q5b)), (r2, .inl (cyI, 24, .inl q5c)), (g, .inr (2, [.ref b0, .ref b1, .ref b2, .int (nI n2), .int ea2])), (b0, .inl (cyI, 24, .inl co2)), (b1, .inl (cyI, 24, .inl ti2)), (b2, .inl (cyI, 24, .inl an2))] H := hP
  have hD : va_D A [(htr, .inr (4, [.ref hq, .int (0 : Int32), .int (0 : Int32), .int (0 : Int32), .int al1])), (hq, .inr (2, [.ref r0, .ref r1, .ref r2, .int (nI q5d), .int q5e])), (r0, .inl (cyI, 24, .inl q5a)), (r1, .inl (cyI, 24, .inl q5b)), (r2, .inl (cyI, 24, .inl q5c)), (g, .inr (2, [.ref b0, .ref b1, .ref b2, .int (nI n2), .int ea2])), (b0, .inl (cyI, 24, .inl co2)), (b1, .inl (cyI, 24, .inl ti2)), (b2, .inl (cyI, 24, .inl an2))] := hD
  refine lv_aload_n hx hb dX4_begin_23 rfl (lv_at hl 0 rfl) ?_
  refine lv_iconst (v := (0 : Int32)) hx hb dX4_begin_24 (by decide) ?_
  refine va_put (D := (dC, dI)) (ci := 4) (v := .int (0 : Int32)) (ty := .int) (C := RX4) (T := TX4) (N := 5) hx hb hts hiX4 tyX4 tyX4_ok nmX4 hown hK hP hD hS 0 rfl rfl 4 (by decide) fl32 (fun _ h9 => h9) rfl (by decide +kernel) rfl rfl (Nat.le_of_ble_eq_true rfl) dX4_begin_25 (fun H locs hP hD hS => ?_)
  have hP : va_P (dC, dI) vwCl [(htr, .inr (4, [.ref hq, .int (0 : Int32), .int (0 : Int32), .int (0 : Int32), .int (0 : Int32)])), (hq, .inr (2, [.ref r0, .ref r1, .ref r2, .int (nI q5d), .int q5e])), (r0, .inl (cyI, 24, .inl q5a)), (r1, .inl (cyI, 24, .inl q5b)), (r2, .inl (cyI, 24, .inl q5c)), (g, .inr (2, [.ref b0, .ref b1, .ref b2, .int (nI n2), .int ea2])), (b0, .inl (cyI, 24, .inl co2)), (b1, .inl (cyI, 24, .inl ti2)), (b2, .inl (cyI, 24, .inl an2))] H := hP
  have hD : va_D A [(htr, .inr (4, [.ref hq, .int (0 : Int32), .int (0 : Int32), .int (0 : Int32), .int (0 : Int32)])), (hq, .inr (2, [.ref r0, .ref r1, .ref r2, .int (nI q5d), .int q5e])), (r0, .inl (cyI, 24, .inl q5a)), (r1, .inl (cyI, 24, .inl q5b)), (r2, .inl (cyI, 24, .inl q5c)), (g, .inr (2, [.ref b0, .ref b1, .ref b2, .int (nI n2), .int ea2])), (b0, .inl (cyI, 24, .inl co2)), (b1, .inl (cyI, 24, .inl ti2)), (b2, .inl (cyI, 24, .inl an2))] := hD
  subst hF
  subst hAe
  exact W.vret hx hb hr (fun t ht _ => ⟨⟨(), rfl, trivial, by rw [ht]; exact hP, hD⟩, hS.F ht⟩) hS.2.2 dX4_begin_28

def fX4_countUndone (mu : Int32) (al1 : Int32) (un : Int32) : Int32 × Int32 :=
  ((if mu < un then un else mu), (al1 + un))
set_option maxHeartbeats 4000000 in
set_option maxRecDepth 100000 in
theorem c_X4_countUndone (l : Launch) (dC : Nat → ClassId) (dI : Nat → Nat → Nat) (cyI cyZ : ClassId) (htr hq : Nat) (ac1 : Int32) (rs : Int32) (mu : Int32) (al1 : Int32) (un : Int32) (sz : Nat) (r : Int32 × Int32) (hF : fX4_countUndone mu al1 un = r) : Met l yX4_countUndone wsX4_countUndone ({ frames := 1, cells := 0, slots := 0, locals := 14 }) (kx_wp (dC, dI) [(htr, .inr (4, [.ref hq, .int ac1, .int rs, .int mu, .int al1]))] [(cyI, .int), (cyZ, .boolean)] sz [.ref htr, .int un]) (kx_Qv (dC, dI) [(htr, .inr (4, [.ref hq, .int ac1, .int rs, .int mu, .int al1]))] [(htr, .inr (4, [.ref hq, .int ac1, .int rs, .int r.1, .int r.2]))] sz) 0 0 (va_A [(htr, .inr (4, [.ref hq, .int ac1, .int rs, .int mu, .int al1]))] sz) := by
  refine Met.ofW (cc := cX4_countUndone) (maxL := 2) (ret := none) (by decide) rfl ?_
  intro p e s m args below meth c s₁ B hml hv
  obtain ⟨rfl, hsz, hP, hK, hN, hD0⟩ := hv
  have hx := B.exec
  have hb := B.bytes
  have hr := B.returns
  have hts := atoms_spec (ws := wsX4_countUndone) B.pre
  have hown : s.vm.findClass RX4 = some m.cls := findClass_of_methodNamed B.named
  have hlocks := B.notSynchronized
  subst hsz
  obtain ⟨A, hAe⟩ : ∃ A, A = va_A [(htr, .inr (4, [.ref hq, .int ac1, .int rs, .int mu, .int al1]))] s.heap.size := ⟨_, rfl⟩
  have hD : va_D A [(htr, .inr (4, [.ref hq, .int ac1, .int rs, .int mu, .int al1]))] := by rw [hAe]; exact hD0.self
  have hA : ∀ q : Nat, s.heap.size ≤ q → A q := fun q h => by rw [hAe]; exact Or.inr h
  have hS : va_S A s.heap s.heap [] := va_S.rf
  have hiX4 : ∀ w ∈ wsX40, w ∈ wsX4_countUndone := by decide +kernel
  have fl29 := hts (.fieldLink RX4 29 "KnitChronicle$Trial" "mostUndone" "I") (by decide +kernel)
  have fl32 := hts (.fieldLink RX4 32 "KnitChronicle$Trial" "allUndone" "I") (by decide +kernel)
  have hl := lv_entry ([.ref htr, .int un]) (n := 2) (Nat.le_of_ble_eq_true rfl)
  rw [lg_entry_eq]
  generalize (lg_sl ([.ref htr, .int un]) ++ List.replicate (2 - (lg_sl ([.ref htr, .int un])).length) Slot.unset).toArray = ls at hl ⊢
  have hl : lv_has ls 2 [(0, .ref htr), (1, .int un)] := hl
  unfold fX4_countUndone at hF
  refine lv_aload_n hx hb dX4_countUndone_0 rfl (lv_at hl 0 rfl) ?_
  refine lv_aload_n hx hb dX4_countUndone_1 rfl (lv_at hl 0 rfl) ?_
  refine va_get (D := (dC, dI)) (ci := 4) (v := .int mu) (C := RX4) (T := TX4) (N := 5) hx hb hts hiX4 hown hK hP 0 rfl rfl 3 (by decide) fl29 (fun _ h9 => h9) rfl dX4_countUndone_2 ?_
  refine lv_iload_n hx hb dX4_countUndone_5 rfl (lv_at hl 1 rfl) ?_
  refine va_mmax hx hb (hml.trans hl.1.symm) hown (hts (.methodLink RX4 68 Lib.Math.max.name) (by decide +kernel)) (hts (.static Lib.Math.max.name) (by decide +kernel)) (hts (.initialized "java/lang/Math") (by decide +kernel)) (hts (.code Lib.Math.max.name Lib.Math.max.code 2 (some .int)) (by decide +kernel)) (Nat.le_of_ble_eq_true rfl) (Nat.le_of_ble_eq_true rfl) (Nat.zero_le _) (Nat.zero_le _) dX4_countUndone_6 ?_
  refine va_put (D := (dC, dI)) (ci := 4) (v := .int (if mu < un then un else mu)) (ty := .int) (C := RX4) (T := TX4) (N := 5) hx hb hts hiX4 tyX4 tyX4_ok nmX4 hown hK hP hD hS 0 rfl rfl 3 (by decide) fl29 (fun _ h9 => h9) rfl (by decide +kernel) rfl rfl (Nat.le_of_ble_eq_true rfl) dX4_countUndone_9 (fun H locs hP hD hS => ?_)
  have hP : va_P (dC, dI) vwCl [(htr, .inr (4, [.ref hq, .int ac1, .int rs, .int (if mu < un then un else mu), .int al1]))] H := hP
  have hD : va_D A [(htr, .inr (4, [.ref hq, .int ac1, .int rs, .int (if mu < un then un else mu), .int al1]))] := hD
  refine lv_aload_n hx hb dX4_countUndone_12 rfl (lv_at hl 0 rfl) ?_
  refine lv_dup hx hb dX4_countUndone_13 rfl ?_
  refine va_get (D := (dC, dI)) (ci := 4) (v := .int al1) (C := RX4) (T := TX4) (N := 5) hx hb hts hiX4 hown hK hP 0 rfl rfl 4 (by decide) fl32 (fun _ h9 => h9) rfl dX4_countUndone_14 ?_
  refine lv_iload_n hx hb dX4_countUndone_17 rfl (lv_at hl 1 rfl) ?_
  refine lv_iadd hx hb dX4_countUndone_18 ?_
  refine va_put (D := (dC, dI)) (ci := 4) (v := .int (al1 + un)) (ty := .int) (C := RX4) (T := TX4) (N := 5) hx hb hts hiX4 tyX4 tyX4_ok nmX4 hown hK hP hD hS 0 rfl rfl 4 (by decide) fl32 (fun _ h9 => h9) rfl (by decide +kernel) rfl rfl (Nat.le_of_ble_eq_true rfl) dX4_countUndone_19 (fun H locs hP hD hS => ?_)
  have hP : va_P (dC, dI) vwCl [(htr, .inr (4, [.ref hq, .int ac1, .int rs, .int (if mu < un then un else mu), .int (al1 + un)]))] H := hP
  have hD : va_D A [(htr, .inr (4, [.ref hq, .int ac1, .int rs, .int (if mu < un then un else mu), .int (al1 + un)]))] := hD
  subst hF
  subst hAe
  exact W.vret hx hb hr (fun t ht _ => ⟨⟨(), rfl, trivial, by rw [ht]; exact hP, hD⟩, hS.F ht⟩) hS.2.2 dX4_countUndone_22

def fX4_reasonAgainst (nr : Nat) (er : Int32) (kk : Int32) (kst : Int32) : Int32 :=
  (if kk = (3 : Int32) then (if (fX2_isFull nr) = 0 then (0 : Int32) else (2 : Int32)) else (if (fX2_has nr kst) = 0 then (1 : Int32) else (if kk = 0 then (0 : Int32) else (if kk = (1 : Int32) then (if (fX2_isEaten er kst) = (1 : Int32) then (3 : Int32) else (0 : Int32)) else (if (fX2_isEaten er kst) = (0 : Int32) then (3 : Int32) else (0 : Int32))))))
set_option maxHeartbeats 4000000 in
set_option maxRecDepth 100000 in
theorem c_X4_reasonAgainst (l : Launch) (dC : Nat → ClassId) (dI : Nat → Nat → Nat) (cyI cyZ : ClassId) (htr hq r0 r1 r2 : Nat) (ac1 : Int32) (rs : Int32) (mu : Int32) (al1 : Int32) (nr : Nat) (er : Int32) (cr : Nat → Int32) (tr : Nat → Int32) (ar : Nat → Int32) (kk : Int32) (kst : Int32) (hnr : nr ≤ 1000) (r : Int32) (hF : fX4_reasonAgainst nr er kk kst = r) : Met l yX4_reasonAgainst wsX4_reasonAgainst ({ frames := 2, cells := 0, slots := 0, locals := 42 }) (kx_rp (dC, dI) [(htr, .inr (4, [.ref hq, .int ac1, .int rs, .int mu, .int al1])), (hq, .inr (2, [.ref r0, .ref r1, .ref r2, .int (nI nr), .int er])), (r0, .inl (cyI, 24, .inl cr)), (r1, .inl (cyI, 24, .inl tr)), (r2, .inl (cyI, 24, .inl ar))] [(cyI, .int), (cyZ, .boolean)] [.ref htr, .int kk, .int kst]) (k2_QcV (.int r)) 0 0 (fun _ => False) := by
  refine Met.ofW (cc := cX4_reasonAgainst) (maxL := 3) (ret := (some .int)) (by decide) rfl ?_
  intro p e s m args below meth c s₁ B hml hv
  obtain ⟨rfl, hP, hK, hN⟩ := hv
  have hx := B.exec
  have hb := B.bytes
  have hr := B.returns
  have hts := atoms_spec (ws := wsX4_reasonAgainst) B.pre
  have hown : s.vm.findClass RX4 = some m.cls := findClass_of_methodNamed B.named
  have hlocks := B.notSynchronized
  have hiX4 : ∀ w ∈ wsX40, w ∈ wsX4_reasonAgainst := by decide +kernel
  have fl12 := hts (.fieldLink RX4 12 "KnitChronicle$Trial" "scarf" "LKnitChronicle$Scarf;") (by decide +kernel)
  have hl := lv_entry ([.ref htr, .int kk, .int kst]) (n := 3) (Nat.le_of_ble_eq_true rfl)
  rw [lg_entry_eq]
  generalize (lg_sl ([.ref htr, .int kk, .int kst]) ++ List.replicate (3 - (lg_sl ([.ref htr, .int kk, .int kst])).length) Slot.unset).toArray = ls at hl ⊢
  have hl : lv_has ls 3 [(0, .ref htr), (1, .int kk), (2, .int kst)] := hl
  unfold fX4_reasonAgainst at hF
  refine lv_iload_n hx hb dX4_reasonAgainst_0 rfl (lv_at hl 1 rfl) ?_
  refine lv_iconst (v := (3 : Int32)) hx hb dX4_reasonAgainst_1 (by decide) ?_
  refine lv_icmp_ne (tgt := 21) hx hb dX4_reasonAgainst_2 (by decide) (fun c2 => ?_) (fun c2 => ?_)
  · rw [if_neg c2] at hF
    refine lv_aload_n hx hb dX4_reasonAgainst_21 rfl (lv_at hl 0 rfl) ?_
    refine va_get (D := (dC, dI)) (ci := 4) (v := .ref hq) (C := RX4) (T := TX4) (N := 5) hx hb hts hiX4 hown hK hP 0 rfl rfl 0 (by decide) fl12 (fun _ h9 => h9) rfl dX4_reasonAgainst_22 ?_
    refine lv_iload_n hx hb dX4_reasonAgainst_25 rfl (lv_at hl 2 rfl) ?_
    refine kx_cV (As := [.int kst]) (rest := []) ⟨hx, hb, hml, hown, hts⟩ (c_X2_has l dC dI cyI cyZ hq r0 r1 r2 nr er cr tr ar kst  _ rfl) (cwV 1 hts gX4_reasonAgainst_X2_has rfl rfl rfl (by decide +kernel) ⟨Nat.le_of_ble_eq_true rfl, Nat.le_of_ble_eq_true rfl⟩) hP hK hN [1, 2, 3, 4] rfl [0, 1] rfl 2 1 rfl rfl rfl rfl hl.1 rfl (Nat.le_of_ble_eq_true rfl) dX4_reasonAgainst_26 ⟨Nat.zero_le _, Nat.zero_le _⟩ ?_
    refine lv_if_ne (tgt := 34) hx hb dX4_reasonAgainst_29 (by decide) (fun c29 => ?_) (fun c29 => ?_)
    · rw [if_neg c29] at hF
      refine lv_iload_n hx hb dX4_reasonAgainst_34 rfl (lv_at hl 1 rfl) ?_
      refine lv_if_ne (tgt := 40) hx hb dX4_reasonAgainst_35 (by decide) (fun c35 => ?_) (fun c35 => ?_)
      · rw [if_neg c35] at hF
        refine lv_aload_n hx hb dX4_reasonAgainst_40 rfl (lv_at hl 0 rfl) ?_
        refine va_get (D := (dC, dI)) (ci := 4) (v := .ref hq) (C := RX4) (T := TX4) (N := 5) hx hb hts hiX4 hown hK hP 0 rfl rfl 0 (by decide) fl12 (fun _ h9 => h9) rfl dX4_reasonAgainst_41 ?_
        refine lv_iload_n hx hb dX4_reasonAgainst_44 rfl (lv_at hl 2 rfl) ?_
        refine kx_cV (As := [.int kst]) (rest := []) ⟨hx, hb, hml, hown, hts⟩ (c_X2_isEaten l dC dI cyI cyZ hq r0 r1 r2 nr er cr tr ar kst  _ rfl) (cwV 1 hts gX4_reasonAgainst_X2_isEaten rfl rfl rfl (by decide +kernel) ⟨Nat.le_of_ble_eq_true rfl, Nat.le_of_ble_eq_true rfl⟩) hP hK hN [1, 2, 3, 4] rfl [0, 1] rfl 2 1 rfl rfl rfl rfl hl.1 rfl (Nat.le_of_ble_eq_true rfl) dX4_reasonAgainst_45 ⟨Nat.zero_le _, Nat.zero_le _⟩ ?_
        refine lv_iload_n hx hb dX4_reasonAgainst_48 rfl (lv_at hl 1 rfl) ?_
        refine lv_iconst (v := (1 : Int32)) hx hb dX4_reasonAgainst_49 (by decide) ?_
        refine lv_icmp_ne (tgt := 57) hx hb dX4_reasonAgainst_50 (by decide) (fun c50 => ?_) (fun c50 => ?_)
        · rw [if_neg c50] at hF
          refine lv_iconst (v := (0 : Int32)) hx hb dX4_reasonAgainst_57 (by decide) ?_
          refine lv_icmp_ne (tgt := 65) hx hb dX4_reasonAgainst_58 (by decide) (fun c58 => ?_) (fun c58 => ?_)
          · rw [if_neg c58] at hF
            refine lv_iconst (v := (0 : Int32)) hx hb dX4_reasonAgainst_65 (by decide) ?_
            exact W.iret hx hb hr (fun t ht _ => ⟨congrArg (fun z => Outcome.returned (some (Value.int z))) hF, ht⟩) (fun _ h => absurd h List.not_mem_nil) dX4_reasonAgainst_66
          · rw [if_pos c58] at hF
            refine lv_iconst (v := (3 : Int32)) hx hb dX4_reasonAgainst_61 (by decide) ?_
            refine lv_goto (tgt := 66) hx hb dX4_reasonAgainst_62 (by decide) ?_
            exact W.iret hx hb hr (fun t ht _ => ⟨congrArg (fun z => Outcome.returned (some (Value.int z))) hF, ht⟩) (fun _ h => absurd h List.not_mem_nil) dX4_reasonAgainst_66
        · rw [if_pos c50] at hF
          refine lv_iconst (v := (1 : Int32)) hx hb dX4_reasonAgainst_53 (by decide) ?_
          refine lv_goto (tgt := 58) hx hb dX4_reasonAgainst_54 (by decide) ?_
          refine lv_icmp_ne (tgt := 65) hx hb dX4_reasonAgainst_58 (by decide) (fun c58 => ?_) (fun c58 => ?_)
          · rw [if_neg c58] at hF
            refine lv_iconst (v := (0 : Int32)) hx hb dX4_reasonAgainst_65 (by decide) ?_
            exact W.iret hx hb hr (fun t ht _ => ⟨congrArg (fun z => Outcome.returned (some (Value.int z))) hF, ht⟩) (fun _ h => absurd h List.not_mem_nil) dX4_reasonAgainst_66
          · rw [if_pos c58] at hF
            refine lv_iconst (v := (3 : Int32)) hx hb dX4_reasonAgainst_61 (by decide) ?_
            refine lv_goto (tgt := 66) hx hb dX4_reasonAgainst_62 (by decide) ?_
            exact W.iret hx hb hr (fun t ht _ => ⟨congrArg (fun z => Outcome.returned (some (Value.int z))) hF, ht⟩) (fun _ h => absurd h List.not_mem_nil) dX4_reasonAgainst_66
      · rw [if_pos c35] at hF
        refine lv_iconst (v := (0 : Int32)) hx hb dX4_reasonAgainst_38 (by decide) ?_
        exact W.iret hx hb hr (fun t ht _ => ⟨congrArg (fun z => Outcome.returned (some (Value.int z))) hF, ht⟩) (fun _ h => absurd h List.not_mem_nil) dX4_reasonAgainst_39
    · rw [if_pos c29] at hF
      refine lv_iconst (v := (1 : Int32)) hx hb dX4_reasonAgainst_32 (by decide) ?_
      exact W.iret hx hb hr (fun t ht _ => ⟨congrArg (fun z => Outcome.returned (some (Value.int z))) hF, ht⟩) (fun _ h => absurd h List.not_mem_nil) dX4_reasonAgainst_33
  · rw [if_pos c2] at hF
    refine lv_aload_n hx hb dX4_reasonAgainst_5 rfl (lv_at hl 0 rfl) ?_
    refine va_get (D := (dC, dI)) (ci := 4) (v := .ref hq) (C := RX4) (T := TX4) (N := 5) hx hb hts hiX4 hown hK hP 0 rfl rfl 0 (by decide) fl12 (fun _ h9 => h9) rfl dX4_reasonAgainst_6 ?_
    refine kx_cV (As := []) (rest := []) ⟨hx, hb, hml, hown, hts⟩ (c_X2_isFull l dC dI cyI cyZ hq r0 r1 r2 nr er cr tr ar (by omega) _ rfl) (cwV 0 hts gX4_reasonAgainst_X2_isFull rfl rfl rfl (by decide +kernel) ⟨Nat.le_of_ble_eq_true rfl, Nat.le_of_ble_eq_true rfl⟩) hP hK hN [1, 2, 3, 4] rfl [0, 1] rfl 2 1 rfl rfl rfl rfl hl.1 rfl (Nat.le_of_ble_eq_true rfl) dX4_reasonAgainst_9 ⟨Nat.zero_le _, Nat.zero_le _⟩ ?_
    refine lv_if_eq (tgt := 19) hx hb dX4_reasonAgainst_12 (by decide) (fun c12 => ?_) (fun c12 => ?_)
    · rw [if_pos c12] at hF
      refine lv_iconst (v := (0 : Int32)) hx hb dX4_reasonAgainst_19 (by decide) ?_
      exact W.iret hx hb hr (fun t ht _ => ⟨congrArg (fun z => Outcome.returned (some (Value.int z))) hF, ht⟩) (fun _ h => absurd h List.not_mem_nil) dX4_reasonAgainst_20
    · rw [if_neg c12] at hF
      refine lv_iconst (v := (2 : Int32)) hx hb dX4_reasonAgainst_15 (by decide) ?_
      refine lv_goto (tgt := 20) hx hb dX4_reasonAgainst_16 (by decide) ?_
      exact W.iret hx hb hr (fun t ht _ => ⟨congrArg (fun z => Outcome.returned (some (Value.int z))) hF, ht⟩) (fun _ h => absurd h List.not_mem_nil) dX4_reasonAgainst_20

theorem kx_has {n : Nat} {k : Int32} (hn : n ≤ 1000) (h : ¬ fX2_has n k = 0) : k = nI k.toNatClampNeg ∧ k.toNatClampNeg < n := by
  unfold fX2_has fX5_isBelow at h
  rcases pk_ix k (n := n) (by omega) with h1 | h1 | ⟨j, hj, rfl⟩
  · exact absurd (if_pos h1) h
  · refine absurd ?_ h
    by_cases z9 : k < 0
    · rw [if_pos z9]
    · rw [if_neg z9, if_pos h1]
  · rw [nI_clamp (by omega)]; exact ⟨rfl, hj⟩
theorem kx_reason {n : Nat} {ea kk kst : Int32} (hn : n ≤ 1000) (h : fX4_reasonAgainst n ea kk kst = 0) (hk : kk = (0 : Int32)) : kst = nI kst.toNatClampNeg ∧ kst.toNatClampNeg < n := by
  subst hk
  unfold fX4_reasonAgainst at h
  rw [if_neg (by decide)] at h
  by_cases c : fX2_has n kst = 0
  · rw [if_pos c] at h; exact absurd h (by decide)
  · exact kx_has hn c

def fX4_act (ac1 : Int32) (mu : Int32) (al1 : Int32) (nr : Nat) (er : Int32) (cr : Nat → Int32) (tr : Nat → Int32) (ar : Nat → Int32) (kk : Int32) (kst : Int32) (kcl : Int32) (ktt : Int32) : Int32 × (Nat → Int32) × (Nat → Int32) × (Nat → Int32) × Nat × Int32 × Int32 × Int32 × Int32 × Int32 :=
  (if (fX4_reasonAgainst nr er kk kst) = 0 then (if kk = (0 : Int32) then (match fX2_unpick nr er cr tr ar kst.toNatClampNeg with | (q62a, q62b, q62c, q62d, q62e, q62f) => (match fX4_countUndone mu al1 (nI q62a) with | (q65a, q65b) => ((1 : Int32), q62b, q62c, q62d, q62e, q62f, (ac1 + (1 : Int32)), (fX4_reasonAgainst nr er kk kst), q65a, q65b))) else (if kk = (1 : Int32) then ((fun (q76 : Int32) => ((1 : Int32), cr, tr, ar, nr, q76, (ac1 + (1 : Int32)), (fX4_reasonAgainst nr er kk kst), mu, al1)) (fX2_eat er kst)) else (if kk = (2 : Int32) then (match fX2_mend er tr kst ktt with | (q89a, q89b) => ((1 : Int32), cr, q89a, ar, nr, q89b, (ac1 + (1 : Int32)), (fX4_reasonAgainst nr er kk kst), mu, al1)) else (match fX2_knit nr er cr tr ar kcl ktt with | (q102a, q102b, q102c, q102d) => ((1 : Int32), q102a, q102b, q102c, q102d, er, (ac1 + (1 : Int32)), (fX4_reasonAgainst nr er kk kst), mu, al1))))) else ((0 : Int32), cr, tr, ar, nr, er, ac1, (fX4_reasonAgainst nr er kk kst), mu, al1))
set_option maxHeartbeats 4000000 in
set_option maxRecDepth 100000 in
theorem c_X4_act (l : Launch) (dC : Nat → ClassId) (dI : Nat → Nat → Nat) (cyI cyZ : ClassId) (htr hq r0 r1 r2 : Nat) (ac1 : Int32) (rs : Int32) (mu : Int32) (al1 : Int32) (nr : Nat) (er : Int32) (cr : Nat → Int32) (tr : Nat → Int32) (ar : Nat → Int32) (kk : Int32) (kst : Int32) (kcl : Int32) (ktt : Int32) (hnr : nr ≤ 1000) (sz : Nat) (r : Int32 × (Nat → Int32) × (Nat → Int32) × (Nat → Int32) × Nat × Int32 × Int32 × Int32 × Int32 × Int32) (hF : fX4_act ac1 mu al1 nr er cr tr ar kk kst kcl ktt = r) : Met l yX4_act wsX4_act ({ frames := 3, cells := 0, slots := 0, locals := 69 }) (kx_wp (dC, dI) [(htr, .inr (4, [.ref hq, .int ac1, .int rs, .int mu, .int al1])), (hq, .inr (2, [.ref r0, .ref r1, .ref r2, .int (nI nr), .int er])), (r0, .inl (cyI, 24, .inl cr)), (r1, .inl (cyI, 24, .inl tr)), (r2, .inl (cyI, 24, .inl ar))] [(cyI, .int), (cyZ, .boolean)] sz [.ref htr, .int kk, .int kst, .int kcl, .int ktt]) (kx_Qi r.1 (dC, dI) [(htr, .inr (4, [.ref hq, .int ac1, .int rs, .int mu, .int al1])), (hq, .inr (2, [.ref r0, .ref r1, .ref r2, .int (nI nr), .int er])), (r0, .inl (cyI, 24, .inl cr)), (r1, .inl (cyI, 24, .inl tr)), (r2, .inl (cyI, 24, .inl ar))] [(htr, .inr (4, [.ref hq, .int r.2.2.2.2.2.2.1, .int r.2.2.2.2.2.2.2.1, .int r.2.2.2.2.2.2.2.2.1, .int r.2.2.2.2.2.2.2.2.2])), (hq, .inr (2, [.ref r0, .ref r1, .ref r2, .int (nI (r.2.2.2.2.1)), .int r.2.2.2.2.2.1])), (r0, .inl (cyI, 24, .inl r.2.1)), (r1, .inl (cyI, 24, .inl r.2.2.1)), (r2, .inl (cyI, 24, .inl r.2.2.2.1))] sz) 0 0 (va_A [(htr, .inr (4, [.ref hq, .int ac1, .int rs, .int mu, .int al1])), (hq, .inr (2, [.ref r0, .ref r1, .ref r2, .int (nI nr), .int er])), (r0, .inl (cyI, 24, .inl cr)), (r1, .inl (cyI, 24, .inl tr)), (r2, .inl (cyI, 24, .inl ar))] sz) := by
  refine Met.ofW (cc := cX4_act) (maxL := 5) (ret := (some .boolean)) (by decide) rfl ?_
  intro p e s m args below meth c s₁ B hml hv
  obtain ⟨rfl, hsz, hP, hK, hN, hD0⟩ := hv
  have hx := B.exec
  have hb := B.bytes
  have hr := B.returns
  have hts := atoms_spec (ws := wsX4_act) B.pre
  have hown : s.vm.findClass RX4 = some m.cls := findClass_of_methodNamed B.named
  have hlocks := B.notSynchronized
  subst hsz
  obtain ⟨A, hAe⟩ : ∃ A, A = va_A [(htr, .inr (4, [.ref hq, .int ac1, .int rs, .int mu, .int al1])), (hq, .inr (2, [.ref r0, .ref r1, .ref r2, .int (nI nr), .int er])), (r0, .inl (cyI, 24, .inl cr)), (r1, .inl (cyI, 24, .inl tr)), (r2, .inl (cyI, 24, .inl ar))] s.heap.size := ⟨_, rfl⟩
  have hD : va_D A [(htr, .inr (4, [.ref hq, .int ac1, .int rs, .int mu, .int al1])), (hq, .inr (2, [.ref r0, .ref r1, .ref r2, .int (nI nr), .int er])), (r0, .inl (cyI, 24, .inl cr)), (r1, .inl (cyI, 24, .inl tr)), (r2, .inl (cyI, 24, .inl ar))] := by rw [hAe]; exact hD0.self
  have hA : ∀ q : Nat, s.heap.size ≤ q → A q := fun q h => by rw [hAe]; exact Or.inr h
  have hS : va_S A s.heap s.heap [] := va_S.rf
  have hiX4 : ∀ w ∈ wsX40, w ∈ wsX4_act := by decide +kernel
  have fl12 := hts (.fieldLink RX4 12 "KnitChronicle$Trial" "scarf" "LKnitChronicle$Scarf;") (by decide +kernel)
  have fl22 := hts (.fieldLink RX4 22 "KnitChronicle$Trial" "acts" "I") (by decide +kernel)
  have fl26 := hts (.fieldLink RX4 26 "KnitChronicle$Trial" "reason" "I") (by decide +kernel)
  have hl := lv_entry ([.ref htr, .int kk, .int kst, .int kcl, .int ktt]) (n := 5) (Nat.le_of_ble_eq_true rfl)
  rw [lg_entry_eq]
  generalize (lg_sl ([.ref htr, .int kk, .int kst, .int kcl, .int ktt]) ++ List.replicate (5 - (lg_sl ([.ref htr, .int kk, .int kst, .int kcl, .int ktt])).length) Slot.unset).toArray = ls at hl ⊢
  have hl : lv_has ls 5 [(0, .ref htr), (1, .int kk), (2, .int kst), (3, .int kcl), (4, .int ktt)] := hl
  unfold fX4_act at hF
  refine lv_aload_n hx hb dX4_act_0 rfl (lv_at hl 0 rfl) ?_
  refine lv_aload_n hx hb dX4_act_1 rfl (lv_at hl 0 rfl) ?_
  refine lv_iload_n hx hb dX4_act_2 rfl (lv_at hl 1 rfl) ?_
  refine lv_iload_n hx hb dX4_act_3 rfl (lv_at hl 2 rfl) ?_
  refine kx_cV (As := [.int kk, .int kst]) (rest := [.ref htr]) ⟨hx, hb, hml, hown, hts⟩ (c_X4_reasonAgainst l dC dI cyI cyZ htr hq r0 r1 r2 ac1 rs mu al1 nr er cr tr ar kk kst (by omega) _ rfl) (cwV 2 hts gX4_act_X4_reasonAgainst rfl rfl rfl (by decide +kernel) ⟨Nat.le_of_ble_eq_true rfl, Nat.le_of_ble_eq_true rfl⟩) hP hK hN [0, 1, 2, 3, 4] rfl [0, 1] rfl 4 0 rfl rfl rfl rfl hl.1 rfl (Nat.le_of_ble_eq_true rfl) dX4_act_4 ⟨Nat.zero_le _, Nat.zero_le _⟩ ?_
  refine va_put (D := (dC, dI)) (ci := 4) (v := .int (fX4_reasonAgainst nr er kk kst)) (ty := .int) (C := RX4) (T := TX4) (N := 5) hx hb hts hiX4 tyX4 tyX4_ok nmX4 hown hK hP hD hS 0 rfl rfl 2 (by decide) fl26 (fun _ h9 => h9) rfl (by decide +kernel) rfl rfl (Nat.le_of_ble_eq_true rfl) dX4_act_7 (fun H locs hP hD hS => ?_)
  have hP : va_P (dC, dI) vwCl [(htr, .inr (4, [.ref hq, .int ac1, .int (fX4_reasonAgainst nr er kk kst), .int mu, .int al1])), (hq, .inr (2, [.ref r0, .ref r1, .ref r2, .int (nI nr), .int er])), (r0, .inl (cyI, 24, .inl cr)), (r1, .inl (cyI, 24, .inl tr)), (r2, .inl (cyI, 24, .inl ar))] H := hP
  have hD : va_D A [(htr, .inr (4, [.ref hq, .int ac1, .int (fX4_reasonAgainst nr er kk kst), .int mu, .int al1])), (hq, .inr (2, [.ref r0, .ref r1, .ref r2, .int (nI nr), .int er])), (r0, .inl (cyI, 24, .inl cr)), (r1, .inl (cyI, 24, .inl tr)), (r2, .inl (cyI, 24, .inl ar))] := hD
  refine lv_aload_n hx hb dX4_act_10 rfl (lv_at hl 0 rfl) ?_
  refine va_get (D := (dC, dI)) (ci := 4) (v := .int (fX4_reasonAgainst nr er kk kst)) (C := RX4) (T := TX4) (N := 5) hx hb hts hiX4 hown hK hP 0 rfl rfl 2 (by decide) fl26 (fun _ h9 => h9) rfl dX4_act_11 ?_
  refine lv_if_eq (tgt := 19) hx hb dX4_act_14 (by decide) (fun c14 => ?_) (fun c14 => ?_)
  · rw [if_pos c14] at hF
    refine lv_aload_n hx hb dX4_act_19 rfl (lv_at hl 0 rfl) ?_
    refine lv_dup hx hb dX4_act_20 rfl ?_
    refine va_get (D := (dC, dI)) (ci := 4) (v := .int ac1) (C := RX4) (T := TX4) (N := 5) hx hb hts hiX4 hown hK hP 0 rfl rfl 1 (by decide) fl22 (fun _ h9 => h9) rfl dX4_act_21 ?_
    refine lv_iconst (v := (1 : Int32)) hx hb dX4_act_24 (by decide) ?_
    refine lv_iadd hx hb dX4_act_25 ?_
    refine va_put (D := (dC, dI)) (ci := 4) (v := .int (ac1 + (1 : Int32))) (ty := .int) (C := RX4) (T := TX4) (N := 5) hx hb hts hiX4 tyX4 tyX4_ok nmX4 hown hK hP hD hS 0 rfl rfl 1 (by decide) fl22 (fun _ h9 => h9) rfl (by decide +kernel) rfl rfl (Nat.le_of_ble_eq_true rfl) dX4_act_26 (fun H locs hP hD hS => ?_)
    have hP : va_P (dC, dI) vwCl [(htr, .inr (4, [.ref hq, .int (ac1 + (1 : Int32)), .int (fX4_reasonAgainst nr er kk kst), .int mu, .int al1])), (hq, .inr (2, [.ref r0, .ref r1, .ref r2, .int (nI nr), .int er])), (r0, .inl (cyI, 24, .inl cr)), (r1, .inl (cyI, 24, .inl tr)), (r2, .inl (cyI, 24, .inl ar))] H := hP
    have hD : va_D A [(htr, .inr (4, [.ref hq, .int (ac1 + (1 : Int32)), .int (fX4_reasonAgainst nr er kk kst), .int mu, .int al1])), (hq, .inr (2, [.ref r0, .ref r1, .ref r2, .int (nI nr), .int er])), (r0, .inl (cyI, 24, .inl cr)), (r1, .inl (cyI, 24, .inl tr)), (r2, .inl (cyI, 24, .inl ar))] := hD
    refine lv_iload_n hx hb dX4_act_29 rfl (lv_at hl 1 rfl) ?_
    by_cases c30_0 : kk = (0 : Int32)
    · rw [if_pos c30_0] at hF
      refine lv_tableIn (tgt := 56) (off := 26) hx hb dX4_act_30 (by rw [c30_0]; decide) (by rw [c30_0]; decide) (by rw [c30_0]; rfl) (by decide) ?_
      obtain ⟨hst, hst2⟩ := kx_reason hnr c14 c30_0
      refine lv_aload_n hx hb dX4_act_56 rfl (lv_at hl 0 rfl) ?_
      refine lv_aload_n hx hb dX4_act_57 rfl (lv_at hl 0 rfl) ?_
      refine va_get (D := (dC, dI)) (ci := 4) (v := .ref hq) (C := RX4) (T := TX4) (N := 5) hx hb hts hiX4 hown hK hP 0 rfl rfl 0 (by decide) fl12 (fun _ h9 => h9) rfl dX4_act_58 ?_
      refine lv_iload_n hx hb dX4_act_61 rfl (lv_at hl 2 rfl) ?_
      refine kx_e hst ?_
      generalize hq62 : fX2_unpick nr er cr tr ar kst.toNatClampNeg = q62 at hF
      obtain ⟨q62a, q62b, q62c, q62d, q62e, q62f⟩ := q62
      dsimp only at hF
      refine kx_wVi (As := [.int (nI (kst.toNatClampNeg))]) (rest := [.ref htr]) (wr := [(htr, .inr (4, [.ref hq, .int (ac1 + (1 : Int32)), .int (fX4_reasonAgainst nr er kk kst), .int mu, .int al1]))]) (wc' := [(hq, .inr (2, [.ref r0, .ref r1, .ref r2, .int (nI q62e), .int q62f])), (r0, .inl (cyI, 24, .inl q62b)), (r1, .inl (cyI, 24, .inl q62c)), (r2, .inl (cyI, 24, .inl q62d))]) (W1 := [(htr, .inr (4, [.ref hq, .int (ac1 + (1 : Int32)), .int (fX4_reasonAgainst nr er kk kst), .int mu, .int al1])), (hq, .inr (2, [.ref r0, .ref r1, .ref r2, .int (nI q62e), .int q62f])), (r0, .inl (cyI, 24, .inl q62b)), (r1, .inl (cyI, 24, .inl q62c)), (r2, .inl (cyI, 24, .inl q62d))]) ⟨hx, hb, hml, hown, hts⟩ (c_X2_unpick l dC dI cyI cyZ hq r0 r1 r2 nr er cr tr ar kst.toNatClampNeg (by omega) (by omega) _ _ hq62) (cwV 1 hts gX4_act_X2_unpick rfl rfl rfl (by decide +kernel) ⟨Nat.le_of_ble_eq_true rfl, Nat.le_of_ble_eq_true rfl⟩) hP hD hS hA hK hN [1, 2, 3, 4] [0] [0, 1, 2, 3, 4] rfl (by decide) rfl (by decide) (by decide) (by decide) rfl [0, 1] rfl 2 1 rfl rfl rfl rfl hl.1 rfl (Nat.le_of_ble_eq_true rfl) dX4_act_62 ⟨Nat.zero_le _, Nat.zero_le _⟩ (fun H locs hP hD hS => ?_)
      generalize hq65 : fX4_countUndone mu al1 (nI q62a) = q65 at hF
      obtain ⟨q65a, q65b⟩ := q65
      dsimp only at hF
      refine kx_wVv (As := [.int (nI q62a)]) (rest := []) (wr := [(hq, .inr (2, [.ref r0, .ref r1, .ref r2, .int (nI q62e), .int q62f])), (r0, .inl (cyI, 24, .inl q62b)), (r1, .inl (cyI, 24, .inl q62c)), (r2, .inl (cyI, 24, .inl q62d))]) (wc' := [(htr, .inr (4, [.ref hq, .int (ac1 + (1 : Int32)), .int (fX4_reasonAgainst nr er kk kst), .int q65a, .int q65b]))]) (W1 := [(htr, .inr (4, [.ref hq, .int (ac1 + (1 : Int32)), .int (fX4_reasonAgainst nr er kk kst), .int q65a, .int q65b])), (hq, .inr (2, [.ref r0, .ref r1, .ref r2, .int (nI q62e), .int q62f])), (r0, .inl (cyI, 24, .inl q62b)), (r1, .inl (cyI, 24, .inl q62c)), (r2, .inl (cyI, 24, .inl q62d))]) ⟨hx, hb, hml, hown, hts⟩ (c_X4_countUndone l dC dI cyI cyZ htr hq (ac1 + (1 : Int32)) (fX4_reasonAgainst nr er kk kst) mu al1 (nI q62a)  _ _ hq65) (cwV 1 hts gX4_act_X4_countUndone rfl rfl rfl (by decide +kernel) ⟨Nat.le_of_ble_eq_true rfl, Nat.le_of_ble_eq_true rfl⟩) hP hD hS hA hK hN [0] [1, 2, 3, 4] [4, 0, 1, 2, 3] rfl (by decide) rfl (by decide) (by decide) (by decide) rfl [0, 1] rfl 4 0 rfl rfl rfl rfl hl.1 rfl (Nat.le_of_ble_eq_true rfl) dX4_act_65 ⟨Nat.zero_le _, Nat.zero_le _⟩ (fun H locs hP hD hS => ?_)
      refine lv_goto (tgt := 105) hx hb dX4_act_68 (by decide) ?_
      refine lv_iconst (v := (1 : Int32)) hx hb dX4_act_105 (by decide) ?_
      subst hF
      subst hAe
      exact W.zret hx hb hr rfl (fun t ht _ => ⟨⟨_, (), rfl, rfl, by rw [ht]; exact hP, hD⟩, hS.F ht⟩) hS.2.2 dX4_act_106
    · rw [if_neg c30_0] at hF
      by_cases c30_1 : kk = (1 : Int32)
      · rw [if_pos c30_1] at hF
        refine lv_tableIn (tgt := 71) (off := 41) hx hb dX4_act_30 (by rw [c30_1]; decide) (by rw [c30_1]; decide) (by rw [c30_1]; rfl) (by decide) ?_
        refine lv_aload_n hx hb dX4_act_71 rfl (lv_at hl 0 rfl) ?_
        refine va_get (D := (dC, dI)) (ci := 4) (v := .ref hq) (C := RX4) (T := TX4) (N := 5) hx hb hts hiX4 hown hK hP 0 rfl rfl 0 (by decide) fl12 (fun _ h9 => h9) rfl dX4_act_72 ?_
        refine lv_iload_n hx hb dX4_act_75 rfl (lv_at hl 2 rfl) ?_
        generalize hq76 : fX2_eat er kst = q76 at hF
        try dsimp only at hF
        refine kx_wVv (As := [.int kst]) (rest := []) (wr := [(htr, .inr (4, [.ref hq, .int (ac1 + (1 : Int32)), .int (fX4_reasonAgainst nr er kk kst), .int mu, .int al1]))]) (wc' := [(hq, .inr (2, [.ref r0, .ref r1, .ref r2, .int (nI nr), .int q76])), (r0, .inl (cyI, 24, .inl cr)), (r1, .inl (cyI, 24, .inl tr)), (r2, .inl (cyI, 24, .inl ar))]) (W1 := [(htr, .inr (4, [.ref hq, .int (ac1 + (1 : Int32)), .int (fX4_reasonAgainst nr er kk kst), .int mu, .int al1])), (hq, .inr (2, [.ref r0, .ref r1, .ref r2, .int (nI nr), .int q76])), (r0, .inl (cyI, 24, .inl cr)), (r1, .inl (cyI, 24, .inl tr)), (r2, .inl (cyI, 24, .inl ar))]) ⟨hx, hb, hml, hown, hts⟩ (c_X2_eat l dC dI cyI cyZ hq r0 r1 r2 nr er cr tr ar kst  _ _ hq76) (cwV 1 hts gX4_act_X2_eat rfl rfl rfl (by decide +kernel) ⟨Nat.le_of_ble_eq_true rfl, Nat.le_of_ble_eq_true rfl⟩) hP hD hS hA hK hN [1, 2, 3, 4] [0] [0, 1, 2, 3, 4] rfl (by decide) rfl (by decide) (by decide) (by decide) rfl [0, 1] rfl 2 1 rfl rfl rfl rfl hl.1 rfl (Nat.le_of_ble_eq_true rfl) dX4_act_76 ⟨Nat.zero_le _, Nat.zero_le _⟩ (fun H locs hP hD hS => ?_)
        refine lv_goto (tgt := 105) hx hb dX4_act_79 (by decide) ?_
        refine lv_iconst (v := (1 : Int32)) hx hb dX4_act_105 (by decide) ?_
        subst hF
        subst hAe
        exact W.zret hx hb hr rfl (fun t ht _ => ⟨⟨_, (), rfl, rfl, by rw [ht]; exact hP, hD⟩, hS.F ht⟩) hS.2.2 dX4_act_106
      · rw [if_neg c30_1] at hF
        by_cases c30_2 : kk = (2 : Int32)
        · rw [if_pos c30_2] at hF
          refine lv_tableIn (tgt := 82) (off := 52) hx hb dX4_act_30 (by rw [c30_2]; decide) (by rw [c30_2]; decide) (by rw [c30_2]; rfl) (by decide) ?_
          refine lv_aload_n hx hb dX4_act_82 rfl (lv_at hl 0 rfl) ?_
          refine va_get (D := (dC, dI)) (ci := 4) (v := .ref hq) (C := RX4) (T := TX4) (N := 5) hx hb hts hiX4 hown hK hP 0 rfl rfl 0 (by decide) fl12 (fun _ h9 => h9) rfl dX4_act_83 ?_
          refine lv_iload_n hx hb dX4_act_86 rfl (lv_at hl 2 rfl) ?_
          refine lv_iload hx hb dX4_act_87 (lv_at hl 4 rfl) ?_
          generalize hq89 : fX2_mend er tr kst ktt = q89 at hF
          obtain ⟨q89a, q89b⟩ := q89
          dsimp only at hF
          refine kx_wVv (As := [.int kst, .int ktt]) (rest := []) (wr := [(htr, .inr (4, [.ref hq, .int (ac1 + (1 : Int32)), .int (fX4_reasonAgainst nr er kk kst), .int mu, .int al1]))]) (wc' := [(hq, .inr (2, [.ref r0, .ref r1, .ref r2, .int (nI nr), .int q89b])), (r0, .inl (cyI, 24, .inl cr)), (r1, .inl (cyI, 24, .inl q89a)), (r2, .inl (cyI, 24, .inl ar))]) (W1 := [(htr, .inr (4, [.ref hq, .int (ac1 + (1 : Int32)), .int (fX4_reasonAgainst nr er kk kst), .int mu, .int al1])), (hq, .inr (2, [.ref r0, .ref r1, .ref r2, .int (nI nr), .int q89b])), (r0, .inl (cyI, 24, .inl cr)), (r1, .inl (cyI, 24, .inl q89a)), (r2, .inl (cyI, 24, .inl ar))]) ⟨hx, hb, hml, hown, hts⟩ (c_X2_mend l dC dI cyI cyZ hq r0 r1 r2 nr er cr tr ar kst ktt  _ _ hq89) (cwV 2 hts gX4_act_X2_mend rfl rfl rfl (by decide +kernel) ⟨Nat.le_of_ble_eq_true rfl, Nat.le_of_ble_eq_true rfl⟩) hP hD hS hA hK hN [1, 2, 3, 4] [0] [0, 1, 2, 3, 4] rfl (by decide) rfl (by decide) (by decide) (by decide) rfl [0, 1] rfl 2 1 rfl rfl rfl rfl hl.1 rfl (Nat.le_of_ble_eq_true rfl) dX4_act_89 ⟨Nat.zero_le _, Nat.zero_le _⟩ (fun H locs hP hD hS => ?_)
          refine lv_goto (tgt := 105) hx hb dX4_act_92 (by decide) ?_
          refine lv_iconst (v := (1 : Int32)) hx hb dX4_act_105 (by decide) ?_
          subst hF
          subst hAe
          exact W.zret hx hb hr rfl (fun t ht _ => ⟨⟨_, (), rfl, rfl, by rw [ht]; exact hP, hD⟩, hS.F ht⟩) hS.2.2 dX4_act_106
        · rw [if_neg c30_2] at hF
          refine lv_tableOut (tgt := 95) hx hb dX4_act_30 (by have q0 := lv_neT (k := (0 : Int32)) (a := 0) c30_0 rfl; have q1 := lv_neT (k := (1 : Int32)) (a := 1) c30_1 rfl; have q2 := lv_neT (k := (2 : Int32)) (a := 2) c30_2 rfl; omega) (by decide) ?_
          refine lv_aload_n hx hb dX4_act_95 rfl (lv_at hl 0 rfl) ?_
          refine va_get (D := (dC, dI)) (ci := 4) (v := .ref hq) (C := RX4) (T := TX4) (N := 5) hx hb hts hiX4 hown hK hP 0 rfl rfl 0 (by decide) fl12 (fun _ h9 => h9) rfl dX4_act_96 ?_
          refine lv_iload_n hx hb dX4_act_99 rfl (lv_at hl 3 rfl) ?_
          refine lv_iload hx hb dX4_act_100 (lv_at hl 4 rfl) ?_
          generalize hq102 : fX2_knit nr er cr tr ar kcl ktt = q102 at hF
          obtain ⟨q102a, q102b, q102c, q102d⟩ := q102
          dsimp only at hF
          refine kx_wVv (As := [.int kcl, .int ktt]) (rest := []) (wr := [(htr, .inr (4, [.ref hq, .int (ac1 + (1 : Int32)), .int (fX4_reasonAgainst nr er kk kst), .int mu, .int al1]))]) (wc' := [(hq, .inr (2, [.ref r0, .ref r1, .ref r2, .int (nI q102d), .int er])), (r0, .inl (cyI, 24, .inl q102a)), (r1, .inl (cyI, 24, .inl q102b)), (r2, .inl (cyI, 24, .inl q102c))]) (W1 := [(htr, .inr (4, [.ref hq, .int (ac1 + (1 : Int32)), .int (fX4_reasonAgainst nr er kk kst), .int mu, .int al1])), (hq, .inr (2, [.ref r0, .ref r1, .ref r2, .int (nI q102d), .int er])), (r0, .inl (cyI, 24, .inl q102a)), (r1, .inl (cyI, 24, .inl q102b)), (r2, .inl (cyI, 24, .inl q102c))]) ⟨hx, hb, hml, hown, hts⟩ (c_X2_knit l dC dI cyI cyZ hq r0 r1 r2 nr er cr tr ar kcl ktt (by omega) _ _ hq102) (cwV 2 hts gX4_act_X2_knit rfl rfl rfl (by decide +kernel) ⟨Nat.le_of_ble_eq_true rfl, Nat.le_of_ble_eq_true rfl⟩) hP hD hS hA hK hN [1, 2, 3, 4] [0] [0, 1, 2, 3, 4] rfl (by decide) rfl (by decide) (by decide) (by decide) rfl [0, 1] rfl 2 1 rfl rfl rfl rfl hl.1 rfl (Nat.le_of_ble_eq_true rfl) dX4_act_102 ⟨Nat.zero_le _, Nat.zero_le _⟩ (fun H locs hP hD hS => ?_)
          refine lv_iconst (v := (1 : Int32)) hx hb dX4_act_105 (by decide) ?_
          subst hF
          subst hAe
          exact W.zret hx hb hr rfl (fun t ht _ => ⟨⟨_, (), rfl, rfl, by rw [ht]; exact hP, hD⟩, hS.F ht⟩) hS.2.2 dX4_act_106
  · rw [if_neg c14] at hF
    refine lv_iconst (v := (0 : Int32)) hx hb dX4_act_17 (by decide) ?_
    subst hF
    subst hAe
    exact W.zret hx hb hr rfl (fun t ht _ => ⟨⟨_, (), rfl, rfl, by rw [ht]; exact hP, hD⟩, hS.F ht⟩) hS.2.2 dX4_act_18

theorem fX2_unpick_L14_n (n : Nat) (ea : Int32) (an : Nat → Int32) (ks : Nat) : ∀ (r j lf : Nat) (le : Int32) (gc gt ga : Nat → Int32), (fX2_unpick_L14 n ea an ks r j lf le gc gt ga).1 ≤ lf + r := by
  intro r
  induction r with
  | zero => intro j lf le gc gt ga; rw [fX2_unpick_L14]; exact Nat.le_refl _
  | succ r ih =>
    intro j lf le gc gt ga
    rw [fX2_unpick_L14]
    dsimp only
    split
    · split
      · exact Nat.le_trans (ih _ _ _ _ _ _) (by omega)
      · exact Nat.le_trans (ih _ _ _ _ _ _) (by omega)
    · exact Nat.le_trans (ih _ _ _ _ _ _) (by omega)
theorem fX2_unpick_n {n : Nat} {ea : Int32} {co ti an : Nat → Int32} {ks : Nat} {t : Nat × (Nat → Int32) × (Nat → Int32) × (Nat → Int32) × Nat × Int32} (h : fX2_unpick n ea co ti an ks = t) : t.2.2.2.2.1 ≤ n := by
  subst h
  unfold fX2_unpick
  have k := fX2_unpick_L14_n n ea an ks n 0 0 (0 : Int32) co ti an
  generalize fX2_unpick_L14 n ea an ks n 0 0 (0 : Int32) co ti an = U at k ⊢
  obtain ⟨lf, le, gc, gt, ga⟩ := U
  exact Nat.le_trans k (by omega)
theorem fX2_knit_n {n : Nat} {ea : Int32} {co ti an : Nat → Int32} {kc kt : Int32} {t : (Nat → Int32) × (Nat → Int32) × (Nat → Int32) × Nat} (h : fX2_knit n ea co ti an kc kt = t) : t.2.2.2 = n + 1 := by
  subst h; rfl
theorem fX4_begin_n {cr tr ar : Nat → Int32} {n2 : Nat} {ea2 : Int32} {co2 ti2 an2 : Nat → Int32} {t : (Nat → Int32) × (Nat → Int32) × (Nat → Int32) × Nat × Int32 × Int32 × Int32 × Int32 × Int32} (h : fX4_begin cr tr ar n2 ea2 co2 ti2 an2 = t) : t.2.2.2.1 = n2 := by
  subst h; rfl
theorem fX4_act_n {ac1 mu al1 : Int32} {nr : Nat} {er : Int32} {cr tr ar : Nat → Int32} {kk kst kcl ktt : Int32} {t : Int32 × (Nat → Int32) × (Nat → Int32) × (Nat → Int32) × Nat × Int32 × Int32 × Int32 × Int32 × Int32} (h : fX4_act ac1 mu al1 nr er cr tr ar kk kst kcl ktt = t) : t.2.2.2.2.1 ≤ nr + 1 := by
  subst h
  unfold fX4_act
  by_cases c : fX4_reasonAgainst nr er kk kst = 0
  · rw [if_pos c]
    by_cases c0 : kk = (0 : Int32)
    · rw [if_pos c0]
      generalize hU : fX2_unpick nr er cr tr ar kst.toNatClampNeg = U
      obtain ⟨a1, a2, a3, a4, a5, a6⟩ := U
      exact Nat.le_trans (fX2_unpick_n hU) (Nat.le_succ _)
    · rw [if_neg c0]
      by_cases c1 : kk = (1 : Int32)
      · rw [if_pos c1]; exact Nat.le_succ _
      · rw [if_neg c1]
        by_cases c2 : kk = (2 : Int32)
        · rw [if_pos c2]; exact Nat.le_succ _
        · rw [if_neg c2]
          generalize hU : fX2_knit nr er cr tr ar kcl ktt = U
          obtain ⟨a1, a2, a3, a4⟩ := U
          exact Nat.le_of_eq (fX2_knit_n hU)
  · rw [if_neg c]; exact Nat.le_succ _
