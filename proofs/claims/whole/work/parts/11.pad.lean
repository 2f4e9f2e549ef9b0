def fX1_append (np : Nat) (sg : Nat → Int32) (sn : Int32) : (Nat → Int32) × Nat :=
  ((fun (q9 : Nat → Int32) => (q9, np + 1)) (fX5_put sg 60 (nI np) sn))
set_option maxHeartbeats 4000000 in
set_option maxRecDepth 100000 in
theorem c_X1_append (l : Launch) (dC : Nat → ClassId) (dI : Nat → Nat → Nat) (cyI cyZ : ClassId) (hp ap : Nat) (np : Nat) (sg : Nat → Int32) (sn : Int32) (sz : Nat) (r : (Nat → Int32) × Nat) (hF : fX1_append np sg sn = r) : Met l yX1_append wsX1_append ({ frames := 1, cells := 0, slots := 0, locals := 22 }) (kx_wp (dC, dI) [(hp, .inr (1, [.ref ap, .int (nI np)])), (ap, .inl (cyI, 60, .inl sg))] [(cyI, .int), (cyZ, .boolean)] sz [.ref hp, .int sn]) (kx_Qv (dC, dI) [(hp, .inr (1, [.ref ap, .int (nI np)])), (ap, .inl (cyI, 60, .inl sg))] [(hp, .inr (1, [.ref ap, .int (nI (r.2))])), (ap, .inl (cyI, 60, .inl r.1))] sz) 0 0 (va_A [(hp, .inr (1, [.ref ap, .int (nI np)])), (ap, .inl (cyI, 60, .inl sg))] sz) := by
  refine Met.ofW (cc := cX1_append) (maxL := 2) (ret := none) (by decide) rfl ?_
  intro p e s m args below meth c s₁ B hml hv
  obtain ⟨rfl, hsz, hP, hK, hN, hD0⟩ := hv
  have hx := B.exec
  have hb := B.bytes
  have hr := B.returns
  have hts := atoms_spec (ws := wsX1_append) B.pre
  have hown : s.vm.findClass RX1 = some m.cls := findClass_of_methodNamed B.named
  have hlocks := B.notSynchronized
  subst hsz
  obtain ⟨A, hAe⟩ : ∃ A, A = va_A [(hp, .inr (1, [.ref ap, .int (nI np)])), (ap, .inl (cyI, 60, .inl sg))] s.heap.size := ⟨_, rfl⟩
  have hD : va_D A [(hp, .inr (1, [.ref ap, .int (nI np)])), (ap, .inl (cyI, 60, .inl sg))] := by rw [hAe]; exact hD0.self
  have hA : ∀ q : Nat, s.heap.size ≤ q → A q := fun q h => by rw [hAe]; exact Or.inr h
  have hS : va_S A s.heap s.heap [] := va_S.rf
  have hiX1 : ∀ w ∈ wsX10, w ∈ wsX1_append := by decide +kernel
  have fl9 := hts (.fieldLink RX1 9 "KnitChronicle$Pad" "signs" "[I") (by decide +kernel)
  have fl15 := hts (.fieldLink RX1 15 "KnitChronicle$Pad" "length" "I") (by decide +kernel)
  have hl := lv_entry ([.ref hp, .int sn]) (n := 2) (Nat.le_of_ble_eq_true rfl)
  rw [lg_entry_eq]
  generalize (lg_sl ([.ref hp, .int sn]) ++ List.replicate (2 - (lg_sl ([.ref hp, .int sn])).length) Slot.unset).toArray = ls at hl ⊢
  have hl : lv_has ls 2 [(0, .ref hp), (1, .int sn)] := hl
  unfold fX1_append at hF
  refine lv_aload_n hx hb dX1_append_0 rfl (lv_at hl 0 rfl) ?_
  refine va_get (D := (dC, dI)) (ci := 1) (v := .ref ap) (C := RX1) (T := TX1) (N := 2) hx hb hts hiX1 hown hK hP 0 rfl rfl 0 (by decide) fl9 (fun _ h9 => h9) rfl dX1_append_1 ?_
  refine lv_aload_n hx hb dX1_append_4 rfl (lv_at hl 0 rfl) ?_
  refine va_get (D := (dC, dI)) (ci := 1) (v := .int (nI np)) (C := RX1) (T := TX1) (N := 2) hx hb hts hiX1 hown hK hP 0 rfl rfl 1 (by decide) fl15 (fun _ h9 => h9) rfl dX1_append_5 ?_
  refine lv_iload_n hx hb dX1_append_8 rfl (lv_at hl 1 rfl) ?_
  generalize hq9 : fX5_put sg 60 (nI np) sn = q9 at hF
  try dsimp only at hF
  refine kx_wSNv (As := [.ref ap, .int (nI np), .int sn]) (rest := []) (wr := [(hp, .inr (1, [.ref ap, .int (nI np)]))]) (wc' := [(ap, .inl (cyI, 60, .inl q9))]) (W1 := [(hp, .inr (1, [.ref ap, .int (nI np)])), (ap, .inl (cyI, 60, .inl q9))]) ⟨hx, hb, hml, hown, hts⟩ (c_X5_put l dC dI cyI cyZ ap sg 60 (nI np) sn (by omega) _ _ hq9) ⟨va_cnB 3 hts gX1_append_X5_put_n19 rfl rfl rfl (hN (RX1, 19, yX5_put, RX5) (List.mem_of_getElem? (i := 9) rfl)) (hts (.initialized RX5) (by decide +kernel)) (by decide +kernel) ⟨Nat.le_of_ble_eq_true rfl, Nat.le_of_ble_eq_true rfl⟩, hts (.static yX5_put) (by decide +kernel), trivial⟩ hP hD hS hA hK hN [1] [0] [0, 1] rfl (by decide) rfl (by decide) (by decide) (by decide) rfl [0, 1] rfl rfl hl.1 rfl (Nat.le_of_ble_eq_true rfl) dX1_append_9 ⟨Nat.zero_le _, Nat.zero_le _⟩ (fun H locs hP hD hS => ?_)
  refine lv_aload_n hx hb dX1_append_12 rfl (lv_at hl 0 rfl) ?_
  refine lv_dup hx hb dX1_append_13 rfl ?_
  refine va_get (D := (dC, dI)) (ci := 1) (v := .int (nI np)) (C := RX1) (T := TX1) (N := 2) hx hb hts hiX1 hown hK hP 0 rfl rfl 1 (by decide) fl15 (fun _ h9 => h9) rfl dX1_append_14 ?_
  refine lv_iconst (v := (1 : Int32)) hx hb dX1_append_17 (by decide) ?_
  refine lv_iadd hx hb dX1_append_18 ?_
  refine kx_e (nI_add (np) (1)) ?_
  refine va_put (D := (dC, dI)) (ci := 1) (v := .int (nI (np + 1))) (ty := .int) (C := RX1) (T := TX1) (N := 2) hx hb hts hiX1 tyX1 tyX1_ok nmX1 hown hK hP hD hS 0 rfl rfl 1 (by decide) fl15 (fun _ h9 => h9) rfl (by decide +kernel) rfl rfl (Nat.le_of_ble_eq_true rfl) dX1_append_19 (fun H locs hP hD hS => ?_)
  have hP : va_P (dC, dI) vwCl [(hp, .inr (1, [.ref ap, .int (nI (np + 1))])), (ap, .inl (cyI, 60, .inl q9))] H := hP
  have hD : va_D A [(hp, .inr (1, [.ref ap, .int (nI (np + 1))])), (ap, .inl (cyI, 60, .inl q9))] := hD
  subst hF
  subst hAe
  exact W.vret hx hb hr (fun t ht _ => ⟨⟨(), rfl, trivial, by rw [ht]; exact hP, hD⟩, hS.F ht⟩) hS.2.2 dX1_append_22

def fX1_knitterAt (sg : Nat → Int32) (pl : Int32) : Int32 :=
  ((fX5_at sg 60 pl) - (97 : Int32))
set_option maxHeartbeats 4000000 in
set_option maxRecDepth 100000 in
theorem c_X1_knitterAt (l : Launch) (dC : Nat → ClassId) (dI : Nat → Nat → Nat) (cyI cyZ : ClassId) (hp ap : Nat) (np : Nat) (sg : Nat → Int32) (pl : Int32) (r : Int32) (hF : fX1_knitterAt sg pl = r) : Met l yX1_knitterAt wsX1_knitterAt ({ frames := 1, cells := 0, slots := 0, locals := 21 }) (kx_rp (dC, dI) [(hp, .inr (1, [.ref ap, .int (nI np)])), (ap, .inl (cyI, 60, .inl sg))] [(cyI, .int), (cyZ, .boolean)] [.ref hp, .int pl]) (k2_QcV (.int r)) 0 0 (fun _ => False) := by
  refine Met.ofW (cc := cX1_knitterAt) (maxL := 2) (ret := (some .int)) (by decide) rfl ?_
  intro p e s m args below meth c s₁ B hml hv
  obtain ⟨rfl, hP, hK, hN⟩ := hv
  have hx := B.exec
  have hb := B.bytes
  have hr := B.returns
  have hts := atoms_spec (ws := wsX1_knitterAt) B.pre
  have hown : s.vm.findClass RX1 = some m.cls := findClass_of_methodNamed B.named
  have hlocks := B.notSynchronized
  have hiX1 : ∀ w ∈ wsX10, w ∈ wsX1_knitterAt := by decide +kernel
  have fl9 := hts (.fieldLink RX1 9 "KnitChronicle$Pad" "signs" "[I") (by decide +kernel)
  have hl := lv_entry ([.ref hp, .int pl]) (n := 2) (Nat.le_of_ble_eq_true rfl)
  rw [lg_entry_eq]
  generalize (lg_sl ([.ref hp, .int pl]) ++ List.replicate (2 - (lg_sl ([.ref hp, .int pl])).length) Slot.unset).toArray = ls at hl ⊢
  have hl : lv_has ls 2 [(0, .ref hp), (1, .int pl)] := hl
  unfold fX1_knitterAt at hF
  refine lv_aload_n hx hb dX1_knitterAt_0 rfl (lv_at hl 0 rfl) ?_
  refine va_get (D := (dC, dI)) (ci := 1) (v := .ref ap) (C := RX1) (T := TX1) (N := 2) hx hb hts hiX1 hown hK hP 0 rfl rfl 0 (by decide) fl9 (fun _ h9 => h9) rfl dX1_knitterAt_1 ?_
  refine lv_iload_n hx hb dX1_knitterAt_4 rfl (lv_at hl 1 rfl) ?_
  refine kx_cSN (As := [.ref ap, .int pl]) (rest := []) ⟨hx, hb, hml, hown, hts⟩ (c_X5_at l dC dI cyI cyZ ap sg 60 pl (by omega) _ rfl) ⟨va_cnB 2 hts gX1_knitterAt_X5_at_n47 rfl rfl rfl (hN (RX1, 47, yX5_at, RX5) (List.mem_of_getElem? (i := 10) rfl)) (hts (.initialized RX5) (by decide +kernel)) (by decide +kernel) ⟨Nat.le_of_ble_eq_true rfl, Nat.le_of_ble_eq_true rfl⟩, hts (.static yX5_at) (by decide +kernel), trivial⟩ hP hK hN [1] rfl [0, 1] rfl rfl hl.1 rfl (Nat.le_of_ble_eq_true rfl) dX1_knitterAt_5 ⟨Nat.zero_le _, Nat.zero_le _⟩ ?_
  refine lv_bipush (v := (97 : Int32)) hx hb dX1_knitterAt_8 (by decide) ?_
  refine lv_isub hx hb dX1_knitterAt_10 ?_
  exact W.iret hx hb hr (fun t ht _ => ⟨congrArg (fun z => Outcome.returned (some (Value.int z))) hF, ht⟩) (fun _ h => absurd h List.not_mem_nil) dX1_knitterAt_11

def fX1_colourAt (sg : Nat → Int32) (pl : Int32) : Int32 :=
  ((fX5_at sg 60 pl) - (48 : Int32))
set_option maxHeartbeats 4000000 in
set_option maxRecDepth 100000 in
theorem c_X1_colourAt (l : Launch) (dC : Nat → ClassId) (dI : Nat → Nat → Nat) (cyI cyZ : ClassId) (hp ap : Nat) (np : Nat) (sg : Nat → Int32) (pl : Int32) (r : Int32) (hF : fX1_colourAt sg pl = r) : Met l yX1_colourAt wsX1_colourAt ({ frames := 1, cells := 0, slots := 0, locals := 21 }) (kx_rp (dC, dI) [(hp, .inr (1, [.ref ap, .int (nI np)])), (ap, .inl (cyI, 60, .inl sg))] [(cyI, .int), (cyZ, .boolean)] [.ref hp, .int pl]) (k2_QcV (.int r)) 0 0 (fun _ => False) := by
  refine Met.ofW (cc := cX1_colourAt) (maxL := 2) (ret := (some .int)) (by decide) rfl ?_
  intro p e s m args below meth c s₁ B hml hv
  obtain ⟨rfl, hP, hK, hN⟩ := hv
  have hx := B.exec
  have hb := B.bytes
  have hr := B.returns
  have hts := atoms_spec (ws := wsX1_colourAt) B.pre
  have hown : s.vm.findClass RX1 = some m.cls := findClass_of_methodNamed B.named
  have hlocks := B.notSynchronized
  have hiX1 : ∀ w ∈ wsX10, w ∈ wsX1_colourAt := by decide +kernel
  have fl9 := hts (.fieldLink RX1 9 "KnitChronicle$Pad" "signs" "[I") (by decide +kernel)
  have hl := lv_entry ([.ref hp, .int pl]) (n := 2) (Nat.le_of_ble_eq_true rfl)
  rw [lg_entry_eq]
  generalize (lg_sl ([.ref hp, .int pl]) ++ List.replicate (2 - (lg_sl ([.ref hp, .int pl])).length) Slot.unset).toArray = ls at hl ⊢
  have hl : lv_has ls 2 [(0, .ref hp), (1, .int pl)] := hl
  unfold fX1_colourAt at hF
  refine lv_aload_n hx hb dX1_colourAt_0 rfl (lv_at hl 0 rfl) ?_
  refine va_get (D := (dC, dI)) (ci := 1) (v := .ref ap) (C := RX1) (T := TX1) (N := 2) hx hb hts hiX1 hown hK hP 0 rfl rfl 0 (by decide) fl9 (fun _ h9 => h9) rfl dX1_colourAt_1 ?_
  refine lv_iload_n hx hb dX1_colourAt_4 rfl (lv_at hl 1 rfl) ?_
  refine kx_cSN (As := [.ref ap, .int pl]) (rest := []) ⟨hx, hb, hml, hown, hts⟩ (c_X5_at l dC dI cyI cyZ ap sg 60 pl (by omega) _ rfl) ⟨va_cnB 2 hts gX1_colourAt_X5_at_n47 rfl rfl rfl (hN (RX1, 47, yX5_at, RX5) (List.mem_of_getElem? (i := 10) rfl)) (hts (.initialized RX5) (by decide +kernel)) (by decide +kernel) ⟨Nat.le_of_ble_eq_true rfl, Nat.le_of_ble_eq_true rfl⟩, hts (.static yX5_at) (by decide +kernel), trivial⟩ hP hK hN [1] rfl [0, 1] rfl rfl hl.1 rfl (Nat.le_of_ble_eq_true rfl) dX1_colourAt_5 ⟨Nat.zero_le _, Nat.zero_le _⟩ ?_
  refine lv_bipush (v := (48 : Int32)) hx hb dX1_colourAt_8 (by decide) ?_
  refine lv_isub hx hb dX1_colourAt_10 ?_
  exact W.iret hx hb hr (fun t ht _ => ⟨congrArg (fun z => Outcome.returned (some (Value.int z))) hF, ht⟩) (fun _ h => absurd h List.not_mem_nil) dX1_colourAt_11

def fX1_stitchAt (sg : Nat → Int32) (pl : Int32) : Int32 :=
  ((fX5_at sg 60 pl) - (65 : Int32))
set_option maxHeartbeats 4000000 in
set_option maxRecDepth 100000 in
theorem c_X1_stitchAt (l : Launch) (dC : Nat → ClassId) (dI : Nat → Nat → Nat) (cyI cyZ : ClassId) (hp ap : Nat) (np : Nat) (sg : Nat → Int32) (pl : Int32) (r : Int32) (hF : fX1_stitchAt sg pl = r) : Met l yX1_stitchAt wsX1_stitchAt ({ frames := 1, cells := 0, slots := 0, locals := 21 }) (kx_rp (dC, dI) [(hp, .inr (1, [.ref ap, .int (nI np)])), (ap, .inl (cyI, 60, .inl sg))] [(cyI, .int), (cyZ, .boolean)] [.ref hp, .int pl]) (k2_QcV (.int r)) 0 0 (fun _ => False) := by
  refine Met.ofW (cc := cX1_stitchAt) (maxL := 2) (ret := (some .int)) (by decide) rfl ?_
  intro p e s m args below meth c s₁ B hml hv
  obtain ⟨rfl, hP, hK, hN⟩ := hv
  have hx := B.exec
  have hb := B.bytes
  have hr := B.returns
  have hts := atoms_spec (ws := wsX1_stitchAt) B.pre
  have hown : s.vm.findClass RX1 = some m.cls := findClass_of_methodNamed B.named
  have hlocks := B.notSynchronized
  have hiX1 : ∀ w ∈ wsX10, w ∈ wsX1_stitchAt := by decide +kernel
  have fl9 := hts (.fieldLink RX1 9 "KnitChronicle$Pad" "signs" "[I") (by decide +kernel)
  have hl := lv_entry ([.ref hp, .int pl]) (n := 2) (Nat.le_of_ble_eq_true rfl)
  rw [lg_entry_eq]
  generalize (lg_sl ([.ref hp, .int pl]) ++ List.replicate (2 - (lg_sl ([.ref hp, .int pl])).length) Slot.unset).toArray = ls at hl ⊢
  have hl : lv_has ls 2 [(0, .ref hp), (1, .int pl)] := hl
  unfold fX1_stitchAt at hF
  refine lv_aload_n hx hb dX1_stitchAt_0 rfl (lv_at hl 0 rfl) ?_
  refine va_get (D := (dC, dI)) (ci := 1) (v := .ref ap) (C := RX1) (T := TX1) (N := 2) hx hb hts hiX1 hown hK hP 0 rfl rfl 0 (by decide) fl9 (fun _ h9 => h9) rfl dX1_stitchAt_1 ?_
  refine lv_iload_n hx hb dX1_stitchAt_4 rfl (lv_at hl 1 rfl) ?_
  refine kx_cSN (As := [.ref ap, .int pl]) (rest := []) ⟨hx, hb, hml, hown, hts⟩ (c_X5_at l dC dI cyI cyZ ap sg 60 pl (by omega) _ rfl) ⟨va_cnB 2 hts gX1_stitchAt_X5_at_n47 rfl rfl rfl (hN (RX1, 47, yX5_at, RX5) (List.mem_of_getElem? (i := 10) rfl)) (hts (.initialized RX5) (by decide +kernel)) (by decide +kernel) ⟨Nat.le_of_ble_eq_true rfl, Nat.le_of_ble_eq_true rfl⟩, hts (.static yX5_at) (by decide +kernel), trivial⟩ hP hK hN [1] rfl [0, 1] rfl rfl hl.1 rfl (Nat.le_of_ble_eq_true rfl) dX1_stitchAt_5 ⟨Nat.zero_le _, Nat.zero_le _⟩ ?_
  refine lv_bipush (v := (65 : Int32)) hx hb dX1_stitchAt_8 (by decide) ?_
  refine lv_isub hx hb dX1_stitchAt_10 ?_
  exact W.iret hx hb hr (fun t ht _ => ⟨congrArg (fun z => Outcome.returned (some (Value.int z))) hF, ht⟩) (fun _ h => absurd h List.not_mem_nil) dX1_stitchAt_11

def fX1_wantedBy (kd : Int32) : Int32 :=
  (if kd = (0 : Int32) then (2 : Int32) else (if kd = (1 : Int32) then (2 : Int32) else (if kd = (2 : Int32) then (3 : Int32) else (if kd = (3 : Int32) then (1 : Int32) else (-1 : Int32)))))
set_option maxHeartbeats 4000000 in
set_option maxRecDepth 100000 in
theorem c_X1_wantedBy (l : Launch) (dC : Nat → ClassId) (dI : Nat → Nat → Nat) (cyI cyZ : ClassId)  (kd : Int32) (r : Int32) (hF : fX1_wantedBy kd = r) : Met l yX1_wantedBy wsX1_wantedBy ({ frames := 0, cells := 0, slots := 0, locals := 0 }) (kx_rp (dC, dI) [] [(cyI, .int), (cyZ, .boolean)] [.int kd]) (k2_QcV (.int r)) 0 0 (fun _ => False) := by
  refine Met.ofW (cc := cX1_wantedBy) (maxL := 1) (ret := (some .int)) (by decide) rfl ?_
  intro p e s m args below meth c s₁ B hml hv
  obtain ⟨rfl, hP, hK, hN⟩ := hv
  have hx := B.exec
  have hb := B.bytes
  have hr := B.returns
  have hts := atoms_spec (ws := wsX1_wantedBy) B.pre
  have hown : s.vm.findClass RX1 = some m.cls := findClass_of_methodNamed B.named
  have hlocks := B.notSynchronized
  have hl := lv_entry ([.int kd]) (n := 1) (Nat.le_of_ble_eq_true rfl)
  rw [lg_entry_eq]
  generalize (lg_sl ([.int kd]) ++ List.replicate (1 - (lg_sl ([.int kd])).length) Slot.unset).toArray = ls at hl ⊢
  have hl : lv_has ls 1 [(0, .int kd)] := hl
  unfold fX1_wantedBy at hF
  refine lv_iload_n hx hb dX1_wantedBy_0 rfl (lv_at hl 0 rfl) ?_
  by_cases c1_0 : kd = (0 : Int32)
  · rw [if_pos c1_0] at hF
    refine lv_tableIn (tgt := 34) (off := 33) hx hb dX1_wantedBy_1 (by rw [c1_0]; decide) (by rw [c1_0]; decide) (by rw [c1_0]; rfl) (by decide) ?_
    refine lv_iconst (v := (2 : Int32)) hx hb dX1_wantedBy_34 (by decide) ?_
    exact W.iret hx hb hr (fun t ht _ => ⟨congrArg (fun z => Outcome.returned (some (Value.int z))) hF, ht⟩) (fun _ h => absurd h List.not_mem_nil) dX1_wantedBy_35
  · rw [if_neg c1_0] at hF
    by_cases c1_1 : kd = (1 : Int32)
    · rw [if_pos c1_1] at hF
      refine lv_tableIn (tgt := 34) (off := 33) hx hb dX1_wantedBy_1 (by rw [c1_1]; decide) (by rw [c1_1]; decide) (by rw [c1_1]; rfl) (by decide) ?_
      refine lv_iconst (v := (2 : Int32)) hx hb dX1_wantedBy_34 (by decide) ?_
      exact W.iret hx hb hr (fun t ht _ => ⟨congrArg (fun z => Outcome.returned (some (Value.int z))) hF, ht⟩) (fun _ h => absurd h List.not_mem_nil) dX1_wantedBy_35
    · rw [if_neg c1_1] at hF
      by_cases c1_2 : kd = (2 : Int32)
      · rw [if_pos c1_2] at hF
        refine lv_tableIn (tgt := 36) (off := 35) hx hb dX1_wantedBy_1 (by rw [c1_2]; decide) (by rw [c1_2]; decide) (by rw [c1_2]; rfl) (by decide) ?_
        refine lv_iconst (v := (3 : Int32)) hx hb dX1_wantedBy_36 (by decide) ?_
        exact W.iret hx hb hr (fun t ht _ => ⟨congrArg (fun z => Outcome.returned (some (Value.int z))) hF, ht⟩) (fun _ h => absurd h List.not_mem_nil) dX1_wantedBy_37
      · rw [if_neg c1_2] at hF
        by_cases c1_3 : kd = (3 : Int32)
        · rw [if_pos c1_3] at hF
          refine lv_tableIn (tgt := 32) (off := 31) hx hb dX1_wantedBy_1 (by rw [c1_3]; decide) (by rw [c1_3]; decide) (by rw [c1_3]; rfl) (by decide) ?_
          refine lv_iconst (v := (1 : Int32)) hx hb dX1_wantedBy_32 (by decide) ?_
          exact W.iret hx hb hr (fun t ht _ => ⟨congrArg (fun z => Outcome.returned (some (Value.int z))) hF, ht⟩) (fun _ h => absurd h List.not_mem_nil) dX1_wantedBy_33
        · rw [if_neg c1_3] at hF
          refine lv_tableOut (tgt := 38) hx hb dX1_wantedBy_1 (by have q0 := lv_neT (k := (0 : Int32)) (a := 0) c1_0 rfl; have q1 := lv_neT (k := (1 : Int32)) (a := 1) c1_1 rfl; have q2 := lv_neT (k := (2 : Int32)) (a := 2) c1_2 rfl; have q3 := lv_neT (k := (3 : Int32)) (a := 3) c1_3 rfl; omega) (by decide) ?_
          refine lv_iconst (v := (-1 : Int32)) hx hb dX1_wantedBy_38 (by decide) ?_
          exact W.iret hx hb hr (fun t ht _ => ⟨congrArg (fun z => Outcome.returned (some (Value.int z))) hF, ht⟩) (fun _ h => absurd h List.not_mem_nil) dX1_wantedBy_39

def fX1_kindAt (sg : Nat → Int32) (pl : Int32) : Int32 :=
  (if (fX5_isBelow (fX1_knitterAt sg pl) (4 : Int32)) = 0 then (if (fX5_at sg 60 pl) = (42 : Int32) then (1 : Int32) else (if (fX5_at sg 60 pl) = (43 : Int32) then (2 : Int32) else (if (fX5_at sg 60 pl) = (45 : Int32) then (0 : Int32) else (-1 : Int32)))) else (3 : Int32))
set_option maxHeartbeats 4000000 in
set_option maxRecDepth 100000 in
theorem c_X1_kindAt (l : Launch) (dC : Nat → ClassId) (dI : Nat → Nat → Nat) (cyI cyZ : ClassId) (hp ap : Nat) (np : Nat) (sg : Nat → Int32) (pl : Int32) (r : Int32) (hF : fX1_kindAt sg pl = r) : Met l yX1_kindAt wsX1_kindAt ({ frames := 2, cells := 0, slots := 0, locals := 42 }) (kx_rp (dC, dI) [(hp, .inr (1, [.ref ap, .int (nI np)])), (ap, .inl (cyI, 60, .inl sg))] [(cyI, .int), (cyZ, .boolean)] [.ref hp, .int pl]) (k2_QcV (.int r)) 0 0 (fun _ => False) := by
  refine Met.ofW (cc := cX1_kindAt) (maxL := 2) (ret := (some .int)) (by decide) rfl ?_
  intro p e s m args below meth c s₁ B hml hv
  obtain ⟨rfl, hP, hK, hN⟩ := hv
  have hx := B.exec
  have hb := B.bytes
  have hr := B.returns
  have hts := atoms_spec (ws := wsX1_kindAt) B.pre
  have hown : s.vm.findClass RX1 = some m.cls := findClass_of_methodNamed B.named
  have hlocks := B.notSynchronized
  have hiX1 : ∀ w ∈ wsX10, w ∈ wsX1_kindAt := by decide +kernel
  have fl9 := hts (.fieldLink RX1 9 "KnitChronicle$Pad" "signs" "[I") (by decide +kernel)
  have hl := lv_entry ([.ref hp, .int pl]) (n := 2) (Nat.le_of_ble_eq_true rfl)
  rw [lg_entry_eq]
  generalize (lg_sl ([.ref hp, .int pl]) ++ List.replicate (2 - (lg_sl ([.ref hp, .int pl])).length) Slot.unset).toArray = ls at hl ⊢
  have hl : lv_has ls 2 [(0, .ref hp), (1, .int pl)] := hl
  unfold fX1_kindAt at hF
  refine lv_aload_n hx hb dX1_kindAt_0 rfl (lv_at hl 0 rfl) ?_
  refine lv_iload_n hx hb dX1_kindAt_1 rfl (lv_at hl 1 rfl) ?_
  refine kx_cV (As := [.int pl]) (rest := []) ⟨hx, hb, hml, hown, hts⟩ (c_X1_knitterAt l dC dI cyI cyZ hp ap np sg pl  _ rfl) (cwV 1 hts gX1_kindAt_X1_knitterAt rfl rfl rfl (by decide +kernel) ⟨Nat.le_of_ble_eq_true rfl, Nat.le_of_ble_eq_true rfl⟩) hP hK hN [0, 1] rfl [0, 1] rfl 1 0 rfl rfl rfl rfl hl.1 rfl (Nat.le_of_ble_eq_true rfl) dX1_kindAt_2 ⟨Nat.zero_le _, Nat.zero_le _⟩ ?_
  refine lv_iconst (v := (4 : Int32)) hx hb dX1_kindAt_5 (by decide) ?_
  refine kx_cSN (As := [.int (fX1_knitterAt sg pl), .int (4 : Int32)]) (rest := []) ⟨hx, hb, hml, hown, hts⟩ (c_X5_isBelow l dC dI cyI cyZ  (fX1_knitterAt sg pl) (4 : Int32)  _ rfl) ⟨va_cnB 2 hts gX1_kindAt_X5_isBelow_n31 rfl rfl rfl (hN (RX1, 31, yX5_isBelow, RX5) (List.mem_of_getElem? (i := 11) rfl)) (hts (.initialized RX5) (by decide +kernel)) (by decide +kernel) ⟨Nat.le_of_ble_eq_true rfl, Nat.le_of_ble_eq_true rfl⟩, hts (.static yX5_isBelow) (by decide +kernel), trivial⟩ hP hK hN [] rfl [0, 1] rfl rfl hl.1 rfl (Nat.le_of_ble_eq_true rfl) dX1_kindAt_6 ⟨Nat.zero_le _, Nat.zero_le _⟩ ?_
  refine lv_if_eq (tgt := 14) hx hb dX1_kindAt_9 (by decide) (fun c9 => ?_) (fun c9 => ?_)
  · rw [if_pos c9] at hF
    refine lv_aload_n hx hb dX1_kindAt_14 rfl (lv_at hl 0 rfl) ?_
    refine va_get (D := (dC, dI)) (ci := 1) (v := .ref ap) (C := RX1) (T := TX1) (N := 2) hx hb hts hiX1 hown hK hP 0 rfl rfl 0 (by decide) fl9 (fun _ h9 => h9) rfl dX1_kindAt_15 ?_
    refine lv_iload_n hx hb dX1_kindAt_18 rfl (lv_at hl 1 rfl) ?_
    refine kx_cSN (As := [.ref ap, .int pl]) (rest := []) ⟨hx, hb, hml, hown, hts⟩ (c_X5_at l dC dI cyI cyZ ap sg 60 pl (by omega) _ rfl) ⟨va_cnB 2 hts gX1_kindAt_X5_at_n47 rfl rfl rfl (hN (RX1, 47, yX5_at, RX5) (List.mem_of_getElem? (i := 10) rfl)) (hts (.initialized RX5) (by decide +kernel)) (by decide +kernel) ⟨Nat.le_of_ble_eq_true rfl, Nat.le_of_ble_eq_true rfl⟩, hts (.static yX5_at) (by decide +kernel), trivial⟩ hP hK hN [1] rfl [0, 1] rfl rfl hl.1 rfl (Nat.le_of_ble_eq_true rfl) dX1_kindAt_19 ⟨Nat.zero_le _, Nat.zero_le _⟩ ?_
    by_cases c22_42 : (fX5_at sg 60 pl) = (42 : Int32)
    · rw [if_pos c22_42] at hF
      refine lv_tableIn (tgt := 54) (off := 32) hx hb dX1_kindAt_22 (by rw [c22_42]; decide) (by rw [c22_42]; decide) (by rw [c22_42]; rfl) (by decide) ?_
      refine lv_iconst (v := (1 : Int32)) hx hb dX1_kindAt_54 (by decide) ?_
      exact W.iret hx hb hr (fun t ht _ => ⟨congrArg (fun z => Outcome.returned (some (Value.int z))) hF, ht⟩) (fun _ h => absurd h List.not_mem_nil) dX1_kindAt_55
    · rw [if_neg c22_42] at hF
      by_cases c22_43 : (fX5_at sg 60 pl) = (43 : Int32)
      · rw [if_pos c22_43] at hF
        refine lv_tableIn (tgt := 56) (off := 34) hx hb dX1_kindAt_22 (by rw [c22_43]; decide) (by rw [c22_43]; decide) (by rw [c22_43]; rfl) (by decide) ?_
        refine lv_iconst (v := (2 : Int32)) hx hb dX1_kindAt_56 (by decide) ?_
        exact W.iret hx hb hr (fun t ht _ => ⟨congrArg (fun z => Outcome.returned (some (Value.int z))) hF, ht⟩) (fun _ h => absurd h List.not_mem_nil) dX1_kindAt_57
      · rw [if_neg c22_43] at hF
        by_cases c22_45 : (fX5_at sg 60 pl) = (45 : Int32)
        · rw [if_pos c22_45] at hF
          refine lv_tableIn (tgt := 52) (off := 30) hx hb dX1_kindAt_22 (by rw [c22_45]; decide) (by rw [c22_45]; decide) (by rw [c22_45]; rfl) (by decide) ?_
          refine lv_iconst (v := (0 : Int32)) hx hb dX1_kindAt_52 (by decide) ?_
          exact W.iret hx hb hr (fun t ht _ => ⟨congrArg (fun z => Outcome.returned (some (Value.int z))) hF, ht⟩) (fun _ h => absurd h List.not_mem_nil) dX1_kindAt_53
        · rw [if_neg c22_45] at hF
          have J22 : W p l e (headSpec wsX1_kindAt ({ frames := 2, cells := 0, slots := 0, locals := 42 } : Room)).room s m ([.ref hp, .int pl] : List Value).toArray below meth c s.heap [] 0 0 (MQ below (k2_QcV (.int r)) ([.ref hp, .int pl] : List Value).toArray s 0 0 (fun _ => False)) (F0 m 58 ls []) := by
            refine lv_iconst (v := (-1 : Int32)) hx hb dX1_kindAt_58 (by decide) ?_
            exact W.iret hx hb hr (fun t ht _ => ⟨congrArg (fun z => Outcome.returned (some (Value.int z))) hF, ht⟩) (fun _ h => absurd h List.not_mem_nil) dX1_kindAt_59
          by_cases c22_44 : (fX5_at sg 60 pl) = (44 : Int32)
          · exact lv_tableIn (tgt := 58) (off := 36) hx hb dX1_kindAt_22 (by rw [c22_44]; decide) (by rw [c22_44]; decide) (by rw [c22_44]; rfl) (by decide) J22
          exact lv_tableOut (tgt := 58) hx hb dX1_kindAt_22 (by have q0 := lv_neT (k := (42 : Int32)) (a := 42) c22_42 rfl; have q1 := lv_neT (k := (43 : Int32)) (a := 43) c22_43 rfl; have q2 := lv_neT (k := (45 : Int32)) (a := 45) c22_45 rfl; have q3 := lv_neT (k := (44 : Int32)) (a := 44) c22_44 rfl; omega) (by decide) J22
  · rw [if_neg c9] at hF
    refine lv_iconst (v := (3 : Int32)) hx hb dX1_kindAt_12 (by decide) ?_
    exact W.iret hx hb hr (fun t ht _ => ⟨congrArg (fun z => Outcome.returned (some (Value.int z))) hF, ht⟩) (fun _ h => absurd h List.not_mem_nil) dX1_kindAt_13

def fX1_wantedAfter (sg : Nat → Int32) (wa : Int32) (pl : Int32) : Int32 :=
  (if wa = (1 : Int32) then (if (fX5_isBelow (fX1_colourAt sg pl) (4 : Int32)) = 0 then (-1 : Int32) else (0 : Int32)) else (if wa = (2 : Int32) then (if (fX5_isBelow (fX1_stitchAt sg pl) (24 : Int32)) = 0 then (-1 : Int32) else (0 : Int32)) else (if wa = (3 : Int32) then (if (fX5_isBelow (fX1_stitchAt sg pl) (24 : Int32)) = 0 then (-1 : Int32) else (4 : Int32)) else (if wa = (4 : Int32) then (if (fX5_isBelow (fX1_knitterAt sg pl) (4 : Int32)) = 0 then (-1 : Int32) else (0 : Int32)) else (fX1_wantedBy (fX1_kindAt sg pl))))))
set_option maxHeartbeats 4000000 in
set_option maxRecDepth 100000 in
theorem c_X1_wantedAfter (l : Launch) (dC : Nat → ClassId) (dI : Nat → Nat → Nat) (cyI cyZ : ClassId) (hp ap : Nat) (np : Nat) (sg : Nat → Int32) (wa : Int32) (pl : Int32) (r : Int32) (hF : fX1_wantedAfter sg wa pl = r) : Met l yX1_wantedAfter wsX1_wantedAfter ({ frames := 3, cells := 0, slots := 0, locals := 63 }) (kx_rp (dC, dI) [(hp, .inr (1, [.ref ap, .int (nI np)])), (ap, .inl (cyI, 60, .inl sg))] [(cyI, .int), (cyZ, .boolean)] [.ref hp, .int wa, .int pl]) (k2_QcV (.int r)) 0 0 (fun _ => False) := by
  refine Met.ofW (cc := cX1_wantedAfter) (maxL := 3) (ret := (some .int)) (by decide) rfl ?_
  intro p e s m args below meth c s₁ B hml hv
  obtain ⟨rfl, hP, hK, hN⟩ := hv
  have hx := B.exec
  have hb := B.bytes
  have hr := B.returns
  have hts := atoms_spec (ws := wsX1_wantedAfter) B.pre
  have hown : s.vm.findClass RX1 = some m.cls := findClass_of_methodNamed B.named
  have hlocks := B.notSynchronized
  have hl := lv_entry ([.ref hp, .int wa, .int pl]) (n := 3) (Nat.le_of_ble_eq_true rfl)
  rw [lg_entry_eq]
  generalize (lg_sl ([.ref hp, .int wa, .int pl]) ++ List.replicate (3 - (lg_sl ([.ref hp, .int wa, .int pl])).length) Slot.unset).toArray = ls at hl ⊢
  have hl : lv_has ls 3 [(0, .ref hp), (1, .int wa), (2, .int pl)] := hl
  unfold fX1_wantedAfter at hF
  refine lv_iload_n hx hb dX1_wantedAfter_0 rfl (lv_at hl 1 rfl) ?_
  by_cases c1_1 : wa = (1 : Int32)
  · rw [if_pos c1_1] at hF
    refine lv_tableIn (tgt := 32) (off := 31) hx hb dX1_wantedAfter_1 (by rw [c1_1]; decide) (by rw [c1_1]; decide) (by rw [c1_1]; rfl) (by decide) ?_
    refine lv_aload_n hx hb dX1_wantedAfter_32 rfl (lv_at hl 0 rfl) ?_
    refine lv_iload_n hx hb dX1_wantedAfter_33 rfl (lv_at hl 2 rfl) ?_
    refine kx_cV (As := [.int pl]) (rest := []) ⟨hx, hb, hml, hown, hts⟩ (c_X1_colourAt l dC dI cyI cyZ hp ap np sg pl  _ rfl) (cwV 1 hts gX1_wantedAfter_X1_colourAt rfl rfl rfl (by decide +kernel) ⟨Nat.le_of_ble_eq_true rfl, Nat.le_of_ble_eq_true rfl⟩) hP hK hN [0, 1] rfl [0, 1] rfl 1 0 rfl rfl rfl rfl hl.1 rfl (Nat.le_of_ble_eq_true rfl) dX1_wantedAfter_34 ⟨Nat.zero_le _, Nat.zero_le _⟩ ?_
    refine lv_iconst (v := (4 : Int32)) hx hb dX1_wantedAfter_37 (by decide) ?_
    refine kx_cSN (As := [.int (fX1_colourAt sg pl), .int (4 : Int32)]) (rest := []) ⟨hx, hb, hml, hown, hts⟩ (c_X5_isBelow l dC dI cyI cyZ  (fX1_colourAt sg pl) (4 : Int32)  _ rfl) ⟨va_cnB 2 hts gX1_wantedAfter_X5_isBelow_n31 rfl rfl rfl (hN (RX1, 31, yX5_isBelow, RX5) (List.mem_of_getElem? (i := 11) rfl)) (hts (.initialized RX5) (by decide +kernel)) (by decide +kernel) ⟨Nat.le_of_ble_eq_true rfl, Nat.le_of_ble_eq_true rfl⟩, hts (.static yX5_isBelow) (by decide +kernel), trivial⟩ hP hK hN [] rfl [0, 1] rfl rfl hl.1 rfl (Nat.le_of_ble_eq_true rfl) dX1_wantedAfter_38 ⟨Nat.zero_le _, Nat.zero_le _⟩ ?_
    refine lv_if_eq (tgt := 48) hx hb dX1_wantedAfter_41 (by decide) (fun c41 => ?_) (fun c41 => ?_)
    · rw [if_pos c41] at hF
      refine lv_iconst (v := (-1 : Int32)) hx hb dX1_wantedAfter_48 (by decide) ?_
      exact W.iret hx hb hr (fun t ht _ => ⟨congrArg (fun z => Outcome.returned (some (Value.int z))) hF, ht⟩) (fun _ h => absurd h List.not_mem_nil) dX1_wantedAfter_49
    · rw [if_neg c41] at hF
      refine lv_iconst (v := (0 : Int32)) hx hb dX1_wantedAfter_44 (by decide) ?_
      refine lv_goto (tgt := 49) hx hb dX1_wantedAfter_45 (by decide) ?_
      exact W.iret hx hb hr (fun t ht _ => ⟨congrArg (fun z => Outcome.returned (some (Value.int z))) hF, ht⟩) (fun _ h => absurd h List.not_mem_nil) dX1_wantedAfter_49
  · rw [if_neg c1_1] at hF
    by_cases c1_2 : wa = (2 : Int32)
    · rw [if_pos c1_2] at hF
      refine lv_tableIn (tgt := 50) (off := 49) hx hb dX1_wantedAfter_1 (by rw [c1_2]; decide) (by rw [c1_2]; decide) (by rw [c1_2]; rfl) (by decide) ?_
      refine lv_aload_n hx hb dX1_wantedAfter_50 rfl (lv_at hl 0 rfl) ?_
      refine lv_iload_n hx hb dX1_wantedAfter_51 rfl (lv_at hl 2 rfl) ?_
      refine kx_cV (As := [.int pl]) (rest := []) ⟨hx, hb, hml, hown, hts⟩ (c_X1_stitchAt l dC dI cyI cyZ hp ap np sg pl  _ rfl) (cwV 1 hts gX1_wantedAfter_X1_stitchAt rfl rfl rfl (by decide +kernel) ⟨Nat.le_of_ble_eq_true rfl, Nat.le_of_ble_eq_true rfl⟩) hP hK hN [0, 1] rfl [0, 1] rfl 1 0 rfl rfl rfl rfl hl.1 rfl (Nat.le_of_ble_eq_true rfl) dX1_wantedAfter_52 ⟨Nat.zero_le _, Nat.zero_le _⟩ ?_
      refine lv_bipush (v := (24 : Int32)) hx hb dX1_wantedAfter_55 (by decide) ?_
      refine kx_cSN (As := [.int (fX1_stitchAt sg pl), .int (24 : Int32)]) (rest := []) ⟨hx, hb, hml, hown, hts⟩ (c_X5_isBelow l dC dI cyI cyZ  (fX1_stitchAt sg pl) (24 : Int32)  _ rfl) ⟨va_cnB 2 hts gX1_wantedAfter_X5_isBelow_n31 rfl rfl rfl (hN (RX1, 31, yX5_isBelow, RX5) (List.mem_of_getElem? (i := 11) rfl)) (hts (.initialized RX5) (by decide +kernel)) (by decide +kernel) ⟨Nat.le_of_ble_eq_true rfl, Nat.le_of_ble_eq_true rfl⟩, hts (.static yX5_isBelow) (by decide +kernel), trivial⟩ hP hK hN [] rfl [0, 1] rfl rfl hl.1 rfl (Nat.le_of_ble_eq_true rfl) dX1_wantedAfter_57 ⟨Nat.zero_le _, Nat.zero_le _⟩ ?_
      refine lv_if_eq (tgt := 67) hx hb dX1_wantedAfter_60 (by decide) (fun c60 => ?_) (fun c60 => ?_)
      · rw [if_pos c60] at hF
        refine lv_iconst (v := (-1 : Int32)) hx hb dX1_wantedAfter_67 (by decide) ?_
        exact W.iret hx hb hr (fun t ht _ => ⟨congrArg (fun z => Outcome.returned (some (Value.int z))) hF, ht⟩) (fun _ h => absurd h List.not_mem_nil) dX1_wantedAfter_68
      · rw [if_neg c60] at hF
        refine lv_iconst (v := (0 : Int32)) hx hb dX1_wantedAfter_63 (by decide) ?_
        refine lv_goto (tgt := 68) hx hb dX1_wantedAfter_64 (by decide) ?_
        exact W.iret hx hb hr (fun t ht _ => ⟨congrArg (fun z => Outcome.returned (some (Value.int z))) hF, ht⟩) (fun _ h => absurd h List.not_mem_nil) dX1_wantedAfter_68
    · rw [if_neg c1_2] at hF
      by_cases c1_3 : wa = (3 : Int32)
      · rw [if_pos c1_3] at hF
        refine lv_tableIn (tgt := 69) (off := 68) hx hb dX1_wantedAfter_1 (by rw [c1_3]; decide) (by rw [c1_3]; decide) (by rw [c1_3]; rfl) (by decide) ?_
        refine lv_aload_n hx hb dX1_wantedAfter_69 rfl (lv_at hl 0 rfl) ?_
        refine lv_iload_n hx hb dX1_wantedAfter_70 rfl (lv_at hl 2 rfl) ?_
        refine kx_cV (As := [.int pl]) (rest := []) ⟨hx, hb, hml, hown, hts⟩ (c_X1_stitchAt l dC dI cyI cyZ hp ap np sg pl  _ rfl) (cwV 1 hts gX1_wantedAfter_X1_stitchAt rfl rfl rfl (by decide +kernel) ⟨Nat.le_of_ble_eq_true rfl, Nat.le_of_ble_eq_true rfl⟩) hP hK hN [0, 1] rfl [0, 1] rfl 1 0 rfl rfl rfl rfl hl.1 rfl (Nat.le_of_ble_eq_true rfl) dX1_wantedAfter_71 ⟨Nat.zero_le _, Nat.zero_le _⟩ ?_
        refine lv_bipush (v := (24 : Int32)) hx hb dX1_wantedAfter_74 (by decide) ?_
        refine kx_cSN (As := [.int (fX1_stitchAt sg pl), .int (24 : Int32)]) (rest := []) ⟨hx, hb, hml, hown, hts⟩ (c_X5_isBelow l dC dI cyI cyZ  (fX1_stitchAt sg pl) (24 : Int32)  _ rfl) ⟨va_cnB 2 hts gX1_wantedAfter_X5_isBelow_n31 rfl rfl rfl (hN (RX1, 31, yX5_isBelow, RX5) (List.mem_of_getElem? (i := 11) rfl)) (hts (.initialized RX5) (by decide +kernel)) (by decide +kernel) ⟨Nat.le_of_ble_eq_true rfl, Nat.le_of_ble_eq_true rfl⟩, hts (.static yX5_isBelow) (by decide +kernel), trivial⟩ hP hK hN [] rfl [0, 1] rfl rfl hl.1 rfl (Nat.le_of_ble_eq_true rfl) dX1_wantedAfter_76 ⟨Nat.zero_le _, Nat.zero_le _⟩ ?_
        refine lv_if_eq (tgt := 86) hx hb dX1_wantedAfter_79 (by decide) (fun c79 => ?_) (fun c79 => ?_)
        · rw [if_pos c79] at hF
          refine lv_iconst (v := (-1 : Int32)) hx hb dX1_wantedAfter_86 (by decide) ?_
          exact W.iret hx hb hr (fun t ht _ => ⟨congrArg (fun z => Outcome.returned (some (Value.int z))) hF, ht⟩) (fun _ h => absurd h List.not_mem_nil) dX1_wantedAfter_87
        · rw [if_neg c79] at hF
          refine lv_iconst (v := (4 : Int32)) hx hb dX1_wantedAfter_82 (by decide) ?_
          refine lv_goto (tgt := 87) hx hb dX1_wantedAfter_83 (by decide) ?_
          exact W.iret hx hb hr (fun t ht _ => ⟨congrArg (fun z => Outcome.returned (some (Value.int z))) hF, ht⟩) (fun _ h => absurd h List.not_mem_nil) dX1_wantedAfter_87
      · rw [if_neg c1_3] at hF
        by_cases c1_4 : wa = (4 : Int32)
        · rw [if_pos c1_4] at hF
          refine lv_tableIn (tgt := 88) (off := 87) hx hb dX1_wantedAfter_1 (by rw [c1_4]; decide) (by rw [c1_4]; decide) (by rw [c1_4]; rfl) (by decide) ?_
          refine lv_aload_n hx hb dX1_wantedAfter_88 rfl (lv_at hl 0 rfl) ?_
          refine lv_iload_n hx hb dX1_wantedAfter_89 rfl (lv_at hl 2 rfl) ?_
          refine kx_cV (As := [.int pl]) (rest := []) ⟨hx, hb, hml, hown, hts⟩ (c_X1_knitterAt l dC dI cyI cyZ hp ap np sg pl  _ rfl) (cwV 1 hts gX1_wantedAfter_X1_knitterAt rfl rfl rfl (by decide +kernel) ⟨Nat.le_of_ble_eq_true rfl, Nat.le_of_ble_eq_true rfl⟩) hP hK hN [0, 1] rfl [0, 1] rfl 1 0 rfl rfl rfl rfl hl.1 rfl (Nat.le_of_ble_eq_true rfl) dX1_wantedAfter_90 ⟨Nat.zero_le _, Nat.zero_le _⟩ ?_
          refine lv_iconst (v := (4 : Int32)) hx hb dX1_wantedAfter_93 (by decide) ?_
          refine kx_cSN (As := [.int (fX1_knitterAt sg pl), .int (4 : Int32)]) (rest := []) ⟨hx, hb, hml, hown, hts⟩ (c_X5_isBelow l dC dI cyI cyZ  (fX1_knitterAt sg pl) (4 : Int32)  _ rfl) ⟨va_cnB 2 hts gX1_wantedAfter_X5_isBelow_n31 rfl rfl rfl (hN (RX1, 31, yX5_isBelow, RX5) (List.mem_of_getElem? (i := 11) rfl)) (hts (.initialized RX5) (by decide +kernel)) (by decide +kernel) ⟨Nat.le_of_ble_eq_true rfl, Nat.le_of_ble_eq_true rfl⟩, hts (.static yX5_isBelow) (by decide +kernel), trivial⟩ hP hK hN [] rfl [0, 1] rfl rfl hl.1 rfl (Nat.le_of_ble_eq_true rfl) dX1_wantedAfter_94 ⟨Nat.zero_le _, Nat.zero_le _⟩ ?_
          refine lv_if_eq (tgt := 104) hx hb dX1_wantedAfter_97 (by decide) (fun c97 => ?_) (fun c97 => ?_)
          · rw [if_pos c97] at hF
            refine lv_iconst (v := (-1 : Int32)) hx hb dX1_wantedAfter_104 (by decide) ?_
            exact W.iret hx hb hr (fun t ht _ => ⟨congrArg (fun z => Outcome.returned (some (Value.int z))) hF, ht⟩) (fun _ h => absurd h List.not_mem_nil) dX1_wantedAfter_105
          · rw [if_neg c97] at hF
            refine lv_iconst (v := (0 : Int32)) hx hb dX1_wantedAfter_100 (by decide) ?_
            refine lv_goto (tgt := 105) hx hb dX1_wantedAfter_101 (by decide) ?_
            exact W.iret hx hb hr (fun t ht _ => ⟨congrArg (fun z => Outcome.returned (some (Value.int z))) hF, ht⟩) (fun _ h => absurd h List.not_mem_nil) dX1_wantedAfter_105
        · rw [if_neg c1_4] at hF
          refine lv_tableOut (tgt := 106) hx hb dX1_wantedAfter_1 (by have q0 := lv_neT (k := (1 : Int32)) (a := 1) c1_1 rfl; have q1 := lv_neT (k := (2 : Int32)) (a := 2) c1_2 rfl; have q2 := lv_neT (k := (3 : Int32)) (a := 3) c1_3 rfl; have q3 := lv_neT (k := (4 : Int32)) (a := 4) c1_4 rfl; omega) (by decide) ?_
          refine lv_aload_n hx hb dX1_wantedAfter_106 rfl (lv_at hl 0 rfl) ?_
          refine lv_iload_n hx hb dX1_wantedAfter_107 rfl (lv_at hl 2 rfl) ?_
          refine kx_cV (As := [.int pl]) (rest := []) ⟨hx, hb, hml, hown, hts⟩ (c_X1_kindAt l dC dI cyI cyZ hp ap np sg pl  _ rfl) (cwV 1 hts gX1_wantedAfter_X1_kindAt rfl rfl rfl (by decide +kernel) ⟨Nat.le_of_ble_eq_true rfl, Nat.le_of_ble_eq_true rfl⟩) hP hK hN [0, 1] rfl [0, 1] rfl 1 0 rfl rfl rfl rfl hl.1 rfl (Nat.le_of_ble_eq_true rfl) dX1_wantedAfter_108 ⟨Nat.zero_le _, Nat.zero_le _⟩ ?_
          refine kx_cS (As := [.int (fX1_kindAt sg pl)]) (rest := []) ⟨hx, hb, hml, hown, hts⟩ (c_X1_wantedBy l dC dI cyI cyZ  (fX1_kindAt sg pl)  _ rfl) (va_cwS 1 hts gX1_wantedAfter_X1_wantedBy rfl rfl rfl (by decide +kernel) ⟨Nat.le_of_ble_eq_true rfl, Nat.le_of_ble_eq_true rfl⟩) hP hK hN [] rfl [0, 1] rfl rfl hl.1 rfl (Nat.le_of_ble_eq_true rfl) dX1_wantedAfter_111 ⟨Nat.zero_le _, Nat.zero_le _⟩ ?_
          exact W.iret hx hb hr (fun t ht _ => ⟨congrArg (fun z => Outcome.returned (some (Value.int z))) hF, ht⟩) (fun _ h => absurd h List.not_mem_nil) dX1_wantedAfter_114

def fX1_firstFault_L4 (np : Nat) (sg : Nat → Int32) : Nat → Nat → Int32 → Int32
  | 0, _, wb => (if wb = 0 then (-6 : Int32) else (nI np))
  | r4 + 1, j4, wb => (if (fX1_wantedAfter sg wb (nI j4)) = (-1 : Int32) then (nI j4) else (fX1_firstFault_L4 np sg r4 (j4 + 1) (fX1_wantedAfter sg wb (nI j4))))
def fX1_firstFault (np : Nat) (sg : Nat → Int32) : Int32 :=
  (fX1_firstFault_L4 np sg np 0 (0 : Int32))
set_option maxHeartbeats 4000000 in
set_option maxRecDepth 100000 in
theorem c_X1_firstFault (l : Launch) (dC : Nat → ClassId) (dI : Nat → Nat → Nat) (cyI cyZ : ClassId) (hp ap : Nat) (np : Nat) (sg : Nat → Int32) (hnp : np ≤ 60) (r : Int32) (hF : fX1_firstFault np sg = r) : Met l yX1_firstFault wsX1_firstFault ({ frames := 4, cells := 0, slots := 0, locals := 85 }) (kx_rp (dC, dI) [(hp, .inr (1, [.ref ap, .int (nI np)])), (ap, .inl (cyI, 60, .inl sg))] [(cyI, .int), (cyZ, .boolean)] [.ref hp]) (k2_QcV (.int r)) 0 0 (fun _ => False) := by
  refine Met.ofW (cc := cX1_firstFault) (maxL := 3) (ret := (some .int)) (by decide) rfl ?_
  intro p e s m args below meth c s₁ B hml hv
  obtain ⟨rfl, hP, hK, hN⟩ := hv
  have hx := B.exec
  have hb := B.bytes
  have hr := B.returns
  have hts := atoms_spec (ws := wsX1_firstFault) B.pre
  have hown : s.vm.findClass RX1 = some m.cls := findClass_of_methodNamed B.named
  have hlocks := B.notSynchronized
  have hiX1 : ∀ w ∈ wsX10, w ∈ wsX1_firstFault := by decide +kernel
  have fl15 := hts (.fieldLink RX1 15 "KnitChronicle$Pad" "length" "I") (by decide +kernel)
  have hl := lv_entry ([.ref hp]) (n := 3) (Nat.le_of_ble_eq_true rfl)
  rw [lg_entry_eq]
  generalize (lg_sl ([.ref hp]) ++ List.replicate (3 - (lg_sl ([.ref hp])).length) Slot.unset).toArray = ls at hl ⊢
  have hl : lv_has ls 3 [(0, .ref hp)] := hl
  unfold fX1_firstFault at hF
  refine lv_iconst (v := (0 : Int32)) hx hb dX1_firstFault_0 (by decide) ?_
  refine lv_istore_n (lv' := [(1, .int (0 : Int32)), (0, .ref hp)]) hx hb dX1_firstFault_1 rfl hl (by decide) rfl (fun ls hl => ?_)
  refine lv_iconst (v := (0 : Int32)) hx hb dX1_firstFault_2 (by decide) ?_
  refine lv_istore_n (lv' := [(2, .int (0 : Int32)), (1, .int (0 : Int32)), (0, .ref hp)]) hx hb dX1_firstFault_3 rfl hl (by decide) rfl (fun ls hl => ?_)
  have LP4 : ∀ (r4 : Nat) (j4 : Nat) (wb : Int32), r4 + j4 = np → fX1_firstFault_L4 np sg r4 j4 wb = r → ∀ (ls : Array Slot), lv_has ls 3 [(2, .int (nI j4)), (1, .int wb), (0, .ref hp)] → W p l e (headSpec wsX1_firstFault ({ frames := 4, cells := 0, slots := 0, locals := 85 } : Room)).room s m ([.ref hp] : List Value).toArray below meth c s.heap [] 0 0 (MQ below (k2_QcV (.int r)) ([.ref hp] : List Value).toArray s 0 0 (fun _ => False)) (F0 m 4 ls []) := by
    intro r4
    induction r4 with
    | zero =>
      intro j4 wb hrj hF ls hl
      rw [fX1_firstFault_L4] at hF
      refine lv_iload_n hx hb dX1_firstFault_4 rfl (lv_at hl 0 rfl) ?_
      refine lv_aload_n hx hb dX1_firstFault_5 rfl (lv_at hl 2 rfl) ?_
      refine va_get (D := (dC, dI)) (ci := 1) (v := .int (nI np)) (C := RX1) (T := TX1) (N := 2) hx hb hts hiX1 hown hK hP 0 rfl rfl 1 (by decide) fl15 (fun _ h9 => h9) rfl dX1_firstFault_6 ?_
      refine kx_ge hx hb (j4) (np) rfl rfl (by omega) (by omega) dX1_firstFault_9 (by decide) (tgt := 32) (fun c9 => ?_) (fun c9 => absurd c9 (by omega))
      refine lv_iload_n hx hb dX1_firstFault_32 rfl (lv_at hl 1 rfl) ?_
      refine lv_if_ne (tgt := 41) hx hb dX1_firstFault_33 (by decide) (fun c33 => ?_) (fun c33 => ?_)
      · rw [if_neg c33] at hF
        refine lv_aload_n hx hb dX1_firstFault_41 rfl (lv_at hl 2 rfl) ?_
        refine va_get (D := (dC, dI)) (ci := 1) (v := .int (nI np)) (C := RX1) (T := TX1) (N := 2) hx hb hts hiX1 hown hK hP 0 rfl rfl 1 (by decide) fl15 (fun _ h9 => h9) rfl dX1_firstFault_42 ?_
        exact W.iret hx hb hr (fun t ht _ => ⟨congrArg (fun z => Outcome.returned (some (Value.int z))) hF, ht⟩) (fun _ h => absurd h List.not_mem_nil) dX1_firstFault_45
      · rw [if_pos c33] at hF
        refine lv_bipush (v := (-6 : Int32)) hx hb dX1_firstFault_36 (by decide) ?_
        refine lv_goto (tgt := 45) hx hb dX1_firstFault_38 (by decide) ?_
        exact W.iret hx hb hr (fun t ht _ => ⟨congrArg (fun z => Outcome.returned (some (Value.int z))) hF, ht⟩) (fun _ h => absurd h List.not_mem_nil) dX1_firstFault_45
    | succ r4 ih =>
      intro j4 wb hrj hF ls hl
      rw [fX1_firstFault_L4] at hF
      refine lv_iload_n hx hb dX1_firstFault_4 rfl (lv_at hl 0 rfl) ?_
      refine lv_aload_n hx hb dX1_firstFault_5 rfl (lv_at hl 2 rfl) ?_
      refine va_get (D := (dC, dI)) (ci := 1) (v := .int (nI np)) (C := RX1) (T := TX1) (N := 2) hx hb hts hiX1 hown hK hP 0 rfl rfl 1 (by decide) fl15 (fun _ h9 => h9) rfl dX1_firstFault_6 ?_
      refine kx_ge hx hb (j4) (np) rfl rfl (by omega) (by omega) dX1_firstFault_9 (by decide) (tgt := 32) (fun c9 => absurd c9 (by omega)) (fun c9 => ?_)
      refine lv_aload_n hx hb dX1_firstFault_12 rfl (lv_at hl 2 rfl) ?_
      refine lv_iload_n hx hb dX1_firstFault_13 rfl (lv_at hl 1 rfl) ?_
      refine lv_iload_n hx hb dX1_firstFault_14 rfl (lv_at hl 0 rfl) ?_
      refine kx_cV (As := [.int wb, .int (nI j4)]) (rest := []) ⟨hx, hb, hml, hown, hts⟩ (c_X1_wantedAfter l dC dI cyI cyZ hp ap np sg wb (nI j4)  _ rfl) (cwV 2 hts gX1_firstFault_X1_wantedAfter rfl rfl rfl (by decide +kernel) ⟨Nat.le_of_ble_eq_true rfl, Nat.le_of_ble_eq_true rfl⟩) hP hK hN [0, 1] rfl [0, 1] rfl 1 0 rfl rfl rfl rfl hl.1 rfl (Nat.le_of_ble_eq_true rfl) dX1_firstFault_15 ⟨Nat.zero_le _, Nat.zero_le _⟩ ?_
      refine lv_istore_n (lv' := [(1, .int (fX1_wantedAfter sg wb (nI j4))), (2, .int (nI j4)), (0, .ref hp)]) hx hb dX1_firstFault_18 rfl hl (by decide) rfl (fun ls hl => ?_)
      refine lv_iload_n hx hb dX1_firstFault_19 rfl (lv_at hl 0 rfl) ?_
      refine lv_iconst (v := (-1 : Int32)) hx hb dX1_firstFault_20 (by decide) ?_
      refine lv_icmp_ne (tgt := 26) hx hb dX1_firstFault_21 (by decide) (fun c21 => ?_) (fun c21 => ?_)
      · rw [if_neg c21] at hF
        refine lv_iinc (v := (nI (j4 + 1))) (lv' := [(2, .int (nI (j4 + 1))), (1, .int (fX1_wantedAfter sg wb (nI j4))), (0, .ref hp)]) hx hb dX1_firstFault_26 hl (k := 1) rfl (by exact nI_add (j4) 1) (by decide) rfl (fun ls hl => ?_)
        refine lv_goto (tgt := 4) hx hb dX1_firstFault_29 (by decide) ?_
        exact ih (j4 + 1) (fX1_wantedAfter sg wb (nI j4)) (by omega)  hF _ (lv_sub hl [0, 1, 2] rfl)
      · rw [if_pos c21] at hF
        refine lv_iload_n hx hb dX1_firstFault_24 rfl (lv_at hl 1 rfl) ?_
        exact W.iret hx hb hr (fun t ht _ => ⟨congrArg (fun z => Outcome.returned (some (Value.int z))) hF, ht⟩) (fun _ h => absurd h List.not_mem_nil) dX1_firstFault_25
  exact LP4 np 0 (0 : Int32) (by omega)  hF _ (lv_sub hl [0, 1, 2] rfl)
