def fX2_has (n : Nat) (k : Int32) : Int32 :=
  (fX5_isBelow k (nI n))
theorem nz_X2_has (n : Nat) (k : Int32) : narrow .boolean (.int (fX2_has n k)) = .int (fX2_has n k) := by
  unfold fX2_has
  (repeat' split) <;> first | rfl | exact nz_X5_isBelow ..
set_option maxHeartbeats 4000000 in
set_option maxRecDepth 100000 in
theorem c_X2_has (l : Launch) (dC : Nat → ClassId) (dI : Nat → Nat → Nat) (cyI cyZ : ClassId) (h a0 a1 a2 : Nat) (n : Nat) (ea : Int32) (co : Nat → Int32) (ti : Nat → Int32) (an : Nat → Int32) (k : Int32) (r : Int32) (hF : fX2_has n k = r) : Met l yX2_has wsX2_has ({ frames := 1, cells := 0, slots := 0, locals := 21 }) (kx_rp (dC, dI) [(h, .inr (2, [.ref a0, .ref a1, .ref a2, .int (nI n), .int ea])), (a0, .inl (cyI, 24, .inl co)), (a1, .inl (cyI, 24, .inl ti)), (a2, .inl (cyI, 24, .inl an))] [(cyI, .int), (cyZ, .boolean)] [.ref h, .int k]) (k2_QcV (.int r)) 0 0 (fun _ => False) := by
  refine Met.ofW (cc := cX2_has) (maxL := 2) (ret := (some .boolean)) (by decide) rfl ?_
  intro p e s m args below meth c s₁ B hml hv
  obtain ⟨rfl, hP, hK, hN⟩ := hv
  have hx := B.exec
  have hb := B.bytes
  have hr := B.returns
  have hts := atoms_spec (ws := wsX2_has) B.pre
  have hown : s.vm.findClass RX2 = some m.cls := findClass_of_methodNamed B.named
  have hlocks := B.notSynchronized
  have hiX2 : ∀ w ∈ wsX20, w ∈ wsX2_has := by decide +kernel
  have fl21 := hts (.fieldLink RX2 21 "KnitChronicle$Scarf" "size" "I") (by decide +kernel)
  have hl := lv_entry ([.ref h, .int k]) (n := 2) (Nat.le_of_ble_eq_true rfl)
  rw [lg_entry_eq]
  generalize (lg_sl ([.ref h, .int k]) ++ List.replicate (2 - (lg_sl ([.ref h, .int k])).length) Slot.unset).toArray = ls at hl ⊢
  have hl : lv_has ls 2 [(0, .ref h), (1, .int k)] := hl
  unfold fX2_has at hF
  refine lv_iload_n hx hb dX2_has_0 rfl (lv_at hl 1 rfl) ?_
  refine lv_aload_n hx hb dX2_has_1 rfl (lv_at hl 0 rfl) ?_
  refine va_get (D := (dC, dI)) (ci := 2) (v := .int (nI n)) (C := RX2) (T := TX2) (N := 5) hx hb hts hiX2 hown hK hP 0 rfl rfl 3 (by decide) fl21 (fun _ h9 => h9) rfl dX2_has_2 ?_
  refine kx_cSN (As := [.int k, .int (nI n)]) (rest := []) ⟨hx, hb, hml, hown, hts⟩ (c_X5_isBelow l dC dI cyI cyZ  k (nI n)  _ rfl) ⟨va_cnB 2 hts gX2_has_X5_isBelow_n25 rfl rfl rfl (hN (RX2, 25, yX5_isBelow, RX5) (List.mem_of_getElem? (i := 6) rfl)) (hts (.initialized RX5) (by decide +kernel)) (by decide +kernel) ⟨Nat.le_of_ble_eq_true rfl, Nat.le_of_ble_eq_true rfl⟩, hts (.static yX5_isBelow) (by decide +kernel), trivial⟩ hP hK hN [] rfl [0, 1] rfl rfl hl.1 rfl (Nat.le_of_ble_eq_true rfl) dX2_has_5 ⟨Nat.zero_le _, Nat.zero_le _⟩ ?_
  exact W.zret hx hb hr (nz_X5_isBelow ..) (fun t ht _ => ⟨congrArg (fun z => Outcome.returned (some (Value.int z))) hF, ht⟩) (fun _ h => absurd h List.not_mem_nil) dX2_has_8

def fX2_hasAll (n : Nat) (se : Int32) : Int32 :=
  (if (se &&& (((1 : Int32) <<< ((nI n) &&& 31)) - (1 : Int32))) = se then (1 : Int32) else (0 : Int32))
theorem nz_X2_hasAll (n : Nat) (se : Int32) : narrow .boolean (.int (fX2_hasAll n se)) = .int (fX2_hasAll n se) := by
  unfold fX2_hasAll
  (repeat' split) <;> first | rfl
set_option maxHeartbeats 4000000 in
set_option maxRecDepth 100000 in
theorem c_X2_hasAll (l : Launch) (dC : Nat → ClassId) (dI : Nat → Nat → Nat) (cyI cyZ : ClassId) (h a0 a1 a2 : Nat) (n : Nat) (ea : Int32) (co : Nat → Int32) (ti : Nat → Int32) (an : Nat → Int32) (se : Int32) (r : Int32) (hF : fX2_hasAll n se = r) : Met l yX2_hasAll wsX2_hasAll ({ frames := 0, cells := 0, slots := 0, locals := 0 }) (kx_rp (dC, dI) [(h, .inr (2, [.ref a0, .ref a1, .ref a2, .int (nI n), .int ea])), (a0, .inl (cyI, 24, .inl co)), (a1, .inl (cyI, 24, .inl ti)), (a2, .inl (cyI, 24, .inl an))] [(cyI, .int), (cyZ, .boolean)] [.ref h, .int se]) (k2_QcV (.int r)) 0 0 (fun _ => False) := by
  refine Met.ofW (cc := cX2_hasAll) (maxL := 2) (ret := (some .boolean)) (by decide) rfl ?_
  intro p e s m args below meth c s₁ B hml hv
  obtain ⟨rfl, hP, hK, hN⟩ := hv
  have hx := B.exec
  have hb := B.bytes
  have hr := B.returns
  have hts := atoms_spec (ws := wsX2_hasAll) B.pre
  have hown : s.vm.findClass RX2 = some m.cls := findClass_of_methodNamed B.named
  have hlocks := B.notSynchronized
  have hiX2 : ∀ w ∈ wsX20, w ∈ wsX2_hasAll := by decide +kernel
  have fl21 := hts (.fieldLink RX2 21 "KnitChronicle$Scarf" "size" "I") (by decide +kernel)
  have hl := lv_entry ([.ref h, .int se]) (n := 2) (Nat.le_of_ble_eq_true rfl)
  rw [lg_entry_eq]
  generalize (lg_sl ([.ref h, .int se]) ++ List.replicate (2 - (lg_sl ([.ref h, .int se])).length) Slot.unset).toArray = ls at hl ⊢
  have hl : lv_has ls 2 [(0, .ref h), (1, .int se)] := hl
  unfold fX2_hasAll at hF
  refine lv_iload_n hx hb dX2_hasAll_0 rfl (lv_at hl 1 rfl) ?_
  refine lv_iconst (v := (1 : Int32)) hx hb dX2_hasAll_1 (by decide) ?_
  refine lv_aload_n hx hb dX2_hasAll_2 rfl (lv_at hl 0 rfl) ?_
  refine va_get (D := (dC, dI)) (ci := 2) (v := .int (nI n)) (C := RX2) (T := TX2) (N := 5) hx hb hts hiX2 hown hK hP 0 rfl rfl 3 (by decide) fl21 (fun _ h9 => h9) rfl dX2_hasAll_3 ?_
  refine lv_ishl hx hb dX2_hasAll_6 ?_
  refine lv_iconst (v := (1 : Int32)) hx hb dX2_hasAll_7 (by decide) ?_
  refine lv_isub hx hb dX2_hasAll_8 ?_
  refine lv_iand hx hb dX2_hasAll_9 ?_
  refine lv_iload_n hx hb dX2_hasAll_10 rfl (lv_at hl 1 rfl) ?_
  refine lv_icmp_ne (tgt := 18) hx hb dX2_hasAll_11 (by decide) (fun c11 => ?_) (fun c11 => ?_)
  · rw [if_neg c11] at hF
    refine lv_iconst (v := (0 : Int32)) hx hb dX2_hasAll_18 (by decide) ?_
    exact W.zret hx hb hr rfl (fun t ht _ => ⟨congrArg (fun z => Outcome.returned (some (Value.int z))) hF, ht⟩) (fun _ h => absurd h List.not_mem_nil) dX2_hasAll_19
  · rw [if_pos c11] at hF
    refine lv_iconst (v := (1 : Int32)) hx hb dX2_hasAll_14 (by decide) ?_
    refine lv_goto (tgt := 19) hx hb dX2_hasAll_15 (by decide) ?_
    exact W.zret hx hb hr rfl (fun t ht _ => ⟨congrArg (fun z => Outcome.returned (some (Value.int z))) hF, ht⟩) (fun _ h => absurd h List.not_mem_nil) dX2_hasAll_19

def fX2_isFull (n : Nat) : Int32 :=
  (if n < 24 then (0 : Int32) else (1 : Int32))
theorem nz_X2_isFull (n : Nat) : narrow .boolean (.int (fX2_isFull n)) = .int (fX2_isFull n) := by
  unfold fX2_isFull
  (repeat' split) <;> first | rfl
set_option maxHeartbeats 4000000 in
set_option maxRecDepth 100000 in
theorem c_X2_isFull (l : Launch) (dC : Nat → ClassId) (dI : Nat → Nat → Nat) (cyI cyZ : ClassId) (h a0 a1 a2 : Nat) (n : Nat) (ea : Int32) (co : Nat → Int32) (ti : Nat → Int32) (an : Nat → Int32) (hn : n ≤ 1000) (r : Int32) (hF : fX2_isFull n = r) : Met l yX2_isFull wsX2_isFull ({ frames := 0, cells := 0, slots := 0, locals := 0 }) (kx_rp (dC, dI) [(h, .inr (2, [.ref a0, .ref a1, .ref a2, .int (nI n), .int ea])), (a0, .inl (cyI, 24, .inl co)), (a1, .inl (cyI, 24, .inl ti)), (a2, .inl (cyI, 24, .inl an))] [(cyI, .int), (cyZ, .boolean)] [.ref h]) (k2_QcV (.int r)) 0 0 (fun _ => False) := by
  refine Met.ofW (cc := cX2_isFull) (maxL := 1) (ret := (some .boolean)) (by decide) rfl ?_
  intro p e s m args below meth c s₁ B hml hv
  obtain ⟨rfl, hP, hK, hN⟩ := hv
  have hx := B.exec
  have hb := B.bytes
  have hr := B.returns
  have hts := atoms_spec (ws := wsX2_isFull) B.pre
  have hown : s.vm.findClass RX2 = some m.cls := findClass_of_methodNamed B.named
  have hlocks := B.notSynchronized
  have hiX2 : ∀ w ∈ wsX20, w ∈ wsX2_isFull := by decide +kernel
  have fl21 := hts (.fieldLink RX2 21 "KnitChronicle$Scarf" "size" "I") (by decide +kernel)
  have hl := lv_entry ([.ref h]) (n := 1) (Nat.le_of_ble_eq_true rfl)
  rw [lg_entry_eq]
  generalize (lg_sl ([.ref h]) ++ List.replicate (1 - (lg_sl ([.ref h])).length) Slot.unset).toArray = ls at hl ⊢
  have hl : lv_has ls 1 [(0, .ref h)] := hl
  unfold fX2_isFull at hF
  refine lv_aload_n hx hb dX2_isFull_0 rfl (lv_at hl 0 rfl) ?_
  refine va_get (D := (dC, dI)) (ci := 2) (v := .int (nI n)) (C := RX2) (T := TX2) (N := 5) hx hb hts hiX2 hown hK hP 0 rfl rfl 3 (by decide) fl21 (fun _ h9 => h9) rfl dX2_isFull_1 ?_
  refine lv_bipush (v := (24 : Int32)) hx hb dX2_isFull_4 (by decide) ?_
  refine kx_lt hx hb (n) (24) rfl rfl (by omega) (by omega) dX2_isFull_6 (by decide) (tgt := 13) (fun c6 => ?_) (fun c6 => ?_)
  · rw [if_pos c6] at hF
    refine lv_iconst (v := (0 : Int32)) hx hb dX2_isFull_13 (by decide) ?_
    exact W.zret hx hb hr rfl (fun t ht _ => ⟨congrArg (fun z => Outcome.returned (some (Value.int z))) hF, ht⟩) (fun _ h => absurd h List.not_mem_nil) dX2_isFull_14
  · rw [if_neg (Nat.not_lt.mpr c6)] at hF
    refine lv_iconst (v := (1 : Int32)) hx hb dX2_isFull_9 (by decide) ?_
    refine lv_goto (tgt := 14) hx hb dX2_isFull_10 (by decide) ?_
    exact W.zret hx hb hr rfl (fun t ht _ => ⟨congrArg (fun z => Outcome.returned (some (Value.int z))) hF, ht⟩) (fun _ h => absurd h List.not_mem_nil) dX2_isFull_14

def fX2_isEaten (ea : Int32) (k : Int32) : Int32 :=
  (fX5_isIn ea k)
theorem nz_X2_isEaten (ea : Int32) (k : Int32) : narrow .boolean (.int (fX2_isEaten ea k)) = .int (fX2_isEaten ea k) := by
  unfold fX2_isEaten
  (repeat' split) <;> first | rfl | exact nz_X5_isIn ..
set_option maxHeartbeats 4000000 in
set_option maxRecDepth 100000 in
theorem c_X2_isEaten (l : Launch) (dC : Nat → ClassId) (dI : Nat → Nat → Nat) (cyI cyZ : ClassId) (h a0 a1 a2 : Nat) (n : Nat) (ea : Int32) (co : Nat → Int32) (ti : Nat → Int32) (an : Nat → Int32) (k : Int32) (r : Int32) (hF : fX2_isEaten ea k = r) : Met l yX2_isEaten wsX2_isEaten ({ frames := 1, cells := 0, slots := 0, locals := 21 }) (kx_rp (dC, dI) [(h, .inr (2, [.ref a0, .ref a1, .ref a2, .int (nI n), .int ea])), (a0, .inl (cyI, 24, .inl co)), (a1, .inl (cyI, 24, .inl ti)), (a2, .inl (cyI, 24, .inl an))] [(cyI, .int), (cyZ, .boolean)] [.ref h, .int k]) (k2_QcV (.int r)) 0 0 (fun _ => False) := by
  refine Met.ofW (cc := cX2_isEaten) (maxL := 2) (ret := (some .boolean)) (by decide) rfl ?_
  intro p e s m args below meth c s₁ B hml hv
  obtain ⟨rfl, hP, hK, hN⟩ := hv
  have hx := B.exec
  have hb := B.bytes
  have hr := B.returns
  have hts := atoms_spec (ws := wsX2_isEaten) B.pre
  have hown : s.vm.findClass RX2 = some m.cls := findClass_of_methodNamed B.named
  have hlocks := B.notSynchronized
  have hiX2 : ∀ w ∈ wsX20, w ∈ wsX2_isEaten := by decide +kernel
  have fl29 := hts (.fieldLink RX2 29 "KnitChronicle$Scarf" "eaten" "I") (by decide +kernel)
  have hl := lv_entry ([.ref h, .int k]) (n := 2) (Nat.le_of_ble_eq_true rfl)
  rw [lg_entry_eq]
  generalize (lg_sl ([.ref h, .int k]) ++ List.replicate (2 - (lg_sl ([.ref h, .int k])).length) Slot.unset).toArray = ls at hl ⊢
  have hl : lv_has ls 2 [(0, .ref h), (1, .int k)] := hl
  unfold fX2_isEaten at hF
  refine lv_aload_n hx hb dX2_isEaten_0 rfl (lv_at hl 0 rfl) ?_
  refine va_get (D := (dC, dI)) (ci := 2) (v := .int ea) (C := RX2) (T := TX2) (N := 5) hx hb hts hiX2 hown hK hP 0 rfl rfl 4 (by decide) fl29 (fun _ h9 => h9) rfl dX2_isEaten_1 ?_
  refine lv_iload_n hx hb dX2_isEaten_4 rfl (lv_at hl 1 rfl) ?_
  refine kx_cSN (As := [.int ea, .int k]) (rest := []) ⟨hx, hb, hml, hown, hts⟩ (c_X5_isIn l dC dI cyI cyZ  ea k  _ rfl) ⟨va_cnB 2 hts gX2_isEaten_X5_isIn_n32 rfl rfl rfl (hN (RX2, 32, yX5_isIn, RX5) (List.mem_of_getElem? (i := 13) rfl)) (hts (.initialized RX5) (by decide +kernel)) (by decide +kernel) ⟨Nat.le_of_ble_eq_true rfl, Nat.le_of_ble_eq_true rfl⟩, hts (.static yX5_isIn) (by decide +kernel), trivial⟩ hP hK hN [] rfl [0, 1] rfl rfl hl.1 rfl (Nat.le_of_ble_eq_true rfl) dX2_isEaten_5 ⟨Nat.zero_le _, Nat.zero_le _⟩ ?_
  exact W.zret hx hb hr (nz_X5_isIn ..) (fun t ht _ => ⟨congrArg (fun z => Outcome.returned (some (Value.int z))) hF, ht⟩) (fun _ h => absurd h List.not_mem_nil) dX2_isEaten_8

def fX2_trait (co : Nat → Int32) (ti : Nat → Int32) (an : Nat → Int32) (k : Int32) (w : Int32) : Int32 :=
  (if w = (0 : Int32) then (fX5_at co 24 k) else (if w = (1 : Int32) then (fX5_at ti 24 k) else (if (fX5_at an 24 k) = (-1 : Int32) then (-6 : Int32) else (fX5_at an 24 k))))
set_option maxHeartbeats 4000000 in
set_option maxRecDepth 100000 in
theorem c_X2_trait (l : Launch) (dC : Nat → ClassId) (dI : Nat → Nat → Nat) (cyI cyZ : ClassId) (h a0 a1 a2 : Nat) (n : Nat) (ea : Int32) (co : Nat → Int32) (ti : Nat → Int32) (an : Nat → Int32) (k : Int32) (w : Int32) (r : Int32) (hF : fX2_trait co ti an k w = r) : Met l yX2_trait wsX2_trait ({ frames := 1, cells := 0, slots := 0, locals := 21 }) (kx_rp (dC, dI) [(h, .inr (2, [.ref a0, .ref a1, .ref a2, .int (nI n), .int ea])), (a0, .inl (cyI, 24, .inl co)), (a1, .inl (cyI, 24, .inl ti)), (a2, .inl (cyI, 24, .inl an))] [(cyI, .int), (cyZ, .boolean)] [.ref h, .int k, .int w]) (k2_QcV (.int r)) 0 0 (fun _ => False) := by
  refine Met.ofW (cc := cX2_trait) (maxL := 4) (ret := (some .int)) (by decide) rfl ?_
  intro p e s m args below meth c s₁ B hml hv
  obtain ⟨rfl, hP, hK, hN⟩ := hv
  have hx := B.exec
  have hb := B.bytes
  have hr := B.returns
  have hts := atoms_spec (ws := wsX2_trait) B.pre
  have hown : s.vm.findClass RX2 = some m.cls := findClass_of_methodNamed B.named
  have hlocks := B.notSynchronized
  have hiX2 : ∀ w ∈ wsX20, w ∈ wsX2_trait := by decide +kernel
  have fl9 := hts (.fieldLink RX2 9 "KnitChronicle$Scarf" "colours" "[I") (by decide +kernel)
  have fl15 := hts (.fieldLink RX2 15 "KnitChronicle$Scarf" "tightnesses" "[I") (by decide +kernel)
  have fl18 := hts (.fieldLink RX2 18 "KnitChronicle$Scarf" "anchors" "[I") (by decide +kernel)
  have hl := lv_entry ([.ref h, .int k, .int w]) (n := 4) (Nat.le_of_ble_eq_true rfl)
  rw [lg_entry_eq]
  generalize (lg_sl ([.ref h, .int k, .int w]) ++ List.replicate (4 - (lg_sl ([.ref h, .int k, .int w])).length) Slot.unset).toArray = ls at hl ⊢
  have hl : lv_has ls 4 [(0, .ref h), (1, .int k), (2, .int w)] := hl
  unfold fX2_trait at hF
  refine lv_iload_n hx hb dX2_trait_0 rfl (lv_at hl 2 rfl) ?_
  by_cases c1_0 : w = (0 : Int32)
  · rw [if_pos c1_0] at hF
    refine lv_lookup (tgt := 28) (off := 27) hx hb dX2_trait_1 (by decide) (by rw [c1_0]; rfl) (by decide) ?_
    refine lv_aload_n hx hb dX2_trait_28 rfl (lv_at hl 0 rfl) ?_
    refine va_get (D := (dC, dI)) (ci := 2) (v := .ref a0) (C := RX2) (T := TX2) (N := 5) hx hb hts hiX2 hown hK hP 0 rfl rfl 0 (by decide) fl9 (fun _ h9 => h9) rfl dX2_trait_29 ?_
    refine lv_iload_n hx hb dX2_trait_32 rfl (lv_at hl 1 rfl) ?_
    refine kx_cSN (As := [.ref a0, .int k]) (rest := []) ⟨hx, hb, hml, hown, hts⟩ (c_X5_at l dC dI cyI cyZ a0 co 24 k (by omega) _ rfl) ⟨va_cnB 2 hts gX2_trait_X5_at_n35 rfl rfl rfl (hN (RX2, 35, yX5_at, RX5) (List.mem_of_getElem? (i := 12) rfl)) (hts (.initialized RX5) (by decide +kernel)) (by decide +kernel) ⟨Nat.le_of_ble_eq_true rfl, Nat.le_of_ble_eq_true rfl⟩, hts (.static yX5_at) (by decide +kernel), trivial⟩ hP hK hN [1] rfl [0, 1] rfl rfl hl.1 rfl (Nat.le_of_ble_eq_true rfl) dX2_trait_33 ⟨Nat.zero_le _, Nat.zero_le _⟩ ?_
    exact W.iret hx hb hr (fun t ht _ => ⟨congrArg (fun z => Outcome.returned (some (Value.int z))) hF, ht⟩) (fun _ h => absurd h List.not_mem_nil) dX2_trait_36
  · rw [if_neg c1_0] at hF
    by_cases c1_1 : w = (1 : Int32)
    · rw [if_pos c1_1] at hF
      refine lv_lookup (tgt := 37) (off := 36) hx hb dX2_trait_1 (by decide) (by rw [c1_1]; rfl) (by decide) ?_
      refine lv_aload_n hx hb dX2_trait_37 rfl (lv_at hl 0 rfl) ?_
      refine va_get (D := (dC, dI)) (ci := 2) (v := .ref a1) (C := RX2) (T := TX2) (N := 5) hx hb hts hiX2 hown hK hP 0 rfl rfl 1 (by decide) fl15 (fun _ h9 => h9) rfl dX2_trait_38 ?_
      refine lv_iload_n hx hb dX2_trait_41 rfl (lv_at hl 1 rfl) ?_
      refine kx_cSN (As := [.ref a1, .int k]) (rest := []) ⟨hx, hb, hml, hown, hts⟩ (c_X5_at l dC dI cyI cyZ a1 ti 24 k (by omega) _ rfl) ⟨va_cnB 2 hts gX2_trait_X5_at_n35 rfl rfl rfl (hN (RX2, 35, yX5_at, RX5) (List.mem_of_getElem? (i := 12) rfl)) (hts (.initialized RX5) (by decide +kernel)) (by decide +kernel) ⟨Nat.le_of_ble_eq_true rfl, Nat.le_of_ble_eq_true rfl⟩, hts (.static yX5_at) (by decide +kernel), trivial⟩ hP hK hN [2] rfl [0, 1] rfl rfl hl.1 rfl (Nat.le_of_ble_eq_true rfl) dX2_trait_42 ⟨Nat.zero_le _, Nat.zero_le _⟩ ?_
      exact W.iret hx hb hr (fun t ht _ => ⟨congrArg (fun z => Outcome.returned (some (Value.int z))) hF, ht⟩) (fun _ h => absurd h List.not_mem_nil) dX2_trait_45
    · rw [if_neg c1_1] at hF
      refine lv_lookup (tgt := 46) (off := 45) hx hb dX2_trait_1 (by decide) (by rw [lv_osw (a := 0) c1_0 rfl, lv_osw (a := 1) c1_1 rfl]; rfl) (by decide) ?_
      refine lv_aload_n hx hb dX2_trait_46 rfl (lv_at hl 0 rfl) ?_
      refine va_get (D := (dC, dI)) (ci := 2) (v := .ref a2) (C := RX2) (T := TX2) (N := 5) hx hb hts hiX2 hown hK hP 0 rfl rfl 2 (by decide) fl18 (fun _ h9 => h9) rfl dX2_trait_47 ?_
      refine lv_iload_n hx hb dX2_trait_50 rfl (lv_at hl 1 rfl) ?_
      refine kx_cSN (As := [.ref a2, .int k]) (rest := []) ⟨hx, hb, hml, hown, hts⟩ (c_X5_at l dC dI cyI cyZ a2 an 24 k (by omega) _ rfl) ⟨va_cnB 2 hts gX2_trait_X5_at_n35 rfl rfl rfl (hN (RX2, 35, yX5_at, RX5) (List.mem_of_getElem? (i := 12) rfl)) (hts (.initialized RX5) (by decide +kernel)) (by decide +kernel) ⟨Nat.le_of_ble_eq_true rfl, Nat.le_of_ble_eq_true rfl⟩, hts (.static yX5_at) (by decide +kernel), trivial⟩ hP hK hN [3] rfl [0, 1] rfl rfl hl.1 rfl (Nat.le_of_ble_eq_true rfl) dX2_trait_51 ⟨Nat.zero_le _, Nat.zero_le _⟩ ?_
      refine lv_istore_n (lv' := [(3, .int (fX5_at an 24 k)), (0, .ref h), (1, .int k), (2, .int w)]) hx hb dX2_trait_54 rfl hl (by decide) rfl (fun ls hl => ?_)
      refine lv_iload_n hx hb dX2_trait_55 rfl (lv_at hl 0 rfl) ?_
      refine lv_iconst (v := (-1 : Int32)) hx hb dX2_trait_56 (by decide) ?_
      refine lv_icmp_ne (tgt := 65) hx hb dX2_trait_57 (by decide) (fun c57 => ?_) (fun c57 => ?_)
      · rw [if_neg c57] at hF
        refine lv_iload_n hx hb dX2_trait_65 rfl (lv_at hl 0 rfl) ?_
        exact W.iret hx hb hr (fun t ht _ => ⟨congrArg (fun z => Outcome.returned (some (Value.int z))) hF, ht⟩) (fun _ h => absurd h List.not_mem_nil) dX2_trait_66
      · rw [if_pos c57] at hF
        refine lv_bipush (v := (-6 : Int32)) hx hb dX2_trait_60 (by decide) ?_
        refine lv_goto (tgt := 66) hx hb dX2_trait_62 (by decide) ?_
        exact W.iret hx hb hr (fun t ht _ => ⟨congrArg (fun z => Outcome.returned (some (Value.int z))) hF, ht⟩) (fun _ h => absurd h List.not_mem_nil) dX2_trait_66

def fX2_clear  : Nat × Int32 :=
  (0, (0 : Int32))
set_option maxHeartbeats 4000000 in
set_option maxRecDepth 100000 in
theorem c_X2_clear (l : Launch) (dC : Nat → ClassId) (dI : Nat → Nat → Nat) (cyI cyZ : ClassId) (h a0 a1 a2 : Nat) (n : Nat) (ea : Int32) (co : Nat → Int32) (ti : Nat → Int32) (an : Nat → Int32) (sz : Nat) (r : Nat × Int32) (hF : fX2_clear = r) : Met l yX2_clear wsX2_clear ({ frames := 0, cells := 0, slots := 0, locals := 0 }) (kx_wp (dC, dI) [(h, .inr (2, [.ref a0, .ref a1, .ref a2, .int (nI n), .int ea])), (a0, .inl (cyI, 24, .inl co)), (a1, .inl (cyI, 24, .inl ti)), (a2, .inl (cyI, 24, .inl an))] [(cyI, .int), (cyZ, .boolean)] sz [.ref h]) (kx_Qv (dC, dI) [(h, .inr (2, [.ref a0, .ref a1, .ref a2, .int (nI n), .int ea])), (a0, .inl (cyI, 24, .inl co)), (a1, .inl (cyI, 24, .inl ti)), (a2, .inl (cyI, 24, .inl an))] [(h, .inr (2, [.ref a0, .ref a1, .ref a2, .int (nI (r.1)), .int r.2])), (a0, .inl (cyI, 24, .inl co)), (a1, .inl (cyI, 24, .inl ti)), (a2, .inl (cyI, 24, .inl an))] sz) 0 0 (va_A [(h, .inr (2, [.ref a0, .ref a1, .ref a2, .int (nI n), .int ea])), (a0, .inl (cyI, 24, .inl co)), (a1, .inl (cyI, 24, .inl ti)), (a2, .inl (cyI, 24, .inl an))] sz) := by
  refine Met.ofW (cc := cX2_clear) (maxL := 1) (ret := none) (by decide) rfl ?_
  intro p e s m args below meth c s₁ B hml hv
  obtain ⟨rfl, hsz, hP, hK, hN, hD0⟩ := hv
  have hx := B.exec
  have hb := B.bytes
  have hr := B.returns
  have hts := atoms_spec (ws := wsX2_clear) B.pre
  have hown : s.vm.findClass RX2 = some m.cls := findClass_of_methodNamed B.named
  have hlocks := B.notSynchronized
  subst hsz
  obtain ⟨A, hAe⟩ : ∃ A, A = va_A [(h, .inr (2, [.ref a0, .ref a1, .ref a2, .int (nI n), .int ea])), (a0, .inl (cyI, 24, .inl co)), (a1, .inl (cyI, 24, .inl ti)), (a2, .inl (cyI, 24, .inl an))] s.heap.size := ⟨_, rfl⟩
  have hD : va_D A [(h, .inr (2, [.ref a0, .ref a1, .ref a2, .int (nI n), .int ea])), (a0, .inl (cyI, 24, .inl co)), (a1, .inl (cyI, 24, .inl ti)), (a2, .inl (cyI, 24, .inl an))] := by rw [hAe]; exact hD0.self
  have hA : ∀ q : Nat, s.heap.size ≤ q → A q := fun q h => by rw [hAe]; exact Or.inr h
  have hS : va_S A s.heap s.heap [] := va_S.rf
  have hiX2 : ∀ w ∈ wsX20, w ∈ wsX2_clear := by decide +kernel
  have fl21 := hts (.fieldLink RX2 21 "KnitChronicle$Scarf" "size" "I") (by decide +kernel)
  have fl29 := hts (.fieldLink RX2 29 "KnitChronicle$Scarf" "eaten" "I") (by decide +kernel)
  have hl := lv_entry ([.ref h]) (n := 1) (Nat.le_of_ble_eq_true rfl)
  rw [lg_entry_eq]
  generalize (lg_sl ([.ref h]) ++ List.replicate (1 - (lg_sl ([.ref h])).length) Slot.unset).toArray = ls at hl ⊢
  have hl : lv_has ls 1 [(0, .ref h)] := hl
  unfold fX2_clear at hF
  refine lv_aload_n hx hb dX2_clear_0 rfl (lv_at hl 0 rfl) ?_
  refine lv_iconst (v := (0 : Int32)) hx hb dX2_clear_1 (by decide) ?_
  refine va_put (D := (dC, dI)) (ci := 2) (v := .int (0 : Int32)) (ty := .int) (C := RX2) (T := TX2) (N := 5) hx hb hts hiX2 tyX2 tyX2_ok nmX2 hown hK hP hD hS 0 rfl rfl 3 (by decide) fl21 (fun _ h9 => h9) rfl (by decide +kernel) rfl rfl (Nat.le_of_ble_eq_true rfl) dX2_clear_2 (fun H locs hP hD hS => ?_)
  have hP : va_P (dC, dI) vwCl [(h, .inr (2, [.ref a0, .ref a1, .ref a2, .int (0 : Int32), .int ea])), (a0, .inl (cyI, 24, .inl co)), (a1, .inl (cyI, 24, .inl ti)), (a2, .inl (cyI, 24, .inl an))] H := hP
  have hD : va_D A [(h, .inr (2, [.ref a0, .ref a1, .ref a2, .int (0 : Int32), .int ea])), (a0, .inl (cyI, 24, .inl co)), (a1, .inl (cyI, 24, .inl ti)), (a2, .inl (cyI, 24, .inl an))] := hD
  refine lv_aload_n hx hb dX2_clear_5 rfl (lv_at hl 0 rfl) ?_
  refine lv_iconst (v := (0 : Int32)) hx hb dX2_clear_6 (by decide) ?_
  refine va_put (D := (dC, dI)) (ci := 2) (v := .int (0 : Int32)) (ty := .int) (C := RX2) (T := TX2) (N := 5) hx hb hts hiX2 tyX2 tyX2_ok nmX2 hown hK hP hD hS 0 rfl rfl 4 (by decide) fl29 (fun _ h9 => h9) rfl (by decide +kernel) rfl rfl (Nat.le_of_ble_eq_true rfl) dX2_clear_7 (fun H locs hP hD hS => ?_)
  have hP : va_P (dC, dI) vwCl [(h, .inr (2, [.ref a0, .ref a1, .ref a2, .int (0 : Int32), .int (0 : Int32)])), (a0, .inl (cyI, 24, .inl co)), (a1, .inl (cyI, 24, .inl ti)), (a2, .inl (cyI, 24, .inl an))] H := hP
  have hD : va_D A [(h, .inr (2, [.ref a0, .ref a1, .ref a2, .int (0 : Int32), .int (0 : Int32)])), (a0, .inl (cyI, 24, .inl co)), (a1, .inl (cyI, 24, .inl ti)), (a2, .inl (cyI, 24, .inl an))] := hD
  subst hF
  subst hAe
  exact W.vret hx hb hr (fun t ht _ => ⟨⟨(), rfl, trivial, by rw [ht]; exact hP, hD⟩, hS.F ht⟩) hS.2.2 dX2_clear_10

def fX2_copy_L18 (co2 : Nat → Int32) (ti2 : Nat → Int32) (an2 : Nat → Int32) : Nat → Nat → (Nat → Int32) → (Nat → Int32) → (Nat → Int32) → (Nat → Int32) × (Nat → Int32) × (Nat → Int32)
  | 0, _, gc, gt, ga => (gc, gt, ga)
  | r18 + 1, j18, gc, gt, ga => ((fun (q39 : Nat → Int32) => ((fun (q55 : Nat → Int32) => ((fun (q71 : Nat → Int32) => (fX2_copy_L18 co2 ti2 an2 r18 (j18 + 1) q39 q55 q71)) (fX5_put ga 24 (nI j18) (fX5_at an2 24 (nI j18))))) (fX5_put gt 24 (nI j18) (fX5_at ti2 24 (nI j18))))) (fX5_put gc 24 (nI j18) (fX5_at co2 24 (nI j18))))
def fX2_copy (co : Nat → Int32) (ti : Nat → Int32) (an : Nat → Int32) (n2 : Nat) (ea2 : Int32) (co2 : Nat → Int32) (ti2 : Nat → Int32) (an2 : Nat → Int32) : (Nat → Int32) × (Nat → Int32) × (Nat → Int32) × Nat × Int32 :=
  (match fX2_copy_L18 co2 ti2 an2 n2 0 co ti an with | (gc, gt, ga) => (gc, gt, ga, n2, ea2))
set_option maxHeartbeats 4000000 in
set_option maxRecDepth 100000 in
theorem c_X2_copy (l : Launch) (dC : Nat → ClassId) (dI : Nat → Nat → Nat) (cyI cyZ : ClassId) (h a0 a1 a2 g b0 b1 b2 : Nat) (n : Nat) (ea : Int32) (co : Nat → Int32) (ti : Nat → Int32) (an : Nat → Int32) (n2 : Nat) (ea2 : Int32) (co2 : Nat → Int32) (ti2 : Nat → Int32) (an2 : Nat → Int32) (hn2 : n2 ≤ 1000) (sz : Nat) (r : (Nat → Int32) × (Nat → Int32) × (Nat → Int32) × Nat × Int32) (hF : fX2_copy co ti an n2 ea2 co2 ti2 an2 = r) : Met l yX2_copy wsX2_copy ({ frames := 1, cells := 0, slots := 0, locals := 22 }) (kx_wp (dC, dI) [(h, .inr (2, [.ref a0, .ref a1, .ref a2, .int (nI n), .int ea])), (a0, .inl (cyI, 24, .inl co)), (a1, .inl (cyI, 24, .inl ti)), (a2, .inl (cyI, 24, .inl an)), (g, .inr (2, [.ref b0, .ref b1, .ref b2, .int (nI n2), .int ea2])), (b0, .inl (cyI, 24, .inl co2)), (b1, .inl (cyI, 24, .inl ti2)), (b2, .inl (cyI, 24, .inl an2))] [(cyI, .int), (cyZ, .boolean)] sz [.ref h, .ref g]) (kx_Qv (dC, dI) [(h, .inr (2, [.ref a0, .ref a1, .ref a2, .int (nI n), .int ea])), (a0, .inl (cyI, 24, .inl co)), (a1, .inl (cyI, 24, .inl ti)), (a2, .inl (cyI, 24, .inl an)), (g, .inr (2, [.ref b0, .ref b1, .ref b2, .int (nI n2), .int ea2])), (b0, .inl (cyI, 24, .inl co2)), (b1, .inl (cyI, 24, .inl ti2)), (b2, .inl (cyI, 24, .inl an2))] [(h, .inr (2, [.ref a0, .ref a1, .ref a2, .int (nI (r.2.2.2.1)), .int r.2.2.2.2])), (a0, .inl (cyI, 24, .inl r.1)), (a1, .inl (cyI, 24, .inl r.2.1)), (a2, .inl (cyI, 24, .inl r.2.2.1)), (g, .inr (2, [.ref b0, .ref b1, .ref b2, .int (nI n2), .int ea2])), (b0, .inl (cyI, 24, .inl co2)), (b1, .inl (cyI, 24, .inl ti2)), (b2, .inl (cyI, 24, .inl an2))] sz) 0 0 (va_A [(h, .inr (2, [.ref a0, .ref a1, .ref a2, .int (nI n), .int ea])), (a0, .inl (cyI, 24, .inl co)), (a1, .inl (cyI, 24, .inl ti)), (a2, .inl (cyI, 24, .inl an)), (g, .inr (2, [.ref b0, .ref b1, .ref b2, .int (nI n2), .int ea2])), (b0, .inl (cyI, 24, .inl co2)), (b1, .inl (cyI, 24, .inl ti2)), (b2, .inl (cyI, 24, .inl an2))] sz) := by
  refine Met.ofW (cc := cX2_copy) (maxL := 3) (ret := none) (by decide) rfl ?_
  intro p e s m args below meth c s₁ B hml hv
  obtain ⟨rfl, hsz, hP, hK, hN, hD0⟩ := hv
  have hx := B.exec
  have hb := B.bytes
  have hr := B.returns
  have hts := atoms_spec (ws := wsX2_copy) B.pre
  have hown : s.vm.findClass RX2 = some m.cls := findClass_of_methodNamed B.named
  have hlocks := B.notSynchronized
  subst hsz
  obtain ⟨A, hAe⟩ : ∃ A, A = va_A [(h, .inr (2, [.ref a0, .ref a1, .ref a2, .int (nI n), .int ea])), (a0, .inl (cyI, 24, .inl co)), (a1, .inl (cyI, 24, .inl ti)), (a2, .inl (cyI, 24, .inl an)), (g, .inr (2, [.ref b0, .ref b1, .ref b2, .int (nI n2), .int ea2])), (b0, .inl (cyI, 24, .inl co2)), (b1, .inl (cyI, 24, .inl ti2)), (b2, .inl (cyI, 24, .inl an2))] s.heap.size := ⟨_, rfl⟩
  have hD : va_D A [(h, .inr (2, [.ref a0, .ref a1, .ref a2, .int (nI n), .int ea])), (a0, .inl (cyI, 24, .inl co)), (a1, .inl (cyI, 24, .inl ti)), (a2, .inl (cyI, 24, .inl an)), (g, .inr (2, [.ref b0, .ref b1, .ref b2, .int (nI n2), .int ea2])), (b0, .inl (cyI, 24, .inl co2)), (b1, .inl (cyI, 24, .inl ti2)), (b2, .inl (cyI, 24, .inl an2))] := by rw [hAe]; exact hD0.self
  have hA : ∀ q : Nat, s.heap.size ≤ q → A q := fun q h => by rw [hAe]; exact Or.inr h
  have hS : va_S A s.heap s.heap [] := va_S.rf
  have hiX2 : ∀ w ∈ wsX20, w ∈ wsX2_copy := by decide +kernel
  have fl9 := hts (.fieldLink RX2 9 "KnitChronicle$Scarf" "colours" "[I") (by decide +kernel)
  have fl15 := hts (.fieldLink RX2 15 "KnitChronicle$Scarf" "tightnesses" "[I") (by decide +kernel)
  have fl18 := hts (.fieldLink RX2 18 "KnitChronicle$Scarf" "anchors" "[I") (by decide +kernel)
  have fl21 := hts (.fieldLink RX2 21 "KnitChronicle$Scarf" "size" "I") (by decide +kernel)
  have fl29 := hts (.fieldLink RX2 29 "KnitChronicle$Scarf" "eaten" "I") (by decide +kernel)
  have hl := lv_entry ([.ref h, .ref g]) (n := 3) (Nat.le_of_ble_eq_true rfl)
  rw [lg_entry_eq]
  generalize (lg_sl ([.ref h, .ref g]) ++ List.replicate (3 - (lg_sl ([.ref h, .ref g])).length) Slot.unset).toArray = ls at hl ⊢
  have hl : lv_has ls 3 [(0, .ref h), (1, .ref g)] := hl
  unfold fX2_copy at hF
  refine lv_aload_n hx hb dX2_copy_0 rfl (lv_at hl 0 rfl) ?_
  refine lv_aload_n hx hb dX2_copy_1 rfl (lv_at hl 1 rfl) ?_
  refine va_get (D := (dC, dI)) (ci := 2) (v := .int (nI n2)) (C := RX2) (T := TX2) (N := 5) hx hb hts hiX2 hown hK hP 4 rfl rfl 3 (by decide) fl21 (fun _ h9 => h9) rfl dX2_copy_2 ?_
  refine va_put (D := (dC, dI)) (ci := 2) (v := .int (nI n2)) (ty := .int) (C := RX2) (T := TX2) (N := 5) hx hb hts hiX2 tyX2 tyX2_ok nmX2 hown hK hP hD hS 0 rfl rfl 3 (by decide) fl21 (fun _ h9 => h9) rfl (by decide +kernel) rfl rfl (Nat.le_of_ble_eq_true rfl) dX2_copy_5 (fun H locs hP hD hS => ?_)
  have hP : va_P (dC, dI) vwCl [(h, .inr (2, [.ref a0, .ref a1, .ref a2, .int (nI n2), .int ea])), (a0, .inl (cyI, 24, .inl co)), (a1, .inl (cyI, 24, .inl ti)), (a2, .inl (cyI, 24, .inl an)), (g, .inr (2, [.ref b0, .ref b1, .ref b2, .int (nI n2), .int ea2])), (b0, .inl (cyI, 24, .inl co2)), (b1, .inl (cyI, 24, .inl ti2)), (b2, .inl (cyI, 24, .inl an2))] H := hP
  have hD : va_D A [(h, .inr (2, [.ref a0, .ref a1, .ref a2, .int (nI n2), .int ea])), (a0, .inl (cyI, 24, .inl co)), (a1, .inl (cyI, 24, .inl ti)), (a2, .inl (cyI, 24, .inl an)), (g, .inr (2, [.ref b0, .ref b1, .ref b2, .int (nI n2), .int ea2])), (b0, .inl (cyI, 24, .inl co2)), (b1, .inl (cyI, 24, .inl ti2)), (b2, .inl (cyI, 24, .inl an2))] := hD
  refine lv_aload_n hx hb dX2_copy_8 rfl (lv_at hl 0 rfl) ?_
  refine lv_aload_n hx hb dX2_copy_9 rfl (lv_at hl 1 rfl) ?_
  refine va_get (D := (dC, dI)) (ci := 2) (v := .int ea2) (C := RX2) (T := TX2) (N := 5) hx hb hts hiX2 hown hK hP 4 rfl rfl 4 (by decide) fl29 (fun _ h9 => h9) rfl dX2_copy_10 ?_
  refine va_put (D := (dC, dI)) (ci := 2) (v := .int ea2) (ty := .int) (C := RX2) (T := TX2) (N := 5) hx hb hts hiX2 tyX2 tyX2_ok nmX2 hown hK hP hD hS 0 rfl rfl 4 (by decide) fl29 (fun _ h9 => h9) rfl (by decide +kernel) rfl rfl (Nat.le_of_ble_eq_true rfl) dX2_copy_13 (fun H locs hP hD hS => ?_)
  have hP : va_P (dC, dI) vwCl [(h, .inr (2, [.ref a0, .ref a1, .ref a2, .int (nI n2), .int ea2])), (a0, .inl (cyI, 24, .inl co)), (a1, .inl (cyI, 24, .inl ti)), (a2, .inl (cyI, 24, .inl an)), (g, .inr (2, [.ref b0, .ref b1, .ref b2, .int (nI n2), .int ea2])), (b0, .inl (cyI, 24, .inl co2)), (b1, .inl (cyI, 24, .inl ti2)), (b2, .inl (cyI, 24, .inl an2))] H := hP
  have hD : va_D A [(h, .inr (2, [.ref a0, .ref a1, .ref a2, .int (nI n2), .int ea2])), (a0, .inl (cyI, 24, .inl co)), (a1, .inl (cyI, 24, .inl ti)), (a2, .inl (cyI, 24, .inl an)), (g, .inr (2, [.ref b0, .ref b1, .ref b2, .int (nI n2), .int ea2])), (b0, .inl (cyI, 24, .inl co2)), (b1, .inl (cyI, 24, .inl ti2)), (b2, .inl (cyI, 24, .inl an2))] := hD
  refine lv_iconst (v := (0 : Int32)) hx hb dX2_copy_16 (by decide) ?_
  refine lv_istore_n (lv' := [(2, .int (0 : Int32)), (0, .ref h), (1, .ref g)]) hx hb dX2_copy_17 rfl hl (by decide) rfl (fun ls hl => ?_)
  generalize hz18 : fX2_copy_L18 co2 ti2 an2 n2 0 co ti an = z18 at hF
  have LP18 : ∀ (r18 : Nat) (j18 : Nat) (gc : Nat → Int32) (gt : Nat → Int32) (ga : Nat → Int32), r18 + j18 = n2 → fX2_copy_L18 co2 ti2 an2 r18 j18 gc gt ga = z18 → ∀ (H : Heap) (locs : List Loc), va_P (dC, dI) vwCl [(h, .inr (2, [.ref a0, .ref a1, .ref a2, .int (nI n2), .int ea2])), (a0, .inl (cyI, 24, .inl gc)), (a1, .inl (cyI, 24, .inl gt)), (a2, .inl (cyI, 24, .inl ga)), (g, .inr (2, [.ref b0, .ref b1, .ref b2, .int (nI n2), .int ea2])), (b0, .inl (cyI, 24, .inl co2)), (b1, .inl (cyI, 24, .inl ti2)), (b2, .inl (cyI, 24, .inl an2))] H → va_D A [(h, .inr (2, [.ref a0, .ref a1, .ref a2, .int (nI n2), .int ea2])), (a0, .inl (cyI, 24, .inl gc)), (a1, .inl (cyI, 24, .inl gt)), (a2, .inl (cyI, 24, .inl ga)), (g, .inr (2, [.ref b0, .ref b1, .ref b2, .int (nI n2), .int ea2])), (b0, .inl (cyI, 24, .inl co2)), (b1, .inl (cyI, 24, .inl ti2)), (b2, .inl (cyI, 24, .inl an2))] → va_S A s.heap H locs → ∀ (ls : Array Slot), lv_has ls 3 [(2, .int (nI j18)), (0, .ref h), (1, .ref g)] → W p l e (headSpec wsX2_copy ({ frames := 1, cells := 0, slots := 0, locals := 22 } : Room)).room s m ([.ref h, .ref g] : List Value).toArray below meth c H locs 0 0 (MQ below (kx_Qv (dC, dI) [(h, .inr (2, [.ref a0, .ref a1, .ref a2, .int (nI n), .int ea])), (a0, .inl (cyI, 24, .inl co)), (a1, .inl (cyI, 24, .inl ti)), (a2, .inl (cyI, 24, .inl an)), (g, .inr (2, [.ref b0, .ref b1, .ref b2, .int (nI n2), .int ea2])), (b0, .inl (cyI, 24, .inl co2)), (b1, .inl (cyI, 24, .inl ti2)), (b2, .inl (cyI, 24, .inl an2))] [(h, .inr (2, [.ref a0, .ref a1, .ref a2, .int (nI (r.2.2.2.1)), .int r.2.2.2.2])), (a0, .inl (cyI, 24, .inl r.1)), (a1, .inl (cyI, 24, .inl r.2.1)), (a2, .inl (cyI, 24, .inl r.2.2.1)), (g, .inr (2, [.ref b0, .ref b1, .ref b2, .int (nI n2), .int ea2])), (b0, .inl (cyI, 24, .inl co2)), (b1, .inl (cyI, 24, .inl ti2)), (b2, .inl (cyI, 24, .inl an2))] s.heap.size) ([.ref h, .ref g] : List Value).toArray s 0 0 (va_A [(h, .inr (2, [.ref a0, .ref a1, .ref a2, .int (nI n), .int ea])), (a0, .inl (cyI, 24, .inl co)), (a1, .inl (cyI, 24, .inl ti)), (a2, .inl (cyI, 24, .inl an)), (g, .inr (2, [.ref b0, .ref b1, .ref b2, .int (nI n2), .int ea2])), (b0, .inl (cyI, 24, .inl co2)), (b1, .inl (cyI, 24, .inl ti2)), (b2, .inl (cyI, 24, .inl an2))] s.heap.size)) (F0 m 18 ls []) := by
    intro r18
    induction r18 with
    | zero =>
      intro j18 gc gt ga hrj hz18 H locs hP hD hS ls hl
      rw [fX2_copy_L18] at hz18
      subst hz18
      dsimp only at hF
      refine lv_iload_n hx hb dX2_copy_18 rfl (lv_at hl 0 rfl) ?_
      refine lv_aload_n hx hb dX2_copy_19 rfl (lv_at hl 1 rfl) ?_
      refine va_get (D := (dC, dI)) (ci := 2) (v := .int (nI n2)) (C := RX2) (T := TX2) (N := 5) hx hb hts hiX2 hown hK hP 0 rfl rfl 3 (by decide) fl21 (fun _ h9 => h9) rfl dX2_copy_20 ?_
      refine kx_ge hx hb (j18) (n2) rfl rfl (by omega) (by omega) dX2_copy_23 (by decide) (tgt := 80) (fun c23 => ?_) (fun c23 => absurd c23 (by omega))
      subst hF
      subst hAe
      exact W.vret hx hb hr (fun t ht _ => ⟨⟨(), rfl, trivial, by rw [ht]; exact hP, hD⟩, hS.F ht⟩) hS.2.2 dX2_copy_80
    | succ r18 ih =>
      intro j18 gc gt ga hrj hz18 H locs hP hD hS ls hl
      rw [fX2_copy_L18] at hz18
      refine lv_iload_n hx hb dX2_copy_18 rfl (lv_at hl 0 rfl) ?_
      refine lv_aload_n hx hb dX2_copy_19 rfl (lv_at hl 1 rfl) ?_
      refine va_get (D := (dC, dI)) (ci := 2) (v := .int (nI n2)) (C := RX2) (T := TX2) (N := 5) hx hb hts hiX2 hown hK hP 0 rfl rfl 3 (by decide) fl21 (fun _ h9 => h9) rfl dX2_copy_20 ?_
      refine kx_ge hx hb (j18) (n2) rfl rfl (by omega) (by omega) dX2_copy_23 (by decide) (tgt := 80) (fun c23 => absurd c23 (by omega)) (fun c23 => ?_)
      refine lv_aload_n hx hb dX2_copy_26 rfl (lv_at hl 1 rfl) ?_
      refine va_get (D := (dC, dI)) (ci := 2) (v := .ref a0) (C := RX2) (T := TX2) (N := 5) hx hb hts hiX2 hown hK hP 0 rfl rfl 0 (by decide) fl9 (fun _ h9 => h9) rfl dX2_copy_27 ?_
      refine lv_iload_n hx hb dX2_copy_30 rfl (lv_at hl 0 rfl) ?_
      refine lv_aload_n hx hb dX2_copy_31 rfl (lv_at hl 2 rfl) ?_
      refine va_get (D := (dC, dI)) (ci := 2) (v := .ref b0) (C := RX2) (T := TX2) (N := 5) hx hb hts hiX2 hown hK hP 4 rfl rfl 0 (by decide) fl9 (fun _ h9 => h9) rfl dX2_copy_32 ?_
      refine lv_iload_n hx hb dX2_copy_35 rfl (lv_at hl 0 rfl) ?_
      refine kx_cSN (As := [.ref b0, .int (nI j18)]) (rest := [.int (nI j18), .ref a0]) ⟨hx, hb, hml, hown, hts⟩ (c_X5_at l dC dI cyI cyZ b0 co2 24 (nI j18) (by omega) _ rfl) ⟨va_cnB 2 hts gX2_copy_X5_at_n35 rfl rfl rfl (hN (RX2, 35, yX5_at, RX5) (List.mem_of_getElem? (i := 12) rfl)) (hts (.initialized RX5) (by decide +kernel)) (by decide +kernel) ⟨Nat.le_of_ble_eq_true rfl, Nat.le_of_ble_eq_true rfl⟩, hts (.static yX5_at) (by decide +kernel), trivial⟩ hP hK hN [5] rfl [0, 1] rfl rfl hl.1 rfl (Nat.le_of_ble_eq_true rfl) dX2_copy_36 ⟨Nat.zero_le _, Nat.zero_le _⟩ ?_
      generalize hq39 : fX5_put gc 24 (nI j18) (fX5_at co2 24 (nI j18)) = q39 at hz18
      try dsimp only at hz18
      refine kx_wSNv (As := [.ref a0, .int (nI j18), .int (fX5_at co2 24 (nI j18))]) (rest := []) (wr := [(h, .inr (2, [.ref a0, .ref a1, .ref a2, .int (nI n2), .int ea2])), (a1, .inl (cyI, 24, .inl gt)), (a2, .inl (cyI, 24, .inl ga)), (g, .inr (2, [.ref b0, .ref b1, .ref b2, .int (nI n2), .int ea2])), (b0, .inl (cyI, 24, .inl co2)), (b1, .inl (cyI, 24, .inl ti2)), (b2, .inl (cyI, 24, .inl an2))]) (wc' := [(a0, .inl (cyI, 24, .inl q39))]) (W1 := [(h, .inr (2, [.ref a0, .ref a1, .ref a2, .int (nI n2), .int ea2])), (a0, .inl (cyI, 24, .inl q39)), (a1, .inl (cyI, 24, .inl gt)), (a2, .inl (cyI, 24, .inl ga)), (g, .inr (2, [.ref b0, .ref b1, .ref b2, .int (nI n2), .int ea2])), (b0, .inl (cyI, 24, .inl co2)), (b1, .inl (cyI, 24, .inl ti2)), (b2, .inl (cyI, 24, .inl an2))]) ⟨hx, hb, hml, hown, hts⟩ (c_X5_put l dC dI cyI cyZ a0 gc 24 (nI j18) (fX5_at co2 24 (nI j18)) (by omega) _ _ hq39) ⟨va_cnB 3 hts gX2_copy_X5_put_n39 rfl rfl rfl (hN (RX2, 39, yX5_put, RX5) (List.mem_of_getElem? (i := 7) rfl)) (hts (.initialized RX5) (by decide +kernel)) (by decide +kernel) ⟨Nat.le_of_ble_eq_true rfl, Nat.le_of_ble_eq_true rfl⟩, hts (.static yX5_put) (by decide +kernel), trivial⟩ hP hD hS hA hK hN [1] [0, 2, 3, 4, 5, 6, 7] [0, 7, 1, 2, 3, 4, 5, 6] rfl (by decide) rfl (by decide) (by decide) (by decide) rfl [0, 1] rfl rfl hl.1 rfl (Nat.le_of_ble_eq_true rfl) dX2_copy_39 ⟨Nat.zero_le _, Nat.zero_le _⟩ (fun H locs hP hD hS => ?_)
      refine lv_aload_n hx hb dX2_copy_42 rfl (lv_at hl 1 rfl) ?_
      refine va_get (D := (dC, dI)) (ci := 2) (v := .ref a1) (C := RX2) (T := TX2) (N := 5) hx hb hts hiX2 hown hK hP 0 rfl rfl 1 (by decide) fl15 (fun _ h9 => h9) rfl dX2_copy_43 ?_
      refine lv_iload_n hx hb dX2_copy_46 rfl (lv_at hl 0 rfl) ?_
      refine lv_aload_n hx hb dX2_copy_47 rfl (lv_at hl 2 rfl) ?_
      refine va_get (D := (dC, dI)) (ci := 2) (v := .ref b1) (C := RX2) (T := TX2) (N := 5) hx hb hts hiX2 hown hK hP 4 rfl rfl 1 (by decide) fl15 (fun _ h9 => h9) rfl dX2_copy_48 ?_
      refine lv_iload_n hx hb dX2_copy_51 rfl (lv_at hl 0 rfl) ?_
      refine kx_cSN (As := [.ref b1, .int (nI j18)]) (rest := [.int (nI j18), .ref a1]) ⟨hx, hb, hml, hown, hts⟩ (c_X5_at l dC dI cyI cyZ b1 ti2 24 (nI j18) (by omega) _ rfl) ⟨va_cnB 2 hts gX2_copy_X5_at_n35 rfl rfl rfl (hN (RX2, 35, yX5_at, RX5) (List.mem_of_getElem? (i := 12) rfl)) (hts (.initialized RX5) (by decide +kernel)) (by decide +kernel) ⟨Nat.le_of_ble_eq_true rfl, Nat.le_of_ble_eq_true rfl⟩, hts (.static yX5_at) (by decide +kernel), trivial⟩ hP hK hN [6] rfl [0, 1] rfl rfl hl.1 rfl (Nat.le_of_ble_eq_true rfl) dX2_copy_52 ⟨Nat.zero_le _, Nat.zero_le _⟩ ?_
      generalize hq55 : fX5_put gt 24 (nI j18) (fX5_at ti2 24 (nI j18)) = q55 at hz18
      try dsimp only at hz18
      refine kx_wSNv (As := [.ref a1, .int (nI j18), .int (fX5_at ti2 24 (nI j18))]) (rest := []) (wr := [(h, .inr (2, [.ref a0, .ref a1, .ref a2, .int (nI n2), .int ea2])), (a0, .inl (cyI, 24, .inl q39)), (a2, .inl (cyI, 24, .inl ga)), (g, .inr (2, [.ref b0, .ref b1, .ref b2, .int (nI n2), .int ea2])), (b0, .inl (cyI, 24, .inl co2)), (b1, .inl (cyI, 24, .inl ti2)), (b2, .inl (cyI, 24, .inl an2))]) (wc' := [(a1, .inl (cyI, 24, .inl q55))]) (W1 := [(h, .inr (2, [.ref a0, .ref a1, .ref a2, .int (nI n2), .int ea2])), (a0, .inl (cyI, 24, .inl q39)), (a1, .inl (cyI, 24, .inl q55)), (a2, .inl (cyI, 24, .inl ga)), (g, .inr (2, [.ref b0, .ref b1, .ref b2, .int (nI n2), .int ea2])), (b0, .inl (cyI, 24, .inl co2)), (b1, .inl (cyI, 24, .inl ti2)), (b2, .inl (cyI, 24, .inl an2))]) ⟨hx, hb, hml, hown, hts⟩ (c_X5_put l dC dI cyI cyZ a1 gt 24 (nI j18) (fX5_at ti2 24 (nI j18)) (by omega) _ _ hq55) ⟨va_cnB 3 hts gX2_copy_X5_put_n39 rfl rfl rfl (hN (RX2, 39, yX5_put, RX5) (List.mem_of_getElem? (i := 7) rfl)) (hts (.initialized RX5) (by decide +kernel)) (by decide +kernel) ⟨Nat.le_of_ble_eq_true rfl, Nat.le_of_ble_eq_true rfl⟩, hts (.static yX5_put) (by decide +kernel), trivial⟩ hP hD hS hA hK hN [2] [0, 1, 3, 4, 5, 6, 7] [0, 1, 7, 2, 3, 4, 5, 6] rfl (by decide) rfl (by decide) (by decide) (by decide) rfl [0, 1] rfl rfl hl.1 rfl (Nat.le_of_ble_eq_true rfl) dX2_copy_55 ⟨Nat.zero_le _, Nat.zero_le _⟩ (fun H locs hP hD hS => ?_)
      refine lv_aload_n hx hb dX2_copy_58 rfl (lv_at hl 1 rfl) ?_
      refine va_get (D := (dC, dI)) (ci := 2) (v := .ref a2) (C := RX2) (T := TX2) (N := 5) hx hb hts hiX2 hown hK hP 0 rfl rfl 2 (by decide) fl18 (fun _ h9 => h9) rfl dX2_copy_59 ?_
      refine lv_iload_n hx hb dX2_copy_62 rfl (lv_at hl 0 rfl) ?_
      refine lv_aload_n hx hb dX2_copy_63 rfl (lv_at hl 2 rfl) ?_
      refine va_get (D := (dC, dI)) (ci := 2) (v := .ref b2) (C := RX2) (T := TX2) (N := 5) hx hb hts hiX2 hown hK hP 4 rfl rfl 2 (by decide) fl18 (fun _ h9 => h9) rfl dX2_copy_64 ?_
      refine lv_iload_n hx hb dX2_copy_67 rfl (lv_at hl 0 rfl) ?_
      refine kx_cSN (As := [.ref b2, .int (nI j18)]) (rest := [.int (nI j18), .ref a2]) ⟨hx, hb, hml, hown, hts⟩ (c_X5_at l dC dI cyI cyZ b2 an2 24 (nI j18) (by omega) _ rfl) ⟨va_cnB 2 hts gX2_copy_X5_at_n35 rfl rfl rfl (hN (RX2, 35, yX5_at, RX5) (List.mem_of_getElem? (i := 12) rfl)) (hts (.initialized RX5) (by decide +kernel)) (by decide +kernel) ⟨Nat.le_of_ble_eq_true rfl, Nat.le_of_ble_eq_true rfl⟩, hts (.static yX5_at) (by decide +kernel), trivial⟩ hP hK hN [7] rfl [0, 1] rfl rfl hl.1 rfl (Nat.le_of_ble_eq_true rfl) dX2_copy_68 ⟨Nat.zero_le _, Nat.zero_le _⟩ ?_
      generalize hq71 : fX5_put ga 24 (nI j18) (fX5_at an2 24 (nI j18)) = q71 at hz18
      try dsimp only at hz18
      refine kx_wSNv (As := [.ref a2, .int (nI j18), .int (fX5_at an2 24 (nI j18))]) (rest := []) (wr := [(h, .inr (2, [.ref a0, .ref a1, .ref a2, .int (nI n2), .int ea2])), (a0, .inl (cyI, 24, .inl q39)), (a1, .inl (cyI, 24, .inl q55)), (g, .inr (2, [.ref b0, .ref b1, .ref b2, .int (nI n2), .int ea2])), (b0, .inl (cyI, 24, .inl co2)), (b1, .inl (cyI, 24, .inl ti2)), (b2, .inl (cyI, 24, .inl an2))]) (wc' := [(a2, .inl (cyI, 24, .inl q71))]) (W1 := [(h, .inr (2, [.ref a0, .ref a1, .ref a2, .int (nI n2), .int ea2])), (a0, .inl (cyI, 24, .inl q39)), (a1, .inl (cyI, 24, .inl q55)), (a2, .inl (cyI, 24, .inl q71)), (g, .inr (2, [.ref b0, .ref b1, .ref b2, .int (nI n2), .int ea2])), (b0, .inl (cyI, 24, .inl co2)), (b1, .inl (cyI, 24, .inl ti2)), (b2, .inl (cyI, 24, .inl an2))]) ⟨hx, hb, hml, hown, hts⟩ (c_X5_put l dC dI cyI cyZ a2 ga 24 (nI j18) (fX5_at an2 24 (nI j18)) (by omega) _ _ hq71) ⟨va_cnB 3 hts gX2_copy_X5_put_n39 rfl rfl rfl (hN (RX2, 39, yX5_put, RX5) (List.mem_of_getElem? (i := 7) rfl)) (hts (.initialized RX5) (by decide +kernel)) (by decide +kernel) ⟨Nat.le_of_ble_eq_true rfl, Nat.le_of_ble_eq_true rfl⟩, hts (.static yX5_put) (by decide +kernel), trivial⟩ hP hD hS hA hK hN [3] [0, 1, 2, 4, 5, 6, 7] [0, 1, 2, 7, 3, 4, 5, 6] rfl (by decide) rfl (by decide) (by decide) (by decide) rfl [0, 1] rfl rfl hl.1 rfl (Nat.le_of_ble_eq_true rfl) dX2_copy_71 ⟨Nat.zero_le _, Nat.zero_le _⟩ (fun H locs hP hD hS => ?_)
      refine lv_iinc (v := (nI (j18 + 1))) (lv' := [(2, .int (nI (j18 + 1))), (0, .ref h), (1, .ref g)]) hx hb dX2_copy_74 hl (k := 0) rfl (by exact nI_add (j18) 1) (by decide) rfl (fun ls hl => ?_)
      refine lv_goto (tgt := 18) hx hb dX2_copy_77 (by decide) ?_
      exact ih (j18 + 1) q39 q55 q71 (by omega)  hz18 _ _ hP hD hS _ (lv_sub hl [0, 1, 2] rfl)
  exact LP18 n2 0 co ti an (by omega)  hz18 _ _ hP hD hS _ (lv_sub hl [0, 1, 2] rfl)

def fX2_append (n : Nat) (co : Nat → Int32) (ti : Nat → Int32) (an : Nat → Int32) (kc : Int32) (kt : Int32) (kx : Int32) : (Nat → Int32) × (Nat → Int32) × (Nat → Int32) × Nat :=
  ((fun (q9 : Nat → Int32) => ((fun (q21 : Nat → Int32) => ((fun (q33 : Nat → Int32) => (q9, q21, q33, n + 1)) (fX5_put an 24 (nI n) kx))) (fX5_put ti 24 (nI n) kt))) (fX5_put co 24 (nI n) kc))
set_option maxHeartbeats 4000000 in
set_option maxRecDepth 100000 in
theorem c_X2_append (l : Launch) (dC : Nat → ClassId) (dI : Nat → Nat → Nat) (cyI cyZ : ClassId) (h a0 a1 a2 : Nat) (n : Nat) (ea : Int32) (co : Nat → Int32) (ti : Nat → Int32) (an : Nat → Int32) (kc : Int32) (kt : Int32) (kx : Int32) (sz : Nat) (r : (Nat → Int32) × (Nat → Int32) × (Nat → Int32) × Nat) (hF : fX2_append n co ti an kc kt kx = r) : Met l yX2_append wsX2_append ({ frames := 1, cells := 0, slots := 0, locals := 22 }) (kx_wp (dC, dI) [(h, .inr (2, [.ref a0, .ref a1, .ref a2, .int (nI n), .int ea])), (a0, .inl (cyI, 24, .inl co)), (a1, .inl (cyI, 24, .inl ti)), (a2, .inl (cyI, 24, .inl an))] [(cyI, .int), (cyZ, .boolean)] sz [.ref h, .int kc, .int kt, .int kx]) (kx_Qv (dC, dI) [(h, .inr (2, [.ref a0, .ref a1, .ref a2, .int (nI n), .int ea])), (a0, .inl (cyI, 24, .inl co)), (a1, .inl (cyI, 24, .inl ti)), (a2, .inl (cyI, 24, .inl an))] [(h, .inr (2, [.ref a0, .ref a1, .ref a2, .int (nI (r.2.2.2)), .int ea])), (a0, .inl (cyI, 24, .inl r.1)), (a1, .inl (cyI, 24, .inl r.2.1)), (a2, .inl (cyI, 24, .inl r.2.2.1))] sz) 0 0 (va_A [(h, .inr (2, [.ref a0, .ref a1, .ref a2, .int (nI n), .int ea])), (a0, .inl (cyI, 24, .inl co)), (a1, .inl (cyI, 24, .inl ti)), (a2, .inl (cyI, 24, .inl an))] sz) := by
  refine Met.ofW (cc := cX2_append) (maxL := 4) (ret := none) (by decide) rfl ?_
  intro p e s m args below meth c s₁ B hml hv
  obtain ⟨rfl, hsz, hP, hK, hN, hD0⟩ := hv
  have hx := B.exec
  have hb := B.bytes
  have hr := B.returns
  have hts := atoms_spec (ws := wsX2_append) B.pre
  have hown : s.vm.findClass RX2 = some m.cls := findClass_of_methodNamed B.named
  have hlocks := B.notSynchronized
  subst hsz
  obtain ⟨A, hAe⟩ : ∃ A, A = va_A [(h, .inr (2, [.ref a0, .ref a1, .ref a2, .int (nI n), .int ea])), (a0, .inl (cyI, 24, .inl co)), (a1, .inl (cyI, 24, .inl ti)), (a2, .inl (cyI, 24, .inl an))] s.heap.size := ⟨_, rfl⟩
  have hD : va_D A [(h, .inr (2, [.ref a0, .ref a1, .ref a2, .int (nI n), .int ea])), (a0, .inl (cyI, 24, .inl co)), (a1, .inl (cyI, 24, .inl ti)), (a2, .inl (cyI, 24, .inl an))] := by rw [hAe]; exact hD0.self
  have hA : ∀ q : Nat, s.heap.size ≤ q → A q := fun q h => by rw [hAe]; exact Or.inr h
  have hS : va_S A s.heap s.heap [] := va_S.rf
  have hiX2 : ∀ w ∈ wsX20, w ∈ wsX2_append := by decide +kernel
  have fl9 := hts (.fieldLink RX2 9 "KnitChronicle$Scarf" "colours" "[I") (by decide +kernel)
  have fl15 := hts (.fieldLink RX2 15 "KnitChronicle$Scarf" "tightnesses" "[I") (by decide +kernel)
  have fl18 := hts (.fieldLink RX2 18 "KnitChronicle$Scarf" "anchors" "[I") (by decide +kernel)
  have fl21 := hts (.fieldLink RX2 21 "KnitChronicle$Scarf" "size" "I") (by decide +kernel)
  have hl := lv_entry ([.ref h, .int kc, .int kt, .int kx]) (n := 4) (Nat.le_of_ble_eq_true rfl)
  rw [lg_entry_eq]
  generalize (lg_sl ([.ref h, .int kc, .int kt, .int kx]) ++ List.replicate (4 - (lg_sl ([.ref h, .int kc, .int kt, .int kx])).length) Slot.unset).toArray = ls at hl ⊢
  have hl : lv_has ls 4 [(0, .ref h), (1, .int kc), (2, .int kt), (3, .int kx)] := hl
  unfold fX2_append at hF
  refine lv_aload_n hx hb dX2_append_0 rfl (lv_at hl 0 rfl) ?_
  refine va_get (D := (dC, dI)) (ci := 2) (v := .ref a0) (C := RX2) (T := TX2) (N := 5) hx hb hts hiX2 hown hK hP 0 rfl rfl 0 (by decide) fl9 (fun _ h9 => h9) rfl dX2_append_1 ?_
  refine lv_aload_n hx hb dX2_append_4 rfl (lv_at hl 0 rfl) ?_
  refine va_get (D := (dC, dI)) (ci := 2) (v := .int (nI n)) (C := RX2) (T := TX2) (N := 5) hx hb hts hiX2 hown hK hP 0 rfl rfl 3 (by decide) fl21 (fun _ h9 => h9) rfl dX2_append_5 ?_
  refine lv_iload_n hx hb dX2_append_8 rfl (lv_at hl 1 rfl) ?_
  generalize hq9 : fX5_put co 24 (nI n) kc = q9 at hF
  try dsimp only at hF
  refine kx_wSNv (As := [.ref a0, .int (nI n), .int kc]) (rest := []) (wr := [(h, .inr (2, [.ref a0, .ref a1, .ref a2, .int (nI n), .int ea])), (a1, .inl (cyI, 24, .inl ti)), (a2, .inl (cyI, 24, .inl an))]) (wc' := [(a0, .inl (cyI, 24, .inl q9))]) (W1 := [(h, .inr (2, [.ref a0, .ref a1, .ref a2, .int (nI n), .int ea])), (a0, .inl (cyI, 24, .inl q9)), (a1, .inl (cyI, 24, .inl ti)), (a2, .inl (cyI, 24, .inl an))]) ⟨hx, hb, hml, hown, hts⟩ (c_X5_put l dC dI cyI cyZ a0 co 24 (nI n) kc (by omega) _ _ hq9) ⟨va_cnB 3 hts gX2_append_X5_put_n39 rfl rfl rfl (hN (RX2, 39, yX5_put, RX5) (List.mem_of_getElem? (i := 7) rfl)) (hts (.initialized RX5) (by decide +kernel)) (by decide +kernel) ⟨Nat.le_of_ble_eq_true rfl, Nat.le_of_ble_eq_true rfl⟩, hts (.static yX5_put) (by decide +kernel), trivial⟩ hP hD hS hA hK hN [1] [0, 2, 3] [0, 3, 1, 2] rfl (by decide) rfl (by decide) (by decide) (by decide) rfl [0, 1] rfl rfl hl.1 rfl (Nat.le_of_ble_eq_true rfl) dX2_append_9 ⟨Nat.zero_le _, Nat.zero_le _⟩ (fun H locs hP hD hS => ?_)
  refine lv_aload_n hx hb dX2_append_12 rfl (lv_at hl 0 rfl) ?_
  refine va_get (D := (dC, dI)) (ci := 2) (v := .ref a1) (C := RX2) (T := TX2) (N := 5) hx hb hts hiX2 hown hK hP 0 rfl rfl 1 (by decide) fl15 (fun _ h9 => h9) rfl dX2_append_13 ?_
  refine lv_aload_n hx hb dX2_append_16 rfl (lv_at hl 0 rfl) ?_
  refine va_get (D := (dC, dI)) (ci := 2) (v := .int (nI n)) (C := RX2) (T := TX2) (N := 5) hx hb hts hiX2 hown hK hP 0 rfl rfl 3 (by decide) fl21 (fun _ h9 => h9) rfl dX2_append_17 ?_
  refine lv_iload_n hx hb dX2_append_20 rfl (lv_at hl 2 rfl) ?_
  generalize hq21 : fX5_put ti 24 (nI n) kt = q21 at hF
  try dsimp only at hF
  refine kx_wSNv (As := [.ref a1, .int (nI n), .int kt]) (rest := []) (wr := [(h, .inr (2, [.ref a0, .ref a1, .ref a2, .int (nI n), .int ea])), (a0, .inl (cyI, 24, .inl q9)), (a2, .inl (cyI, 24, .inl an))]) (wc' := [(a1, .inl (cyI, 24, .inl q21))]) (W1 := [(h, .inr (2, [.ref a0, .ref a1, .ref a2, .int (nI n), .int ea])), (a0, .inl (cyI, 24, .inl q9)), (a1, .inl (cyI, 24, .inl q21)), (a2, .inl (cyI, 24, .inl an))]) ⟨hx, hb, hml, hown, hts⟩ (c_X5_put l dC dI cyI cyZ a1 ti 24 (nI n) kt (by omega) _ _ hq21) ⟨va_cnB 3 hts gX2_append_X5_put_n39 rfl rfl rfl (hN (RX2, 39, yX5_put, RX5) (List.mem_of_getElem? (i := 7) rfl)) (hts (.initialized RX5) (by decide +kernel)) (by decide +kernel) ⟨Nat.le_of_ble_eq_true rfl, Nat.le_of_ble_eq_true rfl⟩, hts (.static yX5_put) (by decide +kernel), trivial⟩ hP hD hS hA hK hN [2] [0, 1, 3] [0, 1, 3, 2] rfl (by decide) rfl (by decide) (by decide) (by decide) rfl [0, 1] rfl rfl hl.1 rfl (Nat.le_of_ble_eq_true rfl) dX2_append_21 ⟨Nat.zero_le _, Nat.zero_le _⟩ (fun H locs hP hD hS => ?_)
  refine lv_aload_n hx hb dX2_append_24 rfl (lv_at hl 0 rfl) ?_
  refine va_get (D := (dC, dI)) (ci := 2) (v := .ref a2) (C := RX2) (T := TX2) (N := 5) hx hb hts hiX2 hown hK hP 0 rfl rfl 2 (by decide) fl18 (fun _ h9 => h9) rfl dX2_append_25 ?_
  refine lv_aload_n hx hb dX2_append_28 rfl (lv_at hl 0 rfl) ?_
  refine va_get (D := (dC, dI)) (ci := 2) (v := .int (nI n)) (C := RX2) (T := TX2) (N := 5) hx hb hts hiX2 hown hK hP 0 rfl rfl 3 (by decide) fl21 (fun _ h9 => h9) rfl dX2_append_29 ?_
  refine lv_iload_n hx hb dX2_append_32 rfl (lv_at hl 3 rfl) ?_
  generalize hq33 : fX5_put an 24 (nI n) kx = q33 at hF
  try dsimp only at hF
  refine kx_wSNv (As := [.ref a2, .int (nI n), .int kx]) (rest := []) (wr := [(h, .inr (2, [.ref a0, .ref a1, .ref a2, .int (nI n), .int ea])), (a0, .inl (cyI, 24, .inl q9)), (a1, .inl (cyI, 24, .inl q21))]) (wc' := [(a2, .inl (cyI, 24, .inl q33))]) (W1 := [(h, .inr (2, [.ref a0, .ref a1, .ref a2, .int (nI n), .int ea])), (a0, .inl (cyI, 24, .inl q9)), (a1, .inl (cyI, 24, .inl q21)), (a2, .inl (cyI, 24, .inl q33))]) ⟨hx, hb, hml, hown, hts⟩ (c_X5_put l dC dI cyI cyZ a2 an 24 (nI n) kx (by omega) _ _ hq33) ⟨va_cnB 3 hts gX2_append_X5_put_n39 rfl rfl rfl (hN (RX2, 39, yX5_put, RX5) (List.mem_of_getElem? (i := 7) rfl)) (hts (.initialized RX5) (by decide +kernel)) (by decide +kernel) ⟨Nat.le_of_ble_eq_true rfl, Nat.le_of_ble_eq_true rfl⟩, hts (.static yX5_put) (by decide +kernel), trivial⟩ hP hD hS hA hK hN [3] [0, 1, 2] [0, 1, 2, 3] rfl (by decide) rfl (by decide) (by decide) (by decide) rfl [0, 1] rfl rfl hl.1 rfl (Nat.le_of_ble_eq_true rfl) dX2_append_33 ⟨Nat.zero_le _, Nat.zero_le _⟩ (fun H locs hP hD hS => ?_)
  refine lv_aload_n hx hb dX2_append_36 rfl (lv_at hl 0 rfl) ?_
  refine lv_dup hx hb dX2_append_37 rfl ?_
  refine va_get (D := (dC, dI)) (ci := 2) (v := .int (nI n)) (C := RX2) (T := TX2) (N := 5) hx hb hts hiX2 hown hK hP 0 rfl rfl 3 (by decide) fl21 (fun _ h9 => h9) rfl dX2_append_38 ?_
  refine lv_iconst (v := (1 : Int32)) hx hb dX2_append_41 (by decide) ?_
  refine lv_iadd hx hb dX2_append_42 ?_
  refine kx_e (nI_add (n) (1)) ?_
  refine va_put (D := (dC, dI)) (ci := 2) (v := .int (nI (n + 1))) (ty := .int) (C := RX2) (T := TX2) (N := 5) hx hb hts hiX2 tyX2 tyX2_ok nmX2 hown hK hP hD hS 0 rfl rfl 3 (by decide) fl21 (fun _ h9 => h9) rfl (by decide +kernel) rfl rfl (Nat.le_of_ble_eq_true rfl) dX2_append_43 (fun H locs hP hD hS => ?_)
  have hP : va_P (dC, dI) vwCl [(h, .inr (2, [.ref a0, .ref a1, .ref a2, .int (nI (n + 1)), .int ea])), (a0, .inl (cyI, 24, .inl q9)), (a1, .inl (cyI, 24, .inl q21)), (a2, .inl (cyI, 24, .inl q33))] H := hP
  have hD : va_D A [(h, .inr (2, [.ref a0, .ref a1, .ref a2, .int (nI (n + 1)), .int ea])), (a0, .inl (cyI, 24, .inl q9)), (a1, .inl (cyI, 24, .inl q21)), (a2, .inl (cyI, 24, .inl q33))] := hD
  subst hF
  subst hAe
  exact W.vret hx hb hr (fun t ht _ => ⟨⟨(), rfl, trivial, by rw [ht]; exact hP, hD⟩, hS.F ht⟩) hS.2.2 dX2_append_46

def fX2_lastWholeOf_L7 (ea : Int32) (co : Nat → Int32) (kc : Int32) : Nat → Int32
  | 0 => (-1 : Int32)
  | j7 + 1 => (if (fX5_at co 24 (nI j7)) = kc then (if (fX5_isIn ea (nI j7)) = 0 then (nI j7) else (fX2_lastWholeOf_L7 ea co kc j7)) else (fX2_lastWholeOf_L7 ea co kc j7))
def fX2_lastWholeOf (n : Nat) (ea : Int32) (co : Nat → Int32) (kc : Int32) : Int32 :=
  (fX2_lastWholeOf_L7 ea co kc n)
set_option maxHeartbeats 4000000 in
set_option maxRecDepth 100000 in
theorem c_X2_lastWholeOf (l : Launch) (dC : Nat → ClassId) (dI : Nat → Nat → Nat) (cyI cyZ : ClassId) (h a0 a1 a2 : Nat) (n : Nat) (ea : Int32) (co : Nat → Int32) (ti : Nat → Int32) (an : Nat → Int32) (kc : Int32) (hn : n ≤ 1000) (r : Int32) (hF : fX2_lastWholeOf n ea co kc = r) : Met l yX2_lastWholeOf wsX2_lastWholeOf ({ frames := 1, cells := 0, slots := 0, locals := 21 }) (kx_rp (dC, dI) [(h, .inr (2, [.ref a0, .ref a1, .ref a2, .int (nI n), .int ea])), (a0, .inl (cyI, 24, .inl co)), (a1, .inl (cyI, 24, .inl ti)), (a2, .inl (cyI, 24, .inl an))] [(cyI, .int), (cyZ, .boolean)] [.ref h, .int kc]) (k2_QcV (.int r)) 0 0 (fun _ => False) := by
  refine Met.ofW (cc := cX2_lastWholeOf) (maxL := 3) (ret := (some .int)) (by decide) rfl ?_
  intro p e s m args below meth c s₁ B hml hv
  obtain ⟨rfl, hP, hK, hN⟩ := hv
  have hx := B.exec
  have hb := B.bytes
  have hr := B.returns
  have hts := atoms_spec (ws := wsX2_lastWholeOf) B.pre
  have hown : s.vm.findClass RX2 = some m.cls := findClass_of_methodNamed B.named
  have hlocks := B.notSynchronized
  have hiX2 : ∀ w ∈ wsX20, w ∈ wsX2_lastWholeOf := by decide +kernel
  have fl9 := hts (.fieldLink RX2 9 "KnitChronicle$Scarf" "colours" "[I") (by decide +kernel)
  have fl21 := hts (.fieldLink RX2 21 "KnitChronicle$Scarf" "size" "I") (by decide +kernel)
  have fl29 := hts (.fieldLink RX2 29 "KnitChronicle$Scarf" "eaten" "I") (by decide +kernel)
  have hl := lv_entry ([.ref h, .int kc]) (n := 3) (Nat.le_of_ble_eq_true rfl)
  rw [lg_entry_eq]
  generalize (lg_sl ([.ref h, .int kc]) ++ List.replicate (3 - (lg_sl ([.ref h, .int kc])).length) Slot.unset).toArray = ls at hl ⊢
  have hl : lv_has ls 3 [(0, .ref h), (1, .int kc)] := hl
  unfold fX2_lastWholeOf at hF
  refine lv_aload_n hx hb dX2_lastWholeOf_0 rfl (lv_at hl 0 rfl) ?_
  refine va_get (D := (dC, dI)) (ci := 2) (v := .int (nI n)) (C := RX2) (T := TX2) (N := 5) hx hb hts hiX2 hown hK hP 0 rfl rfl 3 (by decide) fl21 (fun _ h9 => h9) rfl dX2_lastWholeOf_1 ?_
  refine lv_iconst (v := (1 : Int32)) hx hb dX2_lastWholeOf_4 (by decide) ?_
  refine lv_isub hx hb dX2_lastWholeOf_5 ?_
  refine kx_e (kx_sub1 (n)) ?_
  refine lv_istore_n (lv' := [(2, .int ((nI n) + (-1))), (0, .ref h), (1, .int kc)]) hx hb dX2_lastWholeOf_6 rfl hl (by decide) rfl (fun ls hl => ?_)
  have LP7 : ∀ (j7 : Nat), j7 ≤ n → fX2_lastWholeOf_L7 ea co kc j7 = r → ∀ (ls : Array Slot), lv_has ls 3 [(2, .int ((nI j7) + (-1))), (0, .ref h), (1, .int kc)] → W p l e (headSpec wsX2_lastWholeOf ({ frames := 1, cells := 0, slots := 0, locals := 21 } : Room)).room s m ([.ref h, .int kc] : List Value).toArray below meth c s.heap [] 0 0 (MQ below (k2_QcV (.int r)) ([.ref h, .int kc] : List Value).toArray s 0 0 (fun _ => False)) (F0 m 7 ls []) := by
    intro j7
    induction j7 with
    | zero =>
      intro hrj hF ls hl
      rw [fX2_lastWholeOf_L7] at hF
      refine lv_iload_n hx hb dX2_lastWholeOf_7 rfl (lv_at hl 0 rfl) ?_
      refine lv_if_lt (tgt := 42) hx hb dX2_lastWholeOf_8 (by decide) (fun c8 => ?_) (fun c8 => absurd c8 (by decide))
      refine lv_iconst (v := (-1 : Int32)) hx hb dX2_lastWholeOf_42 (by decide) ?_
      exact W.iret hx hb hr (fun t ht _ => ⟨congrArg (fun z => Outcome.returned (some (Value.int z))) hF, ht⟩) (fun _ h => absurd h List.not_mem_nil) dX2_lastWholeOf_43
    | succ j7 ih =>
      intro hrj hF ls hl
      rw [pk_m1] at hl
      rw [fX2_lastWholeOf_L7] at hF
      refine lv_iload_n hx hb dX2_lastWholeOf_7 rfl (lv_at hl 0 rfl) ?_
      refine lv_if_lt (tgt := 42) hx hb dX2_lastWholeOf_8 (by decide) (fun c8 => absurd c8 (nI_pos (by omega))) (fun c8 => ?_)
      refine lv_aload_n hx hb dX2_lastWholeOf_11 rfl (lv_at hl 1 rfl) ?_
      refine va_get (D := (dC, dI)) (ci := 2) (v := .ref a0) (C := RX2) (T := TX2) (N := 5) hx hb hts hiX2 hown hK hP 0 rfl rfl 0 (by decide) fl9 (fun _ h9 => h9) rfl dX2_lastWholeOf_12 ?_
      refine lv_iload_n hx hb dX2_lastWholeOf_15 rfl (lv_at hl 0 rfl) ?_
      refine kx_cSN (As := [.ref a0, .int (nI j7)]) (rest := []) ⟨hx, hb, hml, hown, hts⟩ (c_X5_at l dC dI cyI cyZ a0 co 24 (nI j7) (by omega) _ rfl) ⟨va_cnB 2 hts gX2_lastWholeOf_X5_at_n35 rfl rfl rfl (hN (RX2, 35, yX5_at, RX5) (List.mem_of_getElem? (i := 12) rfl)) (hts (.initialized RX5) (by decide +kernel)) (by decide +kernel) ⟨Nat.le_of_ble_eq_true rfl, Nat.le_of_ble_eq_true rfl⟩, hts (.static yX5_at) (by decide +kernel), trivial⟩ hP hK hN [1] rfl [0, 1] rfl rfl hl.1 rfl (Nat.le_of_ble_eq_true rfl) dX2_lastWholeOf_16 ⟨Nat.zero_le _, Nat.zero_le _⟩ ?_
      refine lv_iload_n hx hb dX2_lastWholeOf_19 rfl (lv_at hl 2 rfl) ?_
      refine lv_icmp_ne (tgt := 36) hx hb dX2_lastWholeOf_20 (by decide) (fun c20 => ?_) (fun c20 => ?_)
      · rw [if_neg c20] at hF
        refine lv_iinc (v := ((nI j7) + (-1))) (lv' := [(2, .int ((nI j7) + (-1))), (0, .ref h), (1, .int kc)]) hx hb dX2_lastWholeOf_36 hl (k := 0) rfl rfl (by decide) rfl (fun ls hl => ?_)
        refine lv_goto (tgt := 7) hx hb dX2_lastWholeOf_39 (by decide) ?_
        exact ih  (by omega)  hF _ (lv_sub hl [0, 1, 2] rfl)
      · rw [if_pos c20] at hF
        refine lv_aload_n hx hb dX2_lastWholeOf_23 rfl (lv_at hl 1 rfl) ?_
        refine va_get (D := (dC, dI)) (ci := 2) (v := .int ea) (C := RX2) (T := TX2) (N := 5) hx hb hts hiX2 hown hK hP 0 rfl rfl 4 (by decide) fl29 (fun _ h9 => h9) rfl dX2_lastWholeOf_24 ?_
        refine lv_iload_n hx hb dX2_lastWholeOf_27 rfl (lv_at hl 0 rfl) ?_
        refine kx_cSN (As := [.int ea, .int (nI j7)]) (rest := []) ⟨hx, hb, hml, hown, hts⟩ (c_X5_isIn l dC dI cyI cyZ  ea (nI j7)  _ rfl) ⟨va_cnB 2 hts gX2_lastWholeOf_X5_isIn_n32 rfl rfl rfl (hN (RX2, 32, yX5_isIn, RX5) (List.mem_of_getElem? (i := 13) rfl)) (hts (.initialized RX5) (by decide +kernel)) (by decide +kernel) ⟨Nat.le_of_ble_eq_true rfl, Nat.le_of_ble_eq_true rfl⟩, hts (.static yX5_isIn) (by decide +kernel), trivial⟩ hP hK hN [] rfl [0, 1] rfl rfl hl.1 rfl (Nat.le_of_ble_eq_true rfl) dX2_lastWholeOf_28 ⟨Nat.zero_le _, Nat.zero_le _⟩ ?_
        refine lv_if_ne (tgt := 36) hx hb dX2_lastWholeOf_31 (by decide) (fun c31 => ?_) (fun c31 => ?_)
        · rw [if_neg c31] at hF
          refine lv_iinc (v := ((nI j7) + (-1))) (lv' := [(2, .int ((nI j7) + (-1))), (0, .ref h), (1, .int kc)]) hx hb dX2_lastWholeOf_36 hl (k := 0) rfl rfl (by decide) rfl (fun ls hl => ?_)
          refine lv_goto (tgt := 7) hx hb dX2_lastWholeOf_39 (by decide) ?_
          exact ih  (by omega)  hF _ (lv_sub hl [0, 1, 2] rfl)
        · rw [if_pos c31] at hF
          refine lv_iload_n hx hb dX2_lastWholeOf_34 rfl (lv_at hl 0 rfl) ?_
          exact W.iret hx hb hr (fun t ht _ => ⟨congrArg (fun z => Outcome.returned (some (Value.int z))) hF, ht⟩) (fun _ h => absurd h List.not_mem_nil) dX2_lastWholeOf_35
  exact LP7 n  (by omega)  hF _ (lv_sub hl [0, 1, 2] rfl)

def fX2_knit (n : Nat) (ea : Int32) (co : Nat → Int32) (ti : Nat → Int32) (an : Nat → Int32) (kc : Int32) (kt : Int32) : (Nat → Int32) × (Nat → Int32) × (Nat → Int32) × Nat :=
  (match fX2_append n co ti an kc kt (fX2_lastWholeOf n ea co kc) with | (q8a, q8b, q8c, q8d) => (q8a, q8b, q8c, q8d))
set_option maxHeartbeats 4000000 in
set_option maxRecDepth 100000 in
theorem c_X2_knit (l : Launch) (dC : Nat → ClassId) (dI : Nat → Nat → Nat) (cyI cyZ : ClassId) (h a0 a1 a2 : Nat) (n : Nat) (ea : Int32) (co : Nat → Int32) (ti : Nat → Int32) (an : Nat → Int32) (kc : Int32) (kt : Int32) (hn : n ≤ 1000) (sz : Nat) (r : (Nat → Int32) × (Nat → Int32) × (Nat → Int32) × Nat) (hF : fX2_knit n ea co ti an kc kt = r) : Met l yX2_knit wsX2_knit ({ frames := 2, cells := 0, slots := 0, locals := 45 }) (kx_wp (dC, dI) [(h, .inr (2, [.ref a0, .ref a1, .ref a2, .int (nI n), .int ea])), (a0, .inl (cyI, 24, .inl co)), (a1, .inl (cyI, 24, .inl ti)), (a2, .inl (cyI, 24, .inl an))] [(cyI, .int), (cyZ, .boolean)] sz [.ref h, .int kc, .int kt]) (kx_Qv (dC, dI) [(h, .inr (2, [.ref a0, .ref a1, .ref a2, .int (nI n), .int ea])), (a0, .inl (cyI, 24, .inl co)), (a1, .inl (cyI, 24, .inl ti)), (a2, .inl (cyI, 24, .inl an))] [(h, .inr (2, [.ref a0, .ref a1, .ref a2, .int (nI (r.2.2.2)), .int ea])), (a0, .inl (cyI, 24, .inl r.1)), (a1, .inl (cyI, 24, .inl r.2.1)), (a2, .inl (cyI, 24, .inl r.2.2.1))] sz) 0 0 (va_A [(h, .inr (2, [.ref a0, .ref a1, .ref a2, .int (nI n), .int ea])), (a0, .inl (cyI, 24, .inl co)), (a1, .inl (cyI, 24, .inl ti)), (a2, .inl (cyI, 24, .inl an))] sz) := by
  refine Met.ofW (cc := cX2_knit) (maxL := 3) (ret := none) (by decide) rfl ?_
  intro p e s m args below meth c s₁ B hml hv
  obtain ⟨rfl, hsz, hP, hK, hN, hD0⟩ := hv
  have hx := B.exec
  have hb := B.bytes
  have hr := B.returns
  have hts := atoms_spec (ws := wsX2_knit) B.pre
  have hown : s.vm.findClass RX2 = some m.cls := findClass_of_methodNamed B.named
  have hlocks := B.notSynchronized
  subst hsz
  obtain ⟨A, hAe⟩ : ∃ A, A = va_A [(h, .inr (2, [.ref a0, .ref a1, .ref a2, .int (nI n), .int ea])), (a0, .inl (cyI, 24, .inl co)), (a1, .inl (cyI, 24, .inl ti)), (a2, .inl (cyI, 24, .inl an))] s.heap.size := ⟨_, rfl⟩
  have hD : va_D A [(h, .inr (2, [.ref a0, .ref a1, .ref a2, .int (nI n), .int ea])), (a0, .inl (cyI, 24, .inl co)), (a1, .inl (cyI, 24, .inl ti)), (a2, .inl (cyI, 24, .inl an))] := by rw [hAe]; exact hD0.self
  have hA : ∀ q : Nat, s.heap.size ≤ q → A q := fun q h => by rw [hAe]; exact Or.inr h
  have hS : va_S A s.heap s.heap [] := va_S.rf
  have hl := lv_entry ([.ref h, .int kc, .int kt]) (n := 3) (Nat.le_of_ble_eq_true rfl)
  rw [lg_entry_eq]
  generalize (lg_sl ([.ref h, .int kc, .int kt]) ++ List.replicate (3 - (lg_sl ([.ref h, .int kc, .int kt])).length) Slot.unset).toArray = ls at hl ⊢
  have hl : lv_has ls 3 [(0, .ref h), (1, .int kc), (2, .int kt)] := hl
  unfold fX2_knit at hF
  refine lv_aload_n hx hb dX2_knit_0 rfl (lv_at hl 0 rfl) ?_
  refine lv_iload_n hx hb dX2_knit_1 rfl (lv_at hl 1 rfl) ?_
  refine lv_iload_n hx hb dX2_knit_2 rfl (lv_at hl 2 rfl) ?_
  refine lv_aload_n hx hb dX2_knit_3 rfl (lv_at hl 0 rfl) ?_
  refine lv_iload_n hx hb dX2_knit_4 rfl (lv_at hl 1 rfl) ?_
  refine kx_cV (As := [.int kc]) (rest := [.int kt, .int kc, .ref h]) ⟨hx, hb, hml, hown, hts⟩ (c_X2_lastWholeOf l dC dI cyI cyZ h a0 a1 a2 n ea co ti an kc (by omega) _ rfl) (cwV 1 hts gX2_knit_X2_lastWholeOf rfl rfl rfl (by decide +kernel) ⟨Nat.le_of_ble_eq_true rfl, Nat.le_of_ble_eq_true rfl⟩) hP hK hN [0, 1, 2, 3] rfl [0, 1] rfl 2 0 rfl rfl rfl rfl hl.1 rfl (Nat.le_of_ble_eq_true rfl) dX2_knit_5 ⟨Nat.zero_le _, Nat.zero_le _⟩ ?_
  generalize hq8 : fX2_append n co ti an kc kt (fX2_lastWholeOf n ea co kc) = q8 at hF
  obtain ⟨q8a, q8b, q8c, q8d⟩ := q8
  dsimp only at hF
  refine kx_wVv (As := [.int kc, .int kt, .int (fX2_lastWholeOf n ea co kc)]) (rest := []) (wr := []) (wc' := [(h, .inr (2, [.ref a0, .ref a1, .ref a2, .int (nI q8d), .int ea])), (a0, .inl (cyI, 24, .inl q8a)), (a1, .inl (cyI, 24, .inl q8b)), (a2, .inl (cyI, 24, .inl q8c))]) (W1 := [(h, .inr (2, [.ref a0, .ref a1, .ref a2, .int (nI q8d), .int ea])), (a0, .inl (cyI, 24, .inl q8a)), (a1, .inl (cyI, 24, .inl q8b)), (a2, .inl (cyI, 24, .inl q8c))]) ⟨hx, hb, hml, hown, hts⟩ (c_X2_append l dC dI cyI cyZ h a0 a1 a2 n ea co ti an kc kt (fX2_lastWholeOf n ea co kc)  _ _ hq8) (cwV 3 hts gX2_knit_X2_append rfl rfl rfl (by decide +kernel) ⟨Nat.le_of_ble_eq_true rfl, Nat.le_of_ble_eq_true rfl⟩) hP hD hS hA hK hN [0, 1, 2, 3] [] [0, 1, 2, 3] rfl (by decide) rfl (by decide) (by decide) (by decide) rfl [0, 1] rfl 2 0 rfl rfl rfl rfl hl.1 rfl (Nat.le_of_ble_eq_true rfl) dX2_knit_8 ⟨Nat.zero_le _, Nat.zero_le _⟩ (fun H locs hP hD hS => ?_)
  subst hF
  subst hAe
  exact W.vret hx hb hr (fun t ht _ => ⟨⟨(), rfl, trivial, by rw [ht]; exact hP, hD⟩, hS.F ht⟩) hS.2.2 dX2_knit_11

def fX2_eat (ea : Int32) (k : Int32) : Int32 :=
  (ea ||| ((1 : Int32) <<< (k &&& 31)))
set_option maxHeartbeats 4000000 in
set_option maxRecDepth 100000 in
theorem c_X2_eat (l : Launch) (dC : Nat → ClassId) (dI : Nat → Nat → Nat) (cyI cyZ : ClassId) (h a0 a1 a2 : Nat) (n : Nat) (ea : Int32) (co : Nat → Int32) (ti : Nat → Int32) (an : Nat → Int32) (k : Int32) (sz : Nat) (r : Int32) (hF : fX2_eat ea k = r) : Met l yX2_eat wsX2_eat ({ frames := 0, cells := 0, slots := 0, locals := 0 }) (kx_wp (dC, dI) [(h, .inr (2, [.ref a0, .ref a1, .ref a2, .int (nI n), .int ea])), (a0, .inl (cyI, 24, .inl co)), (a1, .inl (cyI, 24, .inl ti)), (a2, .inl (cyI, 24, .inl an))] [(cyI, .int), (cyZ, .boolean)] sz [.ref h, .int k]) (kx_Qv (dC, dI) [(h, .inr (2, [.ref a0, .ref a1, .ref a2, .int (nI n), .int ea])), (a0, .inl (cyI, 24, .inl co)), (a1, .inl (cyI, 24, .inl ti)), (a2, .inl (cyI, 24, .inl an))] [(h, .inr (2, [.ref a0, .ref a1, .ref a2, .int (nI n), .int r])), (a0, .inl (cyI, 24, .inl co)), (a1, .inl (cyI, 24, .inl ti)), (a2, .inl (cyI, 24, .inl an))] sz) 0 0 (va_A [(h, .inr (2, [.ref a0, .ref a1, .ref a2, .int (nI n), .int ea])), (a0, .inl (cyI, 24, .inl co)), (a1, .inl (cyI, 24, .inl ti)), (a2, .inl (cyI, 24, .inl an))] sz) := by
  refine Met.ofW (cc := cX2_eat) (maxL := 2) (ret := none) (by decide) rfl ?_
  intro p e s m args below meth c s₁ B hml hv
  obtain ⟨rfl, hsz, hP, hK, hN, hD0⟩ := hv
  have hx := B.exec
  have hb := B.bytes
  have hr := B.returns
  have hts := atoms_spec (ws := wsX2_eat) B.pre
  have hown : s.vm.findClass RX2 = some m.cls := findClass_of_methodNamed B.named
  have hlocks := B.notSynchronized
  subst hsz
  obtain ⟨A, hAe⟩ : ∃ A, A = va_A [(h, .inr (2, [.ref a0, .ref a1, .ref a2, .int (nI n), .int ea])), (a0, .inl (cyI, 24, .inl co)), (a1, .inl (cyI, 24, .inl ti)), (a2, .inl (cyI, 24, .inl an))] s.heap.size := ⟨_, rfl⟩
  have hD : va_D A [(h, .inr (2, [.ref a0, .ref a1, .ref a2, .int (nI n), .int ea])), (a0, .inl (cyI, 24, .inl co)), (a1, .inl (cyI, 24, .inl ti)), (a2, .inl (cyI, 24, .inl an))] := by rw [hAe]; exact hD0.self
  have hA : ∀ q : Nat, s.heap.size ≤ q → A q := fun q h => by rw [hAe]; exact Or.inr h
  have hS : va_S A s.heap s.heap [] := va_S.rf
  have hiX2 : ∀ w ∈ wsX20, w ∈ wsX2_eat := by decide +kernel
  have fl29 := hts (.fieldLink RX2 29 "KnitChronicle$Scarf" "eaten" "I") (by decide +kernel)
  have hl := lv_entry ([.ref h, .int k]) (n := 2) (Nat.le_of_ble_eq_true rfl)
  rw [lg_entry_eq]
  generalize (lg_sl ([.ref h, .int k]) ++ List.replicate (2 - (lg_sl ([.ref h, .int k])).length) Slot.unset).toArray = ls at hl ⊢
  have hl : lv_has ls 2 [(0, .ref h), (1, .int k)] := hl
  unfold fX2_eat at hF
  refine lv_aload_n hx hb dX2_eat_0 rfl (lv_at hl 0 rfl) ?_
  refine lv_dup hx hb dX2_eat_1 rfl ?_
  refine va_get (D := (dC, dI)) (ci := 2) (v := .int ea) (C := RX2) (T := TX2) (N := 5) hx hb hts hiX2 hown hK hP 0 rfl rfl 4 (by decide) fl29 (fun _ h9 => h9) rfl dX2_eat_2 ?_
  refine lv_iconst (v := (1 : Int32)) hx hb dX2_eat_5 (by decide) ?_
  refine lv_iload_n hx hb dX2_eat_6 rfl (lv_at hl 1 rfl) ?_
  refine lv_ishl hx hb dX2_eat_7 ?_
  refine lv_ior hx hb dX2_eat_8 ?_
  refine va_put (D := (dC, dI)) (ci := 2) (v := .int (ea ||| ((1 : Int32) <<< (k &&& 31)))) (ty := .int) (C := RX2) (T := TX2) (N := 5) hx hb hts hiX2 tyX2 tyX2_ok nmX2 hown hK hP hD hS 0 rfl rfl 4 (by decide) fl29 (fun _ h9 => h9) rfl (by decide +kernel) rfl rfl (Nat.le_of_ble_eq_true rfl) dX2_eat_9 (fun H locs hP hD hS => ?_)
  have hP : va_P (dC, dI) vwCl [(h, .inr (2, [.ref a0, .ref a1, .ref a2, .int (nI n), .int (ea ||| ((1 : Int32) <<< (k &&& 31)))])), (a0, .inl (cyI, 24, .inl co)), (a1, .inl (cyI, 24, .inl ti)), (a2, .inl (cyI, 24, .inl an))] H := hP
  have hD : va_D A [(h, .inr (2, [.ref a0, .ref a1, .ref a2, .int (nI n), .int (ea ||| ((1 : Int32) <<< (k &&& 31)))])), (a0, .inl (cyI, 24, .inl co)), (a1, .inl (cyI, 24, .inl ti)), (a2, .inl (cyI, 24, .inl an))] := hD
  subst hF
  subst hAe
  exact W.vret hx hb hr (fun t ht _ => ⟨⟨(), rfl, trivial, by rw [ht]; exact hP, hD⟩, hS.F ht⟩) hS.2.2 dX2_eat_12

def fX2_mend (ea : Int32) (ti : Nat → Int32) (k : Int32) (kt : Int32) : (Nat → Int32) × Int32 :=
  ((fun (q20 : Nat → Int32) => (q20, (ea &&& (((1 : Int32) <<< (k &&& 31)) ^^^ (-1 : Int32))))) (fX5_put ti 24 k kt))
set_option maxHeartbeats 4000000 in
set_option maxRecDepth 100000 in
theorem c_X2_mend (l : Launch) (dC : Nat → ClassId) (dI : Nat → Nat → Nat) (cyI cyZ : ClassId) (h a0 a1 a2 : Nat) (n : Nat) (ea : Int32) (co : Nat → Int32) (ti : Nat → Int32) (an : Nat → Int32) (k : Int32) (kt : Int32) (sz : Nat) (r : (Nat → Int32) × Int32) (hF : fX2_mend ea ti k kt = r) : Met l yX2_mend wsX2_mend ({ frames := 1, cells := 0, slots := 0, locals := 22 }) (kx_wp (dC, dI) [(h, .inr (2, [.ref a0, .ref a1, .ref a2, .int (nI n), .int ea])), (a0, .inl (cyI, 24, .inl co)), (a1, .inl (cyI, 24, .inl ti)), (a2, .inl (cyI, 24, .inl an))] [(cyI, .int), (cyZ, .boolean)] sz [.ref h, .int k, .int kt]) (kx_Qv (dC, dI) [(h, .inr (2, [.ref a0, .ref a1, .ref a2, .int (nI n), .int ea])), (a0, .inl (cyI, 24, .inl co)), (a1, .inl (cyI, 24, .inl ti)), (a2, .inl (cyI, 24, .inl an))] [(h, .inr (2, [.ref a0, .ref a1, .ref a2, .int (nI n), .int r.2])), (a0, .inl (cyI, 24, .inl co)), (a1, .inl (cyI, 24, .inl r.1)), (a2, .inl (cyI, 24, .inl an))] sz) 0 0 (va_A [(h, .inr (2, [.ref a0, .ref a1, .ref a2, .int (nI n), .int ea])), (a0, .inl (cyI, 24, .inl co)), (a1, .inl (cyI, 24, .inl ti)), (a2, .inl (cyI, 24, .inl an))] sz) := by
  refine Met.ofW (cc := cX2_mend) (maxL := 3) (ret := none) (by decide) rfl ?_
  intro p e s m args below meth c s₁ B hml hv
  obtain ⟨rfl, hsz, hP, hK, hN, hD0⟩ := hv
  have hx := B.exec
  have hb := B.bytes
  have hr := B.returns
  have hts := atoms_spec (ws := wsX2_mend) B.pre
  have hown : s.vm.findClass RX2 = some m.cls := findClass_of_methodNamed B.named
  have hlocks := B.notSynchronized
  subst hsz
  obtain ⟨A, hAe⟩ : ∃ A, A = va_A [(h, .inr (2, [.ref a0, .ref a1, .ref a2, .int (nI n), .int ea])), (a0, .inl (cyI, 24, .inl co)), (a1, .inl (cyI, 24, .inl ti)), (a2, .inl (cyI, 24, .inl an))] s.heap.size := ⟨_, rfl⟩
  have hD : va_D A [(h, .inr (2, [.ref a0, .ref a1, .ref a2, .int (nI n), .int ea])), (a0, .inl (cyI, 24, .inl co)), (a1, .inl (cyI, 24, .inl ti)), (a2, .inl (cyI, 24, .inl an))] := by rw [hAe]; exact hD0.self
  have hA : ∀ q : Nat, s.heap.size ≤ q → A q := fun q h => by rw [hAe]; exact Or.inr h
  have hS : va_S A s.heap s.heap [] := va_S.rf
  have hiX2 : ∀ w ∈ wsX20, w ∈ wsX2_mend := by decide +kernel
  have fl15 := hts (.fieldLink RX2 15 "KnitChronicle$Scarf" "tightnesses" "[I") (by decide +kernel)
  have fl29 := hts (.fieldLink RX2 29 "KnitChronicle$Scarf" "eaten" "I") (by decide +kernel)
  have hl := lv_entry ([.ref h, .int k, .int kt]) (n := 3) (Nat.le_of_ble_eq_true rfl)
  rw [lg_entry_eq]
  generalize (lg_sl ([.ref h, .int k, .int kt]) ++ List.replicate (3 - (lg_sl ([.ref h, .int k, .int kt])).length) Slot.unset).toArray = ls at hl ⊢
  have hl : lv_has ls 3 [(0, .ref h), (1, .int k), (2, .int kt)] := hl
  unfold fX2_mend at hF
  refine lv_aload_n hx hb dX2_mend_0 rfl (lv_at hl 0 rfl) ?_
  refine lv_dup hx hb dX2_mend_1 rfl ?_
  refine va_get (D := (dC, dI)) (ci := 2) (v := .int ea) (C := RX2) (T := TX2) (N := 5) hx hb hts hiX2 hown hK hP 0 rfl rfl 4 (by decide) fl29 (fun _ h9 => h9) rfl dX2_mend_2 ?_
  refine lv_iconst (v := (1 : Int32)) hx hb dX2_mend_5 (by decide) ?_
  refine lv_iload_n hx hb dX2_mend_6 rfl (lv_at hl 1 rfl) ?_
  refine lv_ishl hx hb dX2_mend_7 ?_
  refine lv_iconst (v := (-1 : Int32)) hx hb dX2_mend_8 (by decide) ?_
  refine lv_ixor hx hb dX2_mend_9 ?_
  refine lv_iand hx hb dX2_mend_10 ?_
  refine va_put (D := (dC, dI)) (ci := 2) (v := .int (ea &&& (((1 : Int32) <<< (k &&& 31)) ^^^ (-1 : Int32)))) (ty := .int) (C := RX2) (T := TX2) (N := 5) hx hb hts hiX2 tyX2 tyX2_ok nmX2 hown hK hP hD hS 0 rfl rfl 4 (by decide) fl29 (fun _ h9 => h9) rfl (by decide +kernel) rfl rfl (Nat.le_of_ble_eq_true rfl) dX2_mend_11 (fun H locs hP hD hS => ?_)
  have hP : va_P (dC, dI) vwCl [(h, .inr (2, [.ref a0, .ref a1, .ref a2, .int (nI n), .int (ea &&& (((1 : Int32) <<< (k &&& 31)) ^^^ (-1 : Int32)))])), (a0, .inl (cyI, 24, .inl co)), (a1, .inl (cyI, 24, .inl ti)), (a2, .inl (cyI, 24, .inl an))] H := hP
  have hD : va_D A [(h, .inr (2, [.ref a0, .ref a1, .ref a2, .int (nI n), .int (ea &&& (((1 : Int32) <<< (k &&& 31)) ^^^ (-1 : Int32)))])), (a0, .inl (cyI, 24, .inl co)), (a1, .inl (cyI, 24, .inl ti)), (a2, .inl (cyI, 24, .inl an))] := hD
  refine lv_aload_n hx hb dX2_mend_14 rfl (lv_at hl 0 rfl) ?_
  refine va_get (D := (dC, dI)) (ci := 2) (v := .ref a1) (C := RX2) (T := TX2) (N := 5) hx hb hts hiX2 hown hK hP 0 rfl rfl 1 (by decide) fl15 (fun _ h9 => h9) rfl dX2_mend_15 ?_
  refine lv_iload_n hx hb dX2_mend_18 rfl (lv_at hl 1 rfl) ?_
  refine lv_iload_n hx hb dX2_mend_19 rfl (lv_at hl 2 rfl) ?_
  generalize hq20 : fX5_put ti 24 k kt = q20 at hF
  try dsimp only at hF
  refine kx_wSNv (As := [.ref a1, .int k, .int kt]) (rest := []) (wr := [(h, .inr (2, [.ref a0, .ref a1, .ref a2, .int (nI n), .int (ea &&& (((1 : Int32) <<< (k &&& 31)) ^^^ (-1 : Int32)))])), (a0, .inl (cyI, 24, .inl co)), (a2, .inl (cyI, 24, .inl an))]) (wc' := [(a1, .inl (cyI, 24, .inl q20))]) (W1 := [(h, .inr (2, [.ref a0, .ref a1, .ref a2, .int (nI n), .int (ea &&& (((1 : Int32) <<< (k &&& 31)) ^^^ (-1 : Int32)))])), (a0, .inl (cyI, 24, .inl co)), (a1, .inl (cyI, 24, .inl q20)), (a2, .inl (cyI, 24, .inl an))]) ⟨hx, hb, hml, hown, hts⟩ (c_X5_put l dC dI cyI cyZ a1 ti 24 k kt (by omega) _ _ hq20) ⟨va_cnB 3 hts gX2_mend_X5_put_n39 rfl rfl rfl (hN (RX2, 39, yX5_put, RX5) (List.mem_of_getElem? (i := 7) rfl)) (hts (.initialized RX5) (by decide +kernel)) (by decide +kernel) ⟨Nat.le_of_ble_eq_true rfl, Nat.le_of_ble_eq_true rfl⟩, hts (.static yX5_put) (by decide +kernel), trivial⟩ hP hD hS hA hK hN [2] [0, 1, 3] [0, 1, 3, 2] rfl (by decide) rfl (by decide) (by decide) (by decide) rfl [0, 1] rfl rfl hl.1 rfl (Nat.le_of_ble_eq_true rfl) dX2_mend_20 ⟨Nat.zero_le _, Nat.zero_le _⟩ (fun H locs hP hD hS => ?_)
  subst hF
  subst hAe
  exact W.vret hx hb hr (fun t ht _ => ⟨⟨(), rfl, trivial, by rw [ht]; exact hP, hD⟩, hS.F ht⟩) hS.2.2 dX2_mend_23

def fX2_undoneWith_L8 (an : Nat → Int32) : Nat → Nat → Int32 → Int32
  | 0, _, u => u
  | r8 + 1, j8, u => (if (fX5_isIn u (fX5_at an 24 (nI j8))) = 0 then (fX2_undoneWith_L8 an r8 (j8 + 1) u) else (fX2_undoneWith_L8 an r8 (j8 + 1) (u ||| ((1 : Int32) <<< ((nI j8) &&& 31)))))
def fX2_undoneWith (n : Nat) (an : Nat → Int32) (ks : Nat) : Int32 :=
  ((fun (u : Int32) => u) (fX2_undoneWith_L8 an (n - (ks + 1)) (ks + 1) ((1 : Int32) <<< ((nI ks) &&& 31))))
set_option maxHeartbeats 4000000 in
set_option maxRecDepth 100000 in
theorem c_X2_undoneWith (l : Launch) (dC : Nat → ClassId) (dI : Nat → Nat → Nat) (cyI cyZ : ClassId) (h a0 a1 a2 : Nat) (n : Nat) (ea : Int32) (co : Nat → Int32) (ti : Nat → Int32) (an : Nat → Int32) (ks : Nat) (hn : n ≤ 1000) (hks : ks < n) (r : Int32) (hF : fX2_undoneWith n an ks = r) : Met l yX2_undoneWith wsX2_undoneWith ({ frames := 1, cells := 0, slots := 0, locals := 21 }) (kx_rp (dC, dI) [(h, .inr (2, [.ref a0, .ref a1, .ref a2, .int (nI n), .int ea])), (a0, .inl (cyI, 24, .inl co)), (a1, .inl (cyI, 24, .inl ti)), (a2, .inl (cyI, 24, .inl an))] [(cyI, .int), (cyZ, .boolean)] [.ref h, .int (nI ks)]) (k2_QcV (.int r)) 0 0 (fun _ => False) := by
  refine Met.ofW (cc := cX2_undoneWith) (maxL := 4) (ret := (some .int)) (by decide) rfl ?_
  intro p e s m args below meth c s₁ B hml hv
  obtain ⟨rfl, hP, hK, hN⟩ := hv
  have hx := B.exec
  have hb := B.bytes
  have hr := B.returns
  have hts := atoms_spec (ws := wsX2_undoneWith) B.pre
  have hown : s.vm.findClass RX2 = some m.cls := findClass_of_methodNamed B.named
  have hlocks := B.notSynchronized
  have hiX2 : ∀ w ∈ wsX20, w ∈ wsX2_undoneWith := by decide +kernel
  have fl18 := hts (.fieldLink RX2 18 "KnitChronicle$Scarf" "anchors" "[I") (by decide +kernel)
  have fl21 := hts (.fieldLink RX2 21 "KnitChronicle$Scarf" "size" "I") (by decide +kernel)
  have hl := lv_entry ([.ref h, .int (nI ks)]) (n := 4) (Nat.le_of_ble_eq_true rfl)
  rw [lg_entry_eq]
  generalize (lg_sl ([.ref h, .int (nI ks)]) ++ List.replicate (4 - (lg_sl ([.ref h, .int (nI ks)])).length) Slot.unset).toArray = ls at hl ⊢
  have hl : lv_has ls 4 [(0, .ref h), (1, .int (nI ks))] := hl
  unfold fX2_undoneWith at hF
  refine lv_iconst (v := (1 : Int32)) hx hb dX2_undoneWith_0 (by decide) ?_
  refine lv_iload_n hx hb dX2_undoneWith_1 rfl (lv_at hl 1 rfl) ?_
  refine lv_ishl hx hb dX2_undoneWith_2 ?_
  refine lv_istore_n (lv' := [(2, .int ((1 : Int32) <<< ((nI ks) &&& 31))), (0, .ref h), (1, .int (nI ks))]) hx hb dX2_undoneWith_3 rfl hl (by decide) rfl (fun ls hl => ?_)
  refine lv_iload_n hx hb dX2_undoneWith_4 rfl (lv_at hl 2 rfl) ?_
  refine lv_iconst (v := (1 : Int32)) hx hb dX2_undoneWith_5 (by decide) ?_
  refine lv_iadd hx hb dX2_undoneWith_6 ?_
  refine kx_e (nI_add (ks) (1)) ?_
  refine lv_istore_n (lv' := [(3, .int (nI (ks + 1))), (2, .int ((1 : Int32) <<< ((nI ks) &&& 31))), (0, .ref h), (1, .int (nI ks))]) hx hb dX2_undoneWith_7 rfl hl (by decide) rfl (fun ls hl => ?_)
  generalize hz8 : fX2_undoneWith_L8 an (n - (ks + 1)) (ks + 1) ((1 : Int32) <<< ((nI ks) &&& 31)) = z8 at hF
  have LP8 : ∀ (r8 : Nat) (j8 : Nat) (u : Int32), r8 + j8 = n → fX2_undoneWith_L8 an r8 j8 u = z8 → ∀ (ls : Array Slot), lv_has ls 4 [(3, .int (nI j8)), (2, .int u), (0, .ref h), (1, .int (nI ks))] → W p l e (headSpec wsX2_undoneWith ({ frames := 1, cells := 0, slots := 0, locals := 21 } : Room)).room s m ([.ref h, .int (nI ks)] : List Value).toArray below meth c s.heap [] 0 0 (MQ below (k2_QcV (.int r)) ([.ref h, .int (nI ks)] : List Value).toArray s 0 0 (fun _ => False)) (F0 m 8 ls []) := by
    intro r8
    induction r8 with
    | zero =>
      intro j8 u hrj hz8 ls hl
      rw [fX2_undoneWith_L8] at hz8
      subst hz8
      try dsimp only at hF
      refine lv_iload_n hx hb dX2_undoneWith_8 rfl (lv_at hl 0 rfl) ?_
      refine lv_aload_n hx hb dX2_undoneWith_9 rfl (lv_at hl 2 rfl) ?_
      refine va_get (D := (dC, dI)) (ci := 2) (v := .int (nI n)) (C := RX2) (T := TX2) (N := 5) hx hb hts hiX2 hown hK hP 0 rfl rfl 3 (by decide) fl21 (fun _ h9 => h9) rfl dX2_undoneWith_10 ?_
      refine kx_ge hx hb (j8) (n) rfl rfl (by omega) (by omega) dX2_undoneWith_13 (by decide) (tgt := 43) (fun c13 => ?_) (fun c13 => absurd c13 (by omega))
      refine lv_iload_n hx hb dX2_undoneWith_43 rfl (lv_at hl 1 rfl) ?_
      exact W.iret hx hb hr (fun t ht _ => ⟨congrArg (fun z => Outcome.returned (some (Value.int z))) hF, ht⟩) (fun _ h => absurd h List.not_mem_nil) dX2_undoneWith_44
    | succ r8 ih =>
      intro j8 u hrj hz8 ls hl
      rw [fX2_undoneWith_L8] at hz8
      refine lv_iload_n hx hb dX2_undoneWith_8 rfl (lv_at hl 0 rfl) ?_
      refine lv_aload_n hx hb dX2_undoneWith_9 rfl (lv_at hl 2 rfl) ?_
      refine va_get (D := (dC, dI)) (ci := 2) (v := .int (nI n)) (C := RX2) (T := TX2) (N := 5) hx hb hts hiX2 hown hK hP 0 rfl rfl 3 (by decide) fl21 (fun _ h9 => h9) rfl dX2_undoneWith_10 ?_
      refine kx_ge hx hb (j8) (n) rfl rfl (by omega) (by omega) dX2_undoneWith_13 (by decide) (tgt := 43) (fun c13 => absurd c13 (by omega)) (fun c13 => ?_)
      refine lv_iload_n hx hb dX2_undoneWith_16 rfl (lv_at hl 1 rfl) ?_
      refine lv_aload_n hx hb dX2_undoneWith_17 rfl (lv_at hl 2 rfl) ?_
      refine va_get (D := (dC, dI)) (ci := 2) (v := .ref a2) (C := RX2) (T := TX2) (N := 5) hx hb hts hiX2 hown hK hP 0 rfl rfl 2 (by decide) fl18 (fun _ h9 => h9) rfl dX2_undoneWith_18 ?_
      refine lv_iload_n hx hb dX2_undoneWith_21 rfl (lv_at hl 0 rfl) ?_
      refine kx_cSN (As := [.ref a2, .int (nI j8)]) (rest := [.int u]) ⟨hx, hb, hml, hown, hts⟩ (c_X5_at l dC dI cyI cyZ a2 an 24 (nI j8) (by omega) _ rfl) ⟨va_cnB 2 hts gX2_undoneWith_X5_at_n35 rfl rfl rfl (hN (RX2, 35, yX5_at, RX5) (List.mem_of_getElem? (i := 12) rfl)) (hts (.initialized RX5) (by decide +kernel)) (by decide +kernel) ⟨Nat.le_of_ble_eq_true rfl, Nat.le_of_ble_eq_true rfl⟩, hts (.static yX5_at) (by decide +kernel), trivial⟩ hP hK hN [3] rfl [0, 1] rfl rfl hl.1 rfl (Nat.le_of_ble_eq_true rfl) dX2_undoneWith_22 ⟨Nat.zero_le _, Nat.zero_le _⟩ ?_
      refine kx_cSN (As := [.int u, .int (fX5_at an 24 (nI j8))]) (rest := []) ⟨hx, hb, hml, hown, hts⟩ (c_X5_isIn l dC dI cyI cyZ  u (fX5_at an 24 (nI j8))  _ rfl) ⟨va_cnB 2 hts gX2_undoneWith_X5_isIn_n32 rfl rfl rfl (hN (RX2, 32, yX5_isIn, RX5) (List.mem_of_getElem? (i := 13) rfl)) (hts (.initialized RX5) (by decide +kernel)) (by decide +kernel) ⟨Nat.le_of_ble_eq_true rfl, Nat.le_of_ble_eq_true rfl⟩, hts (.static yX5_isIn) (by decide +kernel), trivial⟩ hP hK hN [] rfl [0, 1] rfl rfl hl.1 rfl (Nat.le_of_ble_eq_true rfl) dX2_undoneWith_25 ⟨Nat.zero_le _, Nat.zero_le _⟩ ?_
      refine lv_if_eq (tgt := 37) hx hb dX2_undoneWith_28 (by decide) (fun c28 => ?_) (fun c28 => ?_)
      · rw [if_pos c28] at hz8
        refine lv_iinc (v := (nI (j8 + 1))) (lv' := [(3, .int (nI (j8 + 1))), (2, .int u), (0, .ref h), (1, .int (nI ks))]) hx hb dX2_undoneWith_37 hl (k := 0) rfl (by exact nI_add (j8) 1) (by decide) rfl (fun ls hl => ?_)
        refine lv_goto (tgt := 8) hx hb dX2_undoneWith_40 (by decide) ?_
        exact ih (j8 + 1) u (by omega)  hz8 _ (lv_sub hl [0, 1, 2, 3] rfl)
      · rw [if_neg c28] at hz8
        refine lv_iload_n hx hb dX2_undoneWith_31 rfl (lv_at hl 1 rfl) ?_
        refine lv_iconst (v := (1 : Int32)) hx hb dX2_undoneWith_32 (by decide) ?_
        refine lv_iload_n hx hb dX2_undoneWith_33 rfl (lv_at hl 0 rfl) ?_
        refine lv_ishl hx hb dX2_undoneWith_34 ?_
        refine lv_ior hx hb dX2_undoneWith_35 ?_
        refine lv_istore_n (lv' := [(2, .int (u ||| ((1 : Int32) <<< ((nI j8) &&& 31)))), (3, .int (nI j8)), (0, .ref h), (1, .int (nI ks))]) hx hb dX2_undoneWith_36 rfl hl (by decide) rfl (fun ls hl => ?_)
        refine lv_iinc (v := (nI (j8 + 1))) (lv' := [(3, .int (nI (j8 + 1))), (2, .int (u ||| ((1 : Int32) <<< ((nI j8) &&& 31)))), (0, .ref h), (1, .int (nI ks))]) hx hb dX2_undoneWith_37 hl (k := 1) rfl (by exact nI_add (j8) 1) (by decide) rfl (fun ls hl => ?_)
        refine lv_goto (tgt := 8) hx hb dX2_undoneWith_40 (by decide) ?_
        exact ih (j8 + 1) (u ||| ((1 : Int32) <<< ((nI j8) &&& 31))) (by omega)  hz8 _ (lv_sub hl [0, 1, 2, 3] rfl)
  exact LP8 (n - (ks + 1)) (ks + 1) ((1 : Int32) <<< ((nI ks) &&& 31)) (by omega)  hz8 _ (lv_sub hl [0, 1, 2, 3] rfl)

def fX2_closedUp (k : Int32) (un : Int32) : Int32 :=
  (if k = (-1 : Int32) then (-1 : Int32) else (k - (nI ((pcN (un &&& (((1 : Int32) <<< (k &&& 31)) - (1 : Int32))))))))
set_option maxHeartbeats 4000000 in
set_option maxRecDepth 100000 in
theorem c_X2_closedUp (l : Launch) (dC : Nat → ClassId) (dI : Nat → Nat → Nat) (cyI cyZ : ClassId)  (k : Int32) (un : Int32) (r : Int32) (hF : fX2_closedUp k un = r) : Met l yX2_closedUp wsX2_closedUp ({ frames := 1, cells := 0, slots := 0, locals := 20 }) (kx_rp (dC, dI) [] [(cyI, .int), (cyZ, .boolean)] [.int k, .int un]) (k2_QcV (.int r)) 0 0 (fun _ => False) := by
  refine Met.ofW (cc := cX2_closedUp) (maxL := 2) (ret := (some .int)) (by decide) rfl ?_
  intro p e s m args below meth c s₁ B hml hv
  obtain ⟨rfl, hP, hK, hN⟩ := hv
  have hx := B.exec
  have hb := B.bytes
  have hr := B.returns
  have hts := atoms_spec (ws := wsX2_closedUp) B.pre
  have hown : s.vm.findClass RX2 = some m.cls := findClass_of_methodNamed B.named
  have hlocks := B.notSynchronized
  have hl := lv_entry ([.int k, .int un]) (n := 2) (Nat.le_of_ble_eq_true rfl)
  rw [lg_entry_eq]
  generalize (lg_sl ([.int k, .int un]) ++ List.replicate (2 - (lg_sl ([.int k, .int un])).length) Slot.unset).toArray = ls at hl ⊢
  have hl : lv_has ls 2 [(0, .int k), (1, .int un)] := hl
  unfold fX2_closedUp at hF
  refine lv_iload_n hx hb dX2_closedUp_0 rfl (lv_at hl 0 rfl) ?_
  refine lv_iconst (v := (-1 : Int32)) hx hb dX2_closedUp_1 (by decide) ?_
  refine lv_icmp_ne (tgt := 9) hx hb dX2_closedUp_2 (by decide) (fun c2 => ?_) (fun c2 => ?_)
  · rw [if_neg c2] at hF
    refine lv_iload_n hx hb dX2_closedUp_9 rfl (lv_at hl 0 rfl) ?_
    refine lv_iload_n hx hb dX2_closedUp_10 rfl (lv_at hl 1 rfl) ?_
    refine lv_iconst (v := (1 : Int32)) hx hb dX2_closedUp_11 (by decide) ?_
    refine lv_iload_n hx hb dX2_closedUp_12 rfl (lv_at hl 0 rfl) ?_
    refine lv_ishl hx hb dX2_closedUp_13 ?_
    refine lv_iconst (v := (1 : Int32)) hx hb dX2_closedUp_14 (by decide) ?_
    refine lv_isub hx hb dX2_closedUp_15 ?_
    refine lv_iand hx hb dX2_closedUp_16 ?_
    refine kx_cS (As := [.int (un &&& (((1 : Int32) <<< (k &&& 31)) - (1 : Int32)))]) (rest := [.int k]) ⟨hx, hb, hml, hown, hts⟩ (c_J6_bitCount_0f7a4 l dC dI cyI cyZ  (un &&& (((1 : Int32) <<< (k &&& 31)) - (1 : Int32)))  _ rfl) (va_cwS 1 hts gX2_closedUp_J6_bitCount_0f7a4 rfl rfl rfl (by decide +kernel) ⟨Nat.le_of_ble_eq_true rfl, Nat.le_of_ble_eq_true rfl⟩) hP hK hN [] rfl [0, 1] rfl rfl hl.1 rfl (Nat.le_of_ble_eq_true rfl) dX2_closedUp_17 ⟨Nat.zero_le _, Nat.zero_le _⟩ ?_
    refine kx_e (pcN_eq _) ?_
    have hpc17 := pcN_lt (un &&& (((1 : Int32) <<< (k &&& 31)) - (1 : Int32)))
    refine lv_isub hx hb dX2_closedUp_20 ?_
    exact W.iret hx hb hr (fun t ht _ => ⟨congrArg (fun z => Outcome.returned (some (Value.int z))) hF, ht⟩) (fun _ h => absurd h List.not_mem_nil) dX2_closedUp_21
  · rw [if_pos c2] at hF
    refine lv_iconst (v := (-1 : Int32)) hx hb dX2_closedUp_5 (by decide) ?_
    refine lv_goto (tgt := 21) hx hb dX2_closedUp_6 (by decide) ?_
    exact W.iret hx hb hr (fun t ht _ => ⟨congrArg (fun z => Outcome.returned (some (Value.int z))) hF, ht⟩) (fun _ h => absurd h List.not_mem_nil) dX2_closedUp_21
