def fX0_changesBy (ch : Nat → Int32) (ks : Nat) (kn : Nat) (kh : Nat) : Int32 :=
  (if kn = kh then ((fX5_at ch 96 (nI (ks * 4 + kn))) + (0 : Int32)) else ((fX5_at ch 96 (nI (ks * 4 + kn))) + (1 : Int32)))
set_option maxHeartbeats 4000000 in
set_option maxRecDepth 100000 in
theorem c_X0_changesBy (l : Launch) (dC : Nat → ClassId) (dI : Nat → Nat → Nat) (cyI cyZ : ClassId) (hh ac : Nat) (ch : Nat → Int32) (ks : Nat) (kn : Nat) (kh : Nat) (hk : kn < 100) (hh9 : kh < 100) (r : Int32) (hF : fX0_changesBy ch ks kn kh = r) : Met l yX0_changesBy wsX0_changesBy ({ frames := 1, cells := 0, slots := 0, locals := 21 }) (kx_rp (dC, dI) [(hh, .inr (0, [.ref ac])), (ac, .inl (cyI, 96, .inl ch))] [(cyI, .int), (cyZ, .boolean)] [.ref hh, .int (nI ks), .int (nI kn), .int (nI kh)]) (k2_QcV (.int r)) 0 0 (fun _ => False) := by
  refine Met.ofW (cc := cX0_changesBy) (maxL := 4) (ret := (some .int)) (by decide) rfl ?_
  intro p e s m args below meth c s₁ B hml hv
  obtain ⟨rfl, hP, hK, hN⟩ := hv
  have hx := B.exec
  have hb := B.bytes
  have hr := B.returns
  have hts := atoms_spec (ws := wsX0_changesBy) B.pre
  have hown : s.vm.findClass RX0 = some m.cls := findClass_of_methodNamed B.named
  have hlocks := B.notSynchronized
  have hiX0 : ∀ w ∈ wsX00, w ∈ wsX0_changesBy := by decide +kernel
  have fl9 := hts (.fieldLink RX0 9 "KnitChronicle$HandChanges" "changes" "[I") (by decide +kernel)
  have hl := lv_entry ([.ref hh, .int (nI ks), .int (nI kn), .int (nI kh)]) (n := 4) (Nat.le_of_ble_eq_true rfl)
  rw [lg_entry_eq]
  generalize (lg_sl ([.ref hh, .int (nI ks), .int (nI kn), .int (nI kh)]) ++ List.replicate (4 - (lg_sl ([.ref hh, .int (nI ks), .int (nI kn), .int (nI kh)])).length) Slot.unset).toArray = ls at hl ⊢
  have hl : lv_has ls 4 [(0, .ref hh), (1, .int (nI ks)), (2, .int (nI kn)), (3, .int (nI kh))] := hl
  unfold fX0_changesBy at hF
  refine lv_aload_n hx hb dX0_changesBy_0 rfl (lv_at hl 0 rfl) ?_
  refine va_get (D := (dC, dI)) (ci := 0) (v := .ref ac) (C := RX0) (T := TX0) (N := 1) hx hb hts hiX0 hown hK hP 0 rfl rfl 0 (by decide) fl9 (fun _ h9 => h9) rfl dX0_changesBy_1 ?_
  refine lv_iload_n hx hb dX0_changesBy_4 rfl (lv_at hl 1 rfl) ?_
  refine lv_iconst (v := (4 : Int32)) hx hb dX0_changesBy_5 (by decide) ?_
  refine lv_imul hx hb dX0_changesBy_6 ?_
  refine kx_e (pk_mul (ks) (4)) ?_
  refine lv_iload_n hx hb dX0_changesBy_7 rfl (lv_at hl 2 rfl) ?_
  refine lv_iadd hx hb dX0_changesBy_8 ?_
  refine kx_e (nI_add (ks * 4) (kn)) ?_
  refine kx_cSN (As := [.ref ac, .int (nI (ks * 4 + kn))]) (rest := []) ⟨hx, hb, hml, hown, hts⟩ (c_X5_at l dC dI cyI cyZ ac ch 96 (nI (ks * 4 + kn)) (by omega) _ rfl) ⟨va_cnB 2 hts gX0_changesBy_X5_at_n30 rfl rfl rfl (hN (RX0, 30, yX5_at, RX5) (List.mem_of_getElem? (i := 14) rfl)) (hts (.initialized RX5) (by decide +kernel)) (by decide +kernel) ⟨Nat.le_of_ble_eq_true rfl, Nat.le_of_ble_eq_true rfl⟩, hts (.static yX5_at) (by decide +kernel), trivial⟩ hP hK hN [1] rfl [0, 1] rfl rfl hl.1 rfl (Nat.le_of_ble_eq_true rfl) dX0_changesBy_9 ⟨Nat.zero_le _, Nat.zero_le _⟩ ?_
  refine lv_iload_n hx hb dX0_changesBy_12 rfl (lv_at hl 2 rfl) ?_
  refine lv_iload_n hx hb dX0_changesBy_13 rfl (lv_at hl 3 rfl) ?_
  refine kx_ne hx hb (kn) (kh) rfl rfl (by omega) (by omega) dX0_changesBy_14 (by decide) (tgt := 21) (fun c14 => ?_) (fun c14 => ?_)
  · rw [if_neg c14] at hF
    refine lv_iconst (v := (1 : Int32)) hx hb dX0_changesBy_21 (by decide) ?_
    refine lv_iadd hx hb dX0_changesBy_22 ?_
    exact W.iret hx hb hr (fun t ht _ => ⟨congrArg (fun z => Outcome.returned (some (Value.int z))) hF, ht⟩) (fun _ h => absurd h List.not_mem_nil) dX0_changesBy_23
  · rw [if_pos c14] at hF
    refine lv_iconst (v := (0 : Int32)) hx hb dX0_changesBy_17 (by decide) ?_
    refine lv_goto (tgt := 22) hx hb dX0_changesBy_18 (by decide) ?_
    refine lv_iadd hx hb dX0_changesBy_22 ?_
    exact W.iret hx hb hr (fun t ht _ => ⟨congrArg (fun z => Outcome.returned (some (Value.int z))) hF, ht⟩) (fun _ h => absurd h List.not_mem_nil) dX0_changesBy_23

def fX0_fewestFrom_L7 (ch : Nat → Int32) (ks : Nat) (kh : Nat) : Nat → Nat → Int32 → Int32
  | 0, _, fw => fw
  | r7 + 1, j7, fw => (fX0_fewestFrom_L7 ch ks kh r7 (j7 + 1) (if (fX0_changesBy ch ks j7 kh) < fw then (fX0_changesBy ch ks j7 kh) else fw))
def fX0_fewestFrom (ch : Nat → Int32) (ks : Nat) (kh : Nat) : Int32 :=
  ((fun (fw : Int32) => fw) (fX0_fewestFrom_L7 ch ks kh 4 0 (1000 : Int32)))
set_option maxHeartbeats 4000000 in
set_option maxRecDepth 100000 in
theorem c_X0_fewestFrom (l : Launch) (dC : Nat → ClassId) (dI : Nat → Nat → Nat) (cyI cyZ : ClassId) (hh ac : Nat) (ch : Nat → Int32) (ks : Nat) (kh : Nat) (hh9 : kh < 100) (r : Int32) (hF : fX0_fewestFrom ch ks kh = r) : Met l yX0_fewestFrom wsX0_fewestFrom ({ frames := 2, cells := 0, slots := 0, locals := 44 }) (kx_rp (dC, dI) [(hh, .inr (0, [.ref ac])), (ac, .inl (cyI, 96, .inl ch))] [(cyI, .int), (cyZ, .boolean)] [.ref hh, .int (nI ks), .int (nI kh)]) (k2_QcV (.int r)) 0 0 (fun _ => False) := by
  refine Met.ofW (cc := cX0_fewestFrom) (maxL := 5) (ret := (some .int)) (by decide) rfl ?_
  intro p e s m args below meth c s₁ B hml hv
  obtain ⟨rfl, hP, hK, hN⟩ := hv
  have hx := B.exec
  have hb := B.bytes
  have hr := B.returns
  have hts := atoms_spec (ws := wsX0_fewestFrom) B.pre
  have hown : s.vm.findClass RX0 = some m.cls := findClass_of_methodNamed B.named
  have hlocks := B.notSynchronized
  have hl := lv_entry ([.ref hh, .int (nI ks), .int (nI kh)]) (n := 5) (Nat.le_of_ble_eq_true rfl)
  rw [lg_entry_eq]
  generalize (lg_sl ([.ref hh, .int (nI ks), .int (nI kh)]) ++ List.replicate (5 - (lg_sl ([.ref hh, .int (nI ks), .int (nI kh)])).length) Slot.unset).toArray = ls at hl ⊢
  have hl : lv_has ls 5 [(0, .ref hh), (1, .int (nI ks)), (2, .int (nI kh))] := hl
  unfold fX0_fewestFrom at hF
  refine lv_sipush (v := (1000 : Int32)) hx hb dX0_fewestFrom_0 (by decide) ?_
  refine lv_istore_n (lv' := [(3, .int (1000 : Int32)), (0, .ref hh), (1, .int (nI ks)), (2, .int (nI kh))]) hx hb dX0_fewestFrom_3 rfl hl (by decide) rfl (fun ls hl => ?_)
  refine lv_iconst (v := (0 : Int32)) hx hb dX0_fewestFrom_4 (by decide) ?_
  refine lv_istore (lv' := [(4, .int (0 : Int32)), (3, .int (1000 : Int32)), (0, .ref hh), (1, .int (nI ks)), (2, .int (nI kh))]) hx hb dX0_fewestFrom_5 hl (by decide) rfl (fun ls hl => ?_)
  generalize hz7 : fX0_fewestFrom_L7 ch ks kh 4 0 (1000 : Int32) = z7 at hF
  have LP7 : ∀ (r7 : Nat) (j7 : Nat) (fw : Int32), r7 + j7 = 4 → fX0_fewestFrom_L7 ch ks kh r7 j7 fw = z7 → ∀ (ls : Array Slot), lv_has ls 5 [(4, .int (nI j7)), (3, .int fw), (0, .ref hh), (1, .int (nI ks)), (2, .int (nI kh))] → W p l e (headSpec wsX0_fewestFrom ({ frames := 2, cells := 0, slots := 0, locals := 44 } : Room)).room s m ([.ref hh, .int (nI ks), .int (nI kh)] : List Value).toArray below meth c s.heap [] 0 0 (MQ below (k2_QcV (.int r)) ([.ref hh, .int (nI ks), .int (nI kh)] : List Value).toArray s 0 0 (fun _ => False)) (F0 m 7 ls []) := by
    intro r7
    induction r7 with
    | zero =>
      intro j7 fw hrj hz7 ls hl
      rw [fX0_fewestFrom_L7] at hz7
      subst hz7
      try dsimp only at hF
      refine lv_iload hx hb dX0_fewestFrom_7 (lv_at hl 0 rfl) ?_
      refine lv_iconst (v := (4 : Int32)) hx hb dX0_fewestFrom_9 (by decide) ?_
      refine kx_ge hx hb (j7) (4) rfl rfl (by omega) (by omega) dX0_fewestFrom_10 (by decide) (tgt := 32) (fun c10 => ?_) (fun c10 => absurd c10 (by omega))
      refine lv_iload_n hx hb dX0_fewestFrom_32 rfl (lv_at hl 1 rfl) ?_
      exact W.iret hx hb hr (fun t ht _ => ⟨congrArg (fun z => Outcome.returned (some (Value.int z))) hF, ht⟩) (fun _ h => absurd h List.not_mem_nil) dX0_fewestFrom_33
    | succ r7 ih =>
      intro j7 fw hrj hz7 ls hl
      rw [fX0_fewestFrom_L7] at hz7
      refine lv_iload hx hb dX0_fewestFrom_7 (lv_at hl 0 rfl) ?_
      refine lv_iconst (v := (4 : Int32)) hx hb dX0_fewestFrom_9 (by decide) ?_
      refine kx_ge hx hb (j7) (4) rfl rfl (by omega) (by omega) dX0_fewestFrom_10 (by decide) (tgt := 32) (fun c10 => absurd c10 (by omega)) (fun c10 => ?_)
      refine lv_iload_n hx hb dX0_fewestFrom_13 rfl (lv_at hl 1 rfl) ?_
      refine lv_aload_n hx hb dX0_fewestFrom_14 rfl (lv_at hl 2 rfl) ?_
      refine lv_iload_n hx hb dX0_fewestFrom_15 rfl (lv_at hl 3 rfl) ?_
      refine lv_iload hx hb dX0_fewestFrom_16 (lv_at hl 0 rfl) ?_
      refine lv_iload_n hx hb dX0_fewestFrom_18 rfl (lv_at hl 4 rfl) ?_
      refine kx_cV (As := [.int (nI ks), .int (nI j7), .int (nI kh)]) (rest := [.int fw]) ⟨hx, hb, hml, hown, hts⟩ (c_X0_changesBy l dC dI cyI cyZ hh ac ch ks j7 kh (by omega) (by omega) _ rfl) (cwV 3 hts gX0_fewestFrom_X0_changesBy rfl rfl rfl (by decide +kernel) ⟨Nat.le_of_ble_eq_true rfl, Nat.le_of_ble_eq_true rfl⟩) hP hK hN [0, 1] rfl [0, 1] rfl 0 0 rfl rfl rfl rfl hl.1 rfl (Nat.le_of_ble_eq_true rfl) dX0_fewestFrom_19 ⟨Nat.zero_le _, Nat.zero_le _⟩ ?_
      refine va_mmin hx hb (hml.trans hl.1.symm) hown (hts (.methodLink RX0 57 Lib.Math.min.name) (by decide +kernel)) (hts (.static Lib.Math.min.name) (by decide +kernel)) (hts (.initialized "java/lang/Math") (by decide +kernel)) (hts (.code Lib.Math.min.name Lib.Math.min.code 2 (some .int)) (by decide +kernel)) (Nat.le_of_ble_eq_true rfl) (Nat.le_of_ble_eq_true rfl) (Nat.zero_le _) (Nat.zero_le _) dX0_fewestFrom_22 ?_
      refine lv_istore_n (lv' := [(3, .int (if (fX0_changesBy ch ks j7 kh) < fw then (fX0_changesBy ch ks j7 kh) else fw)), (4, .int (nI j7)), (0, .ref hh), (1, .int (nI ks)), (2, .int (nI kh))]) hx hb dX0_fewestFrom_25 rfl hl (by decide) rfl (fun ls hl => ?_)
      refine lv_iinc (v := (nI (j7 + 1))) (lv' := [(4, .int (nI (j7 + 1))), (3, .int (if (fX0_changesBy ch ks j7 kh) < fw then (fX0_changesBy ch ks j7 kh) else fw)), (0, .ref hh), (1, .int (nI ks)), (2, .int (nI kh))]) hx hb dX0_fewestFrom_26 hl (k := 1) rfl (by exact nI_add (j7) 1) (by decide) rfl (fun ls hl => ?_)
      refine lv_goto (tgt := 7) hx hb dX0_fewestFrom_29 (by decide) ?_
      exact ih (j7 + 1) (if (fX0_changesBy ch ks j7 kh) < fw then (fX0_changesBy ch ks j7 kh) else fw) (by omega)  hz7 _ (lv_sub hl [0, 1, 2, 3, 4] rfl)
  exact LP7 4 0 (1000 : Int32) (by omega)  hz7 _ (lv_sub hl [0, 1, 2, 3, 4] rfl)

def fX0_fewest_L12 (ch : Nat → Int32) : Nat → Nat → Int32 → Int32
  | 0, _, fw => fw
  | r12 + 1, j12, fw => (fX0_fewest_L12 ch r12 (j12 + 1) (if (fX5_at ch 96 (nI j12)) < fw then (fX5_at ch 96 (nI j12)) else fw))
def fX0_fewest (ch : Nat → Int32) (kz : Nat) : Int32 :=
  (if kz = 0 then (0 : Int32) else ((fun (fw : Int32) => (if (1000 : Int32) ≤ fw then (-6 : Int32) else fw)) (fX0_fewest_L12 ch 4 0 (1000 : Int32))))
set_option maxHeartbeats 4000000 in
set_option maxRecDepth 100000 in
theorem c_X0_fewest (l : Launch) (dC : Nat → ClassId) (dI : Nat → Nat → Nat) (cyI cyZ : ClassId) (hh ac : Nat) (ch : Nat → Int32) (kz : Nat) (hz9 : kz < 100) (r : Int32) (hF : fX0_fewest ch kz = r) : Met l yX0_fewest wsX0_fewest ({ frames := 1, cells := 0, slots := 0, locals := 21 }) (kx_rp (dC, dI) [(hh, .inr (0, [.ref ac])), (ac, .inl (cyI, 96, .inl ch))] [(cyI, .int), (cyZ, .boolean)] [.ref hh, .int (nI kz)]) (k2_QcV (.int r)) 0 0 (fun _ => False) := by
  refine Met.ofW (cc := cX0_fewest) (maxL := 4) (ret := (some .int)) (by decide) rfl ?_
  intro p e s m args below meth c s₁ B hml hv
  obtain ⟨rfl, hP, hK, hN⟩ := hv
  have hx := B.exec
  have hb := B.bytes
  have hr := B.returns
  have hts := atoms_spec (ws := wsX0_fewest) B.pre
  have hown : s.vm.findClass RX0 = some m.cls := findClass_of_methodNamed B.named
  have hlocks := B.notSynchronized
  have hiX0 : ∀ w ∈ wsX00, w ∈ wsX0_fewest := by decide +kernel
  have fl9 := hts (.fieldLink RX0 9 "KnitChronicle$HandChanges" "changes" "[I") (by decide +kernel)
  have hl := lv_entry ([.ref hh, .int (nI kz)]) (n := 4) (Nat.le_of_ble_eq_true rfl)
  rw [lg_entry_eq]
  generalize (lg_sl ([.ref hh, .int (nI kz)]) ++ List.replicate (4 - (lg_sl ([.ref hh, .int (nI kz)])).length) Slot.unset).toArray = ls at hl ⊢
  have hl : lv_has ls 4 [(0, .ref hh), (1, .int (nI kz))] := hl
  unfold fX0_fewest at hF
  refine lv_iload_n hx hb dX0_fewest_0 rfl (lv_at hl 1 rfl) ?_
  refine kx_ne0 hx hb (kz) rfl (by omega) dX0_fewest_1 (by decide) (tgt := 6) (fun c1 => ?_) (fun c1 => ?_)
  · rw [if_neg c1] at hF
    refine lv_sipush (v := (1000 : Int32)) hx hb dX0_fewest_6 (by decide) ?_
    refine lv_istore_n (lv' := [(2, .int (1000 : Int32)), (0, .ref hh), (1, .int (nI kz))]) hx hb dX0_fewest_9 rfl hl (by decide) rfl (fun ls hl => ?_)
    refine lv_iconst (v := (0 : Int32)) hx hb dX0_fewest_10 (by decide) ?_
    refine lv_istore_n (lv' := [(3, .int (0 : Int32)), (2, .int (1000 : Int32)), (0, .ref hh), (1, .int (nI kz))]) hx hb dX0_fewest_11 rfl hl (by decide) rfl (fun ls hl => ?_)
    generalize hz12 : fX0_fewest_L12 ch 4 0 (1000 : Int32) = z12 at hF
    have LP12 : ∀ (r12 : Nat) (j12 : Nat) (fw : Int32), r12 + j12 = 4 → fX0_fewest_L12 ch r12 j12 fw = z12 → ∀ (ls : Array Slot), lv_has ls 4 [(3, .int (nI j12)), (2, .int fw), (0, .ref hh), (1, .int (nI kz))] → W p l e (headSpec wsX0_fewest ({ frames := 1, cells := 0, slots := 0, locals := 21 } : Room)).room s m ([.ref hh, .int (nI kz)] : List Value).toArray below meth c s.heap [] 0 0 (MQ below (k2_QcV (.int r)) ([.ref hh, .int (nI kz)] : List Value).toArray s 0 0 (fun _ => False)) (F0 m 12 ls []) := by
      intro r12
      induction r12 with
      | zero =>
        intro j12 fw hrj hz12 ls hl
        rw [fX0_fewest_L12] at hz12
        subst hz12
        try dsimp only at hF
        refine lv_iload_n hx hb dX0_fewest_12 rfl (lv_at hl 0 rfl) ?_
        refine lv_iconst (v := (4 : Int32)) hx hb dX0_fewest_13 (by decide) ?_
        refine kx_ge hx hb (j12) (4) rfl rfl (by omega) (by omega) dX0_fewest_14 (by decide) (tgt := 36) (fun c14 => ?_) (fun c14 => absurd c14 (by omega))
        refine lv_iload_n hx hb dX0_fewest_36 rfl (lv_at hl 1 rfl) ?_
        refine lv_sipush (v := (1000 : Int32)) hx hb dX0_fewest_37 (by decide) ?_
        refine lv_icmp_ge (tgt := 47) hx hb dX0_fewest_40 (by decide) (fun c40 => ?_) (fun c40 => ?_)
        · rw [if_pos c40] at hF
          refine lv_bipush (v := (-6 : Int32)) hx hb dX0_fewest_47 (by decide) ?_
          exact W.iret hx hb hr (fun t ht _ => ⟨congrArg (fun z => Outcome.returned (some (Value.int z))) hF, ht⟩) (fun _ h => absurd h List.not_mem_nil) dX0_fewest_49
        · rw [if_neg c40] at hF
          refine lv_iload_n hx hb dX0_fewest_43 rfl (lv_at hl 1 rfl) ?_
          refine lv_goto (tgt := 49) hx hb dX0_fewest_44 (by decide) ?_
          exact W.iret hx hb hr (fun t ht _ => ⟨congrArg (fun z => Outcome.returned (some (Value.int z))) hF, ht⟩) (fun _ h => absurd h List.not_mem_nil) dX0_fewest_49
      | succ r12 ih =>
        intro j12 fw hrj hz12 ls hl
        rw [fX0_fewest_L12] at hz12
        refine lv_iload_n hx hb dX0_fewest_12 rfl (lv_at hl 0 rfl) ?_
        refine lv_iconst (v := (4 : Int32)) hx hb dX0_fewest_13 (by decide) ?_
        refine kx_ge hx hb (j12) (4) rfl rfl (by omega) (by omega) dX0_fewest_14 (by decide) (tgt := 36) (fun c14 => absurd c14 (by omega)) (fun c14 => ?_)
        refine lv_iload_n hx hb dX0_fewest_17 rfl (lv_at hl 1 rfl) ?_
        refine lv_aload_n hx hb dX0_fewest_18 rfl (lv_at hl 2 rfl) ?_
        refine va_get (D := (dC, dI)) (ci := 0) (v := .ref ac) (C := RX0) (T := TX0) (N := 1) hx hb hts hiX0 hown hK hP 0 rfl rfl 0 (by decide) fl9 (fun _ h9 => h9) rfl dX0_fewest_19 ?_
        refine lv_iload_n hx hb dX0_fewest_22 rfl (lv_at hl 0 rfl) ?_
        refine kx_cSN (As := [.ref ac, .int (nI j12)]) (rest := [.int fw]) ⟨hx, hb, hml, hown, hts⟩ (c_X5_at l dC dI cyI cyZ ac ch 96 (nI j12) (by omega) _ rfl) ⟨va_cnB 2 hts gX0_fewest_X5_at_n30 rfl rfl rfl (hN (RX0, 30, yX5_at, RX5) (List.mem_of_getElem? (i := 14) rfl)) (hts (.initialized RX5) (by decide +kernel)) (by decide +kernel) ⟨Nat.le_of_ble_eq_true rfl, Nat.le_of_ble_eq_true rfl⟩, hts (.static yX5_at) (by decide +kernel), trivial⟩ hP hK hN [1] rfl [0, 1] rfl rfl hl.1 rfl (Nat.le_of_ble_eq_true rfl) dX0_fewest_23 ⟨Nat.zero_le _, Nat.zero_le _⟩ ?_
        refine va_mmin hx hb (hml.trans hl.1.symm) hown (hts (.methodLink RX0 57 Lib.Math.min.name) (by decide +kernel)) (hts (.static Lib.Math.min.name) (by decide +kernel)) (hts (.initialized "java/lang/Math") (by decide +kernel)) (hts (.code Lib.Math.min.name Lib.Math.min.code 2 (some .int)) (by decide +kernel)) (Nat.le_of_ble_eq_true rfl) (Nat.le_of_ble_eq_true rfl) (Nat.zero_le _) (Nat.zero_le _) dX0_fewest_26 ?_
        refine lv_istore_n (lv' := [(2, .int (if (fX5_at ch 96 (nI j12)) < fw then (fX5_at ch 96 (nI j12)) else fw)), (3, .int (nI j12)), (0, .ref hh), (1, .int (nI kz))]) hx hb dX0_fewest_29 rfl hl (by decide) rfl (fun ls hl => ?_)
        refine lv_iinc (v := (nI (j12 + 1))) (lv' := [(3, .int (nI (j12 + 1))), (2, .int (if (fX5_at ch 96 (nI j12)) < fw then (fX5_at ch 96 (nI j12)) else fw)), (0, .ref hh), (1, .int (nI kz))]) hx hb dX0_fewest_30 hl (k := 1) rfl (by exact nI_add (j12) 1) (by decide) rfl (fun ls hl => ?_)
        refine lv_goto (tgt := 12) hx hb dX0_fewest_33 (by decide) ?_
        exact ih (j12 + 1) (if (fX5_at ch 96 (nI j12)) < fw then (fX5_at ch 96 (nI j12)) else fw) (by omega)  hz12 _ (lv_sub hl [0, 1, 2, 3] rfl)
    exact LP12 4 0 (1000 : Int32) (by omega)  hz12 _ (lv_sub hl [0, 1, 2, 3] rfl)
  · rw [if_pos c1] at hF
    refine lv_iconst (v := (0 : Int32)) hx hb dX0_fewest_4 (by decide) ?_
    exact W.iret hx hb hr (fun t ht _ => ⟨congrArg (fun z => Outcome.returned (some (Value.int z))) hF, ht⟩) (fun _ h => absurd h List.not_mem_nil) dX0_fewest_5

def fX0_leastAfter_L5 (ch : Nat → Int32) (ks : Nat) (kh : Nat) : Nat → Nat → Nat → Nat
  | 0, _, le => le
  | r5 + 1, j5, le => (if (fX0_changesBy ch ks le kh) ≤ (fX0_changesBy ch ks j5 kh) then (fX0_leastAfter_L5 ch ks kh r5 (j5 + 1) le) else (fX0_leastAfter_L5 ch ks kh r5 (j5 + 1) j5))
def fX0_leastAfter (ch : Nat → Int32) (ks : Nat) (kh : Nat) : Nat :=
  ((fun (le : Nat) => le) (fX0_leastAfter_L5 ch ks kh (4 - 1) 1 0))
set_option maxHeartbeats 4000000 in
set_option maxRecDepth 100000 in
theorem c_X0_leastAfter (l : Launch) (dC : Nat → ClassId) (dI : Nat → Nat → Nat) (cyI cyZ : ClassId) (hh ac : Nat) (ch : Nat → Int32) (ks : Nat) (kh : Nat) (hh9 : kh < 100) (r : Nat) (hF : fX0_leastAfter ch ks kh = r) : Met l yX0_leastAfter wsX0_leastAfter ({ frames := 2, cells := 0, slots := 0, locals := 44 }) (kx_rp (dC, dI) [(hh, .inr (0, [.ref ac])), (ac, .inl (cyI, 96, .inl ch))] [(cyI, .int), (cyZ, .boolean)] [.ref hh, .int (nI ks), .int (nI kh)]) (k2_QcV (.int (nI r))) 0 0 (fun _ => False) := by
  refine Met.ofW (cc := cX0_leastAfter) (maxL := 5) (ret := (some .int)) (by decide) rfl ?_
  intro p e s m args below meth c s₁ B hml hv
  obtain ⟨rfl, hP, hK, hN⟩ := hv
  have hx := B.exec
  have hb := B.bytes
  have hr := B.returns
  have hts := atoms_spec (ws := wsX0_leastAfter) B.pre
  have hown : s.vm.findClass RX0 = some m.cls := findClass_of_methodNamed B.named
  have hlocks := B.notSynchronized
  have hl := lv_entry ([.ref hh, .int (nI ks), .int (nI kh)]) (n := 5) (Nat.le_of_ble_eq_true rfl)
  rw [lg_entry_eq]
  generalize (lg_sl ([.ref hh, .int (nI ks), .int (nI kh)]) ++ List.replicate (5 - (lg_sl ([.ref hh, .int (nI ks), .int (nI kh)])).length) Slot.unset).toArray = ls at hl ⊢
  have hl : lv_has ls 5 [(0, .ref hh), (1, .int (nI ks)), (2, .int (nI kh))] := hl
  unfold fX0_leastAfter at hF
  refine lv_iconst (v := (0 : Int32)) hx hb dX0_leastAfter_0 (by decide) ?_
  refine lv_istore_n (lv' := [(3, .int (0 : Int32)), (0, .ref hh), (1, .int (nI ks)), (2, .int (nI kh))]) hx hb dX0_leastAfter_1 rfl hl (by decide) rfl (fun ls hl => ?_)
  refine lv_iconst (v := (1 : Int32)) hx hb dX0_leastAfter_2 (by decide) ?_
  refine lv_istore (lv' := [(4, .int (1 : Int32)), (3, .int (0 : Int32)), (0, .ref hh), (1, .int (nI ks)), (2, .int (nI kh))]) hx hb dX0_leastAfter_3 hl (by decide) rfl (fun ls hl => ?_)
  generalize hz5 : fX0_leastAfter_L5 ch ks kh (4 - 1) 1 0 = z5 at hF
  have LP5 : ∀ (r5 : Nat) (j5 : Nat) (le : Nat), r5 + j5 = 4 → (le < 4) → fX0_leastAfter_L5 ch ks kh r5 j5 le = z5 → ∀ (ls : Array Slot), lv_has ls 5 [(4, .int (nI j5)), (3, .int (nI le)), (0, .ref hh), (1, .int (nI ks)), (2, .int (nI kh))] → W p l e (headSpec wsX0_leastAfter ({ frames := 2, cells := 0, slots := 0, locals := 44 } : Room)).room s m ([.ref hh, .int (nI ks), .int (nI kh)] : List Value).toArray below meth c s.heap [] 0 0 (MQ below (k2_QcV (.int (nI r))) ([.ref hh, .int (nI ks), .int (nI kh)] : List Value).toArray s 0 0 (fun _ => False)) (F0 m 5 ls []) := by
    intro r5
    induction r5 with
    | zero =>
      intro j5 le hrj hle hz5 ls hl
      rw [fX0_leastAfter_L5] at hz5
      subst hz5
      try dsimp only at hF
      refine lv_iload hx hb dX0_leastAfter_5 (lv_at hl 0 rfl) ?_
      refine lv_iconst (v := (4 : Int32)) hx hb dX0_leastAfter_7 (by decide) ?_
      refine kx_ge hx hb (j5) (4) rfl rfl (by omega) (by omega) dX0_leastAfter_8 (by decide) (tgt := 38) (fun c8 => ?_) (fun c8 => absurd c8 (by omega))
      refine lv_iload_n hx hb dX0_leastAfter_38 rfl (lv_at hl 1 rfl) ?_
      exact W.iret hx hb hr (fun t ht _ => ⟨congrArg (fun z => Outcome.returned (some (Value.int (nI z)))) hF, ht⟩) (fun _ h => absurd h List.not_mem_nil) dX0_leastAfter_39
    | succ r5 ih =>
      intro j5 le hrj hle hz5 ls hl
      rw [fX0_leastAfter_L5] at hz5
      refine lv_iload hx hb dX0_leastAfter_5 (lv_at hl 0 rfl) ?_
      refine lv_iconst (v := (4 : Int32)) hx hb dX0_leastAfter_7 (by decide) ?_
      refine kx_ge hx hb (j5) (4) rfl rfl (by omega) (by omega) dX0_leastAfter_8 (by decide) (tgt := 38) (fun c8 => absurd c8 (by omega)) (fun c8 => ?_)
      refine lv_aload_n hx hb dX0_leastAfter_11 rfl (lv_at hl 2 rfl) ?_
      refine lv_iload_n hx hb dX0_leastAfter_12 rfl (lv_at hl 3 rfl) ?_
      refine lv_iload hx hb dX0_leastAfter_13 (lv_at hl 0 rfl) ?_
      refine lv_iload_n hx hb dX0_leastAfter_15 rfl (lv_at hl 4 rfl) ?_
      refine kx_cV (As := [.int (nI ks), .int (nI j5), .int (nI kh)]) (rest := []) ⟨hx, hb, hml, hown, hts⟩ (c_X0_changesBy l dC dI cyI cyZ hh ac ch ks j5 kh (by omega) (by omega) _ rfl) (cwV 3 hts gX0_leastAfter_X0_changesBy rfl rfl rfl (by decide +kernel) ⟨Nat.le_of_ble_eq_true rfl, Nat.le_of_ble_eq_true rfl⟩) hP hK hN [0, 1] rfl [0, 1] rfl 0 0 rfl rfl rfl rfl hl.1 rfl (Nat.le_of_ble_eq_true rfl) dX0_leastAfter_16 ⟨Nat.zero_le _, Nat.zero_le _⟩ ?_
      refine lv_aload_n hx hb dX0_leastAfter_19 rfl (lv_at hl 2 rfl) ?_
      refine lv_iload_n hx hb dX0_leastAfter_20 rfl (lv_at hl 3 rfl) ?_
      refine lv_iload_n hx hb dX0_leastAfter_21 rfl (lv_at hl 1 rfl) ?_
      refine lv_iload_n hx hb dX0_leastAfter_22 rfl (lv_at hl 4 rfl) ?_
      refine kx_cV (As := [.int (nI ks), .int (nI le), .int (nI kh)]) (rest := [.int (fX0_changesBy ch ks j5 kh)]) ⟨hx, hb, hml, hown, hts⟩ (c_X0_changesBy l dC dI cyI cyZ hh ac ch ks le kh (by omega) (by omega) _ rfl) (cwV 3 hts gX0_leastAfter_X0_changesBy rfl rfl rfl (by decide +kernel) ⟨Nat.le_of_ble_eq_true rfl, Nat.le_of_ble_eq_true rfl⟩) hP hK hN [0, 1] rfl [0, 1] rfl 0 0 rfl rfl rfl rfl hl.1 rfl (Nat.le_of_ble_eq_true rfl) dX0_leastAfter_23 ⟨Nat.zero_le _, Nat.zero_le _⟩ ?_
      refine lv_icmp_ge (tgt := 32) hx hb dX0_leastAfter_26 (by decide) (fun c26 => ?_) (fun c26 => ?_)
      · rw [if_pos c26] at hz5
        refine lv_iinc (v := (nI (j5 + 1))) (lv' := [(4, .int (nI (j5 + 1))), (3, .int (nI le)), (0, .ref hh), (1, .int (nI ks)), (2, .int (nI kh))]) hx hb dX0_leastAfter_32 hl (k := 0) rfl (by exact nI_add (j5) 1) (by decide) rfl (fun ls hl => ?_)
        refine lv_goto (tgt := 5) hx hb dX0_leastAfter_35 (by decide) ?_
        exact ih (j5 + 1) le (by omega) (by omega) hz5 _ (lv_sub hl [0, 1, 2, 3, 4] rfl)
      · rw [if_neg c26] at hz5
        refine lv_iload hx hb dX0_leastAfter_29 (lv_at hl 0 rfl) ?_
        refine lv_istore_n (lv' := [(3, .int (nI j5)), (4, .int (nI j5)), (0, .ref hh), (1, .int (nI ks)), (2, .int (nI kh))]) hx hb dX0_leastAfter_31 rfl hl (by decide) rfl (fun ls hl => ?_)
        refine lv_iinc (v := (nI (j5 + 1))) (lv' := [(4, .int (nI (j5 + 1))), (3, .int (nI j5)), (0, .ref hh), (1, .int (nI ks)), (2, .int (nI kh))]) hx hb dX0_leastAfter_32 hl (k := 1) rfl (by exact nI_add (j5) 1) (by decide) rfl (fun ls hl => ?_)
        refine lv_goto (tgt := 5) hx hb dX0_leastAfter_35 (by decide) ?_
        exact ih (j5 + 1) j5 (by omega) (by omega) hz5 _ (lv_sub hl [0, 1, 2, 3, 4] rfl)
  exact LP5 (4 - 1) 1 0 (by omega) (by omega) hz5 _ (lv_sub hl [0, 1, 2, 3, 4] rfl)

theorem fX0_leastAfter_L5_lt (ch : Nat → Int32) (ks kh : Nat) : ∀ (r j le : Nat), r + j = 4 → le < 4 → fX0_leastAfter_L5 ch ks kh r j le < 4 := by
  intro r
  induction r with
  | zero => intro j le h1 h2; exact h2
  | succ r ih =>
    intro j le h1 h2
    rw [fX0_leastAfter_L5]
    split
    · exact ih _ _ (by omega) (by omega)
    · exact ih _ _ (by omega) (by omega)
theorem fX0_leastAfter_lt (ch : Nat → Int32) (ks kh : Nat) : fX0_leastAfter ch ks kh < 4 := fX0_leastAfter_L5_lt ch ks kh 3 1 0 (by omega) (by omega)

def fX0_knitterOf_L38 (ch : Nat → Int32) : Nat → Nat → Nat → Nat
  | 0, _, km => km
  | r38 + 1, j38, km => (fX0_knitterOf_L38 ch r38 (j38 + 1) (fX0_leastAfter ch j38 km))
def fX0_knitterOf_L4 (ch : Nat → Int32) : Nat → Nat → Nat → Nat
  | 0, _, kn => kn
  | r4 + 1, j4, kn => (if (fX5_at ch 96 (nI kn)) ≤ (fX5_at ch 96 (nI j4)) then (fX0_knitterOf_L4 ch r4 (j4 + 1) kn) else (fX0_knitterOf_L4 ch r4 (j4 + 1) j4))
def fX0_knitterOf (ch : Nat → Int32) (ks : Nat) : Nat :=
  ((fun (kn : Nat) => ((fun (km : Nat) => km) (fX0_knitterOf_L38 ch ((ks + 1) - 1) 1 kn))) (fX0_knitterOf_L4 ch (4 - 1) 1 0))
set_option maxHeartbeats 4000000 in
set_option maxRecDepth 100000 in
theorem c_X0_knitterOf (l : Launch) (dC : Nat → ClassId) (dI : Nat → Nat → Nat) (cyI cyZ : ClassId) (hh ac : Nat) (ch : Nat → Int32) (ks : Nat) (hks : ks < 1000) (r : Nat) (hF : fX0_knitterOf ch ks = r) : Met l yX0_knitterOf wsX0_knitterOf ({ frames := 3, cells := 0, slots := 0, locals := 68 }) (kx_rp (dC, dI) [(hh, .inr (0, [.ref ac])), (ac, .inl (cyI, 96, .inl ch))] [(cyI, .int), (cyZ, .boolean)] [.ref hh, .int (nI ks)]) (k2_QcV (.int (nI r))) 0 0 (fun _ => False) := by
  refine Met.ofW (cc := cX0_knitterOf) (maxL := 4) (ret := (some .int)) (by decide) rfl ?_
  intro p e s m args below meth c s₁ B hml hv
  obtain ⟨rfl, hP, hK, hN⟩ := hv
  have hx := B.exec
  have hb := B.bytes
  have hr := B.returns
  have hts := atoms_spec (ws := wsX0_knitterOf) B.pre
  have hown : s.vm.findClass RX0 = some m.cls := findClass_of_methodNamed B.named
  have hlocks := B.notSynchronized
  have hiX0 : ∀ w ∈ wsX00, w ∈ wsX0_knitterOf := by decide +kernel
  have fl9 := hts (.fieldLink RX0 9 "KnitChronicle$HandChanges" "changes" "[I") (by decide +kernel)
  have hl := lv_entry ([.ref hh, .int (nI ks)]) (n := 4) (Nat.le_of_ble_eq_true rfl)
  rw [lg_entry_eq]
  generalize (lg_sl ([.ref hh, .int (nI ks)]) ++ List.replicate (4 - (lg_sl ([.ref hh, .int (nI ks)])).length) Slot.unset).toArray = ls at hl ⊢
  have hl : lv_has ls 4 [(0, .ref hh), (1, .int (nI ks))] := hl
  unfold fX0_knitterOf at hF
  refine lv_iconst (v := (0 : Int32)) hx hb dX0_knitterOf_0 (by decide) ?_
  refine lv_istore_n (lv' := [(2, .int (0 : Int32)), (0, .ref hh), (1, .int (nI ks))]) hx hb dX0_knitterOf_1 rfl hl (by decide) rfl (fun ls hl => ?_)
  refine lv_iconst (v := (1 : Int32)) hx hb dX0_knitterOf_2 (by decide) ?_
  refine lv_istore_n (lv' := [(3, .int (1 : Int32)), (2, .int (0 : Int32)), (0, .ref hh), (1, .int (nI ks))]) hx hb dX0_knitterOf_3 rfl hl (by decide) rfl (fun ls hl => ?_)
  generalize hz4 : fX0_knitterOf_L4 ch (4 - 1) 1 0 = z4 at hF
  have LP4 : ∀ (r4 : Nat) (j4 : Nat) (kn : Nat), r4 + j4 = 4 → (kn < 4) → fX0_knitterOf_L4 ch r4 j4 kn = z4 → ∀ (ls : Array Slot), lv_has ls 4 [(3, .int (nI j4)), (2, .int (nI kn)), (0, .ref hh), (1, .int (nI ks))] → W p l e (headSpec wsX0_knitterOf ({ frames := 3, cells := 0, slots := 0, locals := 68 } : Room)).room s m ([.ref hh, .int (nI ks)] : List Value).toArray below meth c s.heap [] 0 0 (MQ below (k2_QcV (.int (nI r))) ([.ref hh, .int (nI ks)] : List Value).toArray s 0 0 (fun _ => False)) (F0 m 4 ls []) := by
    intro r4
    induction r4 with
    | zero =>
      intro j4 kn hrj hkn hz4 ls hl
      rw [fX0_knitterOf_L4] at hz4
      subst hz4
      try dsimp only at hF
      refine lv_iload_n hx hb dX0_knitterOf_4 rfl (lv_at hl 0 rfl) ?_
      refine lv_iconst (v := (4 : Int32)) hx hb dX0_knitterOf_5 (by decide) ?_
      refine kx_ge hx hb (j4) (4) rfl rfl (by omega) (by omega) dX0_knitterOf_6 (by decide) (tgt := 36) (fun c6 => ?_) (fun c6 => absurd c6 (by omega))
      refine lv_iconst (v := (1 : Int32)) hx hb dX0_knitterOf_36 (by decide) ?_
      refine lv_istore_n (lv' := [(3, .int (1 : Int32)), (2, .int (nI kn)), (0, .ref hh), (1, .int (nI ks))]) hx hb dX0_knitterOf_37 rfl hl (by decide) rfl (fun ls hl => ?_)
      generalize hz38 : fX0_knitterOf_L38 ch ((ks + 1) - 1) 1 kn = z38 at hF
      have LP38 : ∀ (r38 : Nat) (j38 : Nat) (km : Nat), r38 + j38 = ks + 1 → (km < 4) → fX0_knitterOf_L38 ch r38 j38 km = z38 → ∀ (ls : Array Slot), lv_has ls 4 [(3, .int (nI j38)), (2, .int (nI km)), (0, .ref hh), (1, .int (nI ks))] → W p l e (headSpec wsX0_knitterOf ({ frames := 3, cells := 0, slots := 0, locals := 68 } : Room)).room s m ([.ref hh, .int (nI ks)] : List Value).toArray below meth c s.heap [] 0 0 (MQ below (k2_QcV (.int (nI r))) ([.ref hh, .int (nI ks)] : List Value).toArray s 0 0 (fun _ => False)) (F0 m 38 ls []) := by
        intro r38
        induction r38 with
        | zero =>
          intro j38 km hrj hkm hz38 ls hl
          rw [fX0_knitterOf_L38] at hz38
          subst hz38
          try dsimp only at hF
          refine lv_iload_n hx hb dX0_knitterOf_38 rfl (lv_at hl 0 rfl) ?_
          refine lv_iload_n hx hb dX0_knitterOf_39 rfl (lv_at hl 3 rfl) ?_
          refine kx_gt hx hb (j38) (ks) rfl rfl (by omega) (by omega) dX0_knitterOf_40 (by decide) (tgt := 56) (fun c40 => ?_) (fun c40 => absurd c40 (by omega))
          refine lv_iload_n hx hb dX0_knitterOf_56 rfl (lv_at hl 1 rfl) ?_
          exact W.iret hx hb hr (fun t ht _ => ⟨congrArg (fun z => Outcome.returned (some (Value.int (nI z)))) hF, ht⟩) (fun _ h => absurd h List.not_mem_nil) dX0_knitterOf_57
        | succ r38 ih =>
          intro j38 km hrj hkm hz38 ls hl
          rw [fX0_knitterOf_L38] at hz38
          refine lv_iload_n hx hb dX0_knitterOf_38 rfl (lv_at hl 0 rfl) ?_
          refine lv_iload_n hx hb dX0_knitterOf_39 rfl (lv_at hl 3 rfl) ?_
          refine kx_gt hx hb (j38) (ks) rfl rfl (by omega) (by omega) dX0_knitterOf_40 (by decide) (tgt := 56) (fun c40 => absurd c40 (by omega)) (fun c40 => ?_)
          refine lv_aload_n hx hb dX0_knitterOf_43 rfl (lv_at hl 2 rfl) ?_
          refine lv_iload_n hx hb dX0_knitterOf_44 rfl (lv_at hl 0 rfl) ?_
          refine lv_iload_n hx hb dX0_knitterOf_45 rfl (lv_at hl 1 rfl) ?_
          refine kx_cV (As := [.int (nI j38), .int (nI km)]) (rest := []) ⟨hx, hb, hml, hown, hts⟩ (c_X0_leastAfter l dC dI cyI cyZ hh ac ch j38 km (by omega) _ rfl) (cwV 2 hts gX0_knitterOf_X0_leastAfter rfl rfl rfl (by decide +kernel) ⟨Nat.le_of_ble_eq_true rfl, Nat.le_of_ble_eq_true rfl⟩) hP hK hN [0, 1] rfl [0, 1] rfl 0 0 rfl rfl rfl rfl hl.1 rfl (Nat.le_of_ble_eq_true rfl) dX0_knitterOf_46 ⟨Nat.zero_le _, Nat.zero_le _⟩ ?_
          refine lv_istore_n (lv' := [(2, .int (nI ((fX0_leastAfter ch j38 km)))), (3, .int (nI j38)), (0, .ref hh), (1, .int (nI ks))]) hx hb dX0_knitterOf_49 rfl hl (by decide) rfl (fun ls hl => ?_)
          refine lv_iinc (v := (nI (j38 + 1))) (lv' := [(3, .int (nI (j38 + 1))), (2, .int (nI ((fX0_leastAfter ch j38 km)))), (0, .ref hh), (1, .int (nI ks))]) hx hb dX0_knitterOf_50 hl (k := 1) rfl (by exact nI_add (j38) 1) (by decide) rfl (fun ls hl => ?_)
          refine lv_goto (tgt := 38) hx hb dX0_knitterOf_53 (by decide) ?_
          exact ih (j38 + 1) (fX0_leastAfter ch j38 km) (by omega) (fX0_leastAfter_lt _ _ _) hz38 _ (lv_sub hl [0, 1, 2, 3] rfl)
      exact LP38 ((ks + 1) - 1) 1 kn (by omega) (by omega) hz38 _ (lv_sub hl [0, 1, 2, 3] rfl)
    | succ r4 ih =>
      intro j4 kn hrj hkn hz4 ls hl
      rw [fX0_knitterOf_L4] at hz4
      refine lv_iload_n hx hb dX0_knitterOf_4 rfl (lv_at hl 0 rfl) ?_
      refine lv_iconst (v := (4 : Int32)) hx hb dX0_knitterOf_5 (by decide) ?_
      refine kx_ge hx hb (j4) (4) rfl rfl (by omega) (by omega) dX0_knitterOf_6 (by decide) (tgt := 36) (fun c6 => absurd c6 (by omega)) (fun c6 => ?_)
      refine lv_aload_n hx hb dX0_knitterOf_9 rfl (lv_at hl 2 rfl) ?_
      refine va_get (D := (dC, dI)) (ci := 0) (v := .ref ac) (C := RX0) (T := TX0) (N := 1) hx hb hts hiX0 hown hK hP 0 rfl rfl 0 (by decide) fl9 (fun _ h9 => h9) rfl dX0_knitterOf_10 ?_
      refine lv_iload_n hx hb dX0_knitterOf_13 rfl (lv_at hl 0 rfl) ?_
      refine kx_cSN (As := [.ref ac, .int (nI j4)]) (rest := []) ⟨hx, hb, hml, hown, hts⟩ (c_X5_at l dC dI cyI cyZ ac ch 96 (nI j4) (by omega) _ rfl) ⟨va_cnB 2 hts gX0_knitterOf_X5_at_n30 rfl rfl rfl (hN (RX0, 30, yX5_at, RX5) (List.mem_of_getElem? (i := 14) rfl)) (hts (.initialized RX5) (by decide +kernel)) (by decide +kernel) ⟨Nat.le_of_ble_eq_true rfl, Nat.le_of_ble_eq_true rfl⟩, hts (.static yX5_at) (by decide +kernel), trivial⟩ hP hK hN [1] rfl [0, 1] rfl rfl hl.1 rfl (Nat.le_of_ble_eq_true rfl) dX0_knitterOf_14 ⟨Nat.zero_le _, Nat.zero_le _⟩ ?_
      refine lv_aload_n hx hb dX0_knitterOf_17 rfl (lv_at hl 2 rfl) ?_
      refine va_get (D := (dC, dI)) (ci := 0) (v := .ref ac) (C := RX0) (T := TX0) (N := 1) hx hb hts hiX0 hown hK hP 0 rfl rfl 0 (by decide) fl9 (fun _ h9 => h9) rfl dX0_knitterOf_18 ?_
      refine lv_iload_n hx hb dX0_knitterOf_21 rfl (lv_at hl 1 rfl) ?_
      refine kx_cSN (As := [.ref ac, .int (nI kn)]) (rest := [.int (fX5_at ch 96 (nI j4))]) ⟨hx, hb, hml, hown, hts⟩ (c_X5_at l dC dI cyI cyZ ac ch 96 (nI kn) (by omega) _ rfl) ⟨va_cnB 2 hts gX0_knitterOf_X5_at_n30 rfl rfl rfl (hN (RX0, 30, yX5_at, RX5) (List.mem_of_getElem? (i := 14) rfl)) (hts (.initialized RX5) (by decide +kernel)) (by decide +kernel) ⟨Nat.le_of_ble_eq_true rfl, Nat.le_of_ble_eq_true rfl⟩, hts (.static yX5_at) (by decide +kernel), trivial⟩ hP hK hN [1] rfl [0, 1] rfl rfl hl.1 rfl (Nat.le_of_ble_eq_true rfl) dX0_knitterOf_22 ⟨Nat.zero_le _, Nat.zero_le _⟩ ?_
      refine lv_icmp_ge (tgt := 30) hx hb dX0_knitterOf_25 (by decide) (fun c25 => ?_) (fun c25 => ?_)
      · rw [if_pos c25] at hz4
        refine lv_iinc (v := (nI (j4 + 1))) (lv' := [(3, .int (nI (j4 + 1))), (2, .int (nI kn)), (0, .ref hh), (1, .int (nI ks))]) hx hb dX0_knitterOf_30 hl (k := 0) rfl (by exact nI_add (j4) 1) (by decide) rfl (fun ls hl => ?_)
        refine lv_goto (tgt := 4) hx hb dX0_knitterOf_33 (by decide) ?_
        exact ih (j4 + 1) kn (by omega) (by omega) hz4 _ (lv_sub hl [0, 1, 2, 3] rfl)
      · rw [if_neg c25] at hz4
        refine lv_iload_n hx hb dX0_knitterOf_28 rfl (lv_at hl 0 rfl) ?_
        refine lv_istore_n (lv' := [(2, .int (nI j4)), (3, .int (nI j4)), (0, .ref hh), (1, .int (nI ks))]) hx hb dX0_knitterOf_29 rfl hl (by decide) rfl (fun ls hl => ?_)
        refine lv_iinc (v := (nI (j4 + 1))) (lv' := [(3, .int (nI (j4 + 1))), (2, .int (nI j4)), (0, .ref hh), (1, .int (nI ks))]) hx hb dX0_knitterOf_30 hl (k := 1) rfl (by exact nI_add (j4) 1) (by decide) rfl (fun ls hl => ?_)
        refine lv_goto (tgt := 4) hx hb dX0_knitterOf_33 (by decide) ?_
        exact ih (j4 + 1) j4 (by omega) (by omega) hz4 _ (lv_sub hl [0, 1, 2, 3] rfl)
  exact LP4 (4 - 1) 1 0 (by omega) (by omega) hz4 _ (lv_sub hl [0, 1, 2, 3] rfl)
