def fX5_pull (n : Nat) (an : Nat → Int32) (k : Int32) : Int32 :=
  (if (fX2_has n k) = 0 then (-1 : Int32) else (nI ((pcN (fX2_undoneWith n an k.toNatClampNeg)))))
set_option maxHeartbeats 4000000 in
set_option maxRecDepth 100000 in
theorem c_X5_pull (l : Launch) (dC : Nat → ClassId) (dI : Nat → Nat → Nat) (cyI cyZ : ClassId) (hkc ht ht1 ht2 hp htr hh as hs ak a0 a1 a2 : Nat) (kp : Int32) (si : Nat) (fi : Int32) (n : Nat) (ea : Int32) (co : Nat → Int32) (ti : Nat → Int32) (an : Nat → Int32) (k : Int32) (hn : n ≤ 24) (r : Int32) (hF : fX5_pull n an k = r) : Met l yX5_pull wsX5_pull ({ frames := 2, cells := 0, slots := 0, locals := 44 }) (kx_rp (dC, dI) [(hkc, .inr (5, [.ref ht, .ref ht1, .ref ht2, .int kp, .ref hp, .ref htr, .ref hh, .ref as])), (ht, .inr (3, [.ref hs, .ref ak, .int (nI si), .int fi])), (hs, .inr (2, [.ref a0, .ref a1, .ref a2, .int (nI n), .int ea])), (a0, .inl (cyI, 24, .inl co)), (a1, .inl (cyI, 24, .inl ti)), (a2, .inl (cyI, 24, .inl an))] [(cyI, .int), (cyZ, .boolean)] [.ref hkc, .int k]) (k2_QcV (.int r)) 0 0 (fun _ => False) := by
  refine Met.ofW (cc := cX5_pull) (maxL := 2) (ret := (some .int)) (by decide) rfl ?_
  intro p e s m args below meth c s₁ B hml hv
  obtain ⟨rfl, hP, hK, hN⟩ := hv
  have hx := B.exec
  have hb := B.bytes
  have hr := B.returns
  have hts := atoms_spec (ws := wsX5_pull) B.pre
  have hown : s.vm.findClass RX5 = some m.cls := findClass_of_methodNamed B.named
  have hlocks := B.notSynchronized
  have hiX3 : ∀ w ∈ wsX30, w ∈ wsX5_pull := by decide +kernel
  have hiX5 : ∀ w ∈ wsX50, w ∈ wsX5_pull := by decide +kernel
  have fl10 := hts (.fieldLink RX5 10 "KnitChronicle" "town" "LKnitChronicle$Town;") (by decide +kernel)
  have fl47 := hts (.fieldLink RX5 47 "KnitChronicle$Town" "scarf" "LKnitChronicle$Scarf;") (by decide +kernel)
  have hl := lv_entry ([.ref hkc, .int k]) (n := 2) (Nat.le_of_ble_eq_true rfl)
  rw [lg_entry_eq]
  generalize (lg_sl ([.ref hkc, .int k]) ++ List.replicate (2 - (lg_sl ([.ref hkc, .int k])).length) Slot.unset).toArray = ls at hl ⊢
  have hl : lv_has ls 2 [(0, .ref hkc), (1, .int k)] := hl
  unfold fX5_pull at hF
  refine lv_aload_n hx hb dX5_pull_0 rfl (lv_at hl 0 rfl) ?_
  refine va_get (D := (dC, dI)) (ci := 5) (v := .ref ht) (C := RX5) (T := TX5) (N := 8) hx hb hts hiX5 hown hK hP 0 rfl rfl 0 (by decide) fl10 (fun _ h9 => h9) rfl dX5_pull_1 ?_
  refine va_get (D := (dC, dI)) (ci := 3) (v := .ref hs) (C := RX3) (T := TX3) (N := 4) hx hb hts hiX3 hown hK hP 1 rfl rfl 0 (by decide) fl47 (fun _ h9 => h9) rfl dX5_pull_4 ?_
  refine lv_iload_n hx hb dX5_pull_7 rfl (lv_at hl 1 rfl) ?_
  refine kx_cV (As := [.int k]) (rest := []) ⟨hx, hb, hml, hown, hts⟩ (c_X2_has l dC dI cyI cyZ hs a0 a1 a2 n ea co ti an k  _ rfl) (cwV 1 hts gX5_pull_X2_has rfl rfl rfl (by decide +kernel) ⟨Nat.le_of_ble_eq_true rfl, Nat.le_of_ble_eq_true rfl⟩) hP hK hN [2, 3, 4, 5] rfl [0, 1] rfl 2 2 rfl rfl rfl rfl hl.1 rfl (Nat.le_of_ble_eq_true rfl) dX5_pull_8 ⟨Nat.zero_le _, Nat.zero_le _⟩ ?_
  refine lv_if_ne (tgt := 16) hx hb dX5_pull_11 (by decide) (fun c11 => ?_) (fun c11 => ?_)
  · rw [if_neg c11] at hF
    obtain ⟨hk1, hk2⟩ := kx_has (by omega) c11
    refine lv_aload_n hx hb dX5_pull_16 rfl (lv_at hl 0 rfl) ?_
    refine va_get (D := (dC, dI)) (ci := 5) (v := .ref ht) (C := RX5) (T := TX5) (N := 8) hx hb hts hiX5 hown hK hP 0 rfl rfl 0 (by decide) fl10 (fun _ h9 => h9) rfl dX5_pull_17 ?_
    refine va_get (D := (dC, dI)) (ci := 3) (v := .ref hs) (C := RX3) (T := TX3) (N := 4) hx hb hts hiX3 hown hK hP 1 rfl rfl 0 (by decide) fl47 (fun _ h9 => h9) rfl dX5_pull_20 ?_
    refine lv_iload_n hx hb dX5_pull_23 rfl (lv_at hl 1 rfl) ?_
    refine kx_e hk1 ?_
    refine kx_cV (As := [.int (nI (k.toNatClampNeg))]) (rest := []) ⟨hx, hb, hml, hown, hts⟩ (c_X2_undoneWith l dC dI cyI cyZ hs a0 a1 a2 n ea co ti an k.toNatClampNeg (by omega) (by omega) _ rfl) (cwV 1 hts gX5_pull_X2_undoneWith rfl rfl rfl (by decide +kernel) ⟨Nat.le_of_ble_eq_true rfl, Nat.le_of_ble_eq_true rfl⟩) hP hK hN [2, 3, 4, 5] rfl [0, 1] rfl 2 2 rfl rfl rfl rfl hl.1 rfl (Nat.le_of_ble_eq_true rfl) dX5_pull_24 ⟨Nat.zero_le _, Nat.zero_le _⟩ ?_
    refine kx_cS (As := [.int (fX2_undoneWith n an k.toNatClampNeg)]) (rest := []) ⟨hx, hb, hml, hown, hts⟩ (c_J6_bitCount_0f7a4 l dC dI cyI cyZ  (fX2_undoneWith n an k.toNatClampNeg)  _ rfl) (va_cwS 1 hts gX5_pull_J6_bitCount_0f7a4 rfl rfl rfl (by decide +kernel) ⟨Nat.le_of_ble_eq_true rfl, Nat.le_of_ble_eq_true rfl⟩) hP hK hN [] rfl [0, 1] rfl rfl hl.1 rfl (Nat.le_of_ble_eq_true rfl) dX5_pull_27 ⟨Nat.zero_le _, Nat.zero_le _⟩ ?_
    refine kx_e (pcN_eq _) ?_
    have hpc27 := pcN_lt (fX2_undoneWith n an k.toNatClampNeg)
    exact W.iret hx hb hr (fun t ht _ => ⟨congrArg (fun z => Outcome.returned (some (Value.int z))) hF, ht⟩) (fun _ h => absurd h List.not_mem_nil) dX5_pull_30
  · rw [if_pos c11] at hF
    refine lv_iconst (v := (-1 : Int32)) hx hb dX5_pull_14 (by decide) ?_
    exact W.iret hx hb hr (fun t ht _ => ⟨congrArg (fun z => Outcome.returned (some (Value.int z))) hF, ht⟩) (fun _ h => absurd h List.not_mem_nil) dX5_pull_15

def fX5_pulls (n : Nat) (an : Nat → Int32) (go : Int32) (sy : Int32) (wh : Int32) : Int32 :=
  (if (fX2_hasAll n go) = 0 then (-1 : Int32) else (if (fX2_hasAll n sy) = 0 then (-1 : Int32) else (if (fX5_isBelow wh (2 : Int32)) = 0 then (-2 : Int32) else (if (go &&& (fX2_withAnchors n an sy)) = 0 then (if wh = 0 then (nI ((pcN (fX2_topmostBelow n an go (fX2_withAnchors n an sy))))) else (fX2_topmostBelow n an go (fX2_withAnchors n an sy))) else (-6 : Int32)))))
set_option maxHeartbeats 4000000 in
set_option maxRecDepth 100000 in
theorem c_X5_pulls (l : Launch) (dC : Nat → ClassId) (dI : Nat → Nat → Nat) (cyI cyZ : ClassId) (hkc ht ht1 ht2 hp htr hh as hs ak a0 a1 a2 : Nat) (kp : Int32) (si : Nat) (fi : Int32) (n : Nat) (ea : Int32) (co : Nat → Int32) (ti : Nat → Int32) (an : Nat → Int32) (go : Int32) (sy : Int32) (wh : Int32) (hn : n ≤ 24) (r : Int32) (hF : fX5_pulls n an go sy wh = r) : Met l yX5_pulls wsX5_pulls ({ frames := 3, cells := 0, slots := 0, locals := 69 }) (kx_rp (dC, dI) [(hkc, .inr (5, [.ref ht, .ref ht1, .ref ht2, .int kp, .ref hp, .ref htr, .ref hh, .ref as])), (ht, .inr (3, [.ref hs, .ref ak, .int (nI si), .int fi])), (hs, .inr (2, [.ref a0, .ref a1, .ref a2, .int (nI n), .int ea])), (a0, .inl (cyI, 24, .inl co)), (a1, .inl (cyI, 24, .inl ti)), (a2, .inl (cyI, 24, .inl an))] [(cyI, .int), (cyZ, .boolean)] [.ref hkc, .int go, .int sy, .int wh]) (k2_QcV (.int r)) 0 0 (fun _ => False) := by
  refine Met.ofW (cc := cX5_pulls) (maxL := 7) (ret := (some .int)) (by decide) rfl ?_
  intro p e s m args below meth c s₁ B hml hv
  obtain ⟨rfl, hP, hK, hN⟩ := hv
  have hx := B.exec
  have hb := B.bytes
  have hr := B.returns
  have hts := atoms_spec (ws := wsX5_pulls) B.pre
  have hown : s.vm.findClass RX5 = some m.cls := findClass_of_methodNamed B.named
  have hlocks := B.notSynchronized
  have hiX3 : ∀ w ∈ wsX30, w ∈ wsX5_pulls := by decide +kernel
  have hiX5 : ∀ w ∈ wsX50, w ∈ wsX5_pulls := by decide +kernel
  have fl10 := hts (.fieldLink RX5 10 "KnitChronicle" "town" "LKnitChronicle$Town;") (by decide +kernel)
  have fl47 := hts (.fieldLink RX5 47 "KnitChronicle$Town" "scarf" "LKnitChronicle$Scarf;") (by decide +kernel)
  have hl := lv_entry ([.ref hkc, .int go, .int sy, .int wh]) (n := 7) (Nat.le_of_ble_eq_true rfl)
  rw [lg_entry_eq]
  generalize (lg_sl ([.ref hkc, .int go, .int sy, .int wh]) ++ List.replicate (7 - (lg_sl ([.ref hkc, .int go, .int sy, .int wh])).length) Slot.unset).toArray = ls at hl ⊢
  have hl : lv_has ls 7 [(0, .ref hkc), (1, .int go), (2, .int sy), (3, .int wh)] := hl
  unfold fX5_pulls at hF
  refine lv_aload_n hx hb dX5_pulls_0 rfl (lv_at hl 0 rfl) ?_
  refine va_get (D := (dC, dI)) (ci := 5) (v := .ref ht) (C := RX5) (T := TX5) (N := 8) hx hb hts hiX5 hown hK hP 0 rfl rfl 0 (by decide) fl10 (fun _ h9 => h9) rfl dX5_pulls_1 ?_
  refine va_get (D := (dC, dI)) (ci := 3) (v := .ref hs) (C := RX3) (T := TX3) (N := 4) hx hb hts hiX3 hown hK hP 1 rfl rfl 0 (by decide) fl47 (fun _ h9 => h9) rfl dX5_pulls_4 ?_
  refine lv_astore (lv' := [(4, .ref hs), (0, .ref hkc), (1, .int go), (2, .int sy), (3, .int wh)]) hx hb dX5_pulls_7 hl (by decide) rfl (fun ls hl => ?_)
  refine lv_aload hx hb dX5_pulls_9 (lv_at hl 0 rfl) ?_
  refine lv_iload_n hx hb dX5_pulls_11 rfl (lv_at hl 2 rfl) ?_
  refine kx_cV (As := [.int go]) (rest := []) ⟨hx, hb, hml, hown, hts⟩ (c_X2_hasAll l dC dI cyI cyZ hs a0 a1 a2 n ea co ti an go  _ rfl) (cwV 1 hts gX5_pulls_X2_hasAll rfl rfl rfl (by decide +kernel) ⟨Nat.le_of_ble_eq_true rfl, Nat.le_of_ble_eq_true rfl⟩) hP hK hN [2, 3, 4, 5] rfl [0, 1] rfl 2 2 rfl rfl rfl rfl hl.1 rfl (Nat.le_of_ble_eq_true rfl) dX5_pulls_12 ⟨Nat.zero_le _, Nat.zero_le _⟩ ?_
  refine lv_if_eq (tgt := 27) hx hb dX5_pulls_15 (by decide) (fun c15 => ?_) (fun c15 => ?_)
  · rw [if_pos c15] at hF
    refine lv_iconst (v := (-1 : Int32)) hx hb dX5_pulls_27 (by decide) ?_
    exact W.iret hx hb hr (fun t ht _ => ⟨congrArg (fun z => Outcome.returned (some (Value.int z))) hF, ht⟩) (fun _ h => absurd h List.not_mem_nil) dX5_pulls_28
  · rw [if_neg c15] at hF
    refine lv_aload hx hb dX5_pulls_18 (lv_at hl 0 rfl) ?_
    refine lv_iload_n hx hb dX5_pulls_20 rfl (lv_at hl 3 rfl) ?_
    refine kx_cV (As := [.int sy]) (rest := []) ⟨hx, hb, hml, hown, hts⟩ (c_X2_hasAll l dC dI cyI cyZ hs a0 a1 a2 n ea co ti an sy  _ rfl) (cwV 1 hts gX5_pulls_X2_hasAll rfl rfl rfl (by decide +kernel) ⟨Nat.le_of_ble_eq_true rfl, Nat.le_of_ble_eq_true rfl⟩) hP hK hN [2, 3, 4, 5] rfl [0, 1] rfl 2 2 rfl rfl rfl rfl hl.1 rfl (Nat.le_of_ble_eq_true rfl) dX5_pulls_21 ⟨Nat.zero_le _, Nat.zero_le _⟩ ?_
    refine lv_if_ne (tgt := 29) hx hb dX5_pulls_24 (by decide) (fun c24 => ?_) (fun c24 => ?_)
    · rw [if_neg c24] at hF
      refine lv_iload_n hx hb dX5_pulls_29 rfl (lv_at hl 4 rfl) ?_
      refine lv_iconst (v := (2 : Int32)) hx hb dX5_pulls_30 (by decide) ?_
      refine kx_cS (As := [.int wh, .int (2 : Int32)]) (rest := []) ⟨hx, hb, hml, hown, hts⟩ (c_X5_isBelow l dC dI cyI cyZ  wh (2 : Int32)  _ rfl) (va_cwS 2 hts gX5_pulls_X5_isBelow rfl rfl rfl (by decide +kernel) ⟨Nat.le_of_ble_eq_true rfl, Nat.le_of_ble_eq_true rfl⟩) hP hK hN [] rfl [0, 1] rfl rfl hl.1 rfl (Nat.le_of_ble_eq_true rfl) dX5_pulls_31 ⟨Nat.zero_le _, Nat.zero_le _⟩ ?_
      refine lv_if_ne (tgt := 40) hx hb dX5_pulls_34 (by decide) (fun c34 => ?_) (fun c34 => ?_)
      · rw [if_neg c34] at hF
        refine lv_aload hx hb dX5_pulls_40 (lv_at hl 0 rfl) ?_
        refine lv_iload_n hx hb dX5_pulls_42 rfl (lv_at hl 3 rfl) ?_
        refine kx_cV (As := [.int sy]) (rest := []) ⟨hx, hb, hml, hown, hts⟩ (c_X2_withAnchors l dC dI cyI cyZ hs a0 a1 a2 n ea co ti an sy (by omega) _ rfl) (cwV 1 hts gX5_pulls_X2_withAnchors rfl rfl rfl (by decide +kernel) ⟨Nat.le_of_ble_eq_true rfl, Nat.le_of_ble_eq_true rfl⟩) hP hK hN [2, 3, 4, 5] rfl [0, 1] rfl 2 2 rfl rfl rfl rfl hl.1 rfl (Nat.le_of_ble_eq_true rfl) dX5_pulls_43 ⟨Nat.zero_le _, Nat.zero_le _⟩ ?_
        refine lv_istore (lv' := [(5, .int (fX2_withAnchors n an sy)), (4, .ref hs), (0, .ref hkc), (1, .int go), (2, .int sy), (3, .int wh)]) hx hb dX5_pulls_46 hl (by decide) rfl (fun ls hl => ?_)
        refine lv_iload_n hx hb dX5_pulls_48 rfl (lv_at hl 3 rfl) ?_
        refine lv_iload hx hb dX5_pulls_49 (lv_at hl 0 rfl) ?_
        refine lv_iand hx hb dX5_pulls_51 ?_
        refine lv_if_eq (tgt := 58) hx hb dX5_pulls_52 (by decide) (fun c52 => ?_) (fun c52 => ?_)
        · rw [if_pos c52] at hF
          refine lv_aload hx hb dX5_pulls_58 (lv_at hl 1 rfl) ?_
          refine lv_iload_n hx hb dX5_pulls_60 rfl (lv_at hl 3 rfl) ?_
          refine lv_iload hx hb dX5_pulls_61 (lv_at hl 0 rfl) ?_
          refine kx_cV (As := [.int go, .int (fX2_withAnchors n an sy)]) (rest := []) ⟨hx, hb, hml, hown, hts⟩ (c_X2_topmostBelow l dC dI cyI cyZ hs a0 a1 a2 n ea co ti an go (fX2_withAnchors n an sy) (by omega) _ rfl) (cwV 2 hts gX5_pulls_X2_topmostBelow rfl rfl rfl (by decide +kernel) ⟨Nat.le_of_ble_eq_true rfl, Nat.le_of_ble_eq_true rfl⟩) hP hK hN [2, 3, 4, 5] rfl [0, 1] rfl 2 2 rfl rfl rfl rfl hl.1 rfl (Nat.le_of_ble_eq_true rfl) dX5_pulls_63 ⟨Nat.zero_le _, Nat.zero_le _⟩ ?_
          refine lv_istore (lv' := [(6, .int (fX2_topmostBelow n an go (fX2_withAnchors n an sy))), (5, .int (fX2_withAnchors n an sy)), (4, .ref hs), (0, .ref hkc), (1, .int go), (2, .int sy), (3, .int wh)]) hx hb dX5_pulls_66 hl (by decide) rfl (fun ls hl => ?_)
          refine lv_iload_n hx hb dX5_pulls_68 rfl (lv_at hl 6 rfl) ?_
          refine lv_if_ne (tgt := 80) hx hb dX5_pulls_69 (by decide) (fun c69 => ?_) (fun c69 => ?_)
          · rw [if_neg c69] at hF
            refine lv_iload hx hb dX5_pulls_80 (lv_at hl 0 rfl) ?_
            exact W.iret hx hb hr (fun t ht _ => ⟨congrArg (fun z => Outcome.returned (some (Value.int z))) hF, ht⟩) (fun _ h => absurd h List.not_mem_nil) dX5_pulls_82
          · rw [if_pos c69] at hF
            refine lv_iload hx hb dX5_pulls_72 (lv_at hl 0 rfl) ?_
            refine kx_cS (As := [.int (fX2_topmostBelow n an go (fX2_withAnchors n an sy))]) (rest := []) ⟨hx, hb, hml, hown, hts⟩ (c_J6_bitCount_0f7a4 l dC dI cyI cyZ  (fX2_topmostBelow n an go (fX2_withAnchors n an sy))  _ rfl) (va_cwS 1 hts gX5_pulls_J6_bitCount_0f7a4 rfl rfl rfl (by decide +kernel) ⟨Nat.le_of_ble_eq_true rfl, Nat.le_of_ble_eq_true rfl⟩) hP hK hN [] rfl [0, 1] rfl rfl hl.1 rfl (Nat.le_of_ble_eq_true rfl) dX5_pulls_74 ⟨Nat.zero_le _, Nat.zero_le _⟩ ?_
            refine kx_e (pcN_eq _) ?_
            have hpc74 := pcN_lt (fX2_topmostBelow n an go (fX2_withAnchors n an sy))
            refine lv_goto (tgt := 82) hx hb dX5_pulls_77 (by decide) ?_
            exact W.iret hx hb hr (fun t ht _ => ⟨congrArg (fun z => Outcome.returned (some (Value.int z))) hF, ht⟩) (fun _ h => absurd h List.not_mem_nil) dX5_pulls_82
        · rw [if_neg c52] at hF
          refine lv_bipush (v := (-6 : Int32)) hx hb dX5_pulls_55 (by decide) ?_
          exact W.iret hx hb hr (fun t ht _ => ⟨congrArg (fun z => Outcome.returned (some (Value.int z))) hF, ht⟩) (fun _ h => absurd h List.not_mem_nil) dX5_pulls_57
      · rw [if_pos c34] at hF
        refine lv_bipush (v := (-2 : Int32)) hx hb dX5_pulls_37 (by decide) ?_
        exact W.iret hx hb hr (fun t ht _ => ⟨congrArg (fun z => Outcome.returned (some (Value.int z))) hF, ht⟩) (fun _ h => absurd h List.not_mem_nil) dX5_pulls_39
    · rw [if_pos c24] at hF
      refine lv_iconst (v := (-1 : Int32)) hx hb dX5_pulls_27 (by decide) ?_
      exact W.iret hx hb hr (fun t ht _ => ⟨congrArg (fun z => Outcome.returned (some (Value.int z))) hF, ht⟩) (fun _ h => absurd h List.not_mem_nil) dX5_pulls_28

def fX5_pattern (n : Nat) (ea : Int32) (co : Nat → Int32) : Int32 :=
  (fX2_shortestPattern n ea co)
set_option maxHeartbeats 4000000 in
set_option maxRecDepth 100000 in
theorem c_X5_pattern (l : Launch) (dC : Nat → ClassId) (dI : Nat → Nat → Nat) (cyI cyZ : ClassId) (hkc ht ht1 ht2 hp htr hh as hs ak a0 a1 a2 : Nat) (kp : Int32) (si : Nat) (fi : Int32) (n : Nat) (ea : Int32) (co : Nat → Int32) (ti : Nat → Int32) (an : Nat → Int32) (hn : n ≤ 24) (r : Int32) (hF : fX5_pattern n ea co = r) : Met l yX5_pattern wsX5_pattern ({ frames := 5, cells := 0, slots := 0, locals := 109 }) (kx_rp (dC, dI) [(hkc, .inr (5, [.ref ht, .ref ht1, .ref ht2, .int kp, .ref hp, .ref htr, .ref hh, .ref as])), (ht, .inr (3, [.ref hs, .ref ak, .int (nI si), .int fi])), (hs, .inr (2, [.ref a0, .ref a1, .ref a2, .int (nI n), .int ea])), (a0, .inl (cyI, 24, .inl co)), (a1, .inl (cyI, 24, .inl ti)), (a2, .inl (cyI, 24, .inl an))] [(cyI, .int), (cyZ, .boolean)] [.ref hkc]) (k2_QcV (.int r)) 0 0 (fun _ => False) := by
  refine Met.ofW (cc := cX5_pattern) (maxL := 1) (ret := (some .int)) (by decide) rfl ?_
  intro p e s m args below meth c s₁ B hml hv
  obtain ⟨rfl, hP, hK, hN⟩ := hv
  have hx := B.exec
  have hb := B.bytes
  have hr := B.returns
  have hts := atoms_spec (ws := wsX5_pattern) B.pre
  have hown : s.vm.findClass RX5 = some m.cls := findClass_of_methodNamed B.named
  have hlocks := B.notSynchronized
  have hiX3 : ∀ w ∈ wsX30, w ∈ wsX5_pattern := by decide +kernel
  have hiX5 : ∀ w ∈ wsX50, w ∈ wsX5_pattern := by decide +kernel
  have fl10 := hts (.fieldLink RX5 10 "KnitChronicle" "town" "LKnitChronicle$Town;") (by decide +kernel)
  have fl47 := hts (.fieldLink RX5 47 "KnitChronicle$Town" "scarf" "LKnitChronicle$Scarf;") (by decide +kernel)
  have hl := lv_entry ([.ref hkc]) (n := 1) (Nat.le_of_ble_eq_true rfl)
  rw [lg_entry_eq]
  generalize (lg_sl ([.ref hkc]) ++ List.replicate (1 - (lg_sl ([.ref hkc])).length) Slot.unset).toArray = ls at hl ⊢
  have hl : lv_has ls 1 [(0, .ref hkc)] := hl
  unfold fX5_pattern at hF
  refine lv_aload_n hx hb dX5_pattern_0 rfl (lv_at hl 0 rfl) ?_
  refine va_get (D := (dC, dI)) (ci := 5) (v := .ref ht) (C := RX5) (T := TX5) (N := 8) hx hb hts hiX5 hown hK hP 0 rfl rfl 0 (by decide) fl10 (fun _ h9 => h9) rfl dX5_pattern_1 ?_
  refine va_get (D := (dC, dI)) (ci := 3) (v := .ref hs) (C := RX3) (T := TX3) (N := 4) hx hb hts hiX3 hown hK hP 1 rfl rfl 0 (by decide) fl47 (fun _ h9 => h9) rfl dX5_pattern_4 ?_
  refine kx_cV (As := []) (rest := []) ⟨hx, hb, hml, hown, hts⟩ (c_X2_shortestPattern l dC dI cyI cyZ hs a0 a1 a2 n ea co ti an (by omega) _ rfl) (cwV 0 hts gX5_pattern_X2_shortestPattern rfl rfl rfl (by decide +kernel) ⟨Nat.le_of_ble_eq_true rfl, Nat.le_of_ble_eq_true rfl⟩) hP hK hN [2, 3, 4, 5] rfl [0, 1] rfl 2 2 rfl rfl rfl rfl hl.1 rfl (Nat.le_of_ble_eq_true rfl) dX5_pattern_7 ⟨Nat.zero_le _, Nat.zero_le _⟩ ?_
  exact W.iret hx hb hr (fun t ht _ => ⟨congrArg (fun z => Outcome.returned (some (Value.int z))) hF, ht⟩) (fun _ h => absurd h List.not_mem_nil) dX5_pattern_10

def fX5_hole (n : Nat) (ea : Int32) (co : Nat → Int32) (k : Int32) : Int32 :=
  (if (fX2_has n k) = 0 then (-1 : Int32) else (if (fX2_isEaten ea k) = 0 then (-3 : Int32) else (fX2_coloursOfHole n ea co k)))
set_option maxHeartbeats 4000000 in
set_option maxRecDepth 100000 in
theorem c_X5_hole (l : Launch) (dC : Nat → ClassId) (dI : Nat → Nat → Nat) (cyI cyZ : ClassId) (hkc ht ht1 ht2 hp htr hh as hs ak a0 a1 a2 : Nat) (kp : Int32) (si : Nat) (fi : Int32) (n : Nat) (ea : Int32) (co : Nat → Int32) (ti : Nat → Int32) (an : Nat → Int32) (k : Int32) (hn : n ≤ 24) (r : Int32) (hF : fX5_hole n ea co k = r) : Met l yX5_hole wsX5_hole ({ frames := 6, cells := 0, slots := 0, locals := 132 }) (kx_rp (dC, dI) [(hkc, .inr (5, [.ref ht, .ref ht1, .ref ht2, .int kp, .ref hp, .ref htr, .ref hh, .ref as])), (ht, .inr (3, [.ref hs, .ref ak, .int (nI si), .int fi])), (hs, .inr (2, [.ref a0, .ref a1, .ref a2, .int (nI n), .int ea])), (a0, .inl (cyI, 24, .inl co)), (a1, .inl (cyI, 24, .inl ti)), (a2, .inl (cyI, 24, .inl an))] [(cyI, .int), (cyZ, .boolean)] [.ref hkc, .int k]) (k2_QcV (.int r)) 0 0 (fun _ => False) := by
  refine Met.ofW (cc := cX5_hole) (maxL := 2) (ret := (some .int)) (by decide) rfl ?_
  intro p e s m args below meth c s₁ B hml hv
  obtain ⟨rfl, hP, hK, hN⟩ := hv
  have hx := B.exec
  have hb := B.bytes
  have hr := B.returns
  have hts := atoms_spec (ws := wsX5_hole) B.pre
  have hown : s.vm.findClass RX5 = some m.cls := findClass_of_methodNamed B.named
  have hlocks := B.notSynchronized
  have hiX3 : ∀ w ∈ wsX30, w ∈ wsX5_hole := by decide +kernel
  have hiX5 : ∀ w ∈ wsX50, w ∈ wsX5_hole := by decide +kernel
  have fl10 := hts (.fieldLink RX5 10 "KnitChronicle" "town" "LKnitChronicle$Town;") (by decide +kernel)
  have fl47 := hts (.fieldLink RX5 47 "KnitChronicle$Town" "scarf" "LKnitChronicle$Scarf;") (by decide +kernel)
  have hl := lv_entry ([.ref hkc, .int k]) (n := 2) (Nat.le_of_ble_eq_true rfl)
  rw [lg_entry_eq]
  generalize (lg_sl ([.ref hkc, .int k]) ++ List.replicate (2 - (lg_sl ([.ref hkc, .int k])).length) Slot.unset).toArray = ls at hl ⊢
  have hl : lv_has ls 2 [(0, .ref hkc), (1, .int k)] := hl
  unfold fX5_hole at hF
  refine lv_aload_n hx hb dX5_hole_0 rfl (lv_at hl 0 rfl) ?_
  refine va_get (D := (dC, dI)) (ci := 5) (v := .ref ht) (C := RX5) (T := TX5) (N := 8) hx hb hts hiX5 hown hK hP 0 rfl rfl 0 (by decide) fl10 (fun _ h9 => h9) rfl dX5_hole_1 ?_
  refine va_get (D := (dC, dI)) (ci := 3) (v := .ref hs) (C := RX3) (T := TX3) (N := 4) hx hb hts hiX3 hown hK hP 1 rfl rfl 0 (by decide) fl47 (fun _ h9 => h9) rfl dX5_hole_4 ?_
  refine lv_iload_n hx hb dX5_hole_7 rfl (lv_at hl 1 rfl) ?_
  refine kx_cV (As := [.int k]) (rest := []) ⟨hx, hb, hml, hown, hts⟩ (c_X2_has l dC dI cyI cyZ hs a0 a1 a2 n ea co ti an k  _ rfl) (cwV 1 hts gX5_hole_X2_has rfl rfl rfl (by decide +kernel) ⟨Nat.le_of_ble_eq_true rfl, Nat.le_of_ble_eq_true rfl⟩) hP hK hN [2, 3, 4, 5] rfl [0, 1] rfl 2 2 rfl rfl rfl rfl hl.1 rfl (Nat.le_of_ble_eq_true rfl) dX5_hole_8 ⟨Nat.zero_le _, Nat.zero_le _⟩ ?_
  refine lv_if_ne (tgt := 16) hx hb dX5_hole_11 (by decide) (fun c11 => ?_) (fun c11 => ?_)
  · rw [if_neg c11] at hF
    refine lv_aload_n hx hb dX5_hole_16 rfl (lv_at hl 0 rfl) ?_
    refine va_get (D := (dC, dI)) (ci := 5) (v := .ref ht) (C := RX5) (T := TX5) (N := 8) hx hb hts hiX5 hown hK hP 0 rfl rfl 0 (by decide) fl10 (fun _ h9 => h9) rfl dX5_hole_17 ?_
    refine va_get (D := (dC, dI)) (ci := 3) (v := .ref hs) (C := RX3) (T := TX3) (N := 4) hx hb hts hiX3 hown hK hP 1 rfl rfl 0 (by decide) fl47 (fun _ h9 => h9) rfl dX5_hole_20 ?_
    refine lv_iload_n hx hb dX5_hole_23 rfl (lv_at hl 1 rfl) ?_
    refine kx_cV (As := [.int k]) (rest := []) ⟨hx, hb, hml, hown, hts⟩ (c_X2_isEaten l dC dI cyI cyZ hs a0 a1 a2 n ea co ti an k  _ rfl) (cwV 1 hts gX5_hole_X2_isEaten rfl rfl rfl (by decide +kernel) ⟨Nat.le_of_ble_eq_true rfl, Nat.le_of_ble_eq_true rfl⟩) hP hK hN [2, 3, 4, 5] rfl [0, 1] rfl 2 2 rfl rfl rfl rfl hl.1 rfl (Nat.le_of_ble_eq_true rfl) dX5_hole_24 ⟨Nat.zero_le _, Nat.zero_le _⟩ ?_
    refine lv_if_ne (tgt := 33) hx hb dX5_hole_27 (by decide) (fun c27 => ?_) (fun c27 => ?_)
    · rw [if_neg c27] at hF
      refine lv_aload_n hx hb dX5_hole_33 rfl (lv_at hl 0 rfl) ?_
      refine va_get (D := (dC, dI)) (ci := 5) (v := .ref ht) (C := RX5) (T := TX5) (N := 8) hx hb hts hiX5 hown hK hP 0 rfl rfl 0 (by decide) fl10 (fun _ h9 => h9) rfl dX5_hole_34 ?_
      refine va_get (D := (dC, dI)) (ci := 3) (v := .ref hs) (C := RX3) (T := TX3) (N := 4) hx hb hts hiX3 hown hK hP 1 rfl rfl 0 (by decide) fl47 (fun _ h9 => h9) rfl dX5_hole_37 ?_
      refine lv_iload_n hx hb dX5_hole_40 rfl (lv_at hl 1 rfl) ?_
      refine kx_cV (As := [.int k]) (rest := []) ⟨hx, hb, hml, hown, hts⟩ (c_X2_coloursOfHole l dC dI cyI cyZ hs a0 a1 a2 n ea co ti an k (by omega) _ rfl) (cwV 1 hts gX5_hole_X2_coloursOfHole rfl rfl rfl (by decide +kernel) ⟨Nat.le_of_ble_eq_true rfl, Nat.le_of_ble_eq_true rfl⟩) hP hK hN [2, 3, 4, 5] rfl [0, 1] rfl 2 2 rfl rfl rfl rfl hl.1 rfl (Nat.le_of_ble_eq_true rfl) dX5_hole_41 ⟨Nat.zero_le _, Nat.zero_le _⟩ ?_
      exact W.iret hx hb hr (fun t ht _ => ⟨congrArg (fun z => Outcome.returned (some (Value.int z))) hF, ht⟩) (fun _ h => absurd h List.not_mem_nil) dX5_hole_44
    · rw [if_pos c27] at hF
      refine lv_bipush (v := (-3 : Int32)) hx hb dX5_hole_30 (by decide) ?_
      exact W.iret hx hb hr (fun t ht _ => ⟨congrArg (fun z => Outcome.returned (some (Value.int z))) hF, ht⟩) (fun _ h => absurd h List.not_mem_nil) dX5_hole_32
  · rw [if_pos c11] at hF
    refine lv_iconst (v := (-1 : Int32)) hx hb dX5_hole_14 (by decide) ?_
    exact W.iret hx hb hr (fun t ht _ => ⟨congrArg (fun z => Outcome.returned (some (Value.int z))) hF, ht⟩) (fun _ h => absurd h List.not_mem_nil) dX5_hole_15

def fX5_imageAt_0 (ht1 : Nat) : Nat :=
  ht1
set_option maxHeartbeats 4000000 in
set_option maxRecDepth 100000 in
theorem c_X5_imageAt_0 (l : Launch) (dC : Nat → ClassId) (dI : Nat → Nat → Nat) (cyI cyZ : ClassId) (hkc ht ht1 ht2 hp htr hh as : Nat) (kp : Int32) (kn : Int32) (hk0 : kn = 0) (r : Nat) (hF : fX5_imageAt_0 ht1 = r) : Met l yX5_imageAt wsX5_imageAt ({ frames := 0, cells := 0, slots := 0, locals := 0 }) (kx_rp (dC, dI) [(hkc, .inr (5, [.ref ht, .ref ht1, .ref ht2, .int kp, .ref hp, .ref htr, .ref hh, .ref as]))] [(cyI, .int), (cyZ, .boolean)] [.ref hkc, .int kn]) (k2_QcV (.ref r)) 0 0 (fun _ => False) := by
  refine Met.ofW (cc := cX5_imageAt) (maxL := 2) (ret := (some (.object "KnitChronicle$Town"))) (by decide) rfl ?_
  intro p e s m args below meth c s₁ B hml hv
  obtain ⟨rfl, hP, hK, hN⟩ := hv
  have hx := B.exec
  have hb := B.bytes
  have hr := B.returns
  have hts := atoms_spec (ws := wsX5_imageAt) B.pre
  have hown : s.vm.findClass RX5 = some m.cls := findClass_of_methodNamed B.named
  have hlocks := B.notSynchronized
  have hiX5 : ∀ w ∈ wsX50, w ∈ wsX5_imageAt := by decide +kernel
  have fl16 := hts (.fieldLink RX5 16 "KnitChronicle" "firstImage" "LKnitChronicle$Town;") (by decide +kernel)
  have hl := lv_entry ([.ref hkc, .int kn]) (n := 2) (Nat.le_of_ble_eq_true rfl)
  rw [lg_entry_eq]
  generalize (lg_sl ([.ref hkc, .int kn]) ++ List.replicate (2 - (lg_sl ([.ref hkc, .int kn])).length) Slot.unset).toArray = ls at hl ⊢
  have hl : lv_has ls 2 [(0, .ref hkc), (1, .int kn)] := hl
  unfold fX5_imageAt_0 at hF
  refine lv_iload_n hx hb dX5_imageAt_0 rfl (lv_at hl 1 rfl) ?_
  refine lv_if_ne (tgt := 11) hx hb dX5_imageAt_1 (by decide) (fun c1 => absurd c1 (fun z9 => z9 hk0)) (fun c1 => ?_)
  refine lv_aload_n hx hb dX5_imageAt_4 rfl (lv_at hl 0 rfl) ?_
  refine va_get (D := (dC, dI)) (ci := 5) (v := .ref ht1) (C := RX5) (T := TX5) (N := 8) hx hb hts hiX5 hown hK hP 0 rfl rfl 1 (by decide) fl16 (fun _ h9 => h9) rfl dX5_imageAt_5 ?_
  refine lv_goto (tgt := 15) hx hb dX5_imageAt_8 (by decide) ?_
  exact W.aret hx hb hr (Or.inl ⟨_, rfl⟩) (Or.inr ⟨_, rfl⟩) (fun t ht _ => ⟨congrArg (fun z => Outcome.returned (some (Value.ref z))) hF, ht⟩) (fun _ h => absurd h List.not_mem_nil) dX5_imageAt_15

def fX5_imageAt_1 (ht2 : Nat) : Nat :=
  ht2
set_option maxHeartbeats 4000000 in
set_option maxRecDepth 100000 in
theorem c_X5_imageAt_1 (l : Launch) (dC : Nat → ClassId) (dI : Nat → Nat → Nat) (cyI cyZ : ClassId) (hkc ht ht1 ht2 hp htr hh as : Nat) (kp : Int32) (kn : Int32) (hk0 : ¬ kn = 0) (r : Nat) (hF : fX5_imageAt_1 ht2 = r) : Met l yX5_imageAt wsX5_imageAt ({ frames := 0, cells := 0, slots := 0, locals := 0 }) (kx_rp (dC, dI) [(hkc, .inr (5, [.ref ht, .ref ht1, .ref ht2, .int kp, .ref hp, .ref htr, .ref hh, .ref as]))] [(cyI, .int), (cyZ, .boolean)] [.ref hkc, .int kn]) (k2_QcV (.ref r)) 0 0 (fun _ => False) := by
  refine Met.ofW (cc := cX5_imageAt) (maxL := 2) (ret := (some (.object "KnitChronicle$Town"))) (by decide) rfl ?_
  intro p e s m args below meth c s₁ B hml hv
  obtain ⟨rfl, hP, hK, hN⟩ := hv
  have hx := B.exec
  have hb := B.bytes
  have hr := B.returns
  have hts := atoms_spec (ws := wsX5_imageAt) B.pre
  have hown : s.vm.findClass RX5 = some m.cls := findClass_of_methodNamed B.named
  have hlocks := B.notSynchronized
  have hiX5 : ∀ w ∈ wsX50, w ∈ wsX5_imageAt := by decide +kernel
  have fl19 := hts (.fieldLink RX5 19 "KnitChronicle" "secondImage" "LKnitChronicle$Town;") (by decide +kernel)
  have hl := lv_entry ([.ref hkc, .int kn]) (n := 2) (Nat.le_of_ble_eq_true rfl)
  rw [lg_entry_eq]
  generalize (lg_sl ([.ref hkc, .int kn]) ++ List.replicate (2 - (lg_sl ([.ref hkc, .int kn])).length) Slot.unset).toArray = ls at hl ⊢
  have hl : lv_has ls 2 [(0, .ref hkc), (1, .int kn)] := hl
  unfold fX5_imageAt_1 at hF
  refine lv_iload_n hx hb dX5_imageAt_0 rfl (lv_at hl 1 rfl) ?_
  refine lv_if_ne (tgt := 11) hx hb dX5_imageAt_1 (by decide) (fun c1 => ?_) (fun c1 => absurd c1 hk0)
  refine lv_aload_n hx hb dX5_imageAt_11 rfl (lv_at hl 0 rfl) ?_
  refine va_get (D := (dC, dI)) (ci := 5) (v := .ref ht2) (C := RX5) (T := TX5) (N := 8) hx hb hts hiX5 hown hK hP 0 rfl rfl 2 (by decide) fl19 (fun _ h9 => h9) rfl dX5_imageAt_12 ?_
  exact W.aret hx hb hr (Or.inl ⟨_, rfl⟩) (Or.inr ⟨_, rfl⟩) (fun t ht _ => ⟨congrArg (fun z => Outcome.returned (some (Value.ref z))) hF, ht⟩) (fun _ h => absurd h List.not_mem_nil) dX5_imageAt_15

def fX5_longestShared_L41 (co : Nat → Int32) (co2 : Nat → Int32) (j27 : Nat) : Nat → Nat → Int32 → (Nat → Int32) → (Int32 × (Nat → Int32))
  | 0, _, bs, g3 => (bs, g3)
  | r41 + 1, j41, bs, g3 => (if (fX5_at co 24 (nI j27)) = (fX5_at co2 24 (nI j41)) then ((fun (q120 : Nat → Int32) => (fX5_longestShared_L41 co co2 j27 r41 (j41 + 1) (fX5_at g3 25 (nI (j41 + 1))) q120)) (fX5_put g3 25 (nI (j41 + 1)) (if (bs + (1 : Int32)) < (if (fX5_at g3 25 (nI (j41 + 1))) < (fX5_at g3 25 (nI j41)) then (fX5_at g3 25 (nI j41)) else (fX5_at g3 25 (nI (j41 + 1)))) then (if (fX5_at g3 25 (nI (j41 + 1))) < (fX5_at g3 25 (nI j41)) then (fX5_at g3 25 (nI j41)) else (fX5_at g3 25 (nI (j41 + 1)))) else (bs + (1 : Int32))))) else ((fun (q120 : Nat → Int32) => (fX5_longestShared_L41 co co2 j27 r41 (j41 + 1) (fX5_at g3 25 (nI (j41 + 1))) q120)) (fX5_put g3 25 (nI (j41 + 1)) (if (0 : Int32) < (if (fX5_at g3 25 (nI (j41 + 1))) < (fX5_at g3 25 (nI j41)) then (fX5_at g3 25 (nI j41)) else (fX5_at g3 25 (nI (j41 + 1)))) then (if (fX5_at g3 25 (nI (j41 + 1))) < (fX5_at g3 25 (nI j41)) then (fX5_at g3 25 (nI j41)) else (fX5_at g3 25 (nI (j41 + 1)))) else (0 : Int32)))))
def fX5_longestShared_L27 (co : Nat → Int32) (n2 : Nat) (co2 : Nat → Int32) : Nat → Nat → (Nat → Int32) → (Nat → Int32)
  | 0, _, g2 => g2
  | r27 + 1, j27, g2 => (match fX5_longestShared_L41 co co2 j27 n2 0 (0 : Int32) g2 with | (bs, g3) => (fX5_longestShared_L27 co n2 co2 r27 (j27 + 1) g3))
def fX5_longestShared_L2  : Nat → Nat → (Nat → Int32) → (Nat → Int32)
  | 0, _, g1 => g1
  | r2 + 1, j2, g1 => ((fun (q16 : Nat → Int32) => (fX5_longestShared_L2 r2 (j2 + 1) q16)) (fX5_put g1 25 (nI j2) (0 : Int32)))
def fX5_longestShared (sc : Nat → Int32) (n : Nat) (co : Nat → Int32) (n2 : Nat) (co2 : Nat → Int32) : Int32 × (Nat → Int32) :=
  ((fun (g1 : Nat → Int32) => ((fun (g2 : Nat → Int32) => ((fX5_at g2 25 (nI n2)), g2)) (fX5_longestShared_L27 co n2 co2 n 0 g1))) (fX5_longestShared_L2 (n2 + 1) 0 sc))
set_option maxHeartbeats 4000000 in
set_option maxRecDepth 100000 in
theorem c_X5_longestShared (l : Launch) (dC : Nat → ClassId) (dI : Nat → Nat → Nat) (cyI cyZ : ClassId) (hkc ht ht1 ht2 hp htr hh as hs a0 a1 a2 gs b0 b1 b2 : Nat) (kp : Int32) (sc : Nat → Int32) (n : Nat) (ea : Int32) (co : Nat → Int32) (ti : Nat → Int32) (an : Nat → Int32) (n2 : Nat) (ea2 : Int32) (co2 : Nat → Int32) (ti2 : Nat → Int32) (an2 : Nat → Int32) (hn : n ≤ 24) (hn2 : n2 ≤ 24) (sz : Nat) (r : Int32 × (Nat → Int32)) (hF : fX5_longestShared sc n co n2 co2 = r) : Met l yX5_longestShared wsX5_longestShared ({ frames := 1, cells := 0, slots := 0, locals := 22 }) (kx_wp (dC, dI) [(hkc, .inr (5, [.ref ht, .ref ht1, .ref ht2, .int kp, .ref hp, .ref htr, .ref hh, .ref as])), (as, .inl (cyI, 25, .inl sc)), (hs, .inr (2, [.ref a0, .ref a1, .ref a2, .int (nI n), .int ea])), (a0, .inl (cyI, 24, .inl co)), (a1, .inl (cyI, 24, .inl ti)), (a2, .inl (cyI, 24, .inl an)), (gs, .inr (2, [.ref b0, .ref b1, .ref b2, .int (nI n2), .int ea2])), (b0, .inl (cyI, 24, .inl co2)), (b1, .inl (cyI, 24, .inl ti2)), (b2, .inl (cyI, 24, .inl an2))] [(cyI, .int), (cyZ, .boolean)] sz [.ref hkc, .ref hs, .ref gs]) (kx_Qi r.1 (dC, dI) [(hkc, .inr (5, [.ref ht, .ref ht1, .ref ht2, .int kp, .ref hp, .ref htr, .ref hh, .ref as])), (as, .inl (cyI, 25, .inl sc)), (hs, .inr (2, [.ref a0, .ref a1, .ref a2, .int (nI n), .int ea])), (a0, .inl (cyI, 24, .inl co)), (a1, .inl (cyI, 24, .inl ti)), (a2, .inl (cyI, 24, .inl an)), (gs, .inr (2, [.ref b0, .ref b1, .ref b2, .int (nI n2), .int ea2])), (b0, .inl (cyI, 24, .inl co2)), (b1, .inl (cyI, 24, .inl ti2)), (b2, .inl (cyI, 24, .inl an2))] [(hkc, .inr (5, [.ref ht, .ref ht1, .ref ht2, .int kp, .ref hp, .ref htr, .ref hh, .ref as])), (as, .inl (cyI, 25, .inl r.2)), (hs, .inr (2, [.ref a0, .ref a1, .ref a2, .int (nI n), .int ea])), (a0, .inl (cyI, 24, .inl co)), (a1, .inl (cyI, 24, .inl ti)), (a2, .inl (cyI, 24, .inl an)), (gs, .inr (2, [.ref b0, .ref b1, .ref b2, .int (nI n2), .int ea2])), (b0, .inl (cyI, 24, .inl co2)), (b1, .inl (cyI, 24, .inl ti2)), (b2, .inl (cyI, 24, .inl an2))] sz) 0 0 (va_A [(hkc, .inr (5, [.ref ht, .ref ht1, .ref ht2, .int kp, .ref hp, .ref htr, .ref hh, .ref as])), (as, .inl (cyI, 25, .inl sc)), (hs, .inr (2, [.ref a0, .ref a1, .ref a2, .int (nI n), .int ea])), (a0, .inl (cyI, 24, .inl co)), (a1, .inl (cyI, 24, .inl ti)), (a2, .inl (cyI, 24, .inl an)), (gs, .inr (2, [.ref b0, .ref b1, .ref b2, .int (nI n2), .int ea2])), (b0, .inl (cyI, 24, .inl co2)), (b1, .inl (cyI, 24, .inl ti2)), (b2, .inl (cyI, 24, .inl an2))] sz) := by
  refine Met.ofW (cc := cX5_longestShared) (maxL := 8) (ret := (some .int)) (by decide) rfl ?_
  intro p e s m args below meth c s₁ B hml hv
  obtain ⟨rfl, hsz, hP, hK, hN, hD0⟩ := hv
  have hx := B.exec
  have hb := B.bytes
  have hr := B.returns
  have hts := atoms_spec (ws := wsX5_longestShared) B.pre
  have hown : s.vm.findClass RX5 = some m.cls := findClass_of_methodNamed B.named
  have hlocks := B.notSynchronized
  subst hsz
  obtain ⟨A, hAe⟩ : ∃ A, A = va_A [(hkc, .inr (5, [.ref ht, .ref ht1, .ref ht2, .int kp, .ref hp, .ref htr, .ref hh, .ref as])), (as, .inl (cyI, 25, .inl sc)), (hs, .inr (2, [.ref a0, .ref a1, .ref a2, .int (nI n), .int ea])), (a0, .inl (cyI, 24, .inl co)), (a1, .inl (cyI, 24, .inl ti)), (a2, .inl (cyI, 24, .inl an)), (gs, .inr (2, [.ref b0, .ref b1, .ref b2, .int (nI n2), .int ea2])), (b0, .inl (cyI, 24, .inl co2)), (b1, .inl (cyI, 24, .inl ti2)), (b2, .inl (cyI, 24, .inl an2))] s.heap.size := ⟨_, rfl⟩
  have hD : va_D A [(hkc, .inr (5, [.ref ht, .ref ht1, .ref ht2, .int kp, .ref hp, .ref htr, .ref hh, .ref as])), (as, .inl (cyI, 25, .inl sc)), (hs, .inr (2, [.ref a0, .ref a1, .ref a2, .int (nI n), .int ea])), (a0, .inl (cyI, 24, .inl co)), (a1, .inl (cyI, 24, .inl ti)), (a2, .inl (cyI, 24, .inl an)), (gs, .inr (2, [.ref b0, .ref b1, .ref b2, .int (nI n2), .int ea2])), (b0, .inl (cyI, 24, .inl co2)), (b1, .inl (cyI, 24, .inl ti2)), (b2, .inl (cyI, 24, .inl an2))] := by rw [hAe]; exact hD0.self
  have hA : ∀ q : Nat, s.heap.size ≤ q → A q := fun q h => by rw [hAe]; exact Or.inr h
  have hS : va_S A s.heap s.heap [] := va_S.rf
  have hiX2 : ∀ w ∈ wsX20, w ∈ wsX5_longestShared := by decide +kernel
  have hiX5 : ∀ w ∈ wsX50, w ∈ wsX5_longestShared := by decide +kernel
  have fl43 := hts (.fieldLink RX5 43 "KnitChronicle" "sharedColours" "[I") (by decide +kernel)
  have fl69 := hts (.fieldLink RX5 69 "KnitChronicle$Scarf" "size" "I") (by decide +kernel)
  have fl190 := hts (.fieldLink RX5 190 "KnitChronicle$Scarf" "colours" "[I") (by decide +kernel)
  have hl := lv_entry ([.ref hkc, .ref hs, .ref gs]) (n := 8) (Nat.le_of_ble_eq_true rfl)
  rw [lg_entry_eq]
  generalize (lg_sl ([.ref hkc, .ref hs, .ref gs]) ++ List.replicate (8 - (lg_sl ([.ref hkc, .ref hs, .ref gs])).length) Slot.unset).toArray = ls at hl ⊢
  have hl : lv_has ls 8 [(0, .ref hkc), (1, .ref hs), (2, .ref gs)] := hl
  unfold fX5_longestShared at hF
  refine lv_iconst (v := (0 : Int32)) hx hb dX5_longestShared_0 (by decide) ?_
  refine lv_istore_n (lv' := [(3, .int (0 : Int32)), (0, .ref hkc), (1, .ref hs), (2, .ref gs)]) hx hb dX5_longestShared_1 rfl hl (by decide) rfl (fun ls hl => ?_)
  generalize hz2 : fX5_longestShared_L2 (n2 + 1) 0 sc = z2 at hF
  have LP2 : ∀ (r2 : Nat) (j2 : Nat) (g1 : Nat → Int32), r2 + j2 = n2 + 1 → fX5_longestShared_L2 r2 j2 g1 = z2 → ∀ (H : Heap) (locs : List Loc), va_P (dC, dI) vwCl [(hkc, .inr (5, [.ref ht, .ref ht1, .ref ht2, .int kp, .ref hp, .ref htr, .ref hh, .ref as])), (as, .inl (cyI, 25, .inl g1)), (hs, .inr (2, [.ref a0, .ref a1, .ref a2, .int (nI n), .int ea])), (a0, .inl (cyI, 24, .inl co)), (a1, .inl (cyI, 24, .inl ti)), (a2, .inl (cyI, 24, .inl an)), (gs, .inr (2, [.ref b0, .ref b1, .ref b2, .int (nI n2), .int ea2])), (b0, .inl (cyI, 24, .inl co2)), (b1, .inl (cyI, 24, .inl ti2)), (b2, .inl (cyI, 24, .inl an2))] H → va_D A [(hkc, .inr (5, [.ref ht, .ref ht1, .ref ht2, .int kp, .ref hp, .ref htr, .ref hh, .ref as])), (as, .inl (cyI, 25, .inl g1)), (hs, .inr (2, [.ref a0, .ref a1, .ref a2, .int (nI n), .int ea])), (a0, .inl (cyI, 24, .inl co)), (a1, .inl (cyI, 24, .inl ti)), (a2, .inl (cyI, 24, .inl an)), (gs, .inr (2, [.ref b0, .ref b1, .ref b2, .int (nI n2), .int ea2])), (b0, .inl (cyI, 24, .inl co2)), (b1, .inl (cyI, 24, .inl ti2)), (b2, .inl (cyI, 24, .inl an2))] → va_S A s.heap H locs → ∀ (ls : Array Slot), lv_has ls 8 [(3, .int (nI j2)), (0, .ref hkc), (1, .ref hs), (2, .ref gs)] → W p l e (headSpec wsX5_longestShared ({ frames := 1, cells := 0, slots := 0, locals := 22 } : Room)).room s m ([.ref hkc, .ref hs, .ref gs] : List Value).toArray below meth c H locs 0 0 (MQ below (kx_Qi r.1 (dC, dI) [(hkc, .inr (5, [.ref ht, .ref ht1, .ref ht2, .int kp, .ref hp, .ref htr, .ref hh, .ref as])), (as, .inl (cyI, 25, .inl sc)), (hs, .inr (2, [.ref a0, .ref a1, .ref a2, .int (nI n), .int ea])), (a0, .inl (cyI, 24, .inl co)), (a1, .inl (cyI, 24, .inl ti)), (a2, .inl (cyI, 24, .inl an)), (gs, .inr (2, [.ref b0, .ref b1, .ref b2, .int (nI n2), .int ea2])), (b0, .inl (cyI, 24, .inl co2)), (b1, .inl (cyI, 24, .inl ti2)), (b2, .inl (cyI, 24, .inl an2))] [(hkc, .inr (5, [.ref ht, .ref ht1, .ref ht2, .int kp, .ref hp, .ref htr, .ref hh, .ref as])), (as, .inl (cyI, 25, .inl r.2)), (hs, .inr (2, [.ref a0, .ref a1, .ref a2, .int (nI n), .int ea])), (a0, .inl (cyI, 24, .inl co)), (a1, .inl (cyI, 24, .inl ti)), (a2, .inl (cyI, 24, .inl an)), (gs, .inr (2, [.ref b0, .ref b1, .ref b2, .int (nI n2), .int ea2])), (b0, .inl (cyI, 24, .inl co2)), (b1, .inl (cyI, 24, .inl ti2)), (b2, .inl (cyI, 24, .inl an2))] s.heap.size) ([.ref hkc, .ref hs, .ref gs] : List Value).toArray s 0 0 (va_A [(hkc, .inr (5, [.ref ht, .ref ht1, .ref ht2, .int kp, .ref hp, .ref htr, .ref hh, .ref as])), (as, .inl (cyI, 25, .inl sc)), (hs, .inr (2, [.ref a0, .ref a1, .ref a2, .int (nI n), .int ea])), (a0, .inl (cyI, 24, .inl co)), (a1, .inl (cyI, 24, .inl ti)), (a2, .inl (cyI, 24, .inl an)), (gs, .inr (2, [.ref b0, .ref b1, .ref b2, .int (nI n2), .int ea2])), (b0, .inl (cyI, 24, .inl co2)), (b1, .inl (cyI, 24, .inl ti2)), (b2, .inl (cyI, 24, .inl an2))] s.heap.size)) (F0 m 2 ls []) := by
    intro r2
    induction r2 with
    | zero =>
      intro j2 g1 hrj hz2 H locs hP hD hS ls hl
      rw [fX5_longestShared_L2] at hz2
      subst hz2
      try dsimp only at hF
      refine lv_iload_n hx hb dX5_longestShared_2 rfl (lv_at hl 0 rfl) ?_
      refine lv_aload_n hx hb dX5_longestShared_3 rfl (lv_at hl 3 rfl) ?_
      refine va_get (D := (dC, dI)) (ci := 2) (v := .int (nI n2)) (C := RX2) (T := TX2) (N := 5) hx hb hts hiX2 hown hK hP 6 rfl rfl 3 (by decide) fl69 (fun _ h9 => h9) rfl dX5_longestShared_4 ?_
      refine kx_gt hx hb (j2) (n2) rfl rfl (by omega) (by omega) dX5_longestShared_7 (by decide) (tgt := 25) (fun c7 => ?_) (fun c7 => absurd c7 (by omega))
      refine lv_iconst (v := (0 : Int32)) hx hb dX5_longestShared_25 (by decide) ?_
      refine lv_istore_n (lv' := [(3, .int (0 : Int32)), (0, .ref hkc), (1, .ref hs), (2, .ref gs)]) hx hb dX5_longestShared_26 rfl hl (by decide) rfl (fun ls hl => ?_)
      generalize hz27 : fX5_longestShared_L27 co n2 co2 n 0 g1 = z27 at hF
      have LP27 : ∀ (r27 : Nat) (j27 : Nat) (g2 : Nat → Int32), r27 + j27 = n → fX5_longestShared_L27 co n2 co2 r27 j27 g2 = z27 → ∀ (H : Heap) (locs : List Loc), va_P (dC, dI) vwCl [(hkc, .inr (5, [.ref ht, .ref ht1, .ref ht2, .int kp, .ref hp, .ref htr, .ref hh, .ref as])), (as, .inl (cyI, 25, .inl g2)), (hs, .inr (2, [.ref a0, .ref a1, .ref a2, .int (nI n), .int ea])), (a0, .inl (cyI, 24, .inl co)), (a1, .inl (cyI, 24, .inl ti)), (a2, .inl (cyI, 24, .inl an)), (gs, .inr (2, [.ref b0, .ref b1, .ref b2, .int (nI n2), .int ea2])), (b0, .inl (cyI, 24, .inl co2)), (b1, .inl (cyI, 24, .inl ti2)), (b2, .inl (cyI, 24, .inl an2))] H → va_D A [(hkc, .inr (5, [.ref ht, .ref ht1, .ref ht2, .int kp, .ref hp, .ref htr, .ref hh, .ref as])), (as, .inl (cyI, 25, .inl g2)), (hs, .inr (2, [.ref a0, .ref a1, .ref a2, .int (nI n), .int ea])), (a0, .inl (cyI, 24, .inl co)), (a1, .inl (cyI, 24, .inl ti)), (a2, .inl (cyI, 24, .inl an)), (gs, .inr (2, [.ref b0, .ref b1, .ref b2, .int (nI n2), .int ea2])), (b0, .inl (cyI, 24, .inl co2)), (b1, .inl (cyI, 24, .inl ti2)), (b2, .inl (cyI, 24, .inl an2))] → va_S A s.heap H locs → ∀ (ls : Array Slot), lv_has ls 8 [(3, .int (nI j27)), (0, .ref hkc), (1, .ref hs), (2, .ref gs)] → W p l e (headSpec wsX5_longestShared ({ frames := 1, cells := 0, slots := 0, locals := 22 } : Room)).room s m ([.ref hkc, .ref hs, .ref gs] : List Value).toArray below meth c H locs 0 0 (MQ below (kx_Qi r.1 (dC, dI) [(hkc, .inr (5, [.ref ht, .ref ht1, .ref ht2, .int kp, .ref hp, .ref htr, .ref hh, .ref as])), (as, .inl (cyI, 25, .inl sc)), (hs, .inr (2, [.ref a0, .ref a1, .ref a2, .int (nI n), .int ea])), (a0, .inl (cyI, 24, .inl co)), (a1, .inl (cyI, 24, .inl ti)), (a2, .inl (cyI, 24, .inl an)), (gs, .inr (2, [.ref b0, .ref b1, .ref b2, .int (nI n2), .int ea2])), (b0, .inl (cyI, 24, .inl co2)), (b1, .inl (cyI, 24, .inl ti2)), (b2, .inl (cyI, 24, .inl an2))] [(hkc, .inr (5, [.ref ht, .ref ht1, .ref ht2, .int kp, .ref hp, .ref htr, .ref hh, .ref as])), (as, .inl (cyI, 25, .inl r.2)), (hs, .inr (2, [.ref a0, .ref a1, .ref a2, .int (nI n), .int ea])), (a0, .inl (cyI, 24, .inl co)), (a1, .inl (cyI, 24, .inl ti)), (a2, .inl (cyI, 24, .inl an)), (gs, .inr (2, [.ref b0, .ref b1, .ref b2, .int (nI n2), .int ea2])), (b0, .inl (cyI, 24, .inl co2)), (b1, .inl (cyI, 24, .inl ti2)), (b2, .inl (cyI, 24, .inl an2))] s.heap.size) ([.ref hkc, .ref hs, .ref gs] : List Value).toArray s 0 0 (va_A [(hkc, .inr (5, [.ref ht, .ref ht1, .ref ht2, .int kp, .ref hp, .ref htr, .ref hh, .ref as])), (as, .inl (cyI, 25, .inl sc)), (hs, .inr (2, [.ref a0, .ref a1, .ref a2, .int (nI n), .int ea])), (a0, .inl (cyI, 24, .inl co)), (a1, .inl (cyI, 24, .inl ti)), (a2, .inl (cyI, 24, .inl an)), (gs, .inr (2, [.ref b0, .ref b1, .ref b2, .int (nI n2), .int ea2])), (b0, .inl (cyI, 24, .inl co2)), (b1, .inl (cyI, 24, .inl ti2)), (b2, .inl (cyI, 24, .inl an2))] s.heap.size)) (F0 m 27 ls []) := by
        intro r27
        induction r27 with
        | zero =>
          intro j27 g2 hrj hz27 H locs hP hD hS ls hl
          rw [fX5_longestShared_L27] at hz27
          subst hz27
          try dsimp only at hF
          refine lv_iload_n hx hb dX5_longestShared_27 rfl (lv_at hl 0 rfl) ?_
          refine lv_aload_n hx hb dX5_longestShared_28 rfl (lv_at hl 2 rfl) ?_
          refine va_get (D := (dC, dI)) (ci := 2) (v := .int (nI n)) (C := RX2) (T := TX2) (N := 5) hx hb hts hiX2 hown hK hP 2 rfl rfl 3 (by decide) fl69 (fun _ h9 => h9) rfl dX5_longestShared_29 ?_
          refine kx_ge hx hb (j27) (n) rfl rfl (by omega) (by omega) dX5_longestShared_32 (by decide) (tgt := 139) (fun c32 => ?_) (fun c32 => absurd c32 (by omega))
          refine lv_aload_n hx hb dX5_longestShared_139 rfl (lv_at hl 1 rfl) ?_
          refine va_get (D := (dC, dI)) (ci := 5) (v := .ref as) (C := RX5) (T := TX5) (N := 8) hx hb hts hiX5 hown hK hP 0 rfl rfl 7 (by decide) fl43 (fun _ h9 => h9) rfl dX5_longestShared_140 ?_
          refine lv_aload_n hx hb dX5_longestShared_143 rfl (lv_at hl 3 rfl) ?_
          refine va_get (D := (dC, dI)) (ci := 2) (v := .int (nI n2)) (C := RX2) (T := TX2) (N := 5) hx hb hts hiX2 hown hK hP 6 rfl rfl 3 (by decide) fl69 (fun _ h9 => h9) rfl dX5_longestShared_144 ?_
          refine kx_cS (As := [.ref as, .int (nI n2)]) (rest := []) ⟨hx, hb, hml, hown, hts⟩ (c_X5_at l dC dI cyI cyZ as g2 25 (nI n2) (by omega) _ rfl) (va_cwS 2 hts gX5_longestShared_X5_at rfl rfl rfl (by decide +kernel) ⟨Nat.le_of_ble_eq_true rfl, Nat.le_of_ble_eq_true rfl⟩) hP hK hN [1] rfl [0, 1] rfl rfl hl.1 rfl (Nat.le_of_ble_eq_true rfl) dX5_longestShared_147 ⟨Nat.zero_le _, Nat.zero_le _⟩ ?_
          subst hF
          subst hAe
          exact W.iret hx hb hr (fun t ht _ => ⟨⟨_, (), rfl, rfl, by rw [ht]; exact hP, hD⟩, hS.F ht⟩) hS.2.2 dX5_longestShared_150
        | succ r27 ih =>
          intro j27 g2 hrj hz27 H locs hP hD hS ls hl
          rw [fX5_longestShared_L27] at hz27
          refine lv_iload_n hx hb dX5_longestShared_27 rfl (lv_at hl 0 rfl) ?_
          refine lv_aload_n hx hb dX5_longestShared_28 rfl (lv_at hl 2 rfl) ?_
          refine va_get (D := (dC, dI)) (ci := 2) (v := .int (nI n)) (C := RX2) (T := TX2) (N := 5) hx hb hts hiX2 hown hK hP 2 rfl rfl 3 (by decide) fl69 (fun _ h9 => h9) rfl dX5_longestShared_29 ?_
          refine kx_ge hx hb (j27) (n) rfl rfl (by omega) (by omega) dX5_longestShared_32 (by decide) (tgt := 139) (fun c32 => absurd c32 (by omega)) (fun c32 => ?_)
          refine lv_iconst (v := (0 : Int32)) hx hb dX5_longestShared_35 (by decide) ?_
          refine lv_istore (lv' := [(4, .int (0 : Int32)), (3, .int (nI j27)), (0, .ref hkc), (1, .ref hs), (2, .ref gs)]) hx hb dX5_longestShared_36 hl (by decide) rfl (fun ls hl => ?_)
          refine lv_iconst (v := (0 : Int32)) hx hb dX5_longestShared_38 (by decide) ?_
          refine lv_istore (lv' := [(5, .int (0 : Int32)), (4, .int (0 : Int32)), (3, .int (nI j27)), (0, .ref hkc), (1, .ref hs), (2, .ref gs)]) hx hb dX5_longestShared_39 hl (by decide) rfl (fun ls hl => ?_)
          generalize hz41 : fX5_longestShared_L41 co co2 j27 n2 0 (0 : Int32) g2 = z41 at hz27
          have LP41 : ∀ (r41 : Nat) (j41 : Nat) (bs : Int32) (g3 : Nat → Int32), r41 + j41 = n2 → fX5_longestShared_L41 co co2 j27 r41 j41 bs g3 = z41 → ∀ (H : Heap) (locs : List Loc), va_P (dC, dI) vwCl [(hkc, .inr (5, [.ref ht, .ref ht1, .ref ht2, .int kp, .ref hp, .ref htr, .ref hh, .ref as])), (as, .inl (cyI, 25, .inl g3)), (hs, .inr (2, [.ref a0, .ref a1, .ref a2, .int (nI n), .int ea])), (a0, .inl (cyI, 24, .inl co)), (a1, .inl (cyI, 24, .inl ti)), (a2, .inl (cyI, 24, .inl an)), (gs, .inr (2, [.ref b0, .ref b1, .ref b2, .int (nI n2), .int ea2])), (b0, .inl (cyI, 24, .inl co2)), (b1, .inl (cyI, 24, .inl ti2)), (b2, .inl (cyI, 24, .inl an2))] H → va_D A [(hkc, .inr (5, [.ref ht, .ref ht1, .ref ht2, .int kp, .ref hp, .ref htr, .ref hh, .ref as])), (as, .inl (cyI, 25, .inl g3)), (hs, .inr (2, [.ref a0, .ref a1, .ref a2, .int (nI n), .int ea])), (a0, .inl (cyI, 24, .inl co)), (a1, .inl (cyI, 24, .inl ti)), (a2, .inl (cyI, 24, .inl an)), (gs, .inr (2, [.ref b0, .ref b1, .ref b2, .int (nI n2), .int ea2])), (b0, .inl (cyI, 24, .inl co2)), (b1, .inl (cyI, 24, .inl ti2)), (b2, .inl (cyI, 24, .inl an2))] → va_S A s.heap H locs → ∀ (ls : Array Slot), lv_has ls 8 [(5, .int (nI j41)), (4, .int bs), (3, .int (nI j27)), (0, .ref hkc), (1, .ref hs), (2, .ref gs)] → W p l e (headSpec wsX5_longestShared ({ frames := 1, cells := 0, slots := 0, locals := 22 } : Room)).room s m ([.ref hkc, .ref hs, .ref gs] : List Value).toArray below meth c H locs 0 0 (MQ below (kx_Qi r.1 (dC, dI) [(hkc, .inr (5, [.ref ht, .ref ht1, .ref ht2, .int kp, .ref hp, .ref htr, .ref hh, .ref as])), (as, .inl (cyI, 25, .inl sc)), (hs, .inr (2, [.ref a0, .ref a1, .ref a2, .int (nI n), .int ea])), (a0, .inl (cyI, 24, .inl co)), (a1, .inl (cyI, 24, .inl ti)), (a2, .inl (cyI, 24, .inl an)), (gs, .inr (2, [.ref b0, .ref b1, .ref b2, .int (nI n2), .int ea2])), (b0, .inl (cyI, 24, .inl co2)), (b1, .inl (cyI, 24, .inl ti2)), (b2, .inl (cyI, 24, .inl an2))] [(hkc, .inr (5, [.ref ht, .ref ht1, .ref ht2, .int kp, .ref hp, .ref htr, .ref hh, .ref as])), (as, .inl (cyI, 25, .inl r.2)), (hs, .inr (2, [.ref a0, .ref a1, .ref a2, .int (nI n), .int ea])), (a0, .inl (cyI, 24, .inl co)), (a1, .inl (cyI, 24, .inl ti)), (a2, .inl (cyI, 24, .inl an)), (gs, .inr (2, [.ref b0, .ref b1, .ref b2, .int (nI n2), .int ea2])), (b0, .inl (cyI, 24, .inl co2)), (b1, .inl (cyI, 24, .inl ti2)), (b2, .inl (cyI, 24, .inl an2))] s.heap.size) ([.ref hkc, .ref hs, .ref gs] : List Value).toArray s 0 0 (va_A [(hkc, .inr (5, [.ref ht, .ref ht1, .ref ht2, .int kp, .ref hp, .ref htr, .ref hh, .ref as])), (as, .inl (cyI, 25, .inl sc)), (hs, .inr (2, [.ref a0, .ref a1, .ref a2, .int (nI n), .int ea])), (a0, .inl (cyI, 24, .inl co)), (a1, .inl (cyI, 24, .inl ti)), (a2, .inl (cyI, 24, .inl an)), (gs, .inr (2, [.ref b0, .ref b1, .ref b2, .int (nI n2), .int ea2])), (b0, .inl (cyI, 24, .inl co2)), (b1, .inl (cyI, 24, .inl ti2)), (b2, .inl (cyI, 24, .inl an2))] s.heap.size)) (F0 m 41 ls []) := by
            intro r41
            induction r41 with
            | zero =>
              intro j41 bs g3 hrj hz41 H locs hP hD hS ls hl
              rw [fX5_longestShared_L41] at hz41
              subst hz41
              dsimp only at hz27
              refine lv_iload hx hb dX5_longestShared_41 (lv_at hl 0 rfl) ?_
              refine lv_aload_n hx hb dX5_longestShared_43 rfl (lv_at hl 5 rfl) ?_
              refine va_get (D := (dC, dI)) (ci := 2) (v := .int (nI n2)) (C := RX2) (T := TX2) (N := 5) hx hb hts hiX2 hown hK hP 6 rfl rfl 3 (by decide) fl69 (fun _ h9 => h9) rfl dX5_longestShared_44 ?_
              refine kx_ge hx hb (j41) (n2) rfl rfl (by omega) (by omega) dX5_longestShared_47 (by decide) (tgt := 133) (fun c47 => ?_) (fun c47 => absurd c47 (by omega))
              refine lv_iinc (v := (nI (j27 + 1))) (lv' := [(3, .int (nI (j27 + 1))), (5, .int (nI j41)), (4, .int bs), (0, .ref hkc), (1, .ref hs), (2, .ref gs)]) hx hb dX5_longestShared_133 hl (k := 2) rfl (by exact nI_add (j27) 1) (by decide) rfl (fun ls hl => ?_)
              refine lv_goto (tgt := 27) hx hb dX5_longestShared_136 (by decide) ?_
              exact ih (j27 + 1) g3 (by omega)  hz27 _ _ hP hD hS _ (lv_sub hl [0, 3, 4, 5] rfl)
            | succ r41 ih =>
              intro j41 bs g3 hrj hz41 H locs hP hD hS ls hl
              rw [fX5_longestShared_L41] at hz41
              refine lv_iload hx hb dX5_longestShared_41 (lv_at hl 0 rfl) ?_
              refine lv_aload_n hx hb dX5_longestShared_43 rfl (lv_at hl 5 rfl) ?_
              refine va_get (D := (dC, dI)) (ci := 2) (v := .int (nI n2)) (C := RX2) (T := TX2) (N := 5) hx hb hts hiX2 hown hK hP 6 rfl rfl 3 (by decide) fl69 (fun _ h9 => h9) rfl dX5_longestShared_44 ?_
              refine kx_ge hx hb (j41) (n2) rfl rfl (by omega) (by omega) dX5_longestShared_47 (by decide) (tgt := 133) (fun c47 => absurd c47 (by omega)) (fun c47 => ?_)
              refine lv_aload_n hx hb dX5_longestShared_50 rfl (lv_at hl 3 rfl) ?_
              refine va_get (D := (dC, dI)) (ci := 5) (v := .ref as) (C := RX5) (T := TX5) (N := 8) hx hb hts hiX5 hown hK hP 0 rfl rfl 7 (by decide) fl43 (fun _ h9 => h9) rfl dX5_longestShared_51 ?_
              refine lv_iload hx hb dX5_longestShared_54 (lv_at hl 0 rfl) ?_
              refine lv_iconst (v := (1 : Int32)) hx hb dX5_longestShared_56 (by decide) ?_
              refine lv_iadd hx hb dX5_longestShared_57 ?_
              refine kx_e (nI_add (j41) (1)) ?_
              refine kx_cS (As := [.ref as, .int (nI (j41 + 1))]) (rest := []) ⟨hx, hb, hml, hown, hts⟩ (c_X5_at l dC dI cyI cyZ as g3 25 (nI (j41 + 1)) (by omega) _ rfl) (va_cwS 2 hts gX5_longestShared_X5_at rfl rfl rfl (by decide +kernel) ⟨Nat.le_of_ble_eq_true rfl, Nat.le_of_ble_eq_true rfl⟩) hP hK hN [1] rfl [0, 1] rfl rfl hl.1 rfl (Nat.le_of_ble_eq_true rfl) dX5_longestShared_58 ⟨Nat.zero_le _, Nat.zero_le _⟩ ?_
              refine lv_istore (lv' := [(6, .int (fX5_at g3 25 (nI (j41 + 1)))), (5, .int (nI j41)), (4, .int bs), (3, .int (nI j27)), (0, .ref hkc), (1, .ref hs), (2, .ref gs)]) hx hb dX5_longestShared_61 hl (by decide) rfl (fun ls hl => ?_)
              refine lv_aload_n hx hb dX5_longestShared_63 rfl (lv_at hl 5 rfl) ?_
              refine va_get (D := (dC, dI)) (ci := 2) (v := .ref a0) (C := RX2) (T := TX2) (N := 5) hx hb hts hiX2 hown hK hP 2 rfl rfl 0 (by decide) fl190 (fun _ h9 => h9) rfl dX5_longestShared_64 ?_
              refine lv_iload_n hx hb dX5_longestShared_67 rfl (lv_at hl 3 rfl) ?_
              refine kx_cS (As := [.ref a0, .int (nI j27)]) (rest := []) ⟨hx, hb, hml, hown, hts⟩ (c_X5_at l dC dI cyI cyZ a0 co 24 (nI j27) (by omega) _ rfl) (va_cwS 2 hts gX5_longestShared_X5_at rfl rfl rfl (by decide +kernel) ⟨Nat.le_of_ble_eq_true rfl, Nat.le_of_ble_eq_true rfl⟩) hP hK hN [3] rfl [0, 1] rfl rfl hl.1 rfl (Nat.le_of_ble_eq_true rfl) dX5_longestShared_68 ⟨Nat.zero_le _, Nat.zero_le _⟩ ?_
              refine lv_aload_n hx hb dX5_longestShared_71 rfl (lv_at hl 6 rfl) ?_
              refine va_get (D := (dC, dI)) (ci := 2) (v := .ref b0) (C := RX2) (T := TX2) (N := 5) hx hb hts hiX2 hown hK hP 6 rfl rfl 0 (by decide) fl190 (fun _ h9 => h9) rfl dX5_longestShared_72 ?_
              refine lv_iload hx hb dX5_longestShared_75 (lv_at hl 1 rfl) ?_
              refine kx_cS (As := [.ref b0, .int (nI j41)]) (rest := [.int (fX5_at co 24 (nI j27))]) ⟨hx, hb, hml, hown, hts⟩ (c_X5_at l dC dI cyI cyZ b0 co2 24 (nI j41) (by omega) _ rfl) (va_cwS 2 hts gX5_longestShared_X5_at rfl rfl rfl (by decide +kernel) ⟨Nat.le_of_ble_eq_true rfl, Nat.le_of_ble_eq_true rfl⟩) hP hK hN [7] rfl [0, 1] rfl rfl hl.1 rfl (Nat.le_of_ble_eq_true rfl) dX5_longestShared_77 ⟨Nat.zero_le _, Nat.zero_le _⟩ ?_
              refine lv_icmp_ne (tgt := 90) hx hb dX5_longestShared_80 (by decide) (fun c80 => ?_) (fun c80 => ?_)
              · rw [if_neg c80] at hz41
                refine lv_iconst (v := (0 : Int32)) hx hb dX5_longestShared_90 (by decide) ?_
                refine lv_istore (lv' := [(7, .int (0 : Int32)), (6, .int (fX5_at g3 25 (nI (j41 + 1)))), (5, .int (nI j41)), (4, .int bs), (3, .int (nI j27)), (0, .ref hkc), (1, .ref hs), (2, .ref gs)]) hx hb dX5_longestShared_91 hl (by decide) rfl (fun ls hl => ?_)
                refine lv_aload_n hx hb dX5_longestShared_93 rfl (lv_at hl 5 rfl) ?_
                refine va_get (D := (dC, dI)) (ci := 5) (v := .ref as) (C := RX5) (T := TX5) (N := 8) hx hb hts hiX5 hown hK hP 0 rfl rfl 7 (by decide) fl43 (fun _ h9 => h9) rfl dX5_longestShared_94 ?_
                refine lv_iload hx hb dX5_longestShared_97 (lv_at hl 2 rfl) ?_
                refine lv_iconst (v := (1 : Int32)) hx hb dX5_longestShared_99 (by decide) ?_
                refine lv_iadd hx hb dX5_longestShared_100 ?_
                refine kx_e (nI_add (j41) (1)) ?_
                refine lv_iload hx hb dX5_longestShared_101 (lv_at hl 0 rfl) ?_
                refine lv_iload hx hb dX5_longestShared_103 (lv_at hl 1 rfl) ?_
                refine lv_aload_n hx hb dX5_longestShared_105 rfl (lv_at hl 5 rfl) ?_
                refine va_get (D := (dC, dI)) (ci := 5) (v := .ref as) (C := RX5) (T := TX5) (N := 8) hx hb hts hiX5 hown hK hP 0 rfl rfl 7 (by decide) fl43 (fun _ h9 => h9) rfl dX5_longestShared_106 ?_
                refine lv_iload hx hb dX5_longestShared_109 (lv_at hl 2 rfl) ?_
                refine kx_cS (As := [.ref as, .int (nI j41)]) (rest := [.int (fX5_at g3 25 (nI (j41 + 1))), .int (0 : Int32), .int (nI (j41 + 1)), .ref as]) ⟨hx, hb, hml, hown, hts⟩ (c_X5_at l dC dI cyI cyZ as g3 25 (nI j41) (by omega) _ rfl) (va_cwS 2 hts gX5_longestShared_X5_at rfl rfl rfl (by decide +kernel) ⟨Nat.le_of_ble_eq_true rfl, Nat.le_of_ble_eq_true rfl⟩) hP hK hN [1] rfl [0, 1] rfl rfl hl.1 rfl (Nat.le_of_ble_eq_true rfl) dX5_longestShared_111 ⟨Nat.zero_le _, Nat.zero_le _⟩ ?_
                refine va_mmax hx hb (hml.trans hl.1.symm) hown (hts (.methodLink RX5 193 Lib.Math.max.name) (by decide +kernel)) (hts (.static Lib.Math.max.name) (by decide +kernel)) (hts (.initialized "java/lang/Math") (by decide +kernel)) (hts (.code Lib.Math.max.name Lib.Math.max.code 2 (some .int)) (by decide +kernel)) (Nat.le_of_ble_eq_true rfl) (Nat.le_of_ble_eq_true rfl) (Nat.zero_le _) (Nat.zero_le _) dX5_longestShared_114 ?_
                refine va_mmax hx hb (hml.trans hl.1.symm) hown (hts (.methodLink RX5 193 Lib.Math.max.name) (by decide +kernel)) (hts (.static Lib.Math.max.name) (by decide +kernel)) (hts (.initialized "java/lang/Math") (by decide +kernel)) (hts (.code Lib.Math.max.name Lib.Math.max.code 2 (some .int)) (by decide +kernel)) (Nat.le_of_ble_eq_true rfl) (Nat.le_of_ble_eq_true rfl) (Nat.zero_le _) (Nat.zero_le _) dX5_longestShared_117 ?_
                generalize hq120 : fX5_put g3 25 (nI (j41 + 1)) (if (0 : Int32) < (if (fX5_at g3 25 (nI (j41 + 1))) < (fX5_at g3 25 (nI j41)) then (fX5_at g3 25 (nI j41)) else (fX5_at g3 25 (nI (j41 + 1)))) then (if (fX5_at g3 25 (nI (j41 + 1))) < (fX5_at g3 25 (nI j41)) then (fX5_at g3 25 (nI j41)) else (fX5_at g3 25 (nI (j41 + 1)))) else (0 : Int32)) = q120 at hz41
                try dsimp only at hz41
                refine kx_wSv (As := [.ref as, .int (nI (j41 + 1)), .int (if (0 : Int32) < (if (fX5_at g3 25 (nI (j41 + 1))) < (fX5_at g3 25 (nI j41)) then (fX5_at g3 25 (nI j41)) else (fX5_at g3 25 (nI (j41 + 1)))) then (if (fX5_at g3 25 (nI (j41 + 1))) < (fX5_at g3 25 (nI j41)) then (fX5_at g3 25 (nI j41)) else (fX5_at g3 25 (nI (j41 + 1)))) else (0 : Int32))]) (rest := []) (wr := [(hkc, .inr (5, [.ref ht, .ref ht1, .ref ht2, .int kp, .ref hp, .ref htr, .ref hh, .ref as])), (hs, .inr (2, [.ref a0, .ref a1, .ref a2, .int (nI n), .int ea])), (a0, .inl (cyI, 24, .inl co)), (a1, .inl (cyI, 24, .inl ti)), (a2, .inl (cyI, 24, .inl an)), (gs, .inr (2, [.ref b0, .ref b1, .ref b2, .int (nI n2), .int ea2])), (b0, .inl (cyI, 24, .inl co2)), (b1, .inl (cyI, 24, .inl ti2)), (b2, .inl (cyI, 24, .inl an2))]) (wc' := [(as, .inl (cyI, 25, .inl q120))]) (W1 := [(hkc, .inr (5, [.ref ht, .ref ht1, .ref ht2, .int kp, .ref hp, .ref htr, .ref hh, .ref as])), (as, .inl (cyI, 25, .inl q120)), (hs, .inr (2, [.ref a0, .ref a1, .ref a2, .int (nI n), .int ea])), (a0, .inl (cyI, 24, .inl co)), (a1, .inl (cyI, 24, .inl ti)), (a2, .inl (cyI, 24, .inl an)), (gs, .inr (2, [.ref b0, .ref b1, .ref b2, .int (nI n2), .int ea2])), (b0, .inl (cyI, 24, .inl co2)), (b1, .inl (cyI, 24, .inl ti2)), (b2, .inl (cyI, 24, .inl an2))]) ⟨hx, hb, hml, hown, hts⟩ (c_X5_put l dC dI cyI cyZ as g3 25 (nI (j41 + 1)) (if (0 : Int32) < (if (fX5_at g3 25 (nI (j41 + 1))) < (fX5_at g3 25 (nI j41)) then (fX5_at g3 25 (nI j41)) else (fX5_at g3 25 (nI (j41 + 1)))) then (if (fX5_at g3 25 (nI (j41 + 1))) < (fX5_at g3 25 (nI j41)) then (fX5_at g3 25 (nI j41)) else (fX5_at g3 25 (nI (j41 + 1)))) else (0 : Int32)) (by omega) _ _ hq120) (va_cwS 3 hts gX5_longestShared_X5_put rfl rfl rfl (by decide +kernel) ⟨Nat.le_of_ble_eq_true rfl, Nat.le_of_ble_eq_true rfl⟩) hP hD hS hA hK hN [1] [0, 2, 3, 4, 5, 6, 7, 8, 9] [0, 9, 1, 2, 3, 4, 5, 6, 7, 8] rfl (by decide) rfl (by decide) (by decide) (by decide) rfl [0, 1] rfl rfl hl.1 rfl (Nat.le_of_ble_eq_true rfl) dX5_longestShared_120 ⟨Nat.zero_le _, Nat.zero_le _⟩ (fun H locs hP hD hS => ?_)
                refine lv_iload hx hb dX5_longestShared_123 (lv_at hl 1 rfl) ?_
                refine lv_istore (lv' := [(4, .int (fX5_at g3 25 (nI (j41 + 1)))), (7, .int (0 : Int32)), (6, .int (fX5_at g3 25 (nI (j41 + 1)))), (5, .int (nI j41)), (3, .int (nI j27)), (0, .ref hkc), (1, .ref hs), (2, .ref gs)]) hx hb dX5_longestShared_125 hl (by decide) rfl (fun ls hl => ?_)
                refine lv_iinc (v := (nI (j41 + 1))) (lv' := [(5, .int (nI (j41 + 1))), (4, .int (fX5_at g3 25 (nI (j41 + 1)))), (7, .int (0 : Int32)), (6, .int (fX5_at g3 25 (nI (j41 + 1)))), (3, .int (nI j27)), (0, .ref hkc), (1, .ref hs), (2, .ref gs)]) hx hb dX5_longestShared_127 hl (k := 3) rfl (by exact nI_add (j41) 1) (by decide) rfl (fun ls hl => ?_)
                refine lv_goto (tgt := 41) hx hb dX5_longestShared_130 (by decide) ?_
                exact ih (j41 + 1) (fX5_at g3 25 (nI (j41 + 1))) q120 (by omega)  hz41 _ _ hP hD hS _ (lv_sub hl [0, 1, 4, 5, 6, 7] rfl)
              · rw [if_pos c80] at hz41
                refine lv_iload hx hb dX5_longestShared_83 (lv_at hl 2 rfl) ?_
                refine lv_iconst (v := (1 : Int32)) hx hb dX5_longestShared_85 (by decide) ?_
                refine lv_iadd hx hb dX5_longestShared_86 ?_
                refine lv_goto (tgt := 91) hx hb dX5_longestShared_87 (by decide) ?_
                refine lv_istore (lv' := [(7, .int (bs + (1 : Int32))), (6, .int (fX5_at g3 25 (nI (j41 + 1)))), (5, .int (nI j41)), (4, .int bs), (3, .int (nI j27)), (0, .ref hkc), (1, .ref hs), (2, .ref gs)]) hx hb dX5_longestShared_91 hl (by decide) rfl (fun ls hl => ?_)
                refine lv_aload_n hx hb dX5_longestShared_93 rfl (lv_at hl 5 rfl) ?_
                refine va_get (D := (dC, dI)) (ci := 5) (v := .ref as) (C := RX5) (T := TX5) (N := 8) hx hb hts hiX5 hown hK hP 0 rfl rfl 7 (by decide) fl43 (fun _ h9 => h9) rfl dX5_longestShared_94 ?_
                refine lv_iload hx hb dX5_longestShared_97 (lv_at hl 2 rfl) ?_
                refine lv_iconst (v := (1 : Int32)) hx hb dX5_longestShared_99 (by decide) ?_
                refine lv_iadd hx hb dX5_longestShared_100 ?_
                refine kx_e (nI_add (j41) (1)) ?_
                refine lv_iload hx hb dX5_longestShared_101 (lv_at hl 0 rfl) ?_
                refine lv_iload hx hb dX5_longestShared_103 (lv_at hl 1 rfl) ?_
                refine lv_aload_n hx hb dX5_longestShared_105 rfl (lv_at hl 5 rfl) ?_
                refine va_get (D := (dC, dI)) (ci := 5) (v := .ref as) (C := RX5) (T := TX5) (N := 8) hx hb hts hiX5 hown hK hP 0 rfl rfl 7 (by decide) fl43 (fun _ h9 => h9) rfl dX5_longestShared_106 ?_
                refine lv_iload hx hb dX5_longestShared_109 (lv_at hl 2 rfl) ?_
                refine kx_cS (As := [.ref as, .int (nI j41)]) (rest := [.int (fX5_at g3 25 (nI (j41 + 1))), .int (bs + (1 : Int32)), .int (nI (j41 + 1)), .ref as]) ⟨hx, hb, hml, hown, hts⟩ (c_X5_at l dC dI cyI cyZ as g3 25 (nI j41) (by omega) _ rfl) (va_cwS 2 hts gX5_longestShared_X5_at rfl rfl rfl (by decide +kernel) ⟨Nat.le_of_ble_eq_true rfl, Nat.le_of_ble_eq_true rfl⟩) hP hK hN [1] rfl [0, 1] rfl rfl hl.1 rfl (Nat.le_of_ble_eq_true rfl) dX5_longestShared_111 ⟨Nat.zero_le _, Nat.zero_le _⟩ ?_
                refine va_mmax hx hb (hml.trans hl.1.symm) hown (hts (.methodLink RX5 193 Lib.Math.max.name) (by decide +kernel)) (hts (.static Lib.Math.max.name) (by decide +kernel)) (hts (.initialized "java/lang/Math") (by decide +kernel)) (hts (.code Lib.Math.max.name Lib.Math.max.code 2 (some .int)) (by decide +kernel)) (Nat.le_of_ble_eq_true rfl) (Nat.le_of_ble_eq_true rfl) (Nat.zero_le _) (Nat.zero_le _) dX5_longestShared_114 ?_
                refine va_mmax hx hb (hml.trans hl.1.symm) hown (hts (.methodLink RX5 193 Lib.Math.max.name) (by decide +kernel)) (hts (.static Lib.Math.max.name) (by decide +kernel)) (hts (.initialized "java/lang/Math") (by decide +kernel)) (hts (.code Lib.Math.max.name Lib.Math.max.code 2 (some .int)) (by decide +kernel)) (Nat.le_of_ble_eq_true rfl) (Nat.le_of_ble_eq_true rfl) (Nat.zero_le _) (Nat.zero_le _) dX5_longestShared_117 ?_
                generalize hq120 : fX5_put g3 25 (nI (j41 + 1)) (if (bs + (1 : Int32)) < (if (fX5_at g3 25 (nI (j41 + 1))) < (fX5_at g3 25 (nI j41)) then (fX5_at g3 25 (nI j41)) else (fX5_at g3 25 (nI (j41 + 1)))) then (if (fX5_at g3 25 (nI (j41 + 1))) < (fX5_at g3 25 (nI j41)) then (fX5_at g3 25 (nI j41)) else (fX5_at g3 25 (nI (j41 + 1)))) else (bs + (1 : Int32))) = q120 at hz41
                try dsimp only at hz41
                refine kx_wSv (As := [.ref as, .int (nI (j41 + 1)), .int (if (bs + (1 : Int32)) < (if (fX5_at g3 25 (nI (j41 + 1))) < (fX5_at g3 25 (nI j41)) then (fX5_at g3 25 (nI j41)) else (fX5_at g3 25 (nI (j41 + 1)))) then (if (fX5_at g3 25 (nI (j41 + 1))) < (fX5_at g3 25 (nI j41)) then (fX5_at g3 25 (nI j41)) else (fX5_at g3 25 (nI (j41 + 1)))) else (bs + (1 : Int32)))]) (rest := []) (wr := [(hkc, .inr (5, [.ref ht, .ref ht1, .ref ht2, .int kp, .ref hp, .ref htr, .ref hh, .ref as])), (hs, .inr (2, [.ref a0, .ref a1, .ref a2, .int (nI n), .int ea])), (a0, .inl (cyI, 24, .inl co)), (a1, .inl (cyI, 24, .inl ti)), (a2, .inl (cyI, 24, .inl an)), (gs, .inr (2, [.ref b0, .ref b1, .ref b2, .int (nI n2), .int ea2])), (b0, .inl (cyI, 24, .inl co2)), (b1, .inl (cyI, 24, .inl ti2)), (b2, .inl (cyI, 24, .inl an2))]) (wc' := [(as, .inl (cyI, 25, .inl q120))]) (W1 := [(hkc, .inr (5, [.ref ht, .ref ht1, .ref ht2, .int kp, .ref hp, .ref htr, .ref hh, .ref as])), (as, .inl (cyI, 25, .inl q120)), (hs, .inr (2, [.ref a0, .ref a1, .ref a2, .int (nI n), .int ea])), (a0, .inl (cyI, 24, .inl co)), (a1, .inl (cyI, 24, .inl ti)), (a2, .inl (cyI, 24, .inl an)), (gs, .inr (2, [.ref b0, .ref b1, .ref b2, .int (nI n2), .int ea2])), (b0, .inl (cyI, 24, .inl co2)), (b1, .inl (cyI, 24, .inl ti2)), (b2, .inl (cyI, 24, .inl an2))]) ⟨hx, hb, hml, hown, hts⟩ (c_X5_put l dC dI cyI cyZ as g3 25 (nI (j41 + 1)) (if (bs + (1 : Int32)) < (if (fX5_at g3 25 (nI (j41 + 1))) < (fX5_at g3 25 (nI j41)) then (fX5_at g3 25 (nI j41)) else (fX5_at g3 25 (nI (j41 + 1)))) then (if (fX5_at g3 25 (nI (j41 + 1))) < (fX5_at g3 25 (nI j41)) then (fX5_at g3 25 (nI j41)) else (fX5_at g3 25 (nI (j41 + 1)))) else (bs + (1 : Int32))) (by omega) _ _ hq120) (va_cwS 3 hts gX5_longestShared_X5_put rfl rfl rfl (by decide +kernel) ⟨Nat.le_of_ble_eq_true rfl, Nat.le_of_ble_eq_true rfl⟩) hP hD hS hA hK hN [1] [0, 2, 3, 4, 5, 6, 7, 8, 9] [0, 9, 1, 2, 3, 4, 5, 6, 7, 8] rfl (by decide) rfl (by decide) (by decide) (by decide) rfl [0, 1] rfl rfl hl.1 rfl (Nat.le_of_ble_eq_true rfl) dX5_longestShared_120 ⟨Nat.zero_le _, Nat.zero_le _⟩ (fun H locs hP hD hS => ?_)
                refine lv_iload hx hb dX5_longestShared_123 (lv_at hl 1 rfl) ?_
                refine lv_istore (lv' := [(4, .int (fX5_at g3 25 (nI (j41 + 1)))), (7, .int (bs + (1 : Int32))), (6, .int (fX5_at g3 25 (nI (j41 + 1)))), (5, .int (nI j41)), (3, .int (nI j27)), (0, .ref hkc), (1, .ref hs), (2, .ref gs)]) hx hb dX5_longestShared_125 hl (by decide) rfl (fun ls hl => ?_)
                refine lv_iinc (v := (nI (j41 + 1))) (lv' := [(5, .int (nI (j41 + 1))), (4, .int (fX5_at g3 25 (nI (j41 + 1)))), (7, .int (bs + (1 : Int32))), (6, .int (fX5_at g3 25 (nI (j41 + 1)))), (3, .int (nI j27)), (0, .ref hkc), (1, .ref hs), (2, .ref gs)]) hx hb dX5_longestShared_127 hl (k := 3) rfl (by exact nI_add (j41) 1) (by decide) rfl (fun ls hl => ?_)
                refine lv_goto (tgt := 41) hx hb dX5_longestShared_130 (by decide) ?_
                exact ih (j41 + 1) (fX5_at g3 25 (nI (j41 + 1))) q120 (by omega)  hz41 _ _ hP hD hS _ (lv_sub hl [0, 1, 4, 5, 6, 7] rfl)
          exact LP41 n2 0 (0 : Int32) g2 (by omega)  hz41 _ _ hP hD hS _ (lv_sub hl [0, 1, 2, 3, 4, 5] rfl)
      exact LP27 n 0 g1 (by omega)  hz27 _ _ hP hD hS _ (lv_sub hl [0, 1, 2, 3] rfl)
    | succ r2 ih =>
      intro j2 g1 hrj hz2 H locs hP hD hS ls hl
      rw [fX5_longestShared_L2] at hz2
      refine lv_iload_n hx hb dX5_longestShared_2 rfl (lv_at hl 0 rfl) ?_
      refine lv_aload_n hx hb dX5_longestShared_3 rfl (lv_at hl 3 rfl) ?_
      refine va_get (D := (dC, dI)) (ci := 2) (v := .int (nI n2)) (C := RX2) (T := TX2) (N := 5) hx hb hts hiX2 hown hK hP 6 rfl rfl 3 (by decide) fl69 (fun _ h9 => h9) rfl dX5_longestShared_4 ?_
      refine kx_gt hx hb (j2) (n2) rfl rfl (by omega) (by omega) dX5_longestShared_7 (by decide) (tgt := 25) (fun c7 => absurd c7 (by omega)) (fun c7 => ?_)
      refine lv_aload_n hx hb dX5_longestShared_10 rfl (lv_at hl 1 rfl) ?_
      refine va_get (D := (dC, dI)) (ci := 5) (v := .ref as) (C := RX5) (T := TX5) (N := 8) hx hb hts hiX5 hown hK hP 0 rfl rfl 7 (by decide) fl43 (fun _ h9 => h9) rfl dX5_longestShared_11 ?_
      refine lv_iload_n hx hb dX5_longestShared_14 rfl (lv_at hl 0 rfl) ?_
      refine lv_iconst (v := (0 : Int32)) hx hb dX5_longestShared_15 (by decide) ?_
      generalize hq16 : fX5_put g1 25 (nI j2) (0 : Int32) = q16 at hz2
      try dsimp only at hz2
      refine kx_wSv (As := [.ref as, .int (nI j2), .int (0 : Int32)]) (rest := []) (wr := [(hkc, .inr (5, [.ref ht, .ref ht1, .ref ht2, .int kp, .ref hp, .ref htr, .ref hh, .ref as])), (hs, .inr (2, [.ref a0, .ref a1, .ref a2, .int (nI n), .int ea])), (a0, .inl (cyI, 24, .inl co)), (a1, .inl (cyI, 24, .inl ti)), (a2, .inl (cyI, 24, .inl an)), (gs, .inr (2, [.ref b0, .ref b1, .ref b2, .int (nI n2), .int ea2])), (b0, .inl (cyI, 24, .inl co2)), (b1, .inl (cyI, 24, .inl ti2)), (b2, .inl (cyI, 24, .inl an2))]) (wc' := [(as, .inl (cyI, 25, .inl q16))]) (W1 := [(hkc, .inr (5, [.ref ht, .ref ht1, .ref ht2, .int kp, .ref hp, .ref htr, .ref hh, .ref as])), (as, .inl (cyI, 25, .inl q16)), (hs, .inr (2, [.ref a0, .ref a1, .ref a2, .int (nI n), .int ea])), (a0, .inl (cyI, 24, .inl co)), (a1, .inl (cyI, 24, .inl ti)), (a2, .inl (cyI, 24, .inl an)), (gs, .inr (2, [.ref b0, .ref b1, .ref b2, .int (nI n2), .int ea2])), (b0, .inl (cyI, 24, .inl co2)), (b1, .inl (cyI, 24, .inl ti2)), (b2, .inl (cyI, 24, .inl an2))]) ⟨hx, hb, hml, hown, hts⟩ (c_X5_put l dC dI cyI cyZ as g1 25 (nI j2) (0 : Int32) (by omega) _ _ hq16) (va_cwS 3 hts gX5_longestShared_X5_put rfl rfl rfl (by decide +kernel) ⟨Nat.le_of_ble_eq_true rfl, Nat.le_of_ble_eq_true rfl⟩) hP hD hS hA hK hN [1] [0, 2, 3, 4, 5, 6, 7, 8, 9] [0, 9, 1, 2, 3, 4, 5, 6, 7, 8] rfl (by decide) rfl (by decide) (by decide) (by decide) rfl [0, 1] rfl rfl hl.1 rfl (Nat.le_of_ble_eq_true rfl) dX5_longestShared_16 ⟨Nat.zero_le _, Nat.zero_le _⟩ (fun H locs hP hD hS => ?_)
      refine lv_iinc (v := (nI (j2 + 1))) (lv' := [(3, .int (nI (j2 + 1))), (0, .ref hkc), (1, .ref hs), (2, .ref gs)]) hx hb dX5_longestShared_19 hl (k := 0) rfl (by exact nI_add (j2) 1) (by decide) rfl (fun ls hl => ?_)
      refine lv_goto (tgt := 2) hx hb dX5_longestShared_22 (by decide) ?_
      exact ih (j2 + 1) q16 (by omega)  hz2 _ _ hP hD hS _ (lv_sub hl [0, 1, 2, 3] rfl)
  exact LP2 (n2 + 1) 0 sc (by omega)  hz2 _ _ hP hD hS _ (lv_sub hl [0, 1, 2, 3] rfl)

def fX5_rip (kp : Int32) (n : Nat) (co : Nat → Int32) (sc : Nat → Int32) (n_1 : Nat) (co_1 : Nat → Int32) (n_2 : Nat) (co_2 : Nat → Int32) (kn : Int32) : Int32 × (Nat → Int32) :=
  (if (fX5_isBelow kn (2 : Int32)) = 0 then ((-2 : Int32), sc) else (if (fX5_isIn kp kn) = 0 then ((-3 : Int32), sc) else (if kn = 0 then (match fX5_longestShared sc n co n_1 co_1 with | (q55a, q55b) => (((nI (n + n_1)) - ((2 : Int32) * q55a)), q55b)) else (match fX5_longestShared sc n co n_2 co_2 with | (q55a, q55b) => (((nI (n + n_2)) - ((2 : Int32) * q55a)), q55b)))))
set_option maxHeartbeats 4000000 in
set_option maxRecDepth 100000 in
theorem c_X5_rip (l : Launch) (dC : Nat → ClassId) (dI : Nat → Nat → Nat) (cyI cyZ : ClassId) (hkc ht ht1 ht2 hp htr hh as hs ak a0 a1 a2 hs1 ak1 a0_1 a1_1 a2_1 hs2 ak2 a0_2 a1_2 a2_2 : Nat) (kp : Int32) (si : Nat) (fi : Int32) (n : Nat) (ea : Int32) (co : Nat → Int32) (ti : Nat → Int32) (an : Nat → Int32) (sc : Nat → Int32) (si1 : Nat) (fi1 : Int32) (n_1 : Nat) (ea_1 : Int32) (co_1 : Nat → Int32) (ti_1 : Nat → Int32) (an_1 : Nat → Int32) (si2 : Nat) (fi2 : Int32) (n_2 : Nat) (ea_2 : Int32) (co_2 : Nat → Int32) (ti_2 : Nat → Int32) (an_2 : Nat → Int32) (kn : Int32) (hn : n ≤ 24) (hn1 : n_1 ≤ 24) (hn2 : n_2 ≤ 24) (sz : Nat) (r : Int32 × (Nat → Int32)) (hF : fX5_rip kp n co sc n_1 co_1 n_2 co_2 kn = r) : Met l yX5_rip wsX5_rip ({ frames := 2, cells := 0, slots := 0, locals := 49 }) (kx_wp (dC, dI) [(hkc, .inr (5, [.ref ht, .ref ht1, .ref ht2, .int kp, .ref hp, .ref htr, .ref hh, .ref as])), (ht, .inr (3, [.ref hs, .ref ak, .int (nI si), .int fi])), (hs, .inr (2, [.ref a0, .ref a1, .ref a2, .int (nI n), .int ea])), (a0, .inl (cyI, 24, .inl co)), (a1, .inl (cyI, 24, .inl ti)), (a2, .inl (cyI, 24, .inl an)), (as, .inl (cyI, 25, .inl sc)), (ht1, .inr (3, [.ref hs1, .ref ak1, .int (nI si1), .int fi1])), (hs1, .inr (2, [.ref a0_1, .ref a1_1, .ref a2_1, .int (nI n_1), .int ea_1])), (a0_1, .inl (cyI, 24, .inl co_1)), (a1_1, .inl (cyI, 24, .inl ti_1)), (a2_1, .inl (cyI, 24, .inl an_1)), (ht2, .inr (3, [.ref hs2, .ref ak2, .int (nI si2), .int fi2])), (hs2, .inr (2, [.ref a0_2, .ref a1_2, .ref a2_2, .int (nI n_2), .int ea_2])), (a0_2, .inl (cyI, 24, .inl co_2)), (a1_2, .inl (cyI, 24, .inl ti_2)), (a2_2, .inl (cyI, 24, .inl an_2))] [(cyI, .int), (cyZ, .boolean)] sz [.ref hkc, .int kn]) (kx_Qi r.1 (dC, dI) [(hkc, .inr (5, [.ref ht, .ref ht1, .ref ht2, .int kp, .ref hp, .ref htr, .ref hh, .ref as])), (ht, .inr (3, [.ref hs, .ref ak, .int (nI si), .int fi])), (hs, .inr (2, [.ref a0, .ref a1, .ref a2, .int (nI n), .int ea])), (a0, .inl (cyI, 24, .inl co)), (a1, .inl (cyI, 24, .inl ti)), (a2, .inl (cyI, 24, .inl an)), (as, .inl (cyI, 25, .inl sc)), (ht1, .inr (3, [.ref hs1, .ref ak1, .int (nI si1), .int fi1])), (hs1, .inr (2, [.ref a0_1, .ref a1_1, .ref a2_1, .int (nI n_1), .int ea_1])), (a0_1, .inl (cyI, 24, .inl co_1)), (a1_1, .inl (cyI, 24, .inl ti_1)), (a2_1, .inl (cyI, 24, .inl an_1)), (ht2, .inr (3, [.ref hs2, .ref ak2, .int (nI si2), .int fi2])), (hs2, .inr (2, [.ref a0_2, .ref a1_2, .ref a2_2, .int (nI n_2), .int ea_2])), (a0_2, .inl (cyI, 24, .inl co_2)), (a1_2, .inl (cyI, 24, .inl ti_2)), (a2_2, .inl (cyI, 24, .inl an_2))] [(hkc, .inr (5, [.ref ht, .ref ht1, .ref ht2, .int kp, .ref hp, .ref htr, .ref hh, .ref as])), (ht, .inr (3, [.ref hs, .ref ak, .int (nI si), .int fi])), (hs, .inr (2, [.ref a0, .ref a1, .ref a2, .int (nI n), .int ea])), (a0, .inl (cyI, 24, .inl co)), (a1, .inl (cyI, 24, .inl ti)), (a2, .inl (cyI, 24, .inl an)), (as, .inl (cyI, 25, .inl r.2)), (ht1, .inr (3, [.ref hs1, .ref ak1, .int (nI si1), .int fi1])), (hs1, .inr (2, [.ref a0_1, .ref a1_1, .ref a2_1, .int (nI n_1), .int ea_1])), (a0_1, .inl (cyI, 24, .inl co_1)), (a1_1, .inl (cyI, 24, .inl ti_1)), (a2_1, .inl (cyI, 24, .inl an_1)), (ht2, .inr (3, [.ref hs2, .ref ak2, .int (nI si2), .int fi2])), (hs2, .inr (2, [.ref a0_2, .ref a1_2, .ref a2_2, .int (nI n_2), .int ea_2])), (a0_2, .inl (cyI, 24, .inl co_2)), (a1_2, .inl (cyI, 24, .inl ti_2)), (a2_2, .inl (cyI, 24, .inl an_2))] sz) 0 0 (va_A [(hkc, .inr (5, [.ref ht, .ref ht1, .ref ht2, .int kp, .ref hp, .ref htr, .ref hh, .ref as])), (ht, .inr (3, [.ref hs, .ref ak, .int (nI si), .int fi])), (hs, .inr (2, [.ref a0, .ref a1, .ref a2, .int (nI n), .int ea])), (a0, .inl (cyI, 24, .inl co)), (a1, .inl (cyI, 24, .inl ti)), (a2, .inl (cyI, 24, .inl an)), (as, .inl (cyI, 25, .inl sc)), (ht1, .inr (3, [.ref hs1, .ref ak1, .int (nI si1), .int fi1])), (hs1, .inr (2, [.ref a0_1, .ref a1_1, .ref a2_1, .int (nI n_1), .int ea_1])), (a0_1, .inl (cyI, 24, .inl co_1)), (a1_1, .inl (cyI, 24, .inl ti_1)), (a2_1, .inl (cyI, 24, .inl an_1)), (ht2, .inr (3, [.ref hs2, .ref ak2, .int (nI si2), .int fi2])), (hs2, .inr (2, [.ref a0_2, .ref a1_2, .ref a2_2, .int (nI n_2), .int ea_2])), (a0_2, .inl (cyI, 24, .inl co_2)), (a1_2, .inl (cyI, 24, .inl ti_2)), (a2_2, .inl (cyI, 24, .inl an_2))] sz) := by
  refine Met.ofW (cc := cX5_rip) (maxL := 4) (ret := (some .int)) (by decide) rfl ?_
  intro p e s m args below meth c s₁ B hml hv
  obtain ⟨rfl, hsz, hP, hK, hN, hD0⟩ := hv
  have hx := B.exec
  have hb := B.bytes
  have hr := B.returns
  have hts := atoms_spec (ws := wsX5_rip) B.pre
  have hown : s.vm.findClass RX5 = some m.cls := findClass_of_methodNamed B.named
  have hlocks := B.notSynchronized
  subst hsz
  obtain ⟨A, hAe⟩ : ∃ A, A = va_A [(hkc, .inr (5, [.ref ht, .ref ht1, .ref ht2, .int kp, .ref hp, .ref htr, .ref hh, .ref as])), (ht, .inr (3, [.ref hs, .ref ak, .int (nI si), .int fi])), (hs, .inr (2, [.ref a0, .ref a1, .ref a2, .int (nI n), .int ea])), (a0, .inl (cyI, 24, .inl co)), (a1, .inl (cyI, 24, .inl ti)), (a2, .inl (cyI, 24, .inl an)), (as, .inl (cyI, 25, .inl sc)), (ht1, .inr (3, [.ref hs1, .ref ak1, .int (nI si1), .int fi1])), (hs1, .inr (2, [.ref a0_1, .ref a1_1, .ref a2_1, .int (nI n_1), .int ea_1])), (a0_1, .inl (cyI, 24, .inl co_1)), (a1_1, .inl (cyI, 24, .inl ti_1)), (a2_1, .inl (cyI, 24, .inl an_1)), (ht2, .inr (3, [.ref hs2, .ref ak2, .int (nI si2), .int fi2])), (hs2, .inr (2, [.ref a0_2, .ref a1_2, .ref a2_2, .int (nI n_2), .int ea_2])), (a0_2, .inl (cyI, 24, .inl co_2)), (a1_2, .inl (cyI, 24, .inl ti_2)), (a2_2, .inl (cyI, 24, .inl an_2))] s.heap.size := ⟨_, rfl⟩
  have hD : va_D A [(hkc, .inr (5, [.ref ht, .ref ht1, .ref ht2, .int kp, .ref hp, .ref htr, .ref hh, .ref as])), (ht, .inr (3, [.ref hs, .ref ak, .int (nI si), .int fi])), (hs, .inr (2, [.ref a0, .ref a1, .ref a2, .int (nI n), .int ea])), (a0, .inl (cyI, 24, .inl co)), (a1, .inl (cyI, 24, .inl ti)), (a2, .inl (cyI, 24, .inl an)), (as, .inl (cyI, 25, .inl sc)), (ht1, .inr (3, [.ref hs1, .ref ak1, .int (nI si1), .int fi1])), (hs1, .inr (2, [.ref a0_1, .ref a1_1, .ref a2_1, .int (nI n_1), .int ea_1])), (a0_1, .inl (cyI, 24, .inl co_1)), (a1_1, .inl (cyI, 24, .inl ti_1)), (a2_1, .inl (cyI, 24, .inl an_1)), (ht2, .inr (3, [.ref hs2, .ref ak2, .int (nI si2), .int fi2])), (hs2, .inr (2, [.ref a0_2, .ref a1_2, .ref a2_2, .int (nI n_2), .int ea_2])), (a0_2, .inl (cyI, 24, .inl co_2)), (a1_2, .inl (cyI, 24, .inl ti_2)), (a2_2, .inl (cyI, 24, .inl an_2))] := by rw [hAe]; exact hD0.self
  have hA : ∀ q : Nat, s.heap.size ≤ q → A q := fun q h => by rw [hAe]; exact Or.inr h
  have hS : va_S A s.heap s.heap [] := va_S.rf
  have hiX2 : ∀ w ∈ wsX20, w ∈ wsX5_rip := by decide +kernel
  have hiX3 : ∀ w ∈ wsX30, w ∈ wsX5_rip := by decide +kernel
  have hiX5 : ∀ w ∈ wsX50, w ∈ wsX5_rip := by decide +kernel
  have fl10 := hts (.fieldLink RX5 10 "KnitChronicle" "town" "LKnitChronicle$Town;") (by decide +kernel)
  have fl47 := hts (.fieldLink RX5 47 "KnitChronicle$Town" "scarf" "LKnitChronicle$Scarf;") (by decide +kernel)
  have fl69 := hts (.fieldLink RX5 69 "KnitChronicle$Scarf" "size" "I") (by decide +kernel)
  have fl172 := hts (.fieldLink RX5 172 "KnitChronicle" "keptImages" "I") (by decide +kernel)
  have hl := lv_entry ([.ref hkc, .int kn]) (n := 4) (Nat.le_of_ble_eq_true rfl)
  rw [lg_entry_eq]
  generalize (lg_sl ([.ref hkc, .int kn]) ++ List.replicate (4 - (lg_sl ([.ref hkc, .int kn])).length) Slot.unset).toArray = ls at hl ⊢
  have hl : lv_has ls 4 [(0, .ref hkc), (1, .int kn)] := hl
  unfold fX5_rip at hF
  refine lv_iload_n hx hb dX5_rip_0 rfl (lv_at hl 1 rfl) ?_
  refine lv_iconst (v := (2 : Int32)) hx hb dX5_rip_1 (by decide) ?_
  refine kx_cS (As := [.int kn, .int (2 : Int32)]) (rest := []) ⟨hx, hb, hml, hown, hts⟩ (c_X5_isBelow l dC dI cyI cyZ  kn (2 : Int32)  _ rfl) (va_cwS 2 hts gX5_rip_X5_isBelow rfl rfl rfl (by decide +kernel) ⟨Nat.le_of_ble_eq_true rfl, Nat.le_of_ble_eq_true rfl⟩) hP hK hN [] rfl [0, 1] rfl rfl hl.1 rfl (Nat.le_of_ble_eq_true rfl) dX5_rip_2 ⟨Nat.zero_le _, Nat.zero_le _⟩ ?_
  refine lv_if_ne (tgt := 11) hx hb dX5_rip_5 (by decide) (fun c5 => ?_) (fun c5 => ?_)
  · rw [if_neg c5] at hF
    refine lv_aload_n hx hb dX5_rip_11 rfl (lv_at hl 0 rfl) ?_
    refine va_get (D := (dC, dI)) (ci := 5) (v := .int kp) (C := RX5) (T := TX5) (N := 8) hx hb hts hiX5 hown hK hP 0 rfl rfl 3 (by decide) fl172 (fun _ h9 => h9) rfl dX5_rip_12 ?_
    refine lv_iload_n hx hb dX5_rip_15 rfl (lv_at hl 1 rfl) ?_
    refine kx_cS (As := [.int kp, .int kn]) (rest := []) ⟨hx, hb, hml, hown, hts⟩ (c_X5_isIn l dC dI cyI cyZ  kp kn  _ rfl) (va_cwS 2 hts gX5_rip_X5_isIn rfl rfl rfl (by decide +kernel) ⟨Nat.le_of_ble_eq_true rfl, Nat.le_of_ble_eq_true rfl⟩) hP hK hN [] rfl [0, 1] rfl rfl hl.1 rfl (Nat.le_of_ble_eq_true rfl) dX5_rip_16 ⟨Nat.zero_le _, Nat.zero_le _⟩ ?_
    refine lv_if_ne (tgt := 25) hx hb dX5_rip_19 (by decide) (fun c19 => ?_) (fun c19 => ?_)
    · rw [if_neg c19] at hF
      refine lv_aload_n hx hb dX5_rip_25 rfl (lv_at hl 0 rfl) ?_
      refine va_get (D := (dC, dI)) (ci := 5) (v := .ref ht) (C := RX5) (T := TX5) (N := 8) hx hb hts hiX5 hown hK hP 0 rfl rfl 0 (by decide) fl10 (fun _ h9 => h9) rfl dX5_rip_26 ?_
      refine va_get (D := (dC, dI)) (ci := 3) (v := .ref hs) (C := RX3) (T := TX3) (N := 4) hx hb hts hiX3 hown hK hP 1 rfl rfl 0 (by decide) fl47 (fun _ h9 => h9) rfl dX5_rip_29 ?_
      refine lv_astore_n (lv' := [(2, .ref hs), (0, .ref hkc), (1, .int kn)]) hx hb dX5_rip_32 rfl hl (by decide) rfl (fun ls hl => ?_)
      refine lv_aload_n hx hb dX5_rip_33 rfl (lv_at hl 1 rfl) ?_
      refine lv_iload_n hx hb dX5_rip_34 rfl (lv_at hl 2 rfl) ?_
      by_cases c35 : kn = 0
      · rw [if_pos c35] at hF
        refine kx_cV (As := [.int kn]) (rest := []) ⟨hx, hb, hml, hown, hts⟩ (c_X5_imageAt_0 l dC dI cyI cyZ hkc ht ht1 ht2 hp htr hh as kp kn c35 ht1 rfl) (cwV 1 hts gX5_rip_X5_imageAt rfl rfl rfl (by decide +kernel) ⟨Nat.le_of_ble_eq_true rfl, Nat.le_of_ble_eq_true rfl⟩) hP hK hN [0] rfl [0, 1] rfl 5 0 rfl rfl rfl rfl hl.1 rfl (Nat.le_of_ble_eq_true rfl) dX5_rip_35 ⟨Nat.zero_le _, Nat.zero_le _⟩ ?_
        refine va_get (D := (dC, dI)) (ci := 3) (v := .ref hs1) (C := RX3) (T := TX3) (N := 4) hx hb hts hiX3 hown hK hP 7 rfl rfl 0 (by decide) fl47 (fun _ h9 => h9) rfl dX5_rip_38 ?_
        refine lv_astore_n (lv' := [(3, .ref hs1), (2, .ref hs), (0, .ref hkc), (1, .int kn)]) hx hb dX5_rip_41 rfl hl (by decide) rfl (fun ls hl => ?_)
        refine lv_aload_n hx hb dX5_rip_42 rfl (lv_at hl 1 rfl) ?_
        refine va_get (D := (dC, dI)) (ci := 2) (v := .int (nI n)) (C := RX2) (T := TX2) (N := 5) hx hb hts hiX2 hown hK hP 2 rfl rfl 3 (by decide) fl69 (fun _ h9 => h9) rfl dX5_rip_43 ?_
        refine lv_aload_n hx hb dX5_rip_46 rfl (lv_at hl 0 rfl) ?_
        refine va_get (D := (dC, dI)) (ci := 2) (v := .int (nI n_1)) (C := RX2) (T := TX2) (N := 5) hx hb hts hiX2 hown hK hP 8 rfl rfl 3 (by decide) fl69 (fun _ h9 => h9) rfl dX5_rip_47 ?_
        refine lv_iadd hx hb dX5_rip_50 ?_
        refine kx_e (nI_add (n) (n_1)) ?_
        refine lv_iconst (v := (2 : Int32)) hx hb dX5_rip_51 (by decide) ?_
        refine lv_aload_n hx hb dX5_rip_52 rfl (lv_at hl 2 rfl) ?_
        refine lv_aload_n hx hb dX5_rip_53 rfl (lv_at hl 1 rfl) ?_
        refine lv_aload_n hx hb dX5_rip_54 rfl (lv_at hl 0 rfl) ?_
        generalize hq55 : fX5_longestShared sc n co n_1 co_1 = q55 at hF
        obtain ⟨q55a, q55b⟩ := q55
        dsimp only at hF
        refine kx_wVi (As := [.ref hs, .ref hs1]) (rest := [.int (2 : Int32), .int (nI (n + n_1))]) (wr := [(ht, .inr (3, [.ref hs, .ref ak, .int (nI si), .int fi])), (ht1, .inr (3, [.ref hs1, .ref ak1, .int (nI si1), .int fi1])), (ht2, .inr (3, [.ref hs2, .ref ak2, .int (nI si2), .int fi2])), (hs2, .inr (2, [.ref a0_2, .ref a1_2, .ref a2_2, .int (nI n_2), .int ea_2])), (a0_2, .inl (cyI, 24, .inl co_2)), (a1_2, .inl (cyI, 24, .inl ti_2)), (a2_2, .inl (cyI, 24, .inl an_2))]) (wc' := [(hkc, .inr (5, [.ref ht, .ref ht1, .ref ht2, .int kp, .ref hp, .ref htr, .ref hh, .ref as])), (as, .inl (cyI, 25, .inl q55b)), (hs, .inr (2, [.ref a0, .ref a1, .ref a2, .int (nI n), .int ea])), (a0, .inl (cyI, 24, .inl co)), (a1, .inl (cyI, 24, .inl ti)), (a2, .inl (cyI, 24, .inl an)), (hs1, .inr (2, [.ref a0_1, .ref a1_1, .ref a2_1, .int (nI n_1), .int ea_1])), (a0_1, .inl (cyI, 24, .inl co_1)), (a1_1, .inl (cyI, 24, .inl ti_1)), (a2_1, .inl (cyI, 24, .inl an_1))]) (W1 := [(hkc, .inr (5, [.ref ht, .ref ht1, .ref ht2, .int kp, .ref hp, .ref htr, .ref hh, .ref as])), (ht, .inr (3, [.ref hs, .ref ak, .int (nI si), .int fi])), (hs, .inr (2, [.ref a0, .ref a1, .ref a2, .int (nI n), .int ea])), (a0, .inl (cyI, 24, .inl co)), (a1, .inl (cyI, 24, .inl ti)), (a2, .inl (cyI, 24, .inl an)), (as, .inl (cyI, 25, .inl q55b)), (ht1, .inr (3, [.ref hs1, .ref ak1, .int (nI si1), .int fi1])), (hs1, .inr (2, [.ref a0_1, .ref a1_1, .ref a2_1, .int (nI n_1), .int ea_1])), (a0_1, .inl (cyI, 24, .inl co_1)), (a1_1, .inl (cyI, 24, .inl ti_1)), (a2_1, .inl (cyI, 24, .inl an_1)), (ht2, .inr (3, [.ref hs2, .ref ak2, .int (nI si2), .int fi2])), (hs2, .inr (2, [.ref a0_2, .ref a1_2, .ref a2_2, .int (nI n_2), .int ea_2])), (a0_2, .inl (cyI, 24, .inl co_2)), (a1_2, .inl (cyI, 24, .inl ti_2)), (a2_2, .inl (cyI, 24, .inl an_2))]) ⟨hx, hb, hml, hown, hts⟩ (c_X5_longestShared l dC dI cyI cyZ hkc ht ht1 ht2 hp htr hh as hs a0 a1 a2 hs1 a0_1 a1_1 a2_1 kp sc n ea co ti an n_1 ea_1 co_1 ti_1 an_1 (by omega) (by omega) _ _ hq55) (cwV 2 hts gX5_rip_X5_longestShared rfl rfl rfl (by decide +kernel) ⟨Nat.le_of_ble_eq_true rfl, Nat.le_of_ble_eq_true rfl⟩) hP hD hS hA hK hN [0, 6, 2, 3, 4, 5, 8, 9, 10, 11] [1, 7, 12, 13, 14, 15, 16] [7, 0, 9, 10, 11, 12, 8, 1, 13, 14, 15, 16, 2, 3, 4, 5, 6] rfl (by decide) rfl (by decide) (by decide) (by decide) rfl [0, 1] rfl 5 0 rfl rfl rfl rfl hl.1 rfl (Nat.le_of_ble_eq_true rfl) dX5_rip_55 ⟨Nat.zero_le _, Nat.zero_le _⟩ (fun H locs hP hD hS => ?_)
        refine lv_imul hx hb dX5_rip_58 ?_
        refine lv_isub hx hb dX5_rip_59 ?_
        subst hF
        subst hAe
        exact W.iret hx hb hr (fun t ht _ => ⟨⟨_, (), rfl, rfl, by rw [ht]; exact hP, hD⟩, hS.F ht⟩) hS.2.2 dX5_rip_60
      · rw [if_neg c35] at hF
        refine kx_cV (As := [.int kn]) (rest := []) ⟨hx, hb, hml, hown, hts⟩ (c_X5_imageAt_1 l dC dI cyI cyZ hkc ht ht1 ht2 hp htr hh as kp kn c35 ht2 rfl) (cwV 1 hts gX5_rip_X5_imageAt rfl rfl rfl (by decide +kernel) ⟨Nat.le_of_ble_eq_true rfl, Nat.le_of_ble_eq_true rfl⟩) hP hK hN [0] rfl [0, 1] rfl 5 0 rfl rfl rfl rfl hl.1 rfl (Nat.le_of_ble_eq_true rfl) dX5_rip_35 ⟨Nat.zero_le _, Nat.zero_le _⟩ ?_
        refine va_get (D := (dC, dI)) (ci := 3) (v := .ref hs2) (C := RX3) (T := TX3) (N := 4) hx hb hts hiX3 hown hK hP 12 rfl rfl 0 (by decide) fl47 (fun _ h9 => h9) rfl dX5_rip_38 ?_
        refine lv_astore_n (lv' := [(3, .ref hs2), (2, .ref hs), (0, .ref hkc), (1, .int kn)]) hx hb dX5_rip_41 rfl hl (by decide) rfl (fun ls hl => ?_)
        refine lv_aload_n hx hb dX5_rip_42 rfl (lv_at hl 1 rfl) ?_
        refine va_get (D := (dC, dI)) (ci := 2) (v := .int (nI n)) (C := RX2) (T := TX2) (N := 5) hx hb hts hiX2 hown hK hP 2 rfl rfl 3 (by decide) fl69 (fun _ h9 => h9) rfl dX5_rip_43 ?_
        refine lv_aload_n hx hb dX5_rip_46 rfl (lv_at hl 0 rfl) ?_
        refine va_get (D := (dC, dI)) (ci := 2) (v := .int (nI n_2)) (C := RX2) (T := TX2) (N := 5) hx hb hts hiX2 hown hK hP 13 rfl rfl 3 (by decide) fl69 (fun _ h9 => h9) rfl dX5_rip_47 ?_
        refine lv_iadd hx hb dX5_rip_50 ?_
        refine kx_e (nI_add (n) (n_2)) ?_
        refine lv_iconst (v := (2 : Int32)) hx hb dX5_rip_51 (by decide) ?_
        refine lv_aload_n hx hb dX5_rip_52 rfl (lv_at hl 2 rfl) ?_
        refine lv_aload_n hx hb dX5_rip_53 rfl (lv_at hl 1 rfl) ?_
        refine lv_aload_n hx hb dX5_rip_54 rfl (lv_at hl 0 rfl) ?_
        generalize hq55 : fX5_longestShared sc n co n_2 co_2 = q55 at hF
        obtain ⟨q55a, q55b⟩ := q55
        dsimp only at hF
        refine kx_wVi (As := [.ref hs, .ref hs2]) (rest := [.int (2 : Int32), .int (nI (n + n_2))]) (wr := [(ht, .inr (3, [.ref hs, .ref ak, .int (nI si), .int fi])), (ht1, .inr (3, [.ref hs1, .ref ak1, .int (nI si1), .int fi1])), (hs1, .inr (2, [.ref a0_1, .ref a1_1, .ref a2_1, .int (nI n_1), .int ea_1])), (a0_1, .inl (cyI, 24, .inl co_1)), (a1_1, .inl (cyI, 24, .inl ti_1)), (a2_1, .inl (cyI, 24, .inl an_1)), (ht2, .inr (3, [.ref hs2, .ref ak2, .int (nI si2), .int fi2]))]) (wc' := [(hkc, .inr (5, [.ref ht, .ref ht1, .ref ht2, .int kp, .ref hp, .ref htr, .ref hh, .ref as])), (as, .inl (cyI, 25, .inl q55b)), (hs, .inr (2, [.ref a0, .ref a1, .ref a2, .int (nI n), .int ea])), (a0, .inl (cyI, 24, .inl co)), (a1, .inl (cyI, 24, .inl ti)), (a2, .inl (cyI, 24, .inl an)), (hs2, .inr (2, [.ref a0_2, .ref a1_2, .ref a2_2, .int (nI n_2), .int ea_2])), (a0_2, .inl (cyI, 24, .inl co_2)), (a1_2, .inl (cyI, 24, .inl ti_2)), (a2_2, .inl (cyI, 24, .inl an_2))]) (W1 := [(hkc, .inr (5, [.ref ht, .ref ht1, .ref ht2, .int kp, .ref hp, .ref htr, .ref hh, .ref as])), (ht, .inr (3, [.ref hs, .ref ak, .int (nI si), .int fi])), (hs, .inr (2, [.ref a0, .ref a1, .ref a2, .int (nI n), .int ea])), (a0, .inl (cyI, 24, .inl co)), (a1, .inl (cyI, 24, .inl ti)), (a2, .inl (cyI, 24, .inl an)), (as, .inl (cyI, 25, .inl q55b)), (ht1, .inr (3, [.ref hs1, .ref ak1, .int (nI si1), .int fi1])), (hs1, .inr (2, [.ref a0_1, .ref a1_1, .ref a2_1, .int (nI n_1), .int ea_1])), (a0_1, .inl (cyI, 24, .inl co_1)), (a1_1, .inl (cyI, 24, .inl ti_1)), (a2_1, .inl (cyI, 24, .inl an_1)), (ht2, .inr (3, [.ref hs2, .ref ak2, .int (nI si2), .int fi2])), (hs2, .inr (2, [.ref a0_2, .ref a1_2, .ref a2_2, .int (nI n_2), .int ea_2])), (a0_2, .inl (cyI, 24, .inl co_2)), (a1_2, .inl (cyI, 24, .inl ti_2)), (a2_2, .inl (cyI, 24, .inl an_2))]) ⟨hx, hb, hml, hown, hts⟩ (c_X5_longestShared l dC dI cyI cyZ hkc ht ht1 ht2 hp htr hh as hs a0 a1 a2 hs2 a0_2 a1_2 a2_2 kp sc n ea co ti an n_2 ea_2 co_2 ti_2 an_2 (by omega) (by omega) _ _ hq55) (cwV 2 hts gX5_rip_X5_longestShared rfl rfl rfl (by decide +kernel) ⟨Nat.le_of_ble_eq_true rfl, Nat.le_of_ble_eq_true rfl⟩) hP hD hS hA hK hN [0, 6, 2, 3, 4, 5, 13, 14, 15, 16] [1, 7, 8, 9, 10, 11, 12] [7, 0, 9, 10, 11, 12, 8, 1, 2, 3, 4, 5, 6, 13, 14, 15, 16] rfl (by decide) rfl (by decide) (by decide) (by decide) rfl [0, 1] rfl 5 0 rfl rfl rfl rfl hl.1 rfl (Nat.le_of_ble_eq_true rfl) dX5_rip_55 ⟨Nat.zero_le _, Nat.zero_le _⟩ (fun H locs hP hD hS => ?_)
        refine lv_imul hx hb dX5_rip_58 ?_
        refine lv_isub hx hb dX5_rip_59 ?_
        subst hF
        subst hAe
        exact W.iret hx hb hr (fun t ht _ => ⟨⟨_, (), rfl, rfl, by rw [ht]; exact hP, hD⟩, hS.F ht⟩) hS.2.2 dX5_rip_60
    · rw [if_pos c19] at hF
      refine lv_bipush (v := (-3 : Int32)) hx hb dX5_rip_22 (by decide) ?_
      subst hF
      subst hAe
      exact W.iret hx hb hr (fun t ht _ => ⟨⟨_, (), rfl, rfl, by rw [ht]; exact hP, hD⟩, hS.F ht⟩) hS.2.2 dX5_rip_24
  · rw [if_pos c5] at hF
    refine lv_bipush (v := (-2 : Int32)) hx hb dX5_rip_8 (by decide) ?_
    subst hF
    subst hAe
    exact W.iret hx hb hr (fun t ht _ => ⟨⟨_, (), rfl, rfl, by rw [ht]; exact hP, hD⟩, hS.F ht⟩) hS.2.2 dX5_rip_10

def fX5_leastBurden_L14 (n : Nat) (ti : Nat → Int32) (kw : Int32) : Nat → Nat → Int32
  | 0, _ => (fX2_tightnessFrom n ti 0)
  | r14 + 1, j14 => (if kw < (fX2_stretchesFrom n ti 0 (nI j14)) then (fX5_leastBurden_L14 n ti kw r14 (j14 + 1)) else (nI j14))
def fX5_leastBurden (n : Nat) (ti : Nat → Int32) (kw : Int32) : Int32 :=
  (fX5_leastBurden_L14 n ti kw ((fX2_tightnessFrom n ti 0).toNatClampNeg) 0)
set_option maxHeartbeats 4000000 in
set_option maxRecDepth 100000 in
theorem c_X5_leastBurden (l : Launch) (dC : Nat → ClassId) (dI : Nat → Nat → Nat) (cyI cyZ : ClassId) (hkc ht ht1 ht2 hp htr hh as hs ak a0 a1 a2 : Nat) (kp : Int32) (si : Nat) (fi : Int32) (n : Nat) (ea : Int32) (co : Nat → Int32) (ti : Nat → Int32) (an : Nat → Int32) (kw : Int32) (hn : n ≤ 24) (r : Int32) (hF : fX5_leastBurden n ti kw = r) : Met l yX5_leastBurden wsX5_leastBurden ({ frames := 2, cells := 0, slots := 0, locals := 47 }) (kx_rp (dC, dI) [(hkc, .inr (5, [.ref ht, .ref ht1, .ref ht2, .int kp, .ref hp, .ref htr, .ref hh, .ref as])), (ht, .inr (3, [.ref hs, .ref ak, .int (nI si), .int fi])), (hs, .inr (2, [.ref a0, .ref a1, .ref a2, .int (nI n), .int ea])), (a0, .inl (cyI, 24, .inl co)), (a1, .inl (cyI, 24, .inl ti)), (a2, .inl (cyI, 24, .inl an))] [(cyI, .int), (cyZ, .boolean)] [.ref hkc, .int kw]) (k2_QcV (.int r)) 0 0 (fun _ => False) := by
  refine Met.ofW (cc := cX5_leastBurden) (maxL := 4) (ret := (some .int)) (by decide) rfl ?_
  intro p e s m args below meth c s₁ B hml hv
  obtain ⟨rfl, hP, hK, hN⟩ := hv
  have hx := B.exec
  have hb := B.bytes
  have hr := B.returns
  have hts := atoms_spec (ws := wsX5_leastBurden) B.pre
  have hown : s.vm.findClass RX5 = some m.cls := findClass_of_methodNamed B.named
  have hlocks := B.notSynchronized
  have hiX3 : ∀ w ∈ wsX30, w ∈ wsX5_leastBurden := by decide +kernel
  have hiX5 : ∀ w ∈ wsX50, w ∈ wsX5_leastBurden := by decide +kernel
  have fl10 := hts (.fieldLink RX5 10 "KnitChronicle" "town" "LKnitChronicle$Town;") (by decide +kernel)
  have fl47 := hts (.fieldLink RX5 47 "KnitChronicle$Town" "scarf" "LKnitChronicle$Scarf;") (by decide +kernel)
  have hl := lv_entry ([.ref hkc, .int kw]) (n := 4) (Nat.le_of_ble_eq_true rfl)
  rw [lg_entry_eq]
  generalize (lg_sl ([.ref hkc, .int kw]) ++ List.replicate (4 - (lg_sl ([.ref hkc, .int kw])).length) Slot.unset).toArray = ls at hl ⊢
  have hl : lv_has ls 4 [(0, .ref hkc), (1, .int kw)] := hl
  unfold fX5_leastBurden at hF
  refine lv_aload_n hx hb dX5_leastBurden_0 rfl (lv_at hl 0 rfl) ?_
  refine va_get (D := (dC, dI)) (ci := 5) (v := .ref ht) (C := RX5) (T := TX5) (N := 8) hx hb hts hiX5 hown hK hP 0 rfl rfl 0 (by decide) fl10 (fun _ h9 => h9) rfl dX5_leastBurden_1 ?_
  refine va_get (D := (dC, dI)) (ci := 3) (v := .ref hs) (C := RX3) (T := TX3) (N := 4) hx hb hts hiX3 hown hK hP 1 rfl rfl 0 (by decide) fl47 (fun _ h9 => h9) rfl dX5_leastBurden_4 ?_
  refine lv_iconst (v := (0 : Int32)) hx hb dX5_leastBurden_7 (by decide) ?_
  refine kx_cV (As := [.int (0 : Int32)]) (rest := []) ⟨hx, hb, hml, hown, hts⟩ (c_X2_tightnessFrom l dC dI cyI cyZ hs a0 a1 a2 n ea co ti an 0 (by omega) (by omega) _ rfl) (cwV 1 hts gX5_leastBurden_X2_tightnessFrom rfl rfl rfl (by decide +kernel) ⟨Nat.le_of_ble_eq_true rfl, Nat.le_of_ble_eq_true rfl⟩) hP hK hN [2, 3, 4, 5] rfl [0, 1] rfl 2 2 rfl rfl rfl rfl hl.1 rfl (Nat.le_of_ble_eq_true rfl) dX5_leastBurden_8 ⟨Nat.zero_le _, Nat.zero_le _⟩ ?_
  refine lv_istore_n (lv' := [(2, .int (fX2_tightnessFrom n ti 0)), (0, .ref hkc), (1, .int kw)]) hx hb dX5_leastBurden_11 rfl hl (by decide) rfl (fun ls hl => ?_)
  have htn := kx_tnc (fX2_tightnessFrom n ti 0)
  refine lv_iconst (v := (0 : Int32)) hx hb dX5_leastBurden_12 (by decide) ?_
  refine lv_istore_n (lv' := [(3, .int (0 : Int32)), (2, .int (fX2_tightnessFrom n ti 0)), (0, .ref hkc), (1, .int kw)]) hx hb dX5_leastBurden_13 rfl hl (by decide) rfl (fun ls hl => ?_)
  have LP14 : ∀ (r14 : Nat) (j14 : Nat), r14 + j14 = (fX2_tightnessFrom n ti 0).toNatClampNeg → fX5_leastBurden_L14 n ti kw r14 j14 = r → ∀ (ls : Array Slot), lv_has ls 4 [(3, .int (nI j14)), (2, .int (fX2_tightnessFrom n ti 0)), (0, .ref hkc), (1, .int kw)] → W p l e (headSpec wsX5_leastBurden ({ frames := 2, cells := 0, slots := 0, locals := 47 } : Room)).room s m ([.ref hkc, .int kw] : List Value).toArray below meth c s.heap [] 0 0 (MQ below (k2_QcV (.int r)) ([.ref hkc, .int kw] : List Value).toArray s 0 0 (fun _ => False)) (F0 m 14 ls []) := by
    intro r14
    induction r14 with
    | zero =>
      intro j14 hrj hF ls hl
      rw [fX5_leastBurden_L14] at hF
      refine lv_iload_n hx hb dX5_leastBurden_14 rfl (lv_at hl 0 rfl) ?_
      refine lv_iload_n hx hb dX5_leastBurden_15 rfl (lv_at hl 1 rfl) ?_
      refine kx_geR hx hb (j14) (fX2_tightnessFrom n ti 0) rfl (by omega) dX5_leastBurden_16 (by decide) (tgt := 43) (fun c16 => ?_) (fun c16 => absurd c16 (by omega))
      refine lv_iload_n hx hb dX5_leastBurden_43 rfl (lv_at hl 1 rfl) ?_
      exact W.iret hx hb hr (fun t ht _ => ⟨congrArg (fun z => Outcome.returned (some (Value.int z))) hF, ht⟩) (fun _ h => absurd h List.not_mem_nil) dX5_leastBurden_44
    | succ r14 ih =>
      intro j14 hrj hF ls hl
      rw [fX5_leastBurden_L14] at hF
      refine lv_iload_n hx hb dX5_leastBurden_14 rfl (lv_at hl 0 rfl) ?_
      refine lv_iload_n hx hb dX5_leastBurden_15 rfl (lv_at hl 1 rfl) ?_
      refine kx_geR hx hb (j14) (fX2_tightnessFrom n ti 0) rfl (by omega) dX5_leastBurden_16 (by decide) (tgt := 43) (fun c16 => absurd c16 (by omega)) (fun c16 => ?_)
      refine lv_aload_n hx hb dX5_leastBurden_19 rfl (lv_at hl 2 rfl) ?_
      refine va_get (D := (dC, dI)) (ci := 5) (v := .ref ht) (C := RX5) (T := TX5) (N := 8) hx hb hts hiX5 hown hK hP 0 rfl rfl 0 (by decide) fl10 (fun _ h9 => h9) rfl dX5_leastBurden_20 ?_
      refine va_get (D := (dC, dI)) (ci := 3) (v := .ref hs) (C := RX3) (T := TX3) (N := 4) hx hb hts hiX3 hown hK hP 1 rfl rfl 0 (by decide) fl47 (fun _ h9 => h9) rfl dX5_leastBurden_23 ?_
      refine lv_iconst (v := (0 : Int32)) hx hb dX5_leastBurden_26 (by decide) ?_
      refine lv_iload_n hx hb dX5_leastBurden_27 rfl (lv_at hl 0 rfl) ?_
      refine kx_cV (As := [.int (0 : Int32), .int (nI j14)]) (rest := []) ⟨hx, hb, hml, hown, hts⟩ (c_X2_stretchesFrom l dC dI cyI cyZ hs a0 a1 a2 n ea co ti an 0 (nI j14) (by omega) (by omega) _ rfl) (cwV 2 hts gX5_leastBurden_X2_stretchesFrom rfl rfl rfl (by decide +kernel) ⟨Nat.le_of_ble_eq_true rfl, Nat.le_of_ble_eq_true rfl⟩) hP hK hN [2, 3, 4, 5] rfl [0, 1] rfl 2 2 rfl rfl rfl rfl hl.1 rfl (Nat.le_of_ble_eq_true rfl) dX5_leastBurden_28 ⟨Nat.zero_le _, Nat.zero_le _⟩ ?_
      refine lv_iload_n hx hb dX5_leastBurden_31 rfl (lv_at hl 3 rfl) ?_
      refine lv_icmp_gt (tgt := 37) hx hb dX5_leastBurden_32 (by decide) (fun c32 => ?_) (fun c32 => ?_)
      · rw [if_pos c32] at hF
        refine lv_iinc (v := (nI (j14 + 1))) (lv' := [(3, .int (nI (j14 + 1))), (2, .int (fX2_tightnessFrom n ti 0)), (0, .ref hkc), (1, .int kw)]) hx hb dX5_leastBurden_37 hl (k := 0) rfl (by exact nI_add (j14) 1) (by decide) rfl (fun ls hl => ?_)
        refine lv_goto (tgt := 14) hx hb dX5_leastBurden_40 (by decide) ?_
        exact ih (j14 + 1) (by omega)  hF _ (lv_sub hl [0, 1, 2, 3] rfl)
      · rw [if_neg c32] at hF
        refine lv_iload_n hx hb dX5_leastBurden_35 rfl (lv_at hl 0 rfl) ?_
        exact W.iret hx hb hr (fun t ht _ => ⟨congrArg (fun z => Outcome.returned (some (Value.int z))) hF, ht⟩) (fun _ h => absurd h List.not_mem_nil) dX5_leastBurden_36
  exact LP14 ((fX2_tightnessFrom n ti 0).toNatClampNeg) 0  (by omega)  hF _ (lv_sub hl [0, 1, 2, 3] rfl)

def fX5_fewestOfFirst_L2 (n : Nat) (ti : Nat → Int32) (kw : Int32) (bu : Int32) : Nat → Nat → Int32
  | 0, _ => (nI n)
  | r2 + 1, j2 => (if (kw - (1 : Int32)) < (fX2_stretchesFrom n ti j2 bu) then (fX5_fewestOfFirst_L2 n ti kw bu r2 (j2 + 1)) else (nI j2))
def fX5_fewestOfFirst (n : Nat) (ti : Nat → Int32) (kw : Int32) (bu : Int32) : Int32 :=
  (fX5_fewestOfFirst_L2 n ti kw bu n 0)
set_option maxHeartbeats 4000000 in
set_option maxRecDepth 100000 in
theorem c_X5_fewestOfFirst (l : Launch) (dC : Nat → ClassId) (dI : Nat → Nat → Nat) (cyI cyZ : ClassId) (hkc ht ht1 ht2 hp htr hh as hs ak a0 a1 a2 : Nat) (kp : Int32) (si : Nat) (fi : Int32) (n : Nat) (ea : Int32) (co : Nat → Int32) (ti : Nat → Int32) (an : Nat → Int32) (kw : Int32) (bu : Int32) (hn : n ≤ 24) (r : Int32) (hF : fX5_fewestOfFirst n ti kw bu = r) : Met l yX5_fewestOfFirst wsX5_fewestOfFirst ({ frames := 2, cells := 0, slots := 0, locals := 47 }) (kx_rp (dC, dI) [(hkc, .inr (5, [.ref ht, .ref ht1, .ref ht2, .int kp, .ref hp, .ref htr, .ref hh, .ref as])), (ht, .inr (3, [.ref hs, .ref ak, .int (nI si), .int fi])), (hs, .inr (2, [.ref a0, .ref a1, .ref a2, .int (nI n), .int ea])), (a0, .inl (cyI, 24, .inl co)), (a1, .inl (cyI, 24, .inl ti)), (a2, .inl (cyI, 24, .inl an))] [(cyI, .int), (cyZ, .boolean)] [.ref hkc, .int kw, .int bu]) (k2_QcV (.int r)) 0 0 (fun _ => False) := by
  refine Met.ofW (cc := cX5_fewestOfFirst) (maxL := 4) (ret := (some .int)) (by decide) rfl ?_
  intro p e s m args below meth c s₁ B hml hv
  obtain ⟨rfl, hP, hK, hN⟩ := hv
  have hx := B.exec
  have hb := B.bytes
  have hr := B.returns
  have hts := atoms_spec (ws := wsX5_fewestOfFirst) B.pre
  have hown : s.vm.findClass RX5 = some m.cls := findClass_of_methodNamed B.named
  have hlocks := B.notSynchronized
  have hiX2 : ∀ w ∈ wsX20, w ∈ wsX5_fewestOfFirst := by decide +kernel
  have hiX3 : ∀ w ∈ wsX30, w ∈ wsX5_fewestOfFirst := by decide +kernel
  have hiX5 : ∀ w ∈ wsX50, w ∈ wsX5_fewestOfFirst := by decide +kernel
  have fl10 := hts (.fieldLink RX5 10 "KnitChronicle" "town" "LKnitChronicle$Town;") (by decide +kernel)
  have fl47 := hts (.fieldLink RX5 47 "KnitChronicle$Town" "scarf" "LKnitChronicle$Scarf;") (by decide +kernel)
  have fl69 := hts (.fieldLink RX5 69 "KnitChronicle$Scarf" "size" "I") (by decide +kernel)
  have hl := lv_entry ([.ref hkc, .int kw, .int bu]) (n := 4) (Nat.le_of_ble_eq_true rfl)
  rw [lg_entry_eq]
  generalize (lg_sl ([.ref hkc, .int kw, .int bu]) ++ List.replicate (4 - (lg_sl ([.ref hkc, .int kw, .int bu])).length) Slot.unset).toArray = ls at hl ⊢
  have hl : lv_has ls 4 [(0, .ref hkc), (1, .int kw), (2, .int bu)] := hl
  unfold fX5_fewestOfFirst at hF
  refine lv_iconst (v := (0 : Int32)) hx hb dX5_fewestOfFirst_0 (by decide) ?_
  refine lv_istore_n (lv' := [(3, .int (0 : Int32)), (0, .ref hkc), (1, .int kw), (2, .int bu)]) hx hb dX5_fewestOfFirst_1 rfl hl (by decide) rfl (fun ls hl => ?_)
  have LP2 : ∀ (r2 : Nat) (j2 : Nat), r2 + j2 = n → fX5_fewestOfFirst_L2 n ti kw bu r2 j2 = r → ∀ (ls : Array Slot), lv_has ls 4 [(3, .int (nI j2)), (0, .ref hkc), (1, .int kw), (2, .int bu)] → W p l e (headSpec wsX5_fewestOfFirst ({ frames := 2, cells := 0, slots := 0, locals := 47 } : Room)).room s m ([.ref hkc, .int kw, .int bu] : List Value).toArray below meth c s.heap [] 0 0 (MQ below (k2_QcV (.int r)) ([.ref hkc, .int kw, .int bu] : List Value).toArray s 0 0 (fun _ => False)) (F0 m 2 ls []) := by
    intro r2
    induction r2 with
    | zero =>
      intro j2 hrj hF ls hl
      rw [fX5_fewestOfFirst_L2] at hF
      refine lv_iload_n hx hb dX5_fewestOfFirst_2 rfl (lv_at hl 0 rfl) ?_
      refine lv_aload_n hx hb dX5_fewestOfFirst_3 rfl (lv_at hl 1 rfl) ?_
      refine va_get (D := (dC, dI)) (ci := 5) (v := .ref ht) (C := RX5) (T := TX5) (N := 8) hx hb hts hiX5 hown hK hP 0 rfl rfl 0 (by decide) fl10 (fun _ h9 => h9) rfl dX5_fewestOfFirst_4 ?_
      refine va_get (D := (dC, dI)) (ci := 3) (v := .ref hs) (C := RX3) (T := TX3) (N := 4) hx hb hts hiX3 hown hK hP 1 rfl rfl 0 (by decide) fl47 (fun _ h9 => h9) rfl dX5_fewestOfFirst_7 ?_
      refine va_get (D := (dC, dI)) (ci := 2) (v := .int (nI n)) (C := RX2) (T := TX2) (N := 5) hx hb hts hiX2 hown hK hP 2 rfl rfl 3 (by decide) fl69 (fun _ h9 => h9) rfl dX5_fewestOfFirst_10 ?_
      refine kx_ge hx hb (j2) (n) rfl rfl (by omega) (by omega) dX5_fewestOfFirst_13 (by decide) (tgt := 42) (fun c13 => ?_) (fun c13 => absurd c13 (by omega))
      refine lv_aload_n hx hb dX5_fewestOfFirst_42 rfl (lv_at hl 1 rfl) ?_
      refine va_get (D := (dC, dI)) (ci := 5) (v := .ref ht) (C := RX5) (T := TX5) (N := 8) hx hb hts hiX5 hown hK hP 0 rfl rfl 0 (by decide) fl10 (fun _ h9 => h9) rfl dX5_fewestOfFirst_43 ?_
      refine va_get (D := (dC, dI)) (ci := 3) (v := .ref hs) (C := RX3) (T := TX3) (N := 4) hx hb hts hiX3 hown hK hP 1 rfl rfl 0 (by decide) fl47 (fun _ h9 => h9) rfl dX5_fewestOfFirst_46 ?_
      refine va_get (D := (dC, dI)) (ci := 2) (v := .int (nI n)) (C := RX2) (T := TX2) (N := 5) hx hb hts hiX2 hown hK hP 2 rfl rfl 3 (by decide) fl69 (fun _ h9 => h9) rfl dX5_fewestOfFirst_49 ?_
      exact W.iret hx hb hr (fun t ht _ => ⟨congrArg (fun z => Outcome.returned (some (Value.int z))) hF, ht⟩) (fun _ h => absurd h List.not_mem_nil) dX5_fewestOfFirst_52
    | succ r2 ih =>
      intro j2 hrj hF ls hl
      rw [fX5_fewestOfFirst_L2] at hF
      refine lv_iload_n hx hb dX5_fewestOfFirst_2 rfl (lv_at hl 0 rfl) ?_
      refine lv_aload_n hx hb dX5_fewestOfFirst_3 rfl (lv_at hl 1 rfl) ?_
      refine va_get (D := (dC, dI)) (ci := 5) (v := .ref ht) (C := RX5) (T := TX5) (N := 8) hx hb hts hiX5 hown hK hP 0 rfl rfl 0 (by decide) fl10 (fun _ h9 => h9) rfl dX5_fewestOfFirst_4 ?_
      refine va_get (D := (dC, dI)) (ci := 3) (v := .ref hs) (C := RX3) (T := TX3) (N := 4) hx hb hts hiX3 hown hK hP 1 rfl rfl 0 (by decide) fl47 (fun _ h9 => h9) rfl dX5_fewestOfFirst_7 ?_
      refine va_get (D := (dC, dI)) (ci := 2) (v := .int (nI n)) (C := RX2) (T := TX2) (N := 5) hx hb hts hiX2 hown hK hP 2 rfl rfl 3 (by decide) fl69 (fun _ h9 => h9) rfl dX5_fewestOfFirst_10 ?_
      refine kx_ge hx hb (j2) (n) rfl rfl (by omega) (by omega) dX5_fewestOfFirst_13 (by decide) (tgt := 42) (fun c13 => absurd c13 (by omega)) (fun c13 => ?_)
      refine lv_aload_n hx hb dX5_fewestOfFirst_16 rfl (lv_at hl 1 rfl) ?_
      refine va_get (D := (dC, dI)) (ci := 5) (v := .ref ht) (C := RX5) (T := TX5) (N := 8) hx hb hts hiX5 hown hK hP 0 rfl rfl 0 (by decide) fl10 (fun _ h9 => h9) rfl dX5_fewestOfFirst_17 ?_
      refine va_get (D := (dC, dI)) (ci := 3) (v := .ref hs) (C := RX3) (T := TX3) (N := 4) hx hb hts hiX3 hown hK hP 1 rfl rfl 0 (by decide) fl47 (fun _ h9 => h9) rfl dX5_fewestOfFirst_20 ?_
      refine lv_iload_n hx hb dX5_fewestOfFirst_23 rfl (lv_at hl 0 rfl) ?_
      refine lv_iload_n hx hb dX5_fewestOfFirst_24 rfl (lv_at hl 3 rfl) ?_
      refine kx_cV (As := [.int (nI j2), .int bu]) (rest := []) ⟨hx, hb, hml, hown, hts⟩ (c_X2_stretchesFrom l dC dI cyI cyZ hs a0 a1 a2 n ea co ti an j2 bu (by omega) (by omega) _ rfl) (cwV 2 hts gX5_fewestOfFirst_X2_stretchesFrom rfl rfl rfl (by decide +kernel) ⟨Nat.le_of_ble_eq_true rfl, Nat.le_of_ble_eq_true rfl⟩) hP hK hN [2, 3, 4, 5] rfl [0, 1] rfl 2 2 rfl rfl rfl rfl hl.1 rfl (Nat.le_of_ble_eq_true rfl) dX5_fewestOfFirst_25 ⟨Nat.zero_le _, Nat.zero_le _⟩ ?_
      refine lv_iload_n hx hb dX5_fewestOfFirst_28 rfl (lv_at hl 2 rfl) ?_
      refine lv_iconst (v := (1 : Int32)) hx hb dX5_fewestOfFirst_29 (by decide) ?_
      refine lv_isub hx hb dX5_fewestOfFirst_30 ?_
      refine lv_icmp_gt (tgt := 36) hx hb dX5_fewestOfFirst_31 (by decide) (fun c31 => ?_) (fun c31 => ?_)
      · rw [if_pos c31] at hF
        refine lv_iinc (v := (nI (j2 + 1))) (lv' := [(3, .int (nI (j2 + 1))), (0, .ref hkc), (1, .int kw), (2, .int bu)]) hx hb dX5_fewestOfFirst_36 hl (k := 0) rfl (by exact nI_add (j2) 1) (by decide) rfl (fun ls hl => ?_)
        refine lv_goto (tgt := 2) hx hb dX5_fewestOfFirst_39 (by decide) ?_
        exact ih (j2 + 1) (by omega)  hF _ (lv_sub hl [0, 1, 2, 3] rfl)
      · rw [if_neg c31] at hF
        refine lv_iload_n hx hb dX5_fewestOfFirst_34 rfl (lv_at hl 0 rfl) ?_
        exact W.iret hx hb hr (fun t ht _ => ⟨congrArg (fun z => Outcome.returned (some (Value.int z))) hF, ht⟩) (fun _ h => absurd h List.not_mem_nil) dX5_fewestOfFirst_35
  exact LP2 n 0  (by omega)  hF _ (lv_sub hl [0, 1, 2, 3] rfl)

def fX5_hold (n : Nat) (ti : Nat → Int32) (kw : Int32) (wh : Int32) : Int32 :=
  (if kw < (1 : Int32) then (-2 : Int32) else (if (9 : Int32) < kw then (-2 : Int32) else (if (fX5_isBelow wh (2 : Int32)) = 0 then (-2 : Int32) else (if wh = 0 then (fX5_leastBurden n ti kw) else (fX5_fewestOfFirst n ti kw (fX5_leastBurden n ti kw))))))
set_option maxHeartbeats 4000000 in
set_option maxRecDepth 100000 in
theorem c_X5_hold (l : Launch) (dC : Nat → ClassId) (dI : Nat → Nat → Nat) (cyI cyZ : ClassId) (hkc ht ht1 ht2 hp htr hh as hs ak a0 a1 a2 : Nat) (kp : Int32) (si : Nat) (fi : Int32) (n : Nat) (ea : Int32) (co : Nat → Int32) (ti : Nat → Int32) (an : Nat → Int32) (kw : Int32) (wh : Int32) (hn : n ≤ 24) (r : Int32) (hF : fX5_hold n ti kw wh = r) : Met l yX5_hold wsX5_hold ({ frames := 3, cells := 0, slots := 0, locals := 70 }) (kx_rp (dC, dI) [(hkc, .inr (5, [.ref ht, .ref ht1, .ref ht2, .int kp, .ref hp, .ref htr, .ref hh, .ref as])), (ht, .inr (3, [.ref hs, .ref ak, .int (nI si), .int fi])), (hs, .inr (2, [.ref a0, .ref a1, .ref a2, .int (nI n), .int ea])), (a0, .inl (cyI, 24, .inl co)), (a1, .inl (cyI, 24, .inl ti)), (a2, .inl (cyI, 24, .inl an))] [(cyI, .int), (cyZ, .boolean)] [.ref hkc, .int kw, .int wh]) (k2_QcV (.int r)) 0 0 (fun _ => False) := by
  refine Met.ofW (cc := cX5_hold) (maxL := 4) (ret := (some .int)) (by decide) rfl ?_
  intro p e s m args below meth c s₁ B hml hv
  obtain ⟨rfl, hP, hK, hN⟩ := hv
  have hx := B.exec
  have hb := B.bytes
  have hr := B.returns
  have hts := atoms_spec (ws := wsX5_hold) B.pre
  have hown : s.vm.findClass RX5 = some m.cls := findClass_of_methodNamed B.named
  have hlocks := B.notSynchronized
  have hl := lv_entry ([.ref hkc, .int kw, .int wh]) (n := 4) (Nat.le_of_ble_eq_true rfl)
  rw [lg_entry_eq]
  generalize (lg_sl ([.ref hkc, .int kw, .int wh]) ++ List.replicate (4 - (lg_sl ([.ref hkc, .int kw, .int wh])).length) Slot.unset).toArray = ls at hl ⊢
  have hl : lv_has ls 4 [(0, .ref hkc), (1, .int kw), (2, .int wh)] := hl
  unfold fX5_hold at hF
  refine lv_iload_n hx hb dX5_hold_0 rfl (lv_at hl 1 rfl) ?_
  refine lv_iconst (v := (1 : Int32)) hx hb dX5_hold_1 (by decide) ?_
  refine lv_icmp_lt (tgt := 19) hx hb dX5_hold_2 (by decide) (fun c2 => ?_) (fun c2 => ?_)
  · rw [if_pos c2] at hF
    refine lv_bipush (v := (-2 : Int32)) hx hb dX5_hold_19 (by decide) ?_
    exact W.iret hx hb hr (fun t ht _ => ⟨congrArg (fun z => Outcome.returned (some (Value.int z))) hF, ht⟩) (fun _ h => absurd h List.not_mem_nil) dX5_hold_21
  · rw [if_neg c2] at hF
    refine lv_iload_n hx hb dX5_hold_5 rfl (lv_at hl 1 rfl) ?_
    refine lv_bipush (v := (9 : Int32)) hx hb dX5_hold_6 (by decide) ?_
    refine lv_icmp_gt (tgt := 19) hx hb dX5_hold_8 (by decide) (fun c8 => ?_) (fun c8 => ?_)
    · rw [if_pos c8] at hF
      refine lv_bipush (v := (-2 : Int32)) hx hb dX5_hold_19 (by decide) ?_
      exact W.iret hx hb hr (fun t ht _ => ⟨congrArg (fun z => Outcome.returned (some (Value.int z))) hF, ht⟩) (fun _ h => absurd h List.not_mem_nil) dX5_hold_21
    · rw [if_neg c8] at hF
      refine lv_iload_n hx hb dX5_hold_11 rfl (lv_at hl 2 rfl) ?_
      refine lv_iconst (v := (2 : Int32)) hx hb dX5_hold_12 (by decide) ?_
      refine kx_cS (As := [.int wh, .int (2 : Int32)]) (rest := []) ⟨hx, hb, hml, hown, hts⟩ (c_X5_isBelow l dC dI cyI cyZ  wh (2 : Int32)  _ rfl) (va_cwS 2 hts gX5_hold_X5_isBelow rfl rfl rfl (by decide +kernel) ⟨Nat.le_of_ble_eq_true rfl, Nat.le_of_ble_eq_true rfl⟩) hP hK hN [] rfl [0, 1] rfl rfl hl.1 rfl (Nat.le_of_ble_eq_true rfl) dX5_hold_13 ⟨Nat.zero_le _, Nat.zero_le _⟩ ?_
      refine lv_if_ne (tgt := 22) hx hb dX5_hold_16 (by decide) (fun c16 => ?_) (fun c16 => ?_)
      · rw [if_neg c16] at hF
        refine lv_aload_n hx hb dX5_hold_22 rfl (lv_at hl 0 rfl) ?_
        refine lv_iload_n hx hb dX5_hold_23 rfl (lv_at hl 1 rfl) ?_
        refine kx_cV (As := [.int kw]) (rest := []) ⟨hx, hb, hml, hown, hts⟩ (c_X5_leastBurden l dC dI cyI cyZ hkc ht ht1 ht2 hp htr hh as hs ak a0 a1 a2 kp si fi n ea co ti an kw (by omega) _ rfl) (cwV 1 hts gX5_hold_X5_leastBurden rfl rfl rfl (by decide +kernel) ⟨Nat.le_of_ble_eq_true rfl, Nat.le_of_ble_eq_true rfl⟩) hP hK hN [0, 1, 2, 3, 4, 5] rfl [0, 1] rfl 5 0 rfl rfl rfl rfl hl.1 rfl (Nat.le_of_ble_eq_true rfl) dX5_hold_24 ⟨Nat.zero_le _, Nat.zero_le _⟩ ?_
        refine lv_istore_n (lv' := [(3, .int (fX5_leastBurden n ti kw)), (0, .ref hkc), (1, .int kw), (2, .int wh)]) hx hb dX5_hold_27 rfl hl (by decide) rfl (fun ls hl => ?_)
        refine lv_iload_n hx hb dX5_hold_28 rfl (lv_at hl 3 rfl) ?_
        refine lv_if_ne (tgt := 36) hx hb dX5_hold_29 (by decide) (fun c29 => ?_) (fun c29 => ?_)
        · rw [if_neg c29] at hF
          refine lv_aload_n hx hb dX5_hold_36 rfl (lv_at hl 1 rfl) ?_
          refine lv_iload_n hx hb dX5_hold_37 rfl (lv_at hl 2 rfl) ?_
          refine lv_iload_n hx hb dX5_hold_38 rfl (lv_at hl 0 rfl) ?_
          refine kx_cV (As := [.int kw, .int (fX5_leastBurden n ti kw)]) (rest := []) ⟨hx, hb, hml, hown, hts⟩ (c_X5_fewestOfFirst l dC dI cyI cyZ hkc ht ht1 ht2 hp htr hh as hs ak a0 a1 a2 kp si fi n ea co ti an kw (fX5_leastBurden n ti kw) (by omega) _ rfl) (cwV 2 hts gX5_hold_X5_fewestOfFirst rfl rfl rfl (by decide +kernel) ⟨Nat.le_of_ble_eq_true rfl, Nat.le_of_ble_eq_true rfl⟩) hP hK hN [0, 1, 2, 3, 4, 5] rfl [0, 1] rfl 5 0 rfl rfl rfl rfl hl.1 rfl (Nat.le_of_ble_eq_true rfl) dX5_hold_39 ⟨Nat.zero_le _, Nat.zero_le _⟩ ?_
          exact W.iret hx hb hr (fun t ht _ => ⟨congrArg (fun z => Outcome.returned (some (Value.int z))) hF, ht⟩) (fun _ h => absurd h List.not_mem_nil) dX5_hold_42
        · rw [if_pos c29] at hF
          refine lv_iload_n hx hb dX5_hold_32 rfl (lv_at hl 0 rfl) ?_
          refine lv_goto (tgt := 42) hx hb dX5_hold_33 (by decide) ?_
          exact W.iret hx hb hr (fun t ht _ => ⟨congrArg (fun z => Outcome.returned (some (Value.int z))) hF, ht⟩) (fun _ h => absurd h List.not_mem_nil) dX5_hold_42
      · rw [if_pos c16] at hF
        refine lv_bipush (v := (-2 : Int32)) hx hb dX5_hold_19 (by decide) ?_
        exact W.iret hx hb hr (fun t ht _ => ⟨congrArg (fun z => Outcome.returned (some (Value.int z))) hF, ht⟩) (fun _ h => absurd h List.not_mem_nil) dX5_hold_21

def fX0_count_L35 (kt : Nat → Int32) (n : Nat) (ti : Nat → Int32) (j12 : Nat) : Nat → Nat → (Nat → Int32) → (Nat → Int32)
  | 0, _, gi1 => gi1
  | r35 + 1, j35, gi1 => (if (nI j12) = ((nI n) + (-1)) then (if (fX5_isIn (fX5_near (fX5_at ti 24 (nI j12))) (fX3_tightnessOf kt (nI j35))) = 0 then ((fun (q97 : Nat → Int32) => (fX0_count_L35 kt n ti j12 r35 (j35 + 1) q97)) (fX5_put gi1 96 (nI (j12 * 4 + j35)) (1000 : Int32))) else ((fun (q97 : Nat → Int32) => (fX0_count_L35 kt n ti j12 r35 (j35 + 1) q97)) (fX5_put gi1 96 (nI (j12 * 4 + j35)) (0 : Int32)))) else (if (fX5_isIn (fX5_near (fX5_at ti 24 (nI j12))) (fX3_tightnessOf kt (nI j35))) = 0 then ((fun (q97 : Nat → Int32) => (fX0_count_L35 kt n ti j12 r35 (j35 + 1) q97)) (fX5_put gi1 96 (nI (j12 * 4 + j35)) (1000 : Int32))) else ((fun (q97 : Nat → Int32) => (fX0_count_L35 kt n ti j12 r35 (j35 + 1) q97)) (fX5_put gi1 96 (nI (j12 * 4 + j35)) (fX0_fewestFrom gi1 (j12 + 1) j35)))))
def fX0_count_L12 (kt : Nat → Int32) (n : Nat) (ti : Nat → Int32) : Nat → (Nat → Int32) → (Nat → Int32)
  | 0, go1 => go1
  | j12 + 1, go1 => ((fun (gi1 : Nat → Int32) => (fX0_count_L12 kt n ti j12 gi1)) (fX0_count_L35 kt n ti j12 4 0 go1))
def fX0_count (ch : Nat → Int32) (kt : Nat → Int32) (n : Nat) (ti : Nat → Int32) : (Nat → Int32) :=
  ((fun (go1 : Nat → Int32) => go1) (fX0_count_L12 kt n ti n ch))
set_option maxHeartbeats 4000000 in
set_option maxRecDepth 100000 in
theorem c_X0_count (l : Launch) (dC : Nat → ClassId) (dI : Nat → Nat → Nat) (cyI cyZ : ClassId) (hh ac ht hs ak a0 a1 a2 : Nat) (ch : Nat → Int32) (si : Nat) (fi : Int32) (kt : Nat → Int32) (n : Nat) (ea : Int32) (co : Nat → Int32) (ti : Nat → Int32) (an : Nat → Int32) (hn : n ≤ 24) (sz : Nat) (r : (Nat → Int32)) (hF : fX0_count ch kt n ti = r) : Met l yX0_count wsX0_count ({ frames := 3, cells := 0, slots := 0, locals := 68 }) (kx_wp (dC, dI) [(hh, .inr (0, [.ref ac])), (ac, .inl (cyI, 96, .inl ch)), (ht, .inr (3, [.ref hs, .ref ak, .int (nI si), .int fi])), (ak, .inl (cyI, 4, .inl kt)), (hs, .inr (2, [.ref a0, .ref a1, .ref a2, .int (nI n), .int ea])), (a0, .inl (cyI, 24, .inl co)), (a1, .inl (cyI, 24, .inl ti)), (a2, .inl (cyI, 24, .inl an))] [(cyI, .int), (cyZ, .boolean)] sz [.ref hh, .ref ht]) (kx_Qv (dC, dI) [(hh, .inr (0, [.ref ac])), (ac, .inl (cyI, 96, .inl ch)), (ht, .inr (3, [.ref hs, .ref ak, .int (nI si), .int fi])), (ak, .inl (cyI, 4, .inl kt)), (hs, .inr (2, [.ref a0, .ref a1, .ref a2, .int (nI n), .int ea])), (a0, .inl (cyI, 24, .inl co)), (a1, .inl (cyI, 24, .inl ti)), (a2, .inl (cyI, 24, .inl an))] [(hh, .inr (0, [.ref ac])), (ac, .inl (cyI, 96, .inl r)), (ht, .inr (3, [.ref hs, .ref ak, .int (nI si), .int fi])), (ak, .inl (cyI, 4, .inl kt)), (hs, .inr (2, [.ref a0, .ref a1, .ref a2, .int (nI n), .int ea])), (a0, .inl (cyI, 24, .inl co)), (a1, .inl (cyI, 24, .inl ti)), (a2, .inl (cyI, 24, .inl an))] sz) 0 0 (va_A [(hh, .inr (0, [.ref ac])), (ac, .inl (cyI, 96, .inl ch)), (ht, .inr (3, [.ref hs, .ref ak, .int (nI si), .int fi])), (ak, .inl (cyI, 4, .inl kt)), (hs, .inr (2, [.ref a0, .ref a1, .ref a2, .int (nI n), .int ea])), (a0, .inl (cyI, 24, .inl co)), (a1, .inl (cyI, 24, .inl ti)), (a2, .inl (cyI, 24, .inl an))] sz) := by
  refine Met.ofW (cc := cX0_count) (maxL := 8) (ret := none) (by decide) rfl ?_
  intro p e s m args below meth c s₁ B hml hv
  obtain ⟨rfl, hsz, hP, hK, hN, hD0⟩ := hv
  have hx := B.exec
  have hb := B.bytes
  have hr := B.returns
  have hts := atoms_spec (ws := wsX0_count) B.pre
  have hown : s.vm.findClass RX0 = some m.cls := findClass_of_methodNamed B.named
  have hlocks := B.notSynchronized
  subst hsz
  obtain ⟨A, hAe⟩ : ∃ A, A = va_A [(hh, .inr (0, [.ref ac])), (ac, .inl (cyI, 96, .inl ch)), (ht, .inr (3, [.ref hs, .ref ak, .int (nI si), .int fi])), (ak, .inl (cyI, 4, .inl kt)), (hs, .inr (2, [.ref a0, .ref a1, .ref a2, .int (nI n), .int ea])), (a0, .inl (cyI, 24, .inl co)), (a1, .inl (cyI, 24, .inl ti)), (a2, .inl (cyI, 24, .inl an))] s.heap.size := ⟨_, rfl⟩
  have hD : va_D A [(hh, .inr (0, [.ref ac])), (ac, .inl (cyI, 96, .inl ch)), (ht, .inr (3, [.ref hs, .ref ak, .int (nI si), .int fi])), (ak, .inl (cyI, 4, .inl kt)), (hs, .inr (2, [.ref a0, .ref a1, .ref a2, .int (nI n), .int ea])), (a0, .inl (cyI, 24, .inl co)), (a1, .inl (cyI, 24, .inl ti)), (a2, .inl (cyI, 24, .inl an))] := by rw [hAe]; exact hD0.self
  have hA : ∀ q : Nat, s.heap.size ≤ q → A q := fun q h => by rw [hAe]; exact Or.inr h
  have hS : va_S A s.heap s.heap [] := va_S.rf
  have hiX0 : ∀ w ∈ wsX00, w ∈ wsX0_count := by decide +kernel
  have hiX2 : ∀ w ∈ wsX20, w ∈ wsX0_count := by decide +kernel
  have hiX3 : ∀ w ∈ wsX30, w ∈ wsX0_count := by decide +kernel
  have fl9 := hts (.fieldLink RX0 9 "KnitChronicle$HandChanges" "changes" "[I") (by decide +kernel)
  have fl15 := hts (.fieldLink RX0 15 "KnitChronicle$Town" "scarf" "LKnitChronicle$Scarf;") (by decide +kernel)
  have fl21 := hts (.fieldLink RX0 21 "KnitChronicle$Scarf" "size" "I") (by decide +kernel)
  have fl27 := hts (.fieldLink RX0 27 "KnitChronicle$Scarf" "tightnesses" "[I") (by decide +kernel)
  have hl := lv_entry ([.ref hh, .ref ht]) (n := 8) (Nat.le_of_ble_eq_true rfl)
  rw [lg_entry_eq]
  generalize (lg_sl ([.ref hh, .ref ht]) ++ List.replicate (8 - (lg_sl ([.ref hh, .ref ht])).length) Slot.unset).toArray = ls at hl ⊢
  have hl : lv_has ls 8 [(0, .ref hh), (1, .ref ht)] := hl
  unfold fX0_count at hF
  refine lv_aload_n hx hb dX0_count_0 rfl (lv_at hl 1 rfl) ?_
  refine va_get (D := (dC, dI)) (ci := 3) (v := .ref hs) (C := RX3) (T := TX3) (N := 4) hx hb hts hiX3 hown hK hP 2 rfl rfl 0 (by decide) fl15 (fun _ h9 => h9) rfl dX0_count_1 ?_
  refine va_get (D := (dC, dI)) (ci := 2) (v := .int (nI n)) (C := RX2) (T := TX2) (N := 5) hx hb hts hiX2 hown hK hP 4 rfl rfl 3 (by decide) fl21 (fun _ h9 => h9) rfl dX0_count_4 ?_
  refine lv_iconst (v := (1 : Int32)) hx hb dX0_count_7 (by decide) ?_
  refine lv_isub hx hb dX0_count_8 ?_
  refine kx_e (kx_sub1 (n)) ?_
  refine lv_istore_n (lv' := [(2, .int ((nI n) + (-1))), (0, .ref hh), (1, .ref ht)]) hx hb dX0_count_9 rfl hl (by decide) rfl (fun ls hl => ?_)
  refine lv_iload_n hx hb dX0_count_10 rfl (lv_at hl 0 rfl) ?_
  refine lv_istore_n (lv' := [(3, .int ((nI n) + (-1))), (2, .int ((nI n) + (-1))), (0, .ref hh), (1, .ref ht)]) hx hb dX0_count_11 rfl hl (by decide) rfl (fun ls hl => ?_)
  generalize hz12 : fX0_count_L12 kt n ti n ch = z12 at hF
  have LP12 : ∀ (j12 : Nat) (go1 : Nat → Int32), j12 ≤ n → fX0_count_L12 kt n ti j12 go1 = z12 → ∀ (H : Heap) (locs : List Loc), va_P (dC, dI) vwCl [(hh, .inr (0, [.ref ac])), (ac, .inl (cyI, 96, .inl go1)), (ht, .inr (3, [.ref hs, .ref ak, .int (nI si), .int fi])), (ak, .inl (cyI, 4, .inl kt)), (hs, .inr (2, [.ref a0, .ref a1, .ref a2, .int (nI n), .int ea])), (a0, .inl (cyI, 24, .inl co)), (a1, .inl (cyI, 24, .inl ti)), (a2, .inl (cyI, 24, .inl an))] H → va_D A [(hh, .inr (0, [.ref ac])), (ac, .inl (cyI, 96, .inl go1)), (ht, .inr (3, [.ref hs, .ref ak, .int (nI si), .int fi])), (ak, .inl (cyI, 4, .inl kt)), (hs, .inr (2, [.ref a0, .ref a1, .ref a2, .int (nI n), .int ea])), (a0, .inl (cyI, 24, .inl co)), (a1, .inl (cyI, 24, .inl ti)), (a2, .inl (cyI, 24, .inl an))] → va_S A s.heap H locs → ∀ (ls : Array Slot), lv_has ls 8 [(3, .int ((nI j12) + (-1))), (2, .int ((nI n) + (-1))), (0, .ref hh), (1, .ref ht)] → W p l e (headSpec wsX0_count ({ frames := 3, cells := 0, slots := 0, locals := 68 } : Room)).room s m ([.ref hh, .ref ht] : List Value).toArray below meth c H locs 0 0 (MQ below (kx_Qv (dC, dI) [(hh, .inr (0, [.ref ac])), (ac, .inl (cyI, 96, .inl ch)), (ht, .inr (3, [.ref hs, .ref ak, .int (nI si), .int fi])), (ak, .inl (cyI, 4, .inl kt)), (hs, .inr (2, [.ref a0, .ref a1, .ref a2, .int (nI n), .int ea])), (a0, .inl (cyI, 24, .inl co)), (a1, .inl (cyI, 24, .inl ti)), (a2, .inl (cyI, 24, .inl an))] [(hh, .inr (0, [.ref ac])), (ac, .inl (cyI, 96, .inl r)), (ht, .inr (3, [.ref hs, .ref ak, .int (nI si), .int fi])), (ak, .inl (cyI, 4, .inl kt)), (hs, .inr (2, [.ref a0, .ref a1, .ref a2, .int (nI n), .int ea])), (a0, .inl (cyI, 24, .inl co)), (a1, .inl (cyI, 24, .inl ti)), (a2, .inl (cyI, 24, .inl an))] s.heap.size) ([.ref hh, .ref ht] : List Value).toArray s 0 0 (va_A [(hh, .inr (0, [.ref ac])), (ac, .inl (cyI, 96, .inl ch)), (ht, .inr (3, [.ref hs, .ref ak, .int (nI si), .int fi])), (ak, .inl (cyI, 4, .inl kt)), (hs, .inr (2, [.ref a0, .ref a1, .ref a2, .int (nI n), .int ea])), (a0, .inl (cyI, 24, .inl co)), (a1, .inl (cyI, 24, .inl ti)), (a2, .inl (cyI, 24, .inl an))] s.heap.size)) (F0 m 12 ls []) := by
    intro j12
    induction j12 with
    | zero =>
      intro go1 hrj hz12 H locs hP hD hS ls hl
      rw [fX0_count_L12] at hz12
      subst hz12
      try dsimp only at hF
      refine lv_iload_n hx hb dX0_count_12 rfl (lv_at hl 0 rfl) ?_
      refine lv_if_lt (tgt := 112) hx hb dX0_count_13 (by decide) (fun c13 => ?_) (fun c13 => absurd c13 (by decide))
      subst hF
      subst hAe
      exact W.vret hx hb hr (fun t ht _ => ⟨⟨(), rfl, trivial, by rw [ht]; exact hP, hD⟩, hS.F ht⟩) hS.2.2 dX0_count_112
    | succ j12 ih =>
      intro go1 hrj hz12 H locs hP hD hS ls hl
      rw [pk_m1] at hl
      rw [fX0_count_L12] at hz12
      refine lv_iload_n hx hb dX0_count_12 rfl (lv_at hl 0 rfl) ?_
      refine lv_if_lt (tgt := 112) hx hb dX0_count_13 (by decide) (fun c13 => absurd c13 (nI_pos (by omega))) (fun c13 => ?_)
      refine lv_aload_n hx hb dX0_count_16 rfl (lv_at hl 3 rfl) ?_
      refine va_get (D := (dC, dI)) (ci := 3) (v := .ref hs) (C := RX3) (T := TX3) (N := 4) hx hb hts hiX3 hown hK hP 2 rfl rfl 0 (by decide) fl15 (fun _ h9 => h9) rfl dX0_count_17 ?_
      refine va_get (D := (dC, dI)) (ci := 2) (v := .ref a1) (C := RX2) (T := TX2) (N := 5) hx hb hts hiX2 hown hK hP 4 rfl rfl 1 (by decide) fl27 (fun _ h9 => h9) rfl dX0_count_20 ?_
      refine lv_iload_n hx hb dX0_count_23 rfl (lv_at hl 0 rfl) ?_
      refine kx_cSN (As := [.ref a1, .int (nI j12)]) (rest := []) ⟨hx, hb, hml, hown, hts⟩ (c_X5_at l dC dI cyI cyZ a1 ti 24 (nI j12) (by omega) _ rfl) ⟨va_cnB 2 hts gX0_count_X5_at_n30 rfl rfl rfl (hN (RX0, 30, yX5_at, RX5) (List.mem_of_getElem? (i := 14) rfl)) (hts (.initialized RX5) (by decide +kernel)) (by decide +kernel) ⟨Nat.le_of_ble_eq_true rfl, Nat.le_of_ble_eq_true rfl⟩, hts (.static yX5_at) (by decide +kernel), trivial⟩ hP hK hN [6] rfl [0, 1] rfl rfl hl.1 rfl (Nat.le_of_ble_eq_true rfl) dX0_count_24 ⟨Nat.zero_le _, Nat.zero_le _⟩ ?_
      refine kx_cSN (As := [.int (fX5_at ti 24 (nI j12))]) (rest := []) ⟨hx, hb, hml, hown, hts⟩ (c_X5_near l dC dI cyI cyZ  (fX5_at ti 24 (nI j12))  _ rfl) ⟨va_cnB 1 hts gX0_count_X5_near_n34 rfl rfl rfl (hN (RX0, 34, yX5_near, RX5) (List.mem_of_getElem? (i := 15) rfl)) (hts (.initialized RX5) (by decide +kernel)) (by decide +kernel) ⟨Nat.le_of_ble_eq_true rfl, Nat.le_of_ble_eq_true rfl⟩, hts (.static yX5_near) (by decide +kernel), trivial⟩ hP hK hN [] rfl [0, 1] rfl rfl hl.1 rfl (Nat.le_of_ble_eq_true rfl) dX0_count_27 ⟨Nat.zero_le _, Nat.zero_le _⟩ ?_
      refine lv_istore (lv' := [(4, .int (fX5_near (fX5_at ti 24 (nI j12)))), (3, .int (nI j12)), (2, .int ((nI n) + (-1))), (0, .ref hh), (1, .ref ht)]) hx hb dX0_count_30 hl (by decide) rfl (fun ls hl => ?_)
      refine lv_iconst (v := (0 : Int32)) hx hb dX0_count_32 (by decide) ?_
      refine lv_istore (lv' := [(5, .int (0 : Int32)), (4, .int (fX5_near (fX5_at ti 24 (nI j12)))), (3, .int (nI j12)), (2, .int ((nI n) + (-1))), (0, .ref hh), (1, .ref ht)]) hx hb dX0_count_33 hl (by decide) rfl (fun ls hl => ?_)
      generalize hz35 : fX0_count_L35 kt n ti j12 4 0 go1 = z35 at hz12
      have LP35 : ∀ (r35 : Nat) (j35 : Nat) (gi1 : Nat → Int32), r35 + j35 = 4 → fX0_count_L35 kt n ti j12 r35 j35 gi1 = z35 → ∀ (H : Heap) (locs : List Loc), va_P (dC, dI) vwCl [(hh, .inr (0, [.ref ac])), (ac, .inl (cyI, 96, .inl gi1)), (ht, .inr (3, [.ref hs, .ref ak, .int (nI si), .int fi])), (ak, .inl (cyI, 4, .inl kt)), (hs, .inr (2, [.ref a0, .ref a1, .ref a2, .int (nI n), .int ea])), (a0, .inl (cyI, 24, .inl co)), (a1, .inl (cyI, 24, .inl ti)), (a2, .inl (cyI, 24, .inl an))] H → va_D A [(hh, .inr (0, [.ref ac])), (ac, .inl (cyI, 96, .inl gi1)), (ht, .inr (3, [.ref hs, .ref ak, .int (nI si), .int fi])), (ak, .inl (cyI, 4, .inl kt)), (hs, .inr (2, [.ref a0, .ref a1, .ref a2, .int (nI n), .int ea])), (a0, .inl (cyI, 24, .inl co)), (a1, .inl (cyI, 24, .inl ti)), (a2, .inl (cyI, 24, .inl an))] → va_S A s.heap H locs → ∀ (ls : Array Slot), lv_has ls 8 [(5, .int (nI j35)), (4, .int (fX5_near (fX5_at ti 24 (nI j12)))), (3, .int (nI j12)), (2, .int ((nI n) + (-1))), (0, .ref hh), (1, .ref ht)] → W p l e (headSpec wsX0_count ({ frames := 3, cells := 0, slots := 0, locals := 68 } : Room)).room s m ([.ref hh, .ref ht] : List Value).toArray below meth c H locs 0 0 (MQ below (kx_Qv (dC, dI) [(hh, .inr (0, [.ref ac])), (ac, .inl (cyI, 96, .inl ch)), (ht, .inr (3, [.ref hs, .ref ak, .int (nI si), .int fi])), (ak, .inl (cyI, 4, .inl kt)), (hs, .inr (2, [.ref a0, .ref a1, .ref a2, .int (nI n), .int ea])), (a0, .inl (cyI, 24, .inl co)), (a1, .inl (cyI, 24, .inl ti)), (a2, .inl (cyI, 24, .inl an))] [(hh, .inr (0, [.ref ac])), (ac, .inl (cyI, 96, .inl r)), (ht, .inr (3, [.ref hs, .ref ak, .int (nI si), .int fi])), (ak, .inl (cyI, 4, .inl kt)), (hs, .inr (2, [.ref a0, .ref a1, .ref a2, .int (nI n), .int ea])), (a0, .inl (cyI, 24, .inl co)), (a1, .inl (cyI, 24, .inl ti)), (a2, .inl (cyI, 24, .inl an))] s.heap.size) ([.ref hh, .ref ht] : List Value).toArray s 0 0 (va_A [(hh, .inr (0, [.ref ac])), (ac, .inl (cyI, 96, .inl ch)), (ht, .inr (3, [.ref hs, .ref ak, .int (nI si), .int fi])), (ak, .inl (cyI, 4, .inl kt)), (hs, .inr (2, [.ref a0, .ref a1, .ref a2, .int (nI n), .int ea])), (a0, .inl (cyI, 24, .inl co)), (a1, .inl (cyI, 24, .inl ti)), (a2, .inl (cyI, 24, .inl an))] s.heap.size)) (F0 m 35 ls []) := by
        intro r35
        induction r35 with
        | zero =>
          intro j35 gi1 hrj hz35 H locs hP hD hS ls hl
          rw [fX0_count_L35] at hz35
          subst hz35
          try dsimp only at hz12
          refine lv_iload hx hb dX0_count_35 (lv_at hl 0 rfl) ?_
          refine lv_iconst (v := (4 : Int32)) hx hb dX0_count_37 (by decide) ?_
          refine kx_ge hx hb (j35) (4) rfl rfl (by omega) (by omega) dX0_count_38 (by decide) (tgt := 106) (fun c38 => ?_) (fun c38 => absurd c38 (by omega))
          refine lv_iinc (v := ((nI j12) + (-1))) (lv' := [(3, .int ((nI j12) + (-1))), (5, .int (nI j35)), (4, .int (fX5_near (fX5_at ti 24 (nI j12)))), (2, .int ((nI n) + (-1))), (0, .ref hh), (1, .ref ht)]) hx hb dX0_count_106 hl (k := 2) rfl rfl (by decide) rfl (fun ls hl => ?_)
          refine lv_goto (tgt := 12) hx hb dX0_count_109 (by decide) ?_
          exact ih gi1 (by omega)  hz12 _ _ hP hD hS _ (lv_sub hl [0, 3, 4, 5] rfl)
        | succ r35 ih =>
          intro j35 gi1 hrj hz35 H locs hP hD hS ls hl
          rw [fX0_count_L35] at hz35
          refine lv_iload hx hb dX0_count_35 (lv_at hl 0 rfl) ?_
          refine lv_iconst (v := (4 : Int32)) hx hb dX0_count_37 (by decide) ?_
          refine kx_ge hx hb (j35) (4) rfl rfl (by omega) (by omega) dX0_count_38 (by decide) (tgt := 106) (fun c38 => absurd c38 (by omega)) (fun c38 => ?_)
          refine lv_iload_n hx hb dX0_count_41 rfl (lv_at hl 2 rfl) ?_
          refine lv_iload_n hx hb dX0_count_42 rfl (lv_at hl 3 rfl) ?_
          refine lv_icmp_ne (tgt := 50) hx hb dX0_count_43 (by decide) (fun c43 => ?_) (fun c43 => ?_)
          · rw [if_neg c43] at hz35
            refine lv_aload_n hx hb dX0_count_50 rfl (lv_at hl 4 rfl) ?_
            refine lv_iload_n hx hb dX0_count_51 rfl (lv_at hl 2 rfl) ?_
            refine lv_iconst (v := (1 : Int32)) hx hb dX0_count_52 (by decide) ?_
            refine lv_iadd hx hb dX0_count_53 ?_
            refine kx_e (nI_add (j12) (1)) ?_
            refine lv_iload hx hb dX0_count_54 (lv_at hl 0 rfl) ?_
            refine kx_cV (As := [.int (nI (j12 + 1)), .int (nI j35)]) (rest := []) ⟨hx, hb, hml, hown, hts⟩ (c_X0_fewestFrom l dC dI cyI cyZ hh ac gi1 (j12 + 1) j35 (by omega) _ rfl) (cwV 2 hts gX0_count_X0_fewestFrom rfl rfl rfl (by decide +kernel) ⟨Nat.le_of_ble_eq_true rfl, Nat.le_of_ble_eq_true rfl⟩) hP hK hN [0, 1] rfl [0, 1] rfl 0 0 rfl rfl rfl rfl hl.1 rfl (Nat.le_of_ble_eq_true rfl) dX0_count_56 ⟨Nat.zero_le _, Nat.zero_le _⟩ ?_
            refine lv_istore (lv' := [(6, .int (fX0_fewestFrom gi1 (j12 + 1) j35)), (5, .int (nI j35)), (4, .int (fX5_near (fX5_at ti 24 (nI j12)))), (3, .int (nI j12)), (2, .int ((nI n) + (-1))), (0, .ref hh), (1, .ref ht)]) hx hb dX0_count_59 hl (by decide) rfl (fun ls hl => ?_)
            refine lv_iload hx hb dX0_count_61 (lv_at hl 2 rfl) ?_
            refine lv_aload_n hx hb dX0_count_63 rfl (lv_at hl 6 rfl) ?_
            refine lv_iload hx hb dX0_count_64 (lv_at hl 1 rfl) ?_
            refine kx_cV (As := [.int (nI j35)]) (rest := [.int (fX5_near (fX5_at ti 24 (nI j12)))]) ⟨hx, hb, hml, hown, hts⟩ (c_X3_tightnessOf l dC dI cyI cyZ ht hs ak si fi kt (nI j35)  _ rfl) (cwV 1 hts gX0_count_X3_tightnessOf rfl rfl rfl (by decide +kernel) ⟨Nat.le_of_ble_eq_true rfl, Nat.le_of_ble_eq_true rfl⟩) hP hK hN [2, 3] rfl [0, 1] rfl 3 2 rfl rfl rfl rfl hl.1 rfl (Nat.le_of_ble_eq_true rfl) dX0_count_66 ⟨Nat.zero_le _, Nat.zero_le _⟩ ?_
            refine kx_cSN (As := [.int (fX5_near (fX5_at ti 24 (nI j12))), .int (fX3_tightnessOf kt (nI j35))]) (rest := []) ⟨hx, hb, hml, hown, hts⟩ (c_X5_isIn l dC dI cyI cyZ  (fX5_near (fX5_at ti 24 (nI j12))) (fX3_tightnessOf kt (nI j35))  _ rfl) ⟨va_cnB 2 hts gX0_count_X5_isIn_n45 rfl rfl rfl (hN (RX0, 45, yX5_isIn, RX5) (List.mem_of_getElem? (i := 16) rfl)) (hts (.initialized RX5) (by decide +kernel)) (by decide +kernel) ⟨Nat.le_of_ble_eq_true rfl, Nat.le_of_ble_eq_true rfl⟩, hts (.static yX5_isIn) (by decide +kernel), trivial⟩ hP hK hN [] rfl [0, 1] rfl rfl hl.1 rfl (Nat.le_of_ble_eq_true rfl) dX0_count_69 ⟨Nat.zero_le _, Nat.zero_le _⟩ ?_
            refine lv_istore (lv' := [(7, .int (fX5_isIn (fX5_near (fX5_at ti 24 (nI j12))) (fX3_tightnessOf kt (nI j35)))), (6, .int (fX0_fewestFrom gi1 (j12 + 1) j35)), (5, .int (nI j35)), (4, .int (fX5_near (fX5_at ti 24 (nI j12)))), (3, .int (nI j12)), (2, .int ((nI n) + (-1))), (0, .ref hh), (1, .ref ht)]) hx hb dX0_count_72 hl (by decide) rfl (fun ls hl => ?_)
            refine lv_aload_n hx hb dX0_count_74 rfl (lv_at hl 6 rfl) ?_
            refine va_get (D := (dC, dI)) (ci := 0) (v := .ref ac) (C := RX0) (T := TX0) (N := 1) hx hb hts hiX0 hown hK hP 0 rfl rfl 0 (by decide) fl9 (fun _ h9 => h9) rfl dX0_count_75 ?_
            refine lv_iload_n hx hb dX0_count_78 rfl (lv_at hl 4 rfl) ?_
            refine lv_iconst (v := (4 : Int32)) hx hb dX0_count_79 (by decide) ?_
            refine lv_imul hx hb dX0_count_80 ?_
            refine kx_e (pk_mul (j12) (4)) ?_
            refine lv_iload hx hb dX0_count_81 (lv_at hl 2 rfl) ?_
            refine lv_iadd hx hb dX0_count_83 ?_
            refine kx_e (nI_add (j12 * 4) (j35)) ?_
            refine lv_iload hx hb dX0_count_84 (lv_at hl 0 rfl) ?_
            refine lv_if_eq (tgt := 94) hx hb dX0_count_86 (by decide) (fun c86 => ?_) (fun c86 => ?_)
            · rw [if_pos c86] at hz35
              refine lv_sipush (v := (1000 : Int32)) hx hb dX0_count_94 (by decide) ?_
              generalize hq97 : fX5_put gi1 96 (nI (j12 * 4 + j35)) (1000 : Int32) = q97 at hz35
              try dsimp only at hz35
              refine kx_wSNv (As := [.ref ac, .int (nI (j12 * 4 + j35)), .int (1000 : Int32)]) (rest := []) (wr := [(hh, .inr (0, [.ref ac])), (ht, .inr (3, [.ref hs, .ref ak, .int (nI si), .int fi])), (ak, .inl (cyI, 4, .inl kt)), (hs, .inr (2, [.ref a0, .ref a1, .ref a2, .int (nI n), .int ea])), (a0, .inl (cyI, 24, .inl co)), (a1, .inl (cyI, 24, .inl ti)), (a2, .inl (cyI, 24, .inl an))]) (wc' := [(ac, .inl (cyI, 96, .inl q97))]) (W1 := [(hh, .inr (0, [.ref ac])), (ac, .inl (cyI, 96, .inl q97)), (ht, .inr (3, [.ref hs, .ref ak, .int (nI si), .int fi])), (ak, .inl (cyI, 4, .inl kt)), (hs, .inr (2, [.ref a0, .ref a1, .ref a2, .int (nI n), .int ea])), (a0, .inl (cyI, 24, .inl co)), (a1, .inl (cyI, 24, .inl ti)), (a2, .inl (cyI, 24, .inl an))]) ⟨hx, hb, hml, hown, hts⟩ (c_X5_put l dC dI cyI cyZ ac gi1 96 (nI (j12 * 4 + j35)) (1000 : Int32) (by omega) _ _ hq97) ⟨va_cnB 3 hts gX0_count_X5_put_n49 rfl rfl rfl (hN (RX0, 49, yX5_put, RX5) (List.mem_of_getElem? (i := 17) rfl)) (hts (.initialized RX5) (by decide +kernel)) (by decide +kernel) ⟨Nat.le_of_ble_eq_true rfl, Nat.le_of_ble_eq_true rfl⟩, hts (.static yX5_put) (by decide +kernel), trivial⟩ hP hD hS hA hK hN [1] [0, 2, 3, 4, 5, 6, 7] [0, 7, 1, 2, 3, 4, 5, 6] rfl (by decide) rfl (by decide) (by decide) (by decide) rfl [0, 1] rfl rfl hl.1 rfl (Nat.le_of_ble_eq_true rfl) dX0_count_97 ⟨Nat.zero_le _, Nat.zero_le _⟩ (fun H locs hP hD hS => ?_)
              refine lv_iinc (v := (nI (j35 + 1))) (lv' := [(5, .int (nI (j35 + 1))), (7, .int (fX5_isIn (fX5_near (fX5_at ti 24 (nI j12))) (fX3_tightnessOf kt (nI j35)))), (6, .int (fX0_fewestFrom gi1 (j12 + 1) j35)), (4, .int (fX5_near (fX5_at ti 24 (nI j12)))), (3, .int (nI j12)), (2, .int ((nI n) + (-1))), (0, .ref hh), (1, .ref ht)]) hx hb dX0_count_100 hl (k := 2) rfl (by exact nI_add (j35) 1) (by decide) rfl (fun ls hl => ?_)
              refine lv_goto (tgt := 35) hx hb dX0_count_103 (by decide) ?_
              exact ih (j35 + 1) q97 (by omega)  hz35 _ _ hP hD hS _ (lv_sub hl [0, 3, 4, 5, 6, 7] rfl)
            · rw [if_neg c86] at hz35
              refine lv_iload hx hb dX0_count_89 (lv_at hl 1 rfl) ?_
              refine lv_goto (tgt := 97) hx hb dX0_count_91 (by decide) ?_
              generalize hq97 : fX5_put gi1 96 (nI (j12 * 4 + j35)) (fX0_fewestFrom gi1 (j12 + 1) j35) = q97 at hz35
              try dsimp only at hz35
              refine kx_wSNv (As := [.ref ac, .int (nI (j12 * 4 + j35)), .int (fX0_fewestFrom gi1 (j12 + 1) j35)]) (rest := []) (wr := [(hh, .inr (0, [.ref ac])), (ht, .inr (3, [.ref hs, .ref ak, .int (nI si), .int fi])), (ak, .inl (cyI, 4, .inl kt)), (hs, .inr (2, [.ref a0, .ref a1, .ref a2, .int (nI n), .int ea])), (a0, .inl (cyI, 24, .inl co)), (a1, .inl (cyI, 24, .inl ti)), (a2, .inl (cyI, 24, .inl an))]) (wc' := [(ac, .inl (cyI, 96, .inl q97))]) (W1 := [(hh, .inr (0, [.ref ac])), (ac, .inl (cyI, 96, .inl q97)), (ht, .inr (3, [.ref hs, .ref ak, .int (nI si), .int fi])), (ak, .inl (cyI, 4, .inl kt)), (hs, .inr (2, [.ref a0, .ref a1, .ref a2, .int (nI n), .int ea])), (a0, .inl (cyI, 24, .inl co)), (a1, .inl (cyI, 24, .inl ti)), (a2, .inl (cyI, 24, .inl an))]) ⟨hx, hb, hml, hown, hts⟩ (c_X5_put l dC dI cyI cyZ ac gi1 96 (nI (j12 * 4 + j35)) (fX0_fewestFrom gi1 (j12 + 1) j35) (by omega) _ _ hq97) ⟨va_cnB 3 hts gX0_count_X5_put_n49 rfl rfl rfl (hN (RX0, 49, yX5_put, RX5) (List.mem_of_getElem? (i := 17) rfl)) (hts (.initialized RX5) (by decide +kernel)) (by decide +kernel) ⟨Nat.le_of_ble_eq_true rfl, Nat.le_of_ble_eq_true rfl⟩, hts (.static yX5_put) (by decide +kernel), trivial⟩ hP hD hS hA hK hN [1] [0, 2, 3, 4, 5, 6, 7] [0, 7, 1, 2, 3, 4, 5, 6] rfl (by decide) rfl (by decide) (by decide) (by decide) rfl [0, 1] rfl rfl hl.1 rfl (Nat.le_of_ble_eq_true rfl) dX0_count_97 ⟨Nat.zero_le _, Nat.zero_le _⟩ (fun H locs hP hD hS => ?_)
              refine lv_iinc (v := (nI (j35 + 1))) (lv' := [(5, .int (nI (j35 + 1))), (7, .int (fX5_isIn (fX5_near (fX5_at ti 24 (nI j12))) (fX3_tightnessOf kt (nI j35)))), (6, .int (fX0_fewestFrom gi1 (j12 + 1) j35)), (4, .int (fX5_near (fX5_at ti 24 (nI j12)))), (3, .int (nI j12)), (2, .int ((nI n) + (-1))), (0, .ref hh), (1, .ref ht)]) hx hb dX0_count_100 hl (k := 2) rfl (by exact nI_add (j35) 1) (by decide) rfl (fun ls hl => ?_)
              refine lv_goto (tgt := 35) hx hb dX0_count_103 (by decide) ?_
              exact ih (j35 + 1) q97 (by omega)  hz35 _ _ hP hD hS _ (lv_sub hl [0, 3, 4, 5, 6, 7] rfl)
          · rw [if_pos c43] at hz35
            refine lv_iconst (v := (0 : Int32)) hx hb dX0_count_46 (by decide) ?_
            refine lv_goto (tgt := 59) hx hb dX0_count_47 (by decide) ?_
            refine lv_istore (lv' := [(6, .int (0 : Int32)), (5, .int (nI j35)), (4, .int (fX5_near (fX5_at ti 24 (nI j12)))), (3, .int (nI j12)), (2, .int ((nI n) + (-1))), (0, .ref hh), (1, .ref ht)]) hx hb dX0_count_59 hl (by decide) rfl (fun ls hl => ?_)
            refine lv_iload hx hb dX0_count_61 (lv_at hl 2 rfl) ?_
            refine lv_aload_n hx hb dX0_count_63 rfl (lv_at hl 6 rfl) ?_
            refine lv_iload hx hb dX0_count_64 (lv_at hl 1 rfl) ?_
            refine kx_cV (As := [.int (nI j35)]) (rest := [.int (fX5_near (fX5_at ti 24 (nI j12)))]) ⟨hx, hb, hml, hown, hts⟩ (c_X3_tightnessOf l dC dI cyI cyZ ht hs ak si fi kt (nI j35)  _ rfl) (cwV 1 hts gX0_count_X3_tightnessOf rfl rfl rfl (by decide +kernel) ⟨Nat.le_of_ble_eq_true rfl, Nat.le_of_ble_eq_true rfl⟩) hP hK hN [2, 3] rfl [0, 1] rfl 3 2 rfl rfl rfl rfl hl.1 rfl (Nat.le_of_ble_eq_true rfl) dX0_count_66 ⟨Nat.zero_le _, Nat.zero_le _⟩ ?_
            refine kx_cSN (As := [.int (fX5_near (fX5_at ti 24 (nI j12))), .int (fX3_tightnessOf kt (nI j35))]) (rest := []) ⟨hx, hb, hml, hown, hts⟩ (c_X5_isIn l dC dI cyI cyZ  (fX5_near (fX5_at ti 24 (nI j12))) (fX3_tightnessOf kt (nI j35))  _ rfl) ⟨va_cnB 2 hts gX0_count_X5_isIn_n45 rfl rfl rfl (hN (RX0, 45, yX5_isIn, RX5) (List.mem_of_getElem? (i := 16) rfl)) (hts (.initialized RX5) (by decide +kernel)) (by decide +kernel) ⟨Nat.le_of_ble_eq_true rfl, Nat.le_of_ble_eq_true rfl⟩, hts (.static yX5_isIn) (by decide +kernel), trivial⟩ hP hK hN [] rfl [0, 1] rfl rfl hl.1 rfl (Nat.le_of_ble_eq_true rfl) dX0_count_69 ⟨Nat.zero_le _, Nat.zero_le _⟩ ?_
            refine lv_istore (lv' := [(7, .int (fX5_isIn (fX5_near (fX5_at ti 24 (nI j12))) (fX3_tightnessOf kt (nI j35)))), (6, .int (0 : Int32)), (5, .int (nI j35)), (4, .int (fX5_near (fX5_at ti 24 (nI j12)))), (3, .int (nI j12)), (2, .int ((nI n) + (-1))), (0, .ref hh), (1, .ref ht)]) hx hb dX0_count_72 hl (by decide) rfl (fun ls hl => ?_)
            refine lv_aload_n hx hb dX0_count_74 rfl (lv_at hl 6 rfl) ?_
            refine va_get (D := (dC, dI)) (ci := 0) (v := .ref ac) (C := RX0) (T := TX0) (N := 1) hx hb hts hiX0 hown hK hP 0 rfl rfl 0 (by decide) fl9 (fun _ h9 => h9) rfl dX0_count_75 ?_
            refine lv_iload_n hx hb dX0_count_78 rfl (lv_at hl 4 rfl) ?_
            refine lv_iconst (v := (4 : Int32)) hx hb dX0_count_79 (by decide) ?_
            refine lv_imul hx hb dX0_count_80 ?_
            refine kx_e (pk_mul (j12) (4)) ?_
            refine lv_iload hx hb dX0_count_81 (lv_at hl 2 rfl) ?_
            refine lv_iadd hx hb dX0_count_83 ?_
            refine kx_e (nI_add (j12 * 4) (j35)) ?_
            refine lv_iload hx hb dX0_count_84 (lv_at hl 0 rfl) ?_
            refine lv_if_eq (tgt := 94) hx hb dX0_count_86 (by decide) (fun c86 => ?_) (fun c86 => ?_)
            · rw [if_pos c86] at hz35
              refine lv_sipush (v := (1000 : Int32)) hx hb dX0_count_94 (by decide) ?_
              generalize hq97 : fX5_put gi1 96 (nI (j12 * 4 + j35)) (1000 : Int32) = q97 at hz35
              try dsimp only at hz35
              refine kx_wSNv (As := [.ref ac, .int (nI (j12 * 4 + j35)), .int (1000 : Int32)]) (rest := []) (wr := [(hh, .inr (0, [.ref ac])), (ht, .inr (3, [.ref hs, .ref ak, .int (nI si), .int fi])), (ak, .inl (cyI, 4, .inl kt)), (hs, .inr (2, [.ref a0, .ref a1, .ref a2, .int (nI n), .int ea])), (a0, .inl (cyI, 24, .inl co)), (a1, .inl (cyI, 24, .inl ti)), (a2, .inl (cyI, 24, .inl an))]) (wc' := [(ac, .inl (cyI, 96, .inl q97))]) (W1 := [(hh, .inr (0, [.ref ac])), (ac, .inl (cyI, 96, .inl q97)), (ht, .inr (3, [.ref hs, .ref ak, .int (nI si), .int fi])), (ak, .inl (cyI, 4, .inl kt)), (hs, .inr (2, [.ref a0, .ref a1, .ref a2, .int (nI n), .int ea])), (a0, .inl (cyI, 24, .inl co)), (a1, .inl (cyI, 24, .inl ti)), (a2, .inl (cyI, 24, .inl an))]) ⟨hx, hb, hml, hown, hts⟩ (c_X5_put l dC dI cyI cyZ ac gi1 96 (nI (j12 * 4 + j35)) (1000 : Int32) (by omega) _ _ hq97) ⟨va_cnB 3 hts gX0_count_X5_put_n49 rfl rfl rfl (hN (RX0, 49, yX5_put, RX5) (List.mem_of_getElem? (i := 17) rfl)) (hts (.initialized RX5) (by decide +kernel)) (by decide +kernel) ⟨Nat.le_of_ble_eq_true rfl, Nat.le_of_ble_eq_true rfl⟩, hts (.static yX5_put) (by decide +kernel), trivial⟩ hP hD hS hA hK hN [1] [0, 2, 3, 4, 5, 6, 7] [0, 7, 1, 2, 3, 4, 5, 6] rfl (by decide) rfl (by decide) (by decide) (by decide) rfl [0, 1] rfl rfl hl.1 rfl (Nat.le_of_ble_eq_true rfl) dX0_count_97 ⟨Nat.zero_le _, Nat.zero_le _⟩ (fun H locs hP hD hS => ?_)
              refine lv_iinc (v := (nI (j35 + 1))) (lv' := [(5, .int (nI (j35 + 1))), (7, .int (fX5_isIn (fX5_near (fX5_at ti 24 (nI j12))) (fX3_tightnessOf kt (nI j35)))), (6, .int (0 : Int32)), (4, .int (fX5_near (fX5_at ti 24 (nI j12)))), (3, .int (nI j12)), (2, .int ((nI n) + (-1))), (0, .ref hh), (1, .ref ht)]) hx hb dX0_count_100 hl (k := 2) rfl (by exact nI_add (j35) 1) (by decide) rfl (fun ls hl => ?_)
              refine lv_goto (tgt := 35) hx hb dX0_count_103 (by decide) ?_
              exact ih (j35 + 1) q97 (by omega)  hz35 _ _ hP hD hS _ (lv_sub hl [0, 3, 4, 5, 6, 7] rfl)
            · rw [if_neg c86] at hz35
              refine lv_iload hx hb dX0_count_89 (lv_at hl 1 rfl) ?_
              refine lv_goto (tgt := 97) hx hb dX0_count_91 (by decide) ?_
              generalize hq97 : fX5_put gi1 96 (nI (j12 * 4 + j35)) (0 : Int32) = q97 at hz35
              try dsimp only at hz35
              refine kx_wSNv (As := [.ref ac, .int (nI (j12 * 4 + j35)), .int (0 : Int32)]) (rest := []) (wr := [(hh, .inr (0, [.ref ac])), (ht, .inr (3, [.ref hs, .ref ak, .int (nI si), .int fi])), (ak, .inl (cyI, 4, .inl kt)), (hs, .inr (2, [.ref a0, .ref a1, .ref a2, .int (nI n), .int ea])), (a0, .inl (cyI, 24, .inl co)), (a1, .inl (cyI, 24, .inl ti)), (a2, .inl (cyI, 24, .inl an))]) (wc' := [(ac, .inl (cyI, 96, .inl q97))]) (W1 := [(hh, .inr (0, [.ref ac])), (ac, .inl (cyI, 96, .inl q97)), (ht, .inr (3, [.ref hs, .ref ak, .int (nI si), .int fi])), (ak, .inl (cyI, 4, .inl kt)), (hs, .inr (2, [.ref a0, .ref a1, .ref a2, .int (nI n), .int ea])), (a0, .inl (cyI, 24, .inl co)), (a1, .inl (cyI, 24, .inl ti)), (a2, .inl (cyI, 24, .inl an))]) ⟨hx, hb, hml, hown, hts⟩ (c_X5_put l dC dI cyI cyZ ac gi1 96 (nI (j12 * 4 + j35)) (0 : Int32) (by omega) _ _ hq97) ⟨va_cnB 3 hts gX0_count_X5_put_n49 rfl rfl rfl (hN (RX0, 49, yX5_put, RX5) (List.mem_of_getElem? (i := 17) rfl)) (hts (.initialized RX5) (by decide +kernel)) (by decide +kernel) ⟨Nat.le_of_ble_eq_true rfl, Nat.le_of_ble_eq_true rfl⟩, hts (.static yX5_put) (by decide +kernel), trivial⟩ hP hD hS hA hK hN [1] [0, 2, 3, 4, 5, 6, 7] [0, 7, 1, 2, 3, 4, 5, 6] rfl (by decide) rfl (by decide) (by decide) (by decide) rfl [0, 1] rfl rfl hl.1 rfl (Nat.le_of_ble_eq_true rfl) dX0_count_97 ⟨Nat.zero_le _, Nat.zero_le _⟩ (fun H locs hP hD hS => ?_)
              refine lv_iinc (v := (nI (j35 + 1))) (lv' := [(5, .int (nI (j35 + 1))), (7, .int (fX5_isIn (fX5_near (fX5_at ti 24 (nI j12))) (fX3_tightnessOf kt (nI j35)))), (6, .int (0 : Int32)), (4, .int (fX5_near (fX5_at ti 24 (nI j12)))), (3, .int (nI j12)), (2, .int ((nI n) + (-1))), (0, .ref hh), (1, .ref ht)]) hx hb dX0_count_100 hl (k := 2) rfl (by exact nI_add (j35) 1) (by decide) rfl (fun ls hl => ?_)
              refine lv_goto (tgt := 35) hx hb dX0_count_103 (by decide) ?_
              exact ih (j35 + 1) q97 (by omega)  hz35 _ _ hP hD hS _ (lv_sub hl [0, 3, 4, 5, 6, 7] rfl)
      exact LP35 4 0 go1 (by omega)  hz35 _ _ hP hD hS _ (lv_sub hl [0, 1, 2, 3, 4, 5] rfl)
  exact LP12 n ch (by omega)  hz12 _ _ hP hD hS _ (lv_sub hl [0, 1, 2, 3] rfl)

def fX5_hands (ch : Nat → Int32) (kt : Nat → Int32) (n : Nat) (ti : Nat → Int32) : Int32 × (Nat → Int32) :=
  ((fun (q8 : Nat → Int32) => ((fX0_fewest q8 n), q8)) (fX0_count ch kt n ti))
set_option maxHeartbeats 4000000 in
set_option maxRecDepth 100000 in
theorem c_X5_hands (l : Launch) (dC : Nat → ClassId) (dI : Nat → Nat → Nat) (cyI cyZ : ClassId) (hkc ht ht1 ht2 hp htr hh as ac hs ak a0 a1 a2 : Nat) (kp : Int32) (ch : Nat → Int32) (si : Nat) (fi : Int32) (kt : Nat → Int32) (n : Nat) (ea : Int32) (co : Nat → Int32) (ti : Nat → Int32) (an : Nat → Int32) (hn : n ≤ 24) (sz : Nat) (r : Int32 × (Nat → Int32)) (hF : fX5_hands ch kt n ti = r) : Met l yX5_hands wsX5_hands ({ frames := 4, cells := 0, slots := 0, locals := 95 }) (kx_wp (dC, dI) [(hkc, .inr (5, [.ref ht, .ref ht1, .ref ht2, .int kp, .ref hp, .ref htr, .ref hh, .ref as])), (hh, .inr (0, [.ref ac])), (ac, .inl (cyI, 96, .inl ch)), (ht, .inr (3, [.ref hs, .ref ak, .int (nI si), .int fi])), (ak, .inl (cyI, 4, .inl kt)), (hs, .inr (2, [.ref a0, .ref a1, .ref a2, .int (nI n), .int ea])), (a0, .inl (cyI, 24, .inl co)), (a1, .inl (cyI, 24, .inl ti)), (a2, .inl (cyI, 24, .inl an))] [(cyI, .int), (cyZ, .boolean)] sz [.ref hkc]) (kx_Qi r.1 (dC, dI) [(hkc, .inr (5, [.ref ht, .ref ht1, .ref ht2, .int kp, .ref hp, .ref htr, .ref hh, .ref as])), (hh, .inr (0, [.ref ac])), (ac, .inl (cyI, 96, .inl ch)), (ht, .inr (3, [.ref hs, .ref ak, .int (nI si), .int fi])), (ak, .inl (cyI, 4, .inl kt)), (hs, .inr (2, [.ref a0, .ref a1, .ref a2, .int (nI n), .int ea])), (a0, .inl (cyI, 24, .inl co)), (a1, .inl (cyI, 24, .inl ti)), (a2, .inl (cyI, 24, .inl an))] [(hkc, .inr (5, [.ref ht, .ref ht1, .ref ht2, .int kp, .ref hp, .ref htr, .ref hh, .ref as])), (hh, .inr (0, [.ref ac])), (ac, .inl (cyI, 96, .inl r.2)), (ht, .inr (3, [.ref hs, .ref ak, .int (nI si), .int fi])), (ak, .inl (cyI, 4, .inl kt)), (hs, .inr (2, [.ref a0, .ref a1, .ref a2, .int (nI n), .int ea])), (a0, .inl (cyI, 24, .inl co)), (a1, .inl (cyI, 24, .inl ti)), (a2, .inl (cyI, 24, .inl an))] sz) 0 0 (va_A [(hkc, .inr (5, [.ref ht, .ref ht1, .ref ht2, .int kp, .ref hp, .ref htr, .ref hh, .ref as])), (hh, .inr (0, [.ref ac])), (ac, .inl (cyI, 96, .inl ch)), (ht, .inr (3, [.ref hs, .ref ak, .int (nI si), .int fi])), (ak, .inl (cyI, 4, .inl kt)), (hs, .inr (2, [.ref a0, .ref a1, .ref a2, .int (nI n), .int ea])), (a0, .inl (cyI, 24, .inl co)), (a1, .inl (cyI, 24, .inl ti)), (a2, .inl (cyI, 24, .inl an))] sz) := by
  refine Met.ofW (cc := cX5_hands) (maxL := 1) (ret := (some .int)) (by decide) rfl ?_
  intro p e s m args below meth c s₁ B hml hv
  obtain ⟨rfl, hsz, hP, hK, hN, hD0⟩ := hv
  have hx := B.exec
  have hb := B.bytes
  have hr := B.returns
  have hts := atoms_spec (ws := wsX5_hands) B.pre
  have hown : s.vm.findClass RX5 = some m.cls := findClass_of_methodNamed B.named
  have hlocks := B.notSynchronized
  subst hsz
  obtain ⟨A, hAe⟩ : ∃ A, A = va_A [(hkc, .inr (5, [.ref ht, .ref ht1, .ref ht2, .int kp, .ref hp, .ref htr, .ref hh, .ref as])), (hh, .inr (0, [.ref ac])), (ac, .inl (cyI, 96, .inl ch)), (ht, .inr (3, [.ref hs, .ref ak, .int (nI si), .int fi])), (ak, .inl (cyI, 4, .inl kt)), (hs, .inr (2, [.ref a0, .ref a1, .ref a2, .int (nI n), .int ea])), (a0, .inl (cyI, 24, .inl co)), (a1, .inl (cyI, 24, .inl ti)), (a2, .inl (cyI, 24, .inl an))] s.heap.size := ⟨_, rfl⟩
  have hD : va_D A [(hkc, .inr (5, [.ref ht, .ref ht1, .ref ht2, .int kp, .ref hp, .ref htr, .ref hh, .ref as])), (hh, .inr (0, [.ref ac])), (ac, .inl (cyI, 96, .inl ch)), (ht, .inr (3, [.ref hs, .ref ak, .int (nI si), .int fi])), (ak, .inl (cyI, 4, .inl kt)), (hs, .inr (2, [.ref a0, .ref a1, .ref a2, .int (nI n), .int ea])), (a0, .inl (cyI, 24, .inl co)), (a1, .inl (cyI, 24, .inl ti)), (a2, .inl (cyI, 24, .inl an))] := by rw [hAe]; exact hD0.self
  have hA : ∀ q : Nat, s.heap.size ≤ q → A q := fun q h => by rw [hAe]; exact Or.inr h
  have hS : va_S A s.heap s.heap [] := va_S.rf
  have hiX2 : ∀ w ∈ wsX20, w ∈ wsX5_hands := by decide +kernel
  have hiX3 : ∀ w ∈ wsX30, w ∈ wsX5_hands := by decide +kernel
  have hiX5 : ∀ w ∈ wsX50, w ∈ wsX5_hands := by decide +kernel
  have fl10 := hts (.fieldLink RX5 10 "KnitChronicle" "town" "LKnitChronicle$Town;") (by decide +kernel)
  have fl39 := hts (.fieldLink RX5 39 "KnitChronicle" "handChanges" "LKnitChronicle$HandChanges;") (by decide +kernel)
  have fl47 := hts (.fieldLink RX5 47 "KnitChronicle$Town" "scarf" "LKnitChronicle$Scarf;") (by decide +kernel)
  have fl69 := hts (.fieldLink RX5 69 "KnitChronicle$Scarf" "size" "I") (by decide +kernel)
  have hl := lv_entry ([.ref hkc]) (n := 1) (Nat.le_of_ble_eq_true rfl)
  rw [lg_entry_eq]
  generalize (lg_sl ([.ref hkc]) ++ List.replicate (1 - (lg_sl ([.ref hkc])).length) Slot.unset).toArray = ls at hl ⊢
  have hl : lv_has ls 1 [(0, .ref hkc)] := hl
  unfold fX5_hands at hF
  refine lv_aload_n hx hb dX5_hands_0 rfl (lv_at hl 0 rfl) ?_
  refine va_get (D := (dC, dI)) (ci := 5) (v := .ref hh) (C := RX5) (T := TX5) (N := 8) hx hb hts hiX5 hown hK hP 0 rfl rfl 6 (by decide) fl39 (fun _ h9 => h9) rfl dX5_hands_1 ?_
  refine lv_aload_n hx hb dX5_hands_4 rfl (lv_at hl 0 rfl) ?_
  refine va_get (D := (dC, dI)) (ci := 5) (v := .ref ht) (C := RX5) (T := TX5) (N := 8) hx hb hts hiX5 hown hK hP 0 rfl rfl 0 (by decide) fl10 (fun _ h9 => h9) rfl dX5_hands_5 ?_
  generalize hq8 : fX0_count ch kt n ti = q8 at hF
  try dsimp only at hF
  refine kx_wVv (As := [.ref ht]) (rest := []) (wr := [(hkc, .inr (5, [.ref ht, .ref ht1, .ref ht2, .int kp, .ref hp, .ref htr, .ref hh, .ref as]))]) (wc' := [(hh, .inr (0, [.ref ac])), (ac, .inl (cyI, 96, .inl q8)), (ht, .inr (3, [.ref hs, .ref ak, .int (nI si), .int fi])), (ak, .inl (cyI, 4, .inl kt)), (hs, .inr (2, [.ref a0, .ref a1, .ref a2, .int (nI n), .int ea])), (a0, .inl (cyI, 24, .inl co)), (a1, .inl (cyI, 24, .inl ti)), (a2, .inl (cyI, 24, .inl an))]) (W1 := [(hkc, .inr (5, [.ref ht, .ref ht1, .ref ht2, .int kp, .ref hp, .ref htr, .ref hh, .ref as])), (hh, .inr (0, [.ref ac])), (ac, .inl (cyI, 96, .inl q8)), (ht, .inr (3, [.ref hs, .ref ak, .int (nI si), .int fi])), (ak, .inl (cyI, 4, .inl kt)), (hs, .inr (2, [.ref a0, .ref a1, .ref a2, .int (nI n), .int ea])), (a0, .inl (cyI, 24, .inl co)), (a1, .inl (cyI, 24, .inl ti)), (a2, .inl (cyI, 24, .inl an))]) ⟨hx, hb, hml, hown, hts⟩ (c_X0_count l dC dI cyI cyZ hh ac ht hs ak a0 a1 a2 ch si fi kt n ea co ti an (by omega) _ _ hq8) (cwV 1 hts gX5_hands_X0_count rfl rfl rfl (by decide +kernel) ⟨Nat.le_of_ble_eq_true rfl, Nat.le_of_ble_eq_true rfl⟩) hP hD hS hA hK hN [1, 2, 3, 4, 5, 6, 7, 8] [0] [0, 1, 2, 3, 4, 5, 6, 7, 8] rfl (by decide) rfl (by decide) (by decide) (by decide) rfl [0, 1] rfl 0 1 rfl rfl rfl rfl hl.1 rfl (Nat.le_of_ble_eq_true rfl) dX5_hands_8 ⟨Nat.zero_le _, Nat.zero_le _⟩ (fun H locs hP hD hS => ?_)
  refine lv_aload_n hx hb dX5_hands_11 rfl (lv_at hl 0 rfl) ?_
  refine va_get (D := (dC, dI)) (ci := 5) (v := .ref hh) (C := RX5) (T := TX5) (N := 8) hx hb hts hiX5 hown hK hP 0 rfl rfl 6 (by decide) fl39 (fun _ h9 => h9) rfl dX5_hands_12 ?_
  refine lv_aload_n hx hb dX5_hands_15 rfl (lv_at hl 0 rfl) ?_
  refine va_get (D := (dC, dI)) (ci := 5) (v := .ref ht) (C := RX5) (T := TX5) (N := 8) hx hb hts hiX5 hown hK hP 0 rfl rfl 0 (by decide) fl10 (fun _ h9 => h9) rfl dX5_hands_16 ?_
  refine va_get (D := (dC, dI)) (ci := 3) (v := .ref hs) (C := RX3) (T := TX3) (N := 4) hx hb hts hiX3 hown hK hP 3 rfl rfl 0 (by decide) fl47 (fun _ h9 => h9) rfl dX5_hands_19 ?_
  refine va_get (D := (dC, dI)) (ci := 2) (v := .int (nI n)) (C := RX2) (T := TX2) (N := 5) hx hb hts hiX2 hown hK hP 5 rfl rfl 3 (by decide) fl69 (fun _ h9 => h9) rfl dX5_hands_22 ?_
  refine kx_cV (As := [.int (nI n)]) (rest := []) ⟨hx, hb, hml, hown, hts⟩ (c_X0_fewest l dC dI cyI cyZ hh ac q8 n (by omega) _ rfl) (cwV 1 hts gX5_hands_X0_fewest rfl rfl rfl (by decide +kernel) ⟨Nat.le_of_ble_eq_true rfl, Nat.le_of_ble_eq_true rfl⟩) hP hK hN [1, 2] rfl [0, 1] rfl 0 1 rfl rfl rfl rfl hl.1 rfl (Nat.le_of_ble_eq_true rfl) dX5_hands_25 ⟨Nat.zero_le _, Nat.zero_le _⟩ ?_
  subst hF
  subst hAe
  exact W.iret hx hb hr (fun t ht _ => ⟨⟨_, (), rfl, rfl, by rw [ht]; exact hP, hD⟩, hS.F ht⟩) hS.2.2 dX5_hands_28

def fX5_who (ch : Nat → Int32) (kt : Nat → Int32) (n : Nat) (ti : Nat → Int32) (k : Int32) : Int32 × (Nat → Int32) :=
  (if (fX2_has n k) = 0 then ((-1 : Int32), ch) else ((fun (q24 : Nat → Int32) => (if (fX0_fewest q24 n) = (-6 : Int32) then ((-6 : Int32), q24) else ((nI ((fX0_knitterOf q24 k.toNatClampNeg))), q24))) (fX0_count ch kt n ti)))
set_option maxHeartbeats 4000000 in
set_option maxRecDepth 100000 in
theorem c_X5_who (l : Launch) (dC : Nat → ClassId) (dI : Nat → Nat → Nat) (cyI cyZ : ClassId) (hkc ht ht1 ht2 hp htr hh as ac hs ak a0 a1 a2 : Nat) (kp : Int32) (ch : Nat → Int32) (si : Nat) (fi : Int32) (kt : Nat → Int32) (n : Nat) (ea : Int32) (co : Nat → Int32) (ti : Nat → Int32) (an : Nat → Int32) (k : Int32) (hn : n ≤ 24) (sz : Nat) (r : Int32 × (Nat → Int32)) (hF : fX5_who ch kt n ti k = r) : Met l yX5_who wsX5_who ({ frames := 4, cells := 0, slots := 0, locals := 95 }) (kx_wp (dC, dI) [(hkc, .inr (5, [.ref ht, .ref ht1, .ref ht2, .int kp, .ref hp, .ref htr, .ref hh, .ref as])), (hh, .inr (0, [.ref ac])), (ac, .inl (cyI, 96, .inl ch)), (ht, .inr (3, [.ref hs, .ref ak, .int (nI si), .int fi])), (ak, .inl (cyI, 4, .inl kt)), (hs, .inr (2, [.ref a0, .ref a1, .ref a2, .int (nI n), .int ea])), (a0, .inl (cyI, 24, .inl co)), (a1, .inl (cyI, 24, .inl ti)), (a2, .inl (cyI, 24, .inl an))] [(cyI, .int), (cyZ, .boolean)] sz [.ref hkc, .int k]) (kx_Qi r.1 (dC, dI) [(hkc, .inr (5, [.ref ht, .ref ht1, .ref ht2, .int kp, .ref hp, .ref htr, .ref hh, .ref as])), (hh, .inr (0, [.ref ac])), (ac, .inl (cyI, 96, .inl ch)), (ht, .inr (3, [.ref hs, .ref ak, .int (nI si), .int fi])), (ak, .inl (cyI, 4, .inl kt)), (hs, .inr (2, [.ref a0, .ref a1, .ref a2, .int (nI n), .int ea])), (a0, .inl (cyI, 24, .inl co)), (a1, .inl (cyI, 24, .inl ti)), (a2, .inl (cyI, 24, .inl an))] [(hkc, .inr (5, [.ref ht, .ref ht1, .ref ht2, .int kp, .ref hp, .ref htr, .ref hh, .ref as])), (hh, .inr (0, [.ref ac])), (ac, .inl (cyI, 96, .inl r.2)), (ht, .inr (3, [.ref hs, .ref ak, .int (nI si), .int fi])), (ak, .inl (cyI, 4, .inl kt)), (hs, .inr (2, [.ref a0, .ref a1, .ref a2, .int (nI n), .int ea])), (a0, .inl (cyI, 24, .inl co)), (a1, .inl (cyI, 24, .inl ti)), (a2, .inl (cyI, 24, .inl an))] sz) 0 0 (va_A [(hkc, .inr (5, [.ref ht, .ref ht1, .ref ht2, .int kp, .ref hp, .ref htr, .ref hh, .ref as])), (hh, .inr (0, [.ref ac])), (ac, .inl (cyI, 96, .inl ch)), (ht, .inr (3, [.ref hs, .ref ak, .int (nI si), .int fi])), (ak, .inl (cyI, 4, .inl kt)), (hs, .inr (2, [.ref a0, .ref a1, .ref a2, .int (nI n), .int ea])), (a0, .inl (cyI, 24, .inl co)), (a1, .inl (cyI, 24, .inl ti)), (a2, .inl (cyI, 24, .inl an))] sz) := by
  refine Met.ofW (cc := cX5_who) (maxL := 2) (ret := (some .int)) (by decide) rfl ?_
  intro p e s m args below meth c s₁ B hml hv
  obtain ⟨rfl, hsz, hP, hK, hN, hD0⟩ := hv
  have hx := B.exec
  have hb := B.bytes
  have hr := B.returns
  have hts := atoms_spec (ws := wsX5_who) B.pre
  have hown : s.vm.findClass RX5 = some m.cls := findClass_of_methodNamed B.named
  have hlocks := B.notSynchronized
  subst hsz
  obtain ⟨A, hAe⟩ : ∃ A, A = va_A [(hkc, .inr (5, [.ref ht, .ref ht1, .ref ht2, .int kp, .ref hp, .ref htr, .ref hh, .ref as])), (hh, .inr (0, [.ref ac])), (ac, .inl (cyI, 96, .inl ch)), (ht, .inr (3, [.ref hs, .ref ak, .int (nI si), .int fi])), (ak, .inl (cyI, 4, .inl kt)), (hs, .inr (2, [.ref a0, .ref a1, .ref a2, .int (nI n), .int ea])), (a0, .inl (cyI, 24, .inl co)), (a1, .inl (cyI, 24, .inl ti)), (a2, .inl (cyI, 24, .inl an))] s.heap.size := ⟨_, rfl⟩
  have hD : va_D A [(hkc, .inr (5, [.ref ht, .ref ht1, .ref ht2, .int kp, .ref hp, .ref htr, .ref hh, .ref as])), (hh, .inr (0, [.ref ac])), (ac, .inl (cyI, 96, .inl ch)), (ht, .inr (3, [.ref hs, .ref ak, .int (nI si), .int fi])), (ak, .inl (cyI, 4, .inl kt)), (hs, .inr (2, [.ref a0, .ref a1, .ref a2, .int (nI n), .int ea])), (a0, .inl (cyI, 24, .inl co)), (a1, .inl (cyI, 24, .inl ti)), (a2, .inl (cyI, 24, .inl an))] := by rw [hAe]; exact hD0.self
  have hA : ∀ q : Nat, s.heap.size ≤ q → A q := fun q h => by rw [hAe]; exact Or.inr h
  have hS : va_S A s.heap s.heap [] := va_S.rf
  have hiX2 : ∀ w ∈ wsX20, w ∈ wsX5_who := by decide +kernel
  have hiX3 : ∀ w ∈ wsX30, w ∈ wsX5_who := by decide +kernel
  have hiX5 : ∀ w ∈ wsX50, w ∈ wsX5_who := by decide +kernel
  have fl10 := hts (.fieldLink RX5 10 "KnitChronicle" "town" "LKnitChronicle$Town;") (by decide +kernel)
  have fl39 := hts (.fieldLink RX5 39 "KnitChronicle" "handChanges" "LKnitChronicle$HandChanges;") (by decide +kernel)
  have fl47 := hts (.fieldLink RX5 47 "KnitChronicle$Town" "scarf" "LKnitChronicle$Scarf;") (by decide +kernel)
  have fl69 := hts (.fieldLink RX5 69 "KnitChronicle$Scarf" "size" "I") (by decide +kernel)
  have hl := lv_entry ([.ref hkc, .int k]) (n := 2) (Nat.le_of_ble_eq_true rfl)
  rw [lg_entry_eq]
  generalize (lg_sl ([.ref hkc, .int k]) ++ List.replicate (2 - (lg_sl ([.ref hkc, .int k])).length) Slot.unset).toArray = ls at hl ⊢
  have hl : lv_has ls 2 [(0, .ref hkc), (1, .int k)] := hl
  unfold fX5_who at hF
  refine lv_aload_n hx hb dX5_who_0 rfl (lv_at hl 0 rfl) ?_
  refine va_get (D := (dC, dI)) (ci := 5) (v := .ref ht) (C := RX5) (T := TX5) (N := 8) hx hb hts hiX5 hown hK hP 0 rfl rfl 0 (by decide) fl10 (fun _ h9 => h9) rfl dX5_who_1 ?_
  refine va_get (D := (dC, dI)) (ci := 3) (v := .ref hs) (C := RX3) (T := TX3) (N := 4) hx hb hts hiX3 hown hK hP 3 rfl rfl 0 (by decide) fl47 (fun _ h9 => h9) rfl dX5_who_4 ?_
  refine lv_iload_n hx hb dX5_who_7 rfl (lv_at hl 1 rfl) ?_
  refine kx_cV (As := [.int k]) (rest := []) ⟨hx, hb, hml, hown, hts⟩ (c_X2_has l dC dI cyI cyZ hs a0 a1 a2 n ea co ti an k  _ rfl) (cwV 1 hts gX5_who_X2_has rfl rfl rfl (by decide +kernel) ⟨Nat.le_of_ble_eq_true rfl, Nat.le_of_ble_eq_true rfl⟩) hP hK hN [5, 6, 7, 8] rfl [0, 1] rfl 2 5 rfl rfl rfl rfl hl.1 rfl (Nat.le_of_ble_eq_true rfl) dX5_who_8 ⟨Nat.zero_le _, Nat.zero_le _⟩ ?_
  refine lv_if_ne (tgt := 16) hx hb dX5_who_11 (by decide) (fun c11 => ?_) (fun c11 => ?_)
  · rw [if_neg c11] at hF
    obtain ⟨hk1, hk2⟩ := kx_has (by omega) c11
    refine lv_aload_n hx hb dX5_who_16 rfl (lv_at hl 0 rfl) ?_
    refine va_get (D := (dC, dI)) (ci := 5) (v := .ref hh) (C := RX5) (T := TX5) (N := 8) hx hb hts hiX5 hown hK hP 0 rfl rfl 6 (by decide) fl39 (fun _ h9 => h9) rfl dX5_who_17 ?_
    refine lv_aload_n hx hb dX5_who_20 rfl (lv_at hl 0 rfl) ?_
    refine va_get (D := (dC, dI)) (ci := 5) (v := .ref ht) (C := RX5) (T := TX5) (N := 8) hx hb hts hiX5 hown hK hP 0 rfl rfl 0 (by decide) fl10 (fun _ h9 => h9) rfl dX5_who_21 ?_
    generalize hq24 : fX0_count ch kt n ti = q24 at hF
    try dsimp only at hF
    refine kx_wVv (As := [.ref ht]) (rest := []) (wr := [(hkc, .inr (5, [.ref ht, .ref ht1, .ref ht2, .int kp, .ref hp, .ref htr, .ref hh, .ref as]))]) (wc' := [(hh, .inr (0, [.ref ac])), (ac, .inl (cyI, 96, .inl q24)), (ht, .inr (3, [.ref hs, .ref ak, .int (nI si), .int fi])), (ak, .inl (cyI, 4, .inl kt)), (hs, .inr (2, [.ref a0, .ref a1, .ref a2, .int (nI n), .int ea])), (a0, .inl (cyI, 24, .inl co)), (a1, .inl (cyI, 24, .inl ti)), (a2, .inl (cyI, 24, .inl an))]) (W1 := [(hkc, .inr (5, [.ref ht, .ref ht1, .ref ht2, .int kp, .ref hp, .ref htr, .ref hh, .ref as])), (hh, .inr (0, [.ref ac])), (ac, .inl (cyI, 96, .inl q24)), (ht, .inr (3, [.ref hs, .ref ak, .int (nI si), .int fi])), (ak, .inl (cyI, 4, .inl kt)), (hs, .inr (2, [.ref a0, .ref a1, .ref a2, .int (nI n), .int ea])), (a0, .inl (cyI, 24, .inl co)), (a1, .inl (cyI, 24, .inl ti)), (a2, .inl (cyI, 24, .inl an))]) ⟨hx, hb, hml, hown, hts⟩ (c_X0_count l dC dI cyI cyZ hh ac ht hs ak a0 a1 a2 ch si fi kt n ea co ti an (by omega) _ _ hq24) (cwV 1 hts gX5_who_X0_count rfl rfl rfl (by decide +kernel) ⟨Nat.le_of_ble_eq_true rfl, Nat.le_of_ble_eq_true rfl⟩) hP hD hS hA hK hN [1, 2, 3, 4, 5, 6, 7, 8] [0] [0, 1, 2, 3, 4, 5, 6, 7, 8] rfl (by decide) rfl (by decide) (by decide) (by decide) rfl [0, 1] rfl 0 1 rfl rfl rfl rfl hl.1 rfl (Nat.le_of_ble_eq_true rfl) dX5_who_24 ⟨Nat.zero_le _, Nat.zero_le _⟩ (fun H locs hP hD hS => ?_)
    refine lv_aload_n hx hb dX5_who_27 rfl (lv_at hl 0 rfl) ?_
    refine va_get (D := (dC, dI)) (ci := 5) (v := .ref hh) (C := RX5) (T := TX5) (N := 8) hx hb hts hiX5 hown hK hP 0 rfl rfl 6 (by decide) fl39 (fun _ h9 => h9) rfl dX5_who_28 ?_
    refine lv_aload_n hx hb dX5_who_31 rfl (lv_at hl 0 rfl) ?_
    refine va_get (D := (dC, dI)) (ci := 5) (v := .ref ht) (C := RX5) (T := TX5) (N := 8) hx hb hts hiX5 hown hK hP 0 rfl rfl 0 (by decide) fl10 (fun _ h9 => h9) rfl dX5_who_32 ?_
    refine va_get (D := (dC, dI)) (ci := 3) (v := .ref hs) (C := RX3) (T := TX3) (N := 4) hx hb hts hiX3 hown hK hP 3 rfl rfl 0 (by decide) fl47 (fun _ h9 => h9) rfl dX5_who_35 ?_
    refine va_get (D := (dC, dI)) (ci := 2) (v := .int (nI n)) (C := RX2) (T := TX2) (N := 5) hx hb hts hiX2 hown hK hP 5 rfl rfl 3 (by decide) fl69 (fun _ h9 => h9) rfl dX5_who_38 ?_
    refine kx_cV (As := [.int (nI n)]) (rest := []) ⟨hx, hb, hml, hown, hts⟩ (c_X0_fewest l dC dI cyI cyZ hh ac q24 n (by omega) _ rfl) (cwV 1 hts gX5_who_X0_fewest rfl rfl rfl (by decide +kernel) ⟨Nat.le_of_ble_eq_true rfl, Nat.le_of_ble_eq_true rfl⟩) hP hK hN [1, 2] rfl [0, 1] rfl 0 1 rfl rfl rfl rfl hl.1 rfl (Nat.le_of_ble_eq_true rfl) dX5_who_41 ⟨Nat.zero_le _, Nat.zero_le _⟩ ?_
    refine lv_bipush (v := (-6 : Int32)) hx hb dX5_who_44 (by decide) ?_
    refine lv_icmp_ne (tgt := 52) hx hb dX5_who_46 (by decide) (fun c46 => ?_) (fun c46 => ?_)
    · rw [if_neg c46] at hF
      refine lv_aload_n hx hb dX5_who_52 rfl (lv_at hl 0 rfl) ?_
      refine va_get (D := (dC, dI)) (ci := 5) (v := .ref hh) (C := RX5) (T := TX5) (N := 8) hx hb hts hiX5 hown hK hP 0 rfl rfl 6 (by decide) fl39 (fun _ h9 => h9) rfl dX5_who_53 ?_
      refine lv_iload_n hx hb dX5_who_56 rfl (lv_at hl 1 rfl) ?_
      refine kx_e hk1 ?_
      refine kx_cV (As := [.int (nI (k.toNatClampNeg))]) (rest := []) ⟨hx, hb, hml, hown, hts⟩ (c_X0_knitterOf l dC dI cyI cyZ hh ac q24 k.toNatClampNeg (by omega) _ rfl) (cwV 1 hts gX5_who_X0_knitterOf rfl rfl rfl (by decide +kernel) ⟨Nat.le_of_ble_eq_true rfl, Nat.le_of_ble_eq_true rfl⟩) hP hK hN [1, 2] rfl [0, 1] rfl 0 1 rfl rfl rfl rfl hl.1 rfl (Nat.le_of_ble_eq_true rfl) dX5_who_57 ⟨Nat.zero_le _, Nat.zero_le _⟩ ?_
      subst hF
      subst hAe
      exact W.iret hx hb hr (fun t ht _ => ⟨⟨_, (), rfl, rfl, by rw [ht]; exact hP, hD⟩, hS.F ht⟩) hS.2.2 dX5_who_60
    · rw [if_pos c46] at hF
      refine lv_bipush (v := (-6 : Int32)) hx hb dX5_who_49 (by decide) ?_
      subst hF
      subst hAe
      exact W.iret hx hb hr (fun t ht _ => ⟨⟨_, (), rfl, rfl, by rw [ht]; exact hP, hD⟩, hS.F ht⟩) hS.2.2 dX5_who_51
  · rw [if_pos c11] at hF
    refine lv_iconst (v := (-1 : Int32)) hx hb dX5_who_14 (by decide) ?_
    subst hF
    subst hAe
    exact W.iret hx hb hr (fun t ht _ => ⟨⟨_, (), rfl, rfl, by rw [ht]; exact hP, hD⟩, hS.F ht⟩) hS.2.2 dX5_who_15
