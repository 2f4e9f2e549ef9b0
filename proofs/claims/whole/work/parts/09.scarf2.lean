def fX2_unpick_L14 (n : Nat) (ea : Int32) (an : Nat → Int32) (ks : Nat) : Nat → Nat → Nat → Int32 → (Nat → Int32) → (Nat → Int32) → (Nat → Int32) → (Nat × Int32 × (Nat → Int32) × (Nat → Int32) × (Nat → Int32))
  | 0, _, lf, le, gc, gt, ga => (lf, le, gc, gt, ga)
  | r14 + 1, j14, lf, le, gc, gt, ga => (if (fX5_isIn (fX2_undoneWith n an ks) (nI j14)) = 0 then ((fun (q46 : Nat → Int32) => ((fun (q63 : Nat → Int32) => ((fun (q84 : Nat → Int32) => (if (fX2_isEaten ea (nI j14)) = 0 then (fX2_unpick_L14 n ea an ks r14 (j14 + 1) (lf + 1) (le ||| (0 : Int32)) q46 q63 q84) else (fX2_unpick_L14 n ea an ks r14 (j14 + 1) (lf + 1) (le ||| ((1 : Int32) <<< ((nI lf) &&& 31))) q46 q63 q84))) (fX5_put ga 24 (nI lf) (fX2_closedUp (fX5_at ga 24 (nI j14)) (fX2_undoneWith n an ks))))) (fX5_put gt 24 (nI lf) (fX5_at gt 24 (nI j14))))) (fX5_put gc 24 (nI lf) (fX5_at gc 24 (nI j14)))) else (fX2_unpick_L14 n ea an ks r14 (j14 + 1) lf le gc gt ga))
def fX2_unpick (n : Nat) (ea : Int32) (co : Nat → Int32) (ti : Nat → Int32) (an : Nat → Int32) (ks : Nat) : Nat × (Nat → Int32) × (Nat → Int32) × (Nat → Int32) × Nat × Int32 :=
  (match fX2_unpick_L14 n ea an ks n 0 0 (0 : Int32) co ti an with | (lf, le, gc, gt, ga) => ((pcN (fX2_undoneWith n an ks)), gc, gt, ga, lf, le))
set_option maxHeartbeats 4000000 in
set_option maxRecDepth 100000 in
theorem c_X2_unpick (l : Launch) (dC : Nat → ClassId) (dI : Nat → Nat → Nat) (cyI cyZ : ClassId) (h a0 a1 a2 : Nat) (n : Nat) (ea : Int32) (co : Nat → Int32) (ti : Nat → Int32) (an : Nat → Int32) (ks : Nat) (hn : n ≤ 1000) (hks : ks < n) (sz : Nat) (r : Nat × (Nat → Int32) × (Nat → Int32) × (Nat → Int32) × Nat × Int32) (hF : fX2_unpick n ea co ti an ks = r) : Met l yX2_unpick wsX2_unpick ({ frames := 2, cells := 0, slots := 0, locals := 44 }) (kx_wp (dC, dI) [(h, .inr (2, [.ref a0, .ref a1, .ref a2, .int (nI n), .int ea])), (a0, .inl (cyI, 24, .inl co)), (a1, .inl (cyI, 24, .inl ti)), (a2, .inl (cyI, 24, .inl an))] [(cyI, .int), (cyZ, .boolean)] sz [.ref h, .int (nI ks)]) (kx_Qi (nI r.1) (dC, dI) [(h, .inr (2, [.ref a0, .ref a1, .ref a2, .int (nI n), .int ea])), (a0, .inl (cyI, 24, .inl co)), (a1, .inl (cyI, 24, .inl ti)), (a2, .inl (cyI, 24, .inl an))] [(h, .inr (2, [.ref a0, .ref a1, .ref a2, .int (nI (r.2.2.2.2.1)), .int r.2.2.2.2.2])), (a0, .inl (cyI, 24, .inl r.2.1)), (a1, .inl (cyI, 24, .inl r.2.2.1)), (a2, .inl (cyI, 24, .inl r.2.2.2.1))] sz) 0 0 (va_A [(h, .inr (2, [.ref a0, .ref a1, .ref a2, .int (nI n), .int ea])), (a0, .inl (cyI, 24, .inl co)), (a1, .inl (cyI, 24, .inl ti)), (a2, .inl (cyI, 24, .inl an))] sz) := by
  refine Met.ofW (cc := cX2_unpick) (maxL := 6) (ret := (some .int)) (by decide) rfl ?_
  intro p e s m args below meth c s₁ B hml hv
  obtain ⟨rfl, hsz, hP, hK, hN, hD0⟩ := hv
  have hx := B.exec
  have hb := B.bytes
  have hr := B.returns
  have hts := atoms_spec (ws := wsX2_unpick) B.pre
  have hown : s.vm.findClass RX2 = some m.cls := findClass_of_methodNamed B.named
  have hlocks := B.notSynchronized
  subst hsz
  obtain ⟨A, hAe⟩ : ∃ A, A = va_A [(h, .inr (2, [.ref a0, .ref a1, .ref a2, .int (nI n), .int ea])), (a0, .inl (cyI, 24, .inl co)), (a1, .inl (cyI, 24, .inl ti)), (a2, .inl (cyI, 24, .inl an))] s.heap.size := ⟨_, rfl⟩
  have hD : va_D A [(h, .inr (2, [.ref a0, .ref a1, .ref a2, .int (nI n), .int ea])), (a0, .inl (cyI, 24, .inl co)), (a1, .inl (cyI, 24, .inl ti)), (a2, .inl (cyI, 24, .inl an))] := by rw [hAe]; exact hD0.self
  have hA : ∀ q : Nat, s.heap.size ≤ q → A q := fun q h => by rw [hAe]; exact Or.inr h
  have hS : va_S A s.heap s.heap [] := va_S.rf
  have hiX2 : ∀ w ∈ wsX20, w ∈ wsX2_unpick := by decide +kernel
  have fl9 := hts (.fieldLink RX2 9 "KnitChronicle$Scarf" "colours" "[I") (by decide +kernel)
  have fl15 := hts (.fieldLink RX2 15 "KnitChronicle$Scarf" "tightnesses" "[I") (by decide +kernel)
  have fl18 := hts (.fieldLink RX2 18 "KnitChronicle$Scarf" "anchors" "[I") (by decide +kernel)
  have fl21 := hts (.fieldLink RX2 21 "KnitChronicle$Scarf" "size" "I") (by decide +kernel)
  have fl29 := hts (.fieldLink RX2 29 "KnitChronicle$Scarf" "eaten" "I") (by decide +kernel)
  have hl := lv_entry ([.ref h, .int (nI ks)]) (n := 6) (Nat.le_of_ble_eq_true rfl)
  rw [lg_entry_eq]
  generalize (lg_sl ([.ref h, .int (nI ks)]) ++ List.replicate (6 - (lg_sl ([.ref h, .int (nI ks)])).length) Slot.unset).toArray = ls at hl ⊢
  have hl : lv_has ls 6 [(0, .ref h), (1, .int (nI ks))] := hl
  unfold fX2_unpick at hF
  refine lv_aload_n hx hb dX2_unpick_0 rfl (lv_at hl 0 rfl) ?_
  refine lv_iload_n hx hb dX2_unpick_1 rfl (lv_at hl 1 rfl) ?_
  refine kx_cV (As := [.int (nI ks)]) (rest := []) ⟨hx, hb, hml, hown, hts⟩ (c_X2_undoneWith l dC dI cyI cyZ h a0 a1 a2 n ea co ti an ks (by omega) (by omega) _ rfl) (cwV 1 hts gX2_unpick_X2_undoneWith rfl rfl rfl (by decide +kernel) ⟨Nat.le_of_ble_eq_true rfl, Nat.le_of_ble_eq_true rfl⟩) hP hK hN [0, 1, 2, 3] rfl [0, 1] rfl 2 0 rfl rfl rfl rfl hl.1 rfl (Nat.le_of_ble_eq_true rfl) dX2_unpick_2 ⟨Nat.zero_le _, Nat.zero_le _⟩ ?_
  refine lv_istore_n (lv' := [(2, .int (fX2_undoneWith n an ks)), (0, .ref h), (1, .int (nI ks))]) hx hb dX2_unpick_5 rfl hl (by decide) rfl (fun ls hl => ?_)
  refine lv_iconst (v := (0 : Int32)) hx hb dX2_unpick_6 (by decide) ?_
  refine lv_istore_n (lv' := [(3, .int (0 : Int32)), (2, .int (fX2_undoneWith n an ks)), (0, .ref h), (1, .int (nI ks))]) hx hb dX2_unpick_7 rfl hl (by decide) rfl (fun ls hl => ?_)
  refine lv_iconst (v := (0 : Int32)) hx hb dX2_unpick_8 (by decide) ?_
  refine lv_istore (lv' := [(4, .int (0 : Int32)), (3, .int (0 : Int32)), (2, .int (fX2_undoneWith n an ks)), (0, .ref h), (1, .int (nI ks))]) hx hb dX2_unpick_9 hl (by decide) rfl (fun ls hl => ?_)
  refine lv_iconst (v := (0 : Int32)) hx hb dX2_unpick_11 (by decide) ?_
  refine lv_istore (lv' := [(5, .int (0 : Int32)), (4, .int (0 : Int32)), (3, .int (0 : Int32)), (2, .int (fX2_undoneWith n an ks)), (0, .ref h), (1, .int (nI ks))]) hx hb dX2_unpick_12 hl (by decide) rfl (fun ls hl => ?_)
  generalize hz14 : fX2_unpick_L14 n ea an ks n 0 0 (0 : Int32) co ti an = z14 at hF
  have LP14 : ∀ (r14 : Nat) (j14 : Nat) (lf : Nat) (le : Int32) (gc : Nat → Int32) (gt : Nat → Int32) (ga : Nat → Int32), r14 + j14 = n → fX2_unpick_L14 n ea an ks r14 j14 lf le gc gt ga = z14 → ∀ (H : Heap) (locs : List Loc), va_P (dC, dI) vwCl [(h, .inr (2, [.ref a0, .ref a1, .ref a2, .int (nI n), .int ea])), (a0, .inl (cyI, 24, .inl gc)), (a1, .inl (cyI, 24, .inl gt)), (a2, .inl (cyI, 24, .inl ga))] H → va_D A [(h, .inr (2, [.ref a0, .ref a1, .ref a2, .int (nI n), .int ea])), (a0, .inl (cyI, 24, .inl gc)), (a1, .inl (cyI, 24, .inl gt)), (a2, .inl (cyI, 24, .inl ga))] → va_S A s.heap H locs → ∀ (ls : Array Slot), lv_has ls 6 [(5, .int (nI j14)), (4, .int le), (3, .int (nI lf)), (2, .int (fX2_undoneWith n an ks)), (0, .ref h), (1, .int (nI ks))] → W p l e (headSpec wsX2_unpick ({ frames := 2, cells := 0, slots := 0, locals := 44 } : Room)).room s m ([.ref h, .int (nI ks)] : List Value).toArray below meth c H locs 0 0 (MQ below (kx_Qi (nI r.1) (dC, dI) [(h, .inr (2, [.ref a0, .ref a1, .ref a2, .int (nI n), .int ea])), (a0, .inl (cyI, 24, .inl co)), (a1, .inl (cyI, 24, .inl ti)), (a2, .inl (cyI, 24, .inl an))] [(h, .inr (2, [.ref a0, .ref a1, .ref a2, .int (nI (r.2.2.2.2.1)), .int r.2.2.2.2.2])), (a0, .inl (cyI, 24, .inl r.2.1)), (a1, .inl (cyI, 24, .inl r.2.2.1)), (a2, .inl (cyI, 24, .inl r.2.2.2.1))] s.heap.size) ([.ref h, .int (nI ks)] : List Value).toArray s 0 0 (va_A [(h, .inr (2, [.ref a0, .ref a1, .ref a2, .int (nI n), .int ea])), (a0, .inl (cyI, 24, .inl co)), (a1, .inl (cyI, 24, .inl ti)), (a2, .inl (cyI, 24, .inl an))] s.heap.size)) (F0 m 14 ls []) := by
    intro r14
    induction r14 with
    | zero =>
      intro j14 lf le gc gt ga hrj hz14 H locs hP hD hS ls hl
      rw [fX2_unpick_L14] at hz14
      subst hz14
      dsimp only at hF
      refine lv_iload hx hb dX2_unpick_14 (lv_at hl 0 rfl) ?_
      refine lv_aload_n hx hb dX2_unpick_16 rfl (lv_at hl 4 rfl) ?_
      refine va_get (D := (dC, dI)) (ci := 2) (v := .int (nI n)) (C := RX2) (T := TX2) (N := 5) hx hb hts hiX2 hown hK hP 0 rfl rfl 3 (by decide) fl21 (fun _ h9 => h9) rfl dX2_unpick_17 ?_
      refine kx_ge hx hb (j14) (n) rfl rfl (by omega) (by omega) dX2_unpick_20 (by decide) (tgt := 117) (fun c20 => ?_) (fun c20 => absurd c20 (by omega))
      refine lv_aload_n hx hb dX2_unpick_117 rfl (lv_at hl 4 rfl) ?_
      refine lv_iload_n hx hb dX2_unpick_118 rfl (lv_at hl 2 rfl) ?_
      refine va_put (D := (dC, dI)) (ci := 2) (v := .int (nI lf)) (ty := .int) (C := RX2) (T := TX2) (N := 5) hx hb hts hiX2 tyX2 tyX2_ok nmX2 hown hK hP hD hS 0 rfl rfl 3 (by decide) fl21 (fun _ h9 => h9) rfl (by decide +kernel) rfl rfl (Nat.le_of_ble_eq_true rfl) dX2_unpick_119 (fun H locs hP hD hS => ?_)
      have hP : va_P (dC, dI) vwCl [(h, .inr (2, [.ref a0, .ref a1, .ref a2, .int (nI lf), .int ea])), (a0, .inl (cyI, 24, .inl gc)), (a1, .inl (cyI, 24, .inl gt)), (a2, .inl (cyI, 24, .inl ga))] H := hP
      have hD : va_D A [(h, .inr (2, [.ref a0, .ref a1, .ref a2, .int (nI lf), .int ea])), (a0, .inl (cyI, 24, .inl gc)), (a1, .inl (cyI, 24, .inl gt)), (a2, .inl (cyI, 24, .inl ga))] := hD
      refine lv_aload_n hx hb dX2_unpick_122 rfl (lv_at hl 4 rfl) ?_
      refine lv_iload hx hb dX2_unpick_123 (lv_at hl 1 rfl) ?_
      refine va_put (D := (dC, dI)) (ci := 2) (v := .int le) (ty := .int) (C := RX2) (T := TX2) (N := 5) hx hb hts hiX2 tyX2 tyX2_ok nmX2 hown hK hP hD hS 0 rfl rfl 4 (by decide) fl29 (fun _ h9 => h9) rfl (by decide +kernel) rfl rfl (Nat.le_of_ble_eq_true rfl) dX2_unpick_125 (fun H locs hP hD hS => ?_)
      have hP : va_P (dC, dI) vwCl [(h, .inr (2, [.ref a0, .ref a1, .ref a2, .int (nI lf), .int le])), (a0, .inl (cyI, 24, .inl gc)), (a1, .inl (cyI, 24, .inl gt)), (a2, .inl (cyI, 24, .inl ga))] H := hP
      have hD : va_D A [(h, .inr (2, [.ref a0, .ref a1, .ref a2, .int (nI lf), .int le])), (a0, .inl (cyI, 24, .inl gc)), (a1, .inl (cyI, 24, .inl gt)), (a2, .inl (cyI, 24, .inl ga))] := hD
      refine lv_iload_n hx hb dX2_unpick_128 rfl (lv_at hl 3 rfl) ?_
      refine kx_cS (As := [.int (fX2_undoneWith n an ks)]) (rest := []) ⟨hx, hb, hml, hown, hts⟩ (c_J6_bitCount_0f7a4 l dC dI cyI cyZ  (fX2_undoneWith n an ks)  _ rfl) (va_cwS 1 hts gX2_unpick_J6_bitCount_0f7a4 rfl rfl rfl (by decide +kernel) ⟨Nat.le_of_ble_eq_true rfl, Nat.le_of_ble_eq_true rfl⟩) hP hK hN [] rfl [0, 1] rfl rfl hl.1 rfl (Nat.le_of_ble_eq_true rfl) dX2_unpick_129 ⟨Nat.zero_le _, Nat.zero_le _⟩ ?_
      refine kx_e (pcN_eq _) ?_
      have hpc129 := pcN_lt (fX2_undoneWith n an ks)
      subst hF
      subst hAe
      exact W.iret hx hb hr (fun t ht _ => ⟨⟨_, (), rfl, rfl, by rw [ht]; exact hP, hD⟩, hS.F ht⟩) hS.2.2 dX2_unpick_132
    | succ r14 ih =>
      intro j14 lf le gc gt ga hrj hz14 H locs hP hD hS ls hl
      rw [fX2_unpick_L14] at hz14
      refine lv_iload hx hb dX2_unpick_14 (lv_at hl 0 rfl) ?_
      refine lv_aload_n hx hb dX2_unpick_16 rfl (lv_at hl 4 rfl) ?_
      refine va_get (D := (dC, dI)) (ci := 2) (v := .int (nI n)) (C := RX2) (T := TX2) (N := 5) hx hb hts hiX2 hown hK hP 0 rfl rfl 3 (by decide) fl21 (fun _ h9 => h9) rfl dX2_unpick_17 ?_
      refine kx_ge hx hb (j14) (n) rfl rfl (by omega) (by omega) dX2_unpick_20 (by decide) (tgt := 117) (fun c20 => absurd c20 (by omega)) (fun c20 => ?_)
      refine lv_iload_n hx hb dX2_unpick_23 rfl (lv_at hl 3 rfl) ?_
      refine lv_iload hx hb dX2_unpick_24 (lv_at hl 0 rfl) ?_
      refine kx_cSN (As := [.int (fX2_undoneWith n an ks), .int (nI j14)]) (rest := []) ⟨hx, hb, hml, hown, hts⟩ (c_X5_isIn l dC dI cyI cyZ  (fX2_undoneWith n an ks) (nI j14)  _ rfl) ⟨va_cnB 2 hts gX2_unpick_X5_isIn_n32 rfl rfl rfl (hN (RX2, 32, yX5_isIn, RX5) (List.mem_of_getElem? (i := 13) rfl)) (hts (.initialized RX5) (by decide +kernel)) (by decide +kernel) ⟨Nat.le_of_ble_eq_true rfl, Nat.le_of_ble_eq_true rfl⟩, hts (.static yX5_isIn) (by decide +kernel), trivial⟩ hP hK hN [] rfl [0, 1] rfl rfl hl.1 rfl (Nat.le_of_ble_eq_true rfl) dX2_unpick_26 ⟨Nat.zero_le _, Nat.zero_le _⟩ ?_
      refine lv_if_ne (tgt := 111) hx hb dX2_unpick_29 (by decide) (fun c29 => ?_) (fun c29 => ?_)
      · rw [if_neg c29] at hz14
        refine lv_iinc (v := (nI (j14 + 1))) (lv' := [(5, .int (nI (j14 + 1))), (4, .int le), (3, .int (nI lf)), (2, .int (fX2_undoneWith n an ks)), (0, .ref h), (1, .int (nI ks))]) hx hb dX2_unpick_111 hl (k := 0) rfl (by exact nI_add (j14) 1) (by decide) rfl (fun ls hl => ?_)
        refine lv_goto (tgt := 14) hx hb dX2_unpick_114 (by decide) ?_
        exact ih (j14 + 1) lf le gc gt ga (by omega)  hz14 _ _ hP hD hS _ (lv_sub hl [0, 1, 2, 3, 4, 5] rfl)
      · rw [if_pos c29] at hz14
        refine lv_aload_n hx hb dX2_unpick_32 rfl (lv_at hl 4 rfl) ?_
        refine va_get (D := (dC, dI)) (ci := 2) (v := .ref a0) (C := RX2) (T := TX2) (N := 5) hx hb hts hiX2 hown hK hP 0 rfl rfl 0 (by decide) fl9 (fun _ h9 => h9) rfl dX2_unpick_33 ?_
        refine lv_iload_n hx hb dX2_unpick_36 rfl (lv_at hl 2 rfl) ?_
        refine lv_aload_n hx hb dX2_unpick_37 rfl (lv_at hl 4 rfl) ?_
        refine va_get (D := (dC, dI)) (ci := 2) (v := .ref a0) (C := RX2) (T := TX2) (N := 5) hx hb hts hiX2 hown hK hP 0 rfl rfl 0 (by decide) fl9 (fun _ h9 => h9) rfl dX2_unpick_38 ?_
        refine lv_iload hx hb dX2_unpick_41 (lv_at hl 0 rfl) ?_
        refine kx_cSN (As := [.ref a0, .int (nI j14)]) (rest := [.int (nI lf), .ref a0]) ⟨hx, hb, hml, hown, hts⟩ (c_X5_at l dC dI cyI cyZ a0 gc 24 (nI j14) (by omega) _ rfl) ⟨va_cnB 2 hts gX2_unpick_X5_at_n35 rfl rfl rfl (hN (RX2, 35, yX5_at, RX5) (List.mem_of_getElem? (i := 12) rfl)) (hts (.initialized RX5) (by decide +kernel)) (by decide +kernel) ⟨Nat.le_of_ble_eq_true rfl, Nat.le_of_ble_eq_true rfl⟩, hts (.static yX5_at) (by decide +kernel), trivial⟩ hP hK hN [1] rfl [0, 1] rfl rfl hl.1 rfl (Nat.le_of_ble_eq_true rfl) dX2_unpick_43 ⟨Nat.zero_le _, Nat.zero_le _⟩ ?_
        generalize hq46 : fX5_put gc 24 (nI lf) (fX5_at gc 24 (nI j14)) = q46 at hz14
        try dsimp only at hz14
        refine kx_wSNv (As := [.ref a0, .int (nI lf), .int (fX5_at gc 24 (nI j14))]) (rest := []) (wr := [(h, .inr (2, [.ref a0, .ref a1, .ref a2, .int (nI n), .int ea])), (a1, .inl (cyI, 24, .inl gt)), (a2, .inl (cyI, 24, .inl ga))]) (wc' := [(a0, .inl (cyI, 24, .inl q46))]) (W1 := [(h, .inr (2, [.ref a0, .ref a1, .ref a2, .int (nI n), .int ea])), (a0, .inl (cyI, 24, .inl q46)), (a1, .inl (cyI, 24, .inl gt)), (a2, .inl (cyI, 24, .inl ga))]) ⟨hx, hb, hml, hown, hts⟩ (c_X5_put l dC dI cyI cyZ a0 gc 24 (nI lf) (fX5_at gc 24 (nI j14)) (by omega) _ _ hq46) ⟨va_cnB 3 hts gX2_unpick_X5_put_n39 rfl rfl rfl (hN (RX2, 39, yX5_put, RX5) (List.mem_of_getElem? (i := 7) rfl)) (hts (.initialized RX5) (by decide +kernel)) (by decide +kernel) ⟨Nat.le_of_ble_eq_true rfl, Nat.le_of_ble_eq_true rfl⟩, hts (.static yX5_put) (by decide +kernel), trivial⟩ hP hD hS hA hK hN [1] [0, 2, 3] [0, 3, 1, 2] rfl (by decide) rfl (by decide) (by decide) (by decide) rfl [0, 1] rfl rfl hl.1 rfl (Nat.le_of_ble_eq_true rfl) dX2_unpick_46 ⟨Nat.zero_le _, Nat.zero_le _⟩ (fun H locs hP hD hS => ?_)
        refine lv_aload_n hx hb dX2_unpick_49 rfl (lv_at hl 4 rfl) ?_
        refine va_get (D := (dC, dI)) (ci := 2) (v := .ref a1) (C := RX2) (T := TX2) (N := 5) hx hb hts hiX2 hown hK hP 0 rfl rfl 1 (by decide) fl15 (fun _ h9 => h9) rfl dX2_unpick_50 ?_
        refine lv_iload_n hx hb dX2_unpick_53 rfl (lv_at hl 2 rfl) ?_
        refine lv_aload_n hx hb dX2_unpick_54 rfl (lv_at hl 4 rfl) ?_
        refine va_get (D := (dC, dI)) (ci := 2) (v := .ref a1) (C := RX2) (T := TX2) (N := 5) hx hb hts hiX2 hown hK hP 0 rfl rfl 1 (by decide) fl15 (fun _ h9 => h9) rfl dX2_unpick_55 ?_
        refine lv_iload hx hb dX2_unpick_58 (lv_at hl 0 rfl) ?_
        refine kx_cSN (As := [.ref a1, .int (nI j14)]) (rest := [.int (nI lf), .ref a1]) ⟨hx, hb, hml, hown, hts⟩ (c_X5_at l dC dI cyI cyZ a1 gt 24 (nI j14) (by omega) _ rfl) ⟨va_cnB 2 hts gX2_unpick_X5_at_n35 rfl rfl rfl (hN (RX2, 35, yX5_at, RX5) (List.mem_of_getElem? (i := 12) rfl)) (hts (.initialized RX5) (by decide +kernel)) (by decide +kernel) ⟨Nat.le_of_ble_eq_true rfl, Nat.le_of_ble_eq_true rfl⟩, hts (.static yX5_at) (by decide +kernel), trivial⟩ hP hK hN [2] rfl [0, 1] rfl rfl hl.1 rfl (Nat.le_of_ble_eq_true rfl) dX2_unpick_60 ⟨Nat.zero_le _, Nat.zero_le _⟩ ?_
        generalize hq63 : fX5_put gt 24 (nI lf) (fX5_at gt 24 (nI j14)) = q63 at hz14
        try dsimp only at hz14
        refine kx_wSNv (As := [.ref a1, .int (nI lf), .int (fX5_at gt 24 (nI j14))]) (rest := []) (wr := [(h, .inr (2, [.ref a0, .ref a1, .ref a2, .int (nI n), .int ea])), (a0, .inl (cyI, 24, .inl q46)), (a2, .inl (cyI, 24, .inl ga))]) (wc' := [(a1, .inl (cyI, 24, .inl q63))]) (W1 := [(h, .inr (2, [.ref a0, .ref a1, .ref a2, .int (nI n), .int ea])), (a0, .inl (cyI, 24, .inl q46)), (a1, .inl (cyI, 24, .inl q63)), (a2, .inl (cyI, 24, .inl ga))]) ⟨hx, hb, hml, hown, hts⟩ (c_X5_put l dC dI cyI cyZ a1 gt 24 (nI lf) (fX5_at gt 24 (nI j14)) (by omega) _ _ hq63) ⟨va_cnB 3 hts gX2_unpick_X5_put_n39 rfl rfl rfl (hN (RX2, 39, yX5_put, RX5) (List.mem_of_getElem? (i := 7) rfl)) (hts (.initialized RX5) (by decide +kernel)) (by decide +kernel) ⟨Nat.le_of_ble_eq_true rfl, Nat.le_of_ble_eq_true rfl⟩, hts (.static yX5_put) (by decide +kernel), trivial⟩ hP hD hS hA hK hN [2] [0, 1, 3] [0, 1, 3, 2] rfl (by decide) rfl (by decide) (by decide) (by decide) rfl [0, 1] rfl rfl hl.1 rfl (Nat.le_of_ble_eq_true rfl) dX2_unpick_63 ⟨Nat.zero_le _, Nat.zero_le _⟩ (fun H locs hP hD hS => ?_)
        refine lv_aload_n hx hb dX2_unpick_66 rfl (lv_at hl 4 rfl) ?_
        refine va_get (D := (dC, dI)) (ci := 2) (v := .ref a2) (C := RX2) (T := TX2) (N := 5) hx hb hts hiX2 hown hK hP 0 rfl rfl 2 (by decide) fl18 (fun _ h9 => h9) rfl dX2_unpick_67 ?_
        refine lv_iload_n hx hb dX2_unpick_70 rfl (lv_at hl 2 rfl) ?_
        refine lv_aload_n hx hb dX2_unpick_71 rfl (lv_at hl 4 rfl) ?_
        refine va_get (D := (dC, dI)) (ci := 2) (v := .ref a2) (C := RX2) (T := TX2) (N := 5) hx hb hts hiX2 hown hK hP 0 rfl rfl 2 (by decide) fl18 (fun _ h9 => h9) rfl dX2_unpick_72 ?_
        refine lv_iload hx hb dX2_unpick_75 (lv_at hl 0 rfl) ?_
        refine kx_cSN (As := [.ref a2, .int (nI j14)]) (rest := [.int (nI lf), .ref a2]) ⟨hx, hb, hml, hown, hts⟩ (c_X5_at l dC dI cyI cyZ a2 ga 24 (nI j14) (by omega) _ rfl) ⟨va_cnB 2 hts gX2_unpick_X5_at_n35 rfl rfl rfl (hN (RX2, 35, yX5_at, RX5) (List.mem_of_getElem? (i := 12) rfl)) (hts (.initialized RX5) (by decide +kernel)) (by decide +kernel) ⟨Nat.le_of_ble_eq_true rfl, Nat.le_of_ble_eq_true rfl⟩, hts (.static yX5_at) (by decide +kernel), trivial⟩ hP hK hN [3] rfl [0, 1] rfl rfl hl.1 rfl (Nat.le_of_ble_eq_true rfl) dX2_unpick_77 ⟨Nat.zero_le _, Nat.zero_le _⟩ ?_
        refine lv_iload_n hx hb dX2_unpick_80 rfl (lv_at hl 3 rfl) ?_
        refine kx_cS (As := [.int (fX5_at ga 24 (nI j14)), .int (fX2_undoneWith n an ks)]) (rest := [.int (nI lf), .ref a2]) ⟨hx, hb, hml, hown, hts⟩ (c_X2_closedUp l dC dI cyI cyZ  (fX5_at ga 24 (nI j14)) (fX2_undoneWith n an ks)  _ rfl) (va_cwS 2 hts gX2_unpick_X2_closedUp rfl rfl rfl (by decide +kernel) ⟨Nat.le_of_ble_eq_true rfl, Nat.le_of_ble_eq_true rfl⟩) hP hK hN [] rfl [0, 1] rfl rfl hl.1 rfl (Nat.le_of_ble_eq_true rfl) dX2_unpick_81 ⟨Nat.zero_le _, Nat.zero_le _⟩ ?_
        generalize hq84 : fX5_put ga 24 (nI lf) (fX2_closedUp (fX5_at ga 24 (nI j14)) (fX2_undoneWith n an ks)) = q84 at hz14
        try dsimp only at hz14
        refine kx_wSNv (As := [.ref a2, .int (nI lf), .int (fX2_closedUp (fX5_at ga 24 (nI j14)) (fX2_undoneWith n an ks))]) (rest := []) (wr := [(h, .inr (2, [.ref a0, .ref a1, .ref a2, .int (nI n), .int ea])), (a0, .inl (cyI, 24, .inl q46)), (a1, .inl (cyI, 24, .inl q63))]) (wc' := [(a2, .inl (cyI, 24, .inl q84))]) (W1 := [(h, .inr (2, [.ref a0, .ref a1, .ref a2, .int (nI n), .int ea])), (a0, .inl (cyI, 24, .inl q46)), (a1, .inl (cyI, 24, .inl q63)), (a2, .inl (cyI, 24, .inl q84))]) ⟨hx, hb, hml, hown, hts⟩ (c_X5_put l dC dI cyI cyZ a2 ga 24 (nI lf) (fX2_closedUp (fX5_at ga 24 (nI j14)) (fX2_undoneWith n an ks)) (by omega) _ _ hq84) ⟨va_cnB 3 hts gX2_unpick_X5_put_n39 rfl rfl rfl (hN (RX2, 39, yX5_put, RX5) (List.mem_of_getElem? (i := 7) rfl)) (hts (.initialized RX5) (by decide +kernel)) (by decide +kernel) ⟨Nat.le_of_ble_eq_true rfl, Nat.le_of_ble_eq_true rfl⟩, hts (.static yX5_put) (by decide +kernel), trivial⟩ hP hD hS hA hK hN [3] [0, 1, 2] [0, 1, 2, 3] rfl (by decide) rfl (by decide) (by decide) (by decide) rfl [0, 1] rfl rfl hl.1 rfl (Nat.le_of_ble_eq_true rfl) dX2_unpick_84 ⟨Nat.zero_le _, Nat.zero_le _⟩ (fun H locs hP hD hS => ?_)
        refine lv_iload hx hb dX2_unpick_87 (lv_at hl 1 rfl) ?_
        refine lv_aload_n hx hb dX2_unpick_89 rfl (lv_at hl 4 rfl) ?_
        refine lv_iload hx hb dX2_unpick_90 (lv_at hl 0 rfl) ?_
        refine kx_cV (As := [.int (nI j14)]) (rest := [.int le]) ⟨hx, hb, hml, hown, hts⟩ (c_X2_isEaten l dC dI cyI cyZ h a0 a1 a2 n ea q46 q63 q84 (nI j14)  _ rfl) (cwV 1 hts gX2_unpick_X2_isEaten rfl rfl rfl (by decide +kernel) ⟨Nat.le_of_ble_eq_true rfl, Nat.le_of_ble_eq_true rfl⟩) hP hK hN [0, 1, 2, 3] rfl [0, 1] rfl 2 0 rfl rfl rfl rfl hl.1 rfl (Nat.le_of_ble_eq_true rfl) dX2_unpick_92 ⟨Nat.zero_le _, Nat.zero_le _⟩ ?_
        refine lv_if_eq (tgt := 104) hx hb dX2_unpick_95 (by decide) (fun c95 => ?_) (fun c95 => ?_)
        · rw [if_pos c95] at hz14
          refine lv_iconst (v := (0 : Int32)) hx hb dX2_unpick_104 (by decide) ?_
          refine lv_ior hx hb dX2_unpick_105 ?_
          refine lv_istore (lv' := [(4, .int (le ||| (0 : Int32))), (5, .int (nI j14)), (3, .int (nI lf)), (2, .int (fX2_undoneWith n an ks)), (0, .ref h), (1, .int (nI ks))]) hx hb dX2_unpick_106 hl (by decide) rfl (fun ls hl => ?_)
          refine lv_iinc (v := (nI (lf + 1))) (lv' := [(3, .int (nI (lf + 1))), (4, .int (le ||| (0 : Int32))), (5, .int (nI j14)), (2, .int (fX2_undoneWith n an ks)), (0, .ref h), (1, .int (nI ks))]) hx hb dX2_unpick_108 hl (k := 2) rfl (by exact nI_add (lf) 1) (by decide) rfl (fun ls hl => ?_)
          refine lv_iinc (v := (nI (j14 + 1))) (lv' := [(5, .int (nI (j14 + 1))), (3, .int (nI (lf + 1))), (4, .int (le ||| (0 : Int32))), (2, .int (fX2_undoneWith n an ks)), (0, .ref h), (1, .int (nI ks))]) hx hb dX2_unpick_111 hl (k := 2) rfl (by exact nI_add (j14) 1) (by decide) rfl (fun ls hl => ?_)
          refine lv_goto (tgt := 14) hx hb dX2_unpick_114 (by decide) ?_
          exact ih (j14 + 1) (lf + 1) (le ||| (0 : Int32)) q46 q63 q84 (by omega)  hz14 _ _ hP hD hS _ (lv_sub hl [0, 2, 1, 3, 4, 5] rfl)
        · rw [if_neg c95] at hz14
          refine lv_iconst (v := (1 : Int32)) hx hb dX2_unpick_98 (by decide) ?_
          refine lv_iload_n hx hb dX2_unpick_99 rfl (lv_at hl 2 rfl) ?_
          refine lv_ishl hx hb dX2_unpick_100 ?_
          refine lv_goto (tgt := 105) hx hb dX2_unpick_101 (by decide) ?_
          refine lv_ior hx hb dX2_unpick_105 ?_
          refine lv_istore (lv' := [(4, .int (le ||| ((1 : Int32) <<< ((nI lf) &&& 31)))), (5, .int (nI j14)), (3, .int (nI lf)), (2, .int (fX2_undoneWith n an ks)), (0, .ref h), (1, .int (nI ks))]) hx hb dX2_unpick_106 hl (by decide) rfl (fun ls hl => ?_)
          refine lv_iinc (v := (nI (lf + 1))) (lv' := [(3, .int (nI (lf + 1))), (4, .int (le ||| ((1 : Int32) <<< ((nI lf) &&& 31)))), (5, .int (nI j14)), (2, .int (fX2_undoneWith n an ks)), (0, .ref h), (1, .int (nI ks))]) hx hb dX2_unpick_108 hl (k := 2) rfl (by exact nI_add (lf) 1) (by decide) rfl (fun ls hl => ?_)
          refine lv_iinc (v := (nI (j14 + 1))) (lv' := [(5, .int (nI (j14 + 1))), (3, .int (nI (lf + 1))), (4, .int (le ||| ((1 : Int32) <<< ((nI lf) &&& 31)))), (2, .int (fX2_undoneWith n an ks)), (0, .ref h), (1, .int (nI ks))]) hx hb dX2_unpick_111 hl (k := 2) rfl (by exact nI_add (j14) 1) (by decide) rfl (fun ls hl => ?_)
          refine lv_goto (tgt := 14) hx hb dX2_unpick_114 (by decide) ?_
          exact ih (j14 + 1) (lf + 1) (le ||| ((1 : Int32) <<< ((nI lf) &&& 31))) q46 q63 q84 (by omega)  hz14 _ _ hP hD hS _ (lv_sub hl [0, 2, 1, 3, 4, 5] rfl)
  exact LP14 n 0 0 (0 : Int32) co ti an (by omega)  hz14 _ _ hP hD hS _ (lv_sub hl [0, 1, 2, 3, 4, 5] rfl)

def fX2_looseOnes_L4 (ea : Int32) (an : Nat → Int32) : Nat → Nat → Int32 → Int32
  | 0, _, lo => lo
  | r4 + 1, j4, lo => (if (fX5_isIn (ea ||| lo) (fX5_at an 24 (nI j4))) = 0 then (fX2_looseOnes_L4 ea an r4 (j4 + 1) lo) else (fX2_looseOnes_L4 ea an r4 (j4 + 1) (lo ||| ((1 : Int32) <<< ((nI j4) &&& 31)))))
def fX2_looseOnes (n : Nat) (ea : Int32) (an : Nat → Int32) : Int32 :=
  ((fun (lo : Int32) => lo) (fX2_looseOnes_L4 ea an n 0 (0 : Int32)))
set_option maxHeartbeats 4000000 in
set_option maxRecDepth 100000 in
theorem c_X2_looseOnes (l : Launch) (dC : Nat → ClassId) (dI : Nat → Nat → Nat) (cyI cyZ : ClassId) (h a0 a1 a2 : Nat) (n : Nat) (ea : Int32) (co : Nat → Int32) (ti : Nat → Int32) (an : Nat → Int32) (hn : n ≤ 1000) (r : Int32) (hF : fX2_looseOnes n ea an = r) : Met l yX2_looseOnes wsX2_looseOnes ({ frames := 1, cells := 0, slots := 0, locals := 21 }) (kx_rp (dC, dI) [(h, .inr (2, [.ref a0, .ref a1, .ref a2, .int (nI n), .int ea])), (a0, .inl (cyI, 24, .inl co)), (a1, .inl (cyI, 24, .inl ti)), (a2, .inl (cyI, 24, .inl an))] [(cyI, .int), (cyZ, .boolean)] [.ref h]) (k2_QcV (.int r)) 0 0 (fun _ => False) := by
  refine Met.ofW (cc := cX2_looseOnes) (maxL := 3) (ret := (some .int)) (by decide) rfl ?_
  intro p e s m args below meth c s₁ B hml hv
  obtain ⟨rfl, hP, hK, hN⟩ := hv
  have hx := B.exec
  have hb := B.bytes
  have hr := B.returns
  have hts := atoms_spec (ws := wsX2_looseOnes) B.pre
  have hown : s.vm.findClass RX2 = some m.cls := findClass_of_methodNamed B.named
  have hlocks := B.notSynchronized
  have hiX2 : ∀ w ∈ wsX20, w ∈ wsX2_looseOnes := by decide +kernel
  have fl18 := hts (.fieldLink RX2 18 "KnitChronicle$Scarf" "anchors" "[I") (by decide +kernel)
  have fl21 := hts (.fieldLink RX2 21 "KnitChronicle$Scarf" "size" "I") (by decide +kernel)
  have fl29 := hts (.fieldLink RX2 29 "KnitChronicle$Scarf" "eaten" "I") (by decide +kernel)
  have hl := lv_entry ([.ref h]) (n := 3) (Nat.le_of_ble_eq_true rfl)
  rw [lg_entry_eq]
  generalize (lg_sl ([.ref h]) ++ List.replicate (3 - (lg_sl ([.ref h])).length) Slot.unset).toArray = ls at hl ⊢
  have hl : lv_has ls 3 [(0, .ref h)] := hl
  unfold fX2_looseOnes at hF
  refine lv_iconst (v := (0 : Int32)) hx hb dX2_looseOnes_0 (by decide) ?_
  refine lv_istore_n (lv' := [(1, .int (0 : Int32)), (0, .ref h)]) hx hb dX2_looseOnes_1 rfl hl (by decide) rfl (fun ls hl => ?_)
  refine lv_iconst (v := (0 : Int32)) hx hb dX2_looseOnes_2 (by decide) ?_
  refine lv_istore_n (lv' := [(2, .int (0 : Int32)), (1, .int (0 : Int32)), (0, .ref h)]) hx hb dX2_looseOnes_3 rfl hl (by decide) rfl (fun ls hl => ?_)
  generalize hz4 : fX2_looseOnes_L4 ea an n 0 (0 : Int32) = z4 at hF
  have LP4 : ∀ (r4 : Nat) (j4 : Nat) (lo : Int32), r4 + j4 = n → fX2_looseOnes_L4 ea an r4 j4 lo = z4 → ∀ (ls : Array Slot), lv_has ls 3 [(2, .int (nI j4)), (1, .int lo), (0, .ref h)] → W p l e (headSpec wsX2_looseOnes ({ frames := 1, cells := 0, slots := 0, locals := 21 } : Room)).room s m ([.ref h] : List Value).toArray below meth c s.heap [] 0 0 (MQ below (k2_QcV (.int r)) ([.ref h] : List Value).toArray s 0 0 (fun _ => False)) (F0 m 4 ls []) := by
    intro r4
    induction r4 with
    | zero =>
      intro j4 lo hrj hz4 ls hl
      rw [fX2_looseOnes_L4] at hz4
      subst hz4
      try dsimp only at hF
      refine lv_iload_n hx hb dX2_looseOnes_4 rfl (lv_at hl 0 rfl) ?_
      refine lv_aload_n hx hb dX2_looseOnes_5 rfl (lv_at hl 2 rfl) ?_
      refine va_get (D := (dC, dI)) (ci := 2) (v := .int (nI n)) (C := RX2) (T := TX2) (N := 5) hx hb hts hiX2 hown hK hP 0 rfl rfl 3 (by decide) fl21 (fun _ h9 => h9) rfl dX2_looseOnes_6 ?_
      refine kx_ge hx hb (j4) (n) rfl rfl (by omega) (by omega) dX2_looseOnes_9 (by decide) (tgt := 44) (fun c9 => ?_) (fun c9 => absurd c9 (by omega))
      refine lv_iload_n hx hb dX2_looseOnes_44 rfl (lv_at hl 1 rfl) ?_
      exact W.iret hx hb hr (fun t ht _ => ⟨congrArg (fun z => Outcome.returned (some (Value.int z))) hF, ht⟩) (fun _ h => absurd h List.not_mem_nil) dX2_looseOnes_45
    | succ r4 ih =>
      intro j4 lo hrj hz4 ls hl
      rw [fX2_looseOnes_L4] at hz4
      refine lv_iload_n hx hb dX2_looseOnes_4 rfl (lv_at hl 0 rfl) ?_
      refine lv_aload_n hx hb dX2_looseOnes_5 rfl (lv_at hl 2 rfl) ?_
      refine va_get (D := (dC, dI)) (ci := 2) (v := .int (nI n)) (C := RX2) (T := TX2) (N := 5) hx hb hts hiX2 hown hK hP 0 rfl rfl 3 (by decide) fl21 (fun _ h9 => h9) rfl dX2_looseOnes_6 ?_
      refine kx_ge hx hb (j4) (n) rfl rfl (by omega) (by omega) dX2_looseOnes_9 (by decide) (tgt := 44) (fun c9 => absurd c9 (by omega)) (fun c9 => ?_)
      refine lv_aload_n hx hb dX2_looseOnes_12 rfl (lv_at hl 2 rfl) ?_
      refine va_get (D := (dC, dI)) (ci := 2) (v := .int ea) (C := RX2) (T := TX2) (N := 5) hx hb hts hiX2 hown hK hP 0 rfl rfl 4 (by decide) fl29 (fun _ h9 => h9) rfl dX2_looseOnes_13 ?_
      refine lv_iload_n hx hb dX2_looseOnes_16 rfl (lv_at hl 1 rfl) ?_
      refine lv_ior hx hb dX2_looseOnes_17 ?_
      refine lv_aload_n hx hb dX2_looseOnes_18 rfl (lv_at hl 2 rfl) ?_
      refine va_get (D := (dC, dI)) (ci := 2) (v := .ref a2) (C := RX2) (T := TX2) (N := 5) hx hb hts hiX2 hown hK hP 0 rfl rfl 2 (by decide) fl18 (fun _ h9 => h9) rfl dX2_looseOnes_19 ?_
      refine lv_iload_n hx hb dX2_looseOnes_22 rfl (lv_at hl 0 rfl) ?_
      refine kx_cSN (As := [.ref a2, .int (nI j4)]) (rest := [.int (ea ||| lo)]) ⟨hx, hb, hml, hown, hts⟩ (c_X5_at l dC dI cyI cyZ a2 an 24 (nI j4) (by omega) _ rfl) ⟨va_cnB 2 hts gX2_looseOnes_X5_at_n35 rfl rfl rfl (hN (RX2, 35, yX5_at, RX5) (List.mem_of_getElem? (i := 12) rfl)) (hts (.initialized RX5) (by decide +kernel)) (by decide +kernel) ⟨Nat.le_of_ble_eq_true rfl, Nat.le_of_ble_eq_true rfl⟩, hts (.static yX5_at) (by decide +kernel), trivial⟩ hP hK hN [3] rfl [0, 1] rfl rfl hl.1 rfl (Nat.le_of_ble_eq_true rfl) dX2_looseOnes_23 ⟨Nat.zero_le _, Nat.zero_le _⟩ ?_
      refine kx_cSN (As := [.int (ea ||| lo), .int (fX5_at an 24 (nI j4))]) (rest := []) ⟨hx, hb, hml, hown, hts⟩ (c_X5_isIn l dC dI cyI cyZ  (ea ||| lo) (fX5_at an 24 (nI j4))  _ rfl) ⟨va_cnB 2 hts gX2_looseOnes_X5_isIn_n32 rfl rfl rfl (hN (RX2, 32, yX5_isIn, RX5) (List.mem_of_getElem? (i := 13) rfl)) (hts (.initialized RX5) (by decide +kernel)) (by decide +kernel) ⟨Nat.le_of_ble_eq_true rfl, Nat.le_of_ble_eq_true rfl⟩, hts (.static yX5_isIn) (by decide +kernel), trivial⟩ hP hK hN [] rfl [0, 1] rfl rfl hl.1 rfl (Nat.le_of_ble_eq_true rfl) dX2_looseOnes_26 ⟨Nat.zero_le _, Nat.zero_le _⟩ ?_
      refine lv_if_eq (tgt := 38) hx hb dX2_looseOnes_29 (by decide) (fun c29 => ?_) (fun c29 => ?_)
      · rw [if_pos c29] at hz4
        refine lv_iinc (v := (nI (j4 + 1))) (lv' := [(2, .int (nI (j4 + 1))), (1, .int lo), (0, .ref h)]) hx hb dX2_looseOnes_38 hl (k := 0) rfl (by exact nI_add (j4) 1) (by decide) rfl (fun ls hl => ?_)
        refine lv_goto (tgt := 4) hx hb dX2_looseOnes_41 (by decide) ?_
        exact ih (j4 + 1) lo (by omega)  hz4 _ (lv_sub hl [0, 1, 2] rfl)
      · rw [if_neg c29] at hz4
        refine lv_iload_n hx hb dX2_looseOnes_32 rfl (lv_at hl 1 rfl) ?_
        refine lv_iconst (v := (1 : Int32)) hx hb dX2_looseOnes_33 (by decide) ?_
        refine lv_iload_n hx hb dX2_looseOnes_34 rfl (lv_at hl 0 rfl) ?_
        refine lv_ishl hx hb dX2_looseOnes_35 ?_
        refine lv_ior hx hb dX2_looseOnes_36 ?_
        refine lv_istore_n (lv' := [(1, .int (lo ||| ((1 : Int32) <<< ((nI j4) &&& 31)))), (2, .int (nI j4)), (0, .ref h)]) hx hb dX2_looseOnes_37 rfl hl (by decide) rfl (fun ls hl => ?_)
        refine lv_iinc (v := (nI (j4 + 1))) (lv' := [(2, .int (nI (j4 + 1))), (1, .int (lo ||| ((1 : Int32) <<< ((nI j4) &&& 31)))), (0, .ref h)]) hx hb dX2_looseOnes_38 hl (k := 1) rfl (by exact nI_add (j4) 1) (by decide) rfl (fun ls hl => ?_)
        refine lv_goto (tgt := 4) hx hb dX2_looseOnes_41 (by decide) ?_
        exact ih (j4 + 1) (lo ||| ((1 : Int32) <<< ((nI j4) &&& 31))) (by omega)  hz4 _ (lv_sub hl [0, 1, 2] rfl)
  exact LP4 n 0 (0 : Int32) (by omega)  hz4 _ (lv_sub hl [0, 1, 2] rfl)

def fX2_withAnchors_L9 (an : Nat → Int32) : Nat → Int32 → Int32
  | 0, al => al
  | j9 + 1, al => (if (fX5_isIn al (nI j9)) = 0 then (fX2_withAnchors_L9 an j9 al) else (if (fX5_at an 24 (nI j9)) = (-1 : Int32) then (fX2_withAnchors_L9 an j9 al) else (fX2_withAnchors_L9 an j9 (al ||| ((1 : Int32) <<< ((fX5_at an 24 (nI j9)) &&& 31))))))
def fX2_withAnchors (n : Nat) (an : Nat → Int32) (se : Int32) : Int32 :=
  ((fun (al : Int32) => al) (fX2_withAnchors_L9 an n se))
set_option maxHeartbeats 4000000 in
set_option maxRecDepth 100000 in
theorem c_X2_withAnchors (l : Launch) (dC : Nat → ClassId) (dI : Nat → Nat → Nat) (cyI cyZ : ClassId) (h a0 a1 a2 : Nat) (n : Nat) (ea : Int32) (co : Nat → Int32) (ti : Nat → Int32) (an : Nat → Int32) (se : Int32) (hn : n ≤ 1000) (r : Int32) (hF : fX2_withAnchors n an se = r) : Met l yX2_withAnchors wsX2_withAnchors ({ frames := 1, cells := 0, slots := 0, locals := 21 }) (kx_rp (dC, dI) [(h, .inr (2, [.ref a0, .ref a1, .ref a2, .int (nI n), .int ea])), (a0, .inl (cyI, 24, .inl co)), (a1, .inl (cyI, 24, .inl ti)), (a2, .inl (cyI, 24, .inl an))] [(cyI, .int), (cyZ, .boolean)] [.ref h, .int se]) (k2_QcV (.int r)) 0 0 (fun _ => False) := by
  refine Met.ofW (cc := cX2_withAnchors) (maxL := 5) (ret := (some .int)) (by decide) rfl ?_
  intro p e s m args below meth c s₁ B hml hv
  obtain ⟨rfl, hP, hK, hN⟩ := hv
  have hx := B.exec
  have hb := B.bytes
  have hr := B.returns
  have hts := atoms_spec (ws := wsX2_withAnchors) B.pre
  have hown : s.vm.findClass RX2 = some m.cls := findClass_of_methodNamed B.named
  have hlocks := B.notSynchronized
  have hiX2 : ∀ w ∈ wsX20, w ∈ wsX2_withAnchors := by decide +kernel
  have fl18 := hts (.fieldLink RX2 18 "KnitChronicle$Scarf" "anchors" "[I") (by decide +kernel)
  have fl21 := hts (.fieldLink RX2 21 "KnitChronicle$Scarf" "size" "I") (by decide +kernel)
  have hl := lv_entry ([.ref h, .int se]) (n := 5) (Nat.le_of_ble_eq_true rfl)
  rw [lg_entry_eq]
  generalize (lg_sl ([.ref h, .int se]) ++ List.replicate (5 - (lg_sl ([.ref h, .int se])).length) Slot.unset).toArray = ls at hl ⊢
  have hl : lv_has ls 5 [(0, .ref h), (1, .int se)] := hl
  unfold fX2_withAnchors at hF
  refine lv_iload_n hx hb dX2_withAnchors_0 rfl (lv_at hl 1 rfl) ?_
  refine lv_istore_n (lv' := [(2, .int se), (0, .ref h), (1, .int se)]) hx hb dX2_withAnchors_1 rfl hl (by decide) rfl (fun ls hl => ?_)
  refine lv_aload_n hx hb dX2_withAnchors_2 rfl (lv_at hl 1 rfl) ?_
  refine va_get (D := (dC, dI)) (ci := 2) (v := .int (nI n)) (C := RX2) (T := TX2) (N := 5) hx hb hts hiX2 hown hK hP 0 rfl rfl 3 (by decide) fl21 (fun _ h9 => h9) rfl dX2_withAnchors_3 ?_
  refine lv_iconst (v := (1 : Int32)) hx hb dX2_withAnchors_6 (by decide) ?_
  refine lv_isub hx hb dX2_withAnchors_7 ?_
  refine kx_e (kx_sub1 (n)) ?_
  refine lv_istore_n (lv' := [(3, .int ((nI n) + (-1))), (2, .int se), (0, .ref h), (1, .int se)]) hx hb dX2_withAnchors_8 rfl hl (by decide) rfl (fun ls hl => ?_)
  generalize hz9 : fX2_withAnchors_L9 an n se = z9 at hF
  have LP9 : ∀ (j9 : Nat) (al : Int32), j9 ≤ n → fX2_withAnchors_L9 an j9 al = z9 → ∀ (ls : Array Slot), lv_has ls 5 [(3, .int ((nI j9) + (-1))), (2, .int al), (0, .ref h), (1, .int se)] → W p l e (headSpec wsX2_withAnchors ({ frames := 1, cells := 0, slots := 0, locals := 21 } : Room)).room s m ([.ref h, .int se] : List Value).toArray below meth c s.heap [] 0 0 (MQ below (k2_QcV (.int r)) ([.ref h, .int se] : List Value).toArray s 0 0 (fun _ => False)) (F0 m 9 ls []) := by
    intro j9
    induction j9 with
    | zero =>
      intro al hrj hz9 ls hl
      rw [fX2_withAnchors_L9] at hz9
      subst hz9
      try dsimp only at hF
      refine lv_iload_n hx hb dX2_withAnchors_9 rfl (lv_at hl 0 rfl) ?_
      refine lv_if_lt (tgt := 50) hx hb dX2_withAnchors_10 (by decide) (fun c10 => ?_) (fun c10 => absurd c10 (by decide))
      refine lv_iload_n hx hb dX2_withAnchors_50 rfl (lv_at hl 1 rfl) ?_
      exact W.iret hx hb hr (fun t ht _ => ⟨congrArg (fun z => Outcome.returned (some (Value.int z))) hF, ht⟩) (fun _ h => absurd h List.not_mem_nil) dX2_withAnchors_51
    | succ j9 ih =>
      intro al hrj hz9 ls hl
      rw [pk_m1] at hl
      rw [fX2_withAnchors_L9] at hz9
      refine lv_iload_n hx hb dX2_withAnchors_9 rfl (lv_at hl 0 rfl) ?_
      refine lv_if_lt (tgt := 50) hx hb dX2_withAnchors_10 (by decide) (fun c10 => absurd c10 (nI_pos (by omega))) (fun c10 => ?_)
      refine lv_aload_n hx hb dX2_withAnchors_13 rfl (lv_at hl 2 rfl) ?_
      refine va_get (D := (dC, dI)) (ci := 2) (v := .ref a2) (C := RX2) (T := TX2) (N := 5) hx hb hts hiX2 hown hK hP 0 rfl rfl 2 (by decide) fl18 (fun _ h9 => h9) rfl dX2_withAnchors_14 ?_
      refine lv_iload_n hx hb dX2_withAnchors_17 rfl (lv_at hl 0 rfl) ?_
      refine kx_cSN (As := [.ref a2, .int (nI j9)]) (rest := []) ⟨hx, hb, hml, hown, hts⟩ (c_X5_at l dC dI cyI cyZ a2 an 24 (nI j9) (by omega) _ rfl) ⟨va_cnB 2 hts gX2_withAnchors_X5_at_n35 rfl rfl rfl (hN (RX2, 35, yX5_at, RX5) (List.mem_of_getElem? (i := 12) rfl)) (hts (.initialized RX5) (by decide +kernel)) (by decide +kernel) ⟨Nat.le_of_ble_eq_true rfl, Nat.le_of_ble_eq_true rfl⟩, hts (.static yX5_at) (by decide +kernel), trivial⟩ hP hK hN [3] rfl [0, 1] rfl rfl hl.1 rfl (Nat.le_of_ble_eq_true rfl) dX2_withAnchors_18 ⟨Nat.zero_le _, Nat.zero_le _⟩ ?_
      refine lv_istore (lv' := [(4, .int (fX5_at an 24 (nI j9))), (3, .int (nI j9)), (2, .int al), (0, .ref h), (1, .int se)]) hx hb dX2_withAnchors_21 hl (by decide) rfl (fun ls hl => ?_)
      refine lv_iload_n hx hb dX2_withAnchors_23 rfl (lv_at hl 2 rfl) ?_
      refine lv_iload_n hx hb dX2_withAnchors_24 rfl (lv_at hl 1 rfl) ?_
      refine kx_cSN (As := [.int al, .int (nI j9)]) (rest := []) ⟨hx, hb, hml, hown, hts⟩ (c_X5_isIn l dC dI cyI cyZ  al (nI j9)  _ rfl) ⟨va_cnB 2 hts gX2_withAnchors_X5_isIn_n32 rfl rfl rfl (hN (RX2, 32, yX5_isIn, RX5) (List.mem_of_getElem? (i := 13) rfl)) (hts (.initialized RX5) (by decide +kernel)) (by decide +kernel) ⟨Nat.le_of_ble_eq_true rfl, Nat.le_of_ble_eq_true rfl⟩, hts (.static yX5_isIn) (by decide +kernel), trivial⟩ hP hK hN [] rfl [0, 1] rfl rfl hl.1 rfl (Nat.le_of_ble_eq_true rfl) dX2_withAnchors_25 ⟨Nat.zero_le _, Nat.zero_le _⟩ ?_
      refine lv_if_eq (tgt := 44) hx hb dX2_withAnchors_28 (by decide) (fun c28 => ?_) (fun c28 => ?_)
      · rw [if_pos c28] at hz9
        refine lv_iinc (v := ((nI j9) + (-1))) (lv' := [(3, .int ((nI j9) + (-1))), (4, .int (fX5_at an 24 (nI j9))), (2, .int al), (0, .ref h), (1, .int se)]) hx hb dX2_withAnchors_44 hl (k := 1) rfl rfl (by decide) rfl (fun ls hl => ?_)
        refine lv_goto (tgt := 9) hx hb dX2_withAnchors_47 (by decide) ?_
        exact ih al (by omega)  hz9 _ (lv_sub hl [0, 2, 3, 4] rfl)
      · rw [if_neg c28] at hz9
        refine lv_iload hx hb dX2_withAnchors_31 (lv_at hl 0 rfl) ?_
        refine lv_iconst (v := (-1 : Int32)) hx hb dX2_withAnchors_33 (by decide) ?_
        refine lv_icmp_eq (tgt := 44) hx hb dX2_withAnchors_34 (by decide) (fun c34 => ?_) (fun c34 => ?_)
        · rw [if_pos c34] at hz9
          refine lv_iinc (v := ((nI j9) + (-1))) (lv' := [(3, .int ((nI j9) + (-1))), (4, .int (fX5_at an 24 (nI j9))), (2, .int al), (0, .ref h), (1, .int se)]) hx hb dX2_withAnchors_44 hl (k := 1) rfl rfl (by decide) rfl (fun ls hl => ?_)
          refine lv_goto (tgt := 9) hx hb dX2_withAnchors_47 (by decide) ?_
          exact ih al (by omega)  hz9 _ (lv_sub hl [0, 2, 3, 4] rfl)
        · rw [if_neg c34] at hz9
          refine lv_iload_n hx hb dX2_withAnchors_37 rfl (lv_at hl 2 rfl) ?_
          refine lv_iconst (v := (1 : Int32)) hx hb dX2_withAnchors_38 (by decide) ?_
          refine lv_iload hx hb dX2_withAnchors_39 (lv_at hl 0 rfl) ?_
          refine lv_ishl hx hb dX2_withAnchors_41 ?_
          refine lv_ior hx hb dX2_withAnchors_42 ?_
          refine lv_istore_n (lv' := [(2, .int (al ||| ((1 : Int32) <<< ((fX5_at an 24 (nI j9)) &&& 31)))), (4, .int (fX5_at an 24 (nI j9))), (3, .int (nI j9)), (0, .ref h), (1, .int se)]) hx hb dX2_withAnchors_43 rfl hl (by decide) rfl (fun ls hl => ?_)
          refine lv_iinc (v := ((nI j9) + (-1))) (lv' := [(3, .int ((nI j9) + (-1))), (2, .int (al ||| ((1 : Int32) <<< ((fX5_at an 24 (nI j9)) &&& 31)))), (4, .int (fX5_at an 24 (nI j9))), (0, .ref h), (1, .int se)]) hx hb dX2_withAnchors_44 hl (k := 2) rfl rfl (by decide) rfl (fun ls hl => ?_)
          refine lv_goto (tgt := 9) hx hb dX2_withAnchors_47 (by decide) ?_
          exact ih (al ||| ((1 : Int32) <<< ((fX5_at an 24 (nI j9)) &&& 31))) (by omega)  hz9 _ (lv_sub hl [0, 1, 3, 4] rfl)
  exact LP9 n se (by omega)  hz9 _ (lv_sub hl [0, 1, 2, 3] rfl)

def fX2_topOf_L7 (an : Nat → Int32) (un : Int32) : Nat → Nat → Nat
  | 0, tp => tp
  | j7 + 1, tp => (if (fX5_at an 24 (nI tp)) = (nI j7) then (if (fX5_isIn un (nI j7)) = 0 then (fX2_topOf_L7 an un j7 j7) else (fX2_topOf_L7 an un j7 tp)) else (fX2_topOf_L7 an un j7 tp))
def fX2_topOf (an : Nat → Int32) (ks : Nat) (un : Int32) : Nat :=
  ((fun (tp : Nat) => tp) (fX2_topOf_L7 an un ks ks))
set_option maxHeartbeats 4000000 in
set_option maxRecDepth 100000 in
theorem c_X2_topOf (l : Launch) (dC : Nat → ClassId) (dI : Nat → Nat → Nat) (cyI cyZ : ClassId) (h a0 a1 a2 : Nat) (n : Nat) (ea : Int32) (co : Nat → Int32) (ti : Nat → Int32) (an : Nat → Int32) (ks : Nat) (un : Int32) (hks : ks < 1000) (r : Nat) (hF : fX2_topOf an ks un = r) : Met l yX2_topOf wsX2_topOf ({ frames := 1, cells := 0, slots := 0, locals := 21 }) (kx_rp (dC, dI) [(h, .inr (2, [.ref a0, .ref a1, .ref a2, .int (nI n), .int ea])), (a0, .inl (cyI, 24, .inl co)), (a1, .inl (cyI, 24, .inl ti)), (a2, .inl (cyI, 24, .inl an))] [(cyI, .int), (cyZ, .boolean)] [.ref h, .int (nI ks), .int un]) (k2_QcV (.int (nI r))) 0 0 (fun _ => False) := by
  refine Met.ofW (cc := cX2_topOf) (maxL := 5) (ret := (some .int)) (by decide) rfl ?_
  intro p e s m args below meth c s₁ B hml hv
  obtain ⟨rfl, hP, hK, hN⟩ := hv
  have hx := B.exec
  have hb := B.bytes
  have hr := B.returns
  have hts := atoms_spec (ws := wsX2_topOf) B.pre
  have hown : s.vm.findClass RX2 = some m.cls := findClass_of_methodNamed B.named
  have hlocks := B.notSynchronized
  have hiX2 : ∀ w ∈ wsX20, w ∈ wsX2_topOf := by decide +kernel
  have fl18 := hts (.fieldLink RX2 18 "KnitChronicle$Scarf" "anchors" "[I") (by decide +kernel)
  have hl := lv_entry ([.ref h, .int (nI ks), .int un]) (n := 5) (Nat.le_of_ble_eq_true rfl)
  rw [lg_entry_eq]
  generalize (lg_sl ([.ref h, .int (nI ks), .int un]) ++ List.replicate (5 - (lg_sl ([.ref h, .int (nI ks), .int un])).length) Slot.unset).toArray = ls at hl ⊢
  have hl : lv_has ls 5 [(0, .ref h), (1, .int (nI ks)), (2, .int un)] := hl
  unfold fX2_topOf at hF
  refine lv_iload_n hx hb dX2_topOf_0 rfl (lv_at hl 1 rfl) ?_
  refine lv_istore_n (lv' := [(3, .int (nI ks)), (0, .ref h), (1, .int (nI ks)), (2, .int un)]) hx hb dX2_topOf_1 rfl hl (by decide) rfl (fun ls hl => ?_)
  refine lv_iload_n hx hb dX2_topOf_2 rfl (lv_at hl 2 rfl) ?_
  refine lv_iconst (v := (1 : Int32)) hx hb dX2_topOf_3 (by decide) ?_
  refine lv_isub hx hb dX2_topOf_4 ?_
  refine kx_e (kx_sub1 (ks)) ?_
  refine lv_istore (lv' := [(4, .int ((nI ks) + (-1))), (3, .int (nI ks)), (0, .ref h), (1, .int (nI ks)), (2, .int un)]) hx hb dX2_topOf_5 hl (by decide) rfl (fun ls hl => ?_)
  generalize hz7 : fX2_topOf_L7 an un ks ks = z7 at hF
  have LP7 : ∀ (j7 : Nat) (tp : Nat), j7 ≤ ks → fX2_topOf_L7 an un j7 tp = z7 → ∀ (ls : Array Slot), lv_has ls 5 [(4, .int ((nI j7) + (-1))), (3, .int (nI tp)), (0, .ref h), (1, .int (nI ks)), (2, .int un)] → W p l e (headSpec wsX2_topOf ({ frames := 1, cells := 0, slots := 0, locals := 21 } : Room)).room s m ([.ref h, .int (nI ks), .int un] : List Value).toArray below meth c s.heap [] 0 0 (MQ below (k2_QcV (.int (nI r))) ([.ref h, .int (nI ks), .int un] : List Value).toArray s 0 0 (fun _ => False)) (F0 m 7 ls []) := by
    intro j7
    induction j7 with
    | zero =>
      intro tp hrj hz7 ls hl
      rw [fX2_topOf_L7] at hz7
      subst hz7
      try dsimp only at hF
      refine lv_iload hx hb dX2_topOf_7 (lv_at hl 0 rfl) ?_
      refine lv_if_lt (tgt := 43) hx hb dX2_topOf_9 (by decide) (fun c9 => ?_) (fun c9 => absurd c9 (by decide))
      refine lv_iload_n hx hb dX2_topOf_43 rfl (lv_at hl 1 rfl) ?_
      exact W.iret hx hb hr (fun t ht _ => ⟨congrArg (fun z => Outcome.returned (some (Value.int (nI z)))) hF, ht⟩) (fun _ h => absurd h List.not_mem_nil) dX2_topOf_44
    | succ j7 ih =>
      intro tp hrj hz7 ls hl
      rw [pk_m1] at hl
      rw [fX2_topOf_L7] at hz7
      refine lv_iload hx hb dX2_topOf_7 (lv_at hl 0 rfl) ?_
      refine lv_if_lt (tgt := 43) hx hb dX2_topOf_9 (by decide) (fun c9 => absurd c9 (nI_pos (by omega))) (fun c9 => ?_)
      refine lv_aload_n hx hb dX2_topOf_12 rfl (lv_at hl 2 rfl) ?_
      refine va_get (D := (dC, dI)) (ci := 2) (v := .ref a2) (C := RX2) (T := TX2) (N := 5) hx hb hts hiX2 hown hK hP 0 rfl rfl 2 (by decide) fl18 (fun _ h9 => h9) rfl dX2_topOf_13 ?_
      refine lv_iload_n hx hb dX2_topOf_16 rfl (lv_at hl 1 rfl) ?_
      refine kx_cSN (As := [.ref a2, .int (nI tp)]) (rest := []) ⟨hx, hb, hml, hown, hts⟩ (c_X5_at l dC dI cyI cyZ a2 an 24 (nI tp) (by omega) _ rfl) ⟨va_cnB 2 hts gX2_topOf_X5_at_n35 rfl rfl rfl (hN (RX2, 35, yX5_at, RX5) (List.mem_of_getElem? (i := 12) rfl)) (hts (.initialized RX5) (by decide +kernel)) (by decide +kernel) ⟨Nat.le_of_ble_eq_true rfl, Nat.le_of_ble_eq_true rfl⟩, hts (.static yX5_at) (by decide +kernel), trivial⟩ hP hK hN [3] rfl [0, 1] rfl rfl hl.1 rfl (Nat.le_of_ble_eq_true rfl) dX2_topOf_17 ⟨Nat.zero_le _, Nat.zero_le _⟩ ?_
      refine lv_iload hx hb dX2_topOf_20 (lv_at hl 0 rfl) ?_
      refine lv_icmp_ne (tgt := 37) hx hb dX2_topOf_22 (by decide) (fun c22 => ?_) (fun c22 => ?_)
      · rw [if_neg c22] at hz7
        refine lv_iinc (v := ((nI j7) + (-1))) (lv' := [(4, .int ((nI j7) + (-1))), (3, .int (nI tp)), (0, .ref h), (1, .int (nI ks)), (2, .int un)]) hx hb dX2_topOf_37 hl (k := 0) rfl rfl (by decide) rfl (fun ls hl => ?_)
        refine lv_goto (tgt := 7) hx hb dX2_topOf_40 (by decide) ?_
        exact ih tp (by omega)  hz7 _ (lv_sub hl [0, 1, 2, 3, 4] rfl)
      · rw [if_pos c22] at hz7
        refine lv_iload_n hx hb dX2_topOf_25 rfl (lv_at hl 4 rfl) ?_
        refine lv_iload hx hb dX2_topOf_26 (lv_at hl 0 rfl) ?_
        refine kx_cSN (As := [.int un, .int (nI j7)]) (rest := []) ⟨hx, hb, hml, hown, hts⟩ (c_X5_isIn l dC dI cyI cyZ  un (nI j7)  _ rfl) ⟨va_cnB 2 hts gX2_topOf_X5_isIn_n32 rfl rfl rfl (hN (RX2, 32, yX5_isIn, RX5) (List.mem_of_getElem? (i := 13) rfl)) (hts (.initialized RX5) (by decide +kernel)) (by decide +kernel) ⟨Nat.le_of_ble_eq_true rfl, Nat.le_of_ble_eq_true rfl⟩, hts (.static yX5_isIn) (by decide +kernel), trivial⟩ hP hK hN [] rfl [0, 1] rfl rfl hl.1 rfl (Nat.le_of_ble_eq_true rfl) dX2_topOf_28 ⟨Nat.zero_le _, Nat.zero_le _⟩ ?_
        refine lv_if_ne (tgt := 37) hx hb dX2_topOf_31 (by decide) (fun c31 => ?_) (fun c31 => ?_)
        · rw [if_neg c31] at hz7
          refine lv_iinc (v := ((nI j7) + (-1))) (lv' := [(4, .int ((nI j7) + (-1))), (3, .int (nI tp)), (0, .ref h), (1, .int (nI ks)), (2, .int un)]) hx hb dX2_topOf_37 hl (k := 0) rfl rfl (by decide) rfl (fun ls hl => ?_)
          refine lv_goto (tgt := 7) hx hb dX2_topOf_40 (by decide) ?_
          exact ih tp (by omega)  hz7 _ (lv_sub hl [0, 1, 2, 3, 4] rfl)
        · rw [if_pos c31] at hz7
          refine lv_iload hx hb dX2_topOf_34 (lv_at hl 0 rfl) ?_
          refine lv_istore_n (lv' := [(3, .int (nI j7)), (4, .int (nI j7)), (0, .ref h), (1, .int (nI ks)), (2, .int un)]) hx hb dX2_topOf_36 rfl hl (by decide) rfl (fun ls hl => ?_)
          refine lv_iinc (v := ((nI j7) + (-1))) (lv' := [(4, .int ((nI j7) + (-1))), (3, .int (nI j7)), (0, .ref h), (1, .int (nI ks)), (2, .int un)]) hx hb dX2_topOf_37 hl (k := 1) rfl rfl (by decide) rfl (fun ls hl => ?_)
          refine lv_goto (tgt := 7) hx hb dX2_topOf_40 (by decide) ?_
          exact ih j7 (by omega)  hz7 _ (lv_sub hl [0, 1, 2, 3, 4] rfl)
  exact LP7 ks ks (by omega)  hz7 _ (lv_sub hl [0, 1, 2, 3, 4] rfl)

def fX2_topmostBelow_L5 (an : Nat → Int32) (se : Int32) (un : Int32) : Nat → Nat → Int32 → Int32
  | 0, _, tq => tq
  | r5 + 1, j5, tq => (if (fX5_isIn se (nI j5)) = 0 then (fX2_topmostBelow_L5 an se un r5 (j5 + 1) tq) else (fX2_topmostBelow_L5 an se un r5 (j5 + 1) (tq ||| ((1 : Int32) <<< ((nI ((fX2_topOf an j5 un))) &&& 31)))))
def fX2_topmostBelow (n : Nat) (an : Nat → Int32) (se : Int32) (un : Int32) : Int32 :=
  ((fun (tq : Int32) => tq) (fX2_topmostBelow_L5 an se un n 0 (0 : Int32)))
set_option maxHeartbeats 4000000 in
set_option maxRecDepth 100000 in
theorem c_X2_topmostBelow (l : Launch) (dC : Nat → ClassId) (dI : Nat → Nat → Nat) (cyI cyZ : ClassId) (h a0 a1 a2 : Nat) (n : Nat) (ea : Int32) (co : Nat → Int32) (ti : Nat → Int32) (an : Nat → Int32) (se : Int32) (un : Int32) (hn : n ≤ 1000) (r : Int32) (hF : fX2_topmostBelow n an se un = r) : Met l yX2_topmostBelow wsX2_topmostBelow ({ frames := 2, cells := 0, slots := 0, locals := 45 }) (kx_rp (dC, dI) [(h, .inr (2, [.ref a0, .ref a1, .ref a2, .int (nI n), .int ea])), (a0, .inl (cyI, 24, .inl co)), (a1, .inl (cyI, 24, .inl ti)), (a2, .inl (cyI, 24, .inl an))] [(cyI, .int), (cyZ, .boolean)] [.ref h, .int se, .int un]) (k2_QcV (.int r)) 0 0 (fun _ => False) := by
  refine Met.ofW (cc := cX2_topmostBelow) (maxL := 5) (ret := (some .int)) (by decide) rfl ?_
  intro p e s m args below meth c s₁ B hml hv
  obtain ⟨rfl, hP, hK, hN⟩ := hv
  have hx := B.exec
  have hb := B.bytes
  have hr := B.returns
  have hts := atoms_spec (ws := wsX2_topmostBelow) B.pre
  have hown : s.vm.findClass RX2 = some m.cls := findClass_of_methodNamed B.named
  have hlocks := B.notSynchronized
  have hiX2 : ∀ w ∈ wsX20, w ∈ wsX2_topmostBelow := by decide +kernel
  have fl21 := hts (.fieldLink RX2 21 "KnitChronicle$Scarf" "size" "I") (by decide +kernel)
  have hl := lv_entry ([.ref h, .int se, .int un]) (n := 5) (Nat.le_of_ble_eq_true rfl)
  rw [lg_entry_eq]
  generalize (lg_sl ([.ref h, .int se, .int un]) ++ List.replicate (5 - (lg_sl ([.ref h, .int se, .int un])).length) Slot.unset).toArray = ls at hl ⊢
  have hl : lv_has ls 5 [(0, .ref h), (1, .int se), (2, .int un)] := hl
  unfold fX2_topmostBelow at hF
  refine lv_iconst (v := (0 : Int32)) hx hb dX2_topmostBelow_0 (by decide) ?_
  refine lv_istore_n (lv' := [(3, .int (0 : Int32)), (0, .ref h), (1, .int se), (2, .int un)]) hx hb dX2_topmostBelow_1 rfl hl (by decide) rfl (fun ls hl => ?_)
  refine lv_iconst (v := (0 : Int32)) hx hb dX2_topmostBelow_2 (by decide) ?_
  refine lv_istore (lv' := [(4, .int (0 : Int32)), (3, .int (0 : Int32)), (0, .ref h), (1, .int se), (2, .int un)]) hx hb dX2_topmostBelow_3 hl (by decide) rfl (fun ls hl => ?_)
  generalize hz5 : fX2_topmostBelow_L5 an se un n 0 (0 : Int32) = z5 at hF
  have LP5 : ∀ (r5 : Nat) (j5 : Nat) (tq : Int32), r5 + j5 = n → fX2_topmostBelow_L5 an se un r5 j5 tq = z5 → ∀ (ls : Array Slot), lv_has ls 5 [(4, .int (nI j5)), (3, .int tq), (0, .ref h), (1, .int se), (2, .int un)] → W p l e (headSpec wsX2_topmostBelow ({ frames := 2, cells := 0, slots := 0, locals := 45 } : Room)).room s m ([.ref h, .int se, .int un] : List Value).toArray below meth c s.heap [] 0 0 (MQ below (k2_QcV (.int r)) ([.ref h, .int se, .int un] : List Value).toArray s 0 0 (fun _ => False)) (F0 m 5 ls []) := by
    intro r5
    induction r5 with
    | zero =>
      intro j5 tq hrj hz5 ls hl
      rw [fX2_topmostBelow_L5] at hz5
      subst hz5
      try dsimp only at hF
      refine lv_iload hx hb dX2_topmostBelow_5 (lv_at hl 0 rfl) ?_
      refine lv_aload_n hx hb dX2_topmostBelow_7 rfl (lv_at hl 2 rfl) ?_
      refine va_get (D := (dC, dI)) (ci := 2) (v := .int (nI n)) (C := RX2) (T := TX2) (N := 5) hx hb hts hiX2 hown hK hP 0 rfl rfl 3 (by decide) fl21 (fun _ h9 => h9) rfl dX2_topmostBelow_8 ?_
      refine kx_ge hx hb (j5) (n) rfl rfl (by omega) (by omega) dX2_topmostBelow_11 (by decide) (tgt := 41) (fun c11 => ?_) (fun c11 => absurd c11 (by omega))
      refine lv_iload_n hx hb dX2_topmostBelow_41 rfl (lv_at hl 1 rfl) ?_
      exact W.iret hx hb hr (fun t ht _ => ⟨congrArg (fun z => Outcome.returned (some (Value.int z))) hF, ht⟩) (fun _ h => absurd h List.not_mem_nil) dX2_topmostBelow_42
    | succ r5 ih =>
      intro j5 tq hrj hz5 ls hl
      rw [fX2_topmostBelow_L5] at hz5
      refine lv_iload hx hb dX2_topmostBelow_5 (lv_at hl 0 rfl) ?_
      refine lv_aload_n hx hb dX2_topmostBelow_7 rfl (lv_at hl 2 rfl) ?_
      refine va_get (D := (dC, dI)) (ci := 2) (v := .int (nI n)) (C := RX2) (T := TX2) (N := 5) hx hb hts hiX2 hown hK hP 0 rfl rfl 3 (by decide) fl21 (fun _ h9 => h9) rfl dX2_topmostBelow_8 ?_
      refine kx_ge hx hb (j5) (n) rfl rfl (by omega) (by omega) dX2_topmostBelow_11 (by decide) (tgt := 41) (fun c11 => absurd c11 (by omega)) (fun c11 => ?_)
      refine lv_iload_n hx hb dX2_topmostBelow_14 rfl (lv_at hl 3 rfl) ?_
      refine lv_iload hx hb dX2_topmostBelow_15 (lv_at hl 0 rfl) ?_
      refine kx_cSN (As := [.int se, .int (nI j5)]) (rest := []) ⟨hx, hb, hml, hown, hts⟩ (c_X5_isIn l dC dI cyI cyZ  se (nI j5)  _ rfl) ⟨va_cnB 2 hts gX2_topmostBelow_X5_isIn_n32 rfl rfl rfl (hN (RX2, 32, yX5_isIn, RX5) (List.mem_of_getElem? (i := 13) rfl)) (hts (.initialized RX5) (by decide +kernel)) (by decide +kernel) ⟨Nat.le_of_ble_eq_true rfl, Nat.le_of_ble_eq_true rfl⟩, hts (.static yX5_isIn) (by decide +kernel), trivial⟩ hP hK hN [] rfl [0, 1] rfl rfl hl.1 rfl (Nat.le_of_ble_eq_true rfl) dX2_topmostBelow_17 ⟨Nat.zero_le _, Nat.zero_le _⟩ ?_
      refine lv_if_eq (tgt := 35) hx hb dX2_topmostBelow_20 (by decide) (fun c20 => ?_) (fun c20 => ?_)
      · rw [if_pos c20] at hz5
        refine lv_iinc (v := (nI (j5 + 1))) (lv' := [(4, .int (nI (j5 + 1))), (3, .int tq), (0, .ref h), (1, .int se), (2, .int un)]) hx hb dX2_topmostBelow_35 hl (k := 0) rfl (by exact nI_add (j5) 1) (by decide) rfl (fun ls hl => ?_)
        refine lv_goto (tgt := 5) hx hb dX2_topmostBelow_38 (by decide) ?_
        exact ih (j5 + 1) tq (by omega)  hz5 _ (lv_sub hl [0, 1, 2, 3, 4] rfl)
      · rw [if_neg c20] at hz5
        refine lv_iload_n hx hb dX2_topmostBelow_23 rfl (lv_at hl 1 rfl) ?_
        refine lv_iconst (v := (1 : Int32)) hx hb dX2_topmostBelow_24 (by decide) ?_
        refine lv_aload_n hx hb dX2_topmostBelow_25 rfl (lv_at hl 2 rfl) ?_
        refine lv_iload hx hb dX2_topmostBelow_26 (lv_at hl 0 rfl) ?_
        refine lv_iload_n hx hb dX2_topmostBelow_28 rfl (lv_at hl 4 rfl) ?_
        refine kx_cV (As := [.int (nI j5), .int un]) (rest := [.int (1 : Int32), .int tq]) ⟨hx, hb, hml, hown, hts⟩ (c_X2_topOf l dC dI cyI cyZ h a0 a1 a2 n ea co ti an j5 un (by omega) _ rfl) (cwV 2 hts gX2_topmostBelow_X2_topOf rfl rfl rfl (by decide +kernel) ⟨Nat.le_of_ble_eq_true rfl, Nat.le_of_ble_eq_true rfl⟩) hP hK hN [0, 1, 2, 3] rfl [0, 1] rfl 2 0 rfl rfl rfl rfl hl.1 rfl (Nat.le_of_ble_eq_true rfl) dX2_topmostBelow_29 ⟨Nat.zero_le _, Nat.zero_le _⟩ ?_
        refine lv_ishl hx hb dX2_topmostBelow_32 ?_
        refine lv_ior hx hb dX2_topmostBelow_33 ?_
        refine lv_istore_n (lv' := [(3, .int (tq ||| ((1 : Int32) <<< ((nI ((fX2_topOf an j5 un))) &&& 31)))), (4, .int (nI j5)), (0, .ref h), (1, .int se), (2, .int un)]) hx hb dX2_topmostBelow_34 rfl hl (by decide) rfl (fun ls hl => ?_)
        refine lv_iinc (v := (nI (j5 + 1))) (lv' := [(4, .int (nI (j5 + 1))), (3, .int (tq ||| ((1 : Int32) <<< ((nI ((fX2_topOf an j5 un))) &&& 31)))), (0, .ref h), (1, .int se), (2, .int un)]) hx hb dX2_topmostBelow_35 hl (k := 1) rfl (by exact nI_add (j5) 1) (by decide) rfl (fun ls hl => ?_)
        refine lv_goto (tgt := 5) hx hb dX2_topmostBelow_38 (by decide) ?_
        exact ih (j5 + 1) (tq ||| ((1 : Int32) <<< ((nI ((fX2_topOf an j5 un))) &&& 31))) (by omega)  hz5 _ (lv_sub hl [0, 1, 2, 3, 4] rfl)
  exact LP5 n 0 (0 : Int32) (by omega)  hz5 _ (lv_sub hl [0, 1, 2, 3, 4] rfl)

def fX2_areAlike (ea : Int32) (k1 : Int32) (k2 : Int32) (kp : Int32) : Int32 :=
  (if kp ≤ 0 then (0 : Int32) else (if ((k1 - k2) - (k1 - k2) / kp * kp) = 0 then (if (fX2_isEaten ea k1) = 0 then (if (fX2_isEaten ea k2) = 0 then (1 : Int32) else (0 : Int32)) else (0 : Int32)) else (0 : Int32)))
theorem nz_X2_areAlike (ea : Int32) (k1 : Int32) (k2 : Int32) (kp : Int32) : narrow .boolean (.int (fX2_areAlike ea k1 k2 kp)) = .int (fX2_areAlike ea k1 k2 kp) := by
  unfold fX2_areAlike
  (repeat' split) <;> first | rfl | exact nz_X2_isEaten ..
set_option maxHeartbeats 4000000 in
set_option maxRecDepth 100000 in
theorem c_X2_areAlike (l : Launch) (dC : Nat → ClassId) (dI : Nat → Nat → Nat) (cyI cyZ : ClassId) (h a0 a1 a2 : Nat) (n : Nat) (ea : Int32) (co : Nat → Int32) (ti : Nat → Int32) (an : Nat → Int32) (k1 : Int32) (k2 : Int32) (kp : Int32) (r : Int32) (hF : fX2_areAlike ea k1 k2 kp = r) : Met l yX2_areAlike wsX2_areAlike ({ frames := 2, cells := 0, slots := 0, locals := 42 }) (kx_rp (dC, dI) [(h, .inr (2, [.ref a0, .ref a1, .ref a2, .int (nI n), .int ea])), (a0, .inl (cyI, 24, .inl co)), (a1, .inl (cyI, 24, .inl ti)), (a2, .inl (cyI, 24, .inl an))] [(cyI, .int), (cyZ, .boolean)] [.ref h, .int k1, .int k2, .int kp]) (k2_QcV (.int r)) 0 0 (fun _ => False) := by
  refine Met.ofW (cc := cX2_areAlike) (maxL := 4) (ret := (some .boolean)) (by decide) rfl ?_
  intro p e s m args below meth c s₁ B hml hv
  obtain ⟨rfl, hP, hK, hN⟩ := hv
  have hx := B.exec
  have hb := B.bytes
  have hr := B.returns
  have hts := atoms_spec (ws := wsX2_areAlike) B.pre
  have hown : s.vm.findClass RX2 = some m.cls := findClass_of_methodNamed B.named
  have hlocks := B.notSynchronized
  have hl := lv_entry ([.ref h, .int k1, .int k2, .int kp]) (n := 4) (Nat.le_of_ble_eq_true rfl)
  rw [lg_entry_eq]
  generalize (lg_sl ([.ref h, .int k1, .int k2, .int kp]) ++ List.replicate (4 - (lg_sl ([.ref h, .int k1, .int k2, .int kp])).length) Slot.unset).toArray = ls at hl ⊢
  have hl : lv_has ls 4 [(0, .ref h), (1, .int k1), (2, .int k2), (3, .int kp)] := hl
  unfold fX2_areAlike at hF
  refine lv_iload_n hx hb dX2_areAlike_0 rfl (lv_at hl 3 rfl) ?_
  refine lv_if_le (tgt := 32) hx hb dX2_areAlike_1 (by decide) (fun c1 => ?_) (fun c1 => ?_)
  · rw [if_pos c1] at hF
    refine lv_iconst (v := (0 : Int32)) hx hb dX2_areAlike_32 (by decide) ?_
    exact W.zret hx hb hr rfl (fun t ht _ => ⟨congrArg (fun z => Outcome.returned (some (Value.int z))) hF, ht⟩) (fun _ h => absurd h List.not_mem_nil) dX2_areAlike_33
  · rw [if_neg c1] at hF
    refine lv_iload_n hx hb dX2_areAlike_4 rfl (lv_at hl 1 rfl) ?_
    refine lv_iload_n hx hb dX2_areAlike_5 rfl (lv_at hl 2 rfl) ?_
    refine lv_isub hx hb dX2_areAlike_6 ?_
    refine lv_iload_n hx hb dX2_areAlike_7 rfl (lv_at hl 3 rfl) ?_
    refine lv_irem hx hb dX2_areAlike_8 (fun z9 => c1 (by rw [z9]; decide)) ?_
    refine lv_if_ne (tgt := 32) hx hb dX2_areAlike_9 (by decide) (fun c9 => ?_) (fun c9 => ?_)
    · rw [if_neg c9] at hF
      refine lv_iconst (v := (0 : Int32)) hx hb dX2_areAlike_32 (by decide) ?_
      exact W.zret hx hb hr rfl (fun t ht _ => ⟨congrArg (fun z => Outcome.returned (some (Value.int z))) hF, ht⟩) (fun _ h => absurd h List.not_mem_nil) dX2_areAlike_33
    · rw [if_pos c9] at hF
      refine lv_aload_n hx hb dX2_areAlike_12 rfl (lv_at hl 0 rfl) ?_
      refine lv_iload_n hx hb dX2_areAlike_13 rfl (lv_at hl 1 rfl) ?_
      refine kx_cV (As := [.int k1]) (rest := []) ⟨hx, hb, hml, hown, hts⟩ (c_X2_isEaten l dC dI cyI cyZ h a0 a1 a2 n ea co ti an k1  _ rfl) (cwV 1 hts gX2_areAlike_X2_isEaten rfl rfl rfl (by decide +kernel) ⟨Nat.le_of_ble_eq_true rfl, Nat.le_of_ble_eq_true rfl⟩) hP hK hN [0, 1, 2, 3] rfl [0, 1] rfl 2 0 rfl rfl rfl rfl hl.1 rfl (Nat.le_of_ble_eq_true rfl) dX2_areAlike_14 ⟨Nat.zero_le _, Nat.zero_le _⟩ ?_
      refine lv_if_ne (tgt := 32) hx hb dX2_areAlike_17 (by decide) (fun c17 => ?_) (fun c17 => ?_)
      · rw [if_neg c17] at hF
        refine lv_iconst (v := (0 : Int32)) hx hb dX2_areAlike_32 (by decide) ?_
        exact W.zret hx hb hr rfl (fun t ht _ => ⟨congrArg (fun z => Outcome.returned (some (Value.int z))) hF, ht⟩) (fun _ h => absurd h List.not_mem_nil) dX2_areAlike_33
      · rw [if_pos c17] at hF
        refine lv_aload_n hx hb dX2_areAlike_20 rfl (lv_at hl 0 rfl) ?_
        refine lv_iload_n hx hb dX2_areAlike_21 rfl (lv_at hl 2 rfl) ?_
        refine kx_cV (As := [.int k2]) (rest := []) ⟨hx, hb, hml, hown, hts⟩ (c_X2_isEaten l dC dI cyI cyZ h a0 a1 a2 n ea co ti an k2  _ rfl) (cwV 1 hts gX2_areAlike_X2_isEaten rfl rfl rfl (by decide +kernel) ⟨Nat.le_of_ble_eq_true rfl, Nat.le_of_ble_eq_true rfl⟩) hP hK hN [0, 1, 2, 3] rfl [0, 1] rfl 2 0 rfl rfl rfl rfl hl.1 rfl (Nat.le_of_ble_eq_true rfl) dX2_areAlike_22 ⟨Nat.zero_le _, Nat.zero_le _⟩ ?_
        refine lv_if_ne (tgt := 32) hx hb dX2_areAlike_25 (by decide) (fun c25 => ?_) (fun c25 => ?_)
        · rw [if_neg c25] at hF
          refine lv_iconst (v := (0 : Int32)) hx hb dX2_areAlike_32 (by decide) ?_
          exact W.zret hx hb hr rfl (fun t ht _ => ⟨congrArg (fun z => Outcome.returned (some (Value.int z))) hF, ht⟩) (fun _ h => absurd h List.not_mem_nil) dX2_areAlike_33
        · rw [if_pos c25] at hF
          refine lv_iconst (v := (1 : Int32)) hx hb dX2_areAlike_28 (by decide) ?_
          refine lv_goto (tgt := 33) hx hb dX2_areAlike_29 (by decide) ?_
          exact W.zret hx hb hr rfl (fun t ht _ => ⟨congrArg (fun z => Outcome.returned (some (Value.int z))) hF, ht⟩) (fun _ h => absurd h List.not_mem_nil) dX2_areAlike_33

def fX2_repeatsBy_L14 (ea : Int32) (co : Nat → Int32) (kp : Int32) (j2 : Nat) (K : Int32) : Nat → Nat → Int32
  | 0, _ => K
  | r14 + 1, j14 => (if (fX2_areAlike ea (nI j2) (nI j14) kp) = 0 then (fX2_repeatsBy_L14 ea co kp j2 K r14 (j14 + 1)) else (if (fX5_at co 24 (nI j2)) = (fX5_at co 24 (nI j14)) then (fX2_repeatsBy_L14 ea co kp j2 K r14 (j14 + 1)) else (0 : Int32)))
def fX2_repeatsBy_L2 (n : Nat) (ea : Int32) (co : Nat → Int32) (kp : Int32) : Nat → Nat → Int32
  | 0, _ => (1 : Int32)
  | r2 + 1, j2 => (fX2_repeatsBy_L14 ea co kp j2 (fX2_repeatsBy_L2 n ea co kp r2 (j2 + 1)) (n - (j2 + 1)) (j2 + 1))
def fX2_repeatsBy (n : Nat) (ea : Int32) (co : Nat → Int32) (kp : Int32) : Int32 :=
  (fX2_repeatsBy_L2 n ea co kp n 0)
set_option maxHeartbeats 4000000 in
set_option maxRecDepth 100000 in
theorem c_X2_repeatsBy (l : Launch) (dC : Nat → ClassId) (dI : Nat → Nat → Nat) (cyI cyZ : ClassId) (h a0 a1 a2 : Nat) (n : Nat) (ea : Int32) (co : Nat → Int32) (ti : Nat → Int32) (an : Nat → Int32) (kp : Int32) (hn : n ≤ 1000) (r : Int32) (hF : fX2_repeatsBy n ea co kp = r) : Met l yX2_repeatsBy wsX2_repeatsBy ({ frames := 3, cells := 0, slots := 0, locals := 65 }) (kx_rp (dC, dI) [(h, .inr (2, [.ref a0, .ref a1, .ref a2, .int (nI n), .int ea])), (a0, .inl (cyI, 24, .inl co)), (a1, .inl (cyI, 24, .inl ti)), (a2, .inl (cyI, 24, .inl an))] [(cyI, .int), (cyZ, .boolean)] [.ref h, .int kp]) (k2_QcV (.int r)) 0 0 (fun _ => False) := by
  refine Met.ofW (cc := cX2_repeatsBy) (maxL := 4) (ret := (some .boolean)) (by decide) rfl ?_
  intro p e s m args below meth c s₁ B hml hv
  obtain ⟨rfl, hP, hK, hN⟩ := hv
  have hx := B.exec
  have hb := B.bytes
  have hr := B.returns
  have hts := atoms_spec (ws := wsX2_repeatsBy) B.pre
  have hown : s.vm.findClass RX2 = some m.cls := findClass_of_methodNamed B.named
  have hlocks := B.notSynchronized
  have hiX2 : ∀ w ∈ wsX20, w ∈ wsX2_repeatsBy := by decide +kernel
  have fl9 := hts (.fieldLink RX2 9 "KnitChronicle$Scarf" "colours" "[I") (by decide +kernel)
  have fl21 := hts (.fieldLink RX2 21 "KnitChronicle$Scarf" "size" "I") (by decide +kernel)
  have hl := lv_entry ([.ref h, .int kp]) (n := 4) (Nat.le_of_ble_eq_true rfl)
  rw [lg_entry_eq]
  generalize (lg_sl ([.ref h, .int kp]) ++ List.replicate (4 - (lg_sl ([.ref h, .int kp])).length) Slot.unset).toArray = ls at hl ⊢
  have hl : lv_has ls 4 [(0, .ref h), (1, .int kp)] := hl
  unfold fX2_repeatsBy at hF
  refine lv_iconst (v := (0 : Int32)) hx hb dX2_repeatsBy_0 (by decide) ?_
  refine lv_istore_n (lv' := [(2, .int (0 : Int32)), (0, .ref h), (1, .int kp)]) hx hb dX2_repeatsBy_1 rfl hl (by decide) rfl (fun ls hl => ?_)
  have LP2 : ∀ (r2 : Nat) (j2 : Nat), r2 + j2 = n → fX2_repeatsBy_L2 n ea co kp r2 j2 = r → ∀ (ls : Array Slot), lv_has ls 4 [(2, .int (nI j2)), (0, .ref h), (1, .int kp)] → W p l e (headSpec wsX2_repeatsBy ({ frames := 3, cells := 0, slots := 0, locals := 65 } : Room)).room s m ([.ref h, .int kp] : List Value).toArray below meth c s.heap [] 0 0 (MQ below (k2_QcV (.int r)) ([.ref h, .int kp] : List Value).toArray s 0 0 (fun _ => False)) (F0 m 2 ls []) := by
    intro r2
    induction r2 with
    | zero =>
      intro j2 hrj hF ls hl
      rw [fX2_repeatsBy_L2] at hF
      refine lv_iload_n hx hb dX2_repeatsBy_2 rfl (lv_at hl 0 rfl) ?_
      refine lv_aload_n hx hb dX2_repeatsBy_3 rfl (lv_at hl 1 rfl) ?_
      refine va_get (D := (dC, dI)) (ci := 2) (v := .int (nI n)) (C := RX2) (T := TX2) (N := 5) hx hb hts hiX2 hown hK hP 0 rfl rfl 3 (by decide) fl21 (fun _ h9 => h9) rfl dX2_repeatsBy_4 ?_
      refine kx_ge hx hb (j2) (n) rfl rfl (by omega) (by omega) dX2_repeatsBy_7 (by decide) (tgt := 65) (fun c7 => ?_) (fun c7 => absurd c7 (by omega))
      refine lv_iconst (v := (1 : Int32)) hx hb dX2_repeatsBy_65 (by decide) ?_
      exact W.zret hx hb hr rfl (fun t ht _ => ⟨congrArg (fun z => Outcome.returned (some (Value.int z))) hF, ht⟩) (fun _ h => absurd h List.not_mem_nil) dX2_repeatsBy_66
    | succ r2 ih =>
      intro j2 hrj hF ls hl
      rw [fX2_repeatsBy_L2] at hF
      refine lv_iload_n hx hb dX2_repeatsBy_2 rfl (lv_at hl 0 rfl) ?_
      refine lv_aload_n hx hb dX2_repeatsBy_3 rfl (lv_at hl 1 rfl) ?_
      refine va_get (D := (dC, dI)) (ci := 2) (v := .int (nI n)) (C := RX2) (T := TX2) (N := 5) hx hb hts hiX2 hown hK hP 0 rfl rfl 3 (by decide) fl21 (fun _ h9 => h9) rfl dX2_repeatsBy_4 ?_
      refine kx_ge hx hb (j2) (n) rfl rfl (by omega) (by omega) dX2_repeatsBy_7 (by decide) (tgt := 65) (fun c7 => absurd c7 (by omega)) (fun c7 => ?_)
      refine lv_iload_n hx hb dX2_repeatsBy_10 rfl (lv_at hl 0 rfl) ?_
      refine lv_iconst (v := (1 : Int32)) hx hb dX2_repeatsBy_11 (by decide) ?_
      refine lv_iadd hx hb dX2_repeatsBy_12 ?_
      refine kx_e (nI_add (j2) (1)) ?_
      refine lv_istore_n (lv' := [(3, .int (nI (j2 + 1))), (2, .int (nI j2)), (0, .ref h), (1, .int kp)]) hx hb dX2_repeatsBy_13 rfl hl (by decide) rfl (fun ls hl => ?_)
      have LP14 : ∀ (r14 : Nat) (j14 : Nat), r14 + j14 = n → fX2_repeatsBy_L14 ea co kp j2 (fX2_repeatsBy_L2 n ea co kp r2 (j2 + 1)) r14 j14 = r → ∀ (ls : Array Slot), lv_has ls 4 [(3, .int (nI j14)), (2, .int (nI j2)), (0, .ref h), (1, .int kp)] → W p l e (headSpec wsX2_repeatsBy ({ frames := 3, cells := 0, slots := 0, locals := 65 } : Room)).room s m ([.ref h, .int kp] : List Value).toArray below meth c s.heap [] 0 0 (MQ below (k2_QcV (.int r)) ([.ref h, .int kp] : List Value).toArray s 0 0 (fun _ => False)) (F0 m 14 ls []) := by
        intro r14
        induction r14 with
        | zero =>
          intro j14 hrj hF ls hl
          rw [fX2_repeatsBy_L14] at hF
          try dsimp only at hF
          refine lv_iload_n hx hb dX2_repeatsBy_14 rfl (lv_at hl 0 rfl) ?_
          refine lv_aload_n hx hb dX2_repeatsBy_15 rfl (lv_at hl 2 rfl) ?_
          refine va_get (D := (dC, dI)) (ci := 2) (v := .int (nI n)) (C := RX2) (T := TX2) (N := 5) hx hb hts hiX2 hown hK hP 0 rfl rfl 3 (by decide) fl21 (fun _ h9 => h9) rfl dX2_repeatsBy_16 ?_
          refine kx_ge hx hb (j14) (n) rfl rfl (by omega) (by omega) dX2_repeatsBy_19 (by decide) (tgt := 59) (fun c19 => ?_) (fun c19 => absurd c19 (by omega))
          refine lv_iinc (v := (nI (j2 + 1))) (lv' := [(2, .int (nI (j2 + 1))), (3, .int (nI j14)), (0, .ref h), (1, .int kp)]) hx hb dX2_repeatsBy_59 hl (k := 1) rfl (by exact nI_add (j2) 1) (by decide) rfl (fun ls hl => ?_)
          refine lv_goto (tgt := 2) hx hb dX2_repeatsBy_62 (by decide) ?_
          exact ih (j2 + 1) (by omega)  hF _ (lv_sub hl [0, 2, 3] rfl)
        | succ r14 ih =>
          intro j14 hrj hF ls hl
          rw [fX2_repeatsBy_L14] at hF
          refine lv_iload_n hx hb dX2_repeatsBy_14 rfl (lv_at hl 0 rfl) ?_
          refine lv_aload_n hx hb dX2_repeatsBy_15 rfl (lv_at hl 2 rfl) ?_
          refine va_get (D := (dC, dI)) (ci := 2) (v := .int (nI n)) (C := RX2) (T := TX2) (N := 5) hx hb hts hiX2 hown hK hP 0 rfl rfl 3 (by decide) fl21 (fun _ h9 => h9) rfl dX2_repeatsBy_16 ?_
          refine kx_ge hx hb (j14) (n) rfl rfl (by omega) (by omega) dX2_repeatsBy_19 (by decide) (tgt := 59) (fun c19 => absurd c19 (by omega)) (fun c19 => ?_)
          refine lv_aload_n hx hb dX2_repeatsBy_22 rfl (lv_at hl 2 rfl) ?_
          refine lv_iload_n hx hb dX2_repeatsBy_23 rfl (lv_at hl 1 rfl) ?_
          refine lv_iload_n hx hb dX2_repeatsBy_24 rfl (lv_at hl 0 rfl) ?_
          refine lv_iload_n hx hb dX2_repeatsBy_25 rfl (lv_at hl 3 rfl) ?_
          refine kx_cV (As := [.int (nI j2), .int (nI j14), .int kp]) (rest := []) ⟨hx, hb, hml, hown, hts⟩ (c_X2_areAlike l dC dI cyI cyZ h a0 a1 a2 n ea co ti an (nI j2) (nI j14) kp  _ rfl) (cwV 3 hts gX2_repeatsBy_X2_areAlike rfl rfl rfl (by decide +kernel) ⟨Nat.le_of_ble_eq_true rfl, Nat.le_of_ble_eq_true rfl⟩) hP hK hN [0, 1, 2, 3] rfl [0, 1] rfl 2 0 rfl rfl rfl rfl hl.1 rfl (Nat.le_of_ble_eq_true rfl) dX2_repeatsBy_26 ⟨Nat.zero_le _, Nat.zero_le _⟩ ?_
          refine lv_if_eq (tgt := 53) hx hb dX2_repeatsBy_29 (by decide) (fun c29 => ?_) (fun c29 => ?_)
          · rw [if_pos c29] at hF
            refine lv_iinc (v := (nI (j14 + 1))) (lv' := [(3, .int (nI (j14 + 1))), (2, .int (nI j2)), (0, .ref h), (1, .int kp)]) hx hb dX2_repeatsBy_53 hl (k := 0) rfl (by exact nI_add (j14) 1) (by decide) rfl (fun ls hl => ?_)
            refine lv_goto (tgt := 14) hx hb dX2_repeatsBy_56 (by decide) ?_
            exact ih (j14 + 1) (by omega)  hF _ (lv_sub hl [0, 1, 2, 3] rfl)
          · rw [if_neg c29] at hF
            refine lv_aload_n hx hb dX2_repeatsBy_32 rfl (lv_at hl 2 rfl) ?_
            refine va_get (D := (dC, dI)) (ci := 2) (v := .ref a0) (C := RX2) (T := TX2) (N := 5) hx hb hts hiX2 hown hK hP 0 rfl rfl 0 (by decide) fl9 (fun _ h9 => h9) rfl dX2_repeatsBy_33 ?_
            refine lv_iload_n hx hb dX2_repeatsBy_36 rfl (lv_at hl 1 rfl) ?_
            refine kx_cSN (As := [.ref a0, .int (nI j2)]) (rest := []) ⟨hx, hb, hml, hown, hts⟩ (c_X5_at l dC dI cyI cyZ a0 co 24 (nI j2) (by omega) _ rfl) ⟨va_cnB 2 hts gX2_repeatsBy_X5_at_n35 rfl rfl rfl (hN (RX2, 35, yX5_at, RX5) (List.mem_of_getElem? (i := 12) rfl)) (hts (.initialized RX5) (by decide +kernel)) (by decide +kernel) ⟨Nat.le_of_ble_eq_true rfl, Nat.le_of_ble_eq_true rfl⟩, hts (.static yX5_at) (by decide +kernel), trivial⟩ hP hK hN [1] rfl [0, 1] rfl rfl hl.1 rfl (Nat.le_of_ble_eq_true rfl) dX2_repeatsBy_37 ⟨Nat.zero_le _, Nat.zero_le _⟩ ?_
            refine lv_aload_n hx hb dX2_repeatsBy_40 rfl (lv_at hl 2 rfl) ?_
            refine va_get (D := (dC, dI)) (ci := 2) (v := .ref a0) (C := RX2) (T := TX2) (N := 5) hx hb hts hiX2 hown hK hP 0 rfl rfl 0 (by decide) fl9 (fun _ h9 => h9) rfl dX2_repeatsBy_41 ?_
            refine lv_iload_n hx hb dX2_repeatsBy_44 rfl (lv_at hl 0 rfl) ?_
            refine kx_cSN (As := [.ref a0, .int (nI j14)]) (rest := [.int (fX5_at co 24 (nI j2))]) ⟨hx, hb, hml, hown, hts⟩ (c_X5_at l dC dI cyI cyZ a0 co 24 (nI j14) (by omega) _ rfl) ⟨va_cnB 2 hts gX2_repeatsBy_X5_at_n35 rfl rfl rfl (hN (RX2, 35, yX5_at, RX5) (List.mem_of_getElem? (i := 12) rfl)) (hts (.initialized RX5) (by decide +kernel)) (by decide +kernel) ⟨Nat.le_of_ble_eq_true rfl, Nat.le_of_ble_eq_true rfl⟩, hts (.static yX5_at) (by decide +kernel), trivial⟩ hP hK hN [1] rfl [0, 1] rfl rfl hl.1 rfl (Nat.le_of_ble_eq_true rfl) dX2_repeatsBy_45 ⟨Nat.zero_le _, Nat.zero_le _⟩ ?_
            refine lv_icmp_eq (tgt := 53) hx hb dX2_repeatsBy_48 (by decide) (fun c48 => ?_) (fun c48 => ?_)
            · rw [if_pos c48] at hF
              refine lv_iinc (v := (nI (j14 + 1))) (lv' := [(3, .int (nI (j14 + 1))), (2, .int (nI j2)), (0, .ref h), (1, .int kp)]) hx hb dX2_repeatsBy_53 hl (k := 0) rfl (by exact nI_add (j14) 1) (by decide) rfl (fun ls hl => ?_)
              refine lv_goto (tgt := 14) hx hb dX2_repeatsBy_56 (by decide) ?_
              exact ih (j14 + 1) (by omega)  hF _ (lv_sub hl [0, 1, 2, 3] rfl)
            · rw [if_neg c48] at hF
              refine lv_iconst (v := (0 : Int32)) hx hb dX2_repeatsBy_51 (by decide) ?_
              exact W.zret hx hb hr rfl (fun t ht _ => ⟨congrArg (fun z => Outcome.returned (some (Value.int z))) hF, ht⟩) (fun _ h => absurd h List.not_mem_nil) dX2_repeatsBy_52
      exact LP14 (n - (j2 + 1)) (j2 + 1)  (by omega)  hF _ (lv_sub hl [0, 1, 2, 3] rfl)
  exact LP2 n 0  (by omega)  hF _ (lv_sub hl [0, 1, 2] rfl)

def fX2_shortestPattern_L2 (n : Nat) (ea : Int32) (co : Nat → Int32) : Nat → Nat → Int32
  | 0, _ => (nI n)
  | r2 + 1, j2 => (if (fX2_repeatsBy n ea co (nI j2)) = 0 then (fX2_shortestPattern_L2 n ea co r2 (j2 + 1)) else (nI j2))
def fX2_shortestPattern (n : Nat) (ea : Int32) (co : Nat → Int32) : Int32 :=
  (fX2_shortestPattern_L2 n ea co (n - 1) 1)
set_option maxHeartbeats 4000000 in
set_option maxRecDepth 100000 in
theorem c_X2_shortestPattern (l : Launch) (dC : Nat → ClassId) (dI : Nat → Nat → Nat) (cyI cyZ : ClassId) (h a0 a1 a2 : Nat) (n : Nat) (ea : Int32) (co : Nat → Int32) (ti : Nat → Int32) (an : Nat → Int32) (hn : n ≤ 1000) (r : Int32) (hF : fX2_shortestPattern n ea co = r) : Met l yX2_shortestPattern wsX2_shortestPattern ({ frames := 4, cells := 0, slots := 0, locals := 88 }) (kx_rp (dC, dI) [(h, .inr (2, [.ref a0, .ref a1, .ref a2, .int (nI n), .int ea])), (a0, .inl (cyI, 24, .inl co)), (a1, .inl (cyI, 24, .inl ti)), (a2, .inl (cyI, 24, .inl an))] [(cyI, .int), (cyZ, .boolean)] [.ref h]) (k2_QcV (.int r)) 0 0 (fun _ => False) := by
  refine Met.ofW (cc := cX2_shortestPattern) (maxL := 2) (ret := (some .int)) (by decide) rfl ?_
  intro p e s m args below meth c s₁ B hml hv
  obtain ⟨rfl, hP, hK, hN⟩ := hv
  have hx := B.exec
  have hb := B.bytes
  have hr := B.returns
  have hts := atoms_spec (ws := wsX2_shortestPattern) B.pre
  have hown : s.vm.findClass RX2 = some m.cls := findClass_of_methodNamed B.named
  have hlocks := B.notSynchronized
  have hiX2 : ∀ w ∈ wsX20, w ∈ wsX2_shortestPattern := by decide +kernel
  have fl21 := hts (.fieldLink RX2 21 "KnitChronicle$Scarf" "size" "I") (by decide +kernel)
  have hl := lv_entry ([.ref h]) (n := 2) (Nat.le_of_ble_eq_true rfl)
  rw [lg_entry_eq]
  generalize (lg_sl ([.ref h]) ++ List.replicate (2 - (lg_sl ([.ref h])).length) Slot.unset).toArray = ls at hl ⊢
  have hl : lv_has ls 2 [(0, .ref h)] := hl
  unfold fX2_shortestPattern at hF
  refine lv_iconst (v := (1 : Int32)) hx hb dX2_shortestPattern_0 (by decide) ?_
  refine lv_istore_n (lv' := [(1, .int (1 : Int32)), (0, .ref h)]) hx hb dX2_shortestPattern_1 rfl hl (by decide) rfl (fun ls hl => ?_)
  have LP2 : ∀ (r2 : Nat) (j2 : Nat), r2 + j2 = n - 1 + 1 → (1 ≤ j2) → fX2_shortestPattern_L2 n ea co r2 j2 = r → ∀ (ls : Array Slot), lv_has ls 2 [(1, .int (nI j2)), (0, .ref h)] → W p l e (headSpec wsX2_shortestPattern ({ frames := 4, cells := 0, slots := 0, locals := 88 } : Room)).room s m ([.ref h] : List Value).toArray below meth c s.heap [] 0 0 (MQ below (k2_QcV (.int r)) ([.ref h] : List Value).toArray s 0 0 (fun _ => False)) (F0 m 2 ls []) := by
    intro r2
    induction r2 with
    | zero =>
      intro j2 hrj hj hF ls hl
      rw [fX2_shortestPattern_L2] at hF
      refine lv_iload_n hx hb dX2_shortestPattern_2 rfl (lv_at hl 0 rfl) ?_
      refine lv_aload_n hx hb dX2_shortestPattern_3 rfl (lv_at hl 1 rfl) ?_
      refine va_get (D := (dC, dI)) (ci := 2) (v := .int (nI n)) (C := RX2) (T := TX2) (N := 5) hx hb hts hiX2 hown hK hP 0 rfl rfl 3 (by decide) fl21 (fun _ h9 => h9) rfl dX2_shortestPattern_4 ?_
      refine kx_ge hx hb (j2) (n) rfl rfl (by omega) (by omega) dX2_shortestPattern_7 (by decide) (tgt := 26) (fun c7 => ?_) (fun c7 => absurd c7 (by omega))
      refine lv_aload_n hx hb dX2_shortestPattern_26 rfl (lv_at hl 1 rfl) ?_
      refine va_get (D := (dC, dI)) (ci := 2) (v := .int (nI n)) (C := RX2) (T := TX2) (N := 5) hx hb hts hiX2 hown hK hP 0 rfl rfl 3 (by decide) fl21 (fun _ h9 => h9) rfl dX2_shortestPattern_27 ?_
      exact W.iret hx hb hr (fun t ht _ => ⟨congrArg (fun z => Outcome.returned (some (Value.int z))) hF, ht⟩) (fun _ h => absurd h List.not_mem_nil) dX2_shortestPattern_30
    | succ r2 ih =>
      intro j2 hrj hj hF ls hl
      rw [fX2_shortestPattern_L2] at hF
      refine lv_iload_n hx hb dX2_shortestPattern_2 rfl (lv_at hl 0 rfl) ?_
      refine lv_aload_n hx hb dX2_shortestPattern_3 rfl (lv_at hl 1 rfl) ?_
      refine va_get (D := (dC, dI)) (ci := 2) (v := .int (nI n)) (C := RX2) (T := TX2) (N := 5) hx hb hts hiX2 hown hK hP 0 rfl rfl 3 (by decide) fl21 (fun _ h9 => h9) rfl dX2_shortestPattern_4 ?_
      refine kx_ge hx hb (j2) (n) rfl rfl (by omega) (by omega) dX2_shortestPattern_7 (by decide) (tgt := 26) (fun c7 => absurd c7 (by omega)) (fun c7 => ?_)
      refine lv_aload_n hx hb dX2_shortestPattern_10 rfl (lv_at hl 1 rfl) ?_
      refine lv_iload_n hx hb dX2_shortestPattern_11 rfl (lv_at hl 0 rfl) ?_
      refine kx_cV (As := [.int (nI j2)]) (rest := []) ⟨hx, hb, hml, hown, hts⟩ (c_X2_repeatsBy l dC dI cyI cyZ h a0 a1 a2 n ea co ti an (nI j2) (by omega) _ rfl) (cwV 1 hts gX2_shortestPattern_X2_repeatsBy rfl rfl rfl (by decide +kernel) ⟨Nat.le_of_ble_eq_true rfl, Nat.le_of_ble_eq_true rfl⟩) hP hK hN [0, 1, 2, 3] rfl [0, 1] rfl 2 0 rfl rfl rfl rfl hl.1 rfl (Nat.le_of_ble_eq_true rfl) dX2_shortestPattern_12 ⟨Nat.zero_le _, Nat.zero_le _⟩ ?_
      refine lv_if_eq (tgt := 20) hx hb dX2_shortestPattern_15 (by decide) (fun c15 => ?_) (fun c15 => ?_)
      · rw [if_pos c15] at hF
        refine lv_iinc (v := (nI (j2 + 1))) (lv' := [(1, .int (nI (j2 + 1))), (0, .ref h)]) hx hb dX2_shortestPattern_20 hl (k := 0) rfl (by exact nI_add (j2) 1) (by decide) rfl (fun ls hl => ?_)
        refine lv_goto (tgt := 2) hx hb dX2_shortestPattern_23 (by decide) ?_
        exact ih (j2 + 1) (by omega) (by omega) hF _ (lv_sub hl [0, 1] rfl)
      · rw [if_neg c15] at hF
        refine lv_iload_n hx hb dX2_shortestPattern_18 rfl (lv_at hl 0 rfl) ?_
        exact W.iret hx hb hr (fun t ht _ => ⟨congrArg (fun z => Outcome.returned (some (Value.int z))) hF, ht⟩) (fun _ h => absurd h List.not_mem_nil) dX2_shortestPattern_19
  exact LP2 (n - 1) 1  (by omega) (by omega) hF _ (lv_sub hl [0, 1] rfl)

def fX2_coloursOfHole_L7 (n : Nat) (ea : Int32) (co : Nat → Int32) (hk : Int32) : Nat → Nat → Int32
  | 0, _ => (15 : Int32)
  | r7 + 1, j7 => (if (fX2_shortestPattern n ea co) ≤ 0 then (fX2_coloursOfHole_L7 n ea co hk r7 (j7 + 1)) else (if (((nI j7) - hk) - ((nI j7) - hk) / (fX2_shortestPattern n ea co) * (fX2_shortestPattern n ea co)) = 0 then (if (fX2_isEaten ea (nI j7)) = 0 then ((1 : Int32) <<< ((fX5_at co 24 (nI j7)) &&& 31)) else (fX2_coloursOfHole_L7 n ea co hk r7 (j7 + 1))) else (fX2_coloursOfHole_L7 n ea co hk r7 (j7 + 1))))
def fX2_coloursOfHole (n : Nat) (ea : Int32) (co : Nat → Int32) (hk : Int32) : Int32 :=
  (fX2_coloursOfHole_L7 n ea co hk n 0)
set_option maxHeartbeats 4000000 in
set_option maxRecDepth 100000 in
theorem c_X2_coloursOfHole (l : Launch) (dC : Nat → ClassId) (dI : Nat → Nat → Nat) (cyI cyZ : ClassId) (h a0 a1 a2 : Nat) (n : Nat) (ea : Int32) (co : Nat → Int32) (ti : Nat → Int32) (an : Nat → Int32) (hk : Int32) (hn : n ≤ 1000) (r : Int32) (hF : fX2_coloursOfHole n ea co hk = r) : Met l yX2_coloursOfHole wsX2_coloursOfHole ({ frames := 5, cells := 0, slots := 0, locals := 109 }) (kx_rp (dC, dI) [(h, .inr (2, [.ref a0, .ref a1, .ref a2, .int (nI n), .int ea])), (a0, .inl (cyI, 24, .inl co)), (a1, .inl (cyI, 24, .inl ti)), (a2, .inl (cyI, 24, .inl an))] [(cyI, .int), (cyZ, .boolean)] [.ref h, .int hk]) (k2_QcV (.int r)) 0 0 (fun _ => False) := by
  refine Met.ofW (cc := cX2_coloursOfHole) (maxL := 4) (ret := (some .int)) (by decide) rfl ?_
  intro p e s m args below meth c s₁ B hml hv
  obtain ⟨rfl, hP, hK, hN⟩ := hv
  have hx := B.exec
  have hb := B.bytes
  have hr := B.returns
  have hts := atoms_spec (ws := wsX2_coloursOfHole) B.pre
  have hown : s.vm.findClass RX2 = some m.cls := findClass_of_methodNamed B.named
  have hlocks := B.notSynchronized
  have hiX2 : ∀ w ∈ wsX20, w ∈ wsX2_coloursOfHole := by decide +kernel
  have fl9 := hts (.fieldLink RX2 9 "KnitChronicle$Scarf" "colours" "[I") (by decide +kernel)
  have fl21 := hts (.fieldLink RX2 21 "KnitChronicle$Scarf" "size" "I") (by decide +kernel)
  have hl := lv_entry ([.ref h, .int hk]) (n := 4) (Nat.le_of_ble_eq_true rfl)
  rw [lg_entry_eq]
  generalize (lg_sl ([.ref h, .int hk]) ++ List.replicate (4 - (lg_sl ([.ref h, .int hk])).length) Slot.unset).toArray = ls at hl ⊢
  have hl : lv_has ls 4 [(0, .ref h), (1, .int hk)] := hl
  unfold fX2_coloursOfHole at hF
  refine lv_aload_n hx hb dX2_coloursOfHole_0 rfl (lv_at hl 0 rfl) ?_
  refine kx_cV (As := []) (rest := []) ⟨hx, hb, hml, hown, hts⟩ (c_X2_shortestPattern l dC dI cyI cyZ h a0 a1 a2 n ea co ti an (by omega) _ rfl) (cwV 0 hts gX2_coloursOfHole_X2_shortestPattern rfl rfl rfl (by decide +kernel) ⟨Nat.le_of_ble_eq_true rfl, Nat.le_of_ble_eq_true rfl⟩) hP hK hN [0, 1, 2, 3] rfl [0, 1] rfl 2 0 rfl rfl rfl rfl hl.1 rfl (Nat.le_of_ble_eq_true rfl) dX2_coloursOfHole_1 ⟨Nat.zero_le _, Nat.zero_le _⟩ ?_
  refine lv_istore_n (lv' := [(2, .int (fX2_shortestPattern n ea co)), (0, .ref h), (1, .int hk)]) hx hb dX2_coloursOfHole_4 rfl hl (by decide) rfl (fun ls hl => ?_)
  refine lv_iconst (v := (0 : Int32)) hx hb dX2_coloursOfHole_5 (by decide) ?_
  refine lv_istore_n (lv' := [(3, .int (0 : Int32)), (2, .int (fX2_shortestPattern n ea co)), (0, .ref h), (1, .int hk)]) hx hb dX2_coloursOfHole_6 rfl hl (by decide) rfl (fun ls hl => ?_)
  have LP7 : ∀ (r7 : Nat) (j7 : Nat), r7 + j7 = n → fX2_coloursOfHole_L7 n ea co hk r7 j7 = r → ∀ (ls : Array Slot), lv_has ls 4 [(3, .int (nI j7)), (2, .int (fX2_shortestPattern n ea co)), (0, .ref h), (1, .int hk)] → W p l e (headSpec wsX2_coloursOfHole ({ frames := 5, cells := 0, slots := 0, locals := 109 } : Room)).room s m ([.ref h, .int hk] : List Value).toArray below meth c s.heap [] 0 0 (MQ below (k2_QcV (.int r)) ([.ref h, .int hk] : List Value).toArray s 0 0 (fun _ => False)) (F0 m 7 ls []) := by
    intro r7
    induction r7 with
    | zero =>
      intro j7 hrj hF ls hl
      rw [fX2_coloursOfHole_L7] at hF
      refine lv_iload_n hx hb dX2_coloursOfHole_7 rfl (lv_at hl 0 rfl) ?_
      refine lv_aload_n hx hb dX2_coloursOfHole_8 rfl (lv_at hl 2 rfl) ?_
      refine va_get (D := (dC, dI)) (ci := 2) (v := .int (nI n)) (C := RX2) (T := TX2) (N := 5) hx hb hts hiX2 hown hK hP 0 rfl rfl 3 (by decide) fl21 (fun _ h9 => h9) rfl dX2_coloursOfHole_9 ?_
      refine kx_ge hx hb (j7) (n) rfl rfl (by omega) (by omega) dX2_coloursOfHole_12 (by decide) (tgt := 52) (fun c12 => ?_) (fun c12 => absurd c12 (by omega))
      refine lv_bipush (v := (15 : Int32)) hx hb dX2_coloursOfHole_52 (by decide) ?_
      exact W.iret hx hb hr (fun t ht _ => ⟨congrArg (fun z => Outcome.returned (some (Value.int z))) hF, ht⟩) (fun _ h => absurd h List.not_mem_nil) dX2_coloursOfHole_54
    | succ r7 ih =>
      intro j7 hrj hF ls hl
      rw [fX2_coloursOfHole_L7] at hF
      refine lv_iload_n hx hb dX2_coloursOfHole_7 rfl (lv_at hl 0 rfl) ?_
      refine lv_aload_n hx hb dX2_coloursOfHole_8 rfl (lv_at hl 2 rfl) ?_
      refine va_get (D := (dC, dI)) (ci := 2) (v := .int (nI n)) (C := RX2) (T := TX2) (N := 5) hx hb hts hiX2 hown hK hP 0 rfl rfl 3 (by decide) fl21 (fun _ h9 => h9) rfl dX2_coloursOfHole_9 ?_
      refine kx_ge hx hb (j7) (n) rfl rfl (by omega) (by omega) dX2_coloursOfHole_12 (by decide) (tgt := 52) (fun c12 => absurd c12 (by omega)) (fun c12 => ?_)
      refine lv_iload_n hx hb dX2_coloursOfHole_15 rfl (lv_at hl 1 rfl) ?_
      refine lv_if_le (tgt := 46) hx hb dX2_coloursOfHole_16 (by decide) (fun c16 => ?_) (fun c16 => ?_)
      · rw [if_pos c16] at hF
        refine lv_iinc (v := (nI (j7 + 1))) (lv' := [(3, .int (nI (j7 + 1))), (2, .int (fX2_shortestPattern n ea co)), (0, .ref h), (1, .int hk)]) hx hb dX2_coloursOfHole_46 hl (k := 0) rfl (by exact nI_add (j7) 1) (by decide) rfl (fun ls hl => ?_)
        refine lv_goto (tgt := 7) hx hb dX2_coloursOfHole_49 (by decide) ?_
        exact ih (j7 + 1) (by omega)  hF _ (lv_sub hl [0, 1, 2, 3] rfl)
      · rw [if_neg c16] at hF
        refine lv_iload_n hx hb dX2_coloursOfHole_19 rfl (lv_at hl 0 rfl) ?_
        refine lv_iload_n hx hb dX2_coloursOfHole_20 rfl (lv_at hl 3 rfl) ?_
        refine lv_isub hx hb dX2_coloursOfHole_21 ?_
        refine lv_iload_n hx hb dX2_coloursOfHole_22 rfl (lv_at hl 1 rfl) ?_
        refine lv_irem hx hb dX2_coloursOfHole_23 (fun z9 => c16 (by rw [z9]; decide)) ?_
        refine lv_if_ne (tgt := 46) hx hb dX2_coloursOfHole_24 (by decide) (fun c24 => ?_) (fun c24 => ?_)
        · rw [if_neg c24] at hF
          refine lv_iinc (v := (nI (j7 + 1))) (lv' := [(3, .int (nI (j7 + 1))), (2, .int (fX2_shortestPattern n ea co)), (0, .ref h), (1, .int hk)]) hx hb dX2_coloursOfHole_46 hl (k := 0) rfl (by exact nI_add (j7) 1) (by decide) rfl (fun ls hl => ?_)
          refine lv_goto (tgt := 7) hx hb dX2_coloursOfHole_49 (by decide) ?_
          exact ih (j7 + 1) (by omega)  hF _ (lv_sub hl [0, 1, 2, 3] rfl)
        · rw [if_pos c24] at hF
          refine lv_aload_n hx hb dX2_coloursOfHole_27 rfl (lv_at hl 2 rfl) ?_
          refine lv_iload_n hx hb dX2_coloursOfHole_28 rfl (lv_at hl 0 rfl) ?_
          refine kx_cV (As := [.int (nI j7)]) (rest := []) ⟨hx, hb, hml, hown, hts⟩ (c_X2_isEaten l dC dI cyI cyZ h a0 a1 a2 n ea co ti an (nI j7)  _ rfl) (cwV 1 hts gX2_coloursOfHole_X2_isEaten rfl rfl rfl (by decide +kernel) ⟨Nat.le_of_ble_eq_true rfl, Nat.le_of_ble_eq_true rfl⟩) hP hK hN [0, 1, 2, 3] rfl [0, 1] rfl 2 0 rfl rfl rfl rfl hl.1 rfl (Nat.le_of_ble_eq_true rfl) dX2_coloursOfHole_29 ⟨Nat.zero_le _, Nat.zero_le _⟩ ?_
          refine lv_if_ne (tgt := 46) hx hb dX2_coloursOfHole_32 (by decide) (fun c32 => ?_) (fun c32 => ?_)
          · rw [if_neg c32] at hF
            refine lv_iinc (v := (nI (j7 + 1))) (lv' := [(3, .int (nI (j7 + 1))), (2, .int (fX2_shortestPattern n ea co)), (0, .ref h), (1, .int hk)]) hx hb dX2_coloursOfHole_46 hl (k := 0) rfl (by exact nI_add (j7) 1) (by decide) rfl (fun ls hl => ?_)
            refine lv_goto (tgt := 7) hx hb dX2_coloursOfHole_49 (by decide) ?_
            exact ih (j7 + 1) (by omega)  hF _ (lv_sub hl [0, 1, 2, 3] rfl)
          · rw [if_pos c32] at hF
            refine lv_iconst (v := (1 : Int32)) hx hb dX2_coloursOfHole_35 (by decide) ?_
            refine lv_aload_n hx hb dX2_coloursOfHole_36 rfl (lv_at hl 2 rfl) ?_
            refine va_get (D := (dC, dI)) (ci := 2) (v := .ref a0) (C := RX2) (T := TX2) (N := 5) hx hb hts hiX2 hown hK hP 0 rfl rfl 0 (by decide) fl9 (fun _ h9 => h9) rfl dX2_coloursOfHole_37 ?_
            refine lv_iload_n hx hb dX2_coloursOfHole_40 rfl (lv_at hl 0 rfl) ?_
            refine kx_cSN (As := [.ref a0, .int (nI j7)]) (rest := [.int (1 : Int32)]) ⟨hx, hb, hml, hown, hts⟩ (c_X5_at l dC dI cyI cyZ a0 co 24 (nI j7) (by omega) _ rfl) ⟨va_cnB 2 hts gX2_coloursOfHole_X5_at_n35 rfl rfl rfl (hN (RX2, 35, yX5_at, RX5) (List.mem_of_getElem? (i := 12) rfl)) (hts (.initialized RX5) (by decide +kernel)) (by decide +kernel) ⟨Nat.le_of_ble_eq_true rfl, Nat.le_of_ble_eq_true rfl⟩, hts (.static yX5_at) (by decide +kernel), trivial⟩ hP hK hN [1] rfl [0, 1] rfl rfl hl.1 rfl (Nat.le_of_ble_eq_true rfl) dX2_coloursOfHole_41 ⟨Nat.zero_le _, Nat.zero_le _⟩ ?_
            refine lv_ishl hx hb dX2_coloursOfHole_44 ?_
            exact W.iret hx hb hr (fun t ht _ => ⟨congrArg (fun z => Outcome.returned (some (Value.int z))) hF, ht⟩) (fun _ h => absurd h List.not_mem_nil) dX2_coloursOfHole_45
  exact LP7 n 0  (by omega)  hF _ (lv_sub hl [0, 1, 2, 3] rfl)

def fX2_tightnessFrom_L4 (ti : Nat → Int32) : Nat → Nat → Int32 → Int32
  | 0, _, su => su
  | r4 + 1, j4, su => (fX2_tightnessFrom_L4 ti r4 (j4 + 1) (su + (fX5_at ti 24 (nI j4))))
def fX2_tightnessFrom (n : Nat) (ti : Nat → Int32) (kf : Nat) : Int32 :=
  ((fun (su : Int32) => su) (fX2_tightnessFrom_L4 ti (n - kf) kf (0 : Int32)))
set_option maxHeartbeats 4000000 in
set_option maxRecDepth 100000 in
theorem c_X2_tightnessFrom (l : Launch) (dC : Nat → ClassId) (dI : Nat → Nat → Nat) (cyI cyZ : ClassId) (h a0 a1 a2 : Nat) (n : Nat) (ea : Int32) (co : Nat → Int32) (ti : Nat → Int32) (an : Nat → Int32) (kf : Nat) (hn : n ≤ 1000) (hf : kf ≤ n) (r : Int32) (hF : fX2_tightnessFrom n ti kf = r) : Met l yX2_tightnessFrom wsX2_tightnessFrom ({ frames := 1, cells := 0, slots := 0, locals := 21 }) (kx_rp (dC, dI) [(h, .inr (2, [.ref a0, .ref a1, .ref a2, .int (nI n), .int ea])), (a0, .inl (cyI, 24, .inl co)), (a1, .inl (cyI, 24, .inl ti)), (a2, .inl (cyI, 24, .inl an))] [(cyI, .int), (cyZ, .boolean)] [.ref h, .int (nI kf)]) (k2_QcV (.int r)) 0 0 (fun _ => False) := by
  refine Met.ofW (cc := cX2_tightnessFrom) (maxL := 4) (ret := (some .int)) (by decide) rfl ?_
  intro p e s m args below meth c s₁ B hml hv
  obtain ⟨rfl, hP, hK, hN⟩ := hv
  have hx := B.exec
  have hb := B.bytes
  have hr := B.returns
  have hts := atoms_spec (ws := wsX2_tightnessFrom) B.pre
  have hown : s.vm.findClass RX2 = some m.cls := findClass_of_methodNamed B.named
  have hlocks := B.notSynchronized
  have hiX2 : ∀ w ∈ wsX20, w ∈ wsX2_tightnessFrom := by decide +kernel
  have fl15 := hts (.fieldLink RX2 15 "KnitChronicle$Scarf" "tightnesses" "[I") (by decide +kernel)
  have fl21 := hts (.fieldLink RX2 21 "KnitChronicle$Scarf" "size" "I") (by decide +kernel)
  have hl := lv_entry ([.ref h, .int (nI kf)]) (n := 4) (Nat.le_of_ble_eq_true rfl)
  rw [lg_entry_eq]
  generalize (lg_sl ([.ref h, .int (nI kf)]) ++ List.replicate (4 - (lg_sl ([.ref h, .int (nI kf)])).length) Slot.unset).toArray = ls at hl ⊢
  have hl : lv_has ls 4 [(0, .ref h), (1, .int (nI kf))] := hl
  unfold fX2_tightnessFrom at hF
  refine lv_iconst (v := (0 : Int32)) hx hb dX2_tightnessFrom_0 (by decide) ?_
  refine lv_istore_n (lv' := [(2, .int (0 : Int32)), (0, .ref h), (1, .int (nI kf))]) hx hb dX2_tightnessFrom_1 rfl hl (by decide) rfl (fun ls hl => ?_)
  refine lv_iload_n hx hb dX2_tightnessFrom_2 rfl (lv_at hl 2 rfl) ?_
  refine lv_istore_n (lv' := [(3, .int (nI kf)), (2, .int (0 : Int32)), (0, .ref h), (1, .int (nI kf))]) hx hb dX2_tightnessFrom_3 rfl hl (by decide) rfl (fun ls hl => ?_)
  generalize hz4 : fX2_tightnessFrom_L4 ti (n - kf) kf (0 : Int32) = z4 at hF
  have LP4 : ∀ (r4 : Nat) (j4 : Nat) (su : Int32), r4 + j4 = n → fX2_tightnessFrom_L4 ti r4 j4 su = z4 → ∀ (ls : Array Slot), lv_has ls 4 [(3, .int (nI j4)), (2, .int su), (0, .ref h), (1, .int (nI kf))] → W p l e (headSpec wsX2_tightnessFrom ({ frames := 1, cells := 0, slots := 0, locals := 21 } : Room)).room s m ([.ref h, .int (nI kf)] : List Value).toArray below meth c s.heap [] 0 0 (MQ below (k2_QcV (.int r)) ([.ref h, .int (nI kf)] : List Value).toArray s 0 0 (fun _ => False)) (F0 m 4 ls []) := by
    intro r4
    induction r4 with
    | zero =>
      intro j4 su hrj hz4 ls hl
      rw [fX2_tightnessFrom_L4] at hz4
      subst hz4
      try dsimp only at hF
      refine lv_iload_n hx hb dX2_tightnessFrom_4 rfl (lv_at hl 0 rfl) ?_
      refine lv_aload_n hx hb dX2_tightnessFrom_5 rfl (lv_at hl 2 rfl) ?_
      refine va_get (D := (dC, dI)) (ci := 2) (v := .int (nI n)) (C := RX2) (T := TX2) (N := 5) hx hb hts hiX2 hown hK hP 0 rfl rfl 3 (by decide) fl21 (fun _ h9 => h9) rfl dX2_tightnessFrom_6 ?_
      refine kx_ge hx hb (j4) (n) rfl rfl (by omega) (by omega) dX2_tightnessFrom_9 (by decide) (tgt := 29) (fun c9 => ?_) (fun c9 => absurd c9 (by omega))
      refine lv_iload_n hx hb dX2_tightnessFrom_29 rfl (lv_at hl 1 rfl) ?_
      exact W.iret hx hb hr (fun t ht _ => ⟨congrArg (fun z => Outcome.returned (some (Value.int z))) hF, ht⟩) (fun _ h => absurd h List.not_mem_nil) dX2_tightnessFrom_30
    | succ r4 ih =>
      intro j4 su hrj hz4 ls hl
      rw [fX2_tightnessFrom_L4] at hz4
      refine lv_iload_n hx hb dX2_tightnessFrom_4 rfl (lv_at hl 0 rfl) ?_
      refine lv_aload_n hx hb dX2_tightnessFrom_5 rfl (lv_at hl 2 rfl) ?_
      refine va_get (D := (dC, dI)) (ci := 2) (v := .int (nI n)) (C := RX2) (T := TX2) (N := 5) hx hb hts hiX2 hown hK hP 0 rfl rfl 3 (by decide) fl21 (fun _ h9 => h9) rfl dX2_tightnessFrom_6 ?_
      refine kx_ge hx hb (j4) (n) rfl rfl (by omega) (by omega) dX2_tightnessFrom_9 (by decide) (tgt := 29) (fun c9 => absurd c9 (by omega)) (fun c9 => ?_)
      refine lv_iload_n hx hb dX2_tightnessFrom_12 rfl (lv_at hl 1 rfl) ?_
      refine lv_aload_n hx hb dX2_tightnessFrom_13 rfl (lv_at hl 2 rfl) ?_
      refine va_get (D := (dC, dI)) (ci := 2) (v := .ref a1) (C := RX2) (T := TX2) (N := 5) hx hb hts hiX2 hown hK hP 0 rfl rfl 1 (by decide) fl15 (fun _ h9 => h9) rfl dX2_tightnessFrom_14 ?_
      refine lv_iload_n hx hb dX2_tightnessFrom_17 rfl (lv_at hl 0 rfl) ?_
      refine kx_cSN (As := [.ref a1, .int (nI j4)]) (rest := [.int su]) ⟨hx, hb, hml, hown, hts⟩ (c_X5_at l dC dI cyI cyZ a1 ti 24 (nI j4) (by omega) _ rfl) ⟨va_cnB 2 hts gX2_tightnessFrom_X5_at_n35 rfl rfl rfl (hN (RX2, 35, yX5_at, RX5) (List.mem_of_getElem? (i := 12) rfl)) (hts (.initialized RX5) (by decide +kernel)) (by decide +kernel) ⟨Nat.le_of_ble_eq_true rfl, Nat.le_of_ble_eq_true rfl⟩, hts (.static yX5_at) (by decide +kernel), trivial⟩ hP hK hN [2] rfl [0, 1] rfl rfl hl.1 rfl (Nat.le_of_ble_eq_true rfl) dX2_tightnessFrom_18 ⟨Nat.zero_le _, Nat.zero_le _⟩ ?_
      refine lv_iadd hx hb dX2_tightnessFrom_21 ?_
      refine lv_istore_n (lv' := [(2, .int (su + (fX5_at ti 24 (nI j4)))), (3, .int (nI j4)), (0, .ref h), (1, .int (nI kf))]) hx hb dX2_tightnessFrom_22 rfl hl (by decide) rfl (fun ls hl => ?_)
      refine lv_iinc (v := (nI (j4 + 1))) (lv' := [(3, .int (nI (j4 + 1))), (2, .int (su + (fX5_at ti 24 (nI j4)))), (0, .ref h), (1, .int (nI kf))]) hx hb dX2_tightnessFrom_23 hl (k := 1) rfl (by exact nI_add (j4) 1) (by decide) rfl (fun ls hl => ?_)
      refine lv_goto (tgt := 4) hx hb dX2_tightnessFrom_26 (by decide) ?_
      exact ih (j4 + 1) (su + (fX5_at ti 24 (nI j4))) (by omega)  hz4 _ (lv_sub hl [0, 1, 2, 3] rfl)
  exact LP4 (n - kf) kf (0 : Int32) (by omega)  hz4 _ (lv_sub hl [0, 1, 2, 3] rfl)

def fX2_stretchesFrom_L8 (ti : Nat → Int32) (bu : Int32) : Nat → Nat → Int32 → Int32 → Int32
  | 0, _, sr, ro => sr
  | r8 + 1, j8, sr, ro => (if (fX5_at ti 24 (nI j8)) ≤ bu then (if (fX5_at ti 24 (nI j8)) ≤ ro then (fX2_stretchesFrom_L8 ti bu r8 (j8 + 1) sr (ro - (fX5_at ti 24 (nI j8)))) else (fX2_stretchesFrom_L8 ti bu r8 (j8 + 1) (sr + (1 : Int32)) (bu - (fX5_at ti 24 (nI j8))))) else (25 : Int32))
def fX2_stretchesFrom (n : Nat) (ti : Nat → Int32) (kf : Nat) (bu : Int32) : Int32 :=
  (fX2_stretchesFrom_L8 ti bu (n - kf) kf (0 : Int32) (-1 : Int32))
set_option maxHeartbeats 4000000 in
set_option maxRecDepth 100000 in
theorem c_X2_stretchesFrom (l : Launch) (dC : Nat → ClassId) (dI : Nat → Nat → Nat) (cyI cyZ : ClassId) (h a0 a1 a2 : Nat) (n : Nat) (ea : Int32) (co : Nat → Int32) (ti : Nat → Int32) (an : Nat → Int32) (kf : Nat) (bu : Int32) (hn : n ≤ 1000) (hf : kf ≤ n) (r : Int32) (hF : fX2_stretchesFrom n ti kf bu = r) : Met l yX2_stretchesFrom wsX2_stretchesFrom ({ frames := 1, cells := 0, slots := 0, locals := 21 }) (kx_rp (dC, dI) [(h, .inr (2, [.ref a0, .ref a1, .ref a2, .int (nI n), .int ea])), (a0, .inl (cyI, 24, .inl co)), (a1, .inl (cyI, 24, .inl ti)), (a2, .inl (cyI, 24, .inl an))] [(cyI, .int), (cyZ, .boolean)] [.ref h, .int (nI kf), .int bu]) (k2_QcV (.int r)) 0 0 (fun _ => False) := by
  refine Met.ofW (cc := cX2_stretchesFrom) (maxL := 7) (ret := (some .int)) (by decide) rfl ?_
  intro p e s m args below meth c s₁ B hml hv
  obtain ⟨rfl, hP, hK, hN⟩ := hv
  have hx := B.exec
  have hb := B.bytes
  have hr := B.returns
  have hts := atoms_spec (ws := wsX2_stretchesFrom) B.pre
  have hown : s.vm.findClass RX2 = some m.cls := findClass_of_methodNamed B.named
  have hlocks := B.notSynchronized
  have hiX2 : ∀ w ∈ wsX20, w ∈ wsX2_stretchesFrom := by decide +kernel
  have fl15 := hts (.fieldLink RX2 15 "KnitChronicle$Scarf" "tightnesses" "[I") (by decide +kernel)
  have fl21 := hts (.fieldLink RX2 21 "KnitChronicle$Scarf" "size" "I") (by decide +kernel)
  have hl := lv_entry ([.ref h, .int (nI kf), .int bu]) (n := 7) (Nat.le_of_ble_eq_true rfl)
  rw [lg_entry_eq]
  generalize (lg_sl ([.ref h, .int (nI kf), .int bu]) ++ List.replicate (7 - (lg_sl ([.ref h, .int (nI kf), .int bu])).length) Slot.unset).toArray = ls at hl ⊢
  have hl : lv_has ls 7 [(0, .ref h), (1, .int (nI kf)), (2, .int bu)] := hl
  unfold fX2_stretchesFrom at hF
  refine lv_iconst (v := (0 : Int32)) hx hb dX2_stretchesFrom_0 (by decide) ?_
  refine lv_istore_n (lv' := [(3, .int (0 : Int32)), (0, .ref h), (1, .int (nI kf)), (2, .int bu)]) hx hb dX2_stretchesFrom_1 rfl hl (by decide) rfl (fun ls hl => ?_)
  refine lv_iconst (v := (-1 : Int32)) hx hb dX2_stretchesFrom_2 (by decide) ?_
  refine lv_istore (lv' := [(4, .int (-1 : Int32)), (3, .int (0 : Int32)), (0, .ref h), (1, .int (nI kf)), (2, .int bu)]) hx hb dX2_stretchesFrom_3 hl (by decide) rfl (fun ls hl => ?_)
  refine lv_iload_n hx hb dX2_stretchesFrom_5 rfl (lv_at hl 3 rfl) ?_
  refine lv_istore (lv' := [(5, .int (nI kf)), (4, .int (-1 : Int32)), (3, .int (0 : Int32)), (0, .ref h), (1, .int (nI kf)), (2, .int bu)]) hx hb dX2_stretchesFrom_6 hl (by decide) rfl (fun ls hl => ?_)
  have LP8 : ∀ (r8 : Nat) (j8 : Nat) (sr : Int32) (ro : Int32), r8 + j8 = n → fX2_stretchesFrom_L8 ti bu r8 j8 sr ro = r → ∀ (ls : Array Slot), lv_has ls 7 [(5, .int (nI j8)), (4, .int ro), (3, .int sr), (0, .ref h), (1, .int (nI kf)), (2, .int bu)] → W p l e (headSpec wsX2_stretchesFrom ({ frames := 1, cells := 0, slots := 0, locals := 21 } : Room)).room s m ([.ref h, .int (nI kf), .int bu] : List Value).toArray below meth c s.heap [] 0 0 (MQ below (k2_QcV (.int r)) ([.ref h, .int (nI kf), .int bu] : List Value).toArray s 0 0 (fun _ => False)) (F0 m 8 ls []) := by
    intro r8
    induction r8 with
    | zero =>
      intro j8 sr ro hrj hF ls hl
      rw [fX2_stretchesFrom_L8] at hF
      refine lv_iload hx hb dX2_stretchesFrom_8 (lv_at hl 0 rfl) ?_
      refine lv_aload_n hx hb dX2_stretchesFrom_10 rfl (lv_at hl 3 rfl) ?_
      refine va_get (D := (dC, dI)) (ci := 2) (v := .int (nI n)) (C := RX2) (T := TX2) (N := 5) hx hb hts hiX2 hown hK hP 0 rfl rfl 3 (by decide) fl21 (fun _ h9 => h9) rfl dX2_stretchesFrom_11 ?_
      refine kx_ge hx hb (j8) (n) rfl rfl (by omega) (by omega) dX2_stretchesFrom_14 (by decide) (tgt := 63) (fun c14 => ?_) (fun c14 => absurd c14 (by omega))
      refine lv_iload_n hx hb dX2_stretchesFrom_63 rfl (lv_at hl 2 rfl) ?_
      exact W.iret hx hb hr (fun t ht _ => ⟨congrArg (fun z => Outcome.returned (some (Value.int z))) hF, ht⟩) (fun _ h => absurd h List.not_mem_nil) dX2_stretchesFrom_64
    | succ r8 ih =>
      intro j8 sr ro hrj hF ls hl
      rw [fX2_stretchesFrom_L8] at hF
      refine lv_iload hx hb dX2_stretchesFrom_8 (lv_at hl 0 rfl) ?_
      refine lv_aload_n hx hb dX2_stretchesFrom_10 rfl (lv_at hl 3 rfl) ?_
      refine va_get (D := (dC, dI)) (ci := 2) (v := .int (nI n)) (C := RX2) (T := TX2) (N := 5) hx hb hts hiX2 hown hK hP 0 rfl rfl 3 (by decide) fl21 (fun _ h9 => h9) rfl dX2_stretchesFrom_11 ?_
      refine kx_ge hx hb (j8) (n) rfl rfl (by omega) (by omega) dX2_stretchesFrom_14 (by decide) (tgt := 63) (fun c14 => absurd c14 (by omega)) (fun c14 => ?_)
      refine lv_aload_n hx hb dX2_stretchesFrom_17 rfl (lv_at hl 3 rfl) ?_
      refine va_get (D := (dC, dI)) (ci := 2) (v := .ref a1) (C := RX2) (T := TX2) (N := 5) hx hb hts hiX2 hown hK hP 0 rfl rfl 1 (by decide) fl15 (fun _ h9 => h9) rfl dX2_stretchesFrom_18 ?_
      refine lv_iload hx hb dX2_stretchesFrom_21 (lv_at hl 0 rfl) ?_
      refine kx_cSN (As := [.ref a1, .int (nI j8)]) (rest := []) ⟨hx, hb, hml, hown, hts⟩ (c_X5_at l dC dI cyI cyZ a1 ti 24 (nI j8) (by omega) _ rfl) ⟨va_cnB 2 hts gX2_stretchesFrom_X5_at_n35 rfl rfl rfl (hN (RX2, 35, yX5_at, RX5) (List.mem_of_getElem? (i := 12) rfl)) (hts (.initialized RX5) (by decide +kernel)) (by decide +kernel) ⟨Nat.le_of_ble_eq_true rfl, Nat.le_of_ble_eq_true rfl⟩, hts (.static yX5_at) (by decide +kernel), trivial⟩ hP hK hN [2] rfl [0, 1] rfl rfl hl.1 rfl (Nat.le_of_ble_eq_true rfl) dX2_stretchesFrom_23 ⟨Nat.zero_le _, Nat.zero_le _⟩ ?_
      refine lv_istore (lv' := [(6, .int (fX5_at ti 24 (nI j8))), (5, .int (nI j8)), (4, .int ro), (3, .int sr), (0, .ref h), (1, .int (nI kf)), (2, .int bu)]) hx hb dX2_stretchesFrom_26 hl (by decide) rfl (fun ls hl => ?_)
      refine lv_iload hx hb dX2_stretchesFrom_28 (lv_at hl 0 rfl) ?_
      refine lv_iload_n hx hb dX2_stretchesFrom_30 rfl (lv_at hl 6 rfl) ?_
      refine lv_icmp_le (tgt := 37) hx hb dX2_stretchesFrom_31 (by decide) (fun c31 => ?_) (fun c31 => ?_)
      · rw [if_pos c31] at hF
        refine lv_iload hx hb dX2_stretchesFrom_37 (lv_at hl 0 rfl) ?_
        refine lv_iload hx hb dX2_stretchesFrom_39 (lv_at hl 2 rfl) ?_
        refine lv_icmp_le (tgt := 50) hx hb dX2_stretchesFrom_41 (by decide) (fun c41 => ?_) (fun c41 => ?_)
        · rw [if_pos c41] at hF
          refine lv_iload hx hb dX2_stretchesFrom_50 (lv_at hl 2 rfl) ?_
          refine lv_iload hx hb dX2_stretchesFrom_52 (lv_at hl 0 rfl) ?_
          refine lv_isub hx hb dX2_stretchesFrom_54 ?_
          refine lv_istore (lv' := [(4, .int (ro - (fX5_at ti 24 (nI j8)))), (6, .int (fX5_at ti 24 (nI j8))), (5, .int (nI j8)), (3, .int sr), (0, .ref h), (1, .int (nI kf)), (2, .int bu)]) hx hb dX2_stretchesFrom_55 hl (by decide) rfl (fun ls hl => ?_)
          refine lv_iinc (v := (nI (j8 + 1))) (lv' := [(5, .int (nI (j8 + 1))), (4, .int (ro - (fX5_at ti 24 (nI j8)))), (6, .int (fX5_at ti 24 (nI j8))), (3, .int sr), (0, .ref h), (1, .int (nI kf)), (2, .int bu)]) hx hb dX2_stretchesFrom_57 hl (k := 2) rfl (by exact nI_add (j8) 1) (by decide) rfl (fun ls hl => ?_)
          refine lv_goto (tgt := 8) hx hb dX2_stretchesFrom_60 (by decide) ?_
          exact ih (j8 + 1) sr (ro - (fX5_at ti 24 (nI j8))) (by omega)  hF _ (lv_sub hl [0, 1, 3, 4, 5, 6] rfl)
        · rw [if_neg c41] at hF
          refine lv_iinc (v := (sr + (1 : Int32))) (lv' := [(3, .int (sr + (1 : Int32))), (6, .int (fX5_at ti 24 (nI j8))), (5, .int (nI j8)), (4, .int ro), (0, .ref h), (1, .int (nI kf)), (2, .int bu)]) hx hb dX2_stretchesFrom_44 hl (k := 3) rfl rfl (by decide) rfl (fun ls hl => ?_)
          refine lv_iload_n hx hb dX2_stretchesFrom_47 rfl (lv_at hl 6 rfl) ?_
          refine lv_istore (lv' := [(4, .int bu), (3, .int (sr + (1 : Int32))), (6, .int (fX5_at ti 24 (nI j8))), (5, .int (nI j8)), (0, .ref h), (1, .int (nI kf)), (2, .int bu)]) hx hb dX2_stretchesFrom_48 hl (by decide) rfl (fun ls hl => ?_)
          refine lv_iload hx hb dX2_stretchesFrom_50 (lv_at hl 0 rfl) ?_
          refine lv_iload hx hb dX2_stretchesFrom_52 (lv_at hl 2 rfl) ?_
          refine lv_isub hx hb dX2_stretchesFrom_54 ?_
          refine lv_istore (lv' := [(4, .int (bu - (fX5_at ti 24 (nI j8)))), (3, .int (sr + (1 : Int32))), (6, .int (fX5_at ti 24 (nI j8))), (5, .int (nI j8)), (0, .ref h), (1, .int (nI kf)), (2, .int bu)]) hx hb dX2_stretchesFrom_55 hl (by decide) rfl (fun ls hl => ?_)
          refine lv_iinc (v := (nI (j8 + 1))) (lv' := [(5, .int (nI (j8 + 1))), (4, .int (bu - (fX5_at ti 24 (nI j8)))), (3, .int (sr + (1 : Int32))), (6, .int (fX5_at ti 24 (nI j8))), (0, .ref h), (1, .int (nI kf)), (2, .int bu)]) hx hb dX2_stretchesFrom_57 hl (k := 3) rfl (by exact nI_add (j8) 1) (by decide) rfl (fun ls hl => ?_)
          refine lv_goto (tgt := 8) hx hb dX2_stretchesFrom_60 (by decide) ?_
          exact ih (j8 + 1) (sr + (1 : Int32)) (bu - (fX5_at ti 24 (nI j8))) (by omega)  hF _ (lv_sub hl [0, 1, 2, 4, 5, 6] rfl)
      · rw [if_neg c31] at hF
        refine lv_bipush (v := (25 : Int32)) hx hb dX2_stretchesFrom_34 (by decide) ?_
        exact W.iret hx hb hr (fun t ht _ => ⟨congrArg (fun z => Outcome.returned (some (Value.int z))) hF, ht⟩) (fun _ h => absurd h List.not_mem_nil) dX2_stretchesFrom_36
  exact LP8 (n - kf) kf (0 : Int32) (-1 : Int32) (by omega)  hF _ (lv_sub hl [0, 1, 2, 3, 4, 5] rfl)
