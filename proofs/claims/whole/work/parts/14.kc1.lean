def fX5_stitch (n : Nat) (co : Nat → Int32) (ti : Nat → Int32) (an : Nat → Int32) (kcl : Int32) (ktt : Int32) (kha : Int32) : Int32 × (Nat → Int32) × (Nat → Int32) × (Nat → Int32) × Nat :=
  (if kha = (-1 : Int32) then (if (fX5_isBelow kcl (4 : Int32)) = 0 then ((-2 : Int32), co, ti, an, n) else (if (fX5_isBelow ktt (10 : Int32)) = 0 then ((-2 : Int32), co, ti, an, n) else (if (fX2_isFull n) = 0 then (match fX2_append n co ti an kcl ktt kha with | (q61a, q61b, q61c, q61d) => ((nI q61d), q61a, q61b, q61c, q61d)) else ((-4 : Int32), co, ti, an, n)))) else (if (fX2_has n kha) = 0 then ((-1 : Int32), co, ti, an, n) else (if (fX5_isBelow kcl (4 : Int32)) = 0 then ((-2 : Int32), co, ti, an, n) else (if (fX5_isBelow ktt (10 : Int32)) = 0 then ((-2 : Int32), co, ti, an, n) else (if (fX2_isFull n) = 0 then (match fX2_append n co ti an kcl ktt kha with | (q61a, q61b, q61c, q61d) => ((nI q61d), q61a, q61b, q61c, q61d)) else ((-4 : Int32), co, ti, an, n))))))
set_option maxHeartbeats 4000000 in
set_option maxRecDepth 100000 in
theorem c_X5_stitch (l : Launch) (dC : Nat → ClassId) (dI : Nat → Nat → Nat) (cyI cyZ : ClassId) (hkc ht ht1 ht2 hp htr hh as hs ak a0 a1 a2 : Nat) (kp : Int32) (si : Nat) (fi : Int32) (n : Nat) (ea : Int32) (co : Nat → Int32) (ti : Nat → Int32) (an : Nat → Int32) (kcl : Int32) (ktt : Int32) (kha : Int32) (hn : n ≤ 24) (sz : Nat) (r : Int32 × (Nat → Int32) × (Nat → Int32) × (Nat → Int32) × Nat) (hF : fX5_stitch n co ti an kcl ktt kha = r) : Met l yX5_stitch wsX5_stitch ({ frames := 2, cells := 0, slots := 0, locals := 45 }) (kx_wp (dC, dI) [(hkc, .inr (5, [.ref ht, .ref ht1, .ref ht2, .int kp, .ref hp, .ref htr, .ref hh, .ref as])), (ht, .inr (3, [.ref hs, .ref ak, .int (nI si), .int fi])), (hs, .inr (2, [.ref a0, .ref a1, .ref a2, .int (nI n), .int ea])), (a0, .inl (cyI, 24, .inl co)), (a1, .inl (cyI, 24, .inl ti)), (a2, .inl (cyI, 24, .inl an))] [(cyI, .int), (cyZ, .boolean)] sz [.ref hkc, .int kcl, .int ktt, .int kha]) (kx_Qi r.1 (dC, dI) [(hkc, .inr (5, [.ref ht, .ref ht1, .ref ht2, .int kp, .ref hp, .ref htr, .ref hh, .ref as])), (ht, .inr (3, [.ref hs, .ref ak, .int (nI si), .int fi])), (hs, .inr (2, [.ref a0, .ref a1, .ref a2, .int (nI n), .int ea])), (a0, .inl (cyI, 24, .inl co)), (a1, .inl (cyI, 24, .inl ti)), (a2, .inl (cyI, 24, .inl an))] [(hkc, .inr (5, [.ref ht, .ref ht1, .ref ht2, .int kp, .ref hp, .ref htr, .ref hh, .ref as])), (ht, .inr (3, [.ref hs, .ref ak, .int (nI si), .int fi])), (hs, .inr (2, [.ref a0, .ref a1, .ref a2, .int (nI (r.2.2.2.2)), .int ea])), (a0, .inl (cyI, 24, .inl r.2.1)), (a1, .inl (cyI, 24, .inl r.2.2.1)), (a2, .inl (cyI, 24, .inl r.2.2.2.1))] sz) 0 0 (va_A [(hkc, .inr (5, [.ref ht, .ref ht1, .ref ht2, .int kp, .ref hp, .ref htr, .ref hh, .ref as])), (ht, .inr (3, [.ref hs, .ref ak, .int (nI si), .int fi])), (hs, .inr (2, [.ref a0, .ref a1, .ref a2, .int (nI n), .int ea])), (a0, .inl (cyI, 24, .inl co)), (a1, .inl (cyI, 24, .inl ti)), (a2, .inl (cyI, 24, .inl an))] sz) := by
  refine Met.ofW (cc := cX5_stitch) (maxL := 5) (ret := (some .int)) (by decide) rfl ?_
  intro p e s m args below meth c s₁ B hml hv
  obtain ⟨rfl, hsz, hP, hK, hN, hD0⟩ := hv
  have hx := B.exec
  have hb := B.bytes
  have hr := B.returns
  have hts := atoms_spec (ws := wsX5_stitch) B.pre
  have hown : s.vm.findClass RX5 = some m.cls := findClass_of_methodNamed B.named
  have hlocks := B.notSynchronized
  subst hsz
  obtain ⟨A, hAe⟩ : ∃ A, A = va_A [(hkc, .inr (5, [.ref ht, .ref ht1, .ref ht2, .int kp, .ref hp, .ref htr, .ref hh, .ref as])), (ht, .inr (3, [.ref hs, .ref ak, .int (nI si), .int fi])), (hs, .inr (2, [.ref a0, .ref a1, .ref a2, .int (nI n), .int ea])), (a0, .inl (cyI, 24, .inl co)), (a1, .inl (cyI, 24, .inl ti)), (a2, .inl (cyI, 24, .inl an))] s.heap.size := ⟨_, rfl⟩
  have hD : va_D A [(hkc, .inr (5, [.ref ht, .ref ht1, .ref ht2, .int kp, .ref hp, .ref htr, .ref hh, .ref as])), (ht, .inr (3, [.ref hs, .ref ak, .int (nI si), .int fi])), (hs, .inr (2, [.ref a0, .ref a1, .ref a2, .int (nI n), .int ea])), (a0, .inl (cyI, 24, .inl co)), (a1, .inl (cyI, 24, .inl ti)), (a2, .inl (cyI, 24, .inl an))] := by rw [hAe]; exact hD0.self
  have hA : ∀ q : Nat, s.heap.size ≤ q → A q := fun q h => by rw [hAe]; exact Or.inr h
  have hS : va_S A s.heap s.heap [] := va_S.rf
  have hiX2 : ∀ w ∈ wsX20, w ∈ wsX5_stitch := by decide +kernel
  have hiX3 : ∀ w ∈ wsX30, w ∈ wsX5_stitch := by decide +kernel
  have hiX5 : ∀ w ∈ wsX50, w ∈ wsX5_stitch := by decide +kernel
  have fl10 := hts (.fieldLink RX5 10 "KnitChronicle" "town" "LKnitChronicle$Town;") (by decide +kernel)
  have fl47 := hts (.fieldLink RX5 47 "KnitChronicle$Town" "scarf" "LKnitChronicle$Scarf;") (by decide +kernel)
  have fl69 := hts (.fieldLink RX5 69 "KnitChronicle$Scarf" "size" "I") (by decide +kernel)
  have hl := lv_entry ([.ref hkc, .int kcl, .int ktt, .int kha]) (n := 5) (Nat.le_of_ble_eq_true rfl)
  rw [lg_entry_eq]
  generalize (lg_sl ([.ref hkc, .int kcl, .int ktt, .int kha]) ++ List.replicate (5 - (lg_sl ([.ref hkc, .int kcl, .int ktt, .int kha])).length) Slot.unset).toArray = ls at hl ⊢
  have hl : lv_has ls 5 [(0, .ref hkc), (1, .int kcl), (2, .int ktt), (3, .int kha)] := hl
  unfold fX5_stitch at hF
  refine lv_aload_n hx hb dX5_stitch_0 rfl (lv_at hl 0 rfl) ?_
  refine va_get (D := (dC, dI)) (ci := 5) (v := .ref ht) (C := RX5) (T := TX5) (N := 8) hx hb hts hiX5 hown hK hP 0 rfl rfl 0 (by decide) fl10 (fun _ h9 => h9) rfl dX5_stitch_1 ?_
  refine va_get (D := (dC, dI)) (ci := 3) (v := .ref hs) (C := RX3) (T := TX3) (N := 4) hx hb hts hiX3 hown hK hP 1 rfl rfl 0 (by decide) fl47 (fun _ h9 => h9) rfl dX5_stitch_4 ?_
  refine lv_astore (lv' := [(4, .ref hs), (0, .ref hkc), (1, .int kcl), (2, .int ktt), (3, .int kha)]) hx hb dX5_stitch_7 hl (by decide) rfl (fun ls hl => ?_)
  refine lv_iload_n hx hb dX5_stitch_9 rfl (lv_at hl 4 rfl) ?_
  refine lv_iconst (v := (-1 : Int32)) hx hb dX5_stitch_10 (by decide) ?_
  refine lv_icmp_eq (tgt := 25) hx hb dX5_stitch_11 (by decide) (fun c11 => ?_) (fun c11 => ?_)
  · rw [if_pos c11] at hF
    refine lv_iload_n hx hb dX5_stitch_25 rfl (lv_at hl 2 rfl) ?_
    refine lv_iconst (v := (4 : Int32)) hx hb dX5_stitch_26 (by decide) ?_
    refine kx_cS (As := [.int kcl, .int (4 : Int32)]) (rest := []) ⟨hx, hb, hml, hown, hts⟩ (c_X5_isBelow l dC dI cyI cyZ  kcl (4 : Int32)  _ rfl) (va_cwS 2 hts gX5_stitch_X5_isBelow rfl rfl rfl (by decide +kernel) ⟨Nat.le_of_ble_eq_true rfl, Nat.le_of_ble_eq_true rfl⟩) hP hK hN [] rfl [0, 1] rfl rfl hl.1 rfl (Nat.le_of_ble_eq_true rfl) dX5_stitch_27 ⟨Nat.zero_le _, Nat.zero_le _⟩ ?_
    refine lv_if_eq (tgt := 42) hx hb dX5_stitch_30 (by decide) (fun c30 => ?_) (fun c30 => ?_)
    · rw [if_pos c30] at hF
      refine lv_bipush (v := (-2 : Int32)) hx hb dX5_stitch_42 (by decide) ?_
      subst hF
      subst hAe
      exact W.iret hx hb hr (fun t ht _ => ⟨⟨_, (), rfl, rfl, by rw [ht]; exact hP, hD⟩, hS.F ht⟩) hS.2.2 dX5_stitch_44
    · rw [if_neg c30] at hF
      refine lv_iload_n hx hb dX5_stitch_33 rfl (lv_at hl 3 rfl) ?_
      refine lv_bipush (v := (10 : Int32)) hx hb dX5_stitch_34 (by decide) ?_
      refine kx_cS (As := [.int ktt, .int (10 : Int32)]) (rest := []) ⟨hx, hb, hml, hown, hts⟩ (c_X5_isBelow l dC dI cyI cyZ  ktt (10 : Int32)  _ rfl) (va_cwS 2 hts gX5_stitch_X5_isBelow rfl rfl rfl (by decide +kernel) ⟨Nat.le_of_ble_eq_true rfl, Nat.le_of_ble_eq_true rfl⟩) hP hK hN [] rfl [0, 1] rfl rfl hl.1 rfl (Nat.le_of_ble_eq_true rfl) dX5_stitch_36 ⟨Nat.zero_le _, Nat.zero_le _⟩ ?_
      refine lv_if_ne (tgt := 45) hx hb dX5_stitch_39 (by decide) (fun c39 => ?_) (fun c39 => ?_)
      · rw [if_neg c39] at hF
        refine lv_aload hx hb dX5_stitch_45 (lv_at hl 0 rfl) ?_
        refine kx_cV (As := []) (rest := []) ⟨hx, hb, hml, hown, hts⟩ (c_X2_isFull l dC dI cyI cyZ hs a0 a1 a2 n ea co ti an (by omega) _ rfl) (cwV 0 hts gX5_stitch_X2_isFull rfl rfl rfl (by decide +kernel) ⟨Nat.le_of_ble_eq_true rfl, Nat.le_of_ble_eq_true rfl⟩) hP hK hN [2, 3, 4, 5] rfl [0, 1] rfl 2 2 rfl rfl rfl rfl hl.1 rfl (Nat.le_of_ble_eq_true rfl) dX5_stitch_47 ⟨Nat.zero_le _, Nat.zero_le _⟩ ?_
        refine lv_if_eq (tgt := 56) hx hb dX5_stitch_50 (by decide) (fun c50 => ?_) (fun c50 => ?_)
        · rw [if_pos c50] at hF
          refine lv_aload hx hb dX5_stitch_56 (lv_at hl 0 rfl) ?_
          refine lv_iload_n hx hb dX5_stitch_58 rfl (lv_at hl 2 rfl) ?_
          refine lv_iload_n hx hb dX5_stitch_59 rfl (lv_at hl 3 rfl) ?_
          refine lv_iload_n hx hb dX5_stitch_60 rfl (lv_at hl 4 rfl) ?_
          generalize hq61 : fX2_append n co ti an kcl ktt kha = q61 at hF
          obtain ⟨q61a, q61b, q61c, q61d⟩ := q61
          dsimp only at hF
          refine kx_wVv (As := [.int kcl, .int ktt, .int kha]) (rest := []) (wr := [(hkc, .inr (5, [.ref ht, .ref ht1, .ref ht2, .int kp, .ref hp, .ref htr, .ref hh, .ref as])), (ht, .inr (3, [.ref hs, .ref ak, .int (nI si), .int fi]))]) (wc' := [(hs, .inr (2, [.ref a0, .ref a1, .ref a2, .int (nI q61d), .int ea])), (a0, .inl (cyI, 24, .inl q61a)), (a1, .inl (cyI, 24, .inl q61b)), (a2, .inl (cyI, 24, .inl q61c))]) (W1 := [(hkc, .inr (5, [.ref ht, .ref ht1, .ref ht2, .int kp, .ref hp, .ref htr, .ref hh, .ref as])), (ht, .inr (3, [.ref hs, .ref ak, .int (nI si), .int fi])), (hs, .inr (2, [.ref a0, .ref a1, .ref a2, .int (nI q61d), .int ea])), (a0, .inl (cyI, 24, .inl q61a)), (a1, .inl (cyI, 24, .inl q61b)), (a2, .inl (cyI, 24, .inl q61c))]) ⟨hx, hb, hml, hown, hts⟩ (c_X2_append l dC dI cyI cyZ hs a0 a1 a2 n ea co ti an kcl ktt kha  _ _ hq61) (cwV 3 hts gX5_stitch_X2_append rfl rfl rfl (by decide +kernel) ⟨Nat.le_of_ble_eq_true rfl, Nat.le_of_ble_eq_true rfl⟩) hP hD hS hA hK hN [2, 3, 4, 5] [0, 1] [0, 1, 2, 3, 4, 5] rfl (by decide) rfl (by decide) (by decide) (by decide) rfl [0, 1] rfl 2 2 rfl rfl rfl rfl hl.1 rfl (Nat.le_of_ble_eq_true rfl) dX5_stitch_61 ⟨Nat.zero_le _, Nat.zero_le _⟩ (fun H locs hP hD hS => ?_)
          refine lv_aload hx hb dX5_stitch_64 (lv_at hl 0 rfl) ?_
          refine va_get (D := (dC, dI)) (ci := 2) (v := .int (nI q61d)) (C := RX2) (T := TX2) (N := 5) hx hb hts hiX2 hown hK hP 2 rfl rfl 3 (by decide) fl69 (fun _ h9 => h9) rfl dX5_stitch_66 ?_
          subst hF
          subst hAe
          exact W.iret hx hb hr (fun t ht _ => ⟨⟨_, (), rfl, rfl, by rw [ht]; exact hP, hD⟩, hS.F ht⟩) hS.2.2 dX5_stitch_69
        · rw [if_neg c50] at hF
          refine lv_bipush (v := (-4 : Int32)) hx hb dX5_stitch_53 (by decide) ?_
          subst hF
          subst hAe
          exact W.iret hx hb hr (fun t ht _ => ⟨⟨_, (), rfl, rfl, by rw [ht]; exact hP, hD⟩, hS.F ht⟩) hS.2.2 dX5_stitch_55
      · rw [if_pos c39] at hF
        refine lv_bipush (v := (-2 : Int32)) hx hb dX5_stitch_42 (by decide) ?_
        subst hF
        subst hAe
        exact W.iret hx hb hr (fun t ht _ => ⟨⟨_, (), rfl, rfl, by rw [ht]; exact hP, hD⟩, hS.F ht⟩) hS.2.2 dX5_stitch_44
  · rw [if_neg c11] at hF
    refine lv_aload hx hb dX5_stitch_14 (lv_at hl 0 rfl) ?_
    refine lv_iload_n hx hb dX5_stitch_16 rfl (lv_at hl 4 rfl) ?_
    refine kx_cV (As := [.int kha]) (rest := []) ⟨hx, hb, hml, hown, hts⟩ (c_X2_has l dC dI cyI cyZ hs a0 a1 a2 n ea co ti an kha  _ rfl) (cwV 1 hts gX5_stitch_X2_has rfl rfl rfl (by decide +kernel) ⟨Nat.le_of_ble_eq_true rfl, Nat.le_of_ble_eq_true rfl⟩) hP hK hN [2, 3, 4, 5] rfl [0, 1] rfl 2 2 rfl rfl rfl rfl hl.1 rfl (Nat.le_of_ble_eq_true rfl) dX5_stitch_17 ⟨Nat.zero_le _, Nat.zero_le _⟩ ?_
    refine lv_if_ne (tgt := 25) hx hb dX5_stitch_20 (by decide) (fun c20 => ?_) (fun c20 => ?_)
    · rw [if_neg c20] at hF
      refine lv_iload_n hx hb dX5_stitch_25 rfl (lv_at hl 2 rfl) ?_
      refine lv_iconst (v := (4 : Int32)) hx hb dX5_stitch_26 (by decide) ?_
      refine kx_cS (As := [.int kcl, .int (4 : Int32)]) (rest := []) ⟨hx, hb, hml, hown, hts⟩ (c_X5_isBelow l dC dI cyI cyZ  kcl (4 : Int32)  _ rfl) (va_cwS 2 hts gX5_stitch_X5_isBelow rfl rfl rfl (by decide +kernel) ⟨Nat.le_of_ble_eq_true rfl, Nat.le_of_ble_eq_true rfl⟩) hP hK hN [] rfl [0, 1] rfl rfl hl.1 rfl (Nat.le_of_ble_eq_true rfl) dX5_stitch_27 ⟨Nat.zero_le _, Nat.zero_le _⟩ ?_
      refine lv_if_eq (tgt := 42) hx hb dX5_stitch_30 (by decide) (fun c30 => ?_) (fun c30 => ?_)
      · rw [if_pos c30] at hF
        refine lv_bipush (v := (-2 : Int32)) hx hb dX5_stitch_42 (by decide) ?_
        subst hF
        subst hAe
        exact W.iret hx hb hr (fun t ht _ => ⟨⟨_, (), rfl, rfl, by rw [ht]; exact hP, hD⟩, hS.F ht⟩) hS.2.2 dX5_stitch_44
      · rw [if_neg c30] at hF
        refine lv_iload_n hx hb dX5_stitch_33 rfl (lv_at hl 3 rfl) ?_
        refine lv_bipush (v := (10 : Int32)) hx hb dX5_stitch_34 (by decide) ?_
        refine kx_cS (As := [.int ktt, .int (10 : Int32)]) (rest := []) ⟨hx, hb, hml, hown, hts⟩ (c_X5_isBelow l dC dI cyI cyZ  ktt (10 : Int32)  _ rfl) (va_cwS 2 hts gX5_stitch_X5_isBelow rfl rfl rfl (by decide +kernel) ⟨Nat.le_of_ble_eq_true rfl, Nat.le_of_ble_eq_true rfl⟩) hP hK hN [] rfl [0, 1] rfl rfl hl.1 rfl (Nat.le_of_ble_eq_true rfl) dX5_stitch_36 ⟨Nat.zero_le _, Nat.zero_le _⟩ ?_
        refine lv_if_ne (tgt := 45) hx hb dX5_stitch_39 (by decide) (fun c39 => ?_) (fun c39 => ?_)
        · rw [if_neg c39] at hF
          refine lv_aload hx hb dX5_stitch_45 (lv_at hl 0 rfl) ?_
          refine kx_cV (As := []) (rest := []) ⟨hx, hb, hml, hown, hts⟩ (c_X2_isFull l dC dI cyI cyZ hs a0 a1 a2 n ea co ti an (by omega) _ rfl) (cwV 0 hts gX5_stitch_X2_isFull rfl rfl rfl (by decide +kernel) ⟨Nat.le_of_ble_eq_true rfl, Nat.le_of_ble_eq_true rfl⟩) hP hK hN [2, 3, 4, 5] rfl [0, 1] rfl 2 2 rfl rfl rfl rfl hl.1 rfl (Nat.le_of_ble_eq_true rfl) dX5_stitch_47 ⟨Nat.zero_le _, Nat.zero_le _⟩ ?_
          refine lv_if_eq (tgt := 56) hx hb dX5_stitch_50 (by decide) (fun c50 => ?_) (fun c50 => ?_)
          · rw [if_pos c50] at hF
            refine lv_aload hx hb dX5_stitch_56 (lv_at hl 0 rfl) ?_
            refine lv_iload_n hx hb dX5_stitch_58 rfl (lv_at hl 2 rfl) ?_
            refine lv_iload_n hx hb dX5_stitch_59 rfl (lv_at hl 3 rfl) ?_
            refine lv_iload_n hx hb dX5_stitch_60 rfl (lv_at hl 4 rfl) ?_
            generalize hq61 : fX2_append n co ti an kcl ktt kha = q61 at hF
            obtain ⟨q61a, q61b, q61c, q61d⟩ := q61
            dsimp only at hF
            refine kx_wVv (As := [.int kcl, .int ktt, .int kha]) (rest := []) (wr := [(hkc, .inr (5, [.ref ht, .ref ht1, .ref ht2, .int kp, .ref hp, .ref htr, .ref hh, .ref as])), (ht, .inr (3, [.ref hs, .ref ak, .int (nI si), .int fi]))]) (wc' := [(hs, .inr (2, [.ref a0, .ref a1, .ref a2, .int (nI q61d), .int ea])), (a0, .inl (cyI, 24, .inl q61a)), (a1, .inl (cyI, 24, .inl q61b)), (a2, .inl (cyI, 24, .inl q61c))]) (W1 := [(hkc, .inr (5, [.ref ht, .ref ht1, .ref ht2, .int kp, .ref hp, .ref htr, .ref hh, .ref as])), (ht, .inr (3, [.ref hs, .ref ak, .int (nI si), .int fi])), (hs, .inr (2, [.ref a0, .ref a1, .ref a2, .int (nI q61d), .int ea])), (a0, .inl (cyI, 24, .inl q61a)), (a1, .inl (cyI, 24, .inl q61b)), (a2, .inl (cyI, 24, .inl q61c))]) ⟨hx, hb, hml, hown, hts⟩ (c_X2_append l dC dI cyI cyZ hs a0 a1 a2 n ea co ti an kcl ktt kha  _ _ hq61) (cwV 3 hts gX5_stitch_X2_append rfl rfl rfl (by decide +kernel) ⟨Nat.le_of_ble_eq_true rfl, Nat.le_of_ble_eq_true rfl⟩) hP hD hS hA hK hN [2, 3, 4, 5] [0, 1] [0, 1, 2, 3, 4, 5] rfl (by decide) rfl (by decide) (by decide) (by decide) rfl [0, 1] rfl 2 2 rfl rfl rfl rfl hl.1 rfl (Nat.le_of_ble_eq_true rfl) dX5_stitch_61 ⟨Nat.zero_le _, Nat.zero_le _⟩ (fun H locs hP hD hS => ?_)
            refine lv_aload hx hb dX5_stitch_64 (lv_at hl 0 rfl) ?_
            refine va_get (D := (dC, dI)) (ci := 2) (v := .int (nI q61d)) (C := RX2) (T := TX2) (N := 5) hx hb hts hiX2 hown hK hP 2 rfl rfl 3 (by decide) fl69 (fun _ h9 => h9) rfl dX5_stitch_66 ?_
            subst hF
            subst hAe
            exact W.iret hx hb hr (fun t ht _ => ⟨⟨_, (), rfl, rfl, by rw [ht]; exact hP, hD⟩, hS.F ht⟩) hS.2.2 dX5_stitch_69
          · rw [if_neg c50] at hF
            refine lv_bipush (v := (-4 : Int32)) hx hb dX5_stitch_53 (by decide) ?_
            subst hF
            subst hAe
            exact W.iret hx hb hr (fun t ht _ => ⟨⟨_, (), rfl, rfl, by rw [ht]; exact hP, hD⟩, hS.F ht⟩) hS.2.2 dX5_stitch_55
        · rw [if_pos c39] at hF
          refine lv_bipush (v := (-2 : Int32)) hx hb dX5_stitch_42 (by decide) ?_
          subst hF
          subst hAe
          exact W.iret hx hb hr (fun t ht _ => ⟨⟨_, (), rfl, rfl, by rw [ht]; exact hP, hD⟩, hS.F ht⟩) hS.2.2 dX5_stitch_44
    · rw [if_pos c20] at hF
      refine lv_iconst (v := (-1 : Int32)) hx hb dX5_stitch_23 (by decide) ?_
      subst hF
      subst hAe
      exact W.iret hx hb hr (fun t ht _ => ⟨⟨_, (), rfl, rfl, by rw [ht]; exact hP, hD⟩, hS.F ht⟩) hS.2.2 dX5_stitch_24

def fX5_cast (n : Nat) : Int32 × Nat × Int32 :=
  (match fX2_clear with | (q18a, q18b) => ((nI n), q18a, q18b))
set_option maxHeartbeats 4000000 in
set_option maxRecDepth 100000 in
theorem c_X5_cast (l : Launch) (dC : Nat → ClassId) (dI : Nat → Nat → Nat) (cyI cyZ : ClassId) (hkc ht ht1 ht2 hp htr hh as hs ak a0 a1 a2 : Nat) (kp : Int32) (si : Nat) (fi : Int32) (n : Nat) (ea : Int32) (co : Nat → Int32) (ti : Nat → Int32) (an : Nat → Int32) (sz : Nat) (r : Int32 × Nat × Int32) (hF : fX5_cast n = r) : Met l yX5_cast wsX5_cast ({ frames := 1, cells := 0, slots := 0, locals := 20 }) (kx_wp (dC, dI) [(hkc, .inr (5, [.ref ht, .ref ht1, .ref ht2, .int kp, .ref hp, .ref htr, .ref hh, .ref as])), (ht, .inr (3, [.ref hs, .ref ak, .int (nI si), .int fi])), (hs, .inr (2, [.ref a0, .ref a1, .ref a2, .int (nI n), .int ea])), (a0, .inl (cyI, 24, .inl co)), (a1, .inl (cyI, 24, .inl ti)), (a2, .inl (cyI, 24, .inl an))] [(cyI, .int), (cyZ, .boolean)] sz [.ref hkc]) (kx_Qi r.1 (dC, dI) [(hkc, .inr (5, [.ref ht, .ref ht1, .ref ht2, .int kp, .ref hp, .ref htr, .ref hh, .ref as])), (ht, .inr (3, [.ref hs, .ref ak, .int (nI si), .int fi])), (hs, .inr (2, [.ref a0, .ref a1, .ref a2, .int (nI n), .int ea])), (a0, .inl (cyI, 24, .inl co)), (a1, .inl (cyI, 24, .inl ti)), (a2, .inl (cyI, 24, .inl an))] [(hkc, .inr (5, [.ref ht, .ref ht1, .ref ht2, .int kp, .ref hp, .ref htr, .ref hh, .ref as])), (ht, .inr (3, [.ref hs, .ref ak, .int (nI si), .int fi])), (hs, .inr (2, [.ref a0, .ref a1, .ref a2, .int (nI (r.2.1)), .int r.2.2])), (a0, .inl (cyI, 24, .inl co)), (a1, .inl (cyI, 24, .inl ti)), (a2, .inl (cyI, 24, .inl an))] sz) 0 0 (va_A [(hkc, .inr (5, [.ref ht, .ref ht1, .ref ht2, .int kp, .ref hp, .ref htr, .ref hh, .ref as])), (ht, .inr (3, [.ref hs, .ref ak, .int (nI si), .int fi])), (hs, .inr (2, [.ref a0, .ref a1, .ref a2, .int (nI n), .int ea])), (a0, .inl (cyI, 24, .inl co)), (a1, .inl (cyI, 24, .inl ti)), (a2, .inl (cyI, 24, .inl an))] sz) := by
  refine Met.ofW (cc := cX5_cast) (maxL := 2) (ret := (some .int)) (by decide) rfl ?_
  intro p e s m args below meth c s₁ B hml hv
  obtain ⟨rfl, hsz, hP, hK, hN, hD0⟩ := hv
  have hx := B.exec
  have hb := B.bytes
  have hr := B.returns
  have hts := atoms_spec (ws := wsX5_cast) B.pre
  have hown : s.vm.findClass RX5 = some m.cls := findClass_of_methodNamed B.named
  have hlocks := B.notSynchronized
  subst hsz
  obtain ⟨A, hAe⟩ : ∃ A, A = va_A [(hkc, .inr (5, [.ref ht, .ref ht1, .ref ht2, .int kp, .ref hp, .ref htr, .ref hh, .ref as])), (ht, .inr (3, [.ref hs, .ref ak, .int (nI si), .int fi])), (hs, .inr (2, [.ref a0, .ref a1, .ref a2, .int (nI n), .int ea])), (a0, .inl (cyI, 24, .inl co)), (a1, .inl (cyI, 24, .inl ti)), (a2, .inl (cyI, 24, .inl an))] s.heap.size := ⟨_, rfl⟩
  have hD : va_D A [(hkc, .inr (5, [.ref ht, .ref ht1, .ref ht2, .int kp, .ref hp, .ref htr, .ref hh, .ref as])), (ht, .inr (3, [.ref hs, .ref ak, .int (nI si), .int fi])), (hs, .inr (2, [.ref a0, .ref a1, .ref a2, .int (nI n), .int ea])), (a0, .inl (cyI, 24, .inl co)), (a1, .inl (cyI, 24, .inl ti)), (a2, .inl (cyI, 24, .inl an))] := by rw [hAe]; exact hD0.self
  have hA : ∀ q : Nat, s.heap.size ≤ q → A q := fun q h => by rw [hAe]; exact Or.inr h
  have hS : va_S A s.heap s.heap [] := va_S.rf
  have hiX2 : ∀ w ∈ wsX20, w ∈ wsX5_cast := by decide +kernel
  have hiX3 : ∀ w ∈ wsX30, w ∈ wsX5_cast := by decide +kernel
  have hiX5 : ∀ w ∈ wsX50, w ∈ wsX5_cast := by decide +kernel
  have fl10 := hts (.fieldLink RX5 10 "KnitChronicle" "town" "LKnitChronicle$Town;") (by decide +kernel)
  have fl47 := hts (.fieldLink RX5 47 "KnitChronicle$Town" "scarf" "LKnitChronicle$Scarf;") (by decide +kernel)
  have fl69 := hts (.fieldLink RX5 69 "KnitChronicle$Scarf" "size" "I") (by decide +kernel)
  have hl := lv_entry ([.ref hkc]) (n := 2) (Nat.le_of_ble_eq_true rfl)
  rw [lg_entry_eq]
  generalize (lg_sl ([.ref hkc]) ++ List.replicate (2 - (lg_sl ([.ref hkc])).length) Slot.unset).toArray = ls at hl ⊢
  have hl : lv_has ls 2 [(0, .ref hkc)] := hl
  unfold fX5_cast at hF
  refine lv_aload_n hx hb dX5_cast_0 rfl (lv_at hl 0 rfl) ?_
  refine va_get (D := (dC, dI)) (ci := 5) (v := .ref ht) (C := RX5) (T := TX5) (N := 8) hx hb hts hiX5 hown hK hP 0 rfl rfl 0 (by decide) fl10 (fun _ h9 => h9) rfl dX5_cast_1 ?_
  refine va_get (D := (dC, dI)) (ci := 3) (v := .ref hs) (C := RX3) (T := TX3) (N := 4) hx hb hts hiX3 hown hK hP 1 rfl rfl 0 (by decide) fl47 (fun _ h9 => h9) rfl dX5_cast_4 ?_
  refine va_get (D := (dC, dI)) (ci := 2) (v := .int (nI n)) (C := RX2) (T := TX2) (N := 5) hx hb hts hiX2 hown hK hP 2 rfl rfl 3 (by decide) fl69 (fun _ h9 => h9) rfl dX5_cast_7 ?_
  refine lv_istore_n (lv' := [(1, .int (nI n)), (0, .ref hkc)]) hx hb dX5_cast_10 rfl hl (by decide) rfl (fun ls hl => ?_)
  refine lv_aload_n hx hb dX5_cast_11 rfl (lv_at hl 1 rfl) ?_
  refine va_get (D := (dC, dI)) (ci := 5) (v := .ref ht) (C := RX5) (T := TX5) (N := 8) hx hb hts hiX5 hown hK hP 0 rfl rfl 0 (by decide) fl10 (fun _ h9 => h9) rfl dX5_cast_12 ?_
  refine va_get (D := (dC, dI)) (ci := 3) (v := .ref hs) (C := RX3) (T := TX3) (N := 4) hx hb hts hiX3 hown hK hP 1 rfl rfl 0 (by decide) fl47 (fun _ h9 => h9) rfl dX5_cast_15 ?_
  generalize hq18 : fX2_clear = q18 at hF
  obtain ⟨q18a, q18b⟩ := q18
  dsimp only at hF
  refine kx_wVv (As := []) (rest := []) (wr := [(hkc, .inr (5, [.ref ht, .ref ht1, .ref ht2, .int kp, .ref hp, .ref htr, .ref hh, .ref as])), (ht, .inr (3, [.ref hs, .ref ak, .int (nI si), .int fi]))]) (wc' := [(hs, .inr (2, [.ref a0, .ref a1, .ref a2, .int (nI q18a), .int q18b])), (a0, .inl (cyI, 24, .inl co)), (a1, .inl (cyI, 24, .inl ti)), (a2, .inl (cyI, 24, .inl an))]) (W1 := [(hkc, .inr (5, [.ref ht, .ref ht1, .ref ht2, .int kp, .ref hp, .ref htr, .ref hh, .ref as])), (ht, .inr (3, [.ref hs, .ref ak, .int (nI si), .int fi])), (hs, .inr (2, [.ref a0, .ref a1, .ref a2, .int (nI q18a), .int q18b])), (a0, .inl (cyI, 24, .inl co)), (a1, .inl (cyI, 24, .inl ti)), (a2, .inl (cyI, 24, .inl an))]) ⟨hx, hb, hml, hown, hts⟩ (c_X2_clear l dC dI cyI cyZ hs a0 a1 a2 n ea co ti an  _ _ hq18) (cwV 0 hts gX5_cast_X2_clear rfl rfl rfl (by decide +kernel) ⟨Nat.le_of_ble_eq_true rfl, Nat.le_of_ble_eq_true rfl⟩) hP hD hS hA hK hN [2, 3, 4, 5] [0, 1] [0, 1, 2, 3, 4, 5] rfl (by decide) rfl (by decide) (by decide) (by decide) rfl [0, 1] rfl 2 2 rfl rfl rfl rfl hl.1 rfl (Nat.le_of_ble_eq_true rfl) dX5_cast_18 ⟨Nat.zero_le _, Nat.zero_le _⟩ (fun H locs hP hD hS => ?_)
  refine lv_iload_n hx hb dX5_cast_21 rfl (lv_at hl 0 rfl) ?_
  subst hF
  subst hAe
  exact W.iret hx hb hr (fun t ht _ => ⟨⟨_, (), rfl, rfl, by rw [ht]; exact hP, hD⟩, hS.F ht⟩) hS.2.2 dX5_cast_22

def fX5_knitter (kt : Nat → Int32) (kn : Int32) (ktt : Int32) : Int32 × (Nat → Int32) :=
  (if (fX5_isBelow kn (4 : Int32)) = 0 then ((-1 : Int32), kt) else (if (fX5_isBelow ktt (10 : Int32)) = 0 then ((-2 : Int32), kt) else ((fun (q40 : Nat → Int32) => ((fX3_tightnessOf kt kn), q40)) (fX5_put kt 4 kn ktt))))
set_option maxHeartbeats 4000000 in
set_option maxRecDepth 100000 in
theorem c_X5_knitter (l : Launch) (dC : Nat → ClassId) (dI : Nat → Nat → Nat) (cyI cyZ : ClassId) (hkc ht ht1 ht2 hp htr hh as hs ak : Nat) (kp : Int32) (si : Nat) (fi : Int32) (kt : Nat → Int32) (kn : Int32) (ktt : Int32) (sz : Nat) (r : Int32 × (Nat → Int32)) (hF : fX5_knitter kt kn ktt = r) : Met l yX5_knitter wsX5_knitter ({ frames := 2, cells := 0, slots := 0, locals := 42 }) (kx_wp (dC, dI) [(hkc, .inr (5, [.ref ht, .ref ht1, .ref ht2, .int kp, .ref hp, .ref htr, .ref hh, .ref as])), (ht, .inr (3, [.ref hs, .ref ak, .int (nI si), .int fi])), (ak, .inl (cyI, 4, .inl kt))] [(cyI, .int), (cyZ, .boolean)] sz [.ref hkc, .int kn, .int ktt]) (kx_Qi r.1 (dC, dI) [(hkc, .inr (5, [.ref ht, .ref ht1, .ref ht2, .int kp, .ref hp, .ref htr, .ref hh, .ref as])), (ht, .inr (3, [.ref hs, .ref ak, .int (nI si), .int fi])), (ak, .inl (cyI, 4, .inl kt))] [(hkc, .inr (5, [.ref ht, .ref ht1, .ref ht2, .int kp, .ref hp, .ref htr, .ref hh, .ref as])), (ht, .inr (3, [.ref hs, .ref ak, .int (nI si), .int fi])), (ak, .inl (cyI, 4, .inl r.2))] sz) 0 0 (va_A [(hkc, .inr (5, [.ref ht, .ref ht1, .ref ht2, .int kp, .ref hp, .ref htr, .ref hh, .ref as])), (ht, .inr (3, [.ref hs, .ref ak, .int (nI si), .int fi])), (ak, .inl (cyI, 4, .inl kt))] sz) := by
  refine Met.ofW (cc := cX5_knitter) (maxL := 4) (ret := (some .int)) (by decide) rfl ?_
  intro p e s m args below meth c s₁ B hml hv
  obtain ⟨rfl, hsz, hP, hK, hN, hD0⟩ := hv
  have hx := B.exec
  have hb := B.bytes
  have hr := B.returns
  have hts := atoms_spec (ws := wsX5_knitter) B.pre
  have hown : s.vm.findClass RX5 = some m.cls := findClass_of_methodNamed B.named
  have hlocks := B.notSynchronized
  subst hsz
  obtain ⟨A, hAe⟩ : ∃ A, A = va_A [(hkc, .inr (5, [.ref ht, .ref ht1, .ref ht2, .int kp, .ref hp, .ref htr, .ref hh, .ref as])), (ht, .inr (3, [.ref hs, .ref ak, .int (nI si), .int fi])), (ak, .inl (cyI, 4, .inl kt))] s.heap.size := ⟨_, rfl⟩
  have hD : va_D A [(hkc, .inr (5, [.ref ht, .ref ht1, .ref ht2, .int kp, .ref hp, .ref htr, .ref hh, .ref as])), (ht, .inr (3, [.ref hs, .ref ak, .int (nI si), .int fi])), (ak, .inl (cyI, 4, .inl kt))] := by rw [hAe]; exact hD0.self
  have hA : ∀ q : Nat, s.heap.size ≤ q → A q := fun q h => by rw [hAe]; exact Or.inr h
  have hS : va_S A s.heap s.heap [] := va_S.rf
  have hiX3 : ∀ w ∈ wsX30, w ∈ wsX5_knitter := by decide +kernel
  have hiX5 : ∀ w ∈ wsX50, w ∈ wsX5_knitter := by decide +kernel
  have fl10 := hts (.fieldLink RX5 10 "KnitChronicle" "town" "LKnitChronicle$Town;") (by decide +kernel)
  have fl80 := hts (.fieldLink RX5 80 "KnitChronicle$Town" "knitterTightness" "[I") (by decide +kernel)
  have hl := lv_entry ([.ref hkc, .int kn, .int ktt]) (n := 4) (Nat.le_of_ble_eq_true rfl)
  rw [lg_entry_eq]
  generalize (lg_sl ([.ref hkc, .int kn, .int ktt]) ++ List.replicate (4 - (lg_sl ([.ref hkc, .int kn, .int ktt])).length) Slot.unset).toArray = ls at hl ⊢
  have hl : lv_has ls 4 [(0, .ref hkc), (1, .int kn), (2, .int ktt)] := hl
  unfold fX5_knitter at hF
  refine lv_iload_n hx hb dX5_knitter_0 rfl (lv_at hl 1 rfl) ?_
  refine lv_iconst (v := (4 : Int32)) hx hb dX5_knitter_1 (by decide) ?_
  refine kx_cS (As := [.int kn, .int (4 : Int32)]) (rest := []) ⟨hx, hb, hml, hown, hts⟩ (c_X5_isBelow l dC dI cyI cyZ  kn (4 : Int32)  _ rfl) (va_cwS 2 hts gX5_knitter_X5_isBelow rfl rfl rfl (by decide +kernel) ⟨Nat.le_of_ble_eq_true rfl, Nat.le_of_ble_eq_true rfl⟩) hP hK hN [] rfl [0, 1] rfl rfl hl.1 rfl (Nat.le_of_ble_eq_true rfl) dX5_knitter_2 ⟨Nat.zero_le _, Nat.zero_le _⟩ ?_
  refine lv_if_ne (tgt := 10) hx hb dX5_knitter_5 (by decide) (fun c5 => ?_) (fun c5 => ?_)
  · rw [if_neg c5] at hF
    refine lv_iload_n hx hb dX5_knitter_10 rfl (lv_at hl 2 rfl) ?_
    refine lv_bipush (v := (10 : Int32)) hx hb dX5_knitter_11 (by decide) ?_
    refine kx_cS (As := [.int ktt, .int (10 : Int32)]) (rest := []) ⟨hx, hb, hml, hown, hts⟩ (c_X5_isBelow l dC dI cyI cyZ  ktt (10 : Int32)  _ rfl) (va_cwS 2 hts gX5_knitter_X5_isBelow rfl rfl rfl (by decide +kernel) ⟨Nat.le_of_ble_eq_true rfl, Nat.le_of_ble_eq_true rfl⟩) hP hK hN [] rfl [0, 1] rfl rfl hl.1 rfl (Nat.le_of_ble_eq_true rfl) dX5_knitter_13 ⟨Nat.zero_le _, Nat.zero_le _⟩ ?_
    refine lv_if_ne (tgt := 22) hx hb dX5_knitter_16 (by decide) (fun c16 => ?_) (fun c16 => ?_)
    · rw [if_neg c16] at hF
      refine lv_aload_n hx hb dX5_knitter_22 rfl (lv_at hl 0 rfl) ?_
      refine va_get (D := (dC, dI)) (ci := 5) (v := .ref ht) (C := RX5) (T := TX5) (N := 8) hx hb hts hiX5 hown hK hP 0 rfl rfl 0 (by decide) fl10 (fun _ h9 => h9) rfl dX5_knitter_23 ?_
      refine lv_iload_n hx hb dX5_knitter_26 rfl (lv_at hl 1 rfl) ?_
      refine kx_cV (As := [.int kn]) (rest := []) ⟨hx, hb, hml, hown, hts⟩ (c_X3_tightnessOf l dC dI cyI cyZ ht hs ak si fi kt kn  _ rfl) (cwV 1 hts gX5_knitter_X3_tightnessOf rfl rfl rfl (by decide +kernel) ⟨Nat.le_of_ble_eq_true rfl, Nat.le_of_ble_eq_true rfl⟩) hP hK hN [1, 2] rfl [0, 1] rfl 3 1 rfl rfl rfl rfl hl.1 rfl (Nat.le_of_ble_eq_true rfl) dX5_knitter_27 ⟨Nat.zero_le _, Nat.zero_le _⟩ ?_
      refine lv_istore_n (lv' := [(3, .int (fX3_tightnessOf kt kn)), (0, .ref hkc), (1, .int kn), (2, .int ktt)]) hx hb dX5_knitter_30 rfl hl (by decide) rfl (fun ls hl => ?_)
      refine lv_aload_n hx hb dX5_knitter_31 rfl (lv_at hl 1 rfl) ?_
      refine va_get (D := (dC, dI)) (ci := 5) (v := .ref ht) (C := RX5) (T := TX5) (N := 8) hx hb hts hiX5 hown hK hP 0 rfl rfl 0 (by decide) fl10 (fun _ h9 => h9) rfl dX5_knitter_32 ?_
      refine va_get (D := (dC, dI)) (ci := 3) (v := .ref ak) (C := RX3) (T := TX3) (N := 4) hx hb hts hiX3 hown hK hP 1 rfl rfl 1 (by decide) fl80 (fun _ h9 => h9) rfl dX5_knitter_35 ?_
      refine lv_iload_n hx hb dX5_knitter_38 rfl (lv_at hl 2 rfl) ?_
      refine lv_iload_n hx hb dX5_knitter_39 rfl (lv_at hl 3 rfl) ?_
      generalize hq40 : fX5_put kt 4 kn ktt = q40 at hF
      try dsimp only at hF
      refine kx_wSv (As := [.ref ak, .int kn, .int ktt]) (rest := []) (wr := [(hkc, .inr (5, [.ref ht, .ref ht1, .ref ht2, .int kp, .ref hp, .ref htr, .ref hh, .ref as])), (ht, .inr (3, [.ref hs, .ref ak, .int (nI si), .int fi]))]) (wc' := [(ak, .inl (cyI, 4, .inl q40))]) (W1 := [(hkc, .inr (5, [.ref ht, .ref ht1, .ref ht2, .int kp, .ref hp, .ref htr, .ref hh, .ref as])), (ht, .inr (3, [.ref hs, .ref ak, .int (nI si), .int fi])), (ak, .inl (cyI, 4, .inl q40))]) ⟨hx, hb, hml, hown, hts⟩ (c_X5_put l dC dI cyI cyZ ak kt 4 kn ktt (by omega) _ _ hq40) (va_cwS 3 hts gX5_knitter_X5_put rfl rfl rfl (by decide +kernel) ⟨Nat.le_of_ble_eq_true rfl, Nat.le_of_ble_eq_true rfl⟩) hP hD hS hA hK hN [2] [0, 1] [0, 1, 2] rfl (by decide) rfl (by decide) (by decide) (by decide) rfl [0, 1] rfl rfl hl.1 rfl (Nat.le_of_ble_eq_true rfl) dX5_knitter_40 ⟨Nat.zero_le _, Nat.zero_le _⟩ (fun H locs hP hD hS => ?_)
      refine lv_iload_n hx hb dX5_knitter_43 rfl (lv_at hl 0 rfl) ?_
      subst hF
      subst hAe
      exact W.iret hx hb hr (fun t ht _ => ⟨⟨_, (), rfl, rfl, by rw [ht]; exact hP, hD⟩, hS.F ht⟩) hS.2.2 dX5_knitter_44
    · rw [if_pos c16] at hF
      refine lv_bipush (v := (-2 : Int32)) hx hb dX5_knitter_19 (by decide) ?_
      subst hF
      subst hAe
      exact W.iret hx hb hr (fun t ht _ => ⟨⟨_, (), rfl, rfl, by rw [ht]; exact hP, hD⟩, hS.F ht⟩) hS.2.2 dX5_knitter_21
  · rw [if_pos c5] at hF
    refine lv_iconst (v := (-1 : Int32)) hx hb dX5_knitter_8 (by decide) ?_
    subst hF
    subst hAe
    exact W.iret hx hb hr (fun t ht _ => ⟨⟨_, (), rfl, rfl, by rw [ht]; exact hP, hD⟩, hS.F ht⟩) hS.2.2 dX5_knitter_9

def fX5_say (np : Nat) (sg : Nat → Int32) (sn : Int32) : Int32 × (Nat → Int32) × Nat :=
  (if sn < (33 : Int32) then ((-2 : Int32), sg, np) else (if sn ≤ (126 : Int32) then (if np < 60 then (match fX1_append np sg sn with | (q35a, q35b) => ((nI q35b), q35a, q35b)) else ((-4 : Int32), sg, np)) else ((-2 : Int32), sg, np)))
set_option maxHeartbeats 4000000 in
set_option maxRecDepth 100000 in
theorem c_X5_say (l : Launch) (dC : Nat → ClassId) (dI : Nat → Nat → Nat) (cyI cyZ : ClassId) (hkc ht ht1 ht2 hp htr hh as ap : Nat) (kp : Int32) (np : Nat) (sg : Nat → Int32) (sn : Int32) (hnp : np ≤ 60) (sz : Nat) (r : Int32 × (Nat → Int32) × Nat) (hF : fX5_say np sg sn = r) : Met l yX5_say wsX5_say ({ frames := 2, cells := 0, slots := 0, locals := 43 }) (kx_wp (dC, dI) [(hkc, .inr (5, [.ref ht, .ref ht1, .ref ht2, .int kp, .ref hp, .ref htr, .ref hh, .ref as])), (hp, .inr (1, [.ref ap, .int (nI np)])), (ap, .inl (cyI, 60, .inl sg))] [(cyI, .int), (cyZ, .boolean)] sz [.ref hkc, .int sn]) (kx_Qi r.1 (dC, dI) [(hkc, .inr (5, [.ref ht, .ref ht1, .ref ht2, .int kp, .ref hp, .ref htr, .ref hh, .ref as])), (hp, .inr (1, [.ref ap, .int (nI np)])), (ap, .inl (cyI, 60, .inl sg))] [(hkc, .inr (5, [.ref ht, .ref ht1, .ref ht2, .int kp, .ref hp, .ref htr, .ref hh, .ref as])), (hp, .inr (1, [.ref ap, .int (nI (r.2.2))])), (ap, .inl (cyI, 60, .inl r.2.1))] sz) 0 0 (va_A [(hkc, .inr (5, [.ref ht, .ref ht1, .ref ht2, .int kp, .ref hp, .ref htr, .ref hh, .ref as])), (hp, .inr (1, [.ref ap, .int (nI np)])), (ap, .inl (cyI, 60, .inl sg))] sz) := by
  refine Met.ofW (cc := cX5_say) (maxL := 2) (ret := (some .int)) (by decide) rfl ?_
  intro p e s m args below meth c s₁ B hml hv
  obtain ⟨rfl, hsz, hP, hK, hN, hD0⟩ := hv
  have hx := B.exec
  have hb := B.bytes
  have hr := B.returns
  have hts := atoms_spec (ws := wsX5_say) B.pre
  have hown : s.vm.findClass RX5 = some m.cls := findClass_of_methodNamed B.named
  have hlocks := B.notSynchronized
  subst hsz
  obtain ⟨A, hAe⟩ : ∃ A, A = va_A [(hkc, .inr (5, [.ref ht, .ref ht1, .ref ht2, .int kp, .ref hp, .ref htr, .ref hh, .ref as])), (hp, .inr (1, [.ref ap, .int (nI np)])), (ap, .inl (cyI, 60, .inl sg))] s.heap.size := ⟨_, rfl⟩
  have hD : va_D A [(hkc, .inr (5, [.ref ht, .ref ht1, .ref ht2, .int kp, .ref hp, .ref htr, .ref hh, .ref as])), (hp, .inr (1, [.ref ap, .int (nI np)])), (ap, .inl (cyI, 60, .inl sg))] := by rw [hAe]; exact hD0.self
  have hA : ∀ q : Nat, s.heap.size ≤ q → A q := fun q h => by rw [hAe]; exact Or.inr h
  have hS : va_S A s.heap s.heap [] := va_S.rf
  have hiX1 : ∀ w ∈ wsX10, w ∈ wsX5_say := by decide +kernel
  have hiX5 : ∀ w ∈ wsX50, w ∈ wsX5_say := by decide +kernel
  have fl25 := hts (.fieldLink RX5 25 "KnitChronicle" "pad" "LKnitChronicle$Pad;") (by decide +kernel)
  have fl87 := hts (.fieldLink RX5 87 "KnitChronicle$Pad" "length" "I") (by decide +kernel)
  have hl := lv_entry ([.ref hkc, .int sn]) (n := 2) (Nat.le_of_ble_eq_true rfl)
  rw [lg_entry_eq]
  generalize (lg_sl ([.ref hkc, .int sn]) ++ List.replicate (2 - (lg_sl ([.ref hkc, .int sn])).length) Slot.unset).toArray = ls at hl ⊢
  have hl : lv_has ls 2 [(0, .ref hkc), (1, .int sn)] := hl
  unfold fX5_say at hF
  refine lv_iload_n hx hb dX5_say_0 rfl (lv_at hl 1 rfl) ?_
  refine lv_bipush (v := (33 : Int32)) hx hb dX5_say_1 (by decide) ?_
  refine lv_icmp_lt (tgt := 12) hx hb dX5_say_3 (by decide) (fun c3 => ?_) (fun c3 => ?_)
  · rw [if_pos c3] at hF
    refine lv_bipush (v := (-2 : Int32)) hx hb dX5_say_12 (by decide) ?_
    subst hF
    subst hAe
    exact W.iret hx hb hr (fun t ht _ => ⟨⟨_, (), rfl, rfl, by rw [ht]; exact hP, hD⟩, hS.F ht⟩) hS.2.2 dX5_say_14
  · rw [if_neg c3] at hF
    refine lv_iload_n hx hb dX5_say_6 rfl (lv_at hl 1 rfl) ?_
    refine lv_bipush (v := (126 : Int32)) hx hb dX5_say_7 (by decide) ?_
    refine lv_icmp_le (tgt := 15) hx hb dX5_say_9 (by decide) (fun c9 => ?_) (fun c9 => ?_)
    · rw [if_pos c9] at hF
      refine lv_aload_n hx hb dX5_say_15 rfl (lv_at hl 0 rfl) ?_
      refine va_get (D := (dC, dI)) (ci := 5) (v := .ref hp) (C := RX5) (T := TX5) (N := 8) hx hb hts hiX5 hown hK hP 0 rfl rfl 4 (by decide) fl25 (fun _ h9 => h9) rfl dX5_say_16 ?_
      refine va_get (D := (dC, dI)) (ci := 1) (v := .int (nI np)) (C := RX1) (T := TX1) (N := 2) hx hb hts hiX1 hown hK hP 1 rfl rfl 1 (by decide) fl87 (fun _ h9 => h9) rfl dX5_say_19 ?_
      refine lv_bipush (v := (60 : Int32)) hx hb dX5_say_22 (by decide) ?_
      refine kx_lt hx hb (np) (60) rfl rfl (by omega) (by omega) dX5_say_24 (by decide) (tgt := 30) (fun c24 => ?_) (fun c24 => ?_)
      · rw [if_pos c24] at hF
        refine lv_aload_n hx hb dX5_say_30 rfl (lv_at hl 0 rfl) ?_
        refine va_get (D := (dC, dI)) (ci := 5) (v := .ref hp) (C := RX5) (T := TX5) (N := 8) hx hb hts hiX5 hown hK hP 0 rfl rfl 4 (by decide) fl25 (fun _ h9 => h9) rfl dX5_say_31 ?_
        refine lv_iload_n hx hb dX5_say_34 rfl (lv_at hl 1 rfl) ?_
        generalize hq35 : fX1_append np sg sn = q35 at hF
        obtain ⟨q35a, q35b⟩ := q35
        dsimp only at hF
        refine kx_wVv (As := [.int sn]) (rest := []) (wr := [(hkc, .inr (5, [.ref ht, .ref ht1, .ref ht2, .int kp, .ref hp, .ref htr, .ref hh, .ref as]))]) (wc' := [(hp, .inr (1, [.ref ap, .int (nI q35b)])), (ap, .inl (cyI, 60, .inl q35a))]) (W1 := [(hkc, .inr (5, [.ref ht, .ref ht1, .ref ht2, .int kp, .ref hp, .ref htr, .ref hh, .ref as])), (hp, .inr (1, [.ref ap, .int (nI q35b)])), (ap, .inl (cyI, 60, .inl q35a))]) ⟨hx, hb, hml, hown, hts⟩ (c_X1_append l dC dI cyI cyZ hp ap np sg sn  _ _ hq35) (cwV 1 hts gX5_say_X1_append rfl rfl rfl (by decide +kernel) ⟨Nat.le_of_ble_eq_true rfl, Nat.le_of_ble_eq_true rfl⟩) hP hD hS hA hK hN [1, 2] [0] [0, 1, 2] rfl (by decide) rfl (by decide) (by decide) (by decide) rfl [0, 1] rfl 1 1 rfl rfl rfl rfl hl.1 rfl (Nat.le_of_ble_eq_true rfl) dX5_say_35 ⟨Nat.zero_le _, Nat.zero_le _⟩ (fun H locs hP hD hS => ?_)
        refine lv_aload_n hx hb dX5_say_38 rfl (lv_at hl 0 rfl) ?_
        refine va_get (D := (dC, dI)) (ci := 5) (v := .ref hp) (C := RX5) (T := TX5) (N := 8) hx hb hts hiX5 hown hK hP 0 rfl rfl 4 (by decide) fl25 (fun _ h9 => h9) rfl dX5_say_39 ?_
        refine va_get (D := (dC, dI)) (ci := 1) (v := .int (nI q35b)) (C := RX1) (T := TX1) (N := 2) hx hb hts hiX1 hown hK hP 1 rfl rfl 1 (by decide) fl87 (fun _ h9 => h9) rfl dX5_say_42 ?_
        subst hF
        subst hAe
        exact W.iret hx hb hr (fun t ht _ => ⟨⟨_, (), rfl, rfl, by rw [ht]; exact hP, hD⟩, hS.F ht⟩) hS.2.2 dX5_say_45
      · rw [if_neg (Nat.not_lt.mpr c24)] at hF
        refine lv_bipush (v := (-4 : Int32)) hx hb dX5_say_27 (by decide) ?_
        subst hF
        subst hAe
        exact W.iret hx hb hr (fun t ht _ => ⟨⟨_, (), rfl, rfl, by rw [ht]; exact hP, hD⟩, hS.F ht⟩) hS.2.2 dX5_say_29
    · rw [if_neg c9] at hF
      refine lv_bipush (v := (-2 : Int32)) hx hb dX5_say_12 (by decide) ?_
      subst hF
      subst hAe
      exact W.iret hx hb hr (fun t ht _ => ⟨⟨_, (), rfl, rfl, by rw [ht]; exact hP, hD⟩, hS.F ht⟩) hS.2.2 dX5_say_14

def fX5_wipe (np : Nat) : Int32 × Nat :=
  ((nI np), 0)
set_option maxHeartbeats 4000000 in
set_option maxRecDepth 100000 in
theorem c_X5_wipe (l : Launch) (dC : Nat → ClassId) (dI : Nat → Nat → Nat) (cyI cyZ : ClassId) (hkc ht ht1 ht2 hp htr hh as ap : Nat) (kp : Int32) (np : Nat) (sg : Nat → Int32) (sz : Nat) (r : Int32 × Nat) (hF : fX5_wipe np = r) : Met l yX5_wipe wsX5_wipe ({ frames := 0, cells := 0, slots := 0, locals := 0 }) (kx_wp (dC, dI) [(hkc, .inr (5, [.ref ht, .ref ht1, .ref ht2, .int kp, .ref hp, .ref htr, .ref hh, .ref as])), (hp, .inr (1, [.ref ap, .int (nI np)])), (ap, .inl (cyI, 60, .inl sg))] [(cyI, .int), (cyZ, .boolean)] sz [.ref hkc]) (kx_Qi r.1 (dC, dI) [(hkc, .inr (5, [.ref ht, .ref ht1, .ref ht2, .int kp, .ref hp, .ref htr, .ref hh, .ref as])), (hp, .inr (1, [.ref ap, .int (nI np)])), (ap, .inl (cyI, 60, .inl sg))] [(hkc, .inr (5, [.ref ht, .ref ht1, .ref ht2, .int kp, .ref hp, .ref htr, .ref hh, .ref as])), (hp, .inr (1, [.ref ap, .int (nI (r.2))])), (ap, .inl (cyI, 60, .inl sg))] sz) 0 0 (va_A [(hkc, .inr (5, [.ref ht, .ref ht1, .ref ht2, .int kp, .ref hp, .ref htr, .ref hh, .ref as])), (hp, .inr (1, [.ref ap, .int (nI np)])), (ap, .inl (cyI, 60, .inl sg))] sz) := by
  refine Met.ofW (cc := cX5_wipe) (maxL := 2) (ret := (some .int)) (by decide) rfl ?_
  intro p e s m args below meth c s₁ B hml hv
  obtain ⟨rfl, hsz, hP, hK, hN, hD0⟩ := hv
  have hx := B.exec
  have hb := B.bytes
  have hr := B.returns
  have hts := atoms_spec (ws := wsX5_wipe) B.pre
  have hown : s.vm.findClass RX5 = some m.cls := findClass_of_methodNamed B.named
  have hlocks := B.notSynchronized
  subst hsz
  obtain ⟨A, hAe⟩ : ∃ A, A = va_A [(hkc, .inr (5, [.ref ht, .ref ht1, .ref ht2, .int kp, .ref hp, .ref htr, .ref hh, .ref as])), (hp, .inr (1, [.ref ap, .int (nI np)])), (ap, .inl (cyI, 60, .inl sg))] s.heap.size := ⟨_, rfl⟩
  have hD : va_D A [(hkc, .inr (5, [.ref ht, .ref ht1, .ref ht2, .int kp, .ref hp, .ref htr, .ref hh, .ref as])), (hp, .inr (1, [.ref ap, .int (nI np)])), (ap, .inl (cyI, 60, .inl sg))] := by rw [hAe]; exact hD0.self
  have hA : ∀ q : Nat, s.heap.size ≤ q → A q := fun q h => by rw [hAe]; exact Or.inr h
  have hS : va_S A s.heap s.heap [] := va_S.rf
  have hiX1 : ∀ w ∈ wsX10, w ∈ wsX5_wipe := by decide +kernel
  have hiX5 : ∀ w ∈ wsX50, w ∈ wsX5_wipe := by decide +kernel
  have fl25 := hts (.fieldLink RX5 25 "KnitChronicle" "pad" "LKnitChronicle$Pad;") (by decide +kernel)
  have fl87 := hts (.fieldLink RX5 87 "KnitChronicle$Pad" "length" "I") (by decide +kernel)
  have hl := lv_entry ([.ref hkc]) (n := 2) (Nat.le_of_ble_eq_true rfl)
  rw [lg_entry_eq]
  generalize (lg_sl ([.ref hkc]) ++ List.replicate (2 - (lg_sl ([.ref hkc])).length) Slot.unset).toArray = ls at hl ⊢
  have hl : lv_has ls 2 [(0, .ref hkc)] := hl
  unfold fX5_wipe at hF
  refine lv_aload_n hx hb dX5_wipe_0 rfl (lv_at hl 0 rfl) ?_
  refine va_get (D := (dC, dI)) (ci := 5) (v := .ref hp) (C := RX5) (T := TX5) (N := 8) hx hb hts hiX5 hown hK hP 0 rfl rfl 4 (by decide) fl25 (fun _ h9 => h9) rfl dX5_wipe_1 ?_
  refine va_get (D := (dC, dI)) (ci := 1) (v := .int (nI np)) (C := RX1) (T := TX1) (N := 2) hx hb hts hiX1 hown hK hP 1 rfl rfl 1 (by decide) fl87 (fun _ h9 => h9) rfl dX5_wipe_4 ?_
  refine lv_istore_n (lv' := [(1, .int (nI np)), (0, .ref hkc)]) hx hb dX5_wipe_7 rfl hl (by decide) rfl (fun ls hl => ?_)
  refine lv_aload_n hx hb dX5_wipe_8 rfl (lv_at hl 1 rfl) ?_
  refine va_get (D := (dC, dI)) (ci := 5) (v := .ref hp) (C := RX5) (T := TX5) (N := 8) hx hb hts hiX5 hown hK hP 0 rfl rfl 4 (by decide) fl25 (fun _ h9 => h9) rfl dX5_wipe_9 ?_
  refine lv_iconst (v := (0 : Int32)) hx hb dX5_wipe_12 (by decide) ?_
  refine va_put (D := (dC, dI)) (ci := 1) (v := .int (0 : Int32)) (ty := .int) (C := RX1) (T := TX1) (N := 2) hx hb hts hiX1 tyX1 tyX1_ok nmX1 hown hK hP hD hS 1 rfl rfl 1 (by decide) fl87 (fun _ h9 => h9) rfl (by decide +kernel) rfl rfl (Nat.le_of_ble_eq_true rfl) dX5_wipe_13 (fun H locs hP hD hS => ?_)
  have hP : va_P (dC, dI) vwCl [(hkc, .inr (5, [.ref ht, .ref ht1, .ref ht2, .int kp, .ref hp, .ref htr, .ref hh, .ref as])), (hp, .inr (1, [.ref ap, .int (0 : Int32)])), (ap, .inl (cyI, 60, .inl sg))] H := hP
  have hD : va_D A [(hkc, .inr (5, [.ref ht, .ref ht1, .ref ht2, .int kp, .ref hp, .ref htr, .ref hh, .ref as])), (hp, .inr (1, [.ref ap, .int (0 : Int32)])), (ap, .inl (cyI, 60, .inl sg))] := hD
  refine lv_iload_n hx hb dX5_wipe_16 rfl (lv_at hl 0 rfl) ?_
  subst hF
  subst hAe
  exact W.iret hx hb hr (fun t ht _ => ⟨⟨_, (), rfl, rfl, by rw [ht]; exact hP, hD⟩, hS.F ht⟩) hS.2.2 dX5_wipe_17

def fX5_fault (np : Nat) (sg : Nat → Int32) : Int32 :=
  (fX1_firstFault np sg)
set_option maxHeartbeats 4000000 in
set_option maxRecDepth 100000 in
theorem c_X5_fault (l : Launch) (dC : Nat → ClassId) (dI : Nat → Nat → Nat) (cyI cyZ : ClassId) (hkc ht ht1 ht2 hp htr hh as ap : Nat) (kp : Int32) (np : Nat) (sg : Nat → Int32) (hnp : np ≤ 60) (r : Int32) (hF : fX5_fault np sg = r) : Met l yX5_fault wsX5_fault ({ frames := 5, cells := 0, slots := 0, locals := 107 }) (kx_rp (dC, dI) [(hkc, .inr (5, [.ref ht, .ref ht1, .ref ht2, .int kp, .ref hp, .ref htr, .ref hh, .ref as])), (hp, .inr (1, [.ref ap, .int (nI np)])), (ap, .inl (cyI, 60, .inl sg))] [(cyI, .int), (cyZ, .boolean)] [.ref hkc]) (k2_QcV (.int r)) 0 0 (fun _ => False) := by
  refine Met.ofW (cc := cX5_fault) (maxL := 1) (ret := (some .int)) (by decide) rfl ?_
  intro p e s m args below meth c s₁ B hml hv
  obtain ⟨rfl, hP, hK, hN⟩ := hv
  have hx := B.exec
  have hb := B.bytes
  have hr := B.returns
  have hts := atoms_spec (ws := wsX5_fault) B.pre
  have hown : s.vm.findClass RX5 = some m.cls := findClass_of_methodNamed B.named
  have hlocks := B.notSynchronized
  have hiX5 : ∀ w ∈ wsX50, w ∈ wsX5_fault := by decide +kernel
  have fl25 := hts (.fieldLink RX5 25 "KnitChronicle" "pad" "LKnitChronicle$Pad;") (by decide +kernel)
  have hl := lv_entry ([.ref hkc]) (n := 1) (Nat.le_of_ble_eq_true rfl)
  rw [lg_entry_eq]
  generalize (lg_sl ([.ref hkc]) ++ List.replicate (1 - (lg_sl ([.ref hkc])).length) Slot.unset).toArray = ls at hl ⊢
  have hl : lv_has ls 1 [(0, .ref hkc)] := hl
  unfold fX5_fault at hF
  refine lv_aload_n hx hb dX5_fault_0 rfl (lv_at hl 0 rfl) ?_
  refine va_get (D := (dC, dI)) (ci := 5) (v := .ref hp) (C := RX5) (T := TX5) (N := 8) hx hb hts hiX5 hown hK hP 0 rfl rfl 4 (by decide) fl25 (fun _ h9 => h9) rfl dX5_fault_1 ?_
  refine kx_cV (As := []) (rest := []) ⟨hx, hb, hml, hown, hts⟩ (c_X1_firstFault l dC dI cyI cyZ hp ap np sg (by omega) _ rfl) (cwV 0 hts gX5_fault_X1_firstFault rfl rfl rfl (by decide +kernel) ⟨Nat.le_of_ble_eq_true rfl, Nat.le_of_ble_eq_true rfl⟩) hP hK hN [1, 2] rfl [0, 1] rfl 1 1 rfl rfl rfl rfl hl.1 rfl (Nat.le_of_ble_eq_true rfl) dX5_fault_4 ⟨Nat.zero_le _, Nat.zero_le _⟩ ?_
  exact W.iret hx hb hr (fun t ht _ => ⟨congrArg (fun z => Outcome.returned (some (Value.int z))) hF, ht⟩) (fun _ h => absurd h List.not_mem_nil) dX5_fault_7
