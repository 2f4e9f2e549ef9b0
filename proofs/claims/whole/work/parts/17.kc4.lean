def fX5_seen (si : Nat) (fi : Int32) (kv : Int32) (my : Int32) : Int32 × Nat × Int32 :=
  (if (fX5_isBelow kv (10 : Int32)) = 0 then ((-2 : Int32), si, fi) else (if si < 8 then (if my = 0 then ((nI (si + 1)), si + 1, (fi &&& ((fX5_near kv) ^^^ (-1 : Int32)))) else ((nI (si + 1)), si + 1, (fi &&& (fX5_near kv)))) else ((-4 : Int32), si, fi)))
set_option maxHeartbeats 4000000 in
set_option maxRecDepth 100000 in
theorem c_X5_seen (l : Launch) (dC : Nat → ClassId) (dI : Nat → Nat → Nat) (cyI cyZ : ClassId) (hkc ht ht1 ht2 hp htr hh as hs ak : Nat) (kp : Int32) (si : Nat) (fi : Int32) (kv : Int32) (my : Int32) (hsi : si ≤ 8) (sz : Nat) (r : Int32 × Nat × Int32) (hF : fX5_seen si fi kv my = r) : Met l yX5_seen wsX5_seen ({ frames := 1, cells := 0, slots := 0, locals := 21 }) (kx_wp (dC, dI) [(hkc, .inr (5, [.ref ht, .ref ht1, .ref ht2, .int kp, .ref hp, .ref htr, .ref hh, .ref as])), (ht, .inr (3, [.ref hs, .ref ak, .int (nI si), .int fi]))] [(cyI, .int), (cyZ, .boolean)] sz [.ref hkc, .int kv, .int my]) (kx_Qi r.1 (dC, dI) [(hkc, .inr (5, [.ref ht, .ref ht1, .ref ht2, .int kp, .ref hp, .ref htr, .ref hh, .ref as])), (ht, .inr (3, [.ref hs, .ref ak, .int (nI si), .int fi]))] [(hkc, .inr (5, [.ref ht, .ref ht1, .ref ht2, .int kp, .ref hp, .ref htr, .ref hh, .ref as])), (ht, .inr (3, [.ref hs, .ref ak, .int (nI (r.2.1)), .int r.2.2]))] sz) 0 0 (va_A [(hkc, .inr (5, [.ref ht, .ref ht1, .ref ht2, .int kp, .ref hp, .ref htr, .ref hh, .ref as])), (ht, .inr (3, [.ref hs, .ref ak, .int (nI si), .int fi]))] sz) := by
  refine Met.ofW (cc := cX5_seen) (maxL := 3) (ret := (some .int)) (by decide) rfl ?_
  intro p e s m args below meth c s₁ B hml hv
  obtain ⟨rfl, hsz, hP, hK, hN, hD0⟩ := hv
  have hx := B.exec
  have hb := B.bytes
  have hr := B.returns
  have hts := atoms_spec (ws := wsX5_seen) B.pre
  have hown : s.vm.findClass RX5 = some m.cls := findClass_of_methodNamed B.named
  have hlocks := B.notSynchronized
  subst hsz
  obtain ⟨A, hAe⟩ : ∃ A, A = va_A [(hkc, .inr (5, [.ref ht, .ref ht1, .ref ht2, .int kp, .ref hp, .ref htr, .ref hh, .ref as])), (ht, .inr (3, [.ref hs, .ref ak, .int (nI si), .int fi]))] s.heap.size := ⟨_, rfl⟩
  have hD : va_D A [(hkc, .inr (5, [.ref ht, .ref ht1, .ref ht2, .int kp, .ref hp, .ref htr, .ref hh, .ref as])), (ht, .inr (3, [.ref hs, .ref ak, .int (nI si), .int fi]))] := by rw [hAe]; exact hD0.self
  have hA : ∀ q : Nat, s.heap.size ≤ q → A q := fun q h => by rw [hAe]; exact Or.inr h
  have hS : va_S A s.heap s.heap [] := va_S.rf
  have hiX3 : ∀ w ∈ wsX30, w ∈ wsX5_seen := by decide +kernel
  have hiX5 : ∀ w ∈ wsX50, w ∈ wsX5_seen := by decide +kernel
  have fl10 := hts (.fieldLink RX5 10 "KnitChronicle" "town" "LKnitChronicle$Town;") (by decide +kernel)
  have fl220 := hts (.fieldLink RX5 220 "KnitChronicle$Town" "sights" "I") (by decide +kernel)
  have fl223 := hts (.fieldLink RX5 223 "KnitChronicle$Town" "fitting" "I") (by decide +kernel)
  have hl := lv_entry ([.ref hkc, .int kv, .int my]) (n := 3) (Nat.le_of_ble_eq_true rfl)
  rw [lg_entry_eq]
  generalize (lg_sl ([.ref hkc, .int kv, .int my]) ++ List.replicate (3 - (lg_sl ([.ref hkc, .int kv, .int my])).length) Slot.unset).toArray = ls at hl ⊢
  have hl : lv_has ls 3 [(0, .ref hkc), (1, .int kv), (2, .int my)] := hl
  unfold fX5_seen at hF
  refine lv_iload_n hx hb dX5_seen_0 rfl (lv_at hl 1 rfl) ?_
  refine lv_bipush (v := (10 : Int32)) hx hb dX5_seen_1 (by decide) ?_
  refine kx_cS (As := [.int kv, .int (10 : Int32)]) (rest := []) ⟨hx, hb, hml, hown, hts⟩ (c_X5_isBelow l dC dI cyI cyZ  kv (10 : Int32)  _ rfl) (va_cwS 2 hts gX5_seen_X5_isBelow rfl rfl rfl (by decide +kernel) ⟨Nat.le_of_ble_eq_true rfl, Nat.le_of_ble_eq_true rfl⟩) hP hK hN [] rfl [0, 1] rfl rfl hl.1 rfl (Nat.le_of_ble_eq_true rfl) dX5_seen_3 ⟨Nat.zero_le _, Nat.zero_le _⟩ ?_
  refine lv_if_ne (tgt := 12) hx hb dX5_seen_6 (by decide) (fun c6 => ?_) (fun c6 => ?_)
  · rw [if_neg c6] at hF
    refine lv_aload_n hx hb dX5_seen_12 rfl (lv_at hl 0 rfl) ?_
    refine va_get (D := (dC, dI)) (ci := 5) (v := .ref ht) (C := RX5) (T := TX5) (N := 8) hx hb hts hiX5 hown hK hP 0 rfl rfl 0 (by decide) fl10 (fun _ h9 => h9) rfl dX5_seen_13 ?_
    refine va_get (D := (dC, dI)) (ci := 3) (v := .int (nI si)) (C := RX3) (T := TX3) (N := 4) hx hb hts hiX3 hown hK hP 1 rfl rfl 2 (by decide) fl220 (fun _ h9 => h9) rfl dX5_seen_16 ?_
    refine lv_bipush (v := (8 : Int32)) hx hb dX5_seen_19 (by decide) ?_
    refine kx_lt hx hb (si) (8) rfl rfl (by omega) (by omega) dX5_seen_21 (by decide) (tgt := 27) (fun c21 => ?_) (fun c21 => ?_)
    · rw [if_pos c21] at hF
      refine lv_aload_n hx hb dX5_seen_27 rfl (lv_at hl 0 rfl) ?_
      refine va_get (D := (dC, dI)) (ci := 5) (v := .ref ht) (C := RX5) (T := TX5) (N := 8) hx hb hts hiX5 hown hK hP 0 rfl rfl 0 (by decide) fl10 (fun _ h9 => h9) rfl dX5_seen_28 ?_
      refine lv_dup hx hb dX5_seen_31 rfl ?_
      refine va_get (D := (dC, dI)) (ci := 3) (v := .int fi) (C := RX3) (T := TX3) (N := 4) hx hb hts hiX3 hown hK hP 1 rfl rfl 3 (by decide) fl223 (fun _ h9 => h9) rfl dX5_seen_32 ?_
      refine lv_iload_n hx hb dX5_seen_35 rfl (lv_at hl 2 rfl) ?_
      refine lv_if_eq (tgt := 46) hx hb dX5_seen_36 (by decide) (fun c36 => ?_) (fun c36 => ?_)
      · rw [if_pos c36] at hF
        refine lv_iload_n hx hb dX5_seen_46 rfl (lv_at hl 1 rfl) ?_
        refine kx_cS (As := [.int kv]) (rest := [.int fi, .ref ht]) ⟨hx, hb, hml, hown, hts⟩ (c_X5_near l dC dI cyI cyZ  kv  _ rfl) (va_cwS 1 hts gX5_seen_X5_near rfl rfl rfl (by decide +kernel) ⟨Nat.le_of_ble_eq_true rfl, Nat.le_of_ble_eq_true rfl⟩) hP hK hN [] rfl [0, 1] rfl rfl hl.1 rfl (Nat.le_of_ble_eq_true rfl) dX5_seen_47 ⟨Nat.zero_le _, Nat.zero_le _⟩ ?_
        refine lv_iconst (v := (-1 : Int32)) hx hb dX5_seen_50 (by decide) ?_
        refine lv_ixor hx hb dX5_seen_51 ?_
        refine lv_iand hx hb dX5_seen_52 ?_
        refine va_put (D := (dC, dI)) (ci := 3) (v := .int (fi &&& ((fX5_near kv) ^^^ (-1 : Int32)))) (ty := .int) (C := RX3) (T := TX3) (N := 4) hx hb hts hiX3 tyX3 tyX3_ok nmX3 hown hK hP hD hS 1 rfl rfl 3 (by decide) fl223 (fun _ h9 => h9) rfl (by decide +kernel) rfl rfl (Nat.le_of_ble_eq_true rfl) dX5_seen_53 (fun H locs hP hD hS => ?_)
        have hP : va_P (dC, dI) vwCl [(hkc, .inr (5, [.ref ht, .ref ht1, .ref ht2, .int kp, .ref hp, .ref htr, .ref hh, .ref as])), (ht, .inr (3, [.ref hs, .ref ak, .int (nI si), .int (fi &&& ((fX5_near kv) ^^^ (-1 : Int32)))]))] H := hP
        have hD : va_D A [(hkc, .inr (5, [.ref ht, .ref ht1, .ref ht2, .int kp, .ref hp, .ref htr, .ref hh, .ref as])), (ht, .inr (3, [.ref hs, .ref ak, .int (nI si), .int (fi &&& ((fX5_near kv) ^^^ (-1 : Int32)))]))] := hD
        refine lv_aload_n hx hb dX5_seen_56 rfl (lv_at hl 0 rfl) ?_
        refine va_get (D := (dC, dI)) (ci := 5) (v := .ref ht) (C := RX5) (T := TX5) (N := 8) hx hb hts hiX5 hown hK hP 0 rfl rfl 0 (by decide) fl10 (fun _ h9 => h9) rfl dX5_seen_57 ?_
        refine lv_dup hx hb dX5_seen_60 rfl ?_
        refine va_get (D := (dC, dI)) (ci := 3) (v := .int (nI si)) (C := RX3) (T := TX3) (N := 4) hx hb hts hiX3 hown hK hP 1 rfl rfl 2 (by decide) fl220 (fun _ h9 => h9) rfl dX5_seen_61 ?_
        refine lv_iconst (v := (1 : Int32)) hx hb dX5_seen_64 (by decide) ?_
        refine lv_iadd hx hb dX5_seen_65 ?_
        refine kx_e (nI_add (si) (1)) ?_
        refine va_put (D := (dC, dI)) (ci := 3) (v := .int (nI (si + 1))) (ty := .int) (C := RX3) (T := TX3) (N := 4) hx hb hts hiX3 tyX3 tyX3_ok nmX3 hown hK hP hD hS 1 rfl rfl 2 (by decide) fl220 (fun _ h9 => h9) rfl (by decide +kernel) rfl rfl (Nat.le_of_ble_eq_true rfl) dX5_seen_66 (fun H locs hP hD hS => ?_)
        have hP : va_P (dC, dI) vwCl [(hkc, .inr (5, [.ref ht, .ref ht1, .ref ht2, .int kp, .ref hp, .ref htr, .ref hh, .ref as])), (ht, .inr (3, [.ref hs, .ref ak, .int (nI (si + 1)), .int (fi &&& ((fX5_near kv) ^^^ (-1 : Int32)))]))] H := hP
        have hD : va_D A [(hkc, .inr (5, [.ref ht, .ref ht1, .ref ht2, .int kp, .ref hp, .ref htr, .ref hh, .ref as])), (ht, .inr (3, [.ref hs, .ref ak, .int (nI (si + 1)), .int (fi &&& ((fX5_near kv) ^^^ (-1 : Int32)))]))] := hD
        refine lv_aload_n hx hb dX5_seen_69 rfl (lv_at hl 0 rfl) ?_
        refine va_get (D := (dC, dI)) (ci := 5) (v := .ref ht) (C := RX5) (T := TX5) (N := 8) hx hb hts hiX5 hown hK hP 0 rfl rfl 0 (by decide) fl10 (fun _ h9 => h9) rfl dX5_seen_70 ?_
        refine va_get (D := (dC, dI)) (ci := 3) (v := .int (nI (si + 1))) (C := RX3) (T := TX3) (N := 4) hx hb hts hiX3 hown hK hP 1 rfl rfl 2 (by decide) fl220 (fun _ h9 => h9) rfl dX5_seen_73 ?_
        subst hF
        subst hAe
        exact W.iret hx hb hr (fun t ht _ => ⟨⟨_, (), rfl, rfl, by rw [ht]; exact hP, hD⟩, hS.F ht⟩) hS.2.2 dX5_seen_76
      · rw [if_neg c36] at hF
        refine lv_iload_n hx hb dX5_seen_39 rfl (lv_at hl 1 rfl) ?_
        refine kx_cS (As := [.int kv]) (rest := [.int fi, .ref ht]) ⟨hx, hb, hml, hown, hts⟩ (c_X5_near l dC dI cyI cyZ  kv  _ rfl) (va_cwS 1 hts gX5_seen_X5_near rfl rfl rfl (by decide +kernel) ⟨Nat.le_of_ble_eq_true rfl, Nat.le_of_ble_eq_true rfl⟩) hP hK hN [] rfl [0, 1] rfl rfl hl.1 rfl (Nat.le_of_ble_eq_true rfl) dX5_seen_40 ⟨Nat.zero_le _, Nat.zero_le _⟩ ?_
        refine lv_goto (tgt := 52) hx hb dX5_seen_43 (by decide) ?_
        refine lv_iand hx hb dX5_seen_52 ?_
        refine va_put (D := (dC, dI)) (ci := 3) (v := .int (fi &&& (fX5_near kv))) (ty := .int) (C := RX3) (T := TX3) (N := 4) hx hb hts hiX3 tyX3 tyX3_ok nmX3 hown hK hP hD hS 1 rfl rfl 3 (by decide) fl223 (fun _ h9 => h9) rfl (by decide +kernel) rfl rfl (Nat.le_of_ble_eq_true rfl) dX5_seen_53 (fun H locs hP hD hS => ?_)
        have hP : va_P (dC, dI) vwCl [(hkc, .inr (5, [.ref ht, .ref ht1, .ref ht2, .int kp, .ref hp, .ref htr, .ref hh, .ref as])), (ht, .inr (3, [.ref hs, .ref ak, .int (nI si), .int (fi &&& (fX5_near kv))]))] H := hP
        have hD : va_D A [(hkc, .inr (5, [.ref ht, .ref ht1, .ref ht2, .int kp, .ref hp, .ref htr, .ref hh, .ref as])), (ht, .inr (3, [.ref hs, .ref ak, .int (nI si), .int (fi &&& (fX5_near kv))]))] := hD
        refine lv_aload_n hx hb dX5_seen_56 rfl (lv_at hl 0 rfl) ?_
        refine va_get (D := (dC, dI)) (ci := 5) (v := .ref ht) (C := RX5) (T := TX5) (N := 8) hx hb hts hiX5 hown hK hP 0 rfl rfl 0 (by decide) fl10 (fun _ h9 => h9) rfl dX5_seen_57 ?_
        refine lv_dup hx hb dX5_seen_60 rfl ?_
        refine va_get (D := (dC, dI)) (ci := 3) (v := .int (nI si)) (C := RX3) (T := TX3) (N := 4) hx hb hts hiX3 hown hK hP 1 rfl rfl 2 (by decide) fl220 (fun _ h9 => h9) rfl dX5_seen_61 ?_
        refine lv_iconst (v := (1 : Int32)) hx hb dX5_seen_64 (by decide) ?_
        refine lv_iadd hx hb dX5_seen_65 ?_
        refine kx_e (nI_add (si) (1)) ?_
        refine va_put (D := (dC, dI)) (ci := 3) (v := .int (nI (si + 1))) (ty := .int) (C := RX3) (T := TX3) (N := 4) hx hb hts hiX3 tyX3 tyX3_ok nmX3 hown hK hP hD hS 1 rfl rfl 2 (by decide) fl220 (fun _ h9 => h9) rfl (by decide +kernel) rfl rfl (Nat.le_of_ble_eq_true rfl) dX5_seen_66 (fun H locs hP hD hS => ?_)
        have hP : va_P (dC, dI) vwCl [(hkc, .inr (5, [.ref ht, .ref ht1, .ref ht2, .int kp, .ref hp, .ref htr, .ref hh, .ref as])), (ht, .inr (3, [.ref hs, .ref ak, .int (nI (si + 1)), .int (fi &&& (fX5_near kv))]))] H := hP
        have hD : va_D A [(hkc, .inr (5, [.ref ht, .ref ht1, .ref ht2, .int kp, .ref hp, .ref htr, .ref hh, .ref as])), (ht, .inr (3, [.ref hs, .ref ak, .int (nI (si + 1)), .int (fi &&& (fX5_near kv))]))] := hD
        refine lv_aload_n hx hb dX5_seen_69 rfl (lv_at hl 0 rfl) ?_
        refine va_get (D := (dC, dI)) (ci := 5) (v := .ref ht) (C := RX5) (T := TX5) (N := 8) hx hb hts hiX5 hown hK hP 0 rfl rfl 0 (by decide) fl10 (fun _ h9 => h9) rfl dX5_seen_70 ?_
        refine va_get (D := (dC, dI)) (ci := 3) (v := .int (nI (si + 1))) (C := RX3) (T := TX3) (N := 4) hx hb hts hiX3 hown hK hP 1 rfl rfl 2 (by decide) fl220 (fun _ h9 => h9) rfl dX5_seen_73 ?_
        subst hF
        subst hAe
        exact W.iret hx hb hr (fun t ht _ => ⟨⟨_, (), rfl, rfl, by rw [ht]; exact hP, hD⟩, hS.F ht⟩) hS.2.2 dX5_seen_76
    · rw [if_neg (Nat.not_lt.mpr c21)] at hF
      refine lv_bipush (v := (-4 : Int32)) hx hb dX5_seen_24 (by decide) ?_
      subst hF
      subst hAe
      exact W.iret hx hb hr (fun t ht _ => ⟨⟨_, (), rfl, rfl, by rw [ht]; exact hP, hD⟩, hS.F ht⟩) hS.2.2 dX5_seen_26
  · rw [if_pos c6] at hF
    refine lv_bipush (v := (-2 : Int32)) hx hb dX5_seen_9 (by decide) ?_
    subst hF
    subst hAe
    exact W.iret hx hb hr (fun t ht _ => ⟨⟨_, (), rfl, rfl, by rw [ht]; exact hP, hD⟩, hS.F ht⟩) hS.2.2 dX5_seen_11

def fX5_forget (si : Nat) : Int32 × Nat × Int32 :=
  (match fX3_forgetSights with | (q12a, q12b) => ((nI si), q12a, q12b))
set_option maxHeartbeats 4000000 in
set_option maxRecDepth 100000 in
theorem c_X5_forget (l : Launch) (dC : Nat → ClassId) (dI : Nat → Nat → Nat) (cyI cyZ : ClassId) (hkc ht ht1 ht2 hp htr hh as hs ak : Nat) (kp : Int32) (si : Nat) (fi : Int32) (sz : Nat) (r : Int32 × Nat × Int32) (hF : fX5_forget si = r) : Met l yX5_forget wsX5_forget ({ frames := 1, cells := 0, slots := 0, locals := 20 }) (kx_wp (dC, dI) [(hkc, .inr (5, [.ref ht, .ref ht1, .ref ht2, .int kp, .ref hp, .ref htr, .ref hh, .ref as])), (ht, .inr (3, [.ref hs, .ref ak, .int (nI si), .int fi]))] [(cyI, .int), (cyZ, .boolean)] sz [.ref hkc]) (kx_Qi r.1 (dC, dI) [(hkc, .inr (5, [.ref ht, .ref ht1, .ref ht2, .int kp, .ref hp, .ref htr, .ref hh, .ref as])), (ht, .inr (3, [.ref hs, .ref ak, .int (nI si), .int fi]))] [(hkc, .inr (5, [.ref ht, .ref ht1, .ref ht2, .int kp, .ref hp, .ref htr, .ref hh, .ref as])), (ht, .inr (3, [.ref hs, .ref ak, .int (nI (r.2.1)), .int r.2.2]))] sz) 0 0 (va_A [(hkc, .inr (5, [.ref ht, .ref ht1, .ref ht2, .int kp, .ref hp, .ref htr, .ref hh, .ref as])), (ht, .inr (3, [.ref hs, .ref ak, .int (nI si), .int fi]))] sz) := by
  refine Met.ofW (cc := cX5_forget) (maxL := 2) (ret := (some .int)) (by decide) rfl ?_
  intro p e s m args below meth c s₁ B hml hv
  obtain ⟨rfl, hsz, hP, hK, hN, hD0⟩ := hv
  have hx := B.exec
  have hb := B.bytes
  have hr := B.returns
  have hts := atoms_spec (ws := wsX5_forget) B.pre
  have hown : s.vm.findClass RX5 = some m.cls := findClass_of_methodNamed B.named
  have hlocks := B.notSynchronized
  subst hsz
  obtain ⟨A, hAe⟩ : ∃ A, A = va_A [(hkc, .inr (5, [.ref ht, .ref ht1, .ref ht2, .int kp, .ref hp, .ref htr, .ref hh, .ref as])), (ht, .inr (3, [.ref hs, .ref ak, .int (nI si), .int fi]))] s.heap.size := ⟨_, rfl⟩
  have hD : va_D A [(hkc, .inr (5, [.ref ht, .ref ht1, .ref ht2, .int kp, .ref hp, .ref htr, .ref hh, .ref as])), (ht, .inr (3, [.ref hs, .ref ak, .int (nI si), .int fi]))] := by rw [hAe]; exact hD0.self
  have hA : ∀ q : Nat, s.heap.size ≤ q → A q := fun q h => by rw [hAe]; exact Or.inr h
  have hS : va_S A s.heap s.heap [] := va_S.rf
  have hiX3 : ∀ w ∈ wsX30, w ∈ wsX5_forget := by decide +kernel
  have hiX5 : ∀ w ∈ wsX50, w ∈ wsX5_forget := by decide +kernel
  have fl10 := hts (.fieldLink RX5 10 "KnitChronicle" "town" "LKnitChronicle$Town;") (by decide +kernel)
  have fl220 := hts (.fieldLink RX5 220 "KnitChronicle$Town" "sights" "I") (by decide +kernel)
  have hl := lv_entry ([.ref hkc]) (n := 2) (Nat.le_of_ble_eq_true rfl)
  rw [lg_entry_eq]
  generalize (lg_sl ([.ref hkc]) ++ List.replicate (2 - (lg_sl ([.ref hkc])).length) Slot.unset).toArray = ls at hl ⊢
  have hl : lv_has ls 2 [(0, .ref hkc)] := hl
  unfold fX5_forget at hF
  refine lv_aload_n hx hb dX5_forget_0 rfl (lv_at hl 0 rfl) ?_
  refine va_get (D := (dC, dI)) (ci := 5) (v := .ref ht) (C := RX5) (T := TX5) (N := 8) hx hb hts hiX5 hown hK hP 0 rfl rfl 0 (by decide) fl10 (fun _ h9 => h9) rfl dX5_forget_1 ?_
  refine va_get (D := (dC, dI)) (ci := 3) (v := .int (nI si)) (C := RX3) (T := TX3) (N := 4) hx hb hts hiX3 hown hK hP 1 rfl rfl 2 (by decide) fl220 (fun _ h9 => h9) rfl dX5_forget_4 ?_
  refine lv_istore_n (lv' := [(1, .int (nI si)), (0, .ref hkc)]) hx hb dX5_forget_7 rfl hl (by decide) rfl (fun ls hl => ?_)
  refine lv_aload_n hx hb dX5_forget_8 rfl (lv_at hl 1 rfl) ?_
  refine va_get (D := (dC, dI)) (ci := 5) (v := .ref ht) (C := RX5) (T := TX5) (N := 8) hx hb hts hiX5 hown hK hP 0 rfl rfl 0 (by decide) fl10 (fun _ h9 => h9) rfl dX5_forget_9 ?_
  generalize hq12 : fX3_forgetSights = q12 at hF
  obtain ⟨q12a, q12b⟩ := q12
  dsimp only at hF
  refine kx_wVv (As := []) (rest := []) (wr := [(hkc, .inr (5, [.ref ht, .ref ht1, .ref ht2, .int kp, .ref hp, .ref htr, .ref hh, .ref as]))]) (wc' := [(ht, .inr (3, [.ref hs, .ref ak, .int (nI q12a), .int q12b]))]) (W1 := [(hkc, .inr (5, [.ref ht, .ref ht1, .ref ht2, .int kp, .ref hp, .ref htr, .ref hh, .ref as])), (ht, .inr (3, [.ref hs, .ref ak, .int (nI q12a), .int q12b]))]) ⟨hx, hb, hml, hown, hts⟩ (c_X3_forgetSights l dC dI cyI cyZ ht hs ak si fi  _ _ hq12) (cwV 0 hts gX5_forget_X3_forgetSights rfl rfl rfl (by decide +kernel) ⟨Nat.le_of_ble_eq_true rfl, Nat.le_of_ble_eq_true rfl⟩) hP hD hS hA hK hN [1] [0] [0, 1] rfl (by decide) rfl (by decide) (by decide) (by decide) rfl [0, 1] rfl 3 1 rfl rfl rfl rfl hl.1 rfl (Nat.le_of_ble_eq_true rfl) dX5_forget_12 ⟨Nat.zero_le _, Nat.zero_le _⟩ (fun H locs hP hD hS => ?_)
  refine lv_iload_n hx hb dX5_forget_15 rfl (lv_at hl 0 rfl) ?_
  subst hF
  subst hAe
  exact W.iret hx hb hr (fun t ht _ => ⟨⟨_, (), rfl, rfl, by rw [ht]; exact hP, hD⟩, hS.F ht⟩) hS.2.2 dX5_forget_16

def fX5_tights (fi : Int32) : Int32 :=
  fi
set_option maxHeartbeats 4000000 in
set_option maxRecDepth 100000 in
theorem c_X5_tights (l : Launch) (dC : Nat → ClassId) (dI : Nat → Nat → Nat) (cyI cyZ : ClassId) (hkc ht ht1 ht2 hp htr hh as hs ak : Nat) (kp : Int32) (si : Nat) (fi : Int32) (r : Int32) (hF : fX5_tights fi = r) : Met l yX5_tights wsX5_tights ({ frames := 0, cells := 0, slots := 0, locals := 0 }) (kx_rp (dC, dI) [(hkc, .inr (5, [.ref ht, .ref ht1, .ref ht2, .int kp, .ref hp, .ref htr, .ref hh, .ref as])), (ht, .inr (3, [.ref hs, .ref ak, .int (nI si), .int fi]))] [(cyI, .int), (cyZ, .boolean)] [.ref hkc]) (k2_QcV (.int r)) 0 0 (fun _ => False) := by
  refine Met.ofW (cc := cX5_tights) (maxL := 1) (ret := (some .int)) (by decide) rfl ?_
  intro p e s m args below meth c s₁ B hml hv
  obtain ⟨rfl, hP, hK, hN⟩ := hv
  have hx := B.exec
  have hb := B.bytes
  have hr := B.returns
  have hts := atoms_spec (ws := wsX5_tights) B.pre
  have hown : s.vm.findClass RX5 = some m.cls := findClass_of_methodNamed B.named
  have hlocks := B.notSynchronized
  have hiX3 : ∀ w ∈ wsX30, w ∈ wsX5_tights := by decide +kernel
  have hiX5 : ∀ w ∈ wsX50, w ∈ wsX5_tights := by decide +kernel
  have fl10 := hts (.fieldLink RX5 10 "KnitChronicle" "town" "LKnitChronicle$Town;") (by decide +kernel)
  have fl223 := hts (.fieldLink RX5 223 "KnitChronicle$Town" "fitting" "I") (by decide +kernel)
  have hl := lv_entry ([.ref hkc]) (n := 1) (Nat.le_of_ble_eq_true rfl)
  rw [lg_entry_eq]
  generalize (lg_sl ([.ref hkc]) ++ List.replicate (1 - (lg_sl ([.ref hkc])).length) Slot.unset).toArray = ls at hl ⊢
  have hl : lv_has ls 1 [(0, .ref hkc)] := hl
  unfold fX5_tights at hF
  refine lv_aload_n hx hb dX5_tights_0 rfl (lv_at hl 0 rfl) ?_
  refine va_get (D := (dC, dI)) (ci := 5) (v := .ref ht) (C := RX5) (T := TX5) (N := 8) hx hb hts hiX5 hown hK hP 0 rfl rfl 0 (by decide) fl10 (fun _ h9 => h9) rfl dX5_tights_1 ?_
  refine va_get (D := (dC, dI)) (ci := 3) (v := .int fi) (C := RX3) (T := TX3) (N := 4) hx hb hts hiX3 hown hK hP 1 rfl rfl 3 (by decide) fl223 (fun _ h9 => h9) rfl dX5_tights_4 ?_
  exact W.iret hx hb hr (fun t ht _ => ⟨congrArg (fun z => Outcome.returned (some (Value.int z))) hF, ht⟩) (fun _ h => absurd h List.not_mem_nil) dX5_tights_7

def fX5_mostLeftBy (fi : Int32) (kv : Int32) : Int32 :=
  (if (nI ((pcN (fi &&& (fX5_near kv))))) < (nI ((pcN (fi &&& ((fX5_near kv) ^^^ (-1 : Int32)))))) then (nI ((pcN (fi &&& ((fX5_near kv) ^^^ (-1 : Int32)))))) else (nI ((pcN (fi &&& (fX5_near kv))))))
set_option maxHeartbeats 4000000 in
set_option maxRecDepth 100000 in
theorem c_X5_mostLeftBy (l : Launch) (dC : Nat → ClassId) (dI : Nat → Nat → Nat) (cyI cyZ : ClassId) (hkc ht ht1 ht2 hp htr hh as hs ak : Nat) (kp : Int32) (si : Nat) (fi : Int32) (kv : Int32) (r : Int32) (hF : fX5_mostLeftBy fi kv = r) : Met l yX5_mostLeftBy wsX5_mostLeftBy ({ frames := 1, cells := 0, slots := 0, locals := 20 }) (kx_rp (dC, dI) [(hkc, .inr (5, [.ref ht, .ref ht1, .ref ht2, .int kp, .ref hp, .ref htr, .ref hh, .ref as])), (ht, .inr (3, [.ref hs, .ref ak, .int (nI si), .int fi]))] [(cyI, .int), (cyZ, .boolean)] [.ref hkc, .int kv]) (k2_QcV (.int r)) 0 0 (fun _ => False) := by
  refine Met.ofW (cc := cX5_mostLeftBy) (maxL := 4) (ret := (some .int)) (by decide) rfl ?_
  intro p e s m args below meth c s₁ B hml hv
  obtain ⟨rfl, hP, hK, hN⟩ := hv
  have hx := B.exec
  have hb := B.bytes
  have hr := B.returns
  have hts := atoms_spec (ws := wsX5_mostLeftBy) B.pre
  have hown : s.vm.findClass RX5 = some m.cls := findClass_of_methodNamed B.named
  have hlocks := B.notSynchronized
  have hiX3 : ∀ w ∈ wsX30, w ∈ wsX5_mostLeftBy := by decide +kernel
  have hiX5 : ∀ w ∈ wsX50, w ∈ wsX5_mostLeftBy := by decide +kernel
  have fl10 := hts (.fieldLink RX5 10 "KnitChronicle" "town" "LKnitChronicle$Town;") (by decide +kernel)
  have fl223 := hts (.fieldLink RX5 223 "KnitChronicle$Town" "fitting" "I") (by decide +kernel)
  have hl := lv_entry ([.ref hkc, .int kv]) (n := 4) (Nat.le_of_ble_eq_true rfl)
  rw [lg_entry_eq]
  generalize (lg_sl ([.ref hkc, .int kv]) ++ List.replicate (4 - (lg_sl ([.ref hkc, .int kv])).length) Slot.unset).toArray = ls at hl ⊢
  have hl : lv_has ls 4 [(0, .ref hkc), (1, .int kv)] := hl
  unfold fX5_mostLeftBy at hF
  refine lv_aload_n hx hb dX5_mostLeftBy_0 rfl (lv_at hl 0 rfl) ?_
  refine va_get (D := (dC, dI)) (ci := 5) (v := .ref ht) (C := RX5) (T := TX5) (N := 8) hx hb hts hiX5 hown hK hP 0 rfl rfl 0 (by decide) fl10 (fun _ h9 => h9) rfl dX5_mostLeftBy_1 ?_
  refine va_get (D := (dC, dI)) (ci := 3) (v := .int fi) (C := RX3) (T := TX3) (N := 4) hx hb hts hiX3 hown hK hP 1 rfl rfl 3 (by decide) fl223 (fun _ h9 => h9) rfl dX5_mostLeftBy_4 ?_
  refine lv_iload_n hx hb dX5_mostLeftBy_7 rfl (lv_at hl 1 rfl) ?_
  refine kx_cS (As := [.int kv]) (rest := [.int fi]) ⟨hx, hb, hml, hown, hts⟩ (c_X5_near l dC dI cyI cyZ  kv  _ rfl) (va_cwS 1 hts gX5_mostLeftBy_X5_near rfl rfl rfl (by decide +kernel) ⟨Nat.le_of_ble_eq_true rfl, Nat.le_of_ble_eq_true rfl⟩) hP hK hN [] rfl [0, 1] rfl rfl hl.1 rfl (Nat.le_of_ble_eq_true rfl) dX5_mostLeftBy_8 ⟨Nat.zero_le _, Nat.zero_le _⟩ ?_
  refine lv_iand hx hb dX5_mostLeftBy_11 ?_
  refine kx_cS (As := [.int (fi &&& (fX5_near kv))]) (rest := []) ⟨hx, hb, hml, hown, hts⟩ (c_J6_bitCount_0f7a4 l dC dI cyI cyZ  (fi &&& (fX5_near kv))  _ rfl) (va_cwS 1 hts gX5_mostLeftBy_J6_bitCount_0f7a4 rfl rfl rfl (by decide +kernel) ⟨Nat.le_of_ble_eq_true rfl, Nat.le_of_ble_eq_true rfl⟩) hP hK hN [] rfl [0, 1] rfl rfl hl.1 rfl (Nat.le_of_ble_eq_true rfl) dX5_mostLeftBy_12 ⟨Nat.zero_le _, Nat.zero_le _⟩ ?_
  refine kx_e (pcN_eq _) ?_
  have hpc12 := pcN_lt (fi &&& (fX5_near kv))
  refine lv_istore_n (lv' := [(2, .int (nI ((pcN (fi &&& (fX5_near kv)))))), (0, .ref hkc), (1, .int kv)]) hx hb dX5_mostLeftBy_15 rfl hl (by decide) rfl (fun ls hl => ?_)
  refine lv_aload_n hx hb dX5_mostLeftBy_16 rfl (lv_at hl 1 rfl) ?_
  refine va_get (D := (dC, dI)) (ci := 5) (v := .ref ht) (C := RX5) (T := TX5) (N := 8) hx hb hts hiX5 hown hK hP 0 rfl rfl 0 (by decide) fl10 (fun _ h9 => h9) rfl dX5_mostLeftBy_17 ?_
  refine va_get (D := (dC, dI)) (ci := 3) (v := .int fi) (C := RX3) (T := TX3) (N := 4) hx hb hts hiX3 hown hK hP 1 rfl rfl 3 (by decide) fl223 (fun _ h9 => h9) rfl dX5_mostLeftBy_20 ?_
  refine lv_iload_n hx hb dX5_mostLeftBy_23 rfl (lv_at hl 2 rfl) ?_
  refine kx_cS (As := [.int kv]) (rest := [.int fi]) ⟨hx, hb, hml, hown, hts⟩ (c_X5_near l dC dI cyI cyZ  kv  _ rfl) (va_cwS 1 hts gX5_mostLeftBy_X5_near rfl rfl rfl (by decide +kernel) ⟨Nat.le_of_ble_eq_true rfl, Nat.le_of_ble_eq_true rfl⟩) hP hK hN [] rfl [0, 1] rfl rfl hl.1 rfl (Nat.le_of_ble_eq_true rfl) dX5_mostLeftBy_24 ⟨Nat.zero_le _, Nat.zero_le _⟩ ?_
  refine lv_iconst (v := (-1 : Int32)) hx hb dX5_mostLeftBy_27 (by decide) ?_
  refine lv_ixor hx hb dX5_mostLeftBy_28 ?_
  refine lv_iand hx hb dX5_mostLeftBy_29 ?_
  refine kx_cS (As := [.int (fi &&& ((fX5_near kv) ^^^ (-1 : Int32)))]) (rest := []) ⟨hx, hb, hml, hown, hts⟩ (c_J6_bitCount_0f7a4 l dC dI cyI cyZ  (fi &&& ((fX5_near kv) ^^^ (-1 : Int32)))  _ rfl) (va_cwS 1 hts gX5_mostLeftBy_J6_bitCount_0f7a4 rfl rfl rfl (by decide +kernel) ⟨Nat.le_of_ble_eq_true rfl, Nat.le_of_ble_eq_true rfl⟩) hP hK hN [] rfl [0, 1] rfl rfl hl.1 rfl (Nat.le_of_ble_eq_true rfl) dX5_mostLeftBy_30 ⟨Nat.zero_le _, Nat.zero_le _⟩ ?_
  refine kx_e (pcN_eq _) ?_
  have hpc30 := pcN_lt (fi &&& ((fX5_near kv) ^^^ (-1 : Int32)))
  refine lv_istore_n (lv' := [(3, .int (nI ((pcN (fi &&& ((fX5_near kv) ^^^ (-1 : Int32))))))), (2, .int (nI ((pcN (fi &&& (fX5_near kv)))))), (0, .ref hkc), (1, .int kv)]) hx hb dX5_mostLeftBy_33 rfl hl (by decide) rfl (fun ls hl => ?_)
  refine lv_iload_n hx hb dX5_mostLeftBy_34 rfl (lv_at hl 1 rfl) ?_
  refine lv_iload_n hx hb dX5_mostLeftBy_35 rfl (lv_at hl 0 rfl) ?_
  refine va_mmax hx hb (hml.trans hl.1.symm) hown (hts (.methodLink RX5 193 Lib.Math.max.name) (by decide +kernel)) (hts (.static Lib.Math.max.name) (by decide +kernel)) (hts (.initialized "java/lang/Math") (by decide +kernel)) (hts (.code Lib.Math.max.name Lib.Math.max.code 2 (some .int)) (by decide +kernel)) (Nat.le_of_ble_eq_true rfl) (Nat.le_of_ble_eq_true rfl) (Nat.zero_le _) (Nat.zero_le _) dX5_mostLeftBy_36 ?_
  exact W.iret hx hb hr (fun t ht _ => ⟨congrArg (fun z => Outcome.returned (some (Value.int z))) hF, ht⟩) (fun _ h => absurd h List.not_mem_nil) dX5_mostLeftBy_39

def fX5_next_L28 (fi : Int32) : Nat → Nat → Nat → Nat
  | 0, _, be => be
  | r28 + 1, j28, be => (if (fX5_mostLeftBy fi (nI be)) ≤ (fX5_mostLeftBy fi (nI j28)) then (fX5_next_L28 fi r28 (j28 + 1) be) else (fX5_next_L28 fi r28 (j28 + 1) j28))
def fX5_next (fi : Int32) (wh : Int32) : Int32 :=
  (if (fX5_isBelow wh (2 : Int32)) = 0 then (-2 : Int32) else (if fi = 0 then (-6 : Int32) else ((fun (be : Nat) => (if wh = 0 then (nI be) else (fX5_mostLeftBy fi (nI be)))) (fX5_next_L28 fi (10 - 1) 1 0))))
set_option maxHeartbeats 4000000 in
set_option maxRecDepth 100000 in
theorem c_X5_next (l : Launch) (dC : Nat → ClassId) (dI : Nat → Nat → Nat) (cyI cyZ : ClassId) (hkc ht ht1 ht2 hp htr hh as hs ak : Nat) (kp : Int32) (si : Nat) (fi : Int32) (wh : Int32) (r : Int32) (hF : fX5_next fi wh = r) : Met l yX5_next wsX5_next ({ frames := 2, cells := 0, slots := 0, locals := 43 }) (kx_rp (dC, dI) [(hkc, .inr (5, [.ref ht, .ref ht1, .ref ht2, .int kp, .ref hp, .ref htr, .ref hh, .ref as])), (ht, .inr (3, [.ref hs, .ref ak, .int (nI si), .int fi]))] [(cyI, .int), (cyZ, .boolean)] [.ref hkc, .int wh]) (k2_QcV (.int r)) 0 0 (fun _ => False) := by
  refine Met.ofW (cc := cX5_next) (maxL := 4) (ret := (some .int)) (by decide) rfl ?_
  intro p e s m args below meth c s₁ B hml hv
  obtain ⟨rfl, hP, hK, hN⟩ := hv
  have hx := B.exec
  have hb := B.bytes
  have hr := B.returns
  have hts := atoms_spec (ws := wsX5_next) B.pre
  have hown : s.vm.findClass RX5 = some m.cls := findClass_of_methodNamed B.named
  have hlocks := B.notSynchronized
  have hiX3 : ∀ w ∈ wsX30, w ∈ wsX5_next := by decide +kernel
  have hiX5 : ∀ w ∈ wsX50, w ∈ wsX5_next := by decide +kernel
  have fl10 := hts (.fieldLink RX5 10 "KnitChronicle" "town" "LKnitChronicle$Town;") (by decide +kernel)
  have fl223 := hts (.fieldLink RX5 223 "KnitChronicle$Town" "fitting" "I") (by decide +kernel)
  have hl := lv_entry ([.ref hkc, .int wh]) (n := 4) (Nat.le_of_ble_eq_true rfl)
  rw [lg_entry_eq]
  generalize (lg_sl ([.ref hkc, .int wh]) ++ List.replicate (4 - (lg_sl ([.ref hkc, .int wh])).length) Slot.unset).toArray = ls at hl ⊢
  have hl : lv_has ls 4 [(0, .ref hkc), (1, .int wh)] := hl
  unfold fX5_next at hF
  refine lv_iload_n hx hb dX5_next_0 rfl (lv_at hl 1 rfl) ?_
  refine lv_iconst (v := (2 : Int32)) hx hb dX5_next_1 (by decide) ?_
  refine kx_cS (As := [.int wh, .int (2 : Int32)]) (rest := []) ⟨hx, hb, hml, hown, hts⟩ (c_X5_isBelow l dC dI cyI cyZ  wh (2 : Int32)  _ rfl) (va_cwS 2 hts gX5_next_X5_isBelow rfl rfl rfl (by decide +kernel) ⟨Nat.le_of_ble_eq_true rfl, Nat.le_of_ble_eq_true rfl⟩) hP hK hN [] rfl [0, 1] rfl rfl hl.1 rfl (Nat.le_of_ble_eq_true rfl) dX5_next_2 ⟨Nat.zero_le _, Nat.zero_le _⟩ ?_
  refine lv_if_ne (tgt := 11) hx hb dX5_next_5 (by decide) (fun c5 => ?_) (fun c5 => ?_)
  · rw [if_neg c5] at hF
    refine lv_aload_n hx hb dX5_next_11 rfl (lv_at hl 0 rfl) ?_
    refine va_get (D := (dC, dI)) (ci := 5) (v := .ref ht) (C := RX5) (T := TX5) (N := 8) hx hb hts hiX5 hown hK hP 0 rfl rfl 0 (by decide) fl10 (fun _ h9 => h9) rfl dX5_next_12 ?_
    refine va_get (D := (dC, dI)) (ci := 3) (v := .int fi) (C := RX3) (T := TX3) (N := 4) hx hb hts hiX3 hown hK hP 1 rfl rfl 3 (by decide) fl223 (fun _ h9 => h9) rfl dX5_next_15 ?_
    refine lv_if_ne (tgt := 24) hx hb dX5_next_18 (by decide) (fun c18 => ?_) (fun c18 => ?_)
    · rw [if_neg c18] at hF
      refine lv_iconst (v := (0 : Int32)) hx hb dX5_next_24 (by decide) ?_
      refine lv_istore_n (lv' := [(2, .int (0 : Int32)), (0, .ref hkc), (1, .int wh)]) hx hb dX5_next_25 rfl hl (by decide) rfl (fun ls hl => ?_)
      refine lv_iconst (v := (1 : Int32)) hx hb dX5_next_26 (by decide) ?_
      refine lv_istore_n (lv' := [(3, .int (1 : Int32)), (2, .int (0 : Int32)), (0, .ref hkc), (1, .int wh)]) hx hb dX5_next_27 rfl hl (by decide) rfl (fun ls hl => ?_)
      generalize hz28 : fX5_next_L28 fi (10 - 1) 1 0 = z28 at hF
      have LP28 : ∀ (r28 : Nat) (j28 : Nat) (be : Nat), r28 + j28 = 10 → fX5_next_L28 fi r28 j28 be = z28 → ∀ (ls : Array Slot), lv_has ls 4 [(3, .int (nI j28)), (2, .int (nI be)), (0, .ref hkc), (1, .int wh)] → W p l e (headSpec wsX5_next ({ frames := 2, cells := 0, slots := 0, locals := 43 } : Room)).room s m ([.ref hkc, .int wh] : List Value).toArray below meth c s.heap [] 0 0 (MQ below (k2_QcV (.int r)) ([.ref hkc, .int wh] : List Value).toArray s 0 0 (fun _ => False)) (F0 m 28 ls []) := by
        intro r28
        induction r28 with
        | zero =>
          intro j28 be hrj hz28 ls hl
          rw [fX5_next_L28] at hz28
          subst hz28
          try dsimp only at hF
          refine lv_iload_n hx hb dX5_next_28 rfl (lv_at hl 0 rfl) ?_
          refine lv_bipush (v := (10 : Int32)) hx hb dX5_next_29 (by decide) ?_
          refine kx_ge hx hb (j28) (10) rfl rfl (by omega) (by omega) dX5_next_31 (by decide) (tgt := 55) (fun c31 => ?_) (fun c31 => absurd c31 (by omega))
          refine lv_iload_n hx hb dX5_next_55 rfl (lv_at hl 3 rfl) ?_
          refine lv_if_ne (tgt := 63) hx hb dX5_next_56 (by decide) (fun c56 => ?_) (fun c56 => ?_)
          · rw [if_neg c56] at hF
            refine lv_aload_n hx hb dX5_next_63 rfl (lv_at hl 2 rfl) ?_
            refine lv_iload_n hx hb dX5_next_64 rfl (lv_at hl 1 rfl) ?_
            refine kx_cV (As := [.int (nI be)]) (rest := []) ⟨hx, hb, hml, hown, hts⟩ (c_X5_mostLeftBy l dC dI cyI cyZ hkc ht ht1 ht2 hp htr hh as hs ak kp si fi (nI be)  _ rfl) (cwV 1 hts gX5_next_X5_mostLeftBy rfl rfl rfl (by decide +kernel) ⟨Nat.le_of_ble_eq_true rfl, Nat.le_of_ble_eq_true rfl⟩) hP hK hN [0, 1] rfl [0, 1] rfl 5 0 rfl rfl rfl rfl hl.1 rfl (Nat.le_of_ble_eq_true rfl) dX5_next_65 ⟨Nat.zero_le _, Nat.zero_le _⟩ ?_
            exact W.iret hx hb hr (fun t ht _ => ⟨congrArg (fun z => Outcome.returned (some (Value.int z))) hF, ht⟩) (fun _ h => absurd h List.not_mem_nil) dX5_next_68
          · rw [if_pos c56] at hF
            refine lv_iload_n hx hb dX5_next_59 rfl (lv_at hl 1 rfl) ?_
            refine lv_goto (tgt := 68) hx hb dX5_next_60 (by decide) ?_
            exact W.iret hx hb hr (fun t ht _ => ⟨congrArg (fun z => Outcome.returned (some (Value.int z))) hF, ht⟩) (fun _ h => absurd h List.not_mem_nil) dX5_next_68
        | succ r28 ih =>
          intro j28 be hrj hz28 ls hl
          rw [fX5_next_L28] at hz28
          refine lv_iload_n hx hb dX5_next_28 rfl (lv_at hl 0 rfl) ?_
          refine lv_bipush (v := (10 : Int32)) hx hb dX5_next_29 (by decide) ?_
          refine kx_ge hx hb (j28) (10) rfl rfl (by omega) (by omega) dX5_next_31 (by decide) (tgt := 55) (fun c31 => absurd c31 (by omega)) (fun c31 => ?_)
          refine lv_aload_n hx hb dX5_next_34 rfl (lv_at hl 2 rfl) ?_
          refine lv_iload_n hx hb dX5_next_35 rfl (lv_at hl 0 rfl) ?_
          refine kx_cV (As := [.int (nI j28)]) (rest := []) ⟨hx, hb, hml, hown, hts⟩ (c_X5_mostLeftBy l dC dI cyI cyZ hkc ht ht1 ht2 hp htr hh as hs ak kp si fi (nI j28)  _ rfl) (cwV 1 hts gX5_next_X5_mostLeftBy rfl rfl rfl (by decide +kernel) ⟨Nat.le_of_ble_eq_true rfl, Nat.le_of_ble_eq_true rfl⟩) hP hK hN [0, 1] rfl [0, 1] rfl 5 0 rfl rfl rfl rfl hl.1 rfl (Nat.le_of_ble_eq_true rfl) dX5_next_36 ⟨Nat.zero_le _, Nat.zero_le _⟩ ?_
          refine lv_aload_n hx hb dX5_next_39 rfl (lv_at hl 2 rfl) ?_
          refine lv_iload_n hx hb dX5_next_40 rfl (lv_at hl 1 rfl) ?_
          refine kx_cV (As := [.int (nI be)]) (rest := [.int (fX5_mostLeftBy fi (nI j28))]) ⟨hx, hb, hml, hown, hts⟩ (c_X5_mostLeftBy l dC dI cyI cyZ hkc ht ht1 ht2 hp htr hh as hs ak kp si fi (nI be)  _ rfl) (cwV 1 hts gX5_next_X5_mostLeftBy rfl rfl rfl (by decide +kernel) ⟨Nat.le_of_ble_eq_true rfl, Nat.le_of_ble_eq_true rfl⟩) hP hK hN [0, 1] rfl [0, 1] rfl 5 0 rfl rfl rfl rfl hl.1 rfl (Nat.le_of_ble_eq_true rfl) dX5_next_41 ⟨Nat.zero_le _, Nat.zero_le _⟩ ?_
          refine lv_icmp_ge (tgt := 49) hx hb dX5_next_44 (by decide) (fun c44 => ?_) (fun c44 => ?_)
          · rw [if_pos c44] at hz28
            refine lv_iinc (v := (nI (j28 + 1))) (lv' := [(3, .int (nI (j28 + 1))), (2, .int (nI be)), (0, .ref hkc), (1, .int wh)]) hx hb dX5_next_49 hl (k := 0) rfl (by exact nI_add (j28) 1) (by decide) rfl (fun ls hl => ?_)
            refine lv_goto (tgt := 28) hx hb dX5_next_52 (by decide) ?_
            exact ih (j28 + 1) be (by omega)  hz28 _ (lv_sub hl [0, 1, 2, 3] rfl)
          · rw [if_neg c44] at hz28
            refine lv_iload_n hx hb dX5_next_47 rfl (lv_at hl 0 rfl) ?_
            refine lv_istore_n (lv' := [(2, .int (nI j28)), (3, .int (nI j28)), (0, .ref hkc), (1, .int wh)]) hx hb dX5_next_48 rfl hl (by decide) rfl (fun ls hl => ?_)
            refine lv_iinc (v := (nI (j28 + 1))) (lv' := [(3, .int (nI (j28 + 1))), (2, .int (nI j28)), (0, .ref hkc), (1, .int wh)]) hx hb dX5_next_49 hl (k := 1) rfl (by exact nI_add (j28) 1) (by decide) rfl (fun ls hl => ?_)
            refine lv_goto (tgt := 28) hx hb dX5_next_52 (by decide) ?_
            exact ih (j28 + 1) j28 (by omega)  hz28 _ (lv_sub hl [0, 1, 2, 3] rfl)
      exact LP28 (10 - 1) 1 0 (by omega)  hz28 _ (lv_sub hl [0, 1, 2, 3] rfl)
    · rw [if_pos c18] at hF
      refine lv_bipush (v := (-6 : Int32)) hx hb dX5_next_21 (by decide) ?_
      exact W.iret hx hb hr (fun t ht _ => ⟨congrArg (fun z => Outcome.returned (some (Value.int z))) hF, ht⟩) (fun _ h => absurd h List.not_mem_nil) dX5_next_23
  · rw [if_pos c5] at hF
    refine lv_bipush (v := (-2 : Int32)) hx hb dX5_next_8 (by decide) ?_
    exact W.iret hx hb hr (fun t ht _ => ⟨congrArg (fun z => Outcome.returned (some (Value.int z))) hF, ht⟩) (fun _ h => absurd h List.not_mem_nil) dX5_next_10

def fX5_termOfTenths_L9  : Nat → Int32 → Int32 → Int32 × Int32
  | 0, up, lw => (up, lw)
  | j9 + 1, up, lw => (if (up - up / (nI (j9 + 1 + 1)) * (nI (j9 + 1 + 1))) = 0 then (if (lw - lw / (nI (j9 + 1 + 1)) * (nI (j9 + 1 + 1))) = 0 then (fX5_termOfTenths_L9 j9 (up / (nI (j9 + 1 + 1))) (lw / (nI (j9 + 1 + 1)))) else (fX5_termOfTenths_L9 j9 up lw)) else (fX5_termOfTenths_L9 j9 up lw))
def fX5_termOfTenths (kt1 : Int32) (kp1 : Int32) : Int32 :=
  (match fX5_termOfTenths_L9 9 kt1 (10 : Int32) with | (up, lw) => (if kp1 = 0 then up else lw))
set_option maxHeartbeats 4000000 in
set_option maxRecDepth 100000 in
theorem c_X5_termOfTenths (l : Launch) (dC : Nat → ClassId) (dI : Nat → Nat → Nat) (cyI cyZ : ClassId)  (kt1 : Int32) (kp1 : Int32) (r : Int32) (hF : fX5_termOfTenths kt1 kp1 = r) : Met l yX5_termOfTenths wsX5_termOfTenths ({ frames := 0, cells := 0, slots := 0, locals := 0 }) (kx_rp (dC, dI) [] [(cyI, .int), (cyZ, .boolean)] [.int kt1, .int kp1]) (k2_QcV (.int r)) 0 0 (fun _ => False) := by
  refine Met.ofW (cc := cX5_termOfTenths) (maxL := 5) (ret := (some .int)) (by decide) rfl ?_
  intro p e s m args below meth c s₁ B hml hv
  obtain ⟨rfl, hP, hK, hN⟩ := hv
  have hx := B.exec
  have hb := B.bytes
  have hr := B.returns
  have hts := atoms_spec (ws := wsX5_termOfTenths) B.pre
  have hown : s.vm.findClass RX5 = some m.cls := findClass_of_methodNamed B.named
  have hlocks := B.notSynchronized
  have hl := lv_entry ([.int kt1, .int kp1]) (n := 5) (Nat.le_of_ble_eq_true rfl)
  rw [lg_entry_eq]
  generalize (lg_sl ([.int kt1, .int kp1]) ++ List.replicate (5 - (lg_sl ([.int kt1, .int kp1])).length) Slot.unset).toArray = ls at hl ⊢
  have hl : lv_has ls 5 [(0, .int kt1), (1, .int kp1)] := hl
  unfold fX5_termOfTenths at hF
  refine lv_iload_n hx hb dX5_termOfTenths_0 rfl (lv_at hl 0 rfl) ?_
  refine lv_istore_n (lv' := [(2, .int kt1), (0, .int kt1), (1, .int kp1)]) hx hb dX5_termOfTenths_1 rfl hl (by decide) rfl (fun ls hl => ?_)
  refine lv_bipush (v := (10 : Int32)) hx hb dX5_termOfTenths_2 (by decide) ?_
  refine lv_istore_n (lv' := [(3, .int (10 : Int32)), (2, .int kt1), (0, .int kt1), (1, .int kp1)]) hx hb dX5_termOfTenths_4 rfl hl (by decide) rfl (fun ls hl => ?_)
  refine lv_bipush (v := (10 : Int32)) hx hb dX5_termOfTenths_5 (by decide) ?_
  refine lv_istore (lv' := [(4, .int (10 : Int32)), (3, .int (10 : Int32)), (2, .int kt1), (0, .int kt1), (1, .int kp1)]) hx hb dX5_termOfTenths_7 hl (by decide) rfl (fun ls hl => ?_)
  generalize hz9 : fX5_termOfTenths_L9 9 kt1 (10 : Int32) = z9 at hF
  have LP9 : ∀ (j9 : Nat) (up : Int32) (lw : Int32), j9 ≤ 9 → fX5_termOfTenths_L9 j9 up lw = z9 → ∀ (ls : Array Slot), lv_has ls 5 [(4, .int (nI (j9 + 1))), (3, .int lw), (2, .int up), (0, .int kt1), (1, .int kp1)] → W p l e (headSpec wsX5_termOfTenths ({ frames := 0, cells := 0, slots := 0, locals := 0 } : Room)).room s m ([.int kt1, .int kp1] : List Value).toArray below meth c s.heap [] 0 0 (MQ below (k2_QcV (.int r)) ([.int kt1, .int kp1] : List Value).toArray s 0 0 (fun _ => False)) (F0 m 9 ls []) := by
    intro j9
    induction j9 with
    | zero =>
      intro up lw hrj hz9 ls hl
      rw [fX5_termOfTenths_L9] at hz9
      subst hz9
      dsimp only at hF
      refine lv_iload hx hb dX5_termOfTenths_9 (lv_at hl 0 rfl) ?_
      refine lv_iconst (v := (1 : Int32)) hx hb dX5_termOfTenths_11 (by decide) ?_
      refine kx_le hx hb (0 + 1) (1) rfl rfl (by omega) (by omega) dX5_termOfTenths_12 (by decide) (tgt := 45) (fun c12 => ?_) (fun c12 => absurd c12 (by omega))
      refine lv_iload_n hx hb dX5_termOfTenths_45 rfl (lv_at hl 4 rfl) ?_
      refine lv_if_ne (tgt := 53) hx hb dX5_termOfTenths_46 (by decide) (fun c46 => ?_) (fun c46 => ?_)
      · rw [if_neg c46] at hF
        refine lv_iload_n hx hb dX5_termOfTenths_53 rfl (lv_at hl 1 rfl) ?_
        exact W.iret hx hb hr (fun t ht _ => ⟨congrArg (fun z => Outcome.returned (some (Value.int z))) hF, ht⟩) (fun _ h => absurd h List.not_mem_nil) dX5_termOfTenths_54
      · rw [if_pos c46] at hF
        refine lv_iload_n hx hb dX5_termOfTenths_49 rfl (lv_at hl 2 rfl) ?_
        refine lv_goto (tgt := 54) hx hb dX5_termOfTenths_50 (by decide) ?_
        exact W.iret hx hb hr (fun t ht _ => ⟨congrArg (fun z => Outcome.returned (some (Value.int z))) hF, ht⟩) (fun _ h => absurd h List.not_mem_nil) dX5_termOfTenths_54
    | succ j9 ih =>
      intro up lw hrj hz9 ls hl
      rw [fX5_termOfTenths_L9] at hz9
      refine lv_iload hx hb dX5_termOfTenths_9 (lv_at hl 0 rfl) ?_
      refine lv_iconst (v := (1 : Int32)) hx hb dX5_termOfTenths_11 (by decide) ?_
      refine kx_le hx hb (j9 + 1 + 1) (1) rfl rfl (by omega) (by omega) dX5_termOfTenths_12 (by decide) (tgt := 45) (fun c12 => absurd c12 (by omega)) (fun c12 => ?_)
      refine lv_iload_n hx hb dX5_termOfTenths_15 rfl (lv_at hl 2 rfl) ?_
      refine lv_iload hx hb dX5_termOfTenths_16 (lv_at hl 0 rfl) ?_
      refine lv_irem hx hb dX5_termOfTenths_18 (nI_ne0 (by omega) (by omega)) ?_
      refine lv_if_ne (tgt := 39) hx hb dX5_termOfTenths_19 (by decide) (fun c19 => ?_) (fun c19 => ?_)
      · rw [if_neg c19] at hz9
        refine lv_iinc (v := (nI (j9 + 1))) (lv' := [(4, .int (nI (j9 + 1))), (3, .int lw), (2, .int up), (0, .int kt1), (1, .int kp1)]) hx hb dX5_termOfTenths_39 hl (k := 0) rfl (pk_m1 (j9 + 1)) (by decide) rfl (fun ls hl => ?_)
        refine lv_goto (tgt := 9) hx hb dX5_termOfTenths_42 (by decide) ?_
        exact ih up lw (by omega)  hz9 _ (lv_sub hl [0, 1, 2, 3, 4] rfl)
      · rw [if_pos c19] at hz9
        refine lv_iload_n hx hb dX5_termOfTenths_22 rfl (lv_at hl 1 rfl) ?_
        refine lv_iload hx hb dX5_termOfTenths_23 (lv_at hl 0 rfl) ?_
        refine lv_irem hx hb dX5_termOfTenths_25 (nI_ne0 (by omega) (by omega)) ?_
        refine lv_if_ne (tgt := 39) hx hb dX5_termOfTenths_26 (by decide) (fun c26 => ?_) (fun c26 => ?_)
        · rw [if_neg c26] at hz9
          refine lv_iinc (v := (nI (j9 + 1))) (lv' := [(4, .int (nI (j9 + 1))), (3, .int lw), (2, .int up), (0, .int kt1), (1, .int kp1)]) hx hb dX5_termOfTenths_39 hl (k := 0) rfl (pk_m1 (j9 + 1)) (by decide) rfl (fun ls hl => ?_)
          refine lv_goto (tgt := 9) hx hb dX5_termOfTenths_42 (by decide) ?_
          exact ih up lw (by omega)  hz9 _ (lv_sub hl [0, 1, 2, 3, 4] rfl)
        · rw [if_pos c26] at hz9
          refine lv_iload_n hx hb dX5_termOfTenths_29 rfl (lv_at hl 2 rfl) ?_
          refine lv_iload hx hb dX5_termOfTenths_30 (lv_at hl 0 rfl) ?_
          refine lv_idiv hx hb dX5_termOfTenths_32 (nI_ne0 (by omega) (by omega)) ?_
          refine lv_istore_n (lv' := [(2, .int (up / (nI (j9 + 1 + 1)))), (4, .int (nI (j9 + 1 + 1))), (3, .int lw), (0, .int kt1), (1, .int kp1)]) hx hb dX5_termOfTenths_33 rfl hl (by decide) rfl (fun ls hl => ?_)
          refine lv_iload_n hx hb dX5_termOfTenths_34 rfl (lv_at hl 2 rfl) ?_
          refine lv_iload hx hb dX5_termOfTenths_35 (lv_at hl 1 rfl) ?_
          refine lv_idiv hx hb dX5_termOfTenths_37 (nI_ne0 (by omega) (by omega)) ?_
          refine lv_istore_n (lv' := [(3, .int (lw / (nI (j9 + 1 + 1)))), (2, .int (up / (nI (j9 + 1 + 1)))), (4, .int (nI (j9 + 1 + 1))), (0, .int kt1), (1, .int kp1)]) hx hb dX5_termOfTenths_38 rfl hl (by decide) rfl (fun ls hl => ?_)
          refine lv_iinc (v := (nI (j9 + 1))) (lv' := [(4, .int (nI (j9 + 1))), (3, .int (lw / (nI (j9 + 1 + 1)))), (2, .int (up / (nI (j9 + 1 + 1)))), (0, .int kt1), (1, .int kp1)]) hx hb dX5_termOfTenths_39 hl (k := 2) rfl (pk_m1 (j9 + 1)) (by decide) rfl (fun ls hl => ?_)
          refine lv_goto (tgt := 9) hx hb dX5_termOfTenths_42 (by decide) ?_
          exact ih (up / (nI (j9 + 1 + 1))) (lw / (nI (j9 + 1 + 1))) (by omega)  hz9 _ (lv_sub hl [0, 1, 2, 3, 4] rfl)
  exact LP9 9 kt1 (10 : Int32) (by omega)  hz9 _ (lv_sub hl [0, 1, 2, 3, 4] rfl)

def fX5_power_L5 (bs : Int64) : Nat → Nat → Int64 → Int64
  | 0, _, pr => pr
  | r5 + 1, j5, pr => (fX5_power_L5 bs r5 (j5 + 1) (pr * bs))
def fX5_power (bs : Int64) (ex : Int32) : Int64 :=
  ((fun (pr : Int64) => pr) (fX5_power_L5 bs ex.toNatClampNeg 0 (1 : Int64)))
set_option maxHeartbeats 4000000 in
set_option maxRecDepth 100000 in
theorem c_X5_power (l : Launch) (dC : Nat → ClassId) (dI : Nat → Nat → Nat) (cyI cyZ : ClassId)  (bs : Int64) (ex : Int32) (r : Int64) (hF : fX5_power bs ex = r) : Met l yX5_power wsX5_power ({ frames := 0, cells := 0, slots := 0, locals := 0 }) (kx_rp (dC, dI) [] [(cyI, .int), (cyZ, .boolean)] [.long bs, .int ex]) (k2_QcV (.long r)) 0 0 (fun _ => False) := by
  refine Met.ofW (cc := cX5_power) (maxL := 6) (ret := (some .long)) (by decide) rfl ?_
  intro p e s m args below meth c s₁ B hml hv
  obtain ⟨rfl, hP, hK, hN⟩ := hv
  have hx := B.exec
  have hb := B.bytes
  have hr := B.returns
  have hts := atoms_spec (ws := wsX5_power) B.pre
  have hown : s.vm.findClass RX5 = some m.cls := findClass_of_methodNamed B.named
  have hlocks := B.notSynchronized
  have hl := lv_entry ([.long bs, .int ex]) (n := 6) (Nat.le_of_ble_eq_true rfl)
  rw [lg_entry_eq]
  generalize (lg_sl ([.long bs, .int ex]) ++ List.replicate (6 - (lg_sl ([.long bs, .int ex])).length) Slot.unset).toArray = ls at hl ⊢
  have hl : lv_has ls 6 [(0, .long bs), (2, .int ex)] := hl
  unfold fX5_power at hF
  refine lv_lconst (v := 1) hx hb dX5_power_0 rfl ?_
  refine lv_lstore_n (lv' := [(3, .long (1 : Int64)), (0, .long bs), (2, .int ex)]) hx hb dX5_power_1 rfl hl (by decide) rfl (fun ls hl => ?_)
  refine lv_iconst (v := (0 : Int32)) hx hb dX5_power_2 (by decide) ?_
  have htn := kx_tnc ex
  refine lv_istore (lv' := [(5, .int (0 : Int32)), (3, .long (1 : Int64)), (0, .long bs), (2, .int ex)]) hx hb dX5_power_3 hl (by decide) rfl (fun ls hl => ?_)
  generalize hz5 : fX5_power_L5 bs ex.toNatClampNeg 0 (1 : Int64) = z5 at hF
  have LP5 : ∀ (r5 : Nat) (j5 : Nat) (pr : Int64), r5 + j5 = ex.toNatClampNeg → fX5_power_L5 bs r5 j5 pr = z5 → ∀ (ls : Array Slot), lv_has ls 6 [(5, .int (nI j5)), (3, .long pr), (0, .long bs), (2, .int ex)] → W p l e (headSpec wsX5_power ({ frames := 0, cells := 0, slots := 0, locals := 0 } : Room)).room s m ([.long bs, .int ex] : List Value).toArray below meth c s.heap [] 0 0 (MQ below (k2_QcV (.long r)) ([.long bs, .int ex] : List Value).toArray s 0 0 (fun _ => False)) (F0 m 5 ls []) := by
    intro r5
    induction r5 with
    | zero =>
      intro j5 pr hrj hz5 ls hl
      rw [fX5_power_L5] at hz5
      subst hz5
      try dsimp only at hF
      refine lv_iload hx hb dX5_power_5 (lv_at hl 0 rfl) ?_
      refine lv_iload_n hx hb dX5_power_7 rfl (lv_at hl 3 rfl) ?_
      refine kx_geR hx hb (j5) ex rfl (by omega) dX5_power_8 (by decide) (tgt := 21) (fun c8 => ?_) (fun c8 => absurd c8 (by omega))
      refine lv_lload_n hx hb dX5_power_21 rfl (lv_at hl 1 rfl) ?_
      exact W.lret hx hb hr (fun t ht _ => ⟨congrArg (fun z => Outcome.returned (some (Value.long z))) hF, ht⟩) (fun _ h => absurd h List.not_mem_nil) dX5_power_22
    | succ r5 ih =>
      intro j5 pr hrj hz5 ls hl
      rw [fX5_power_L5] at hz5
      refine lv_iload hx hb dX5_power_5 (lv_at hl 0 rfl) ?_
      refine lv_iload_n hx hb dX5_power_7 rfl (lv_at hl 3 rfl) ?_
      refine kx_geR hx hb (j5) ex rfl (by omega) dX5_power_8 (by decide) (tgt := 21) (fun c8 => absurd c8 (by omega)) (fun c8 => ?_)
      refine lv_lload_n hx hb dX5_power_11 rfl (lv_at hl 1 rfl) ?_
      refine lv_lload_n hx hb dX5_power_12 rfl (lv_at hl 2 rfl) ?_
      refine lv_lmul hx hb dX5_power_13 ?_
      refine lv_lstore_n (lv' := [(3, .long (pr * bs)), (5, .int (nI j5)), (0, .long bs), (2, .int ex)]) hx hb dX5_power_14 rfl hl (by decide) rfl (fun ls hl => ?_)
      refine lv_iinc (v := (nI (j5 + 1))) (lv' := [(5, .int (nI (j5 + 1))), (3, .long (pr * bs)), (0, .long bs), (2, .int ex)]) hx hb dX5_power_15 hl (k := 1) rfl (by exact nI_add (j5) 1) (by decide) rfl (fun ls hl => ?_)
      refine lv_goto (tgt := 5) hx hb dX5_power_18 (by decide) ?_
      exact ih (j5 + 1) (pr * bs) (by omega)  hz5 _ (lv_sub hl [0, 1, 2, 3] rfl)
  exact LP5 ex.toNatClampNeg 0 (1 : Int64) (by omega)  hz5 _ (lv_sub hl [0, 1, 2, 3] rfl)

def fX5_moths (n : Nat) (ea : Int32) (an : Nat → Int32) (se : Int32) (te : Int32) (pa : Int32) : Int64 :=
  (if (fX2_hasAll n se) = 0 then (-1000000000000000001 : Int64) else (if te < 0 then (-1000000000000000002 : Int64) else (if (10 : Int32) < te then (-1000000000000000002 : Int64) else (if (fX5_isBelow pa (2 : Int32)) = 0 then (-1000000000000000002 : Int64) else (if (pcN (fX2_withAnchors n an se)) ≤ 18 then (if ((fX2_withAnchors n an se) &&& ea) = 0 then (fX5_power (((fX5_termOfTenths ((10 : Int32) - te) pa)).toInt64) (nI ((pcN (fX2_withAnchors n an se))))) else (if pa = 0 then (0 : Int64) else (1 : Int64))) else (-1000000000000000003 : Int64))))))
set_option maxHeartbeats 4000000 in
set_option maxRecDepth 100000 in
theorem c_X5_moths (l : Launch) (dC : Nat → ClassId) (dI : Nat → Nat → Nat) (cyI cyZ : ClassId) (hkc ht ht1 ht2 hp htr hh as hs ak a0 a1 a2 : Nat) (kp : Int32) (si : Nat) (fi : Int32) (n : Nat) (ea : Int32) (co : Nat → Int32) (ti : Nat → Int32) (an : Nat → Int32) (se : Int32) (te : Int32) (pa : Int32) (hn : n ≤ 24) (r : Int64) (hF : fX5_moths n ea an se te pa = r) : Met l yX5_moths wsX5_moths ({ frames := 2, cells := 0, slots := 0, locals := 45 }) (kx_rp (dC, dI) [(hkc, .inr (5, [.ref ht, .ref ht1, .ref ht2, .int kp, .ref hp, .ref htr, .ref hh, .ref as])), (ht, .inr (3, [.ref hs, .ref ak, .int (nI si), .int fi])), (hs, .inr (2, [.ref a0, .ref a1, .ref a2, .int (nI n), .int ea])), (a0, .inl (cyI, 24, .inl co)), (a1, .inl (cyI, 24, .inl ti)), (a2, .inl (cyI, 24, .inl an))] [(cyI, .int), (cyZ, .boolean)] [.ref hkc, .int se, .int te, .int pa]) (k2_QcV (.long r)) 0 0 (fun _ => False) := by
  refine Met.ofW (cc := cX5_moths) (maxL := 7) (ret := (some .long)) (by decide) rfl ?_
  intro p e s m args below meth c s₁ B hml hv
  obtain ⟨rfl, hP, hK, hN⟩ := hv
  have hx := B.exec
  have hb := B.bytes
  have hr := B.returns
  have hts := atoms_spec (ws := wsX5_moths) B.pre
  have hown : s.vm.findClass RX5 = some m.cls := findClass_of_methodNamed B.named
  have hlocks := B.notSynchronized
  have hiX2 : ∀ w ∈ wsX20, w ∈ wsX5_moths := by decide +kernel
  have hiX3 : ∀ w ∈ wsX30, w ∈ wsX5_moths := by decide +kernel
  have hiX5 : ∀ w ∈ wsX50, w ∈ wsX5_moths := by decide +kernel
  have fl10 := hts (.fieldLink RX5 10 "KnitChronicle" "town" "LKnitChronicle$Town;") (by decide +kernel)
  have fl47 := hts (.fieldLink RX5 47 "KnitChronicle$Town" "scarf" "LKnitChronicle$Scarf;") (by decide +kernel)
  have fl114 := hts (.fieldLink RX5 114 "KnitChronicle$Scarf" "eaten" "I") (by decide +kernel)
  have hl := lv_entry ([.ref hkc, .int se, .int te, .int pa]) (n := 7) (Nat.le_of_ble_eq_true rfl)
  rw [lg_entry_eq]
  generalize (lg_sl ([.ref hkc, .int se, .int te, .int pa]) ++ List.replicate (7 - (lg_sl ([.ref hkc, .int se, .int te, .int pa])).length) Slot.unset).toArray = ls at hl ⊢
  have hl : lv_has ls 7 [(0, .ref hkc), (1, .int se), (2, .int te), (3, .int pa)] := hl
  unfold fX5_moths at hF
  refine lv_aload_n hx hb dX5_moths_0 rfl (lv_at hl 0 rfl) ?_
  refine va_get (D := (dC, dI)) (ci := 5) (v := .ref ht) (C := RX5) (T := TX5) (N := 8) hx hb hts hiX5 hown hK hP 0 rfl rfl 0 (by decide) fl10 (fun _ h9 => h9) rfl dX5_moths_1 ?_
  refine va_get (D := (dC, dI)) (ci := 3) (v := .ref hs) (C := RX3) (T := TX3) (N := 4) hx hb hts hiX3 hown hK hP 1 rfl rfl 0 (by decide) fl47 (fun _ h9 => h9) rfl dX5_moths_4 ?_
  refine lv_astore (lv' := [(4, .ref hs), (0, .ref hkc), (1, .int se), (2, .int te), (3, .int pa)]) hx hb dX5_moths_7 hl (by decide) rfl (fun ls hl => ?_)
  refine lv_aload hx hb dX5_moths_9 (lv_at hl 0 rfl) ?_
  refine lv_iload_n hx hb dX5_moths_11 rfl (lv_at hl 2 rfl) ?_
  refine kx_cV (As := [.int se]) (rest := []) ⟨hx, hb, hml, hown, hts⟩ (c_X2_hasAll l dC dI cyI cyZ hs a0 a1 a2 n ea co ti an se  _ rfl) (cwV 1 hts gX5_moths_X2_hasAll rfl rfl rfl (by decide +kernel) ⟨Nat.le_of_ble_eq_true rfl, Nat.le_of_ble_eq_true rfl⟩) hP hK hN [2, 3, 4, 5] rfl [0, 1] rfl 2 2 rfl rfl rfl rfl hl.1 rfl (Nat.le_of_ble_eq_true rfl) dX5_moths_12 ⟨Nat.zero_le _, Nat.zero_le _⟩ ?_
  refine lv_if_ne (tgt := 22) hx hb dX5_moths_15 (by decide) (fun c15 => ?_) (fun c15 => ?_)
  · rw [if_neg c15] at hF
    refine lv_iload_n hx hb dX5_moths_22 rfl (lv_at hl 3 rfl) ?_
    refine lv_if_lt (tgt := 40) hx hb dX5_moths_23 (by decide) (fun c23 => ?_) (fun c23 => ?_)
    · rw [if_pos c23] at hF
      refine lv_ldc2 hx hb hown (hts (.constantLong RX5 237 (-1000000000000000002)) (by decide +kernel)) dX5_moths_40 ?_
      exact W.lret hx hb hr (fun t ht _ => ⟨congrArg (fun z => Outcome.returned (some (Value.long z))) hF, ht⟩) (fun _ h => absurd h List.not_mem_nil) dX5_moths_43
    · rw [if_neg c23] at hF
      refine lv_iload_n hx hb dX5_moths_26 rfl (lv_at hl 3 rfl) ?_
      refine lv_bipush (v := (10 : Int32)) hx hb dX5_moths_27 (by decide) ?_
      refine lv_icmp_gt (tgt := 40) hx hb dX5_moths_29 (by decide) (fun c29 => ?_) (fun c29 => ?_)
      · rw [if_pos c29] at hF
        refine lv_ldc2 hx hb hown (hts (.constantLong RX5 237 (-1000000000000000002)) (by decide +kernel)) dX5_moths_40 ?_
        exact W.lret hx hb hr (fun t ht _ => ⟨congrArg (fun z => Outcome.returned (some (Value.long z))) hF, ht⟩) (fun _ h => absurd h List.not_mem_nil) dX5_moths_43
      · rw [if_neg c29] at hF
        refine lv_iload_n hx hb dX5_moths_32 rfl (lv_at hl 4 rfl) ?_
        refine lv_iconst (v := (2 : Int32)) hx hb dX5_moths_33 (by decide) ?_
        refine kx_cS (As := [.int pa, .int (2 : Int32)]) (rest := []) ⟨hx, hb, hml, hown, hts⟩ (c_X5_isBelow l dC dI cyI cyZ  pa (2 : Int32)  _ rfl) (va_cwS 2 hts gX5_moths_X5_isBelow rfl rfl rfl (by decide +kernel) ⟨Nat.le_of_ble_eq_true rfl, Nat.le_of_ble_eq_true rfl⟩) hP hK hN [] rfl [0, 1] rfl rfl hl.1 rfl (Nat.le_of_ble_eq_true rfl) dX5_moths_34 ⟨Nat.zero_le _, Nat.zero_le _⟩ ?_
        refine lv_if_ne (tgt := 44) hx hb dX5_moths_37 (by decide) (fun c37 => ?_) (fun c37 => ?_)
        · rw [if_neg c37] at hF
          refine lv_aload hx hb dX5_moths_44 (lv_at hl 0 rfl) ?_
          refine lv_iload_n hx hb dX5_moths_46 rfl (lv_at hl 2 rfl) ?_
          refine kx_cV (As := [.int se]) (rest := []) ⟨hx, hb, hml, hown, hts⟩ (c_X2_withAnchors l dC dI cyI cyZ hs a0 a1 a2 n ea co ti an se (by omega) _ rfl) (cwV 1 hts gX5_moths_X2_withAnchors rfl rfl rfl (by decide +kernel) ⟨Nat.le_of_ble_eq_true rfl, Nat.le_of_ble_eq_true rfl⟩) hP hK hN [2, 3, 4, 5] rfl [0, 1] rfl 2 2 rfl rfl rfl rfl hl.1 rfl (Nat.le_of_ble_eq_true rfl) dX5_moths_47 ⟨Nat.zero_le _, Nat.zero_le _⟩ ?_
          refine lv_istore (lv' := [(5, .int (fX2_withAnchors n an se)), (4, .ref hs), (0, .ref hkc), (1, .int se), (2, .int te), (3, .int pa)]) hx hb dX5_moths_50 hl (by decide) rfl (fun ls hl => ?_)
          refine lv_iload hx hb dX5_moths_52 (lv_at hl 0 rfl) ?_
          refine kx_cS (As := [.int (fX2_withAnchors n an se)]) (rest := []) ⟨hx, hb, hml, hown, hts⟩ (c_J6_bitCount_0f7a4 l dC dI cyI cyZ  (fX2_withAnchors n an se)  _ rfl) (va_cwS 1 hts gX5_moths_J6_bitCount_0f7a4 rfl rfl rfl (by decide +kernel) ⟨Nat.le_of_ble_eq_true rfl, Nat.le_of_ble_eq_true rfl⟩) hP hK hN [] rfl [0, 1] rfl rfl hl.1 rfl (Nat.le_of_ble_eq_true rfl) dX5_moths_54 ⟨Nat.zero_le _, Nat.zero_le _⟩ ?_
          refine kx_e (pcN_eq _) ?_
          have hpc54 := pcN_lt (fX2_withAnchors n an se)
          refine lv_istore (lv' := [(6, .int (nI ((pcN (fX2_withAnchors n an se))))), (5, .int (fX2_withAnchors n an se)), (4, .ref hs), (0, .ref hkc), (1, .int se), (2, .int te), (3, .int pa)]) hx hb dX5_moths_57 hl (by decide) rfl (fun ls hl => ?_)
          refine lv_iload hx hb dX5_moths_59 (lv_at hl 0 rfl) ?_
          refine lv_bipush (v := (18 : Int32)) hx hb dX5_moths_61 (by decide) ?_
          refine kx_le hx hb ((pcN (fX2_withAnchors n an se))) (18) rfl rfl (by omega) (by omega) dX5_moths_63 (by decide) (tgt := 70) (fun c63 => ?_) (fun c63 => ?_)
          · rw [if_pos c63] at hF
            refine lv_iload hx hb dX5_moths_70 (lv_at hl 1 rfl) ?_
            refine lv_aload hx hb dX5_moths_72 (lv_at hl 2 rfl) ?_
            refine va_get (D := (dC, dI)) (ci := 2) (v := .int ea) (C := RX2) (T := TX2) (N := 5) hx hb hts hiX2 hown hK hP 2 rfl rfl 4 (by decide) fl114 (fun _ h9 => h9) rfl dX5_moths_74 ?_
            refine lv_iand hx hb dX5_moths_77 ?_
            refine lv_if_eq (tgt := 91) hx hb dX5_moths_78 (by decide) (fun c78 => ?_) (fun c78 => ?_)
            · rw [if_pos c78] at hF
              refine lv_bipush (v := (10 : Int32)) hx hb dX5_moths_91 (by decide) ?_
              refine lv_iload_n hx hb dX5_moths_93 rfl (lv_at hl 5 rfl) ?_
              refine lv_isub hx hb dX5_moths_94 ?_
              refine lv_iload_n hx hb dX5_moths_95 rfl (lv_at hl 6 rfl) ?_
              refine kx_cS (As := [.int ((10 : Int32) - te), .int pa]) (rest := []) ⟨hx, hb, hml, hown, hts⟩ (c_X5_termOfTenths l dC dI cyI cyZ  ((10 : Int32) - te) pa  _ rfl) (va_cwS 2 hts gX5_moths_X5_termOfTenths rfl rfl rfl (by decide +kernel) ⟨Nat.le_of_ble_eq_true rfl, Nat.le_of_ble_eq_true rfl⟩) hP hK hN [] rfl [0, 1] rfl rfl hl.1 rfl (Nat.le_of_ble_eq_true rfl) dX5_moths_96 ⟨Nat.zero_le _, Nat.zero_le _⟩ ?_
              refine lv_i2l (v := ((fX5_termOfTenths ((10 : Int32) - te) pa)).toInt64) hx hb dX5_moths_99 rfl ?_
              refine lv_iload hx hb dX5_moths_100 (lv_at hl 0 rfl) ?_
              refine kx_cS (As := [.long (((fX5_termOfTenths ((10 : Int32) - te) pa)).toInt64), .int (nI ((pcN (fX2_withAnchors n an se))))]) (rest := []) ⟨hx, hb, hml, hown, hts⟩ (c_X5_power l dC dI cyI cyZ  (((fX5_termOfTenths ((10 : Int32) - te) pa)).toInt64) (nI ((pcN (fX2_withAnchors n an se))))  _ rfl) (va_cwS 2 hts gX5_moths_X5_power rfl rfl rfl (by decide +kernel) ⟨Nat.le_of_ble_eq_true rfl, Nat.le_of_ble_eq_true rfl⟩) hP hK hN [] rfl [0, 1] rfl rfl hl.1 rfl (Nat.le_of_ble_eq_true rfl) dX5_moths_102 ⟨Nat.zero_le _, Nat.zero_le _⟩ ?_
              exact W.lret hx hb hr (fun t ht _ => ⟨congrArg (fun z => Outcome.returned (some (Value.long z))) hF, ht⟩) (fun _ h => absurd h List.not_mem_nil) dX5_moths_105
            · rw [if_neg c78] at hF
              refine lv_iload_n hx hb dX5_moths_81 rfl (lv_at hl 6 rfl) ?_
              refine lv_if_ne (tgt := 89) hx hb dX5_moths_82 (by decide) (fun c82 => ?_) (fun c82 => ?_)
              · rw [if_neg c82] at hF
                refine lv_lconst (v := 1) hx hb dX5_moths_89 rfl ?_
                exact W.lret hx hb hr (fun t ht _ => ⟨congrArg (fun z => Outcome.returned (some (Value.long z))) hF, ht⟩) (fun _ h => absurd h List.not_mem_nil) dX5_moths_90
              · rw [if_pos c82] at hF
                refine lv_lconst (v := 0) hx hb dX5_moths_85 rfl ?_
                refine lv_goto (tgt := 90) hx hb dX5_moths_86 (by decide) ?_
                exact W.lret hx hb hr (fun t ht _ => ⟨congrArg (fun z => Outcome.returned (some (Value.long z))) hF, ht⟩) (fun _ h => absurd h List.not_mem_nil) dX5_moths_90
          · rw [if_neg (Nat.not_le.mpr c63)] at hF
            refine lv_ldc2 hx hb hown (hts (.constantLong RX5 239 (-1000000000000000003)) (by decide +kernel)) dX5_moths_66 ?_
            exact W.lret hx hb hr (fun t ht _ => ⟨congrArg (fun z => Outcome.returned (some (Value.long z))) hF, ht⟩) (fun _ h => absurd h List.not_mem_nil) dX5_moths_69
        · rw [if_pos c37] at hF
          refine lv_ldc2 hx hb hown (hts (.constantLong RX5 237 (-1000000000000000002)) (by decide +kernel)) dX5_moths_40 ?_
          exact W.lret hx hb hr (fun t ht _ => ⟨congrArg (fun z => Outcome.returned (some (Value.long z))) hF, ht⟩) (fun _ h => absurd h List.not_mem_nil) dX5_moths_43
  · rw [if_pos c15] at hF
    refine lv_ldc2 hx hb hown (hts (.constantLong RX5 235 (-1000000000000000001)) (by decide +kernel)) dX5_moths_18 ?_
    exact W.lret hx hb hr (fun t ht _ => ⟨congrArg (fun z => Outcome.returned (some (Value.long z))) hF, ht⟩) (fun _ h => absurd h List.not_mem_nil) dX5_moths_21

def fX5_tryDrawn (kt : Nat → Int32) (ac1 : Int32) (mu : Int32) (al1 : Int32) (nr : Nat) (er : Int32) (cr : Nat → Int32) (tr : Nat → Int32) (ar : Nat → Int32) (xx : Int32) : (Nat → Int32) × (Nat → Int32) × (Nat → Int32) × Nat × Int32 × Int32 × Int32 × Int32 × Int32 :=
  (if (if (3 : Int32) < (xx - xx / (8 : Int32) * (8 : Int32)) then (3 : Int32) else (xx - xx / (8 : Int32) * (8 : Int32))) = (3 : Int32) then (match fX4_act ac1 mu al1 nr er cr tr ar (if (3 : Int32) < (xx - xx / (8 : Int32) * (8 : Int32)) then (3 : Int32) else (xx - xx / (8 : Int32) * (8 : Int32))) ((xx / (8 : Int32)) - (xx / (8 : Int32)) / (24 : Int32) * (24 : Int32)) ((xx / (32 : Int32)) - (xx / (32 : Int32)) / (4 : Int32) * (4 : Int32)) (fX3_tightnessOf kt ((xx / (8 : Int32)) - (xx / (8 : Int32)) / (4 : Int32) * (4 : Int32))) with | (q55a, q55b, q55c, q55d, q55e, q55f, q55g, q55h, q55i, q55j) => (q55b, q55c, q55d, q55e, q55f, q55g, q55h, q55i, q55j)) else (match fX4_act ac1 mu al1 nr er cr tr ar (if (3 : Int32) < (xx - xx / (8 : Int32) * (8 : Int32)) then (3 : Int32) else (xx - xx / (8 : Int32) * (8 : Int32))) ((xx / (8 : Int32)) - (xx / (8 : Int32)) / (24 : Int32) * (24 : Int32)) ((xx / (32 : Int32)) - (xx / (32 : Int32)) / (4 : Int32) * (4 : Int32)) (fX3_tightnessOf kt ((xx / (192 : Int32)) - (xx / (192 : Int32)) / (4 : Int32) * (4 : Int32))) with | (q55a, q55b, q55c, q55d, q55e, q55f, q55g, q55h, q55i, q55j) => (q55b, q55c, q55d, q55e, q55f, q55g, q55h, q55i, q55j)))
set_option maxHeartbeats 4000000 in
set_option maxRecDepth 100000 in
theorem c_X5_tryDrawn (l : Launch) (dC : Nat → ClassId) (dI : Nat → Nat → Nat) (cyI cyZ : ClassId) (hkc ht ht1 ht2 hp htr hh as hs ak hq r0 r1 r2 : Nat) (kp : Int32) (si : Nat) (fi : Int32) (kt : Nat → Int32) (ac1 : Int32) (rs : Int32) (mu : Int32) (al1 : Int32) (nr : Nat) (er : Int32) (cr : Nat → Int32) (tr : Nat → Int32) (ar : Nat → Int32) (xx : Int32) (hnr : nr ≤ 1000) (sz : Nat) (r : (Nat → Int32) × (Nat → Int32) × (Nat → Int32) × Nat × Int32 × Int32 × Int32 × Int32 × Int32) (hF : fX5_tryDrawn kt ac1 mu al1 nr er cr tr ar xx = r) : Met l yX5_tryDrawn wsX5_tryDrawn ({ frames := 4, cells := 0, slots := 0, locals := 93 }) (kx_wp (dC, dI) [(hkc, .inr (5, [.ref ht, .ref ht1, .ref ht2, .int kp, .ref hp, .ref htr, .ref hh, .ref as])), (ht, .inr (3, [.ref hs, .ref ak, .int (nI si), .int fi])), (ak, .inl (cyI, 4, .inl kt)), (htr, .inr (4, [.ref hq, .int ac1, .int rs, .int mu, .int al1])), (hq, .inr (2, [.ref r0, .ref r1, .ref r2, .int (nI nr), .int er])), (r0, .inl (cyI, 24, .inl cr)), (r1, .inl (cyI, 24, .inl tr)), (r2, .inl (cyI, 24, .inl ar))] [(cyI, .int), (cyZ, .boolean)] sz [.ref hkc, .int xx]) (kx_Qv (dC, dI) [(hkc, .inr (5, [.ref ht, .ref ht1, .ref ht2, .int kp, .ref hp, .ref htr, .ref hh, .ref as])), (ht, .inr (3, [.ref hs, .ref ak, .int (nI si), .int fi])), (ak, .inl (cyI, 4, .inl kt)), (htr, .inr (4, [.ref hq, .int ac1, .int rs, .int mu, .int al1])), (hq, .inr (2, [.ref r0, .ref r1, .ref r2, .int (nI nr), .int er])), (r0, .inl (cyI, 24, .inl cr)), (r1, .inl (cyI, 24, .inl tr)), (r2, .inl (cyI, 24, .inl ar))] [(hkc, .inr (5, [.ref ht, .ref ht1, .ref ht2, .int kp, .ref hp, .ref htr, .ref hh, .ref as])), (ht, .inr (3, [.ref hs, .ref ak, .int (nI si), .int fi])), (ak, .inl (cyI, 4, .inl kt)), (htr, .inr (4, [.ref hq, .int r.2.2.2.2.2.1, .int r.2.2.2.2.2.2.1, .int r.2.2.2.2.2.2.2.1, .int r.2.2.2.2.2.2.2.2])), (hq, .inr (2, [.ref r0, .ref r1, .ref r2, .int (nI (r.2.2.2.1)), .int r.2.2.2.2.1])), (r0, .inl (cyI, 24, .inl r.1)), (r1, .inl (cyI, 24, .inl r.2.1)), (r2, .inl (cyI, 24, .inl r.2.2.1))] sz) 0 0 (va_A [(hkc, .inr (5, [.ref ht, .ref ht1, .ref ht2, .int kp, .ref hp, .ref htr, .ref hh, .ref as])), (ht, .inr (3, [.ref hs, .ref ak, .int (nI si), .int fi])), (ak, .inl (cyI, 4, .inl kt)), (htr, .inr (4, [.ref hq, .int ac1, .int rs, .int mu, .int al1])), (hq, .inr (2, [.ref r0, .ref r1, .ref r2, .int (nI nr), .int er])), (r0, .inl (cyI, 24, .inl cr)), (r1, .inl (cyI, 24, .inl tr)), (r2, .inl (cyI, 24, .inl ar))] sz) := by
  refine Met.ofW (cc := cX5_tryDrawn) (maxL := 4) (ret := none) (by decide) rfl ?_
  intro p e s m args below meth c s₁ B hml hv
  obtain ⟨rfl, hsz, hP, hK, hN, hD0⟩ := hv
  have hx := B.exec
  have hb := B.bytes
  have hr := B.returns
  have hts := atoms_spec (ws := wsX5_tryDrawn) B.pre
  have hown : s.vm.findClass RX5 = some m.cls := findClass_of_methodNamed B.named
  have hlocks := B.notSynchronized
  subst hsz
  obtain ⟨A, hAe⟩ : ∃ A, A = va_A [(hkc, .inr (5, [.ref ht, .ref ht1, .ref ht2, .int kp, .ref hp, .ref htr, .ref hh, .ref as])), (ht, .inr (3, [.ref hs, .ref ak, .int (nI si), .int fi])), (ak, .inl (cyI, 4, .inl kt)), (htr, .inr (4, [.ref hq, .int ac1, .int rs, .int mu, .int al1])), (hq, .inr (2, [.ref r0, .ref r1, .ref r2, .int (nI nr), .int er])), (r0, .inl (cyI, 24, .inl cr)), (r1, .inl (cyI, 24, .inl tr)), (r2, .inl (cyI, 24, .inl ar))] s.heap.size := ⟨_, rfl⟩
  have hD : va_D A [(hkc, .inr (5, [.ref ht, .ref ht1, .ref ht2, .int kp, .ref hp, .ref htr, .ref hh, .ref as])), (ht, .inr (3, [.ref hs, .ref ak, .int (nI si), .int fi])), (ak, .inl (cyI, 4, .inl kt)), (htr, .inr (4, [.ref hq, .int ac1, .int rs, .int mu, .int al1])), (hq, .inr (2, [.ref r0, .ref r1, .ref r2, .int (nI nr), .int er])), (r0, .inl (cyI, 24, .inl cr)), (r1, .inl (cyI, 24, .inl tr)), (r2, .inl (cyI, 24, .inl ar))] := by rw [hAe]; exact hD0.self
  have hA : ∀ q : Nat, s.heap.size ≤ q → A q := fun q h => by rw [hAe]; exact Or.inr h
  have hS : va_S A s.heap s.heap [] := va_S.rf
  have hiX5 : ∀ w ∈ wsX50, w ∈ wsX5_tryDrawn := by decide +kernel
  have fl10 := hts (.fieldLink RX5 10 "KnitChronicle" "town" "LKnitChronicle$Town;") (by decide +kernel)
  have fl32 := hts (.fieldLink RX5 32 "KnitChronicle" "trial" "LKnitChronicle$Trial;") (by decide +kernel)
  have hl := lv_entry ([.ref hkc, .int xx]) (n := 4) (Nat.le_of_ble_eq_true rfl)
  rw [lg_entry_eq]
  generalize (lg_sl ([.ref hkc, .int xx]) ++ List.replicate (4 - (lg_sl ([.ref hkc, .int xx])).length) Slot.unset).toArray = ls at hl ⊢
  have hl : lv_has ls 4 [(0, .ref hkc), (1, .int xx)] := hl
  unfold fX5_tryDrawn at hF
  refine lv_iload_n hx hb dX5_tryDrawn_0 rfl (lv_at hl 1 rfl) ?_
  refine lv_bipush (v := (8 : Int32)) hx hb dX5_tryDrawn_1 (by decide) ?_
  refine lv_irem hx hb dX5_tryDrawn_3 (by decide) ?_
  refine lv_iconst (v := (3 : Int32)) hx hb dX5_tryDrawn_4 (by decide) ?_
  refine va_mmin hx hb (hml.trans hl.1.symm) hown (hts (.methodLink RX5 255 Lib.Math.min.name) (by decide +kernel)) (hts (.static Lib.Math.min.name) (by decide +kernel)) (hts (.initialized "java/lang/Math") (by decide +kernel)) (hts (.code Lib.Math.min.name Lib.Math.min.code 2 (some .int)) (by decide +kernel)) (Nat.le_of_ble_eq_true rfl) (Nat.le_of_ble_eq_true rfl) (Nat.zero_le _) (Nat.zero_le _) dX5_tryDrawn_5 ?_
  refine lv_istore_n (lv' := [(2, .int (if (3 : Int32) < (xx - xx / (8 : Int32) * (8 : Int32)) then (3 : Int32) else (xx - xx / (8 : Int32) * (8 : Int32)))), (0, .ref hkc), (1, .int xx)]) hx hb dX5_tryDrawn_8 rfl hl (by decide) rfl (fun ls hl => ?_)
  refine lv_iload_n hx hb dX5_tryDrawn_9 rfl (lv_at hl 0 rfl) ?_
  refine lv_iconst (v := (3 : Int32)) hx hb dX5_tryDrawn_10 (by decide) ?_
  refine lv_icmp_ne (tgt := 21) hx hb dX5_tryDrawn_11 (by decide) (fun c11 => ?_) (fun c11 => ?_)
  · rw [if_neg c11] at hF
    refine lv_iload_n hx hb dX5_tryDrawn_21 rfl (lv_at hl 2 rfl) ?_
    refine lv_sipush (v := (192 : Int32)) hx hb dX5_tryDrawn_22 (by decide) ?_
    refine lv_idiv hx hb dX5_tryDrawn_25 (by decide) ?_
    refine lv_iconst (v := (4 : Int32)) hx hb dX5_tryDrawn_26 (by decide) ?_
    refine lv_irem hx hb dX5_tryDrawn_27 (by decide) ?_
    refine lv_istore_n (lv' := [(3, .int ((xx / (192 : Int32)) - (xx / (192 : Int32)) / (4 : Int32) * (4 : Int32))), (2, .int (if (3 : Int32) < (xx - xx / (8 : Int32) * (8 : Int32)) then (3 : Int32) else (xx - xx / (8 : Int32) * (8 : Int32)))), (0, .ref hkc), (1, .int xx)]) hx hb dX5_tryDrawn_28 rfl hl (by decide) rfl (fun ls hl => ?_)
    refine lv_aload_n hx hb dX5_tryDrawn_29 rfl (lv_at hl 2 rfl) ?_
    refine va_get (D := (dC, dI)) (ci := 5) (v := .ref htr) (C := RX5) (T := TX5) (N := 8) hx hb hts hiX5 hown hK hP 0 rfl rfl 5 (by decide) fl32 (fun _ h9 => h9) rfl dX5_tryDrawn_30 ?_
    refine lv_iload_n hx hb dX5_tryDrawn_33 rfl (lv_at hl 1 rfl) ?_
    refine lv_iload_n hx hb dX5_tryDrawn_34 rfl (lv_at hl 3 rfl) ?_
    refine lv_bipush (v := (8 : Int32)) hx hb dX5_tryDrawn_35 (by decide) ?_
    refine lv_idiv hx hb dX5_tryDrawn_37 (by decide) ?_
    refine lv_bipush (v := (24 : Int32)) hx hb dX5_tryDrawn_38 (by decide) ?_
    refine lv_irem hx hb dX5_tryDrawn_40 (by decide) ?_
    refine lv_iload_n hx hb dX5_tryDrawn_41 rfl (lv_at hl 3 rfl) ?_
    refine lv_bipush (v := (32 : Int32)) hx hb dX5_tryDrawn_42 (by decide) ?_
    refine lv_idiv hx hb dX5_tryDrawn_44 (by decide) ?_
    refine lv_iconst (v := (4 : Int32)) hx hb dX5_tryDrawn_45 (by decide) ?_
    refine lv_irem hx hb dX5_tryDrawn_46 (by decide) ?_
    refine lv_aload_n hx hb dX5_tryDrawn_47 rfl (lv_at hl 2 rfl) ?_
    refine va_get (D := (dC, dI)) (ci := 5) (v := .ref ht) (C := RX5) (T := TX5) (N := 8) hx hb hts hiX5 hown hK hP 0 rfl rfl 0 (by decide) fl10 (fun _ h9 => h9) rfl dX5_tryDrawn_48 ?_
    refine lv_iload_n hx hb dX5_tryDrawn_51 rfl (lv_at hl 0 rfl) ?_
    refine kx_cV (As := [.int ((xx / (192 : Int32)) - (xx / (192 : Int32)) / (4 : Int32) * (4 : Int32))]) (rest := [.int ((xx / (32 : Int32)) - (xx / (32 : Int32)) / (4 : Int32) * (4 : Int32)), .int ((xx / (8 : Int32)) - (xx / (8 : Int32)) / (24 : Int32) * (24 : Int32)), .int (if (3 : Int32) < (xx - xx / (8 : Int32) * (8 : Int32)) then (3 : Int32) else (xx - xx / (8 : Int32) * (8 : Int32))), .ref htr]) ⟨hx, hb, hml, hown, hts⟩ (c_X3_tightnessOf l dC dI cyI cyZ ht hs ak si fi kt ((xx / (192 : Int32)) - (xx / (192 : Int32)) / (4 : Int32) * (4 : Int32))  _ rfl) (cwV 1 hts gX5_tryDrawn_X3_tightnessOf rfl rfl rfl (by decide +kernel) ⟨Nat.le_of_ble_eq_true rfl, Nat.le_of_ble_eq_true rfl⟩) hP hK hN [1, 2] rfl [0, 1] rfl 3 1 rfl rfl rfl rfl hl.1 rfl (Nat.le_of_ble_eq_true rfl) dX5_tryDrawn_52 ⟨Nat.zero_le _, Nat.zero_le _⟩ ?_
    generalize hq55 : fX4_act ac1 mu al1 nr er cr tr ar (if (3 : Int32) < (xx - xx / (8 : Int32) * (8 : Int32)) then (3 : Int32) else (xx - xx / (8 : Int32) * (8 : Int32))) ((xx / (8 : Int32)) - (xx / (8 : Int32)) / (24 : Int32) * (24 : Int32)) ((xx / (32 : Int32)) - (xx / (32 : Int32)) / (4 : Int32) * (4 : Int32)) (fX3_tightnessOf kt ((xx / (192 : Int32)) - (xx / (192 : Int32)) / (4 : Int32) * (4 : Int32))) = q55 at hF
    obtain ⟨q55a, q55b, q55c, q55d, q55e, q55f, q55g, q55h, q55i, q55j⟩ := q55
    dsimp only at hF
    refine kx_wVi (As := [.int (if (3 : Int32) < (xx - xx / (8 : Int32) * (8 : Int32)) then (3 : Int32) else (xx - xx / (8 : Int32) * (8 : Int32))), .int ((xx / (8 : Int32)) - (xx / (8 : Int32)) / (24 : Int32) * (24 : Int32)), .int ((xx / (32 : Int32)) - (xx / (32 : Int32)) / (4 : Int32) * (4 : Int32)), .int (fX3_tightnessOf kt ((xx / (192 : Int32)) - (xx / (192 : Int32)) / (4 : Int32) * (4 : Int32)))]) (rest := []) (wr := [(hkc, .inr (5, [.ref ht, .ref ht1, .ref ht2, .int kp, .ref hp, .ref htr, .ref hh, .ref as])), (ht, .inr (3, [.ref hs, .ref ak, .int (nI si), .int fi])), (ak, .inl (cyI, 4, .inl kt))]) (wc' := [(htr, .inr (4, [.ref hq, .int q55g, .int q55h, .int q55i, .int q55j])), (hq, .inr (2, [.ref r0, .ref r1, .ref r2, .int (nI q55e), .int q55f])), (r0, .inl (cyI, 24, .inl q55b)), (r1, .inl (cyI, 24, .inl q55c)), (r2, .inl (cyI, 24, .inl q55d))]) (W1 := [(hkc, .inr (5, [.ref ht, .ref ht1, .ref ht2, .int kp, .ref hp, .ref htr, .ref hh, .ref as])), (ht, .inr (3, [.ref hs, .ref ak, .int (nI si), .int fi])), (ak, .inl (cyI, 4, .inl kt)), (htr, .inr (4, [.ref hq, .int q55g, .int q55h, .int q55i, .int q55j])), (hq, .inr (2, [.ref r0, .ref r1, .ref r2, .int (nI q55e), .int q55f])), (r0, .inl (cyI, 24, .inl q55b)), (r1, .inl (cyI, 24, .inl q55c)), (r2, .inl (cyI, 24, .inl q55d))]) ⟨hx, hb, hml, hown, hts⟩ (c_X4_act l dC dI cyI cyZ htr hq r0 r1 r2 ac1 rs mu al1 nr er cr tr ar (if (3 : Int32) < (xx - xx / (8 : Int32) * (8 : Int32)) then (3 : Int32) else (xx - xx / (8 : Int32) * (8 : Int32))) ((xx / (8 : Int32)) - (xx / (8 : Int32)) / (24 : Int32) * (24 : Int32)) ((xx / (32 : Int32)) - (xx / (32 : Int32)) / (4 : Int32) * (4 : Int32)) (fX3_tightnessOf kt ((xx / (192 : Int32)) - (xx / (192 : Int32)) / (4 : Int32) * (4 : Int32))) (by omega) _ _ hq55) (cwV 4 hts gX5_tryDrawn_X4_act rfl rfl rfl (by decide +kernel) ⟨Nat.le_of_ble_eq_true rfl, Nat.le_of_ble_eq_true rfl⟩) hP hD hS hA hK hN [3, 4, 5, 6, 7] [0, 1, 2] [0, 1, 2, 3, 4, 5, 6, 7] rfl (by decide) rfl (by decide) (by decide) (by decide) rfl [0, 1] rfl 4 3 rfl rfl rfl rfl hl.1 rfl (Nat.le_of_ble_eq_true rfl) dX5_tryDrawn_55 ⟨Nat.zero_le _, Nat.zero_le _⟩ (fun H locs hP hD hS => ?_)
    refine lv_pop hx hb dX5_tryDrawn_58 rfl ?_
    subst hF
    subst hAe
    exact W.vret hx hb hr (fun t ht _ => ⟨⟨(), rfl, trivial, by rw [ht]; exact hP, hD⟩, hS.F ht⟩) hS.2.2 dX5_tryDrawn_59
  · rw [if_pos c11] at hF
    refine lv_iload_n hx hb dX5_tryDrawn_14 rfl (lv_at hl 2 rfl) ?_
    refine lv_bipush (v := (8 : Int32)) hx hb dX5_tryDrawn_15 (by decide) ?_
    refine lv_idiv hx hb dX5_tryDrawn_17 (by decide) ?_
    refine lv_goto (tgt := 26) hx hb dX5_tryDrawn_18 (by decide) ?_
    refine lv_iconst (v := (4 : Int32)) hx hb dX5_tryDrawn_26 (by decide) ?_
    refine lv_irem hx hb dX5_tryDrawn_27 (by decide) ?_
    refine lv_istore_n (lv' := [(3, .int ((xx / (8 : Int32)) - (xx / (8 : Int32)) / (4 : Int32) * (4 : Int32))), (2, .int (if (3 : Int32) < (xx - xx / (8 : Int32) * (8 : Int32)) then (3 : Int32) else (xx - xx / (8 : Int32) * (8 : Int32)))), (0, .ref hkc), (1, .int xx)]) hx hb dX5_tryDrawn_28 rfl hl (by decide) rfl (fun ls hl => ?_)
    refine lv_aload_n hx hb dX5_tryDrawn_29 rfl (lv_at hl 2 rfl) ?_
    refine va_get (D := (dC, dI)) (ci := 5) (v := .ref htr) (C := RX5) (T := TX5) (N := 8) hx hb hts hiX5 hown hK hP 0 rfl rfl 5 (by decide) fl32 (fun _ h9 => h9) rfl dX5_tryDrawn_30 ?_
    refine lv_iload_n hx hb dX5_tryDrawn_33 rfl (lv_at hl 1 rfl) ?_
    refine lv_iload_n hx hb dX5_tryDrawn_34 rfl (lv_at hl 3 rfl) ?_
    refine lv_bipush (v := (8 : Int32)) hx hb dX5_tryDrawn_35 (by decide) ?_
    refine lv_idiv hx hb dX5_tryDrawn_37 (by decide) ?_
    refine lv_bipush (v := (24 : Int32)) hx hb dX5_tryDrawn_38 (by decide) ?_
    refine lv_irem hx hb dX5_tryDrawn_40 (by decide) ?_
    refine lv_iload_n hx hb dX5_tryDrawn_41 rfl (lv_at hl 3 rfl) ?_
    refine lv_bipush (v := (32 : Int32)) hx hb dX5_tryDrawn_42 (by decide) ?_
    refine lv_idiv hx hb dX5_tryDrawn_44 (by decide) ?_
    refine lv_iconst (v := (4 : Int32)) hx hb dX5_tryDrawn_45 (by decide) ?_
    refine lv_irem hx hb dX5_tryDrawn_46 (by decide) ?_
    refine lv_aload_n hx hb dX5_tryDrawn_47 rfl (lv_at hl 2 rfl) ?_
    refine va_get (D := (dC, dI)) (ci := 5) (v := .ref ht) (C := RX5) (T := TX5) (N := 8) hx hb hts hiX5 hown hK hP 0 rfl rfl 0 (by decide) fl10 (fun _ h9 => h9) rfl dX5_tryDrawn_48 ?_
    refine lv_iload_n hx hb dX5_tryDrawn_51 rfl (lv_at hl 0 rfl) ?_
    refine kx_cV (As := [.int ((xx / (8 : Int32)) - (xx / (8 : Int32)) / (4 : Int32) * (4 : Int32))]) (rest := [.int ((xx / (32 : Int32)) - (xx / (32 : Int32)) / (4 : Int32) * (4 : Int32)), .int ((xx / (8 : Int32)) - (xx / (8 : Int32)) / (24 : Int32) * (24 : Int32)), .int (if (3 : Int32) < (xx - xx / (8 : Int32) * (8 : Int32)) then (3 : Int32) else (xx - xx / (8 : Int32) * (8 : Int32))), .ref htr]) ⟨hx, hb, hml, hown, hts⟩ (c_X3_tightnessOf l dC dI cyI cyZ ht hs ak si fi kt ((xx / (8 : Int32)) - (xx / (8 : Int32)) / (4 : Int32) * (4 : Int32))  _ rfl) (cwV 1 hts gX5_tryDrawn_X3_tightnessOf rfl rfl rfl (by decide +kernel) ⟨Nat.le_of_ble_eq_true rfl, Nat.le_of_ble_eq_true rfl⟩) hP hK hN [1, 2] rfl [0, 1] rfl 3 1 rfl rfl rfl rfl hl.1 rfl (Nat.le_of_ble_eq_true rfl) dX5_tryDrawn_52 ⟨Nat.zero_le _, Nat.zero_le _⟩ ?_
    generalize hq55 : fX4_act ac1 mu al1 nr er cr tr ar (if (3 : Int32) < (xx - xx / (8 : Int32) * (8 : Int32)) then (3 : Int32) else (xx - xx / (8 : Int32) * (8 : Int32))) ((xx / (8 : Int32)) - (xx / (8 : Int32)) / (24 : Int32) * (24 : Int32)) ((xx / (32 : Int32)) - (xx / (32 : Int32)) / (4 : Int32) * (4 : Int32)) (fX3_tightnessOf kt ((xx / (8 : Int32)) - (xx / (8 : Int32)) / (4 : Int32) * (4 : Int32))) = q55 at hF
    obtain ⟨q55a, q55b, q55c, q55d, q55e, q55f, q55g, q55h, q55i, q55j⟩ := q55
    dsimp only at hF
    refine kx_wVi (As := [.int (if (3 : Int32) < (xx - xx / (8 : Int32) * (8 : Int32)) then (3 : Int32) else (xx - xx / (8 : Int32) * (8 : Int32))), .int ((xx / (8 : Int32)) - (xx / (8 : Int32)) / (24 : Int32) * (24 : Int32)), .int ((xx / (32 : Int32)) - (xx / (32 : Int32)) / (4 : Int32) * (4 : Int32)), .int (fX3_tightnessOf kt ((xx / (8 : Int32)) - (xx / (8 : Int32)) / (4 : Int32) * (4 : Int32)))]) (rest := []) (wr := [(hkc, .inr (5, [.ref ht, .ref ht1, .ref ht2, .int kp, .ref hp, .ref htr, .ref hh, .ref as])), (ht, .inr (3, [.ref hs, .ref ak, .int (nI si), .int fi])), (ak, .inl (cyI, 4, .inl kt))]) (wc' := [(htr, .inr (4, [.ref hq, .int q55g, .int q55h, .int q55i, .int q55j])), (hq, .inr (2, [.ref r0, .ref r1, .ref r2, .int (nI q55e), .int q55f])), (r0, .inl (cyI, 24, .inl q55b)), (r1, .inl (cyI, 24, .inl q55c)), (r2, .inl (cyI, 24, .inl q55d))]) (W1 := [(hkc, .inr (5, [.ref ht, .ref ht1, .ref ht2, .int kp, .ref hp, .ref htr, .ref hh, .ref as])), (ht, .inr (3, [.ref hs, .ref ak, .int (nI si), .int fi])), (ak, .inl (cyI, 4, .inl kt)), (htr, .inr (4, [.ref hq, .int q55g, .int q55h, .int q55i, .int q55j])), (hq, .inr (2, [.ref r0, .ref r1, .ref r2, .int (nI q55e), .int q55f])), (r0, .inl (cyI, 24, .inl q55b)), (r1, .inl (cyI, 24, .inl q55c)), (r2, .inl (cyI, 24, .inl q55d))]) ⟨hx, hb, hml, hown, hts⟩ (c_X4_act l dC dI cyI cyZ htr hq r0 r1 r2 ac1 rs mu al1 nr er cr tr ar (if (3 : Int32) < (xx - xx / (8 : Int32) * (8 : Int32)) then (3 : Int32) else (xx - xx / (8 : Int32) * (8 : Int32))) ((xx / (8 : Int32)) - (xx / (8 : Int32)) / (24 : Int32) * (24 : Int32)) ((xx / (32 : Int32)) - (xx / (32 : Int32)) / (4 : Int32) * (4 : Int32)) (fX3_tightnessOf kt ((xx / (8 : Int32)) - (xx / (8 : Int32)) / (4 : Int32) * (4 : Int32))) (by omega) _ _ hq55) (cwV 4 hts gX5_tryDrawn_X4_act rfl rfl rfl (by decide +kernel) ⟨Nat.le_of_ble_eq_true rfl, Nat.le_of_ble_eq_true rfl⟩) hP hD hS hA hK hN [3, 4, 5, 6, 7] [0, 1, 2] [0, 1, 2, 3, 4, 5, 6, 7] rfl (by decide) rfl (by decide) (by decide) (by decide) rfl [0, 1] rfl 4 3 rfl rfl rfl rfl hl.1 rfl (Nat.le_of_ble_eq_true rfl) dX5_tryDrawn_55 ⟨Nat.zero_le _, Nat.zero_le _⟩ (fun H locs hP hD hS => ?_)
    refine lv_pop hx hb dX5_tryDrawn_58 rfl ?_
    subst hF
    subst hAe
    exact W.vret hx hb hr (fun t ht _ => ⟨⟨(), rfl, trivial, by rw [ht]; exact hP, hD⟩, hS.F ht⟩) hS.2.2 dX5_tryDrawn_59

theorem kx_m99 {x : Int32} (h : ¬ (99 : Int32) < x) : x.toNatClampNeg ≤ 99 := by
  by_cases h0 : x < 0
  · have h2 : x.toInt < 0 := Int32.lt_iff_toInt_lt.mp h0
    have h3 : x.toNatClampNeg = 0 := by show x.toInt.toNat = 0; omega
    omega
  · obtain ⟨j, hj, rfl⟩ := nI_of h0
    rw [nI_clamp hj]
    exact Nat.le_of_not_lt (fun q => h ((nI_ltI (a := 99) (by omega) hj).mpr q))
theorem fX5_tryDrawn_n {kt : Nat → Int32} {ac1 mu al1 : Int32} {nr : Nat} {er : Int32} {cr tr ar : Nat → Int32} {xx : Int32} {t : (Nat → Int32) × (Nat → Int32) × (Nat → Int32) × Nat × Int32 × Int32 × Int32 × Int32 × Int32} (h : fX5_tryDrawn kt ac1 mu al1 nr er cr tr ar xx = t) : t.2.2.2.1 ≤ nr + 1 := by
  subst h
  unfold fX5_tryDrawn
  generalize (if (3 : Int32) < (xx - xx / (8 : Int32) * (8 : Int32)) then (3 : Int32) else (xx - xx / (8 : Int32) * (8 : Int32))) = kd
  generalize ((xx / (8 : Int32)) - (xx / (8 : Int32)) / (24 : Int32) * (24 : Int32)) = k2
  generalize ((xx / (32 : Int32)) - (xx / (32 : Int32)) / (4 : Int32) * (4 : Int32)) = k3
  generalize ((xx / (8 : Int32)) - (xx / (8 : Int32)) / (4 : Int32) * (4 : Int32)) = k4
  generalize ((xx / (192 : Int32)) - (xx / (192 : Int32)) / (4 : Int32) * (4 : Int32)) = k5
  by_cases c : kd = (3 : Int32)
  · rw [if_pos c]
    generalize hU : fX4_act ac1 mu al1 nr er cr tr ar kd k2 k3 (fX3_tightnessOf kt k4) = U
    have hn := fX4_act_n hU
    obtain ⟨a1, a2, a3, a4, a5, a6, a7, a8, a9, a10⟩ := U
    exact hn
  · rw [if_neg c]
    generalize hU : fX4_act ac1 mu al1 nr er cr tr ar kd k2 k3 (fX3_tightnessOf kt k5) = U
    have hn := fX4_act_n hU
    obtain ⟨a1, a2, a3, a4, a5, a6, a7, a8, a9, a10⟩ := U
    exact hn

def fX5_year_L52 (kt : Nat → Int32) : Nat → Nat → Int32 → (Nat → Int32) → (Nat → Int32) → (Nat → Int32) → Nat → Int32 → Int32 → Int32 → Int32 → Int32 → (Int32 × (Nat → Int32) × (Nat → Int32) × (Nat → Int32) × Nat × Int32 × Int32 × Int32 × Int32 × Int32)
  | 0, _, xx, gc, gt, ga, gn, ge, g1, g2, g3, g4 => (xx, gc, gt, ga, gn, ge, g1, g2, g3, g4)
  | r52 + 1, j52, xx, gc, gt, ga, gn, ge, g1, g2, g3, g4 => (match fX5_tryDrawn kt g1 g3 g4 gn ge gc gt ga ((((75 : Int32) * xx) + (74 : Int32)) - (((75 : Int32) * xx) + (74 : Int32)) / (65537 : Int32) * (65537 : Int32)) with | (q74a, q74b, q74c, q74d, q74e, q74f, q74g, q74h, q74i) => (fX5_year_L52 kt r52 (j52 + 1) ((((75 : Int32) * xx) + (74 : Int32)) - (((75 : Int32) * xx) + (74 : Int32)) / (65537 : Int32) * (65537 : Int32)) q74a q74b q74c q74d q74e q74f q74g q74h q74i))
def fX5_year (kt : Nat → Int32) (n : Nat) (ea : Int32) (co : Nat → Int32) (ti : Nat → Int32) (an : Nat → Int32) (ac1 : Int32) (rs : Int32) (mu : Int32) (al1 : Int32) (nr : Nat) (er : Int32) (cr : Nat → Int32) (tr : Nat → Int32) (ar : Nat → Int32) (sd : Int32) (mm : Int32) (wh : Int32) : Int32 × (Nat → Int32) × (Nat → Int32) × (Nat → Int32) × Nat × Int32 × Int32 × Int32 × Int32 × Int32 :=
  (if (fX5_isBelow sd (10000 : Int32)) = 0 then ((-2 : Int32), cr, tr, ar, nr, er, ac1, rs, mu, al1) else (if mm < (1 : Int32) then ((-2 : Int32), cr, tr, ar, nr, er, ac1, rs, mu, al1) else (if (99 : Int32) < mm then ((-2 : Int32), cr, tr, ar, nr, er, ac1, rs, mu, al1) else (if (fX5_isBelow wh (3 : Int32)) = 0 then ((-2 : Int32), cr, tr, ar, nr, er, ac1, rs, mu, al1) else (match fX4_begin cr tr ar n ea co ti an with | (q43a, q43b, q43c, q43d, q43e, q43f, q43g, q43h, q43i) => (match fX5_year_L52 kt mm.toNatClampNeg 0 sd q43a q43b q43c q43d q43e q43f q43g q43h q43i with | (xx, gc, gt, ga, gn, ge, g1, g2, g3, g4) => (if wh = (0 : Int32) then ((nI gn), gc, gt, ga, gn, ge, g1, g2, g3, g4) else (if wh = (1 : Int32) then ((nI ((pcN (ge ||| (fX2_looseOnes gn ge ga))))), gc, gt, ga, gn, ge, g1, g2, g3, g4) else (g4, gc, gt, ga, gn, ge, g1, g2, g3, g4)))))))))
set_option maxHeartbeats 4000000 in
set_option maxRecDepth 100000 in
theorem c_X5_year (l : Launch) (dC : Nat → ClassId) (dI : Nat → Nat → Nat) (cyI cyZ : ClassId) (hkc ht ht1 ht2 hp htr hh as hs ak a0 a1 a2 hq r0 r1 r2 : Nat) (kp : Int32) (si : Nat) (fi : Int32) (kt : Nat → Int32) (n : Nat) (ea : Int32) (co : Nat → Int32) (ti : Nat → Int32) (an : Nat → Int32) (ac1 : Int32) (rs : Int32) (mu : Int32) (al1 : Int32) (nr : Nat) (er : Int32) (cr : Nat → Int32) (tr : Nat → Int32) (ar : Nat → Int32) (sd : Int32) (mm : Int32) (wh : Int32) (hn : n ≤ 24) (sz : Nat) (r : Int32 × (Nat → Int32) × (Nat → Int32) × (Nat → Int32) × Nat × Int32 × Int32 × Int32 × Int32 × Int32) (hF : fX5_year kt n ea co ti an ac1 rs mu al1 nr er cr tr ar sd mm wh = r) : Met l yX5_year wsX5_year ({ frames := 5, cells := 0, slots := 0, locals := 116 }) (kx_wp (dC, dI) [(hkc, .inr (5, [.ref ht, .ref ht1, .ref ht2, .int kp, .ref hp, .ref htr, .ref hh, .ref as])), (ht, .inr (3, [.ref hs, .ref ak, .int (nI si), .int fi])), (ak, .inl (cyI, 4, .inl kt)), (hs, .inr (2, [.ref a0, .ref a1, .ref a2, .int (nI n), .int ea])), (a0, .inl (cyI, 24, .inl co)), (a1, .inl (cyI, 24, .inl ti)), (a2, .inl (cyI, 24, .inl an)), (htr, .inr (4, [.ref hq, .int ac1, .int rs, .int mu, .int al1])), (hq, .inr (2, [.ref r0, .ref r1, .ref r2, .int (nI nr), .int er])), (r0, .inl (cyI, 24, .inl cr)), (r1, .inl (cyI, 24, .inl tr)), (r2, .inl (cyI, 24, .inl ar))] [(cyI, .int), (cyZ, .boolean)] sz [.ref hkc, .int sd, .int mm, .int wh]) (kx_Qi r.1 (dC, dI) [(hkc, .inr (5, [.ref ht, .ref ht1, .ref ht2, .int kp, .ref hp, .ref htr, .ref hh, .ref as])), (ht, .inr (3, [.ref hs, .ref ak, .int (nI si), .int fi])), (ak, .inl (cyI, 4, .inl kt)), (hs, .inr (2, [.ref a0, .ref a1, .ref a2, .int (nI n), .int ea])), (a0, .inl (cyI, 24, .inl co)), (a1, .inl (cyI, 24, .inl ti)), (a2, .inl (cyI, 24, .inl an)), (htr, .inr (4, [.ref hq, .int ac1, .int rs, .int mu, .int al1])), (hq, .inr (2, [.ref r0, .ref r1, .ref r2, .int (nI nr), .int er])), (r0, .inl (cyI, 24, .inl cr)), (r1, .inl (cyI, 24, .inl tr)), (r2, .inl (cyI, 24, .inl ar))] [(hkc, .inr (5, [.ref ht, .ref ht1, .ref ht2, .int kp, .ref hp, .ref htr, .ref hh, .ref as])), (ht, .inr (3, [.ref hs, .ref ak, .int (nI si), .int fi])), (ak, .inl (cyI, 4, .inl kt)), (hs, .inr (2, [.ref a0, .ref a1, .ref a2, .int (nI n), .int ea])), (a0, .inl (cyI, 24, .inl co)), (a1, .inl (cyI, 24, .inl ti)), (a2, .inl (cyI, 24, .inl an)), (htr, .inr (4, [.ref hq, .int r.2.2.2.2.2.2.1, .int r.2.2.2.2.2.2.2.1, .int r.2.2.2.2.2.2.2.2.1, .int r.2.2.2.2.2.2.2.2.2])), (hq, .inr (2, [.ref r0, .ref r1, .ref r2, .int (nI (r.2.2.2.2.1)), .int r.2.2.2.2.2.1])), (r0, .inl (cyI, 24, .inl r.2.1)), (r1, .inl (cyI, 24, .inl r.2.2.1)), (r2, .inl (cyI, 24, .inl r.2.2.2.1))] sz) 0 0 (va_A [(hkc, .inr (5, [.ref ht, .ref ht1, .ref ht2, .int kp, .ref hp, .ref htr, .ref hh, .ref as])), (ht, .inr (3, [.ref hs, .ref ak, .int (nI si), .int fi])), (ak, .inl (cyI, 4, .inl kt)), (hs, .inr (2, [.ref a0, .ref a1, .ref a2, .int (nI n), .int ea])), (a0, .inl (cyI, 24, .inl co)), (a1, .inl (cyI, 24, .inl ti)), (a2, .inl (cyI, 24, .inl an)), (htr, .inr (4, [.ref hq, .int ac1, .int rs, .int mu, .int al1])), (hq, .inr (2, [.ref r0, .ref r1, .ref r2, .int (nI nr), .int er])), (r0, .inl (cyI, 24, .inl cr)), (r1, .inl (cyI, 24, .inl tr)), (r2, .inl (cyI, 24, .inl ar))] sz) := by
  refine Met.ofW (cc := cX5_year) (maxL := 6) (ret := (some .int)) (by decide) rfl ?_
  intro p e s m args below meth c s₁ B hml hv
  obtain ⟨rfl, hsz, hP, hK, hN, hD0⟩ := hv
  have hx := B.exec
  have hb := B.bytes
  have hr := B.returns
  have hts := atoms_spec (ws := wsX5_year) B.pre
  have hown : s.vm.findClass RX5 = some m.cls := findClass_of_methodNamed B.named
  have hlocks := B.notSynchronized
  subst hsz
  obtain ⟨A, hAe⟩ : ∃ A, A = va_A [(hkc, .inr (5, [.ref ht, .ref ht1, .ref ht2, .int kp, .ref hp, .ref htr, .ref hh, .ref as])), (ht, .inr (3, [.ref hs, .ref ak, .int (nI si), .int fi])), (ak, .inl (cyI, 4, .inl kt)), (hs, .inr (2, [.ref a0, .ref a1, .ref a2, .int (nI n), .int ea])), (a0, .inl (cyI, 24, .inl co)), (a1, .inl (cyI, 24, .inl ti)), (a2, .inl (cyI, 24, .inl an)), (htr, .inr (4, [.ref hq, .int ac1, .int rs, .int mu, .int al1])), (hq, .inr (2, [.ref r0, .ref r1, .ref r2, .int (nI nr), .int er])), (r0, .inl (cyI, 24, .inl cr)), (r1, .inl (cyI, 24, .inl tr)), (r2, .inl (cyI, 24, .inl ar))] s.heap.size := ⟨_, rfl⟩
  have hD : va_D A [(hkc, .inr (5, [.ref ht, .ref ht1, .ref ht2, .int kp, .ref hp, .ref htr, .ref hh, .ref as])), (ht, .inr (3, [.ref hs, .ref ak, .int (nI si), .int fi])), (ak, .inl (cyI, 4, .inl kt)), (hs, .inr (2, [.ref a0, .ref a1, .ref a2, .int (nI n), .int ea])), (a0, .inl (cyI, 24, .inl co)), (a1, .inl (cyI, 24, .inl ti)), (a2, .inl (cyI, 24, .inl an)), (htr, .inr (4, [.ref hq, .int ac1, .int rs, .int mu, .int al1])), (hq, .inr (2, [.ref r0, .ref r1, .ref r2, .int (nI nr), .int er])), (r0, .inl (cyI, 24, .inl cr)), (r1, .inl (cyI, 24, .inl tr)), (r2, .inl (cyI, 24, .inl ar))] := by rw [hAe]; exact hD0.self
  have hA : ∀ q : Nat, s.heap.size ≤ q → A q := fun q h => by rw [hAe]; exact Or.inr h
  have hS : va_S A s.heap s.heap [] := va_S.rf
  have hiX2 : ∀ w ∈ wsX20, w ∈ wsX5_year := by decide +kernel
  have hiX3 : ∀ w ∈ wsX30, w ∈ wsX5_year := by decide +kernel
  have hiX4 : ∀ w ∈ wsX40, w ∈ wsX5_year := by decide +kernel
  have hiX5 : ∀ w ∈ wsX50, w ∈ wsX5_year := by decide +kernel
  have fl10 := hts (.fieldLink RX5 10 "KnitChronicle" "town" "LKnitChronicle$Town;") (by decide +kernel)
  have fl32 := hts (.fieldLink RX5 32 "KnitChronicle" "trial" "LKnitChronicle$Trial;") (by decide +kernel)
  have fl47 := hts (.fieldLink RX5 47 "KnitChronicle$Town" "scarf" "LKnitChronicle$Scarf;") (by decide +kernel)
  have fl69 := hts (.fieldLink RX5 69 "KnitChronicle$Scarf" "size" "I") (by decide +kernel)
  have fl109 := hts (.fieldLink RX5 109 "KnitChronicle$Trial" "scarf" "LKnitChronicle$Scarf;") (by decide +kernel)
  have fl114 := hts (.fieldLink RX5 114 "KnitChronicle$Scarf" "eaten" "I") (by decide +kernel)
  have fl252 := hts (.fieldLink RX5 252 "KnitChronicle$Trial" "allUndone" "I") (by decide +kernel)
  have hl := lv_entry ([.ref hkc, .int sd, .int mm, .int wh]) (n := 6) (Nat.le_of_ble_eq_true rfl)
  rw [lg_entry_eq]
  generalize (lg_sl ([.ref hkc, .int sd, .int mm, .int wh]) ++ List.replicate (6 - (lg_sl ([.ref hkc, .int sd, .int mm, .int wh])).length) Slot.unset).toArray = ls at hl ⊢
  have hl : lv_has ls 6 [(0, .ref hkc), (1, .int sd), (2, .int mm), (3, .int wh)] := hl
  unfold fX5_year at hF
  refine lv_iload_n hx hb dX5_year_0 rfl (lv_at hl 1 rfl) ?_
  refine lv_sipush (v := (10000 : Int32)) hx hb dX5_year_1 (by decide) ?_
  refine kx_cS (As := [.int sd, .int (10000 : Int32)]) (rest := []) ⟨hx, hb, hml, hown, hts⟩ (c_X5_isBelow l dC dI cyI cyZ  sd (10000 : Int32)  _ rfl) (va_cwS 2 hts gX5_year_X5_isBelow rfl rfl rfl (by decide +kernel) ⟨Nat.le_of_ble_eq_true rfl, Nat.le_of_ble_eq_true rfl⟩) hP hK hN [] rfl [0, 1] rfl rfl hl.1 rfl (Nat.le_of_ble_eq_true rfl) dX5_year_4 ⟨Nat.zero_le _, Nat.zero_le _⟩ ?_
  refine lv_if_eq (tgt := 29) hx hb dX5_year_7 (by decide) (fun c7 => ?_) (fun c7 => ?_)
  · rw [if_pos c7] at hF
    refine lv_bipush (v := (-2 : Int32)) hx hb dX5_year_29 (by decide) ?_
    subst hF
    subst hAe
    exact W.iret hx hb hr (fun t ht _ => ⟨⟨_, (), rfl, rfl, by rw [ht]; exact hP, hD⟩, hS.F ht⟩) hS.2.2 dX5_year_31
  · rw [if_neg c7] at hF
    refine lv_iload_n hx hb dX5_year_10 rfl (lv_at hl 2 rfl) ?_
    refine lv_iconst (v := (1 : Int32)) hx hb dX5_year_11 (by decide) ?_
    refine lv_icmp_lt (tgt := 29) hx hb dX5_year_12 (by decide) (fun c12 => ?_) (fun c12 => ?_)
    · rw [if_pos c12] at hF
      refine lv_bipush (v := (-2 : Int32)) hx hb dX5_year_29 (by decide) ?_
      subst hF
      subst hAe
      exact W.iret hx hb hr (fun t ht _ => ⟨⟨_, (), rfl, rfl, by rw [ht]; exact hP, hD⟩, hS.F ht⟩) hS.2.2 dX5_year_31
    · rw [if_neg c12] at hF
      refine lv_iload_n hx hb dX5_year_15 rfl (lv_at hl 2 rfl) ?_
      refine lv_bipush (v := (99 : Int32)) hx hb dX5_year_16 (by decide) ?_
      refine lv_icmp_gt (tgt := 29) hx hb dX5_year_18 (by decide) (fun c18 => ?_) (fun c18 => ?_)
      · rw [if_pos c18] at hF
        refine lv_bipush (v := (-2 : Int32)) hx hb dX5_year_29 (by decide) ?_
        subst hF
        subst hAe
        exact W.iret hx hb hr (fun t ht _ => ⟨⟨_, (), rfl, rfl, by rw [ht]; exact hP, hD⟩, hS.F ht⟩) hS.2.2 dX5_year_31
      · rw [if_neg c18] at hF
        refine lv_iload_n hx hb dX5_year_21 rfl (lv_at hl 3 rfl) ?_
        refine lv_iconst (v := (3 : Int32)) hx hb dX5_year_22 (by decide) ?_
        refine kx_cS (As := [.int wh, .int (3 : Int32)]) (rest := []) ⟨hx, hb, hml, hown, hts⟩ (c_X5_isBelow l dC dI cyI cyZ  wh (3 : Int32)  _ rfl) (va_cwS 2 hts gX5_year_X5_isBelow rfl rfl rfl (by decide +kernel) ⟨Nat.le_of_ble_eq_true rfl, Nat.le_of_ble_eq_true rfl⟩) hP hK hN [] rfl [0, 1] rfl rfl hl.1 rfl (Nat.le_of_ble_eq_true rfl) dX5_year_23 ⟨Nat.zero_le _, Nat.zero_le _⟩ ?_
        refine lv_if_ne (tgt := 32) hx hb dX5_year_26 (by decide) (fun c26 => ?_) (fun c26 => ?_)
        · rw [if_neg c26] at hF
          refine lv_aload_n hx hb dX5_year_32 rfl (lv_at hl 0 rfl) ?_
          refine va_get (D := (dC, dI)) (ci := 5) (v := .ref htr) (C := RX5) (T := TX5) (N := 8) hx hb hts hiX5 hown hK hP 0 rfl rfl 5 (by decide) fl32 (fun _ h9 => h9) rfl dX5_year_33 ?_
          refine lv_aload_n hx hb dX5_year_36 rfl (lv_at hl 0 rfl) ?_
          refine va_get (D := (dC, dI)) (ci := 5) (v := .ref ht) (C := RX5) (T := TX5) (N := 8) hx hb hts hiX5 hown hK hP 0 rfl rfl 0 (by decide) fl10 (fun _ h9 => h9) rfl dX5_year_37 ?_
          refine va_get (D := (dC, dI)) (ci := 3) (v := .ref hs) (C := RX3) (T := TX3) (N := 4) hx hb hts hiX3 hown hK hP 1 rfl rfl 0 (by decide) fl47 (fun _ h9 => h9) rfl dX5_year_40 ?_
          generalize hq43 : fX4_begin cr tr ar n ea co ti an = q43 at hF
          obtain ⟨q43a, q43b, q43c, q43d, q43e, q43f, q43g, q43h, q43i⟩ := q43
          dsimp only at hF
          refine kx_wVv (As := [.ref hs]) (rest := []) (wr := [(hkc, .inr (5, [.ref ht, .ref ht1, .ref ht2, .int kp, .ref hp, .ref htr, .ref hh, .ref as])), (ht, .inr (3, [.ref hs, .ref ak, .int (nI si), .int fi])), (ak, .inl (cyI, 4, .inl kt))]) (wc' := [(htr, .inr (4, [.ref hq, .int q43f, .int q43g, .int q43h, .int q43i])), (hq, .inr (2, [.ref r0, .ref r1, .ref r2, .int (nI q43d), .int q43e])), (r0, .inl (cyI, 24, .inl q43a)), (r1, .inl (cyI, 24, .inl q43b)), (r2, .inl (cyI, 24, .inl q43c)), (hs, .inr (2, [.ref a0, .ref a1, .ref a2, .int (nI n), .int ea])), (a0, .inl (cyI, 24, .inl co)), (a1, .inl (cyI, 24, .inl ti)), (a2, .inl (cyI, 24, .inl an))]) (W1 := [(hkc, .inr (5, [.ref ht, .ref ht1, .ref ht2, .int kp, .ref hp, .ref htr, .ref hh, .ref as])), (ht, .inr (3, [.ref hs, .ref ak, .int (nI si), .int fi])), (ak, .inl (cyI, 4, .inl kt)), (hs, .inr (2, [.ref a0, .ref a1, .ref a2, .int (nI n), .int ea])), (a0, .inl (cyI, 24, .inl co)), (a1, .inl (cyI, 24, .inl ti)), (a2, .inl (cyI, 24, .inl an)), (htr, .inr (4, [.ref hq, .int q43f, .int q43g, .int q43h, .int q43i])), (hq, .inr (2, [.ref r0, .ref r1, .ref r2, .int (nI q43d), .int q43e])), (r0, .inl (cyI, 24, .inl q43a)), (r1, .inl (cyI, 24, .inl q43b)), (r2, .inl (cyI, 24, .inl q43c))]) ⟨hx, hb, hml, hown, hts⟩ (c_X4_begin l dC dI cyI cyZ htr hq r0 r1 r2 hs a0 a1 a2 ac1 rs mu al1 nr er cr tr ar n ea co ti an (by omega) _ _ hq43) (cwV 1 hts gX5_year_X4_begin rfl rfl rfl (by decide +kernel) ⟨Nat.le_of_ble_eq_true rfl, Nat.le_of_ble_eq_true rfl⟩) hP hD hS hA hK hN [7, 8, 9, 10, 11, 3, 4, 5, 6] [0, 1, 2] [0, 1, 2, 8, 9, 10, 11, 3, 4, 5, 6, 7] rfl (by decide) rfl (by decide) (by decide) (by decide) rfl [0, 1] rfl 4 7 rfl rfl rfl rfl hl.1 rfl (Nat.le_of_ble_eq_true rfl) dX5_year_43 ⟨Nat.zero_le _, Nat.zero_le _⟩ (fun H locs hP hD hS => ?_)
          have htn := kx_tnc mm
          have hq43n : q43d = n := fX4_begin_n hq43
          have hmm := kx_m99 c18
          refine lv_iload_n hx hb dX5_year_46 rfl (lv_at hl 1 rfl) ?_
          refine lv_istore (lv' := [(4, .int sd), (0, .ref hkc), (1, .int sd), (2, .int mm), (3, .int wh)]) hx hb dX5_year_47 hl (by decide) rfl (fun ls hl => ?_)
          refine lv_iconst (v := (0 : Int32)) hx hb dX5_year_49 (by decide) ?_
          refine lv_istore (lv' := [(5, .int (0 : Int32)), (4, .int sd), (0, .ref hkc), (1, .int sd), (2, .int mm), (3, .int wh)]) hx hb dX5_year_50 hl (by decide) rfl (fun ls hl => ?_)
          generalize hz52 : fX5_year_L52 kt mm.toNatClampNeg 0 sd q43a q43b q43c q43d q43e q43f q43g q43h q43i = z52 at hF
          have LP52 : ∀ (r52 : Nat) (j52 : Nat) (xx : Int32) (gc : Nat → Int32) (gt : Nat → Int32) (ga : Nat → Int32) (gn : Nat) (ge : Int32) (g1 : Int32) (g2 : Int32) (g3 : Int32) (g4 : Int32), r52 + j52 = mm.toNatClampNeg → (gn + r52 ≤ 900) → fX5_year_L52 kt r52 j52 xx gc gt ga gn ge g1 g2 g3 g4 = z52 → ∀ (H : Heap) (locs : List Loc), va_P (dC, dI) vwCl [(hkc, .inr (5, [.ref ht, .ref ht1, .ref ht2, .int kp, .ref hp, .ref htr, .ref hh, .ref as])), (ht, .inr (3, [.ref hs, .ref ak, .int (nI si), .int fi])), (ak, .inl (cyI, 4, .inl kt)), (hs, .inr (2, [.ref a0, .ref a1, .ref a2, .int (nI n), .int ea])), (a0, .inl (cyI, 24, .inl co)), (a1, .inl (cyI, 24, .inl ti)), (a2, .inl (cyI, 24, .inl an)), (htr, .inr (4, [.ref hq, .int g1, .int g2, .int g3, .int g4])), (hq, .inr (2, [.ref r0, .ref r1, .ref r2, .int (nI gn), .int ge])), (r0, .inl (cyI, 24, .inl gc)), (r1, .inl (cyI, 24, .inl gt)), (r2, .inl (cyI, 24, .inl ga))] H → va_D A [(hkc, .inr (5, [.ref ht, .ref ht1, .ref ht2, .int kp, .ref hp, .ref htr, .ref hh, .ref as])), (ht, .inr (3, [.ref hs, .ref ak, .int (nI si), .int fi])), (ak, .inl (cyI, 4, .inl kt)), (hs, .inr (2, [.ref a0, .ref a1, .ref a2, .int (nI n), .int ea])), (a0, .inl (cyI, 24, .inl co)), (a1, .inl (cyI, 24, .inl ti)), (a2, .inl (cyI, 24, .inl an)), (htr, .inr (4, [.ref hq, .int g1, .int g2, .int g3, .int g4])), (hq, .inr (2, [.ref r0, .ref r1, .ref r2, .int (nI gn), .int ge])), (r0, .inl (cyI, 24, .inl gc)), (r1, .inl (cyI, 24, .inl gt)), (r2, .inl (cyI, 24, .inl ga))] → va_S A s.heap H locs → ∀ (ls : Array Slot), lv_has ls 6 [(5, .int (nI j52)), (4, .int xx), (0, .ref hkc), (1, .int sd), (2, .int mm), (3, .int wh)] → W p l e (headSpec wsX5_year ({ frames := 5, cells := 0, slots := 0, locals := 116 } : Room)).room s m ([.ref hkc, .int sd, .int mm, .int wh] : List Value).toArray below meth c H locs 0 0 (MQ below (kx_Qi r.1 (dC, dI) [(hkc, .inr (5, [.ref ht, .ref ht1, .ref ht2, .int kp, .ref hp, .ref htr, .ref hh, .ref as])), (ht, .inr (3, [.ref hs, .ref ak, .int (nI si), .int fi])), (ak, .inl (cyI, 4, .inl kt)), (hs, .inr (2, [.ref a0, .ref a1, .ref a2, .int (nI n), .int ea])), (a0, .inl (cyI, 24, .inl co)), (a1, .inl (cyI, 24, .inl ti)), (a2, .inl (cyI, 24, .inl an)), (htr, .inr (4, [.ref hq, .int ac1, .int rs, .int mu, .int al1])), (hq, .inr (2, [.ref r0, .ref r1, .ref r2, .int (nI nr), .int er])), (r0, .inl (cyI, 24, .inl cr)), (r1, .inl (cyI, 24, .inl tr)), (r2, .inl (cyI, 24, .inl ar))] [(hkc, .inr (5, [.ref ht, .ref ht1, .ref ht2, .int kp, .ref hp, .ref htr, .ref hh, .ref as])), (ht, .inr (3, [.ref hs, .ref ak, .int (nI si), .int fi])), (ak, .inl (cyI, 4, .inl kt)), (hs, .inr (2, [.ref a0, .ref a1, .ref a2, .int (nI n), .int ea])), (a0, .inl (cyI, 24, .inl co)), (a1, .inl (cyI, 24, .inl ti)), (a2, .inl (cyI, 24, .inl an)), (htr, .inr (4, [.ref hq, .int r.2.2.2.2.2.2.1, .int r.2.2.2.2.2.2.2.1, .int r.2.2.2.2.2.2.2.2.1, .int r.2.2.2.2.2.2.2.2.2])), (hq, .inr (2, [.ref r0, .ref r1, .ref r2, .int (nI (r.2.2.2.2.1)), .int r.2.2.2.2.2.1])), (r0, .inl (cyI, 24, .inl r.2.1)), (r1, .inl (cyI, 24, .inl r.2.2.1)), (r2, .inl (cyI, 24, .inl r.2.2.2.1))] s.heap.size) ([.ref hkc, .int sd, .int mm, .int wh] : List Value).toArray s 0 0 (va_A [(hkc, .inr (5, [.ref ht, .ref ht1, .ref ht2, .int kp, .ref hp, .ref htr, .ref hh, .ref as])), (ht, .inr (3, [.ref hs, .ref ak, .int (nI si), .int fi])), (ak, .inl (cyI, 4, .inl kt)), (hs, .inr (2, [.ref a0, .ref a1, .ref a2, .int (nI n), .int ea])), (a0, .inl (cyI, 24, .inl co)), (a1, .inl (cyI, 24, .inl ti)), (a2, .inl (cyI, 24, .inl an)), (htr, .inr (4, [.ref hq, .int ac1, .int rs, .int mu, .int al1])), (hq, .inr (2, [.ref r0, .ref r1, .ref r2, .int (nI nr), .int er])), (r0, .inl (cyI, 24, .inl cr)), (r1, .inl (cyI, 24, .inl tr)), (r2, .inl (cyI, 24, .inl ar))] s.heap.size)) (F0 m 52 ls []) := by
            intro r52
            induction r52 with
            | zero =>
              intro j52 xx gc gt ga gn ge g1 g2 g3 g4 hrj hgn hz52 H locs hP hD hS ls hl
              rw [fX5_year_L52] at hz52
              subst hz52
              dsimp only at hF
              refine lv_iload hx hb dX5_year_52 (lv_at hl 0 rfl) ?_
              refine lv_iload_n hx hb dX5_year_54 rfl (lv_at hl 4 rfl) ?_
              refine kx_geR hx hb (j52) mm rfl (by omega) dX5_year_55 (by decide) (tgt := 83) (fun c55 => ?_) (fun c55 => absurd c55 (by omega))
              refine lv_iload_n hx hb dX5_year_83 rfl (lv_at hl 5 rfl) ?_
              by_cases c84_0 : wh = (0 : Int32)
              · rw [if_pos c84_0] at hF
                refine lv_lookup (tgt := 112) (off := 28) hx hb dX5_year_84 (by decide) (by rw [c84_0]; rfl) (by decide) ?_
                refine lv_aload_n hx hb dX5_year_112 rfl (lv_at hl 2 rfl) ?_
                refine va_get (D := (dC, dI)) (ci := 5) (v := .ref htr) (C := RX5) (T := TX5) (N := 8) hx hb hts hiX5 hown hK hP 0 rfl rfl 5 (by decide) fl32 (fun _ h9 => h9) rfl dX5_year_113 ?_
                refine va_get (D := (dC, dI)) (ci := 4) (v := .ref hq) (C := RX4) (T := TX4) (N := 5) hx hb hts hiX4 hown hK hP 7 rfl rfl 0 (by decide) fl109 (fun _ h9 => h9) rfl dX5_year_116 ?_
                refine va_get (D := (dC, dI)) (ci := 2) (v := .int (nI gn)) (C := RX2) (T := TX2) (N := 5) hx hb hts hiX2 hown hK hP 8 rfl rfl 3 (by decide) fl69 (fun _ h9 => h9) rfl dX5_year_119 ?_
                subst hF
                subst hAe
                exact W.iret hx hb hr (fun t ht _ => ⟨⟨_, (), rfl, rfl, by rw [ht]; exact hP, hD⟩, hS.F ht⟩) hS.2.2 dX5_year_122
              · rw [if_neg c84_0] at hF
                by_cases c84_1 : wh = (1 : Int32)
                · rw [if_pos c84_1] at hF
                  refine lv_lookup (tgt := 123) (off := 39) hx hb dX5_year_84 (by decide) (by rw [c84_1]; rfl) (by decide) ?_
                  refine lv_aload_n hx hb dX5_year_123 rfl (lv_at hl 2 rfl) ?_
                  refine va_get (D := (dC, dI)) (ci := 5) (v := .ref htr) (C := RX5) (T := TX5) (N := 8) hx hb hts hiX5 hown hK hP 0 rfl rfl 5 (by decide) fl32 (fun _ h9 => h9) rfl dX5_year_124 ?_
                  refine va_get (D := (dC, dI)) (ci := 4) (v := .ref hq) (C := RX4) (T := TX4) (N := 5) hx hb hts hiX4 hown hK hP 7 rfl rfl 0 (by decide) fl109 (fun _ h9 => h9) rfl dX5_year_127 ?_
                  refine va_get (D := (dC, dI)) (ci := 2) (v := .int ge) (C := RX2) (T := TX2) (N := 5) hx hb hts hiX2 hown hK hP 8 rfl rfl 4 (by decide) fl114 (fun _ h9 => h9) rfl dX5_year_130 ?_
                  refine lv_aload_n hx hb dX5_year_133 rfl (lv_at hl 2 rfl) ?_
                  refine va_get (D := (dC, dI)) (ci := 5) (v := .ref htr) (C := RX5) (T := TX5) (N := 8) hx hb hts hiX5 hown hK hP 0 rfl rfl 5 (by decide) fl32 (fun _ h9 => h9) rfl dX5_year_134 ?_
                  refine va_get (D := (dC, dI)) (ci := 4) (v := .ref hq) (C := RX4) (T := TX4) (N := 5) hx hb hts hiX4 hown hK hP 7 rfl rfl 0 (by decide) fl109 (fun _ h9 => h9) rfl dX5_year_137 ?_
                  refine kx_cV (As := []) (rest := [.int ge]) ⟨hx, hb, hml, hown, hts⟩ (c_X2_looseOnes l dC dI cyI cyZ hq r0 r1 r2 gn ge gc gt ga (by omega) _ rfl) (cwV 0 hts gX5_year_X2_looseOnes rfl rfl rfl (by decide +kernel) ⟨Nat.le_of_ble_eq_true rfl, Nat.le_of_ble_eq_true rfl⟩) hP hK hN [8, 9, 10, 11] rfl [0, 1] rfl 2 8 rfl rfl rfl rfl hl.1 rfl (Nat.le_of_ble_eq_true rfl) dX5_year_140 ⟨Nat.zero_le _, Nat.zero_le _⟩ ?_
                  refine lv_ior hx hb dX5_year_143 ?_
                  refine kx_cS (As := [.int (ge ||| (fX2_looseOnes gn ge ga))]) (rest := []) ⟨hx, hb, hml, hown, hts⟩ (c_J6_bitCount_0f7a4 l dC dI cyI cyZ  (ge ||| (fX2_looseOnes gn ge ga))  _ rfl) (va_cwS 1 hts gX5_year_J6_bitCount_0f7a4 rfl rfl rfl (by decide +kernel) ⟨Nat.le_of_ble_eq_true rfl, Nat.le_of_ble_eq_true rfl⟩) hP hK hN [] rfl [0, 1] rfl rfl hl.1 rfl (Nat.le_of_ble_eq_true rfl) dX5_year_144 ⟨Nat.zero_le _, Nat.zero_le _⟩ ?_
                  refine kx_e (pcN_eq _) ?_
                  have hpc144 := pcN_lt (ge ||| (fX2_looseOnes gn ge ga))
                  subst hF
                  subst hAe
                  exact W.iret hx hb hr (fun t ht _ => ⟨⟨_, (), rfl, rfl, by rw [ht]; exact hP, hD⟩, hS.F ht⟩) hS.2.2 dX5_year_147
                · rw [if_neg c84_1] at hF
                  refine lv_lookup (tgt := 148) (off := 64) hx hb dX5_year_84 (by decide) (by rw [lv_osw (a := 0) c84_0 rfl, lv_osw (a := 1) c84_1 rfl]; rfl) (by decide) ?_
                  refine lv_aload_n hx hb dX5_year_148 rfl (lv_at hl 2 rfl) ?_
                  refine va_get (D := (dC, dI)) (ci := 5) (v := .ref htr) (C := RX5) (T := TX5) (N := 8) hx hb hts hiX5 hown hK hP 0 rfl rfl 5 (by decide) fl32 (fun _ h9 => h9) rfl dX5_year_149 ?_
                  refine va_get (D := (dC, dI)) (ci := 4) (v := .int g4) (C := RX4) (T := TX4) (N := 5) hx hb hts hiX4 hown hK hP 7 rfl rfl 4 (by decide) fl252 (fun _ h9 => h9) rfl dX5_year_152 ?_
                  subst hF
                  subst hAe
                  exact W.iret hx hb hr (fun t ht _ => ⟨⟨_, (), rfl, rfl, by rw [ht]; exact hP, hD⟩, hS.F ht⟩) hS.2.2 dX5_year_155
            | succ r52 ih =>
              intro j52 xx gc gt ga gn ge g1 g2 g3 g4 hrj hgn hz52 H locs hP hD hS ls hl
              rw [fX5_year_L52] at hz52
              refine lv_iload hx hb dX5_year_52 (lv_at hl 0 rfl) ?_
              refine lv_iload_n hx hb dX5_year_54 rfl (lv_at hl 4 rfl) ?_
              refine kx_geR hx hb (j52) mm rfl (by omega) dX5_year_55 (by decide) (tgt := 83) (fun c55 => absurd c55 (by omega)) (fun c55 => ?_)
              refine lv_bipush (v := (75 : Int32)) hx hb dX5_year_58 (by decide) ?_
              refine lv_iload hx hb dX5_year_60 (lv_at hl 1 rfl) ?_
              refine lv_imul hx hb dX5_year_62 ?_
              refine lv_bipush (v := (74 : Int32)) hx hb dX5_year_63 (by decide) ?_
              refine lv_iadd hx hb dX5_year_65 ?_
              refine lv_ldc hx hb hown (hts (.constant RX5 248 (65537)) (by decide +kernel)) dX5_year_66 ?_
              refine lv_irem hx hb dX5_year_68 (by decide) ?_
              refine lv_istore (lv' := [(4, .int ((((75 : Int32) * xx) + (74 : Int32)) - (((75 : Int32) * xx) + (74 : Int32)) / (65537 : Int32) * (65537 : Int32))), (5, .int (nI j52)), (0, .ref hkc), (1, .int sd), (2, .int mm), (3, .int wh)]) hx hb dX5_year_69 hl (by decide) rfl (fun ls hl => ?_)
              refine lv_aload_n hx hb dX5_year_71 rfl (lv_at hl 2 rfl) ?_
              refine lv_iload hx hb dX5_year_72 (lv_at hl 0 rfl) ?_
              generalize hq74 : fX5_tryDrawn kt g1 g3 g4 gn ge gc gt ga ((((75 : Int32) * xx) + (74 : Int32)) - (((75 : Int32) * xx) + (74 : Int32)) / (65537 : Int32) * (65537 : Int32)) = q74 at hz52
              obtain ⟨q74a, q74b, q74c, q74d, q74e, q74f, q74g, q74h, q74i⟩ := q74
              dsimp only at hz52
              refine kx_wVv (As := [.int ((((75 : Int32) * xx) + (74 : Int32)) - (((75 : Int32) * xx) + (74 : Int32)) / (65537 : Int32) * (65537 : Int32))]) (rest := []) (wr := [(hs, .inr (2, [.ref a0, .ref a1, .ref a2, .int (nI n), .int ea])), (a0, .inl (cyI, 24, .inl co)), (a1, .inl (cyI, 24, .inl ti)), (a2, .inl (cyI, 24, .inl an))]) (wc' := [(hkc, .inr (5, [.ref ht, .ref ht1, .ref ht2, .int kp, .ref hp, .ref htr, .ref hh, .ref as])), (ht, .inr (3, [.ref hs, .ref ak, .int (nI si), .int fi])), (ak, .inl (cyI, 4, .inl kt)), (htr, .inr (4, [.ref hq, .int q74f, .int q74g, .int q74h, .int q74i])), (hq, .inr (2, [.ref r0, .ref r1, .ref r2, .int (nI q74d), .int q74e])), (r0, .inl (cyI, 24, .inl q74a)), (r1, .inl (cyI, 24, .inl q74b)), (r2, .inl (cyI, 24, .inl q74c))]) (W1 := [(hkc, .inr (5, [.ref ht, .ref ht1, .ref ht2, .int kp, .ref hp, .ref htr, .ref hh, .ref as])), (ht, .inr (3, [.ref hs, .ref ak, .int (nI si), .int fi])), (ak, .inl (cyI, 4, .inl kt)), (hs, .inr (2, [.ref a0, .ref a1, .ref a2, .int (nI n), .int ea])), (a0, .inl (cyI, 24, .inl co)), (a1, .inl (cyI, 24, .inl ti)), (a2, .inl (cyI, 24, .inl an)), (htr, .inr (4, [.ref hq, .int q74f, .int q74g, .int q74h, .int q74i])), (hq, .inr (2, [.ref r0, .ref r1, .ref r2, .int (nI q74d), .int q74e])), (r0, .inl (cyI, 24, .inl q74a)), (r1, .inl (cyI, 24, .inl q74b)), (r2, .inl (cyI, 24, .inl q74c))]) ⟨hx, hb, hml, hown, hts⟩ (c_X5_tryDrawn l dC dI cyI cyZ hkc ht ht1 ht2 hp htr hh as hs ak hq r0 r1 r2 kp si fi kt g1 g2 g3 g4 gn ge gc gt ga ((((75 : Int32) * xx) + (74 : Int32)) - (((75 : Int32) * xx) + (74 : Int32)) / (65537 : Int32) * (65537 : Int32)) (by omega) _ _ hq74) (cwV 1 hts gX5_year_X5_tryDrawn rfl rfl rfl (by decide +kernel) ⟨Nat.le_of_ble_eq_true rfl, Nat.le_of_ble_eq_true rfl⟩) hP hD hS hA hK hN [0, 1, 2, 7, 8, 9, 10, 11] [3, 4, 5, 6] [4, 5, 6, 0, 1, 2, 3, 7, 8, 9, 10, 11] rfl (by decide) rfl (by decide) (by decide) (by decide) rfl [0, 1] rfl 5 0 rfl rfl rfl rfl hl.1 rfl (Nat.le_of_ble_eq_true rfl) dX5_year_74 ⟨Nat.zero_le _, Nat.zero_le _⟩ (fun H locs hP hD hS => ?_)
              have hq74n : q74d ≤ gn + 1 := fX5_tryDrawn_n hq74
              refine lv_iinc (v := (nI (j52 + 1))) (lv' := [(5, .int (nI (j52 + 1))), (4, .int ((((75 : Int32) * xx) + (74 : Int32)) - (((75 : Int32) * xx) + (74 : Int32)) / (65537 : Int32) * (65537 : Int32))), (0, .ref hkc), (1, .int sd), (2, .int mm), (3, .int wh)]) hx hb dX5_year_77 hl (k := 1) rfl (by exact nI_add (j52) 1) (by decide) rfl (fun ls hl => ?_)
              refine lv_goto (tgt := 52) hx hb dX5_year_80 (by decide) ?_
              exact ih (j52 + 1) ((((75 : Int32) * xx) + (74 : Int32)) - (((75 : Int32) * xx) + (74 : Int32)) / (65537 : Int32) * (65537 : Int32)) q74a q74b q74c q74d q74e q74f q74g q74h q74i (by omega) (by omega) hz52 _ _ hP hD hS _ (lv_sub hl [0, 1, 2, 3, 4, 5] rfl)
          exact LP52 mm.toNatClampNeg 0 sd q43a q43b q43c q43d q43e q43f q43g q43h q43i (by omega) (by omega) hz52 _ _ hP hD hS _ (lv_sub hl [0, 1, 2, 3, 4, 5] rfl)
        · rw [if_pos c26] at hF
          refine lv_bipush (v := (-2 : Int32)) hx hb dX5_year_29 (by decide) ?_
          subst hF
          subst hAe
          exact W.iret hx hb hr (fun t ht _ => ⟨⟨_, (), rfl, rfl, by rw [ht]; exact hP, hD⟩, hS.F ht⟩) hS.2.2 dX5_year_31


def fX5_image (kp : Int32) (si : Nat) (fi : Int32) (kt : Nat → Int32) (n : Nat) (ea : Int32) (co : Nat → Int32) (ti : Nat → Int32) (an : Nat → Int32) (si_1 : Nat) (fi_1 : Int32) (kt_1 : Nat → Int32) (n_1 : Nat) (ea_1 : Int32) (co_1 : Nat → Int32) (ti_1 : Nat → Int32) (an_1 : Nat → Int32) (si_2 : Nat) (fi_2 : Int32) (kt_2 : Nat → Int32) (n_2 : Nat) (ea_2 : Int32) (co_2 : Nat → Int32) (ti_2 : Nat → Int32) (an_2 : Nat → Int32) (kn : Int32) : Int32 × Int32 × (Nat → Int32) × (Nat → Int32) × (Nat → Int32) × Nat × Int32 × (Nat → Int32) × Nat × Int32 × (Nat → Int32) × (Nat → Int32) × (Nat → Int32) × Nat × Int32 × (Nat → Int32) × Nat × Int32 :=
  (if (fX5_isBelow kn (2 : Int32)) = 0 then ((-2 : Int32), kp, co_1, ti_1, an_1, n_1, ea_1, kt_1, si_1, fi_1, co_2, ti_2, an_2, n_2, ea_2, kt_2, si_2, fi_2) else (if kn = 0 then (match fX3_copy kt_1 co_1 ti_1 an_1 si fi kt n ea co ti an with | (q20a, q20b, q20c, q20d, q20e, q20f, q20g, q20h) => ((1 : Int32), (kp ||| ((1 : Int32) <<< (kn &&& 31))), q20a, q20b, q20c, q20d, q20e, q20f, q20g, q20h, co_2, ti_2, an_2, n_2, ea_2, kt_2, si_2, fi_2)) else (match fX3_copy kt_2 co_2 ti_2 an_2 si fi kt n ea co ti an with | (q20a, q20b, q20c, q20d, q20e, q20f, q20g, q20h) => ((1 : Int32), (kp ||| ((1 : Int32) <<< (kn &&& 31))), co_1, ti_1, an_1, n_1, ea_1, kt_1, si_1, fi_1, q20a, q20b, q20c, q20d, q20e, q20f, q20g, q20h))))
set_option maxHeartbeats 4000000 in
set_option maxRecDepth 100000 in
theorem c_X5_image (l : Launch) (dC : Nat → ClassId) (dI : Nat → Nat → Nat) (cyI cyZ : ClassId) (hkc ht ht1 ht2 hp htr hh as hs ak a0 a1 a2 hs1 ak1 a0_1 a1_1 a2_1 hs2 ak2 a0_2 a1_2 a2_2 : Nat) (kp : Int32) (si : Nat) (fi : Int32) (kt : Nat → Int32) (n : Nat) (ea : Int32) (co : Nat → Int32) (ti : Nat → Int32) (an : Nat → Int32) (si_1 : Nat) (fi_1 : Int32) (kt_1 : Nat → Int32) (n_1 : Nat) (ea_1 : Int32) (co_1 : Nat → Int32) (ti_1 : Nat → Int32) (an_1 : Nat → Int32) (si_2 : Nat) (fi_2 : Int32) (kt_2 : Nat → Int32) (n_2 : Nat) (ea_2 : Int32) (co_2 : Nat → Int32) (ti_2 : Nat → Int32) (an_2 : Nat → Int32) (kn : Int32) (hn : n ≤ 24) (sz : Nat) (r : Int32 × Int32 × (Nat → Int32) × (Nat → Int32) × (Nat → Int32) × Nat × Int32 × (Nat → Int32) × Nat × Int32 × (Nat → Int32) × (Nat → Int32) × (Nat → Int32) × Nat × Int32 × (Nat → Int32) × Nat × Int32) (hF : fX5_image kp si fi kt n ea co ti an si_1 fi_1 kt_1 n_1 ea_1 co_1 ti_1 an_1 si_2 fi_2 kt_2 n_2 ea_2 co_2 ti_2 an_2 kn = r) : Met l yX5_image wsX5_image ({ frames := 3, cells := 0, slots := 0, locals := 66 }) (kx_wp (dC, dI) [(hkc, .inr (5, [.ref ht, .ref ht1, .ref ht2, .int kp, .ref hp, .ref htr, .ref hh, .ref as])), (ht, .inr (3, [.ref hs, .ref ak, .int (nI si), .int fi])), (ak, .inl (cyI, 4, .inl kt)), (hs, .inr (2, [.ref a0, .ref a1, .ref a2, .int (nI n), .int ea])), (a0, .inl (cyI, 24, .inl co)), (a1, .inl (cyI, 24, .inl ti)), (a2, .inl (cyI, 24, .inl an)), (ht1, .inr (3, [.ref hs1, .ref ak1, .int (nI si_1), .int fi_1])), (ak1, .inl (cyI, 4, .inl kt_1)), (hs1, .inr (2, [.ref a0_1, .ref a1_1, .ref a2_1, .int (nI n_1), .int ea_1])), (a0_1, .inl (cyI, 24, .inl co_1)), (a1_1, .inl (cyI, 24, .inl ti_1)), (a2_1, .inl (cyI, 24, .inl an_1)), (ht2, .inr (3, [.ref hs2, .ref ak2, .int (nI si_2), .int fi_2])), (ak2, .inl (cyI, 4, .inl kt_2)), (hs2, .inr (2, [.ref a0_2, .ref a1_2, .ref a2_2, .int (nI n_2), .int ea_2])), (a0_2, .inl (cyI, 24, .inl co_2)), (a1_2, .inl (cyI, 24, .inl ti_2)), (a2_2, .inl (cyI, 24, .inl an_2))] [(cyI, .int), (cyZ, .boolean)] sz [.ref hkc, .int kn]) (kx_Qi r.1 (dC, dI) [(hkc, .inr (5, [.ref ht, .ref ht1, .ref ht2, .int kp, .ref hp, .ref htr, .ref hh, .ref as])), (ht, .inr (3, [.ref hs, .ref ak, .int (nI si), .int fi])), (ak, .inl (cyI, 4, .inl kt)), (hs, .inr (2, [.ref a0, .ref a1, .ref a2, .int (nI n), .int ea])), (a0, .inl (cyI, 24, .inl co)), (a1, .inl (cyI, 24, .inl ti)), (a2, .inl (cyI, 24, .inl an)), (ht1, .inr (3, [.ref hs1, .ref ak1, .int (nI si_1), .int fi_1])), (ak1, .inl (cyI, 4, .inl kt_1)), (hs1, .inr (2, [.ref a0_1, .ref a1_1, .ref a2_1, .int (nI n_1), .int ea_1])), (a0_1, .inl (cyI, 24, .inl co_1)), (a1_1, .inl (cyI, 24, .inl ti_1)), (a2_1, .inl (cyI, 24, .inl an_1)), (ht2, .inr (3, [.ref hs2, .ref ak2, .int (nI si_2), .int fi_2])), (ak2, .inl (cyI, 4, .inl kt_2)), (hs2, .inr (2, [.ref a0_2, .ref a1_2, .ref a2_2, .int (nI n_2), .int ea_2])), (a0_2, .inl (cyI, 24, .inl co_2)), (a1_2, .inl (cyI, 24, .inl ti_2)), (a2_2, .inl (cyI, 24, .inl an_2))] [(hkc, .inr (5, [.ref ht, .ref ht1, .ref ht2, .int r.2.1, .ref hp, .ref htr, .ref hh, .ref as])), (ht, .inr (3, [.ref hs, .ref ak, .int (nI si), .int fi])), (ak, .inl (cyI, 4, .inl kt)), (hs, .inr (2, [.ref a0, .ref a1, .ref a2, .int (nI n), .int ea])), (a0, .inl (cyI, 24, .inl co)), (a1, .inl (cyI, 24, .inl ti)), (a2, .inl (cyI, 24, .inl an)), (ht1, .inr (3, [.ref hs1, .ref ak1, .int (nI (r.2.2.2.2.2.2.2.2.1)), .int r.2.2.2.2.2.2.2.2.2.1])), (ak1, .inl (cyI, 4, .inl r.2.2.2.2.2.2.2.1)), (hs1, .inr (2, [.ref a0_1, .ref a1_1, .ref a2_1, .int (nI (r.2.2.2.2.2.1)), .int r.2.2.2.2.2.2.1])), (a0_1, .inl (cyI, 24, .inl r.2.2.1)), (a1_1, .inl (cyI, 24, .inl r.2.2.2.1)), (a2_1, .inl (cyI, 24, .inl r.2.2.2.2.1)), (ht2, .inr (3, [.ref hs2, .ref ak2, .int (nI (r.2.2.2.2.2.2.2.2.2.2.2.2.2.2.2.2.1)), .int r.2.2.2.2.2.2.2.2.2.2.2.2.2.2.2.2.2])), (ak2, .inl (cyI, 4, .inl r.2.2.2.2.2.2.2.2.2.2.2.2.2.2.2.1)), (hs2, .inr (2, [.ref a0_2, .ref a1_2, .ref a2_2, .int (nI (r.2.2.2.2.2.2.2.2.2.2.2.2.2.1)), .int r.2.2.2.2.2.2.2.2.2.2.2.2.2.2.1])), (a0_2, .inl (cyI, 24, .inl r.2.2.2.2.2.2.2.2.2.2.1)), (a1_2, .inl (cyI, 24, .inl r.2.2.2.2.2.2.2.2.2.2.2.1)), (a2_2, .inl (cyI, 24, .inl r.2.2.2.2.2.2.2.2.2.2.2.2.1))] sz) 0 0 (va_A [(hkc, .inr (5, [.ref ht, .ref ht1, .ref ht2, .int kp, .ref hp, .ref htr, .ref hh, .ref as])), (ht, .inr (3, [.ref hs, .ref ak, .int (nI si), .int fi])), (ak, .inl (cyI, 4, .inl kt)), (hs, .inr (2, [.ref a0, .ref a1, .ref a2, .int (nI n), .int ea])), (a0, .inl (cyI, 24, .inl co)), (a1, .inl (cyI, 24, .inl ti)), (a2, .inl (cyI, 24, .inl an)), (ht1, .inr (3, [.ref hs1, .ref ak1, .int (nI si_1), .int fi_1])), (ak1, .inl (cyI, 4, .inl kt_1)), (hs1, .inr (2, [.ref a0_1, .ref a1_1, .ref a2_1, .int (nI n_1), .int ea_1])), (a0_1, .inl (cyI, 24, .inl co_1)), (a1_1, .inl (cyI, 24, .inl ti_1)), (a2_1, .inl (cyI, 24, .inl an_1)), (ht2, .inr (3, [.ref hs2, .ref ak2, .int (nI si_2), .int fi_2])), (ak2, .inl (cyI, 4, .inl kt_2)), (hs2, .inr (2, [.ref a0_2, .ref a1_2, .ref a2_2, .int (nI n_2), .int ea_2])), (a0_2, .inl (cyI, 24, .inl co_2)), (a1_2, .inl (cyI, 24, .inl ti_2)), (a2_2, .inl (cyI, 24, .inl an_2))] sz) := by
  refine Met.ofW (cc := cX5_image) (maxL := 2) (ret := (some .int)) (by decide) rfl ?_
  intro p e s m args below meth c s₁ B hml hv
  obtain ⟨rfl, hsz, hP, hK, hN, hD0⟩ := hv
  have hx := B.exec
  have hb := B.bytes
  have hr := B.returns
  have hts := atoms_spec (ws := wsX5_image) B.pre
  have hown : s.vm.findClass RX5 = some m.cls := findClass_of_methodNamed B.named
  have hlocks := B.notSynchronized
  subst hsz
  obtain ⟨A, hAe⟩ : ∃ A, A = va_A [(hkc, .inr (5, [.ref ht, .ref ht1, .ref ht2, .int kp, .ref hp, .ref htr, .ref hh, .ref as])), (ht, .inr (3, [.ref hs, .ref ak, .int (nI si), .int fi])), (ak, .inl (cyI, 4, .inl kt)), (hs, .inr (2, [.ref a0, .ref a1, .ref a2, .int (nI n), .int ea])), (a0, .inl (cyI, 24, .inl co)), (a1, .inl (cyI, 24, .inl ti)), (a2, .inl (cyI, 24, .inl an)), (ht1, .inr (3, [.ref hs1, .ref ak1, .int (nI si_1), .int fi_1])), (ak1, .inl (cyI, 4, .inl kt_1)), (hs1, .inr (2, [.ref a0_1, .ref a1_1, .ref a2_1, .int (nI n_1), .int ea_1])), (a0_1, .inl (cyI, 24, .inl co_1)), (a1_1, .inl (cyI, 24, .inl ti_1)), (a2_1, .inl (cyI, 24, .inl an_1)), (ht2, .inr (3, [.ref hs2, .ref ak2, .int (nI si_2), .int fi_2])), (ak2, .inl (cyI, 4, .inl kt_2)), (hs2, .inr (2, [.ref a0_2, .ref a1_2, .ref a2_2, .int (nI n_2), .int ea_2])), (a0_2, .inl (cyI, 24, .inl co_2)), (a1_2, .inl (cyI, 24, .inl ti_2)), (a2_2, .inl (cyI, 24, .inl an_2))] s.heap.size := ⟨_, rfl⟩
  have hD : va_D A [(hkc, .inr (5, [.ref ht, .ref ht1, .ref ht2, .int kp, .ref hp, .ref htr, .ref hh, .ref as])), (ht, .inr (3, [.ref hs, .ref ak, .int (nI si), .int fi])), (ak, .inl (cyI, 4, .inl kt)), (hs, .inr (2, [.ref a0, .ref a1, .ref a2, .int (nI n), .int ea])), (a0, .inl (cyI, 24, .inl co)), (a1, .inl (cyI, 24, .inl ti)), (a2, .inl (cyI, 24, .inl an)), (ht1, .inr (3, [.ref hs1, .ref ak1, .int (nI si_1), .int fi_1])), (ak1, .inl (cyI, 4, .inl kt_1)), (hs1, .inr (2, [.ref a0_1, .ref a1_1, .ref a2_1, .int (nI n_1), .int ea_1])), (a0_1, .inl (cyI, 24, .inl co_1)), (a1_1, .inl (cyI, 24, .inl ti_1)), (a2_1, .inl (cyI, 24, .inl an_1)), (ht2, .inr (3, [.ref hs2, .ref ak2, .int (nI si_2), .int fi_2])), (ak2, .inl (cyI, 4, .inl kt_2)), (hs2, .inr (2, [.ref a0_2, .ref a1_2, .ref a2_2, .int (nI n_2), .int ea_2])), (a0_2, .inl (cyI, 24, .inl co_2)), (a1_2, .inl (cyI, 24, .inl ti_2)), (a2_2, .inl (cyI, 24, .inl an_2))] := by rw [hAe]; exact hD0.self
  have hA : ∀ q : Nat, s.heap.size ≤ q → A q := fun q h => by rw [hAe]; exact Or.inr h
  have hS : va_S A s.heap s.heap [] := va_S.rf
  have hiX5 : ∀ w ∈ wsX50, w ∈ wsX5_image := by decide +kernel
  have fl10 := hts (.fieldLink RX5 10 "KnitChronicle" "town" "LKnitChronicle$Town;") (by decide +kernel)
  have fl172 := hts (.fieldLink RX5 172 "KnitChronicle" "keptImages" "I") (by decide +kernel)
  have hl := lv_entry ([.ref hkc, .int kn]) (n := 2) (Nat.le_of_ble_eq_true rfl)
  rw [lg_entry_eq]
  generalize (lg_sl ([.ref hkc, .int kn]) ++ List.replicate (2 - (lg_sl ([.ref hkc, .int kn])).length) Slot.unset).toArray = ls at hl ⊢
  have hl : lv_has ls 2 [(0, .ref hkc), (1, .int kn)] := hl
  unfold fX5_image at hF
  refine lv_iload_n hx hb dX5_image_0 rfl (lv_at hl 1 rfl) ?_
  refine lv_iconst (v := (2 : Int32)) hx hb dX5_image_1 (by decide) ?_
  refine kx_cS (As := [.int kn, .int (2 : Int32)]) (rest := []) ⟨hx, hb, hml, hown, hts⟩ (c_X5_isBelow l dC dI cyI cyZ  kn (2 : Int32)  _ rfl) (va_cwS 2 hts gX5_image_X5_isBelow rfl rfl rfl (by decide +kernel) ⟨Nat.le_of_ble_eq_true rfl, Nat.le_of_ble_eq_true rfl⟩) hP hK hN [] rfl [0, 1] rfl rfl hl.1 rfl (Nat.le_of_ble_eq_true rfl) dX5_image_2 ⟨Nat.zero_le _, Nat.zero_le _⟩ ?_
  refine lv_if_ne (tgt := 11) hx hb dX5_image_5 (by decide) (fun c5 => ?_) (fun c5 => ?_)
  · rw [if_neg c5] at hF
    refine lv_aload_n hx hb dX5_image_11 rfl (lv_at hl 0 rfl) ?_
    refine lv_iload_n hx hb dX5_image_12 rfl (lv_at hl 1 rfl) ?_
    by_cases c13 : kn = 0
    · rw [if_pos c13] at hF
      refine kx_cV (As := [.int kn]) (rest := []) ⟨hx, hb, hml, hown, hts⟩ (c_X5_imageAt_0 l dC dI cyI cyZ hkc ht ht1 ht2 hp htr hh as kp kn c13 ht1 rfl) (cwV 1 hts gX5_image_X5_imageAt rfl rfl rfl (by decide +kernel) ⟨Nat.le_of_ble_eq_true rfl, Nat.le_of_ble_eq_true rfl⟩) hP hK hN [0] rfl [0, 1] rfl 5 0 rfl rfl rfl rfl hl.1 rfl (Nat.le_of_ble_eq_true rfl) dX5_image_13 ⟨Nat.zero_le _, Nat.zero_le _⟩ ?_
      refine lv_aload_n hx hb dX5_image_16 rfl (lv_at hl 0 rfl) ?_
      refine va_get (D := (dC, dI)) (ci := 5) (v := .ref ht) (C := RX5) (T := TX5) (N := 8) hx hb hts hiX5 hown hK hP 0 rfl rfl 0 (by decide) fl10 (fun _ h9 => h9) rfl dX5_image_17 ?_
      generalize hq20 : fX3_copy kt_1 co_1 ti_1 an_1 si fi kt n ea co ti an = q20 at hF
      obtain ⟨q20a, q20b, q20c, q20d, q20e, q20f, q20g, q20h⟩ := q20
      dsimp only at hF
      refine kx_wVv (As := [.ref ht]) (rest := []) (wr := [(hkc, .inr (5, [.ref ht, .ref ht1, .ref ht2, .int kp, .ref hp, .ref htr, .ref hh, .ref as])), (ht2, .inr (3, [.ref hs2, .ref ak2, .int (nI si_2), .int fi_2])), (ak2, .inl (cyI, 4, .inl kt_2)), (hs2, .inr (2, [.ref a0_2, .ref a1_2, .ref a2_2, .int (nI n_2), .int ea_2])), (a0_2, .inl (cyI, 24, .inl co_2)), (a1_2, .inl (cyI, 24, .inl ti_2)), (a2_2, .inl (cyI, 24, .inl an_2))]) (wc' := [(ht1, .inr (3, [.ref hs1, .ref ak1, .int (nI q20g), .int q20h])), (ak1, .inl (cyI, 4, .inl q20f)), (hs1, .inr (2, [.ref a0_1, .ref a1_1, .ref a2_1, .int (nI q20d), .int q20e])), (a0_1, .inl (cyI, 24, .inl q20a)), (a1_1, .inl (cyI, 24, .inl q20b)), (a2_1, .inl (cyI, 24, .inl q20c)), (ht, .inr (3, [.ref hs, .ref ak, .int (nI si), .int fi])), (ak, .inl (cyI, 4, .inl kt)), (hs, .inr (2, [.ref a0, .ref a1, .ref a2, .int (nI n), .int ea])), (a0, .inl (cyI, 24, .inl co)), (a1, .inl (cyI, 24, .inl ti)), (a2, .inl (cyI, 24, .inl an))]) (W1 := [(hkc, .inr (5, [.ref ht, .ref ht1, .ref ht2, .int kp, .ref hp, .ref htr, .ref hh, .ref as])), (ht, .inr (3, [.ref hs, .ref ak, .int (nI si), .int fi])), (ak, .inl (cyI, 4, .inl kt)), (hs, .inr (2, [.ref a0, .ref a1, .ref a2, .int (nI n), .int ea])), (a0, .inl (cyI, 24, .inl co)), (a1, .inl (cyI, 24, .inl ti)), (a2, .inl (cyI, 24, .inl an)), (ht1, .inr (3, [.ref hs1, .ref ak1, .int (nI q20g), .int q20h])), (ak1, .inl (cyI, 4, .inl q20f)), (hs1, .inr (2, [.ref a0_1, .ref a1_1, .ref a2_1, .int (nI q20d), .int q20e])), (a0_1, .inl (cyI, 24, .inl q20a)), (a1_1, .inl (cyI, 24, .inl q20b)), (a2_1, .inl (cyI, 24, .inl q20c)), (ht2, .inr (3, [.ref hs2, .ref ak2, .int (nI si_2), .int fi_2])), (ak2, .inl (cyI, 4, .inl kt_2)), (hs2, .inr (2, [.ref a0_2, .ref a1_2, .ref a2_2, .int (nI n_2), .int ea_2])), (a0_2, .inl (cyI, 24, .inl co_2)), (a1_2, .inl (cyI, 24, .inl ti_2)), (a2_2, .inl (cyI, 24, .inl an_2))]) ⟨hx, hb, hml, hown, hts⟩ (c_X3_copy l dC dI cyI cyZ ht1 hs1 ak1 a0_1 a1_1 a2_1 ht hs ak a0 a1 a2 si_1 fi_1 kt_1 n_1 ea_1 co_1 ti_1 an_1 si fi kt n ea co ti an (by omega) _ _ hq20) (cwV 1 hts gX5_image_X3_copy rfl rfl rfl (by decide +kernel) ⟨Nat.le_of_ble_eq_true rfl, Nat.le_of_ble_eq_true rfl⟩) hP hD hS hA hK hN [7, 8, 9, 10, 11, 12, 1, 2, 3, 4, 5, 6] [0, 13, 14, 15, 16, 17, 18] [0, 13, 14, 15, 16, 17, 18, 7, 8, 9, 10, 11, 12, 1, 2, 3, 4, 5, 6] rfl (by decide) rfl (by decide) (by decide) (by decide) rfl [0, 1] rfl 3 7 rfl rfl rfl rfl hl.1 rfl (Nat.le_of_ble_eq_true rfl) dX5_image_20 ⟨Nat.zero_le _, Nat.zero_le _⟩ (fun H locs hP hD hS => ?_)
      refine lv_aload_n hx hb dX5_image_23 rfl (lv_at hl 0 rfl) ?_
      refine lv_dup hx hb dX5_image_24 rfl ?_
      refine va_get (D := (dC, dI)) (ci := 5) (v := .int kp) (C := RX5) (T := TX5) (N := 8) hx hb hts hiX5 hown hK hP 0 rfl rfl 3 (by decide) fl172 (fun _ h9 => h9) rfl dX5_image_25 ?_
      refine lv_iconst (v := (1 : Int32)) hx hb dX5_image_28 (by decide) ?_
      refine lv_iload_n hx hb dX5_image_29 rfl (lv_at hl 1 rfl) ?_
      refine lv_ishl hx hb dX5_image_30 ?_
      refine lv_ior hx hb dX5_image_31 ?_
      refine va_put (D := (dC, dI)) (ci := 5) (v := .int (kp ||| ((1 : Int32) <<< (kn &&& 31)))) (ty := .int) (C := RX5) (T := TX5) (N := 8) hx hb hts hiX5 tyX5 tyX5_ok nmX5 hown hK hP hD hS 0 rfl rfl 3 (by decide) fl172 (fun _ h9 => h9) rfl (by decide +kernel) rfl rfl (Nat.le_of_ble_eq_true rfl) dX5_image_32 (fun H locs hP hD hS => ?_)
      have hP : va_P (dC, dI) vwCl [(hkc, .inr (5, [.ref ht, .ref ht1, .ref ht2, .int (kp ||| ((1 : Int32) <<< (kn &&& 31))), .ref hp, .ref htr, .ref hh, .ref as])), (ht, .inr (3, [.ref hs, .ref ak, .int (nI si), .int fi])), (ak, .inl (cyI, 4, .inl kt)), (hs, .inr (2, [.ref a0, .ref a1, .ref a2, .int (nI n), .int ea])), (a0, .inl (cyI, 24, .inl co)), (a1, .inl (cyI, 24, .inl ti)), (a2, .inl (cyI, 24, .inl an)), (ht1, .inr (3, [.ref hs1, .ref ak1, .int (nI q20g), .int q20h])), (ak1, .inl (cyI, 4, .inl q20f)), (hs1, .inr (2, [.ref a0_1, .ref a1_1, .ref a2_1, .int (nI q20d), .int q20e])), (a0_1, .inl (cyI, 24, .inl q20a)), (a1_1, .inl (cyI, 24, .inl q20b)), (a2_1, .inl (cyI, 24, .inl q20c)), (ht2, .inr (3, [.ref hs2, .ref ak2, .int (nI si_2), .int fi_2])), (ak2, .inl (cyI, 4, .inl kt_2)), (hs2, .inr (2, [.ref a0_2, .ref a1_2, .ref a2_2, .int (nI n_2), .int ea_2])), (a0_2, .inl (cyI, 24, .inl co_2)), (a1_2, .inl (cyI, 24, .inl ti_2)), (a2_2, .inl (cyI, 24, .inl an_2))] H := hP
      have hD : va_D A [(hkc, .inr (5, [.ref ht, .ref ht1, .ref ht2, .int (kp ||| ((1 : Int32) <<< (kn &&& 31))), .ref hp, .ref htr, .ref hh, .ref as])), (ht, .inr (3, [.ref hs, .ref ak, .int (nI si), .int fi])), (ak, .inl (cyI, 4, .inl kt)), (hs, .inr (2, [.ref a0, .ref a1, .ref a2, .int (nI n), .int ea])), (a0, .inl (cyI, 24, .inl co)), (a1, .inl (cyI, 24, .inl ti)), (a2, .inl (cyI, 24, .inl an)), (ht1, .inr (3, [.ref hs1, .ref ak1, .int (nI q20g), .int q20h])), (ak1, .inl (cyI, 4, .inl q20f)), (hs1, .inr (2, [.ref a0_1, .ref a1_1, .ref a2_1, .int (nI q20d), .int q20e])), (a0_1, .inl (cyI, 24, .inl q20a)), (a1_1, .inl (cyI, 24, .inl q20b)), (a2_1, .inl (cyI, 24, .inl q20c)), (ht2, .inr (3, [.ref hs2, .ref ak2, .int (nI si_2), .int fi_2])), (ak2, .inl (cyI, 4, .inl kt_2)), (hs2, .inr (2, [.ref a0_2, .ref a1_2, .ref a2_2, .int (nI n_2), .int ea_2])), (a0_2, .inl (cyI, 24, .inl co_2)), (a1_2, .inl (cyI, 24, .inl ti_2)), (a2_2, .inl (cyI, 24, .inl an_2))] := hD
      refine lv_iconst (v := (1 : Int32)) hx hb dX5_image_35 (by decide) ?_
      subst hF
      subst hAe
      exact W.iret hx hb hr (fun t ht _ => ⟨⟨_, (), rfl, rfl, by rw [ht]; exact hP, hD⟩, hS.F ht⟩) hS.2.2 dX5_image_36
    · rw [if_neg c13] at hF
      refine kx_cV (As := [.int kn]) (rest := []) ⟨hx, hb, hml, hown, hts⟩ (c_X5_imageAt_1 l dC dI cyI cyZ hkc ht ht1 ht2 hp htr hh as kp kn c13 ht2 rfl) (cwV 1 hts gX5_image_X5_imageAt rfl rfl rfl (by decide +kernel) ⟨Nat.le_of_ble_eq_true rfl, Nat.le_of_ble_eq_true rfl⟩) hP hK hN [0] rfl [0, 1] rfl 5 0 rfl rfl rfl rfl hl.1 rfl (Nat.le_of_ble_eq_true rfl) dX5_image_13 ⟨Nat.zero_le _, Nat.zero_le _⟩ ?_
      refine lv_aload_n hx hb dX5_image_16 rfl (lv_at hl 0 rfl) ?_
      refine va_get (D := (dC, dI)) (ci := 5) (v := .ref ht) (C := RX5) (T := TX5) (N := 8) hx hb hts hiX5 hown hK hP 0 rfl rfl 0 (by decide) fl10 (fun _ h9 => h9) rfl dX5_image_17 ?_
      generalize hq20 : fX3_copy kt_2 co_2 ti_2 an_2 si fi kt n ea co ti an = q20 at hF
      obtain ⟨q20a, q20b, q20c, q20d, q20e, q20f, q20g, q20h⟩ := q20
      dsimp only at hF
      refine kx_wVv (As := [.ref ht]) (rest := []) (wr := [(hkc, .inr (5, [.ref ht, .ref ht1, .ref ht2, .int kp, .ref hp, .ref htr, .ref hh, .ref as])), (ht1, .inr (3, [.ref hs1, .ref ak1, .int (nI si_1), .int fi_1])), (ak1, .inl (cyI, 4, .inl kt_1)), (hs1, .inr (2, [.ref a0_1, .ref a1_1, .ref a2_1, .int (nI n_1), .int ea_1])), (a0_1, .inl (cyI, 24, .inl co_1)), (a1_1, .inl (cyI, 24, .inl ti_1)), (a2_1, .inl (cyI, 24, .inl an_1))]) (wc' := [(ht2, .inr (3, [.ref hs2, .ref ak2, .int (nI q20g), .int q20h])), (ak2, .inl (cyI, 4, .inl q20f)), (hs2, .inr (2, [.ref a0_2, .ref a1_2, .ref a2_2, .int (nI q20d), .int q20e])), (a0_2, .inl (cyI, 24, .inl q20a)), (a1_2, .inl (cyI, 24, .inl q20b)), (a2_2, .inl (cyI, 24, .inl q20c)), (ht, .inr (3, [.ref hs, .ref ak, .int (nI si), .int fi])), (ak, .inl (cyI, 4, .inl kt)), (hs, .inr (2, [.ref a0, .ref a1, .ref a2, .int (nI n), .int ea])), (a0, .inl (cyI, 24, .inl co)), (a1, .inl (cyI, 24, .inl ti)), (a2, .inl (cyI, 24, .inl an))]) (W1 := [(hkc, .inr (5, [.ref ht, .ref ht1, .ref ht2, .int kp, .ref hp, .ref htr, .ref hh, .ref as])), (ht, .inr (3, [.ref hs, .ref ak, .int (nI si), .int fi])), (ak, .inl (cyI, 4, .inl kt)), (hs, .inr (2, [.ref a0, .ref a1, .ref a2, .int (nI n), .int ea])), (a0, .inl (cyI, 24, .inl co)), (a1, .inl (cyI, 24, .inl ti)), (a2, .inl (cyI, 24, .inl an)), (ht1, .inr (3, [.ref hs1, .ref ak1, .int (nI si_1), .int fi_1])), (ak1, .inl (cyI, 4, .inl kt_1)), (hs1, .inr (2, [.ref a0_1, .ref a1_1, .ref a2_1, .int (nI n_1), .int ea_1])), (a0_1, .inl (cyI, 24, .inl co_1)), (a1_1, .inl (cyI, 24, .inl ti_1)), (a2_1, .inl (cyI, 24, .inl an_1)), (ht2, .inr (3, [.ref hs2, .ref ak2, .int (nI q20g), .int q20h])), (ak2, .inl (cyI, 4, .inl q20f)), (hs2, .inr (2, [.ref a0_2, .ref a1_2, .ref a2_2, .int (nI q20d), .int q20e])), (a0_2, .inl (cyI, 24, .inl q20a)), (a1_2, .inl (cyI, 24, .inl q20b)), (a2_2, .inl (cyI, 24, .inl q20c))]) ⟨hx, hb, hml, hown, hts⟩ (c_X3_copy l dC dI cyI cyZ ht2 hs2 ak2 a0_2 a1_2 a2_2 ht hs ak a0 a1 a2 si_2 fi_2 kt_2 n_2 ea_2 co_2 ti_2 an_2 si fi kt n ea co ti an (by omega) _ _ hq20) (cwV 1 hts gX5_image_X3_copy rfl rfl rfl (by decide +kernel) ⟨Nat.le_of_ble_eq_true rfl, Nat.le_of_ble_eq_true rfl⟩) hP hD hS hA hK hN [13, 14, 15, 16, 17, 18, 1, 2, 3, 4, 5, 6] [0, 7, 8, 9, 10, 11, 12] [0, 13, 14, 15, 16, 17, 18, 1, 2, 3, 4, 5, 6, 7, 8, 9, 10, 11, 12] rfl (by decide) rfl (by decide) (by decide) (by decide) rfl [0, 1] rfl 3 13 rfl rfl rfl rfl hl.1 rfl (Nat.le_of_ble_eq_true rfl) dX5_image_20 ⟨Nat.zero_le _, Nat.zero_le _⟩ (fun H locs hP hD hS => ?_)
      refine lv_aload_n hx hb dX5_image_23 rfl (lv_at hl 0 rfl) ?_
      refine lv_dup hx hb dX5_image_24 rfl ?_
      refine va_get (D := (dC, dI)) (ci := 5) (v := .int kp) (C := RX5) (T := TX5) (N := 8) hx hb hts hiX5 hown hK hP 0 rfl rfl 3 (by decide) fl172 (fun _ h9 => h9) rfl dX5_image_25 ?_
      refine lv_iconst (v := (1 : Int32)) hx hb dX5_image_28 (by decide) ?_
      refine lv_iload_n hx hb dX5_image_29 rfl (lv_at hl 1 rfl) ?_
      refine lv_ishl hx hb dX5_image_30 ?_
      refine lv_ior hx hb dX5_image_31 ?_
      refine va_put (D := (dC, dI)) (ci := 5) (v := .int (kp ||| ((1 : Int32) <<< (kn &&& 31)))) (ty := .int) (C := RX5) (T := TX5) (N := 8) hx hb hts hiX5 tyX5 tyX5_ok nmX5 hown hK hP hD hS 0 rfl rfl 3 (by decide) fl172 (fun _ h9 => h9) rfl (by decide +kernel) rfl rfl (Nat.le_of_ble_eq_true rfl) dX5_image_32 (fun H locs hP hD hS => ?_)
      have hP : va_P (dC, dI) vwCl [(hkc, .inr (5, [.ref ht, .ref ht1, .ref ht2, .int (kp ||| ((1 : Int32) <<< (kn &&& 31))), .ref hp, .ref htr, .ref hh, .ref as])), (ht, .inr (3, [.ref hs, .ref ak, .int (nI si), .int fi])), (ak, .inl (cyI, 4, .inl kt)), (hs, .inr (2, [.ref a0, .ref a1, .ref a2, .int (nI n), .int ea])), (a0, .inl (cyI, 24, .inl co)), (a1, .inl (cyI, 24, .inl ti)), (a2, .inl (cyI, 24, .inl an)), (ht1, .inr (3, [.ref hs1, .ref ak1, .int (nI si_1), .int fi_1])), (ak1, .inl (cyI, 4, .inl kt_1)), (hs1, .inr (2, [.ref a0_1, .ref a1_1, .ref a2_1, .int (nI n_1), .int ea_1])), (a0_1, .inl (cyI, 24, .inl co_1)), (a1_1, .inl (cyI, 24, .inl ti_1)), (a2_1, .inl (cyI, 24, .inl an_1)), (ht2, .inr (3, [.ref hs2, .ref ak2, .int (nI q20g), .int q20h])), (ak2, .inl (cyI, 4, .inl q20f)), (hs2, .inr (2, [.ref a0_2, .ref a1_2, .ref a2_2, .int (nI q20d), .int q20e])), (a0_2, .inl (cyI, 24, .inl q20a)), (a1_2, .inl (cyI, 24, .inl q20b)), (a2_2, .inl (cyI, 24, .inl q20c))] H := hP
      have hD : va_D A [(hkc, .inr (5, [.ref ht, .ref ht1, .ref ht2, .int (kp ||| ((1 : Int32) <<< (kn &&& 31))), .ref hp, .ref htr, .ref hh, .ref as])), (ht, .inr (3, [.ref hs, .ref ak, .int (nI si), .int fi])), (ak, .inl (cyI, 4, .inl kt)), (hs, .inr (2, [.ref a0, .ref a1, .ref a2, .int (nI n), .int ea])), (a0, .inl (cyI, 24, .inl co)), (a1, .inl (cyI, 24, .inl ti)), (a2, .inl (cyI, 24, .inl an)), (ht1, .inr (3, [.ref hs1, .ref ak1, .int (nI si_1), .int fi_1])), (ak1, .inl (cyI, 4, .inl kt_1)), (hs1, .inr (2, [.ref a0_1, .ref a1_1, .ref a2_1, .int (nI n_1), .int ea_1])), (a0_1, .inl (cyI, 24, .inl co_1)), (a1_1, .inl (cyI, 24, .inl ti_1)), (a2_1, .inl (cyI, 24, .inl an_1)), (ht2, .inr (3, [.ref hs2, .ref ak2, .int (nI q20g), .int q20h])), (ak2, .inl (cyI, 4, .inl q20f)), (hs2, .inr (2, [.ref a0_2, .ref a1_2, .ref a2_2, .int (nI q20d), .int q20e])), (a0_2, .inl (cyI, 24, .inl q20a)), (a1_2, .inl (cyI, 24, .inl q20b)), (a2_2, .inl (cyI, 24, .inl q20c))] := hD
      refine lv_iconst (v := (1 : Int32)) hx hb dX5_image_35 (by decide) ?_
      subst hF
      subst hAe
      exact W.iret hx hb hr (fun t ht _ => ⟨⟨_, (), rfl, rfl, by rw [ht]; exact hP, hD⟩, hS.F ht⟩) hS.2.2 dX5_image_36
  · rw [if_pos c5] at hF
    refine lv_bipush (v := (-2 : Int32)) hx hb dX5_image_8 (by decide) ?_
    subst hF
    subst hAe
    exact W.iret hx hb hr (fun t ht _ => ⟨⟨_, (), rfl, rfl, by rw [ht]; exact hP, hD⟩, hS.F ht⟩) hS.2.2 dX5_image_10

def fX5_restore (kp : Int32) (si : Nat) (fi : Int32) (kt : Nat → Int32) (n : Nat) (ea : Int32) (co : Nat → Int32) (ti : Nat → Int32) (an : Nat → Int32) (si_1 : Nat) (fi_1 : Int32) (kt_1 : Nat → Int32) (n_1 : Nat) (ea_1 : Int32) (co_1 : Nat → Int32) (ti_1 : Nat → Int32) (an_1 : Nat → Int32) (si_2 : Nat) (fi_2 : Int32) (kt_2 : Nat → Int32) (n_2 : Nat) (ea_2 : Int32) (co_2 : Nat → Int32) (ti_2 : Nat → Int32) (an_2 : Nat → Int32) (kn : Int32) : Int32 × (Nat → Int32) × (Nat → Int32) × (Nat → Int32) × Nat × Int32 × (Nat → Int32) × Nat × Int32 :=
  (if (fX5_isBelow kn (2 : Int32)) = 0 then ((-2 : Int32), co, ti, an, n, ea, kt, si, fi) else (if (fX5_isIn kp kn) = 0 then ((-3 : Int32), co, ti, an, n, ea, kt, si, fi) else (if kn = 0 then (match fX3_copy kt co ti an si_1 fi_1 kt_1 n_1 ea_1 co_1 ti_1 an_1 with | (q34a, q34b, q34c, q34d, q34e, q34f, q34g, q34h) => ((1 : Int32), q34a, q34b, q34c, q34d, q34e, q34f, q34g, q34h)) else (match fX3_copy kt co ti an si_2 fi_2 kt_2 n_2 ea_2 co_2 ti_2 an_2 with | (q34a, q34b, q34c, q34d, q34e, q34f, q34g, q34h) => ((1 : Int32), q34a, q34b, q34c, q34d, q34e, q34f, q34g, q34h)))))
set_option maxHeartbeats 4000000 in
set_option maxRecDepth 100000 in
theorem c_X5_restore (l : Launch) (dC : Nat → ClassId) (dI : Nat → Nat → Nat) (cyI cyZ : ClassId) (hkc ht ht1 ht2 hp htr hh as hs ak a0 a1 a2 hs1 ak1 a0_1 a1_1 a2_1 hs2 ak2 a0_2 a1_2 a2_2 : Nat) (kp : Int32) (si : Nat) (fi : Int32) (kt : Nat → Int32) (n : Nat) (ea : Int32) (co : Nat → Int32) (ti : Nat → Int32) (an : Nat → Int32) (si_1 : Nat) (fi_1 : Int32) (kt_1 : Nat → Int32) (n_1 : Nat) (ea_1 : Int32) (co_1 : Nat → Int32) (ti_1 : Nat → Int32) (an_1 : Nat → Int32) (si_2 : Nat) (fi_2 : Int32) (kt_2 : Nat → Int32) (n_2 : Nat) (ea_2 : Int32) (co_2 : Nat → Int32) (ti_2 : Nat → Int32) (an_2 : Nat → Int32) (kn : Int32) (hn1 : n_1 ≤ 24) (hn2 : n_2 ≤ 24) (sz : Nat) (r : Int32 × (Nat → Int32) × (Nat → Int32) × (Nat → Int32) × Nat × Int32 × (Nat → Int32) × Nat × Int32) (hF : fX5_restore kp si fi kt n ea co ti an si_1 fi_1 kt_1 n_1 ea_1 co_1 ti_1 an_1 si_2 fi_2 kt_2 n_2 ea_2 co_2 ti_2 an_2 kn = r) : Met l yX5_restore wsX5_restore ({ frames := 3, cells := 0, slots := 0, locals := 66 }) (kx_wp (dC, dI) [(hkc, .inr (5, [.ref ht, .ref ht1, .ref ht2, .int kp, .ref hp, .ref htr, .ref hh, .ref as])), (ht, .inr (3, [.ref hs, .ref ak, .int (nI si), .int fi])), (ak, .inl (cyI, 4, .inl kt)), (hs, .inr (2, [.ref a0, .ref a1, .ref a2, .int (nI n), .int ea])), (a0, .inl (cyI, 24, .inl co)), (a1, .inl (cyI, 24, .inl ti)), (a2, .inl (cyI, 24, .inl an)), (ht1, .inr (3, [.ref hs1, .ref ak1, .int (nI si_1), .int fi_1])), (ak1, .inl (cyI, 4, .inl kt_1)), (hs1, .inr (2, [.ref a0_1, .ref a1_1, .ref a2_1, .int (nI n_1), .int ea_1])), (a0_1, .inl (cyI, 24, .inl co_1)), (a1_1, .inl (cyI, 24, .inl ti_1)), (a2_1, .inl (cyI, 24, .inl an_1)), (ht2, .inr (3, [.ref hs2, .ref ak2, .int (nI si_2), .int fi_2])), (ak2, .inl (cyI, 4, .inl kt_2)), (hs2, .inr (2, [.ref a0_2, .ref a1_2, .ref a2_2, .int (nI n_2), .int ea_2])), (a0_2, .inl (cyI, 24, .inl co_2)), (a1_2, .inl (cyI, 24, .inl ti_2)), (a2_2, .inl (cyI, 24, .inl an_2))] [(cyI, .int), (cyZ, .boolean)] sz [.ref hkc, .int kn]) (kx_Qi r.1 (dC, dI) [(hkc, .inr (5, [.ref ht, .ref ht1, .ref ht2, .int kp, .ref hp, .ref htr, .ref hh, .ref as])), (ht, .inr (3, [.ref hs, .ref ak, .int (nI si), .int fi])), (ak, .inl (cyI, 4, .inl kt)), (hs, .inr (2, [.ref a0, .ref a1, .ref a2, .int (nI n), .int ea])), (a0, .inl (cyI, 24, .inl co)), (a1, .inl (cyI, 24, .inl ti)), (a2, .inl (cyI, 24, .inl an)), (ht1, .inr (3, [.ref hs1, .ref ak1, .int (nI si_1), .int fi_1])), (ak1, .inl (cyI, 4, .inl kt_1)), (hs1, .inr (2, [.ref a0_1, .ref a1_1, .ref a2_1, .int (nI n_1), .int ea_1])), (a0_1, .inl (cyI, 24, .inl co_1)), (a1_1, .inl (cyI, 24, .inl ti_1)), (a2_1, .inl (cyI, 24, .inl an_1)), (ht2, .inr (3, [.ref hs2, .ref ak2, .int (nI si_2), .int fi_2])), (ak2, .inl (cyI, 4, .inl kt_2)), (hs2, .inr (2, [.ref a0_2, .ref a1_2, .ref a2_2, .int (nI n_2), .int ea_2])), (a0_2, .inl (cyI, 24, .inl co_2)), (a1_2, .inl (cyI, 24, .inl ti_2)), (a2_2, .inl (cyI, 24, .inl an_2))] [(hkc, .inr (5, [.ref ht, .ref ht1, .ref ht2, .int kp, .ref hp, .ref htr, .ref hh, .ref as])), (ht, .inr (3, [.ref hs, .ref ak, .int (nI (r.2.2.2.2.2.2.2.1)), .int r.2.2.2.2.2.2.2.2])), (ak, .inl (cyI, 4, .inl r.2.2.2.2.2.2.1)), (hs, .inr (2, [.ref a0, .ref a1, .ref a2, .int (nI (r.2.2.2.2.1)), .int r.2.2.2.2.2.1])), (a0, .inl (cyI, 24, .inl r.2.1)), (a1, .inl (cyI, 24, .inl r.2.2.1)), (a2, .inl (cyI, 24, .inl r.2.2.2.1)), (ht1, .inr (3, [.ref hs1, .ref ak1, .int (nI si_1), .int fi_1])), (ak1, .inl (cyI, 4, .inl kt_1)), (hs1, .inr (2, [.ref a0_1, .ref a1_1, .ref a2_1, .int (nI n_1), .int ea_1])), (a0_1, .inl (cyI, 24, .inl co_1)), (a1_1, .inl (cyI, 24, .inl ti_1)), (a2_1, .inl (cyI, 24, .inl an_1)), (ht2, .inr (3, [.ref hs2, .ref ak2, .int (nI si_2), .int fi_2])), (ak2, .inl (cyI, 4, .inl kt_2)), (hs2, .inr (2, [.ref a0_2, .ref a1_2, .ref a2_2, .int (nI n_2), .int ea_2])), (a0_2, .inl (cyI, 24, .inl co_2)), (a1_2, .inl (cyI, 24, .inl ti_2)), (a2_2, .inl (cyI, 24, .inl an_2))] sz) 0 0 (va_A [(hkc, .inr (5, [.ref ht, .ref ht1, .ref ht2, .int kp, .ref hp, .ref htr, .ref hh, .ref as])), (ht, .inr (3, [.ref hs, .ref ak, .int (nI si), .int fi])), (ak, .inl (cyI, 4, .inl kt)), (hs, .inr (2, [.ref a0, .ref a1, .ref a2, .int (nI n), .int ea])), (a0, .inl (cyI, 24, .inl co)), (a1, .inl (cyI, 24, .inl ti)), (a2, .inl (cyI, 24, .inl an)), (ht1, .inr (3, [.ref hs1, .ref ak1, .int (nI si_1), .int fi_1])), (ak1, .inl (cyI, 4, .inl kt_1)), (hs1, .inr (2, [.ref a0_1, .ref a1_1, .ref a2_1, .int (nI n_1), .int ea_1])), (a0_1, .inl (cyI, 24, .inl co_1)), (a1_1, .inl (cyI, 24, .inl ti_1)), (a2_1, .inl (cyI, 24, .inl an_1)), (ht2, .inr (3, [.ref hs2, .ref ak2, .int (nI si_2), .int fi_2])), (ak2, .inl (cyI, 4, .inl kt_2)), (hs2, .inr (2, [.ref a0_2, .ref a1_2, .ref a2_2, .int (nI n_2), .int ea_2])), (a0_2, .inl (cyI, 24, .inl co_2)), (a1_2, .inl (cyI, 24, .inl ti_2)), (a2_2, .inl (cyI, 24, .inl an_2))] sz) := by
  refine Met.ofW (cc := cX5_restore) (maxL := 2) (ret := (some .int)) (by decide) rfl ?_
  intro p e s m args below meth c s₁ B hml hv
  obtain ⟨rfl, hsz, hP, hK, hN, hD0⟩ := hv
  have hx := B.exec
  have hb := B.bytes
  have hr := B.returns
  have hts := atoms_spec (ws := wsX5_restore) B.pre
  have hown : s.vm.findClass RX5 = some m.cls := findClass_of_methodNamed B.named
  have hlocks := B.notSynchronized
  subst hsz
  obtain ⟨A, hAe⟩ : ∃ A, A = va_A [(hkc, .inr (5, [.ref ht, .ref ht1, .ref ht2, .int kp, .ref hp, .ref htr, .ref hh, .ref as])), (ht, .inr (3, [.ref hs, .ref ak, .int (nI si), .int fi])), (ak, .inl (cyI, 4, .inl kt)), (hs, .inr (2, [.ref a0, .ref a1, .ref a2, .int (nI n), .int ea])), (a0, .inl (cyI, 24, .inl co)), (a1, .inl (cyI, 24, .inl ti)), (a2, .inl (cyI, 24, .inl an)), (ht1, .inr (3, [.ref hs1, .ref ak1, .int (nI si_1), .int fi_1])), (ak1, .inl (cyI, 4, .inl kt_1)), (hs1, .inr (2, [.ref a0_1, .ref a1_1, .ref a2_1, .int (nI n_1), .int ea_1])), (a0_1, .inl (cyI, 24, .inl co_1)), (a1_1, .inl (cyI, 24, .inl ti_1)), (a2_1, .inl (cyI, 24, .inl an_1)), (ht2, .inr (3, [.ref hs2, .ref ak2, .int (nI si_2), .int fi_2])), (ak2, .inl (cyI, 4, .inl kt_2)), (hs2, .inr (2, [.ref a0_2, .ref a1_2, .ref a2_2, .int (nI n_2), .int ea_2])), (a0_2, .inl (cyI, 24, .inl co_2)), (a1_2, .inl (cyI, 24, .inl ti_2)), (a2_2, .inl (cyI, 24, .inl an_2))] s.heap.size := ⟨_, rfl⟩
  have hD : va_D A [(hkc, .inr (5, [.ref ht, .ref ht1, .ref ht2, .int kp, .ref hp, .ref htr, .ref hh, .ref as])), (ht, .inr (3, [.ref hs, .ref ak, .int (nI si), .int fi])), (ak, .inl (cyI, 4, .inl kt)), (hs, .inr (2, [.ref a0, .ref a1, .ref a2, .int (nI n), .int ea])), (a0, .inl (cyI, 24, .inl co)), (a1, .inl (cyI, 24, .inl ti)), (a2, .inl (cyI, 24, .inl an)), (ht1, .inr (3, [.ref hs1, .ref ak1, .int (nI si_1), .int fi_1])), (ak1, .inl (cyI, 4, .inl kt_1)), (hs1, .inr (2, [.ref a0_1, .ref a1_1, .ref a2_1, .int (nI n_1), .int ea_1])), (a0_1, .inl (cyI, 24, .inl co_1)), (a1_1, .inl (cyI, 24, .inl ti_1)), (a2_1, .inl (cyI, 24, .inl an_1)), (ht2, .inr (3, [.ref hs2, .ref ak2, .int (nI si_2), .int fi_2])), (ak2, .inl (cyI, 4, .inl kt_2)), (hs2, .inr (2, [.ref a0_2, .ref a1_2, .ref a2_2, .int (nI n_2), .int ea_2])), (a0_2, .inl (cyI, 24, .inl co_2)), (a1_2, .inl (cyI, 24, .inl ti_2)), (a2_2, .inl (cyI, 24, .inl an_2))] := by rw [hAe]; exact hD0.self
  have hA : ∀ q : Nat, s.heap.size ≤ q → A q := fun q h => by rw [hAe]; exact Or.inr h
  have hS : va_S A s.heap s.heap [] := va_S.rf
  have hiX5 : ∀ w ∈ wsX50, w ∈ wsX5_restore := by decide +kernel
  have fl10 := hts (.fieldLink RX5 10 "KnitChronicle" "town" "LKnitChronicle$Town;") (by decide +kernel)
  have fl172 := hts (.fieldLink RX5 172 "KnitChronicle" "keptImages" "I") (by decide +kernel)
  have hl := lv_entry ([.ref hkc, .int kn]) (n := 2) (Nat.le_of_ble_eq_true rfl)
  rw [lg_entry_eq]
  generalize (lg_sl ([.ref hkc, .int kn]) ++ List.replicate (2 - (lg_sl ([.ref hkc, .int kn])).length) Slot.unset).toArray = ls at hl ⊢
  have hl : lv_has ls 2 [(0, .ref hkc), (1, .int kn)] := hl
  unfold fX5_restore at hF
  refine lv_iload_n hx hb dX5_restore_0 rfl (lv_at hl 1 rfl) ?_
  refine lv_iconst (v := (2 : Int32)) hx hb dX5_restore_1 (by decide) ?_
  refine kx_cS (As := [.int kn, .int (2 : Int32)]) (rest := []) ⟨hx, hb, hml, hown, hts⟩ (c_X5_isBelow l dC dI cyI cyZ  kn (2 : Int32)  _ rfl) (va_cwS 2 hts gX5_restore_X5_isBelow rfl rfl rfl (by decide +kernel) ⟨Nat.le_of_ble_eq_true rfl, Nat.le_of_ble_eq_true rfl⟩) hP hK hN [] rfl [0, 1] rfl rfl hl.1 rfl (Nat.le_of_ble_eq_true rfl) dX5_restore_2 ⟨Nat.zero_le _, Nat.zero_le _⟩ ?_
  refine lv_if_ne (tgt := 11) hx hb dX5_restore_5 (by decide) (fun c5 => ?_) (fun c5 => ?_)
  · rw [if_neg c5] at hF
    refine lv_aload_n hx hb dX5_restore_11 rfl (lv_at hl 0 rfl) ?_
    refine va_get (D := (dC, dI)) (ci := 5) (v := .int kp) (C := RX5) (T := TX5) (N := 8) hx hb hts hiX5 hown hK hP 0 rfl rfl 3 (by decide) fl172 (fun _ h9 => h9) rfl dX5_restore_12 ?_
    refine lv_iload_n hx hb dX5_restore_15 rfl (lv_at hl 1 rfl) ?_
    refine kx_cS (As := [.int kp, .int kn]) (rest := []) ⟨hx, hb, hml, hown, hts⟩ (c_X5_isIn l dC dI cyI cyZ  kp kn  _ rfl) (va_cwS 2 hts gX5_restore_X5_isIn rfl rfl rfl (by decide +kernel) ⟨Nat.le_of_ble_eq_true rfl, Nat.le_of_ble_eq_true rfl⟩) hP hK hN [] rfl [0, 1] rfl rfl hl.1 rfl (Nat.le_of_ble_eq_true rfl) dX5_restore_16 ⟨Nat.zero_le _, Nat.zero_le _⟩ ?_
    refine lv_if_ne (tgt := 25) hx hb dX5_restore_19 (by decide) (fun c19 => ?_) (fun c19 => ?_)
    · rw [if_neg c19] at hF
      refine lv_aload_n hx hb dX5_restore_25 rfl (lv_at hl 0 rfl) ?_
      refine va_get (D := (dC, dI)) (ci := 5) (v := .ref ht) (C := RX5) (T := TX5) (N := 8) hx hb hts hiX5 hown hK hP 0 rfl rfl 0 (by decide) fl10 (fun _ h9 => h9) rfl dX5_restore_26 ?_
      refine lv_aload_n hx hb dX5_restore_29 rfl (lv_at hl 0 rfl) ?_
      refine lv_iload_n hx hb dX5_restore_30 rfl (lv_at hl 1 rfl) ?_
      by_cases c31 : kn = 0
      · rw [if_pos c31] at hF
        refine kx_cV (As := [.int kn]) (rest := [.ref ht]) ⟨hx, hb, hml, hown, hts⟩ (c_X5_imageAt_0 l dC dI cyI cyZ hkc ht ht1 ht2 hp htr hh as kp kn c31 ht1 rfl) (cwV 1 hts gX5_restore_X5_imageAt rfl rfl rfl (by decide +kernel) ⟨Nat.le_of_ble_eq_true rfl, Nat.le_of_ble_eq_true rfl⟩) hP hK hN [0] rfl [0, 1] rfl 5 0 rfl rfl rfl rfl hl.1 rfl (Nat.le_of_ble_eq_true rfl) dX5_restore_31 ⟨Nat.zero_le _, Nat.zero_le _⟩ ?_
        generalize hq34 : fX3_copy kt co ti an si_1 fi_1 kt_1 n_1 ea_1 co_1 ti_1 an_1 = q34 at hF
        obtain ⟨q34a, q34b, q34c, q34d, q34e, q34f, q34g, q34h⟩ := q34
        dsimp only at hF
        refine kx_wVv (As := [.ref ht1]) (rest := []) (wr := [(hkc, .inr (5, [.ref ht, .ref ht1, .ref ht2, .int kp, .ref hp, .ref htr, .ref hh, .ref as])), (ht2, .inr (3, [.ref hs2, .ref ak2, .int (nI si_2), .int fi_2])), (ak2, .inl (cyI, 4, .inl kt_2)), (hs2, .inr (2, [.ref a0_2, .ref a1_2, .ref a2_2, .int (nI n_2), .int ea_2])), (a0_2, .inl (cyI, 24, .inl co_2)), (a1_2, .inl (cyI, 24, .inl ti_2)), (a2_2, .inl (cyI, 24, .inl an_2))]) (wc' := [(ht, .inr (3, [.ref hs, .ref ak, .int (nI q34g), .int q34h])), (ak, .inl (cyI, 4, .inl q34f)), (hs, .inr (2, [.ref a0, .ref a1, .ref a2, .int (nI q34d), .int q34e])), (a0, .inl (cyI, 24, .inl q34a)), (a1, .inl (cyI, 24, .inl q34b)), (a2, .inl (cyI, 24, .inl q34c)), (ht1, .inr (3, [.ref hs1, .ref ak1, .int (nI si_1), .int fi_1])), (ak1, .inl (cyI, 4, .inl kt_1)), (hs1, .inr (2, [.ref a0_1, .ref a1_1, .ref a2_1, .int (nI n_1), .int ea_1])), (a0_1, .inl (cyI, 24, .inl co_1)), (a1_1, .inl (cyI, 24, .inl ti_1)), (a2_1, .inl (cyI, 24, .inl an_1))]) (W1 := [(hkc, .inr (5, [.ref ht, .ref ht1, .ref ht2, .int kp, .ref hp, .ref htr, .ref hh, .ref as])), (ht, .inr (3, [.ref hs, .ref ak, .int (nI q34g), .int q34h])), (ak, .inl (cyI, 4, .inl q34f)), (hs, .inr (2, [.ref a0, .ref a1, .ref a2, .int (nI q34d), .int q34e])), (a0, .inl (cyI, 24, .inl q34a)), (a1, .inl (cyI, 24, .inl q34b)), (a2, .inl (cyI, 24, .inl q34c)), (ht1, .inr (3, [.ref hs1, .ref ak1, .int (nI si_1), .int fi_1])), (ak1, .inl (cyI, 4, .inl kt_1)), (hs1, .inr (2, [.ref a0_1, .ref a1_1, .ref a2_1, .int (nI n_1), .int ea_1])), (a0_1, .inl (cyI, 24, .inl co_1)), (a1_1, .inl (cyI, 24, .inl ti_1)), (a2_1, .inl (cyI, 24, .inl an_1)), (ht2, .inr (3, [.ref hs2, .ref ak2, .int (nI si_2), .int fi_2])), (ak2, .inl (cyI, 4, .inl kt_2)), (hs2, .inr (2, [.ref a0_2, .ref a1_2, .ref a2_2, .int (nI n_2), .int ea_2])), (a0_2, .inl (cyI, 24, .inl co_2)), (a1_2, .inl (cyI, 24, .inl ti_2)), (a2_2, .inl (cyI, 24, .inl an_2))]) ⟨hx, hb, hml, hown, hts⟩ (c_X3_copy l dC dI cyI cyZ ht hs ak a0 a1 a2 ht1 hs1 ak1 a0_1 a1_1 a2_1 si fi kt n ea co ti an si_1 fi_1 kt_1 n_1 ea_1 co_1 ti_1 an_1 (by omega) _ _ hq34) (cwV 1 hts gX5_restore_X3_copy rfl rfl rfl (by decide +kernel) ⟨Nat.le_of_ble_eq_true rfl, Nat.le_of_ble_eq_true rfl⟩) hP hD hS hA hK hN [1, 2, 3, 4, 5, 6, 7, 8, 9, 10, 11, 12] [0, 13, 14, 15, 16, 17, 18] [0, 7, 8, 9, 10, 11, 12, 13, 14, 15, 16, 17, 18, 1, 2, 3, 4, 5, 6] rfl (by decide) rfl (by decide) (by decide) (by decide) rfl [0, 1] rfl 3 1 rfl rfl rfl rfl hl.1 rfl (Nat.le_of_ble_eq_true rfl) dX5_restore_34 ⟨Nat.zero_le _, Nat.zero_le _⟩ (fun H locs hP hD hS => ?_)
        refine lv_iconst (v := (1 : Int32)) hx hb dX5_restore_37 (by decide) ?_
        subst hF
        subst hAe
        exact W.iret hx hb hr (fun t ht _ => ⟨⟨_, (), rfl, rfl, by rw [ht]; exact hP, hD⟩, hS.F ht⟩) hS.2.2 dX5_restore_38
      · rw [if_neg c31] at hF
        refine kx_cV (As := [.int kn]) (rest := [.ref ht]) ⟨hx, hb, hml, hown, hts⟩ (c_X5_imageAt_1 l dC dI cyI cyZ hkc ht ht1 ht2 hp htr hh as kp kn c31 ht2 rfl) (cwV 1 hts gX5_restore_X5_imageAt rfl rfl rfl (by decide +kernel) ⟨Nat.le_of_ble_eq_true rfl, Nat.le_of_ble_eq_true rfl⟩) hP hK hN [0] rfl [0, 1] rfl 5 0 rfl rfl rfl rfl hl.1 rfl (Nat.le_of_ble_eq_true rfl) dX5_restore_31 ⟨Nat.zero_le _, Nat.zero_le _⟩ ?_
        generalize hq34 : fX3_copy kt co ti an si_2 fi_2 kt_2 n_2 ea_2 co_2 ti_2 an_2 = q34 at hF
        obtain ⟨q34a, q34b, q34c, q34d, q34e, q34f, q34g, q34h⟩ := q34
        dsimp only at hF
        refine kx_wVv (As := [.ref ht2]) (rest := []) (wr := [(hkc, .inr (5, [.ref ht, .ref ht1, .ref ht2, .int kp, .ref hp, .ref htr, .ref hh, .ref as])), (ht1, .inr (3, [.ref hs1, .ref ak1, .int (nI si_1), .int fi_1])), (ak1, .inl (cyI, 4, .inl kt_1)), (hs1, .inr (2, [.ref a0_1, .ref a1_1, .ref a2_1, .int (nI n_1), .int ea_1])), (a0_1, .inl (cyI, 24, .inl co_1)), (a1_1, .inl (cyI, 24, .inl ti_1)), (a2_1, .inl (cyI, 24, .inl an_1))]) (wc' := [(ht, .inr (3, [.ref hs, .ref ak, .int (nI q34g), .int q34h])), (ak, .inl (cyI, 4, .inl q34f)), (hs, .inr (2, [.ref a0, .ref a1, .ref a2, .int (nI q34d), .int q34e])), (a0, .inl (cyI, 24, .inl q34a)), (a1, .inl (cyI, 24, .inl q34b)), (a2, .inl (cyI, 24, .inl q34c)), (ht2, .inr (3, [.ref hs2, .ref ak2, .int (nI si_2), .int fi_2])), (ak2, .inl (cyI, 4, .inl kt_2)), (hs2, .inr (2, [.ref a0_2, .ref a1_2, .ref a2_2, .int (nI n_2), .int ea_2])), (a0_2, .inl (cyI, 24, .inl co_2)), (a1_2, .inl (cyI, 24, .inl ti_2)), (a2_2, .inl (cyI, 24, .inl an_2))]) (W1 := [(hkc, .inr (5, [.ref ht, .ref ht1, .ref ht2, .int kp, .ref hp, .ref htr, .ref hh, .ref as])), (ht, .inr (3, [.ref hs, .ref ak, .int (nI q34g), .int q34h])), (ak, .inl (cyI, 4, .inl q34f)), (hs, .inr (2, [.ref a0, .ref a1, .ref a2, .int (nI q34d), .int q34e])), (a0, .inl (cyI, 24, .inl q34a)), (a1, .inl (cyI, 24, .inl q34b)), (a2, .inl (cyI, 24, .inl q34c)), (ht1, .inr (3, [.ref hs1, .ref ak1, .int (nI si_1), .int fi_1])), (ak1, .inl (cyI, 4, .inl kt_1)), (hs1, .inr (2, [.ref a0_1, .ref a1_1, .ref a2_1, .int (nI n_1), .int ea_1])), (a0_1, .inl (cyI, 24, .inl co_1)), (a1_1, .inl (cyI, 24, .inl ti_1)), (a2_1, .inl (cyI, 24, .inl an_1)), (ht2, .inr (3, [.ref hs2, .ref ak2, .int (nI si_2), .int fi_2])), (ak2, .inl (cyI, 4, .inl kt_2)), (hs2, .inr (2, [.ref a0_2, .ref a1_2, .ref a2_2, .int (nI n_2), .int ea_2])), (a0_2, .inl (cyI, 24, .inl co_2)), (a1_2, .inl (cyI, 24, .inl ti_2)), (a2_2, .inl (cyI, 24, .inl an_2))]) ⟨hx, hb, hml, hown, hts⟩ (c_X3_copy l dC dI cyI cyZ ht hs ak a0 a1 a2 ht2 hs2 ak2 a0_2 a1_2 a2_2 si fi kt n ea co ti an si_2 fi_2 kt_2 n_2 ea_2 co_2 ti_2 an_2 (by omega) _ _ hq34) (cwV 1 hts gX5_restore_X3_copy rfl rfl rfl (by decide +kernel) ⟨Nat.le_of_ble_eq_true rfl, Nat.le_of_ble_eq_true rfl⟩) hP hD hS hA hK hN [1, 2, 3, 4, 5, 6, 13, 14, 15, 16, 17, 18] [0, 7, 8, 9, 10, 11, 12] [0, 7, 8, 9, 10, 11, 12, 1, 2, 3, 4, 5, 6, 13, 14, 15, 16, 17, 18] rfl (by decide) rfl (by decide) (by decide) (by decide) rfl [0, 1] rfl 3 1 rfl rfl rfl rfl hl.1 rfl (Nat.le_of_ble_eq_true rfl) dX5_restore_34 ⟨Nat.zero_le _, Nat.zero_le _⟩ (fun H locs hP hD hS => ?_)
        refine lv_iconst (v := (1 : Int32)) hx hb dX5_restore_37 (by decide) ?_
        subst hF
        subst hAe
        exact W.iret hx hb hr (fun t ht _ => ⟨⟨_, (), rfl, rfl, by rw [ht]; exact hP, hD⟩, hS.F ht⟩) hS.2.2 dX5_restore_38
    · rw [if_pos c19] at hF
      refine lv_bipush (v := (-3 : Int32)) hx hb dX5_restore_22 (by decide) ?_
      subst hF
      subst hAe
      exact W.iret hx hb hr (fun t ht _ => ⟨⟨_, (), rfl, rfl, by rw [ht]; exact hP, hD⟩, hS.F ht⟩) hS.2.2 dX5_restore_24
  · rw [if_pos c5] at hF
    refine lv_bipush (v := (-2 : Int32)) hx hb dX5_restore_8 (by decide) ?_
    subst hF
    subst hAe
    exact W.iret hx hb hr (fun t ht _ => ⟨⟨_, (), rfl, rfl, by rw [ht]; exact hP, hD⟩, hS.F ht⟩) hS.2.2 dX5_restore_10

def fX5_toldOfStitch (n : Nat) (co : Nat → Int32) (ti : Nat → Int32) (an : Nat → Int32) (k : Int32) (wh : Int32) : Int32 :=
  (if (fX2_has n k) = 0 then (-2 : Int32) else (if (fX5_isBelow wh (3 : Int32)) = 0 then (-2 : Int32) else (fX2_trait co ti an k wh)))
set_option maxHeartbeats 4000000 in
set_option maxRecDepth 100000 in
theorem c_X5_toldOfStitch (l : Launch) (dC : Nat → ClassId) (dI : Nat → Nat → Nat) (cyI cyZ : ClassId) (hkc ht ht1 ht2 hp htr hh as hs ak a0 a1 a2 : Nat) (kp : Int32) (si : Nat) (fi : Int32) (n : Nat) (ea : Int32) (co : Nat → Int32) (ti : Nat → Int32) (an : Nat → Int32) (k : Int32) (wh : Int32) (r : Int32) (hF : fX5_toldOfStitch n co ti an k wh = r) : Met l yX5_toldOfStitch wsX5_toldOfStitch ({ frames := 2, cells := 0, slots := 0, locals := 44 }) (kx_rp (dC, dI) [(hkc, .inr (5, [.ref ht, .ref ht1, .ref ht2, .int kp, .ref hp, .ref htr, .ref hh, .ref as])), (ht, .inr (3, [.ref hs, .ref ak, .int (nI si), .int fi])), (hs, .inr (2, [.ref a0, .ref a1, .ref a2, .int (nI n), .int ea])), (a0, .inl (cyI, 24, .inl co)), (a1, .inl (cyI, 24, .inl ti)), (a2, .inl (cyI, 24, .inl an))] [(cyI, .int), (cyZ, .boolean)] [.ref hkc, .int k, .int wh]) (k2_QcV (.int r)) 0 0 (fun _ => False) := by
  refine Met.ofW (cc := cX5_toldOfStitch) (maxL := 3) (ret := (some .int)) (by decide) rfl ?_
  intro p e s m args below meth c s₁ B hml hv
  obtain ⟨rfl, hP, hK, hN⟩ := hv
  have hx := B.exec
  have hb := B.bytes
  have hr := B.returns
  have hts := atoms_spec (ws := wsX5_toldOfStitch) B.pre
  have hown : s.vm.findClass RX5 = some m.cls := findClass_of_methodNamed B.named
  have hlocks := B.notSynchronized
  have hiX3 : ∀ w ∈ wsX30, w ∈ wsX5_toldOfStitch := by decide +kernel
  have hiX5 : ∀ w ∈ wsX50, w ∈ wsX5_toldOfStitch := by decide +kernel
  have fl10 := hts (.fieldLink RX5 10 "KnitChronicle" "town" "LKnitChronicle$Town;") (by decide +kernel)
  have fl47 := hts (.fieldLink RX5 47 "KnitChronicle$Town" "scarf" "LKnitChronicle$Scarf;") (by decide +kernel)
  have hl := lv_entry ([.ref hkc, .int k, .int wh]) (n := 3) (Nat.le_of_ble_eq_true rfl)
  rw [lg_entry_eq]
  generalize (lg_sl ([.ref hkc, .int k, .int wh]) ++ List.replicate (3 - (lg_sl ([.ref hkc, .int k, .int wh])).length) Slot.unset).toArray = ls at hl ⊢
  have hl : lv_has ls 3 [(0, .ref hkc), (1, .int k), (2, .int wh)] := hl
  unfold fX5_toldOfStitch at hF
  refine lv_aload_n hx hb dX5_toldOfStitch_0 rfl (lv_at hl 0 rfl) ?_
  refine va_get (D := (dC, dI)) (ci := 5) (v := .ref ht) (C := RX5) (T := TX5) (N := 8) hx hb hts hiX5 hown hK hP 0 rfl rfl 0 (by decide) fl10 (fun _ h9 => h9) rfl dX5_toldOfStitch_1 ?_
  refine va_get (D := (dC, dI)) (ci := 3) (v := .ref hs) (C := RX3) (T := TX3) (N := 4) hx hb hts hiX3 hown hK hP 1 rfl rfl 0 (by decide) fl47 (fun _ h9 => h9) rfl dX5_toldOfStitch_4 ?_
  refine lv_iload_n hx hb dX5_toldOfStitch_7 rfl (lv_at hl 1 rfl) ?_
  refine kx_cV (As := [.int k]) (rest := []) ⟨hx, hb, hml, hown, hts⟩ (c_X2_has l dC dI cyI cyZ hs a0 a1 a2 n ea co ti an k  _ rfl) (cwV 1 hts gX5_toldOfStitch_X2_has rfl rfl rfl (by decide +kernel) ⟨Nat.le_of_ble_eq_true rfl, Nat.le_of_ble_eq_true rfl⟩) hP hK hN [2, 3, 4, 5] rfl [0, 1] rfl 2 2 rfl rfl rfl rfl hl.1 rfl (Nat.le_of_ble_eq_true rfl) dX5_toldOfStitch_8 ⟨Nat.zero_le _, Nat.zero_le _⟩ ?_
  refine lv_if_eq (tgt := 22) hx hb dX5_toldOfStitch_11 (by decide) (fun c11 => ?_) (fun c11 => ?_)
  · rw [if_pos c11] at hF
    refine lv_bipush (v := (-2 : Int32)) hx hb dX5_toldOfStitch_22 (by decide) ?_
    exact W.iret hx hb hr (fun t ht _ => ⟨congrArg (fun z => Outcome.returned (some (Value.int z))) hF, ht⟩) (fun _ h => absurd h List.not_mem_nil) dX5_toldOfStitch_24
  · rw [if_neg c11] at hF
    refine lv_iload_n hx hb dX5_toldOfStitch_14 rfl (lv_at hl 2 rfl) ?_
    refine lv_iconst (v := (3 : Int32)) hx hb dX5_toldOfStitch_15 (by decide) ?_
    refine kx_cS (As := [.int wh, .int (3 : Int32)]) (rest := []) ⟨hx, hb, hml, hown, hts⟩ (c_X5_isBelow l dC dI cyI cyZ  wh (3 : Int32)  _ rfl) (va_cwS 2 hts gX5_toldOfStitch_X5_isBelow rfl rfl rfl (by decide +kernel) ⟨Nat.le_of_ble_eq_true rfl, Nat.le_of_ble_eq_true rfl⟩) hP hK hN [] rfl [0, 1] rfl rfl hl.1 rfl (Nat.le_of_ble_eq_true rfl) dX5_toldOfStitch_16 ⟨Nat.zero_le _, Nat.zero_le _⟩ ?_
    refine lv_if_ne (tgt := 25) hx hb dX5_toldOfStitch_19 (by decide) (fun c19 => ?_) (fun c19 => ?_)
    · rw [if_neg c19] at hF
      refine lv_aload_n hx hb dX5_toldOfStitch_25 rfl (lv_at hl 0 rfl) ?_
      refine va_get (D := (dC, dI)) (ci := 5) (v := .ref ht) (C := RX5) (T := TX5) (N := 8) hx hb hts hiX5 hown hK hP 0 rfl rfl 0 (by decide) fl10 (fun _ h9 => h9) rfl dX5_toldOfStitch_26 ?_
      refine va_get (D := (dC, dI)) (ci := 3) (v := .ref hs) (C := RX3) (T := TX3) (N := 4) hx hb hts hiX3 hown hK hP 1 rfl rfl 0 (by decide) fl47 (fun _ h9 => h9) rfl dX5_toldOfStitch_29 ?_
      refine lv_iload_n hx hb dX5_toldOfStitch_32 rfl (lv_at hl 1 rfl) ?_
      refine lv_iload_n hx hb dX5_toldOfStitch_33 rfl (lv_at hl 2 rfl) ?_
      refine kx_cV (As := [.int k, .int wh]) (rest := []) ⟨hx, hb, hml, hown, hts⟩ (c_X2_trait l dC dI cyI cyZ hs a0 a1 a2 n ea co ti an k wh  _ rfl) (cwV 2 hts gX5_toldOfStitch_X2_trait rfl rfl rfl (by decide +kernel) ⟨Nat.le_of_ble_eq_true rfl, Nat.le_of_ble_eq_true rfl⟩) hP hK hN [2, 3, 4, 5] rfl [0, 1] rfl 2 2 rfl rfl rfl rfl hl.1 rfl (Nat.le_of_ble_eq_true rfl) dX5_toldOfStitch_34 ⟨Nat.zero_le _, Nat.zero_le _⟩ ?_
      exact W.iret hx hb hr (fun t ht _ => ⟨congrArg (fun z => Outcome.returned (some (Value.int z))) hF, ht⟩) (fun _ h => absurd h List.not_mem_nil) dX5_toldOfStitch_37
    · rw [if_pos c19] at hF
      refine lv_bipush (v := (-2 : Int32)) hx hb dX5_toldOfStitch_22 (by decide) ?_
      exact W.iret hx hb hr (fun t ht _ => ⟨congrArg (fun z => Outcome.returned (some (Value.int z))) hF, ht⟩) (fun _ h => absurd h List.not_mem_nil) dX5_toldOfStitch_24

def fX5_told (si : Nat) (kt : Nat → Int32) (n : Nat) (ea : Int32) (co : Nat → Int32) (ti : Nat → Int32) (an : Nat → Int32) (np : Nat) (wh : Int32) : Int32 :=
  (if wh < (100 : Int32) then (if (fX5_isBelow (wh - (10 : Int32)) (4 : Int32)) = 0 then (if wh = (0 : Int32) then (nI np) else (if wh = (1 : Int32) then (nI n) else (if wh = (2 : Int32) then ea else (if wh = (3 : Int32) then (nI si) else (if wh = (4 : Int32) then (fX2_looseOnes n ea an) else (-2 : Int32)))))) else (fX3_tightnessOf kt (wh - (10 : Int32)))) else (fX5_toldOfStitch n co ti an ((wh / (100 : Int32)) - (1 : Int32)) (wh - wh / (100 : Int32) * (100 : Int32))))
set_option maxHeartbeats 4000000 in
set_option maxRecDepth 100000 in
theorem c_X5_told (l : Launch) (dC : Nat → ClassId) (dI : Nat → Nat → Nat) (cyI cyZ : ClassId) (hkc ht ht1 ht2 hp htr hh as hs ak a0 a1 a2 ap : Nat) (kp : Int32) (si : Nat) (fi : Int32) (kt : Nat → Int32) (n : Nat) (ea : Int32) (co : Nat → Int32) (ti : Nat → Int32) (an : Nat → Int32) (np : Nat) (sg : Nat → Int32) (wh : Int32) (hn : n ≤ 24) (r : Int32) (hF : fX5_told si kt n ea co ti an np wh = r) : Met l yX5_told wsX5_told ({ frames := 3, cells := 0, slots := 0, locals := 66 }) (kx_rp (dC, dI) [(hkc, .inr (5, [.ref ht, .ref ht1, .ref ht2, .int kp, .ref hp, .ref htr, .ref hh, .ref as])), (ht, .inr (3, [.ref hs, .ref ak, .int (nI si), .int fi])), (ak, .inl (cyI, 4, .inl kt)), (hs, .inr (2, [.ref a0, .ref a1, .ref a2, .int (nI n), .int ea])), (a0, .inl (cyI, 24, .inl co)), (a1, .inl (cyI, 24, .inl ti)), (a2, .inl (cyI, 24, .inl an)), (hp, .inr (1, [.ref ap, .int (nI np)])), (ap, .inl (cyI, 60, .inl sg))] [(cyI, .int), (cyZ, .boolean)] [.ref hkc, .int wh]) (k2_QcV (.int r)) 0 0 (fun _ => False) := by
  refine Met.ofW (cc := cX5_told) (maxL := 2) (ret := (some .int)) (by decide) rfl ?_
  intro p e s m args below meth c s₁ B hml hv
  obtain ⟨rfl, hP, hK, hN⟩ := hv
  have hx := B.exec
  have hb := B.bytes
  have hr := B.returns
  have hts := atoms_spec (ws := wsX5_told) B.pre
  have hown : s.vm.findClass RX5 = some m.cls := findClass_of_methodNamed B.named
  have hlocks := B.notSynchronized
  have hiX1 : ∀ w ∈ wsX10, w ∈ wsX5_told := by decide +kernel
  have hiX2 : ∀ w ∈ wsX20, w ∈ wsX5_told := by decide +kernel
  have hiX3 : ∀ w ∈ wsX30, w ∈ wsX5_told := by decide +kernel
  have hiX5 : ∀ w ∈ wsX50, w ∈ wsX5_told := by decide +kernel
  have fl10 := hts (.fieldLink RX5 10 "KnitChronicle" "town" "LKnitChronicle$Town;") (by decide +kernel)
  have fl25 := hts (.fieldLink RX5 25 "KnitChronicle" "pad" "LKnitChronicle$Pad;") (by decide +kernel)
  have fl47 := hts (.fieldLink RX5 47 "KnitChronicle$Town" "scarf" "LKnitChronicle$Scarf;") (by decide +kernel)
  have fl69 := hts (.fieldLink RX5 69 "KnitChronicle$Scarf" "size" "I") (by decide +kernel)
  have fl87 := hts (.fieldLink RX5 87 "KnitChronicle$Pad" "length" "I") (by decide +kernel)
  have fl114 := hts (.fieldLink RX5 114 "KnitChronicle$Scarf" "eaten" "I") (by decide +kernel)
  have fl220 := hts (.fieldLink RX5 220 "KnitChronicle$Town" "sights" "I") (by decide +kernel)
  have hl := lv_entry ([.ref hkc, .int wh]) (n := 2) (Nat.le_of_ble_eq_true rfl)
  rw [lg_entry_eq]
  generalize (lg_sl ([.ref hkc, .int wh]) ++ List.replicate (2 - (lg_sl ([.ref hkc, .int wh])).length) Slot.unset).toArray = ls at hl ⊢
  have hl : lv_has ls 2 [(0, .ref hkc), (1, .int wh)] := hl
  unfold fX5_told at hF
  refine lv_iload_n hx hb dX5_told_0 rfl (lv_at hl 1 rfl) ?_
  refine lv_bipush (v := (100 : Int32)) hx hb dX5_told_1 (by decide) ?_
  refine lv_icmp_lt (tgt := 21) hx hb dX5_told_3 (by decide) (fun c3 => ?_) (fun c3 => ?_)
  · rw [if_pos c3] at hF
    refine lv_iload_n hx hb dX5_told_21 rfl (lv_at hl 1 rfl) ?_
    refine lv_bipush (v := (10 : Int32)) hx hb dX5_told_22 (by decide) ?_
    refine lv_isub hx hb dX5_told_24 ?_
    refine lv_iconst (v := (4 : Int32)) hx hb dX5_told_25 (by decide) ?_
    refine kx_cS (As := [.int (wh - (10 : Int32)), .int (4 : Int32)]) (rest := []) ⟨hx, hb, hml, hown, hts⟩ (c_X5_isBelow l dC dI cyI cyZ  (wh - (10 : Int32)) (4 : Int32)  _ rfl) (va_cwS 2 hts gX5_told_X5_isBelow rfl rfl rfl (by decide +kernel) ⟨Nat.le_of_ble_eq_true rfl, Nat.le_of_ble_eq_true rfl⟩) hP hK hN [] rfl [0, 1] rfl rfl hl.1 rfl (Nat.le_of_ble_eq_true rfl) dX5_told_26 ⟨Nat.zero_le _, Nat.zero_le _⟩ ?_
    refine lv_if_eq (tgt := 44) hx hb dX5_told_29 (by decide) (fun c29 => ?_) (fun c29 => ?_)
    · rw [if_pos c29] at hF
      refine lv_iload_n hx hb dX5_told_44 rfl (lv_at hl 1 rfl) ?_
      by_cases c45_0 : wh = (0 : Int32)
      · rw [if_pos c45_0] at hF
        refine lv_tableIn (tgt := 80) (off := 35) hx hb dX5_told_45 (by rw [c45_0]; decide) (by rw [c45_0]; decide) (by rw [c45_0]; rfl) (by decide) ?_
        refine lv_aload_n hx hb dX5_told_80 rfl (lv_at hl 0 rfl) ?_
        refine va_get (D := (dC, dI)) (ci := 5) (v := .ref hp) (C := RX5) (T := TX5) (N := 8) hx hb hts hiX5 hown hK hP 0 rfl rfl 4 (by decide) fl25 (fun _ h9 => h9) rfl dX5_told_81 ?_
        refine va_get (D := (dC, dI)) (ci := 1) (v := .int (nI np)) (C := RX1) (T := TX1) (N := 2) hx hb hts hiX1 hown hK hP 7 rfl rfl 1 (by decide) fl87 (fun _ h9 => h9) rfl dX5_told_84 ?_
        exact W.iret hx hb hr (fun t ht _ => ⟨congrArg (fun z => Outcome.returned (some (Value.int z))) hF, ht⟩) (fun _ h => absurd h List.not_mem_nil) dX5_told_87
      · rw [if_neg c45_0] at hF
        by_cases c45_1 : wh = (1 : Int32)
        · rw [if_pos c45_1] at hF
          refine lv_tableIn (tgt := 88) (off := 43) hx hb dX5_told_45 (by rw [c45_1]; decide) (by rw [c45_1]; decide) (by rw [c45_1]; rfl) (by decide) ?_
          refine lv_aload_n hx hb dX5_told_88 rfl (lv_at hl 0 rfl) ?_
          refine va_get (D := (dC, dI)) (ci := 5) (v := .ref ht) (C := RX5) (T := TX5) (N := 8) hx hb hts hiX5 hown hK hP 0 rfl rfl 0 (by decide) fl10 (fun _ h9 => h9) rfl dX5_told_89 ?_
          refine va_get (D := (dC, dI)) (ci := 3) (v := .ref hs) (C := RX3) (T := TX3) (N := 4) hx hb hts hiX3 hown hK hP 1 rfl rfl 0 (by decide) fl47 (fun _ h9 => h9) rfl dX5_told_92 ?_
          refine va_get (D := (dC, dI)) (ci := 2) (v := .int (nI n)) (C := RX2) (T := TX2) (N := 5) hx hb hts hiX2 hown hK hP 3 rfl rfl 3 (by decide) fl69 (fun _ h9 => h9) rfl dX5_told_95 ?_
          exact W.iret hx hb hr (fun t ht _ => ⟨congrArg (fun z => Outcome.returned (some (Value.int z))) hF, ht⟩) (fun _ h => absurd h List.not_mem_nil) dX5_told_98
        · rw [if_neg c45_1] at hF
          by_cases c45_2 : wh = (2 : Int32)
          · rw [if_pos c45_2] at hF
            refine lv_tableIn (tgt := 99) (off := 54) hx hb dX5_told_45 (by rw [c45_2]; decide) (by rw [c45_2]; decide) (by rw [c45_2]; rfl) (by decide) ?_
            refine lv_aload_n hx hb dX5_told_99 rfl (lv_at hl 0 rfl) ?_
            refine va_get (D := (dC, dI)) (ci := 5) (v := .ref ht) (C := RX5) (T := TX5) (N := 8) hx hb hts hiX5 hown hK hP 0 rfl rfl 0 (by decide) fl10 (fun _ h9 => h9) rfl dX5_told_100 ?_
            refine va_get (D := (dC, dI)) (ci := 3) (v := .ref hs) (C := RX3) (T := TX3) (N := 4) hx hb hts hiX3 hown hK hP 1 rfl rfl 0 (by decide) fl47 (fun _ h9 => h9) rfl dX5_told_103 ?_
            refine va_get (D := (dC, dI)) (ci := 2) (v := .int ea) (C := RX2) (T := TX2) (N := 5) hx hb hts hiX2 hown hK hP 3 rfl rfl 4 (by decide) fl114 (fun _ h9 => h9) rfl dX5_told_106 ?_
            exact W.iret hx hb hr (fun t ht _ => ⟨congrArg (fun z => Outcome.returned (some (Value.int z))) hF, ht⟩) (fun _ h => absurd h List.not_mem_nil) dX5_told_109
          · rw [if_neg c45_2] at hF
            by_cases c45_3 : wh = (3 : Int32)
            · rw [if_pos c45_3] at hF
              refine lv_tableIn (tgt := 110) (off := 65) hx hb dX5_told_45 (by rw [c45_3]; decide) (by rw [c45_3]; decide) (by rw [c45_3]; rfl) (by decide) ?_
              refine lv_aload_n hx hb dX5_told_110 rfl (lv_at hl 0 rfl) ?_
              refine va_get (D := (dC, dI)) (ci := 5) (v := .ref ht) (C := RX5) (T := TX5) (N := 8) hx hb hts hiX5 hown hK hP 0 rfl rfl 0 (by decide) fl10 (fun _ h9 => h9) rfl dX5_told_111 ?_
              refine va_get (D := (dC, dI)) (ci := 3) (v := .int (nI si)) (C := RX3) (T := TX3) (N := 4) hx hb hts hiX3 hown hK hP 1 rfl rfl 2 (by decide) fl220 (fun _ h9 => h9) rfl dX5_told_114 ?_
              exact W.iret hx hb hr (fun t ht _ => ⟨congrArg (fun z => Outcome.returned (some (Value.int z))) hF, ht⟩) (fun _ h => absurd h List.not_mem_nil) dX5_told_117
            · rw [if_neg c45_3] at hF
              by_cases c45_4 : wh = (4 : Int32)
              · rw [if_pos c45_4] at hF
                refine lv_tableIn (tgt := 118) (off := 73) hx hb dX5_told_45 (by rw [c45_4]; decide) (by rw [c45_4]; decide) (by rw [c45_4]; rfl) (by decide) ?_
                refine lv_aload_n hx hb dX5_told_118 rfl (lv_at hl 0 rfl) ?_
                refine va_get (D := (dC, dI)) (ci := 5) (v := .ref ht) (C := RX5) (T := TX5) (N := 8) hx hb hts hiX5 hown hK hP 0 rfl rfl 0 (by decide) fl10 (fun _ h9 => h9) rfl dX5_told_119 ?_
                refine va_get (D := (dC, dI)) (ci := 3) (v := .ref hs) (C := RX3) (T := TX3) (N := 4) hx hb hts hiX3 hown hK hP 1 rfl rfl 0 (by decide) fl47 (fun _ h9 => h9) rfl dX5_told_122 ?_
                refine kx_cV (As := []) (rest := []) ⟨hx, hb, hml, hown, hts⟩ (c_X2_looseOnes l dC dI cyI cyZ hs a0 a1 a2 n ea co ti an (by omega) _ rfl) (cwV 0 hts gX5_told_X2_looseOnes rfl rfl rfl (by decide +kernel) ⟨Nat.le_of_ble_eq_true rfl, Nat.le_of_ble_eq_true rfl⟩) hP hK hN [3, 4, 5, 6] rfl [0, 1] rfl 2 3 rfl rfl rfl rfl hl.1 rfl (Nat.le_of_ble_eq_true rfl) dX5_told_125 ⟨Nat.zero_le _, Nat.zero_le _⟩ ?_
                exact W.iret hx hb hr (fun t ht _ => ⟨congrArg (fun z => Outcome.returned (some (Value.int z))) hF, ht⟩) (fun _ h => absurd h List.not_mem_nil) dX5_told_128
              · rw [if_neg c45_4] at hF
                refine lv_tableOut (tgt := 129) hx hb dX5_told_45 (by have q0 := lv_neT (k := (0 : Int32)) (a := 0) c45_0 rfl; have q1 := lv_neT (k := (1 : Int32)) (a := 1) c45_1 rfl; have q2 := lv_neT (k := (2 : Int32)) (a := 2) c45_2 rfl; have q3 := lv_neT (k := (3 : Int32)) (a := 3) c45_3 rfl; have q4 := lv_neT (k := (4 : Int32)) (a := 4) c45_4 rfl; omega) (by decide) ?_
                refine lv_bipush (v := (-2 : Int32)) hx hb dX5_told_129 (by decide) ?_
                exact W.iret hx hb hr (fun t ht _ => ⟨congrArg (fun z => Outcome.returned (some (Value.int z))) hF, ht⟩) (fun _ h => absurd h List.not_mem_nil) dX5_told_131
    · rw [if_neg c29] at hF
      refine lv_aload_n hx hb dX5_told_32 rfl (lv_at hl 0 rfl) ?_
      refine va_get (D := (dC, dI)) (ci := 5) (v := .ref ht) (C := RX5) (T := TX5) (N := 8) hx hb hts hiX5 hown hK hP 0 rfl rfl 0 (by decide) fl10 (fun _ h9 => h9) rfl dX5_told_33 ?_
      refine lv_iload_n hx hb dX5_told_36 rfl (lv_at hl 1 rfl) ?_
      refine lv_bipush (v := (10 : Int32)) hx hb dX5_told_37 (by decide) ?_
      refine lv_isub hx hb dX5_told_39 ?_
      refine kx_cV (As := [.int (wh - (10 : Int32))]) (rest := []) ⟨hx, hb, hml, hown, hts⟩ (c_X3_tightnessOf l dC dI cyI cyZ ht hs ak si fi kt (wh - (10 : Int32))  _ rfl) (cwV 1 hts gX5_told_X3_tightnessOf rfl rfl rfl (by decide +kernel) ⟨Nat.le_of_ble_eq_true rfl, Nat.le_of_ble_eq_true rfl⟩) hP hK hN [1, 2] rfl [0, 1] rfl 3 1 rfl rfl rfl rfl hl.1 rfl (Nat.le_of_ble_eq_true rfl) dX5_told_40 ⟨Nat.zero_le _, Nat.zero_le _⟩ ?_
      exact W.iret hx hb hr (fun t ht _ => ⟨congrArg (fun z => Outcome.returned (some (Value.int z))) hF, ht⟩) (fun _ h => absurd h List.not_mem_nil) dX5_told_43
  · rw [if_neg c3] at hF
    refine lv_aload_n hx hb dX5_told_6 rfl (lv_at hl 0 rfl) ?_
    refine lv_iload_n hx hb dX5_told_7 rfl (lv_at hl 1 rfl) ?_
    refine lv_bipush (v := (100 : Int32)) hx hb dX5_told_8 (by decide) ?_
    refine lv_idiv hx hb dX5_told_10 (by decide) ?_
    refine lv_iconst (v := (1 : Int32)) hx hb dX5_told_11 (by decide) ?_
    refine lv_isub hx hb dX5_told_12 ?_
    refine lv_iload_n hx hb dX5_told_13 rfl (lv_at hl 1 rfl) ?_
    refine lv_bipush (v := (100 : Int32)) hx hb dX5_told_14 (by decide) ?_
    refine lv_irem hx hb dX5_told_16 (by decide) ?_
    refine kx_cV (As := [.int ((wh / (100 : Int32)) - (1 : Int32)), .int (wh - wh / (100 : Int32) * (100 : Int32))]) (rest := []) ⟨hx, hb, hml, hown, hts⟩ (c_X5_toldOfStitch l dC dI cyI cyZ hkc ht ht1 ht2 hp htr hh as hs ak a0 a1 a2 kp si fi n ea co ti an ((wh / (100 : Int32)) - (1 : Int32)) (wh - wh / (100 : Int32) * (100 : Int32))  _ rfl) (cwV 2 hts gX5_told_X5_toldOfStitch rfl rfl rfl (by decide +kernel) ⟨Nat.le_of_ble_eq_true rfl, Nat.le_of_ble_eq_true rfl⟩) hP hK hN [0, 1, 3, 4, 5, 6] rfl [0, 1] rfl 5 0 rfl rfl rfl rfl hl.1 rfl (Nat.le_of_ble_eq_true rfl) dX5_told_17 ⟨Nat.zero_le _, Nat.zero_le _⟩ ?_
    exact W.iret hx hb hr (fun t ht _ => ⟨congrArg (fun z => Outcome.returned (some (Value.int z))) hF, ht⟩) (fun _ h => absurd h List.not_mem_nil) dX5_told_20
