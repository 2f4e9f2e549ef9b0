def fX6_seen (sg : Nat) (sh : Nat → Int32) (kv : Int32) (my : Int32) : Int32 × (Nat → Int32) × Nat :=
  (if (fX6_in kv (0 : Int32) (9 : Int32)) = 0 then ((-2 : Int32), sh, sg) else (if sg = 8 then ((-4 : Int32), sh, sg) else (if my = 0 then ((nI (sg + 1)), (upd (upd sh (2 * sg) kv) (2 * sg + 1) (0 : Int32)), sg + 1) else ((nI (sg + 1)), (upd (upd sh (2 * sg) kv) (2 * sg + 1) (1 : Int32)), sg + 1))))
set_option maxHeartbeats 4000000 in
set_option maxRecDepth 100000 in
theorem c_X6_seen (l : Launch) (dC : Nat → ClassId) (dI : Nat → Nat → Nat) (cyI cyZ : ClassId) (hm mb mn mk ms mp mq mi mz ma mc : Nat) (sg : Nat) (sn : Nat) (ud : Int32) (rz : Int32) (az : Int32) (sh : Nat → Int32) (kv : Int32) (my : Int32) (hsg : sg ≤ 8) (sz : Nat) (r : Int32 × (Nat → Int32) × Nat) (hF : fX6_seen sg sh kv my = r) : Met l yX6_seen wsX6_seen ({ frames := 1, cells := 0, slots := 0, locals := 22 }) (kx_wp (dC, dI) [(hm, .inr (6, [.ref mb, .ref mn, .ref mk, .int (nI sg), .ref ms, .int (nI sn), .ref mp, .int ud, .ref mq, .int rz, .int az, .ref mi, .ref mz, .ref ma, .ref mc])), (ms, .inl (cyI, 16, .inl sh))] [(cyI, .int), (cyZ, .boolean)] sz [.ref hm, .int kv, .int my]) (kx_Qi r.1 (dC, dI) [(hm, .inr (6, [.ref mb, .ref mn, .ref mk, .int (nI sg), .ref ms, .int (nI sn), .ref mp, .int ud, .ref mq, .int rz, .int az, .ref mi, .ref mz, .ref ma, .ref mc])), (ms, .inl (cyI, 16, .inl sh))] [(hm, .inr (6, [.ref mb, .ref mn, .ref mk, .int (nI (r.2.2)), .ref ms, .int (nI sn), .ref mp, .int ud, .ref mq, .int rz, .int az, .ref mi, .ref mz, .ref ma, .ref mc])), (ms, .inl (cyI, 16, .inl r.2.1))] sz) 0 0 (va_A [(hm, .inr (6, [.ref mb, .ref mn, .ref mk, .int (nI sg), .ref ms, .int (nI sn), .ref mp, .int ud, .ref mq, .int rz, .int az, .ref mi, .ref mz, .ref ma, .ref mc])), (ms, .inl (cyI, 16, .inl sh))] sz) := by
  refine Met.ofW (cc := cX6_seen) (maxL := 3) (ret := (some .int)) (by decide) rfl ?_
  intro p e s m args below meth c s₁ B hml hv
  obtain ⟨rfl, hsz, hP, hK, hN, hD0⟩ := hv
  have hx := B.exec
  have hb := B.bytes
  have hr := B.returns
  have hts := atoms_spec (ws := wsX6_seen) B.pre
  have hown : s.vm.findClass RX6 = some m.cls := findClass_of_methodNamed B.named
  have hlocks := B.notSynchronized
  subst hsz
  obtain ⟨A, hAe⟩ : ∃ A, A = va_A [(hm, .inr (6, [.ref mb, .ref mn, .ref mk, .int (nI sg), .ref ms, .int (nI sn), .ref mp, .int ud, .ref mq, .int rz, .int az, .ref mi, .ref mz, .ref ma, .ref mc])), (ms, .inl (cyI, 16, .inl sh))] s.heap.size := ⟨_, rfl⟩
  have hD : va_D A [(hm, .inr (6, [.ref mb, .ref mn, .ref mk, .int (nI sg), .ref ms, .int (nI sn), .ref mp, .int ud, .ref mq, .int rz, .int az, .ref mi, .ref mz, .ref ma, .ref mc])), (ms, .inl (cyI, 16, .inl sh))] := by rw [hAe]; exact hD0.self
  have hA : ∀ q : Nat, s.heap.size ≤ q → A q := fun q h => by rw [hAe]; exact Or.inr h
  have hS : va_S A s.heap s.heap [] := va_S.rf
  have hiX6 : ∀ w ∈ wsX60, w ∈ wsX6_seen := by decide +kernel
  have fl19 := hts (.fieldLink RX6 19 "KnitChronicleModel" "sight" "[I") (by decide +kernel)
  have fl134 := hts (.fieldLink RX6 134 "KnitChronicleModel" "sights" "I") (by decide +kernel)
  have hl := lv_entry ([.ref hm, .int kv, .int my]) (n := 3) (Nat.le_of_ble_eq_true rfl)
  rw [lg_entry_eq]
  generalize (lg_sl ([.ref hm, .int kv, .int my]) ++ List.replicate (3 - (lg_sl ([.ref hm, .int kv, .int my])).length) Slot.unset).toArray = ls at hl ⊢
  have hl : lv_has ls 3 [(0, .ref hm), (1, .int kv), (2, .int my)] := hl
  unfold fX6_seen at hF
  refine lv_iload_n hx hb dX6_seen_0 rfl (lv_at hl 1 rfl) ?_
  refine lv_iconst (v := (0 : Int32)) hx hb dX6_seen_1 (by decide) ?_
  refine lv_bipush (v := (9 : Int32)) hx hb dX6_seen_2 (by decide) ?_
  refine kx_cS (As := [.int kv, .int (0 : Int32), .int (9 : Int32)]) (rest := []) ⟨hx, hb, hml, hown, hts⟩ (c_X6_in l dC dI cyI cyZ  kv (0 : Int32) (9 : Int32)  _ rfl) (va_cwS 3 hts gX6_seen_X6_in rfl rfl rfl (by decide +kernel) ⟨Nat.le_of_ble_eq_true rfl, Nat.le_of_ble_eq_true rfl⟩) hP hK hN [] rfl [0, 1] rfl rfl hl.1 rfl (Nat.le_of_ble_eq_true rfl) dX6_seen_4 ⟨Nat.zero_le _, Nat.zero_le _⟩ ?_
  refine lv_if_ne (tgt := 13) hx hb dX6_seen_7 (by decide) (fun c7 => ?_) (fun c7 => ?_)
  · rw [if_neg c7] at hF
    refine lv_aload_n hx hb dX6_seen_13 rfl (lv_at hl 0 rfl) ?_
    refine va_get (D := (dC, dI)) (ci := 6) (v := .int (nI sg)) (C := RX6) (T := TX6) (N := 15) hx hb hts hiX6 hown hK hP 0 rfl rfl 3 (by decide) fl134 (fun _ h9 => h9) rfl dX6_seen_14 ?_
    refine lv_bipush (v := (8 : Int32)) hx hb dX6_seen_17 (by decide) ?_
    refine kx_ne hx hb (sg) (8) rfl rfl (by omega) (by omega) dX6_seen_19 (by decide) (tgt := 25) (fun c19 => ?_) (fun c19 => ?_)
    · rw [if_neg c19] at hF
      refine lv_aload_n hx hb dX6_seen_25 rfl (lv_at hl 0 rfl) ?_
      refine va_get (D := (dC, dI)) (ci := 6) (v := .ref ms) (C := RX6) (T := TX6) (N := 15) hx hb hts hiX6 hown hK hP 0 rfl rfl 4 (by decide) fl19 (fun _ h9 => h9) rfl dX6_seen_26 ?_
      refine lv_iconst (v := (2 : Int32)) hx hb dX6_seen_29 (by decide) ?_
      refine lv_aload_n hx hb dX6_seen_30 rfl (lv_at hl 0 rfl) ?_
      refine va_get (D := (dC, dI)) (ci := 6) (v := .int (nI sg)) (C := RX6) (T := TX6) (N := 15) hx hb hts hiX6 hown hK hP 0 rfl rfl 3 (by decide) fl134 (fun _ h9 => h9) rfl dX6_seen_31 ?_
      refine lv_imul hx hb dX6_seen_34 ?_
      refine kx_e (pk_mul (2) (sg)) ?_
      refine lv_iload_n hx hb dX6_seen_35 rfl (lv_at hl 1 rfl) ?_
      refine kx_st hx hb hK hP hD hS 1 0 rfl rfl (2 * sg) rfl (by omega) (by decide) dX6_seen_36 (fun H locs hP hD hS => ?_)
      have hP : va_P (dC, dI) vwCl [(hm, .inr (6, [.ref mb, .ref mn, .ref mk, .int (nI sg), .ref ms, .int (nI sn), .ref mp, .int ud, .ref mq, .int rz, .int az, .ref mi, .ref mz, .ref ma, .ref mc])), (ms, .inl (cyI, 16, .inl (upd sh (2 * sg) kv)))] H := hP
      have hD : va_D A [(hm, .inr (6, [.ref mb, .ref mn, .ref mk, .int (nI sg), .ref ms, .int (nI sn), .ref mp, .int ud, .ref mq, .int rz, .int az, .ref mi, .ref mz, .ref ma, .ref mc])), (ms, .inl (cyI, 16, .inl (upd sh (2 * sg) kv)))] := hD
      refine lv_aload_n hx hb dX6_seen_37 rfl (lv_at hl 0 rfl) ?_
      refine va_get (D := (dC, dI)) (ci := 6) (v := .ref ms) (C := RX6) (T := TX6) (N := 15) hx hb hts hiX6 hown hK hP 0 rfl rfl 4 (by decide) fl19 (fun _ h9 => h9) rfl dX6_seen_38 ?_
      refine lv_iconst (v := (2 : Int32)) hx hb dX6_seen_41 (by decide) ?_
      refine lv_aload_n hx hb dX6_seen_42 rfl (lv_at hl 0 rfl) ?_
      refine va_get (D := (dC, dI)) (ci := 6) (v := .int (nI sg)) (C := RX6) (T := TX6) (N := 15) hx hb hts hiX6 hown hK hP 0 rfl rfl 3 (by decide) fl134 (fun _ h9 => h9) rfl dX6_seen_43 ?_
      refine lv_imul hx hb dX6_seen_46 ?_
      refine kx_e (pk_mul (2) (sg)) ?_
      refine lv_iconst (v := (1 : Int32)) hx hb dX6_seen_47 (by decide) ?_
      refine lv_iadd hx hb dX6_seen_48 ?_
      refine kx_e (nI_add (2 * sg) (1)) ?_
      refine lv_iload_n hx hb dX6_seen_49 rfl (lv_at hl 2 rfl) ?_
      refine lv_if_eq (tgt := 57) hx hb dX6_seen_50 (by decide) (fun c50 => ?_) (fun c50 => ?_)
      · rw [if_pos c50] at hF
        refine lv_iconst (v := (0 : Int32)) hx hb dX6_seen_57 (by decide) ?_
        refine kx_st hx hb hK hP hD hS 1 0 rfl rfl (2 * sg + 1) rfl (by omega) (by decide) dX6_seen_58 (fun H locs hP hD hS => ?_)
        have hP : va_P (dC, dI) vwCl [(hm, .inr (6, [.ref mb, .ref mn, .ref mk, .int (nI sg), .ref ms, .int (nI sn), .ref mp, .int ud, .ref mq, .int rz, .int az, .ref mi, .ref mz, .ref ma, .ref mc])), (ms, .inl (cyI, 16, .inl (upd (upd sh (2 * sg) kv) (2 * sg + 1) (0 : Int32))))] H := hP
        have hD : va_D A [(hm, .inr (6, [.ref mb, .ref mn, .ref mk, .int (nI sg), .ref ms, .int (nI sn), .ref mp, .int ud, .ref mq, .int rz, .int az, .ref mi, .ref mz, .ref ma, .ref mc])), (ms, .inl (cyI, 16, .inl (upd (upd sh (2 * sg) kv) (2 * sg + 1) (0 : Int32))))] := hD
        refine lv_aload_n hx hb dX6_seen_59 rfl (lv_at hl 0 rfl) ?_
        refine lv_dup hx hb dX6_seen_60 rfl ?_
        refine va_get (D := (dC, dI)) (ci := 6) (v := .int (nI sg)) (C := RX6) (T := TX6) (N := 15) hx hb hts hiX6 hown hK hP 0 rfl rfl 3 (by decide) fl134 (fun _ h9 => h9) rfl dX6_seen_61 ?_
        refine lv_iconst (v := (1 : Int32)) hx hb dX6_seen_64 (by decide) ?_
        refine lv_iadd hx hb dX6_seen_65 ?_
        refine kx_e (nI_add (sg) (1)) ?_
        refine va_put (D := (dC, dI)) (ci := 6) (v := .int (nI (sg + 1))) (ty := .int) (C := RX6) (T := TX6) (N := 15) hx hb hts hiX6 tyX6 tyX6_ok nmX6 hown hK hP hD hS 0 rfl rfl 3 (by decide) fl134 (fun _ h9 => h9) rfl (by decide +kernel) rfl rfl (Nat.le_of_ble_eq_true rfl) dX6_seen_66 (fun H locs hP hD hS => ?_)
        have hP : va_P (dC, dI) vwCl [(hm, .inr (6, [.ref mb, .ref mn, .ref mk, .int (nI (sg + 1)), .ref ms, .int (nI sn), .ref mp, .int ud, .ref mq, .int rz, .int az, .ref mi, .ref mz, .ref ma, .ref mc])), (ms, .inl (cyI, 16, .inl (upd (upd sh (2 * sg) kv) (2 * sg + 1) (0 : Int32))))] H := hP
        have hD : va_D A [(hm, .inr (6, [.ref mb, .ref mn, .ref mk, .int (nI (sg + 1)), .ref ms, .int (nI sn), .ref mp, .int ud, .ref mq, .int rz, .int az, .ref mi, .ref mz, .ref ma, .ref mc])), (ms, .inl (cyI, 16, .inl (upd (upd sh (2 * sg) kv) (2 * sg + 1) (0 : Int32))))] := hD
        refine lv_aload_n hx hb dX6_seen_69 rfl (lv_at hl 0 rfl) ?_
        refine va_get (D := (dC, dI)) (ci := 6) (v := .int (nI (sg + 1))) (C := RX6) (T := TX6) (N := 15) hx hb hts hiX6 hown hK hP 0 rfl rfl 3 (by decide) fl134 (fun _ h9 => h9) rfl dX6_seen_70 ?_
        subst hF
        subst hAe
        exact W.iret hx hb hr (fun t ht _ => ⟨⟨_, (), rfl, rfl, by rw [ht]; exact hP, hD⟩, hS.F ht⟩) hS.2.2 dX6_seen_73
      · rw [if_neg c50] at hF
        refine lv_iconst (v := (1 : Int32)) hx hb dX6_seen_53 (by decide) ?_
        refine lv_goto (tgt := 58) hx hb dX6_seen_54 (by decide) ?_
        refine kx_st hx hb hK hP hD hS 1 0 rfl rfl (2 * sg + 1) rfl (by omega) (by decide) dX6_seen_58 (fun H locs hP hD hS => ?_)
        have hP : va_P (dC, dI) vwCl [(hm, .inr (6, [.ref mb, .ref mn, .ref mk, .int (nI sg), .ref ms, .int (nI sn), .ref mp, .int ud, .ref mq, .int rz, .int az, .ref mi, .ref mz, .ref ma, .ref mc])), (ms, .inl (cyI, 16, .inl (upd (upd sh (2 * sg) kv) (2 * sg + 1) (1 : Int32))))] H := hP
        have hD : va_D A [(hm, .inr (6, [.ref mb, .ref mn, .ref mk, .int (nI sg), .ref ms, .int (nI sn), .ref mp, .int ud, .ref mq, .int rz, .int az, .ref mi, .ref mz, .ref ma, .ref mc])), (ms, .inl (cyI, 16, .inl (upd (upd sh (2 * sg) kv) (2 * sg + 1) (1 : Int32))))] := hD
        refine lv_aload_n hx hb dX6_seen_59 rfl (lv_at hl 0 rfl) ?_
        refine lv_dup hx hb dX6_seen_60 rfl ?_
        refine va_get (D := (dC, dI)) (ci := 6) (v := .int (nI sg)) (C := RX6) (T := TX6) (N := 15) hx hb hts hiX6 hown hK hP 0 rfl rfl 3 (by decide) fl134 (fun _ h9 => h9) rfl dX6_seen_61 ?_
        refine lv_iconst (v := (1 : Int32)) hx hb dX6_seen_64 (by decide) ?_
        refine lv_iadd hx hb dX6_seen_65 ?_
        refine kx_e (nI_add (sg) (1)) ?_
        refine va_put (D := (dC, dI)) (ci := 6) (v := .int (nI (sg + 1))) (ty := .int) (C := RX6) (T := TX6) (N := 15) hx hb hts hiX6 tyX6 tyX6_ok nmX6 hown hK hP hD hS 0 rfl rfl 3 (by decide) fl134 (fun _ h9 => h9) rfl (by decide +kernel) rfl rfl (Nat.le_of_ble_eq_true rfl) dX6_seen_66 (fun H locs hP hD hS => ?_)
        have hP : va_P (dC, dI) vwCl [(hm, .inr (6, [.ref mb, .ref mn, .ref mk, .int (nI (sg + 1)), .ref ms, .int (nI sn), .ref mp, .int ud, .ref mq, .int rz, .int az, .ref mi, .ref mz, .ref ma, .ref mc])), (ms, .inl (cyI, 16, .inl (upd (upd sh (2 * sg) kv) (2 * sg + 1) (1 : Int32))))] H := hP
        have hD : va_D A [(hm, .inr (6, [.ref mb, .ref mn, .ref mk, .int (nI (sg + 1)), .ref ms, .int (nI sn), .ref mp, .int ud, .ref mq, .int rz, .int az, .ref mi, .ref mz, .ref ma, .ref mc])), (ms, .inl (cyI, 16, .inl (upd (upd sh (2 * sg) kv) (2 * sg + 1) (1 : Int32))))] := hD
        refine lv_aload_n hx hb dX6_seen_69 rfl (lv_at hl 0 rfl) ?_
        refine va_get (D := (dC, dI)) (ci := 6) (v := .int (nI (sg + 1))) (C := RX6) (T := TX6) (N := 15) hx hb hts hiX6 hown hK hP 0 rfl rfl 3 (by decide) fl134 (fun _ h9 => h9) rfl dX6_seen_70 ?_
        subst hF
        subst hAe
        exact W.iret hx hb hr (fun t ht _ => ⟨⟨_, (), rfl, rfl, by rw [ht]; exact hP, hD⟩, hS.F ht⟩) hS.2.2 dX6_seen_73
    · rw [if_pos c19] at hF
      refine lv_bipush (v := (-4 : Int32)) hx hb dX6_seen_22 (by decide) ?_
      subst hF
      subst hAe
      exact W.iret hx hb hr (fun t ht _ => ⟨⟨_, (), rfl, rfl, by rw [ht]; exact hP, hD⟩, hS.F ht⟩) hS.2.2 dX6_seen_24
  · rw [if_pos c7] at hF
    refine lv_bipush (v := (-2 : Int32)) hx hb dX6_seen_10 (by decide) ?_
    subst hF
    subst hAe
    exact W.iret hx hb hr (fun t ht _ => ⟨⟨_, (), rfl, rfl, by rw [ht]; exact hP, hD⟩, hS.F ht⟩) hS.2.2 dX6_seen_12

def fX6_forget (sg : Nat) : Int32 × Nat :=
  ((nI sg), 0)
set_option maxHeartbeats 4000000 in
set_option maxRecDepth 100000 in
theorem c_X6_forget (l : Launch) (dC : Nat → ClassId) (dI : Nat → Nat → Nat) (cyI cyZ : ClassId) (hm mb mn mk ms mp mq mi mz ma mc : Nat) (sg : Nat) (sn : Nat) (ud : Int32) (rz : Int32) (az : Int32) (sz : Nat) (r : Int32 × Nat) (hF : fX6_forget sg = r) : Met l yX6_forget wsX6_forget ({ frames := 0, cells := 0, slots := 0, locals := 0 }) (kx_wp (dC, dI) [(hm, .inr (6, [.ref mb, .ref mn, .ref mk, .int (nI sg), .ref ms, .int (nI sn), .ref mp, .int ud, .ref mq, .int rz, .int az, .ref mi, .ref mz, .ref ma, .ref mc]))] [(cyI, .int), (cyZ, .boolean)] sz [.ref hm]) (kx_Qi r.1 (dC, dI) [(hm, .inr (6, [.ref mb, .ref mn, .ref mk, .int (nI sg), .ref ms, .int (nI sn), .ref mp, .int ud, .ref mq, .int rz, .int az, .ref mi, .ref mz, .ref ma, .ref mc]))] [(hm, .inr (6, [.ref mb, .ref mn, .ref mk, .int (nI (r.2)), .ref ms, .int (nI sn), .ref mp, .int ud, .ref mq, .int rz, .int az, .ref mi, .ref mz, .ref ma, .ref mc]))] sz) 0 0 (va_A [(hm, .inr (6, [.ref mb, .ref mn, .ref mk, .int (nI sg), .ref ms, .int (nI sn), .ref mp, .int ud, .ref mq, .int rz, .int az, .ref mi, .ref mz, .ref ma, .ref mc]))] sz) := by
  refine Met.ofW (cc := cX6_forget) (maxL := 2) (ret := (some .int)) (by decide) rfl ?_
  intro p e s m args below meth c s₁ B hml hv
  obtain ⟨rfl, hsz, hP, hK, hN, hD0⟩ := hv
  have hx := B.exec
  have hb := B.bytes
  have hr := B.returns
  have hts := atoms_spec (ws := wsX6_forget) B.pre
  have hown : s.vm.findClass RX6 = some m.cls := findClass_of_methodNamed B.named
  have hlocks := B.notSynchronized
  subst hsz
  obtain ⟨A, hAe⟩ : ∃ A, A = va_A [(hm, .inr (6, [.ref mb, .ref mn, .ref mk, .int (nI sg), .ref ms, .int (nI sn), .ref mp, .int ud, .ref mq, .int rz, .int az, .ref mi, .ref mz, .ref ma, .ref mc]))] s.heap.size := ⟨_, rfl⟩
  have hD : va_D A [(hm, .inr (6, [.ref mb, .ref mn, .ref mk, .int (nI sg), .ref ms, .int (nI sn), .ref mp, .int ud, .ref mq, .int rz, .int az, .ref mi, .ref mz, .ref ma, .ref mc]))] := by rw [hAe]; exact hD0.self
  have hA : ∀ q : Nat, s.heap.size ≤ q → A q := fun q h => by rw [hAe]; exact Or.inr h
  have hS : va_S A s.heap s.heap [] := va_S.rf
  have hiX6 : ∀ w ∈ wsX60, w ∈ wsX6_forget := by decide +kernel
  have fl134 := hts (.fieldLink RX6 134 "KnitChronicleModel" "sights" "I") (by decide +kernel)
  have hl := lv_entry ([.ref hm]) (n := 2) (Nat.le_of_ble_eq_true rfl)
  rw [lg_entry_eq]
  generalize (lg_sl ([.ref hm]) ++ List.replicate (2 - (lg_sl ([.ref hm])).length) Slot.unset).toArray = ls at hl ⊢
  have hl : lv_has ls 2 [(0, .ref hm)] := hl
  unfold fX6_forget at hF
  refine lv_aload_n hx hb dX6_forget_0 rfl (lv_at hl 0 rfl) ?_
  refine va_get (D := (dC, dI)) (ci := 6) (v := .int (nI sg)) (C := RX6) (T := TX6) (N := 15) hx hb hts hiX6 hown hK hP 0 rfl rfl 3 (by decide) fl134 (fun _ h9 => h9) rfl dX6_forget_1 ?_
  refine lv_istore_n (lv' := [(1, .int (nI sg)), (0, .ref hm)]) hx hb dX6_forget_4 rfl hl (by decide) rfl (fun ls hl => ?_)
  refine lv_aload_n hx hb dX6_forget_5 rfl (lv_at hl 1 rfl) ?_
  refine lv_iconst (v := (0 : Int32)) hx hb dX6_forget_6 (by decide) ?_
  refine va_put (D := (dC, dI)) (ci := 6) (v := .int (0 : Int32)) (ty := .int) (C := RX6) (T := TX6) (N := 15) hx hb hts hiX6 tyX6 tyX6_ok nmX6 hown hK hP hD hS 0 rfl rfl 3 (by decide) fl134 (fun _ h9 => h9) rfl (by decide +kernel) rfl rfl (Nat.le_of_ble_eq_true rfl) dX6_forget_7 (fun H locs hP hD hS => ?_)
  have hP : va_P (dC, dI) vwCl [(hm, .inr (6, [.ref mb, .ref mn, .ref mk, .int (0 : Int32), .ref ms, .int (nI sn), .ref mp, .int ud, .ref mq, .int rz, .int az, .ref mi, .ref mz, .ref ma, .ref mc]))] H := hP
  have hD : va_D A [(hm, .inr (6, [.ref mb, .ref mn, .ref mk, .int (0 : Int32), .ref ms, .int (nI sn), .ref mp, .int ud, .ref mq, .int rz, .int az, .ref mi, .ref mz, .ref ma, .ref mc]))] := hD
  refine lv_iload_n hx hb dX6_forget_10 rfl (lv_at hl 0 rfl) ?_
  subst hF
  subst hAe
  exact W.iret hx hb hr (fun t ht _ => ⟨⟨_, (), rfl, rfl, by rw [ht]; exact hP, hD⟩, hS.F ht⟩) hS.2.2 dX6_forget_11

def fX6_tightSet_L15 (sh : Nat → Int32) (j4 : Nat) : Nat → Nat → Int32 → Int32
  | 0, _, ff => ff
  | r15 + 1, j15, ff => (if ff = 0 then (fX6_tightSet_L15 sh j4 r15 (j15 + 1) (0 : Int32)) else (if (sh (2 * j15 + 1)) = (1 : Int32) then (if (fX6_in ((nI j4) - (sh (2 * j15))) (-1 : Int32) (1 : Int32)) = (1 : Int32) then (fX6_tightSet_L15 sh j4 r15 (j15 + 1) (1 : Int32)) else (fX6_tightSet_L15 sh j4 r15 (j15 + 1) (0 : Int32))) else (if (fX6_in ((nI j4) - (sh (2 * j15))) (-1 : Int32) (1 : Int32)) = (0 : Int32) then (fX6_tightSet_L15 sh j4 r15 (j15 + 1) (1 : Int32)) else (fX6_tightSet_L15 sh j4 r15 (j15 + 1) (0 : Int32)))))
def fX6_tightSet_L4 (sg : Nat) (sh : Nat → Int32) : Nat → Nat → Int32 → Int32
  | 0, _, ts => ts
  | r4 + 1, j4, ts => ((fun (ff : Int32) => (if ff = 0 then (fX6_tightSet_L4 sg sh r4 (j4 + 1) (ts ||| (0 : Int32))) else (fX6_tightSet_L4 sg sh r4 (j4 + 1) (ts ||| ((1 : Int32) <<< ((nI j4) &&& 31)))))) (fX6_tightSet_L15 sh j4 sg 0 (1 : Int32)))
def fX6_tightSet (sg : Nat) (sh : Nat → Int32) : Int32 :=
  ((fun (ts : Int32) => ts) (fX6_tightSet_L4 sg sh 10 0 (0 : Int32)))
set_option maxHeartbeats 4000000 in
set_option maxRecDepth 100000 in
theorem c_X6_tightSet (l : Launch) (dC : Nat → ClassId) (dI : Nat → Nat → Nat) (cyI cyZ : ClassId) (hm mb mn mk ms mp mq mi mz ma mc : Nat) (sg : Nat) (sn : Nat) (ud : Int32) (rz : Int32) (az : Int32) (sh : Nat → Int32) (hsg : sg ≤ 8) (r : Int32) (hF : fX6_tightSet sg sh = r) : Met l yX6_tightSet wsX6_tightSet ({ frames := 1, cells := 0, slots := 0, locals := 22 }) (kx_rp (dC, dI) [(hm, .inr (6, [.ref mb, .ref mn, .ref mk, .int (nI sg), .ref ms, .int (nI sn), .ref mp, .int ud, .ref mq, .int rz, .int az, .ref mi, .ref mz, .ref ma, .ref mc])), (ms, .inl (cyI, 16, .inl sh))] [(cyI, .int), (cyZ, .boolean)] [.ref hm]) (k2_QcV (.int r)) 0 0 (fun _ => False) := by
  refine Met.ofW (cc := cX6_tightSet) (maxL := 5) (ret := (some .int)) (by decide) rfl ?_
  intro p e s m args below meth c s₁ B hml hv
  obtain ⟨rfl, hP, hK, hN⟩ := hv
  have hx := B.exec
  have hb := B.bytes
  have hr := B.returns
  have hts := atoms_spec (ws := wsX6_tightSet) B.pre
  have hown : s.vm.findClass RX6 = some m.cls := findClass_of_methodNamed B.named
  have hlocks := B.notSynchronized
  have hiX6 : ∀ w ∈ wsX60, w ∈ wsX6_tightSet := by decide +kernel
  have fl19 := hts (.fieldLink RX6 19 "KnitChronicleModel" "sight" "[I") (by decide +kernel)
  have fl134 := hts (.fieldLink RX6 134 "KnitChronicleModel" "sights" "I") (by decide +kernel)
  have hl := lv_entry ([.ref hm]) (n := 5) (Nat.le_of_ble_eq_true rfl)
  rw [lg_entry_eq]
  generalize (lg_sl ([.ref hm]) ++ List.replicate (5 - (lg_sl ([.ref hm])).length) Slot.unset).toArray = ls at hl ⊢
  have hl : lv_has ls 5 [(0, .ref hm)] := hl
  unfold fX6_tightSet at hF
  refine lv_iconst (v := (0 : Int32)) hx hb dX6_tightSet_0 (by decide) ?_
  refine lv_istore_n (lv' := [(1, .int (0 : Int32)), (0, .ref hm)]) hx hb dX6_tightSet_1 rfl hl (by decide) rfl (fun ls hl => ?_)
  refine lv_iconst (v := (0 : Int32)) hx hb dX6_tightSet_2 (by decide) ?_
  refine lv_istore_n (lv' := [(2, .int (0 : Int32)), (1, .int (0 : Int32)), (0, .ref hm)]) hx hb dX6_tightSet_3 rfl hl (by decide) rfl (fun ls hl => ?_)
  generalize hz4 : fX6_tightSet_L4 sg sh 10 0 (0 : Int32) = z4 at hF
  have LP4 : ∀ (r4 : Nat) (j4 : Nat) (ts : Int32), r4 + j4 = 10 → fX6_tightSet_L4 sg sh r4 j4 ts = z4 → ∀ (ls : Array Slot), lv_has ls 5 [(2, .int (nI j4)), (1, .int ts), (0, .ref hm)] → W p l e (headSpec wsX6_tightSet ({ frames := 1, cells := 0, slots := 0, locals := 22 } : Room)).room s m ([.ref hm] : List Value).toArray below meth c s.heap [] 0 0 (MQ below (k2_QcV (.int r)) ([.ref hm] : List Value).toArray s 0 0 (fun _ => False)) (F0 m 4 ls []) := by
    intro r4
    induction r4 with
    | zero =>
      intro j4 ts hrj hz4 ls hl
      rw [fX6_tightSet_L4] at hz4
      subst hz4
      try dsimp only at hF
      refine lv_iload_n hx hb dX6_tightSet_4 rfl (lv_at hl 0 rfl) ?_
      refine lv_bipush (v := (10 : Int32)) hx hb dX6_tightSet_5 (by decide) ?_
      refine kx_ge hx hb (j4) (10) rfl rfl (by omega) (by omega) dX6_tightSet_7 (by decide) (tgt := 99) (fun c7 => ?_) (fun c7 => absurd c7 (by omega))
      refine lv_iload_n hx hb dX6_tightSet_99 rfl (lv_at hl 1 rfl) ?_
      exact W.iret hx hb hr (fun t ht _ => ⟨congrArg (fun z => Outcome.returned (some (Value.int z))) hF, ht⟩) (fun _ h => absurd h List.not_mem_nil) dX6_tightSet_100
    | succ r4 ih =>
      intro j4 ts hrj hz4 ls hl
      rw [fX6_tightSet_L4] at hz4
      refine lv_iload_n hx hb dX6_tightSet_4 rfl (lv_at hl 0 rfl) ?_
      refine lv_bipush (v := (10 : Int32)) hx hb dX6_tightSet_5 (by decide) ?_
      refine kx_ge hx hb (j4) (10) rfl rfl (by omega) (by omega) dX6_tightSet_7 (by decide) (tgt := 99) (fun c7 => absurd c7 (by omega)) (fun c7 => ?_)
      refine lv_iconst (v := (1 : Int32)) hx hb dX6_tightSet_10 (by decide) ?_
      refine lv_istore_n (lv' := [(3, .int (1 : Int32)), (2, .int (nI j4)), (1, .int ts), (0, .ref hm)]) hx hb dX6_tightSet_11 rfl hl (by decide) rfl (fun ls hl => ?_)
      refine lv_iconst (v := (0 : Int32)) hx hb dX6_tightSet_12 (by decide) ?_
      refine lv_istore (lv' := [(4, .int (0 : Int32)), (3, .int (1 : Int32)), (2, .int (nI j4)), (1, .int ts), (0, .ref hm)]) hx hb dX6_tightSet_13 hl (by decide) rfl (fun ls hl => ?_)
      generalize hz15 : fX6_tightSet_L15 sh j4 sg 0 (1 : Int32) = z15 at hz4
      have LP15 : ∀ (r15 : Nat) (j15 : Nat) (ff : Int32), r15 + j15 = sg → fX6_tightSet_L15 sh j4 r15 j15 ff = z15 → ∀ (ls : Array Slot), lv_has ls 5 [(4, .int (nI j15)), (3, .int ff), (2, .int (nI j4)), (1, .int ts), (0, .ref hm)] → W p l e (headSpec wsX6_tightSet ({ frames := 1, cells := 0, slots := 0, locals := 22 } : Room)).room s m ([.ref hm] : List Value).toArray below meth c s.heap [] 0 0 (MQ below (k2_QcV (.int r)) ([.ref hm] : List Value).toArray s 0 0 (fun _ => False)) (F0 m 15 ls []) := by
        intro r15
        induction r15 with
        | zero =>
          intro j15 ff hrj hz15 ls hl
          rw [fX6_tightSet_L15] at hz15
          subst hz15
          try dsimp only at hz4
          refine lv_iload hx hb dX6_tightSet_15 (lv_at hl 0 rfl) ?_
          refine lv_aload_n hx hb dX6_tightSet_17 rfl (lv_at hl 4 rfl) ?_
          refine va_get (D := (dC, dI)) (ci := 6) (v := .int (nI sg)) (C := RX6) (T := TX6) (N := 15) hx hb hts hiX6 hown hK hP 0 rfl rfl 3 (by decide) fl134 (fun _ h9 => h9) rfl dX6_tightSet_18 ?_
          refine kx_ge hx hb (j15) (sg) rfl rfl (by omega) (by omega) dX6_tightSet_21 (by decide) (tgt := 79) (fun c21 => ?_) (fun c21 => absurd c21 (by omega))
          refine lv_iload_n hx hb dX6_tightSet_79 rfl (lv_at hl 3 rfl) ?_
          refine lv_iload_n hx hb dX6_tightSet_80 rfl (lv_at hl 1 rfl) ?_
          refine lv_if_eq (tgt := 90) hx hb dX6_tightSet_81 (by decide) (fun c81 => ?_) (fun c81 => ?_)
          · rw [if_pos c81] at hz4
            refine lv_iconst (v := (0 : Int32)) hx hb dX6_tightSet_90 (by decide) ?_
            refine lv_ior hx hb dX6_tightSet_91 ?_
            refine lv_istore_n (lv' := [(1, .int (ts ||| (0 : Int32))), (4, .int (nI j15)), (3, .int ff), (2, .int (nI j4)), (0, .ref hm)]) hx hb dX6_tightSet_92 rfl hl (by decide) rfl (fun ls hl => ?_)
            refine lv_iinc (v := (nI (j4 + 1))) (lv' := [(2, .int (nI (j4 + 1))), (1, .int (ts ||| (0 : Int32))), (4, .int (nI j15)), (3, .int ff), (0, .ref hm)]) hx hb dX6_tightSet_93 hl (k := 3) rfl (by exact nI_add (j4) 1) (by decide) rfl (fun ls hl => ?_)
            refine lv_goto (tgt := 4) hx hb dX6_tightSet_96 (by decide) ?_
            exact ih (j4 + 1) (ts ||| (0 : Int32)) (by omega)  hz4 _ (lv_sub hl [0, 1, 4] rfl)
          · rw [if_neg c81] at hz4
            refine lv_iconst (v := (1 : Int32)) hx hb dX6_tightSet_84 (by decide) ?_
            refine lv_iload_n hx hb dX6_tightSet_85 rfl (lv_at hl 2 rfl) ?_
            refine lv_ishl hx hb dX6_tightSet_86 ?_
            refine lv_goto (tgt := 91) hx hb dX6_tightSet_87 (by decide) ?_
            refine lv_ior hx hb dX6_tightSet_91 ?_
            refine lv_istore_n (lv' := [(1, .int (ts ||| ((1 : Int32) <<< ((nI j4) &&& 31)))), (4, .int (nI j15)), (3, .int ff), (2, .int (nI j4)), (0, .ref hm)]) hx hb dX6_tightSet_92 rfl hl (by decide) rfl (fun ls hl => ?_)
            refine lv_iinc (v := (nI (j4 + 1))) (lv' := [(2, .int (nI (j4 + 1))), (1, .int (ts ||| ((1 : Int32) <<< ((nI j4) &&& 31)))), (4, .int (nI j15)), (3, .int ff), (0, .ref hm)]) hx hb dX6_tightSet_93 hl (k := 3) rfl (by exact nI_add (j4) 1) (by decide) rfl (fun ls hl => ?_)
            refine lv_goto (tgt := 4) hx hb dX6_tightSet_96 (by decide) ?_
            exact ih (j4 + 1) (ts ||| ((1 : Int32) <<< ((nI j4) &&& 31))) (by omega)  hz4 _ (lv_sub hl [0, 1, 4] rfl)
        | succ r15 ih =>
          intro j15 ff hrj hz15 ls hl
          rw [fX6_tightSet_L15] at hz15
          refine lv_iload hx hb dX6_tightSet_15 (lv_at hl 0 rfl) ?_
          refine lv_aload_n hx hb dX6_tightSet_17 rfl (lv_at hl 4 rfl) ?_
          refine va_get (D := (dC, dI)) (ci := 6) (v := .int (nI sg)) (C := RX6) (T := TX6) (N := 15) hx hb hts hiX6 hown hK hP 0 rfl rfl 3 (by decide) fl134 (fun _ h9 => h9) rfl dX6_tightSet_18 ?_
          refine kx_ge hx hb (j15) (sg) rfl rfl (by omega) (by omega) dX6_tightSet_21 (by decide) (tgt := 79) (fun c21 => absurd c21 (by omega)) (fun c21 => ?_)
          refine lv_iload_n hx hb dX6_tightSet_24 rfl (lv_at hl 1 rfl) ?_
          refine lv_if_eq (tgt := 71) hx hb dX6_tightSet_25 (by decide) (fun c25 => ?_) (fun c25 => ?_)
          · rw [if_pos c25] at hz15
            refine lv_iconst (v := (0 : Int32)) hx hb dX6_tightSet_71 (by decide) ?_
            refine lv_istore_n (lv' := [(3, .int (0 : Int32)), (4, .int (nI j15)), (2, .int (nI j4)), (1, .int ts), (0, .ref hm)]) hx hb dX6_tightSet_72 rfl hl (by decide) rfl (fun ls hl => ?_)
            refine lv_iinc (v := (nI (j15 + 1))) (lv' := [(4, .int (nI (j15 + 1))), (3, .int (0 : Int32)), (2, .int (nI j4)), (1, .int ts), (0, .ref hm)]) hx hb dX6_tightSet_73 hl (k := 1) rfl (by exact nI_add (j15) 1) (by decide) rfl (fun ls hl => ?_)
            refine lv_goto (tgt := 15) hx hb dX6_tightSet_76 (by decide) ?_
            exact ih (j15 + 1) (0 : Int32) (by omega)  hz15 _ (lv_sub hl [0, 1, 2, 3, 4] rfl)
          · rw [if_neg c25] at hz15
            refine lv_iload_n hx hb dX6_tightSet_28 rfl (lv_at hl 2 rfl) ?_
            refine lv_aload_n hx hb dX6_tightSet_29 rfl (lv_at hl 4 rfl) ?_
            refine va_get (D := (dC, dI)) (ci := 6) (v := .ref ms) (C := RX6) (T := TX6) (N := 15) hx hb hts hiX6 hown hK hP 0 rfl rfl 4 (by decide) fl19 (fun _ h9 => h9) rfl dX6_tightSet_30 ?_
            refine lv_iconst (v := (2 : Int32)) hx hb dX6_tightSet_33 (by decide) ?_
            refine lv_iload hx hb dX6_tightSet_34 (lv_at hl 0 rfl) ?_
            refine lv_imul hx hb dX6_tightSet_36 ?_
            refine kx_e (pk_mul (2) (j15)) ?_
            refine kx_ld hx hb hK hP 1 0 rfl rfl (2 * j15) rfl (by omega) (by decide) dX6_tightSet_37 ?_
            refine lv_isub hx hb dX6_tightSet_38 ?_
            refine lv_iconst (v := (-1 : Int32)) hx hb dX6_tightSet_39 (by decide) ?_
            refine lv_iconst (v := (1 : Int32)) hx hb dX6_tightSet_40 (by decide) ?_
            refine kx_cS (As := [.int ((nI j4) - (sh (2 * j15))), .int (-1 : Int32), .int (1 : Int32)]) (rest := []) ⟨hx, hb, hml, hown, hts⟩ (c_X6_in l dC dI cyI cyZ  ((nI j4) - (sh (2 * j15))) (-1 : Int32) (1 : Int32)  _ rfl) (va_cwS 3 hts gX6_tightSet_X6_in rfl rfl rfl (by decide +kernel) ⟨Nat.le_of_ble_eq_true rfl, Nat.le_of_ble_eq_true rfl⟩) hP hK hN [] rfl [0, 1] rfl rfl hl.1 rfl (Nat.le_of_ble_eq_true rfl) dX6_tightSet_41 ⟨Nat.zero_le _, Nat.zero_le _⟩ ?_
            refine lv_aload_n hx hb dX6_tightSet_44 rfl (lv_at hl 4 rfl) ?_
            refine va_get (D := (dC, dI)) (ci := 6) (v := .ref ms) (C := RX6) (T := TX6) (N := 15) hx hb hts hiX6 hown hK hP 0 rfl rfl 4 (by decide) fl19 (fun _ h9 => h9) rfl dX6_tightSet_45 ?_
            refine lv_iconst (v := (2 : Int32)) hx hb dX6_tightSet_48 (by decide) ?_
            refine lv_iload hx hb dX6_tightSet_49 (lv_at hl 0 rfl) ?_
            refine lv_imul hx hb dX6_tightSet_51 ?_
            refine kx_e (pk_mul (2) (j15)) ?_
            refine lv_iconst (v := (1 : Int32)) hx hb dX6_tightSet_52 (by decide) ?_
            refine lv_iadd hx hb dX6_tightSet_53 ?_
            refine kx_e (nI_add (2 * j15) (1)) ?_
            refine kx_ld hx hb hK hP 1 0 rfl rfl (2 * j15 + 1) rfl (by omega) (by decide) dX6_tightSet_54 ?_
            refine lv_iconst (v := (1 : Int32)) hx hb dX6_tightSet_55 (by decide) ?_
            refine lv_icmp_ne (tgt := 63) hx hb dX6_tightSet_56 (by decide) (fun c56 => ?_) (fun c56 => ?_)
            · rw [if_neg c56] at hz15
              refine lv_iconst (v := (0 : Int32)) hx hb dX6_tightSet_63 (by decide) ?_
              refine lv_icmp_ne (tgt := 71) hx hb dX6_tightSet_64 (by decide) (fun c64 => ?_) (fun c64 => ?_)
              · rw [if_neg c64] at hz15
                refine lv_iconst (v := (0 : Int32)) hx hb dX6_tightSet_71 (by decide) ?_
                refine lv_istore_n (lv' := [(3, .int (0 : Int32)), (4, .int (nI j15)), (2, .int (nI j4)), (1, .int ts), (0, .ref hm)]) hx hb dX6_tightSet_72 rfl hl (by decide) rfl (fun ls hl => ?_)
                refine lv_iinc (v := (nI (j15 + 1))) (lv' := [(4, .int (nI (j15 + 1))), (3, .int (0 : Int32)), (2, .int (nI j4)), (1, .int ts), (0, .ref hm)]) hx hb dX6_tightSet_73 hl (k := 1) rfl (by exact nI_add (j15) 1) (by decide) rfl (fun ls hl => ?_)
                refine lv_goto (tgt := 15) hx hb dX6_tightSet_76 (by decide) ?_
                exact ih (j15 + 1) (0 : Int32) (by omega)  hz15 _ (lv_sub hl [0, 1, 2, 3, 4] rfl)
              · rw [if_pos c64] at hz15
                refine lv_iconst (v := (1 : Int32)) hx hb dX6_tightSet_67 (by decide) ?_
                refine lv_goto (tgt := 72) hx hb dX6_tightSet_68 (by decide) ?_
                refine lv_istore_n (lv' := [(3, .int (1 : Int32)), (4, .int (nI j15)), (2, .int (nI j4)), (1, .int ts), (0, .ref hm)]) hx hb dX6_tightSet_72 rfl hl (by decide) rfl (fun ls hl => ?_)
                refine lv_iinc (v := (nI (j15 + 1))) (lv' := [(4, .int (nI (j15 + 1))), (3, .int (1 : Int32)), (2, .int (nI j4)), (1, .int ts), (0, .ref hm)]) hx hb dX6_tightSet_73 hl (k := 1) rfl (by exact nI_add (j15) 1) (by decide) rfl (fun ls hl => ?_)
                refine lv_goto (tgt := 15) hx hb dX6_tightSet_76 (by decide) ?_
                exact ih (j15 + 1) (1 : Int32) (by omega)  hz15 _ (lv_sub hl [0, 1, 2, 3, 4] rfl)
            · rw [if_pos c56] at hz15
              refine lv_iconst (v := (1 : Int32)) hx hb dX6_tightSet_59 (by decide) ?_
              refine lv_goto (tgt := 64) hx hb dX6_tightSet_60 (by decide) ?_
              refine lv_icmp_ne (tgt := 71) hx hb dX6_tightSet_64 (by decide) (fun c64 => ?_) (fun c64 => ?_)
              · rw [if_neg c64] at hz15
                refine lv_iconst (v := (0 : Int32)) hx hb dX6_tightSet_71 (by decide) ?_
                refine lv_istore_n (lv' := [(3, .int (0 : Int32)), (4, .int (nI j15)), (2, .int (nI j4)), (1, .int ts), (0, .ref hm)]) hx hb dX6_tightSet_72 rfl hl (by decide) rfl (fun ls hl => ?_)
                refine lv_iinc (v := (nI (j15 + 1))) (lv' := [(4, .int (nI (j15 + 1))), (3, .int (0 : Int32)), (2, .int (nI j4)), (1, .int ts), (0, .ref hm)]) hx hb dX6_tightSet_73 hl (k := 1) rfl (by exact nI_add (j15) 1) (by decide) rfl (fun ls hl => ?_)
                refine lv_goto (tgt := 15) hx hb dX6_tightSet_76 (by decide) ?_
                exact ih (j15 + 1) (0 : Int32) (by omega)  hz15 _ (lv_sub hl [0, 1, 2, 3, 4] rfl)
              · rw [if_pos c64] at hz15
                refine lv_iconst (v := (1 : Int32)) hx hb dX6_tightSet_67 (by decide) ?_
                refine lv_goto (tgt := 72) hx hb dX6_tightSet_68 (by decide) ?_
                refine lv_istore_n (lv' := [(3, .int (1 : Int32)), (4, .int (nI j15)), (2, .int (nI j4)), (1, .int ts), (0, .ref hm)]) hx hb dX6_tightSet_72 rfl hl (by decide) rfl (fun ls hl => ?_)
                refine lv_iinc (v := (nI (j15 + 1))) (lv' := [(4, .int (nI (j15 + 1))), (3, .int (1 : Int32)), (2, .int (nI j4)), (1, .int ts), (0, .ref hm)]) hx hb dX6_tightSet_73 hl (k := 1) rfl (by exact nI_add (j15) 1) (by decide) rfl (fun ls hl => ?_)
                refine lv_goto (tgt := 15) hx hb dX6_tightSet_76 (by decide) ?_
                exact ih (j15 + 1) (1 : Int32) (by omega)  hz15 _ (lv_sub hl [0, 1, 2, 3, 4] rfl)
      exact LP15 sg 0 (1 : Int32) (by omega)  hz15 _ (lv_sub hl [0, 1, 2, 3, 4] rfl)
  exact LP4 10 0 (0 : Int32) (by omega)  hz4 _ (lv_sub hl [0, 1, 2] rfl)

def fX6_tights (sg : Nat) (sh : Nat → Int32) : Int32 :=
  (fX6_tightSet sg sh)
set_option maxHeartbeats 4000000 in
set_option maxRecDepth 100000 in
theorem c_X6_tights (l : Launch) (dC : Nat → ClassId) (dI : Nat → Nat → Nat) (cyI cyZ : ClassId) (hm mb mn mk ms mp mq mi mz ma mc : Nat) (sg : Nat) (sn : Nat) (ud : Int32) (rz : Int32) (az : Int32) (sh : Nat → Int32) (hsg : sg ≤ 8) (r : Int32) (hF : fX6_tights sg sh = r) : Met l yX6_tights wsX6_tights ({ frames := 2, cells := 0, slots := 0, locals := 46 }) (kx_rp (dC, dI) [(hm, .inr (6, [.ref mb, .ref mn, .ref mk, .int (nI sg), .ref ms, .int (nI sn), .ref mp, .int ud, .ref mq, .int rz, .int az, .ref mi, .ref mz, .ref ma, .ref mc])), (ms, .inl (cyI, 16, .inl sh))] [(cyI, .int), (cyZ, .boolean)] [.ref hm]) (k2_QcV (.int r)) 0 0 (fun _ => False) := by
  refine Met.ofW (cc := cX6_tights) (maxL := 1) (ret := (some .int)) (by decide) rfl ?_
  intro p e s m args below meth c s₁ B hml hv
  obtain ⟨rfl, hP, hK, hN⟩ := hv
  have hx := B.exec
  have hb := B.bytes
  have hr := B.returns
  have hts := atoms_spec (ws := wsX6_tights) B.pre
  have hown : s.vm.findClass RX6 = some m.cls := findClass_of_methodNamed B.named
  have hlocks := B.notSynchronized
  have hl := lv_entry ([.ref hm]) (n := 1) (Nat.le_of_ble_eq_true rfl)
  rw [lg_entry_eq]
  generalize (lg_sl ([.ref hm]) ++ List.replicate (1 - (lg_sl ([.ref hm])).length) Slot.unset).toArray = ls at hl ⊢
  have hl : lv_has ls 1 [(0, .ref hm)] := hl
  unfold fX6_tights at hF
  refine lv_aload_n hx hb dX6_tights_0 rfl (lv_at hl 0 rfl) ?_
  refine kx_cV (As := []) (rest := []) ⟨hx, hb, hml, hown, hts⟩ (c_X6_tightSet l dC dI cyI cyZ hm mb mn mk ms mp mq mi mz ma mc sg sn ud rz az sh (by omega) _ rfl) (cwV 0 hts gX6_tights_X6_tightSet rfl rfl rfl (by decide +kernel) ⟨Nat.le_of_ble_eq_true rfl, Nat.le_of_ble_eq_true rfl⟩) hP hK hN [0, 1] rfl [0, 1] rfl 6 0 rfl rfl rfl rfl hl.1 rfl (Nat.le_of_ble_eq_true rfl) dX6_tights_1 ⟨Nat.zero_le _, Nat.zero_le _⟩ ?_
  exact W.iret hx hb hr (fun t ht _ => ⟨congrArg (fun z => Outcome.returned (some (Value.int z))) hF, ht⟩) (fun _ h => absurd h List.not_mem_nil) dX6_tights_4

def fX6_next_L44 (sg : Nat) (sh : Nat → Int32) (j27 : Nat) : Nat → Nat → Int32 → Int32
  | 0, _, ow => ow
  | r44 + 1, j44, ow => (if (fX6_has (fX6_tightSet sg sh) (nI j44)) = 0 then (fX6_next_L44 sg sh j27 r44 (j44 + 1) (ow + (0 : Int32))) else (if (fX6_in ((nI j44) - (nI j27)) (-1 : Int32) (1 : Int32)) = 0 then (fX6_next_L44 sg sh j27 r44 (j44 + 1) (ow + (0 : Int32))) else (fX6_next_L44 sg sh j27 r44 (j44 + 1) (ow + (1 : Int32)))))
def fX6_next_L27 (sg : Nat) (sh : Nat → Int32) : Nat → Nat → Int32 → Int32 → Int32 × Int32
  | 0, _, fo, ls1 => (fo, ls1)
  | r27 + 1, j27, fo, ls1 => (if (fX6_tightSet sg sh) = 0 then (fo, ls1) else ((fun (ow : Int32) => (if ow ≤ ((fX6_bits (fX6_tightSet sg sh)) - ow) then (if ls1 ≤ ((fX6_bits (fX6_tightSet sg sh)) - ow) then (if ls1 ≤ ((fX6_bits (fX6_tightSet sg sh)) - ow) then (fX6_next_L27 sg sh r27 (j27 + 1) fo ls1) else (fX6_next_L27 sg sh r27 (j27 + 1) fo ((fX6_bits (fX6_tightSet sg sh)) - ow))) else (if ls1 ≤ ((fX6_bits (fX6_tightSet sg sh)) - ow) then (fX6_next_L27 sg sh r27 (j27 + 1) (nI j27) ls1) else (fX6_next_L27 sg sh r27 (j27 + 1) (nI j27) ((fX6_bits (fX6_tightSet sg sh)) - ow)))) else (if ls1 ≤ ow then (if ls1 ≤ ow then (fX6_next_L27 sg sh r27 (j27 + 1) fo ls1) else (fX6_next_L27 sg sh r27 (j27 + 1) fo ow)) else (if ls1 ≤ ow then (fX6_next_L27 sg sh r27 (j27 + 1) (nI j27) ls1) else (fX6_next_L27 sg sh r27 (j27 + 1) (nI j27) ow))))) (fX6_next_L44 sg sh j27 10 0 (0 : Int32))))
def fX6_next (sg : Nat) (sh : Nat → Int32) (wh : Int32) : Int32 :=
  (if (fX6_in wh (0 : Int32) (1 : Int32)) = 0 then (-2 : Int32) else (match fX6_next_L27 sg sh 10 0 (-6 : Int32) (1000000 : Int32) with | (fo, ls1) => (if fo < 0 then fo else (if wh = 0 then fo else ls1))))
set_option maxHeartbeats 4000000 in
set_option maxRecDepth 100000 in
theorem c_X6_next (l : Launch) (dC : Nat → ClassId) (dI : Nat → Nat → Nat) (cyI cyZ : ClassId) (hm mb mn mk ms mp mq mi mz ma mc : Nat) (sg : Nat) (sn : Nat) (ud : Int32) (rz : Int32) (az : Int32) (sh : Nat → Int32) (wh : Int32) (hsg : sg ≤ 8) (r : Int32) (hF : fX6_next sg sh wh = r) : Met l yX6_next wsX6_next ({ frames := 2, cells := 0, slots := 0, locals := 46 }) (kx_rp (dC, dI) [(hm, .inr (6, [.ref mb, .ref mn, .ref mk, .int (nI sg), .ref ms, .int (nI sn), .ref mp, .int ud, .ref mq, .int rz, .int az, .ref mi, .ref mz, .ref ma, .ref mc])), (ms, .inl (cyI, 16, .inl sh))] [(cyI, .int), (cyZ, .boolean)] [.ref hm, .int wh]) (k2_QcV (.int r)) 0 0 (fun _ => False) := by
  refine Met.ofW (cc := cX6_next) (maxL := 8) (ret := (some .int)) (by decide) rfl ?_
  intro p e s m args below meth c s₁ B hml hv
  obtain ⟨rfl, hP, hK, hN⟩ := hv
  have hx := B.exec
  have hb := B.bytes
  have hr := B.returns
  have hts := atoms_spec (ws := wsX6_next) B.pre
  have hown : s.vm.findClass RX6 = some m.cls := findClass_of_methodNamed B.named
  have hlocks := B.notSynchronized
  have hl := lv_entry ([.ref hm, .int wh]) (n := 8) (Nat.le_of_ble_eq_true rfl)
  rw [lg_entry_eq]
  generalize (lg_sl ([.ref hm, .int wh]) ++ List.replicate (8 - (lg_sl ([.ref hm, .int wh])).length) Slot.unset).toArray = ls at hl ⊢
  have hl : lv_has ls 8 [(0, .ref hm), (1, .int wh)] := hl
  unfold fX6_next at hF
  refine lv_iload_n hx hb dX6_next_0 rfl (lv_at hl 1 rfl) ?_
  refine lv_iconst (v := (0 : Int32)) hx hb dX6_next_1 (by decide) ?_
  refine lv_iconst (v := (1 : Int32)) hx hb dX6_next_2 (by decide) ?_
  refine kx_cS (As := [.int wh, .int (0 : Int32), .int (1 : Int32)]) (rest := []) ⟨hx, hb, hml, hown, hts⟩ (c_X6_in l dC dI cyI cyZ  wh (0 : Int32) (1 : Int32)  _ rfl) (va_cwS 3 hts gX6_next_X6_in rfl rfl rfl (by decide +kernel) ⟨Nat.le_of_ble_eq_true rfl, Nat.le_of_ble_eq_true rfl⟩) hP hK hN [] rfl [0, 1] rfl rfl hl.1 rfl (Nat.le_of_ble_eq_true rfl) dX6_next_3 ⟨Nat.zero_le _, Nat.zero_le _⟩ ?_
  refine lv_if_ne (tgt := 12) hx hb dX6_next_6 (by decide) (fun c6 => ?_) (fun c6 => ?_)
  · rw [if_neg c6] at hF
    refine lv_aload_n hx hb dX6_next_12 rfl (lv_at hl 0 rfl) ?_
    refine kx_cV (As := []) (rest := []) ⟨hx, hb, hml, hown, hts⟩ (c_X6_tightSet l dC dI cyI cyZ hm mb mn mk ms mp mq mi mz ma mc sg sn ud rz az sh (by omega) _ rfl) (cwV 0 hts gX6_next_X6_tightSet rfl rfl rfl (by decide +kernel) ⟨Nat.le_of_ble_eq_true rfl, Nat.le_of_ble_eq_true rfl⟩) hP hK hN [0, 1] rfl [0, 1] rfl 6 0 rfl rfl rfl rfl hl.1 rfl (Nat.le_of_ble_eq_true rfl) dX6_next_13 ⟨Nat.zero_le _, Nat.zero_le _⟩ ?_
    refine lv_istore_n (lv' := [(2, .int (fX6_tightSet sg sh)), (0, .ref hm), (1, .int wh)]) hx hb dX6_next_16 rfl hl (by decide) rfl (fun ls hl => ?_)
    refine lv_bipush (v := (-6 : Int32)) hx hb dX6_next_17 (by decide) ?_
    refine lv_istore_n (lv' := [(3, .int (-6 : Int32)), (2, .int (fX6_tightSet sg sh)), (0, .ref hm), (1, .int wh)]) hx hb dX6_next_19 rfl hl (by decide) rfl (fun ls hl => ?_)
    refine lv_ldc hx hb hown (hts (.constant RX6 121 (1000000)) (by decide +kernel)) dX6_next_20 ?_
    refine lv_istore (lv' := [(4, .int (1000000 : Int32)), (3, .int (-6 : Int32)), (2, .int (fX6_tightSet sg sh)), (0, .ref hm), (1, .int wh)]) hx hb dX6_next_22 hl (by decide) rfl (fun ls hl => ?_)
    refine lv_iconst (v := (0 : Int32)) hx hb dX6_next_24 (by decide) ?_
    refine lv_istore (lv' := [(5, .int (0 : Int32)), (4, .int (1000000 : Int32)), (3, .int (-6 : Int32)), (2, .int (fX6_tightSet sg sh)), (0, .ref hm), (1, .int wh)]) hx hb dX6_next_25 hl (by decide) rfl (fun ls hl => ?_)
    generalize hz27 : fX6_next_L27 sg sh 10 0 (-6 : Int32) (1000000 : Int32) = z27 at hF
    have LP27 : ∀ (r27 : Nat) (j27 : Nat) (fo : Int32) (ls1 : Int32), r27 + j27 = 10 → fX6_next_L27 sg sh r27 j27 fo ls1 = z27 → ∀ (ls : Array Slot), lv_has ls 8 [(5, .int (nI j27)), (4, .int ls1), (3, .int fo), (2, .int (fX6_tightSet sg sh)), (0, .ref hm), (1, .int wh)] → W p l e (headSpec wsX6_next ({ frames := 2, cells := 0, slots := 0, locals := 46 } : Room)).room s m ([.ref hm, .int wh] : List Value).toArray below meth c s.heap [] 0 0 (MQ below (k2_QcV (.int r)) ([.ref hm, .int wh] : List Value).toArray s 0 0 (fun _ => False)) (F0 m 27 ls []) := by
      intro r27
      induction r27 with
      | zero =>
        intro j27 fo ls1 hrj hz27 ls hl
        rw [fX6_next_L27] at hz27
        subst hz27
        dsimp only at hF
        refine lv_iload hx hb dX6_next_27 (lv_at hl 0 rfl) ?_
        refine lv_bipush (v := (10 : Int32)) hx hb dX6_next_29 (by decide) ?_
        refine kx_ge hx hb (j27) (10) rfl rfl (by omega) (by omega) dX6_next_31 (by decide) (tgt := 151) (fun c31 => ?_) (fun c31 => absurd c31 (by omega))
        refine lv_iload_n hx hb dX6_next_151 rfl (lv_at hl 2 rfl) ?_
        refine lv_if_lt (tgt := 159) hx hb dX6_next_152 (by decide) (fun c152 => ?_) (fun c152 => ?_)
        · rw [if_pos c152] at hF
          refine lv_iload_n hx hb dX6_next_159 rfl (lv_at hl 2 rfl) ?_
          refine lv_goto (tgt := 165) hx hb dX6_next_160 (by decide) ?_
          exact W.iret hx hb hr (fun t ht _ => ⟨congrArg (fun z => Outcome.returned (some (Value.int z))) hF, ht⟩) (fun _ h => absurd h List.not_mem_nil) dX6_next_165
        · rw [if_neg c152] at hF
          refine lv_iload_n hx hb dX6_next_155 rfl (lv_at hl 5 rfl) ?_
          refine lv_if_ne (tgt := 163) hx hb dX6_next_156 (by decide) (fun c156 => ?_) (fun c156 => ?_)
          · rw [if_neg c156] at hF
            refine lv_iload hx hb dX6_next_163 (lv_at hl 1 rfl) ?_
            exact W.iret hx hb hr (fun t ht _ => ⟨congrArg (fun z => Outcome.returned (some (Value.int z))) hF, ht⟩) (fun _ h => absurd h List.not_mem_nil) dX6_next_165
          · rw [if_pos c156] at hF
            refine lv_iload_n hx hb dX6_next_159 rfl (lv_at hl 2 rfl) ?_
            refine lv_goto (tgt := 165) hx hb dX6_next_160 (by decide) ?_
            exact W.iret hx hb hr (fun t ht _ => ⟨congrArg (fun z => Outcome.returned (some (Value.int z))) hF, ht⟩) (fun _ h => absurd h List.not_mem_nil) dX6_next_165
      | succ r27 ih27 =>
        intro j27 fo ls1 hrj hz27 ls hl
        rw [fX6_next_L27] at hz27
        refine lv_iload hx hb dX6_next_27 (lv_at hl 0 rfl) ?_
        refine lv_bipush (v := (10 : Int32)) hx hb dX6_next_29 (by decide) ?_
        refine kx_ge hx hb (j27) (10) rfl rfl (by omega) (by omega) dX6_next_31 (by decide) (tgt := 151) (fun c31 => absurd c31 (by omega)) (fun c31 => ?_)
        refine lv_iload_n hx hb dX6_next_34 rfl (lv_at hl 3 rfl) ?_
        refine lv_if_eq (tgt := 151) hx hb dX6_next_35 (by decide) (fun c35 => ?_) (fun c35 => ?_)
        · rw [if_pos c35] at hz27
          subst hz27
          try dsimp only at hF
          refine lv_iload_n hx hb dX6_next_151 rfl (lv_at hl 2 rfl) ?_
          refine lv_if_lt (tgt := 159) hx hb dX6_next_152 (by decide) (fun c152 => ?_) (fun c152 => ?_)
          · rw [if_pos c152] at hF
            refine lv_iload_n hx hb dX6_next_159 rfl (lv_at hl 2 rfl) ?_
            refine lv_goto (tgt := 165) hx hb dX6_next_160 (by decide) ?_
            exact W.iret hx hb hr (fun t ht _ => ⟨congrArg (fun z => Outcome.returned (some (Value.int z))) hF, ht⟩) (fun _ h => absurd h List.not_mem_nil) dX6_next_165
          · rw [if_neg c152] at hF
            refine lv_iload_n hx hb dX6_next_155 rfl (lv_at hl 5 rfl) ?_
            refine lv_if_ne (tgt := 163) hx hb dX6_next_156 (by decide) (fun c156 => ?_) (fun c156 => ?_)
            · rw [if_neg c156] at hF
              refine lv_iload hx hb dX6_next_163 (lv_at hl 1 rfl) ?_
              exact W.iret hx hb hr (fun t ht _ => ⟨congrArg (fun z => Outcome.returned (some (Value.int z))) hF, ht⟩) (fun _ h => absurd h List.not_mem_nil) dX6_next_165
            · rw [if_pos c156] at hF
              refine lv_iload_n hx hb dX6_next_159 rfl (lv_at hl 2 rfl) ?_
              refine lv_goto (tgt := 165) hx hb dX6_next_160 (by decide) ?_
              exact W.iret hx hb hr (fun t ht _ => ⟨congrArg (fun z => Outcome.returned (some (Value.int z))) hF, ht⟩) (fun _ h => absurd h List.not_mem_nil) dX6_next_165
        · rw [if_neg c35] at hz27
          refine lv_iconst (v := (0 : Int32)) hx hb dX6_next_38 (by decide) ?_
          refine lv_istore (lv' := [(6, .int (0 : Int32)), (5, .int (nI j27)), (4, .int ls1), (3, .int fo), (2, .int (fX6_tightSet sg sh)), (0, .ref hm), (1, .int wh)]) hx hb dX6_next_39 hl (by decide) rfl (fun ls hl => ?_)
          refine lv_iconst (v := (0 : Int32)) hx hb dX6_next_41 (by decide) ?_
          refine lv_istore (lv' := [(7, .int (0 : Int32)), (6, .int (0 : Int32)), (5, .int (nI j27)), (4, .int ls1), (3, .int fo), (2, .int (fX6_tightSet sg sh)), (0, .ref hm), (1, .int wh)]) hx hb dX6_next_42 hl (by decide) rfl (fun ls hl => ?_)
          generalize hz44 : fX6_next_L44 sg sh j27 10 0 (0 : Int32) = z44 at hz27
          have LP44 : ∀ (r44 : Nat) (j44 : Nat) (ow : Int32), r44 + j44 = 10 → fX6_next_L44 sg sh j27 r44 j44 ow = z44 → ∀ (ls : Array Slot), lv_has ls 8 [(7, .int (nI j44)), (6, .int ow), (5, .int (nI j27)), (4, .int ls1), (3, .int fo), (2, .int (fX6_tightSet sg sh)), (0, .ref hm), (1, .int wh)] → W p l e (headSpec wsX6_next ({ frames := 2, cells := 0, slots := 0, locals := 46 } : Room)).room s m ([.ref hm, .int wh] : List Value).toArray below meth c s.heap [] 0 0 (MQ below (k2_QcV (.int r)) ([.ref hm, .int wh] : List Value).toArray s 0 0 (fun _ => False)) (F0 m 44 ls []) := by
            intro r44
            induction r44 with
            | zero =>
              intro j44 ow hrj hz44 ls hl
              rw [fX6_next_L44] at hz44
              subst hz44
              try dsimp only at hz27
              refine lv_iload hx hb dX6_next_44 (lv_at hl 0 rfl) ?_
              refine lv_bipush (v := (10 : Int32)) hx hb dX6_next_46 (by decide) ?_
              refine kx_ge hx hb (j44) (10) rfl rfl (by omega) (by omega) dX6_next_48 (by decide) (tgt := 89) (fun c48 => ?_) (fun c48 => absurd c48 (by omega))
              refine lv_iload hx hb dX6_next_89 (lv_at hl 1 rfl) ?_
              refine lv_iload_n hx hb dX6_next_91 rfl (lv_at hl 5 rfl) ?_
              refine kx_cS (As := [.int (fX6_tightSet sg sh)]) (rest := [.int ow]) ⟨hx, hb, hml, hown, hts⟩ (c_X6_bits l dC dI cyI cyZ  (fX6_tightSet sg sh)  _ rfl) (va_cwS 1 hts gX6_next_X6_bits rfl rfl rfl (by decide +kernel) ⟨Nat.le_of_ble_eq_true rfl, Nat.le_of_ble_eq_true rfl⟩) hP hK hN [] rfl [0, 1] rfl rfl hl.1 rfl (Nat.le_of_ble_eq_true rfl) dX6_next_92 ⟨Nat.zero_le _, Nat.zero_le _⟩ ?_
              refine lv_iload hx hb dX6_next_95 (lv_at hl 1 rfl) ?_
              refine lv_isub hx hb dX6_next_97 ?_
              refine lv_icmp_le (tgt := 106) hx hb dX6_next_98 (by decide) (fun c98 => ?_) (fun c98 => ?_)
              · rw [if_pos c98] at hz27
                refine lv_iload_n hx hb dX6_next_106 rfl (lv_at hl 5 rfl) ?_
                refine kx_cS (As := [.int (fX6_tightSet sg sh)]) (rest := []) ⟨hx, hb, hml, hown, hts⟩ (c_X6_bits l dC dI cyI cyZ  (fX6_tightSet sg sh)  _ rfl) (va_cwS 1 hts gX6_next_X6_bits rfl rfl rfl (by decide +kernel) ⟨Nat.le_of_ble_eq_true rfl, Nat.le_of_ble_eq_true rfl⟩) hP hK hN [] rfl [0, 1] rfl rfl hl.1 rfl (Nat.le_of_ble_eq_true rfl) dX6_next_107 ⟨Nat.zero_le _, Nat.zero_le _⟩ ?_
                refine lv_iload hx hb dX6_next_110 (lv_at hl 1 rfl) ?_
                refine lv_isub hx hb dX6_next_112 ?_
                refine lv_istore (lv' := [(7, .int ((fX6_bits (fX6_tightSet sg sh)) - ow)), (6, .int ow), (5, .int (nI j27)), (4, .int ls1), (3, .int fo), (2, .int (fX6_tightSet sg sh)), (0, .ref hm), (1, .int wh)]) hx hb dX6_next_113 hl (by decide) rfl (fun ls hl => ?_)
                refine lv_iload hx hb dX6_next_115 (lv_at hl 0 rfl) ?_
                refine lv_iload hx hb dX6_next_117 (lv_at hl 3 rfl) ?_
                refine lv_icmp_ge (tgt := 127) hx hb dX6_next_119 (by decide) (fun c119 => ?_) (fun c119 => ?_)
                · rw [if_pos c119] at hz27
                  refine lv_iload_n hx hb dX6_next_127 rfl (lv_at hl 4 rfl) ?_
                  refine lv_istore_n (lv' := [(3, .int fo), (7, .int ((fX6_bits (fX6_tightSet sg sh)) - ow)), (6, .int ow), (5, .int (nI j27)), (4, .int ls1), (2, .int (fX6_tightSet sg sh)), (0, .ref hm), (1, .int wh)]) hx hb dX6_next_128 rfl hl (by decide) rfl (fun ls hl => ?_)
                  refine lv_iload hx hb dX6_next_129 (lv_at hl 1 rfl) ?_
                  refine lv_iload hx hb dX6_next_131 (lv_at hl 4 rfl) ?_
                  refine lv_icmp_ge (tgt := 141) hx hb dX6_next_133 (by decide) (fun c133 => ?_) (fun c133 => ?_)
                  · rw [if_pos c133] at hz27
                    refine lv_iload hx hb dX6_next_141 (lv_at hl 4 rfl) ?_
                    refine lv_istore (lv' := [(4, .int ls1), (3, .int fo), (7, .int ((fX6_bits (fX6_tightSet sg sh)) - ow)), (6, .int ow), (5, .int (nI j27)), (2, .int (fX6_tightSet sg sh)), (0, .ref hm), (1, .int wh)]) hx hb dX6_next_143 hl (by decide) rfl (fun ls hl => ?_)
                    refine lv_iinc (v := (nI (j27 + 1))) (lv' := [(5, .int (nI (j27 + 1))), (4, .int ls1), (3, .int fo), (7, .int ((fX6_bits (fX6_tightSet sg sh)) - ow)), (6, .int ow), (2, .int (fX6_tightSet sg sh)), (0, .ref hm), (1, .int wh)]) hx hb dX6_next_145 hl (k := 4) rfl (by exact nI_add (j27) 1) (by decide) rfl (fun ls hl => ?_)
                    refine lv_goto (tgt := 27) hx hb dX6_next_148 (by decide) ?_
                    exact ih27 (j27 + 1) fo ls1 (by omega)  hz27 _ (lv_sub hl [0, 1, 2, 5, 6, 7] rfl)
                  · rw [if_neg c133] at hz27
                    refine lv_iload hx hb dX6_next_136 (lv_at hl 1 rfl) ?_
                    refine lv_goto (tgt := 143) hx hb dX6_next_138 (by decide) ?_
                    refine lv_istore (lv' := [(4, .int ((fX6_bits (fX6_tightSet sg sh)) - ow)), (3, .int fo), (7, .int ((fX6_bits (fX6_tightSet sg sh)) - ow)), (6, .int ow), (5, .int (nI j27)), (2, .int (fX6_tightSet sg sh)), (0, .ref hm), (1, .int wh)]) hx hb dX6_next_143 hl (by decide) rfl (fun ls hl => ?_)
                    refine lv_iinc (v := (nI (j27 + 1))) (lv' := [(5, .int (nI (j27 + 1))), (4, .int ((fX6_bits (fX6_tightSet sg sh)) - ow)), (3, .int fo), (7, .int ((fX6_bits (fX6_tightSet sg sh)) - ow)), (6, .int ow), (2, .int (fX6_tightSet sg sh)), (0, .ref hm), (1, .int wh)]) hx hb dX6_next_145 hl (k := 4) rfl (by exact nI_add (j27) 1) (by decide) rfl (fun ls hl => ?_)
                    refine lv_goto (tgt := 27) hx hb dX6_next_148 (by decide) ?_
                    exact ih27 (j27 + 1) fo ((fX6_bits (fX6_tightSet sg sh)) - ow) (by omega)  hz27 _ (lv_sub hl [0, 1, 2, 5, 6, 7] rfl)
                · rw [if_neg c119] at hz27
                  refine lv_iload hx hb dX6_next_122 (lv_at hl 2 rfl) ?_
                  refine lv_goto (tgt := 128) hx hb dX6_next_124 (by decide) ?_
                  refine lv_istore_n (lv' := [(3, .int (nI j27)), (7, .int ((fX6_bits (fX6_tightSet sg sh)) - ow)), (6, .int ow), (5, .int (nI j27)), (4, .int ls1), (2, .int (fX6_tightSet sg sh)), (0, .ref hm), (1, .int wh)]) hx hb dX6_next_128 rfl hl (by decide) rfl (fun ls hl => ?_)
                  refine lv_iload hx hb dX6_next_129 (lv_at hl 1 rfl) ?_
                  refine lv_iload hx hb dX6_next_131 (lv_at hl 4 rfl) ?_
                  refine lv_icmp_ge (tgt := 141) hx hb dX6_next_133 (by decide) (fun c133 => ?_) (fun c133 => ?_)
                  · rw [if_pos c133] at hz27
                    refine lv_iload hx hb dX6_next_141 (lv_at hl 4 rfl) ?_
                    refine lv_istore (lv' := [(4, .int ls1), (3, .int (nI j27)), (7, .int ((fX6_bits (fX6_tightSet sg sh)) - ow)), (6, .int ow), (5, .int (nI j27)), (2, .int (fX6_tightSet sg sh)), (0, .ref hm), (1, .int wh)]) hx hb dX6_next_143 hl (by decide) rfl (fun ls hl => ?_)
                    refine lv_iinc (v := (nI (j27 + 1))) (lv' := [(5, .int (nI (j27 + 1))), (4, .int ls1), (3, .int (nI j27)), (7, .int ((fX6_bits (fX6_tightSet sg sh)) - ow)), (6, .int ow), (2, .int (fX6_tightSet sg sh)), (0, .ref hm), (1, .int wh)]) hx hb dX6_next_145 hl (k := 4) rfl (by exact nI_add (j27) 1) (by decide) rfl (fun ls hl => ?_)
                    refine lv_goto (tgt := 27) hx hb dX6_next_148 (by decide) ?_
                    exact ih27 (j27 + 1) (nI j27) ls1 (by omega)  hz27 _ (lv_sub hl [0, 1, 2, 5, 6, 7] rfl)
                  · rw [if_neg c133] at hz27
                    refine lv_iload hx hb dX6_next_136 (lv_at hl 1 rfl) ?_
                    refine lv_goto (tgt := 143) hx hb dX6_next_138 (by decide) ?_
                    refine lv_istore (lv' := [(4, .int ((fX6_bits (fX6_tightSet sg sh)) - ow)), (3, .int (nI j27)), (7, .int ((fX6_bits (fX6_tightSet sg sh)) - ow)), (6, .int ow), (5, .int (nI j27)), (2, .int (fX6_tightSet sg sh)), (0, .ref hm), (1, .int wh)]) hx hb dX6_next_143 hl (by decide) rfl (fun ls hl => ?_)
                    refine lv_iinc (v := (nI (j27 + 1))) (lv' := [(5, .int (nI (j27 + 1))), (4, .int ((fX6_bits (fX6_tightSet sg sh)) - ow)), (3, .int (nI j27)), (7, .int ((fX6_bits (fX6_tightSet sg sh)) - ow)), (6, .int ow), (2, .int (fX6_tightSet sg sh)), (0, .ref hm), (1, .int wh)]) hx hb dX6_next_145 hl (k := 4) rfl (by exact nI_add (j27) 1) (by decide) rfl (fun ls hl => ?_)
                    refine lv_goto (tgt := 27) hx hb dX6_next_148 (by decide) ?_
                    exact ih27 (j27 + 1) (nI j27) ((fX6_bits (fX6_tightSet sg sh)) - ow) (by omega)  hz27 _ (lv_sub hl [0, 1, 2, 5, 6, 7] rfl)
              · rw [if_neg c98] at hz27
                refine lv_iload hx hb dX6_next_101 (lv_at hl 1 rfl) ?_
                refine lv_goto (tgt := 113) hx hb dX6_next_103 (by decide) ?_
                refine lv_istore (lv' := [(7, .int ow), (6, .int ow), (5, .int (nI j27)), (4, .int ls1), (3, .int fo), (2, .int (fX6_tightSet sg sh)), (0, .ref hm), (1, .int wh)]) hx hb dX6_next_113 hl (by decide) rfl (fun ls hl => ?_)
                refine lv_iload hx hb dX6_next_115 (lv_at hl 0 rfl) ?_
                refine lv_iload hx hb dX6_next_117 (lv_at hl 3 rfl) ?_
                refine lv_icmp_ge (tgt := 127) hx hb dX6_next_119 (by decide) (fun c119 => ?_) (fun c119 => ?_)
                · rw [if_pos c119] at hz27
                  refine lv_iload_n hx hb dX6_next_127 rfl (lv_at hl 4 rfl) ?_
                  refine lv_istore_n (lv' := [(3, .int fo), (7, .int ow), (6, .int ow), (5, .int (nI j27)), (4, .int ls1), (2, .int (fX6_tightSet sg sh)), (0, .ref hm), (1, .int wh)]) hx hb dX6_next_128 rfl hl (by decide) rfl (fun ls hl => ?_)
                  refine lv_iload hx hb dX6_next_129 (lv_at hl 1 rfl) ?_
                  refine lv_iload hx hb dX6_next_131 (lv_at hl 4 rfl) ?_
                  refine lv_icmp_ge (tgt := 141) hx hb dX6_next_133 (by decide) (fun c133 => ?_) (fun c133 => ?_)
                  · rw [if_pos c133] at hz27
                    refine lv_iload hx hb dX6_next_141 (lv_at hl 4 rfl) ?_
                    refine lv_istore (lv' := [(4, .int ls1), (3, .int fo), (7, .int ow), (6, .int ow), (5, .int (nI j27)), (2, .int (fX6_tightSet sg sh)), (0, .ref hm), (1, .int wh)]) hx hb dX6_next_143 hl (by decide) rfl (fun ls hl => ?_)
                    refine lv_iinc (v := (nI (j27 + 1))) (lv' := [(5, .int (nI (j27 + 1))), (4, .int ls1), (3, .int fo), (7, .int ow), (6, .int ow), (2, .int (fX6_tightSet sg sh)), (0, .ref hm), (1, .int wh)]) hx hb dX6_next_145 hl (k := 4) rfl (by exact nI_add (j27) 1) (by decide) rfl (fun ls hl => ?_)
                    refine lv_goto (tgt := 27) hx hb dX6_next_148 (by decide) ?_
                    exact ih27 (j27 + 1) fo ls1 (by omega)  hz27 _ (lv_sub hl [0, 1, 2, 5, 6, 7] rfl)
                  · rw [if_neg c133] at hz27
                    refine lv_iload hx hb dX6_next_136 (lv_at hl 1 rfl) ?_
                    refine lv_goto (tgt := 143) hx hb dX6_next_138 (by decide) ?_
                    refine lv_istore (lv' := [(4, .int ow), (3, .int fo), (7, .int ow), (6, .int ow), (5, .int (nI j27)), (2, .int (fX6_tightSet sg sh)), (0, .ref hm), (1, .int wh)]) hx hb dX6_next_143 hl (by decide) rfl (fun ls hl => ?_)
                    refine lv_iinc (v := (nI (j27 + 1))) (lv' := [(5, .int (nI (j27 + 1))), (4, .int ow), (3, .int fo), (7, .int ow), (6, .int ow), (2, .int (fX6_tightSet sg sh)), (0, .ref hm), (1, .int wh)]) hx hb dX6_next_145 hl (k := 4) rfl (by exact nI_add (j27) 1) (by decide) rfl (fun ls hl => ?_)
                    refine lv_goto (tgt := 27) hx hb dX6_next_148 (by decide) ?_
                    exact ih27 (j27 + 1) fo ow (by omega)  hz27 _ (lv_sub hl [0, 1, 2, 5, 6, 7] rfl)
                · rw [if_neg c119] at hz27
                  refine lv_iload hx hb dX6_next_122 (lv_at hl 2 rfl) ?_
                  refine lv_goto (tgt := 128) hx hb dX6_next_124 (by decide) ?_
                  refine lv_istore_n (lv' := [(3, .int (nI j27)), (7, .int ow), (6, .int ow), (5, .int (nI j27)), (4, .int ls1), (2, .int (fX6_tightSet sg sh)), (0, .ref hm), (1, .int wh)]) hx hb dX6_next_128 rfl hl (by decide) rfl (fun ls hl => ?_)
                  refine lv_iload hx hb dX6_next_129 (lv_at hl 1 rfl) ?_
                  refine lv_iload hx hb dX6_next_131 (lv_at hl 4 rfl) ?_
                  refine lv_icmp_ge (tgt := 141) hx hb dX6_next_133 (by decide) (fun c133 => ?_) (fun c133 => ?_)
                  · rw [if_pos c133] at hz27
                    refine lv_iload hx hb dX6_next_141 (lv_at hl 4 rfl) ?_
                    refine lv_istore (lv' := [(4, .int ls1), (3, .int (nI j27)), (7, .int ow), (6, .int ow), (5, .int (nI j27)), (2, .int (fX6_tightSet sg sh)), (0, .ref hm), (1, .int wh)]) hx hb dX6_next_143 hl (by decide) rfl (fun ls hl => ?_)
                    refine lv_iinc (v := (nI (j27 + 1))) (lv' := [(5, .int (nI (j27 + 1))), (4, .int ls1), (3, .int (nI j27)), (7, .int ow), (6, .int ow), (2, .int (fX6_tightSet sg sh)), (0, .ref hm), (1, .int wh)]) hx hb dX6_next_145 hl (k := 4) rfl (by exact nI_add (j27) 1) (by decide) rfl (fun ls hl => ?_)
                    refine lv_goto (tgt := 27) hx hb dX6_next_148 (by decide) ?_
                    exact ih27 (j27 + 1) (nI j27) ls1 (by omega)  hz27 _ (lv_sub hl [0, 1, 2, 5, 6, 7] rfl)
                  · rw [if_neg c133] at hz27
                    refine lv_iload hx hb dX6_next_136 (lv_at hl 1 rfl) ?_
                    refine lv_goto (tgt := 143) hx hb dX6_next_138 (by decide) ?_
                    refine lv_istore (lv' := [(4, .int ow), (3, .int (nI j27)), (7, .int ow), (6, .int ow), (5, .int (nI j27)), (2, .int (fX6_tightSet sg sh)), (0, .ref hm), (1, .int wh)]) hx hb dX6_next_143 hl (by decide) rfl (fun ls hl => ?_)
                    refine lv_iinc (v := (nI (j27 + 1))) (lv' := [(5, .int (nI (j27 + 1))), (4, .int ow), (3, .int (nI j27)), (7, .int ow), (6, .int ow), (2, .int (fX6_tightSet sg sh)), (0, .ref hm), (1, .int wh)]) hx hb dX6_next_145 hl (k := 4) rfl (by exact nI_add (j27) 1) (by decide) rfl (fun ls hl => ?_)
                    refine lv_goto (tgt := 27) hx hb dX6_next_148 (by decide) ?_
                    exact ih27 (j27 + 1) (nI j27) ow (by omega)  hz27 _ (lv_sub hl [0, 1, 2, 5, 6, 7] rfl)
            | succ r44 ih =>
              intro j44 ow hrj hz44 ls hl
              rw [fX6_next_L44] at hz44
              refine lv_iload hx hb dX6_next_44 (lv_at hl 0 rfl) ?_
              refine lv_bipush (v := (10 : Int32)) hx hb dX6_next_46 (by decide) ?_
              refine kx_ge hx hb (j44) (10) rfl rfl (by omega) (by omega) dX6_next_48 (by decide) (tgt := 89) (fun c48 => absurd c48 (by omega)) (fun c48 => ?_)
              refine lv_iload hx hb dX6_next_51 (lv_at hl 1 rfl) ?_
              refine lv_iload_n hx hb dX6_next_53 rfl (lv_at hl 5 rfl) ?_
              refine lv_iload hx hb dX6_next_54 (lv_at hl 0 rfl) ?_
              refine kx_cS (As := [.int (fX6_tightSet sg sh), .int (nI j44)]) (rest := [.int ow]) ⟨hx, hb, hml, hown, hts⟩ (c_X6_has l dC dI cyI cyZ  (fX6_tightSet sg sh) (nI j44)  _ rfl) (va_cwS 2 hts gX6_next_X6_has rfl rfl rfl (by decide +kernel) ⟨Nat.le_of_ble_eq_true rfl, Nat.le_of_ble_eq_true rfl⟩) hP hK hN [] rfl [0, 1] rfl rfl hl.1 rfl (Nat.le_of_ble_eq_true rfl) dX6_next_56 ⟨Nat.zero_le _, Nat.zero_le _⟩ ?_
              refine lv_if_eq (tgt := 79) hx hb dX6_next_59 (by decide) (fun c59 => ?_) (fun c59 => ?_)
              · rw [if_pos c59] at hz44
                refine lv_iconst (v := (0 : Int32)) hx hb dX6_next_79 (by decide) ?_
                refine lv_iadd hx hb dX6_next_80 ?_
                refine lv_istore (lv' := [(6, .int (ow + (0 : Int32))), (7, .int (nI j44)), (5, .int (nI j27)), (4, .int ls1), (3, .int fo), (2, .int (fX6_tightSet sg sh)), (0, .ref hm), (1, .int wh)]) hx hb dX6_next_81 hl (by decide) rfl (fun ls hl => ?_)
                refine lv_iinc (v := (nI (j44 + 1))) (lv' := [(7, .int (nI (j44 + 1))), (6, .int (ow + (0 : Int32))), (5, .int (nI j27)), (4, .int ls1), (3, .int fo), (2, .int (fX6_tightSet sg sh)), (0, .ref hm), (1, .int wh)]) hx hb dX6_next_83 hl (k := 1) rfl (by exact nI_add (j44) 1) (by decide) rfl (fun ls hl => ?_)
                refine lv_goto (tgt := 44) hx hb dX6_next_86 (by decide) ?_
                exact ih (j44 + 1) (ow + (0 : Int32)) (by omega)  hz44 _ (lv_sub hl [0, 1, 2, 3, 4, 5, 6, 7] rfl)
              · rw [if_neg c59] at hz44
                refine lv_iload hx hb dX6_next_62 (lv_at hl 0 rfl) ?_
                refine lv_iload hx hb dX6_next_64 (lv_at hl 2 rfl) ?_
                refine lv_isub hx hb dX6_next_66 ?_
                refine lv_iconst (v := (-1 : Int32)) hx hb dX6_next_67 (by decide) ?_
                refine lv_iconst (v := (1 : Int32)) hx hb dX6_next_68 (by decide) ?_
                refine kx_cS (As := [.int ((nI j44) - (nI j27)), .int (-1 : Int32), .int (1 : Int32)]) (rest := [.int ow]) ⟨hx, hb, hml, hown, hts⟩ (c_X6_in l dC dI cyI cyZ  ((nI j44) - (nI j27)) (-1 : Int32) (1 : Int32)  _ rfl) (va_cwS 3 hts gX6_next_X6_in rfl rfl rfl (by decide +kernel) ⟨Nat.le_of_ble_eq_true rfl, Nat.le_of_ble_eq_true rfl⟩) hP hK hN [] rfl [0, 1] rfl rfl hl.1 rfl (Nat.le_of_ble_eq_true rfl) dX6_next_69 ⟨Nat.zero_le _, Nat.zero_le _⟩ ?_
                refine lv_if_eq (tgt := 79) hx hb dX6_next_72 (by decide) (fun c72 => ?_) (fun c72 => ?_)
                · rw [if_pos c72] at hz44
                  refine lv_iconst (v := (0 : Int32)) hx hb dX6_next_79 (by decide) ?_
                  refine lv_iadd hx hb dX6_next_80 ?_
                  refine lv_istore (lv' := [(6, .int (ow + (0 : Int32))), (7, .int (nI j44)), (5, .int (nI j27)), (4, .int ls1), (3, .int fo), (2, .int (fX6_tightSet sg sh)), (0, .ref hm), (1, .int wh)]) hx hb dX6_next_81 hl (by decide) rfl (fun ls hl => ?_)
                  refine lv_iinc (v := (nI (j44 + 1))) (lv' := [(7, .int (nI (j44 + 1))), (6, .int (ow + (0 : Int32))), (5, .int (nI j27)), (4, .int ls1), (3, .int fo), (2, .int (fX6_tightSet sg sh)), (0, .ref hm), (1, .int wh)]) hx hb dX6_next_83 hl (k := 1) rfl (by exact nI_add (j44) 1) (by decide) rfl (fun ls hl => ?_)
                  refine lv_goto (tgt := 44) hx hb dX6_next_86 (by decide) ?_
                  exact ih (j44 + 1) (ow + (0 : Int32)) (by omega)  hz44 _ (lv_sub hl [0, 1, 2, 3, 4, 5, 6, 7] rfl)
                · rw [if_neg c72] at hz44
                  refine lv_iconst (v := (1 : Int32)) hx hb dX6_next_75 (by decide) ?_
                  refine lv_goto (tgt := 80) hx hb dX6_next_76 (by decide) ?_
                  refine lv_iadd hx hb dX6_next_80 ?_
                  refine lv_istore (lv' := [(6, .int (ow + (1 : Int32))), (7, .int (nI j44)), (5, .int (nI j27)), (4, .int ls1), (3, .int fo), (2, .int (fX6_tightSet sg sh)), (0, .ref hm), (1, .int wh)]) hx hb dX6_next_81 hl (by decide) rfl (fun ls hl => ?_)
                  refine lv_iinc (v := (nI (j44 + 1))) (lv' := [(7, .int (nI (j44 + 1))), (6, .int (ow + (1 : Int32))), (5, .int (nI j27)), (4, .int ls1), (3, .int fo), (2, .int (fX6_tightSet sg sh)), (0, .ref hm), (1, .int wh)]) hx hb dX6_next_83 hl (k := 1) rfl (by exact nI_add (j44) 1) (by decide) rfl (fun ls hl => ?_)
                  refine lv_goto (tgt := 44) hx hb dX6_next_86 (by decide) ?_
                  exact ih (j44 + 1) (ow + (1 : Int32)) (by omega)  hz44 _ (lv_sub hl [0, 1, 2, 3, 4, 5, 6, 7] rfl)
          exact LP44 10 0 (0 : Int32) (by omega)  hz44 _ (lv_sub hl [0, 1, 2, 3, 4, 5, 6, 7] rfl)
    exact LP27 10 0 (-6 : Int32) (1000000 : Int32) (by omega)  hz27 _ (lv_sub hl [0, 1, 2, 3, 4, 5] rfl)
  · rw [if_pos c6] at hF
    refine lv_bipush (v := (-2 : Int32)) hx hb dX6_next_9 (by decide) ?_
    exact W.iret hx hb hr (fun t ht _ => ⟨congrArg (fun z => Outcome.returned (some (Value.int z))) hF, ht⟩) (fun _ h => absurd h List.not_mem_nil) dX6_next_11

def fX6_power_L5 (bs : Int64) : Nat → Nat → Int64 → Int64
  | 0, _, pr => pr
  | r5 + 1, j5, pr => (fX6_power_L5 bs r5 (j5 + 1) (pr * bs))
def fX6_power (bs : Int64) (ex : Int32) : Int64 :=
  ((fun (pr : Int64) => pr) (fX6_power_L5 bs ex.toNatClampNeg 0 (1 : Int64)))
set_option maxHeartbeats 4000000 in
set_option maxRecDepth 100000 in
theorem c_X6_power (l : Launch) (dC : Nat → ClassId) (dI : Nat → Nat → Nat) (cyI cyZ : ClassId)  (bs : Int64) (ex : Int32) (r : Int64) (hF : fX6_power bs ex = r) : Met l yX6_power wsX6_power ({ frames := 0, cells := 0, slots := 0, locals := 0 }) (kx_rp (dC, dI) [] [(cyI, .int), (cyZ, .boolean)] [.long bs, .int ex]) (k2_QcV (.long r)) 0 0 (fun _ => False) := by
  refine Met.ofW (cc := cX6_power) (maxL := 6) (ret := (some .long)) (by decide) rfl ?_
  intro p e s m args below meth c s₁ B hml hv
  obtain ⟨rfl, hP, hK, hN⟩ := hv
  have hx := B.exec
  have hb := B.bytes
  have hr := B.returns
  have hts := atoms_spec (ws := wsX6_power) B.pre
  have hown : s.vm.findClass RX6 = some m.cls := findClass_of_methodNamed B.named
  have hlocks := B.notSynchronized
  have hl := lv_entry ([.long bs, .int ex]) (n := 6) (Nat.le_of_ble_eq_true rfl)
  rw [lg_entry_eq]
  generalize (lg_sl ([.long bs, .int ex]) ++ List.replicate (6 - (lg_sl ([.long bs, .int ex])).length) Slot.unset).toArray = ls at hl ⊢
  have hl : lv_has ls 6 [(0, .long bs), (2, .int ex)] := hl
  unfold fX6_power at hF
  refine lv_lconst (v := 1) hx hb dX6_power_0 rfl ?_
  refine lv_lstore_n (lv' := [(3, .long (1 : Int64)), (0, .long bs), (2, .int ex)]) hx hb dX6_power_1 rfl hl (by decide) rfl (fun ls hl => ?_)
  refine lv_iconst (v := (0 : Int32)) hx hb dX6_power_2 (by decide) ?_
  have htn := kx_tnc ex
  refine lv_istore (lv' := [(5, .int (0 : Int32)), (3, .long (1 : Int64)), (0, .long bs), (2, .int ex)]) hx hb dX6_power_3 hl (by decide) rfl (fun ls hl => ?_)
  generalize hz5 : fX6_power_L5 bs ex.toNatClampNeg 0 (1 : Int64) = z5 at hF
  have LP5 : ∀ (r5 : Nat) (j5 : Nat) (pr : Int64), r5 + j5 = ex.toNatClampNeg → fX6_power_L5 bs r5 j5 pr = z5 → ∀ (ls : Array Slot), lv_has ls 6 [(5, .int (nI j5)), (3, .long pr), (0, .long bs), (2, .int ex)] → W p l e (headSpec wsX6_power ({ frames := 0, cells := 0, slots := 0, locals := 0 } : Room)).room s m ([.long bs, .int ex] : List Value).toArray below meth c s.heap [] 0 0 (MQ below (k2_QcV (.long r)) ([.long bs, .int ex] : List Value).toArray s 0 0 (fun _ => False)) (F0 m 5 ls []) := by
    intro r5
    induction r5 with
    | zero =>
      intro j5 pr hrj hz5 ls hl
      rw [fX6_power_L5] at hz5
      subst hz5
      try dsimp only at hF
      refine lv_iload hx hb dX6_power_5 (lv_at hl 0 rfl) ?_
      refine lv_iload_n hx hb dX6_power_7 rfl (lv_at hl 3 rfl) ?_
      refine kx_geR hx hb (j5) ex rfl (by omega) dX6_power_8 (by decide) (tgt := 21) (fun c8 => ?_) (fun c8 => absurd c8 (by omega))
      refine lv_lload_n hx hb dX6_power_21 rfl (lv_at hl 1 rfl) ?_
      exact W.lret hx hb hr (fun t ht _ => ⟨congrArg (fun z => Outcome.returned (some (Value.long z))) hF, ht⟩) (fun _ h => absurd h List.not_mem_nil) dX6_power_22
    | succ r5 ih =>
      intro j5 pr hrj hz5 ls hl
      rw [fX6_power_L5] at hz5
      refine lv_iload hx hb dX6_power_5 (lv_at hl 0 rfl) ?_
      refine lv_iload_n hx hb dX6_power_7 rfl (lv_at hl 3 rfl) ?_
      refine kx_geR hx hb (j5) ex rfl (by omega) dX6_power_8 (by decide) (tgt := 21) (fun c8 => absurd c8 (by omega)) (fun c8 => ?_)
      refine lv_lload_n hx hb dX6_power_11 rfl (lv_at hl 1 rfl) ?_
      refine lv_lload_n hx hb dX6_power_12 rfl (lv_at hl 2 rfl) ?_
      refine lv_lmul hx hb dX6_power_13 ?_
      refine lv_lstore_n (lv' := [(3, .long (pr * bs)), (5, .int (nI j5)), (0, .long bs), (2, .int ex)]) hx hb dX6_power_14 rfl hl (by decide) rfl (fun ls hl => ?_)
      refine lv_iinc (v := (nI (j5 + 1))) (lv' := [(5, .int (nI (j5 + 1))), (3, .long (pr * bs)), (0, .long bs), (2, .int ex)]) hx hb dX6_power_15 hl (k := 1) rfl (by exact nI_add (j5) 1) (by decide) rfl (fun ls hl => ?_)
      refine lv_goto (tgt := 5) hx hb dX6_power_18 (by decide) ?_
      exact ih (j5 + 1) (pr * bs) (by omega)  hz5 _ (lv_sub hl [0, 1, 2, 3] rfl)
  exact LP5 ex.toNatClampNeg 0 (1 : Int64) (by omega)  hz5 _ (lv_sub hl [0, 1, 2, 3] rfl)

def fX6_image_L78 (sh : Nat → Int32) (kni : Int32) : Nat → Nat → (Nat → Int32) → (Nat → Int32)
  | 0, _, g3 => g3
  | r78 + 1, j78, g3 => (fX6_image_L78 sh kni r78 (j78 + 1) (upd g3 (150 * kni.toNatClampNeg + 110 + j78) (sh j78)))
def fX6_image_L48 (kn : Nat → Int32) (kni : Int32) : Nat → Nat → (Nat → Int32) → (Nat → Int32)
  | 0, _, g2 => g2
  | r48 + 1, j48, g2 => (fX6_image_L48 kn kni r48 (j48 + 1) (upd g2 (150 * kni.toNatClampNeg + 100 + j48) (kn j48)))
def fX6_image_L20 (bk : Nat → Int32) (kni : Int32) : Nat → Nat → (Nat → Int32) → (Nat → Int32)
  | 0, _, g1 => g1
  | r20 + 1, j20, g1 => (fX6_image_L20 bk kni r20 (j20 + 1) (upd g1 (150 * kni.toNatClampNeg + j20) (bk j20)))
def fX6_image (sg : Nat) (bk : Nat → Int32) (kn : Nat → Int32) (sh : Nat → Int32) (im : Nat → Int32) (zk : Nat → Int32) (kni : Int32) : Int32 × (Nat → Int32) × (Nat → Int32) :=
  (if (fX6_in kni (0 : Int32) (1 : Int32)) = 0 then ((-2 : Int32), im, zk) else ((fun (g1 : Nat → Int32) => ((fun (g2 : Nat → Int32) => ((fun (g3 : Nat → Int32) => ((1 : Int32), (upd g3 (150 * kni.toNatClampNeg + 130) (nI sg)), (upd zk kni.toNatClampNeg (1 : Int32)))) (fX6_image_L78 sh kni 16 0 g2))) (fX6_image_L48 kn kni 4 0 g1))) (fX6_image_L20 bk kni 97 0 im)))
set_option maxHeartbeats 4000000 in
set_option maxRecDepth 100000 in
theorem c_X6_image (l : Launch) (dC : Nat → ClassId) (dI : Nat → Nat → Nat) (cyI cyZ : ClassId) (hm mb mn mk ms mp mq mi mz ma mc : Nat) (sg : Nat) (sn : Nat) (ud : Int32) (rz : Int32) (az : Int32) (bk : Nat → Int32) (kn : Nat → Int32) (sh : Nat → Int32) (im : Nat → Int32) (zk : Nat → Int32) (kni : Int32) (hsg : sg ≤ 8) (sz : Nat) (r : Int32 × (Nat → Int32) × (Nat → Int32)) (hF : fX6_image sg bk kn sh im zk kni = r) : Met l yX6_image wsX6_image ({ frames := 1, cells := 0, slots := 0, locals := 22 }) (kx_wp (dC, dI) [(hm, .inr (6, [.ref mb, .ref mn, .ref mk, .int (nI sg), .ref ms, .int (nI sn), .ref mp, .int ud, .ref mq, .int rz, .int az, .ref mi, .ref mz, .ref ma, .ref mc])), (mb, .inl (cyI, 97, .inl bk)), (mk, .inl (cyI, 4, .inl kn)), (ms, .inl (cyI, 16, .inl sh)), (mi, .inl (cyI, 300, .inl im)), (mz, .inl (cyZ, 2, .inl zk))] [(cyI, .int), (cyZ, .boolean)] sz [.ref hm, .int kni]) (kx_Qi r.1 (dC, dI) [(hm, .inr (6, [.ref mb, .ref mn, .ref mk, .int (nI sg), .ref ms, .int (nI sn), .ref mp, .int ud, .ref mq, .int rz, .int az, .ref mi, .ref mz, .ref ma, .ref mc])), (mb, .inl (cyI, 97, .inl bk)), (mk, .inl (cyI, 4, .inl kn)), (ms, .inl (cyI, 16, .inl sh)), (mi, .inl (cyI, 300, .inl im)), (mz, .inl (cyZ, 2, .inl zk))] [(hm, .inr (6, [.ref mb, .ref mn, .ref mk, .int (nI sg), .ref ms, .int (nI sn), .ref mp, .int ud, .ref mq, .int rz, .int az, .ref mi, .ref mz, .ref ma, .ref mc])), (mb, .inl (cyI, 97, .inl bk)), (mk, .inl (cyI, 4, .inl kn)), (ms, .inl (cyI, 16, .inl sh)), (mi, .inl (cyI, 300, .inl r.2.1)), (mz, .inl (cyZ, 2, .inl r.2.2))] sz) 0 0 (va_A [(hm, .inr (6, [.ref mb, .ref mn, .ref mk, .int (nI sg), .ref ms, .int (nI sn), .ref mp, .int ud, .ref mq, .int rz, .int az, .ref mi, .ref mz, .ref ma, .ref mc])), (mb, .inl (cyI, 97, .inl bk)), (mk, .inl (cyI, 4, .inl kn)), (ms, .inl (cyI, 16, .inl sh)), (mi, .inl (cyI, 300, .inl im)), (mz, .inl (cyZ, 2, .inl zk))] sz) := by
  refine Met.ofW (cc := cX6_image) (maxL := 4) (ret := (some .int)) (by decide) rfl ?_
  intro p e s m args below meth c s₁ B hml hv
  obtain ⟨rfl, hsz, hP, hK, hN, hD0⟩ := hv
  have hx := B.exec
  have hb := B.bytes
  have hr := B.returns
  have hts := atoms_spec (ws := wsX6_image) B.pre
  have hown : s.vm.findClass RX6 = some m.cls := findClass_of_methodNamed B.named
  have hlocks := B.notSynchronized
  subst hsz
  obtain ⟨A, hAe⟩ : ∃ A, A = va_A [(hm, .inr (6, [.ref mb, .ref mn, .ref mk, .int (nI sg), .ref ms, .int (nI sn), .ref mp, .int ud, .ref mq, .int rz, .int az, .ref mi, .ref mz, .ref ma, .ref mc])), (mb, .inl (cyI, 97, .inl bk)), (mk, .inl (cyI, 4, .inl kn)), (ms, .inl (cyI, 16, .inl sh)), (mi, .inl (cyI, 300, .inl im)), (mz, .inl (cyZ, 2, .inl zk))] s.heap.size := ⟨_, rfl⟩
  have hD : va_D A [(hm, .inr (6, [.ref mb, .ref mn, .ref mk, .int (nI sg), .ref ms, .int (nI sn), .ref mp, .int ud, .ref mq, .int rz, .int az, .ref mi, .ref mz, .ref ma, .ref mc])), (mb, .inl (cyI, 97, .inl bk)), (mk, .inl (cyI, 4, .inl kn)), (ms, .inl (cyI, 16, .inl sh)), (mi, .inl (cyI, 300, .inl im)), (mz, .inl (cyZ, 2, .inl zk))] := by rw [hAe]; exact hD0.self
  have hA : ∀ q : Nat, s.heap.size ≤ q → A q := fun q h => by rw [hAe]; exact Or.inr h
  have hS : va_S A s.heap s.heap [] := va_S.rf
  have hiX6 : ∀ w ∈ wsX60, w ∈ wsX6_image := by decide +kernel
  have fl7 := hts (.fieldLink RX6 7 "KnitChronicleModel" "book" "[I") (by decide +kernel)
  have fl16 := hts (.fieldLink RX6 16 "KnitChronicleModel" "knits" "[I") (by decide +kernel)
  have fl19 := hts (.fieldLink RX6 19 "KnitChronicleModel" "sight" "[I") (by decide +kernel)
  have fl28 := hts (.fieldLink RX6 28 "KnitChronicleModel" "image" "[I") (by decide +kernel)
  have fl31 := hts (.fieldLink RX6 31 "KnitChronicleModel" "isKept" "[Z") (by decide +kernel)
  have fl134 := hts (.fieldLink RX6 134 "KnitChronicleModel" "sights" "I") (by decide +kernel)
  have hl := lv_entry ([.ref hm, .int kni]) (n := 4) (Nat.le_of_ble_eq_true rfl)
  rw [lg_entry_eq]
  generalize (lg_sl ([.ref hm, .int kni]) ++ List.replicate (4 - (lg_sl ([.ref hm, .int kni])).length) Slot.unset).toArray = ls at hl ⊢
  have hl : lv_has ls 4 [(0, .ref hm), (1, .int kni)] := hl
  unfold fX6_image at hF
  refine lv_iload_n hx hb dX6_image_0 rfl (lv_at hl 1 rfl) ?_
  refine lv_iconst (v := (0 : Int32)) hx hb dX6_image_1 (by decide) ?_
  refine lv_iconst (v := (1 : Int32)) hx hb dX6_image_2 (by decide) ?_
  refine kx_cS (As := [.int kni, .int (0 : Int32), .int (1 : Int32)]) (rest := []) ⟨hx, hb, hml, hown, hts⟩ (c_X6_in l dC dI cyI cyZ  kni (0 : Int32) (1 : Int32)  _ rfl) (va_cwS 3 hts gX6_image_X6_in rfl rfl rfl (by decide +kernel) ⟨Nat.le_of_ble_eq_true rfl, Nat.le_of_ble_eq_true rfl⟩) hP hK hN [] rfl [0, 1] rfl rfl hl.1 rfl (Nat.le_of_ble_eq_true rfl) dX6_image_3 ⟨Nat.zero_le _, Nat.zero_le _⟩ ?_
  refine lv_if_ne (tgt := 12) hx hb dX6_image_6 (by decide) (fun c6 => ?_) (fun c6 => ?_)
  · rw [if_neg c6] at hF
    obtain ⟨hk1, hk2, hk3⟩ := fX6_in_P 0 1 (by decide) (by decide) c6
    refine lv_sipush (v := (150 : Int32)) hx hb dX6_image_12 (by decide) ?_
    refine lv_iload_n hx hb dX6_image_15 rfl (lv_at hl 1 rfl) ?_
    refine kx_e hk1 ?_
    refine lv_imul hx hb dX6_image_16 ?_
    refine kx_e (pk_mul (150) (kni.toNatClampNeg)) ?_
    refine lv_istore_n (lv' := [(2, .int (nI (150 * kni.toNatClampNeg))), (0, .ref hm), (1, .int kni)]) hx hb dX6_image_17 rfl hl (by decide) rfl (fun ls hl => ?_)
    refine lv_iconst (v := (0 : Int32)) hx hb dX6_image_18 (by decide) ?_
    refine lv_istore_n (lv' := [(3, .int (0 : Int32)), (2, .int (nI (150 * kni.toNatClampNeg))), (0, .ref hm), (1, .int kni)]) hx hb dX6_image_19 rfl hl (by decide) rfl (fun ls hl => ?_)
    generalize hz20 : fX6_image_L20 bk kni 97 0 im = z20 at hF
    have LP20 : ∀ (r20 : Nat) (j20 : Nat) (g1 : Nat → Int32), r20 + j20 = 97 → fX6_image_L20 bk kni r20 j20 g1 = z20 → ∀ (H : Heap) (locs : List Loc), va_P (dC, dI) vwCl [(hm, .inr (6, [.ref mb, .ref mn, .ref mk, .int (nI sg), .ref ms, .int (nI sn), .ref mp, .int ud, .ref mq, .int rz, .int az, .ref mi, .ref mz, .ref ma, .ref mc])), (mb, .inl (cyI, 97, .inl bk)), (mk, .inl (cyI, 4, .inl kn)), (ms, .inl (cyI, 16, .inl sh)), (mi, .inl (cyI, 300, .inl g1)), (mz, .inl (cyZ, 2, .inl zk))] H → va_D A [(hm, .inr (6, [.ref mb, .ref mn, .ref mk, .int (nI sg), .ref ms, .int (nI sn), .ref mp, .int ud, .ref mq, .int rz, .int az, .ref mi, .ref mz, .ref ma, .ref mc])), (mb, .inl (cyI, 97, .inl bk)), (mk, .inl (cyI, 4, .inl kn)), (ms, .inl (cyI, 16, .inl sh)), (mi, .inl (cyI, 300, .inl g1)), (mz, .inl (cyZ, 2, .inl zk))] → va_S A s.heap H locs → ∀ (ls : Array Slot), lv_has ls 4 [(3, .int (nI j20)), (2, .int (nI (150 * kni.toNatClampNeg))), (0, .ref hm), (1, .int kni)] → W p l e (headSpec wsX6_image ({ frames := 1, cells := 0, slots := 0, locals := 22 } : Room)).room s m ([.ref hm, .int kni] : List Value).toArray below meth c H locs 0 0 (MQ below (kx_Qi r.1 (dC, dI) [(hm, .inr (6, [.ref mb, .ref mn, .ref mk, .int (nI sg), .ref ms, .int (nI sn), .ref mp, .int ud, .ref mq, .int rz, .int az, .ref mi, .ref mz, .ref ma, .ref mc])), (mb, .inl (cyI, 97, .inl bk)), (mk, .inl (cyI, 4, .inl kn)), (ms, .inl (cyI, 16, .inl sh)), (mi, .inl (cyI, 300, .inl im)), (mz, .inl (cyZ, 2, .inl zk))] [(hm, .inr (6, [.ref mb, .ref mn, .ref mk, .int (nI sg), .ref ms, .int (nI sn), .ref mp, .int ud, .ref mq, .int rz, .int az, .ref mi, .ref mz, .ref ma, .ref mc])), (mb, .inl (cyI, 97, .inl bk)), (mk, .inl (cyI, 4, .inl kn)), (ms, .inl (cyI, 16, .inl sh)), (mi, .inl (cyI, 300, .inl r.2.1)), (mz, .inl (cyZ, 2, .inl r.2.2))] s.heap.size) ([.ref hm, .int kni] : List Value).toArray s 0 0 (va_A [(hm, .inr (6, [.ref mb, .ref mn, .ref mk, .int (nI sg), .ref ms, .int (nI sn), .ref mp, .int ud, .ref mq, .int rz, .int az, .ref mi, .ref mz, .ref ma, .ref mc])), (mb, .inl (cyI, 97, .inl bk)), (mk, .inl (cyI, 4, .inl kn)), (ms, .inl (cyI, 16, .inl sh)), (mi, .inl (cyI, 300, .inl im)), (mz, .inl (cyZ, 2, .inl zk))] s.heap.size)) (F0 m 20 ls []) := by
      intro r20
      induction r20 with
      | zero =>
        intro j20 g1 hrj hz20 H locs hP hD hS ls hl
        rw [fX6_image_L20] at hz20
        subst hz20
        try dsimp only at hF
        refine lv_iload_n hx hb dX6_image_20 rfl (lv_at hl 0 rfl) ?_
        refine lv_bipush (v := (97 : Int32)) hx hb dX6_image_21 (by decide) ?_
        refine kx_ge hx hb (j20) (97) rfl rfl (by omega) (by omega) dX6_image_23 (by decide) (tgt := 46) (fun c23 => ?_) (fun c23 => absurd c23 (by omega))
        refine lv_iconst (v := (0 : Int32)) hx hb dX6_image_46 (by decide) ?_
        refine lv_istore_n (lv' := [(3, .int (0 : Int32)), (2, .int (nI (150 * kni.toNatClampNeg))), (0, .ref hm), (1, .int kni)]) hx hb dX6_image_47 rfl hl (by decide) rfl (fun ls hl => ?_)
        generalize hz48 : fX6_image_L48 kn kni 4 0 g1 = z48 at hF
        have LP48 : ∀ (r48 : Nat) (j48 : Nat) (g2 : Nat → Int32), r48 + j48 = 4 → fX6_image_L48 kn kni r48 j48 g2 = z48 → ∀ (H : Heap) (locs : List Loc), va_P (dC, dI) vwCl [(hm, .inr (6, [.ref mb, .ref mn, .ref mk, .int (nI sg), .ref ms, .int (nI sn), .ref mp, .int ud, .ref mq, .int rz, .int az, .ref mi, .ref mz, .ref ma, .ref mc])), (mb, .inl (cyI, 97, .inl bk)), (mk, .inl (cyI, 4, .inl kn)), (ms, .inl (cyI, 16, .inl sh)), (mi, .inl (cyI, 300, .inl g2)), (mz, .inl (cyZ, 2, .inl zk))] H → va_D A [(hm, .inr (6, [.ref mb, .ref mn, .ref mk, .int (nI sg), .ref ms, .int (nI sn), .ref mp, .int ud, .ref mq, .int rz, .int az, .ref mi, .ref mz, .ref ma, .ref mc])), (mb, .inl (cyI, 97, .inl bk)), (mk, .inl (cyI, 4, .inl kn)), (ms, .inl (cyI, 16, .inl sh)), (mi, .inl (cyI, 300, .inl g2)), (mz, .inl (cyZ, 2, .inl zk))] → va_S A s.heap H locs → ∀ (ls : Array Slot), lv_has ls 4 [(3, .int (nI j48)), (2, .int (nI (150 * kni.toNatClampNeg))), (0, .ref hm), (1, .int kni)] → W p l e (headSpec wsX6_image ({ frames := 1, cells := 0, slots := 0, locals := 22 } : Room)).room s m ([.ref hm, .int kni] : List Value).toArray below meth c H locs 0 0 (MQ below (kx_Qi r.1 (dC, dI) [(hm, .inr (6, [.ref mb, .ref mn, .ref mk, .int (nI sg), .ref ms, .int (nI sn), .ref mp, .int ud, .ref mq, .int rz, .int az, .ref mi, .ref mz, .ref ma, .ref mc])), (mb, .inl (cyI, 97, .inl bk)), (mk, .inl (cyI, 4, .inl kn)), (ms, .inl (cyI, 16, .inl sh)), (mi, .inl (cyI, 300, .inl im)), (mz, .inl (cyZ, 2, .inl zk))] [(hm, .inr (6, [.ref mb, .ref mn, .ref mk, .int (nI sg), .ref ms, .int (nI sn), .ref mp, .int ud, .ref mq, .int rz, .int az, .ref mi, .ref mz, .ref ma, .ref mc])), (mb, .inl (cyI, 97, .inl bk)), (mk, .inl (cyI, 4, .inl kn)), (ms, .inl (cyI, 16, .inl sh)), (mi, .inl (cyI, 300, .inl r.2.1)), (mz, .inl (cyZ, 2, .inl r.2.2))] s.heap.size) ([.ref hm, .int kni] : List Value).toArray s 0 0 (va_A [(hm, .inr (6, [.ref mb, .ref mn, .ref mk, .int (nI sg), .ref ms, .int (nI sn), .ref mp, .int ud, .ref mq, .int rz, .int az, .ref mi, .ref mz, .ref ma, .ref mc])), (mb, .inl (cyI, 97, .inl bk)), (mk, .inl (cyI, 4, .inl kn)), (ms, .inl (cyI, 16, .inl sh)), (mi, .inl (cyI, 300, .inl im)), (mz, .inl (cyZ, 2, .inl zk))] s.heap.size)) (F0 m 48 ls []) := by
          intro r48
          induction r48 with
          | zero =>
            intro j48 g2 hrj hz48 H locs hP hD hS ls hl
            rw [fX6_image_L48] at hz48
            subst hz48
            try dsimp only at hF
            refine lv_iload_n hx hb dX6_image_48 rfl (lv_at hl 0 rfl) ?_
            refine lv_iconst (v := (4 : Int32)) hx hb dX6_image_49 (by decide) ?_
            refine kx_ge hx hb (j48) (4) rfl rfl (by omega) (by omega) dX6_image_50 (by decide) (tgt := 76) (fun c50 => ?_) (fun c50 => absurd c50 (by omega))
            refine lv_iconst (v := (0 : Int32)) hx hb dX6_image_76 (by decide) ?_
            refine lv_istore_n (lv' := [(3, .int (0 : Int32)), (2, .int (nI (150 * kni.toNatClampNeg))), (0, .ref hm), (1, .int kni)]) hx hb dX6_image_77 rfl hl (by decide) rfl (fun ls hl => ?_)
            generalize hz78 : fX6_image_L78 sh kni 16 0 g2 = z78 at hF
            have LP78 : ∀ (r78 : Nat) (j78 : Nat) (g3 : Nat → Int32), r78 + j78 = 16 → fX6_image_L78 sh kni r78 j78 g3 = z78 → ∀ (H : Heap) (locs : List Loc), va_P (dC, dI) vwCl [(hm, .inr (6, [.ref mb, .ref mn, .ref mk, .int (nI sg), .ref ms, .int (nI sn), .ref mp, .int ud, .ref mq, .int rz, .int az, .ref mi, .ref mz, .ref ma, .ref mc])), (mb, .inl (cyI, 97, .inl bk)), (mk, .inl (cyI, 4, .inl kn)), (ms, .inl (cyI, 16, .inl sh)), (mi, .inl (cyI, 300, .inl g3)), (mz, .inl (cyZ, 2, .inl zk))] H → va_D A [(hm, .inr (6, [.ref mb, .ref mn, .ref mk, .int (nI sg), .ref ms, .int (nI sn), .ref mp, .int ud, .ref mq, .int rz, .int az, .ref mi, .ref mz, .ref ma, .ref mc])), (mb, .inl (cyI, 97, .inl bk)), (mk, .inl (cyI, 4, .inl kn)), (ms, .inl (cyI, 16, .inl sh)), (mi, .inl (cyI, 300, .inl g3)), (mz, .inl (cyZ, 2, .inl zk))] → va_S A s.heap H locs → ∀ (ls : Array Slot), lv_has ls 4 [(3, .int (nI j78)), (2, .int (nI (150 * kni.toNatClampNeg))), (0, .ref hm), (1, .int kni)] → W p l e (headSpec wsX6_image ({ frames := 1, cells := 0, slots := 0, locals := 22 } : Room)).room s m ([.ref hm, .int kni] : List Value).toArray below meth c H locs 0 0 (MQ below (kx_Qi r.1 (dC, dI) [(hm, .inr (6, [.ref mb, .ref mn, .ref mk, .int (nI sg), .ref ms, .int (nI sn), .ref mp, .int ud, .ref mq, .int rz, .int az, .ref mi, .ref mz, .ref ma, .ref mc])), (mb, .inl (cyI, 97, .inl bk)), (mk, .inl (cyI, 4, .inl kn)), (ms, .inl (cyI, 16, .inl sh)), (mi, .inl (cyI, 300, .inl im)), (mz, .inl (cyZ, 2, .inl zk))] [(hm, .inr (6, [.ref mb, .ref mn, .ref mk, .int (nI sg), .ref ms, .int (nI sn), .ref mp, .int ud, .ref mq, .int rz, .int az, .ref mi, .ref mz, .ref ma, .ref mc])), (mb, .inl (cyI, 97, .inl bk)), (mk, .inl (cyI, 4, .inl kn)), (ms, .inl (cyI, 16, .inl sh)), (mi, .inl (cyI, 300, .inl r.2.1)), (mz, .inl (cyZ, 2, .inl r.2.2))] s.heap.size) ([.ref hm, .int kni] : List Value).toArray s 0 0 (va_A [(hm, .inr (6, [.ref mb, .ref mn, .ref mk, .int (nI sg), .ref ms, .int (nI sn), .ref mp, .int ud, .ref mq, .int rz, .int az, .ref mi, .ref mz, .ref ma, .ref mc])), (mb, .inl (cyI, 97, .inl bk)), (mk, .inl (cyI, 4, .inl kn)), (ms, .inl (cyI, 16, .inl sh)), (mi, .inl (cyI, 300, .inl im)), (mz, .inl (cyZ, 2, .inl zk))] s.heap.size)) (F0 m 78 ls []) := by
              intro r78
              induction r78 with
              | zero =>
                intro j78 g3 hrj hz78 H locs hP hD hS ls hl
                rw [fX6_image_L78] at hz78
                subst hz78
                try dsimp only at hF
                refine lv_iload_n hx hb dX6_image_78 rfl (lv_at hl 0 rfl) ?_
                refine lv_bipush (v := (16 : Int32)) hx hb dX6_image_79 (by decide) ?_
                refine kx_ge hx hb (j78) (16) rfl rfl (by omega) (by omega) dX6_image_81 (by decide) (tgt := 107) (fun c81 => ?_) (fun c81 => absurd c81 (by omega))
                refine lv_aload_n hx hb dX6_image_107 rfl (lv_at hl 2 rfl) ?_
                refine va_get (D := (dC, dI)) (ci := 6) (v := .ref mi) (C := RX6) (T := TX6) (N := 15) hx hb hts hiX6 hown hK hP 0 rfl rfl 11 (by decide) fl28 (fun _ h9 => h9) rfl dX6_image_108 ?_
                refine lv_iload_n hx hb dX6_image_111 rfl (lv_at hl 1 rfl) ?_
                refine lv_sipush (v := (130 : Int32)) hx hb dX6_image_112 (by decide) ?_
                refine lv_iadd hx hb dX6_image_115 ?_
                refine kx_e (nI_add (150 * kni.toNatClampNeg) (130)) ?_
                refine lv_aload_n hx hb dX6_image_116 rfl (lv_at hl 2 rfl) ?_
                refine va_get (D := (dC, dI)) (ci := 6) (v := .int (nI sg)) (C := RX6) (T := TX6) (N := 15) hx hb hts hiX6 hown hK hP 0 rfl rfl 3 (by decide) fl134 (fun _ h9 => h9) rfl dX6_image_117 ?_
                refine kx_st hx hb hK hP hD hS 4 0 rfl rfl (150 * kni.toNatClampNeg + 130) rfl (by omega) (by decide) dX6_image_120 (fun H locs hP hD hS => ?_)
                have hP : va_P (dC, dI) vwCl [(hm, .inr (6, [.ref mb, .ref mn, .ref mk, .int (nI sg), .ref ms, .int (nI sn), .ref mp, .int ud, .ref mq, .int rz, .int az, .ref mi, .ref mz, .ref ma, .ref mc])), (mb, .inl (cyI, 97, .inl bk)), (mk, .inl (cyI, 4, .inl kn)), (ms, .inl (cyI, 16, .inl sh)), (mi, .inl (cyI, 300, .inl (upd g3 (150 * kni.toNatClampNeg + 130) (nI sg)))), (mz, .inl (cyZ, 2, .inl zk))] H := hP
                have hD : va_D A [(hm, .inr (6, [.ref mb, .ref mn, .ref mk, .int (nI sg), .ref ms, .int (nI sn), .ref mp, .int ud, .ref mq, .int rz, .int az, .ref mi, .ref mz, .ref ma, .ref mc])), (mb, .inl (cyI, 97, .inl bk)), (mk, .inl (cyI, 4, .inl kn)), (ms, .inl (cyI, 16, .inl sh)), (mi, .inl (cyI, 300, .inl (upd g3 (150 * kni.toNatClampNeg + 130) (nI sg)))), (mz, .inl (cyZ, 2, .inl zk))] := hD
                refine lv_aload_n hx hb dX6_image_121 rfl (lv_at hl 2 rfl) ?_
                refine va_get (D := (dC, dI)) (ci := 6) (v := .ref mz) (C := RX6) (T := TX6) (N := 15) hx hb hts hiX6 hown hK hP 0 rfl rfl 12 (by decide) fl31 (fun _ h9 => h9) rfl dX6_image_122 ?_
                refine lv_iload_n hx hb dX6_image_125 rfl (lv_at hl 3 rfl) ?_
                refine kx_e hk1 ?_
                refine lv_iconst (v := (1 : Int32)) hx hb dX6_image_126 (by decide) ?_
                refine kx_zst hx hb hK hP hD hS 5 1 rfl rfl (kni.toNatClampNeg) rfl (by omega) (by decide) rfl dX6_image_127 (fun H locs hP hD hS => ?_)
                have hP : va_P (dC, dI) vwCl [(hm, .inr (6, [.ref mb, .ref mn, .ref mk, .int (nI sg), .ref ms, .int (nI sn), .ref mp, .int ud, .ref mq, .int rz, .int az, .ref mi, .ref mz, .ref ma, .ref mc])), (mb, .inl (cyI, 97, .inl bk)), (mk, .inl (cyI, 4, .inl kn)), (ms, .inl (cyI, 16, .inl sh)), (mi, .inl (cyI, 300, .inl (upd g3 (150 * kni.toNatClampNeg + 130) (nI sg)))), (mz, .inl (cyZ, 2, .inl (upd zk kni.toNatClampNeg (1 : Int32))))] H := hP
                have hD : va_D A [(hm, .inr (6, [.ref mb, .ref mn, .ref mk, .int (nI sg), .ref ms, .int (nI sn), .ref mp, .int ud, .ref mq, .int rz, .int az, .ref mi, .ref mz, .ref ma, .ref mc])), (mb, .inl (cyI, 97, .inl bk)), (mk, .inl (cyI, 4, .inl kn)), (ms, .inl (cyI, 16, .inl sh)), (mi, .inl (cyI, 300, .inl (upd g3 (150 * kni.toNatClampNeg + 130) (nI sg)))), (mz, .inl (cyZ, 2, .inl (upd zk kni.toNatClampNeg (1 : Int32))))] := hD
                refine lv_iconst (v := (1 : Int32)) hx hb dX6_image_128 (by decide) ?_
                subst hF
                subst hAe
                exact W.iret hx hb hr (fun t ht _ => ⟨⟨_, (), rfl, rfl, by rw [ht]; exact hP, hD⟩, hS.F ht⟩) hS.2.2 dX6_image_129
              | succ r78 ih =>
                intro j78 g3 hrj hz78 H locs hP hD hS ls hl
                rw [fX6_image_L78] at hz78
                refine lv_iload_n hx hb dX6_image_78 rfl (lv_at hl 0 rfl) ?_
                refine lv_bipush (v := (16 : Int32)) hx hb dX6_image_79 (by decide) ?_
                refine kx_ge hx hb (j78) (16) rfl rfl (by omega) (by omega) dX6_image_81 (by decide) (tgt := 107) (fun c81 => absurd c81 (by omega)) (fun c81 => ?_)
                refine lv_aload_n hx hb dX6_image_84 rfl (lv_at hl 2 rfl) ?_
                refine va_get (D := (dC, dI)) (ci := 6) (v := .ref mi) (C := RX6) (T := TX6) (N := 15) hx hb hts hiX6 hown hK hP 0 rfl rfl 11 (by decide) fl28 (fun _ h9 => h9) rfl dX6_image_85 ?_
                refine lv_iload_n hx hb dX6_image_88 rfl (lv_at hl 1 rfl) ?_
                refine lv_bipush (v := (110 : Int32)) hx hb dX6_image_89 (by decide) ?_
                refine lv_iadd hx hb dX6_image_91 ?_
                refine kx_e (nI_add (150 * kni.toNatClampNeg) (110)) ?_
                refine lv_iload_n hx hb dX6_image_92 rfl (lv_at hl 0 rfl) ?_
                refine lv_iadd hx hb dX6_image_93 ?_
                refine kx_e (nI_add (150 * kni.toNatClampNeg + 110) (j78)) ?_
                refine lv_aload_n hx hb dX6_image_94 rfl (lv_at hl 2 rfl) ?_
                refine va_get (D := (dC, dI)) (ci := 6) (v := .ref ms) (C := RX6) (T := TX6) (N := 15) hx hb hts hiX6 hown hK hP 0 rfl rfl 4 (by decide) fl19 (fun _ h9 => h9) rfl dX6_image_95 ?_
                refine lv_iload_n hx hb dX6_image_98 rfl (lv_at hl 0 rfl) ?_
                refine kx_ld hx hb hK hP 3 0 rfl rfl (j78) rfl (by omega) (by decide) dX6_image_99 ?_
                refine kx_st hx hb hK hP hD hS 4 0 rfl rfl (150 * kni.toNatClampNeg + 110 + j78) rfl (by omega) (by decide) dX6_image_100 (fun H locs hP hD hS => ?_)
                have hP : va_P (dC, dI) vwCl [(hm, .inr (6, [.ref mb, .ref mn, .ref mk, .int (nI sg), .ref ms, .int (nI sn), .ref mp, .int ud, .ref mq, .int rz, .int az, .ref mi, .ref mz, .ref ma, .ref mc])), (mb, .inl (cyI, 97, .inl bk)), (mk, .inl (cyI, 4, .inl kn)), (ms, .inl (cyI, 16, .inl sh)), (mi, .inl (cyI, 300, .inl (upd g3 (150 * kni.toNatClampNeg + 110 + j78) (sh j78)))), (mz, .inl (cyZ, 2, .inl zk))] H := hP
                have hD : va_D A [(hm, .inr (6, [.ref mb, .ref mn, .ref mk, .int (nI sg), .ref ms, .int (nI sn), .ref mp, .int ud, .ref mq, .int rz, .int az, .ref mi, .ref mz, .ref ma, .ref mc])), (mb, .inl (cyI, 97, .inl bk)), (mk, .inl (cyI, 4, .inl kn)), (ms, .inl (cyI, 16, .inl sh)), (mi, .inl (cyI, 300, .inl (upd g3 (150 * kni.toNatClampNeg + 110 + j78) (sh j78)))), (mz, .inl (cyZ, 2, .inl zk))] := hD
                refine lv_iinc (v := (nI (j78 + 1))) (lv' := [(3, .int (nI (j78 + 1))), (2, .int (nI (150 * kni.toNatClampNeg))), (0, .ref hm), (1, .int kni)]) hx hb dX6_image_101 hl (k := 0) rfl (by exact nI_add (j78) 1) (by decide) rfl (fun ls hl => ?_)
                refine lv_goto (tgt := 78) hx hb dX6_image_104 (by decide) ?_
                exact ih (j78 + 1) (upd g3 (150 * kni.toNatClampNeg + 110 + j78) (sh j78)) (by omega)  hz78 _ _ hP hD hS _ (lv_sub hl [0, 1, 2, 3] rfl)
            exact LP78 16 0 g2 (by omega)  hz78 _ _ hP hD hS _ (lv_sub hl [0, 1, 2, 3] rfl)
          | succ r48 ih =>
            intro j48 g2 hrj hz48 H locs hP hD hS ls hl
            rw [fX6_image_L48] at hz48
            refine lv_iload_n hx hb dX6_image_48 rfl (lv_at hl 0 rfl) ?_
            refine lv_iconst (v := (4 : Int32)) hx hb dX6_image_49 (by decide) ?_
            refine kx_ge hx hb (j48) (4) rfl rfl (by omega) (by omega) dX6_image_50 (by decide) (tgt := 76) (fun c50 => absurd c50 (by omega)) (fun c50 => ?_)
            refine lv_aload_n hx hb dX6_image_53 rfl (lv_at hl 2 rfl) ?_
            refine va_get (D := (dC, dI)) (ci := 6) (v := .ref mi) (C := RX6) (T := TX6) (N := 15) hx hb hts hiX6 hown hK hP 0 rfl rfl 11 (by decide) fl28 (fun _ h9 => h9) rfl dX6_image_54 ?_
            refine lv_iload_n hx hb dX6_image_57 rfl (lv_at hl 1 rfl) ?_
            refine lv_bipush (v := (100 : Int32)) hx hb dX6_image_58 (by decide) ?_
            refine lv_iadd hx hb dX6_image_60 ?_
            refine kx_e (nI_add (150 * kni.toNatClampNeg) (100)) ?_
            refine lv_iload_n hx hb dX6_image_61 rfl (lv_at hl 0 rfl) ?_
            refine lv_iadd hx hb dX6_image_62 ?_
            refine kx_e (nI_add (150 * kni.toNatClampNeg + 100) (j48)) ?_
            refine lv_aload_n hx hb dX6_image_63 rfl (lv_at hl 2 rfl) ?_
            refine va_get (D := (dC, dI)) (ci := 6) (v := .ref mk) (C := RX6) (T := TX6) (N := 15) hx hb hts hiX6 hown hK hP 0 rfl rfl 2 (by decide) fl16 (fun _ h9 => h9) rfl dX6_image_64 ?_
            refine lv_iload_n hx hb dX6_image_67 rfl (lv_at hl 0 rfl) ?_
            refine kx_ld hx hb hK hP 2 0 rfl rfl (j48) rfl (by omega) (by decide) dX6_image_68 ?_
            refine kx_st hx hb hK hP hD hS 4 0 rfl rfl (150 * kni.toNatClampNeg + 100 + j48) rfl (by omega) (by decide) dX6_image_69 (fun H locs hP hD hS => ?_)
            have hP : va_P (dC, dI) vwCl [(hm, .inr (6, [.ref mb, .ref mn, .ref mk, .int (nI sg), .ref ms, .int (nI sn), .ref mp, .int ud, .ref mq, .int rz, .int az, .ref mi, .ref mz, .ref ma, .ref mc])), (mb, .inl (cyI, 97, .inl bk)), (mk, .inl (cyI, 4, .inl kn)), (ms, .inl (cyI, 16, .inl sh)), (mi, .inl (cyI, 300, .inl (upd g2 (150 * kni.toNatClampNeg + 100 + j48) (kn j48)))), (mz, .inl (cyZ, 2, .inl zk))] H := hP
            have hD : va_D A [(hm, .inr (6, [.ref mb, .ref mn, .ref mk, .int (nI sg), .ref ms, .int (nI sn), .ref mp, .int ud, .ref mq, .int rz, .int az, .ref mi, .ref mz, .ref ma, .ref mc])), (mb, .inl (cyI, 97, .inl bk)), (mk, .inl (cyI, 4, .inl kn)), (ms, .inl (cyI, 16, .inl sh)), (mi, .inl (cyI, 300, .inl (upd g2 (150 * kni.toNatClampNeg + 100 + j48) (kn j48)))), (mz, .inl (cyZ, 2, .inl zk))] := hD
            refine lv_iinc (v := (nI (j48 + 1))) (lv' := [(3, .int (nI (j48 + 1))), (2, .int (nI (150 * kni.toNatClampNeg))), (0, .ref hm), (1, .int kni)]) hx hb dX6_image_70 hl (k := 0) rfl (by exact nI_add (j48) 1) (by decide) rfl (fun ls hl => ?_)
            refine lv_goto (tgt := 48) hx hb dX6_image_73 (by decide) ?_
            exact ih (j48 + 1) (upd g2 (150 * kni.toNatClampNeg + 100 + j48) (kn j48)) (by omega)  hz48 _ _ hP hD hS _ (lv_sub hl [0, 1, 2, 3] rfl)
        exact LP48 4 0 g1 (by omega)  hz48 _ _ hP hD hS _ (lv_sub hl [0, 1, 2, 3] rfl)
      | succ r20 ih =>
        intro j20 g1 hrj hz20 H locs hP hD hS ls hl
        rw [fX6_image_L20] at hz20
        refine lv_iload_n hx hb dX6_image_20 rfl (lv_at hl 0 rfl) ?_
        refine lv_bipush (v := (97 : Int32)) hx hb dX6_image_21 (by decide) ?_
        refine kx_ge hx hb (j20) (97) rfl rfl (by omega) (by omega) dX6_image_23 (by decide) (tgt := 46) (fun c23 => absurd c23 (by omega)) (fun c23 => ?_)
        refine lv_aload_n hx hb dX6_image_26 rfl (lv_at hl 2 rfl) ?_
        refine va_get (D := (dC, dI)) (ci := 6) (v := .ref mi) (C := RX6) (T := TX6) (N := 15) hx hb hts hiX6 hown hK hP 0 rfl rfl 11 (by decide) fl28 (fun _ h9 => h9) rfl dX6_image_27 ?_
        refine lv_iload_n hx hb dX6_image_30 rfl (lv_at hl 1 rfl) ?_
        refine lv_iload_n hx hb dX6_image_31 rfl (lv_at hl 0 rfl) ?_
        refine lv_iadd hx hb dX6_image_32 ?_
        refine kx_e (nI_add (150 * kni.toNatClampNeg) (j20)) ?_
        refine lv_aload_n hx hb dX6_image_33 rfl (lv_at hl 2 rfl) ?_
        refine va_get (D := (dC, dI)) (ci := 6) (v := .ref mb) (C := RX6) (T := TX6) (N := 15) hx hb hts hiX6 hown hK hP 0 rfl rfl 0 (by decide) fl7 (fun _ h9 => h9) rfl dX6_image_34 ?_
        refine lv_iload_n hx hb dX6_image_37 rfl (lv_at hl 0 rfl) ?_
        refine kx_ld hx hb hK hP 1 0 rfl rfl (j20) rfl (by omega) (by decide) dX6_image_38 ?_
        refine kx_st hx hb hK hP hD hS 4 0 rfl rfl (150 * kni.toNatClampNeg + j20) rfl (by omega) (by decide) dX6_image_39 (fun H locs hP hD hS => ?_)
        have hP : va_P (dC, dI) vwCl [(hm, .inr (6, [.ref mb, .ref mn, .ref mk, .int (nI sg), .ref ms, .int (nI sn), .ref mp, .int ud, .ref mq, .int rz, .int az, .ref mi, .ref mz, .ref ma, .ref mc])), (mb, .inl (cyI, 97, .inl bk)), (mk, .inl (cyI, 4, .inl kn)), (ms, .inl (cyI, 16, .inl sh)), (mi, .inl (cyI, 300, .inl (upd g1 (150 * kni.toNatClampNeg + j20) (bk j20)))), (mz, .inl (cyZ, 2, .inl zk))] H := hP
        have hD : va_D A [(hm, .inr (6, [.ref mb, .ref mn, .ref mk, .int (nI sg), .ref ms, .int (nI sn), .ref mp, .int ud, .ref mq, .int rz, .int az, .ref mi, .ref mz, .ref ma, .ref mc])), (mb, .inl (cyI, 97, .inl bk)), (mk, .inl (cyI, 4, .inl kn)), (ms, .inl (cyI, 16, .inl sh)), (mi, .inl (cyI, 300, .inl (upd g1 (150 * kni.toNatClampNeg + j20) (bk j20)))), (mz, .inl (cyZ, 2, .inl zk))] := hD
        refine lv_iinc (v := (nI (j20 + 1))) (lv' := [(3, .int (nI (j20 + 1))), (2, .int (nI (150 * kni.toNatClampNeg))), (0, .ref hm), (1, .int kni)]) hx hb dX6_image_40 hl (k := 0) rfl (by exact nI_add (j20) 1) (by decide) rfl (fun ls hl => ?_)
        refine lv_goto (tgt := 20) hx hb dX6_image_43 (by decide) ?_
        exact ih (j20 + 1) (upd g1 (150 * kni.toNatClampNeg + j20) (bk j20)) (by omega)  hz20 _ _ hP hD hS _ (lv_sub hl [0, 1, 2, 3] rfl)
    exact LP20 97 0 im (by omega)  hz20 _ _ hP hD hS _ (lv_sub hl [0, 1, 2, 3] rfl)
  · rw [if_pos c6] at hF
    refine lv_bipush (v := (-2 : Int32)) hx hb dX6_image_9 (by decide) ?_
    subst hF
    subst hAe
    exact W.iret hx hb hr (fun t ht _ => ⟨⟨_, (), rfl, rfl, by rw [ht]; exact hP, hD⟩, hS.F ht⟩) hS.2.2 dX6_image_11

def fX6_restore_L90 (im : Nat → Int32) (kni : Int32) : Nat → Nat → (Nat → Int32) → (Nat → Int32)
  | 0, _, g3 => g3
  | r90 + 1, j90, g3 => (fX6_restore_L90 im kni r90 (j90 + 1) (upd g3 j90 (im (150 * kni.toNatClampNeg + 110 + j90))))
def fX6_restore_L60 (im : Nat → Int32) (kni : Int32) : Nat → Nat → (Nat → Int32) → (Nat → Int32)
  | 0, _, g2 => g2
  | r60 + 1, j60, g2 => (fX6_restore_L60 im kni r60 (j60 + 1) (upd g2 j60 (im (150 * kni.toNatClampNeg + 100 + j60))))
def fX6_restore_L32 (im : Nat → Int32) (kni : Int32) : Nat → Nat → (Nat → Int32) → (Nat → Int32)
  | 0, _, g1 => g1
  | r32 + 1, j32, g1 => (fX6_restore_L32 im kni r32 (j32 + 1) (upd g1 j32 (im (150 * kni.toNatClampNeg + j32))))
def fX6_restore (sg : Nat) (bk : Nat → Int32) (kn : Nat → Int32) (sh : Nat → Int32) (im : Nat → Int32) (zk : Nat → Int32) (kni : Int32) : Int32 × (Nat → Int32) × (Nat → Int32) × (Nat → Int32) × Nat :=
  (if (fX6_in kni (0 : Int32) (1 : Int32)) = 0 then ((-2 : Int32), bk, kn, sh, sg) else (if (zk kni.toNatClampNeg) = 0 then ((-3 : Int32), bk, kn, sh, sg) else ((fun (g1 : Nat → Int32) => ((fun (g2 : Nat → Int32) => ((fun (g3 : Nat → Int32) => ((1 : Int32), g1, g2, g3, (im (150 * kni.toNatClampNeg + 130)).toNatClampNeg)) (fX6_restore_L90 im kni 16 0 sh))) (fX6_restore_L60 im kni 4 0 kn))) (fX6_restore_L32 im kni 97 0 bk))))
set_option maxHeartbeats 4000000 in
set_option maxRecDepth 100000 in
theorem c_X6_restore (l : Launch) (dC : Nat → ClassId) (dI : Nat → Nat → Nat) (cyI cyZ : ClassId) (hm mb mn mk ms mp mq mi mz ma mc : Nat) (sg : Nat) (sn : Nat) (ud : Int32) (rz : Int32) (az : Int32) (bk : Nat → Int32) (kn : Nat → Int32) (sh : Nat → Int32) (im : Nat → Int32) (zk : Nat → Int32) (kni : Int32) (himg : ∀ i, i < 2 → ¬ zk i = 0 → kx_M im i) (sz : Nat) (r : Int32 × (Nat → Int32) × (Nat → Int32) × (Nat → Int32) × Nat) (hF : fX6_restore sg bk kn sh im zk kni = r) : Met l yX6_restore wsX6_restore ({ frames := 1, cells := 0, slots := 0, locals := 22 }) (kx_wp (dC, dI) [(hm, .inr (6, [.ref mb, .ref mn, .ref mk, .int (nI sg), .ref ms, .int (nI sn), .ref mp, .int ud, .ref mq, .int rz, .int az, .ref mi, .ref mz, .ref ma, .ref mc])), (mb, .inl (cyI, 97, .inl bk)), (mk, .inl (cyI, 4, .inl kn)), (ms, .inl (cyI, 16, .inl sh)), (mi, .inl (cyI, 300, .inl im)), (mz, .inl (cyZ, 2, .inl zk))] [(cyI, .int), (cyZ, .boolean)] sz [.ref hm, .int kni]) (kx_Qi r.1 (dC, dI) [(hm, .inr (6, [.ref mb, .ref mn, .ref mk, .int (nI sg), .ref ms, .int (nI sn), .ref mp, .int ud, .ref mq, .int rz, .int az, .ref mi, .ref mz, .ref ma, .ref mc])), (mb, .inl (cyI, 97, .inl bk)), (mk, .inl (cyI, 4, .inl kn)), (ms, .inl (cyI, 16, .inl sh)), (mi, .inl (cyI, 300, .inl im)), (mz, .inl (cyZ, 2, .inl zk))] [(hm, .inr (6, [.ref mb, .ref mn, .ref mk, .int (nI (r.2.2.2.2)), .ref ms, .int (nI sn), .ref mp, .int ud, .ref mq, .int rz, .int az, .ref mi, .ref mz, .ref ma, .ref mc])), (mb, .inl (cyI, 97, .inl r.2.1)), (mk, .inl (cyI, 4, .inl r.2.2.1)), (ms, .inl (cyI, 16, .inl r.2.2.2.1)), (mi, .inl (cyI, 300, .inl im)), (mz, .inl (cyZ, 2, .inl zk))] sz) 0 0 (va_A [(hm, .inr (6, [.ref mb, .ref mn, .ref mk, .int (nI sg), .ref ms, .int (nI sn), .ref mp, .int ud, .ref mq, .int rz, .int az, .ref mi, .ref mz, .ref ma, .ref mc])), (mb, .inl (cyI, 97, .inl bk)), (mk, .inl (cyI, 4, .inl kn)), (ms, .inl (cyI, 16, .inl sh)), (mi, .inl (cyI, 300, .inl im)), (mz, .inl (cyZ, 2, .inl zk))] sz) := by
  refine Met.ofW (cc := cX6_restore) (maxL := 4) (ret := (some .int)) (by decide) rfl ?_
  intro p e s m args below meth c s₁ B hml hv
  obtain ⟨rfl, hsz, hP, hK, hN, hD0⟩ := hv
  have hx := B.exec
  have hb := B.bytes
  have hr := B.returns
  have hts := atoms_spec (ws := wsX6_restore) B.pre
  have hown : s.vm.findClass RX6 = some m.cls := findClass_of_methodNamed B.named
  have hlocks := B.notSynchronized
  subst hsz
  obtain ⟨A, hAe⟩ : ∃ A, A = va_A [(hm, .inr (6, [.ref mb, .ref mn, .ref mk, .int (nI sg), .ref ms, .int (nI sn), .ref mp, .int ud, .ref mq, .int rz, .int az, .ref mi, .ref mz, .ref ma, .ref mc])), (mb, .inl (cyI, 97, .inl bk)), (mk, .inl (cyI, 4, .inl kn)), (ms, .inl (cyI, 16, .inl sh)), (mi, .inl (cyI, 300, .inl im)), (mz, .inl (cyZ, 2, .inl zk))] s.heap.size := ⟨_, rfl⟩
  have hD : va_D A [(hm, .inr (6, [.ref mb, .ref mn, .ref mk, .int (nI sg), .ref ms, .int (nI sn), .ref mp, .int ud, .ref mq, .int rz, .int az, .ref mi, .ref mz, .ref ma, .ref mc])), (mb, .inl (cyI, 97, .inl bk)), (mk, .inl (cyI, 4, .inl kn)), (ms, .inl (cyI, 16, .inl sh)), (mi, .inl (cyI, 300, .inl im)), (mz, .inl (cyZ, 2, .inl zk))] := by rw [hAe]; exact hD0.self
  have hA : ∀ q : Nat, s.heap.size ≤ q → A q := fun q h => by rw [hAe]; exact Or.inr h
  have hS : va_S A s.heap s.heap [] := va_S.rf
  have hiX6 : ∀ w ∈ wsX60, w ∈ wsX6_restore := by decide +kernel
  have fl7 := hts (.fieldLink RX6 7 "KnitChronicleModel" "book" "[I") (by decide +kernel)
  have fl16 := hts (.fieldLink RX6 16 "KnitChronicleModel" "knits" "[I") (by decide +kernel)
  have fl19 := hts (.fieldLink RX6 19 "KnitChronicleModel" "sight" "[I") (by decide +kernel)
  have fl28 := hts (.fieldLink RX6 28 "KnitChronicleModel" "image" "[I") (by decide +kernel)
  have fl31 := hts (.fieldLink RX6 31 "KnitChronicleModel" "isKept" "[Z") (by decide +kernel)
  have fl134 := hts (.fieldLink RX6 134 "KnitChronicleModel" "sights" "I") (by decide +kernel)
  have hl := lv_entry ([.ref hm, .int kni]) (n := 4) (Nat.le_of_ble_eq_true rfl)
  rw [lg_entry_eq]
  generalize (lg_sl ([.ref hm, .int kni]) ++ List.replicate (4 - (lg_sl ([.ref hm, .int kni])).length) Slot.unset).toArray = ls at hl ⊢
  have hl : lv_has ls 4 [(0, .ref hm), (1, .int kni)] := hl
  unfold fX6_restore at hF
  refine lv_iload_n hx hb dX6_restore_0 rfl (lv_at hl 1 rfl) ?_
  refine lv_iconst (v := (0 : Int32)) hx hb dX6_restore_1 (by decide) ?_
  refine lv_iconst (v := (1 : Int32)) hx hb dX6_restore_2 (by decide) ?_
  refine kx_cS (As := [.int kni, .int (0 : Int32), .int (1 : Int32)]) (rest := []) ⟨hx, hb, hml, hown, hts⟩ (c_X6_in l dC dI cyI cyZ  kni (0 : Int32) (1 : Int32)  _ rfl) (va_cwS 3 hts gX6_restore_X6_in rfl rfl rfl (by decide +kernel) ⟨Nat.le_of_ble_eq_true rfl, Nat.le_of_ble_eq_true rfl⟩) hP hK hN [] rfl [0, 1] rfl rfl hl.1 rfl (Nat.le_of_ble_eq_true rfl) dX6_restore_3 ⟨Nat.zero_le _, Nat.zero_le _⟩ ?_
  refine lv_if_ne (tgt := 12) hx hb dX6_restore_6 (by decide) (fun c6 => ?_) (fun c6 => ?_)
  · rw [if_neg c6] at hF
    obtain ⟨hk1, hk2, hk3⟩ := fX6_in_P 0 1 (by decide) (by decide) c6
    refine lv_aload_n hx hb dX6_restore_12 rfl (lv_at hl 0 rfl) ?_
    refine va_get (D := (dC, dI)) (ci := 6) (v := .ref mz) (C := RX6) (T := TX6) (N := 15) hx hb hts hiX6 hown hK hP 0 rfl rfl 12 (by decide) fl31 (fun _ h9 => h9) rfl dX6_restore_13 ?_
    refine lv_iload_n hx hb dX6_restore_16 rfl (lv_at hl 1 rfl) ?_
    refine kx_e hk1 ?_
    refine kx_zld hx hb hK hP 5 1 rfl rfl (kni.toNatClampNeg) rfl (by omega) (by decide) dX6_restore_17 ?_
    refine lv_if_ne (tgt := 24) hx hb dX6_restore_18 (by decide) (fun c18 => ?_) (fun c18 => ?_)
    · rw [if_neg c18] at hF
      have hM := himg _ (by omega) c18
      refine lv_sipush (v := (150 : Int32)) hx hb dX6_restore_24 (by decide) ?_
      refine lv_iload_n hx hb dX6_restore_27 rfl (lv_at hl 1 rfl) ?_
      refine kx_e hk1 ?_
      refine lv_imul hx hb dX6_restore_28 ?_
      refine kx_e (pk_mul (150) (kni.toNatClampNeg)) ?_
      refine lv_istore_n (lv' := [(2, .int (nI (150 * kni.toNatClampNeg))), (0, .ref hm), (1, .int kni)]) hx hb dX6_restore_29 rfl hl (by decide) rfl (fun ls hl => ?_)
      refine lv_iconst (v := (0 : Int32)) hx hb dX6_restore_30 (by decide) ?_
      refine lv_istore_n (lv' := [(3, .int (0 : Int32)), (2, .int (nI (150 * kni.toNatClampNeg))), (0, .ref hm), (1, .int kni)]) hx hb dX6_restore_31 rfl hl (by decide) rfl (fun ls hl => ?_)
      generalize hz32 : fX6_restore_L32 im kni 97 0 bk = z32 at hF
      have LP32 : ∀ (r32 : Nat) (j32 : Nat) (g1 : Nat → Int32), r32 + j32 = 97 → fX6_restore_L32 im kni r32 j32 g1 = z32 → ∀ (H : Heap) (locs : List Loc), va_P (dC, dI) vwCl [(hm, .inr (6, [.ref mb, .ref mn, .ref mk, .int (nI sg), .ref ms, .int (nI sn), .ref mp, .int ud, .ref mq, .int rz, .int az, .ref mi, .ref mz, .ref ma, .ref mc])), (mb, .inl (cyI, 97, .inl g1)), (mk, .inl (cyI, 4, .inl kn)), (ms, .inl (cyI, 16, .inl sh)), (mi, .inl (cyI, 300, .inl im)), (mz, .inl (cyZ, 2, .inl zk))] H → va_D A [(hm, .inr (6, [.ref mb, .ref mn, .ref mk, .int (nI sg), .ref ms, .int (nI sn), .ref mp, .int ud, .ref mq, .int rz, .int az, .ref mi, .ref mz, .ref ma, .ref mc])), (mb, .inl (cyI, 97, .inl g1)), (mk, .inl (cyI, 4, .inl kn)), (ms, .inl (cyI, 16, .inl sh)), (mi, .inl (cyI, 300, .inl im)), (mz, .inl (cyZ, 2, .inl zk))] → va_S A s.heap H locs → ∀ (ls : Array Slot), lv_has ls 4 [(3, .int (nI j32)), (2, .int (nI (150 * kni.toNatClampNeg))), (0, .ref hm), (1, .int kni)] → W p l e (headSpec wsX6_restore ({ frames := 1, cells := 0, slots := 0, locals := 22 } : Room)).room s m ([.ref hm, .int kni] : List Value).toArray below meth c H locs 0 0 (MQ below (kx_Qi r.1 (dC, dI) [(hm, .inr (6, [.ref mb, .ref mn, .ref mk, .int (nI sg), .ref ms, .int (nI sn), .ref mp, .int ud, .ref mq, .int rz, .int az, .ref mi, .ref mz, .ref ma, .ref mc])), (mb, .inl (cyI, 97, .inl bk)), (mk, .inl (cyI, 4, .inl kn)), (ms, .inl (cyI, 16, .inl sh)), (mi, .inl (cyI, 300, .inl im)), (mz, .inl (cyZ, 2, .inl zk))] [(hm, .inr (6, [.ref mb, .ref mn, .ref mk, .int (nI (r.2.2.2.2)), .ref ms, .int (nI sn), .ref mp, .int ud, .ref mq, .int rz, .int az, .ref mi, .ref mz, .ref ma, .ref mc])), (mb, .inl (cyI, 97, .inl r.2.1)), (mk, .inl (cyI, 4, .inl r.2.2.1)), (ms, .inl (cyI, 16, .inl r.2.2.2.1)), (mi, .inl (cyI, 300, .inl im)), (mz, .inl (cyZ, 2, .inl zk))] s.heap.size) ([.ref hm, .int kni] : List Value).toArray s 0 0 (va_A [(hm, .inr (6, [.ref mb, .ref mn, .ref mk, .int (nI sg), .ref ms, .int (nI sn), .ref mp, .int ud, .ref mq, .int rz, .int az, .ref mi, .ref mz, .ref ma, .ref mc])), (mb, .inl (cyI, 97, .inl bk)), (mk, .inl (cyI, 4, .inl kn)), (ms, .inl (cyI, 16, .inl sh)), (mi, .inl (cyI, 300, .inl im)), (mz, .inl (cyZ, 2, .inl zk))] s.heap.size)) (F0 m 32 ls []) := by
        intro r32
        induction r32 with
        | zero =>
          intro j32 g1 hrj hz32 H locs hP hD hS ls hl
          rw [fX6_restore_L32] at hz32
          subst hz32
          try dsimp only at hF
          refine lv_iload_n hx hb dX6_restore_32 rfl (lv_at hl 0 rfl) ?_
          refine lv_bipush (v := (97 : Int32)) hx hb dX6_restore_33 (by decide) ?_
          refine kx_ge hx hb (j32) (97) rfl rfl (by omega) (by omega) dX6_restore_35 (by decide) (tgt := 58) (fun c35 => ?_) (fun c35 => absurd c35 (by omega))
          refine lv_iconst (v := (0 : Int32)) hx hb dX6_restore_58 (by decide) ?_
          refine lv_istore_n (lv' := [(3, .int (0 : Int32)), (2, .int (nI (150 * kni.toNatClampNeg))), (0, .ref hm), (1, .int kni)]) hx hb dX6_restore_59 rfl hl (by decide) rfl (fun ls hl => ?_)
          generalize hz60 : fX6_restore_L60 im kni 4 0 kn = z60 at hF
          have LP60 : ∀ (r60 : Nat) (j60 : Nat) (g2 : Nat → Int32), r60 + j60 = 4 → fX6_restore_L60 im kni r60 j60 g2 = z60 → ∀ (H : Heap) (locs : List Loc), va_P (dC, dI) vwCl [(hm, .inr (6, [.ref mb, .ref mn, .ref mk, .int (nI sg), .ref ms, .int (nI sn), .ref mp, .int ud, .ref mq, .int rz, .int az, .ref mi, .ref mz, .ref ma, .ref mc])), (mb, .inl (cyI, 97, .inl g1)), (mk, .inl (cyI, 4, .inl g2)), (ms, .inl (cyI, 16, .inl sh)), (mi, .inl (cyI, 300, .inl im)), (mz, .inl (cyZ, 2, .inl zk))] H → va_D A [(hm, .inr (6, [.ref mb, .ref mn, .ref mk, .int (nI sg), .ref ms, .int (nI sn), .ref mp, .int ud, .ref mq, .int rz, .int az, .ref mi, .ref mz, .ref ma, .ref mc])), (mb, .inl (cyI, 97, .inl g1)), (mk, .inl (cyI, 4, .inl g2)), (ms, .inl (cyI, 16, .inl sh)), (mi, .inl (cyI, 300, .inl im)), (mz, .inl (cyZ, 2, .inl zk))] → va_S A s.heap H locs → ∀ (ls : Array Slot), lv_has ls 4 [(3, .int (nI j60)), (2, .int (nI (150 * kni.toNatClampNeg))), (0, .ref hm), (1, .int kni)] → W p l e (headSpec wsX6_restore ({ frames := 1, cells := 0, slots := 0, locals := 22 } : Room)).room s m ([.ref hm, .int kni] : List Value).toArray below meth c H locs 0 0 (MQ below (kx_Qi r.1 (dC, dI) [(hm, .inr (6, [.ref mb, .ref mn, .ref mk, .int (nI sg), .ref ms, .int (nI sn), .ref mp, .int ud, .ref mq, .int rz, .int az, .ref mi, .ref mz, .ref ma, .ref mc])), (mb, .inl (cyI, 97, .inl bk)), (mk, .inl (cyI, 4, .inl kn)), (ms, .inl (cyI, 16, .inl sh)), (mi, .inl (cyI, 300, .inl im)), (mz, .inl (cyZ, 2, .inl zk))] [(hm, .inr (6, [.ref mb, .ref mn, .ref mk, .int (nI (r.2.2.2.2)), .ref ms, .int (nI sn), .ref mp, .int ud, .ref mq, .int rz, .int az, .ref mi, .ref mz, .ref ma, .ref mc])), (mb, .inl (cyI, 97, .inl r.2.1)), (mk, .inl (cyI, 4, .inl r.2.2.1)), (ms, .inl (cyI, 16, .inl r.2.2.2.1)), (mi, .inl (cyI, 300, .inl im)), (mz, .inl (cyZ, 2, .inl zk))] s.heap.size) ([.ref hm, .int kni] : List Value).toArray s 0 0 (va_A [(hm, .inr (6, [.ref mb, .ref mn, .ref mk, .int (nI sg), .ref ms, .int (nI sn), .ref mp, .int ud, .ref mq, .int rz, .int az, .ref mi, .ref mz, .ref ma, .ref mc])), (mb, .inl (cyI, 97, .inl bk)), (mk, .inl (cyI, 4, .inl kn)), (ms, .inl (cyI, 16, .inl sh)), (mi, .inl (cyI, 300, .inl im)), (mz, .inl (cyZ, 2, .inl zk))] s.heap.size)) (F0 m 60 ls []) := by
            intro r60
            induction r60 with
            | zero =>
              intro j60 g2 hrj hz60 H locs hP hD hS ls hl
              rw [fX6_restore_L60] at hz60
              subst hz60
              try dsimp only at hF
              refine lv_iload_n hx hb dX6_restore_60 rfl (lv_at hl 0 rfl) ?_
              refine lv_iconst (v := (4 : Int32)) hx hb dX6_restore_61 (by decide) ?_
              refine kx_ge hx hb (j60) (4) rfl rfl (by omega) (by omega) dX6_restore_62 (by decide) (tgt := 88) (fun c62 => ?_) (fun c62 => absurd c62 (by omega))
              refine lv_iconst (v := (0 : Int32)) hx hb dX6_restore_88 (by decide) ?_
              refine lv_istore_n (lv' := [(3, .int (0 : Int32)), (2, .int (nI (150 * kni.toNatClampNeg))), (0, .ref hm), (1, .int kni)]) hx hb dX6_restore_89 rfl hl (by decide) rfl (fun ls hl => ?_)
              generalize hz90 : fX6_restore_L90 im kni 16 0 sh = z90 at hF
              have LP90 : ∀ (r90 : Nat) (j90 : Nat) (g3 : Nat → Int32), r90 + j90 = 16 → fX6_restore_L90 im kni r90 j90 g3 = z90 → ∀ (H : Heap) (locs : List Loc), va_P (dC, dI) vwCl [(hm, .inr (6, [.ref mb, .ref mn, .ref mk, .int (nI sg), .ref ms, .int (nI sn), .ref mp, .int ud, .ref mq, .int rz, .int az, .ref mi, .ref mz, .ref ma, .ref mc])), (mb, .inl (cyI, 97, .inl g1)), (mk, .inl (cyI, 4, .inl g2)), (ms, .inl (cyI, 16, .inl g3)), (mi, .inl (cyI, 300, .inl im)), (mz, .inl (cyZ, 2, .inl zk))] H → va_D A [(hm, .inr (6, [.ref mb, .ref mn, .ref mk, .int (nI sg), .ref ms, .int (nI sn), .ref mp, .int ud, .ref mq, .int rz, .int az, .ref mi, .ref mz, .ref ma, .ref mc])), (mb, .inl (cyI, 97, .inl g1)), (mk, .inl (cyI, 4, .inl g2)), (ms, .inl (cyI, 16, .inl g3)), (mi, .inl (cyI, 300, .inl im)), (mz, .inl (cyZ, 2, .inl zk))] → va_S A s.heap H locs → ∀ (ls : Array Slot), lv_has ls 4 [(3, .int (nI j90)), (2, .int (nI (150 * kni.toNatClampNeg))), (0, .ref hm), (1, .int kni)] → W p l e (headSpec wsX6_restore ({ frames := 1, cells := 0, slots := 0, locals := 22 } : Room)).room s m ([.ref hm, .int kni] : List Value).toArray below meth c H locs 0 0 (MQ below (kx_Qi r.1 (dC, dI) [(hm, .inr (6, [.ref mb, .ref mn, .ref mk, .int (nI sg), .ref ms, .int (nI sn), .ref mp, .int ud, .ref mq, .int rz, .int az, .ref mi, .ref mz, .ref ma, .ref mc])), (mb, .inl (cyI, 97, .inl bk)), (mk, .inl (cyI, 4, .inl kn)), (ms, .inl (cyI, 16, .inl sh)), (mi, .inl (cyI, 300, .inl im)), (mz, .inl (cyZ, 2, .inl zk))] [(hm, .inr (6, [.ref mb, .ref mn, .ref mk, .int (nI (r.2.2.2.2)), .ref ms, .int (nI sn), .ref mp, .int ud, .ref mq, .int rz, .int az, .ref mi, .ref mz, .ref ma, .ref mc])), (mb, .inl (cyI, 97, .inl r.2.1)), (mk, .inl (cyI, 4, .inl r.2.2.1)), (ms, .inl (cyI, 16, .inl r.2.2.2.1)), (mi, .inl (cyI, 300, .inl im)), (mz, .inl (cyZ, 2, .inl zk))] s.heap.size) ([.ref hm, .int kni] : List Value).toArray s 0 0 (va_A [(hm, .inr (6, [.ref mb, .ref mn, .ref mk, .int (nI sg), .ref ms, .int (nI sn), .ref mp, .int ud, .ref mq, .int rz, .int az, .ref mi, .ref mz, .ref ma, .ref mc])), (mb, .inl (cyI, 97, .inl bk)), (mk, .inl (cyI, 4, .inl kn)), (ms, .inl (cyI, 16, .inl sh)), (mi, .inl (cyI, 300, .inl im)), (mz, .inl (cyZ, 2, .inl zk))] s.heap.size)) (F0 m 90 ls []) := by
                intro r90
                induction r90 with
                | zero =>
                  intro j90 g3 hrj hz90 H locs hP hD hS ls hl
                  rw [fX6_restore_L90] at hz90
                  subst hz90
                  try dsimp only at hF
                  refine lv_iload_n hx hb dX6_restore_90 rfl (lv_at hl 0 rfl) ?_
                  refine lv_bipush (v := (16 : Int32)) hx hb dX6_restore_91 (by decide) ?_
                  refine kx_ge hx hb (j90) (16) rfl rfl (by omega) (by omega) dX6_restore_93 (by decide) (tgt := 119) (fun c93 => ?_) (fun c93 => absurd c93 (by omega))
                  refine lv_aload_n hx hb dX6_restore_119 rfl (lv_at hl 2 rfl) ?_
                  refine lv_aload_n hx hb dX6_restore_120 rfl (lv_at hl 2 rfl) ?_
                  refine va_get (D := (dC, dI)) (ci := 6) (v := .ref mi) (C := RX6) (T := TX6) (N := 15) hx hb hts hiX6 hown hK hP 0 rfl rfl 11 (by decide) fl28 (fun _ h9 => h9) rfl dX6_restore_121 ?_
                  refine lv_iload_n hx hb dX6_restore_124 rfl (lv_at hl 1 rfl) ?_
                  refine lv_sipush (v := (130 : Int32)) hx hb dX6_restore_125 (by decide) ?_
                  refine lv_iadd hx hb dX6_restore_128 ?_
                  refine kx_e (nI_add (150 * kni.toNatClampNeg) (130)) ?_
                  refine kx_ld hx hb hK hP 4 0 rfl rfl (150 * kni.toNatClampNeg + 130) rfl (by omega) (by decide) dX6_restore_129 ?_
                  refine kx_e hM.2.1 ?_
                  refine va_put (D := (dC, dI)) (ci := 6) (v := .int (nI ((im (150 * kni.toNatClampNeg + 130)).toNatClampNeg))) (ty := .int) (C := RX6) (T := TX6) (N := 15) hx hb hts hiX6 tyX6 tyX6_ok nmX6 hown hK hP hD hS 0 rfl rfl 3 (by decide) fl134 (fun _ h9 => h9) rfl (by decide +kernel) rfl rfl (Nat.le_of_ble_eq_true rfl) dX6_restore_130 (fun H locs hP hD hS => ?_)
                  have hP : va_P (dC, dI) vwCl [(hm, .inr (6, [.ref mb, .ref mn, .ref mk, .int (nI ((im (150 * kni.toNatClampNeg + 130)).toNatClampNeg)), .ref ms, .int (nI sn), .ref mp, .int ud, .ref mq, .int rz, .int az, .ref mi, .ref mz, .ref ma, .ref mc])), (mb, .inl (cyI, 97, .inl g1)), (mk, .inl (cyI, 4, .inl g2)), (ms, .inl (cyI, 16, .inl g3)), (mi, .inl (cyI, 300, .inl im)), (mz, .inl (cyZ, 2, .inl zk))] H := hP
                  have hD : va_D A [(hm, .inr (6, [.ref mb, .ref mn, .ref mk, .int (nI ((im (150 * kni.toNatClampNeg + 130)).toNatClampNeg)), .ref ms, .int (nI sn), .ref mp, .int ud, .ref mq, .int rz, .int az, .ref mi, .ref mz, .ref ma, .ref mc])), (mb, .inl (cyI, 97, .inl g1)), (mk, .inl (cyI, 4, .inl g2)), (ms, .inl (cyI, 16, .inl g3)), (mi, .inl (cyI, 300, .inl im)), (mz, .inl (cyZ, 2, .inl zk))] := hD
                  refine lv_iconst (v := (1 : Int32)) hx hb dX6_restore_133 (by decide) ?_
                  subst hF
                  subst hAe
                  exact W.iret hx hb hr (fun t ht _ => ⟨⟨_, (), rfl, rfl, by rw [ht]; exact hP, hD⟩, hS.F ht⟩) hS.2.2 dX6_restore_134
                | succ r90 ih =>
                  intro j90 g3 hrj hz90 H locs hP hD hS ls hl
                  rw [fX6_restore_L90] at hz90
                  refine lv_iload_n hx hb dX6_restore_90 rfl (lv_at hl 0 rfl) ?_
                  refine lv_bipush (v := (16 : Int32)) hx hb dX6_restore_91 (by decide) ?_
                  refine kx_ge hx hb (j90) (16) rfl rfl (by omega) (by omega) dX6_restore_93 (by decide) (tgt := 119) (fun c93 => absurd c93 (by omega)) (fun c93 => ?_)
                  refine lv_aload_n hx hb dX6_restore_96 rfl (lv_at hl 2 rfl) ?_
                  refine va_get (D := (dC, dI)) (ci := 6) (v := .ref ms) (C := RX6) (T := TX6) (N := 15) hx hb hts hiX6 hown hK hP 0 rfl rfl 4 (by decide) fl19 (fun _ h9 => h9) rfl dX6_restore_97 ?_
                  refine lv_iload_n hx hb dX6_restore_100 rfl (lv_at hl 0 rfl) ?_
                  refine lv_aload_n hx hb dX6_restore_101 rfl (lv_at hl 2 rfl) ?_
                  refine va_get (D := (dC, dI)) (ci := 6) (v := .ref mi) (C := RX6) (T := TX6) (N := 15) hx hb hts hiX6 hown hK hP 0 rfl rfl 11 (by decide) fl28 (fun _ h9 => h9) rfl dX6_restore_102 ?_
                  refine lv_iload_n hx hb dX6_restore_105 rfl (lv_at hl 1 rfl) ?_
                  refine lv_bipush (v := (110 : Int32)) hx hb dX6_restore_106 (by decide) ?_
                  refine lv_iadd hx hb dX6_restore_108 ?_
                  refine kx_e (nI_add (150 * kni.toNatClampNeg) (110)) ?_
                  refine lv_iload_n hx hb dX6_restore_109 rfl (lv_at hl 0 rfl) ?_
                  refine lv_iadd hx hb dX6_restore_110 ?_
                  refine kx_e (nI_add (150 * kni.toNatClampNeg + 110) (j90)) ?_
                  refine kx_ld hx hb hK hP 4 0 rfl rfl (150 * kni.toNatClampNeg + 110 + j90) rfl (by omega) (by decide) dX6_restore_111 ?_
                  refine kx_st hx hb hK hP hD hS 3 0 rfl rfl (j90) rfl (by omega) (by decide) dX6_restore_112 (fun H locs hP hD hS => ?_)
                  have hP : va_P (dC, dI) vwCl [(hm, .inr (6, [.ref mb, .ref mn, .ref mk, .int (nI sg), .ref ms, .int (nI sn), .ref mp, .int ud, .ref mq, .int rz, .int az, .ref mi, .ref mz, .ref ma, .ref mc])), (mb, .inl (cyI, 97, .inl g1)), (mk, .inl (cyI, 4, .inl g2)), (ms, .inl (cyI, 16, .inl (upd g3 j90 (im (150 * kni.toNatClampNeg + 110 + j90))))), (mi, .inl (cyI, 300, .inl im)), (mz, .inl (cyZ, 2, .inl zk))] H := hP
                  have hD : va_D A [(hm, .inr (6, [.ref mb, .ref mn, .ref mk, .int (nI sg), .ref ms, .int (nI sn), .ref mp, .int ud, .ref mq, .int rz, .int az, .ref mi, .ref mz, .ref ma, .ref mc])), (mb, .inl (cyI, 97, .inl g1)), (mk, .inl (cyI, 4, .inl g2)), (ms, .inl (cyI, 16, .inl (upd g3 j90 (im (150 * kni.toNatClampNeg + 110 + j90))))), (mi, .inl (cyI, 300, .inl im)), (mz, .inl (cyZ, 2, .inl zk))] := hD
                  refine lv_iinc (v := (nI (j90 + 1))) (lv' := [(3, .int (nI (j90 + 1))), (2, .int (nI (150 * kni.toNatClampNeg))), (0, .ref hm), (1, .int kni)]) hx hb dX6_restore_113 hl (k := 0) rfl (by exact nI_add (j90) 1) (by decide) rfl (fun ls hl => ?_)
                  refine lv_goto (tgt := 90) hx hb dX6_restore_116 (by decide) ?_
                  exact ih (j90 + 1) (upd g3 j90 (im (150 * kni.toNatClampNeg + 110 + j90))) (by omega)  hz90 _ _ hP hD hS _ (lv_sub hl [0, 1, 2, 3] rfl)
              exact LP90 16 0 sh (by omega)  hz90 _ _ hP hD hS _ (lv_sub hl [0, 1, 2, 3] rfl)
            | succ r60 ih =>
              intro j60 g2 hrj hz60 H locs hP hD hS ls hl
              rw [fX6_restore_L60] at hz60
              refine lv_iload_n hx hb dX6_restore_60 rfl (lv_at hl 0 rfl) ?_
              refine lv_iconst (v := (4 : Int32)) hx hb dX6_restore_61 (by decide) ?_
              refine kx_ge hx hb (j60) (4) rfl rfl (by omega) (by omega) dX6_restore_62 (by decide) (tgt := 88) (fun c62 => absurd c62 (by omega)) (fun c62 => ?_)
              refine lv_aload_n hx hb dX6_restore_65 rfl (lv_at hl 2 rfl) ?_
              refine va_get (D := (dC, dI)) (ci := 6) (v := .ref mk) (C := RX6) (T := TX6) (N := 15) hx hb hts hiX6 hown hK hP 0 rfl rfl 2 (by decide) fl16 (fun _ h9 => h9) rfl dX6_restore_66 ?_
              refine lv_iload_n hx hb dX6_restore_69 rfl (lv_at hl 0 rfl) ?_
              refine lv_aload_n hx hb dX6_restore_70 rfl (lv_at hl 2 rfl) ?_
              refine va_get (D := (dC, dI)) (ci := 6) (v := .ref mi) (C := RX6) (T := TX6) (N := 15) hx hb hts hiX6 hown hK hP 0 rfl rfl 11 (by decide) fl28 (fun _ h9 => h9) rfl dX6_restore_71 ?_
              refine lv_iload_n hx hb dX6_restore_74 rfl (lv_at hl 1 rfl) ?_
              refine lv_bipush (v := (100 : Int32)) hx hb dX6_restore_75 (by decide) ?_
              refine lv_iadd hx hb dX6_restore_77 ?_
              refine kx_e (nI_add (150 * kni.toNatClampNeg) (100)) ?_
              refine lv_iload_n hx hb dX6_restore_78 rfl (lv_at hl 0 rfl) ?_
              refine lv_iadd hx hb dX6_restore_79 ?_
              refine kx_e (nI_add (150 * kni.toNatClampNeg + 100) (j60)) ?_
              refine kx_ld hx hb hK hP 4 0 rfl rfl (150 * kni.toNatClampNeg + 100 + j60) rfl (by omega) (by decide) dX6_restore_80 ?_
              refine kx_st hx hb hK hP hD hS 2 0 rfl rfl (j60) rfl (by omega) (by decide) dX6_restore_81 (fun H locs hP hD hS => ?_)
              have hP : va_P (dC, dI) vwCl [(hm, .inr (6, [.ref mb, .ref mn, .ref mk, .int (nI sg), .ref ms, .int (nI sn), .ref mp, .int ud, .ref mq, .int rz, .int az, .ref mi, .ref mz, .ref ma, .ref mc])), (mb, .inl (cyI, 97, .inl g1)), (mk, .inl (cyI, 4, .inl (upd g2 j60 (im (150 * kni.toNatClampNeg + 100 + j60))))), (ms, .inl (cyI, 16, .inl sh)), (mi, .inl (cyI, 300, .inl im)), (mz, .inl (cyZ, 2, .inl zk))] H := hP
              have hD : va_D A [(hm, .inr (6, [.ref mb, .ref mn, .ref mk, .int (nI sg), .ref ms, .int (nI sn), .ref mp, .int ud, .ref mq, .int rz, .int az, .ref mi, .ref mz, .ref ma, .ref mc])), (mb, .inl (cyI, 97, .inl g1)), (mk, .inl (cyI, 4, .inl (upd g2 j60 (im (150 * kni.toNatClampNeg + 100 + j60))))), (ms, .inl (cyI, 16, .inl sh)), (mi, .inl (cyI, 300, .inl im)), (mz, .inl (cyZ, 2, .inl zk))] := hD
              refine lv_iinc (v := (nI (j60 + 1))) (lv' := [(3, .int (nI (j60 + 1))), (2, .int (nI (150 * kni.toNatClampNeg))), (0, .ref hm), (1, .int kni)]) hx hb dX6_restore_82 hl (k := 0) rfl (by exact nI_add (j60) 1) (by decide) rfl (fun ls hl => ?_)
              refine lv_goto (tgt := 60) hx hb dX6_restore_85 (by decide) ?_
              exact ih (j60 + 1) (upd g2 j60 (im (150 * kni.toNatClampNeg + 100 + j60))) (by omega)  hz60 _ _ hP hD hS _ (lv_sub hl [0, 1, 2, 3] rfl)
          exact LP60 4 0 kn (by omega)  hz60 _ _ hP hD hS _ (lv_sub hl [0, 1, 2, 3] rfl)
        | succ r32 ih =>
          intro j32 g1 hrj hz32 H locs hP hD hS ls hl
          rw [fX6_restore_L32] at hz32
          refine lv_iload_n hx hb dX6_restore_32 rfl (lv_at hl 0 rfl) ?_
          refine lv_bipush (v := (97 : Int32)) hx hb dX6_restore_33 (by decide) ?_
          refine kx_ge hx hb (j32) (97) rfl rfl (by omega) (by omega) dX6_restore_35 (by decide) (tgt := 58) (fun c35 => absurd c35 (by omega)) (fun c35 => ?_)
          refine lv_aload_n hx hb dX6_restore_38 rfl (lv_at hl 2 rfl) ?_
          refine va_get (D := (dC, dI)) (ci := 6) (v := .ref mb) (C := RX6) (T := TX6) (N := 15) hx hb hts hiX6 hown hK hP 0 rfl rfl 0 (by decide) fl7 (fun _ h9 => h9) rfl dX6_restore_39 ?_
          refine lv_iload_n hx hb dX6_restore_42 rfl (lv_at hl 0 rfl) ?_
          refine lv_aload_n hx hb dX6_restore_43 rfl (lv_at hl 2 rfl) ?_
          refine va_get (D := (dC, dI)) (ci := 6) (v := .ref mi) (C := RX6) (T := TX6) (N := 15) hx hb hts hiX6 hown hK hP 0 rfl rfl 11 (by decide) fl28 (fun _ h9 => h9) rfl dX6_restore_44 ?_
          refine lv_iload_n hx hb dX6_restore_47 rfl (lv_at hl 1 rfl) ?_
          refine lv_iload_n hx hb dX6_restore_48 rfl (lv_at hl 0 rfl) ?_
          refine lv_iadd hx hb dX6_restore_49 ?_
          refine kx_e (nI_add (150 * kni.toNatClampNeg) (j32)) ?_
          refine kx_ld hx hb hK hP 4 0 rfl rfl (150 * kni.toNatClampNeg + j32) rfl (by omega) (by decide) dX6_restore_50 ?_
          refine kx_st hx hb hK hP hD hS 1 0 rfl rfl (j32) rfl (by omega) (by decide) dX6_restore_51 (fun H locs hP hD hS => ?_)
          have hP : va_P (dC, dI) vwCl [(hm, .inr (6, [.ref mb, .ref mn, .ref mk, .int (nI sg), .ref ms, .int (nI sn), .ref mp, .int ud, .ref mq, .int rz, .int az, .ref mi, .ref mz, .ref ma, .ref mc])), (mb, .inl (cyI, 97, .inl (upd g1 j32 (im (150 * kni.toNatClampNeg + j32))))), (mk, .inl (cyI, 4, .inl kn)), (ms, .inl (cyI, 16, .inl sh)), (mi, .inl (cyI, 300, .inl im)), (mz, .inl (cyZ, 2, .inl zk))] H := hP
          have hD : va_D A [(hm, .inr (6, [.ref mb, .ref mn, .ref mk, .int (nI sg), .ref ms, .int (nI sn), .ref mp, .int ud, .ref mq, .int rz, .int az, .ref mi, .ref mz, .ref ma, .ref mc])), (mb, .inl (cyI, 97, .inl (upd g1 j32 (im (150 * kni.toNatClampNeg + j32))))), (mk, .inl (cyI, 4, .inl kn)), (ms, .inl (cyI, 16, .inl sh)), (mi, .inl (cyI, 300, .inl im)), (mz, .inl (cyZ, 2, .inl zk))] := hD
          refine lv_iinc (v := (nI (j32 + 1))) (lv' := [(3, .int (nI (j32 + 1))), (2, .int (nI (150 * kni.toNatClampNeg))), (0, .ref hm), (1, .int kni)]) hx hb dX6_restore_52 hl (k := 0) rfl (by exact nI_add (j32) 1) (by decide) rfl (fun ls hl => ?_)
          refine lv_goto (tgt := 32) hx hb dX6_restore_55 (by decide) ?_
          exact ih (j32 + 1) (upd g1 j32 (im (150 * kni.toNatClampNeg + j32))) (by omega)  hz32 _ _ hP hD hS _ (lv_sub hl [0, 1, 2, 3] rfl)
      exact LP32 97 0 bk (by omega)  hz32 _ _ hP hD hS _ (lv_sub hl [0, 1, 2, 3] rfl)
    · rw [if_pos c18] at hF
      refine lv_bipush (v := (-3 : Int32)) hx hb dX6_restore_21 (by decide) ?_
      subst hF
      subst hAe
      exact W.iret hx hb hr (fun t ht _ => ⟨⟨_, (), rfl, rfl, by rw [ht]; exact hP, hD⟩, hS.F ht⟩) hS.2.2 dX6_restore_23
  · rw [if_pos c6] at hF
    refine lv_bipush (v := (-2 : Int32)) hx hb dX6_restore_9 (by decide) ?_
    subst hF
    subst hAe
    exact W.iret hx hb hr (fun t ht _ => ⟨⟨_, (), rfl, rfl, by rw [ht]; exact hP, hD⟩, hS.F ht⟩) hS.2.2 dX6_restore_11

theorem kx_m100 {x : Int32} (h : ¬ x < (100 : Int32)) (h2 : ¬ (3 : Int32) ≤ x - x / (100 : Int32) * (100 : Int32)) : x - x / (100 : Int32) * (100 : Int32) = nI (x - x / (100 : Int32) * (100 : Int32)).toNatClampNeg ∧ (x - x / (100 : Int32) * (100 : Int32)).toNatClampNeg < 3 := by
  by_cases h0 : x < 0
  · exfalso; apply h
    refine Int32.lt_iff_toInt_lt.mpr ?_
    have h3 : x.toInt < 0 := Int32.lt_iff_toInt_lt.mp h0
    have : (100 : Int32).toInt = 100 := by decide
    omega
  · obtain ⟨j, hj, rfl⟩ := nI_of h0
    have h4 : nI j - nI j / (100 : Int32) * (100 : Int32) = nI (j % 100) := pk_rem (d := 100) hj (by decide) (by decide)
    rw [h4] at h2 ⊢
    rw [nI_clamp (by omega)]
    exact ⟨rfl, Nat.lt_of_not_le (fun q => h2 ((nI_leI (a := 3) (by omega) (by omega)).mpr q))⟩

def fX6_told (sg : Nat) (sn : Nat) (ud : Int32) (bk : Nat → Int32) (nw : Nat → Int32) (kn : Nat → Int32) (wh : Int32) : Int32 × (Nat → Int32) × Int32 :=
  (if wh < (100 : Int32) then (if wh < (10 : Int32) then (match fX6_asNow bk nw with | (q81a, q81b) => (if wh = (0 : Int32) then ((nI sn), q81a, q81b) else (if wh = (1 : Int32) then ((nI (mN bk)), q81a, q81b) else (if wh = (2 : Int32) then ((fX6_eatenSet q81a), q81a, q81b) else (if wh = (3 : Int32) then ((nI sg), q81a, q81b) else (if wh = (4 : Int32) then ((fX6_looseSet q81a), q81a, q81b) else ((-2 : Int32), q81a, q81b))))))) else (if (fX6_isKnitter (wh - (10 : Int32))) = 0 then ((-2 : Int32), nw, ud) else ((kn ((wh - (10 : Int32)).toNatClampNeg)), nw, ud))) else (if (fX6_isStitch bk ((wh / (100 : Int32)) - (1 : Int32))) = 0 then ((-2 : Int32), nw, ud) else (if (3 : Int32) ≤ (wh - wh / (100 : Int32) * (100 : Int32)) then ((-2 : Int32), nw, ud) else ((bk (24 * ((wh - wh / (100 : Int32) * (100 : Int32)).toNatClampNeg) + (((wh / (100 : Int32)) - (1 : Int32)).toNatClampNeg))), nw, ud))))
set_option maxHeartbeats 4000000 in
set_option maxRecDepth 100000 in
theorem c_X6_told (l : Launch) (dC : Nat → ClassId) (dI : Nat → Nat → Nat) (cyI cyZ : ClassId) (hm mb mn mk ms mp mq mi mz ma mc : Nat) (sg : Nat) (sn : Nat) (ud : Int32) (rz : Int32) (az : Int32) (bk : Nat → Int32) (nw : Nat → Int32) (kn : Nat → Int32) (wh : Int32) (hI : kx_I bk) (sz : Nat) (r : Int32 × (Nat → Int32) × Int32) (hF : fX6_told sg sn ud bk nw kn wh = r) : Met l yX6_told wsX6_told ({ frames := 2, cells := 0, slots := 0, locals := 46 }) (kx_wp (dC, dI) [(hm, .inr (6, [.ref mb, .ref mn, .ref mk, .int (nI sg), .ref ms, .int (nI sn), .ref mp, .int ud, .ref mq, .int rz, .int az, .ref mi, .ref mz, .ref ma, .ref mc])), (mb, .inl (cyI, 97, .inl bk)), (mn, .inl (cyI, 97, .inl nw)), (mk, .inl (cyI, 4, .inl kn))] [(cyI, .int), (cyZ, .boolean)] sz [.ref hm, .int wh]) (kx_Qi r.1 (dC, dI) [(hm, .inr (6, [.ref mb, .ref mn, .ref mk, .int (nI sg), .ref ms, .int (nI sn), .ref mp, .int ud, .ref mq, .int rz, .int az, .ref mi, .ref mz, .ref ma, .ref mc])), (mb, .inl (cyI, 97, .inl bk)), (mn, .inl (cyI, 97, .inl nw)), (mk, .inl (cyI, 4, .inl kn))] [(hm, .inr (6, [.ref mb, .ref mn, .ref mk, .int (nI sg), .ref ms, .int (nI sn), .ref mp, .int r.2.2, .ref mq, .int rz, .int az, .ref mi, .ref mz, .ref ma, .ref mc])), (mb, .inl (cyI, 97, .inl bk)), (mn, .inl (cyI, 97, .inl r.2.1)), (mk, .inl (cyI, 4, .inl kn))] sz) 0 0 (va_A [(hm, .inr (6, [.ref mb, .ref mn, .ref mk, .int (nI sg), .ref ms, .int (nI sn), .ref mp, .int ud, .ref mq, .int rz, .int az, .ref mi, .ref mz, .ref ma, .ref mc])), (mb, .inl (cyI, 97, .inl bk)), (mn, .inl (cyI, 97, .inl nw)), (mk, .inl (cyI, 4, .inl kn))] sz) := by
  refine Met.ofW (cc := cX6_told) (maxL := 3) (ret := (some .int)) (by decide) rfl ?_
  intro p e s m args below meth c s₁ B hml hv
  obtain ⟨rfl, hsz, hP, hK, hN, hD0⟩ := hv
  have hx := B.exec
  have hb := B.bytes
  have hr := B.returns
  have hts := atoms_spec (ws := wsX6_told) B.pre
  have hown : s.vm.findClass RX6 = some m.cls := findClass_of_methodNamed B.named
  have hlocks := B.notSynchronized
  subst hsz
  obtain ⟨A, hAe⟩ : ∃ A, A = va_A [(hm, .inr (6, [.ref mb, .ref mn, .ref mk, .int (nI sg), .ref ms, .int (nI sn), .ref mp, .int ud, .ref mq, .int rz, .int az, .ref mi, .ref mz, .ref ma, .ref mc])), (mb, .inl (cyI, 97, .inl bk)), (mn, .inl (cyI, 97, .inl nw)), (mk, .inl (cyI, 4, .inl kn))] s.heap.size := ⟨_, rfl⟩
  have hD : va_D A [(hm, .inr (6, [.ref mb, .ref mn, .ref mk, .int (nI sg), .ref ms, .int (nI sn), .ref mp, .int ud, .ref mq, .int rz, .int az, .ref mi, .ref mz, .ref ma, .ref mc])), (mb, .inl (cyI, 97, .inl bk)), (mn, .inl (cyI, 97, .inl nw)), (mk, .inl (cyI, 4, .inl kn))] := by rw [hAe]; exact hD0.self
  have hA : ∀ q : Nat, s.heap.size ≤ q → A q := fun q h => by rw [hAe]; exact Or.inr h
  have hS : va_S A s.heap s.heap [] := va_S.rf
  have hiX6 : ∀ w ∈ wsX60, w ∈ wsX6_told := by decide +kernel
  have fl7 := hts (.fieldLink RX6 7 "KnitChronicleModel" "book" "[I") (by decide +kernel)
  have fl16 := hts (.fieldLink RX6 16 "KnitChronicleModel" "knits" "[I") (by decide +kernel)
  have fl52 := hts (.fieldLink RX6 52 "KnitChronicleModel" "signs" "I") (by decide +kernel)
  have fl134 := hts (.fieldLink RX6 134 "KnitChronicleModel" "sights" "I") (by decide +kernel)
  have hl := lv_entry ([.ref hm, .int wh]) (n := 3) (Nat.le_of_ble_eq_true rfl)
  rw [lg_entry_eq]
  generalize (lg_sl ([.ref hm, .int wh]) ++ List.replicate (3 - (lg_sl ([.ref hm, .int wh])).length) Slot.unset).toArray = ls at hl ⊢
  have hl : lv_has ls 3 [(0, .ref hm), (1, .int wh)] := hl
  unfold fX6_told at hF
  have hmN := hI.2.1
  refine lv_iload_n hx hb dX6_told_0 rfl (lv_at hl 1 rfl) ?_
  refine lv_bipush (v := (100 : Int32)) hx hb dX6_told_1 (by decide) ?_
  refine lv_icmp_lt (tgt := 49) hx hb dX6_told_3 (by decide) (fun c3 => ?_) (fun c3 => ?_)
  · rw [if_pos c3] at hF
    refine lv_iload_n hx hb dX6_told_49 rfl (lv_at hl 1 rfl) ?_
    refine lv_bipush (v := (10 : Int32)) hx hb dX6_told_50 (by decide) ?_
    refine lv_icmp_lt (tgt := 80) hx hb dX6_told_52 (by decide) (fun c52 => ?_) (fun c52 => ?_)
    · rw [if_pos c52] at hF
      refine lv_aload_n hx hb dX6_told_80 rfl (lv_at hl 0 rfl) ?_
      generalize hq81 : fX6_asNow bk nw = q81 at hF
      obtain ⟨q81a, q81b⟩ := q81
      dsimp only at hF
      refine kx_wVv (As := []) (rest := []) (wr := [(mk, .inl (cyI, 4, .inl kn))]) (wc' := [(hm, .inr (6, [.ref mb, .ref mn, .ref mk, .int (nI sg), .ref ms, .int (nI sn), .ref mp, .int q81b, .ref mq, .int rz, .int az, .ref mi, .ref mz, .ref ma, .ref mc])), (mb, .inl (cyI, 97, .inl bk)), (mn, .inl (cyI, 97, .inl q81a))]) (W1 := [(hm, .inr (6, [.ref mb, .ref mn, .ref mk, .int (nI sg), .ref ms, .int (nI sn), .ref mp, .int q81b, .ref mq, .int rz, .int az, .ref mi, .ref mz, .ref ma, .ref mc])), (mb, .inl (cyI, 97, .inl bk)), (mn, .inl (cyI, 97, .inl q81a)), (mk, .inl (cyI, 4, .inl kn))]) ⟨hx, hb, hml, hown, hts⟩ (c_X6_asNow l dC dI cyI cyZ hm mb mn mk ms mp mq mi mz ma mc sg sn ud rz az bk nw  _ _ hq81) (cwV 0 hts gX6_told_X6_asNow rfl rfl rfl (by decide +kernel) ⟨Nat.le_of_ble_eq_true rfl, Nat.le_of_ble_eq_true rfl⟩) hP hD hS hA hK hN [0, 1, 2] [3] [1, 2, 3, 0] rfl (by decide) rfl (by decide) (by decide) (by decide) rfl [0, 1] rfl 6 0 rfl rfl rfl rfl hl.1 rfl (Nat.le_of_ble_eq_true rfl) dX6_told_81 ⟨Nat.zero_le _, Nat.zero_le _⟩ (fun H locs hP hD hS => ?_)
      have hJ1 : kx_I q81a := fX6_asNow_I hI hq81
      refine lv_iload_n hx hb dX6_told_84 rfl (lv_at hl 1 rfl) ?_
      by_cases c85_0 : wh = (0 : Int32)
      · rw [if_pos c85_0] at hF
        refine lv_tableIn (tgt := 116) (off := 31) hx hb dX6_told_85 (by rw [c85_0]; decide) (by rw [c85_0]; decide) (by rw [c85_0]; rfl) (by decide) ?_
        refine lv_aload_n hx hb dX6_told_116 rfl (lv_at hl 0 rfl) ?_
        refine va_get (D := (dC, dI)) (ci := 6) (v := .int (nI sn)) (C := RX6) (T := TX6) (N := 15) hx hb hts hiX6 hown hK hP 0 rfl rfl 5 (by decide) fl52 (fun _ h9 => h9) rfl dX6_told_117 ?_
        subst hF
        subst hAe
        exact W.iret hx hb hr (fun t ht _ => ⟨⟨_, (), rfl, rfl, by rw [ht]; exact hP, hD⟩, hS.F ht⟩) hS.2.2 dX6_told_120
      · rw [if_neg c85_0] at hF
        by_cases c85_1 : wh = (1 : Int32)
        · rw [if_pos c85_1] at hF
          refine lv_tableIn (tgt := 121) (off := 36) hx hb dX6_told_85 (by rw [c85_1]; decide) (by rw [c85_1]; decide) (by rw [c85_1]; rfl) (by decide) ?_
          refine lv_aload_n hx hb dX6_told_121 rfl (lv_at hl 0 rfl) ?_
          refine va_get (D := (dC, dI)) (ci := 6) (v := .ref mb) (C := RX6) (T := TX6) (N := 15) hx hb hts hiX6 hown hK hP 0 rfl rfl 0 (by decide) fl7 (fun _ h9 => h9) rfl dX6_told_122 ?_
          refine lv_bipush (v := (96 : Int32)) hx hb dX6_told_125 (by decide) ?_
          refine kx_ld hx hb hK hP 1 0 rfl rfl (96) rfl (by omega) (by decide) dX6_told_127 ?_
          refine kx_e hI.1 ?_
          subst hF
          subst hAe
          exact W.iret hx hb hr (fun t ht _ => ⟨⟨_, (), rfl, rfl, by rw [ht]; exact hP, hD⟩, hS.F ht⟩) hS.2.2 dX6_told_128
        · rw [if_neg c85_1] at hF
          by_cases c85_2 : wh = (2 : Int32)
          · rw [if_pos c85_2] at hF
            refine lv_tableIn (tgt := 129) (off := 44) hx hb dX6_told_85 (by rw [c85_2]; decide) (by rw [c85_2]; decide) (by rw [c85_2]; rfl) (by decide) ?_
            refine lv_aload_n hx hb dX6_told_129 rfl (lv_at hl 0 rfl) ?_
            refine kx_cV (As := []) (rest := []) ⟨hx, hb, hml, hown, hts⟩ (c_X6_eatenSet l dC dI cyI cyZ hm mb mn mk ms mp mq mi mz ma mc sg sn q81b rz az q81a hJ1 _ rfl) (cwV 0 hts gX6_told_X6_eatenSet rfl rfl rfl (by decide +kernel) ⟨Nat.le_of_ble_eq_true rfl, Nat.le_of_ble_eq_true rfl⟩) hP hK hN [0, 2] rfl [0, 1] rfl 6 0 rfl rfl rfl rfl hl.1 rfl (Nat.le_of_ble_eq_true rfl) dX6_told_130 ⟨Nat.zero_le _, Nat.zero_le _⟩ ?_
            subst hF
            subst hAe
            exact W.iret hx hb hr (fun t ht _ => ⟨⟨_, (), rfl, rfl, by rw [ht]; exact hP, hD⟩, hS.F ht⟩) hS.2.2 dX6_told_133
          · rw [if_neg c85_2] at hF
            by_cases c85_3 : wh = (3 : Int32)
            · rw [if_pos c85_3] at hF
              refine lv_tableIn (tgt := 134) (off := 49) hx hb dX6_told_85 (by rw [c85_3]; decide) (by rw [c85_3]; decide) (by rw [c85_3]; rfl) (by decide) ?_
              refine lv_aload_n hx hb dX6_told_134 rfl (lv_at hl 0 rfl) ?_
              refine va_get (D := (dC, dI)) (ci := 6) (v := .int (nI sg)) (C := RX6) (T := TX6) (N := 15) hx hb hts hiX6 hown hK hP 0 rfl rfl 3 (by decide) fl134 (fun _ h9 => h9) rfl dX6_told_135 ?_
              subst hF
              subst hAe
              exact W.iret hx hb hr (fun t ht _ => ⟨⟨_, (), rfl, rfl, by rw [ht]; exact hP, hD⟩, hS.F ht⟩) hS.2.2 dX6_told_138
            · rw [if_neg c85_3] at hF
              refine lv_tableOut (tgt := 139) hx hb dX6_told_85 (by have q0 := lv_neT (k := (0 : Int32)) (a := 0) c85_0 rfl; have q1 := lv_neT (k := (1 : Int32)) (a := 1) c85_1 rfl; have q2 := lv_neT (k := (2 : Int32)) (a := 2) c85_2 rfl; have q3 := lv_neT (k := (3 : Int32)) (a := 3) c85_3 rfl; omega) (by decide) ?_
              refine lv_iload_n hx hb dX6_told_139 rfl (lv_at hl 1 rfl) ?_
              refine lv_iconst (v := (4 : Int32)) hx hb dX6_told_140 (by decide) ?_
              refine lv_icmp_ne (tgt := 151) hx hb dX6_told_141 (by decide) (fun c141 => ?_) (fun c141 => ?_)
              · rw [if_neg c141] at hF
                refine lv_bipush (v := (-2 : Int32)) hx hb dX6_told_151 (by decide) ?_
                subst hF
                subst hAe
                exact W.iret hx hb hr (fun t ht _ => ⟨⟨_, (), rfl, rfl, by rw [ht]; exact hP, hD⟩, hS.F ht⟩) hS.2.2 dX6_told_153
              · rw [if_pos c141] at hF
                refine lv_aload_n hx hb dX6_told_144 rfl (lv_at hl 0 rfl) ?_
                refine kx_cV (As := []) (rest := []) ⟨hx, hb, hml, hown, hts⟩ (c_X6_looseSet l dC dI cyI cyZ hm mb mn mk ms mp mq mi mz ma mc sg sn q81b rz az q81a hJ1 _ rfl) (cwV 0 hts gX6_told_X6_looseSet rfl rfl rfl (by decide +kernel) ⟨Nat.le_of_ble_eq_true rfl, Nat.le_of_ble_eq_true rfl⟩) hP hK hN [0, 2] rfl [0, 1] rfl 6 0 rfl rfl rfl rfl hl.1 rfl (Nat.le_of_ble_eq_true rfl) dX6_told_145 ⟨Nat.zero_le _, Nat.zero_le _⟩ ?_
                refine lv_goto (tgt := 153) hx hb dX6_told_148 (by decide) ?_
                subst hF
                subst hAe
                exact W.iret hx hb hr (fun t ht _ => ⟨⟨_, (), rfl, rfl, by rw [ht]; exact hP, hD⟩, hS.F ht⟩) hS.2.2 dX6_told_153
    · rw [if_neg c52] at hF
      refine lv_iload_n hx hb dX6_told_55 rfl (lv_at hl 1 rfl) ?_
      refine lv_bipush (v := (10 : Int32)) hx hb dX6_told_56 (by decide) ?_
      refine lv_isub hx hb dX6_told_58 ?_
      refine kx_cS (As := [.int (wh - (10 : Int32))]) (rest := []) ⟨hx, hb, hml, hown, hts⟩ (c_X6_isKnitter l dC dI cyI cyZ  (wh - (10 : Int32))  _ rfl) (va_cwS 1 hts gX6_told_X6_isKnitter rfl rfl rfl (by decide +kernel) ⟨Nat.le_of_ble_eq_true rfl, Nat.le_of_ble_eq_true rfl⟩) hP hK hN [] rfl [0, 1] rfl rfl hl.1 rfl (Nat.le_of_ble_eq_true rfl) dX6_told_59 ⟨Nat.zero_le _, Nat.zero_le _⟩ ?_
      refine lv_if_eq (tgt := 77) hx hb dX6_told_62 (by decide) (fun c62 => ?_) (fun c62 => ?_)
      · rw [if_pos c62] at hF
        refine lv_bipush (v := (-2 : Int32)) hx hb dX6_told_77 (by decide) ?_
        subst hF
        subst hAe
        exact W.iret hx hb hr (fun t ht _ => ⟨⟨_, (), rfl, rfl, by rw [ht]; exact hP, hD⟩, hS.F ht⟩) hS.2.2 dX6_told_79
      · rw [if_neg c62] at hF
        obtain ⟨hk1, hk2, hk3⟩ := fX6_in_P 0 3 (by decide) (by decide) c62
        refine lv_aload_n hx hb dX6_told_65 rfl (lv_at hl 0 rfl) ?_
        refine va_get (D := (dC, dI)) (ci := 6) (v := .ref mk) (C := RX6) (T := TX6) (N := 15) hx hb hts hiX6 hown hK hP 0 rfl rfl 2 (by decide) fl16 (fun _ h9 => h9) rfl dX6_told_66 ?_
        refine lv_iload_n hx hb dX6_told_69 rfl (lv_at hl 1 rfl) ?_
        refine lv_bipush (v := (10 : Int32)) hx hb dX6_told_70 (by decide) ?_
        refine lv_isub hx hb dX6_told_72 ?_
        refine kx_e hk1 ?_
        refine kx_ld hx hb hK hP 3 0 rfl rfl ((wh - (10 : Int32)).toNatClampNeg) rfl (by omega) (by decide) dX6_told_73 ?_
        refine lv_goto (tgt := 79) hx hb dX6_told_74 (by decide) ?_
        subst hF
        subst hAe
        exact W.iret hx hb hr (fun t ht _ => ⟨⟨_, (), rfl, rfl, by rw [ht]; exact hP, hD⟩, hS.F ht⟩) hS.2.2 dX6_told_79
  · rw [if_neg c3] at hF
    refine lv_iload_n hx hb dX6_told_6 rfl (lv_at hl 1 rfl) ?_
    refine lv_bipush (v := (100 : Int32)) hx hb dX6_told_7 (by decide) ?_
    refine lv_idiv hx hb dX6_told_9 (by decide) ?_
    refine lv_iconst (v := (1 : Int32)) hx hb dX6_told_10 (by decide) ?_
    refine lv_isub hx hb dX6_told_11 ?_
    refine lv_istore_n (lv' := [(2, .int ((wh / (100 : Int32)) - (1 : Int32))), (0, .ref hm), (1, .int wh)]) hx hb dX6_told_12 rfl hl (by decide) rfl (fun ls hl => ?_)
    refine lv_aload_n hx hb dX6_told_13 rfl (lv_at hl 1 rfl) ?_
    refine lv_iload_n hx hb dX6_told_14 rfl (lv_at hl 0 rfl) ?_
    refine kx_cV (As := [.int ((wh / (100 : Int32)) - (1 : Int32))]) (rest := []) ⟨hx, hb, hml, hown, hts⟩ (c_X6_isStitch l dC dI cyI cyZ hm mb mn mk ms mp mq mi mz ma mc sg sn ud rz az bk ((wh / (100 : Int32)) - (1 : Int32)) hI _ rfl) (cwV 1 hts gX6_told_X6_isStitch rfl rfl rfl (by decide +kernel) ⟨Nat.le_of_ble_eq_true rfl, Nat.le_of_ble_eq_true rfl⟩) hP hK hN [0, 1] rfl [0, 1] rfl 6 0 rfl rfl rfl rfl hl.1 rfl (Nat.le_of_ble_eq_true rfl) dX6_told_15 ⟨Nat.zero_le _, Nat.zero_le _⟩ ?_
    refine lv_if_eq (tgt := 46) hx hb dX6_told_18 (by decide) (fun c18 => ?_) (fun c18 => ?_)
    · rw [if_pos c18] at hF
      refine lv_bipush (v := (-2 : Int32)) hx hb dX6_told_46 (by decide) ?_
      subst hF
      subst hAe
      exact W.iret hx hb hr (fun t ht _ => ⟨⟨_, (), rfl, rfl, by rw [ht]; exact hP, hD⟩, hS.F ht⟩) hS.2.2 dX6_told_48
    · rw [if_neg c18] at hF
      obtain ⟨hk1, hk2⟩ := fX6_isStitch_P hI c18
      refine lv_iload_n hx hb dX6_told_21 rfl (lv_at hl 2 rfl) ?_
      refine lv_bipush (v := (100 : Int32)) hx hb dX6_told_22 (by decide) ?_
      refine lv_irem hx hb dX6_told_24 (by decide) ?_
      refine lv_iconst (v := (3 : Int32)) hx hb dX6_told_25 (by decide) ?_
      refine lv_icmp_ge (tgt := 46) hx hb dX6_told_26 (by decide) (fun c26 => ?_) (fun c26 => ?_)
      · rw [if_pos c26] at hF
        refine lv_bipush (v := (-2 : Int32)) hx hb dX6_told_46 (by decide) ?_
        subst hF
        subst hAe
        exact W.iret hx hb hr (fun t ht _ => ⟨⟨_, (), rfl, rfl, by rw [ht]; exact hP, hD⟩, hS.F ht⟩) hS.2.2 dX6_told_48
      · rw [if_neg c26] at hF
        obtain ⟨hw1, hw2⟩ := kx_m100 c3 c26
        refine lv_aload_n hx hb dX6_told_29 rfl (lv_at hl 1 rfl) ?_
        refine va_get (D := (dC, dI)) (ci := 6) (v := .ref mb) (C := RX6) (T := TX6) (N := 15) hx hb hts hiX6 hown hK hP 0 rfl rfl 0 (by decide) fl7 (fun _ h9 => h9) rfl dX6_told_30 ?_
        refine lv_bipush (v := (24 : Int32)) hx hb dX6_told_33 (by decide) ?_
        refine lv_iload_n hx hb dX6_told_35 rfl (lv_at hl 2 rfl) ?_
        refine lv_bipush (v := (100 : Int32)) hx hb dX6_told_36 (by decide) ?_
        refine lv_irem hx hb dX6_told_38 (by decide) ?_
        refine kx_e hw1 ?_
        refine lv_imul hx hb dX6_told_39 ?_
        refine kx_e (pk_mul (24) ((wh - wh / (100 : Int32) * (100 : Int32)).toNatClampNeg)) ?_
        refine lv_iload_n hx hb dX6_told_40 rfl (lv_at hl 0 rfl) ?_
        refine kx_e hk1 ?_
        refine lv_iadd hx hb dX6_told_41 ?_
        refine kx_e (nI_add (24 * ((wh - wh / (100 : Int32) * (100 : Int32)).toNatClampNeg)) (((wh / (100 : Int32)) - (1 : Int32)).toNatClampNeg)) ?_
        refine kx_ld hx hb hK hP 1 0 rfl rfl (24 * ((wh - wh / (100 : Int32) * (100 : Int32)).toNatClampNeg) + (((wh / (100 : Int32)) - (1 : Int32)).toNatClampNeg)) rfl (by omega) (by decide) dX6_told_42 ?_
        refine lv_goto (tgt := 48) hx hb dX6_told_43 (by decide) ?_
        subst hF
        subst hAe
        exact W.iret hx hb hr (fun t ht _ => ⟨⟨_, (), rfl, rfl, by rw [ht]; exact hP, hD⟩, hS.F ht⟩) hS.2.2 dX6_told_48
