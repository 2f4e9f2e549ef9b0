def fX3_tightnessOf (kt : Nat → Int32) (kn : Int32) : Int32 :=
  (fX5_at kt 4 kn)
set_option maxHeartbeats 4000000 in
set_option maxRecDepth 100000 in
theorem c_X3_tightnessOf (l : Launch) (dC : Nat → ClassId) (dI : Nat → Nat → Nat) (cyI cyZ : ClassId) (ht hs ak : Nat) (si : Nat) (fi : Int32) (kt : Nat → Int32) (kn : Int32) (r : Int32) (hF : fX3_tightnessOf kt kn = r) : Met l yX3_tightnessOf wsX3_tightnessOf ({ frames := 1, cells := 0, slots := 0, locals := 21 }) (kx_rp (dC, dI) [(ht, .inr (3, [.ref hs, .ref ak, .int (nI si), .int fi])), (ak, .inl (cyI, 4, .inl kt))] [(cyI, .int), (cyZ, .boolean)] [.ref ht, .int kn]) (k2_QcV (.int r)) 0 0 (fun _ => False) := by
  refine Met.ofW (cc := cX3_tightnessOf) (maxL := 2) (ret := (some .int)) (by decide) rfl ?_
  intro p e s m args below meth c s₁ B hml hv
  obtain ⟨rfl, hP, hK, hN⟩ := hv
  have hx := B.exec
  have hb := B.bytes
  have hr := B.returns
  have hts := atoms_spec (ws := wsX3_tightnessOf) B.pre
  have hown : s.vm.findClass RX3 = some m.cls := findClass_of_methodNamed B.named
  have hlocks := B.notSynchronized
  have hiX3 : ∀ w ∈ wsX30, w ∈ wsX3_tightnessOf := by decide +kernel
  have fl18 := hts (.fieldLink RX3 18 "KnitChronicle$Town" "knitterTightness" "[I") (by decide +kernel)
  have hl := lv_entry ([.ref ht, .int kn]) (n := 2) (Nat.le_of_ble_eq_true rfl)
  rw [lg_entry_eq]
  generalize (lg_sl ([.ref ht, .int kn]) ++ List.replicate (2 - (lg_sl ([.ref ht, .int kn])).length) Slot.unset).toArray = ls at hl ⊢
  have hl : lv_has ls 2 [(0, .ref ht), (1, .int kn)] := hl
  unfold fX3_tightnessOf at hF
  refine lv_aload_n hx hb dX3_tightnessOf_0 rfl (lv_at hl 0 rfl) ?_
  refine va_get (D := (dC, dI)) (ci := 3) (v := .ref ak) (C := RX3) (T := TX3) (N := 4) hx hb hts hiX3 hown hK hP 0 rfl rfl 1 (by decide) fl18 (fun _ h9 => h9) rfl dX3_tightnessOf_1 ?_
  refine lv_iload_n hx hb dX3_tightnessOf_4 rfl (lv_at hl 1 rfl) ?_
  refine kx_cSN (As := [.ref ak, .int kn]) (rest := []) ⟨hx, hb, hml, hown, hts⟩ (c_X5_at l dC dI cyI cyZ ak kt 4 kn (by omega) _ rfl) ⟨va_cnB 2 hts gX3_tightnessOf_X5_at_n26 rfl rfl rfl (hN (RX3, 26, yX5_at, RX5) (List.mem_of_getElem? (i := 8) rfl)) (hts (.initialized RX5) (by decide +kernel)) (by decide +kernel) ⟨Nat.le_of_ble_eq_true rfl, Nat.le_of_ble_eq_true rfl⟩, hts (.static yX5_at) (by decide +kernel), trivial⟩ hP hK hN [1] rfl [0, 1] rfl rfl hl.1 rfl (Nat.le_of_ble_eq_true rfl) dX3_tightnessOf_5 ⟨Nat.zero_le _, Nat.zero_le _⟩ ?_
  exact W.iret hx hb hr (fun t ht _ => ⟨congrArg (fun z => Outcome.returned (some (Value.int z))) hF, ht⟩) (fun _ h => absurd h List.not_mem_nil) dX3_tightnessOf_8

def fX3_forgetSights  : Nat × Int32 :=
  (0, (1023 : Int32))
set_option maxHeartbeats 4000000 in
set_option maxRecDepth 100000 in
theorem c_X3_forgetSights (l : Launch) (dC : Nat → ClassId) (dI : Nat → Nat → Nat) (cyI cyZ : ClassId) (ht hs ak : Nat) (si : Nat) (fi : Int32) (sz : Nat) (r : Nat × Int32) (hF : fX3_forgetSights = r) : Met l yX3_forgetSights wsX3_forgetSights ({ frames := 0, cells := 0, slots := 0, locals := 0 }) (kx_wp (dC, dI) [(ht, .inr (3, [.ref hs, .ref ak, .int (nI si), .int fi]))] [(cyI, .int), (cyZ, .boolean)] sz [.ref ht]) (kx_Qv (dC, dI) [(ht, .inr (3, [.ref hs, .ref ak, .int (nI si), .int fi]))] [(ht, .inr (3, [.ref hs, .ref ak, .int (nI (r.1)), .int r.2]))] sz) 0 0 (va_A [(ht, .inr (3, [.ref hs, .ref ak, .int (nI si), .int fi]))] sz) := by
  refine Met.ofW (cc := cX3_forgetSights) (maxL := 1) (ret := none) (by decide) rfl ?_
  intro p e s m args below meth c s₁ B hml hv
  obtain ⟨rfl, hsz, hP, hK, hN, hD0⟩ := hv
  have hx := B.exec
  have hb := B.bytes
  have hr := B.returns
  have hts := atoms_spec (ws := wsX3_forgetSights) B.pre
  have hown : s.vm.findClass RX3 = some m.cls := findClass_of_methodNamed B.named
  have hlocks := B.notSynchronized
  subst hsz
  obtain ⟨A, hAe⟩ : ∃ A, A = va_A [(ht, .inr (3, [.ref hs, .ref ak, .int (nI si), .int fi]))] s.heap.size := ⟨_, rfl⟩
  have hD : va_D A [(ht, .inr (3, [.ref hs, .ref ak, .int (nI si), .int fi]))] := by rw [hAe]; exact hD0.self
  have hA : ∀ q : Nat, s.heap.size ≤ q → A q := fun q h => by rw [hAe]; exact Or.inr h
  have hS : va_S A s.heap s.heap [] := va_S.rf
  have hiX3 : ∀ w ∈ wsX30, w ∈ wsX3_forgetSights := by decide +kernel
  have fl22 := hts (.fieldLink RX3 22 "KnitChronicle$Town" "fitting" "I") (by decide +kernel)
  have fl30 := hts (.fieldLink RX3 30 "KnitChronicle$Town" "sights" "I") (by decide +kernel)
  have hl := lv_entry ([.ref ht]) (n := 1) (Nat.le_of_ble_eq_true rfl)
  rw [lg_entry_eq]
  generalize (lg_sl ([.ref ht]) ++ List.replicate (1 - (lg_sl ([.ref ht])).length) Slot.unset).toArray = ls at hl ⊢
  have hl : lv_has ls 1 [(0, .ref ht)] := hl
  unfold fX3_forgetSights at hF
  refine lv_aload_n hx hb dX3_forgetSights_0 rfl (lv_at hl 0 rfl) ?_
  refine lv_iconst (v := (0 : Int32)) hx hb dX3_forgetSights_1 (by decide) ?_
  refine va_put (D := (dC, dI)) (ci := 3) (v := .int (0 : Int32)) (ty := .int) (C := RX3) (T := TX3) (N := 4) hx hb hts hiX3 tyX3 tyX3_ok nmX3 hown hK hP hD hS 0 rfl rfl 2 (by decide) fl30 (fun _ h9 => h9) rfl (by decide +kernel) rfl rfl (Nat.le_of_ble_eq_true rfl) dX3_forgetSights_2 (fun H locs hP hD hS => ?_)
  have hP : va_P (dC, dI) vwCl [(ht, .inr (3, [.ref hs, .ref ak, .int (0 : Int32), .int fi]))] H := hP
  have hD : va_D A [(ht, .inr (3, [.ref hs, .ref ak, .int (0 : Int32), .int fi]))] := hD
  refine lv_aload_n hx hb dX3_forgetSights_5 rfl (lv_at hl 0 rfl) ?_
  refine lv_sipush (v := (1023 : Int32)) hx hb dX3_forgetSights_6 (by decide) ?_
  refine va_put (D := (dC, dI)) (ci := 3) (v := .int (1023 : Int32)) (ty := .int) (C := RX3) (T := TX3) (N := 4) hx hb hts hiX3 tyX3 tyX3_ok nmX3 hown hK hP hD hS 0 rfl rfl 3 (by decide) fl22 (fun _ h9 => h9) rfl (by decide +kernel) rfl rfl (Nat.le_of_ble_eq_true rfl) dX3_forgetSights_9 (fun H locs hP hD hS => ?_)
  have hP : va_P (dC, dI) vwCl [(ht, .inr (3, [.ref hs, .ref ak, .int (0 : Int32), .int (1023 : Int32)]))] H := hP
  have hD : va_D A [(ht, .inr (3, [.ref hs, .ref ak, .int (0 : Int32), .int (1023 : Int32)]))] := hD
  subst hF
  subst hAe
  exact W.vret hx hb hr (fun t ht _ => ⟨⟨(), rfl, trivial, by rw [ht]; exact hP, hD⟩, hS.F ht⟩) hS.2.2 dX3_forgetSights_12

def fX3_copy_L13 (kt2 : Nat → Int32) : Nat → Nat → (Nat → Int32) → (Nat → Int32)
  | 0, _, gk1 => gk1
  | r13 + 1, j13, gk1 => ((fun (q28 : Nat → Int32) => (fX3_copy_L13 kt2 r13 (j13 + 1) q28)) (fX5_put gk1 4 (nI j13) (fX3_tightnessOf kt2 (nI j13))))
def fX3_copy (kt : Nat → Int32) (co : Nat → Int32) (ti : Nat → Int32) (an : Nat → Int32) (si2 : Nat) (fi2 : Int32) (kt2 : Nat → Int32) (n2 : Nat) (ea2 : Int32) (co2 : Nat → Int32) (ti2 : Nat → Int32) (an2 : Nat → Int32) : (Nat → Int32) × (Nat → Int32) × (Nat → Int32) × Nat × Int32 × (Nat → Int32) × Nat × Int32 :=
  (match fX2_copy co ti an n2 ea2 co2 ti2 an2 with | (q8a, q8b, q8c, q8d, q8e) => ((fun (gk1 : Nat → Int32) => (q8a, q8b, q8c, q8d, q8e, gk1, si2, fi2)) (fX3_copy_L13 kt2 4 0 kt)))
set_option maxHeartbeats 4000000 in
set_option maxRecDepth 100000 in
theorem c_X3_copy (l : Launch) (dC : Nat → ClassId) (dI : Nat → Nat → Nat) (cyI cyZ : ClassId) (ht hs ak a0 a1 a2 gt gs gk b0 b1 b2 : Nat) (si : Nat) (fi : Int32) (kt : Nat → Int32) (n : Nat) (ea : Int32) (co : Nat → Int32) (ti : Nat → Int32) (an : Nat → Int32) (si2 : Nat) (fi2 : Int32) (kt2 : Nat → Int32) (n2 : Nat) (ea2 : Int32) (co2 : Nat → Int32) (ti2 : Nat → Int32) (an2 : Nat → Int32) (hn2 : n2 ≤ 1000) (sz : Nat) (r : (Nat → Int32) × (Nat → Int32) × (Nat → Int32) × Nat × Int32 × (Nat → Int32) × Nat × Int32) (hF : fX3_copy kt co ti an si2 fi2 kt2 n2 ea2 co2 ti2 an2 = r) : Met l yX3_copy wsX3_copy ({ frames := 2, cells := 0, slots := 0, locals := 44 }) (kx_wp (dC, dI) [(ht, .inr (3, [.ref hs, .ref ak, .int (nI si), .int fi])), (ak, .inl (cyI, 4, .inl kt)), (hs, .inr (2, [.ref a0, .ref a1, .ref a2, .int (nI n), .int ea])), (a0, .inl (cyI, 24, .inl co)), (a1, .inl (cyI, 24, .inl ti)), (a2, .inl (cyI, 24, .inl an)), (gt, .inr (3, [.ref gs, .ref gk, .int (nI si2), .int fi2])), (gk, .inl (cyI, 4, .inl kt2)), (gs, .inr (2, [.ref b0, .ref b1, .ref b2, .int (nI n2), .int ea2])), (b0, .inl (cyI, 24, .inl co2)), (b1, .inl (cyI, 24, .inl ti2)), (b2, .inl (cyI, 24, .inl an2))] [(cyI, .int), (cyZ, .boolean)] sz [.ref ht, .ref gt]) (kx_Qv (dC, dI) [(ht, .inr (3, [.ref hs, .ref ak, .int (nI si), .int fi])), (ak, .inl (cyI, 4, .inl kt)), (hs, .inr (2, [.ref a0, .ref a1, .ref a2, .int (nI n), .int ea])), (a0, .inl (cyI, 24, .inl co)), (a1, .inl (cyI, 24, .inl ti)), (a2, .inl (cyI, 24, .inl an)), (gt, .inr (3, [.ref gs, .ref gk, .int (nI si2), .int fi2])), (gk, .inl (cyI, 4, .inl kt2)), (gs, .inr (2, [.ref b0, .ref b1, .ref b2, .int (nI n2), .int ea2])), (b0, .inl (cyI, 24, .inl co2)), (b1, .inl (cyI, 24, .inl ti2)), (b2, .inl (cyI, 24, .inl an2))] [(ht, .inr (3, [.ref hs, .ref ak, .int (nI (r.2.2.2.2.2.2.1)), .int r.2.2.2.2.2.2.2])), (ak, .inl (cyI, 4, .inl r.2.2.2.2.2.1)), (hs, .inr (2, [.ref a0, .ref a1, .ref a2, .int (nI (r.2.2.2.1)), .int r.2.2.2.2.1])), (a0, .inl (cyI, 24, .inl r.1)), (a1, .inl (cyI, 24, .inl r.2.1)), (a2, .inl (cyI, 24, .inl r.2.2.1)), (gt, .inr (3, [.ref gs, .ref gk, .int (nI si2), .int fi2])), (gk, .inl (cyI, 4, .inl kt2)), (gs, .inr (2, [.ref b0, .ref b1, .ref b2, .int (nI n2), .int ea2])), (b0, .inl (cyI, 24, .inl co2)), (b1, .inl (cyI, 24, .inl ti2)), (b2, .inl (cyI, 24, .inl an2))] sz) 0 0 (va_A [(ht, .inr (3, [.ref hs, .ref ak, .int (nI si), .int fi])), (ak, .inl (cyI, 4, .inl kt)), (hs, .inr (2, [.ref a0, .ref a1, .ref a2, .int (nI n), .int ea])), (a0, .inl (cyI, 24, .inl co)), (a1, .inl (cyI, 24, .inl ti)), (a2, .inl (cyI, 24, .inl an)), (gt, .inr (3, [.ref gs, .ref gk, .int (nI si2), .int fi2])), (gk, .inl (cyI, 4, .inl kt2)), (gs, .inr (2, [.ref b0, .ref b1, .ref b2, .int (nI n2), .int ea2])), (b0, .inl (cyI, 24, .inl co2)), (b1, .inl (cyI, 24, .inl ti2)), (b2, .inl (cyI, 24, .inl an2))] sz) := by
  refine Met.ofW (cc := cX3_copy) (maxL := 3) (ret := none) (by decide) rfl ?_
  intro p e s m args below meth c s₁ B hml hv
  obtain ⟨rfl, hsz, hP, hK, hN, hD0⟩ := hv
  have hx := B.exec
  have hb := B.bytes
  have hr := B.returns
  have hts := atoms_spec (ws := wsX3_copy) B.pre
  have hown : s.vm.findClass RX3 = some m.cls := findClass_of_methodNamed B.named
  have hlocks := B.notSynchronized
  subst hsz
  obtain ⟨A, hAe⟩ : ∃ A, A = va_A [(ht, .inr (3, [.ref hs, .ref ak, .int (nI si), .int fi])), (ak, .inl (cyI, 4, .inl kt)), (hs, .inr (2, [.ref a0, .ref a1, .ref a2, .int (nI n), .int ea])), (a0, .inl (cyI, 24, .inl co)), (a1, .inl (cyI, 24, .inl ti)), (a2, .inl (cyI, 24, .inl an)), (gt, .inr (3, [.ref gs, .ref gk, .int (nI si2), .int fi2])), (gk, .inl (cyI, 4, .inl kt2)), (gs, .inr (2, [.ref b0, .ref b1, .ref b2, .int (nI n2), .int ea2])), (b0, .inl (cyI, 24, .inl co2)), (b1, .inl (cyI, 24, .inl ti2)), (b2, .inl (cyI, 24, .inl an2))] s.heap.size := ⟨_, rfl⟩
  have hD : va_D A [(ht, .inr (3, [.ref hs, .ref ak, .int (nI si), .int fi])), (ak, .inl (cyI, 4, .inl kt)), (hs, .inr (2, [.ref a0, .ref a1, .ref a2, .int (nI n), .int ea])), (a0, .inl (cyI, 24, .inl co)), (a1, .inl (cyI, 24, .inl ti)), (a2, .inl (cyI, 24, .inl an)), (gt, .inr (3, [.ref gs, .ref gk, .int (nI si2), .int fi2])), (gk, .inl (cyI, 4, .inl kt2)), (gs, .inr (2, [.ref b0, .ref b1, .ref b2, .int (nI n2), .int ea2])), (b0, .inl (cyI, 24, .inl co2)), (b1, .inl (cyI, 24, .inl ti2)), (b2, .inl (cyI, 24, .inl an2))] := by rw [hAe]; exact hD0.self
  have hA : ∀ q : Nat, s.heap.size ≤ q → A q := fun q h => by rw [hAe]; exact Or.inr h
  have hS : va_S A s.heap s.heap [] := va_S.rf
  have hiX3 : ∀ w ∈ wsX30, w ∈ wsX3_copy := by decide +kernel
  have fl12 := hts (.fieldLink RX3 12 "KnitChronicle$Town" "scarf" "LKnitChronicle$Scarf;") (by decide +kernel)
  have fl18 := hts (.fieldLink RX3 18 "KnitChronicle$Town" "knitterTightness" "[I") (by decide +kernel)
  have fl22 := hts (.fieldLink RX3 22 "KnitChronicle$Town" "fitting" "I") (by decide +kernel)
  have fl30 := hts (.fieldLink RX3 30 "KnitChronicle$Town" "sights" "I") (by decide +kernel)
  have hl := lv_entry ([.ref ht, .ref gt]) (n := 3) (Nat.le_of_ble_eq_true rfl)
  rw [lg_entry_eq]
  generalize (lg_sl ([.ref ht, .ref gt]) ++ List.replicate (3 - (lg_sl ([.ref ht, .ref gt])).length) Slot.unset).toArray = ls at hl ⊢
  have hl : lv_has ls 3 [(0, .ref ht), (1, .ref gt)] := hl
  unfold fX3_copy at hF
  refine lv_aload_n hx hb dX3_copy_0 rfl (lv_at hl 0 rfl) ?_
  refine va_get (D := (dC, dI)) (ci := 3) (v := .ref hs) (C := RX3) (T := TX3) (N := 4) hx hb hts hiX3 hown hK hP 0 rfl rfl 0 (by decide) fl12 (fun _ h9 => h9) rfl dX3_copy_1 ?_
  refine lv_aload_n hx hb dX3_copy_4 rfl (lv_at hl 1 rfl) ?_
  refine va_get (D := (dC, dI)) (ci := 3) (v := .ref gs) (C := RX3) (T := TX3) (N := 4) hx hb hts hiX3 hown hK hP 6 rfl rfl 0 (by decide) fl12 (fun _ h9 => h9) rfl dX3_copy_5 ?_
  generalize hq8 : fX2_copy co ti an n2 ea2 co2 ti2 an2 = q8 at hF
  obtain ⟨q8a, q8b, q8c, q8d, q8e⟩ := q8
  dsimp only at hF
  refine kx_wVv (As := [.ref gs]) (rest := []) (wr := [(ht, .inr (3, [.ref hs, .ref ak, .int (nI si), .int fi])), (ak, .inl (cyI, 4, .inl kt)), (gt, .inr (3, [.ref gs, .ref gk, .int (nI si2), .int fi2])), (gk, .inl (cyI, 4, .inl kt2))]) (wc' := [(hs, .inr (2, [.ref a0, .ref a1, .ref a2, .int (nI q8d), .int q8e])), (a0, .inl (cyI, 24, .inl q8a)), (a1, .inl (cyI, 24, .inl q8b)), (a2, .inl (cyI, 24, .inl q8c)), (gs, .inr (2, [.ref b0, .ref b1, .ref b2, .int (nI n2), .int ea2])), (b0, .inl (cyI, 24, .inl co2)), (b1, .inl (cyI, 24, .inl ti2)), (b2, .inl (cyI, 24, .inl an2))]) (W1 := [(ht, .inr (3, [.ref hs, .ref ak, .int (nI si), .int fi])), (ak, .inl (cyI, 4, .inl kt)), (hs, .inr (2, [.ref a0, .ref a1, .ref a2, .int (nI q8d), .int q8e])), (a0, .inl (cyI, 24, .inl q8a)), (a1, .inl (cyI, 24, .inl q8b)), (a2, .inl (cyI, 24, .inl q8c)), (gt, .inr (3, [.ref gs, .ref gk, .int (nI si2), .int fi2])), (gk, .inl (cyI, 4, .inl kt2)), (gs, .inr (2, [.ref b0, .ref b1, .ref b2, .int (nI n2), .int ea2])), (b0, .inl (cyI, 24, .inl co2)), (b1, .inl (cyI, 24, .inl ti2)), (b2, .inl (cyI, 24, .inl an2))]) ⟨hx, hb, hml, hown, hts⟩ (c_X2_copy l dC dI cyI cyZ hs a0 a1 a2 gs b0 b1 b2 n ea co ti an n2 ea2 co2 ti2 an2 (by omega) _ _ hq8) (cwV 1 hts gX3_copy_X2_copy rfl rfl rfl (by decide +kernel) ⟨Nat.le_of_ble_eq_true rfl, Nat.le_of_ble_eq_true rfl⟩) hP hD hS hA hK hN [2, 3, 4, 5, 8, 9, 10, 11] [0, 1, 6, 7] [0, 1, 4, 5, 6, 7, 2, 3, 8, 9, 10, 11] rfl (by decide) rfl (by decide) (by decide) (by decide) rfl [0, 1] rfl 2 2 rfl rfl rfl rfl hl.1 rfl (Nat.le_of_ble_eq_true rfl) dX3_copy_8 ⟨Nat.zero_le _, Nat.zero_le _⟩ (fun H locs hP hD hS => ?_)
  refine lv_iconst (v := (0 : Int32)) hx hb dX3_copy_11 (by decide) ?_
  refine lv_istore_n (lv' := [(2, .int (0 : Int32)), (0, .ref ht), (1, .ref gt)]) hx hb dX3_copy_12 rfl hl (by decide) rfl (fun ls hl => ?_)
  generalize hz13 : fX3_copy_L13 kt2 4 0 kt = z13 at hF
  have LP13 : ∀ (r13 : Nat) (j13 : Nat) (gk1 : Nat → Int32), r13 + j13 = 4 → fX3_copy_L13 kt2 r13 j13 gk1 = z13 → ∀ (H : Heap) (locs : List Loc), va_P (dC, dI) vwCl [(ht, .inr (3, [.ref hs, .ref ak, .int (nI si), .int fi])), (ak, .inl (cyI, 4, .inl gk1)), (hs, .inr (2, [.ref a0, .ref a1, .ref a2, .int (nI q8d), .int q8e])), (a0, .inl (cyI, 24, .inl q8a)), (a1, .inl (cyI, 24, .inl q8b)), (a2, .inl (cyI, 24, .inl q8c)), (gt, .inr (3, [.ref gs, .ref gk, .int (nI si2), .int fi2])), (gk, .inl (cyI, 4, .inl kt2)), (gs, .inr (2, [.ref b0, .ref b1, .ref b2, .int (nI n2), .int ea2])), (b0, .inl (cyI, 24, .inl co2)), (b1, .inl (cyI, 24, .inl ti2)), (b2, .inl (cyI, 24, .inl an2))] H → va_D A [(ht, .inr (3, [.ref hs, .ref ak, .int (nI si), .int fi])), (ak, .inl (cyI, 4, .inl gk1)), (hs, .inr (2, [.ref a0, .ref a1, .ref a2, .int (nI q8d), .int q8e])), (a0, .inl (cyI, 24, .inl q8a)), (a1, .inl (cyI, 24, .inl q8b)), (a2, .inl (cyI, 24, .inl q8c)), (gt, .inr (3, [.ref gs, .ref gk, .int (nI si2), .int fi2])), (gk, .inl (cyI, 4, .inl kt2)), (gs, .inr (2, [.ref b0, .ref b1, .ref b2, .int (nI n2), .int ea2])), (b0, .inl (cyI, 24, .inl co2)), (b1, .inl (cyI, 24, .inl ti2)), (b2, .inl (cyI, 24, .inl an2))] → va_S A s.heap H locs → ∀ (ls : Array Slot), lv_has ls 3 [(2, .int (nI j13)), (0, .ref ht), (1, .ref gt)] → W p l e (headSpec wsX3_copy ({ frames := 2, cells := 0, slots := 0, locals := 44 } : Room)).room s m ([.ref ht, .ref gt] : List Value).toArray below meth c H locs 0 0 (MQ below (kx_Qv (dC, dI) [(ht, .inr (3, [.ref hs, .ref ak, .int (nI si), .int fi])), (ak, .inl (cyI, 4, .inl kt)), (hs, .inr (2, [.ref a0, .ref a1, .ref a2, .int (nI n), .int ea])), (a0, .inl (cyI, 24, .inl co)), (a1, .inl (cyI, 24, .inl ti)), (a2, .inl (cyI, 24, .inl an)), (gt, .inr (3, [.ref gs, .ref gk, .int (nI si2), .int fi2])), (gk, .inl (cyI, 4, .inl kt2)), (gs, .inr (2, [.ref b0, .ref b1, .ref b2, .int (nI n2), .int ea2])), (b0, .inl (cyI, 24, .inl co2)), (b1, .inl (cyI, 24, .inl ti2)), (b2, .inl (cyI, 24, .inl an2))] [(ht, .inr (3, [.ref hs, .ref ak, .int (nI (r.2.2.2.2.2.2.1)), .int r.2.2.2.2.2.2.2])), (ak, .inl (cyI, 4, .inl r.2.2.2.2.2.1)), (hs, .inr (2, [.ref a0, .ref a1, .ref a2, .int (nI (r.2.2.2.1)), .int r.2.2.2.2.1])), (a0, .inl (cyI, 24, .inl r.1)), (a1, .inl (cyI, 24, .inl r.2.1)), (a2, .inl (cyI, 24, .inl r.2.2.1)), (gt, .inr (3, [.ref gs, .ref gk, .int (nI si2), .int fi2])), (gk, .inl (cyI, 4, .inl kt2)), (gs, .inr (2, [.ref b0, .ref b1, .ref b2, .int (nI n2), .int ea2])), (b0, .inl (cyI, 24, .inl co2)), (b1, .inl (cyI, 24, .inl ti2)), (b2, .inl (cyI, 24, .inl an2))] s.heap.size) ([.ref ht, .ref gt] : List Value).toArray s 0 0 (va_A [(ht, .inr (3, [.ref hs, .ref ak, .int (nI si), .int fi])), (ak, .inl (cyI, 4, .inl kt)), (hs, .inr (2, [.ref a0, .ref a1, .ref a2, .int (nI n), .int ea])), (a0, .inl (cyI, 24, .inl co)), (a1, .inl (cyI, 24, .inl ti)), (a2, .inl (cyI, 24, .inl an)), (gt, .inr (3, [.ref gs, .ref gk, .int (nI si2), .int fi2])), (gk, .inl (cyI, 4, .inl kt2)), (gs, .inr (2, [.ref b0, .ref b1, .ref b2, .int (nI n2), .int ea2])), (b0, .inl (cyI, 24, .inl co2)), (b1, .inl (cyI, 24, .inl ti2)), (b2, .inl (cyI, 24, .inl an2))] s.heap.size)) (F0 m 13 ls []) := by
    intro r13
    induction r13 with
    | zero =>
      intro j13 gk1 hrj hz13 H locs hP hD hS ls hl
      rw [fX3_copy_L13] at hz13
      subst hz13
      try dsimp only at hF
      refine lv_iload_n hx hb dX3_copy_13 rfl (lv_at hl 0 rfl) ?_
      refine lv_iconst (v := (4 : Int32)) hx hb dX3_copy_14 (by decide) ?_
      refine kx_ge hx hb (j13) (4) rfl rfl (by omega) (by omega) dX3_copy_15 (by decide) (tgt := 37) (fun c15 => ?_) (fun c15 => absurd c15 (by omega))
      refine lv_aload_n hx hb dX3_copy_37 rfl (lv_at hl 1 rfl) ?_
      refine lv_aload_n hx hb dX3_copy_38 rfl (lv_at hl 2 rfl) ?_
      refine va_get (D := (dC, dI)) (ci := 3) (v := .int (nI si2)) (C := RX3) (T := TX3) (N := 4) hx hb hts hiX3 hown hK hP 6 rfl rfl 2 (by decide) fl30 (fun _ h9 => h9) rfl dX3_copy_39 ?_
      refine va_put (D := (dC, dI)) (ci := 3) (v := .int (nI si2)) (ty := .int) (C := RX3) (T := TX3) (N := 4) hx hb hts hiX3 tyX3 tyX3_ok nmX3 hown hK hP hD hS 0 rfl rfl 2 (by decide) fl30 (fun _ h9 => h9) rfl (by decide +kernel) rfl rfl (Nat.le_of_ble_eq_true rfl) dX3_copy_42 (fun H locs hP hD hS => ?_)
      have hP : va_P (dC, dI) vwCl [(ht, .inr (3, [.ref hs, .ref ak, .int (nI si2), .int fi])), (ak, .inl (cyI, 4, .inl gk1)), (hs, .inr (2, [.ref a0, .ref a1, .ref a2, .int (nI q8d), .int q8e])), (a0, .inl (cyI, 24, .inl q8a)), (a1, .inl (cyI, 24, .inl q8b)), (a2, .inl (cyI, 24, .inl q8c)), (gt, .inr (3, [.ref gs, .ref gk, .int (nI si2), .int fi2])), (gk, .inl (cyI, 4, .inl kt2)), (gs, .inr (2, [.ref b0, .ref b1, .ref b2, .int (nI n2), .int ea2])), (b0, .inl (cyI, 24, .inl co2)), (b1, .inl (cyI, 24, .inl ti2)), (b2, .inl (cyI, 24, .inl an2))] H := hP
      have hD : va_D A [(ht, .inr (3, [.ref hs, .ref ak, .int (nI si2), .int fi])), (ak, .inl (cyI, 4, .inl gk1)), (hs, .inr (2, [.ref a0, .ref a1, .ref a2, .int (nI q8d), .int q8e])), (a0, .inl (cyI, 24, .inl q8a)), (a1, .inl (cyI, 24, .inl q8b)), (a2, .inl (cyI, 24, .inl q8c)), (gt, .inr (3, [.ref gs, .ref gk, .int (nI si2), .int fi2])), (gk, .inl (cyI, 4, .inl kt2)), (gs, .inr (2, [.ref b0, .ref b1, .ref b2, .int (nI n2), .int ea2])), (b0, .inl (cyI, 24, .inl co2)), (b1, .inl (cyI, 24, .inl ti2)), (b2, .inl (cyI, 24, .inl an2))] := hD
      refine lv_aload_n hx hb dX3_copy_45 rfl (lv_at hl 1 rfl) ?_
      refine lv_aload_n hx hb dX3_copy_46 rfl (lv_at hl 2 rfl) ?_
      refine va_get (D := (dC, dI)) (ci := 3) (v := .int fi2) (C := RX3) (T := TX3) (N := 4) hx hb hts hiX3 hown hK hP 6 rfl rfl 3 (by decide) fl22 (fun _ h9 => h9) rfl dX3_copy_47 ?_
      refine va_put (D := (dC, dI)) (ci := 3) (v := .int fi2) (ty := .int) (C := RX3) (T := TX3) (N := 4) hx hb hts hiX3 tyX3 tyX3_ok nmX3 hown hK hP hD hS 0 rfl rfl 3 (by decide) fl22 (fun _ h9 => h9) rfl (by decide +kernel) rfl rfl (Nat.le_of_ble_eq_true rfl) dX3_copy_50 (fun H locs hP hD hS => ?_)
      have hP : va_P (dC, dI) vwCl [(ht, .inr (3, [.ref hs, .ref ak, .int (nI si2), .int fi2])), (ak, .inl (cyI, 4, .inl gk1)), (hs, .inr (2, [.ref a0, .ref a1, .ref a2, .int (nI q8d), .int q8e])), (a0, .inl (cyI, 24, .inl q8a)), (a1, .inl (cyI, 24, .inl q8b)), (a2, .inl (cyI, 24, .inl q8c)), (gt, .inr (3, [.ref gs, .ref gk, .int (nI si2), .int fi2])), (gk, .inl (cyI, 4, .inl kt2)), (gs, .inr (2, [.ref b0, .ref b1, .ref b2, .int (nI n2), .int ea2])), (b0, .inl (cyI, 24, .inl co2)), (b1, .inl (cyI, 24, .inl ti2)), (b2, .inl (cyI, 24, .inl an2))] H := hP
      have hD : va_D A [(ht, .inr (3, [.ref hs, .ref ak, .int (nI si2), .int fi2])), (ak, .inl (cyI, 4, .inl gk1)), (hs, .inr (2, [.ref a0, .ref a1, .ref a2, .int (nI q8d), .int q8e])), (a0, .inl (cyI, 24, .inl q8a)), (a1, .inl (cyI, 24, .inl q8b)), (a2, .inl (cyI, 24, .inl q8c)), (gt, .inr (3, [.ref gs, .ref gk, .int (nI si2), .int fi2])), (gk, .inl (cyI, 4, .inl kt2)), (gs, .inr (2, [.ref b0, .ref b1, .ref b2, .int (nI n2), .int ea2])), (b0, .inl (cyI, 24, .inl co2)), (b1, .inl (cyI, 24, .inl ti2)), (b2, .inl (cyI, 24, .inl an2))] := hD
      subst hF
      subst hAe
      exact W.vret hx hb hr (fun t ht _ => ⟨⟨(), rfl, trivial, by rw [ht]; exact hP, hD⟩, hS.F ht⟩) hS.2.2 dX3_copy_53
    | succ r13 ih =>
      intro j13 gk1 hrj hz13 H locs hP hD hS ls hl
      rw [fX3_copy_L13] at hz13
      refine lv_iload_n hx hb dX3_copy_13 rfl (lv_at hl 0 rfl) ?_
      refine lv_iconst (v := (4 : Int32)) hx hb dX3_copy_14 (by decide) ?_
      refine kx_ge hx hb (j13) (4) rfl rfl (by omega) (by omega) dX3_copy_15 (by decide) (tgt := 37) (fun c15 => absurd c15 (by omega)) (fun c15 => ?_)
      refine lv_aload_n hx hb dX3_copy_18 rfl (lv_at hl 1 rfl) ?_
      refine va_get (D := (dC, dI)) (ci := 3) (v := .ref ak) (C := RX3) (T := TX3) (N := 4) hx hb hts hiX3 hown hK hP 0 rfl rfl 1 (by decide) fl18 (fun _ h9 => h9) rfl dX3_copy_19 ?_
      refine lv_iload_n hx hb dX3_copy_22 rfl (lv_at hl 0 rfl) ?_
      refine lv_aload_n hx hb dX3_copy_23 rfl (lv_at hl 2 rfl) ?_
      refine lv_iload_n hx hb dX3_copy_24 rfl (lv_at hl 0 rfl) ?_
      refine kx_cV (As := [.int (nI j13)]) (rest := [.int (nI j13), .ref ak]) ⟨hx, hb, hml, hown, hts⟩ (c_X3_tightnessOf l dC dI cyI cyZ gt gs gk si2 fi2 kt2 (nI j13)  _ rfl) (cwV 1 hts gX3_copy_X3_tightnessOf rfl rfl rfl (by decide +kernel) ⟨Nat.le_of_ble_eq_true rfl, Nat.le_of_ble_eq_true rfl⟩) hP hK hN [6, 7] rfl [0, 1] rfl 3 6 rfl rfl rfl rfl hl.1 rfl (Nat.le_of_ble_eq_true rfl) dX3_copy_25 ⟨Nat.zero_le _, Nat.zero_le _⟩ ?_
      generalize hq28 : fX5_put gk1 4 (nI j13) (fX3_tightnessOf kt2 (nI j13)) = q28 at hz13
      try dsimp only at hz13
      refine kx_wSNv (As := [.ref ak, .int (nI j13), .int (fX3_tightnessOf kt2 (nI j13))]) (rest := []) (wr := [(ht, .inr (3, [.ref hs, .ref ak, .int (nI si), .int fi])), (hs, .inr (2, [.ref a0, .ref a1, .ref a2, .int (nI q8d), .int q8e])), (a0, .inl (cyI, 24, .inl q8a)), (a1, .inl (cyI, 24, .inl q8b)), (a2, .inl (cyI, 24, .inl q8c)), (gt, .inr (3, [.ref gs, .ref gk, .int (nI si2), .int fi2])), (gk, .inl (cyI, 4, .inl kt2)), (gs, .inr (2, [.ref b0, .ref b1, .ref b2, .int (nI n2), .int ea2])), (b0, .inl (cyI, 24, .inl co2)), (b1, .inl (cyI, 24, .inl ti2)), (b2, .inl (cyI, 24, .inl an2))]) (wc' := [(ak, .inl (cyI, 4, .inl q28))]) (W1 := [(ht, .inr (3, [.ref hs, .ref ak, .int (nI si), .int fi])), (ak, .inl (cyI, 4, .inl q28)), (hs, .inr (2, [.ref a0, .ref a1, .ref a2, .int (nI q8d), .int q8e])), (a0, .inl (cyI, 24, .inl q8a)), (a1, .inl (cyI, 24, .inl q8b)), (a2, .inl (cyI, 24, .inl q8c)), (gt, .inr (3, [.ref gs, .ref gk, .int (nI si2), .int fi2])), (gk, .inl (cyI, 4, .inl kt2)), (gs, .inr (2, [.ref b0, .ref b1, .ref b2, .int (nI n2), .int ea2])), (b0, .inl (cyI, 24, .inl co2)), (b1, .inl (cyI, 24, .inl ti2)), (b2, .inl (cyI, 24, .inl an2))]) ⟨hx, hb, hml, hown, hts⟩ (c_X5_put l dC dI cyI cyZ ak gk1 4 (nI j13) (fX3_tightnessOf kt2 (nI j13)) (by omega) _ _ hq28) ⟨va_cnB 3 hts gX3_copy_X5_put_n41 rfl rfl rfl (hN (RX3, 41, yX5_put, RX5) (List.mem_of_getElem? (i := 18) rfl)) (hts (.initialized RX5) (by decide +kernel)) (by decide +kernel) ⟨Nat.le_of_ble_eq_true rfl, Nat.le_of_ble_eq_true rfl⟩, hts (.static yX5_put) (by decide +kernel), trivial⟩ hP hD hS hA hK hN [1] [0, 2, 3, 4, 5, 6, 7, 8, 9, 10, 11] [0, 11, 1, 2, 3, 4, 5, 6, 7, 8, 9, 10] rfl (by decide) rfl (by decide) (by decide) (by decide) rfl [0, 1] rfl rfl hl.1 rfl (Nat.le_of_ble_eq_true rfl) dX3_copy_28 ⟨Nat.zero_le _, Nat.zero_le _⟩ (fun H locs hP hD hS => ?_)
      refine lv_iinc (v := (nI (j13 + 1))) (lv' := [(2, .int (nI (j13 + 1))), (0, .ref ht), (1, .ref gt)]) hx hb dX3_copy_31 hl (k := 0) rfl (by exact nI_add (j13) 1) (by decide) rfl (fun ls hl => ?_)
      refine lv_goto (tgt := 13) hx hb dX3_copy_34 (by decide) ?_
      exact ih (j13 + 1) q28 (by omega)  hz13 _ _ hP hD hS _ (lv_sub hl [0, 1, 2] rfl)
  exact LP13 4 0 kt (by omega)  hz13 _ _ hP hD hS _ (lv_sub hl [0, 1, 2] rfl)
