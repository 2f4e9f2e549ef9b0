def fX6_judge (sn : Nat) (ud : Int32) (rz : Int32) (az : Int32) (bk : Nat → Int32) (nw : Nat → Int32) (kn : Nat → Int32) (pd : Nat → Int32) (pq : Nat → Int32) (wh : Int32) : Int32 × (Nat → Int32) × (Nat → Int32) × Int32 × Int32 × Int32 :=
  (if (fX6_in wh (0 : Int32) (1 : Int32)) = 0 then ((-2 : Int32), nw, pq, ud, rz, az) else (if (fX6_faultOf sn pd) < 0 then (match fX6_goWeeks sn rz bk nw kn pd pq with | (q23a, q23b, q23c, q23d, q23e, q23f) => (if q23a < 0 then (q23a, q23b, q23c, q23d, q23e, q23f) else (if wh = 0 then (q23a, q23b, q23c, q23d, q23e, q23f) else (q23e, q23b, q23c, q23d, q23e, q23f)))) else ((-5 : Int32), nw, pq, ud, rz, az)))
set_option maxHeartbeats 4000000 in
set_option maxRecDepth 100000 in
theorem c_X6_judge (l : Launch) (dC : Nat → ClassId) (dI : Nat → Nat → Nat) (cyI cyZ : ClassId) (hm mb mn mk ms mp mq mi mz ma mc : Nat) (sg : Nat) (sn : Nat) (ud : Int32) (rz : Int32) (az : Int32) (bk : Nat → Int32) (nw : Nat → Int32) (kn : Nat → Int32) (pd : Nat → Int32) (pq : Nat → Int32) (wh : Int32) (hI : kx_I bk) (hJ : kx_I nw) (hsn : sn ≤ 60) (sz : Nat) (r : Int32 × (Nat → Int32) × (Nat → Int32) × Int32 × Int32 × Int32) (hF : fX6_judge sn ud rz az bk nw kn pd pq wh = r) : Met l yX6_judge wsX6_judge ({ frames := 4, cells := 0, slots := 0, locals := 91 }) (kx_wp (dC, dI) [(hm, .inr (6, [.ref mb, .ref mn, .ref mk, .int (nI sg), .ref ms, .int (nI sn), .ref mp, .int ud, .ref mq, .int rz, .int az, .ref mi, .ref mz, .ref ma, .ref mc])), (mb, .inl (cyI, 97, .inl bk)), (mn, .inl (cyI, 97, .inl nw)), (mk, .inl (cyI, 4, .inl kn)), (mp, .inl (cyI, 60, .inl pd)), (mq, .inl (cyI, 24, .inl pq))] [(cyI, .int), (cyZ, .boolean)] sz [.ref hm, .int wh]) (kx_Qi r.1 (dC, dI) [(hm, .inr (6, [.ref mb, .ref mn, .ref mk, .int (nI sg), .ref ms, .int (nI sn), .ref mp, .int ud, .ref mq, .int rz, .int az, .ref mi, .ref mz, .ref ma, .ref mc])), (mb, .inl (cyI, 97, .inl bk)), (mn, .inl (cyI, 97, .inl nw)), (mk, .inl (cyI, 4, .inl kn)), (mp, .inl (cyI, 60, .inl pd)), (mq, .inl (cyI, 24, .inl pq))] [(hm, .inr (6, [.ref mb, .ref mn, .ref mk, .int (nI sg), .ref ms, .int (nI sn), .ref mp, .int r.2.2.2.1, .ref mq, .int r.2.2.2.2.1, .int r.2.2.2.2.2, .ref mi, .ref mz, .ref ma, .ref mc])), (mb, .inl (cyI, 97, .inl bk)), (mn, .inl (cyI, 97, .inl r.2.1)), (mk, .inl (cyI, 4, .inl kn)), (mp, .inl (cyI, 60, .inl pd)), (mq, .inl (cyI, 24, .inl r.2.2.1))] sz) 0 0 (va_A [(hm, .inr (6, [.ref mb, .ref mn, .ref mk, .int (nI sg), .ref ms, .int (nI sn), .ref mp, .int ud, .ref mq, .int rz, .int az, .ref mi, .ref mz, .ref ma, .ref mc])), (mb, .inl (cyI, 97, .inl bk)), (mn, .inl (cyI, 97, .inl nw)), (mk, .inl (cyI, 4, .inl kn)), (mp, .inl (cyI, 60, .inl pd)), (mq, .inl (cyI, 24, .inl pq))] sz) := by
  refine Met.ofW (cc := cX6_judge) (maxL := 3) (ret := (some .int)) (by decide) rfl ?_
  intro p e s m args below meth c s₁ B hml hv
  obtain ⟨rfl, hsz, hP, hK, hN, hD0⟩ := hv
  have hx := B.exec
  have hb := B.bytes
  have hr := B.returns
  have hts := atoms_spec (ws := wsX6_judge) B.pre
  have hown : s.vm.findClass RX6 = some m.cls := findClass_of_methodNamed B.named
  have hlocks := B.notSynchronized
  subst hsz
  obtain ⟨A, hAe⟩ : ∃ A, A = va_A [(hm, .inr (6, [.ref mb, .ref mn, .ref mk, .int (nI sg), .ref ms, .int (nI sn), .ref mp, .int ud, .ref mq, .int rz, .int az, .ref mi, .ref mz, .ref ma, .ref mc])), (mb, .inl (cyI, 97, .inl bk)), (mn, .inl (cyI, 97, .inl nw)), (mk, .inl (cyI, 4, .inl kn)), (mp, .inl (cyI, 60, .inl pd)), (mq, .inl (cyI, 24, .inl pq))] s.heap.size := ⟨_, rfl⟩
  have hD : va_D A [(hm, .inr (6, [.ref mb, .ref mn, .ref mk, .int (nI sg), .ref ms, .int (nI sn), .ref mp, .int ud, .ref mq, .int rz, .int az, .ref mi, .ref mz, .ref ma, .ref mc])), (mb, .inl (cyI, 97, .inl bk)), (mn, .inl (cyI, 97, .inl nw)), (mk, .inl (cyI, 4, .inl kn)), (mp, .inl (cyI, 60, .inl pd)), (mq, .inl (cyI, 24, .inl pq))] := by rw [hAe]; exact hD0.self
  have hA : ∀ q : Nat, s.heap.size ≤ q → A q := fun q h => by rw [hAe]; exact Or.inr h
  have hS : va_S A s.heap s.heap [] := va_S.rf
  have hiX6 : ∀ w ∈ wsX60, w ∈ wsX6_judge := by decide +kernel
  have fl94 := hts (.fieldLink RX6 94 "KnitChronicleModel" "reason" "I") (by decide +kernel)
  have hl := lv_entry ([.ref hm, .int wh]) (n := 3) (Nat.le_of_ble_eq_true rfl)
  rw [lg_entry_eq]
  generalize (lg_sl ([.ref hm, .int wh]) ++ List.replicate (3 - (lg_sl ([.ref hm, .int wh])).length) Slot.unset).toArray = ls at hl ⊢
  have hl : lv_has ls 3 [(0, .ref hm), (1, .int wh)] := hl
  unfold fX6_judge at hF
  have hmN := hI.2.1
  refine lv_iload_n hx hb dX6_judge_0 rfl (lv_at hl 1 rfl) ?_
  refine lv_iconst (v := (0 : Int32)) hx hb dX6_judge_1 (by decide) ?_
  refine lv_iconst (v := (1 : Int32)) hx hb dX6_judge_2 (by decide) ?_
  refine kx_cS (As := [.int wh, .int (0 : Int32), .int (1 : Int32)]) (rest := []) ⟨hx, hb, hml, hown, hts⟩ (c_X6_in l dC dI cyI cyZ  wh (0 : Int32) (1 : Int32)  _ rfl) (va_cwS 3 hts gX6_judge_X6_in rfl rfl rfl (by decide +kernel) ⟨Nat.le_of_ble_eq_true rfl, Nat.le_of_ble_eq_true rfl⟩) hP hK hN [] rfl [0, 1] rfl rfl hl.1 rfl (Nat.le_of_ble_eq_true rfl) dX6_judge_3 ⟨Nat.zero_le _, Nat.zero_le _⟩ ?_
  refine lv_if_ne (tgt := 12) hx hb dX6_judge_6 (by decide) (fun c6 => ?_) (fun c6 => ?_)
  · rw [if_neg c6] at hF
    refine lv_aload_n hx hb dX6_judge_12 rfl (lv_at hl 0 rfl) ?_
    refine kx_cV (As := []) (rest := []) ⟨hx, hb, hml, hown, hts⟩ (c_X6_faultOf l dC dI cyI cyZ hm mb mn mk ms mp mq mi mz ma mc sg sn ud rz az pd (by omega) _ rfl) (cwV 0 hts gX6_judge_X6_faultOf rfl rfl rfl (by decide +kernel) ⟨Nat.le_of_ble_eq_true rfl, Nat.le_of_ble_eq_true rfl⟩) hP hK hN [0, 4] rfl [0, 1] rfl 6 0 rfl rfl rfl rfl hl.1 rfl (Nat.le_of_ble_eq_true rfl) dX6_judge_13 ⟨Nat.zero_le _, Nat.zero_le _⟩ ?_
    refine lv_if_lt (tgt := 22) hx hb dX6_judge_16 (by decide) (fun c16 => ?_) (fun c16 => ?_)
    · rw [if_pos c16] at hF
      refine lv_aload_n hx hb dX6_judge_22 rfl (lv_at hl 0 rfl) ?_
      generalize hq23 : fX6_goWeeks sn rz bk nw kn pd pq = q23 at hF
      obtain ⟨q23a, q23b, q23c, q23d, q23e, q23f⟩ := q23
      dsimp only at hF
      refine kx_wVi (As := []) (rest := []) (wr := []) (wc' := [(hm, .inr (6, [.ref mb, .ref mn, .ref mk, .int (nI sg), .ref ms, .int (nI sn), .ref mp, .int q23d, .ref mq, .int q23e, .int q23f, .ref mi, .ref mz, .ref ma, .ref mc])), (mb, .inl (cyI, 97, .inl bk)), (mn, .inl (cyI, 97, .inl q23b)), (mk, .inl (cyI, 4, .inl kn)), (mp, .inl (cyI, 60, .inl pd)), (mq, .inl (cyI, 24, .inl q23c))]) (W1 := [(hm, .inr (6, [.ref mb, .ref mn, .ref mk, .int (nI sg), .ref ms, .int (nI sn), .ref mp, .int q23d, .ref mq, .int q23e, .int q23f, .ref mi, .ref mz, .ref ma, .ref mc])), (mb, .inl (cyI, 97, .inl bk)), (mn, .inl (cyI, 97, .inl q23b)), (mk, .inl (cyI, 4, .inl kn)), (mp, .inl (cyI, 60, .inl pd)), (mq, .inl (cyI, 24, .inl q23c))]) ⟨hx, hb, hml, hown, hts⟩ (c_X6_goWeeks l dC dI cyI cyZ hm mb mn mk ms mp mq mi mz ma mc sg sn ud rz az bk nw kn pd pq hI (by omega) (fX6_faultOf_neg hsn c16) _ _ hq23) (cwV 0 hts gX6_judge_X6_goWeeks rfl rfl rfl (by decide +kernel) ⟨Nat.le_of_ble_eq_true rfl, Nat.le_of_ble_eq_true rfl⟩) hP hD hS hA hK hN [0, 1, 2, 3, 4, 5] [] [0, 1, 2, 3, 4, 5] rfl (by decide) rfl (by decide) (by decide) (by decide) rfl [0, 1] rfl 6 0 rfl rfl rfl rfl hl.1 rfl (Nat.le_of_ble_eq_true rfl) dX6_judge_23 ⟨Nat.zero_le _, Nat.zero_le _⟩ (fun H locs hP hD hS => ?_)
      refine lv_istore_n (lv' := [(2, .int q23a), (0, .ref hm), (1, .int wh)]) hx hb dX6_judge_26 rfl hl (by decide) rfl (fun ls hl => ?_)
      refine lv_iload_n hx hb dX6_judge_27 rfl (lv_at hl 0 rfl) ?_
      refine lv_if_lt (tgt := 35) hx hb dX6_judge_28 (by decide) (fun c28 => ?_) (fun c28 => ?_)
      · rw [if_pos c28] at hF
        refine lv_iload_n hx hb dX6_judge_35 rfl (lv_at hl 0 rfl) ?_
        refine lv_goto (tgt := 43) hx hb dX6_judge_36 (by decide) ?_
        subst hF
        subst hAe
        exact W.iret hx hb hr (fun t ht _ => ⟨⟨_, (), rfl, rfl, by rw [ht]; exact hP, hD⟩, hS.F ht⟩) hS.2.2 dX6_judge_43
      · rw [if_neg c28] at hF
        refine lv_iload_n hx hb dX6_judge_31 rfl (lv_at hl 2 rfl) ?_
        refine lv_if_ne (tgt := 39) hx hb dX6_judge_32 (by decide) (fun c32 => ?_) (fun c32 => ?_)
        · rw [if_neg c32] at hF
          refine lv_aload_n hx hb dX6_judge_39 rfl (lv_at hl 1 rfl) ?_
          refine va_get (D := (dC, dI)) (ci := 6) (v := .int q23e) (C := RX6) (T := TX6) (N := 15) hx hb hts hiX6 hown hK hP 0 rfl rfl 9 (by decide) fl94 (fun _ h9 => h9) rfl dX6_judge_40 ?_
          subst hF
          subst hAe
          exact W.iret hx hb hr (fun t ht _ => ⟨⟨_, (), rfl, rfl, by rw [ht]; exact hP, hD⟩, hS.F ht⟩) hS.2.2 dX6_judge_43
        · rw [if_pos c32] at hF
          refine lv_iload_n hx hb dX6_judge_35 rfl (lv_at hl 0 rfl) ?_
          refine lv_goto (tgt := 43) hx hb dX6_judge_36 (by decide) ?_
          subst hF
          subst hAe
          exact W.iret hx hb hr (fun t ht _ => ⟨⟨_, (), rfl, rfl, by rw [ht]; exact hP, hD⟩, hS.F ht⟩) hS.2.2 dX6_judge_43
    · rw [if_neg c16] at hF
      refine lv_bipush (v := (-5 : Int32)) hx hb dX6_judge_19 (by decide) ?_
      subst hF
      subst hAe
      exact W.iret hx hb hr (fun t ht _ => ⟨⟨_, (), rfl, rfl, by rw [ht]; exact hP, hD⟩, hS.F ht⟩) hS.2.2 dX6_judge_21
  · rw [if_pos c6] at hF
    refine lv_bipush (v := (-2 : Int32)) hx hb dX6_judge_9 (by decide) ?_
    subst hF
    subst hAe
    exact W.iret hx hb hr (fun t ht _ => ⟨⟨_, (), rfl, rfl, by rw [ht]; exact hP, hD⟩, hS.F ht⟩) hS.2.2 dX6_judge_11

def fX6_barOfWeeks (sn : Nat) (ud : Int32) (rz : Int32) (az : Int32) (bk : Nat → Int32) (nw : Nat → Int32) (kn : Nat → Int32) (pd : Nat → Int32) (pq : Nat → Int32) : Int32 × (Nat → Int32) × (Nat → Int32) × Int32 × Int32 × Int32 :=
  (if 0 ≤ (fX6_faultOf sn pd) then ((-5 : Int32), nw, pq, ud, rz, az) else (match fX6_goWeeks sn rz bk nw kn pd pq with | (q8a, q8b, q8c, q8d, q8e, q8f) => (if q8a < 0 then ((0 : Int32), q8b, q8c, q8d, q8e, q8f) else ((-5 : Int32), q8b, q8c, q8d, q8e, q8f))))
set_option maxHeartbeats 4000000 in
set_option maxRecDepth 100000 in
theorem c_X6_barOfWeeks (l : Launch) (dC : Nat → ClassId) (dI : Nat → Nat → Nat) (cyI cyZ : ClassId) (hm mb mn mk ms mp mq mi mz ma mc : Nat) (sg : Nat) (sn : Nat) (ud : Int32) (rz : Int32) (az : Int32) (bk : Nat → Int32) (nw : Nat → Int32) (kn : Nat → Int32) (pd : Nat → Int32) (pq : Nat → Int32) (hI : kx_I bk) (hJ : kx_I nw) (hsn : sn ≤ 60) (sz : Nat) (r : Int32 × (Nat → Int32) × (Nat → Int32) × Int32 × Int32 × Int32) (hF : fX6_barOfWeeks sn ud rz az bk nw kn pd pq = r) : Met l yX6_barOfWeeks wsX6_barOfWeeks ({ frames := 4, cells := 0, slots := 0, locals := 91 }) (kx_wp (dC, dI) [(hm, .inr (6, [.ref mb, .ref mn, .ref mk, .int (nI sg), .ref ms, .int (nI sn), .ref mp, .int ud, .ref mq, .int rz, .int az, .ref mi, .ref mz, .ref ma, .ref mc])), (mb, .inl (cyI, 97, .inl bk)), (mn, .inl (cyI, 97, .inl nw)), (mk, .inl (cyI, 4, .inl kn)), (mp, .inl (cyI, 60, .inl pd)), (mq, .inl (cyI, 24, .inl pq))] [(cyI, .int), (cyZ, .boolean)] sz [.ref hm]) (kx_Qi r.1 (dC, dI) [(hm, .inr (6, [.ref mb, .ref mn, .ref mk, .int (nI sg), .ref ms, .int (nI sn), .ref mp, .int ud, .ref mq, .int rz, .int az, .ref mi, .ref mz, .ref ma, .ref mc])), (mb, .inl (cyI, 97, .inl bk)), (mn, .inl (cyI, 97, .inl nw)), (mk, .inl (cyI, 4, .inl kn)), (mp, .inl (cyI, 60, .inl pd)), (mq, .inl (cyI, 24, .inl pq))] [(hm, .inr (6, [.ref mb, .ref mn, .ref mk, .int (nI sg), .ref ms, .int (nI sn), .ref mp, .int r.2.2.2.1, .ref mq, .int r.2.2.2.2.1, .int r.2.2.2.2.2, .ref mi, .ref mz, .ref ma, .ref mc])), (mb, .inl (cyI, 97, .inl bk)), (mn, .inl (cyI, 97, .inl r.2.1)), (mk, .inl (cyI, 4, .inl kn)), (mp, .inl (cyI, 60, .inl pd)), (mq, .inl (cyI, 24, .inl r.2.2.1))] sz) 0 0 (va_A [(hm, .inr (6, [.ref mb, .ref mn, .ref mk, .int (nI sg), .ref ms, .int (nI sn), .ref mp, .int ud, .ref mq, .int rz, .int az, .ref mi, .ref mz, .ref ma, .ref mc])), (mb, .inl (cyI, 97, .inl bk)), (mn, .inl (cyI, 97, .inl nw)), (mk, .inl (cyI, 4, .inl kn)), (mp, .inl (cyI, 60, .inl pd)), (mq, .inl (cyI, 24, .inl pq))] sz) := by
  refine Met.ofW (cc := cX6_barOfWeeks) (maxL := 1) (ret := (some .int)) (by decide) rfl ?_
  intro p e s m args below meth c s₁ B hml hv
  obtain ⟨rfl, hsz, hP, hK, hN, hD0⟩ := hv
  have hx := B.exec
  have hb := B.bytes
  have hr := B.returns
  have hts := atoms_spec (ws := wsX6_barOfWeeks) B.pre
  have hown : s.vm.findClass RX6 = some m.cls := findClass_of_methodNamed B.named
  have hlocks := B.notSynchronized
  subst hsz
  obtain ⟨A, hAe⟩ : ∃ A, A = va_A [(hm, .inr (6, [.ref mb, .ref mn, .ref mk, .int (nI sg), .ref ms, .int (nI sn), .ref mp, .int ud, .ref mq, .int rz, .int az, .ref mi, .ref mz, .ref ma, .ref mc])), (mb, .inl (cyI, 97, .inl bk)), (mn, .inl (cyI, 97, .inl nw)), (mk, .inl (cyI, 4, .inl kn)), (mp, .inl (cyI, 60, .inl pd)), (mq, .inl (cyI, 24, .inl pq))] s.heap.size := ⟨_, rfl⟩
  have hD : va_D A [(hm, .inr (6, [.ref mb, .ref mn, .ref mk, .int (nI sg), .ref ms, .int (nI sn), .ref mp, .int ud, .ref mq, .int rz, .int az, .ref mi, .ref mz, .ref ma, .ref mc])), (mb, .inl (cyI, 97, .inl bk)), (mn, .inl (cyI, 97, .inl nw)), (mk, .inl (cyI, 4, .inl kn)), (mp, .inl (cyI, 60, .inl pd)), (mq, .inl (cyI, 24, .inl pq))] := by rw [hAe]; exact hD0.self
  have hA : ∀ q : Nat, s.heap.size ≤ q → A q := fun q h => by rw [hAe]; exact Or.inr h
  have hS : va_S A s.heap s.heap [] := va_S.rf
  have hl := lv_entry ([.ref hm]) (n := 1) (Nat.le_of_ble_eq_true rfl)
  rw [lg_entry_eq]
  generalize (lg_sl ([.ref hm]) ++ List.replicate (1 - (lg_sl ([.ref hm])).length) Slot.unset).toArray = ls at hl ⊢
  have hl : lv_has ls 1 [(0, .ref hm)] := hl
  unfold fX6_barOfWeeks at hF
  have hmN := hI.2.1
  refine lv_aload_n hx hb dX6_barOfWeeks_0 rfl (lv_at hl 0 rfl) ?_
  refine kx_cV (As := []) (rest := []) ⟨hx, hb, hml, hown, hts⟩ (c_X6_faultOf l dC dI cyI cyZ hm mb mn mk ms mp mq mi mz ma mc sg sn ud rz az pd (by omega) _ rfl) (cwV 0 hts gX6_barOfWeeks_X6_faultOf rfl rfl rfl (by decide +kernel) ⟨Nat.le_of_ble_eq_true rfl, Nat.le_of_ble_eq_true rfl⟩) hP hK hN [0, 4] rfl [0, 1] rfl 6 0 rfl rfl rfl rfl hl.1 rfl (Nat.le_of_ble_eq_true rfl) dX6_barOfWeeks_1 ⟨Nat.zero_le _, Nat.zero_le _⟩ ?_
  refine lv_if_ge (tgt := 14) hx hb dX6_barOfWeeks_4 (by decide) (fun c4 => ?_) (fun c4 => ?_)
  · rw [if_pos c4] at hF
    refine lv_bipush (v := (-5 : Int32)) hx hb dX6_barOfWeeks_14 (by decide) ?_
    refine lv_goto (tgt := 20) hx hb dX6_barOfWeeks_16 (by decide) ?_
    subst hF
    subst hAe
    exact W.iret hx hb hr (fun t ht _ => ⟨⟨_, (), rfl, rfl, by rw [ht]; exact hP, hD⟩, hS.F ht⟩) hS.2.2 dX6_barOfWeeks_20
  · rw [if_neg c4] at hF
    refine lv_aload_n hx hb dX6_barOfWeeks_7 rfl (lv_at hl 0 rfl) ?_
    generalize hq8 : fX6_goWeeks sn rz bk nw kn pd pq = q8 at hF
    obtain ⟨q8a, q8b, q8c, q8d, q8e, q8f⟩ := q8
    dsimp only at hF
    refine kx_wVi (As := []) (rest := []) (wr := []) (wc' := [(hm, .inr (6, [.ref mb, .ref mn, .ref mk, .int (nI sg), .ref ms, .int (nI sn), .ref mp, .int q8d, .ref mq, .int q8e, .int q8f, .ref mi, .ref mz, .ref ma, .ref mc])), (mb, .inl (cyI, 97, .inl bk)), (mn, .inl (cyI, 97, .inl q8b)), (mk, .inl (cyI, 4, .inl kn)), (mp, .inl (cyI, 60, .inl pd)), (mq, .inl (cyI, 24, .inl q8c))]) (W1 := [(hm, .inr (6, [.ref mb, .ref mn, .ref mk, .int (nI sg), .ref ms, .int (nI sn), .ref mp, .int q8d, .ref mq, .int q8e, .int q8f, .ref mi, .ref mz, .ref ma, .ref mc])), (mb, .inl (cyI, 97, .inl bk)), (mn, .inl (cyI, 97, .inl q8b)), (mk, .inl (cyI, 4, .inl kn)), (mp, .inl (cyI, 60, .inl pd)), (mq, .inl (cyI, 24, .inl q8c))]) ⟨hx, hb, hml, hown, hts⟩ (c_X6_goWeeks l dC dI cyI cyZ hm mb mn mk ms mp mq mi mz ma mc sg sn ud rz az bk nw kn pd pq hI (by omega) (fX6_faultOf_neg hsn (Int32.not_le.mp c4)) _ _ hq8) (cwV 0 hts gX6_barOfWeeks_X6_goWeeks rfl rfl rfl (by decide +kernel) ⟨Nat.le_of_ble_eq_true rfl, Nat.le_of_ble_eq_true rfl⟩) hP hD hS hA hK hN [0, 1, 2, 3, 4, 5] [] [0, 1, 2, 3, 4, 5] rfl (by decide) rfl (by decide) (by decide) (by decide) rfl [0, 1] rfl 6 0 rfl rfl rfl rfl hl.1 rfl (Nat.le_of_ble_eq_true rfl) dX6_barOfWeeks_8 ⟨Nat.zero_le _, Nat.zero_le _⟩ (fun H locs hP hD hS => ?_)
    refine lv_if_lt (tgt := 19) hx hb dX6_barOfWeeks_11 (by decide) (fun c11 => ?_) (fun c11 => ?_)
    · rw [if_pos c11] at hF
      refine lv_iconst (v := (0 : Int32)) hx hb dX6_barOfWeeks_19 (by decide) ?_
      subst hF
      subst hAe
      exact W.iret hx hb hr (fun t ht _ => ⟨⟨_, (), rfl, rfl, by rw [ht]; exact hP, hD⟩, hS.F ht⟩) hS.2.2 dX6_barOfWeeks_20
    · rw [if_neg c11] at hF
      refine lv_bipush (v := (-5 : Int32)) hx hb dX6_barOfWeeks_14 (by decide) ?_
      refine lv_goto (tgt := 20) hx hb dX6_barOfWeeks_16 (by decide) ?_
      subst hF
      subst hAe
      exact W.iret hx hb hr (fun t ht _ => ⟨⟨_, (), rfl, rfl, by rw [ht]; exact hP, hD⟩, hS.F ht⟩) hS.2.2 dX6_barOfWeeks_20

theorem fX6_goWeeks_L11_I (sn : Nat) (kn pd : Nat → Int32) : ∀ (r j : Nat) (g1 g2 : Nat → Int32) (w1 w2 w3 : Int32), kx_I g1 → kx_I (fX6_goWeeks_L11 sn kn pd r j g1 g2 w1 w2 w3).2.1 := by
  intro r
  induction r with
  | zero => intro j g1 g2 w1 w2 w3 h; exact h
  | succ r ih =>
    intro j g1 g2 w1 w2 w3 h
    rw [fX6_goWeeks_L11]
    by_cases c1 : sn ≤ j
    · rw [if_pos c1]; exact h
    · rw [if_neg c1]
      by_cases c2 : fX6_isHand (pd j) = 0
      · rw [if_pos c2]
        by_cases c3 : pd j = (45 : Int32)
        · rw [if_pos c3]
          have hp := fX6_pullOut_I' (pq := g2) (ks := (pd (j + 1)).toNatClampNeg - 65) h rfl
          generalize fX6_pullOut g1 g2 ((pd (j + 1)).toNatClampNeg - 65) = T at hp ⊢
          obtain ⟨Ta, Tb, Tc⟩ := T
          dsimp only at hp ⊢
          repeat' split
          all_goals first | exact ih _ _ _ _ _ _ hp | exact hp
        · rw [if_neg c3]
          by_cases c4 : pd j = (42 : Int32)
          · rw [if_pos c4]
            have hp := fX6_eat_I' (ks := (pd (j + 1)).toNatClampNeg - 65) h rfl
            generalize fX6_eat g1 ((pd (j + 1)).toNatClampNeg - 65) = T at hp ⊢
            obtain ⟨Ta, Tb⟩ := T
            dsimp only at hp ⊢
            repeat' split
            all_goals first | exact ih _ _ _ _ _ _ hp | exact hp
          · rw [if_neg c4]
            have hp := fX6_mend_I' (kn := kn) (ks := (pd (j + 1)).toNatClampNeg - 65) (kk := (pd (j + 2)).toNatClampNeg - 97) h rfl
            generalize fX6_mend g1 kn ((pd (j + 1)).toNatClampNeg - 65) ((pd (j + 2)).toNatClampNeg - 97) = T at hp ⊢
            obtain ⟨Ta, Tb⟩ := T
            dsimp only at hp ⊢
            repeat' split
            all_goals first | exact ih _ _ _ _ _ _ hp | exact hp
      · rw [if_neg c2]
        have hp := fX6_knit_I' (kn := kn) (kk := (pd j).toNatClampNeg - 97) (kcl := pd (j + 1) - (48 : Int32)) h rfl
        generalize fX6_knit g1 kn ((pd j).toNatClampNeg - 97) (pd (j + 1) - (48 : Int32)) = T at hp ⊢
        obtain ⟨Ta, Tb⟩ := T
        dsimp only at hp ⊢
        repeat' split
        all_goals first | exact ih _ _ _ _ _ _ hp | exact hp
theorem fX6_barOfWeeks_I {sn : Nat} {ud rz az : Int32} {bk nw kn pd pq : Nat → Int32} {t : Int32 × (Nat → Int32) × (Nat → Int32) × Int32 × Int32 × Int32} (hI : kx_I bk) (hJ : kx_I nw) (hsn : sn ≤ 60) (h : fX6_barOfWeeks sn ud rz az bk nw kn pd pq = t) : kx_I t.2.1 := by
  subst h
  unfold fX6_barOfWeeks
  by_cases c : 0 ≤ fX6_faultOf sn pd
  · rw [if_pos c]; exact hJ
  · rw [if_neg c]
    have e : fX6_goWeeks sn rz bk nw kn pd pq = fX6_goWeeks_L11 sn kn pd sn 0 (fX6_asNow bk nw).1 pq (0 : Int32) rz (0 : Int32) := rfl
    have hg := fX6_goWeeks_L11_I sn kn pd sn 0 (fX6_asNow bk nw).1 pq (0 : Int32) rz (0 : Int32) (fX6_asNow_I hI rfl)
    rw [← e] at hg
    generalize fX6_goWeeks sn rz bk nw kn pd pq = T at hg ⊢
    obtain ⟨Ta, Tb, Tc, Td, Te, Tf⟩ := T
    dsimp only at hg ⊢
    split
    · exact hg
    · exact hg

def fX6_done_L12 (q1b : Nat → Int32) : Nat → Nat → (Nat → Int32) → (Nat → Int32)
  | 0, _, g1 => g1
  | r12 + 1, j12, g1 => (fX6_done_L12 q1b r12 (j12 + 1) (upd g1 j12 (q1b j12)))
def fX6_done (sn : Nat) (ud : Int32) (rz : Int32) (az : Int32) (bk : Nat → Int32) (nw : Nat → Int32) (kn : Nat → Int32) (pd : Nat → Int32) (pq : Nat → Int32) : Int32 × (Nat → Int32) × (Nat → Int32) × Int32 × Int32 × Int32 × (Nat → Int32) × Nat :=
  (match fX6_barOfWeeks sn ud rz az bk nw kn pd pq with | (q1a, q1b, q1c, q1d, q1e, q1f) => (if 0 ≤ q1a then ((fun (g1 : Nat → Int32) => (q1f, q1b, q1c, q1d, q1e, q1f, g1, 0)) (fX6_done_L12 q1b 97 0 bk)) else ((-5 : Int32), q1b, q1c, q1d, q1e, q1f, bk, sn)))
set_option maxHeartbeats 4000000 in
set_option maxRecDepth 100000 in
theorem c_X6_done (l : Launch) (dC : Nat → ClassId) (dI : Nat → Nat → Nat) (cyI cyZ : ClassId) (hm mb mn mk ms mp mq mi mz ma mc : Nat) (sg : Nat) (sn : Nat) (ud : Int32) (rz : Int32) (az : Int32) (bk : Nat → Int32) (nw : Nat → Int32) (kn : Nat → Int32) (pd : Nat → Int32) (pq : Nat → Int32) (hI : kx_I bk) (hJ : kx_I nw) (hsn : sn ≤ 60) (sz : Nat) (r : Int32 × (Nat → Int32) × (Nat → Int32) × Int32 × Int32 × Int32 × (Nat → Int32) × Nat) (hF : fX6_done sn ud rz az bk nw kn pd pq = r) : Met l yX6_done wsX6_done ({ frames := 5, cells := 0, slots := 0, locals := 111 }) (kx_wp (dC, dI) [(hm, .inr (6, [.ref mb, .ref mn, .ref mk, .int (nI sg), .ref ms, .int (nI sn), .ref mp, .int ud, .ref mq, .int rz, .int az, .ref mi, .ref mz, .ref ma, .ref mc])), (mb, .inl (cyI, 97, .inl bk)), (mn, .inl (cyI, 97, .inl nw)), (mk, .inl (cyI, 4, .inl kn)), (mp, .inl (cyI, 60, .inl pd)), (mq, .inl (cyI, 24, .inl pq))] [(cyI, .int), (cyZ, .boolean)] sz [.ref hm]) (kx_Qi r.1 (dC, dI) [(hm, .inr (6, [.ref mb, .ref mn, .ref mk, .int (nI sg), .ref ms, .int (nI sn), .ref mp, .int ud, .ref mq, .int rz, .int az, .ref mi, .ref mz, .ref ma, .ref mc])), (mb, .inl (cyI, 97, .inl bk)), (mn, .inl (cyI, 97, .inl nw)), (mk, .inl (cyI, 4, .inl kn)), (mp, .inl (cyI, 60, .inl pd)), (mq, .inl (cyI, 24, .inl pq))] [(hm, .inr (6, [.ref mb, .ref mn, .ref mk, .int (nI sg), .ref ms, .int (nI (r.2.2.2.2.2.2.2)), .ref mp, .int r.2.2.2.1, .ref mq, .int r.2.2.2.2.1, .int r.2.2.2.2.2.1, .ref mi, .ref mz, .ref ma, .ref mc])), (mb, .inl (cyI, 97, .inl r.2.2.2.2.2.2.1)), (mn, .inl (cyI, 97, .inl r.2.1)), (mk, .inl (cyI, 4, .inl kn)), (mp, .inl (cyI, 60, .inl pd)), (mq, .inl (cyI, 24, .inl r.2.2.1))] sz) 0 0 (va_A [(hm, .inr (6, [.ref mb, .ref mn, .ref mk, .int (nI sg), .ref ms, .int (nI sn), .ref mp, .int ud, .ref mq, .int rz, .int az, .ref mi, .ref mz, .ref ma, .ref mc])), (mb, .inl (cyI, 97, .inl bk)), (mn, .inl (cyI, 97, .inl nw)), (mk, .inl (cyI, 4, .inl kn)), (mp, .inl (cyI, 60, .inl pd)), (mq, .inl (cyI, 24, .inl pq))] sz) := by
  refine Met.ofW (cc := cX6_done) (maxL := 2) (ret := (some .int)) (by decide) rfl ?_
  intro p e s m args below meth c s₁ B hml hv
  obtain ⟨rfl, hsz, hP, hK, hN, hD0⟩ := hv
  have hx := B.exec
  have hb := B.bytes
  have hr := B.returns
  have hts := atoms_spec (ws := wsX6_done) B.pre
  have hown : s.vm.findClass RX6 = some m.cls := findClass_of_methodNamed B.named
  have hlocks := B.notSynchronized
  subst hsz
  obtain ⟨A, hAe⟩ : ∃ A, A = va_A [(hm, .inr (6, [.ref mb, .ref mn, .ref mk, .int (nI sg), .ref ms, .int (nI sn), .ref mp, .int ud, .ref mq, .int rz, .int az, .ref mi, .ref mz, .ref ma, .ref mc])), (mb, .inl (cyI, 97, .inl bk)), (mn, .inl (cyI, 97, .inl nw)), (mk, .inl (cyI, 4, .inl kn)), (mp, .inl (cyI, 60, .inl pd)), (mq, .inl (cyI, 24, .inl pq))] s.heap.size := ⟨_, rfl⟩
  have hD : va_D A [(hm, .inr (6, [.ref mb, .ref mn, .ref mk, .int (nI sg), .ref ms, .int (nI sn), .ref mp, .int ud, .ref mq, .int rz, .int az, .ref mi, .ref mz, .ref ma, .ref mc])), (mb, .inl (cyI, 97, .inl bk)), (mn, .inl (cyI, 97, .inl nw)), (mk, .inl (cyI, 4, .inl kn)), (mp, .inl (cyI, 60, .inl pd)), (mq, .inl (cyI, 24, .inl pq))] := by rw [hAe]; exact hD0.self
  have hA : ∀ q : Nat, s.heap.size ≤ q → A q := fun q h => by rw [hAe]; exact Or.inr h
  have hS : va_S A s.heap s.heap [] := va_S.rf
  have hiX6 : ∀ w ∈ wsX60, w ∈ wsX6_done := by decide +kernel
  have fl7 := hts (.fieldLink RX6 7 "KnitChronicleModel" "book" "[I") (by decide +kernel)
  have fl13 := hts (.fieldLink RX6 13 "KnitChronicleModel" "now" "[I") (by decide +kernel)
  have fl52 := hts (.fieldLink RX6 52 "KnitChronicleModel" "signs" "I") (by decide +kernel)
  have fl87 := hts (.fieldLink RX6 87 "KnitChronicleModel" "acts" "I") (by decide +kernel)
  have hl := lv_entry ([.ref hm]) (n := 2) (Nat.le_of_ble_eq_true rfl)
  rw [lg_entry_eq]
  generalize (lg_sl ([.ref hm]) ++ List.replicate (2 - (lg_sl ([.ref hm])).length) Slot.unset).toArray = ls at hl ⊢
  have hl : lv_has ls 2 [(0, .ref hm)] := hl
  unfold fX6_done at hF
  have hmN := hI.2.1
  refine lv_aload_n hx hb dX6_done_0 rfl (lv_at hl 0 rfl) ?_
  generalize hq1 : fX6_barOfWeeks sn ud rz az bk nw kn pd pq = q1 at hF
  obtain ⟨q1a, q1b, q1c, q1d, q1e, q1f⟩ := q1
  dsimp only at hF
  refine kx_wVi (As := []) (rest := []) (wr := []) (wc' := [(hm, .inr (6, [.ref mb, .ref mn, .ref mk, .int (nI sg), .ref ms, .int (nI sn), .ref mp, .int q1d, .ref mq, .int q1e, .int q1f, .ref mi, .ref mz, .ref ma, .ref mc])), (mb, .inl (cyI, 97, .inl bk)), (mn, .inl (cyI, 97, .inl q1b)), (mk, .inl (cyI, 4, .inl kn)), (mp, .inl (cyI, 60, .inl pd)), (mq, .inl (cyI, 24, .inl q1c))]) (W1 := [(hm, .inr (6, [.ref mb, .ref mn, .ref mk, .int (nI sg), .ref ms, .int (nI sn), .ref mp, .int q1d, .ref mq, .int q1e, .int q1f, .ref mi, .ref mz, .ref ma, .ref mc])), (mb, .inl (cyI, 97, .inl bk)), (mn, .inl (cyI, 97, .inl q1b)), (mk, .inl (cyI, 4, .inl kn)), (mp, .inl (cyI, 60, .inl pd)), (mq, .inl (cyI, 24, .inl q1c))]) ⟨hx, hb, hml, hown, hts⟩ (c_X6_barOfWeeks l dC dI cyI cyZ hm mb mn mk ms mp mq mi mz ma mc sg sn ud rz az bk nw kn pd pq hI hJ (by omega) _ _ hq1) (cwV 0 hts gX6_done_X6_barOfWeeks rfl rfl rfl (by decide +kernel) ⟨Nat.le_of_ble_eq_true rfl, Nat.le_of_ble_eq_true rfl⟩) hP hD hS hA hK hN [0, 1, 2, 3, 4, 5] [] [0, 1, 2, 3, 4, 5] rfl (by decide) rfl (by decide) (by decide) (by decide) rfl [0, 1] rfl 6 0 rfl rfl rfl rfl hl.1 rfl (Nat.le_of_ble_eq_true rfl) dX6_done_1 ⟨Nat.zero_le _, Nat.zero_le _⟩ (fun H locs hP hD hS => ?_)
  refine lv_if_ge (tgt := 10) hx hb dX6_done_4 (by decide) (fun c4 => ?_) (fun c4 => ?_)
  · rw [if_pos c4] at hF
    refine lv_iconst (v := (0 : Int32)) hx hb dX6_done_10 (by decide) ?_
    refine lv_istore_n (lv' := [(1, .int (0 : Int32)), (0, .ref hm)]) hx hb dX6_done_11 rfl hl (by decide) rfl (fun ls hl => ?_)
    generalize hz12 : fX6_done_L12 q1b 97 0 bk = z12 at hF
    have LP12 : ∀ (r12 : Nat) (j12 : Nat) (g1 : Nat → Int32), r12 + j12 = 97 → fX6_done_L12 q1b r12 j12 g1 = z12 → ∀ (H : Heap) (locs : List Loc), va_P (dC, dI) vwCl [(hm, .inr (6, [.ref mb, .ref mn, .ref mk, .int (nI sg), .ref ms, .int (nI sn), .ref mp, .int q1d, .ref mq, .int q1e, .int q1f, .ref mi, .ref mz, .ref ma, .ref mc])), (mb, .inl (cyI, 97, .inl g1)), (mn, .inl (cyI, 97, .inl q1b)), (mk, .inl (cyI, 4, .inl kn)), (mp, .inl (cyI, 60, .inl pd)), (mq, .inl (cyI, 24, .inl q1c))] H → va_D A [(hm, .inr (6, [.ref mb, .ref mn, .ref mk, .int (nI sg), .ref ms, .int (nI sn), .ref mp, .int q1d, .ref mq, .int q1e, .int q1f, .ref mi, .ref mz, .ref ma, .ref mc])), (mb, .inl (cyI, 97, .inl g1)), (mn, .inl (cyI, 97, .inl q1b)), (mk, .inl (cyI, 4, .inl kn)), (mp, .inl (cyI, 60, .inl pd)), (mq, .inl (cyI, 24, .inl q1c))] → va_S A s.heap H locs → ∀ (ls : Array Slot), lv_has ls 2 [(1, .int (nI j12)), (0, .ref hm)] → W p l e (headSpec wsX6_done ({ frames := 5, cells := 0, slots := 0, locals := 111 } : Room)).room s m ([.ref hm] : List Value).toArray below meth c H locs 0 0 (MQ below (kx_Qi r.1 (dC, dI) [(hm, .inr (6, [.ref mb, .ref mn, .ref mk, .int (nI sg), .ref ms, .int (nI sn), .ref mp, .int ud, .ref mq, .int rz, .int az, .ref mi, .ref mz, .ref ma, .ref mc])), (mb, .inl (cyI, 97, .inl bk)), (mn, .inl (cyI, 97, .inl nw)), (mk, .inl (cyI, 4, .inl kn)), (mp, .inl (cyI, 60, .inl pd)), (mq, .inl (cyI, 24, .inl pq))] [(hm, .inr (6, [.ref mb, .ref mn, .ref mk, .int (nI sg), .ref ms, .int (nI (r.2.2.2.2.2.2.2)), .ref mp, .int r.2.2.2.1, .ref mq, .int r.2.2.2.2.1, .int r.2.2.2.2.2.1, .ref mi, .ref mz, .ref ma, .ref mc])), (mb, .inl (cyI, 97, .inl r.2.2.2.2.2.2.1)), (mn, .inl (cyI, 97, .inl r.2.1)), (mk, .inl (cyI, 4, .inl kn)), (mp, .inl (cyI, 60, .inl pd)), (mq, .inl (cyI, 24, .inl r.2.2.1))] s.heap.size) ([.ref hm] : List Value).toArray s 0 0 (va_A [(hm, .inr (6, [.ref mb, .ref mn, .ref mk, .int (nI sg), .ref ms, .int (nI sn), .ref mp, .int ud, .ref mq, .int rz, .int az, .ref mi, .ref mz, .ref ma, .ref mc])), (mb, .inl (cyI, 97, .inl bk)), (mn, .inl (cyI, 97, .inl nw)), (mk, .inl (cyI, 4, .inl kn)), (mp, .inl (cyI, 60, .inl pd)), (mq, .inl (cyI, 24, .inl pq))] s.heap.size)) (F0 m 12 ls []) := by
      intro r12
      induction r12 with
      | zero =>
        intro j12 g1 hrj hz12 H locs hP hD hS ls hl
        rw [fX6_done_L12] at hz12
        subst hz12
        try dsimp only at hF
        refine lv_iload_n hx hb dX6_done_12 rfl (lv_at hl 0 rfl) ?_
        refine lv_bipush (v := (97 : Int32)) hx hb dX6_done_13 (by decide) ?_
        refine kx_ge hx hb (j12) (97) rfl rfl (by omega) (by omega) dX6_done_15 (by decide) (tgt := 36) (fun c15 => ?_) (fun c15 => absurd c15 (by omega))
        refine lv_aload_n hx hb dX6_done_36 rfl (lv_at hl 1 rfl) ?_
        refine lv_iconst (v := (0 : Int32)) hx hb dX6_done_37 (by decide) ?_
        refine va_put (D := (dC, dI)) (ci := 6) (v := .int (0 : Int32)) (ty := .int) (C := RX6) (T := TX6) (N := 15) hx hb hts hiX6 tyX6 tyX6_ok nmX6 hown hK hP hD hS 0 rfl rfl 5 (by decide) fl52 (fun _ h9 => h9) rfl (by decide +kernel) rfl rfl (Nat.le_of_ble_eq_true rfl) dX6_done_38 (fun H locs hP hD hS => ?_)
        have hP : va_P (dC, dI) vwCl [(hm, .inr (6, [.ref mb, .ref mn, .ref mk, .int (nI sg), .ref ms, .int (0 : Int32), .ref mp, .int q1d, .ref mq, .int q1e, .int q1f, .ref mi, .ref mz, .ref ma, .ref mc])), (mb, .inl (cyI, 97, .inl g1)), (mn, .inl (cyI, 97, .inl q1b)), (mk, .inl (cyI, 4, .inl kn)), (mp, .inl (cyI, 60, .inl pd)), (mq, .inl (cyI, 24, .inl q1c))] H := hP
        have hD : va_D A [(hm, .inr (6, [.ref mb, .ref mn, .ref mk, .int (nI sg), .ref ms, .int (0 : Int32), .ref mp, .int q1d, .ref mq, .int q1e, .int q1f, .ref mi, .ref mz, .ref ma, .ref mc])), (mb, .inl (cyI, 97, .inl g1)), (mn, .inl (cyI, 97, .inl q1b)), (mk, .inl (cyI, 4, .inl kn)), (mp, .inl (cyI, 60, .inl pd)), (mq, .inl (cyI, 24, .inl q1c))] := hD
        refine lv_aload_n hx hb dX6_done_41 rfl (lv_at hl 1 rfl) ?_
        refine va_get (D := (dC, dI)) (ci := 6) (v := .int q1f) (C := RX6) (T := TX6) (N := 15) hx hb hts hiX6 hown hK hP 0 rfl rfl 10 (by decide) fl87 (fun _ h9 => h9) rfl dX6_done_42 ?_
        subst hF
        subst hAe
        exact W.iret hx hb hr (fun t ht _ => ⟨⟨_, (), rfl, rfl, by rw [ht]; exact hP, hD⟩, hS.F ht⟩) hS.2.2 dX6_done_45
      | succ r12 ih =>
        intro j12 g1 hrj hz12 H locs hP hD hS ls hl
        rw [fX6_done_L12] at hz12
        refine lv_iload_n hx hb dX6_done_12 rfl (lv_at hl 0 rfl) ?_
        refine lv_bipush (v := (97 : Int32)) hx hb dX6_done_13 (by decide) ?_
        refine kx_ge hx hb (j12) (97) rfl rfl (by omega) (by omega) dX6_done_15 (by decide) (tgt := 36) (fun c15 => absurd c15 (by omega)) (fun c15 => ?_)
        refine lv_aload_n hx hb dX6_done_18 rfl (lv_at hl 1 rfl) ?_
        refine va_get (D := (dC, dI)) (ci := 6) (v := .ref mb) (C := RX6) (T := TX6) (N := 15) hx hb hts hiX6 hown hK hP 0 rfl rfl 0 (by decide) fl7 (fun _ h9 => h9) rfl dX6_done_19 ?_
        refine lv_iload_n hx hb dX6_done_22 rfl (lv_at hl 0 rfl) ?_
        refine lv_aload_n hx hb dX6_done_23 rfl (lv_at hl 1 rfl) ?_
        refine va_get (D := (dC, dI)) (ci := 6) (v := .ref mn) (C := RX6) (T := TX6) (N := 15) hx hb hts hiX6 hown hK hP 0 rfl rfl 1 (by decide) fl13 (fun _ h9 => h9) rfl dX6_done_24 ?_
        refine lv_iload_n hx hb dX6_done_27 rfl (lv_at hl 0 rfl) ?_
        refine kx_ld hx hb hK hP 2 0 rfl rfl (j12) rfl (by omega) (by decide) dX6_done_28 ?_
        refine kx_st hx hb hK hP hD hS 1 0 rfl rfl (j12) rfl (by omega) (by decide) dX6_done_29 (fun H locs hP hD hS => ?_)
        have hP : va_P (dC, dI) vwCl [(hm, .inr (6, [.ref mb, .ref mn, .ref mk, .int (nI sg), .ref ms, .int (nI sn), .ref mp, .int q1d, .ref mq, .int q1e, .int q1f, .ref mi, .ref mz, .ref ma, .ref mc])), (mb, .inl (cyI, 97, .inl (upd g1 j12 (q1b j12)))), (mn, .inl (cyI, 97, .inl q1b)), (mk, .inl (cyI, 4, .inl kn)), (mp, .inl (cyI, 60, .inl pd)), (mq, .inl (cyI, 24, .inl q1c))] H := hP
        have hD : va_D A [(hm, .inr (6, [.ref mb, .ref mn, .ref mk, .int (nI sg), .ref ms, .int (nI sn), .ref mp, .int q1d, .ref mq, .int q1e, .int q1f, .ref mi, .ref mz, .ref ma, .ref mc])), (mb, .inl (cyI, 97, .inl (upd g1 j12 (q1b j12)))), (mn, .inl (cyI, 97, .inl q1b)), (mk, .inl (cyI, 4, .inl kn)), (mp, .inl (cyI, 60, .inl pd)), (mq, .inl (cyI, 24, .inl q1c))] := hD
        refine lv_iinc (v := (nI (j12 + 1))) (lv' := [(1, .int (nI (j12 + 1))), (0, .ref hm)]) hx hb dX6_done_30 hl (k := 0) rfl (by exact nI_add (j12) 1) (by decide) rfl (fun ls hl => ?_)
        refine lv_goto (tgt := 12) hx hb dX6_done_33 (by decide) ?_
        exact ih (j12 + 1) (upd g1 j12 (q1b j12)) (by omega)  hz12 _ _ hP hD hS _ (lv_sub hl [0, 1] rfl)
    exact LP12 97 0 bk (by omega)  hz12 _ _ hP hD hS _ (lv_sub hl [0, 1] rfl)
  · rw [if_neg c4] at hF
    refine lv_bipush (v := (-5 : Int32)) hx hb dX6_done_7 (by decide) ?_
    subst hF
    subst hAe
    exact W.iret hx hb hr (fun t ht _ => ⟨⟨_, (), rfl, rfl, by rw [ht]; exact hP, hD⟩, hS.F ht⟩) hS.2.2 dX6_done_9

def fX6_behind (sn : Nat) (ud : Int32) (rz : Int32) (az : Int32) (bk : Nat → Int32) (nw : Nat → Int32) (kn : Nat → Int32) (pd : Nat → Int32) (pq : Nat → Int32) (wh : Int32) : Int32 × (Nat → Int32) × (Nat → Int32) × Int32 × Int32 × Int32 :=
  (if (fX6_in wh (0 : Int32) (3 : Int32)) = 0 then ((-2 : Int32), nw, pq, ud, rz, az) else (match fX6_barOfWeeks sn ud rz az bk nw kn pd pq with | (q13a, q13b, q13c, q13d, q13e, q13f) => (if 0 ≤ q13a then (if wh = 0 then ((nI (mN q13b)), q13b, q13c, q13d, q13e, q13f) else (if wh = (1 : Int32) then ((fX6_eatenSet q13b), q13b, q13c, q13d, q13e, q13f) else (if wh = (2 : Int32) then ((fX6_looseSet q13b), q13b, q13c, q13d, q13e, q13f) else (q13d, q13b, q13c, q13d, q13e, q13f)))) else ((-5 : Int32), q13b, q13c, q13d, q13e, q13f))))
set_option maxHeartbeats 4000000 in
set_option maxRecDepth 100000 in
theorem c_X6_behind (l : Launch) (dC : Nat → ClassId) (dI : Nat → Nat → Nat) (cyI cyZ : ClassId) (hm mb mn mk ms mp mq mi mz ma mc : Nat) (sg : Nat) (sn : Nat) (ud : Int32) (rz : Int32) (az : Int32) (bk : Nat → Int32) (nw : Nat → Int32) (kn : Nat → Int32) (pd : Nat → Int32) (pq : Nat → Int32) (wh : Int32) (hI : kx_I bk) (hJ : kx_I nw) (hsn : sn ≤ 60) (sz : Nat) (r : Int32 × (Nat → Int32) × (Nat → Int32) × Int32 × Int32 × Int32) (hF : fX6_behind sn ud rz az bk nw kn pd pq wh = r) : Met l yX6_behind wsX6_behind ({ frames := 5, cells := 0, slots := 0, locals := 111 }) (kx_wp (dC, dI) [(hm, .inr (6, [.ref mb, .ref mn, .ref mk, .int (nI sg), .ref ms, .int (nI sn), .ref mp, .int ud, .ref mq, .int rz, .int az, .ref mi, .ref mz, .ref ma, .ref mc])), (mb, .inl (cyI, 97, .inl bk)), (mn, .inl (cyI, 97, .inl nw)), (mk, .inl (cyI, 4, .inl kn)), (mp, .inl (cyI, 60, .inl pd)), (mq, .inl (cyI, 24, .inl pq))] [(cyI, .int), (cyZ, .boolean)] sz [.ref hm, .int wh]) (kx_Qi r.1 (dC, dI) [(hm, .inr (6, [.ref mb, .ref mn, .ref mk, .int (nI sg), .ref ms, .int (nI sn), .ref mp, .int ud, .ref mq, .int rz, .int az, .ref mi, .ref mz, .ref ma, .ref mc])), (mb, .inl (cyI, 97, .inl bk)), (mn, .inl (cyI, 97, .inl nw)), (mk, .inl (cyI, 4, .inl kn)), (mp, .inl (cyI, 60, .inl pd)), (mq, .inl (cyI, 24, .inl pq))] [(hm, .inr (6, [.ref mb, .ref mn, .ref mk, .int (nI sg), .ref ms, .int (nI sn), .ref mp, .int r.2.2.2.1, .ref mq, .int r.2.2.2.2.1, .int r.2.2.2.2.2, .ref mi, .ref mz, .ref ma, .ref mc])), (mb, .inl (cyI, 97, .inl bk)), (mn, .inl (cyI, 97, .inl r.2.1)), (mk, .inl (cyI, 4, .inl kn)), (mp, .inl (cyI, 60, .inl pd)), (mq, .inl (cyI, 24, .inl r.2.2.1))] sz) 0 0 (va_A [(hm, .inr (6, [.ref mb, .ref mn, .ref mk, .int (nI sg), .ref ms, .int (nI sn), .ref mp, .int ud, .ref mq, .int rz, .int az, .ref mi, .ref mz, .ref ma, .ref mc])), (mb, .inl (cyI, 97, .inl bk)), (mn, .inl (cyI, 97, .inl nw)), (mk, .inl (cyI, 4, .inl kn)), (mp, .inl (cyI, 60, .inl pd)), (mq, .inl (cyI, 24, .inl pq))] sz) := by
  refine Met.ofW (cc := cX6_behind) (maxL := 2) (ret := (some .int)) (by decide) rfl ?_
  intro p e s m args below meth c s₁ B hml hv
  obtain ⟨rfl, hsz, hP, hK, hN, hD0⟩ := hv
  have hx := B.exec
  have hb := B.bytes
  have hr := B.returns
  have hts := atoms_spec (ws := wsX6_behind) B.pre
  have hown : s.vm.findClass RX6 = some m.cls := findClass_of_methodNamed B.named
  have hlocks := B.notSynchronized
  subst hsz
  obtain ⟨A, hAe⟩ : ∃ A, A = va_A [(hm, .inr (6, [.ref mb, .ref mn, .ref mk, .int (nI sg), .ref ms, .int (nI sn), .ref mp, .int ud, .ref mq, .int rz, .int az, .ref mi, .ref mz, .ref ma, .ref mc])), (mb, .inl (cyI, 97, .inl bk)), (mn, .inl (cyI, 97, .inl nw)), (mk, .inl (cyI, 4, .inl kn)), (mp, .inl (cyI, 60, .inl pd)), (mq, .inl (cyI, 24, .inl pq))] s.heap.size := ⟨_, rfl⟩
  have hD : va_D A [(hm, .inr (6, [.ref mb, .ref mn, .ref mk, .int (nI sg), .ref ms, .int (nI sn), .ref mp, .int ud, .ref mq, .int rz, .int az, .ref mi, .ref mz, .ref ma, .ref mc])), (mb, .inl (cyI, 97, .inl bk)), (mn, .inl (cyI, 97, .inl nw)), (mk, .inl (cyI, 4, .inl kn)), (mp, .inl (cyI, 60, .inl pd)), (mq, .inl (cyI, 24, .inl pq))] := by rw [hAe]; exact hD0.self
  have hA : ∀ q : Nat, s.heap.size ≤ q → A q := fun q h => by rw [hAe]; exact Or.inr h
  have hS : va_S A s.heap s.heap [] := va_S.rf
  have hiX6 : ∀ w ∈ wsX60, w ∈ wsX6_behind := by decide +kernel
  have fl13 := hts (.fieldLink RX6 13 "KnitChronicleModel" "now" "[I") (by decide +kernel)
  have fl66 := hts (.fieldLink RX6 66 "KnitChronicleModel" "undone" "I") (by decide +kernel)
  have hl := lv_entry ([.ref hm, .int wh]) (n := 2) (Nat.le_of_ble_eq_true rfl)
  rw [lg_entry_eq]
  generalize (lg_sl ([.ref hm, .int wh]) ++ List.replicate (2 - (lg_sl ([.ref hm, .int wh])).length) Slot.unset).toArray = ls at hl ⊢
  have hl : lv_has ls 2 [(0, .ref hm), (1, .int wh)] := hl
  unfold fX6_behind at hF
  have hmN := hI.2.1
  refine lv_iload_n hx hb dX6_behind_0 rfl (lv_at hl 1 rfl) ?_
  refine lv_iconst (v := (0 : Int32)) hx hb dX6_behind_1 (by decide) ?_
  refine lv_iconst (v := (3 : Int32)) hx hb dX6_behind_2 (by decide) ?_
  refine kx_cS (As := [.int wh, .int (0 : Int32), .int (3 : Int32)]) (rest := []) ⟨hx, hb, hml, hown, hts⟩ (c_X6_in l dC dI cyI cyZ  wh (0 : Int32) (3 : Int32)  _ rfl) (va_cwS 3 hts gX6_behind_X6_in rfl rfl rfl (by decide +kernel) ⟨Nat.le_of_ble_eq_true rfl, Nat.le_of_ble_eq_true rfl⟩) hP hK hN [] rfl [0, 1] rfl rfl hl.1 rfl (Nat.le_of_ble_eq_true rfl) dX6_behind_3 ⟨Nat.zero_le _, Nat.zero_le _⟩ ?_
  refine lv_if_ne (tgt := 12) hx hb dX6_behind_6 (by decide) (fun c6 => ?_) (fun c6 => ?_)
  · rw [if_neg c6] at hF
    refine lv_aload_n hx hb dX6_behind_12 rfl (lv_at hl 0 rfl) ?_
    generalize hq13 : fX6_barOfWeeks sn ud rz az bk nw kn pd pq = q13 at hF
    obtain ⟨q13a, q13b, q13c, q13d, q13e, q13f⟩ := q13
    dsimp only at hF
    refine kx_wVi (As := []) (rest := []) (wr := []) (wc' := [(hm, .inr (6, [.ref mb, .ref mn, .ref mk, .int (nI sg), .ref ms, .int (nI sn), .ref mp, .int q13d, .ref mq, .int q13e, .int q13f, .ref mi, .ref mz, .ref ma, .ref mc])), (mb, .inl (cyI, 97, .inl bk)), (mn, .inl (cyI, 97, .inl q13b)), (mk, .inl (cyI, 4, .inl kn)), (mp, .inl (cyI, 60, .inl pd)), (mq, .inl (cyI, 24, .inl q13c))]) (W1 := [(hm, .inr (6, [.ref mb, .ref mn, .ref mk, .int (nI sg), .ref ms, .int (nI sn), .ref mp, .int q13d, .ref mq, .int q13e, .int q13f, .ref mi, .ref mz, .ref ma, .ref mc])), (mb, .inl (cyI, 97, .inl bk)), (mn, .inl (cyI, 97, .inl q13b)), (mk, .inl (cyI, 4, .inl kn)), (mp, .inl (cyI, 60, .inl pd)), (mq, .inl (cyI, 24, .inl q13c))]) ⟨hx, hb, hml, hown, hts⟩ (c_X6_barOfWeeks l dC dI cyI cyZ hm mb mn mk ms mp mq mi mz ma mc sg sn ud rz az bk nw kn pd pq hI hJ (by omega) _ _ hq13) (cwV 0 hts gX6_behind_X6_barOfWeeks rfl rfl rfl (by decide +kernel) ⟨Nat.le_of_ble_eq_true rfl, Nat.le_of_ble_eq_true rfl⟩) hP hD hS hA hK hN [0, 1, 2, 3, 4, 5] [] [0, 1, 2, 3, 4, 5] rfl (by decide) rfl (by decide) (by decide) (by decide) rfl [0, 1] rfl 6 0 rfl rfl rfl rfl hl.1 rfl (Nat.le_of_ble_eq_true rfl) dX6_behind_13 ⟨Nat.zero_le _, Nat.zero_le _⟩ (fun H locs hP hD hS => ?_)
    have hJ1 : kx_I q13b := fX6_barOfWeeks_I hI hJ hsn hq13
    refine lv_if_ge (tgt := 22) hx hb dX6_behind_16 (by decide) (fun c16 => ?_) (fun c16 => ?_)
    · rw [if_pos c16] at hF
      refine lv_iload_n hx hb dX6_behind_22 rfl (lv_at hl 1 rfl) ?_
      refine lv_if_ne (tgt := 36) hx hb dX6_behind_23 (by decide) (fun c23 => ?_) (fun c23 => ?_)
      · rw [if_neg c23] at hF
        refine lv_iload_n hx hb dX6_behind_36 rfl (lv_at hl 1 rfl) ?_
        refine lv_iconst (v := (1 : Int32)) hx hb dX6_behind_37 (by decide) ?_
        refine lv_icmp_ne (tgt := 48) hx hb dX6_behind_38 (by decide) (fun c38 => ?_) (fun c38 => ?_)
        · rw [if_neg c38] at hF
          refine lv_iload_n hx hb dX6_behind_48 rfl (lv_at hl 1 rfl) ?_
          refine lv_iconst (v := (2 : Int32)) hx hb dX6_behind_49 (by decide) ?_
          refine lv_icmp_ne (tgt := 60) hx hb dX6_behind_50 (by decide) (fun c50 => ?_) (fun c50 => ?_)
          · rw [if_neg c50] at hF
            refine lv_aload_n hx hb dX6_behind_60 rfl (lv_at hl 0 rfl) ?_
            refine va_get (D := (dC, dI)) (ci := 6) (v := .int q13d) (C := RX6) (T := TX6) (N := 15) hx hb hts hiX6 hown hK hP 0 rfl rfl 7 (by decide) fl66 (fun _ h9 => h9) rfl dX6_behind_61 ?_
            subst hF
            subst hAe
            exact W.iret hx hb hr (fun t ht _ => ⟨⟨_, (), rfl, rfl, by rw [ht]; exact hP, hD⟩, hS.F ht⟩) hS.2.2 dX6_behind_64
          · rw [if_pos c50] at hF
            refine lv_aload_n hx hb dX6_behind_53 rfl (lv_at hl 0 rfl) ?_
            refine kx_cV (As := []) (rest := []) ⟨hx, hb, hml, hown, hts⟩ (c_X6_looseSet l dC dI cyI cyZ hm mb mn mk ms mp mq mi mz ma mc sg sn q13d q13e q13f q13b hJ1 _ rfl) (cwV 0 hts gX6_behind_X6_looseSet rfl rfl rfl (by decide +kernel) ⟨Nat.le_of_ble_eq_true rfl, Nat.le_of_ble_eq_true rfl⟩) hP hK hN [0, 2] rfl [0, 1] rfl 6 0 rfl rfl rfl rfl hl.1 rfl (Nat.le_of_ble_eq_true rfl) dX6_behind_54 ⟨Nat.zero_le _, Nat.zero_le _⟩ ?_
            refine lv_goto (tgt := 64) hx hb dX6_behind_57 (by decide) ?_
            subst hF
            subst hAe
            exact W.iret hx hb hr (fun t ht _ => ⟨⟨_, (), rfl, rfl, by rw [ht]; exact hP, hD⟩, hS.F ht⟩) hS.2.2 dX6_behind_64
        · rw [if_pos c38] at hF
          refine lv_aload_n hx hb dX6_behind_41 rfl (lv_at hl 0 rfl) ?_
          refine kx_cV (As := []) (rest := []) ⟨hx, hb, hml, hown, hts⟩ (c_X6_eatenSet l dC dI cyI cyZ hm mb mn mk ms mp mq mi mz ma mc sg sn q13d q13e q13f q13b hJ1 _ rfl) (cwV 0 hts gX6_behind_X6_eatenSet rfl rfl rfl (by decide +kernel) ⟨Nat.le_of_ble_eq_true rfl, Nat.le_of_ble_eq_true rfl⟩) hP hK hN [0, 2] rfl [0, 1] rfl 6 0 rfl rfl rfl rfl hl.1 rfl (Nat.le_of_ble_eq_true rfl) dX6_behind_42 ⟨Nat.zero_le _, Nat.zero_le _⟩ ?_
          refine lv_goto (tgt := 64) hx hb dX6_behind_45 (by decide) ?_
          subst hF
          subst hAe
          exact W.iret hx hb hr (fun t ht _ => ⟨⟨_, (), rfl, rfl, by rw [ht]; exact hP, hD⟩, hS.F ht⟩) hS.2.2 dX6_behind_64
      · rw [if_pos c23] at hF
        refine lv_aload_n hx hb dX6_behind_26 rfl (lv_at hl 0 rfl) ?_
        refine va_get (D := (dC, dI)) (ci := 6) (v := .ref mn) (C := RX6) (T := TX6) (N := 15) hx hb hts hiX6 hown hK hP 0 rfl rfl 1 (by decide) fl13 (fun _ h9 => h9) rfl dX6_behind_27 ?_
        refine lv_bipush (v := (96 : Int32)) hx hb dX6_behind_30 (by decide) ?_
        refine kx_ld hx hb hK hP 2 0 rfl rfl (96) rfl (by omega) (by decide) dX6_behind_32 ?_
        refine kx_e hJ1.1 ?_
        refine lv_goto (tgt := 64) hx hb dX6_behind_33 (by decide) ?_
        subst hF
        subst hAe
        exact W.iret hx hb hr (fun t ht _ => ⟨⟨_, (), rfl, rfl, by rw [ht]; exact hP, hD⟩, hS.F ht⟩) hS.2.2 dX6_behind_64
    · rw [if_neg c16] at hF
      refine lv_bipush (v := (-5 : Int32)) hx hb dX6_behind_19 (by decide) ?_
      subst hF
      subst hAe
      exact W.iret hx hb hr (fun t ht _ => ⟨⟨_, (), rfl, rfl, by rw [ht]; exact hP, hD⟩, hS.F ht⟩) hS.2.2 dX6_behind_21
  · rw [if_pos c6] at hF
    refine lv_bipush (v := (-2 : Int32)) hx hb dX6_behind_9 (by decide) ?_
    subst hF
    subst hAe
    exact W.iret hx hb hr (fun t ht _ => ⟨⟨_, (), rfl, rfl, by rw [ht]; exact hP, hD⟩, hS.F ht⟩) hS.2.2 dX6_behind_11

def fX6_of (sn : Nat) (ud : Int32) (rz : Int32) (az : Int32) (bk : Nat → Int32) (nw : Nat → Int32) (kn : Nat → Int32) (pd : Nat → Int32) (pq : Nat → Int32) (k : Int32) (wh : Int32) : Int32 × (Nat → Int32) × (Nat → Int32) × Int32 × Int32 × Int32 :=
  (if (fX6_in wh (0 : Int32) (2 : Int32)) = 0 then ((-2 : Int32), nw, pq, ud, rz, az) else (match fX6_barOfWeeks sn ud rz az bk nw kn pd pq with | (q13a, q13b, q13c, q13d, q13e, q13f) => (if 0 ≤ q13a then (if (fX6_in k (0 : Int32) ((nI (mN q13b)) + (-1))) = 0 then ((-1 : Int32), q13b, q13c, q13d, q13e, q13f) else ((q13b (24 * wh.toNatClampNeg + k.toNatClampNeg)), q13b, q13c, q13d, q13e, q13f)) else ((-5 : Int32), q13b, q13c, q13d, q13e, q13f))))
set_option maxHeartbeats 4000000 in
set_option maxRecDepth 100000 in
theorem c_X6_of (l : Launch) (dC : Nat → ClassId) (dI : Nat → Nat → Nat) (cyI cyZ : ClassId) (hm mb mn mk ms mp mq mi mz ma mc : Nat) (sg : Nat) (sn : Nat) (ud : Int32) (rz : Int32) (az : Int32) (bk : Nat → Int32) (nw : Nat → Int32) (kn : Nat → Int32) (pd : Nat → Int32) (pq : Nat → Int32) (k : Int32) (wh : Int32) (hI : kx_I bk) (hJ : kx_I nw) (hsn : sn ≤ 60) (sz : Nat) (r : Int32 × (Nat → Int32) × (Nat → Int32) × Int32 × Int32 × Int32) (hF : fX6_of sn ud rz az bk nw kn pd pq k wh = r) : Met l yX6_of wsX6_of ({ frames := 5, cells := 0, slots := 0, locals := 111 }) (kx_wp (dC, dI) [(hm, .inr (6, [.ref mb, .ref mn, .ref mk, .int (nI sg), .ref ms, .int (nI sn), .ref mp, .int ud, .ref mq, .int rz, .int az, .ref mi, .ref mz, .ref ma, .ref mc])), (mb, .inl (cyI, 97, .inl bk)), (mn, .inl (cyI, 97, .inl nw)), (mk, .inl (cyI, 4, .inl kn)), (mp, .inl (cyI, 60, .inl pd)), (mq, .inl (cyI, 24, .inl pq))] [(cyI, .int), (cyZ, .boolean)] sz [.ref hm, .int k, .int wh]) (kx_Qi r.1 (dC, dI) [(hm, .inr (6, [.ref mb, .ref mn, .ref mk, .int (nI sg), .ref ms, .int (nI sn), .ref mp, .int ud, .ref mq, .int rz, .int az, .ref mi, .ref mz, .ref ma, .ref mc])), (mb, .inl (cyI, 97, .inl bk)), (mn, .inl (cyI, 97, .inl nw)), (mk, .inl (cyI, 4, .inl kn)), (mp, .inl (cyI, 60, .inl pd)), (mq, .inl (cyI, 24, .inl pq))] [(hm, .inr (6, [.ref mb, .ref mn, .ref mk, .int (nI sg), .ref ms, .int (nI sn), .ref mp, .int r.2.2.2.1, .ref mq, .int r.2.2.2.2.1, .int r.2.2.2.2.2, .ref mi, .ref mz, .ref ma, .ref mc])), (mb, .inl (cyI, 97, .inl bk)), (mn, .inl (cyI, 97, .inl r.2.1)), (mk, .inl (cyI, 4, .inl kn)), (mp, .inl (cyI, 60, .inl pd)), (mq, .inl (cyI, 24, .inl r.2.2.1))] sz) 0 0 (va_A [(hm, .inr (6, [.ref mb, .ref mn, .ref mk, .int (nI sg), .ref ms, .int (nI sn), .ref mp, .int ud, .ref mq, .int rz, .int az, .ref mi, .ref mz, .ref ma, .ref mc])), (mb, .inl (cyI, 97, .inl bk)), (mn, .inl (cyI, 97, .inl nw)), (mk, .inl (cyI, 4, .inl kn)), (mp, .inl (cyI, 60, .inl pd)), (mq, .inl (cyI, 24, .inl pq))] sz) := by
  refine Met.ofW (cc := cX6_of) (maxL := 3) (ret := (some .int)) (by decide) rfl ?_
  intro p e s m args below meth c s₁ B hml hv
  obtain ⟨rfl, hsz, hP, hK, hN, hD0⟩ := hv
  have hx := B.exec
  have hb := B.bytes
  have hr := B.returns
  have hts := atoms_spec (ws := wsX6_of) B.pre
  have hown : s.vm.findClass RX6 = some m.cls := findClass_of_methodNamed B.named
  have hlocks := B.notSynchronized
  subst hsz
  obtain ⟨A, hAe⟩ : ∃ A, A = va_A [(hm, .inr (6, [.ref mb, .ref mn, .ref mk, .int (nI sg), .ref ms, .int (nI sn), .ref mp, .int ud, .ref mq, .int rz, .int az, .ref mi, .ref mz, .ref ma, .ref mc])), (mb, .inl (cyI, 97, .inl bk)), (mn, .inl (cyI, 97, .inl nw)), (mk, .inl (cyI, 4, .inl kn)), (mp, .inl (cyI, 60, .inl pd)), (mq, .inl (cyI, 24, .inl pq))] s.heap.size := ⟨_, rfl⟩
  have hD : va_D A [(hm, .inr (6, [.ref mb, .ref mn, .ref mk, .int (nI sg), .ref ms, .int (nI sn), .ref mp, .int ud, .ref mq, .int rz, .int az, .ref mi, .ref mz, .ref ma, .ref mc])), (mb, .inl (cyI, 97, .inl bk)), (mn, .inl (cyI, 97, .inl nw)), (mk, .inl (cyI, 4, .inl kn)), (mp, .inl (cyI, 60, .inl pd)), (mq, .inl (cyI, 24, .inl pq))] := by rw [hAe]; exact hD0.self
  have hA : ∀ q : Nat, s.heap.size ≤ q → A q := fun q h => by rw [hAe]; exact Or.inr h
  have hS : va_S A s.heap s.heap [] := va_S.rf
  have hiX6 : ∀ w ∈ wsX60, w ∈ wsX6_of := by decide +kernel
  have fl13 := hts (.fieldLink RX6 13 "KnitChronicleModel" "now" "[I") (by decide +kernel)
  have hl := lv_entry ([.ref hm, .int k, .int wh]) (n := 3) (Nat.le_of_ble_eq_true rfl)
  rw [lg_entry_eq]
  generalize (lg_sl ([.ref hm, .int k, .int wh]) ++ List.replicate (3 - (lg_sl ([.ref hm, .int k, .int wh])).length) Slot.unset).toArray = ls at hl ⊢
  have hl : lv_has ls 3 [(0, .ref hm), (1, .int k), (2, .int wh)] := hl
  unfold fX6_of at hF
  have hmN := hI.2.1
  refine lv_iload_n hx hb dX6_of_0 rfl (lv_at hl 2 rfl) ?_
  refine lv_iconst (v := (0 : Int32)) hx hb dX6_of_1 (by decide) ?_
  refine lv_iconst (v := (2 : Int32)) hx hb dX6_of_2 (by decide) ?_
  refine kx_cS (As := [.int wh, .int (0 : Int32), .int (2 : Int32)]) (rest := []) ⟨hx, hb, hml, hown, hts⟩ (c_X6_in l dC dI cyI cyZ  wh (0 : Int32) (2 : Int32)  _ rfl) (va_cwS 3 hts gX6_of_X6_in rfl rfl rfl (by decide +kernel) ⟨Nat.le_of_ble_eq_true rfl, Nat.le_of_ble_eq_true rfl⟩) hP hK hN [] rfl [0, 1] rfl rfl hl.1 rfl (Nat.le_of_ble_eq_true rfl) dX6_of_3 ⟨Nat.zero_le _, Nat.zero_le _⟩ ?_
  refine lv_if_ne (tgt := 12) hx hb dX6_of_6 (by decide) (fun c6 => ?_) (fun c6 => ?_)
  · rw [if_neg c6] at hF
    obtain ⟨hw1, hw2, hw3⟩ := fX6_in_P 0 2 (by decide) (by decide) c6
    refine lv_aload_n hx hb dX6_of_12 rfl (lv_at hl 0 rfl) ?_
    generalize hq13 : fX6_barOfWeeks sn ud rz az bk nw kn pd pq = q13 at hF
    obtain ⟨q13a, q13b, q13c, q13d, q13e, q13f⟩ := q13
    dsimp only at hF
    refine kx_wVi (As := []) (rest := []) (wr := []) (wc' := [(hm, .inr (6, [.ref mb, .ref mn, .ref mk, .int (nI sg), .ref ms, .int (nI sn), .ref mp, .int q13d, .ref mq, .int q13e, .int q13f, .ref mi, .ref mz, .ref ma, .ref mc])), (mb, .inl (cyI, 97, .inl bk)), (mn, .inl (cyI, 97, .inl q13b)), (mk, .inl (cyI, 4, .inl kn)), (mp, .inl (cyI, 60, .inl pd)), (mq, .inl (cyI, 24, .inl q13c))]) (W1 := [(hm, .inr (6, [.ref mb, .ref mn, .ref mk, .int (nI sg), .ref ms, .int (nI sn), .ref mp, .int q13d, .ref mq, .int q13e, .int q13f, .ref mi, .ref mz, .ref ma, .ref mc])), (mb, .inl (cyI, 97, .inl bk)), (mn, .inl (cyI, 97, .inl q13b)), (mk, .inl (cyI, 4, .inl kn)), (mp, .inl (cyI, 60, .inl pd)), (mq, .inl (cyI, 24, .inl q13c))]) ⟨hx, hb, hml, hown, hts⟩ (c_X6_barOfWeeks l dC dI cyI cyZ hm mb mn mk ms mp mq mi mz ma mc sg sn ud rz az bk nw kn pd pq hI hJ (by omega) _ _ hq13) (cwV 0 hts gX6_of_X6_barOfWeeks rfl rfl rfl (by decide +kernel) ⟨Nat.le_of_ble_eq_true rfl, Nat.le_of_ble_eq_true rfl⟩) hP hD hS hA hK hN [0, 1, 2, 3, 4, 5] [] [0, 1, 2, 3, 4, 5] rfl (by decide) rfl (by decide) (by decide) (by decide) rfl [0, 1] rfl 6 0 rfl rfl rfl rfl hl.1 rfl (Nat.le_of_ble_eq_true rfl) dX6_of_13 ⟨Nat.zero_le _, Nat.zero_le _⟩ (fun H locs hP hD hS => ?_)
    have hJ1 : kx_I q13b := fX6_barOfWeeks_I hI hJ hsn hq13
    have hm1 := hJ1.2.1
    refine lv_if_ge (tgt := 22) hx hb dX6_of_16 (by decide) (fun c16 => ?_) (fun c16 => ?_)
    · rw [if_pos c16] at hF
      refine lv_iload_n hx hb dX6_of_22 rfl (lv_at hl 1 rfl) ?_
      refine lv_iconst (v := (0 : Int32)) hx hb dX6_of_23 (by decide) ?_
      refine lv_aload_n hx hb dX6_of_24 rfl (lv_at hl 0 rfl) ?_
      refine va_get (D := (dC, dI)) (ci := 6) (v := .ref mn) (C := RX6) (T := TX6) (N := 15) hx hb hts hiX6 hown hK hP 0 rfl rfl 1 (by decide) fl13 (fun _ h9 => h9) rfl dX6_of_25 ?_
      refine lv_bipush (v := (96 : Int32)) hx hb dX6_of_28 (by decide) ?_
      refine kx_ld hx hb hK hP 2 0 rfl rfl (96) rfl (by omega) (by decide) dX6_of_30 ?_
      refine kx_e hJ1.1 ?_
      refine lv_iconst (v := (1 : Int32)) hx hb dX6_of_31 (by decide) ?_
      refine lv_isub hx hb dX6_of_32 ?_
      refine kx_e (kx_sub1 (mN q13b)) ?_
      refine kx_cS (As := [.int k, .int (0 : Int32), .int ((nI (mN q13b)) + (-1))]) (rest := []) ⟨hx, hb, hml, hown, hts⟩ (c_X6_in l dC dI cyI cyZ  k (0 : Int32) ((nI (mN q13b)) + (-1))  _ rfl) (va_cwS 3 hts gX6_of_X6_in rfl rfl rfl (by decide +kernel) ⟨Nat.le_of_ble_eq_true rfl, Nat.le_of_ble_eq_true rfl⟩) hP hK hN [] rfl [0, 1] rfl rfl hl.1 rfl (Nat.le_of_ble_eq_true rfl) dX6_of_33 ⟨Nat.zero_le _, Nat.zero_le _⟩ ?_
      refine lv_if_eq (tgt := 53) hx hb dX6_of_36 (by decide) (fun c36 => ?_) (fun c36 => ?_)
      · rw [if_pos c36] at hF
        refine lv_iconst (v := (-1 : Int32)) hx hb dX6_of_53 (by decide) ?_
        subst hF
        subst hAe
        exact W.iret hx hb hr (fun t ht _ => ⟨⟨_, (), rfl, rfl, by rw [ht]; exact hP, hD⟩, hS.F ht⟩) hS.2.2 dX6_of_54
      · rw [if_neg c36] at hF
        obtain ⟨hk1, hk2⟩ := fX6_isStitch_P hJ1 c36
        refine lv_aload_n hx hb dX6_of_39 rfl (lv_at hl 0 rfl) ?_
        refine va_get (D := (dC, dI)) (ci := 6) (v := .ref mn) (C := RX6) (T := TX6) (N := 15) hx hb hts hiX6 hown hK hP 0 rfl rfl 1 (by decide) fl13 (fun _ h9 => h9) rfl dX6_of_40 ?_
        refine lv_bipush (v := (24 : Int32)) hx hb dX6_of_43 (by decide) ?_
        refine lv_iload_n hx hb dX6_of_45 rfl (lv_at hl 2 rfl) ?_
        refine kx_e hw1 ?_
        refine lv_imul hx hb dX6_of_46 ?_
        refine kx_e (pk_mul (24) (wh.toNatClampNeg)) ?_
        refine lv_iload_n hx hb dX6_of_47 rfl (lv_at hl 1 rfl) ?_
        refine kx_e hk1 ?_
        refine lv_iadd hx hb dX6_of_48 ?_
        refine kx_e (nI_add (24 * wh.toNatClampNeg) (k.toNatClampNeg)) ?_
        refine kx_ld hx hb hK hP 2 0 rfl rfl (24 * wh.toNatClampNeg + k.toNatClampNeg) rfl (by omega) (by decide) dX6_of_49 ?_
        refine lv_goto (tgt := 54) hx hb dX6_of_50 (by decide) ?_
        subst hF
        subst hAe
        exact W.iret hx hb hr (fun t ht _ => ⟨⟨_, (), rfl, rfl, by rw [ht]; exact hP, hD⟩, hS.F ht⟩) hS.2.2 dX6_of_54
    · rw [if_neg c16] at hF
      refine lv_bipush (v := (-5 : Int32)) hx hb dX6_of_19 (by decide) ?_
      subst hF
      subst hAe
      exact W.iret hx hb hr (fun t ht _ => ⟨⟨_, (), rfl, rfl, by rw [ht]; exact hP, hD⟩, hS.F ht⟩) hS.2.2 dX6_of_21
  · rw [if_pos c6] at hF
    refine lv_bipush (v := (-2 : Int32)) hx hb dX6_of_9 (by decide) ?_
    subst hF
    subst hAe
    exact W.iret hx hb hr (fun t ht _ => ⟨⟨_, (), rfl, rfl, by rw [ht]; exact hP, hD⟩, hS.F ht⟩) hS.2.2 dX6_of_11

def fX6_pull (ud : Int32) (bk : Nat → Int32) (nw : Nat → Int32) (k : Int32) : Int32 × (Nat → Int32) × Int32 :=
  (if (fX6_isStitch bk k) = 0 then ((-1 : Int32), nw, ud) else (match fX6_asNow bk nw with | (q11a, q11b) => ((fX6_bits (fX6_threadOf q11a k.toNatClampNeg)), q11a, q11b)))
set_option maxHeartbeats 4000000 in
set_option maxRecDepth 100000 in
theorem c_X6_pull (l : Launch) (dC : Nat → ClassId) (dI : Nat → Nat → Nat) (cyI cyZ : ClassId) (hm mb mn mk ms mp mq mi mz ma mc : Nat) (sg : Nat) (sn : Nat) (ud : Int32) (rz : Int32) (az : Int32) (bk : Nat → Int32) (nw : Nat → Int32) (k : Int32) (hI : kx_I bk) (sz : Nat) (r : Int32 × (Nat → Int32) × Int32) (hF : fX6_pull ud bk nw k = r) : Met l yX6_pull wsX6_pull ({ frames := 2, cells := 0, slots := 0, locals := 45 }) (kx_wp (dC, dI) [(hm, .inr (6, [.ref mb, .ref mn, .ref mk, .int (nI sg), .ref ms, .int (nI sn), .ref mp, .int ud, .ref mq, .int rz, .int az, .ref mi, .ref mz, .ref ma, .ref mc])), (mb, .inl (cyI, 97, .inl bk)), (mn, .inl (cyI, 97, .inl nw))] [(cyI, .int), (cyZ, .boolean)] sz [.ref hm, .int k]) (kx_Qi r.1 (dC, dI) [(hm, .inr (6, [.ref mb, .ref mn, .ref mk, .int (nI sg), .ref ms, .int (nI sn), .ref mp, .int ud, .ref mq, .int rz, .int az, .ref mi, .ref mz, .ref ma, .ref mc])), (mb, .inl (cyI, 97, .inl bk)), (mn, .inl (cyI, 97, .inl nw))] [(hm, .inr (6, [.ref mb, .ref mn, .ref mk, .int (nI sg), .ref ms, .int (nI sn), .ref mp, .int r.2.2, .ref mq, .int rz, .int az, .ref mi, .ref mz, .ref ma, .ref mc])), (mb, .inl (cyI, 97, .inl bk)), (mn, .inl (cyI, 97, .inl r.2.1))] sz) 0 0 (va_A [(hm, .inr (6, [.ref mb, .ref mn, .ref mk, .int (nI sg), .ref ms, .int (nI sn), .ref mp, .int ud, .ref mq, .int rz, .int az, .ref mi, .ref mz, .ref ma, .ref mc])), (mb, .inl (cyI, 97, .inl bk)), (mn, .inl (cyI, 97, .inl nw))] sz) := by
  refine Met.ofW (cc := cX6_pull) (maxL := 2) (ret := (some .int)) (by decide) rfl ?_
  intro p e s m args below meth c s₁ B hml hv
  obtain ⟨rfl, hsz, hP, hK, hN, hD0⟩ := hv
  have hx := B.exec
  have hb := B.bytes
  have hr := B.returns
  have hts := atoms_spec (ws := wsX6_pull) B.pre
  have hown : s.vm.findClass RX6 = some m.cls := findClass_of_methodNamed B.named
  have hlocks := B.notSynchronized
  subst hsz
  obtain ⟨A, hAe⟩ : ∃ A, A = va_A [(hm, .inr (6, [.ref mb, .ref mn, .ref mk, .int (nI sg), .ref ms, .int (nI sn), .ref mp, .int ud, .ref mq, .int rz, .int az, .ref mi, .ref mz, .ref ma, .ref mc])), (mb, .inl (cyI, 97, .inl bk)), (mn, .inl (cyI, 97, .inl nw))] s.heap.size := ⟨_, rfl⟩
  have hD : va_D A [(hm, .inr (6, [.ref mb, .ref mn, .ref mk, .int (nI sg), .ref ms, .int (nI sn), .ref mp, .int ud, .ref mq, .int rz, .int az, .ref mi, .ref mz, .ref ma, .ref mc])), (mb, .inl (cyI, 97, .inl bk)), (mn, .inl (cyI, 97, .inl nw))] := by rw [hAe]; exact hD0.self
  have hA : ∀ q : Nat, s.heap.size ≤ q → A q := fun q h => by rw [hAe]; exact Or.inr h
  have hS : va_S A s.heap s.heap [] := va_S.rf
  have hl := lv_entry ([.ref hm, .int k]) (n := 2) (Nat.le_of_ble_eq_true rfl)
  rw [lg_entry_eq]
  generalize (lg_sl ([.ref hm, .int k]) ++ List.replicate (2 - (lg_sl ([.ref hm, .int k])).length) Slot.unset).toArray = ls at hl ⊢
  have hl : lv_has ls 2 [(0, .ref hm), (1, .int k)] := hl
  unfold fX6_pull at hF
  have hmN := hI.2.1
  refine lv_aload_n hx hb dX6_pull_0 rfl (lv_at hl 0 rfl) ?_
  refine lv_iload_n hx hb dX6_pull_1 rfl (lv_at hl 1 rfl) ?_
  refine kx_cV (As := [.int k]) (rest := []) ⟨hx, hb, hml, hown, hts⟩ (c_X6_isStitch l dC dI cyI cyZ hm mb mn mk ms mp mq mi mz ma mc sg sn ud rz az bk k hI _ rfl) (cwV 1 hts gX6_pull_X6_isStitch rfl rfl rfl (by decide +kernel) ⟨Nat.le_of_ble_eq_true rfl, Nat.le_of_ble_eq_true rfl⟩) hP hK hN [0, 1] rfl [0, 1] rfl 6 0 rfl rfl rfl rfl hl.1 rfl (Nat.le_of_ble_eq_true rfl) dX6_pull_2 ⟨Nat.zero_le _, Nat.zero_le _⟩ ?_
  refine lv_if_ne (tgt := 10) hx hb dX6_pull_5 (by decide) (fun c5 => ?_) (fun c5 => ?_)
  · rw [if_neg c5] at hF
    obtain ⟨hk1, hk2⟩ := fX6_isStitch_P hI c5
    refine lv_aload_n hx hb dX6_pull_10 rfl (lv_at hl 0 rfl) ?_
    generalize hq11 : fX6_asNow bk nw = q11 at hF
    obtain ⟨q11a, q11b⟩ := q11
    dsimp only at hF
    refine kx_wVv (As := []) (rest := []) (wr := []) (wc' := [(hm, .inr (6, [.ref mb, .ref mn, .ref mk, .int (nI sg), .ref ms, .int (nI sn), .ref mp, .int q11b, .ref mq, .int rz, .int az, .ref mi, .ref mz, .ref ma, .ref mc])), (mb, .inl (cyI, 97, .inl bk)), (mn, .inl (cyI, 97, .inl q11a))]) (W1 := [(hm, .inr (6, [.ref mb, .ref mn, .ref mk, .int (nI sg), .ref ms, .int (nI sn), .ref mp, .int q11b, .ref mq, .int rz, .int az, .ref mi, .ref mz, .ref ma, .ref mc])), (mb, .inl (cyI, 97, .inl bk)), (mn, .inl (cyI, 97, .inl q11a))]) ⟨hx, hb, hml, hown, hts⟩ (c_X6_asNow l dC dI cyI cyZ hm mb mn mk ms mp mq mi mz ma mc sg sn ud rz az bk nw  _ _ hq11) (cwV 0 hts gX6_pull_X6_asNow rfl rfl rfl (by decide +kernel) ⟨Nat.le_of_ble_eq_true rfl, Nat.le_of_ble_eq_true rfl⟩) hP hD hS hA hK hN [0, 1, 2] [] [0, 1, 2] rfl (by decide) rfl (by decide) (by decide) (by decide) rfl [0, 1] rfl 6 0 rfl rfl rfl rfl hl.1 rfl (Nat.le_of_ble_eq_true rfl) dX6_pull_11 ⟨Nat.zero_le _, Nat.zero_le _⟩ (fun H locs hP hD hS => ?_)
    have hJ1 : kx_I q11a := fX6_asNow_I hI hq11
    have hm1 : mN q11a = mN bk := fX6_asNow_m hq11
    refine lv_aload_n hx hb dX6_pull_14 rfl (lv_at hl 0 rfl) ?_
    refine lv_iload_n hx hb dX6_pull_15 rfl (lv_at hl 1 rfl) ?_
    refine kx_e hk1 ?_
    refine kx_cV (As := [.int (nI (k.toNatClampNeg))]) (rest := []) ⟨hx, hb, hml, hown, hts⟩ (c_X6_threadOf l dC dI cyI cyZ hm mb mn mk ms mp mq mi mz ma mc sg sn q11b rz az q11a k.toNatClampNeg hJ1 (by omega) _ rfl) (cwV 1 hts gX6_pull_X6_threadOf rfl rfl rfl (by decide +kernel) ⟨Nat.le_of_ble_eq_true rfl, Nat.le_of_ble_eq_true rfl⟩) hP hK hN [0, 2] rfl [0, 1] rfl 6 0 rfl rfl rfl rfl hl.1 rfl (Nat.le_of_ble_eq_true rfl) dX6_pull_16 ⟨Nat.zero_le _, Nat.zero_le _⟩ ?_
    refine kx_cS (As := [.int (fX6_threadOf q11a k.toNatClampNeg)]) (rest := []) ⟨hx, hb, hml, hown, hts⟩ (c_X6_bits l dC dI cyI cyZ  (fX6_threadOf q11a k.toNatClampNeg)  _ rfl) (va_cwS 1 hts gX6_pull_X6_bits rfl rfl rfl (by decide +kernel) ⟨Nat.le_of_ble_eq_true rfl, Nat.le_of_ble_eq_true rfl⟩) hP hK hN [] rfl [0, 1] rfl rfl hl.1 rfl (Nat.le_of_ble_eq_true rfl) dX6_pull_19 ⟨Nat.zero_le _, Nat.zero_le _⟩ ?_
    subst hF
    subst hAe
    exact W.iret hx hb hr (fun t ht _ => ⟨⟨_, (), rfl, rfl, by rw [ht]; exact hP, hD⟩, hS.F ht⟩) hS.2.2 dX6_pull_22
  · rw [if_pos c5] at hF
    refine lv_iconst (v := (-1 : Int32)) hx hb dX6_pull_8 (by decide) ?_
    subst hF
    subst hAe
    exact W.iret hx hb hr (fun t ht _ => ⟨⟨_, (), rfl, rfl, by rw [ht]; exact hP, hD⟩, hS.F ht⟩) hS.2.2 dX6_pull_9

def fX6_pulls_L84 (sy : Int32) (q46a : Nat → Int32) : Nat → Int32 → Int32 → Int32 × Int32
  | 0, tp, aa => (tp, aa)
  | j84 + 1, tp, aa => (if aa < 0 then (tp, aa) else (if ((fX6_threadOf q46a aa.toNatClampNeg) &&& sy) = 0 then (fX6_pulls_L84 sy q46a j84 aa (q46a (48 + aa.toNatClampNeg))) else (fX6_pulls_L84 sy q46a j84 tp (q46a (48 + aa.toNatClampNeg)))))
def fX6_pulls_L55 (go : Int32) (sy : Int32) (wh : Int32) (q46a : Nat → Int32) (q46b : Int32) : Nat → Nat → Int32 → (Int32 × (Nat → Int32) × Int32)
  | 0, _, se => (if wh = (1 : Int32) then (se, q46a, q46b) else ((fX6_bits se), q46a, q46b))
  | r55 + 1, j55, se => (if (fX6_has go (nI j55)) = 0 then (fX6_pulls_L55 go sy wh q46a q46b r55 (j55 + 1) se) else (match fX6_pulls_L84 sy q46a (j55 + 1) (-6 : Int32) (nI j55) with | (tp, aa) => (if 0 ≤ tp then (fX6_pulls_L55 go sy wh q46a q46b r55 (j55 + 1) (se ||| ((1 : Int32) <<< (tp &&& 31)))) else ((-6 : Int32), q46a, q46b))))
def fX6_pulls (ud : Int32) (bk : Nat → Int32) (nw : Nat → Int32) (go : Int32) (sy : Int32) (wh : Int32) : Int32 × (Nat → Int32) × Int32 :=
  (if (go &&& ((((1 : Int32) <<< ((nI (mN bk)) &&& 31)) - (1 : Int32)) ^^^ (-1 : Int32))) = 0 then (if (sy &&& ((((1 : Int32) <<< ((nI (mN bk)) &&& 31)) - (1 : Int32)) ^^^ (-1 : Int32))) = 0 then (if (fX6_in wh (0 : Int32) (1 : Int32)) = 0 then ((-2 : Int32), nw, ud) else (match fX6_asNow bk nw with | (q46a, q46b) => (fX6_pulls_L55 go sy wh q46a q46b (mN q46a) 0 (0 : Int32)))) else ((-1 : Int32), nw, ud)) else ((-1 : Int32), nw, ud))
set_option maxHeartbeats 4000000 in
set_option maxRecDepth 100000 in
theorem c_X6_pulls (l : Launch) (dC : Nat → ClassId) (dI : Nat → Nat → Nat) (cyI cyZ : ClassId) (hm mb mn mk ms mp mq mi mz ma mc : Nat) (sg : Nat) (sn : Nat) (ud : Int32) (rz : Int32) (az : Int32) (bk : Nat → Int32) (nw : Nat → Int32) (go : Int32) (sy : Int32) (wh : Int32) (hI : kx_I bk) (sz : Nat) (r : Int32 × (Nat → Int32) × Int32) (hF : fX6_pulls ud bk nw go sy wh = r) : Met l yX6_pulls wsX6_pulls ({ frames := 2, cells := 0, slots := 0, locals := 45 }) (kx_wp (dC, dI) [(hm, .inr (6, [.ref mb, .ref mn, .ref mk, .int (nI sg), .ref ms, .int (nI sn), .ref mp, .int ud, .ref mq, .int rz, .int az, .ref mi, .ref mz, .ref ma, .ref mc])), (mb, .inl (cyI, 97, .inl bk)), (mn, .inl (cyI, 97, .inl nw))] [(cyI, .int), (cyZ, .boolean)] sz [.ref hm, .int go, .int sy, .int wh]) (kx_Qi r.1 (dC, dI) [(hm, .inr (6, [.ref mb, .ref mn, .ref mk, .int (nI sg), .ref ms, .int (nI sn), .ref mp, .int ud, .ref mq, .int rz, .int az, .ref mi, .ref mz, .ref ma, .ref mc])), (mb, .inl (cyI, 97, .inl bk)), (mn, .inl (cyI, 97, .inl nw))] [(hm, .inr (6, [.ref mb, .ref mn, .ref mk, .int (nI sg), .ref ms, .int (nI sn), .ref mp, .int r.2.2, .ref mq, .int rz, .int az, .ref mi, .ref mz, .ref ma, .ref mc])), (mb, .inl (cyI, 97, .inl bk)), (mn, .inl (cyI, 97, .inl r.2.1))] sz) 0 0 (va_A [(hm, .inr (6, [.ref mb, .ref mn, .ref mk, .int (nI sg), .ref ms, .int (nI sn), .ref mp, .int ud, .ref mq, .int rz, .int az, .ref mi, .ref mz, .ref ma, .ref mc])), (mb, .inl (cyI, 97, .inl bk)), (mn, .inl (cyI, 97, .inl nw))] sz) := by
  refine Met.ofW (cc := cX6_pulls) (maxL := 9) (ret := (some .int)) (by decide) rfl ?_
  intro p e s m args below meth c s₁ B hml hv
  obtain ⟨rfl, hsz, hP, hK, hN, hD0⟩ := hv
  have hx := B.exec
  have hb := B.bytes
  have hr := B.returns
  have hts := atoms_spec (ws := wsX6_pulls) B.pre
  have hown : s.vm.findClass RX6 = some m.cls := findClass_of_methodNamed B.named
  have hlocks := B.notSynchronized
  subst hsz
  obtain ⟨A, hAe⟩ : ∃ A, A = va_A [(hm, .inr (6, [.ref mb, .ref mn, .ref mk, .int (nI sg), .ref ms, .int (nI sn), .ref mp, .int ud, .ref mq, .int rz, .int az, .ref mi, .ref mz, .ref ma, .ref mc])), (mb, .inl (cyI, 97, .inl bk)), (mn, .inl (cyI, 97, .inl nw))] s.heap.size := ⟨_, rfl⟩
  have hD : va_D A [(hm, .inr (6, [.ref mb, .ref mn, .ref mk, .int (nI sg), .ref ms, .int (nI sn), .ref mp, .int ud, .ref mq, .int rz, .int az, .ref mi, .ref mz, .ref ma, .ref mc])), (mb, .inl (cyI, 97, .inl bk)), (mn, .inl (cyI, 97, .inl nw))] := by rw [hAe]; exact hD0.self
  have hA : ∀ q : Nat, s.heap.size ≤ q → A q := fun q h => by rw [hAe]; exact Or.inr h
  have hS : va_S A s.heap s.heap [] := va_S.rf
  have hiX6 : ∀ w ∈ wsX60, w ∈ wsX6_pulls := by decide +kernel
  have fl7 := hts (.fieldLink RX6 7 "KnitChronicleModel" "book" "[I") (by decide +kernel)
  have fl13 := hts (.fieldLink RX6 13 "KnitChronicleModel" "now" "[I") (by decide +kernel)
  have hl := lv_entry ([.ref hm, .int go, .int sy, .int wh]) (n := 9) (Nat.le_of_ble_eq_true rfl)
  rw [lg_entry_eq]
  generalize (lg_sl ([.ref hm, .int go, .int sy, .int wh]) ++ List.replicate (9 - (lg_sl ([.ref hm, .int go, .int sy, .int wh])).length) Slot.unset).toArray = ls at hl ⊢
  have hl : lv_has ls 9 [(0, .ref hm), (1, .int go), (2, .int sy), (3, .int wh)] := hl
  unfold fX6_pulls at hF
  have hmN := hI.2.1
  refine lv_iconst (v := (1 : Int32)) hx hb dX6_pulls_0 (by decide) ?_
  refine lv_aload_n hx hb dX6_pulls_1 rfl (lv_at hl 0 rfl) ?_
  refine va_get (D := (dC, dI)) (ci := 6) (v := .ref mb) (C := RX6) (T := TX6) (N := 15) hx hb hts hiX6 hown hK hP 0 rfl rfl 0 (by decide) fl7 (fun _ h9 => h9) rfl dX6_pulls_2 ?_
  refine lv_bipush (v := (96 : Int32)) hx hb dX6_pulls_5 (by decide) ?_
  refine kx_ld hx hb hK hP 1 0 rfl rfl (96) rfl (by omega) (by decide) dX6_pulls_7 ?_
  refine kx_e hI.1 ?_
  refine lv_ishl hx hb dX6_pulls_8 ?_
  refine lv_iconst (v := (1 : Int32)) hx hb dX6_pulls_9 (by decide) ?_
  refine lv_isub hx hb dX6_pulls_10 ?_
  refine lv_istore (lv' := [(4, .int (((1 : Int32) <<< ((nI (mN bk)) &&& 31)) - (1 : Int32))), (0, .ref hm), (1, .int go), (2, .int sy), (3, .int wh)]) hx hb dX6_pulls_11 hl (by decide) rfl (fun ls hl => ?_)
  refine lv_iload_n hx hb dX6_pulls_13 rfl (lv_at hl 2 rfl) ?_
  refine lv_iload hx hb dX6_pulls_14 (lv_at hl 0 rfl) ?_
  refine lv_iconst (v := (-1 : Int32)) hx hb dX6_pulls_16 (by decide) ?_
  refine lv_ixor hx hb dX6_pulls_17 ?_
  refine lv_iand hx hb dX6_pulls_18 ?_
  refine lv_if_ne (tgt := 31) hx hb dX6_pulls_19 (by decide) (fun c19 => ?_) (fun c19 => ?_)
  · rw [if_neg c19] at hF
    refine lv_iconst (v := (-1 : Int32)) hx hb dX6_pulls_31 (by decide) ?_
    subst hF
    subst hAe
    exact W.iret hx hb hr (fun t ht _ => ⟨⟨_, (), rfl, rfl, by rw [ht]; exact hP, hD⟩, hS.F ht⟩) hS.2.2 dX6_pulls_32
  · rw [if_pos c19] at hF
    refine lv_iload_n hx hb dX6_pulls_22 rfl (lv_at hl 3 rfl) ?_
    refine lv_iload hx hb dX6_pulls_23 (lv_at hl 0 rfl) ?_
    refine lv_iconst (v := (-1 : Int32)) hx hb dX6_pulls_25 (by decide) ?_
    refine lv_ixor hx hb dX6_pulls_26 ?_
    refine lv_iand hx hb dX6_pulls_27 ?_
    refine lv_if_eq (tgt := 33) hx hb dX6_pulls_28 (by decide) (fun c28 => ?_) (fun c28 => ?_)
    · rw [if_pos c28] at hF
      refine lv_iload_n hx hb dX6_pulls_33 rfl (lv_at hl 4 rfl) ?_
      refine lv_iconst (v := (0 : Int32)) hx hb dX6_pulls_34 (by decide) ?_
      refine lv_iconst (v := (1 : Int32)) hx hb dX6_pulls_35 (by decide) ?_
      refine kx_cS (As := [.int wh, .int (0 : Int32), .int (1 : Int32)]) (rest := []) ⟨hx, hb, hml, hown, hts⟩ (c_X6_in l dC dI cyI cyZ  wh (0 : Int32) (1 : Int32)  _ rfl) (va_cwS 3 hts gX6_pulls_X6_in rfl rfl rfl (by decide +kernel) ⟨Nat.le_of_ble_eq_true rfl, Nat.le_of_ble_eq_true rfl⟩) hP hK hN [] rfl [0, 1] rfl rfl hl.1 rfl (Nat.le_of_ble_eq_true rfl) dX6_pulls_36 ⟨Nat.zero_le _, Nat.zero_le _⟩ ?_
      refine lv_if_ne (tgt := 45) hx hb dX6_pulls_39 (by decide) (fun c39 => ?_) (fun c39 => ?_)
      · rw [if_neg c39] at hF
        refine lv_aload_n hx hb dX6_pulls_45 rfl (lv_at hl 1 rfl) ?_
        generalize hq46 : fX6_asNow bk nw = q46 at hF
        obtain ⟨q46a, q46b⟩ := q46
        dsimp only at hF
        refine kx_wVv (As := []) (rest := []) (wr := []) (wc' := [(hm, .inr (6, [.ref mb, .ref mn, .ref mk, .int (nI sg), .ref ms, .int (nI sn), .ref mp, .int q46b, .ref mq, .int rz, .int az, .ref mi, .ref mz, .ref ma, .ref mc])), (mb, .inl (cyI, 97, .inl bk)), (mn, .inl (cyI, 97, .inl q46a))]) (W1 := [(hm, .inr (6, [.ref mb, .ref mn, .ref mk, .int (nI sg), .ref ms, .int (nI sn), .ref mp, .int q46b, .ref mq, .int rz, .int az, .ref mi, .ref mz, .ref ma, .ref mc])), (mb, .inl (cyI, 97, .inl bk)), (mn, .inl (cyI, 97, .inl q46a))]) ⟨hx, hb, hml, hown, hts⟩ (c_X6_asNow l dC dI cyI cyZ hm mb mn mk ms mp mq mi mz ma mc sg sn ud rz az bk nw  _ _ hq46) (cwV 0 hts gX6_pulls_X6_asNow rfl rfl rfl (by decide +kernel) ⟨Nat.le_of_ble_eq_true rfl, Nat.le_of_ble_eq_true rfl⟩) hP hD hS hA hK hN [0, 1, 2] [] [0, 1, 2] rfl (by decide) rfl (by decide) (by decide) (by decide) rfl [0, 1] rfl 6 0 rfl rfl rfl rfl hl.1 rfl (Nat.le_of_ble_eq_true rfl) dX6_pulls_46 ⟨Nat.zero_le _, Nat.zero_le _⟩ (fun H locs hP hD hS => ?_)
        have hJ1 : kx_I q46a := fX6_asNow_I hI hq46
        have hm1 := hJ1.2.1
        refine lv_iconst (v := (0 : Int32)) hx hb dX6_pulls_49 (by decide) ?_
        refine lv_istore (lv' := [(5, .int (0 : Int32)), (4, .int (((1 : Int32) <<< ((nI (mN bk)) &&& 31)) - (1 : Int32))), (0, .ref hm), (1, .int go), (2, .int sy), (3, .int wh)]) hx hb dX6_pulls_50 hl (by decide) rfl (fun ls hl => ?_)
        refine lv_iconst (v := (0 : Int32)) hx hb dX6_pulls_52 (by decide) ?_
        refine lv_istore (lv' := [(6, .int (0 : Int32)), (5, .int (0 : Int32)), (4, .int (((1 : Int32) <<< ((nI (mN bk)) &&& 31)) - (1 : Int32))), (0, .ref hm), (1, .int go), (2, .int sy), (3, .int wh)]) hx hb dX6_pulls_53 hl (by decide) rfl (fun ls hl => ?_)
        have LP55 : ∀ (r55 : Nat) (j55 : Nat) (se : Int32), r55 + j55 = mN q46a → fX6_pulls_L55 go sy wh q46a q46b r55 j55 se = r → ∀ (H : Heap) (locs : List Loc), va_P (dC, dI) vwCl [(hm, .inr (6, [.ref mb, .ref mn, .ref mk, .int (nI sg), .ref ms, .int (nI sn), .ref mp, .int q46b, .ref mq, .int rz, .int az, .ref mi, .ref mz, .ref ma, .ref mc])), (mb, .inl (cyI, 97, .inl bk)), (mn, .inl (cyI, 97, .inl q46a))] H → va_D A [(hm, .inr (6, [.ref mb, .ref mn, .ref mk, .int (nI sg), .ref ms, .int (nI sn), .ref mp, .int q46b, .ref mq, .int rz, .int az, .ref mi, .ref mz, .ref ma, .ref mc])), (mb, .inl (cyI, 97, .inl bk)), (mn, .inl (cyI, 97, .inl q46a))] → va_S A s.heap H locs → ∀ (ls : Array Slot), lv_has ls 9 [(6, .int (nI j55)), (5, .int se), (4, .int (((1 : Int32) <<< ((nI (mN bk)) &&& 31)) - (1 : Int32))), (0, .ref hm), (1, .int go), (2, .int sy), (3, .int wh)] → W p l e (headSpec wsX6_pulls ({ frames := 2, cells := 0, slots := 0, locals := 45 } : Room)).room s m ([.ref hm, .int go, .int sy, .int wh] : List Value).toArray below meth c H locs 0 0 (MQ below (kx_Qi r.1 (dC, dI) [(hm, .inr (6, [.ref mb, .ref mn, .ref mk, .int (nI sg), .ref ms, .int (nI sn), .ref mp, .int ud, .ref mq, .int rz, .int az, .ref mi, .ref mz, .ref ma, .ref mc])), (mb, .inl (cyI, 97, .inl bk)), (mn, .inl (cyI, 97, .inl nw))] [(hm, .inr (6, [.ref mb, .ref mn, .ref mk, .int (nI sg), .ref ms, .int (nI sn), .ref mp, .int r.2.2, .ref mq, .int rz, .int az, .ref mi, .ref mz, .ref ma, .ref mc])), (mb, .inl (cyI, 97, .inl bk)), (mn, .inl (cyI, 97, .inl r.2.1))] s.heap.size) ([.ref hm, .int go, .int sy, .int wh] : List Value).toArray s 0 0 (va_A [(hm, .inr (6, [.ref mb, .ref mn, .ref mk, .int (nI sg), .ref ms, .int (nI sn), .ref mp, .int ud, .ref mq, .int rz, .int az, .ref mi, .ref mz, .ref ma, .ref mc])), (mb, .inl (cyI, 97, .inl bk)), (mn, .inl (cyI, 97, .inl nw))] s.heap.size)) (F0 m 55 ls []) := by
          intro r55
          induction r55 with
          | zero =>
            intro j55 se hrj hF H locs hP hD hS ls hl
            rw [fX6_pulls_L55] at hF
            refine lv_iload hx hb dX6_pulls_55 (lv_at hl 0 rfl) ?_
            refine lv_aload_n hx hb dX6_pulls_57 rfl (lv_at hl 3 rfl) ?_
            refine va_get (D := (dC, dI)) (ci := 6) (v := .ref mn) (C := RX6) (T := TX6) (N := 15) hx hb hts hiX6 hown hK hP 0 rfl rfl 1 (by decide) fl13 (fun _ h9 => h9) rfl dX6_pulls_58 ?_
            refine lv_bipush (v := (96 : Int32)) hx hb dX6_pulls_61 (by decide) ?_
            refine kx_ld hx hb hK hP 2 0 rfl rfl (96) rfl (by omega) (by decide) dX6_pulls_63 ?_
            refine kx_e hJ1.1 ?_
            refine kx_ge hx hb (j55) (mN q46a) rfl rfl (by omega) (by omega) dX6_pulls_64 (by decide) (tgt := 147) (fun c64 => ?_) (fun c64 => absurd c64 (by omega))
            refine lv_iload_n hx hb dX6_pulls_147 rfl (lv_at hl 6 rfl) ?_
            refine lv_iconst (v := (1 : Int32)) hx hb dX6_pulls_148 (by decide) ?_
            refine lv_icmp_ne (tgt := 157) hx hb dX6_pulls_149 (by decide) (fun c149 => ?_) (fun c149 => ?_)
            · rw [if_neg c149] at hF
              refine lv_iload hx hb dX6_pulls_157 (lv_at hl 1 rfl) ?_
              refine kx_cS (As := [.int se]) (rest := []) ⟨hx, hb, hml, hown, hts⟩ (c_X6_bits l dC dI cyI cyZ  se  _ rfl) (va_cwS 1 hts gX6_pulls_X6_bits rfl rfl rfl (by decide +kernel) ⟨Nat.le_of_ble_eq_true rfl, Nat.le_of_ble_eq_true rfl⟩) hP hK hN [] rfl [0, 1] rfl rfl hl.1 rfl (Nat.le_of_ble_eq_true rfl) dX6_pulls_159 ⟨Nat.zero_le _, Nat.zero_le _⟩ ?_
              subst hF
              subst hAe
              exact W.iret hx hb hr (fun t ht _ => ⟨⟨_, (), rfl, rfl, by rw [ht]; exact hP, hD⟩, hS.F ht⟩) hS.2.2 dX6_pulls_162
            · rw [if_pos c149] at hF
              refine lv_iload hx hb dX6_pulls_152 (lv_at hl 1 rfl) ?_
              refine lv_goto (tgt := 162) hx hb dX6_pulls_154 (by decide) ?_
              subst hF
              subst hAe
              exact W.iret hx hb hr (fun t ht _ => ⟨⟨_, (), rfl, rfl, by rw [ht]; exact hP, hD⟩, hS.F ht⟩) hS.2.2 dX6_pulls_162
          | succ r55 ih =>
            intro j55 se hrj hF H locs hP hD hS ls hl
            rw [fX6_pulls_L55] at hF
            refine lv_iload hx hb dX6_pulls_55 (lv_at hl 0 rfl) ?_
            refine lv_aload_n hx hb dX6_pulls_57 rfl (lv_at hl 3 rfl) ?_
            refine va_get (D := (dC, dI)) (ci := 6) (v := .ref mn) (C := RX6) (T := TX6) (N := 15) hx hb hts hiX6 hown hK hP 0 rfl rfl 1 (by decide) fl13 (fun _ h9 => h9) rfl dX6_pulls_58 ?_
            refine lv_bipush (v := (96 : Int32)) hx hb dX6_pulls_61 (by decide) ?_
            refine kx_ld hx hb hK hP 2 0 rfl rfl (96) rfl (by omega) (by decide) dX6_pulls_63 ?_
            refine kx_e hJ1.1 ?_
            refine kx_ge hx hb (j55) (mN q46a) rfl rfl (by omega) (by omega) dX6_pulls_64 (by decide) (tgt := 147) (fun c64 => absurd c64 (by omega)) (fun c64 => ?_)
            refine lv_iload_n hx hb dX6_pulls_67 rfl (lv_at hl 4 rfl) ?_
            refine lv_iload hx hb dX6_pulls_68 (lv_at hl 0 rfl) ?_
            refine kx_cS (As := [.int go, .int (nI j55)]) (rest := []) ⟨hx, hb, hml, hown, hts⟩ (c_X6_has l dC dI cyI cyZ  go (nI j55)  _ rfl) (va_cwS 2 hts gX6_pulls_X6_has rfl rfl rfl (by decide +kernel) ⟨Nat.le_of_ble_eq_true rfl, Nat.le_of_ble_eq_true rfl⟩) hP hK hN [] rfl [0, 1] rfl rfl hl.1 rfl (Nat.le_of_ble_eq_true rfl) dX6_pulls_70 ⟨Nat.zero_le _, Nat.zero_le _⟩ ?_
            refine lv_if_eq (tgt := 141) hx hb dX6_pulls_73 (by decide) (fun c73 => ?_) (fun c73 => ?_)
            · rw [if_pos c73] at hF
              refine lv_iinc (v := (nI (j55 + 1))) (lv' := [(6, .int (nI (j55 + 1))), (5, .int se), (4, .int (((1 : Int32) <<< ((nI (mN bk)) &&& 31)) - (1 : Int32))), (0, .ref hm), (1, .int go), (2, .int sy), (3, .int wh)]) hx hb dX6_pulls_141 hl (k := 0) rfl (by exact nI_add (j55) 1) (by decide) rfl (fun ls hl => ?_)
              refine lv_goto (tgt := 55) hx hb dX6_pulls_144 (by decide) ?_
              exact ih (j55 + 1) se (by omega)  hF _ _ hP hD hS _ (lv_sub hl [0, 1, 2, 3, 4, 5, 6] rfl)
            · rw [if_neg c73] at hF
              refine lv_bipush (v := (-6 : Int32)) hx hb dX6_pulls_76 (by decide) ?_
              refine lv_istore (lv' := [(7, .int (-6 : Int32)), (6, .int (nI j55)), (5, .int se), (4, .int (((1 : Int32) <<< ((nI (mN bk)) &&& 31)) - (1 : Int32))), (0, .ref hm), (1, .int go), (2, .int sy), (3, .int wh)]) hx hb dX6_pulls_78 hl (by decide) rfl (fun ls hl => ?_)
              refine lv_iload hx hb dX6_pulls_80 (lv_at hl 1 rfl) ?_
              refine lv_istore (lv' := [(8, .int (nI j55)), (7, .int (-6 : Int32)), (6, .int (nI j55)), (5, .int se), (4, .int (((1 : Int32) <<< ((nI (mN bk)) &&& 31)) - (1 : Int32))), (0, .ref hm), (1, .int go), (2, .int sy), (3, .int wh)]) hx hb dX6_pulls_82 hl (by decide) rfl (fun ls hl => ?_)
              generalize hz84 : fX6_pulls_L84 sy q46a (j55 + 1) (-6 : Int32) (nI j55) = z84 at hF
              have LP84 : ∀ (j84 : Nat) (tp : Int32) (aa : Int32), 0 ≤ j84 → (aa < 0 ∨ (aa = nI aa.toNatClampNeg ∧ aa.toNatClampNeg < j84)) → (j84 ≤ mN q46a) → fX6_pulls_L84 sy q46a j84 tp aa = z84 → ∀ (H : Heap) (locs : List Loc), va_P (dC, dI) vwCl [(hm, .inr (6, [.ref mb, .ref mn, .ref mk, .int (nI sg), .ref ms, .int (nI sn), .ref mp, .int q46b, .ref mq, .int rz, .int az, .ref mi, .ref mz, .ref ma, .ref mc])), (mb, .inl (cyI, 97, .inl bk)), (mn, .inl (cyI, 97, .inl q46a))] H → va_D A [(hm, .inr (6, [.ref mb, .ref mn, .ref mk, .int (nI sg), .ref ms, .int (nI sn), .ref mp, .int q46b, .ref mq, .int rz, .int az, .ref mi, .ref mz, .ref ma, .ref mc])), (mb, .inl (cyI, 97, .inl bk)), (mn, .inl (cyI, 97, .inl q46a))] → va_S A s.heap H locs → ∀ (ls : Array Slot), lv_has ls 9 [(8, .int aa), (7, .int tp), (6, .int (nI j55)), (5, .int se), (4, .int (((1 : Int32) <<< ((nI (mN bk)) &&& 31)) - (1 : Int32))), (0, .ref hm), (1, .int go), (2, .int sy), (3, .int wh)] → W p l e (headSpec wsX6_pulls ({ frames := 2, cells := 0, slots := 0, locals := 45 } : Room)).room s m ([.ref hm, .int go, .int sy, .int wh] : List Value).toArray below meth c H locs 0 0 (MQ below (kx_Qi r.1 (dC, dI) [(hm, .inr (6, [.ref mb, .ref mn, .ref mk, .int (nI sg), .ref ms, .int (nI sn), .ref mp, .int ud, .ref mq, .int rz, .int az, .ref mi, .ref mz, .ref ma, .ref mc])), (mb, .inl (cyI, 97, .inl bk)), (mn, .inl (cyI, 97, .inl nw))] [(hm, .inr (6, [.ref mb, .ref mn, .ref mk, .int (nI sg), .ref ms, .int (nI sn), .ref mp, .int r.2.2, .ref mq, .int rz, .int az, .ref mi, .ref mz, .ref ma, .ref mc])), (mb, .inl (cyI, 97, .inl bk)), (mn, .inl (cyI, 97, .inl r.2.1))] s.heap.size) ([.ref hm, .int go, .int sy, .int wh] : List Value).toArray s 0 0 (va_A [(hm, .inr (6, [.ref mb, .ref mn, .ref mk, .int (nI sg), .ref ms, .int (nI sn), .ref mp, .int ud, .ref mq, .int rz, .int az, .ref mi, .ref mz, .ref ma, .ref mc])), (mb, .inl (cyI, 97, .inl bk)), (mn, .inl (cyI, 97, .inl nw))] s.heap.size)) (F0 m 84 ls []) := by
                intro j84
                induction j84 with
                | zero =>
                  intro tp aa hrj hat hjm hz84 H locs hP hD hS ls hl
                  rw [fX6_pulls_L84] at hz84
                  subst hz84
                  dsimp only at hF
                  refine lv_iload hx hb dX6_pulls_84 (lv_at hl 0 rfl) ?_
                  refine lv_if_lt (tgt := 124) hx hb dX6_pulls_86 (by decide) (fun c86 => ?_) (fun c86 => absurd c86 (fun z9 => z9 (hat.elim id (fun w9 => absurd w9.2 (by omega)))))
                  refine lv_iload hx hb dX6_pulls_124 (lv_at hl 1 rfl) ?_
                  refine lv_if_ge (tgt := 132) hx hb dX6_pulls_126 (by decide) (fun c126 => ?_) (fun c126 => ?_)
                  · rw [if_pos c126] at hF
                    refine lv_iload hx hb dX6_pulls_132 (lv_at hl 3 rfl) ?_
                    refine lv_iconst (v := (1 : Int32)) hx hb dX6_pulls_134 (by decide) ?_
                    refine lv_iload hx hb dX6_pulls_135 (lv_at hl 1 rfl) ?_
                    refine lv_ishl hx hb dX6_pulls_137 ?_
                    refine lv_ior hx hb dX6_pulls_138 ?_
                    refine lv_istore (lv' := [(5, .int (se ||| ((1 : Int32) <<< (tp &&& 31)))), (8, .int aa), (7, .int tp), (6, .int (nI j55)), (4, .int (((1 : Int32) <<< ((nI (mN bk)) &&& 31)) - (1 : Int32))), (0, .ref hm), (1, .int go), (2, .int sy), (3, .int wh)]) hx hb dX6_pulls_139 hl (by decide) rfl (fun ls hl => ?_)
                    refine lv_iinc (v := (nI (j55 + 1))) (lv' := [(6, .int (nI (j55 + 1))), (5, .int (se ||| ((1 : Int32) <<< (tp &&& 31)))), (8, .int aa), (7, .int tp), (4, .int (((1 : Int32) <<< ((nI (mN bk)) &&& 31)) - (1 : Int32))), (0, .ref hm), (1, .int go), (2, .int sy), (3, .int wh)]) hx hb dX6_pulls_141 hl (k := 3) rfl (by exact nI_add (j55) 1) (by decide) rfl (fun ls hl => ?_)
                    refine lv_goto (tgt := 55) hx hb dX6_pulls_144 (by decide) ?_
                    exact ih (j55 + 1) (se ||| ((1 : Int32) <<< (tp &&& 31))) (by omega)  hF _ _ hP hD hS _ (lv_sub hl [0, 1, 4, 5, 6, 7, 8] rfl)
                  · rw [if_neg c126] at hF
                    refine lv_bipush (v := (-6 : Int32)) hx hb dX6_pulls_129 (by decide) ?_
                    subst hF
                    subst hAe
                    exact W.iret hx hb hr (fun t ht _ => ⟨⟨_, (), rfl, rfl, by rw [ht]; exact hP, hD⟩, hS.F ht⟩) hS.2.2 dX6_pulls_131
                | succ j84 ih84 =>
                  intro tp aa hrj hat hjm hz84 H locs hP hD hS ls hl
                  rw [fX6_pulls_L84] at hz84
                  refine lv_iload hx hb dX6_pulls_84 (lv_at hl 0 rfl) ?_
                  refine lv_if_lt (tgt := 124) hx hb dX6_pulls_86 (by decide) (fun c86 => ?_) (fun c86 => ?_)
                  · rw [if_pos c86] at hz84
                    subst hz84
                    try dsimp only at hF
                    refine lv_iload hx hb dX6_pulls_124 (lv_at hl 1 rfl) ?_
                    refine lv_if_ge (tgt := 132) hx hb dX6_pulls_126 (by decide) (fun c126 => ?_) (fun c126 => ?_)
                    · rw [if_pos c126] at hF
                      refine lv_iload hx hb dX6_pulls_132 (lv_at hl 3 rfl) ?_
                      refine lv_iconst (v := (1 : Int32)) hx hb dX6_pulls_134 (by decide) ?_
                      refine lv_iload hx hb dX6_pulls_135 (lv_at hl 1 rfl) ?_
                      refine lv_ishl hx hb dX6_pulls_137 ?_
                      refine lv_ior hx hb dX6_pulls_138 ?_
                      refine lv_istore (lv' := [(5, .int (se ||| ((1 : Int32) <<< (tp &&& 31)))), (8, .int aa), (7, .int tp), (6, .int (nI j55)), (4, .int (((1 : Int32) <<< ((nI (mN bk)) &&& 31)) - (1 : Int32))), (0, .ref hm), (1, .int go), (2, .int sy), (3, .int wh)]) hx hb dX6_pulls_139 hl (by decide) rfl (fun ls hl => ?_)
                      refine lv_iinc (v := (nI (j55 + 1))) (lv' := [(6, .int (nI (j55 + 1))), (5, .int (se ||| ((1 : Int32) <<< (tp &&& 31)))), (8, .int aa), (7, .int tp), (4, .int (((1 : Int32) <<< ((nI (mN bk)) &&& 31)) - (1 : Int32))), (0, .ref hm), (1, .int go), (2, .int sy), (3, .int wh)]) hx hb dX6_pulls_141 hl (k := 3) rfl (by exact nI_add (j55) 1) (by decide) rfl (fun ls hl => ?_)
                      refine lv_goto (tgt := 55) hx hb dX6_pulls_144 (by decide) ?_
                      exact ih (j55 + 1) (se ||| ((1 : Int32) <<< (tp &&& 31))) (by omega)  hF _ _ hP hD hS _ (lv_sub hl [0, 1, 4, 5, 6, 7, 8] rfl)
                    · rw [if_neg c126] at hF
                      refine lv_bipush (v := (-6 : Int32)) hx hb dX6_pulls_129 (by decide) ?_
                      subst hF
                      subst hAe
                      exact W.iret hx hb hr (fun t ht _ => ⟨⟨_, (), rfl, rfl, by rw [ht]; exact hP, hD⟩, hS.F ht⟩) hS.2.2 dX6_pulls_131
                  · rw [if_neg c86] at hz84
                    have hat2 : aa = nI aa.toNatClampNeg ∧ aa.toNatClampNeg < j84 + 1 := hat.resolve_left c86
                    refine lv_aload_n hx hb dX6_pulls_89 rfl (lv_at hl 5 rfl) ?_
                    refine lv_iload hx hb dX6_pulls_90 (lv_at hl 0 rfl) ?_
                    refine kx_e hat2.1 ?_
                    refine kx_cV (As := [.int (nI (aa.toNatClampNeg))]) (rest := []) ⟨hx, hb, hml, hown, hts⟩ (c_X6_threadOf l dC dI cyI cyZ hm mb mn mk ms mp mq mi mz ma mc sg sn q46b rz az q46a aa.toNatClampNeg hJ1 (by omega) _ rfl) (cwV 1 hts gX6_pulls_X6_threadOf rfl rfl rfl (by decide +kernel) ⟨Nat.le_of_ble_eq_true rfl, Nat.le_of_ble_eq_true rfl⟩) hP hK hN [0, 2] rfl [0, 1] rfl 6 0 rfl rfl rfl rfl hl.1 rfl (Nat.le_of_ble_eq_true rfl) dX6_pulls_92 ⟨Nat.zero_le _, Nat.zero_le _⟩ ?_
                    refine lv_iload_n hx hb dX6_pulls_95 rfl (lv_at hl 7 rfl) ?_
                    refine lv_iand hx hb dX6_pulls_96 ?_
                    refine lv_if_ne (tgt := 105) hx hb dX6_pulls_97 (by decide) (fun c97 => ?_) (fun c97 => ?_)
                    · rw [if_neg c97] at hz84
                      refine lv_iload hx hb dX6_pulls_105 (lv_at hl 1 rfl) ?_
                      refine lv_istore (lv' := [(7, .int tp), (8, .int aa), (6, .int (nI j55)), (5, .int se), (4, .int (((1 : Int32) <<< ((nI (mN bk)) &&& 31)) - (1 : Int32))), (0, .ref hm), (1, .int go), (2, .int sy), (3, .int wh)]) hx hb dX6_pulls_107 hl (by decide) rfl (fun ls hl => ?_)
                      refine lv_aload_n hx hb dX6_pulls_109 rfl (lv_at hl 5 rfl) ?_
                      refine va_get (D := (dC, dI)) (ci := 6) (v := .ref mn) (C := RX6) (T := TX6) (N := 15) hx hb hts hiX6 hown hK hP 0 rfl rfl 1 (by decide) fl13 (fun _ h9 => h9) rfl dX6_pulls_110 ?_
                      refine lv_bipush (v := (48 : Int32)) hx hb dX6_pulls_113 (by decide) ?_
                      refine lv_iload hx hb dX6_pulls_115 (lv_at hl 1 rfl) ?_
                      refine kx_e hat2.1 ?_
                      refine lv_iadd hx hb dX6_pulls_117 ?_
                      refine kx_e (nI_add (48) (aa.toNatClampNeg)) ?_
                      refine kx_ld hx hb hK hP 2 0 rfl rfl (48 + aa.toNatClampNeg) rfl (by omega) (by decide) dX6_pulls_118 ?_
                      refine lv_istore (lv' := [(8, .int (q46a (48 + aa.toNatClampNeg))), (7, .int tp), (6, .int (nI j55)), (5, .int se), (4, .int (((1 : Int32) <<< ((nI (mN bk)) &&& 31)) - (1 : Int32))), (0, .ref hm), (1, .int go), (2, .int sy), (3, .int wh)]) hx hb dX6_pulls_119 hl (by decide) rfl (fun ls hl => ?_)
                      refine lv_goto (tgt := 84) hx hb dX6_pulls_121 (by decide) ?_
                      exact ih84 tp (q46a (48 + aa.toNatClampNeg)) (by omega) (kx_onC (hJ1.2.2 _ (by omega)) (by omega) (by omega)) (by omega) hz84 _ _ hP hD hS _ (lv_sub hl [0, 1, 2, 3, 4, 5, 6, 7, 8] rfl)
                    · rw [if_pos c97] at hz84
                      refine lv_iload hx hb dX6_pulls_100 (lv_at hl 0 rfl) ?_
                      refine lv_goto (tgt := 107) hx hb dX6_pulls_102 (by decide) ?_
                      refine lv_istore (lv' := [(7, .int aa), (8, .int aa), (6, .int (nI j55)), (5, .int se), (4, .int (((1 : Int32) <<< ((nI (mN bk)) &&& 31)) - (1 : Int32))), (0, .ref hm), (1, .int go), (2, .int sy), (3, .int wh)]) hx hb dX6_pulls_107 hl (by decide) rfl (fun ls hl => ?_)
                      refine lv_aload_n hx hb dX6_pulls_109 rfl (lv_at hl 5 rfl) ?_
                      refine va_get (D := (dC, dI)) (ci := 6) (v := .ref mn) (C := RX6) (T := TX6) (N := 15) hx hb hts hiX6 hown hK hP 0 rfl rfl 1 (by decide) fl13 (fun _ h9 => h9) rfl dX6_pulls_110 ?_
                      refine lv_bipush (v := (48 : Int32)) hx hb dX6_pulls_113 (by decide) ?_
                      refine lv_iload hx hb dX6_pulls_115 (lv_at hl 1 rfl) ?_
                      refine kx_e hat2.1 ?_
                      refine lv_iadd hx hb dX6_pulls_117 ?_
                      refine kx_e (nI_add (48) (aa.toNatClampNeg)) ?_
                      refine kx_ld hx hb hK hP 2 0 rfl rfl (48 + aa.toNatClampNeg) rfl (by omega) (by decide) dX6_pulls_118 ?_
                      refine lv_istore (lv' := [(8, .int (q46a (48 + aa.toNatClampNeg))), (7, .int aa), (6, .int (nI j55)), (5, .int se), (4, .int (((1 : Int32) <<< ((nI (mN bk)) &&& 31)) - (1 : Int32))), (0, .ref hm), (1, .int go), (2, .int sy), (3, .int wh)]) hx hb dX6_pulls_119 hl (by decide) rfl (fun ls hl => ?_)
                      refine lv_goto (tgt := 84) hx hb dX6_pulls_121 (by decide) ?_
                      exact ih84 aa (q46a (48 + aa.toNatClampNeg)) (by omega) (kx_onC (hJ1.2.2 _ (by omega)) (by omega) (by omega)) (by omega) hz84 _ _ hP hD hS _ (lv_sub hl [0, 1, 2, 3, 4, 5, 6, 7, 8] rfl)
              exact LP84 (j55 + 1) (-6 : Int32) (nI j55) (by omega) (Or.inr (by rw [nI_clamp (by omega)]; exact ⟨rfl, by omega⟩)) (by omega) hz84 _ _ hP hD hS _ (lv_sub hl [0, 1, 2, 3, 4, 5, 6, 7, 8] rfl)
        exact LP55 (mN q46a) 0 (0 : Int32) (by omega)  hF _ _ hP hD hS _ (lv_sub hl [0, 1, 2, 3, 4, 5, 6] rfl)
      · rw [if_pos c39] at hF
        refine lv_bipush (v := (-2 : Int32)) hx hb dX6_pulls_42 (by decide) ?_
        subst hF
        subst hAe
        exact W.iret hx hb hr (fun t ht _ => ⟨⟨_, (), rfl, rfl, by rw [ht]; exact hP, hD⟩, hS.F ht⟩) hS.2.2 dX6_pulls_44
    · rw [if_neg c28] at hF
      refine lv_iconst (v := (-1 : Int32)) hx hb dX6_pulls_31 (by decide) ?_
      subst hF
      subst hAe
      exact W.iret hx hb hr (fun t ht _ => ⟨⟨_, (), rfl, rfl, by rw [ht]; exact hP, hD⟩, hS.F ht⟩) hS.2.2 dX6_pulls_32

def fX6_patternOf_L43 (bk : Nat → Int32) (pp : Nat) (j27 : Nat) : Nat → Nat → Int32 → Int32
  | 0, _, f3 => f3
  | r43 + 1, j43, f3 => (if mN bk ≤ j43 then f3 else (if f3 = 0 then (fX6_patternOf_L43 bk pp j27 r43 (j43 + (pp + 1)) (0 : Int32)) else (if (bk (72 + j27)) = (1 : Int32) then (fX6_patternOf_L43 bk pp j27 r43 (j43 + (pp + 1)) (1 : Int32)) else (if (bk (72 + j43)) = (1 : Int32) then (fX6_patternOf_L43 bk pp j27 r43 (j43 + (pp + 1)) (1 : Int32)) else (if (bk j27) = (bk j43) then (fX6_patternOf_L43 bk pp j27 r43 (j43 + (pp + 1)) (1 : Int32)) else (fX6_patternOf_L43 bk pp j27 r43 (j43 + (pp + 1)) (0 : Int32)))))))
def fX6_patternOf_L27 (bk : Nat → Int32) (pp : Nat) : Nat → Nat → Int32 → Int32
  | 0, _, f2 => f2
  | r27 + 1, j27, f2 => ((fun (f3 : Int32) => (fX6_patternOf_L27 bk pp r27 (j27 + 1) f3)) (fX6_patternOf_L43 bk pp j27 (mN bk) (j27 + (pp + 1)) f2))
def fX6_patternOf_L16 (bk : Nat → Int32) : Nat → Nat → Int32 → Nat
  | 0, pp, ft => pp
  | j16 + 1, pp, ft => (if ft = 0 then ((fun (f2 : Int32) => (fX6_patternOf_L16 bk j16 (pp + 1) f2)) (fX6_patternOf_L27 bk pp (mN bk) 0 (1 : Int32))) else pp)
def fX6_patternOf (bk : Nat → Int32) : Nat :=
  (if mN bk = 0 then 0 else (fX6_patternOf_L16 bk (mN bk) 0 (0 : Int32)))
theorem fX6_pat_L43 {bk : Nat → Int32} {pp j27 r j : Nat} {f3 : Int32} (h : mN bk ≤ j) : fX6_patternOf_L43 bk pp j27 r j f3 = f3 := by
  cases r with
  | zero => rfl
  | succ r => rw [fX6_patternOf_L43, if_pos h]
theorem fX6_pat_L27 {bk : Nat → Int32} {pp : Nat} (h : mN bk ≤ pp + 1) : ∀ (r j : Nat) (f2 : Int32), fX6_patternOf_L27 bk pp r j f2 = f2 := by
  intro r
  induction r with
  | zero => intro j f2; rfl
  | succ r ih =>
    intro j f2
    rw [fX6_patternOf_L27, fX6_pat_L43 (by omega)]
    exact ih _ _
theorem fX6_pat_n {bk : Nat → Int32} {pp : Nat} {f2 : Int32} (h1 : pp + 1 = mN bk) (h : fX6_patternOf_L27 bk pp (mN bk) 0 (1 : Int32) = f2) : ¬ f2 = 0 := by
  rw [fX6_pat_L27 (by omega)] at h
  rw [← h]
  decide
set_option maxHeartbeats 4000000 in
set_option maxRecDepth 100000 in
theorem c_X6_patternOf (l : Launch) (dC : Nat → ClassId) (dI : Nat → Nat → Nat) (cyI cyZ : ClassId) (hm mb mn mk ms mp mq mi mz ma mc : Nat) (sg : Nat) (sn : Nat) (ud : Int32) (rz : Int32) (az : Int32) (bk : Nat → Int32) (hI : kx_I bk) (r : Nat) (hF : fX6_patternOf bk = r) : Met l yX6_patternOf wsX6_patternOf ({ frames := 0, cells := 0, slots := 0, locals := 0 }) (kx_rp (dC, dI) [(hm, .inr (6, [.ref mb, .ref mn, .ref mk, .int (nI sg), .ref ms, .int (nI sn), .ref mp, .int ud, .ref mq, .int rz, .int az, .ref mi, .ref mz, .ref ma, .ref mc])), (mb, .inl (cyI, 97, .inl bk))] [(cyI, .int), (cyZ, .boolean)] [.ref hm]) (k2_QcV (.int (nI r))) 0 0 (fun _ => False) := by
  refine Met.ofW (cc := cX6_patternOf) (maxL := 5) (ret := (some .int)) (by decide) rfl ?_
  intro p e s m args below meth c s₁ B hml hv
  obtain ⟨rfl, hP, hK, hN⟩ := hv
  have hx := B.exec
  have hb := B.bytes
  have hr := B.returns
  have hts := atoms_spec (ws := wsX6_patternOf) B.pre
  have hown : s.vm.findClass RX6 = some m.cls := findClass_of_methodNamed B.named
  have hlocks := B.notSynchronized
  have hiX6 : ∀ w ∈ wsX60, w ∈ wsX6_patternOf := by decide +kernel
  have fl7 := hts (.fieldLink RX6 7 "KnitChronicleModel" "book" "[I") (by decide +kernel)
  have hl := lv_entry ([.ref hm]) (n := 5) (Nat.le_of_ble_eq_true rfl)
  rw [lg_entry_eq]
  generalize (lg_sl ([.ref hm]) ++ List.replicate (5 - (lg_sl ([.ref hm])).length) Slot.unset).toArray = ls at hl ⊢
  have hl : lv_has ls 5 [(0, .ref hm)] := hl
  unfold fX6_patternOf at hF
  have hmN := hI.2.1
  refine lv_aload_n hx hb dX6_patternOf_0 rfl (lv_at hl 0 rfl) ?_
  refine va_get (D := (dC, dI)) (ci := 6) (v := .ref mb) (C := RX6) (T := TX6) (N := 15) hx hb hts hiX6 hown hK hP 0 rfl rfl 0 (by decide) fl7 (fun _ h9 => h9) rfl dX6_patternOf_1 ?_
  refine lv_bipush (v := (96 : Int32)) hx hb dX6_patternOf_4 (by decide) ?_
  refine kx_ld hx hb hK hP 1 0 rfl rfl (96) rfl (by omega) (by decide) dX6_patternOf_6 ?_
  refine kx_e hI.1 ?_
  refine kx_ne0 hx hb (mN bk) rfl (by omega) dX6_patternOf_7 (by decide) (tgt := 12) (fun c7 => ?_) (fun c7 => ?_)
  · rw [if_neg c7] at hF
    refine lv_iconst (v := (0 : Int32)) hx hb dX6_patternOf_12 (by decide) ?_
    refine lv_istore_n (lv' := [(1, .int (0 : Int32)), (0, .ref hm)]) hx hb dX6_patternOf_13 rfl hl (by decide) rfl (fun ls hl => ?_)
    refine lv_iconst (v := (0 : Int32)) hx hb dX6_patternOf_14 (by decide) ?_
    refine lv_istore_n (lv' := [(2, .int (0 : Int32)), (1, .int (0 : Int32)), (0, .ref hm)]) hx hb dX6_patternOf_15 rfl hl (by decide) rfl (fun ls hl => ?_)
    have LP16 : ∀ (j16 : Nat) (pp : Nat) (ft : Int32), 0 ≤ j16 → (¬ ft = 0 ∨ (pp + j16 = mN bk ∧ 0 < j16)) → (pp ≤ 24) → fX6_patternOf_L16 bk j16 pp ft = r → ∀ (ls : Array Slot), lv_has ls 5 [(2, .int ft), (1, .int (nI pp)), (0, .ref hm)] → W p l e (headSpec wsX6_patternOf ({ frames := 0, cells := 0, slots := 0, locals := 0 } : Room)).room s m ([.ref hm] : List Value).toArray below meth c s.heap [] 0 0 (MQ below (k2_QcV (.int (nI r))) ([.ref hm] : List Value).toArray s 0 0 (fun _ => False)) (F0 m 16 ls []) := by
      intro j16
      induction j16 with
      | zero =>
        intro pp ft hrj hft hpp hF ls hl
        rw [fX6_patternOf_L16] at hF
        refine lv_iload_n hx hb dX6_patternOf_16 rfl (lv_at hl 0 rfl) ?_
        refine lv_if_ne (tgt := 126) hx hb dX6_patternOf_17 (by decide) (fun c17 => ?_) (fun c17 => absurd c17 (hft.elim id (fun w9 => absurd w9.2 (by omega))))
        refine lv_iload_n hx hb dX6_patternOf_126 rfl (lv_at hl 1 rfl) ?_
        exact W.iret hx hb hr (fun t ht _ => ⟨congrArg (fun z => Outcome.returned (some (Value.int (nI z)))) hF, ht⟩) (fun _ h => absurd h List.not_mem_nil) dX6_patternOf_127
      | succ j16 ih =>
        intro pp ft hrj hft hpp hF ls hl
        rw [fX6_patternOf_L16] at hF
        refine lv_iload_n hx hb dX6_patternOf_16 rfl (lv_at hl 0 rfl) ?_
        refine lv_if_ne (tgt := 126) hx hb dX6_patternOf_17 (by decide) (fun c17 => ?_) (fun c17 => ?_)
        · rw [if_neg c17] at hF
          refine lv_iload_n hx hb dX6_patternOf_126 rfl (lv_at hl 1 rfl) ?_
          exact W.iret hx hb hr (fun t ht _ => ⟨congrArg (fun z => Outcome.returned (some (Value.int (nI z)))) hF, ht⟩) (fun _ h => absurd h List.not_mem_nil) dX6_patternOf_127
        · rw [if_pos c17] at hF
          have hft2 : pp + (j16 + 1) = mN bk ∧ 0 < j16 + 1 := hft.resolve_left (fun z9 => z9 c17)
          refine lv_iinc (v := (nI (pp + 1))) (lv' := [(1, .int (nI (pp + 1))), (2, .int ft), (0, .ref hm)]) hx hb dX6_patternOf_20 hl (k := 1) rfl (by exact nI_add (pp) 1) (by decide) rfl (fun ls hl => ?_)
          refine lv_iconst (v := (1 : Int32)) hx hb dX6_patternOf_23 (by decide) ?_
          refine lv_istore_n (lv' := [(2, .int (1 : Int32)), (1, .int (nI (pp + 1))), (0, .ref hm)]) hx hb dX6_patternOf_24 rfl hl (by decide) rfl (fun ls hl => ?_)
          refine lv_iconst (v := (0 : Int32)) hx hb dX6_patternOf_25 (by decide) ?_
          refine lv_istore_n (lv' := [(3, .int (0 : Int32)), (2, .int (1 : Int32)), (1, .int (nI (pp + 1))), (0, .ref hm)]) hx hb dX6_patternOf_26 rfl hl (by decide) rfl (fun ls hl => ?_)
          generalize hz27 : fX6_patternOf_L27 bk pp (mN bk) 0 (1 : Int32) = z27 at hF
          have LP27 : ∀ (r27 : Nat) (j27 : Nat) (f2 : Int32), r27 + j27 = mN bk → fX6_patternOf_L27 bk pp r27 j27 f2 = z27 → ∀ (ls : Array Slot), lv_has ls 5 [(3, .int (nI j27)), (2, .int f2), (1, .int (nI (pp + 1))), (0, .ref hm)] → W p l e (headSpec wsX6_patternOf ({ frames := 0, cells := 0, slots := 0, locals := 0 } : Room)).room s m ([.ref hm] : List Value).toArray below meth c s.heap [] 0 0 (MQ below (k2_QcV (.int (nI r))) ([.ref hm] : List Value).toArray s 0 0 (fun _ => False)) (F0 m 27 ls []) := by
            intro r27
            induction r27 with
            | zero =>
              intro j27 f2 hrj hz27 ls hl
              rw [fX6_patternOf_L27] at hz27
              subst hz27
              try dsimp only at hF
              refine lv_iload_n hx hb dX6_patternOf_27 rfl (lv_at hl 0 rfl) ?_
              refine lv_aload_n hx hb dX6_patternOf_28 rfl (lv_at hl 3 rfl) ?_
              refine va_get (D := (dC, dI)) (ci := 6) (v := .ref mb) (C := RX6) (T := TX6) (N := 15) hx hb hts hiX6 hown hK hP 0 rfl rfl 0 (by decide) fl7 (fun _ h9 => h9) rfl dX6_patternOf_29 ?_
              refine lv_bipush (v := (96 : Int32)) hx hb dX6_patternOf_32 (by decide) ?_
              refine kx_ld hx hb hK hP 1 0 rfl rfl (96) rfl (by omega) (by decide) dX6_patternOf_34 ?_
              refine kx_e hI.1 ?_
              refine kx_ge hx hb (j27) (mN bk) rfl rfl (by omega) (by omega) dX6_patternOf_35 (by decide) (tgt := 123) (fun c35 => ?_) (fun c35 => absurd c35 (by omega))
              refine lv_goto (tgt := 16) hx hb dX6_patternOf_123 (by decide) ?_
              exact ih (pp + 1) f2 (by omega) (by rcases Nat.eq_zero_or_pos j16 with w9 | w9; exact Or.inl (fX6_pat_n (by omega) hz27); exact Or.inr ⟨by omega, w9⟩) (by omega) hF _ (lv_sub hl [1, 2, 3] rfl)
            | succ r27 ih =>
              intro j27 f2 hrj hz27 ls hl
              rw [fX6_patternOf_L27] at hz27
              refine lv_iload_n hx hb dX6_patternOf_27 rfl (lv_at hl 0 rfl) ?_
              refine lv_aload_n hx hb dX6_patternOf_28 rfl (lv_at hl 3 rfl) ?_
              refine va_get (D := (dC, dI)) (ci := 6) (v := .ref mb) (C := RX6) (T := TX6) (N := 15) hx hb hts hiX6 hown hK hP 0 rfl rfl 0 (by decide) fl7 (fun _ h9 => h9) rfl dX6_patternOf_29 ?_
              refine lv_bipush (v := (96 : Int32)) hx hb dX6_patternOf_32 (by decide) ?_
              refine kx_ld hx hb hK hP 1 0 rfl rfl (96) rfl (by omega) (by decide) dX6_patternOf_34 ?_
              refine kx_e hI.1 ?_
              refine kx_ge hx hb (j27) (mN bk) rfl rfl (by omega) (by omega) dX6_patternOf_35 (by decide) (tgt := 123) (fun c35 => absurd c35 (by omega)) (fun c35 => ?_)
              refine lv_iload_n hx hb dX6_patternOf_38 rfl (lv_at hl 0 rfl) ?_
              refine lv_iload_n hx hb dX6_patternOf_39 rfl (lv_at hl 2 rfl) ?_
              refine lv_iadd hx hb dX6_patternOf_40 ?_
              refine kx_e (nI_add (j27) (pp + 1)) ?_
              refine lv_istore (lv' := [(4, .int (nI (j27 + (pp + 1)))), (3, .int (nI j27)), (2, .int f2), (1, .int (nI (pp + 1))), (0, .ref hm)]) hx hb dX6_patternOf_41 hl (by decide) rfl (fun ls hl => ?_)
              generalize hz43 : fX6_patternOf_L43 bk pp j27 (mN bk) (j27 + (pp + 1)) f2 = z43 at hz27
              have LP43 : ∀ (r43 : Nat) (j43 : Nat) (f3 : Int32), mN bk ≤ r43 + j43 → (j43 ≤ 60) → fX6_patternOf_L43 bk pp j27 r43 j43 f3 = z43 → ∀ (ls : Array Slot), lv_has ls 5 [(4, .int (nI j43)), (3, .int (nI j27)), (2, .int f3), (1, .int (nI (pp + 1))), (0, .ref hm)] → W p l e (headSpec wsX6_patternOf ({ frames := 0, cells := 0, slots := 0, locals := 0 } : Room)).room s m ([.ref hm] : List Value).toArray below meth c s.heap [] 0 0 (MQ below (k2_QcV (.int (nI r))) ([.ref hm] : List Value).toArray s 0 0 (fun _ => False)) (F0 m 43 ls []) := by
                intro r43
                induction r43 with
                | zero =>
                  intro j43 f3 hrj hj43 hz43 ls hl
                  rw [fX6_patternOf_L43] at hz43
                  subst hz43
                  try dsimp only at hz27
                  refine lv_iload hx hb dX6_patternOf_43 (lv_at hl 0 rfl) ?_
                  refine lv_aload_n hx hb dX6_patternOf_45 rfl (lv_at hl 4 rfl) ?_
                  refine va_get (D := (dC, dI)) (ci := 6) (v := .ref mb) (C := RX6) (T := TX6) (N := 15) hx hb hts hiX6 hown hK hP 0 rfl rfl 0 (by decide) fl7 (fun _ h9 => h9) rfl dX6_patternOf_46 ?_
                  refine lv_bipush (v := (96 : Int32)) hx hb dX6_patternOf_49 (by decide) ?_
                  refine kx_ld hx hb hK hP 1 0 rfl rfl (96) rfl (by omega) (by decide) dX6_patternOf_51 ?_
                  refine kx_e hI.1 ?_
                  refine kx_ge hx hb (j43) (mN bk) rfl rfl (by omega) (by omega) dX6_patternOf_52 (by decide) (tgt := 117) (fun c52 => ?_) (fun c52 => absurd c52 (by omega))
                  refine lv_iinc (v := (nI (j27 + 1))) (lv' := [(3, .int (nI (j27 + 1))), (4, .int (nI j43)), (2, .int f3), (1, .int (nI (pp + 1))), (0, .ref hm)]) hx hb dX6_patternOf_117 hl (k := 1) rfl (by exact nI_add (j27) 1) (by decide) rfl (fun ls hl => ?_)
                  refine lv_goto (tgt := 27) hx hb dX6_patternOf_120 (by decide) ?_
                  exact ih (j27 + 1) f3 (by omega)  hz27 _ (lv_sub hl [0, 2, 3, 4] rfl)
                | succ r43 ih43 =>
                  intro j43 f3 hrj hj43 hz43 ls hl
                  rw [fX6_patternOf_L43] at hz43
                  refine lv_iload hx hb dX6_patternOf_43 (lv_at hl 0 rfl) ?_
                  refine lv_aload_n hx hb dX6_patternOf_45 rfl (lv_at hl 4 rfl) ?_
                  refine va_get (D := (dC, dI)) (ci := 6) (v := .ref mb) (C := RX6) (T := TX6) (N := 15) hx hb hts hiX6 hown hK hP 0 rfl rfl 0 (by decide) fl7 (fun _ h9 => h9) rfl dX6_patternOf_46 ?_
                  refine lv_bipush (v := (96 : Int32)) hx hb dX6_patternOf_49 (by decide) ?_
                  refine kx_ld hx hb hK hP 1 0 rfl rfl (96) rfl (by omega) (by decide) dX6_patternOf_51 ?_
                  refine kx_e hI.1 ?_
                  refine kx_ge hx hb (j43) (mN bk) rfl rfl (by omega) (by omega) dX6_patternOf_52 (by decide) (tgt := 117) (fun c52 => ?_) (fun c52 => ?_)
                  · rw [if_pos c52] at hz43
                    subst hz43
                    try dsimp only at hz27
                    refine lv_iinc (v := (nI (j27 + 1))) (lv' := [(3, .int (nI (j27 + 1))), (4, .int (nI j43)), (2, .int f3), (1, .int (nI (pp + 1))), (0, .ref hm)]) hx hb dX6_patternOf_117 hl (k := 1) rfl (by exact nI_add (j27) 1) (by decide) rfl (fun ls hl => ?_)
                    refine lv_goto (tgt := 27) hx hb dX6_patternOf_120 (by decide) ?_
                    exact ih (j27 + 1) f3 (by omega)  hz27 _ (lv_sub hl [0, 2, 3, 4] rfl)
                  · rw [if_neg (Nat.not_le.mpr c52)] at hz43
                    refine lv_iload_n hx hb dX6_patternOf_55 rfl (lv_at hl 2 rfl) ?_
                    refine lv_if_eq (tgt := 106) hx hb dX6_patternOf_56 (by decide) (fun c56 => ?_) (fun c56 => ?_)
                    · rw [if_pos c56] at hz43
                      refine lv_iconst (v := (0 : Int32)) hx hb dX6_patternOf_106 (by decide) ?_
                      refine lv_istore_n (lv' := [(2, .int (0 : Int32)), (4, .int (nI j43)), (3, .int (nI j27)), (1, .int (nI (pp + 1))), (0, .ref hm)]) hx hb dX6_patternOf_107 rfl hl (by decide) rfl (fun ls hl => ?_)
                      refine lv_iload hx hb dX6_patternOf_108 (lv_at hl 1 rfl) ?_
                      refine lv_iload_n hx hb dX6_patternOf_110 rfl (lv_at hl 3 rfl) ?_
                      refine lv_iadd hx hb dX6_patternOf_111 ?_
                      refine kx_e (nI_add (j43) (pp + 1)) ?_
                      refine lv_istore (lv' := [(4, .int (nI (j43 + (pp + 1)))), (2, .int (0 : Int32)), (3, .int (nI j27)), (1, .int (nI (pp + 1))), (0, .ref hm)]) hx hb dX6_patternOf_112 hl (by decide) rfl (fun ls hl => ?_)
                      refine lv_goto (tgt := 43) hx hb dX6_patternOf_114 (by decide) ?_
                      exact ih43 (j43 + (pp + 1)) (0 : Int32) (by omega) (by omega) hz43 _ (lv_sub hl [0, 2, 1, 3, 4] rfl)
                    · rw [if_neg c56] at hz43
                      refine lv_aload_n hx hb dX6_patternOf_59 rfl (lv_at hl 4 rfl) ?_
                      refine va_get (D := (dC, dI)) (ci := 6) (v := .ref mb) (C := RX6) (T := TX6) (N := 15) hx hb hts hiX6 hown hK hP 0 rfl rfl 0 (by decide) fl7 (fun _ h9 => h9) rfl dX6_patternOf_60 ?_
                      refine lv_bipush (v := (72 : Int32)) hx hb dX6_patternOf_63 (by decide) ?_
                      refine lv_iload_n hx hb dX6_patternOf_65 rfl (lv_at hl 1 rfl) ?_
                      refine lv_iadd hx hb dX6_patternOf_66 ?_
                      refine kx_e (nI_add (72) (j27)) ?_
                      refine kx_ld hx hb hK hP 1 0 rfl rfl (72 + j27) rfl (by omega) (by decide) dX6_patternOf_67 ?_
                      refine lv_iconst (v := (1 : Int32)) hx hb dX6_patternOf_68 (by decide) ?_
                      refine lv_icmp_eq (tgt := 102) hx hb dX6_patternOf_69 (by decide) (fun c69 => ?_) (fun c69 => ?_)
                      · rw [if_pos c69] at hz43
                        refine lv_iconst (v := (1 : Int32)) hx hb dX6_patternOf_102 (by decide) ?_
                        refine lv_goto (tgt := 107) hx hb dX6_patternOf_103 (by decide) ?_
                        refine lv_istore_n (lv' := [(2, .int (1 : Int32)), (4, .int (nI j43)), (3, .int (nI j27)), (1, .int (nI (pp + 1))), (0, .ref hm)]) hx hb dX6_patternOf_107 rfl hl (by decide) rfl (fun ls hl => ?_)
                        refine lv_iload hx hb dX6_patternOf_108 (lv_at hl 1 rfl) ?_
                        refine lv_iload_n hx hb dX6_patternOf_110 rfl (lv_at hl 3 rfl) ?_
                        refine lv_iadd hx hb dX6_patternOf_111 ?_
                        refine kx_e (nI_add (j43) (pp + 1)) ?_
                        refine lv_istore (lv' := [(4, .int (nI (j43 + (pp + 1)))), (2, .int (1 : Int32)), (3, .int (nI j27)), (1, .int (nI (pp + 1))), (0, .ref hm)]) hx hb dX6_patternOf_112 hl (by decide) rfl (fun ls hl => ?_)
                        refine lv_goto (tgt := 43) hx hb dX6_patternOf_114 (by decide) ?_
                        exact ih43 (j43 + (pp + 1)) (1 : Int32) (by omega) (by omega) hz43 _ (lv_sub hl [0, 2, 1, 3, 4] rfl)
                      · rw [if_neg c69] at hz43
                        refine lv_aload_n hx hb dX6_patternOf_72 rfl (lv_at hl 4 rfl) ?_
                        refine va_get (D := (dC, dI)) (ci := 6) (v := .ref mb) (C := RX6) (T := TX6) (N := 15) hx hb hts hiX6 hown hK hP 0 rfl rfl 0 (by decide) fl7 (fun _ h9 => h9) rfl dX6_patternOf_73 ?_
                        refine lv_bipush (v := (72 : Int32)) hx hb dX6_patternOf_76 (by decide) ?_
                        refine lv_iload hx hb dX6_patternOf_78 (lv_at hl 0 rfl) ?_
                        refine lv_iadd hx hb dX6_patternOf_80 ?_
                        refine kx_e (nI_add (72) (j43)) ?_
                        refine kx_ld hx hb hK hP 1 0 rfl rfl (72 + j43) rfl (by omega) (by decide) dX6_patternOf_81 ?_
                        refine lv_iconst (v := (1 : Int32)) hx hb dX6_patternOf_82 (by decide) ?_
                        refine lv_icmp_eq (tgt := 102) hx hb dX6_patternOf_83 (by decide) (fun c83 => ?_) (fun c83 => ?_)
                        · rw [if_pos c83] at hz43
                          refine lv_iconst (v := (1 : Int32)) hx hb dX6_patternOf_102 (by decide) ?_
                          refine lv_goto (tgt := 107) hx hb dX6_patternOf_103 (by decide) ?_
                          refine lv_istore_n (lv' := [(2, .int (1 : Int32)), (4, .int (nI j43)), (3, .int (nI j27)), (1, .int (nI (pp + 1))), (0, .ref hm)]) hx hb dX6_patternOf_107 rfl hl (by decide) rfl (fun ls hl => ?_)
                          refine lv_iload hx hb dX6_patternOf_108 (lv_at hl 1 rfl) ?_
                          refine lv_iload_n hx hb dX6_patternOf_110 rfl (lv_at hl 3 rfl) ?_
                          refine lv_iadd hx hb dX6_patternOf_111 ?_
                          refine kx_e (nI_add (j43) (pp + 1)) ?_
                          refine lv_istore (lv' := [(4, .int (nI (j43 + (pp + 1)))), (2, .int (1 : Int32)), (3, .int (nI j27)), (1, .int (nI (pp + 1))), (0, .ref hm)]) hx hb dX6_patternOf_112 hl (by decide) rfl (fun ls hl => ?_)
                          refine lv_goto (tgt := 43) hx hb dX6_patternOf_114 (by decide) ?_
                          exact ih43 (j43 + (pp + 1)) (1 : Int32) (by omega) (by omega) hz43 _ (lv_sub hl [0, 2, 1, 3, 4] rfl)
                        · rw [if_neg c83] at hz43
                          refine lv_aload_n hx hb dX6_patternOf_86 rfl (lv_at hl 4 rfl) ?_
                          refine va_get (D := (dC, dI)) (ci := 6) (v := .ref mb) (C := RX6) (T := TX6) (N := 15) hx hb hts hiX6 hown hK hP 0 rfl rfl 0 (by decide) fl7 (fun _ h9 => h9) rfl dX6_patternOf_87 ?_
                          refine lv_iload_n hx hb dX6_patternOf_90 rfl (lv_at hl 1 rfl) ?_
                          refine kx_ld hx hb hK hP 1 0 rfl rfl (j27) rfl (by omega) (by decide) dX6_patternOf_91 ?_
                          refine lv_aload_n hx hb dX6_patternOf_92 rfl (lv_at hl 4 rfl) ?_
                          refine va_get (D := (dC, dI)) (ci := 6) (v := .ref mb) (C := RX6) (T := TX6) (N := 15) hx hb hts hiX6 hown hK hP 0 rfl rfl 0 (by decide) fl7 (fun _ h9 => h9) rfl dX6_patternOf_93 ?_
                          refine lv_iload hx hb dX6_patternOf_96 (lv_at hl 0 rfl) ?_
                          refine kx_ld hx hb hK hP 1 0 rfl rfl (j43) rfl (by omega) (by decide) dX6_patternOf_98 ?_
                          refine lv_icmp_ne (tgt := 106) hx hb dX6_patternOf_99 (by decide) (fun c99 => ?_) (fun c99 => ?_)
                          · rw [if_neg c99] at hz43
                            refine lv_iconst (v := (0 : Int32)) hx hb dX6_patternOf_106 (by decide) ?_
                            refine lv_istore_n (lv' := [(2, .int (0 : Int32)), (4, .int (nI j43)), (3, .int (nI j27)), (1, .int (nI (pp + 1))), (0, .ref hm)]) hx hb dX6_patternOf_107 rfl hl (by decide) rfl (fun ls hl => ?_)
                            refine lv_iload hx hb dX6_patternOf_108 (lv_at hl 1 rfl) ?_
                            refine lv_iload_n hx hb dX6_patternOf_110 rfl (lv_at hl 3 rfl) ?_
                            refine lv_iadd hx hb dX6_patternOf_111 ?_
                            refine kx_e (nI_add (j43) (pp + 1)) ?_
                            refine lv_istore (lv' := [(4, .int (nI (j43 + (pp + 1)))), (2, .int (0 : Int32)), (3, .int (nI j27)), (1, .int (nI (pp + 1))), (0, .ref hm)]) hx hb dX6_patternOf_112 hl (by decide) rfl (fun ls hl => ?_)
                            refine lv_goto (tgt := 43) hx hb dX6_patternOf_114 (by decide) ?_
                            exact ih43 (j43 + (pp + 1)) (0 : Int32) (by omega) (by omega) hz43 _ (lv_sub hl [0, 2, 1, 3, 4] rfl)
                          · rw [if_pos c99] at hz43
                            refine lv_iconst (v := (1 : Int32)) hx hb dX6_patternOf_102 (by decide) ?_
                            refine lv_goto (tgt := 107) hx hb dX6_patternOf_103 (by decide) ?_
                            refine lv_istore_n (lv' := [(2, .int (1 : Int32)), (4, .int (nI j43)), (3, .int (nI j27)), (1, .int (nI (pp + 1))), (0, .ref hm)]) hx hb dX6_patternOf_107 rfl hl (by decide) rfl (fun ls hl => ?_)
                            refine lv_iload hx hb dX6_patternOf_108 (lv_at hl 1 rfl) ?_
                            refine lv_iload_n hx hb dX6_patternOf_110 rfl (lv_at hl 3 rfl) ?_
                            refine lv_iadd hx hb dX6_patternOf_111 ?_
                            refine kx_e (nI_add (j43) (pp + 1)) ?_
                            refine lv_istore (lv' := [(4, .int (nI (j43 + (pp + 1)))), (2, .int (1 : Int32)), (3, .int (nI j27)), (1, .int (nI (pp + 1))), (0, .ref hm)]) hx hb dX6_patternOf_112 hl (by decide) rfl (fun ls hl => ?_)
                            refine lv_goto (tgt := 43) hx hb dX6_patternOf_114 (by decide) ?_
                            exact ih43 (j43 + (pp + 1)) (1 : Int32) (by omega) (by omega) hz43 _ (lv_sub hl [0, 2, 1, 3, 4] rfl)
              exact LP43 (mN bk) (j27 + (pp + 1)) f2 (by omega) (by omega) hz43 _ (lv_sub hl [0, 1, 2, 3, 4] rfl)
          exact LP27 (mN bk) 0 (1 : Int32) (by omega)  hz27 _ (lv_sub hl [0, 1, 2, 3] rfl)
    exact LP16 (mN bk) 0 (0 : Int32) (by omega) (Or.inr ⟨by omega, by omega⟩) (by omega) hF _ (lv_sub hl [0, 1, 2] rfl)
  · rw [if_pos c7] at hF
    refine lv_iconst (v := (0 : Int32)) hx hb dX6_patternOf_10 (by decide) ?_
    exact W.iret hx hb hr (fun t ht _ => ⟨congrArg (fun z => Outcome.returned (some (Value.int (nI z)))) hF, ht⟩) (fun _ h => absurd h List.not_mem_nil) dX6_patternOf_11

theorem fX6_pat_L16 (bk : Nat → Int32) : ∀ (r pp : Nat) (ft : Int32), pp ≤ fX6_patternOf_L16 bk r pp ft ∧ fX6_patternOf_L16 bk r pp ft ≤ pp + r := by
  intro r
  induction r with
  | zero => intro pp ft; exact ⟨Nat.le_refl _, Nat.le_refl _⟩
  | succ r ih =>
    intro pp ft
    rw [fX6_patternOf_L16]
    by_cases c : ft = 0
    · rw [if_pos c]
      dsimp only
      have h := ih (pp + 1) (fX6_patternOf_L27 bk pp (mN bk) 0 (1 : Int32))
      omega
    · rw [if_neg c]; omega
theorem fX6_patternOf_lt {bk : Nat → Int32} (hI : kx_I bk) (hn : 0 < mN bk) : 1 ≤ fX6_patternOf bk ∧ fX6_patternOf bk ≤ mN bk := by
  unfold fX6_patternOf
  rw [if_neg (by omega)]
  obtain ⟨r, hr⟩ : ∃ r, mN bk = r + 1 := ⟨mN bk - 1, by omega⟩
  have key : ∀ m, m = r + 1 → fX6_patternOf_L16 bk m 0 (0 : Int32) = fX6_patternOf_L16 bk r 1 (fX6_patternOf_L27 bk 0 (mN bk) 0 (1 : Int32)) := by
    intro m hm
    subst hm
    rw [fX6_patternOf_L16, if_pos rfl]
  rw [key _ hr]
  have h := fX6_pat_L16 bk r 1 (fX6_patternOf_L27 bk 0 (mN bk) 0 (1 : Int32))
  omega

def fX6_pattern (bk : Nat → Int32) : Int32 :=
  (nI ((fX6_patternOf bk)))
set_option maxHeartbeats 4000000 in
set_option maxRecDepth 100000 in
theorem c_X6_pattern (l : Launch) (dC : Nat → ClassId) (dI : Nat → Nat → Nat) (cyI cyZ : ClassId) (hm mb mn mk ms mp mq mi mz ma mc : Nat) (sg : Nat) (sn : Nat) (ud : Int32) (rz : Int32) (az : Int32) (bk : Nat → Int32) (hI : kx_I bk) (r : Int32) (hF : fX6_pattern bk = r) : Met l yX6_pattern wsX6_pattern ({ frames := 1, cells := 0, slots := 0, locals := 24 }) (kx_rp (dC, dI) [(hm, .inr (6, [.ref mb, .ref mn, .ref mk, .int (nI sg), .ref ms, .int (nI sn), .ref mp, .int ud, .ref mq, .int rz, .int az, .ref mi, .ref mz, .ref ma, .ref mc])), (mb, .inl (cyI, 97, .inl bk))] [(cyI, .int), (cyZ, .boolean)] [.ref hm]) (k2_QcV (.int r)) 0 0 (fun _ => False) := by
  refine Met.ofW (cc := cX6_pattern) (maxL := 1) (ret := (some .int)) (by decide) rfl ?_
  intro p e s m args below meth c s₁ B hml hv
  obtain ⟨rfl, hP, hK, hN⟩ := hv
  have hx := B.exec
  have hb := B.bytes
  have hr := B.returns
  have hts := atoms_spec (ws := wsX6_pattern) B.pre
  have hown : s.vm.findClass RX6 = some m.cls := findClass_of_methodNamed B.named
  have hlocks := B.notSynchronized
  have hl := lv_entry ([.ref hm]) (n := 1) (Nat.le_of_ble_eq_true rfl)
  rw [lg_entry_eq]
  generalize (lg_sl ([.ref hm]) ++ List.replicate (1 - (lg_sl ([.ref hm])).length) Slot.unset).toArray = ls at hl ⊢
  have hl : lv_has ls 1 [(0, .ref hm)] := hl
  unfold fX6_pattern at hF
  refine lv_aload_n hx hb dX6_pattern_0 rfl (lv_at hl 0 rfl) ?_
  refine kx_cV (As := []) (rest := []) ⟨hx, hb, hml, hown, hts⟩ (c_X6_patternOf l dC dI cyI cyZ hm mb mn mk ms mp mq mi mz ma mc sg sn ud rz az bk hI _ rfl) (cwV 0 hts gX6_pattern_X6_patternOf rfl rfl rfl (by decide +kernel) ⟨Nat.le_of_ble_eq_true rfl, Nat.le_of_ble_eq_true rfl⟩) hP hK hN [0, 1] rfl [0, 1] rfl 6 0 rfl rfl rfl rfl hl.1 rfl (Nat.le_of_ble_eq_true rfl) dX6_pattern_1 ⟨Nat.zero_le _, Nat.zero_le _⟩ ?_
  exact W.iret hx hb hr (fun t ht _ => ⟨congrArg (fun z => Outcome.returned (some (Value.int z))) hF, ht⟩) (fun _ h => absurd h List.not_mem_nil) dX6_pattern_4

def fX6_hole_L37 (bk : Nat → Int32) : Nat → Nat → Int32 → Int32
  | 0, _, es => es
  | r37 + 1, j37, es => (if mN bk ≤ j37 then es else (if (bk (72 + j37)) = 0 then (fX6_hole_L37 bk r37 (j37 + (fX6_patternOf bk)) (es ||| ((1 : Int32) <<< ((bk j37) &&& 31)))) else (fX6_hole_L37 bk r37 (j37 + (fX6_patternOf bk)) (es ||| (0 : Int32)))))
def fX6_hole (bk : Nat → Int32) (k : Int32) : Int32 :=
  (if (fX6_isStitch bk k) = 0 then (-1 : Int32) else (if (bk (72 + k.toNatClampNeg)) = 0 then (-3 : Int32) else ((fun (es : Int32) => (if es = 0 then (15 : Int32) else es)) (fX6_hole_L37 bk (mN bk) (k.toNatClampNeg % (fX6_patternOf bk)) (0 : Int32)))))
set_option maxHeartbeats 4000000 in
set_option maxRecDepth 100000 in
theorem c_X6_hole (l : Launch) (dC : Nat → ClassId) (dI : Nat → Nat → Nat) (cyI cyZ : ClassId) (hm mb mn mk ms mp mq mi mz ma mc : Nat) (sg : Nat) (sn : Nat) (ud : Int32) (rz : Int32) (az : Int32) (bk : Nat → Int32) (k : Int32) (hI : kx_I bk) (r : Int32) (hF : fX6_hole bk k = r) : Met l yX6_hole wsX6_hole ({ frames := 2, cells := 0, slots := 0, locals := 43 }) (kx_rp (dC, dI) [(hm, .inr (6, [.ref mb, .ref mn, .ref mk, .int (nI sg), .ref ms, .int (nI sn), .ref mp, .int ud, .ref mq, .int rz, .int az, .ref mi, .ref mz, .ref ma, .ref mc])), (mb, .inl (cyI, 97, .inl bk))] [(cyI, .int), (cyZ, .boolean)] [.ref hm, .int k]) (k2_QcV (.int r)) 0 0 (fun _ => False) := by
  refine Met.ofW (cc := cX6_hole) (maxL := 5) (ret := (some .int)) (by decide) rfl ?_
  intro p e s m args below meth c s₁ B hml hv
  obtain ⟨rfl, hP, hK, hN⟩ := hv
  have hx := B.exec
  have hb := B.bytes
  have hr := B.returns
  have hts := atoms_spec (ws := wsX6_hole) B.pre
  have hown : s.vm.findClass RX6 = some m.cls := findClass_of_methodNamed B.named
  have hlocks := B.notSynchronized
  have hiX6 : ∀ w ∈ wsX60, w ∈ wsX6_hole := by decide +kernel
  have fl7 := hts (.fieldLink RX6 7 "KnitChronicleModel" "book" "[I") (by decide +kernel)
  have hl := lv_entry ([.ref hm, .int k]) (n := 5) (Nat.le_of_ble_eq_true rfl)
  rw [lg_entry_eq]
  generalize (lg_sl ([.ref hm, .int k]) ++ List.replicate (5 - (lg_sl ([.ref hm, .int k])).length) Slot.unset).toArray = ls at hl ⊢
  have hl : lv_has ls 5 [(0, .ref hm), (1, .int k)] := hl
  unfold fX6_hole at hF
  have hmN := hI.2.1
  refine lv_aload_n hx hb dX6_hole_0 rfl (lv_at hl 0 rfl) ?_
  refine lv_iload_n hx hb dX6_hole_1 rfl (lv_at hl 1 rfl) ?_
  refine kx_cV (As := [.int k]) (rest := []) ⟨hx, hb, hml, hown, hts⟩ (c_X6_isStitch l dC dI cyI cyZ hm mb mn mk ms mp mq mi mz ma mc sg sn ud rz az bk k hI _ rfl) (cwV 1 hts gX6_hole_X6_isStitch rfl rfl rfl (by decide +kernel) ⟨Nat.le_of_ble_eq_true rfl, Nat.le_of_ble_eq_true rfl⟩) hP hK hN [0, 1] rfl [0, 1] rfl 6 0 rfl rfl rfl rfl hl.1 rfl (Nat.le_of_ble_eq_true rfl) dX6_hole_2 ⟨Nat.zero_le _, Nat.zero_le _⟩ ?_
  refine lv_if_ne (tgt := 10) hx hb dX6_hole_5 (by decide) (fun c5 => ?_) (fun c5 => ?_)
  · rw [if_neg c5] at hF
    obtain ⟨hk1, hk2⟩ := fX6_isStitch_P hI c5
    obtain ⟨hp1, hp2⟩ := fX6_patternOf_lt hI (by omega)
    refine lv_aload_n hx hb dX6_hole_10 rfl (lv_at hl 0 rfl) ?_
    refine va_get (D := (dC, dI)) (ci := 6) (v := .ref mb) (C := RX6) (T := TX6) (N := 15) hx hb hts hiX6 hown hK hP 0 rfl rfl 0 (by decide) fl7 (fun _ h9 => h9) rfl dX6_hole_11 ?_
    refine lv_bipush (v := (72 : Int32)) hx hb dX6_hole_14 (by decide) ?_
    refine lv_iload_n hx hb dX6_hole_16 rfl (lv_at hl 1 rfl) ?_
    refine kx_e hk1 ?_
    refine lv_iadd hx hb dX6_hole_17 ?_
    refine kx_e (nI_add (72) (k.toNatClampNeg)) ?_
    refine kx_ld hx hb hK hP 1 0 rfl rfl (72 + k.toNatClampNeg) rfl (by omega) (by decide) dX6_hole_18 ?_
    refine lv_if_ne (tgt := 25) hx hb dX6_hole_19 (by decide) (fun c19 => ?_) (fun c19 => ?_)
    · rw [if_neg c19] at hF
      refine lv_aload_n hx hb dX6_hole_25 rfl (lv_at hl 0 rfl) ?_
      refine kx_cV (As := []) (rest := []) ⟨hx, hb, hml, hown, hts⟩ (c_X6_patternOf l dC dI cyI cyZ hm mb mn mk ms mp mq mi mz ma mc sg sn ud rz az bk hI _ rfl) (cwV 0 hts gX6_hole_X6_patternOf rfl rfl rfl (by decide +kernel) ⟨Nat.le_of_ble_eq_true rfl, Nat.le_of_ble_eq_true rfl⟩) hP hK hN [0, 1] rfl [0, 1] rfl 6 0 rfl rfl rfl rfl hl.1 rfl (Nat.le_of_ble_eq_true rfl) dX6_hole_26 ⟨Nat.zero_le _, Nat.zero_le _⟩ ?_
      refine lv_istore_n (lv' := [(2, .int (nI ((fX6_patternOf bk)))), (0, .ref hm), (1, .int k)]) hx hb dX6_hole_29 rfl hl (by decide) rfl (fun ls hl => ?_)
      refine lv_iconst (v := (0 : Int32)) hx hb dX6_hole_30 (by decide) ?_
      refine lv_istore_n (lv' := [(3, .int (0 : Int32)), (2, .int (nI ((fX6_patternOf bk)))), (0, .ref hm), (1, .int k)]) hx hb dX6_hole_31 rfl hl (by decide) rfl (fun ls hl => ?_)
      refine lv_iload_n hx hb dX6_hole_32 rfl (lv_at hl 3 rfl) ?_
      refine kx_e hk1 ?_
      refine lv_iload_n hx hb dX6_hole_33 rfl (lv_at hl 1 rfl) ?_
      refine lv_irem hx hb dX6_hole_34 (nI_ne0 (by omega) (by omega)) ?_
      refine kx_e (pk_rem (a := k.toNatClampNeg) (d := (fX6_patternOf bk)) (by omega) (by omega) (by omega)) ?_
      refine lv_istore (lv' := [(4, .int (nI (k.toNatClampNeg % (fX6_patternOf bk)))), (3, .int (0 : Int32)), (2, .int (nI ((fX6_patternOf bk)))), (0, .ref hm), (1, .int k)]) hx hb dX6_hole_35 hl (by decide) rfl (fun ls hl => ?_)
      generalize hz37 : fX6_hole_L37 bk (mN bk) (k.toNatClampNeg % (fX6_patternOf bk)) (0 : Int32) = z37 at hF
      have LP37 : ∀ (r37 : Nat) (j37 : Nat) (es : Int32), mN bk ≤ r37 + j37 → (j37 ≤ 60) → fX6_hole_L37 bk r37 j37 es = z37 → ∀ (ls : Array Slot), lv_has ls 5 [(4, .int (nI j37)), (3, .int es), (2, .int (nI ((fX6_patternOf bk)))), (0, .ref hm), (1, .int k)] → W p l e (headSpec wsX6_hole ({ frames := 2, cells := 0, slots := 0, locals := 43 } : Room)).room s m ([.ref hm, .int k] : List Value).toArray below meth c s.heap [] 0 0 (MQ below (k2_QcV (.int r)) ([.ref hm, .int k] : List Value).toArray s 0 0 (fun _ => False)) (F0 m 37 ls []) := by
        intro r37
        induction r37 with
        | zero =>
          intro j37 es hrj hj37 hz37 ls hl
          rw [fX6_hole_L37] at hz37
          subst hz37
          try dsimp only at hF
          refine lv_iload hx hb dX6_hole_37 (lv_at hl 0 rfl) ?_
          refine lv_aload_n hx hb dX6_hole_39 rfl (lv_at hl 3 rfl) ?_
          refine va_get (D := (dC, dI)) (ci := 6) (v := .ref mb) (C := RX6) (T := TX6) (N := 15) hx hb hts hiX6 hown hK hP 0 rfl rfl 0 (by decide) fl7 (fun _ h9 => h9) rfl dX6_hole_40 ?_
          refine lv_bipush (v := (96 : Int32)) hx hb dX6_hole_43 (by decide) ?_
          refine kx_ld hx hb hK hP 1 0 rfl rfl (96) rfl (by omega) (by decide) dX6_hole_45 ?_
          refine kx_e hI.1 ?_
          refine kx_ge hx hb (j37) (mN bk) rfl rfl (by omega) (by omega) dX6_hole_46 (by decide) (tgt := 87) (fun c46 => ?_) (fun c46 => absurd c46 (by omega))
          refine lv_iload_n hx hb dX6_hole_87 rfl (lv_at hl 1 rfl) ?_
          refine lv_if_ne (tgt := 96) hx hb dX6_hole_88 (by decide) (fun c88 => ?_) (fun c88 => ?_)
          · rw [if_neg c88] at hF
            refine lv_iload_n hx hb dX6_hole_96 rfl (lv_at hl 1 rfl) ?_
            exact W.iret hx hb hr (fun t ht _ => ⟨congrArg (fun z => Outcome.returned (some (Value.int z))) hF, ht⟩) (fun _ h => absurd h List.not_mem_nil) dX6_hole_97
          · rw [if_pos c88] at hF
            refine lv_bipush (v := (15 : Int32)) hx hb dX6_hole_91 (by decide) ?_
            refine lv_goto (tgt := 97) hx hb dX6_hole_93 (by decide) ?_
            exact W.iret hx hb hr (fun t ht _ => ⟨congrArg (fun z => Outcome.returned (some (Value.int z))) hF, ht⟩) (fun _ h => absurd h List.not_mem_nil) dX6_hole_97
        | succ r37 ih37 =>
          intro j37 es hrj hj37 hz37 ls hl
          rw [fX6_hole_L37] at hz37
          refine lv_iload hx hb dX6_hole_37 (lv_at hl 0 rfl) ?_
          refine lv_aload_n hx hb dX6_hole_39 rfl (lv_at hl 3 rfl) ?_
          refine va_get (D := (dC, dI)) (ci := 6) (v := .ref mb) (C := RX6) (T := TX6) (N := 15) hx hb hts hiX6 hown hK hP 0 rfl rfl 0 (by decide) fl7 (fun _ h9 => h9) rfl dX6_hole_40 ?_
          refine lv_bipush (v := (96 : Int32)) hx hb dX6_hole_43 (by decide) ?_
          refine kx_ld hx hb hK hP 1 0 rfl rfl (96) rfl (by omega) (by decide) dX6_hole_45 ?_
          refine kx_e hI.1 ?_
          refine kx_ge hx hb (j37) (mN bk) rfl rfl (by omega) (by omega) dX6_hole_46 (by decide) (tgt := 87) (fun c46 => ?_) (fun c46 => ?_)
          · rw [if_pos c46] at hz37
            subst hz37
            try dsimp only at hF
            refine lv_iload_n hx hb dX6_hole_87 rfl (lv_at hl 1 rfl) ?_
            refine lv_if_ne (tgt := 96) hx hb dX6_hole_88 (by decide) (fun c88 => ?_) (fun c88 => ?_)
            · rw [if_neg c88] at hF
              refine lv_iload_n hx hb dX6_hole_96 rfl (lv_at hl 1 rfl) ?_
              exact W.iret hx hb hr (fun t ht _ => ⟨congrArg (fun z => Outcome.returned (some (Value.int z))) hF, ht⟩) (fun _ h => absurd h List.not_mem_nil) dX6_hole_97
            · rw [if_pos c88] at hF
              refine lv_bipush (v := (15 : Int32)) hx hb dX6_hole_91 (by decide) ?_
              refine lv_goto (tgt := 97) hx hb dX6_hole_93 (by decide) ?_
              exact W.iret hx hb hr (fun t ht _ => ⟨congrArg (fun z => Outcome.returned (some (Value.int z))) hF, ht⟩) (fun _ h => absurd h List.not_mem_nil) dX6_hole_97
          · rw [if_neg (Nat.not_le.mpr c46)] at hz37
            refine lv_iload_n hx hb dX6_hole_49 rfl (lv_at hl 1 rfl) ?_
            refine lv_aload_n hx hb dX6_hole_50 rfl (lv_at hl 3 rfl) ?_
            refine va_get (D := (dC, dI)) (ci := 6) (v := .ref mb) (C := RX6) (T := TX6) (N := 15) hx hb hts hiX6 hown hK hP 0 rfl rfl 0 (by decide) fl7 (fun _ h9 => h9) rfl dX6_hole_51 ?_
            refine lv_bipush (v := (72 : Int32)) hx hb dX6_hole_54 (by decide) ?_
            refine lv_iload hx hb dX6_hole_56 (lv_at hl 0 rfl) ?_
            refine lv_iadd hx hb dX6_hole_58 ?_
            refine kx_e (nI_add (72) (j37)) ?_
            refine kx_ld hx hb hK hP 1 0 rfl rfl (72 + j37) rfl (by omega) (by decide) dX6_hole_59 ?_
            refine lv_if_ne (tgt := 75) hx hb dX6_hole_60 (by decide) (fun c60 => ?_) (fun c60 => ?_)
            · rw [if_neg c60] at hz37
              refine lv_iconst (v := (0 : Int32)) hx hb dX6_hole_75 (by decide) ?_
              refine lv_ior hx hb dX6_hole_76 ?_
              refine lv_istore_n (lv' := [(3, .int (es ||| (0 : Int32))), (4, .int (nI j37)), (2, .int (nI ((fX6_patternOf bk)))), (0, .ref hm), (1, .int k)]) hx hb dX6_hole_77 rfl hl (by decide) rfl (fun ls hl => ?_)
              refine lv_iload hx hb dX6_hole_78 (lv_at hl 1 rfl) ?_
              refine lv_iload_n hx hb dX6_hole_80 rfl (lv_at hl 2 rfl) ?_
              refine lv_iadd hx hb dX6_hole_81 ?_
              refine kx_e (nI_add (j37) ((fX6_patternOf bk))) ?_
              refine lv_istore (lv' := [(4, .int (nI (j37 + (fX6_patternOf bk)))), (3, .int (es ||| (0 : Int32))), (2, .int (nI ((fX6_patternOf bk)))), (0, .ref hm), (1, .int k)]) hx hb dX6_hole_82 hl (by decide) rfl (fun ls hl => ?_)
              refine lv_goto (tgt := 37) hx hb dX6_hole_84 (by decide) ?_
              exact ih37 (j37 + (fX6_patternOf bk)) (es ||| (0 : Int32)) (by omega) (by omega) hz37 _ (lv_sub hl [0, 1, 2, 3, 4] rfl)
            · rw [if_pos c60] at hz37
              refine lv_iconst (v := (1 : Int32)) hx hb dX6_hole_63 (by decide) ?_
              refine lv_aload_n hx hb dX6_hole_64 rfl (lv_at hl 3 rfl) ?_
              refine va_get (D := (dC, dI)) (ci := 6) (v := .ref mb) (C := RX6) (T := TX6) (N := 15) hx hb hts hiX6 hown hK hP 0 rfl rfl 0 (by decide) fl7 (fun _ h9 => h9) rfl dX6_hole_65 ?_
              refine lv_iload hx hb dX6_hole_68 (lv_at hl 0 rfl) ?_
              refine kx_ld hx hb hK hP 1 0 rfl rfl (j37) rfl (by omega) (by decide) dX6_hole_70 ?_
              refine lv_ishl hx hb dX6_hole_71 ?_
              refine lv_goto (tgt := 76) hx hb dX6_hole_72 (by decide) ?_
              refine lv_ior hx hb dX6_hole_76 ?_
              refine lv_istore_n (lv' := [(3, .int (es ||| ((1 : Int32) <<< ((bk j37) &&& 31)))), (4, .int (nI j37)), (2, .int (nI ((fX6_patternOf bk)))), (0, .ref hm), (1, .int k)]) hx hb dX6_hole_77 rfl hl (by decide) rfl (fun ls hl => ?_)
              refine lv_iload hx hb dX6_hole_78 (lv_at hl 1 rfl) ?_
              refine lv_iload_n hx hb dX6_hole_80 rfl (lv_at hl 2 rfl) ?_
              refine lv_iadd hx hb dX6_hole_81 ?_
              refine kx_e (nI_add (j37) ((fX6_patternOf bk))) ?_
              refine lv_istore (lv' := [(4, .int (nI (j37 + (fX6_patternOf bk)))), (3, .int (es ||| ((1 : Int32) <<< ((bk j37) &&& 31)))), (2, .int (nI ((fX6_patternOf bk)))), (0, .ref hm), (1, .int k)]) hx hb dX6_hole_82 hl (by decide) rfl (fun ls hl => ?_)
              refine lv_goto (tgt := 37) hx hb dX6_hole_84 (by decide) ?_
              exact ih37 (j37 + (fX6_patternOf bk)) (es ||| ((1 : Int32) <<< ((bk j37) &&& 31))) (by omega) (by omega) hz37 _ (lv_sub hl [0, 1, 2, 3, 4] rfl)
      exact LP37 (mN bk) (k.toNatClampNeg % (fX6_patternOf bk)) (0 : Int32) (by omega) (by have := Nat.mod_lt k.toNatClampNeg (show 0 < fX6_patternOf bk by omega); omega) hz37 _ (lv_sub hl [0, 1, 2, 3, 4] rfl)
    · rw [if_pos c19] at hF
      refine lv_bipush (v := (-3 : Int32)) hx hb dX6_hole_22 (by decide) ?_
      exact W.iret hx hb hr (fun t ht _ => ⟨congrArg (fun z => Outcome.returned (some (Value.int z))) hF, ht⟩) (fun _ h => absurd h List.not_mem_nil) dX6_hole_24
  · rw [if_pos c5] at hF
    refine lv_iconst (v := (-1 : Int32)) hx hb dX6_hole_8 (by decide) ?_
    exact W.iret hx hb hr (fun t ht _ => ⟨congrArg (fun z => Outcome.returned (some (Value.int z))) hF, ht⟩) (fun _ h => absurd h List.not_mem_nil) dX6_hole_9
