def fX6_goWeeks_L11 (sn : Nat) (kn : Nat → Int32) (pd : Nat → Int32) : Nat → Nat → (Nat → Int32) → (Nat → Int32) → Int32 → Int32 → Int32 → (Int32 × (Nat → Int32) × (Nat → Int32) × Int32 × Int32 × Int32)
  | 0, _, g1, g2, w1, w2, w3 => ((-6 : Int32), g1, g2, w1, w2, w3)
  | r11 + 1, j11, g1, g2, w1, w2, w3 => (if sn ≤ j11 then ((-6 : Int32), g1, g2, w1, w2, w3) else (if (fX6_isHand (pd j11)) = 0 then (if (pd j11) = (45 : Int32) then (match fX6_pullOut g1 g2 ((pd (j11 + 1)).toNatClampNeg - 65) with | (q75a, q75b, q75c) => (if 0 ≤ q75a then (if q75a ≤ w1 then (fX6_goWeeks_L11 sn kn pd r11 (j11 + 2) q75b q75c w1 (0 : Int32) (w3 + (1 : Int32))) else (fX6_goWeeks_L11 sn kn pd r11 (j11 + 2) q75b q75c q75a (0 : Int32) (w3 + (1 : Int32)))) else (if q75a ≤ w1 then (w3, q75b, q75c, w1, (1 : Int32), w3) else (w3, q75b, q75c, q75a, (1 : Int32), w3)))) else (if (pd j11) = (42 : Int32) then (match fX6_eat g1 ((pd (j11 + 1)).toNatClampNeg - 65) with | (q134a, q134b) => (if q134a ≤ 0 then (fX6_goWeeks_L11 sn kn pd r11 (j11 + 2) q134b g2 w1 q134a (w3 + (1 : Int32))) else (w3, q134b, g2, w1, q134a, w3))) else (match fX6_mend g1 kn ((pd (j11 + 1)).toNatClampNeg - 65) ((pd (j11 + 2)).toNatClampNeg - 97) with | (q163a, q163b) => (if q163a ≤ 0 then (fX6_goWeeks_L11 sn kn pd r11 (j11 + 3) q163b g2 w1 q163a (w3 + (1 : Int32))) else (w3, q163b, g2, w1, q163a, w3))))) else (match fX6_knit g1 kn ((pd j11).toNatClampNeg - 97) ((pd (j11 + 1)) - (48 : Int32)) with | (q52a, q52b) => (if q52a ≤ 0 then (fX6_goWeeks_L11 sn kn pd r11 (j11 + 2) q52b g2 w1 q52a (w3 + (1 : Int32))) else (w3, q52b, g2, w1, q52a, w3)))))
def fX6_goWeeks (sn : Nat) (rz : Int32) (bk : Nat → Int32) (nw : Nat → Int32) (kn : Nat → Int32) (pd : Nat → Int32) (pq : Nat → Int32) : Int32 × (Nat → Int32) × (Nat → Int32) × Int32 × Int32 × Int32 :=
  (match fX6_asNow bk nw with | (q1a, q1b) => (fX6_goWeeks_L11 sn kn pd sn 0 q1a pq q1b rz (0 : Int32)))
set_option maxHeartbeats 4000000 in
set_option maxRecDepth 100000 in
theorem c_X6_goWeeks (l : Launch) (dC : Nat → ClassId) (dI : Nat → Nat → Nat) (cyI cyZ : ClassId) (hm mb mn mk ms mp mq mi mz ma mc : Nat) (sg : Nat) (sn : Nat) (ud : Int32) (rz : Int32) (az : Int32) (bk : Nat → Int32) (nw : Nat → Int32) (kn : Nat → Int32) (pd : Nat → Int32) (pq : Nat → Int32) (hI : kx_I bk) (hsn : sn ≤ 60) (hfl : fX6_faultOf sn pd = (-6 : Int32)) (sz : Nat) (r : Int32 × (Nat → Int32) × (Nat → Int32) × Int32 × Int32 × Int32) (hF : fX6_goWeeks sn rz bk nw kn pd pq = r) : Met l yX6_goWeeks wsX6_goWeeks ({ frames := 3, cells := 0, slots := 0, locals := 67 }) (kx_wp (dC, dI) [(hm, .inr (6, [.ref mb, .ref mn, .ref mk, .int (nI sg), .ref ms, .int (nI sn), .ref mp, .int ud, .ref mq, .int rz, .int az, .ref mi, .ref mz, .ref ma, .ref mc])), (mb, .inl (cyI, 97, .inl bk)), (mn, .inl (cyI, 97, .inl nw)), (mk, .inl (cyI, 4, .inl kn)), (mp, .inl (cyI, 60, .inl pd)), (mq, .inl (cyI, 24, .inl pq))] [(cyI, .int), (cyZ, .boolean)] sz [.ref hm]) (kx_Qi r.1 (dC, dI) [(hm, .inr (6, [.ref mb, .ref mn, .ref mk, .int (nI sg), .ref ms, .int (nI sn), .ref mp, .int ud, .ref mq, .int rz, .int az, .ref mi, .ref mz, .ref ma, .ref mc])), (mb, .inl (cyI, 97, .inl bk)), (mn, .inl (cyI, 97, .inl nw)), (mk, .inl (cyI, 4, .inl kn)), (mp, .inl (cyI, 60, .inl pd)), (mq, .inl (cyI, 24, .inl pq))] [(hm, .inr (6, [.ref mb, .ref mn, .ref mk, .int (nI sg), .ref ms, .int (nI sn), .ref mp, .int r.2.2.2.1, .ref mq, .int r.2.2.2.2.1, .int r.2.2.2.2.2, .ref mi, .ref mz, .ref ma, .ref mc])), (mb, .inl (cyI, 97, .inl bk)), (mn, .inl (cyI, 97, .inl r.2.1)), (mk, .inl (cyI, 4, .inl kn)), (mp, .inl (cyI, 60, .inl pd)), (mq, .inl (cyI, 24, .inl r.2.2.1))] sz) 0 0 (va_A [(hm, .inr (6, [.ref mb, .ref mn, .ref mk, .int (nI sg), .ref ms, .int (nI sn), .ref mp, .int ud, .ref mq, .int rz, .int az, .ref mi, .ref mz, .ref ma, .ref mc])), (mb, .inl (cyI, 97, .inl bk)), (mn, .inl (cyI, 97, .inl nw)), (mk, .inl (cyI, 4, .inl kn)), (mp, .inl (cyI, 60, .inl pd)), (mq, .inl (cyI, 24, .inl pq))] sz) := by
  refine Met.ofW (cc := cX6_goWeeks) (maxL := 5) (ret := (some .int)) (by decide) rfl ?_
  intro p e s m args below meth c s₁ B hml hv
  obtain ⟨rfl, hsz, hP, hK, hN, hD0⟩ := hv
  have hx := B.exec
  have hb := B.bytes
  have hr := B.returns
  have hts := atoms_spec (ws := wsX6_goWeeks) B.pre
  have hown : s.vm.findClass RX6 = some m.cls := findClass_of_methodNamed B.named
  have hlocks := B.notSynchronized
  subst hsz
  obtain ⟨A, hAe⟩ : ∃ A, A = va_A [(hm, .inr (6, [.ref mb, .ref mn, .ref mk, .int (nI sg), .ref ms, .int (nI sn), .ref mp, .int ud, .ref mq, .int rz, .int az, .ref mi, .ref mz, .ref ma, .ref mc])), (mb, .inl (cyI, 97, .inl bk)), (mn, .inl (cyI, 97, .inl nw)), (mk, .inl (cyI, 4, .inl kn)), (mp, .inl (cyI, 60, .inl pd)), (mq, .inl (cyI, 24, .inl pq))] s.heap.size := ⟨_, rfl⟩
  have hD : va_D A [(hm, .inr (6, [.ref mb, .ref mn, .ref mk, .int (nI sg), .ref ms, .int (nI sn), .ref mp, .int ud, .ref mq, .int rz, .int az, .ref mi, .ref mz, .ref ma, .ref mc])), (mb, .inl (cyI, 97, .inl bk)), (mn, .inl (cyI, 97, .inl nw)), (mk, .inl (cyI, 4, .inl kn)), (mp, .inl (cyI, 60, .inl pd)), (mq, .inl (cyI, 24, .inl pq))] := by rw [hAe]; exact hD0.self
  have hA : ∀ q : Nat, s.heap.size ≤ q → A q := fun q h => by rw [hAe]; exact Or.inr h
  have hS : va_S A s.heap s.heap [] := va_S.rf
  have hiX6 : ∀ w ∈ wsX60, w ∈ wsX6_goWeeks := by decide +kernel
  have fl22 := hts (.fieldLink RX6 22 "KnitChronicleModel" "pad" "[I") (by decide +kernel)
  have fl52 := hts (.fieldLink RX6 52 "KnitChronicleModel" "signs" "I") (by decide +kernel)
  have fl66 := hts (.fieldLink RX6 66 "KnitChronicleModel" "undone" "I") (by decide +kernel)
  have fl87 := hts (.fieldLink RX6 87 "KnitChronicleModel" "acts" "I") (by decide +kernel)
  have fl94 := hts (.fieldLink RX6 94 "KnitChronicleModel" "reason" "I") (by decide +kernel)
  have hl := lv_entry ([.ref hm]) (n := 5) (Nat.le_of_ble_eq_true rfl)
  rw [lg_entry_eq]
  generalize (lg_sl ([.ref hm]) ++ List.replicate (5 - (lg_sl ([.ref hm])).length) Slot.unset).toArray = ls at hl ⊢
  have hl : lv_has ls 5 [(0, .ref hm)] := hl
  unfold fX6_goWeeks at hF
  have hmN := hI.2.1
  refine lv_aload_n hx hb dX6_goWeeks_0 rfl (lv_at hl 0 rfl) ?_
  generalize hq1 : fX6_asNow bk nw = q1 at hF
  obtain ⟨q1a, q1b⟩ := q1
  dsimp only at hF
  refine kx_wVv (As := []) (rest := []) (wr := [(mk, .inl (cyI, 4, .inl kn)), (mp, .inl (cyI, 60, .inl pd)), (mq, .inl (cyI, 24, .inl pq))]) (wc' := [(hm, .inr (6, [.ref mb, .ref mn, .ref mk, .int (nI sg), .ref ms, .int (nI sn), .ref mp, .int q1b, .ref mq, .int rz, .int az, .ref mi, .ref mz, .ref ma, .ref mc])), (mb, .inl (cyI, 97, .inl bk)), (mn, .inl (cyI, 97, .inl q1a))]) (W1 := [(hm, .inr (6, [.ref mb, .ref mn, .ref mk, .int (nI sg), .ref ms, .int (nI sn), .ref mp, .int q1b, .ref mq, .int rz, .int az, .ref mi, .ref mz, .ref ma, .ref mc])), (mb, .inl (cyI, 97, .inl bk)), (mn, .inl (cyI, 97, .inl q1a)), (mk, .inl (cyI, 4, .inl kn)), (mp, .inl (cyI, 60, .inl pd)), (mq, .inl (cyI, 24, .inl pq))]) ⟨hx, hb, hml, hown, hts⟩ (c_X6_asNow l dC dI cyI cyZ hm mb mn mk ms mp mq mi mz ma mc sg sn ud rz az bk nw  _ _ hq1) (cwV 0 hts gX6_goWeeks_X6_asNow rfl rfl rfl (by decide +kernel) ⟨Nat.le_of_ble_eq_true rfl, Nat.le_of_ble_eq_true rfl⟩) hP hD hS hA hK hN [0, 1, 2] [3, 4, 5] [3, 4, 5, 0, 1, 2] rfl (by decide) rfl (by decide) (by decide) (by decide) rfl [0, 1] rfl 6 0 rfl rfl rfl rfl hl.1 rfl (Nat.le_of_ble_eq_true rfl) dX6_goWeeks_1 ⟨Nat.zero_le _, Nat.zero_le _⟩ (fun H locs hP hD hS => ?_)
  refine lv_aload_n hx hb dX6_goWeeks_4 rfl (lv_at hl 0 rfl) ?_
  refine lv_iconst (v := (0 : Int32)) hx hb dX6_goWeeks_5 (by decide) ?_
  refine va_put (D := (dC, dI)) (ci := 6) (v := .int (0 : Int32)) (ty := .int) (C := RX6) (T := TX6) (N := 15) hx hb hts hiX6 tyX6 tyX6_ok nmX6 hown hK hP hD hS 0 rfl rfl 10 (by decide) fl87 (fun _ h9 => h9) rfl (by decide +kernel) rfl rfl (Nat.le_of_ble_eq_true rfl) dX6_goWeeks_6 (fun H locs hP hD hS => ?_)
  have hP : va_P (dC, dI) vwCl [(hm, .inr (6, [.ref mb, .ref mn, .ref mk, .int (nI sg), .ref ms, .int (nI sn), .ref mp, .int q1b, .ref mq, .int rz, .int (0 : Int32), .ref mi, .ref mz, .ref ma, .ref mc])), (mb, .inl (cyI, 97, .inl bk)), (mn, .inl (cyI, 97, .inl q1a)), (mk, .inl (cyI, 4, .inl kn)), (mp, .inl (cyI, 60, .inl pd)), (mq, .inl (cyI, 24, .inl pq))] H := hP
  have hD : va_D A [(hm, .inr (6, [.ref mb, .ref mn, .ref mk, .int (nI sg), .ref ms, .int (nI sn), .ref mp, .int q1b, .ref mq, .int rz, .int (0 : Int32), .ref mi, .ref mz, .ref ma, .ref mc])), (mb, .inl (cyI, 97, .inl bk)), (mn, .inl (cyI, 97, .inl q1a)), (mk, .inl (cyI, 4, .inl kn)), (mp, .inl (cyI, 60, .inl pd)), (mq, .inl (cyI, 24, .inl pq))] := hD
  have hJ0 : kx_I q1a := fX6_asNow_I hI hq1
  have hf0 : fX6_faultOf_L4 sn pd (sn - 0) 0 (0 : Int32) = (-6 : Int32) := hfl
  refine lv_iconst (v := (0 : Int32)) hx hb dX6_goWeeks_9 (by decide) ?_
  refine lv_istore_n (lv' := [(1, .int (0 : Int32)), (0, .ref hm)]) hx hb dX6_goWeeks_10 rfl hl (by decide) rfl (fun ls hl => ?_)
  have LP11 : ∀ (r11 : Nat) (j11 : Nat) (g1 : Nat → Int32) (g2 : Nat → Int32) (w1 : Int32) (w2 : Int32) (w3 : Int32), sn ≤ r11 + j11 → (kx_I g1) → (j11 ≤ sn) → (fX6_faultOf_L4 sn pd (sn - j11) j11 (0 : Int32) = (-6 : Int32)) → fX6_goWeeks_L11 sn kn pd r11 j11 g1 g2 w1 w2 w3 = r → ∀ (H : Heap) (locs : List Loc), va_P (dC, dI) vwCl [(hm, .inr (6, [.ref mb, .ref mn, .ref mk, .int (nI sg), .ref ms, .int (nI sn), .ref mp, .int w1, .ref mq, .int w2, .int w3, .ref mi, .ref mz, .ref ma, .ref mc])), (mb, .inl (cyI, 97, .inl bk)), (mn, .inl (cyI, 97, .inl g1)), (mk, .inl (cyI, 4, .inl kn)), (mp, .inl (cyI, 60, .inl pd)), (mq, .inl (cyI, 24, .inl g2))] H → va_D A [(hm, .inr (6, [.ref mb, .ref mn, .ref mk, .int (nI sg), .ref ms, .int (nI sn), .ref mp, .int w1, .ref mq, .int w2, .int w3, .ref mi, .ref mz, .ref ma, .ref mc])), (mb, .inl (cyI, 97, .inl bk)), (mn, .inl (cyI, 97, .inl g1)), (mk, .inl (cyI, 4, .inl kn)), (mp, .inl (cyI, 60, .inl pd)), (mq, .inl (cyI, 24, .inl g2))] → va_S A s.heap H locs → ∀ (ls : Array Slot), lv_has ls 5 [(1, .int (nI j11)), (0, .ref hm)] → W p l e (headSpec wsX6_goWeeks ({ frames := 3, cells := 0, slots := 0, locals := 67 } : Room)).room s m ([.ref hm] : List Value).toArray below meth c H locs 0 0 (MQ below (kx_Qi r.1 (dC, dI) [(hm, .inr (6, [.ref mb, .ref mn, .ref mk, .int (nI sg), .ref ms, .int (nI sn), .ref mp, .int ud, .ref mq, .int rz, .int az, .ref mi, .ref mz, .ref ma, .ref mc])), (mb, .inl (cyI, 97, .inl bk)), (mn, .inl (cyI, 97, .inl nw)), (mk, .inl (cyI, 4, .inl kn)), (mp, .inl (cyI, 60, .inl pd)), (mq, .inl (cyI, 24, .inl pq))] [(hm, .inr (6, [.ref mb, .ref mn, .ref mk, .int (nI sg), .ref ms, .int (nI sn), .ref mp, .int r.2.2.2.1, .ref mq, .int r.2.2.2.2.1, .int r.2.2.2.2.2, .ref mi, .ref mz, .ref ma, .ref mc])), (mb, .inl (cyI, 97, .inl bk)), (mn, .inl (cyI, 97, .inl r.2.1)), (mk, .inl (cyI, 4, .inl kn)), (mp, .inl (cyI, 60, .inl pd)), (mq, .inl (cyI, 24, .inl r.2.2.1))] s.heap.size) ([.ref hm] : List Value).toArray s 0 0 (va_A [(hm, .inr (6, [.ref mb, .ref mn, .ref mk, .int (nI sg), .ref ms, .int (nI sn), .ref mp, .int ud, .ref mq, .int rz, .int az, .ref mi, .ref mz, .ref ma, .ref mc])), (mb, .inl (cyI, 97, .inl bk)), (mn, .inl (cyI, 97, .inl nw)), (mk, .inl (cyI, 4, .inl kn)), (mp, .inl (cyI, 60, .inl pd)), (mq, .inl (cyI, 24, .inl pq))] s.heap.size)) (F0 m 11 ls []) := by
    intro r11
    induction r11 with
    | zero =>
      intro j11 g1 g2 w1 w2 w3 hrj hJ1 hjs hf1 hF H locs hP hD hS ls hl
      rw [fX6_goWeeks_L11] at hF
      refine lv_iload_n hx hb dX6_goWeeks_11 rfl (lv_at hl 0 rfl) ?_
      refine lv_aload_n hx hb dX6_goWeeks_12 rfl (lv_at hl 1 rfl) ?_
      refine va_get (D := (dC, dI)) (ci := 6) (v := .int (nI sn)) (C := RX6) (T := TX6) (N := 15) hx hb hts hiX6 hown hK hP 0 rfl rfl 5 (by decide) fl52 (fun _ h9 => h9) rfl dX6_goWeeks_13 ?_
      refine kx_ge hx hb (j11) (sn) rfl rfl (by omega) (by omega) dX6_goWeeks_16 (by decide) (tgt := 197) (fun c16 => ?_) (fun c16 => absurd c16 (by omega))
      refine lv_bipush (v := (-6 : Int32)) hx hb dX6_goWeeks_197 (by decide) ?_
      subst hF
      subst hAe
      exact W.iret hx hb hr (fun t ht _ => ⟨⟨_, (), rfl, rfl, by rw [ht]; exact hP, hD⟩, hS.F ht⟩) hS.2.2 dX6_goWeeks_199
    | succ r11 ih =>
      intro j11 g1 g2 w1 w2 w3 hrj hJ1 hjs hf1 hF H locs hP hD hS ls hl
      rw [fX6_goWeeks_L11] at hF
      refine lv_iload_n hx hb dX6_goWeeks_11 rfl (lv_at hl 0 rfl) ?_
      refine lv_aload_n hx hb dX6_goWeeks_12 rfl (lv_at hl 1 rfl) ?_
      refine va_get (D := (dC, dI)) (ci := 6) (v := .int (nI sn)) (C := RX6) (T := TX6) (N := 15) hx hb hts hiX6 hown hK hP 0 rfl rfl 5 (by decide) fl52 (fun _ h9 => h9) rfl dX6_goWeeks_13 ?_
      refine kx_ge hx hb (j11) (sn) rfl rfl (by omega) (by omega) dX6_goWeeks_16 (by decide) (tgt := 197) (fun c16 => ?_) (fun c16 => ?_)
      · rw [if_pos c16] at hF
        refine lv_bipush (v := (-6 : Int32)) hx hb dX6_goWeeks_197 (by decide) ?_
        subst hF
        subst hAe
        exact W.iret hx hb hr (fun t ht _ => ⟨⟨_, (), rfl, rfl, by rw [ht]; exact hP, hD⟩, hS.F ht⟩) hS.2.2 dX6_goWeeks_199
      · rw [if_neg (Nat.not_le.mpr c16)] at hF
        obtain ⟨hk1, hk2⟩ := fX6_flt hsn c16 hf1
        refine lv_aload_n hx hb dX6_goWeeks_19 rfl (lv_at hl 1 rfl) ?_
        refine va_get (D := (dC, dI)) (ci := 6) (v := .ref mp) (C := RX6) (T := TX6) (N := 15) hx hb hts hiX6 hown hK hP 0 rfl rfl 6 (by decide) fl22 (fun _ h9 => h9) rfl dX6_goWeeks_20 ?_
        refine lv_iload_n hx hb dX6_goWeeks_23 rfl (lv_at hl 0 rfl) ?_
        refine kx_ld hx hb hK hP 4 0 rfl rfl (j11) rfl (by omega) (by decide) dX6_goWeeks_24 ?_
        refine lv_istore_n (lv' := [(2, .int (pd j11)), (1, .int (nI j11)), (0, .ref hm)]) hx hb dX6_goWeeks_25 rfl hl (by decide) rfl (fun ls hl => ?_)
        refine lv_aload_n hx hb dX6_goWeeks_26 rfl (lv_at hl 2 rfl) ?_
        refine va_get (D := (dC, dI)) (ci := 6) (v := .ref mp) (C := RX6) (T := TX6) (N := 15) hx hb hts hiX6 hown hK hP 0 rfl rfl 6 (by decide) fl22 (fun _ h9 => h9) rfl dX6_goWeeks_27 ?_
        refine lv_iload_n hx hb dX6_goWeeks_30 rfl (lv_at hl 1 rfl) ?_
        refine lv_iconst (v := (1 : Int32)) hx hb dX6_goWeeks_31 (by decide) ?_
        refine lv_iadd hx hb dX6_goWeeks_32 ?_
        refine kx_e (nI_add (j11) (1)) ?_
        refine kx_ld hx hb hK hP 4 0 rfl rfl (j11 + 1) rfl (by omega) (by decide) dX6_goWeeks_33 ?_
        refine lv_istore_n (lv' := [(3, .int (pd (j11 + 1))), (2, .int (pd j11)), (1, .int (nI j11)), (0, .ref hm)]) hx hb dX6_goWeeks_34 rfl hl (by decide) rfl (fun ls hl => ?_)
        refine lv_iload_n hx hb dX6_goWeeks_35 rfl (lv_at hl 1 rfl) ?_
        refine kx_cS (As := [.int (pd j11)]) (rest := []) ⟨hx, hb, hml, hown, hts⟩ (c_X6_isHand l dC dI cyI cyZ  (pd j11)  _ rfl) (va_cwS 1 hts gX6_goWeeks_X6_isHand rfl rfl rfl (by decide +kernel) ⟨Nat.le_of_ble_eq_true rfl, Nat.le_of_ble_eq_true rfl⟩) hP hK hN [] rfl [0, 1] rfl rfl hl.1 rfl (Nat.le_of_ble_eq_true rfl) dX6_goWeeks_36 ⟨Nat.zero_le _, Nat.zero_le _⟩ ?_
        refine lv_if_eq (tgt := 64) hx hb dX6_goWeeks_39 (by decide) (fun c39 => ?_) (fun c39 => ?_)
        · rw [if_pos c39] at hF
          refine lv_iload_n hx hb dX6_goWeeks_64 rfl (lv_at hl 1 rfl) ?_
          refine lv_bipush (v := (45 : Int32)) hx hb dX6_goWeeks_65 (by decide) ?_
          refine lv_icmp_ne (tgt := 122) hx hb dX6_goWeeks_67 (by decide) (fun c67 => ?_) (fun c67 => ?_)
          · rw [if_neg c67] at hF
            refine lv_iload_n hx hb dX6_goWeeks_122 rfl (lv_at hl 1 rfl) ?_
            refine lv_bipush (v := (42 : Int32)) hx hb dX6_goWeeks_123 (by decide) ?_
            refine lv_icmp_ne (tgt := 146) hx hb dX6_goWeeks_125 (by decide) (fun c125 => ?_) (fun c125 => ?_)
            · rw [if_neg c125] at hF
              obtain ⟨hd1, hd2, hd4, hd3⟩ := hk2.2.2 c39 c67 c125
              obtain ⟨hp1, hp2, hp3⟩ := fX6_in_P 65 88 (by decide) (by decide) hd2
              obtain ⟨hr1, hr2, hr3⟩ := fX6_in_P 97 100 (by decide) (by decide) hd4
              refine lv_aload_n hx hb dX6_goWeeks_146 rfl (lv_at hl 3 rfl) ?_
              refine lv_aload_n hx hb dX6_goWeeks_147 rfl (lv_at hl 3 rfl) ?_
              refine lv_iload_n hx hb dX6_goWeeks_148 rfl (lv_at hl 0 rfl) ?_
              refine lv_bipush (v := (65 : Int32)) hx hb dX6_goWeeks_149 (by decide) ?_
              refine lv_isub hx hb dX6_goWeeks_151 ?_
              refine kx_e (kx_subN 65 hp1 hp2) ?_
              refine lv_aload_n hx hb dX6_goWeeks_152 rfl (lv_at hl 3 rfl) ?_
              refine va_get (D := (dC, dI)) (ci := 6) (v := .ref mp) (C := RX6) (T := TX6) (N := 15) hx hb hts hiX6 hown hK hP 0 rfl rfl 6 (by decide) fl22 (fun _ h9 => h9) rfl dX6_goWeeks_153 ?_
              refine lv_iload_n hx hb dX6_goWeeks_156 rfl (lv_at hl 2 rfl) ?_
              refine lv_iconst (v := (2 : Int32)) hx hb dX6_goWeeks_157 (by decide) ?_
              refine lv_iadd hx hb dX6_goWeeks_158 ?_
              refine kx_e (nI_add (j11) (2)) ?_
              refine kx_ld hx hb hK hP 4 0 rfl rfl (j11 + 2) rfl (by omega) (by decide) dX6_goWeeks_159 ?_
              refine lv_bipush (v := (97 : Int32)) hx hb dX6_goWeeks_160 (by decide) ?_
              refine lv_isub hx hb dX6_goWeeks_162 ?_
              refine kx_e (kx_subN 97 hr1 hr2) ?_
              generalize hq163 : fX6_mend g1 kn ((pd (j11 + 1)).toNatClampNeg - 65) ((pd (j11 + 2)).toNatClampNeg - 97) = q163 at hF
              obtain ⟨q163a, q163b⟩ := q163
              dsimp only at hF
              refine kx_wVi (As := [.int (nI ((pd (j11 + 1)).toNatClampNeg - 65)), .int (nI ((pd (j11 + 2)).toNatClampNeg - 97))]) (rest := [.ref hm]) (wr := [(mb, .inl (cyI, 97, .inl bk)), (mp, .inl (cyI, 60, .inl pd)), (mq, .inl (cyI, 24, .inl g2))]) (wc' := [(hm, .inr (6, [.ref mb, .ref mn, .ref mk, .int (nI sg), .ref ms, .int (nI sn), .ref mp, .int w1, .ref mq, .int w2, .int w3, .ref mi, .ref mz, .ref ma, .ref mc])), (mn, .inl (cyI, 97, .inl q163b)), (mk, .inl (cyI, 4, .inl kn))]) (W1 := [(hm, .inr (6, [.ref mb, .ref mn, .ref mk, .int (nI sg), .ref ms, .int (nI sn), .ref mp, .int w1, .ref mq, .int w2, .int w3, .ref mi, .ref mz, .ref ma, .ref mc])), (mb, .inl (cyI, 97, .inl bk)), (mn, .inl (cyI, 97, .inl q163b)), (mk, .inl (cyI, 4, .inl kn)), (mp, .inl (cyI, 60, .inl pd)), (mq, .inl (cyI, 24, .inl g2))]) ⟨hx, hb, hml, hown, hts⟩ (c_X6_mend l dC dI cyI cyZ hm mb mn mk ms mp mq mi mz ma mc sg sn w1 w2 w3 g1 kn ((pd (j11 + 1)).toNatClampNeg - 65) ((pd (j11 + 2)).toNatClampNeg - 97) hJ1 (by omega) (by omega) _ _ hq163) (cwV 2 hts gX6_goWeeks_X6_mend rfl rfl rfl (by decide +kernel) ⟨Nat.le_of_ble_eq_true rfl, Nat.le_of_ble_eq_true rfl⟩) hP hD hS hA hK hN [0, 2, 3] [1, 4, 5] [3, 0, 4, 5, 1, 2] rfl (by decide) rfl (by decide) (by decide) (by decide) rfl [0, 1] rfl 6 0 rfl rfl rfl rfl hl.1 rfl (Nat.le_of_ble_eq_true rfl) dX6_goWeeks_163 ⟨Nat.zero_le _, Nat.zero_le _⟩ (fun H locs hP hD hS => ?_)
              have hJn : kx_I q163b := fX6_mend_I hJ1 hq163
              have hfn : fX6_faultOf_L4 sn pd (sn - (j11 + 3)) (j11 + 3) (0 : Int32) = (-6 : Int32) := hd3
              have hjn : j11 + 3 ≤ sn := by omega
              refine va_put (D := (dC, dI)) (ci := 6) (v := .int q163a) (ty := .int) (C := RX6) (T := TX6) (N := 15) hx hb hts hiX6 tyX6 tyX6_ok nmX6 hown hK hP hD hS 0 rfl rfl 9 (by decide) fl94 (fun _ h9 => h9) rfl (by decide +kernel) rfl rfl (Nat.le_of_ble_eq_true rfl) dX6_goWeeks_166 (fun H locs hP hD hS => ?_)
              have hP : va_P (dC, dI) vwCl [(hm, .inr (6, [.ref mb, .ref mn, .ref mk, .int (nI sg), .ref ms, .int (nI sn), .ref mp, .int w1, .ref mq, .int q163a, .int w3, .ref mi, .ref mz, .ref ma, .ref mc])), (mb, .inl (cyI, 97, .inl bk)), (mn, .inl (cyI, 97, .inl q163b)), (mk, .inl (cyI, 4, .inl kn)), (mp, .inl (cyI, 60, .inl pd)), (mq, .inl (cyI, 24, .inl g2))] H := hP
              have hD : va_D A [(hm, .inr (6, [.ref mb, .ref mn, .ref mk, .int (nI sg), .ref ms, .int (nI sn), .ref mp, .int w1, .ref mq, .int q163a, .int w3, .ref mi, .ref mz, .ref ma, .ref mc])), (mb, .inl (cyI, 97, .inl bk)), (mn, .inl (cyI, 97, .inl q163b)), (mk, .inl (cyI, 4, .inl kn)), (mp, .inl (cyI, 60, .inl pd)), (mq, .inl (cyI, 24, .inl g2))] := hD
              refine lv_iinc (v := (nI (j11 + 3))) (lv' := [(1, .int (nI (j11 + 3))), (3, .int (pd (j11 + 1))), (2, .int (pd j11)), (0, .ref hm)]) hx hb dX6_goWeeks_169 hl (k := 2) rfl (by exact nI_add (j11) 3) (by decide) rfl (fun ls hl => ?_)
              refine lv_aload_n hx hb dX6_goWeeks_172 rfl (lv_at hl 3 rfl) ?_
              refine va_get (D := (dC, dI)) (ci := 6) (v := .int q163a) (C := RX6) (T := TX6) (N := 15) hx hb hts hiX6 hown hK hP 0 rfl rfl 9 (by decide) fl94 (fun _ h9 => h9) rfl dX6_goWeeks_173 ?_
              refine lv_if_le (tgt := 184) hx hb dX6_goWeeks_176 (by decide) (fun c176 => ?_) (fun c176 => ?_)
              · rw [if_pos c176] at hF
                refine lv_aload_n hx hb dX6_goWeeks_184 rfl (lv_at hl 3 rfl) ?_
                refine lv_dup hx hb dX6_goWeeks_185 rfl ?_
                refine va_get (D := (dC, dI)) (ci := 6) (v := .int w3) (C := RX6) (T := TX6) (N := 15) hx hb hts hiX6 hown hK hP 0 rfl rfl 10 (by decide) fl87 (fun _ h9 => h9) rfl dX6_goWeeks_186 ?_
                refine lv_iconst (v := (1 : Int32)) hx hb dX6_goWeeks_189 (by decide) ?_
                refine lv_iadd hx hb dX6_goWeeks_190 ?_
                refine va_put (D := (dC, dI)) (ci := 6) (v := .int (w3 + (1 : Int32))) (ty := .int) (C := RX6) (T := TX6) (N := 15) hx hb hts hiX6 tyX6 tyX6_ok nmX6 hown hK hP hD hS 0 rfl rfl 10 (by decide) fl87 (fun _ h9 => h9) rfl (by decide +kernel) rfl rfl (Nat.le_of_ble_eq_true rfl) dX6_goWeeks_191 (fun H locs hP hD hS => ?_)
                have hP : va_P (dC, dI) vwCl [(hm, .inr (6, [.ref mb, .ref mn, .ref mk, .int (nI sg), .ref ms, .int (nI sn), .ref mp, .int w1, .ref mq, .int q163a, .int (w3 + (1 : Int32)), .ref mi, .ref mz, .ref ma, .ref mc])), (mb, .inl (cyI, 97, .inl bk)), (mn, .inl (cyI, 97, .inl q163b)), (mk, .inl (cyI, 4, .inl kn)), (mp, .inl (cyI, 60, .inl pd)), (mq, .inl (cyI, 24, .inl g2))] H := hP
                have hD : va_D A [(hm, .inr (6, [.ref mb, .ref mn, .ref mk, .int (nI sg), .ref ms, .int (nI sn), .ref mp, .int w1, .ref mq, .int q163a, .int (w3 + (1 : Int32)), .ref mi, .ref mz, .ref ma, .ref mc])), (mb, .inl (cyI, 97, .inl bk)), (mn, .inl (cyI, 97, .inl q163b)), (mk, .inl (cyI, 4, .inl kn)), (mp, .inl (cyI, 60, .inl pd)), (mq, .inl (cyI, 24, .inl g2))] := hD
                refine lv_goto (tgt := 11) hx hb dX6_goWeeks_194 (by decide) ?_
                exact ih (j11 + 3) q163b g2 w1 q163a (w3 + (1 : Int32)) (by omega) hJn hjn hfn hF _ _ hP hD hS _ (lv_sub hl [0, 3] rfl)
              · rw [if_neg c176] at hF
                refine lv_aload_n hx hb dX6_goWeeks_179 rfl (lv_at hl 3 rfl) ?_
                refine va_get (D := (dC, dI)) (ci := 6) (v := .int w3) (C := RX6) (T := TX6) (N := 15) hx hb hts hiX6 hown hK hP 0 rfl rfl 10 (by decide) fl87 (fun _ h9 => h9) rfl dX6_goWeeks_180 ?_
                subst hF
                subst hAe
                exact W.iret hx hb hr (fun t ht _ => ⟨⟨_, (), rfl, rfl, by rw [ht]; exact hP, hD⟩, hS.F ht⟩) hS.2.2 dX6_goWeeks_183
            · rw [if_pos c125] at hF
              obtain ⟨hd2, hd3⟩ := hk2.2.1 c39 (Or.inr c125)
              obtain ⟨hp1, hp2, hp3⟩ := fX6_in_P 65 88 (by decide) (by decide) hd2
              refine lv_aload_n hx hb dX6_goWeeks_128 rfl (lv_at hl 3 rfl) ?_
              refine lv_aload_n hx hb dX6_goWeeks_129 rfl (lv_at hl 3 rfl) ?_
              refine lv_iload_n hx hb dX6_goWeeks_130 rfl (lv_at hl 0 rfl) ?_
              refine lv_bipush (v := (65 : Int32)) hx hb dX6_goWeeks_131 (by decide) ?_
              refine lv_isub hx hb dX6_goWeeks_133 ?_
              refine kx_e (kx_subN 65 hp1 hp2) ?_
              generalize hq134 : fX6_eat g1 ((pd (j11 + 1)).toNatClampNeg - 65) = q134 at hF
              obtain ⟨q134a, q134b⟩ := q134
              dsimp only at hF
              refine kx_wVi (As := [.int (nI ((pd (j11 + 1)).toNatClampNeg - 65))]) (rest := [.ref hm]) (wr := [(mb, .inl (cyI, 97, .inl bk)), (mk, .inl (cyI, 4, .inl kn)), (mp, .inl (cyI, 60, .inl pd)), (mq, .inl (cyI, 24, .inl g2))]) (wc' := [(hm, .inr (6, [.ref mb, .ref mn, .ref mk, .int (nI sg), .ref ms, .int (nI sn), .ref mp, .int w1, .ref mq, .int w2, .int w3, .ref mi, .ref mz, .ref ma, .ref mc])), (mn, .inl (cyI, 97, .inl q134b))]) (W1 := [(hm, .inr (6, [.ref mb, .ref mn, .ref mk, .int (nI sg), .ref ms, .int (nI sn), .ref mp, .int w1, .ref mq, .int w2, .int w3, .ref mi, .ref mz, .ref ma, .ref mc])), (mb, .inl (cyI, 97, .inl bk)), (mn, .inl (cyI, 97, .inl q134b)), (mk, .inl (cyI, 4, .inl kn)), (mp, .inl (cyI, 60, .inl pd)), (mq, .inl (cyI, 24, .inl g2))]) ⟨hx, hb, hml, hown, hts⟩ (c_X6_eat l dC dI cyI cyZ hm mb mn mk ms mp mq mi mz ma mc sg sn w1 w2 w3 g1 ((pd (j11 + 1)).toNatClampNeg - 65) hJ1 (by omega) _ _ hq134) (cwV 1 hts gX6_goWeeks_X6_eat rfl rfl rfl (by decide +kernel) ⟨Nat.le_of_ble_eq_true rfl, Nat.le_of_ble_eq_true rfl⟩) hP hD hS hA hK hN [0, 2] [1, 3, 4, 5] [4, 0, 5, 1, 2, 3] rfl (by decide) rfl (by decide) (by decide) (by decide) rfl [0, 1] rfl 6 0 rfl rfl rfl rfl hl.1 rfl (Nat.le_of_ble_eq_true rfl) dX6_goWeeks_134 ⟨Nat.zero_le _, Nat.zero_le _⟩ (fun H locs hP hD hS => ?_)
              have hJn : kx_I q134b := fX6_eat_I hJ1 hq134
              have hfn : fX6_faultOf_L4 sn pd (sn - (j11 + 2)) (j11 + 2) (0 : Int32) = (-6 : Int32) := hd3
              have hjn : j11 + 2 ≤ sn := by omega
              refine va_put (D := (dC, dI)) (ci := 6) (v := .int q134a) (ty := .int) (C := RX6) (T := TX6) (N := 15) hx hb hts hiX6 tyX6 tyX6_ok nmX6 hown hK hP hD hS 0 rfl rfl 9 (by decide) fl94 (fun _ h9 => h9) rfl (by decide +kernel) rfl rfl (Nat.le_of_ble_eq_true rfl) dX6_goWeeks_137 (fun H locs hP hD hS => ?_)
              have hP : va_P (dC, dI) vwCl [(hm, .inr (6, [.ref mb, .ref mn, .ref mk, .int (nI sg), .ref ms, .int (nI sn), .ref mp, .int w1, .ref mq, .int q134a, .int w3, .ref mi, .ref mz, .ref ma, .ref mc])), (mb, .inl (cyI, 97, .inl bk)), (mn, .inl (cyI, 97, .inl q134b)), (mk, .inl (cyI, 4, .inl kn)), (mp, .inl (cyI, 60, .inl pd)), (mq, .inl (cyI, 24, .inl g2))] H := hP
              have hD : va_D A [(hm, .inr (6, [.ref mb, .ref mn, .ref mk, .int (nI sg), .ref ms, .int (nI sn), .ref mp, .int w1, .ref mq, .int q134a, .int w3, .ref mi, .ref mz, .ref ma, .ref mc])), (mb, .inl (cyI, 97, .inl bk)), (mn, .inl (cyI, 97, .inl q134b)), (mk, .inl (cyI, 4, .inl kn)), (mp, .inl (cyI, 60, .inl pd)), (mq, .inl (cyI, 24, .inl g2))] := hD
              refine lv_iinc (v := (nI (j11 + 2))) (lv' := [(1, .int (nI (j11 + 2))), (3, .int (pd (j11 + 1))), (2, .int (pd j11)), (0, .ref hm)]) hx hb dX6_goWeeks_140 hl (k := 2) rfl (by exact nI_add (j11) 2) (by decide) rfl (fun ls hl => ?_)
              refine lv_goto (tgt := 172) hx hb dX6_goWeeks_143 (by decide) ?_
              refine lv_aload_n hx hb dX6_goWeeks_172 rfl (lv_at hl 3 rfl) ?_
              refine va_get (D := (dC, dI)) (ci := 6) (v := .int q134a) (C := RX6) (T := TX6) (N := 15) hx hb hts hiX6 hown hK hP 0 rfl rfl 9 (by decide) fl94 (fun _ h9 => h9) rfl dX6_goWeeks_173 ?_
              refine lv_if_le (tgt := 184) hx hb dX6_goWeeks_176 (by decide) (fun c176 => ?_) (fun c176 => ?_)
              · rw [if_pos c176] at hF
                refine lv_aload_n hx hb dX6_goWeeks_184 rfl (lv_at hl 3 rfl) ?_
                refine lv_dup hx hb dX6_goWeeks_185 rfl ?_
                refine va_get (D := (dC, dI)) (ci := 6) (v := .int w3) (C := RX6) (T := TX6) (N := 15) hx hb hts hiX6 hown hK hP 0 rfl rfl 10 (by decide) fl87 (fun _ h9 => h9) rfl dX6_goWeeks_186 ?_
                refine lv_iconst (v := (1 : Int32)) hx hb dX6_goWeeks_189 (by decide) ?_
                refine lv_iadd hx hb dX6_goWeeks_190 ?_
                refine va_put (D := (dC, dI)) (ci := 6) (v := .int (w3 + (1 : Int32))) (ty := .int) (C := RX6) (T := TX6) (N := 15) hx hb hts hiX6 tyX6 tyX6_ok nmX6 hown hK hP hD hS 0 rfl rfl 10 (by decide) fl87 (fun _ h9 => h9) rfl (by decide +kernel) rfl rfl (Nat.le_of_ble_eq_true rfl) dX6_goWeeks_191 (fun H locs hP hD hS => ?_)
                have hP : va_P (dC, dI) vwCl [(hm, .inr (6, [.ref mb, .ref mn, .ref mk, .int (nI sg), .ref ms, .int (nI sn), .ref mp, .int w1, .ref mq, .int q134a, .int (w3 + (1 : Int32)), .ref mi, .ref mz, .ref ma, .ref mc])), (mb, .inl (cyI, 97, .inl bk)), (mn, .inl (cyI, 97, .inl q134b)), (mk, .inl (cyI, 4, .inl kn)), (mp, .inl (cyI, 60, .inl pd)), (mq, .inl (cyI, 24, .inl g2))] H := hP
                have hD : va_D A [(hm, .inr (6, [.ref mb, .ref mn, .ref mk, .int (nI sg), .ref ms, .int (nI sn), .ref mp, .int w1, .ref mq, .int q134a, .int (w3 + (1 : Int32)), .ref mi, .ref mz, .ref ma, .ref mc])), (mb, .inl (cyI, 97, .inl bk)), (mn, .inl (cyI, 97, .inl q134b)), (mk, .inl (cyI, 4, .inl kn)), (mp, .inl (cyI, 60, .inl pd)), (mq, .inl (cyI, 24, .inl g2))] := hD
                refine lv_goto (tgt := 11) hx hb dX6_goWeeks_194 (by decide) ?_
                exact ih (j11 + 2) q134b g2 w1 q134a (w3 + (1 : Int32)) (by omega) hJn hjn hfn hF _ _ hP hD hS _ (lv_sub hl [0, 3] rfl)
              · rw [if_neg c176] at hF
                refine lv_aload_n hx hb dX6_goWeeks_179 rfl (lv_at hl 3 rfl) ?_
                refine va_get (D := (dC, dI)) (ci := 6) (v := .int w3) (C := RX6) (T := TX6) (N := 15) hx hb hts hiX6 hown hK hP 0 rfl rfl 10 (by decide) fl87 (fun _ h9 => h9) rfl dX6_goWeeks_180 ?_
                subst hF
                subst hAe
                exact W.iret hx hb hr (fun t ht _ => ⟨⟨_, (), rfl, rfl, by rw [ht]; exact hP, hD⟩, hS.F ht⟩) hS.2.2 dX6_goWeeks_183
          · rw [if_pos c67] at hF
            obtain ⟨hd2, hd3⟩ := hk2.2.1 c39 (Or.inl c67)
            obtain ⟨hp1, hp2, hp3⟩ := fX6_in_P 65 88 (by decide) (by decide) hd2
            refine lv_aload_n hx hb dX6_goWeeks_70 rfl (lv_at hl 3 rfl) ?_
            refine lv_iload_n hx hb dX6_goWeeks_71 rfl (lv_at hl 0 rfl) ?_
            refine lv_bipush (v := (65 : Int32)) hx hb dX6_goWeeks_72 (by decide) ?_
            refine lv_isub hx hb dX6_goWeeks_74 ?_
            refine kx_e (kx_subN 65 hp1 hp2) ?_
            generalize hq75 : fX6_pullOut g1 g2 ((pd (j11 + 1)).toNatClampNeg - 65) = q75 at hF
            obtain ⟨q75a, q75b, q75c⟩ := q75
            dsimp only at hF
            refine kx_wVi (As := [.int (nI ((pd (j11 + 1)).toNatClampNeg - 65))]) (rest := []) (wr := [(mb, .inl (cyI, 97, .inl bk)), (mk, .inl (cyI, 4, .inl kn)), (mp, .inl (cyI, 60, .inl pd))]) (wc' := [(hm, .inr (6, [.ref mb, .ref mn, .ref mk, .int (nI sg), .ref ms, .int (nI sn), .ref mp, .int w1, .ref mq, .int w2, .int w3, .ref mi, .ref mz, .ref ma, .ref mc])), (mn, .inl (cyI, 97, .inl q75b)), (mq, .inl (cyI, 24, .inl q75c))]) (W1 := [(hm, .inr (6, [.ref mb, .ref mn, .ref mk, .int (nI sg), .ref ms, .int (nI sn), .ref mp, .int w1, .ref mq, .int w2, .int w3, .ref mi, .ref mz, .ref ma, .ref mc])), (mb, .inl (cyI, 97, .inl bk)), (mn, .inl (cyI, 97, .inl q75b)), (mk, .inl (cyI, 4, .inl kn)), (mp, .inl (cyI, 60, .inl pd)), (mq, .inl (cyI, 24, .inl q75c))]) ⟨hx, hb, hml, hown, hts⟩ (c_X6_pullOut l dC dI cyI cyZ hm mb mn mk ms mp mq mi mz ma mc sg sn w1 w2 w3 g1 g2 ((pd (j11 + 1)).toNatClampNeg - 65) hJ1 (by omega) _ _ hq75) (cwV 1 hts gX6_goWeeks_X6_pullOut rfl rfl rfl (by decide +kernel) ⟨Nat.le_of_ble_eq_true rfl, Nat.le_of_ble_eq_true rfl⟩) hP hD hS hA hK hN [0, 2, 5] [1, 3, 4] [3, 0, 4, 1, 2, 5] rfl (by decide) rfl (by decide) (by decide) (by decide) rfl [0, 1] rfl 6 0 rfl rfl rfl rfl hl.1 rfl (Nat.le_of_ble_eq_true rfl) dX6_goWeeks_75 ⟨Nat.zero_le _, Nat.zero_le _⟩ (fun H locs hP hD hS => ?_)
            have hJn : kx_I q75b := fX6_pullOut_I hJ1 (by omega) hq75
            have hfn : fX6_faultOf_L4 sn pd (sn - (j11 + 2)) (j11 + 2) (0 : Int32) = (-6 : Int32) := hd3
            have hjn : j11 + 2 ≤ sn := by omega
            refine lv_istore (lv' := [(4, .int q75a), (3, .int (pd (j11 + 1))), (2, .int (pd j11)), (1, .int (nI j11)), (0, .ref hm)]) hx hb dX6_goWeeks_78 hl (by decide) rfl (fun ls hl => ?_)
            refine lv_aload_n hx hb dX6_goWeeks_80 rfl (lv_at hl 4 rfl) ?_
            refine lv_iload hx hb dX6_goWeeks_81 (lv_at hl 0 rfl) ?_
            refine lv_if_ge (tgt := 90) hx hb dX6_goWeeks_83 (by decide) (fun c83 => ?_) (fun c83 => ?_)
            · rw [if_pos c83] at hF
              refine lv_iconst (v := (0 : Int32)) hx hb dX6_goWeeks_90 (by decide) ?_
              refine va_put (D := (dC, dI)) (ci := 6) (v := .int (0 : Int32)) (ty := .int) (C := RX6) (T := TX6) (N := 15) hx hb hts hiX6 tyX6 tyX6_ok nmX6 hown hK hP hD hS 0 rfl rfl 9 (by decide) fl94 (fun _ h9 => h9) rfl (by decide +kernel) rfl rfl (Nat.le_of_ble_eq_true rfl) dX6_goWeeks_91 (fun H locs hP hD hS => ?_)
              have hP : va_P (dC, dI) vwCl [(hm, .inr (6, [.ref mb, .ref mn, .ref mk, .int (nI sg), .ref ms, .int (nI sn), .ref mp, .int w1, .ref mq, .int (0 : Int32), .int w3, .ref mi, .ref mz, .ref ma, .ref mc])), (mb, .inl (cyI, 97, .inl bk)), (mn, .inl (cyI, 97, .inl q75b)), (mk, .inl (cyI, 4, .inl kn)), (mp, .inl (cyI, 60, .inl pd)), (mq, .inl (cyI, 24, .inl q75c))] H := hP
              have hD : va_D A [(hm, .inr (6, [.ref mb, .ref mn, .ref mk, .int (nI sg), .ref ms, .int (nI sn), .ref mp, .int w1, .ref mq, .int (0 : Int32), .int w3, .ref mi, .ref mz, .ref ma, .ref mc])), (mb, .inl (cyI, 97, .inl bk)), (mn, .inl (cyI, 97, .inl q75b)), (mk, .inl (cyI, 4, .inl kn)), (mp, .inl (cyI, 60, .inl pd)), (mq, .inl (cyI, 24, .inl q75c))] := hD
              refine lv_aload_n hx hb dX6_goWeeks_94 rfl (lv_at hl 4 rfl) ?_
              refine lv_iload hx hb dX6_goWeeks_95 (lv_at hl 0 rfl) ?_
              refine lv_aload_n hx hb dX6_goWeeks_97 rfl (lv_at hl 4 rfl) ?_
              refine va_get (D := (dC, dI)) (ci := 6) (v := .int w1) (C := RX6) (T := TX6) (N := 15) hx hb hts hiX6 hown hK hP 0 rfl rfl 7 (by decide) fl66 (fun _ h9 => h9) rfl dX6_goWeeks_98 ?_
              refine lv_icmp_le (tgt := 109) hx hb dX6_goWeeks_101 (by decide) (fun c101 => ?_) (fun c101 => ?_)
              · rw [if_pos c101] at hF
                refine lv_aload_n hx hb dX6_goWeeks_109 rfl (lv_at hl 4 rfl) ?_
                refine va_get (D := (dC, dI)) (ci := 6) (v := .int w1) (C := RX6) (T := TX6) (N := 15) hx hb hts hiX6 hown hK hP 0 rfl rfl 7 (by decide) fl66 (fun _ h9 => h9) rfl dX6_goWeeks_110 ?_
                refine va_put (D := (dC, dI)) (ci := 6) (v := .int w1) (ty := .int) (C := RX6) (T := TX6) (N := 15) hx hb hts hiX6 tyX6 tyX6_ok nmX6 hown hK hP hD hS 0 rfl rfl 7 (by decide) fl66 (fun _ h9 => h9) rfl (by decide +kernel) rfl rfl (Nat.le_of_ble_eq_true rfl) dX6_goWeeks_113 (fun H locs hP hD hS => ?_)
                have hP : va_P (dC, dI) vwCl [(hm, .inr (6, [.ref mb, .ref mn, .ref mk, .int (nI sg), .ref ms, .int (nI sn), .ref mp, .int w1, .ref mq, .int (0 : Int32), .int w3, .ref mi, .ref mz, .ref ma, .ref mc])), (mb, .inl (cyI, 97, .inl bk)), (mn, .inl (cyI, 97, .inl q75b)), (mk, .inl (cyI, 4, .inl kn)), (mp, .inl (cyI, 60, .inl pd)), (mq, .inl (cyI, 24, .inl q75c))] H := hP
                have hD : va_D A [(hm, .inr (6, [.ref mb, .ref mn, .ref mk, .int (nI sg), .ref ms, .int (nI sn), .ref mp, .int w1, .ref mq, .int (0 : Int32), .int w3, .ref mi, .ref mz, .ref ma, .ref mc])), (mb, .inl (cyI, 97, .inl bk)), (mn, .inl (cyI, 97, .inl q75b)), (mk, .inl (cyI, 4, .inl kn)), (mp, .inl (cyI, 60, .inl pd)), (mq, .inl (cyI, 24, .inl q75c))] := hD
                refine lv_iinc (v := (nI (j11 + 2))) (lv' := [(1, .int (nI (j11 + 2))), (4, .int q75a), (3, .int (pd (j11 + 1))), (2, .int (pd j11)), (0, .ref hm)]) hx hb dX6_goWeeks_116 hl (k := 3) rfl (by exact nI_add (j11) 2) (by decide) rfl (fun ls hl => ?_)
                refine lv_goto (tgt := 172) hx hb dX6_goWeeks_119 (by decide) ?_
                refine lv_aload_n hx hb dX6_goWeeks_172 rfl (lv_at hl 4 rfl) ?_
                refine va_get (D := (dC, dI)) (ci := 6) (v := .int (0 : Int32)) (C := RX6) (T := TX6) (N := 15) hx hb hts hiX6 hown hK hP 0 rfl rfl 9 (by decide) fl94 (fun _ h9 => h9) rfl dX6_goWeeks_173 ?_
                refine lv_if_le (tgt := 184) hx hb dX6_goWeeks_176 (by decide) (fun c176 => ?_) (fun c176 => absurd c176 (by decide))
                refine lv_aload_n hx hb dX6_goWeeks_184 rfl (lv_at hl 4 rfl) ?_
                refine lv_dup hx hb dX6_goWeeks_185 rfl ?_
                refine va_get (D := (dC, dI)) (ci := 6) (v := .int w3) (C := RX6) (T := TX6) (N := 15) hx hb hts hiX6 hown hK hP 0 rfl rfl 10 (by decide) fl87 (fun _ h9 => h9) rfl dX6_goWeeks_186 ?_
                refine lv_iconst (v := (1 : Int32)) hx hb dX6_goWeeks_189 (by decide) ?_
                refine lv_iadd hx hb dX6_goWeeks_190 ?_
                refine va_put (D := (dC, dI)) (ci := 6) (v := .int (w3 + (1 : Int32))) (ty := .int) (C := RX6) (T := TX6) (N := 15) hx hb hts hiX6 tyX6 tyX6_ok nmX6 hown hK hP hD hS 0 rfl rfl 10 (by decide) fl87 (fun _ h9 => h9) rfl (by decide +kernel) rfl rfl (Nat.le_of_ble_eq_true rfl) dX6_goWeeks_191 (fun H locs hP hD hS => ?_)
                have hP : va_P (dC, dI) vwCl [(hm, .inr (6, [.ref mb, .ref mn, .ref mk, .int (nI sg), .ref ms, .int (nI sn), .ref mp, .int w1, .ref mq, .int (0 : Int32), .int (w3 + (1 : Int32)), .ref mi, .ref mz, .ref ma, .ref mc])), (mb, .inl (cyI, 97, .inl bk)), (mn, .inl (cyI, 97, .inl q75b)), (mk, .inl (cyI, 4, .inl kn)), (mp, .inl (cyI, 60, .inl pd)), (mq, .inl (cyI, 24, .inl q75c))] H := hP
                have hD : va_D A [(hm, .inr (6, [.ref mb, .ref mn, .ref mk, .int (nI sg), .ref ms, .int (nI sn), .ref mp, .int w1, .ref mq, .int (0 : Int32), .int (w3 + (1 : Int32)), .ref mi, .ref mz, .ref ma, .ref mc])), (mb, .inl (cyI, 97, .inl bk)), (mn, .inl (cyI, 97, .inl q75b)), (mk, .inl (cyI, 4, .inl kn)), (mp, .inl (cyI, 60, .inl pd)), (mq, .inl (cyI, 24, .inl q75c))] := hD
                refine lv_goto (tgt := 11) hx hb dX6_goWeeks_194 (by decide) ?_
                exact ih (j11 + 2) q75b q75c w1 (0 : Int32) (w3 + (1 : Int32)) (by omega) hJn hjn hfn hF _ _ hP hD hS _ (lv_sub hl [0, 4] rfl)
              · rw [if_neg c101] at hF
                refine lv_iload hx hb dX6_goWeeks_104 (lv_at hl 0 rfl) ?_
                refine lv_goto (tgt := 113) hx hb dX6_goWeeks_106 (by decide) ?_
                refine va_put (D := (dC, dI)) (ci := 6) (v := .int q75a) (ty := .int) (C := RX6) (T := TX6) (N := 15) hx hb hts hiX6 tyX6 tyX6_ok nmX6 hown hK hP hD hS 0 rfl rfl 7 (by decide) fl66 (fun _ h9 => h9) rfl (by decide +kernel) rfl rfl (Nat.le_of_ble_eq_true rfl) dX6_goWeeks_113 (fun H locs hP hD hS => ?_)
                have hP : va_P (dC, dI) vwCl [(hm, .inr (6, [.ref mb, .ref mn, .ref mk, .int (nI sg), .ref ms, .int (nI sn), .ref mp, .int q75a, .ref mq, .int (0 : Int32), .int w3, .ref mi, .ref mz, .ref ma, .ref mc])), (mb, .inl (cyI, 97, .inl bk)), (mn, .inl (cyI, 97, .inl q75b)), (mk, .inl (cyI, 4, .inl kn)), (mp, .inl (cyI, 60, .inl pd)), (mq, .inl (cyI, 24, .inl q75c))] H := hP
                have hD : va_D A [(hm, .inr (6, [.ref mb, .ref mn, .ref mk, .int (nI sg), .ref ms, .int (nI sn), .ref mp, .int q75a, .ref mq, .int (0 : Int32), .int w3, .ref mi, .ref mz, .ref ma, .ref mc])), (mb, .inl (cyI, 97, .inl bk)), (mn, .inl (cyI, 97, .inl q75b)), (mk, .inl (cyI, 4, .inl kn)), (mp, .inl (cyI, 60, .inl pd)), (mq, .inl (cyI, 24, .inl q75c))] := hD
                refine lv_iinc (v := (nI (j11 + 2))) (lv' := [(1, .int (nI (j11 + 2))), (4, .int q75a), (3, .int (pd (j11 + 1))), (2, .int (pd j11)), (0, .ref hm)]) hx hb dX6_goWeeks_116 hl (k := 3) rfl (by exact nI_add (j11) 2) (by decide) rfl (fun ls hl => ?_)
                refine lv_goto (tgt := 172) hx hb dX6_goWeeks_119 (by decide) ?_
                refine lv_aload_n hx hb dX6_goWeeks_172 rfl (lv_at hl 4 rfl) ?_
                refine va_get (D := (dC, dI)) (ci := 6) (v := .int (0 : Int32)) (C := RX6) (T := TX6) (N := 15) hx hb hts hiX6 hown hK hP 0 rfl rfl 9 (by decide) fl94 (fun _ h9 => h9) rfl dX6_goWeeks_173 ?_
                refine lv_if_le (tgt := 184) hx hb dX6_goWeeks_176 (by decide) (fun c176 => ?_) (fun c176 => absurd c176 (by decide))
                refine lv_aload_n hx hb dX6_goWeeks_184 rfl (lv_at hl 4 rfl) ?_
                refine lv_dup hx hb dX6_goWeeks_185 rfl ?_
                refine va_get (D := (dC, dI)) (ci := 6) (v := .int w3) (C := RX6) (T := TX6) (N := 15) hx hb hts hiX6 hown hK hP 0 rfl rfl 10 (by decide) fl87 (fun _ h9 => h9) rfl dX6_goWeeks_186 ?_
                refine lv_iconst (v := (1 : Int32)) hx hb dX6_goWeeks_189 (by decide) ?_
                refine lv_iadd hx hb dX6_goWeeks_190 ?_
                refine va_put (D := (dC, dI)) (ci := 6) (v := .int (w3 + (1 : Int32))) (ty := .int) (C := RX6) (T := TX6) (N := 15) hx hb hts hiX6 tyX6 tyX6_ok nmX6 hown hK hP hD hS 0 rfl rfl 10 (by decide) fl87 (fun _ h9 => h9) rfl (by decide +kernel) rfl rfl (Nat.le_of_ble_eq_true rfl) dX6_goWeeks_191 (fun H locs hP hD hS => ?_)
                have hP : va_P (dC, dI) vwCl [(hm, .inr (6, [.ref mb, .ref mn, .ref mk, .int (nI sg), .ref ms, .int (nI sn), .ref mp, .int q75a, .ref mq, .int (0 : Int32), .int (w3 + (1 : Int32)), .ref mi, .ref mz, .ref ma, .ref mc])), (mb, .inl (cyI, 97, .inl bk)), (mn, .inl (cyI, 97, .inl q75b)), (mk, .inl (cyI, 4, .inl kn)), (mp, .inl (cyI, 60, .inl pd)), (mq, .inl (cyI, 24, .inl q75c))] H := hP
                have hD : va_D A [(hm, .inr (6, [.ref mb, .ref mn, .ref mk, .int (nI sg), .ref ms, .int (nI sn), .ref mp, .int q75a, .ref mq, .int (0 : Int32), .int (w3 + (1 : Int32)), .ref mi, .ref mz, .ref ma, .ref mc])), (mb, .inl (cyI, 97, .inl bk)), (mn, .inl (cyI, 97, .inl q75b)), (mk, .inl (cyI, 4, .inl kn)), (mp, .inl (cyI, 60, .inl pd)), (mq, .inl (cyI, 24, .inl q75c))] := hD
                refine lv_goto (tgt := 11) hx hb dX6_goWeeks_194 (by decide) ?_
                exact ih (j11 + 2) q75b q75c q75a (0 : Int32) (w3 + (1 : Int32)) (by omega) hJn hjn hfn hF _ _ hP hD hS _ (lv_sub hl [0, 4] rfl)
            · rw [if_neg c83] at hF
              refine lv_iconst (v := (1 : Int32)) hx hb dX6_goWeeks_86 (by decide) ?_
              refine lv_goto (tgt := 91) hx hb dX6_goWeeks_87 (by decide) ?_
              refine va_put (D := (dC, dI)) (ci := 6) (v := .int (1 : Int32)) (ty := .int) (C := RX6) (T := TX6) (N := 15) hx hb hts hiX6 tyX6 tyX6_ok nmX6 hown hK hP hD hS 0 rfl rfl 9 (by decide) fl94 (fun _ h9 => h9) rfl (by decide +kernel) rfl rfl (Nat.le_of_ble_eq_true rfl) dX6_goWeeks_91 (fun H locs hP hD hS => ?_)
              have hP : va_P (dC, dI) vwCl [(hm, .inr (6, [.ref mb, .ref mn, .ref mk, .int (nI sg), .ref ms, .int (nI sn), .ref mp, .int w1, .ref mq, .int (1 : Int32), .int w3, .ref mi, .ref mz, .ref ma, .ref mc])), (mb, .inl (cyI, 97, .inl bk)), (mn, .inl (cyI, 97, .inl q75b)), (mk, .inl (cyI, 4, .inl kn)), (mp, .inl (cyI, 60, .inl pd)), (mq, .inl (cyI, 24, .inl q75c))] H := hP
              have hD : va_D A [(hm, .inr (6, [.ref mb, .ref mn, .ref mk, .int (nI sg), .ref ms, .int (nI sn), .ref mp, .int w1, .ref mq, .int (1 : Int32), .int w3, .ref mi, .ref mz, .ref ma, .ref mc])), (mb, .inl (cyI, 97, .inl bk)), (mn, .inl (cyI, 97, .inl q75b)), (mk, .inl (cyI, 4, .inl kn)), (mp, .inl (cyI, 60, .inl pd)), (mq, .inl (cyI, 24, .inl q75c))] := hD
              refine lv_aload_n hx hb dX6_goWeeks_94 rfl (lv_at hl 4 rfl) ?_
              refine lv_iload hx hb dX6_goWeeks_95 (lv_at hl 0 rfl) ?_
              refine lv_aload_n hx hb dX6_goWeeks_97 rfl (lv_at hl 4 rfl) ?_
              refine va_get (D := (dC, dI)) (ci := 6) (v := .int w1) (C := RX6) (T := TX6) (N := 15) hx hb hts hiX6 hown hK hP 0 rfl rfl 7 (by decide) fl66 (fun _ h9 => h9) rfl dX6_goWeeks_98 ?_
              refine lv_icmp_le (tgt := 109) hx hb dX6_goWeeks_101 (by decide) (fun c101 => ?_) (fun c101 => ?_)
              · rw [if_pos c101] at hF
                refine lv_aload_n hx hb dX6_goWeeks_109 rfl (lv_at hl 4 rfl) ?_
                refine va_get (D := (dC, dI)) (ci := 6) (v := .int w1) (C := RX6) (T := TX6) (N := 15) hx hb hts hiX6 hown hK hP 0 rfl rfl 7 (by decide) fl66 (fun _ h9 => h9) rfl dX6_goWeeks_110 ?_
                refine va_put (D := (dC, dI)) (ci := 6) (v := .int w1) (ty := .int) (C := RX6) (T := TX6) (N := 15) hx hb hts hiX6 tyX6 tyX6_ok nmX6 hown hK hP hD hS 0 rfl rfl 7 (by decide) fl66 (fun _ h9 => h9) rfl (by decide +kernel) rfl rfl (Nat.le_of_ble_eq_true rfl) dX6_goWeeks_113 (fun H locs hP hD hS => ?_)
                have hP : va_P (dC, dI) vwCl [(hm, .inr (6, [.ref mb, .ref mn, .ref mk, .int (nI sg), .ref ms, .int (nI sn), .ref mp, .int w1, .ref mq, .int (1 : Int32), .int w3, .ref mi, .ref mz, .ref ma, .ref mc])), (mb, .inl (cyI, 97, .inl bk)), (mn, .inl (cyI, 97, .inl q75b)), (mk, .inl (cyI, 4, .inl kn)), (mp, .inl (cyI, 60, .inl pd)), (mq, .inl (cyI, 24, .inl q75c))] H := hP
                have hD : va_D A [(hm, .inr (6, [.ref mb, .ref mn, .ref mk, .int (nI sg), .ref ms, .int (nI sn), .ref mp, .int w1, .ref mq, .int (1 : Int32), .int w3, .ref mi, .ref mz, .ref ma, .ref mc])), (mb, .inl (cyI, 97, .inl bk)), (mn, .inl (cyI, 97, .inl q75b)), (mk, .inl (cyI, 4, .inl kn)), (mp, .inl (cyI, 60, .inl pd)), (mq, .inl (cyI, 24, .inl q75c))] := hD
                refine lv_iinc (v := (nI (j11 + 2))) (lv' := [(1, .int (nI (j11 + 2))), (4, .int q75a), (3, .int (pd (j11 + 1))), (2, .int (pd j11)), (0, .ref hm)]) hx hb dX6_goWeeks_116 hl (k := 3) rfl (by exact nI_add (j11) 2) (by decide) rfl (fun ls hl => ?_)
                refine lv_goto (tgt := 172) hx hb dX6_goWeeks_119 (by decide) ?_
                refine lv_aload_n hx hb dX6_goWeeks_172 rfl (lv_at hl 4 rfl) ?_
                refine va_get (D := (dC, dI)) (ci := 6) (v := .int (1 : Int32)) (C := RX6) (T := TX6) (N := 15) hx hb hts hiX6 hown hK hP 0 rfl rfl 9 (by decide) fl94 (fun _ h9 => h9) rfl dX6_goWeeks_173 ?_
                refine lv_if_le (tgt := 184) hx hb dX6_goWeeks_176 (by decide) (fun c176 => absurd c176 (by decide)) (fun c176 => ?_)
                refine lv_aload_n hx hb dX6_goWeeks_179 rfl (lv_at hl 4 rfl) ?_
                refine va_get (D := (dC, dI)) (ci := 6) (v := .int w3) (C := RX6) (T := TX6) (N := 15) hx hb hts hiX6 hown hK hP 0 rfl rfl 10 (by decide) fl87 (fun _ h9 => h9) rfl dX6_goWeeks_180 ?_
                subst hF
                subst hAe
                exact W.iret hx hb hr (fun t ht _ => ⟨⟨_, (), rfl, rfl, by rw [ht]; exact hP, hD⟩, hS.F ht⟩) hS.2.2 dX6_goWeeks_183
              · rw [if_neg c101] at hF
                refine lv_iload hx hb dX6_goWeeks_104 (lv_at hl 0 rfl) ?_
                refine lv_goto (tgt := 113) hx hb dX6_goWeeks_106 (by decide) ?_
                refine va_put (D := (dC, dI)) (ci := 6) (v := .int q75a) (ty := .int) (C := RX6) (T := TX6) (N := 15) hx hb hts hiX6 tyX6 tyX6_ok nmX6 hown hK hP hD hS 0 rfl rfl 7 (by decide) fl66 (fun _ h9 => h9) rfl (by decide +kernel) rfl rfl (Nat.le_of_ble_eq_true rfl) dX6_goWeeks_113 (fun H locs hP hD hS => ?_)
                have hP : va_P (dC, dI) vwCl [(hm, .inr (6, [.ref mb, .ref mn, .ref mk, .int (nI sg), .ref ms, .int (nI sn), .ref mp, .int q75a, .ref mq, .int (1 : Int32), .int w3, .ref mi, .ref mz, .ref ma, .ref mc])), (mb, .inl (cyI, 97, .inl bk)), (mn, .inl (cyI, 97, .inl q75b)), (mk, .inl (cyI, 4, .inl kn)), (mp, .inl (cyI, 60, .inl pd)), (mq, .inl (cyI, 24, .inl q75c))] H := hP
                have hD : va_D A [(hm, .inr (6, [.ref mb, .ref mn, .ref mk, .int (nI sg), .ref ms, .int (nI sn), .ref mp, .int q75a, .ref mq, .int (1 : Int32), .int w3, .ref mi, .ref mz, .ref ma, .ref mc])), (mb, .inl (cyI, 97, .inl bk)), (mn, .inl (cyI, 97, .inl q75b)), (mk, .inl (cyI, 4, .inl kn)), (mp, .inl (cyI, 60, .inl pd)), (mq, .inl (cyI, 24, .inl q75c))] := hD
                refine lv_iinc (v := (nI (j11 + 2))) (lv' := [(1, .int (nI (j11 + 2))), (4, .int q75a), (3, .int (pd (j11 + 1))), (2, .int (pd j11)), (0, .ref hm)]) hx hb dX6_goWeeks_116 hl (k := 3) rfl (by exact nI_add (j11) 2) (by decide) rfl (fun ls hl => ?_)
                refine lv_goto (tgt := 172) hx hb dX6_goWeeks_119 (by decide) ?_
                refine lv_aload_n hx hb dX6_goWeeks_172 rfl (lv_at hl 4 rfl) ?_
                refine va_get (D := (dC, dI)) (ci := 6) (v := .int (1 : Int32)) (C := RX6) (T := TX6) (N := 15) hx hb hts hiX6 hown hK hP 0 rfl rfl 9 (by decide) fl94 (fun _ h9 => h9) rfl dX6_goWeeks_173 ?_
                refine lv_if_le (tgt := 184) hx hb dX6_goWeeks_176 (by decide) (fun c176 => absurd c176 (by decide)) (fun c176 => ?_)
                refine lv_aload_n hx hb dX6_goWeeks_179 rfl (lv_at hl 4 rfl) ?_
                refine va_get (D := (dC, dI)) (ci := 6) (v := .int w3) (C := RX6) (T := TX6) (N := 15) hx hb hts hiX6 hown hK hP 0 rfl rfl 10 (by decide) fl87 (fun _ h9 => h9) rfl dX6_goWeeks_180 ?_
                subst hF
                subst hAe
                exact W.iret hx hb hr (fun t ht _ => ⟨⟨_, (), rfl, rfl, by rw [ht]; exact hP, hD⟩, hS.F ht⟩) hS.2.2 dX6_goWeeks_183
        · rw [if_neg c39] at hF
          obtain ⟨hd1, hd2, hd3⟩ := hk2.1 c39
          obtain ⟨hp1, hp2, hp3⟩ := fX6_in_P 97 100 (by decide) (by decide) c39
          refine lv_aload_n hx hb dX6_goWeeks_42 rfl (lv_at hl 3 rfl) ?_
          refine lv_aload_n hx hb dX6_goWeeks_43 rfl (lv_at hl 3 rfl) ?_
          refine lv_iload_n hx hb dX6_goWeeks_44 rfl (lv_at hl 1 rfl) ?_
          refine lv_bipush (v := (97 : Int32)) hx hb dX6_goWeeks_45 (by decide) ?_
          refine lv_isub hx hb dX6_goWeeks_47 ?_
          refine kx_e (kx_subN 97 hp1 hp2) ?_
          refine lv_iload_n hx hb dX6_goWeeks_48 rfl (lv_at hl 0 rfl) ?_
          refine lv_bipush (v := (48 : Int32)) hx hb dX6_goWeeks_49 (by decide) ?_
          refine lv_isub hx hb dX6_goWeeks_51 ?_
          generalize hq52 : fX6_knit g1 kn ((pd j11).toNatClampNeg - 97) ((pd (j11 + 1)) - (48 : Int32)) = q52 at hF
          obtain ⟨q52a, q52b⟩ := q52
          dsimp only at hF
          refine kx_wVi (As := [.int (nI ((pd j11).toNatClampNeg - 97)), .int ((pd (j11 + 1)) - (48 : Int32))]) (rest := [.ref hm]) (wr := [(mb, .inl (cyI, 97, .inl bk)), (mp, .inl (cyI, 60, .inl pd)), (mq, .inl (cyI, 24, .inl g2))]) (wc' := [(hm, .inr (6, [.ref mb, .ref mn, .ref mk, .int (nI sg), .ref ms, .int (nI sn), .ref mp, .int w1, .ref mq, .int w2, .int w3, .ref mi, .ref mz, .ref ma, .ref mc])), (mn, .inl (cyI, 97, .inl q52b)), (mk, .inl (cyI, 4, .inl kn))]) (W1 := [(hm, .inr (6, [.ref mb, .ref mn, .ref mk, .int (nI sg), .ref ms, .int (nI sn), .ref mp, .int w1, .ref mq, .int w2, .int w3, .ref mi, .ref mz, .ref ma, .ref mc])), (mb, .inl (cyI, 97, .inl bk)), (mn, .inl (cyI, 97, .inl q52b)), (mk, .inl (cyI, 4, .inl kn)), (mp, .inl (cyI, 60, .inl pd)), (mq, .inl (cyI, 24, .inl g2))]) ⟨hx, hb, hml, hown, hts⟩ (c_X6_knit l dC dI cyI cyZ hm mb mn mk ms mp mq mi mz ma mc sg sn w1 w2 w3 g1 kn ((pd j11).toNatClampNeg - 97) ((pd (j11 + 1)) - (48 : Int32)) hJ1 (by omega) _ _ hq52) (cwV 2 hts gX6_goWeeks_X6_knit rfl rfl rfl (by decide +kernel) ⟨Nat.le_of_ble_eq_true rfl, Nat.le_of_ble_eq_true rfl⟩) hP hD hS hA hK hN [0, 2, 3] [1, 4, 5] [3, 0, 4, 5, 1, 2] rfl (by decide) rfl (by decide) (by decide) (by decide) rfl [0, 1] rfl 6 0 rfl rfl rfl rfl hl.1 rfl (Nat.le_of_ble_eq_true rfl) dX6_goWeeks_52 ⟨Nat.zero_le _, Nat.zero_le _⟩ (fun H locs hP hD hS => ?_)
          have hJn : kx_I q52b := fX6_knit_I hJ1 hq52
          have hfn : fX6_faultOf_L4 sn pd (sn - (j11 + 2)) (j11 + 2) (0 : Int32) = (-6 : Int32) := hd3
          have hjn : j11 + 2 ≤ sn := by omega
          refine va_put (D := (dC, dI)) (ci := 6) (v := .int q52a) (ty := .int) (C := RX6) (T := TX6) (N := 15) hx hb hts hiX6 tyX6 tyX6_ok nmX6 hown hK hP hD hS 0 rfl rfl 9 (by decide) fl94 (fun _ h9 => h9) rfl (by decide +kernel) rfl rfl (Nat.le_of_ble_eq_true rfl) dX6_goWeeks_55 (fun H locs hP hD hS => ?_)
          have hP : va_P (dC, dI) vwCl [(hm, .inr (6, [.ref mb, .ref mn, .ref mk, .int (nI sg), .ref ms, .int (nI sn), .ref mp, .int w1, .ref mq, .int q52a, .int w3, .ref mi, .ref mz, .ref ma, .ref mc])), (mb, .inl (cyI, 97, .inl bk)), (mn, .inl (cyI, 97, .inl q52b)), (mk, .inl (cyI, 4, .inl kn)), (mp, .inl (cyI, 60, .inl pd)), (mq, .inl (cyI, 24, .inl g2))] H := hP
          have hD : va_D A [(hm, .inr (6, [.ref mb, .ref mn, .ref mk, .int (nI sg), .ref ms, .int (nI sn), .ref mp, .int w1, .ref mq, .int q52a, .int w3, .ref mi, .ref mz, .ref ma, .ref mc])), (mb, .inl (cyI, 97, .inl bk)), (mn, .inl (cyI, 97, .inl q52b)), (mk, .inl (cyI, 4, .inl kn)), (mp, .inl (cyI, 60, .inl pd)), (mq, .inl (cyI, 24, .inl g2))] := hD
          refine lv_iinc (v := (nI (j11 + 2))) (lv' := [(1, .int (nI (j11 + 2))), (3, .int (pd (j11 + 1))), (2, .int (pd j11)), (0, .ref hm)]) hx hb dX6_goWeeks_58 hl (k := 2) rfl (by exact nI_add (j11) 2) (by decide) rfl (fun ls hl => ?_)
          refine lv_goto (tgt := 172) hx hb dX6_goWeeks_61 (by decide) ?_
          refine lv_aload_n hx hb dX6_goWeeks_172 rfl (lv_at hl 3 rfl) ?_
          refine va_get (D := (dC, dI)) (ci := 6) (v := .int q52a) (C := RX6) (T := TX6) (N := 15) hx hb hts hiX6 hown hK hP 0 rfl rfl 9 (by decide) fl94 (fun _ h9 => h9) rfl dX6_goWeeks_173 ?_
          refine lv_if_le (tgt := 184) hx hb dX6_goWeeks_176 (by decide) (fun c176 => ?_) (fun c176 => ?_)
          · rw [if_pos c176] at hF
            refine lv_aload_n hx hb dX6_goWeeks_184 rfl (lv_at hl 3 rfl) ?_
            refine lv_dup hx hb dX6_goWeeks_185 rfl ?_
            refine va_get (D := (dC, dI)) (ci := 6) (v := .int w3) (C := RX6) (T := TX6) (N := 15) hx hb hts hiX6 hown hK hP 0 rfl rfl 10 (by decide) fl87 (fun _ h9 => h9) rfl dX6_goWeeks_186 ?_
            refine lv_iconst (v := (1 : Int32)) hx hb dX6_goWeeks_189 (by decide) ?_
            refine lv_iadd hx hb dX6_goWeeks_190 ?_
            refine va_put (D := (dC, dI)) (ci := 6) (v := .int (w3 + (1 : Int32))) (ty := .int) (C := RX6) (T := TX6) (N := 15) hx hb hts hiX6 tyX6 tyX6_ok nmX6 hown hK hP hD hS 0 rfl rfl 10 (by decide) fl87 (fun _ h9 => h9) rfl (by decide +kernel) rfl rfl (Nat.le_of_ble_eq_true rfl) dX6_goWeeks_191 (fun H locs hP hD hS => ?_)
            have hP : va_P (dC, dI) vwCl [(hm, .inr (6, [.ref mb, .ref mn, .ref mk, .int (nI sg), .ref ms, .int (nI sn), .ref mp, .int w1, .ref mq, .int q52a, .int (w3 + (1 : Int32)), .ref mi, .ref mz, .ref ma, .ref mc])), (mb, .inl (cyI, 97, .inl bk)), (mn, .inl (cyI, 97, .inl q52b)), (mk, .inl (cyI, 4, .inl kn)), (mp, .inl (cyI, 60, .inl pd)), (mq, .inl (cyI, 24, .inl g2))] H := hP
            have hD : va_D A [(hm, .inr (6, [.ref mb, .ref mn, .ref mk, .int (nI sg), .ref ms, .int (nI sn), .ref mp, .int w1, .ref mq, .int q52a, .int (w3 + (1 : Int32)), .ref mi, .ref mz, .ref ma, .ref mc])), (mb, .inl (cyI, 97, .inl bk)), (mn, .inl (cyI, 97, .inl q52b)), (mk, .inl (cyI, 4, .inl kn)), (mp, .inl (cyI, 60, .inl pd)), (mq, .inl (cyI, 24, .inl g2))] := hD
            refine lv_goto (tgt := 11) hx hb dX6_goWeeks_194 (by decide) ?_
            exact ih (j11 + 2) q52b g2 w1 q52a (w3 + (1 : Int32)) (by omega) hJn hjn hfn hF _ _ hP hD hS _ (lv_sub hl [0, 3] rfl)
          · rw [if_neg c176] at hF
            refine lv_aload_n hx hb dX6_goWeeks_179 rfl (lv_at hl 3 rfl) ?_
            refine va_get (D := (dC, dI)) (ci := 6) (v := .int w3) (C := RX6) (T := TX6) (N := 15) hx hb hts hiX6 hown hK hP 0 rfl rfl 10 (by decide) fl87 (fun _ h9 => h9) rfl dX6_goWeeks_180 ?_
            subst hF
            subst hAe
            exact W.iret hx hb hr (fun t ht _ => ⟨⟨_, (), rfl, rfl, by rw [ht]; exact hP, hD⟩, hS.F ht⟩) hS.2.2 dX6_goWeeks_183
  exact LP11 sn 0 q1a pq q1b rz (0 : Int32) (by omega) hJ0 (by omega) hf0 hF _ _ hP hD hS _ (lv_sub hl [0, 1] rfl)
