def fX6_takeOut_L4 (se : Int32) : Nat → Nat → Nat → (Nat → Int32) → (Nat → Int32) → (Nat × (Nat → Int32) × (Nat → Int32))
  | 0, _, tn, g1, g2 => (tn, g1, g2)
  | r4 + 1, j4, tn, g1, g2 => (if (fX6_has se (nI j4)) = 0 then (if 0 ≤ (g2 (48 + j4)) then (fX6_takeOut_L4 se r4 (j4 + 1) (tn + 1) (upd g1 j4 (nI tn)) (upd (upd (upd (upd g2 tn (g2 j4)) (24 + tn) ((upd g2 tn (g2 j4)) (24 + j4))) (48 + tn) ((upd g1 j4 (nI tn)) ((g2 (48 + j4)).toNatClampNeg))) (72 + tn) ((upd (upd (upd g2 tn (g2 j4)) (24 + tn) ((upd g2 tn (g2 j4)) (24 + j4))) (48 + tn) ((upd g1 j4 (nI tn)) ((g2 (48 + j4)).toNatClampNeg))) (72 + j4)))) else (fX6_takeOut_L4 se r4 (j4 + 1) (tn + 1) (upd g1 j4 (nI tn)) (upd (upd (upd (upd g2 tn (g2 j4)) (24 + tn) ((upd g2 tn (g2 j4)) (24 + j4))) (48 + tn) (-6 : Int32)) (72 + tn) ((upd (upd (upd g2 tn (g2 j4)) (24 + tn) ((upd g2 tn (g2 j4)) (24 + j4))) (48 + tn) (-6 : Int32)) (72 + j4))))) else (fX6_takeOut_L4 se r4 (j4 + 1) tn (upd g1 j4 (nI tn)) g2))
def fX6_takeOut (nw : Nat → Int32) (pq : Nat → Int32) (se : Int32) : (Nat → Int32) × (Nat → Int32) :=
  (match fX6_takeOut_L4 se (mN nw) 0 0 pq nw with | (tn, g1, g2) => ((upd g2 96 (nI tn)), g1))
set_option maxHeartbeats 4000000 in
set_option maxRecDepth 100000 in
theorem c_X6_takeOut (l : Launch) (dC : Nat → ClassId) (dI : Nat → Nat → Nat) (cyI cyZ : ClassId) (hm mb mn mk ms mp mq mi mz ma mc : Nat) (sg : Nat) (sn : Nat) (ud : Int32) (rz : Int32) (az : Int32) (nw : Nat → Int32) (pq : Nat → Int32) (se : Int32) (hJ : kx_I nw) (sz : Nat) (r : (Nat → Int32) × (Nat → Int32)) (hF : fX6_takeOut nw pq se = r) : Met l yX6_takeOut wsX6_takeOut ({ frames := 1, cells := 0, slots := 0, locals := 21 }) (kx_wp (dC, dI) [(hm, .inr (6, [.ref mb, .ref mn, .ref mk, .int (nI sg), .ref ms, .int (nI sn), .ref mp, .int ud, .ref mq, .int rz, .int az, .ref mi, .ref mz, .ref ma, .ref mc])), (mn, .inl (cyI, 97, .inl nw)), (mq, .inl (cyI, 24, .inl pq))] [(cyI, .int), (cyZ, .boolean)] sz [.ref hm, .int se]) (kx_Qv (dC, dI) [(hm, .inr (6, [.ref mb, .ref mn, .ref mk, .int (nI sg), .ref ms, .int (nI sn), .ref mp, .int ud, .ref mq, .int rz, .int az, .ref mi, .ref mz, .ref ma, .ref mc])), (mn, .inl (cyI, 97, .inl nw)), (mq, .inl (cyI, 24, .inl pq))] [(hm, .inr (6, [.ref mb, .ref mn, .ref mk, .int (nI sg), .ref ms, .int (nI sn), .ref mp, .int ud, .ref mq, .int rz, .int az, .ref mi, .ref mz, .ref ma, .ref mc])), (mn, .inl (cyI, 97, .inl r.1)), (mq, .inl (cyI, 24, .inl r.2))] sz) 0 0 (va_A [(hm, .inr (6, [.ref mb, .ref mn, .ref mk, .int (nI sg), .ref ms, .int (nI sn), .ref mp, .int ud, .ref mq, .int rz, .int az, .ref mi, .ref mz, .ref ma, .ref mc])), (mn, .inl (cyI, 97, .inl nw)), (mq, .inl (cyI, 24, .inl pq))] sz) := by
  refine Met.ofW (cc := cX6_takeOut) (maxL := 5) (ret := none) (by decide) rfl ?_
  intro p e s m args below meth c s₁ B hml hv
  obtain ⟨rfl, hsz, hP, hK, hN, hD0⟩ := hv
  have hx := B.exec
  have hb := B.bytes
  have hr := B.returns
  have hts := atoms_spec (ws := wsX6_takeOut) B.pre
  have hown : s.vm.findClass RX6 = some m.cls := findClass_of_methodNamed B.named
  have hlocks := B.notSynchronized
  subst hsz
  obtain ⟨A, hAe⟩ : ∃ A, A = va_A [(hm, .inr (6, [.ref mb, .ref mn, .ref mk, .int (nI sg), .ref ms, .int (nI sn), .ref mp, .int ud, .ref mq, .int rz, .int az, .ref mi, .ref mz, .ref ma, .ref mc])), (mn, .inl (cyI, 97, .inl nw)), (mq, .inl (cyI, 24, .inl pq))] s.heap.size := ⟨_, rfl⟩
  have hD : va_D A [(hm, .inr (6, [.ref mb, .ref mn, .ref mk, .int (nI sg), .ref ms, .int (nI sn), .ref mp, .int ud, .ref mq, .int rz, .int az, .ref mi, .ref mz, .ref ma, .ref mc])), (mn, .inl (cyI, 97, .inl nw)), (mq, .inl (cyI, 24, .inl pq))] := by rw [hAe]; exact hD0.self
  have hA : ∀ q : Nat, s.heap.size ≤ q → A q := fun q h => by rw [hAe]; exact Or.inr h
  have hS : va_S A s.heap s.heap [] := va_S.rf
  have hiX6 : ∀ w ∈ wsX60, w ∈ wsX6_takeOut := by decide +kernel
  have fl13 := hts (.fieldLink RX6 13 "KnitChronicleModel" "now" "[I") (by decide +kernel)
  have fl25 := hts (.fieldLink RX6 25 "KnitChronicleModel" "place" "[I") (by decide +kernel)
  have hl := lv_entry ([.ref hm, .int se]) (n := 5) (Nat.le_of_ble_eq_true rfl)
  rw [lg_entry_eq]
  generalize (lg_sl ([.ref hm, .int se]) ++ List.replicate (5 - (lg_sl ([.ref hm, .int se])).length) Slot.unset).toArray = ls at hl ⊢
  have hl : lv_has ls 5 [(0, .ref hm), (1, .int se)] := hl
  unfold fX6_takeOut at hF
  have hmN := hJ.2.1
  refine lv_iconst (v := (0 : Int32)) hx hb dX6_takeOut_0 (by decide) ?_
  refine lv_istore_n (lv' := [(2, .int (0 : Int32)), (0, .ref hm), (1, .int se)]) hx hb dX6_takeOut_1 rfl hl (by decide) rfl (fun ls hl => ?_)
  refine lv_iconst (v := (0 : Int32)) hx hb dX6_takeOut_2 (by decide) ?_
  refine lv_istore_n (lv' := [(3, .int (0 : Int32)), (2, .int (0 : Int32)), (0, .ref hm), (1, .int se)]) hx hb dX6_takeOut_3 rfl hl (by decide) rfl (fun ls hl => ?_)
  generalize hz4 : fX6_takeOut_L4 se (mN nw) 0 0 pq nw = z4 at hF
  have LP4 : ∀ (r4 : Nat) (j4 : Nat) (tn : Nat) (g1 : Nat → Int32) (g2 : Nat → Int32), r4 + j4 = mN nw → (tn ≤ j4) → (g2 96 = nw 96) → (∀ i, j4 ≤ i → i < 24 → g2 (48 + i) = nw (48 + i)) → fX6_takeOut_L4 se r4 j4 tn g1 g2 = z4 → ∀ (H : Heap) (locs : List Loc), va_P (dC, dI) vwCl [(hm, .inr (6, [.ref mb, .ref mn, .ref mk, .int (nI sg), .ref ms, .int (nI sn), .ref mp, .int ud, .ref mq, .int rz, .int az, .ref mi, .ref mz, .ref ma, .ref mc])), (mn, .inl (cyI, 97, .inl g2)), (mq, .inl (cyI, 24, .inl g1))] H → va_D A [(hm, .inr (6, [.ref mb, .ref mn, .ref mk, .int (nI sg), .ref ms, .int (nI sn), .ref mp, .int ud, .ref mq, .int rz, .int az, .ref mi, .ref mz, .ref ma, .ref mc])), (mn, .inl (cyI, 97, .inl g2)), (mq, .inl (cyI, 24, .inl g1))] → va_S A s.heap H locs → ∀ (ls : Array Slot), lv_has ls 5 [(3, .int (nI j4)), (2, .int (nI tn)), (0, .ref hm), (1, .int se)] → W p l e (headSpec wsX6_takeOut ({ frames := 1, cells := 0, slots := 0, locals := 21 } : Room)).room s m ([.ref hm, .int se] : List Value).toArray below meth c H locs 0 0 (MQ below (kx_Qv (dC, dI) [(hm, .inr (6, [.ref mb, .ref mn, .ref mk, .int (nI sg), .ref ms, .int (nI sn), .ref mp, .int ud, .ref mq, .int rz, .int az, .ref mi, .ref mz, .ref ma, .ref mc])), (mn, .inl (cyI, 97, .inl nw)), (mq, .inl (cyI, 24, .inl pq))] [(hm, .inr (6, [.ref mb, .ref mn, .ref mk, .int (nI sg), .ref ms, .int (nI sn), .ref mp, .int ud, .ref mq, .int rz, .int az, .ref mi, .ref mz, .ref ma, .ref mc])), (mn, .inl (cyI, 97, .inl r.1)), (mq, .inl (cyI, 24, .inl r.2))] s.heap.size) ([.ref hm, .int se] : List Value).toArray s 0 0 (va_A [(hm, .inr (6, [.ref mb, .ref mn, .ref mk, .int (nI sg), .ref ms, .int (nI sn), .ref mp, .int ud, .ref mq, .int rz, .int az, .ref mi, .ref mz, .ref ma, .ref mc])), (mn, .inl (cyI, 97, .inl nw)), (mq, .inl (cyI, 24, .inl pq))] s.heap.size)) (F0 m 4 ls []) := by
    intro r4
    induction r4 with
    | zero =>
      intro j4 tn g1 g2 hrj htn hg96 hgo hz4 H locs hP hD hS ls hl
      rw [fX6_takeOut_L4] at hz4
      subst hz4
      dsimp only at hF
      refine lv_iload_n hx hb dX6_takeOut_4 rfl (lv_at hl 0 rfl) ?_
      refine lv_aload_n hx hb dX6_takeOut_5 rfl (lv_at hl 2 rfl) ?_
      refine va_get (D := (dC, dI)) (ci := 6) (v := .ref mn) (C := RX6) (T := TX6) (N := 15) hx hb hts hiX6 hown hK hP 0 rfl rfl 1 (by decide) fl13 (fun _ h9 => h9) rfl dX6_takeOut_6 ?_
      refine lv_bipush (v := (96 : Int32)) hx hb dX6_takeOut_9 (by decide) ?_
      refine kx_ld hx hb hK hP 1 0 rfl rfl (96) rfl (by omega) (by decide) dX6_takeOut_11 ?_
      refine kx_e (hg96.trans hJ.1) ?_
      refine kx_ge hx hb (j4) (mN nw) rfl rfl (by omega) (by omega) dX6_takeOut_12 (by decide) (tgt := 124) (fun c12 => ?_) (fun c12 => absurd c12 (by omega))
      refine lv_aload_n hx hb dX6_takeOut_124 rfl (lv_at hl 2 rfl) ?_
      refine va_get (D := (dC, dI)) (ci := 6) (v := .ref mn) (C := RX6) (T := TX6) (N := 15) hx hb hts hiX6 hown hK hP 0 rfl rfl 1 (by decide) fl13 (fun _ h9 => h9) rfl dX6_takeOut_125 ?_
      refine lv_bipush (v := (96 : Int32)) hx hb dX6_takeOut_128 (by decide) ?_
      refine lv_iload_n hx hb dX6_takeOut_130 rfl (lv_at hl 1 rfl) ?_
      refine kx_st hx hb hK hP hD hS 1 0 rfl rfl (96) rfl (by omega) (by decide) dX6_takeOut_131 (fun H locs hP hD hS => ?_)
      have hP : va_P (dC, dI) vwCl [(hm, .inr (6, [.ref mb, .ref mn, .ref mk, .int (nI sg), .ref ms, .int (nI sn), .ref mp, .int ud, .ref mq, .int rz, .int az, .ref mi, .ref mz, .ref ma, .ref mc])), (mn, .inl (cyI, 97, .inl (upd g2 96 (nI tn)))), (mq, .inl (cyI, 24, .inl g1))] H := hP
      have hD : va_D A [(hm, .inr (6, [.ref mb, .ref mn, .ref mk, .int (nI sg), .ref ms, .int (nI sn), .ref mp, .int ud, .ref mq, .int rz, .int az, .ref mi, .ref mz, .ref ma, .ref mc])), (mn, .inl (cyI, 97, .inl (upd g2 96 (nI tn)))), (mq, .inl (cyI, 24, .inl g1))] := hD
      subst hF
      subst hAe
      exact W.vret hx hb hr (fun t ht _ => ⟨⟨(), rfl, trivial, by rw [ht]; exact hP, hD⟩, hS.F ht⟩) hS.2.2 dX6_takeOut_132
    | succ r4 ih =>
      intro j4 tn g1 g2 hrj htn hg96 hgo hz4 H locs hP hD hS ls hl
      rw [fX6_takeOut_L4] at hz4
      refine lv_iload_n hx hb dX6_takeOut_4 rfl (lv_at hl 0 rfl) ?_
      refine lv_aload_n hx hb dX6_takeOut_5 rfl (lv_at hl 2 rfl) ?_
      refine va_get (D := (dC, dI)) (ci := 6) (v := .ref mn) (C := RX6) (T := TX6) (N := 15) hx hb hts hiX6 hown hK hP 0 rfl rfl 1 (by decide) fl13 (fun _ h9 => h9) rfl dX6_takeOut_6 ?_
      refine lv_bipush (v := (96 : Int32)) hx hb dX6_takeOut_9 (by decide) ?_
      refine kx_ld hx hb hK hP 1 0 rfl rfl (96) rfl (by omega) (by decide) dX6_takeOut_11 ?_
      refine kx_e (hg96.trans hJ.1) ?_
      refine kx_ge hx hb (j4) (mN nw) rfl rfl (by omega) (by omega) dX6_takeOut_12 (by decide) (tgt := 124) (fun c12 => absurd c12 (by omega)) (fun c12 => ?_)
      refine lv_aload_n hx hb dX6_takeOut_15 rfl (lv_at hl 2 rfl) ?_
      refine va_get (D := (dC, dI)) (ci := 6) (v := .ref mq) (C := RX6) (T := TX6) (N := 15) hx hb hts hiX6 hown hK hP 0 rfl rfl 8 (by decide) fl25 (fun _ h9 => h9) rfl dX6_takeOut_16 ?_
      refine lv_iload_n hx hb dX6_takeOut_19 rfl (lv_at hl 0 rfl) ?_
      refine lv_iload_n hx hb dX6_takeOut_20 rfl (lv_at hl 1 rfl) ?_
      refine kx_st hx hb hK hP hD hS 2 0 rfl rfl (j4) rfl (by omega) (by decide) dX6_takeOut_21 (fun H locs hP hD hS => ?_)
      have hP : va_P (dC, dI) vwCl [(hm, .inr (6, [.ref mb, .ref mn, .ref mk, .int (nI sg), .ref ms, .int (nI sn), .ref mp, .int ud, .ref mq, .int rz, .int az, .ref mi, .ref mz, .ref ma, .ref mc])), (mn, .inl (cyI, 97, .inl g2)), (mq, .inl (cyI, 24, .inl (upd g1 j4 (nI tn))))] H := hP
      have hD : va_D A [(hm, .inr (6, [.ref mb, .ref mn, .ref mk, .int (nI sg), .ref ms, .int (nI sn), .ref mp, .int ud, .ref mq, .int rz, .int az, .ref mi, .ref mz, .ref ma, .ref mc])), (mn, .inl (cyI, 97, .inl g2)), (mq, .inl (cyI, 24, .inl (upd g1 j4 (nI tn))))] := hD
      refine lv_iload_n hx hb dX6_takeOut_22 rfl (lv_at hl 3 rfl) ?_
      refine lv_iload_n hx hb dX6_takeOut_23 rfl (lv_at hl 0 rfl) ?_
      refine kx_cS (As := [.int se, .int (nI j4)]) (rest := []) ⟨hx, hb, hml, hown, hts⟩ (c_X6_has l dC dI cyI cyZ  se (nI j4)  _ rfl) (va_cwS 2 hts gX6_takeOut_X6_has rfl rfl rfl (by decide +kernel) ⟨Nat.le_of_ble_eq_true rfl, Nat.le_of_ble_eq_true rfl⟩) hP hK hN [] rfl [0, 1] rfl rfl hl.1 rfl (Nat.le_of_ble_eq_true rfl) dX6_takeOut_24 ⟨Nat.zero_le _, Nat.zero_le _⟩ ?_
      refine lv_if_ne (tgt := 118) hx hb dX6_takeOut_27 (by decide) (fun c27 => ?_) (fun c27 => ?_)
      · rw [if_neg c27] at hz4
        refine lv_iinc (v := (nI (j4 + 1))) (lv' := [(3, .int (nI (j4 + 1))), (2, .int (nI tn)), (0, .ref hm), (1, .int se)]) hx hb dX6_takeOut_118 hl (k := 0) rfl (by exact nI_add (j4) 1) (by decide) rfl (fun ls hl => ?_)
        refine lv_goto (tgt := 4) hx hb dX6_takeOut_121 (by decide) ?_
        exact ih (j4 + 1) tn (upd g1 j4 (nI tn)) g2 (by omega) (by omega) (by first | exact hg96 | (rw [pk_un, pk_un, pk_un, pk_un]; exact hg96; all_goals omega)) (fun i9 hi1 hi2 => by first | exact hgo i9 (by omega) hi2 | (rw [pk_un, pk_un, pk_un, pk_un]; exact hgo i9 (by omega) hi2; all_goals omega)) hz4 _ _ hP hD hS _ (lv_sub hl [0, 1, 2, 3] rfl)
      · rw [if_pos c27] at hz4
        refine lv_aload_n hx hb dX6_takeOut_30 rfl (lv_at hl 2 rfl) ?_
        refine va_get (D := (dC, dI)) (ci := 6) (v := .ref mn) (C := RX6) (T := TX6) (N := 15) hx hb hts hiX6 hown hK hP 0 rfl rfl 1 (by decide) fl13 (fun _ h9 => h9) rfl dX6_takeOut_31 ?_
        refine lv_bipush (v := (48 : Int32)) hx hb dX6_takeOut_34 (by decide) ?_
        refine lv_iload_n hx hb dX6_takeOut_36 rfl (lv_at hl 0 rfl) ?_
        refine lv_iadd hx hb dX6_takeOut_37 ?_
        refine kx_e (nI_add (48) (j4)) ?_
        refine kx_ld hx hb hK hP 1 0 rfl rfl (48 + j4) rfl (by omega) (by decide) dX6_takeOut_38 ?_
        refine lv_istore (lv' := [(4, .int (g2 (48 + j4))), (3, .int (nI j4)), (2, .int (nI tn)), (0, .ref hm), (1, .int se)]) hx hb dX6_takeOut_39 hl (by decide) rfl (fun ls hl => ?_)
        have hon := hgo j4 (Nat.le_refl _) (by omega)
        have hon0 : kx_on (g2 (48 + j4)) j4 := by rw [hon]; exact hJ.2.2 j4 (by omega)
        refine lv_aload_n hx hb dX6_takeOut_41 rfl (lv_at hl 3 rfl) ?_
        refine va_get (D := (dC, dI)) (ci := 6) (v := .ref mn) (C := RX6) (T := TX6) (N := 15) hx hb hts hiX6 hown hK hP 0 rfl rfl 1 (by decide) fl13 (fun _ h9 => h9) rfl dX6_takeOut_42 ?_
        refine lv_iload_n hx hb dX6_takeOut_45 rfl (lv_at hl 2 rfl) ?_
        refine lv_aload_n hx hb dX6_takeOut_46 rfl (lv_at hl 3 rfl) ?_
        refine va_get (D := (dC, dI)) (ci := 6) (v := .ref mn) (C := RX6) (T := TX6) (N := 15) hx hb hts hiX6 hown hK hP 0 rfl rfl 1 (by decide) fl13 (fun _ h9 => h9) rfl dX6_takeOut_47 ?_
        refine lv_iload_n hx hb dX6_takeOut_50 rfl (lv_at hl 1 rfl) ?_
        refine kx_ld hx hb hK hP 1 0 rfl rfl (j4) rfl (by omega) (by decide) dX6_takeOut_51 ?_
        refine kx_st hx hb hK hP hD hS 1 0 rfl rfl (tn) rfl (by omega) (by decide) dX6_takeOut_52 (fun H locs hP hD hS => ?_)
        have hP : va_P (dC, dI) vwCl [(hm, .inr (6, [.ref mb, .ref mn, .ref mk, .int (nI sg), .ref ms, .int (nI sn), .ref mp, .int ud, .ref mq, .int rz, .int az, .ref mi, .ref mz, .ref ma, .ref mc])), (mn, .inl (cyI, 97, .inl (upd g2 tn (g2 j4)))), (mq, .inl (cyI, 24, .inl (upd g1 j4 (nI tn))))] H := hP
        have hD : va_D A [(hm, .inr (6, [.ref mb, .ref mn, .ref mk, .int (nI sg), .ref ms, .int (nI sn), .ref mp, .int ud, .ref mq, .int rz, .int az, .ref mi, .ref mz, .ref ma, .ref mc])), (mn, .inl (cyI, 97, .inl (upd g2 tn (g2 j4)))), (mq, .inl (cyI, 24, .inl (upd g1 j4 (nI tn))))] := hD
        refine lv_aload_n hx hb dX6_takeOut_53 rfl (lv_at hl 3 rfl) ?_
        refine va_get (D := (dC, dI)) (ci := 6) (v := .ref mn) (C := RX6) (T := TX6) (N := 15) hx hb hts hiX6 hown hK hP 0 rfl rfl 1 (by decide) fl13 (fun _ h9 => h9) rfl dX6_takeOut_54 ?_
        refine lv_bipush (v := (24 : Int32)) hx hb dX6_takeOut_57 (by decide) ?_
        refine lv_iload_n hx hb dX6_takeOut_59 rfl (lv_at hl 2 rfl) ?_
        refine lv_iadd hx hb dX6_takeOut_60 ?_
        refine kx_e (nI_add (24) (tn)) ?_
        refine lv_aload_n hx hb dX6_takeOut_61 rfl (lv_at hl 3 rfl) ?_
        refine va_get (D := (dC, dI)) (ci := 6) (v := .ref mn) (C := RX6) (T := TX6) (N := 15) hx hb hts hiX6 hown hK hP 0 rfl rfl 1 (by decide) fl13 (fun _ h9 => h9) rfl dX6_takeOut_62 ?_
        refine lv_bipush (v := (24 : Int32)) hx hb dX6_takeOut_65 (by decide) ?_
        refine lv_iload_n hx hb dX6_takeOut_67 rfl (lv_at hl 1 rfl) ?_
        refine lv_iadd hx hb dX6_takeOut_68 ?_
        refine kx_e (nI_add (24) (j4)) ?_
        refine kx_ld hx hb hK hP 1 0 rfl rfl (24 + j4) rfl (by omega) (by decide) dX6_takeOut_69 ?_
        refine kx_st hx hb hK hP hD hS 1 0 rfl rfl (24 + tn) rfl (by omega) (by decide) dX6_takeOut_70 (fun H locs hP hD hS => ?_)
        have hP : va_P (dC, dI) vwCl [(hm, .inr (6, [.ref mb, .ref mn, .ref mk, .int (nI sg), .ref ms, .int (nI sn), .ref mp, .int ud, .ref mq, .int rz, .int az, .ref mi, .ref mz, .ref ma, .ref mc])), (mn, .inl (cyI, 97, .inl (upd (upd g2 tn (g2 j4)) (24 + tn) ((upd g2 tn (g2 j4)) (24 + j4))))), (mq, .inl (cyI, 24, .inl (upd g1 j4 (nI tn))))] H := hP
        have hD : va_D A [(hm, .inr (6, [.ref mb, .ref mn, .ref mk, .int (nI sg), .ref ms, .int (nI sn), .ref mp, .int ud, .ref mq, .int rz, .int az, .ref mi, .ref mz, .ref ma, .ref mc])), (mn, .inl (cyI, 97, .inl (upd (upd g2 tn (g2 j4)) (24 + tn) ((upd g2 tn (g2 j4)) (24 + j4))))), (mq, .inl (cyI, 24, .inl (upd g1 j4 (nI tn))))] := hD
        refine lv_aload_n hx hb dX6_takeOut_71 rfl (lv_at hl 3 rfl) ?_
        refine va_get (D := (dC, dI)) (ci := 6) (v := .ref mn) (C := RX6) (T := TX6) (N := 15) hx hb hts hiX6 hown hK hP 0 rfl rfl 1 (by decide) fl13 (fun _ h9 => h9) rfl dX6_takeOut_72 ?_
        refine lv_bipush (v := (48 : Int32)) hx hb dX6_takeOut_75 (by decide) ?_
        refine lv_iload_n hx hb dX6_takeOut_77 rfl (lv_at hl 2 rfl) ?_
        refine lv_iadd hx hb dX6_takeOut_78 ?_
        refine kx_e (nI_add (48) (tn)) ?_
        refine lv_iload hx hb dX6_takeOut_79 (lv_at hl 0 rfl) ?_
        refine lv_if_ge (tgt := 89) hx hb dX6_takeOut_81 (by decide) (fun c81 => ?_) (fun c81 => ?_)
        · rw [if_pos c81] at hz4
          obtain ⟨hon1, hon2⟩ := kx_onP (by omega) hon0 (Int32.not_lt.mpr c81)
          refine lv_aload_n hx hb dX6_takeOut_89 rfl (lv_at hl 3 rfl) ?_
          refine va_get (D := (dC, dI)) (ci := 6) (v := .ref mq) (C := RX6) (T := TX6) (N := 15) hx hb hts hiX6 hown hK hP 0 rfl rfl 8 (by decide) fl25 (fun _ h9 => h9) rfl dX6_takeOut_90 ?_
          refine lv_iload hx hb dX6_takeOut_93 (lv_at hl 0 rfl) ?_
          refine kx_e hon1 ?_
          refine kx_ld hx hb hK hP 2 0 rfl rfl ((g2 (48 + j4)).toNatClampNeg) rfl (by omega) (by decide) dX6_takeOut_95 ?_
          refine kx_st hx hb hK hP hD hS 1 0 rfl rfl (48 + tn) rfl (by omega) (by decide) dX6_takeOut_96 (fun H locs hP hD hS => ?_)
          have hP : va_P (dC, dI) vwCl [(hm, .inr (6, [.ref mb, .ref mn, .ref mk, .int (nI sg), .ref ms, .int (nI sn), .ref mp, .int ud, .ref mq, .int rz, .int az, .ref mi, .ref mz, .ref ma, .ref mc])), (mn, .inl (cyI, 97, .inl (upd (upd (upd g2 tn (g2 j4)) (24 + tn) ((upd g2 tn (g2 j4)) (24 + j4))) (48 + tn) ((upd g1 j4 (nI tn)) ((g2 (48 + j4)).toNatClampNeg))))), (mq, .inl (cyI, 24, .inl (upd g1 j4 (nI tn))))] H := hP
          have hD : va_D A [(hm, .inr (6, [.ref mb, .ref mn, .ref mk, .int (nI sg), .ref ms, .int (nI sn), .ref mp, .int ud, .ref mq, .int rz, .int az, .ref mi, .ref mz, .ref ma, .ref mc])), (mn, .inl (cyI, 97, .inl (upd (upd (upd g2 tn (g2 j4)) (24 + tn) ((upd g2 tn (g2 j4)) (24 + j4))) (48 + tn) ((upd g1 j4 (nI tn)) ((g2 (48 + j4)).toNatClampNeg))))), (mq, .inl (cyI, 24, .inl (upd g1 j4 (nI tn))))] := hD
          refine lv_aload_n hx hb dX6_takeOut_97 rfl (lv_at hl 3 rfl) ?_
          refine va_get (D := (dC, dI)) (ci := 6) (v := .ref mn) (C := RX6) (T := TX6) (N := 15) hx hb hts hiX6 hown hK hP 0 rfl rfl 1 (by decide) fl13 (fun _ h9 => h9) rfl dX6_takeOut_98 ?_
          refine lv_bipush (v := (72 : Int32)) hx hb dX6_takeOut_101 (by decide) ?_
          refine lv_iload_n hx hb dX6_takeOut_103 rfl (lv_at hl 2 rfl) ?_
          refine lv_iadd hx hb dX6_takeOut_104 ?_
          refine kx_e (nI_add (72) (tn)) ?_
          refine lv_aload_n hx hb dX6_takeOut_105 rfl (lv_at hl 3 rfl) ?_
          refine va_get (D := (dC, dI)) (ci := 6) (v := .ref mn) (C := RX6) (T := TX6) (N := 15) hx hb hts hiX6 hown hK hP 0 rfl rfl 1 (by decide) fl13 (fun _ h9 => h9) rfl dX6_takeOut_106 ?_
          refine lv_bipush (v := (72 : Int32)) hx hb dX6_takeOut_109 (by decide) ?_
          refine lv_iload_n hx hb dX6_takeOut_111 rfl (lv_at hl 1 rfl) ?_
          refine lv_iadd hx hb dX6_takeOut_112 ?_
          refine kx_e (nI_add (72) (j4)) ?_
          refine kx_ld hx hb hK hP 1 0 rfl rfl (72 + j4) rfl (by omega) (by decide) dX6_takeOut_113 ?_
          refine kx_st hx hb hK hP hD hS 1 0 rfl rfl (72 + tn) rfl (by omega) (by decide) dX6_takeOut_114 (fun H locs hP hD hS => ?_)
          have hP : va_P (dC, dI) vwCl [(hm, .inr (6, [.ref mb, .ref mn, .ref mk, .int (nI sg), .ref ms, .int (nI sn), .ref mp, .int ud, .ref mq, .int rz, .int az, .ref mi, .ref mz, .ref ma, .ref mc])), (mn, .inl (cyI, 97, .inl (upd (upd (upd (upd g2 tn (g2 j4)) (24 + tn) ((upd g2 tn (g2 j4)) (24 + j4))) (48 + tn) ((upd g1 j4 (nI tn)) ((g2 (48 + j4)).toNatClampNeg))) (72 + tn) ((upd (upd (upd g2 tn (g2 j4)) (24 + tn) ((upd g2 tn (g2 j4)) (24 + j4))) (48 + tn) ((upd g1 j4 (nI tn)) ((g2 (48 + j4)).toNatClampNeg))) (72 + j4))))), (mq, .inl (cyI, 24, .inl (upd g1 j4 (nI tn))))] H := hP
          have hD : va_D A [(hm, .inr (6, [.ref mb, .ref mn, .ref mk, .int (nI sg), .ref ms, .int (nI sn), .ref mp, .int ud, .ref mq, .int rz, .int az, .ref mi, .ref mz, .ref ma, .ref mc])), (mn, .inl (cyI, 97, .inl (upd (upd (upd (upd g2 tn (g2 j4)) (24 + tn) ((upd g2 tn (g2 j4)) (24 + j4))) (48 + tn) ((upd g1 j4 (nI tn)) ((g2 (48 + j4)).toNatClampNeg))) (72 + tn) ((upd (upd (upd g2 tn (g2 j4)) (24 + tn) ((upd g2 tn (g2 j4)) (24 + j4))) (48 + tn) ((upd g1 j4 (nI tn)) ((g2 (48 + j4)).toNatClampNeg))) (72 + j4))))), (mq, .inl (cyI, 24, .inl (upd g1 j4 (nI tn))))] := hD
          refine lv_iinc (v := (nI (tn + 1))) (lv' := [(2, .int (nI (tn + 1))), (4, .int (g2 (48 + j4))), (3, .int (nI j4)), (0, .ref hm), (1, .int se)]) hx hb dX6_takeOut_115 hl (k := 2) rfl (by exact nI_add (tn) 1) (by decide) rfl (fun ls hl => ?_)
          refine lv_iinc (v := (nI (j4 + 1))) (lv' := [(3, .int (nI (j4 + 1))), (2, .int (nI (tn + 1))), (4, .int (g2 (48 + j4))), (0, .ref hm), (1, .int se)]) hx hb dX6_takeOut_118 hl (k := 2) rfl (by exact nI_add (j4) 1) (by decide) rfl (fun ls hl => ?_)
          refine lv_goto (tgt := 4) hx hb dX6_takeOut_121 (by decide) ?_
          exact ih (j4 + 1) (tn + 1) (upd g1 j4 (nI tn)) (upd (upd (upd (upd g2 tn (g2 j4)) (24 + tn) ((upd g2 tn (g2 j4)) (24 + j4))) (48 + tn) ((upd g1 j4 (nI tn)) ((g2 (48 + j4)).toNatClampNeg))) (72 + tn) ((upd (upd (upd g2 tn (g2 j4)) (24 + tn) ((upd g2 tn (g2 j4)) (24 + j4))) (48 + tn) ((upd g1 j4 (nI tn)) ((g2 (48 + j4)).toNatClampNeg))) (72 + j4))) (by omega) (by omega) (by first | exact hg96 | (rw [pk_un, pk_un, pk_un, pk_un]; exact hg96; all_goals omega)) (fun i9 hi1 hi2 => by first | exact hgo i9 (by omega) hi2 | (rw [pk_un, pk_un, pk_un, pk_un]; exact hgo i9 (by omega) hi2; all_goals omega)) hz4 _ _ hP hD hS _ (lv_sub hl [0, 1, 3, 4] rfl)
        · rw [if_neg c81] at hz4
          refine lv_bipush (v := (-6 : Int32)) hx hb dX6_takeOut_84 (by decide) ?_
          refine lv_goto (tgt := 96) hx hb dX6_takeOut_86 (by decide) ?_
          refine kx_st hx hb hK hP hD hS 1 0 rfl rfl (48 + tn) rfl (by omega) (by decide) dX6_takeOut_96 (fun H locs hP hD hS => ?_)
          have hP : va_P (dC, dI) vwCl [(hm, .inr (6, [.ref mb, .ref mn, .ref mk, .int (nI sg), .ref ms, .int (nI sn), .ref mp, .int ud, .ref mq, .int rz, .int az, .ref mi, .ref mz, .ref ma, .ref mc])), (mn, .inl (cyI, 97, .inl (upd (upd (upd g2 tn (g2 j4)) (24 + tn) ((upd g2 tn (g2 j4)) (24 + j4))) (48 + tn) (-6 : Int32)))), (mq, .inl (cyI, 24, .inl (upd g1 j4 (nI tn))))] H := hP
          have hD : va_D A [(hm, .inr (6, [.ref mb, .ref mn, .ref mk, .int (nI sg), .ref ms, .int (nI sn), .ref mp, .int ud, .ref mq, .int rz, .int az, .ref mi, .ref mz, .ref ma, .ref mc])), (mn, .inl (cyI, 97, .inl (upd (upd (upd g2 tn (g2 j4)) (24 + tn) ((upd g2 tn (g2 j4)) (24 + j4))) (48 + tn) (-6 : Int32)))), (mq, .inl (cyI, 24, .inl (upd g1 j4 (nI tn))))] := hD
          refine lv_aload_n hx hb dX6_takeOut_97 rfl (lv_at hl 3 rfl) ?_
          refine va_get (D := (dC, dI)) (ci := 6) (v := .ref mn) (C := RX6) (T := TX6) (N := 15) hx hb hts hiX6 hown hK hP 0 rfl rfl 1 (by decide) fl13 (fun _ h9 => h9) rfl dX6_takeOut_98 ?_
          refine lv_bipush (v := (72 : Int32)) hx hb dX6_takeOut_101 (by decide) ?_
          refine lv_iload_n hx hb dX6_takeOut_103 rfl (lv_at hl 2 rfl) ?_
          refine lv_iadd hx hb dX6_takeOut_104 ?_
          refine kx_e (nI_add (72) (tn)) ?_
          refine lv_aload_n hx hb dX6_takeOut_105 rfl (lv_at hl 3 rfl) ?_
          refine va_get (D := (dC, dI)) (ci := 6) (v := .ref mn) (C := RX6) (T := TX6) (N := 15) hx hb hts hiX6 hown hK hP 0 rfl rfl 1 (by decide) fl13 (fun _ h9 => h9) rfl dX6_takeOut_106 ?_
          refine lv_bipush (v := (72 : Int32)) hx hb dX6_takeOut_109 (by decide) ?_
          refine lv_iload_n hx hb dX6_takeOut_111 rfl (lv_at hl 1 rfl) ?_
          refine lv_iadd hx hb dX6_takeOut_112 ?_
          refine kx_e (nI_add (72) (j4)) ?_
          refine kx_ld hx hb hK hP 1 0 rfl rfl (72 + j4) rfl (by omega) (by decide) dX6_takeOut_113 ?_
          refine kx_st hx hb hK hP hD hS 1 0 rfl rfl (72 + tn) rfl (by omega) (by decide) dX6_takeOut_114 (fun H locs hP hD hS => ?_)
          have hP : va_P (dC, dI) vwCl [(hm, .inr (6, [.ref mb, .ref mn, .ref mk, .int (nI sg), .ref ms, .int (nI sn), .ref mp, .int ud, .ref mq, .int rz, .int az, .ref mi, .ref mz, .ref ma, .ref mc])), (mn, .inl (cyI, 97, .inl (upd (upd (upd (upd g2 tn (g2 j4)) (24 + tn) ((upd g2 tn (g2 j4)) (24 + j4))) (48 + tn) (-6 : Int32)) (72 + tn) ((upd (upd (upd g2 tn (g2 j4)) (24 + tn) ((upd g2 tn (g2 j4)) (24 + j4))) (48 + tn) (-6 : Int32)) (72 + j4))))), (mq, .inl (cyI, 24, .inl (upd g1 j4 (nI tn))))] H := hP
          have hD : va_D A [(hm, .inr (6, [.ref mb, .ref mn, .ref mk, .int (nI sg), .ref ms, .int (nI sn), .ref mp, .int ud, .ref mq, .int rz, .int az, .ref mi, .ref mz, .ref ma, .ref mc])), (mn, .inl (cyI, 97, .inl (upd (upd (upd (upd g2 tn (g2 j4)) (24 + tn) ((upd g2 tn (g2 j4)) (24 + j4))) (48 + tn) (-6 : Int32)) (72 + tn) ((upd (upd (upd g2 tn (g2 j4)) (24 + tn) ((upd g2 tn (g2 j4)) (24 + j4))) (48 + tn) (-6 : Int32)) (72 + j4))))), (mq, .inl (cyI, 24, .inl (upd g1 j4 (nI tn))))] := hD
          refine lv_iinc (v := (nI (tn + 1))) (lv' := [(2, .int (nI (tn + 1))), (4, .int (g2 (48 + j4))), (3, .int (nI j4)), (0, .ref hm), (1, .int se)]) hx hb dX6_takeOut_115 hl (k := 2) rfl (by exact nI_add (tn) 1) (by decide) rfl (fun ls hl => ?_)
          refine lv_iinc (v := (nI (j4 + 1))) (lv' := [(3, .int (nI (j4 + 1))), (2, .int (nI (tn + 1))), (4, .int (g2 (48 + j4))), (0, .ref hm), (1, .int se)]) hx hb dX6_takeOut_118 hl (k := 2) rfl (by exact nI_add (j4) 1) (by decide) rfl (fun ls hl => ?_)
          refine lv_goto (tgt := 4) hx hb dX6_takeOut_121 (by decide) ?_
          exact ih (j4 + 1) (tn + 1) (upd g1 j4 (nI tn)) (upd (upd (upd (upd g2 tn (g2 j4)) (24 + tn) ((upd g2 tn (g2 j4)) (24 + j4))) (48 + tn) (-6 : Int32)) (72 + tn) ((upd (upd (upd g2 tn (g2 j4)) (24 + tn) ((upd g2 tn (g2 j4)) (24 + j4))) (48 + tn) (-6 : Int32)) (72 + j4))) (by omega) (by omega) (by first | exact hg96 | (rw [pk_un, pk_un, pk_un, pk_un]; exact hg96; all_goals omega)) (fun i9 hi1 hi2 => by first | exact hgo i9 (by omega) hi2 | (rw [pk_un, pk_un, pk_un, pk_un]; exact hgo i9 (by omega) hi2; all_goals omega)) hz4 _ _ hP hD hS _ (lv_sub hl [0, 1, 3, 4] rfl)
  exact LP4 (mN nw) 0 0 pq nw (by omega) (by omega) rfl (fun _ _ _ => rfl) hz4 _ _ hP hD hS _ (lv_sub hl [0, 1, 2, 3] rfl)

def fX6_knit_L23 (nw : Nat → Int32) (kcl : Int32) : Nat → Nat → Int32 → Int32
  | 0, _, on => on
  | r23 + 1, j23, on => (if (nw j23) = kcl then (if (nw (72 + j23)) = 0 then (fX6_knit_L23 nw kcl r23 (j23 + 1) (nI j23)) else (fX6_knit_L23 nw kcl r23 (j23 + 1) on)) else (fX6_knit_L23 nw kcl r23 (j23 + 1) on))
def fX6_knit (nw : Nat → Int32) (kn : Nat → Int32) (kk : Nat) (kcl : Int32) : Int32 × (Nat → Int32) :=
  (if mN nw = 24 then ((2 : Int32), nw) else ((fun (on : Int32) => ((0 : Int32), (upd (upd (upd (upd (upd nw (mN nw) kcl) (24 + (mN nw)) (kn kk)) (48 + (mN nw)) on) (72 + (mN nw)) (0 : Int32)) 96 (nI (mN nw + 1))))) (fX6_knit_L23 nw kcl (mN nw) 0 (-6 : Int32))))
set_option maxHeartbeats 4000000 in
set_option maxRecDepth 100000 in
theorem c_X6_knit (l : Launch) (dC : Nat → ClassId) (dI : Nat → Nat → Nat) (cyI cyZ : ClassId) (hm mb mn mk ms mp mq mi mz ma mc : Nat) (sg : Nat) (sn : Nat) (ud : Int32) (rz : Int32) (az : Int32) (nw : Nat → Int32) (kn : Nat → Int32) (kk : Nat) (kcl : Int32) (hJ : kx_I nw) (hkk : kk < 4) (sz : Nat) (r : Int32 × (Nat → Int32)) (hF : fX6_knit nw kn kk kcl = r) : Met l yX6_knit wsX6_knit ({ frames := 0, cells := 0, slots := 0, locals := 0 }) (kx_wp (dC, dI) [(hm, .inr (6, [.ref mb, .ref mn, .ref mk, .int (nI sg), .ref ms, .int (nI sn), .ref mp, .int ud, .ref mq, .int rz, .int az, .ref mi, .ref mz, .ref ma, .ref mc])), (mn, .inl (cyI, 97, .inl nw)), (mk, .inl (cyI, 4, .inl kn))] [(cyI, .int), (cyZ, .boolean)] sz [.ref hm, .int (nI kk), .int kcl]) (kx_Qi r.1 (dC, dI) [(hm, .inr (6, [.ref mb, .ref mn, .ref mk, .int (nI sg), .ref ms, .int (nI sn), .ref mp, .int ud, .ref mq, .int rz, .int az, .ref mi, .ref mz, .ref ma, .ref mc])), (mn, .inl (cyI, 97, .inl nw)), (mk, .inl (cyI, 4, .inl kn))] [(hm, .inr (6, [.ref mb, .ref mn, .ref mk, .int (nI sg), .ref ms, .int (nI sn), .ref mp, .int ud, .ref mq, .int rz, .int az, .ref mi, .ref mz, .ref ma, .ref mc])), (mn, .inl (cyI, 97, .inl r.2)), (mk, .inl (cyI, 4, .inl kn))] sz) 0 0 (va_A [(hm, .inr (6, [.ref mb, .ref mn, .ref mk, .int (nI sg), .ref ms, .int (nI sn), .ref mp, .int ud, .ref mq, .int rz, .int az, .ref mi, .ref mz, .ref ma, .ref mc])), (mn, .inl (cyI, 97, .inl nw)), (mk, .inl (cyI, 4, .inl kn))] sz) := by
  refine Met.ofW (cc := cX6_knit) (maxL := 6) (ret := (some .int)) (by decide) rfl ?_
  intro p e s m args below meth c s₁ B hml hv
  obtain ⟨rfl, hsz, hP, hK, hN, hD0⟩ := hv
  have hx := B.exec
  have hb := B.bytes
  have hr := B.returns
  have hts := atoms_spec (ws := wsX6_knit) B.pre
  have hown : s.vm.findClass RX6 = some m.cls := findClass_of_methodNamed B.named
  have hlocks := B.notSynchronized
  subst hsz
  obtain ⟨A, hAe⟩ : ∃ A, A = va_A [(hm, .inr (6, [.ref mb, .ref mn, .ref mk, .int (nI sg), .ref ms, .int (nI sn), .ref mp, .int ud, .ref mq, .int rz, .int az, .ref mi, .ref mz, .ref ma, .ref mc])), (mn, .inl (cyI, 97, .inl nw)), (mk, .inl (cyI, 4, .inl kn))] s.heap.size := ⟨_, rfl⟩
  have hD : va_D A [(hm, .inr (6, [.ref mb, .ref mn, .ref mk, .int (nI sg), .ref ms, .int (nI sn), .ref mp, .int ud, .ref mq, .int rz, .int az, .ref mi, .ref mz, .ref ma, .ref mc])), (mn, .inl (cyI, 97, .inl nw)), (mk, .inl (cyI, 4, .inl kn))] := by rw [hAe]; exact hD0.self
  have hA : ∀ q : Nat, s.heap.size ≤ q → A q := fun q h => by rw [hAe]; exact Or.inr h
  have hS : va_S A s.heap s.heap [] := va_S.rf
  have hiX6 : ∀ w ∈ wsX60, w ∈ wsX6_knit := by decide +kernel
  have fl13 := hts (.fieldLink RX6 13 "KnitChronicleModel" "now" "[I") (by decide +kernel)
  have fl16 := hts (.fieldLink RX6 16 "KnitChronicleModel" "knits" "[I") (by decide +kernel)
  have hl := lv_entry ([.ref hm, .int (nI kk), .int kcl]) (n := 6) (Nat.le_of_ble_eq_true rfl)
  rw [lg_entry_eq]
  generalize (lg_sl ([.ref hm, .int (nI kk), .int kcl]) ++ List.replicate (6 - (lg_sl ([.ref hm, .int (nI kk), .int kcl])).length) Slot.unset).toArray = ls at hl ⊢
  have hl : lv_has ls 6 [(0, .ref hm), (1, .int (nI kk)), (2, .int kcl)] := hl
  unfold fX6_knit at hF
  have hmN := hJ.2.1
  refine lv_aload_n hx hb dX6_knit_0 rfl (lv_at hl 0 rfl) ?_
  refine va_get (D := (dC, dI)) (ci := 6) (v := .ref mn) (C := RX6) (T := TX6) (N := 15) hx hb hts hiX6 hown hK hP 0 rfl rfl 1 (by decide) fl13 (fun _ h9 => h9) rfl dX6_knit_1 ?_
  refine lv_bipush (v := (96 : Int32)) hx hb dX6_knit_4 (by decide) ?_
  refine kx_ld hx hb hK hP 1 0 rfl rfl (96) rfl (by omega) (by decide) dX6_knit_6 ?_
  refine kx_e hJ.1 ?_
  refine lv_istore_n (lv' := [(3, .int (nI (mN nw))), (0, .ref hm), (1, .int (nI kk)), (2, .int kcl)]) hx hb dX6_knit_7 rfl hl (by decide) rfl (fun ls hl => ?_)
  refine lv_iload_n hx hb dX6_knit_8 rfl (lv_at hl 0 rfl) ?_
  refine lv_bipush (v := (24 : Int32)) hx hb dX6_knit_9 (by decide) ?_
  refine kx_ne hx hb (mN nw) (24) rfl rfl (by omega) (by omega) dX6_knit_11 (by decide) (tgt := 16) (fun c11 => ?_) (fun c11 => ?_)
  · rw [if_neg c11] at hF
    refine lv_bipush (v := (-6 : Int32)) hx hb dX6_knit_16 (by decide) ?_
    refine lv_istore (lv' := [(4, .int (-6 : Int32)), (3, .int (nI (mN nw))), (0, .ref hm), (1, .int (nI kk)), (2, .int kcl)]) hx hb dX6_knit_18 hl (by decide) rfl (fun ls hl => ?_)
    refine lv_iconst (v := (0 : Int32)) hx hb dX6_knit_20 (by decide) ?_
    refine lv_istore (lv' := [(5, .int (0 : Int32)), (4, .int (-6 : Int32)), (3, .int (nI (mN nw))), (0, .ref hm), (1, .int (nI kk)), (2, .int kcl)]) hx hb dX6_knit_21 hl (by decide) rfl (fun ls hl => ?_)
    generalize hz23 : fX6_knit_L23 nw kcl (mN nw) 0 (-6 : Int32) = z23 at hF
    have LP23 : ∀ (r23 : Nat) (j23 : Nat) (on : Int32), r23 + j23 = mN nw → fX6_knit_L23 nw kcl r23 j23 on = z23 → ∀ (H : Heap) (locs : List Loc), va_P (dC, dI) vwCl [(hm, .inr (6, [.ref mb, .ref mn, .ref mk, .int (nI sg), .ref ms, .int (nI sn), .ref mp, .int ud, .ref mq, .int rz, .int az, .ref mi, .ref mz, .ref ma, .ref mc])), (mn, .inl (cyI, 97, .inl nw)), (mk, .inl (cyI, 4, .inl kn))] H → va_D A [(hm, .inr (6, [.ref mb, .ref mn, .ref mk, .int (nI sg), .ref ms, .int (nI sn), .ref mp, .int ud, .ref mq, .int rz, .int az, .ref mi, .ref mz, .ref ma, .ref mc])), (mn, .inl (cyI, 97, .inl nw)), (mk, .inl (cyI, 4, .inl kn))] → va_S A s.heap H locs → ∀ (ls : Array Slot), lv_has ls 6 [(5, .int (nI j23)), (4, .int on), (3, .int (nI (mN nw))), (0, .ref hm), (1, .int (nI kk)), (2, .int kcl)] → W p l e (headSpec wsX6_knit ({ frames := 0, cells := 0, slots := 0, locals := 0 } : Room)).room s m ([.ref hm, .int (nI kk), .int kcl] : List Value).toArray below meth c H locs 0 0 (MQ below (kx_Qi r.1 (dC, dI) [(hm, .inr (6, [.ref mb, .ref mn, .ref mk, .int (nI sg), .ref ms, .int (nI sn), .ref mp, .int ud, .ref mq, .int rz, .int az, .ref mi, .ref mz, .ref ma, .ref mc])), (mn, .inl (cyI, 97, .inl nw)), (mk, .inl (cyI, 4, .inl kn))] [(hm, .inr (6, [.ref mb, .ref mn, .ref mk, .int (nI sg), .ref ms, .int (nI sn), .ref mp, .int ud, .ref mq, .int rz, .int az, .ref mi, .ref mz, .ref ma, .ref mc])), (mn, .inl (cyI, 97, .inl r.2)), (mk, .inl (cyI, 4, .inl kn))] s.heap.size) ([.ref hm, .int (nI kk), .int kcl] : List Value).toArray s 0 0 (va_A [(hm, .inr (6, [.ref mb, .ref mn, .ref mk, .int (nI sg), .ref ms, .int (nI sn), .ref mp, .int ud, .ref mq, .int rz, .int az, .ref mi, .ref mz, .ref ma, .ref mc])), (mn, .inl (cyI, 97, .inl nw)), (mk, .inl (cyI, 4, .inl kn))] s.heap.size)) (F0 m 23 ls []) := by
      intro r23
      induction r23 with
      | zero =>
        intro j23 on hrj hz23 H locs hP hD hS ls hl
        rw [fX6_knit_L23] at hz23
        subst hz23
        try dsimp only at hF
        refine lv_iload hx hb dX6_knit_23 (lv_at hl 0 rfl) ?_
        refine lv_iload_n hx hb dX6_knit_25 rfl (lv_at hl 2 rfl) ?_
        refine kx_ge hx hb (j23) (mN nw) rfl rfl (by omega) (by omega) dX6_knit_26 (by decide) (tgt := 68) (fun c26 => ?_) (fun c26 => absurd c26 (by omega))
        refine lv_aload_n hx hb dX6_knit_68 rfl (lv_at hl 3 rfl) ?_
        refine va_get (D := (dC, dI)) (ci := 6) (v := .ref mn) (C := RX6) (T := TX6) (N := 15) hx hb hts hiX6 hown hK hP 0 rfl rfl 1 (by decide) fl13 (fun _ h9 => h9) rfl dX6_knit_69 ?_
        refine lv_iload_n hx hb dX6_knit_72 rfl (lv_at hl 2 rfl) ?_
        refine lv_iload_n hx hb dX6_knit_73 rfl (lv_at hl 5 rfl) ?_
        refine kx_st hx hb hK hP hD hS 1 0 rfl rfl (mN nw) rfl (by omega) (by decide) dX6_knit_74 (fun H locs hP hD hS => ?_)
        have hP : va_P (dC, dI) vwCl [(hm, .inr (6, [.ref mb, .ref mn, .ref mk, .int (nI sg), .ref ms, .int (nI sn), .ref mp, .int ud, .ref mq, .int rz, .int az, .ref mi, .ref mz, .ref ma, .ref mc])), (mn, .inl (cyI, 97, .inl (upd nw (mN nw) kcl))), (mk, .inl (cyI, 4, .inl kn))] H := hP
        have hD : va_D A [(hm, .inr (6, [.ref mb, .ref mn, .ref mk, .int (nI sg), .ref ms, .int (nI sn), .ref mp, .int ud, .ref mq, .int rz, .int az, .ref mi, .ref mz, .ref ma, .ref mc])), (mn, .inl (cyI, 97, .inl (upd nw (mN nw) kcl))), (mk, .inl (cyI, 4, .inl kn))] := hD
        refine lv_aload_n hx hb dX6_knit_75 rfl (lv_at hl 3 rfl) ?_
        refine va_get (D := (dC, dI)) (ci := 6) (v := .ref mn) (C := RX6) (T := TX6) (N := 15) hx hb hts hiX6 hown hK hP 0 rfl rfl 1 (by decide) fl13 (fun _ h9 => h9) rfl dX6_knit_76 ?_
        refine lv_bipush (v := (24 : Int32)) hx hb dX6_knit_79 (by decide) ?_
        refine lv_iload_n hx hb dX6_knit_81 rfl (lv_at hl 2 rfl) ?_
        refine lv_iadd hx hb dX6_knit_82 ?_
        refine kx_e (nI_add (24) (mN nw)) ?_
        refine lv_aload_n hx hb dX6_knit_83 rfl (lv_at hl 3 rfl) ?_
        refine va_get (D := (dC, dI)) (ci := 6) (v := .ref mk) (C := RX6) (T := TX6) (N := 15) hx hb hts hiX6 hown hK hP 0 rfl rfl 2 (by decide) fl16 (fun _ h9 => h9) rfl dX6_knit_84 ?_
        refine lv_iload_n hx hb dX6_knit_87 rfl (lv_at hl 4 rfl) ?_
        refine kx_ld hx hb hK hP 2 0 rfl rfl (kk) rfl (by omega) (by decide) dX6_knit_88 ?_
        refine kx_st hx hb hK hP hD hS 1 0 rfl rfl (24 + (mN nw)) rfl (by omega) (by decide) dX6_knit_89 (fun H locs hP hD hS => ?_)
        have hP : va_P (dC, dI) vwCl [(hm, .inr (6, [.ref mb, .ref mn, .ref mk, .int (nI sg), .ref ms, .int (nI sn), .ref mp, .int ud, .ref mq, .int rz, .int az, .ref mi, .ref mz, .ref ma, .ref mc])), (mn, .inl (cyI, 97, .inl (upd (upd nw (mN nw) kcl) (24 + (mN nw)) (kn kk)))), (mk, .inl (cyI, 4, .inl kn))] H := hP
        have hD : va_D A [(hm, .inr (6, [.ref mb, .ref mn, .ref mk, .int (nI sg), .ref ms, .int (nI sn), .ref mp, .int ud, .ref mq, .int rz, .int az, .ref mi, .ref mz, .ref ma, .ref mc])), (mn, .inl (cyI, 97, .inl (upd (upd nw (mN nw) kcl) (24 + (mN nw)) (kn kk)))), (mk, .inl (cyI, 4, .inl kn))] := hD
        refine lv_aload_n hx hb dX6_knit_90 rfl (lv_at hl 3 rfl) ?_
        refine va_get (D := (dC, dI)) (ci := 6) (v := .ref mn) (C := RX6) (T := TX6) (N := 15) hx hb hts hiX6 hown hK hP 0 rfl rfl 1 (by decide) fl13 (fun _ h9 => h9) rfl dX6_knit_91 ?_
        refine lv_bipush (v := (48 : Int32)) hx hb dX6_knit_94 (by decide) ?_
        refine lv_iload_n hx hb dX6_knit_96 rfl (lv_at hl 2 rfl) ?_
        refine lv_iadd hx hb dX6_knit_97 ?_
        refine kx_e (nI_add (48) (mN nw)) ?_
        refine lv_iload hx hb dX6_knit_98 (lv_at hl 1 rfl) ?_
        refine kx_st hx hb hK hP hD hS 1 0 rfl rfl (48 + (mN nw)) rfl (by omega) (by decide) dX6_knit_100 (fun H locs hP hD hS => ?_)
        have hP : va_P (dC, dI) vwCl [(hm, .inr (6, [.ref mb, .ref mn, .ref mk, .int (nI sg), .ref ms, .int (nI sn), .ref mp, .int ud, .ref mq, .int rz, .int az, .ref mi, .ref mz, .ref ma, .ref mc])), (mn, .inl (cyI, 97, .inl (upd (upd (upd nw (mN nw) kcl) (24 + (mN nw)) (kn kk)) (48 + (mN nw)) on))), (mk, .inl (cyI, 4, .inl kn))] H := hP
        have hD : va_D A [(hm, .inr (6, [.ref mb, .ref mn, .ref mk, .int (nI sg), .ref ms, .int (nI sn), .ref mp, .int ud, .ref mq, .int rz, .int az, .ref mi, .ref mz, .ref ma, .ref mc])), (mn, .inl (cyI, 97, .inl (upd (upd (upd nw (mN nw) kcl) (24 + (mN nw)) (kn kk)) (48 + (mN nw)) on))), (mk, .inl (cyI, 4, .inl kn))] := hD
        refine lv_aload_n hx hb dX6_knit_101 rfl (lv_at hl 3 rfl) ?_
        refine va_get (D := (dC, dI)) (ci := 6) (v := .ref mn) (C := RX6) (T := TX6) (N := 15) hx hb hts hiX6 hown hK hP 0 rfl rfl 1 (by decide) fl13 (fun _ h9 => h9) rfl dX6_knit_102 ?_
        refine lv_bipush (v := (72 : Int32)) hx hb dX6_knit_105 (by decide) ?_
        refine lv_iload_n hx hb dX6_knit_107 rfl (lv_at hl 2 rfl) ?_
        refine lv_iadd hx hb dX6_knit_108 ?_
        refine kx_e (nI_add (72) (mN nw)) ?_
        refine lv_iconst (v := (0 : Int32)) hx hb dX6_knit_109 (by decide) ?_
        refine kx_st hx hb hK hP hD hS 1 0 rfl rfl (72 + (mN nw)) rfl (by omega) (by decide) dX6_knit_110 (fun H locs hP hD hS => ?_)
        have hP : va_P (dC, dI) vwCl [(hm, .inr (6, [.ref mb, .ref mn, .ref mk, .int (nI sg), .ref ms, .int (nI sn), .ref mp, .int ud, .ref mq, .int rz, .int az, .ref mi, .ref mz, .ref ma, .ref mc])), (mn, .inl (cyI, 97, .inl (upd (upd (upd (upd nw (mN nw) kcl) (24 + (mN nw)) (kn kk)) (48 + (mN nw)) on) (72 + (mN nw)) (0 : Int32)))), (mk, .inl (cyI, 4, .inl kn))] H := hP
        have hD : va_D A [(hm, .inr (6, [.ref mb, .ref mn, .ref mk, .int (nI sg), .ref ms, .int (nI sn), .ref mp, .int ud, .ref mq, .int rz, .int az, .ref mi, .ref mz, .ref ma, .ref mc])), (mn, .inl (cyI, 97, .inl (upd (upd (upd (upd nw (mN nw) kcl) (24 + (mN nw)) (kn kk)) (48 + (mN nw)) on) (72 + (mN nw)) (0 : Int32)))), (mk, .inl (cyI, 4, .inl kn))] := hD
        refine lv_aload_n hx hb dX6_knit_111 rfl (lv_at hl 3 rfl) ?_
        refine va_get (D := (dC, dI)) (ci := 6) (v := .ref mn) (C := RX6) (T := TX6) (N := 15) hx hb hts hiX6 hown hK hP 0 rfl rfl 1 (by decide) fl13 (fun _ h9 => h9) rfl dX6_knit_112 ?_
        refine lv_bipush (v := (96 : Int32)) hx hb dX6_knit_115 (by decide) ?_
        refine lv_iload_n hx hb dX6_knit_117 rfl (lv_at hl 2 rfl) ?_
        refine lv_iconst (v := (1 : Int32)) hx hb dX6_knit_118 (by decide) ?_
        refine lv_iadd hx hb dX6_knit_119 ?_
        refine kx_e (nI_add (mN nw) (1)) ?_
        refine kx_st hx hb hK hP hD hS 1 0 rfl rfl (96) rfl (by omega) (by decide) dX6_knit_120 (fun H locs hP hD hS => ?_)
        have hP : va_P (dC, dI) vwCl [(hm, .inr (6, [.ref mb, .ref mn, .ref mk, .int (nI sg), .ref ms, .int (nI sn), .ref mp, .int ud, .ref mq, .int rz, .int az, .ref mi, .ref mz, .ref ma, .ref mc])), (mn, .inl (cyI, 97, .inl (upd (upd (upd (upd (upd nw (mN nw) kcl) (24 + (mN nw)) (kn kk)) (48 + (mN nw)) on) (72 + (mN nw)) (0 : Int32)) 96 (nI (mN nw + 1))))), (mk, .inl (cyI, 4, .inl kn))] H := hP
        have hD : va_D A [(hm, .inr (6, [.ref mb, .ref mn, .ref mk, .int (nI sg), .ref ms, .int (nI sn), .ref mp, .int ud, .ref mq, .int rz, .int az, .ref mi, .ref mz, .ref ma, .ref mc])), (mn, .inl (cyI, 97, .inl (upd (upd (upd (upd (upd nw (mN nw) kcl) (24 + (mN nw)) (kn kk)) (48 + (mN nw)) on) (72 + (mN nw)) (0 : Int32)) 96 (nI (mN nw + 1))))), (mk, .inl (cyI, 4, .inl kn))] := hD
        refine lv_iconst (v := (0 : Int32)) hx hb dX6_knit_121 (by decide) ?_
        subst hF
        subst hAe
        exact W.iret hx hb hr (fun t ht _ => ⟨⟨_, (), rfl, rfl, by rw [ht]; exact hP, hD⟩, hS.F ht⟩) hS.2.2 dX6_knit_122
      | succ r23 ih =>
        intro j23 on hrj hz23 H locs hP hD hS ls hl
        rw [fX6_knit_L23] at hz23
        refine lv_iload hx hb dX6_knit_23 (lv_at hl 0 rfl) ?_
        refine lv_iload_n hx hb dX6_knit_25 rfl (lv_at hl 2 rfl) ?_
        refine kx_ge hx hb (j23) (mN nw) rfl rfl (by omega) (by omega) dX6_knit_26 (by decide) (tgt := 68) (fun c26 => absurd c26 (by omega)) (fun c26 => ?_)
        refine lv_aload_n hx hb dX6_knit_29 rfl (lv_at hl 3 rfl) ?_
        refine va_get (D := (dC, dI)) (ci := 6) (v := .ref mn) (C := RX6) (T := TX6) (N := 15) hx hb hts hiX6 hown hK hP 0 rfl rfl 1 (by decide) fl13 (fun _ h9 => h9) rfl dX6_knit_30 ?_
        refine lv_iload hx hb dX6_knit_33 (lv_at hl 0 rfl) ?_
        refine kx_ld hx hb hK hP 1 0 rfl rfl (j23) rfl (by omega) (by decide) dX6_knit_35 ?_
        refine lv_iload_n hx hb dX6_knit_36 rfl (lv_at hl 5 rfl) ?_
        refine lv_icmp_ne (tgt := 58) hx hb dX6_knit_37 (by decide) (fun c37 => ?_) (fun c37 => ?_)
        · rw [if_neg c37] at hz23
          refine lv_iload hx hb dX6_knit_58 (lv_at hl 1 rfl) ?_
          refine lv_istore (lv' := [(4, .int on), (5, .int (nI j23)), (3, .int (nI (mN nw))), (0, .ref hm), (1, .int (nI kk)), (2, .int kcl)]) hx hb dX6_knit_60 hl (by decide) rfl (fun ls hl => ?_)
          refine lv_iinc (v := (nI (j23 + 1))) (lv' := [(5, .int (nI (j23 + 1))), (4, .int on), (3, .int (nI (mN nw))), (0, .ref hm), (1, .int (nI kk)), (2, .int kcl)]) hx hb dX6_knit_62 hl (k := 1) rfl (by exact nI_add (j23) 1) (by decide) rfl (fun ls hl => ?_)
          refine lv_goto (tgt := 23) hx hb dX6_knit_65 (by decide) ?_
          exact ih (j23 + 1) on (by omega)  hz23 _ _ hP hD hS _ (lv_sub hl [0, 1, 2, 3, 4, 5] rfl)
        · rw [if_pos c37] at hz23
          refine lv_aload_n hx hb dX6_knit_40 rfl (lv_at hl 3 rfl) ?_
          refine va_get (D := (dC, dI)) (ci := 6) (v := .ref mn) (C := RX6) (T := TX6) (N := 15) hx hb hts hiX6 hown hK hP 0 rfl rfl 1 (by decide) fl13 (fun _ h9 => h9) rfl dX6_knit_41 ?_
          refine lv_bipush (v := (72 : Int32)) hx hb dX6_knit_44 (by decide) ?_
          refine lv_iload hx hb dX6_knit_46 (lv_at hl 0 rfl) ?_
          refine lv_iadd hx hb dX6_knit_48 ?_
          refine kx_e (nI_add (72) (j23)) ?_
          refine kx_ld hx hb hK hP 1 0 rfl rfl (72 + j23) rfl (by omega) (by decide) dX6_knit_49 ?_
          refine lv_if_ne (tgt := 58) hx hb dX6_knit_50 (by decide) (fun c50 => ?_) (fun c50 => ?_)
          · rw [if_neg c50] at hz23
            refine lv_iload hx hb dX6_knit_58 (lv_at hl 1 rfl) ?_
            refine lv_istore (lv' := [(4, .int on), (5, .int (nI j23)), (3, .int (nI (mN nw))), (0, .ref hm), (1, .int (nI kk)), (2, .int kcl)]) hx hb dX6_knit_60 hl (by decide) rfl (fun ls hl => ?_)
            refine lv_iinc (v := (nI (j23 + 1))) (lv' := [(5, .int (nI (j23 + 1))), (4, .int on), (3, .int (nI (mN nw))), (0, .ref hm), (1, .int (nI kk)), (2, .int kcl)]) hx hb dX6_knit_62 hl (k := 1) rfl (by exact nI_add (j23) 1) (by decide) rfl (fun ls hl => ?_)
            refine lv_goto (tgt := 23) hx hb dX6_knit_65 (by decide) ?_
            exact ih (j23 + 1) on (by omega)  hz23 _ _ hP hD hS _ (lv_sub hl [0, 1, 2, 3, 4, 5] rfl)
          · rw [if_pos c50] at hz23
            refine lv_iload hx hb dX6_knit_53 (lv_at hl 0 rfl) ?_
            refine lv_goto (tgt := 60) hx hb dX6_knit_55 (by decide) ?_
            refine lv_istore (lv' := [(4, .int (nI j23)), (5, .int (nI j23)), (3, .int (nI (mN nw))), (0, .ref hm), (1, .int (nI kk)), (2, .int kcl)]) hx hb dX6_knit_60 hl (by decide) rfl (fun ls hl => ?_)
            refine lv_iinc (v := (nI (j23 + 1))) (lv' := [(5, .int (nI (j23 + 1))), (4, .int (nI j23)), (3, .int (nI (mN nw))), (0, .ref hm), (1, .int (nI kk)), (2, .int kcl)]) hx hb dX6_knit_62 hl (k := 1) rfl (by exact nI_add (j23) 1) (by decide) rfl (fun ls hl => ?_)
            refine lv_goto (tgt := 23) hx hb dX6_knit_65 (by decide) ?_
            exact ih (j23 + 1) (nI j23) (by omega)  hz23 _ _ hP hD hS _ (lv_sub hl [0, 1, 2, 3, 4, 5] rfl)
    exact LP23 (mN nw) 0 (-6 : Int32) (by omega)  hz23 _ _ hP hD hS _ (lv_sub hl [0, 1, 2, 3, 4, 5] rfl)
  · rw [if_pos c11] at hF
    refine lv_iconst (v := (2 : Int32)) hx hb dX6_knit_14 (by decide) ?_
    subst hF
    subst hAe
    exact W.iret hx hb hr (fun t ht _ => ⟨⟨_, (), rfl, rfl, by rw [ht]; exact hP, hD⟩, hS.F ht⟩) hS.2.2 dX6_knit_15

def fX6_pullOut (nw : Nat → Int32) (pq : Nat → Int32) (ks : Nat) : Int32 × (Nat → Int32) × (Nat → Int32) :=
  (if ks < mN nw then (match fX6_takeOut nw pq (fX6_threadOf nw ks) with | (q21a, q21b) => ((fX6_bits (fX6_threadOf nw ks)), q21a, q21b)) else ((-1 : Int32), nw, pq))
set_option maxHeartbeats 4000000 in
set_option maxRecDepth 100000 in
theorem c_X6_pullOut (l : Launch) (dC : Nat → ClassId) (dI : Nat → Nat → Nat) (cyI cyZ : ClassId) (hm mb mn mk ms mp mq mi mz ma mc : Nat) (sg : Nat) (sn : Nat) (ud : Int32) (rz : Int32) (az : Int32) (nw : Nat → Int32) (pq : Nat → Int32) (ks : Nat) (hJ : kx_I nw) (hks : ks < 100) (sz : Nat) (r : Int32 × (Nat → Int32) × (Nat → Int32)) (hF : fX6_pullOut nw pq ks = r) : Met l yX6_pullOut wsX6_pullOut ({ frames := 2, cells := 0, slots := 0, locals := 45 }) (kx_wp (dC, dI) [(hm, .inr (6, [.ref mb, .ref mn, .ref mk, .int (nI sg), .ref ms, .int (nI sn), .ref mp, .int ud, .ref mq, .int rz, .int az, .ref mi, .ref mz, .ref ma, .ref mc])), (mn, .inl (cyI, 97, .inl nw)), (mq, .inl (cyI, 24, .inl pq))] [(cyI, .int), (cyZ, .boolean)] sz [.ref hm, .int (nI ks)]) (kx_Qi r.1 (dC, dI) [(hm, .inr (6, [.ref mb, .ref mn, .ref mk, .int (nI sg), .ref ms, .int (nI sn), .ref mp, .int ud, .ref mq, .int rz, .int az, .ref mi, .ref mz, .ref ma, .ref mc])), (mn, .inl (cyI, 97, .inl nw)), (mq, .inl (cyI, 24, .inl pq))] [(hm, .inr (6, [.ref mb, .ref mn, .ref mk, .int (nI sg), .ref ms, .int (nI sn), .ref mp, .int ud, .ref mq, .int rz, .int az, .ref mi, .ref mz, .ref ma, .ref mc])), (mn, .inl (cyI, 97, .inl r.2.1)), (mq, .inl (cyI, 24, .inl r.2.2))] sz) 0 0 (va_A [(hm, .inr (6, [.ref mb, .ref mn, .ref mk, .int (nI sg), .ref ms, .int (nI sn), .ref mp, .int ud, .ref mq, .int rz, .int az, .ref mi, .ref mz, .ref ma, .ref mc])), (mn, .inl (cyI, 97, .inl nw)), (mq, .inl (cyI, 24, .inl pq))] sz) := by
  refine Met.ofW (cc := cX6_pullOut) (maxL := 3) (ret := (some .int)) (by decide) rfl ?_
  intro p e s m args below meth c s₁ B hml hv
  obtain ⟨rfl, hsz, hP, hK, hN, hD0⟩ := hv
  have hx := B.exec
  have hb := B.bytes
  have hr := B.returns
  have hts := atoms_spec (ws := wsX6_pullOut) B.pre
  have hown : s.vm.findClass RX6 = some m.cls := findClass_of_methodNamed B.named
  have hlocks := B.notSynchronized
  subst hsz
  obtain ⟨A, hAe⟩ : ∃ A, A = va_A [(hm, .inr (6, [.ref mb, .ref mn, .ref mk, .int (nI sg), .ref ms, .int (nI sn), .ref mp, .int ud, .ref mq, .int rz, .int az, .ref mi, .ref mz, .ref ma, .ref mc])), (mn, .inl (cyI, 97, .inl nw)), (mq, .inl (cyI, 24, .inl pq))] s.heap.size := ⟨_, rfl⟩
  have hD : va_D A [(hm, .inr (6, [.ref mb, .ref mn, .ref mk, .int (nI sg), .ref ms, .int (nI sn), .ref mp, .int ud, .ref mq, .int rz, .int az, .ref mi, .ref mz, .ref ma, .ref mc])), (mn, .inl (cyI, 97, .inl nw)), (mq, .inl (cyI, 24, .inl pq))] := by rw [hAe]; exact hD0.self
  have hA : ∀ q : Nat, s.heap.size ≤ q → A q := fun q h => by rw [hAe]; exact Or.inr h
  have hS : va_S A s.heap s.heap [] := va_S.rf
  have hiX6 : ∀ w ∈ wsX60, w ∈ wsX6_pullOut := by decide +kernel
  have fl13 := hts (.fieldLink RX6 13 "KnitChronicleModel" "now" "[I") (by decide +kernel)
  have hl := lv_entry ([.ref hm, .int (nI ks)]) (n := 3) (Nat.le_of_ble_eq_true rfl)
  rw [lg_entry_eq]
  generalize (lg_sl ([.ref hm, .int (nI ks)]) ++ List.replicate (3 - (lg_sl ([.ref hm, .int (nI ks)])).length) Slot.unset).toArray = ls at hl ⊢
  have hl : lv_has ls 3 [(0, .ref hm), (1, .int (nI ks))] := hl
  unfold fX6_pullOut at hF
  have hmN := hJ.2.1
  refine lv_iload_n hx hb dX6_pullOut_0 rfl (lv_at hl 1 rfl) ?_
  refine lv_aload_n hx hb dX6_pullOut_1 rfl (lv_at hl 0 rfl) ?_
  refine va_get (D := (dC, dI)) (ci := 6) (v := .ref mn) (C := RX6) (T := TX6) (N := 15) hx hb hts hiX6 hown hK hP 0 rfl rfl 1 (by decide) fl13 (fun _ h9 => h9) rfl dX6_pullOut_2 ?_
  refine lv_bipush (v := (96 : Int32)) hx hb dX6_pullOut_5 (by decide) ?_
  refine kx_ld hx hb hK hP 1 0 rfl rfl (96) rfl (by omega) (by decide) dX6_pullOut_7 ?_
  refine kx_e hJ.1 ?_
  refine kx_lt hx hb (ks) (mN nw) rfl rfl (by omega) (by omega) dX6_pullOut_8 (by decide) (tgt := 13) (fun c8 => ?_) (fun c8 => ?_)
  · rw [if_pos c8] at hF
    refine lv_aload_n hx hb dX6_pullOut_13 rfl (lv_at hl 0 rfl) ?_
    refine lv_iload_n hx hb dX6_pullOut_14 rfl (lv_at hl 1 rfl) ?_
    refine kx_cV (As := [.int (nI ks)]) (rest := []) ⟨hx, hb, hml, hown, hts⟩ (c_X6_threadOf l dC dI cyI cyZ hm mb mn mk ms mp mq mi mz ma mc sg sn ud rz az nw ks hJ (by omega) _ rfl) (cwV 1 hts gX6_pullOut_X6_threadOf rfl rfl rfl (by decide +kernel) ⟨Nat.le_of_ble_eq_true rfl, Nat.le_of_ble_eq_true rfl⟩) hP hK hN [0, 1] rfl [0, 1] rfl 6 0 rfl rfl rfl rfl hl.1 rfl (Nat.le_of_ble_eq_true rfl) dX6_pullOut_15 ⟨Nat.zero_le _, Nat.zero_le _⟩ ?_
    refine lv_istore_n (lv' := [(2, .int (fX6_threadOf nw ks)), (0, .ref hm), (1, .int (nI ks))]) hx hb dX6_pullOut_18 rfl hl (by decide) rfl (fun ls hl => ?_)
    refine lv_aload_n hx hb dX6_pullOut_19 rfl (lv_at hl 1 rfl) ?_
    refine lv_iload_n hx hb dX6_pullOut_20 rfl (lv_at hl 0 rfl) ?_
    generalize hq21 : fX6_takeOut nw pq (fX6_threadOf nw ks) = q21 at hF
    obtain ⟨q21a, q21b⟩ := q21
    dsimp only at hF
    refine kx_wVv (As := [.int (fX6_threadOf nw ks)]) (rest := []) (wr := []) (wc' := [(hm, .inr (6, [.ref mb, .ref mn, .ref mk, .int (nI sg), .ref ms, .int (nI sn), .ref mp, .int ud, .ref mq, .int rz, .int az, .ref mi, .ref mz, .ref ma, .ref mc])), (mn, .inl (cyI, 97, .inl q21a)), (mq, .inl (cyI, 24, .inl q21b))]) (W1 := [(hm, .inr (6, [.ref mb, .ref mn, .ref mk, .int (nI sg), .ref ms, .int (nI sn), .ref mp, .int ud, .ref mq, .int rz, .int az, .ref mi, .ref mz, .ref ma, .ref mc])), (mn, .inl (cyI, 97, .inl q21a)), (mq, .inl (cyI, 24, .inl q21b))]) ⟨hx, hb, hml, hown, hts⟩ (c_X6_takeOut l dC dI cyI cyZ hm mb mn mk ms mp mq mi mz ma mc sg sn ud rz az nw pq (fX6_threadOf nw ks) hJ _ _ hq21) (cwV 1 hts gX6_pullOut_X6_takeOut rfl rfl rfl (by decide +kernel) ⟨Nat.le_of_ble_eq_true rfl, Nat.le_of_ble_eq_true rfl⟩) hP hD hS hA hK hN [0, 1, 2] [] [0, 1, 2] rfl (by decide) rfl (by decide) (by decide) (by decide) rfl [0, 1] rfl 6 0 rfl rfl rfl rfl hl.1 rfl (Nat.le_of_ble_eq_true rfl) dX6_pullOut_21 ⟨Nat.zero_le _, Nat.zero_le _⟩ (fun H locs hP hD hS => ?_)
    refine lv_iload_n hx hb dX6_pullOut_24 rfl (lv_at hl 0 rfl) ?_
    refine kx_cS (As := [.int (fX6_threadOf nw ks)]) (rest := []) ⟨hx, hb, hml, hown, hts⟩ (c_X6_bits l dC dI cyI cyZ  (fX6_threadOf nw ks)  _ rfl) (va_cwS 1 hts gX6_pullOut_X6_bits rfl rfl rfl (by decide +kernel) ⟨Nat.le_of_ble_eq_true rfl, Nat.le_of_ble_eq_true rfl⟩) hP hK hN [] rfl [0, 1] rfl rfl hl.1 rfl (Nat.le_of_ble_eq_true rfl) dX6_pullOut_25 ⟨Nat.zero_le _, Nat.zero_le _⟩ ?_
    subst hF
    subst hAe
    exact W.iret hx hb hr (fun t ht _ => ⟨⟨_, (), rfl, rfl, by rw [ht]; exact hP, hD⟩, hS.F ht⟩) hS.2.2 dX6_pullOut_28
  · rw [if_neg (Nat.not_lt.mpr c8)] at hF
    refine lv_iconst (v := (-1 : Int32)) hx hb dX6_pullOut_11 (by decide) ?_
    subst hF
    subst hAe
    exact W.iret hx hb hr (fun t ht _ => ⟨⟨_, (), rfl, rfl, by rw [ht]; exact hP, hD⟩, hS.F ht⟩) hS.2.2 dX6_pullOut_12

def fX6_eat (nw : Nat → Int32) (ks : Nat) : Int32 × (Nat → Int32) :=
  (if ks < mN nw then (if (nw (72 + ks)) = (1 : Int32) then ((3 : Int32), nw) else ((0 : Int32), (upd nw (72 + ks) (1 : Int32)))) else ((1 : Int32), nw))
set_option maxHeartbeats 4000000 in
set_option maxRecDepth 100000 in
theorem c_X6_eat (l : Launch) (dC : Nat → ClassId) (dI : Nat → Nat → Nat) (cyI cyZ : ClassId) (hm mb mn mk ms mp mq mi mz ma mc : Nat) (sg : Nat) (sn : Nat) (ud : Int32) (rz : Int32) (az : Int32) (nw : Nat → Int32) (ks : Nat) (hJ : kx_I nw) (hks : ks < 100) (sz : Nat) (r : Int32 × (Nat → Int32)) (hF : fX6_eat nw ks = r) : Met l yX6_eat wsX6_eat ({ frames := 0, cells := 0, slots := 0, locals := 0 }) (kx_wp (dC, dI) [(hm, .inr (6, [.ref mb, .ref mn, .ref mk, .int (nI sg), .ref ms, .int (nI sn), .ref mp, .int ud, .ref mq, .int rz, .int az, .ref mi, .ref mz, .ref ma, .ref mc])), (mn, .inl (cyI, 97, .inl nw))] [(cyI, .int), (cyZ, .boolean)] sz [.ref hm, .int (nI ks)]) (kx_Qi r.1 (dC, dI) [(hm, .inr (6, [.ref mb, .ref mn, .ref mk, .int (nI sg), .ref ms, .int (nI sn), .ref mp, .int ud, .ref mq, .int rz, .int az, .ref mi, .ref mz, .ref ma, .ref mc])), (mn, .inl (cyI, 97, .inl nw))] [(hm, .inr (6, [.ref mb, .ref mn, .ref mk, .int (nI sg), .ref ms, .int (nI sn), .ref mp, .int ud, .ref mq, .int rz, .int az, .ref mi, .ref mz, .ref ma, .ref mc])), (mn, .inl (cyI, 97, .inl r.2))] sz) 0 0 (va_A [(hm, .inr (6, [.ref mb, .ref mn, .ref mk, .int (nI sg), .ref ms, .int (nI sn), .ref mp, .int ud, .ref mq, .int rz, .int az, .ref mi, .ref mz, .ref ma, .ref mc])), (mn, .inl (cyI, 97, .inl nw))] sz) := by
  refine Met.ofW (cc := cX6_eat) (maxL := 2) (ret := (some .int)) (by decide) rfl ?_
  intro p e s m args below meth c s₁ B hml hv
  obtain ⟨rfl, hsz, hP, hK, hN, hD0⟩ := hv
  have hx := B.exec
  have hb := B.bytes
  have hr := B.returns
  have hts := atoms_spec (ws := wsX6_eat) B.pre
  have hown : s.vm.findClass RX6 = some m.cls := findClass_of_methodNamed B.named
  have hlocks := B.notSynchronized
  subst hsz
  obtain ⟨A, hAe⟩ : ∃ A, A = va_A [(hm, .inr (6, [.ref mb, .ref mn, .ref mk, .int (nI sg), .ref ms, .int (nI sn), .ref mp, .int ud, .ref mq, .int rz, .int az, .ref mi, .ref mz, .ref ma, .ref mc])), (mn, .inl (cyI, 97, .inl nw))] s.heap.size := ⟨_, rfl⟩
  have hD : va_D A [(hm, .inr (6, [.ref mb, .ref mn, .ref mk, .int (nI sg), .ref ms, .int (nI sn), .ref mp, .int ud, .ref mq, .int rz, .int az, .ref mi, .ref mz, .ref ma, .ref mc])), (mn, .inl (cyI, 97, .inl nw))] := by rw [hAe]; exact hD0.self
  have hA : ∀ q : Nat, s.heap.size ≤ q → A q := fun q h => by rw [hAe]; exact Or.inr h
  have hS : va_S A s.heap s.heap [] := va_S.rf
  have hiX6 : ∀ w ∈ wsX60, w ∈ wsX6_eat := by decide +kernel
  have fl13 := hts (.fieldLink RX6 13 "KnitChronicleModel" "now" "[I") (by decide +kernel)
  have hl := lv_entry ([.ref hm, .int (nI ks)]) (n := 2) (Nat.le_of_ble_eq_true rfl)
  rw [lg_entry_eq]
  generalize (lg_sl ([.ref hm, .int (nI ks)]) ++ List.replicate (2 - (lg_sl ([.ref hm, .int (nI ks)])).length) Slot.unset).toArray = ls at hl ⊢
  have hl : lv_has ls 2 [(0, .ref hm), (1, .int (nI ks))] := hl
  unfold fX6_eat at hF
  have hmN := hJ.2.1
  refine lv_iload_n hx hb dX6_eat_0 rfl (lv_at hl 1 rfl) ?_
  refine lv_aload_n hx hb dX6_eat_1 rfl (lv_at hl 0 rfl) ?_
  refine va_get (D := (dC, dI)) (ci := 6) (v := .ref mn) (C := RX6) (T := TX6) (N := 15) hx hb hts hiX6 hown hK hP 0 rfl rfl 1 (by decide) fl13 (fun _ h9 => h9) rfl dX6_eat_2 ?_
  refine lv_bipush (v := (96 : Int32)) hx hb dX6_eat_5 (by decide) ?_
  refine kx_ld hx hb hK hP 1 0 rfl rfl (96) rfl (by omega) (by decide) dX6_eat_7 ?_
  refine kx_e hJ.1 ?_
  refine kx_lt hx hb (ks) (mN nw) rfl rfl (by omega) (by omega) dX6_eat_8 (by decide) (tgt := 13) (fun c8 => ?_) (fun c8 => ?_)
  · rw [if_pos c8] at hF
    refine lv_aload_n hx hb dX6_eat_13 rfl (lv_at hl 0 rfl) ?_
    refine va_get (D := (dC, dI)) (ci := 6) (v := .ref mn) (C := RX6) (T := TX6) (N := 15) hx hb hts hiX6 hown hK hP 0 rfl rfl 1 (by decide) fl13 (fun _ h9 => h9) rfl dX6_eat_14 ?_
    refine lv_bipush (v := (72 : Int32)) hx hb dX6_eat_17 (by decide) ?_
    refine lv_iload_n hx hb dX6_eat_19 rfl (lv_at hl 1 rfl) ?_
    refine lv_iadd hx hb dX6_eat_20 ?_
    refine kx_e (nI_add (72) (ks)) ?_
    refine kx_ld hx hb hK hP 1 0 rfl rfl (72 + ks) rfl (by omega) (by decide) dX6_eat_21 ?_
    refine lv_iconst (v := (1 : Int32)) hx hb dX6_eat_22 (by decide) ?_
    refine lv_icmp_ne (tgt := 28) hx hb dX6_eat_23 (by decide) (fun c23 => ?_) (fun c23 => ?_)
    · rw [if_neg c23] at hF
      refine lv_aload_n hx hb dX6_eat_28 rfl (lv_at hl 0 rfl) ?_
      refine va_get (D := (dC, dI)) (ci := 6) (v := .ref mn) (C := RX6) (T := TX6) (N := 15) hx hb hts hiX6 hown hK hP 0 rfl rfl 1 (by decide) fl13 (fun _ h9 => h9) rfl dX6_eat_29 ?_
      refine lv_bipush (v := (72 : Int32)) hx hb dX6_eat_32 (by decide) ?_
      refine lv_iload_n hx hb dX6_eat_34 rfl (lv_at hl 1 rfl) ?_
      refine lv_iadd hx hb dX6_eat_35 ?_
      refine kx_e (nI_add (72) (ks)) ?_
      refine lv_iconst (v := (1 : Int32)) hx hb dX6_eat_36 (by decide) ?_
      refine kx_st hx hb hK hP hD hS 1 0 rfl rfl (72 + ks) rfl (by omega) (by decide) dX6_eat_37 (fun H locs hP hD hS => ?_)
      have hP : va_P (dC, dI) vwCl [(hm, .inr (6, [.ref mb, .ref mn, .ref mk, .int (nI sg), .ref ms, .int (nI sn), .ref mp, .int ud, .ref mq, .int rz, .int az, .ref mi, .ref mz, .ref ma, .ref mc])), (mn, .inl (cyI, 97, .inl (upd nw (72 + ks) (1 : Int32))))] H := hP
      have hD : va_D A [(hm, .inr (6, [.ref mb, .ref mn, .ref mk, .int (nI sg), .ref ms, .int (nI sn), .ref mp, .int ud, .ref mq, .int rz, .int az, .ref mi, .ref mz, .ref ma, .ref mc])), (mn, .inl (cyI, 97, .inl (upd nw (72 + ks) (1 : Int32))))] := hD
      refine lv_iconst (v := (0 : Int32)) hx hb dX6_eat_38 (by decide) ?_
      subst hF
      subst hAe
      exact W.iret hx hb hr (fun t ht _ => ⟨⟨_, (), rfl, rfl, by rw [ht]; exact hP, hD⟩, hS.F ht⟩) hS.2.2 dX6_eat_39
    · rw [if_pos c23] at hF
      refine lv_iconst (v := (3 : Int32)) hx hb dX6_eat_26 (by decide) ?_
      subst hF
      subst hAe
      exact W.iret hx hb hr (fun t ht _ => ⟨⟨_, (), rfl, rfl, by rw [ht]; exact hP, hD⟩, hS.F ht⟩) hS.2.2 dX6_eat_27
  · rw [if_neg (Nat.not_lt.mpr c8)] at hF
    refine lv_iconst (v := (1 : Int32)) hx hb dX6_eat_11 (by decide) ?_
    subst hF
    subst hAe
    exact W.iret hx hb hr (fun t ht _ => ⟨⟨_, (), rfl, rfl, by rw [ht]; exact hP, hD⟩, hS.F ht⟩) hS.2.2 dX6_eat_12

def fX6_mend (nw : Nat → Int32) (kn : Nat → Int32) (ks : Nat) (kk : Nat) : Int32 × (Nat → Int32) :=
  (if ks < mN nw then (if (nw (72 + ks)) = 0 then ((3 : Int32), nw) else ((0 : Int32), (upd (upd nw (72 + ks) (0 : Int32)) (24 + ks) (kn kk)))) else ((1 : Int32), nw))
set_option maxHeartbeats 4000000 in
set_option maxRecDepth 100000 in
theorem c_X6_mend (l : Launch) (dC : Nat → ClassId) (dI : Nat → Nat → Nat) (cyI cyZ : ClassId) (hm mb mn mk ms mp mq mi mz ma mc : Nat) (sg : Nat) (sn : Nat) (ud : Int32) (rz : Int32) (az : Int32) (nw : Nat → Int32) (kn : Nat → Int32) (ks : Nat) (kk : Nat) (hJ : kx_I nw) (hks : ks < 100) (hkk : kk < 4) (sz : Nat) (r : Int32 × (Nat → Int32)) (hF : fX6_mend nw kn ks kk = r) : Met l yX6_mend wsX6_mend ({ frames := 0, cells := 0, slots := 0, locals := 0 }) (kx_wp (dC, dI) [(hm, .inr (6, [.ref mb, .ref mn, .ref mk, .int (nI sg), .ref ms, .int (nI sn), .ref mp, .int ud, .ref mq, .int rz, .int az, .ref mi, .ref mz, .ref ma, .ref mc])), (mn, .inl (cyI, 97, .inl nw)), (mk, .inl (cyI, 4, .inl kn))] [(cyI, .int), (cyZ, .boolean)] sz [.ref hm, .int (nI ks), .int (nI kk)]) (kx_Qi r.1 (dC, dI) [(hm, .inr (6, [.ref mb, .ref mn, .ref mk, .int (nI sg), .ref ms, .int (nI sn), .ref mp, .int ud, .ref mq, .int rz, .int az, .ref mi, .ref mz, .ref ma, .ref mc])), (mn, .inl (cyI, 97, .inl nw)), (mk, .inl (cyI, 4, .inl kn))] [(hm, .inr (6, [.ref mb, .ref mn, .ref mk, .int (nI sg), .ref ms, .int (nI sn), .ref mp, .int ud, .ref mq, .int rz, .int az, .ref mi, .ref mz, .ref ma, .ref mc])), (mn, .inl (cyI, 97, .inl r.2)), (mk, .inl (cyI, 4, .inl kn))] sz) 0 0 (va_A [(hm, .inr (6, [.ref mb, .ref mn, .ref mk, .int (nI sg), .ref ms, .int (nI sn), .ref mp, .int ud, .ref mq, .int rz, .int az, .ref mi, .ref mz, .ref ma, .ref mc])), (mn, .inl (cyI, 97, .inl nw)), (mk, .inl (cyI, 4, .inl kn))] sz) := by
  refine Met.ofW (cc := cX6_mend) (maxL := 3) (ret := (some .int)) (by decide) rfl ?_
  intro p e s m args below meth c s₁ B hml hv
  obtain ⟨rfl, hsz, hP, hK, hN, hD0⟩ := hv
  have hx := B.exec
  have hb := B.bytes
  have hr := B.returns
  have hts := atoms_spec (ws := wsX6_mend) B.pre
  have hown : s.vm.findClass RX6 = some m.cls := findClass_of_methodNamed B.named
  have hlocks := B.notSynchronized
  subst hsz
  obtain ⟨A, hAe⟩ : ∃ A, A = va_A [(hm, .inr (6, [.ref mb, .ref mn, .ref mk, .int (nI sg), .ref ms, .int (nI sn), .ref mp, .int ud, .ref mq, .int rz, .int az, .ref mi, .ref mz, .ref ma, .ref mc])), (mn, .inl (cyI, 97, .inl nw)), (mk, .inl (cyI, 4, .inl kn))] s.heap.size := ⟨_, rfl⟩
  have hD : va_D A [(hm, .inr (6, [.ref mb, .ref mn, .ref mk, .int (nI sg), .ref ms, .int (nI sn), .ref mp, .int ud, .ref mq, .int rz, .int az, .ref mi, .ref mz, .ref ma, .ref mc])), (mn, .inl (cyI, 97, .inl nw)), (mk, .inl (cyI, 4, .inl kn))] := by rw [hAe]; exact hD0.self
  have hA : ∀ q : Nat, s.heap.size ≤ q → A q := fun q h => by rw [hAe]; exact Or.inr h
  have hS : va_S A s.heap s.heap [] := va_S.rf
  have hiX6 : ∀ w ∈ wsX60, w ∈ wsX6_mend := by decide +kernel
  have fl13 := hts (.fieldLink RX6 13 "KnitChronicleModel" "now" "[I") (by decide +kernel)
  have fl16 := hts (.fieldLink RX6 16 "KnitChronicleModel" "knits" "[I") (by decide +kernel)
  have hl := lv_entry ([.ref hm, .int (nI ks), .int (nI kk)]) (n := 3) (Nat.le_of_ble_eq_true rfl)
  rw [lg_entry_eq]
  generalize (lg_sl ([.ref hm, .int (nI ks), .int (nI kk)]) ++ List.replicate (3 - (lg_sl ([.ref hm, .int (nI ks), .int (nI kk)])).length) Slot.unset).toArray = ls at hl ⊢
  have hl : lv_has ls 3 [(0, .ref hm), (1, .int (nI ks)), (2, .int (nI kk))] := hl
  unfold fX6_mend at hF
  have hmN := hJ.2.1
  refine lv_iload_n hx hb dX6_mend_0 rfl (lv_at hl 1 rfl) ?_
  refine lv_aload_n hx hb dX6_mend_1 rfl (lv_at hl 0 rfl) ?_
  refine va_get (D := (dC, dI)) (ci := 6) (v := .ref mn) (C := RX6) (T := TX6) (N := 15) hx hb hts hiX6 hown hK hP 0 rfl rfl 1 (by decide) fl13 (fun _ h9 => h9) rfl dX6_mend_2 ?_
  refine lv_bipush (v := (96 : Int32)) hx hb dX6_mend_5 (by decide) ?_
  refine kx_ld hx hb hK hP 1 0 rfl rfl (96) rfl (by omega) (by decide) dX6_mend_7 ?_
  refine kx_e hJ.1 ?_
  refine kx_lt hx hb (ks) (mN nw) rfl rfl (by omega) (by omega) dX6_mend_8 (by decide) (tgt := 13) (fun c8 => ?_) (fun c8 => ?_)
  · rw [if_pos c8] at hF
    refine lv_aload_n hx hb dX6_mend_13 rfl (lv_at hl 0 rfl) ?_
    refine va_get (D := (dC, dI)) (ci := 6) (v := .ref mn) (C := RX6) (T := TX6) (N := 15) hx hb hts hiX6 hown hK hP 0 rfl rfl 1 (by decide) fl13 (fun _ h9 => h9) rfl dX6_mend_14 ?_
    refine lv_bipush (v := (72 : Int32)) hx hb dX6_mend_17 (by decide) ?_
    refine lv_iload_n hx hb dX6_mend_19 rfl (lv_at hl 1 rfl) ?_
    refine lv_iadd hx hb dX6_mend_20 ?_
    refine kx_e (nI_add (72) (ks)) ?_
    refine kx_ld hx hb hK hP 1 0 rfl rfl (72 + ks) rfl (by omega) (by decide) dX6_mend_21 ?_
    refine lv_if_ne (tgt := 27) hx hb dX6_mend_22 (by decide) (fun c22 => ?_) (fun c22 => ?_)
    · rw [if_neg c22] at hF
      refine lv_aload_n hx hb dX6_mend_27 rfl (lv_at hl 0 rfl) ?_
      refine va_get (D := (dC, dI)) (ci := 6) (v := .ref mn) (C := RX6) (T := TX6) (N := 15) hx hb hts hiX6 hown hK hP 0 rfl rfl 1 (by decide) fl13 (fun _ h9 => h9) rfl dX6_mend_28 ?_
      refine lv_bipush (v := (72 : Int32)) hx hb dX6_mend_31 (by decide) ?_
      refine lv_iload_n hx hb dX6_mend_33 rfl (lv_at hl 1 rfl) ?_
      refine lv_iadd hx hb dX6_mend_34 ?_
      refine kx_e (nI_add (72) (ks)) ?_
      refine lv_iconst (v := (0 : Int32)) hx hb dX6_mend_35 (by decide) ?_
      refine kx_st hx hb hK hP hD hS 1 0 rfl rfl (72 + ks) rfl (by omega) (by decide) dX6_mend_36 (fun H locs hP hD hS => ?_)
      have hP : va_P (dC, dI) vwCl [(hm, .inr (6, [.ref mb, .ref mn, .ref mk, .int (nI sg), .ref ms, .int (nI sn), .ref mp, .int ud, .ref mq, .int rz, .int az, .ref mi, .ref mz, .ref ma, .ref mc])), (mn, .inl (cyI, 97, .inl (upd nw (72 + ks) (0 : Int32)))), (mk, .inl (cyI, 4, .inl kn))] H := hP
      have hD : va_D A [(hm, .inr (6, [.ref mb, .ref mn, .ref mk, .int (nI sg), .ref ms, .int (nI sn), .ref mp, .int ud, .ref mq, .int rz, .int az, .ref mi, .ref mz, .ref ma, .ref mc])), (mn, .inl (cyI, 97, .inl (upd nw (72 + ks) (0 : Int32)))), (mk, .inl (cyI, 4, .inl kn))] := hD
      refine lv_aload_n hx hb dX6_mend_37 rfl (lv_at hl 0 rfl) ?_
      refine va_get (D := (dC, dI)) (ci := 6) (v := .ref mn) (C := RX6) (T := TX6) (N := 15) hx hb hts hiX6 hown hK hP 0 rfl rfl 1 (by decide) fl13 (fun _ h9 => h9) rfl dX6_mend_38 ?_
      refine lv_bipush (v := (24 : Int32)) hx hb dX6_mend_41 (by decide) ?_
      refine lv_iload_n hx hb dX6_mend_43 rfl (lv_at hl 1 rfl) ?_
      refine lv_iadd hx hb dX6_mend_44 ?_
      refine kx_e (nI_add (24) (ks)) ?_
      refine lv_aload_n hx hb dX6_mend_45 rfl (lv_at hl 0 rfl) ?_
      refine va_get (D := (dC, dI)) (ci := 6) (v := .ref mk) (C := RX6) (T := TX6) (N := 15) hx hb hts hiX6 hown hK hP 0 rfl rfl 2 (by decide) fl16 (fun _ h9 => h9) rfl dX6_mend_46 ?_
      refine lv_iload_n hx hb dX6_mend_49 rfl (lv_at hl 2 rfl) ?_
      refine kx_ld hx hb hK hP 2 0 rfl rfl (kk) rfl (by omega) (by decide) dX6_mend_50 ?_
      refine kx_st hx hb hK hP hD hS 1 0 rfl rfl (24 + ks) rfl (by omega) (by decide) dX6_mend_51 (fun H locs hP hD hS => ?_)
      have hP : va_P (dC, dI) vwCl [(hm, .inr (6, [.ref mb, .ref mn, .ref mk, .int (nI sg), .ref ms, .int (nI sn), .ref mp, .int ud, .ref mq, .int rz, .int az, .ref mi, .ref mz, .ref ma, .ref mc])), (mn, .inl (cyI, 97, .inl (upd (upd nw (72 + ks) (0 : Int32)) (24 + ks) (kn kk)))), (mk, .inl (cyI, 4, .inl kn))] H := hP
      have hD : va_D A [(hm, .inr (6, [.ref mb, .ref mn, .ref mk, .int (nI sg), .ref ms, .int (nI sn), .ref mp, .int ud, .ref mq, .int rz, .int az, .ref mi, .ref mz, .ref ma, .ref mc])), (mn, .inl (cyI, 97, .inl (upd (upd nw (72 + ks) (0 : Int32)) (24 + ks) (kn kk)))), (mk, .inl (cyI, 4, .inl kn))] := hD
      refine lv_iconst (v := (0 : Int32)) hx hb dX6_mend_52 (by decide) ?_
      subst hF
      subst hAe
      exact W.iret hx hb hr (fun t ht _ => ⟨⟨_, (), rfl, rfl, by rw [ht]; exact hP, hD⟩, hS.F ht⟩) hS.2.2 dX6_mend_53
    · rw [if_pos c22] at hF
      refine lv_iconst (v := (3 : Int32)) hx hb dX6_mend_25 (by decide) ?_
      subst hF
      subst hAe
      exact W.iret hx hb hr (fun t ht _ => ⟨⟨_, (), rfl, rfl, by rw [ht]; exact hP, hD⟩, hS.F ht⟩) hS.2.2 dX6_mend_26
  · rw [if_neg (Nat.not_lt.mpr c8)] at hF
    refine lv_iconst (v := (1 : Int32)) hx hb dX6_mend_11 (by decide) ?_
    subst hF
    subst hAe
    exact W.iret hx hb hr (fun t ht _ => ⟨⟨_, (), rfl, rfl, by rw [ht]; exact hP, hD⟩, hS.F ht⟩) hS.2.2 dX6_mend_12

def fX6_eatenSet_L4 (nw : Nat → Int32) : Nat → Nat → Int32 → Int32
  | 0, _, es => es
  | r4 + 1, j4, es => (if (nw (72 + j4)) = (1 : Int32) then (fX6_eatenSet_L4 nw r4 (j4 + 1) (es ||| ((1 : Int32) <<< ((nI j4) &&& 31)))) else (fX6_eatenSet_L4 nw r4 (j4 + 1) (es ||| (0 : Int32))))
def fX6_eatenSet (nw : Nat → Int32) : Int32 :=
  ((fun (es : Int32) => es) (fX6_eatenSet_L4 nw (mN nw) 0 (0 : Int32)))
set_option maxHeartbeats 4000000 in
set_option maxRecDepth 100000 in
theorem c_X6_eatenSet (l : Launch) (dC : Nat → ClassId) (dI : Nat → Nat → Nat) (cyI cyZ : ClassId) (hm mb mn mk ms mp mq mi mz ma mc : Nat) (sg : Nat) (sn : Nat) (ud : Int32) (rz : Int32) (az : Int32) (nw : Nat → Int32) (hJ : kx_I nw) (r : Int32) (hF : fX6_eatenSet nw = r) : Met l yX6_eatenSet wsX6_eatenSet ({ frames := 0, cells := 0, slots := 0, locals := 0 }) (kx_rp (dC, dI) [(hm, .inr (6, [.ref mb, .ref mn, .ref mk, .int (nI sg), .ref ms, .int (nI sn), .ref mp, .int ud, .ref mq, .int rz, .int az, .ref mi, .ref mz, .ref ma, .ref mc])), (mn, .inl (cyI, 97, .inl nw))] [(cyI, .int), (cyZ, .boolean)] [.ref hm]) (k2_QcV (.int r)) 0 0 (fun _ => False) := by
  refine Met.ofW (cc := cX6_eatenSet) (maxL := 3) (ret := (some .int)) (by decide) rfl ?_
  intro p e s m args below meth c s₁ B hml hv
  obtain ⟨rfl, hP, hK, hN⟩ := hv
  have hx := B.exec
  have hb := B.bytes
  have hr := B.returns
  have hts := atoms_spec (ws := wsX6_eatenSet) B.pre
  have hown : s.vm.findClass RX6 = some m.cls := findClass_of_methodNamed B.named
  have hlocks := B.notSynchronized
  have hiX6 : ∀ w ∈ wsX60, w ∈ wsX6_eatenSet := by decide +kernel
  have fl13 := hts (.fieldLink RX6 13 "KnitChronicleModel" "now" "[I") (by decide +kernel)
  have hl := lv_entry ([.ref hm]) (n := 3) (Nat.le_of_ble_eq_true rfl)
  rw [lg_entry_eq]
  generalize (lg_sl ([.ref hm]) ++ List.replicate (3 - (lg_sl ([.ref hm])).length) Slot.unset).toArray = ls at hl ⊢
  have hl : lv_has ls 3 [(0, .ref hm)] := hl
  unfold fX6_eatenSet at hF
  have hmN := hJ.2.1
  refine lv_iconst (v := (0 : Int32)) hx hb dX6_eatenSet_0 (by decide) ?_
  refine lv_istore_n (lv' := [(1, .int (0 : Int32)), (0, .ref hm)]) hx hb dX6_eatenSet_1 rfl hl (by decide) rfl (fun ls hl => ?_)
  refine lv_iconst (v := (0 : Int32)) hx hb dX6_eatenSet_2 (by decide) ?_
  refine lv_istore_n (lv' := [(2, .int (0 : Int32)), (1, .int (0 : Int32)), (0, .ref hm)]) hx hb dX6_eatenSet_3 rfl hl (by decide) rfl (fun ls hl => ?_)
  generalize hz4 : fX6_eatenSet_L4 nw (mN nw) 0 (0 : Int32) = z4 at hF
  have LP4 : ∀ (r4 : Nat) (j4 : Nat) (es : Int32), r4 + j4 = mN nw → fX6_eatenSet_L4 nw r4 j4 es = z4 → ∀ (ls : Array Slot), lv_has ls 3 [(2, .int (nI j4)), (1, .int es), (0, .ref hm)] → W p l e (headSpec wsX6_eatenSet ({ frames := 0, cells := 0, slots := 0, locals := 0 } : Room)).room s m ([.ref hm] : List Value).toArray below meth c s.heap [] 0 0 (MQ below (k2_QcV (.int r)) ([.ref hm] : List Value).toArray s 0 0 (fun _ => False)) (F0 m 4 ls []) := by
    intro r4
    induction r4 with
    | zero =>
      intro j4 es hrj hz4 ls hl
      rw [fX6_eatenSet_L4] at hz4
      subst hz4
      try dsimp only at hF
      refine lv_iload_n hx hb dX6_eatenSet_4 rfl (lv_at hl 0 rfl) ?_
      refine lv_aload_n hx hb dX6_eatenSet_5 rfl (lv_at hl 2 rfl) ?_
      refine va_get (D := (dC, dI)) (ci := 6) (v := .ref mn) (C := RX6) (T := TX6) (N := 15) hx hb hts hiX6 hown hK hP 0 rfl rfl 1 (by decide) fl13 (fun _ h9 => h9) rfl dX6_eatenSet_6 ?_
      refine lv_bipush (v := (96 : Int32)) hx hb dX6_eatenSet_9 (by decide) ?_
      refine kx_ld hx hb hK hP 1 0 rfl rfl (96) rfl (by omega) (by decide) dX6_eatenSet_11 ?_
      refine kx_e hJ.1 ?_
      refine kx_ge hx hb (j4) (mN nw) rfl rfl (by omega) (by omega) dX6_eatenSet_12 (by decide) (tgt := 44) (fun c12 => ?_) (fun c12 => absurd c12 (by omega))
      refine lv_iload_n hx hb dX6_eatenSet_44 rfl (lv_at hl 1 rfl) ?_
      exact W.iret hx hb hr (fun t ht _ => ⟨congrArg (fun z => Outcome.returned (some (Value.int z))) hF, ht⟩) (fun _ h => absurd h List.not_mem_nil) dX6_eatenSet_45
    | succ r4 ih =>
      intro j4 es hrj hz4 ls hl
      rw [fX6_eatenSet_L4] at hz4
      refine lv_iload_n hx hb dX6_eatenSet_4 rfl (lv_at hl 0 rfl) ?_
      refine lv_aload_n hx hb dX6_eatenSet_5 rfl (lv_at hl 2 rfl) ?_
      refine va_get (D := (dC, dI)) (ci := 6) (v := .ref mn) (C := RX6) (T := TX6) (N := 15) hx hb hts hiX6 hown hK hP 0 rfl rfl 1 (by decide) fl13 (fun _ h9 => h9) rfl dX6_eatenSet_6 ?_
      refine lv_bipush (v := (96 : Int32)) hx hb dX6_eatenSet_9 (by decide) ?_
      refine kx_ld hx hb hK hP 1 0 rfl rfl (96) rfl (by omega) (by decide) dX6_eatenSet_11 ?_
      refine kx_e hJ.1 ?_
      refine kx_ge hx hb (j4) (mN nw) rfl rfl (by omega) (by omega) dX6_eatenSet_12 (by decide) (tgt := 44) (fun c12 => absurd c12 (by omega)) (fun c12 => ?_)
      refine lv_iload_n hx hb dX6_eatenSet_15 rfl (lv_at hl 1 rfl) ?_
      refine lv_aload_n hx hb dX6_eatenSet_16 rfl (lv_at hl 2 rfl) ?_
      refine va_get (D := (dC, dI)) (ci := 6) (v := .ref mn) (C := RX6) (T := TX6) (N := 15) hx hb hts hiX6 hown hK hP 0 rfl rfl 1 (by decide) fl13 (fun _ h9 => h9) rfl dX6_eatenSet_17 ?_
      refine lv_bipush (v := (72 : Int32)) hx hb dX6_eatenSet_20 (by decide) ?_
      refine lv_iload_n hx hb dX6_eatenSet_22 rfl (lv_at hl 0 rfl) ?_
      refine lv_iadd hx hb dX6_eatenSet_23 ?_
      refine kx_e (nI_add (72) (j4)) ?_
      refine kx_ld hx hb hK hP 1 0 rfl rfl (72 + j4) rfl (by omega) (by decide) dX6_eatenSet_24 ?_
      refine lv_iconst (v := (1 : Int32)) hx hb dX6_eatenSet_25 (by decide) ?_
      refine lv_icmp_ne (tgt := 35) hx hb dX6_eatenSet_26 (by decide) (fun c26 => ?_) (fun c26 => ?_)
      · rw [if_neg c26] at hz4
        refine lv_iconst (v := (0 : Int32)) hx hb dX6_eatenSet_35 (by decide) ?_
        refine lv_ior hx hb dX6_eatenSet_36 ?_
        refine lv_istore_n (lv' := [(1, .int (es ||| (0 : Int32))), (2, .int (nI j4)), (0, .ref hm)]) hx hb dX6_eatenSet_37 rfl hl (by decide) rfl (fun ls hl => ?_)
        refine lv_iinc (v := (nI (j4 + 1))) (lv' := [(2, .int (nI (j4 + 1))), (1, .int (es ||| (0 : Int32))), (0, .ref hm)]) hx hb dX6_eatenSet_38 hl (k := 1) rfl (by exact nI_add (j4) 1) (by decide) rfl (fun ls hl => ?_)
        refine lv_goto (tgt := 4) hx hb dX6_eatenSet_41 (by decide) ?_
        exact ih (j4 + 1) (es ||| (0 : Int32)) (by omega)  hz4 _ (lv_sub hl [0, 1, 2] rfl)
      · rw [if_pos c26] at hz4
        refine lv_iconst (v := (1 : Int32)) hx hb dX6_eatenSet_29 (by decide) ?_
        refine lv_iload_n hx hb dX6_eatenSet_30 rfl (lv_at hl 0 rfl) ?_
        refine lv_ishl hx hb dX6_eatenSet_31 ?_
        refine lv_goto (tgt := 36) hx hb dX6_eatenSet_32 (by decide) ?_
        refine lv_ior hx hb dX6_eatenSet_36 ?_
        refine lv_istore_n (lv' := [(1, .int (es ||| ((1 : Int32) <<< ((nI j4) &&& 31)))), (2, .int (nI j4)), (0, .ref hm)]) hx hb dX6_eatenSet_37 rfl hl (by decide) rfl (fun ls hl => ?_)
        refine lv_iinc (v := (nI (j4 + 1))) (lv' := [(2, .int (nI (j4 + 1))), (1, .int (es ||| ((1 : Int32) <<< ((nI j4) &&& 31)))), (0, .ref hm)]) hx hb dX6_eatenSet_38 hl (k := 1) rfl (by exact nI_add (j4) 1) (by decide) rfl (fun ls hl => ?_)
        refine lv_goto (tgt := 4) hx hb dX6_eatenSet_41 (by decide) ?_
        exact ih (j4 + 1) (es ||| ((1 : Int32) <<< ((nI j4) &&& 31))) (by omega)  hz4 _ (lv_sub hl [0, 1, 2] rfl)
  exact LP4 (mN nw) 0 (0 : Int32) (by omega)  hz4 _ (lv_sub hl [0, 1, 2] rfl)

def fX6_looseSet_L9 (nw : Nat → Int32) : Nat → Nat → Int32 → Int32
  | 0, _, lo => lo
  | r9 + 1, j9, lo => (if (nw (48 + j9)) < 0 then (fX6_looseSet_L9 nw r9 (j9 + 1) (lo ||| (0 : Int32))) else (if (fX6_has ((fX6_eatenSet nw) ||| lo) (nw (48 + j9))) = 0 then (fX6_looseSet_L9 nw r9 (j9 + 1) (lo ||| (0 : Int32))) else (fX6_looseSet_L9 nw r9 (j9 + 1) (lo ||| ((1 : Int32) <<< ((nI j9) &&& 31))))))
def fX6_looseSet (nw : Nat → Int32) : Int32 :=
  ((fun (lo : Int32) => lo) (fX6_looseSet_L9 nw (mN nw) 0 (0 : Int32)))
set_option maxHeartbeats 4000000 in
set_option maxRecDepth 100000 in
theorem c_X6_looseSet (l : Launch) (dC : Nat → ClassId) (dI : Nat → Nat → Nat) (cyI cyZ : ClassId) (hm mb mn mk ms mp mq mi mz ma mc : Nat) (sg : Nat) (sn : Nat) (ud : Int32) (rz : Int32) (az : Int32) (nw : Nat → Int32) (hJ : kx_I nw) (r : Int32) (hF : fX6_looseSet nw = r) : Met l yX6_looseSet wsX6_looseSet ({ frames := 1, cells := 0, slots := 0, locals := 22 }) (kx_rp (dC, dI) [(hm, .inr (6, [.ref mb, .ref mn, .ref mk, .int (nI sg), .ref ms, .int (nI sn), .ref mp, .int ud, .ref mq, .int rz, .int az, .ref mi, .ref mz, .ref ma, .ref mc])), (mn, .inl (cyI, 97, .inl nw))] [(cyI, .int), (cyZ, .boolean)] [.ref hm]) (k2_QcV (.int r)) 0 0 (fun _ => False) := by
  refine Met.ofW (cc := cX6_looseSet) (maxL := 5) (ret := (some .int)) (by decide) rfl ?_
  intro p e s m args below meth c s₁ B hml hv
  obtain ⟨rfl, hP, hK, hN⟩ := hv
  have hx := B.exec
  have hb := B.bytes
  have hr := B.returns
  have hts := atoms_spec (ws := wsX6_looseSet) B.pre
  have hown : s.vm.findClass RX6 = some m.cls := findClass_of_methodNamed B.named
  have hlocks := B.notSynchronized
  have hiX6 : ∀ w ∈ wsX60, w ∈ wsX6_looseSet := by decide +kernel
  have fl13 := hts (.fieldLink RX6 13 "KnitChronicleModel" "now" "[I") (by decide +kernel)
  have hl := lv_entry ([.ref hm]) (n := 5) (Nat.le_of_ble_eq_true rfl)
  rw [lg_entry_eq]
  generalize (lg_sl ([.ref hm]) ++ List.replicate (5 - (lg_sl ([.ref hm])).length) Slot.unset).toArray = ls at hl ⊢
  have hl : lv_has ls 5 [(0, .ref hm)] := hl
  unfold fX6_looseSet at hF
  have hmN := hJ.2.1
  refine lv_aload_n hx hb dX6_looseSet_0 rfl (lv_at hl 0 rfl) ?_
  refine kx_cV (As := []) (rest := []) ⟨hx, hb, hml, hown, hts⟩ (c_X6_eatenSet l dC dI cyI cyZ hm mb mn mk ms mp mq mi mz ma mc sg sn ud rz az nw hJ _ rfl) (cwV 0 hts gX6_looseSet_X6_eatenSet rfl rfl rfl (by decide +kernel) ⟨Nat.le_of_ble_eq_true rfl, Nat.le_of_ble_eq_true rfl⟩) hP hK hN [0, 1] rfl [0, 1] rfl 6 0 rfl rfl rfl rfl hl.1 rfl (Nat.le_of_ble_eq_true rfl) dX6_looseSet_1 ⟨Nat.zero_le _, Nat.zero_le _⟩ ?_
  refine lv_istore_n (lv' := [(1, .int (fX6_eatenSet nw)), (0, .ref hm)]) hx hb dX6_looseSet_4 rfl hl (by decide) rfl (fun ls hl => ?_)
  refine lv_iconst (v := (0 : Int32)) hx hb dX6_looseSet_5 (by decide) ?_
  refine lv_istore_n (lv' := [(2, .int (0 : Int32)), (1, .int (fX6_eatenSet nw)), (0, .ref hm)]) hx hb dX6_looseSet_6 rfl hl (by decide) rfl (fun ls hl => ?_)
  refine lv_iconst (v := (0 : Int32)) hx hb dX6_looseSet_7 (by decide) ?_
  refine lv_istore_n (lv' := [(3, .int (0 : Int32)), (2, .int (0 : Int32)), (1, .int (fX6_eatenSet nw)), (0, .ref hm)]) hx hb dX6_looseSet_8 rfl hl (by decide) rfl (fun ls hl => ?_)
  generalize hz9 : fX6_looseSet_L9 nw (mN nw) 0 (0 : Int32) = z9 at hF
  have LP9 : ∀ (r9 : Nat) (j9 : Nat) (lo : Int32), r9 + j9 = mN nw → fX6_looseSet_L9 nw r9 j9 lo = z9 → ∀ (ls : Array Slot), lv_has ls 5 [(3, .int (nI j9)), (2, .int lo), (1, .int (fX6_eatenSet nw)), (0, .ref hm)] → W p l e (headSpec wsX6_looseSet ({ frames := 1, cells := 0, slots := 0, locals := 22 } : Room)).room s m ([.ref hm] : List Value).toArray below meth c s.heap [] 0 0 (MQ below (k2_QcV (.int r)) ([.ref hm] : List Value).toArray s 0 0 (fun _ => False)) (F0 m 9 ls []) := by
    intro r9
    induction r9 with
    | zero =>
      intro j9 lo hrj hz9 ls hl
      rw [fX6_looseSet_L9] at hz9
      subst hz9
      try dsimp only at hF
      refine lv_iload_n hx hb dX6_looseSet_9 rfl (lv_at hl 0 rfl) ?_
      refine lv_aload_n hx hb dX6_looseSet_10 rfl (lv_at hl 3 rfl) ?_
      refine va_get (D := (dC, dI)) (ci := 6) (v := .ref mn) (C := RX6) (T := TX6) (N := 15) hx hb hts hiX6 hown hK hP 0 rfl rfl 1 (by decide) fl13 (fun _ h9 => h9) rfl dX6_looseSet_11 ?_
      refine lv_bipush (v := (96 : Int32)) hx hb dX6_looseSet_14 (by decide) ?_
      refine kx_ld hx hb hK hP 1 0 rfl rfl (96) rfl (by omega) (by decide) dX6_looseSet_16 ?_
      refine kx_e hJ.1 ?_
      refine kx_ge hx hb (j9) (mN nw) rfl rfl (by omega) (by omega) dX6_looseSet_17 (by decide) (tgt := 63) (fun c17 => ?_) (fun c17 => absurd c17 (by omega))
      refine lv_iload_n hx hb dX6_looseSet_63 rfl (lv_at hl 1 rfl) ?_
      exact W.iret hx hb hr (fun t ht _ => ⟨congrArg (fun z => Outcome.returned (some (Value.int z))) hF, ht⟩) (fun _ h => absurd h List.not_mem_nil) dX6_looseSet_64
    | succ r9 ih =>
      intro j9 lo hrj hz9 ls hl
      rw [fX6_looseSet_L9] at hz9
      refine lv_iload_n hx hb dX6_looseSet_9 rfl (lv_at hl 0 rfl) ?_
      refine lv_aload_n hx hb dX6_looseSet_10 rfl (lv_at hl 3 rfl) ?_
      refine va_get (D := (dC, dI)) (ci := 6) (v := .ref mn) (C := RX6) (T := TX6) (N := 15) hx hb hts hiX6 hown hK hP 0 rfl rfl 1 (by decide) fl13 (fun _ h9 => h9) rfl dX6_looseSet_11 ?_
      refine lv_bipush (v := (96 : Int32)) hx hb dX6_looseSet_14 (by decide) ?_
      refine kx_ld hx hb hK hP 1 0 rfl rfl (96) rfl (by omega) (by decide) dX6_looseSet_16 ?_
      refine kx_e hJ.1 ?_
      refine kx_ge hx hb (j9) (mN nw) rfl rfl (by omega) (by omega) dX6_looseSet_17 (by decide) (tgt := 63) (fun c17 => absurd c17 (by omega)) (fun c17 => ?_)
      refine lv_aload_n hx hb dX6_looseSet_20 rfl (lv_at hl 3 rfl) ?_
      refine va_get (D := (dC, dI)) (ci := 6) (v := .ref mn) (C := RX6) (T := TX6) (N := 15) hx hb hts hiX6 hown hK hP 0 rfl rfl 1 (by decide) fl13 (fun _ h9 => h9) rfl dX6_looseSet_21 ?_
      refine lv_bipush (v := (48 : Int32)) hx hb dX6_looseSet_24 (by decide) ?_
      refine lv_iload_n hx hb dX6_looseSet_26 rfl (lv_at hl 0 rfl) ?_
      refine lv_iadd hx hb dX6_looseSet_27 ?_
      refine kx_e (nI_add (48) (j9)) ?_
      refine kx_ld hx hb hK hP 1 0 rfl rfl (48 + j9) rfl (by omega) (by decide) dX6_looseSet_28 ?_
      refine lv_istore (lv' := [(4, .int (nw (48 + j9))), (3, .int (nI j9)), (2, .int lo), (1, .int (fX6_eatenSet nw)), (0, .ref hm)]) hx hb dX6_looseSet_29 hl (by decide) rfl (fun ls hl => ?_)
      refine lv_iload_n hx hb dX6_looseSet_31 rfl (lv_at hl 2 rfl) ?_
      refine lv_iload hx hb dX6_looseSet_32 (lv_at hl 0 rfl) ?_
      refine lv_if_lt (tgt := 54) hx hb dX6_looseSet_34 (by decide) (fun c34 => ?_) (fun c34 => ?_)
      · rw [if_pos c34] at hz9
        refine lv_iconst (v := (0 : Int32)) hx hb dX6_looseSet_54 (by decide) ?_
        refine lv_ior hx hb dX6_looseSet_55 ?_
        refine lv_istore_n (lv' := [(2, .int (lo ||| (0 : Int32))), (4, .int (nw (48 + j9))), (3, .int (nI j9)), (1, .int (fX6_eatenSet nw)), (0, .ref hm)]) hx hb dX6_looseSet_56 rfl hl (by decide) rfl (fun ls hl => ?_)
        refine lv_iinc (v := (nI (j9 + 1))) (lv' := [(3, .int (nI (j9 + 1))), (2, .int (lo ||| (0 : Int32))), (4, .int (nw (48 + j9))), (1, .int (fX6_eatenSet nw)), (0, .ref hm)]) hx hb dX6_looseSet_57 hl (k := 2) rfl (by exact nI_add (j9) 1) (by decide) rfl (fun ls hl => ?_)
        refine lv_goto (tgt := 9) hx hb dX6_looseSet_60 (by decide) ?_
        exact ih (j9 + 1) (lo ||| (0 : Int32)) (by omega)  hz9 _ (lv_sub hl [0, 1, 3, 4] rfl)
      · rw [if_neg c34] at hz9
        refine lv_iload_n hx hb dX6_looseSet_37 rfl (lv_at hl 3 rfl) ?_
        refine lv_iload_n hx hb dX6_looseSet_38 rfl (lv_at hl 2 rfl) ?_
        refine lv_ior hx hb dX6_looseSet_39 ?_
        refine lv_iload hx hb dX6_looseSet_40 (lv_at hl 0 rfl) ?_
        refine kx_cS (As := [.int ((fX6_eatenSet nw) ||| lo), .int (nw (48 + j9))]) (rest := [.int lo]) ⟨hx, hb, hml, hown, hts⟩ (c_X6_has l dC dI cyI cyZ  ((fX6_eatenSet nw) ||| lo) (nw (48 + j9))  _ rfl) (va_cwS 2 hts gX6_looseSet_X6_has rfl rfl rfl (by decide +kernel) ⟨Nat.le_of_ble_eq_true rfl, Nat.le_of_ble_eq_true rfl⟩) hP hK hN [] rfl [0, 1] rfl rfl hl.1 rfl (Nat.le_of_ble_eq_true rfl) dX6_looseSet_42 ⟨Nat.zero_le _, Nat.zero_le _⟩ ?_
        refine lv_if_eq (tgt := 54) hx hb dX6_looseSet_45 (by decide) (fun c45 => ?_) (fun c45 => ?_)
        · rw [if_pos c45] at hz9
          refine lv_iconst (v := (0 : Int32)) hx hb dX6_looseSet_54 (by decide) ?_
          refine lv_ior hx hb dX6_looseSet_55 ?_
          refine lv_istore_n (lv' := [(2, .int (lo ||| (0 : Int32))), (4, .int (nw (48 + j9))), (3, .int (nI j9)), (1, .int (fX6_eatenSet nw)), (0, .ref hm)]) hx hb dX6_looseSet_56 rfl hl (by decide) rfl (fun ls hl => ?_)
          refine lv_iinc (v := (nI (j9 + 1))) (lv' := [(3, .int (nI (j9 + 1))), (2, .int (lo ||| (0 : Int32))), (4, .int (nw (48 + j9))), (1, .int (fX6_eatenSet nw)), (0, .ref hm)]) hx hb dX6_looseSet_57 hl (k := 2) rfl (by exact nI_add (j9) 1) (by decide) rfl (fun ls hl => ?_)
          refine lv_goto (tgt := 9) hx hb dX6_looseSet_60 (by decide) ?_
          exact ih (j9 + 1) (lo ||| (0 : Int32)) (by omega)  hz9 _ (lv_sub hl [0, 1, 3, 4] rfl)
        · rw [if_neg c45] at hz9
          refine lv_iconst (v := (1 : Int32)) hx hb dX6_looseSet_48 (by decide) ?_
          refine lv_iload_n hx hb dX6_looseSet_49 rfl (lv_at hl 1 rfl) ?_
          refine lv_ishl hx hb dX6_looseSet_50 ?_
          refine lv_goto (tgt := 55) hx hb dX6_looseSet_51 (by decide) ?_
          refine lv_ior hx hb dX6_looseSet_55 ?_
          refine lv_istore_n (lv' := [(2, .int (lo ||| ((1 : Int32) <<< ((nI j9) &&& 31)))), (4, .int (nw (48 + j9))), (3, .int (nI j9)), (1, .int (fX6_eatenSet nw)), (0, .ref hm)]) hx hb dX6_looseSet_56 rfl hl (by decide) rfl (fun ls hl => ?_)
          refine lv_iinc (v := (nI (j9 + 1))) (lv' := [(3, .int (nI (j9 + 1))), (2, .int (lo ||| ((1 : Int32) <<< ((nI j9) &&& 31)))), (4, .int (nw (48 + j9))), (1, .int (fX6_eatenSet nw)), (0, .ref hm)]) hx hb dX6_looseSet_57 hl (k := 2) rfl (by exact nI_add (j9) 1) (by decide) rfl (fun ls hl => ?_)
          refine lv_goto (tgt := 9) hx hb dX6_looseSet_60 (by decide) ?_
          exact ih (j9 + 1) (lo ||| ((1 : Int32) <<< ((nI j9) &&& 31))) (by omega)  hz9 _ (lv_sub hl [0, 1, 3, 4] rfl)
  exact LP9 (mN nw) 0 (0 : Int32) (by omega)  hz9 _ (lv_sub hl [0, 1, 2, 3] rfl)
