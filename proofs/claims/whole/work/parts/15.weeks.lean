def fX5_tryWeeks_L16 (kt : Nat → Int32) (np : Nat) (sg : Nat → Int32) : Nat → Nat → (Nat → Int32) → (Nat → Int32) → (Nat → Int32) → Nat → Int32 → Int32 → Int32 → Int32 → Int32 → (Int32 × (Nat → Int32) × (Nat → Int32) × (Nat → Int32) × Nat × Int32 × Int32 × Int32 × Int32 × Int32)
  | 0, _, gc, gt, ga, gn, ge, g1, g2, g3, g4 => ((1 : Int32), gc, gt, ga, gn, ge, g1, g2, g3, g4)
  | r16 + 1, j16, gc, gt, ga, gn, ge, g1, g2, g3, g4 => (if np ≤ j16 then ((1 : Int32), gc, gt, ga, gn, ge, g1, g2, g3, g4) else (if (fX1_kindAt sg (nI j16)) = (3 : Int32) then (match fX4_act g1 g3 g4 gn ge gc gt ga (fX1_kindAt sg (nI j16)) (fX1_stitchAt sg (nI (j16 + 1))) (fX1_colourAt sg (nI (j16 + 1))) (fX3_tightnessOf kt (fX1_knitterAt sg (nI j16))) with | (q97a, q97b, q97c, q97d, q97e, q97f, q97g, q97h, q97i, q97j) => (if q97a = 0 then ((0 : Int32), q97b, q97c, q97d, q97e, q97f, q97g, q97h, q97i, q97j) else (if (fX1_kindAt sg (nI j16)) = (2 : Int32) then (fX5_tryWeeks_L16 kt np sg r16 (j16 + 3) q97b q97c q97d q97e q97f q97g q97h q97i q97j) else (fX5_tryWeeks_L16 kt np sg r16 (j16 + 2) q97b q97c q97d q97e q97f q97g q97h q97i q97j)))) else (match fX4_act g1 g3 g4 gn ge gc gt ga (fX1_kindAt sg (nI j16)) (fX1_stitchAt sg (nI (j16 + 1))) (fX1_colourAt sg (nI (j16 + 1))) (fX3_tightnessOf kt (fX1_knitterAt sg (nI (j16 + 2)))) with | (q97a, q97b, q97c, q97d, q97e, q97f, q97g, q97h, q97i, q97j) => (if q97a = 0 then ((0 : Int32), q97b, q97c, q97d, q97e, q97f, q97g, q97h, q97i, q97j) else (if (fX1_kindAt sg (nI j16)) = (2 : Int32) then (fX5_tryWeeks_L16 kt np sg r16 (j16 + 3) q97b q97c q97d q97e q97f q97g q97h q97i q97j) else (fX5_tryWeeks_L16 kt np sg r16 (j16 + 2) q97b q97c q97d q97e q97f q97g q97h q97i q97j))))))
def fX5_tryWeeks (kt : Nat → Int32) (n : Nat) (ea : Int32) (co : Nat → Int32) (ti : Nat → Int32) (an : Nat → Int32) (np : Nat) (sg : Nat → Int32) (cr : Nat → Int32) (tr : Nat → Int32) (ar : Nat → Int32) : Int32 × (Nat → Int32) × (Nat → Int32) × (Nat → Int32) × Nat × Int32 × Int32 × Int32 × Int32 × Int32 :=
  (match fX4_begin cr tr ar n ea co ti an with | (q11a, q11b, q11c, q11d, q11e, q11f, q11g, q11h, q11i) => (fX5_tryWeeks_L16 kt np sg np 0 q11a q11b q11c q11d q11e q11f q11g q11h q11i))
set_option maxHeartbeats 4000000 in
set_option maxRecDepth 100000 in
theorem c_X5_tryWeeks (l : Launch) (dC : Nat → ClassId) (dI : Nat → Nat → Nat) (cyI cyZ : ClassId) (hkc ht ht1 ht2 hp htr hh as hs ak a0 a1 a2 ap hq r0 r1 r2 : Nat) (kp : Int32) (si : Nat) (fi : Int32) (kt : Nat → Int32) (n : Nat) (ea : Int32) (co : Nat → Int32) (ti : Nat → Int32) (an : Nat → Int32) (np : Nat) (sg : Nat → Int32) (ac1 : Int32) (rs : Int32) (mu : Int32) (al1 : Int32) (nr : Nat) (er : Int32) (cr : Nat → Int32) (tr : Nat → Int32) (ar : Nat → Int32) (hn : n ≤ 24) (hnp : np ≤ 60) (sz : Nat) (r : Int32 × (Nat → Int32) × (Nat → Int32) × (Nat → Int32) × Nat × Int32 × Int32 × Int32 × Int32 × Int32) (hF : fX5_tryWeeks kt n ea co ti an np sg cr tr ar = r) : Met l yX5_tryWeeks wsX5_tryWeeks ({ frames := 4, cells := 0, slots := 0, locals := 93 }) (kx_wp (dC, dI) [(hkc, .inr (5, [.ref ht, .ref ht1, .ref ht2, .int kp, .ref hp, .ref htr, .ref hh, .ref as])), (ht, .inr (3, [.ref hs, .ref ak, .int (nI si), .int fi])), (ak, .inl (cyI, 4, .inl kt)), (hs, .inr (2, [.ref a0, .ref a1, .ref a2, .int (nI n), .int ea])), (a0, .inl (cyI, 24, .inl co)), (a1, .inl (cyI, 24, .inl ti)), (a2, .inl (cyI, 24, .inl an)), (hp, .inr (1, [.ref ap, .int (nI np)])), (ap, .inl (cyI, 60, .inl sg)), (htr, .inr (4, [.ref hq, .int ac1, .int rs, .int mu, .int al1])), (hq, .inr (2, [.ref r0, .ref r1, .ref r2, .int (nI nr), .int er])), (r0, .inl (cyI, 24, .inl cr)), (r1, .inl (cyI, 24, .inl tr)), (r2, .inl (cyI, 24, .inl ar))] [(cyI, .int), (cyZ, .boolean)] sz [.ref hkc]) (kx_Qi r.1 (dC, dI) [(hkc, .inr (5, [.ref ht, .ref ht1, .ref ht2, .int kp, .ref hp, .ref htr, .ref hh, .ref as])), (ht, .inr (3, [.ref hs, .ref ak, .int (nI si), .int fi])), (ak, .inl (cyI, 4, .inl kt)), (hs, .inr (2, [.ref a0, .ref a1, .ref a2, .int (nI n), .int ea])), (a0, .inl (cyI, 24, .inl co)), (a1, .inl (cyI, 24, .inl ti)), (a2, .inl (cyI, 24, .inl an)), (hp, .inr (1, [.ref ap, .int (nI np)])), (ap, .inl (cyI, 60, .inl sg)), (htr, .inr (4, [.ref hq, .int ac1, .int rs, .int mu, .int al1])), (hq, .inr (2, [.ref r0, .ref r1, .ref r2, .int (nI nr), .int er])), (r0, .inl (cyI, 24, .inl cr)), (r1, .inl (cyI, 24, .inl tr)), (r2, .inl (cyI, 24, .inl ar))] [(hkc, .inr (5, [.ref ht, .ref ht1, .ref ht2, .int kp, .ref hp, .ref htr, .ref hh, .ref as])), (ht, .inr (3, [.ref hs, .ref ak, .int (nI si), .int fi])), (ak, .inl (cyI, 4, .inl kt)), (hs, .inr (2, [.ref a0, .ref a1, .ref a2, .int (nI n), .int ea])), (a0, .inl (cyI, 24, .inl co)), (a1, .inl (cyI, 24, .inl ti)), (a2, .inl (cyI, 24, .inl an)), (hp, .inr (1, [.ref ap, .int (nI np)])), (ap, .inl (cyI, 60, .inl sg)), (htr, .inr (4, [.ref hq, .int r.2.2.2.2.2.2.1, .int r.2.2.2.2.2.2.2.1, .int r.2.2.2.2.2.2.2.2.1, .int r.2.2.2.2.2.2.2.2.2])), (hq, .inr (2, [.ref r0, .ref r1, .ref r2, .int (nI (r.2.2.2.2.1)), .int r.2.2.2.2.2.1])), (r0, .inl (cyI, 24, .inl r.2.1)), (r1, .inl (cyI, 24, .inl r.2.2.1)), (r2, .inl (cyI, 24, .inl r.2.2.2.1))] sz) 0 0 (va_A [(hkc, .inr (5, [.ref ht, .ref ht1, .ref ht2, .int kp, .ref hp, .ref htr, .ref hh, .ref as])), (ht, .inr (3, [.ref hs, .ref ak, .int (nI si), .int fi])), (ak, .inl (cyI, 4, .inl kt)), (hs, .inr (2, [.ref a0, .ref a1, .ref a2, .int (nI n), .int ea])), (a0, .inl (cyI, 24, .inl co)), (a1, .inl (cyI, 24, .inl ti)), (a2, .inl (cyI, 24, .inl an)), (hp, .inr (1, [.ref ap, .int (nI np)])), (ap, .inl (cyI, 60, .inl sg)), (htr, .inr (4, [.ref hq, .int ac1, .int rs, .int mu, .int al1])), (hq, .inr (2, [.ref r0, .ref r1, .ref r2, .int (nI nr), .int er])), (r0, .inl (cyI, 24, .inl cr)), (r1, .inl (cyI, 24, .inl tr)), (r2, .inl (cyI, 24, .inl ar))] sz) := by
  refine Met.ofW (cc := cX5_tryWeeks) (maxL := 6) (ret := (some .boolean)) (by decide) rfl ?_
  intro p e s m args below meth c s₁ B hml hv
  obtain ⟨rfl, hsz, hP, hK, hN, hD0⟩ := hv
  have hx := B.exec
  have hb := B.bytes
  have hr := B.returns
  have hts := atoms_spec (ws := wsX5_tryWeeks) B.pre
  have hown : s.vm.findClass RX5 = some m.cls := findClass_of_methodNamed B.named
  have hlocks := B.notSynchronized
  subst hsz
  obtain ⟨A, hAe⟩ : ∃ A, A = va_A [(hkc, .inr (5, [.ref ht, .ref ht1, .ref ht2, .int kp, .ref hp, .ref htr, .ref hh, .ref as])), (ht, .inr (3, [.ref hs, .ref ak, .int (nI si), .int fi])), (ak, .inl (cyI, 4, .inl kt)), (hs, .inr (2, [.ref a0, .ref a1, .ref a2, .int (nI n), .int ea])), (a0, .inl (cyI, 24, .inl co)), (a1, .inl (cyI, 24, .inl ti)), (a2, .inl (cyI, 24, .inl an)), (hp, .inr (1, [.ref ap, .int (nI np)])), (ap, .inl (cyI, 60, .inl sg)), (htr, .inr (4, [.ref hq, .int ac1, .int rs, .int mu, .int al1])), (hq, .inr (2, [.ref r0, .ref r1, .ref r2, .int (nI nr), .int er])), (r0, .inl (cyI, 24, .inl cr)), (r1, .inl (cyI, 24, .inl tr)), (r2, .inl (cyI, 24, .inl ar))] s.heap.size := ⟨_, rfl⟩
  have hD : va_D A [(hkc, .inr (5, [.ref ht, .ref ht1, .ref ht2, .int kp, .ref hp, .ref htr, .ref hh, .ref as])), (ht, .inr (3, [.ref hs, .ref ak, .int (nI si), .int fi])), (ak, .inl (cyI, 4, .inl kt)), (hs, .inr (2, [.ref a0, .ref a1, .ref a2, .int (nI n), .int ea])), (a0, .inl (cyI, 24, .inl co)), (a1, .inl (cyI, 24, .inl ti)), (a2, .inl (cyI, 24, .inl an)), (hp, .inr (1, [.ref ap, .int (nI np)])), (ap, .inl (cyI, 60, .inl sg)), (htr, .inr (4, [.ref hq, .int ac1, .int rs, .int mu, .int al1])), (hq, .inr (2, [.ref r0, .ref r1, .ref r2, .int (nI nr), .int er])), (r0, .inl (cyI, 24, .inl cr)), (r1, .inl (cyI, 24, .inl tr)), (r2, .inl (cyI, 24, .inl ar))] := by rw [hAe]; exact hD0.self
  have hA : ∀ q : Nat, s.heap.size ≤ q → A q := fun q h => by rw [hAe]; exact Or.inr h
  have hS : va_S A s.heap s.heap [] := va_S.rf
  have hiX1 : ∀ w ∈ wsX10, w ∈ wsX5_tryWeeks := by decide +kernel
  have hiX3 : ∀ w ∈ wsX30, w ∈ wsX5_tryWeeks := by decide +kernel
  have hiX5 : ∀ w ∈ wsX50, w ∈ wsX5_tryWeeks := by decide +kernel
  have fl10 := hts (.fieldLink RX5 10 "KnitChronicle" "town" "LKnitChronicle$Town;") (by decide +kernel)
  have fl25 := hts (.fieldLink RX5 25 "KnitChronicle" "pad" "LKnitChronicle$Pad;") (by decide +kernel)
  have fl32 := hts (.fieldLink RX5 32 "KnitChronicle" "trial" "LKnitChronicle$Trial;") (by decide +kernel)
  have fl47 := hts (.fieldLink RX5 47 "KnitChronicle$Town" "scarf" "LKnitChronicle$Scarf;") (by decide +kernel)
  have fl87 := hts (.fieldLink RX5 87 "KnitChronicle$Pad" "length" "I") (by decide +kernel)
  have hl := lv_entry ([.ref hkc]) (n := 6) (Nat.le_of_ble_eq_true rfl)
  rw [lg_entry_eq]
  generalize (lg_sl ([.ref hkc]) ++ List.replicate (6 - (lg_sl ([.ref hkc])).length) Slot.unset).toArray = ls at hl ⊢
  have hl : lv_has ls 6 [(0, .ref hkc)] := hl
  unfold fX5_tryWeeks at hF
  refine lv_aload_n hx hb dX5_tryWeeks_0 rfl (lv_at hl 0 rfl) ?_
  refine va_get (D := (dC, dI)) (ci := 5) (v := .ref htr) (C := RX5) (T := TX5) (N := 8) hx hb hts hiX5 hown hK hP 0 rfl rfl 5 (by decide) fl32 (fun _ h9 => h9) rfl dX5_tryWeeks_1 ?_
  refine lv_aload_n hx hb dX5_tryWeeks_4 rfl (lv_at hl 0 rfl) ?_
  refine va_get (D := (dC, dI)) (ci := 5) (v := .ref ht) (C := RX5) (T := TX5) (N := 8) hx hb hts hiX5 hown hK hP 0 rfl rfl 0 (by decide) fl10 (fun _ h9 => h9) rfl dX5_tryWeeks_5 ?_
  refine va_get (D := (dC, dI)) (ci := 3) (v := .ref hs) (C := RX3) (T := TX3) (N := 4) hx hb hts hiX3 hown hK hP 1 rfl rfl 0 (by decide) fl47 (fun _ h9 => h9) rfl dX5_tryWeeks_8 ?_
  generalize hq11 : fX4_begin cr tr ar n ea co ti an = q11 at hF
  obtain ⟨q11a, q11b, q11c, q11d, q11e, q11f, q11g, q11h, q11i⟩ := q11
  dsimp only at hF
  refine kx_wVv (As := [.ref hs]) (rest := []) (wr := [(hkc, .inr (5, [.ref ht, .ref ht1, .ref ht2, .int kp, .ref hp, .ref htr, .ref hh, .ref as])), (ht, .inr (3, [.ref hs, .ref ak, .int (nI si), .int fi])), (ak, .inl (cyI, 4, .inl kt)), (hp, .inr (1, [.ref ap, .int (nI np)])), (ap, .inl (cyI, 60, .inl sg))]) (wc' := [(htr, .inr (4, [.ref hq, .int q11f, .int q11g, .int q11h, .int q11i])), (hq, .inr (2, [.ref r0, .ref r1, .ref r2, .int (nI q11d), .int q11e])), (r0, .inl (cyI, 24, .inl q11a)), (r1, .inl (cyI, 24, .inl q11b)), (r2, .inl (cyI, 24, .inl q11c)), (hs, .inr (2, [.ref a0, .ref a1, .ref a2, .int (nI n), .int ea])), (a0, .inl (cyI, 24, .inl co)), (a1, .inl (cyI, 24, .inl ti)), (a2, .inl (cyI, 24, .inl an))]) (W1 := [(hkc, .inr (5, [.ref ht, .ref ht1, .ref ht2, .int kp, .ref hp, .ref htr, .ref hh, .ref as])), (ht, .inr (3, [.ref hs, .ref ak, .int (nI si), .int fi])), (ak, .inl (cyI, 4, .inl kt)), (hs, .inr (2, [.ref a0, .ref a1, .ref a2, .int (nI n), .int ea])), (a0, .inl (cyI, 24, .inl co)), (a1, .inl (cyI, 24, .inl ti)), (a2, .inl (cyI, 24, .inl an)), (hp, .inr (1, [.ref ap, .int (nI np)])), (ap, .inl (cyI, 60, .inl sg)), (htr, .inr (4, [.ref hq, .int q11f, .int q11g, .int q11h, .int q11i])), (hq, .inr (2, [.ref r0, .ref r1, .ref r2, .int (nI q11d), .int q11e])), (r0, .inl (cyI, 24, .inl q11a)), (r1, .inl (cyI, 24, .inl q11b)), (r2, .inl (cyI, 24, .inl q11c))]) ⟨hx, hb, hml, hown, hts⟩ (c_X4_begin l dC dI cyI cyZ htr hq r0 r1 r2 hs a0 a1 a2 ac1 rs mu al1 nr er cr tr ar n ea co ti an (by omega) _ _ hq11) (cwV 1 hts gX5_tryWeeks_X4_begin rfl rfl rfl (by decide +kernel) ⟨Nat.le_of_ble_eq_true rfl, Nat.le_of_ble_eq_true rfl⟩) hP hD hS hA hK hN [9, 10, 11, 12, 13, 3, 4, 5, 6] [0, 1, 2, 7, 8] [0, 1, 2, 10, 11, 12, 13, 3, 4, 5, 6, 7, 8, 9] rfl (by decide) rfl (by decide) (by decide) (by decide) rfl [0, 1] rfl 4 9 rfl rfl rfl rfl hl.1 rfl (Nat.le_of_ble_eq_true rfl) dX5_tryWeeks_11 ⟨Nat.zero_le _, Nat.zero_le _⟩ (fun H locs hP hD hS => ?_)
  have hq11n : q11d = n := fX4_begin_n hq11
  refine lv_iconst (v := (0 : Int32)) hx hb dX5_tryWeeks_14 (by decide) ?_
  refine lv_istore_n (lv' := [(1, .int (0 : Int32)), (0, .ref hkc)]) hx hb dX5_tryWeeks_15 rfl hl (by decide) rfl (fun ls hl => ?_)
  have LP16 : ∀ (r16 : Nat) (j16 : Nat) (gc : Nat → Int32) (gt : Nat → Int32) (ga : Nat → Int32) (gn : Nat) (ge : Int32) (g1 : Int32) (g2 : Int32) (g3 : Int32) (g4 : Int32), np ≤ r16 + j16 → (gn + r16 ≤ 900) → (j16 ≤ np + 3) → fX5_tryWeeks_L16 kt np sg r16 j16 gc gt ga gn ge g1 g2 g3 g4 = r → ∀ (H : Heap) (locs : List Loc), va_P (dC, dI) vwCl [(hkc, .inr (5, [.ref ht, .ref ht1, .ref ht2, .int kp, .ref hp, .ref htr, .ref hh, .ref as])), (ht, .inr (3, [.ref hs, .ref ak, .int (nI si), .int fi])), (ak, .inl (cyI, 4, .inl kt)), (hs, .inr (2, [.ref a0, .ref a1, .ref a2, .int (nI n), .int ea])), (a0, .inl (cyI, 24, .inl co)), (a1, .inl (cyI, 24, .inl ti)), (a2, .inl (cyI, 24, .inl an)), (hp, .inr (1, [.ref ap, .int (nI np)])), (ap, .inl (cyI, 60, .inl sg)), (htr, .inr (4, [.ref hq, .int g1, .int g2, .int g3, .int g4])), (hq, .inr (2, [.ref r0, .ref r1, .ref r2, .int (nI gn), .int ge])), (r0, .inl (cyI, 24, .inl gc)), (r1, .inl (cyI, 24, .inl gt)), (r2, .inl (cyI, 24, .inl ga))] H → va_D A [(hkc, .inr (5, [.ref ht, .ref ht1, .ref ht2, .int kp, .ref hp, .ref htr, .ref hh, .ref as])), (ht, .inr (3, [.ref hs, .ref ak, .int (nI si), .int fi])), (ak, .inl (cyI, 4, .inl kt)), (hs, .inr (2, [.ref a0, .ref a1, .ref a2, .int (nI n), .int ea])), (a0, .inl (cyI, 24, .inl co)), (a1, .inl (cyI, 24, .inl ti)), (a2, .inl (cyI, 24, .inl an)), (hp, .inr (1, [.ref ap, .int (nI np)])), (ap, .inl (cyI, 60, .inl sg)), (htr, .inr (4, [.ref hq, .int g1, .int g2, .int g3, .int g4])), (hq, .inr (2, [.ref r0, .ref r1, .ref r2, .int (nI gn), .int ge])), (r0, .inl (cyI, 24, .inl gc)), (r1, .inl (cyI, 24, .inl gt)), (r2, .inl (cyI, 24, .inl ga))] → va_S A s.heap H locs → ∀ (ls : Array Slot), lv_has ls 6 [(1, .int (nI j16)), (0, .ref hkc)] → W p l e (headSpec wsX5_tryWeeks ({ frames := 4, cells := 0, slots := 0, locals := 93 } : Room)).room s m ([.ref hkc] : List Value).toArray below meth c H locs 0 0 (MQ below (kx_Qi r.1 (dC, dI) [(hkc, .inr (5, [.ref ht, .ref ht1, .ref ht2, .int kp, .ref hp, .ref htr, .ref hh, .ref as])), (ht, .inr (3, [.ref hs, .ref ak, .int (nI si), .int fi])), (ak, .inl (cyI, 4, .inl kt)), (hs, .inr (2, [.ref a0, .ref a1, .ref a2, .int (nI n), .int ea])), (a0, .inl (cyI, 24, .inl co)), (a1, .inl (cyI, 24, .inl ti)), (a2, .inl (cyI, 24, .inl an)), (hp, .inr (1, [.ref ap, .int (nI np)])), (ap, .inl (cyI, 60, .inl sg)), (htr, .inr (4, [.ref hq, .int ac1, .int rs, .int mu, .int al1])), (hq, .inr (2, [.ref r0, .ref r1, .ref r2, .int (nI nr), .int er])), (r0, .inl (cyI, 24, .inl cr)), (r1, .inl (cyI, 24, .inl tr)), (r2, .inl (cyI, 24, .inl ar))] [(hkc, .inr (5, [.ref ht, .ref ht1, .ref ht2, .int kp, .ref hp, .ref htr, .ref hh, .ref as])), (ht, .inr (3, [.ref hs, .ref ak, .int (nI si), .int fi])), (ak, .inl (cyI, 4, .inl kt)), (hs, .inr (2, [.ref a0, .ref a1, .ref a2, .int (nI n), .int ea])), (a0, .inl (cyI, 24, .inl co)), (a1, .inl (cyI, 24, .inl ti)), (a2, .inl (cyI, 24, .inl an)), (hp, .inr (1, [.ref ap, .int (nI np)])), (ap, .inl (cyI, 60, .inl sg)), (htr, .inr (4, [.ref hq, .int r.2.2.2.2.2.2.1, .int r.2.2.2.2.2.2.2.1, .int r.2.2.2.2.2.2.2.2.1, .int r.2.2.2.2.2.2.2.2.2])), (hq, .inr (2, [.ref r0, .ref r1, .ref r2, .int (nI (r.2.2.2.2.1)), .int r.2.2.2.2.2.1])), (r0, .inl (cyI, 24, .inl r.2.1)), (r1, .inl (cyI, 24, .inl r.2.2.1)), (r2, .inl (cyI, 24, .inl r.2.2.2.1))] s.heap.size) ([.ref hkc] : List Value).toArray s 0 0 (va_A [(hkc, .inr (5, [.ref ht, .ref ht1, .ref ht2, .int kp, .ref hp, .ref htr, .ref hh, .ref as])), (ht, .inr (3, [.ref hs, .ref ak, .int (nI si), .int fi])), (ak, .inl (cyI, 4, .inl kt)), (hs, .inr (2, [.ref a0, .ref a1, .ref a2, .int (nI n), .int ea])), (a0, .inl (cyI, 24, .inl co)), (a1, .inl (cyI, 24, .inl ti)), (a2, .inl (cyI, 24, .inl an)), (hp, .inr (1, [.ref ap, .int (nI np)])), (ap, .inl (cyI, 60, .inl sg)), (htr, .inr (4, [.ref hq, .int ac1, .int rs, .int mu, .int al1])), (hq, .inr (2, [.ref r0, .ref r1, .ref r2, .int (nI nr), .int er])), (r0, .inl (cyI, 24, .inl cr)), (r1, .inl (cyI, 24, .inl tr)), (r2, .inl (cyI, 24, .inl ar))] s.heap.size)) (F0 m 16 ls []) := by
    intro r16
    induction r16 with
    | zero =>
      intro j16 gc gt ga gn ge g1 g2 g3 g4 hrj hgn hj16 hF H locs hP hD hS ls hl
      rw [fX5_tryWeeks_L16] at hF
      refine lv_iload_n hx hb dX5_tryWeeks_16 rfl (lv_at hl 0 rfl) ?_
      refine lv_aload_n hx hb dX5_tryWeeks_17 rfl (lv_at hl 1 rfl) ?_
      refine va_get (D := (dC, dI)) (ci := 5) (v := .ref hp) (C := RX5) (T := TX5) (N := 8) hx hb hts hiX5 hown hK hP 0 rfl rfl 4 (by decide) fl25 (fun _ h9 => h9) rfl dX5_tryWeeks_18 ?_
      refine va_get (D := (dC, dI)) (ci := 1) (v := .int (nI np)) (C := RX1) (T := TX1) (N := 2) hx hb hts hiX1 hown hK hP 7 rfl rfl 1 (by decide) fl87 (fun _ h9 => h9) rfl dX5_tryWeeks_21 ?_
      refine kx_ge hx hb (j16) (np) rfl rfl (by omega) (by omega) dX5_tryWeeks_24 (by decide) (tgt := 121) (fun c24 => ?_) (fun c24 => absurd c24 (by omega))
      refine lv_iconst (v := (1 : Int32)) hx hb dX5_tryWeeks_121 (by decide) ?_
      subst hF
      subst hAe
      exact W.zret hx hb hr rfl (fun t ht _ => ⟨⟨_, (), rfl, rfl, by rw [ht]; exact hP, hD⟩, hS.F ht⟩) hS.2.2 dX5_tryWeeks_122
    | succ r16 ih =>
      intro j16 gc gt ga gn ge g1 g2 g3 g4 hrj hgn hj16 hF H locs hP hD hS ls hl
      rw [fX5_tryWeeks_L16] at hF
      refine lv_iload_n hx hb dX5_tryWeeks_16 rfl (lv_at hl 0 rfl) ?_
      refine lv_aload_n hx hb dX5_tryWeeks_17 rfl (lv_at hl 1 rfl) ?_
      refine va_get (D := (dC, dI)) (ci := 5) (v := .ref hp) (C := RX5) (T := TX5) (N := 8) hx hb hts hiX5 hown hK hP 0 rfl rfl 4 (by decide) fl25 (fun _ h9 => h9) rfl dX5_tryWeeks_18 ?_
      refine va_get (D := (dC, dI)) (ci := 1) (v := .int (nI np)) (C := RX1) (T := TX1) (N := 2) hx hb hts hiX1 hown hK hP 7 rfl rfl 1 (by decide) fl87 (fun _ h9 => h9) rfl dX5_tryWeeks_21 ?_
      refine kx_ge hx hb (j16) (np) rfl rfl (by omega) (by omega) dX5_tryWeeks_24 (by decide) (tgt := 121) (fun c24 => ?_) (fun c24 => ?_)
      · rw [if_pos c24] at hF
        refine lv_iconst (v := (1 : Int32)) hx hb dX5_tryWeeks_121 (by decide) ?_
        subst hF
        subst hAe
        exact W.zret hx hb hr rfl (fun t ht _ => ⟨⟨_, (), rfl, rfl, by rw [ht]; exact hP, hD⟩, hS.F ht⟩) hS.2.2 dX5_tryWeeks_122
      · rw [if_neg (Nat.not_le.mpr c24)] at hF
        refine lv_aload_n hx hb dX5_tryWeeks_27 rfl (lv_at hl 1 rfl) ?_
        refine va_get (D := (dC, dI)) (ci := 5) (v := .ref hp) (C := RX5) (T := TX5) (N := 8) hx hb hts hiX5 hown hK hP 0 rfl rfl 4 (by decide) fl25 (fun _ h9 => h9) rfl dX5_tryWeeks_28 ?_
        refine lv_iload_n hx hb dX5_tryWeeks_31 rfl (lv_at hl 0 rfl) ?_
        refine kx_cV (As := [.int (nI j16)]) (rest := []) ⟨hx, hb, hml, hown, hts⟩ (c_X1_kindAt l dC dI cyI cyZ hp ap np sg (nI j16)  _ rfl) (cwV 1 hts gX5_tryWeeks_X1_kindAt rfl rfl rfl (by decide +kernel) ⟨Nat.le_of_ble_eq_true rfl, Nat.le_of_ble_eq_true rfl⟩) hP hK hN [7, 8] rfl [0, 1] rfl 1 7 rfl rfl rfl rfl hl.1 rfl (Nat.le_of_ble_eq_true rfl) dX5_tryWeeks_32 ⟨Nat.zero_le _, Nat.zero_le _⟩ ?_
        refine lv_istore_n (lv' := [(2, .int (fX1_kindAt sg (nI j16))), (1, .int (nI j16)), (0, .ref hkc)]) hx hb dX5_tryWeeks_35 rfl hl (by decide) rfl (fun ls hl => ?_)
        refine lv_aload_n hx hb dX5_tryWeeks_36 rfl (lv_at hl 2 rfl) ?_
        refine va_get (D := (dC, dI)) (ci := 5) (v := .ref hp) (C := RX5) (T := TX5) (N := 8) hx hb hts hiX5 hown hK hP 0 rfl rfl 4 (by decide) fl25 (fun _ h9 => h9) rfl dX5_tryWeeks_37 ?_
        refine lv_iload_n hx hb dX5_tryWeeks_40 rfl (lv_at hl 1 rfl) ?_
        refine lv_iconst (v := (1 : Int32)) hx hb dX5_tryWeeks_41 (by decide) ?_
        refine lv_iadd hx hb dX5_tryWeeks_42 ?_
        refine kx_e (nI_add (j16) (1)) ?_
        refine kx_cV (As := [.int (nI (j16 + 1))]) (rest := []) ⟨hx, hb, hml, hown, hts⟩ (c_X1_stitchAt l dC dI cyI cyZ hp ap np sg (nI (j16 + 1))  _ rfl) (cwV 1 hts gX5_tryWeeks_X1_stitchAt rfl rfl rfl (by decide +kernel) ⟨Nat.le_of_ble_eq_true rfl, Nat.le_of_ble_eq_true rfl⟩) hP hK hN [7, 8] rfl [0, 1] rfl 1 7 rfl rfl rfl rfl hl.1 rfl (Nat.le_of_ble_eq_true rfl) dX5_tryWeeks_43 ⟨Nat.zero_le _, Nat.zero_le _⟩ ?_
        refine lv_istore_n (lv' := [(3, .int (fX1_stitchAt sg (nI (j16 + 1)))), (2, .int (fX1_kindAt sg (nI j16))), (1, .int (nI j16)), (0, .ref hkc)]) hx hb dX5_tryWeeks_46 rfl hl (by decide) rfl (fun ls hl => ?_)
        refine lv_aload_n hx hb dX5_tryWeeks_47 rfl (lv_at hl 3 rfl) ?_
        refine va_get (D := (dC, dI)) (ci := 5) (v := .ref hp) (C := RX5) (T := TX5) (N := 8) hx hb hts hiX5 hown hK hP 0 rfl rfl 4 (by decide) fl25 (fun _ h9 => h9) rfl dX5_tryWeeks_48 ?_
        refine lv_iload_n hx hb dX5_tryWeeks_51 rfl (lv_at hl 2 rfl) ?_
        refine lv_iconst (v := (1 : Int32)) hx hb dX5_tryWeeks_52 (by decide) ?_
        refine lv_iadd hx hb dX5_tryWeeks_53 ?_
        refine kx_e (nI_add (j16) (1)) ?_
        refine kx_cV (As := [.int (nI (j16 + 1))]) (rest := []) ⟨hx, hb, hml, hown, hts⟩ (c_X1_colourAt l dC dI cyI cyZ hp ap np sg (nI (j16 + 1))  _ rfl) (cwV 1 hts gX5_tryWeeks_X1_colourAt rfl rfl rfl (by decide +kernel) ⟨Nat.le_of_ble_eq_true rfl, Nat.le_of_ble_eq_true rfl⟩) hP hK hN [7, 8] rfl [0, 1] rfl 1 7 rfl rfl rfl rfl hl.1 rfl (Nat.le_of_ble_eq_true rfl) dX5_tryWeeks_54 ⟨Nat.zero_le _, Nat.zero_le _⟩ ?_
        refine lv_istore (lv' := [(4, .int (fX1_colourAt sg (nI (j16 + 1)))), (3, .int (fX1_stitchAt sg (nI (j16 + 1)))), (2, .int (fX1_kindAt sg (nI j16))), (1, .int (nI j16)), (0, .ref hkc)]) hx hb dX5_tryWeeks_57 hl (by decide) rfl (fun ls hl => ?_)
        refine lv_aload_n hx hb dX5_tryWeeks_59 rfl (lv_at hl 4 rfl) ?_
        refine va_get (D := (dC, dI)) (ci := 5) (v := .ref ht) (C := RX5) (T := TX5) (N := 8) hx hb hts hiX5 hown hK hP 0 rfl rfl 0 (by decide) fl10 (fun _ h9 => h9) rfl dX5_tryWeeks_60 ?_
        refine lv_aload_n hx hb dX5_tryWeeks_63 rfl (lv_at hl 4 rfl) ?_
        refine va_get (D := (dC, dI)) (ci := 5) (v := .ref hp) (C := RX5) (T := TX5) (N := 8) hx hb hts hiX5 hown hK hP 0 rfl rfl 4 (by decide) fl25 (fun _ h9 => h9) rfl dX5_tryWeeks_64 ?_
        refine lv_iload_n hx hb dX5_tryWeeks_67 rfl (lv_at hl 2 rfl) ?_
        refine lv_iconst (v := (3 : Int32)) hx hb dX5_tryWeeks_68 (by decide) ?_
        refine lv_icmp_ne (tgt := 76) hx hb dX5_tryWeeks_69 (by decide) (fun c69 => ?_) (fun c69 => ?_)
        · rw [if_neg c69] at hF
          refine lv_iload_n hx hb dX5_tryWeeks_76 rfl (lv_at hl 3 rfl) ?_
          refine lv_iconst (v := (2 : Int32)) hx hb dX5_tryWeeks_77 (by decide) ?_
          refine lv_iadd hx hb dX5_tryWeeks_78 ?_
          refine kx_e (nI_add (j16) (2)) ?_
          refine kx_cV (As := [.int (nI (j16 + 2))]) (rest := [.ref ht]) ⟨hx, hb, hml, hown, hts⟩ (c_X1_knitterAt l dC dI cyI cyZ hp ap np sg (nI (j16 + 2))  _ rfl) (cwV 1 hts gX5_tryWeeks_X1_knitterAt rfl rfl rfl (by decide +kernel) ⟨Nat.le_of_ble_eq_true rfl, Nat.le_of_ble_eq_true rfl⟩) hP hK hN [7, 8] rfl [0, 1] rfl 1 7 rfl rfl rfl rfl hl.1 rfl (Nat.le_of_ble_eq_true rfl) dX5_tryWeeks_79 ⟨Nat.zero_le _, Nat.zero_le _⟩ ?_
          refine kx_cV (As := [.int (fX1_knitterAt sg (nI (j16 + 2)))]) (rest := []) ⟨hx, hb, hml, hown, hts⟩ (c_X3_tightnessOf l dC dI cyI cyZ ht hs ak si fi kt (fX1_knitterAt sg (nI (j16 + 2)))  _ rfl) (cwV 1 hts gX5_tryWeeks_X3_tightnessOf rfl rfl rfl (by decide +kernel) ⟨Nat.le_of_ble_eq_true rfl, Nat.le_of_ble_eq_true rfl⟩) hP hK hN [1, 2] rfl [0, 1] rfl 3 1 rfl rfl rfl rfl hl.1 rfl (Nat.le_of_ble_eq_true rfl) dX5_tryWeeks_82 ⟨Nat.zero_le _, Nat.zero_le _⟩ ?_
          refine lv_istore (lv' := [(5, .int (fX3_tightnessOf kt (fX1_knitterAt sg (nI (j16 + 2))))), (4, .int (fX1_colourAt sg (nI (j16 + 1)))), (3, .int (fX1_stitchAt sg (nI (j16 + 1)))), (2, .int (fX1_kindAt sg (nI j16))), (1, .int (nI j16)), (0, .ref hkc)]) hx hb dX5_tryWeeks_85 hl (by decide) rfl (fun ls hl => ?_)
          refine lv_aload_n hx hb dX5_tryWeeks_87 rfl (lv_at hl 5 rfl) ?_
          refine va_get (D := (dC, dI)) (ci := 5) (v := .ref htr) (C := RX5) (T := TX5) (N := 8) hx hb hts hiX5 hown hK hP 0 rfl rfl 5 (by decide) fl32 (fun _ h9 => h9) rfl dX5_tryWeeks_88 ?_
          refine lv_iload_n hx hb dX5_tryWeeks_91 rfl (lv_at hl 3 rfl) ?_
          refine lv_iload_n hx hb dX5_tryWeeks_92 rfl (lv_at hl 2 rfl) ?_
          refine lv_iload hx hb dX5_tryWeeks_93 (lv_at hl 1 rfl) ?_
          refine lv_iload hx hb dX5_tryWeeks_95 (lv_at hl 0 rfl) ?_
          generalize hq97 : fX4_act g1 g3 g4 gn ge gc gt ga (fX1_kindAt sg (nI j16)) (fX1_stitchAt sg (nI (j16 + 1))) (fX1_colourAt sg (nI (j16 + 1))) (fX3_tightnessOf kt (fX1_knitterAt sg (nI (j16 + 2)))) = q97 at hF
          obtain ⟨q97a, q97b, q97c, q97d, q97e, q97f, q97g, q97h, q97i, q97j⟩ := q97
          dsimp only at hF
          refine kx_wVi (As := [.int (fX1_kindAt sg (nI j16)), .int (fX1_stitchAt sg (nI (j16 + 1))), .int (fX1_colourAt sg (nI (j16 + 1))), .int (fX3_tightnessOf kt (fX1_knitterAt sg (nI (j16 + 2))))]) (rest := []) (wr := [(hkc, .inr (5, [.ref ht, .ref ht1, .ref ht2, .int kp, .ref hp, .ref htr, .ref hh, .ref as])), (ht, .inr (3, [.ref hs, .ref ak, .int (nI si), .int fi])), (ak, .inl (cyI, 4, .inl kt)), (hs, .inr (2, [.ref a0, .ref a1, .ref a2, .int (nI n), .int ea])), (a0, .inl (cyI, 24, .inl co)), (a1, .inl (cyI, 24, .inl ti)), (a2, .inl (cyI, 24, .inl an)), (hp, .inr (1, [.ref ap, .int (nI np)])), (ap, .inl (cyI, 60, .inl sg))]) (wc' := [(htr, .inr (4, [.ref hq, .int q97g, .int q97h, .int q97i, .int q97j])), (hq, .inr (2, [.ref r0, .ref r1, .ref r2, .int (nI q97e), .int q97f])), (r0, .inl (cyI, 24, .inl q97b)), (r1, .inl (cyI, 24, .inl q97c)), (r2, .inl (cyI, 24, .inl q97d))]) (W1 := [(hkc, .inr (5, [.ref ht, .ref ht1, .ref ht2, .int kp, .ref hp, .ref htr, .ref hh, .ref as])), (ht, .inr (3, [.ref hs, .ref ak, .int (nI si), .int fi])), (ak, .inl (cyI, 4, .inl kt)), (hs, .inr (2, [.ref a0, .ref a1, .ref a2, .int (nI n), .int ea])), (a0, .inl (cyI, 24, .inl co)), (a1, .inl (cyI, 24, .inl ti)), (a2, .inl (cyI, 24, .inl an)), (hp, .inr (1, [.ref ap, .int (nI np)])), (ap, .inl (cyI, 60, .inl sg)), (htr, .inr (4, [.ref hq, .int q97g, .int q97h, .int q97i, .int q97j])), (hq, .inr (2, [.ref r0, .ref r1, .ref r2, .int (nI q97e), .int q97f])), (r0, .inl (cyI, 24, .inl q97b)), (r1, .inl (cyI, 24, .inl q97c)), (r2, .inl (cyI, 24, .inl q97d))]) ⟨hx, hb, hml, hown, hts⟩ (c_X4_act l dC dI cyI cyZ htr hq r0 r1 r2 g1 g2 g3 g4 gn ge gc gt ga (fX1_kindAt sg (nI j16)) (fX1_stitchAt sg (nI (j16 + 1))) (fX1_colourAt sg (nI (j16 + 1))) (fX3_tightnessOf kt (fX1_knitterAt sg (nI (j16 + 2)))) (by omega) _ _ hq97) (cwV 4 hts gX5_tryWeeks_X4_act rfl rfl rfl (by decide +kernel) ⟨Nat.le_of_ble_eq_true rfl, Nat.le_of_ble_eq_true rfl⟩) hP hD hS hA hK hN [9, 10, 11, 12, 13] [0, 1, 2, 3, 4, 5, 6, 7, 8] [0, 1, 2, 3, 4, 5, 6, 7, 8, 9, 10, 11, 12, 13] rfl (by decide) rfl (by decide) (by decide) (by decide) rfl [0, 1] rfl 4 9 rfl rfl rfl rfl hl.1 rfl (Nat.le_of_ble_eq_true rfl) dX5_tryWeeks_97 ⟨Nat.zero_le _, Nat.zero_le _⟩ (fun H locs hP hD hS => ?_)
          have hq97n : q97e ≤ gn + 1 := fX4_act_n hq97
          refine lv_if_ne (tgt := 105) hx hb dX5_tryWeeks_100 (by decide) (fun c100 => ?_) (fun c100 => ?_)
          · rw [if_neg c100] at hF
            refine lv_iload_n hx hb dX5_tryWeeks_105 rfl (lv_at hl 4 rfl) ?_
            refine lv_iload_n hx hb dX5_tryWeeks_106 rfl (lv_at hl 3 rfl) ?_
            refine lv_iconst (v := (2 : Int32)) hx hb dX5_tryWeeks_107 (by decide) ?_
            refine lv_icmp_ne (tgt := 115) hx hb dX5_tryWeeks_108 (by decide) (fun c108 => ?_) (fun c108 => ?_)
            · rw [if_neg c108] at hF
              refine lv_iconst (v := (2 : Int32)) hx hb dX5_tryWeeks_115 (by decide) ?_
              refine lv_iadd hx hb dX5_tryWeeks_116 ?_
              refine kx_e (nI_add (j16) (2)) ?_
              refine lv_istore_n (lv' := [(1, .int (nI (j16 + 2))), (5, .int (fX3_tightnessOf kt (fX1_knitterAt sg (nI (j16 + 2))))), (4, .int (fX1_colourAt sg (nI (j16 + 1)))), (3, .int (fX1_stitchAt sg (nI (j16 + 1)))), (2, .int (fX1_kindAt sg (nI j16))), (0, .ref hkc)]) hx hb dX5_tryWeeks_117 rfl hl (by decide) rfl (fun ls hl => ?_)
              refine lv_goto (tgt := 16) hx hb dX5_tryWeeks_118 (by decide) ?_
              exact ih (j16 + 2) q97b q97c q97d q97e q97f q97g q97h q97i q97j (by omega) (by omega) (by omega) hF _ _ hP hD hS _ (lv_sub hl [0, 5] rfl)
            · rw [if_pos c108] at hF
              refine lv_iconst (v := (3 : Int32)) hx hb dX5_tryWeeks_111 (by decide) ?_
              refine lv_goto (tgt := 116) hx hb dX5_tryWeeks_112 (by decide) ?_
              refine lv_iadd hx hb dX5_tryWeeks_116 ?_
              refine kx_e (nI_add (j16) (3)) ?_
              refine lv_istore_n (lv' := [(1, .int (nI (j16 + 3))), (5, .int (fX3_tightnessOf kt (fX1_knitterAt sg (nI (j16 + 2))))), (4, .int (fX1_colourAt sg (nI (j16 + 1)))), (3, .int (fX1_stitchAt sg (nI (j16 + 1)))), (2, .int (fX1_kindAt sg (nI j16))), (0, .ref hkc)]) hx hb dX5_tryWeeks_117 rfl hl (by decide) rfl (fun ls hl => ?_)
              refine lv_goto (tgt := 16) hx hb dX5_tryWeeks_118 (by decide) ?_
              exact ih (j16 + 3) q97b q97c q97d q97e q97f q97g q97h q97i q97j (by omega) (by omega) (by omega) hF _ _ hP hD hS _ (lv_sub hl [0, 5] rfl)
          · rw [if_pos c100] at hF
            refine lv_iconst (v := (0 : Int32)) hx hb dX5_tryWeeks_103 (by decide) ?_
            subst hF
            subst hAe
            exact W.zret hx hb hr rfl (fun t ht _ => ⟨⟨_, (), rfl, rfl, by rw [ht]; exact hP, hD⟩, hS.F ht⟩) hS.2.2 dX5_tryWeeks_104
        · rw [if_pos c69] at hF
          refine lv_iload_n hx hb dX5_tryWeeks_72 rfl (lv_at hl 3 rfl) ?_
          refine lv_goto (tgt := 79) hx hb dX5_tryWeeks_73 (by decide) ?_
          refine kx_cV (As := [.int (nI j16)]) (rest := [.ref ht]) ⟨hx, hb, hml, hown, hts⟩ (c_X1_knitterAt l dC dI cyI cyZ hp ap np sg (nI j16)  _ rfl) (cwV 1 hts gX5_tryWeeks_X1_knitterAt rfl rfl rfl (by decide +kernel) ⟨Nat.le_of_ble_eq_true rfl, Nat.le_of_ble_eq_true rfl⟩) hP hK hN [7, 8] rfl [0, 1] rfl 1 7 rfl rfl rfl rfl hl.1 rfl (Nat.le_of_ble_eq_true rfl) dX5_tryWeeks_79 ⟨Nat.zero_le _, Nat.zero_le _⟩ ?_
          refine kx_cV (As := [.int (fX1_knitterAt sg (nI j16))]) (rest := []) ⟨hx, hb, hml, hown, hts⟩ (c_X3_tightnessOf l dC dI cyI cyZ ht hs ak si fi kt (fX1_knitterAt sg (nI j16))  _ rfl) (cwV 1 hts gX5_tryWeeks_X3_tightnessOf rfl rfl rfl (by decide +kernel) ⟨Nat.le_of_ble_eq_true rfl, Nat.le_of_ble_eq_true rfl⟩) hP hK hN [1, 2] rfl [0, 1] rfl 3 1 rfl rfl rfl rfl hl.1 rfl (Nat.le_of_ble_eq_true rfl) dX5_tryWeeks_82 ⟨Nat.zero_le _, Nat.zero_le _⟩ ?_
          refine lv_istore (lv' := [(5, .int (fX3_tightnessOf kt (fX1_knitterAt sg (nI j16)))), (4, .int (fX1_colourAt sg (nI (j16 + 1)))), (3, .int (fX1_stitchAt sg (nI (j16 + 1)))), (2, .int (fX1_kindAt sg (nI j16))), (1, .int (nI j16)), (0, .ref hkc)]) hx hb dX5_tryWeeks_85 hl (by decide) rfl (fun ls hl => ?_)
          refine lv_aload_n hx hb dX5_tryWeeks_87 rfl (lv_at hl 5 rfl) ?_
          refine va_get (D := (dC, dI)) (ci := 5) (v := .ref htr) (C := RX5) (T := TX5) (N := 8) hx hb hts hiX5 hown hK hP 0 rfl rfl 5 (by decide) fl32 (fun _ h9 => h9) rfl dX5_tryWeeks_88 ?_
          refine lv_iload_n hx hb dX5_tryWeeks_91 rfl (lv_at hl 3 rfl) ?_
          refine lv_iload_n hx hb dX5_tryWeeks_92 rfl (lv_at hl 2 rfl) ?_
          refine lv_iload hx hb dX5_tryWeeks_93 (lv_at hl 1 rfl) ?_
          refine lv_iload hx hb dX5_tryWeeks_95 (lv_at hl 0 rfl) ?_
          generalize hq97 : fX4_act g1 g3 g4 gn ge gc gt ga (fX1_kindAt sg (nI j16)) (fX1_stitchAt sg (nI (j16 + 1))) (fX1_colourAt sg (nI (j16 + 1))) (fX3_tightnessOf kt (fX1_knitterAt sg (nI j16))) = q97 at hF
          obtain ⟨q97a, q97b, q97c, q97d, q97e, q97f, q97g, q97h, q97i, q97j⟩ := q97
          dsimp only at hF
          refine kx_wVi (As := [.int (fX1_kindAt sg (nI j16)), .int (fX1_stitchAt sg (nI (j16 + 1))), .int (fX1_colourAt sg (nI (j16 + 1))), .int (fX3_tightnessOf kt (fX1_knitterAt sg (nI j16)))]) (rest := []) (wr := [(hkc, .inr (5, [.ref ht, .ref ht1, .ref ht2, .int kp, .ref hp, .ref htr, .ref hh, .ref as])), (ht, .inr (3, [.ref hs, .ref ak, .int (nI si), .int fi])), (ak, .inl (cyI, 4, .inl kt)), (hs, .inr (2, [.ref a0, .ref a1, .ref a2, .int (nI n), .int ea])), (a0, .inl (cyI, 24, .inl co)), (a1, .inl (cyI, 24, .inl ti)), (a2, .inl (cyI, 24, .inl an)), (hp, .inr (1, [.ref ap, .int (nI np)])), (ap, .inl (cyI, 60, .inl sg))]) (wc' := [(htr, .inr (4, [.ref hq, .int q97g, .int q97h, .int q97i, .int q97j])), (hq, .inr (2, [.ref r0, .ref r1, .ref r2, .int (nI q97e), .int q97f])), (r0, .inl (cyI, 24, .inl q97b)), (r1, .inl (cyI, 24, .inl q97c)), (r2, .inl (cyI, 24, .inl q97d))]) (W1 := [(hkc, .inr (5, [.ref ht, .ref ht1, .ref ht2, .int kp, .ref hp, .ref htr, .ref hh, .ref as])), (ht, .inr (3, [.ref hs, .ref ak, .int (nI si), .int fi])), (ak, .inl (cyI, 4, .inl kt)), (hs, .inr (2, [.ref a0, .ref a1, .ref a2, .int (nI n), .int ea])), (a0, .inl (cyI, 24, .inl co)), (a1, .inl (cyI, 24, .inl ti)), (a2, .inl (cyI, 24, .inl an)), (hp, .inr (1, [.ref ap, .int (nI np)])), (ap, .inl (cyI, 60, .inl sg)), (htr, .inr (4, [.ref hq, .int q97g, .int q97h, .int q97i, .int q97j])), (hq, .inr (2, [.ref r0, .ref r1, .ref r2, .int (nI q97e), .int q97f])), (r0, .inl (cyI, 24, .inl q97b)), (r1, .inl (cyI, 24, .inl q97c)), (r2, .inl (cyI, 24, .inl q97d))]) ⟨hx, hb, hml, hown, hts⟩ (c_X4_act l dC dI cyI cyZ htr hq r0 r1 r2 g1 g2 g3 g4 gn ge gc gt ga (fX1_kindAt sg (nI j16)) (fX1_stitchAt sg (nI (j16 + 1))) (fX1_colourAt sg (nI (j16 + 1))) (fX3_tightnessOf kt (fX1_knitterAt sg (nI j16))) (by omega) _ _ hq97) (cwV 4 hts gX5_tryWeeks_X4_act rfl rfl rfl (by decide +kernel) ⟨Nat.le_of_ble_eq_true rfl, Nat.le_of_ble_eq_true rfl⟩) hP hD hS hA hK hN [9, 10, 11, 12, 13] [0, 1, 2, 3, 4, 5, 6, 7, 8] [0, 1, 2, 3, 4, 5, 6, 7, 8, 9, 10, 11, 12, 13] rfl (by decide) rfl (by decide) (by decide) (by decide) rfl [0, 1] rfl 4 9 rfl rfl rfl rfl hl.1 rfl (Nat.le_of_ble_eq_true rfl) dX5_tryWeeks_97 ⟨Nat.zero_le _, Nat.zero_le _⟩ (fun H locs hP hD hS => ?_)
          have hq97n : q97e ≤ gn + 1 := fX4_act_n hq97
          refine lv_if_ne (tgt := 105) hx hb dX5_tryWeeks_100 (by decide) (fun c100 => ?_) (fun c100 => ?_)
          · rw [if_neg c100] at hF
            refine lv_iload_n hx hb dX5_tryWeeks_105 rfl (lv_at hl 4 rfl) ?_
            refine lv_iload_n hx hb dX5_tryWeeks_106 rfl (lv_at hl 3 rfl) ?_
            refine lv_iconst (v := (2 : Int32)) hx hb dX5_tryWeeks_107 (by decide) ?_
            refine lv_icmp_ne (tgt := 115) hx hb dX5_tryWeeks_108 (by decide) (fun c108 => ?_) (fun c108 => ?_)
            · rw [if_neg c108] at hF
              refine lv_iconst (v := (2 : Int32)) hx hb dX5_tryWeeks_115 (by decide) ?_
              refine lv_iadd hx hb dX5_tryWeeks_116 ?_
              refine kx_e (nI_add (j16) (2)) ?_
              refine lv_istore_n (lv' := [(1, .int (nI (j16 + 2))), (5, .int (fX3_tightnessOf kt (fX1_knitterAt sg (nI j16)))), (4, .int (fX1_colourAt sg (nI (j16 + 1)))), (3, .int (fX1_stitchAt sg (nI (j16 + 1)))), (2, .int (fX1_kindAt sg (nI j16))), (0, .ref hkc)]) hx hb dX5_tryWeeks_117 rfl hl (by decide) rfl (fun ls hl => ?_)
              refine lv_goto (tgt := 16) hx hb dX5_tryWeeks_118 (by decide) ?_
              exact ih (j16 + 2) q97b q97c q97d q97e q97f q97g q97h q97i q97j (by omega) (by omega) (by omega) hF _ _ hP hD hS _ (lv_sub hl [0, 5] rfl)
            · rw [if_pos c108] at hF
              refine lv_iconst (v := (3 : Int32)) hx hb dX5_tryWeeks_111 (by decide) ?_
              refine lv_goto (tgt := 116) hx hb dX5_tryWeeks_112 (by decide) ?_
              refine lv_iadd hx hb dX5_tryWeeks_116 ?_
              refine kx_e (nI_add (j16) (3)) ?_
              refine lv_istore_n (lv' := [(1, .int (nI (j16 + 3))), (5, .int (fX3_tightnessOf kt (fX1_knitterAt sg (nI j16)))), (4, .int (fX1_colourAt sg (nI (j16 + 1)))), (3, .int (fX1_stitchAt sg (nI (j16 + 1)))), (2, .int (fX1_kindAt sg (nI j16))), (0, .ref hkc)]) hx hb dX5_tryWeeks_117 rfl hl (by decide) rfl (fun ls hl => ?_)
              refine lv_goto (tgt := 16) hx hb dX5_tryWeeks_118 (by decide) ?_
              exact ih (j16 + 3) q97b q97c q97d q97e q97f q97g q97h q97i q97j (by omega) (by omega) (by omega) hF _ _ hP hD hS _ (lv_sub hl [0, 5] rfl)
          · rw [if_pos c100] at hF
            refine lv_iconst (v := (0 : Int32)) hx hb dX5_tryWeeks_103 (by decide) ?_
            subst hF
            subst hAe
            exact W.zret hx hb hr rfl (fun t ht _ => ⟨⟨_, (), rfl, rfl, by rw [ht]; exact hP, hD⟩, hS.F ht⟩) hS.2.2 dX5_tryWeeks_104
  exact LP16 np 0 q11a q11b q11c q11d q11e q11f q11g q11h q11i (by omega) (by omega) (by omega) hF _ _ hP hD hS _ (lv_sub hl [0, 1] rfl)

def fX5_weeksCanBe (kt : Nat → Int32) (n : Nat) (ea : Int32) (co : Nat → Int32) (ti : Nat → Int32) (an : Nat → Int32) (np : Nat) (sg : Nat → Int32) (ac1 : Int32) (rs : Int32) (mu : Int32) (al1 : Int32) (nr : Nat) (er : Int32) (cr : Nat → Int32) (tr : Nat → Int32) (ar : Nat → Int32) : Int32 × (Nat → Int32) × (Nat → Int32) × (Nat → Int32) × Nat × Int32 × Int32 × Int32 × Int32 × Int32 :=
  (if (fX1_firstFault np sg) = (-6 : Int32) then (match fX5_tryWeeks kt n ea co ti an np sg cr tr ar with | (q13a, q13b, q13c, q13d, q13e, q13f, q13g, q13h, q13i, q13j) => (if q13a = 0 then ((0 : Int32), q13b, q13c, q13d, q13e, q13f, q13g, q13h, q13i, q13j) else ((1 : Int32), q13b, q13c, q13d, q13e, q13f, q13g, q13h, q13i, q13j))) else ((0 : Int32), cr, tr, ar, nr, er, ac1, rs, mu, al1))
set_option maxHeartbeats 4000000 in
set_option maxRecDepth 100000 in
theorem c_X5_weeksCanBe (l : Launch) (dC : Nat → ClassId) (dI : Nat → Nat → Nat) (cyI cyZ : ClassId) (hkc ht ht1 ht2 hp htr hh as hs ak a0 a1 a2 ap hq r0 r1 r2 : Nat) (kp : Int32) (si : Nat) (fi : Int32) (kt : Nat → Int32) (n : Nat) (ea : Int32) (co : Nat → Int32) (ti : Nat → Int32) (an : Nat → Int32) (np : Nat) (sg : Nat → Int32) (ac1 : Int32) (rs : Int32) (mu : Int32) (al1 : Int32) (nr : Nat) (er : Int32) (cr : Nat → Int32) (tr : Nat → Int32) (ar : Nat → Int32) (hn : n ≤ 24) (hnp : np ≤ 60) (sz : Nat) (r : Int32 × (Nat → Int32) × (Nat → Int32) × (Nat → Int32) × Nat × Int32 × Int32 × Int32 × Int32 × Int32) (hF : fX5_weeksCanBe kt n ea co ti an np sg ac1 rs mu al1 nr er cr tr ar = r) : Met l yX5_weeksCanBe wsX5_weeksCanBe ({ frames := 5, cells := 0, slots := 0, locals := 118 }) (kx_wp (dC, dI) [(hkc, .inr (5, [.ref ht, .ref ht1, .ref ht2, .int kp, .ref hp, .ref htr, .ref hh, .ref as])), (ht, .inr (3, [.ref hs, .ref ak, .int (nI si), .int fi])), (ak, .inl (cyI, 4, .inl kt)), (hs, .inr (2, [.ref a0, .ref a1, .ref a2, .int (nI n), .int ea])), (a0, .inl (cyI, 24, .inl co)), (a1, .inl (cyI, 24, .inl ti)), (a2, .inl (cyI, 24, .inl an)), (hp, .inr (1, [.ref ap, .int (nI np)])), (ap, .inl (cyI, 60, .inl sg)), (htr, .inr (4, [.ref hq, .int ac1, .int rs, .int mu, .int al1])), (hq, .inr (2, [.ref r0, .ref r1, .ref r2, .int (nI nr), .int er])), (r0, .inl (cyI, 24, .inl cr)), (r1, .inl (cyI, 24, .inl tr)), (r2, .inl (cyI, 24, .inl ar))] [(cyI, .int), (cyZ, .boolean)] sz [.ref hkc]) (kx_Qi r.1 (dC, dI) [(hkc, .inr (5, [.ref ht, .ref ht1, .ref ht2, .int kp, .ref hp, .ref htr, .ref hh, .ref as])), (ht, .inr (3, [.ref hs, .ref ak, .int (nI si), .int fi])), (ak, .inl (cyI, 4, .inl kt)), (hs, .inr (2, [.ref a0, .ref a1, .ref a2, .int (nI n), .int ea])), (a0, .inl (cyI, 24, .inl co)), (a1, .inl (cyI, 24, .inl ti)), (a2, .inl (cyI, 24, .inl an)), (hp, .inr (1, [.ref ap, .int (nI np)])), (ap, .inl (cyI, 60, .inl sg)), (htr, .inr (4, [.ref hq, .int ac1, .int rs, .int mu, .int al1])), (hq, .inr (2, [.ref r0, .ref r1, .ref r2, .int (nI nr), .int er])), (r0, .inl (cyI, 24, .inl cr)), (r1, .inl (cyI, 24, .inl tr)), (r2, .inl (cyI, 24, .inl ar))] [(hkc, .inr (5, [.ref ht, .ref ht1, .ref ht2, .int kp, .ref hp, .ref htr, .ref hh, .ref as])), (ht, .inr (3, [.ref hs, .ref ak, .int (nI si), .int fi])), (ak, .inl (cyI, 4, .inl kt)), (hs, .inr (2, [.ref a0, .ref a1, .ref a2, .int (nI n), .int ea])), (a0, .inl (cyI, 24, .inl co)), (a1, .inl (cyI, 24, .inl ti)), (a2, .inl (cyI, 24, .inl an)), (hp, .inr (1, [.ref ap, .int (nI np)])), (ap, .inl (cyI, 60, .inl sg)), (htr, .inr (4, [.ref hq, .int r.2.2.2.2.2.2.1, .int r.2.2.2.2.2.2.2.1, .int r.2.2.2.2.2.2.2.2.1, .int r.2.2.2.2.2.2.2.2.2])), (hq, .inr (2, [.ref r0, .ref r1, .ref r2, .int (nI (r.2.2.2.2.1)), .int r.2.2.2.2.2.1])), (r0, .inl (cyI, 24, .inl r.2.1)), (r1, .inl (cyI, 24, .inl r.2.2.1)), (r2, .inl (cyI, 24, .inl r.2.2.2.1))] sz) 0 0 (va_A [(hkc, .inr (5, [.ref ht, .ref ht1, .ref ht2, .int kp, .ref hp, .ref htr, .ref hh, .ref as])), (ht, .inr (3, [.ref hs, .ref ak, .int (nI si), .int fi])), (ak, .inl (cyI, 4, .inl kt)), (hs, .inr (2, [.ref a0, .ref a1, .ref a2, .int (nI n), .int ea])), (a0, .inl (cyI, 24, .inl co)), (a1, .inl (cyI, 24, .inl ti)), (a2, .inl (cyI, 24, .inl an)), (hp, .inr (1, [.ref ap, .int (nI np)])), (ap, .inl (cyI, 60, .inl sg)), (htr, .inr (4, [.ref hq, .int ac1, .int rs, .int mu, .int al1])), (hq, .inr (2, [.ref r0, .ref r1, .ref r2, .int (nI nr), .int er])), (r0, .inl (cyI, 24, .inl cr)), (r1, .inl (cyI, 24, .inl tr)), (r2, .inl (cyI, 24, .inl ar))] sz) := by
  refine Met.ofW (cc := cX5_weeksCanBe) (maxL := 1) (ret := (some .boolean)) (by decide) rfl ?_
  intro p e s m args below meth c s₁ B hml hv
  obtain ⟨rfl, hsz, hP, hK, hN, hD0⟩ := hv
  have hx := B.exec
  have hb := B.bytes
  have hr := B.returns
  have hts := atoms_spec (ws := wsX5_weeksCanBe) B.pre
  have hown : s.vm.findClass RX5 = some m.cls := findClass_of_methodNamed B.named
  have hlocks := B.notSynchronized
  subst hsz
  obtain ⟨A, hAe⟩ : ∃ A, A = va_A [(hkc, .inr (5, [.ref ht, .ref ht1, .ref ht2, .int kp, .ref hp, .ref htr, .ref hh, .ref as])), (ht, .inr (3, [.ref hs, .ref ak, .int (nI si), .int fi])), (ak, .inl (cyI, 4, .inl kt)), (hs, .inr (2, [.ref a0, .ref a1, .ref a2, .int (nI n), .int ea])), (a0, .inl (cyI, 24, .inl co)), (a1, .inl (cyI, 24, .inl ti)), (a2, .inl (cyI, 24, .inl an)), (hp, .inr (1, [.ref ap, .int (nI np)])), (ap, .inl (cyI, 60, .inl sg)), (htr, .inr (4, [.ref hq, .int ac1, .int rs, .int mu, .int al1])), (hq, .inr (2, [.ref r0, .ref r1, .ref r2, .int (nI nr), .int er])), (r0, .inl (cyI, 24, .inl cr)), (r1, .inl (cyI, 24, .inl tr)), (r2, .inl (cyI, 24, .inl ar))] s.heap.size := ⟨_, rfl⟩
  have hD : va_D A [(hkc, .inr (5, [.ref ht, .ref ht1, .ref ht2, .int kp, .ref hp, .ref htr, .ref hh, .ref as])), (ht, .inr (3, [.ref hs, .ref ak, .int (nI si), .int fi])), (ak, .inl (cyI, 4, .inl kt)), (hs, .inr (2, [.ref a0, .ref a1, .ref a2, .int (nI n), .int ea])), (a0, .inl (cyI, 24, .inl co)), (a1, .inl (cyI, 24, .inl ti)), (a2, .inl (cyI, 24, .inl an)), (hp, .inr (1, [.ref ap, .int (nI np)])), (ap, .inl (cyI, 60, .inl sg)), (htr, .inr (4, [.ref hq, .int ac1, .int rs, .int mu, .int al1])), (hq, .inr (2, [.ref r0, .ref r1, .ref r2, .int (nI nr), .int er])), (r0, .inl (cyI, 24, .inl cr)), (r1, .inl (cyI, 24, .inl tr)), (r2, .inl (cyI, 24, .inl ar))] := by rw [hAe]; exact hD0.self
  have hA : ∀ q : Nat, s.heap.size ≤ q → A q := fun q h => by rw [hAe]; exact Or.inr h
  have hS : va_S A s.heap s.heap [] := va_S.rf
  have hiX5 : ∀ w ∈ wsX50, w ∈ wsX5_weeksCanBe := by decide +kernel
  have fl25 := hts (.fieldLink RX5 25 "KnitChronicle" "pad" "LKnitChronicle$Pad;") (by decide +kernel)
  have hl := lv_entry ([.ref hkc]) (n := 1) (Nat.le_of_ble_eq_true rfl)
  rw [lg_entry_eq]
  generalize (lg_sl ([.ref hkc]) ++ List.replicate (1 - (lg_sl ([.ref hkc])).length) Slot.unset).toArray = ls at hl ⊢
  have hl : lv_has ls 1 [(0, .ref hkc)] := hl
  unfold fX5_weeksCanBe at hF
  refine lv_aload_n hx hb dX5_weeksCanBe_0 rfl (lv_at hl 0 rfl) ?_
  refine va_get (D := (dC, dI)) (ci := 5) (v := .ref hp) (C := RX5) (T := TX5) (N := 8) hx hb hts hiX5 hown hK hP 0 rfl rfl 4 (by decide) fl25 (fun _ h9 => h9) rfl dX5_weeksCanBe_1 ?_
  refine kx_cV (As := []) (rest := []) ⟨hx, hb, hml, hown, hts⟩ (c_X1_firstFault l dC dI cyI cyZ hp ap np sg (by omega) _ rfl) (cwV 0 hts gX5_weeksCanBe_X1_firstFault rfl rfl rfl (by decide +kernel) ⟨Nat.le_of_ble_eq_true rfl, Nat.le_of_ble_eq_true rfl⟩) hP hK hN [7, 8] rfl [0, 1] rfl 1 7 rfl rfl rfl rfl hl.1 rfl (Nat.le_of_ble_eq_true rfl) dX5_weeksCanBe_4 ⟨Nat.zero_le _, Nat.zero_le _⟩ ?_
  refine lv_bipush (v := (-6 : Int32)) hx hb dX5_weeksCanBe_7 (by decide) ?_
  refine lv_icmp_ne (tgt := 23) hx hb dX5_weeksCanBe_9 (by decide) (fun c9 => ?_) (fun c9 => ?_)
  · rw [if_neg c9] at hF
    refine lv_iconst (v := (0 : Int32)) hx hb dX5_weeksCanBe_23 (by decide) ?_
    subst hF
    subst hAe
    exact W.zret hx hb hr rfl (fun t ht _ => ⟨⟨_, (), rfl, rfl, by rw [ht]; exact hP, hD⟩, hS.F ht⟩) hS.2.2 dX5_weeksCanBe_24
  · rw [if_pos c9] at hF
    refine lv_aload_n hx hb dX5_weeksCanBe_12 rfl (lv_at hl 0 rfl) ?_
    generalize hq13 : fX5_tryWeeks kt n ea co ti an np sg cr tr ar = q13 at hF
    obtain ⟨q13a, q13b, q13c, q13d, q13e, q13f, q13g, q13h, q13i, q13j⟩ := q13
    dsimp only at hF
    refine kx_wVi (As := []) (rest := []) (wr := []) (wc' := [(hkc, .inr (5, [.ref ht, .ref ht1, .ref ht2, .int kp, .ref hp, .ref htr, .ref hh, .ref as])), (ht, .inr (3, [.ref hs, .ref ak, .int (nI si), .int fi])), (ak, .inl (cyI, 4, .inl kt)), (hs, .inr (2, [.ref a0, .ref a1, .ref a2, .int (nI n), .int ea])), (a0, .inl (cyI, 24, .inl co)), (a1, .inl (cyI, 24, .inl ti)), (a2, .inl (cyI, 24, .inl an)), (hp, .inr (1, [.ref ap, .int (nI np)])), (ap, .inl (cyI, 60, .inl sg)), (htr, .inr (4, [.ref hq, .int q13g, .int q13h, .int q13i, .int q13j])), (hq, .inr (2, [.ref r0, .ref r1, .ref r2, .int (nI q13e), .int q13f])), (r0, .inl (cyI, 24, .inl q13b)), (r1, .inl (cyI, 24, .inl q13c)), (r2, .inl (cyI, 24, .inl q13d))]) (W1 := [(hkc, .inr (5, [.ref ht, .ref ht1, .ref ht2, .int kp, .ref hp, .ref htr, .ref hh, .ref as])), (ht, .inr (3, [.ref hs, .ref ak, .int (nI si), .int fi])), (ak, .inl (cyI, 4, .inl kt)), (hs, .inr (2, [.ref a0, .ref a1, .ref a2, .int (nI n), .int ea])), (a0, .inl (cyI, 24, .inl co)), (a1, .inl (cyI, 24, .inl ti)), (a2, .inl (cyI, 24, .inl an)), (hp, .inr (1, [.ref ap, .int (nI np)])), (ap, .inl (cyI, 60, .inl sg)), (htr, .inr (4, [.ref hq, .int q13g, .int q13h, .int q13i, .int q13j])), (hq, .inr (2, [.ref r0, .ref r1, .ref r2, .int (nI q13e), .int q13f])), (r0, .inl (cyI, 24, .inl q13b)), (r1, .inl (cyI, 24, .inl q13c)), (r2, .inl (cyI, 24, .inl q13d))]) ⟨hx, hb, hml, hown, hts⟩ (c_X5_tryWeeks l dC dI cyI cyZ hkc ht ht1 ht2 hp htr hh as hs ak a0 a1 a2 ap hq r0 r1 r2 kp si fi kt n ea co ti an np sg ac1 rs mu al1 nr er cr tr ar (by omega) (by omega) _ _ hq13) (cwV 0 hts gX5_weeksCanBe_X5_tryWeeks rfl rfl rfl (by decide +kernel) ⟨Nat.le_of_ble_eq_true rfl, Nat.le_of_ble_eq_true rfl⟩) hP hD hS hA hK hN [0, 1, 2, 3, 4, 5, 6, 7, 8, 9, 10, 11, 12, 13] [] [0, 1, 2, 3, 4, 5, 6, 7, 8, 9, 10, 11, 12, 13] rfl (by decide) rfl (by decide) (by decide) (by decide) rfl [0, 1] rfl 5 0 rfl rfl rfl rfl hl.1 rfl (Nat.le_of_ble_eq_true rfl) dX5_weeksCanBe_13 ⟨Nat.zero_le _, Nat.zero_le _⟩ (fun H locs hP hD hS => ?_)
    refine lv_if_eq (tgt := 23) hx hb dX5_weeksCanBe_16 (by decide) (fun c16 => ?_) (fun c16 => ?_)
    · rw [if_pos c16] at hF
      refine lv_iconst (v := (0 : Int32)) hx hb dX5_weeksCanBe_23 (by decide) ?_
      subst hF
      subst hAe
      exact W.zret hx hb hr rfl (fun t ht _ => ⟨⟨_, (), rfl, rfl, by rw [ht]; exact hP, hD⟩, hS.F ht⟩) hS.2.2 dX5_weeksCanBe_24
    · rw [if_neg c16] at hF
      refine lv_iconst (v := (1 : Int32)) hx hb dX5_weeksCanBe_19 (by decide) ?_
      refine lv_goto (tgt := 24) hx hb dX5_weeksCanBe_20 (by decide) ?_
      subst hF
      subst hAe
      exact W.zret hx hb hr rfl (fun t ht _ => ⟨⟨_, (), rfl, rfl, by rw [ht]; exact hP, hD⟩, hS.F ht⟩) hS.2.2 dX5_weeksCanBe_24

theorem fX5_tryWeeks_L16_n (kt : Nat → Int32) (np : Nat) (sg : Nat → Int32) : ∀ (r j : Nat) (gc gt ga : Nat → Int32) (gn : Nat) (ge g1 g2 g3 g4 : Int32), (fX5_tryWeeks_L16 kt np sg r j gc gt ga gn ge g1 g2 g3 g4).2.2.2.2.1 ≤ gn + r := by
  intro r
  induction r with
  | zero => intro j gc gt ga gn ge g1 g2 g3 g4; rw [fX5_tryWeeks_L16]; exact Nat.le_refl _
  | succ r ih =>
    intro j gc gt ga gn ge g1 g2 g3 g4
    have key : ∀ (kn : Int32), (match fX4_act g1 g3 g4 gn ge gc gt ga (fX1_kindAt sg (nI j)) (fX1_stitchAt sg (nI (j + 1))) (fX1_colourAt sg (nI (j + 1))) (fX3_tightnessOf kt kn) with | (q97a, q97b, q97c, q97d, q97e, q97f, q97g, q97h, q97i, q97j) => (if q97a = 0 then ((0 : Int32), q97b, q97c, q97d, q97e, q97f, q97g, q97h, q97i, q97j) else (if (fX1_kindAt sg (nI j)) = (2 : Int32) then (fX5_tryWeeks_L16 kt np sg r (j + 3) q97b q97c q97d q97e q97f q97g q97h q97i q97j) else (fX5_tryWeeks_L16 kt np sg r (j + 2) q97b q97c q97d q97e q97f q97g q97h q97i q97j)))).2.2.2.2.1 ≤ gn + (r + 1) := by
      intro kn
      generalize hU : fX4_act g1 g3 g4 gn ge gc gt ga (fX1_kindAt sg (nI j)) (fX1_stitchAt sg (nI (j + 1))) (fX1_colourAt sg (nI (j + 1))) (fX3_tightnessOf kt kn) = U
      have hn := fX4_act_n hU
      obtain ⟨a1, a2, a3, a4, a5, a6, a7, a8, a9, a10⟩ := U
      have hn : a5 ≤ gn + 1 := hn
      dsimp only
      split
      · show a5 ≤ _; omega
      · split
        · exact Nat.le_trans (ih _ _ _ _ _ _ _ _ _ _) (by omega)
        · exact Nat.le_trans (ih _ _ _ _ _ _ _ _ _ _) (by omega)
    rw [fX5_tryWeeks_L16]
    split
    · show gn ≤ _; omega
    · split
      · exact key (fX1_knitterAt sg (nI j))
      · exact key (fX1_knitterAt sg (nI (j + 2)))
theorem fX5_tryWeeks_n {kt : Nat → Int32} {n : Nat} {ea : Int32} {co ti an : Nat → Int32} {np : Nat} {sg cr tr ar : Nat → Int32} {t : Int32 × (Nat → Int32) × (Nat → Int32) × (Nat → Int32) × Nat × Int32 × Int32 × Int32 × Int32 × Int32} (h : fX5_tryWeeks kt n ea co ti an np sg cr tr ar = t) : t.2.2.2.2.1 ≤ n + np := by
  subst h
  exact fX5_tryWeeks_L16_n kt np sg np 0 _ _ _ _ _ _ _ _ _
theorem fX5_weeksCanBe_n {kt : Nat → Int32} {n : Nat} {ea : Int32} {co ti an : Nat → Int32} {np : Nat} {sg : Nat → Int32} {ac1 rs mu al1 : Int32} {nr : Nat} {er : Int32} {cr tr ar : Nat → Int32} {t : Int32 × (Nat → Int32) × (Nat → Int32) × (Nat → Int32) × Nat × Int32 × Int32 × Int32 × Int32 × Int32} (h : fX5_weeksCanBe kt n ea co ti an np sg ac1 rs mu al1 nr er cr tr ar = t) : t.2.2.2.2.1 ≤ nr + (n + np) := by
  subst h
  unfold fX5_weeksCanBe
  split
  · generalize hU : fX5_tryWeeks kt n ea co ti an np sg cr tr ar = U
    have hn := fX5_tryWeeks_n hU
    obtain ⟨a1, a2, a3, a4, a5, a6, a7, a8, a9, a10⟩ := U
    have hn : a5 ≤ n + np := hn
    dsimp only
    split
    · show a5 ≤ _; omega
    · show a5 ≤ _; omega
  · show nr ≤ _; omega

def fX5_judge (kt : Nat → Int32) (n : Nat) (ea : Int32) (co : Nat → Int32) (ti : Nat → Int32) (an : Nat → Int32) (np : Nat) (sg : Nat → Int32) (ac1 : Int32) (rs : Int32) (mu : Int32) (al1 : Int32) (nr : Nat) (er : Int32) (cr : Nat → Int32) (tr : Nat → Int32) (ar : Nat → Int32) (wh : Int32) : Int32 × (Nat → Int32) × (Nat → Int32) × (Nat → Int32) × Nat × Int32 × Int32 × Int32 × Int32 × Int32 :=
  (if (fX5_isBelow wh (2 : Int32)) = 0 then ((-2 : Int32), cr, tr, ar, nr, er, ac1, rs, mu, al1) else (if (fX1_firstFault np sg) = (-6 : Int32) then (match fX5_tryWeeks kt n ea co ti an np sg cr tr ar with | (q27a, q27b, q27c, q27d, q27e, q27f, q27g, q27h, q27i, q27j) => (if q27a = 0 then (if wh = 0 then (q27g, q27b, q27c, q27d, q27e, q27f, q27g, q27h, q27i, q27j) else (q27h, q27b, q27c, q27d, q27e, q27f, q27g, q27h, q27i, q27j)) else ((-6 : Int32), q27b, q27c, q27d, q27e, q27f, q27g, q27h, q27i, q27j))) else ((-5 : Int32), cr, tr, ar, nr, er, ac1, rs, mu, al1)))
set_option maxHeartbeats 4000000 in
set_option maxRecDepth 100000 in
theorem c_X5_judge (l : Launch) (dC : Nat → ClassId) (dI : Nat → Nat → Nat) (cyI cyZ : ClassId) (hkc ht ht1 ht2 hp htr hh as hs ak a0 a1 a2 ap hq r0 r1 r2 : Nat) (kp : Int32) (si : Nat) (fi : Int32) (kt : Nat → Int32) (n : Nat) (ea : Int32) (co : Nat → Int32) (ti : Nat → Int32) (an : Nat → Int32) (np : Nat) (sg : Nat → Int32) (ac1 : Int32) (rs : Int32) (mu : Int32) (al1 : Int32) (nr : Nat) (er : Int32) (cr : Nat → Int32) (tr : Nat → Int32) (ar : Nat → Int32) (wh : Int32) (hn : n ≤ 24) (hnp : np ≤ 60) (sz : Nat) (r : Int32 × (Nat → Int32) × (Nat → Int32) × (Nat → Int32) × Nat × Int32 × Int32 × Int32 × Int32 × Int32) (hF : fX5_judge kt n ea co ti an np sg ac1 rs mu al1 nr er cr tr ar wh = r) : Met l yX5_judge wsX5_judge ({ frames := 5, cells := 0, slots := 0, locals := 118 }) (kx_wp (dC, dI) [(hkc, .inr (5, [.ref ht, .ref ht1, .ref ht2, .int kp, .ref hp, .ref htr, .ref hh, .ref as])), (ht, .inr (3, [.ref hs, .ref ak, .int (nI si), .int fi])), (ak, .inl (cyI, 4, .inl kt)), (hs, .inr (2, [.ref a0, .ref a1, .ref a2, .int (nI n), .int ea])), (a0, .inl (cyI, 24, .inl co)), (a1, .inl (cyI, 24, .inl ti)), (a2, .inl (cyI, 24, .inl an)), (hp, .inr (1, [.ref ap, .int (nI np)])), (ap, .inl (cyI, 60, .inl sg)), (htr, .inr (4, [.ref hq, .int ac1, .int rs, .int mu, .int al1])), (hq, .inr (2, [.ref r0, .ref r1, .ref r2, .int (nI nr), .int er])), (r0, .inl (cyI, 24, .inl cr)), (r1, .inl (cyI, 24, .inl tr)), (r2, .inl (cyI, 24, .inl ar))] [(cyI, .int), (cyZ, .boolean)] sz [.ref hkc, .int wh]) (kx_Qi r.1 (dC, dI) [(hkc, .inr (5, [.ref ht, .ref ht1, .ref ht2, .int kp, .ref hp, .ref htr, .ref hh, .ref as])), (ht, .inr (3, [.ref hs, .ref ak, .int (nI si), .int fi])), (ak, .inl (cyI, 4, .inl kt)), (hs, .inr (2, [.ref a0, .ref a1, .ref a2, .int (nI n), .int ea])), (a0, .inl (cyI, 24, .inl co)), (a1, .inl (cyI, 24, .inl ti)), (a2, .inl (cyI, 24, .inl an)), (hp, .inr (1, [.ref ap, .int (nI np)])), (ap, .inl (cyI, 60, .inl sg)), (htr, .inr (4, [.ref hq, .int ac1, .int rs, .int mu, .int al1])), (hq, .inr (2, [.ref r0, .ref r1, .ref r2, .int (nI nr), .int er])), (r0, .inl (cyI, 24, .inl cr)), (r1, .inl (cyI, 24, .inl tr)), (r2, .inl (cyI, 24, .inl ar))] [(hkc, .inr (5, [.ref ht, .ref ht1, .ref ht2, .int kp, .ref hp, .ref htr, .ref hh, .ref as])), (ht, .inr (3, [.ref hs, .ref ak, .int (nI si), .int fi])), (ak, .inl (cyI, 4, .inl kt)), (hs, .inr (2, [.ref a0, .ref a1, .ref a2, .int (nI n), .int ea])), (a0, .inl (cyI, 24, .inl co)), (a1, .inl (cyI, 24, .inl ti)), (a2, .inl (cyI, 24, .inl an)), (hp, .inr (1, [.ref ap, .int (nI np)])), (ap, .inl (cyI, 60, .inl sg)), (htr, .inr (4, [.ref hq, .int r.2.2.2.2.2.2.1, .int r.2.2.2.2.2.2.2.1, .int r.2.2.2.2.2.2.2.2.1, .int r.2.2.2.2.2.2.2.2.2])), (hq, .inr (2, [.ref r0, .ref r1, .ref r2, .int (nI (r.2.2.2.2.1)), .int r.2.2.2.2.2.1])), (r0, .inl (cyI, 24, .inl r.2.1)), (r1, .inl (cyI, 24, .inl r.2.2.1)), (r2, .inl (cyI, 24, .inl r.2.2.2.1))] sz) 0 0 (va_A [(hkc, .inr (5, [.ref ht, .ref ht1, .ref ht2, .int kp, .ref hp, .ref htr, .ref hh, .ref as])), (ht, .inr (3, [.ref hs, .ref ak, .int (nI si), .int fi])), (ak, .inl (cyI, 4, .inl kt)), (hs, .inr (2, [.ref a0, .ref a1, .ref a2, .int (nI n), .int ea])), (a0, .inl (cyI, 24, .inl co)), (a1, .inl (cyI, 24, .inl ti)), (a2, .inl (cyI, 24, .inl an)), (hp, .inr (1, [.ref ap, .int (nI np)])), (ap, .inl (cyI, 60, .inl sg)), (htr, .inr (4, [.ref hq, .int ac1, .int rs, .int mu, .int al1])), (hq, .inr (2, [.ref r0, .ref r1, .ref r2, .int (nI nr), .int er])), (r0, .inl (cyI, 24, .inl cr)), (r1, .inl (cyI, 24, .inl tr)), (r2, .inl (cyI, 24, .inl ar))] sz) := by
  refine Met.ofW (cc := cX5_judge) (maxL := 2) (ret := (some .int)) (by decide) rfl ?_
  intro p e s m args below meth c s₁ B hml hv
  obtain ⟨rfl, hsz, hP, hK, hN, hD0⟩ := hv
  have hx := B.exec
  have hb := B.bytes
  have hr := B.returns
  have hts := atoms_spec (ws := wsX5_judge) B.pre
  have hown : s.vm.findClass RX5 = some m.cls := findClass_of_methodNamed B.named
  have hlocks := B.notSynchronized
  subst hsz
  obtain ⟨A, hAe⟩ : ∃ A, A = va_A [(hkc, .inr (5, [.ref ht, .ref ht1, .ref ht2, .int kp, .ref hp, .ref htr, .ref hh, .ref as])), (ht, .inr (3, [.ref hs, .ref ak, .int (nI si), .int fi])), (ak, .inl (cyI, 4, .inl kt)), (hs, .inr (2, [.ref a0, .ref a1, .ref a2, .int (nI n), .int ea])), (a0, .inl (cyI, 24, .inl co)), (a1, .inl (cyI, 24, .inl ti)), (a2, .inl (cyI, 24, .inl an)), (hp, .inr (1, [.ref ap, .int (nI np)])), (ap, .inl (cyI, 60, .inl sg)), (htr, .inr (4, [.ref hq, .int ac1, .int rs, .int mu, .int al1])), (hq, .inr (2, [.ref r0, .ref r1, .ref r2, .int (nI nr), .int er])), (r0, .inl (cyI, 24, .inl cr)), (r1, .inl (cyI, 24, .inl tr)), (r2, .inl (cyI, 24, .inl ar))] s.heap.size := ⟨_, rfl⟩
  have hD : va_D A [(hkc, .inr (5, [.ref ht, .ref ht1, .ref ht2, .int kp, .ref hp, .ref htr, .ref hh, .ref as])), (ht, .inr (3, [.ref hs, .ref ak, .int (nI si), .int fi])), (ak, .inl (cyI, 4, .inl kt)), (hs, .inr (2, [.ref a0, .ref a1, .ref a2, .int (nI n), .int ea])), (a0, .inl (cyI, 24, .inl co)), (a1, .inl (cyI, 24, .inl ti)), (a2, .inl (cyI, 24, .inl an)), (hp, .inr (1, [.ref ap, .int (nI np)])), (ap, .inl (cyI, 60, .inl sg)), (htr, .inr (4, [.ref hq, .int ac1, .int rs, .int mu, .int al1])), (hq, .inr (2, [.ref r0, .ref r1, .ref r2, .int (nI nr), .int er])), (r0, .inl (cyI, 24, .inl cr)), (r1, .inl (cyI, 24, .inl tr)), (r2, .inl (cyI, 24, .inl ar))] := by rw [hAe]; exact hD0.self
  have hA : ∀ q : Nat, s.heap.size ≤ q → A q := fun q h => by rw [hAe]; exact Or.inr h
  have hS : va_S A s.heap s.heap [] := va_S.rf
  have hiX4 : ∀ w ∈ wsX40, w ∈ wsX5_judge := by decide +kernel
  have hiX5 : ∀ w ∈ wsX50, w ∈ wsX5_judge := by decide +kernel
  have fl25 := hts (.fieldLink RX5 25 "KnitChronicle" "pad" "LKnitChronicle$Pad;") (by decide +kernel)
  have fl32 := hts (.fieldLink RX5 32 "KnitChronicle" "trial" "LKnitChronicle$Trial;") (by decide +kernel)
  have fl100 := hts (.fieldLink RX5 100 "KnitChronicle$Trial" "acts" "I") (by decide +kernel)
  have fl103 := hts (.fieldLink RX5 103 "KnitChronicle$Trial" "reason" "I") (by decide +kernel)
  have hl := lv_entry ([.ref hkc, .int wh]) (n := 2) (Nat.le_of_ble_eq_true rfl)
  rw [lg_entry_eq]
  generalize (lg_sl ([.ref hkc, .int wh]) ++ List.replicate (2 - (lg_sl ([.ref hkc, .int wh])).length) Slot.unset).toArray = ls at hl ⊢
  have hl : lv_has ls 2 [(0, .ref hkc), (1, .int wh)] := hl
  unfold fX5_judge at hF
  refine lv_iload_n hx hb dX5_judge_0 rfl (lv_at hl 1 rfl) ?_
  refine lv_iconst (v := (2 : Int32)) hx hb dX5_judge_1 (by decide) ?_
  refine kx_cS (As := [.int wh, .int (2 : Int32)]) (rest := []) ⟨hx, hb, hml, hown, hts⟩ (c_X5_isBelow l dC dI cyI cyZ  wh (2 : Int32)  _ rfl) (va_cwS 2 hts gX5_judge_X5_isBelow rfl rfl rfl (by decide +kernel) ⟨Nat.le_of_ble_eq_true rfl, Nat.le_of_ble_eq_true rfl⟩) hP hK hN [] rfl [0, 1] rfl rfl hl.1 rfl (Nat.le_of_ble_eq_true rfl) dX5_judge_2 ⟨Nat.zero_le _, Nat.zero_le _⟩ ?_
  refine lv_if_ne (tgt := 11) hx hb dX5_judge_5 (by decide) (fun c5 => ?_) (fun c5 => ?_)
  · rw [if_neg c5] at hF
    refine lv_aload_n hx hb dX5_judge_11 rfl (lv_at hl 0 rfl) ?_
    refine va_get (D := (dC, dI)) (ci := 5) (v := .ref hp) (C := RX5) (T := TX5) (N := 8) hx hb hts hiX5 hown hK hP 0 rfl rfl 4 (by decide) fl25 (fun _ h9 => h9) rfl dX5_judge_12 ?_
    refine kx_cV (As := []) (rest := []) ⟨hx, hb, hml, hown, hts⟩ (c_X1_firstFault l dC dI cyI cyZ hp ap np sg (by omega) _ rfl) (cwV 0 hts gX5_judge_X1_firstFault rfl rfl rfl (by decide +kernel) ⟨Nat.le_of_ble_eq_true rfl, Nat.le_of_ble_eq_true rfl⟩) hP hK hN [7, 8] rfl [0, 1] rfl 1 7 rfl rfl rfl rfl hl.1 rfl (Nat.le_of_ble_eq_true rfl) dX5_judge_15 ⟨Nat.zero_le _, Nat.zero_le _⟩ ?_
    refine lv_bipush (v := (-6 : Int32)) hx hb dX5_judge_18 (by decide) ?_
    refine lv_icmp_eq (tgt := 26) hx hb dX5_judge_20 (by decide) (fun c20 => ?_) (fun c20 => ?_)
    · rw [if_pos c20] at hF
      refine lv_aload_n hx hb dX5_judge_26 rfl (lv_at hl 0 rfl) ?_
      generalize hq27 : fX5_tryWeeks kt n ea co ti an np sg cr tr ar = q27 at hF
      obtain ⟨q27a, q27b, q27c, q27d, q27e, q27f, q27g, q27h, q27i, q27j⟩ := q27
      dsimp only at hF
      refine kx_wVi (As := []) (rest := []) (wr := []) (wc' := [(hkc, .inr (5, [.ref ht, .ref ht1, .ref ht2, .int kp, .ref hp, .ref htr, .ref hh, .ref as])), (ht, .inr (3, [.ref hs, .ref ak, .int (nI si), .int fi])), (ak, .inl (cyI, 4, .inl kt)), (hs, .inr (2, [.ref a0, .ref a1, .ref a2, .int (nI n), .int ea])), (a0, .inl (cyI, 24, .inl co)), (a1, .inl (cyI, 24, .inl ti)), (a2, .inl (cyI, 24, .inl an)), (hp, .inr (1, [.ref ap, .int (nI np)])), (ap, .inl (cyI, 60, .inl sg)), (htr, .inr (4, [.ref hq, .int q27g, .int q27h, .int q27i, .int q27j])), (hq, .inr (2, [.ref r0, .ref r1, .ref r2, .int (nI q27e), .int q27f])), (r0, .inl (cyI, 24, .inl q27b)), (r1, .inl (cyI, 24, .inl q27c)), (r2, .inl (cyI, 24, .inl q27d))]) (W1 := [(hkc, .inr (5, [.ref ht, .ref ht1, .ref ht2, .int kp, .ref hp, .ref htr, .ref hh, .ref as])), (ht, .inr (3, [.ref hs, .ref ak, .int (nI si), .int fi])), (ak, .inl (cyI, 4, .inl kt)), (hs, .inr (2, [.ref a0, .ref a1, .ref a2, .int (nI n), .int ea])), (a0, .inl (cyI, 24, .inl co)), (a1, .inl (cyI, 24, .inl ti)), (a2, .inl (cyI, 24, .inl an)), (hp, .inr (1, [.ref ap, .int (nI np)])), (ap, .inl (cyI, 60, .inl sg)), (htr, .inr (4, [.ref hq, .int q27g, .int q27h, .int q27i, .int q27j])), (hq, .inr (2, [.ref r0, .ref r1, .ref r2, .int (nI q27e), .int q27f])), (r0, .inl (cyI, 24, .inl q27b)), (r1, .inl (cyI, 24, .inl q27c)), (r2, .inl (cyI, 24, .inl q27d))]) ⟨hx, hb, hml, hown, hts⟩ (c_X5_tryWeeks l dC dI cyI cyZ hkc ht ht1 ht2 hp htr hh as hs ak a0 a1 a2 ap hq r0 r1 r2 kp si fi kt n ea co ti an np sg ac1 rs mu al1 nr er cr tr ar (by omega) (by omega) _ _ hq27) (cwV 0 hts gX5_judge_X5_tryWeeks rfl rfl rfl (by decide +kernel) ⟨Nat.le_of_ble_eq_true rfl, Nat.le_of_ble_eq_true rfl⟩) hP hD hS hA hK hN [0, 1, 2, 3, 4, 5, 6, 7, 8, 9, 10, 11, 12, 13] [] [0, 1, 2, 3, 4, 5, 6, 7, 8, 9, 10, 11, 12, 13] rfl (by decide) rfl (by decide) (by decide) (by decide) rfl [0, 1] rfl 5 0 rfl rfl rfl rfl hl.1 rfl (Nat.le_of_ble_eq_true rfl) dX5_judge_27 ⟨Nat.zero_le _, Nat.zero_le _⟩ (fun H locs hP hD hS => ?_)
      refine lv_if_eq (tgt := 36) hx hb dX5_judge_30 (by decide) (fun c30 => ?_) (fun c30 => ?_)
      · rw [if_pos c30] at hF
        refine lv_iload_n hx hb dX5_judge_36 rfl (lv_at hl 1 rfl) ?_
        refine lv_if_ne (tgt := 50) hx hb dX5_judge_37 (by decide) (fun c37 => ?_) (fun c37 => ?_)
        · rw [if_neg c37] at hF
          refine lv_aload_n hx hb dX5_judge_50 rfl (lv_at hl 0 rfl) ?_
          refine va_get (D := (dC, dI)) (ci := 5) (v := .ref htr) (C := RX5) (T := TX5) (N := 8) hx hb hts hiX5 hown hK hP 0 rfl rfl 5 (by decide) fl32 (fun _ h9 => h9) rfl dX5_judge_51 ?_
          refine va_get (D := (dC, dI)) (ci := 4) (v := .int q27h) (C := RX4) (T := TX4) (N := 5) hx hb hts hiX4 hown hK hP 9 rfl rfl 2 (by decide) fl103 (fun _ h9 => h9) rfl dX5_judge_54 ?_
          subst hF
          subst hAe
          exact W.iret hx hb hr (fun t ht _ => ⟨⟨_, (), rfl, rfl, by rw [ht]; exact hP, hD⟩, hS.F ht⟩) hS.2.2 dX5_judge_57
        · rw [if_pos c37] at hF
          refine lv_aload_n hx hb dX5_judge_40 rfl (lv_at hl 0 rfl) ?_
          refine va_get (D := (dC, dI)) (ci := 5) (v := .ref htr) (C := RX5) (T := TX5) (N := 8) hx hb hts hiX5 hown hK hP 0 rfl rfl 5 (by decide) fl32 (fun _ h9 => h9) rfl dX5_judge_41 ?_
          refine va_get (D := (dC, dI)) (ci := 4) (v := .int q27g) (C := RX4) (T := TX4) (N := 5) hx hb hts hiX4 hown hK hP 9 rfl rfl 1 (by decide) fl100 (fun _ h9 => h9) rfl dX5_judge_44 ?_
          refine lv_goto (tgt := 57) hx hb dX5_judge_47 (by decide) ?_
          subst hF
          subst hAe
          exact W.iret hx hb hr (fun t ht _ => ⟨⟨_, (), rfl, rfl, by rw [ht]; exact hP, hD⟩, hS.F ht⟩) hS.2.2 dX5_judge_57
      · rw [if_neg c30] at hF
        refine lv_bipush (v := (-6 : Int32)) hx hb dX5_judge_33 (by decide) ?_
        subst hF
        subst hAe
        exact W.iret hx hb hr (fun t ht _ => ⟨⟨_, (), rfl, rfl, by rw [ht]; exact hP, hD⟩, hS.F ht⟩) hS.2.2 dX5_judge_35
    · rw [if_neg c20] at hF
      refine lv_bipush (v := (-5 : Int32)) hx hb dX5_judge_23 (by decide) ?_
      subst hF
      subst hAe
      exact W.iret hx hb hr (fun t ht _ => ⟨⟨_, (), rfl, rfl, by rw [ht]; exact hP, hD⟩, hS.F ht⟩) hS.2.2 dX5_judge_25
  · rw [if_pos c5] at hF
    refine lv_bipush (v := (-2 : Int32)) hx hb dX5_judge_8 (by decide) ?_
    subst hF
    subst hAe
    exact W.iret hx hb hr (fun t ht _ => ⟨⟨_, (), rfl, rfl, by rw [ht]; exact hP, hD⟩, hS.F ht⟩) hS.2.2 dX5_judge_10

def fX5_done (kt : Nat → Int32) (n : Nat) (ea : Int32) (co : Nat → Int32) (ti : Nat → Int32) (an : Nat → Int32) (np : Nat) (sg : Nat → Int32) (ac1 : Int32) (rs : Int32) (mu : Int32) (al1 : Int32) (nr : Nat) (er : Int32) (cr : Nat → Int32) (tr : Nat → Int32) (ar : Nat → Int32) : Int32 × (Nat → Int32) × (Nat → Int32) × (Nat → Int32) × Nat × Int32 × Int32 × Int32 × Int32 × Int32 × (Nat → Int32) × (Nat → Int32) × (Nat → Int32) × Nat × Int32 × Nat :=
  (match fX5_weeksCanBe kt n ea co ti an np sg ac1 rs mu al1 nr er cr tr ar with | (q1a, q1b, q1c, q1d, q1e, q1f, q1g, q1h, q1i, q1j) => (if q1a = 0 then ((-5 : Int32), q1b, q1c, q1d, q1e, q1f, q1g, q1h, q1i, q1j, co, ti, an, n, ea, np) else (match fX2_copy co ti an q1e q1f q1b q1c q1d with | (q24a, q24b, q24c, q24d, q24e) => (q1g, q1b, q1c, q1d, q1e, q1f, q1g, q1h, q1i, q1j, q24a, q24b, q24c, q24d, q24e, 0))))
set_option maxHeartbeats 4000000 in
set_option maxRecDepth 100000 in
theorem c_X5_done (l : Launch) (dC : Nat → ClassId) (dI : Nat → Nat → Nat) (cyI cyZ : ClassId) (hkc ht ht1 ht2 hp htr hh as hs ak a0 a1 a2 ap hq r0 r1 r2 : Nat) (kp : Int32) (si : Nat) (fi : Int32) (kt : Nat → Int32) (n : Nat) (ea : Int32) (co : Nat → Int32) (ti : Nat → Int32) (an : Nat → Int32) (np : Nat) (sg : Nat → Int32) (ac1 : Int32) (rs : Int32) (mu : Int32) (al1 : Int32) (nr : Nat) (er : Int32) (cr : Nat → Int32) (tr : Nat → Int32) (ar : Nat → Int32) (hn : n ≤ 24) (hnp : np ≤ 60) (hnr : nr ≤ 500) (sz : Nat) (r : Int32 × (Nat → Int32) × (Nat → Int32) × (Nat → Int32) × Nat × Int32 × Int32 × Int32 × Int32 × Int32 × (Nat → Int32) × (Nat → Int32) × (Nat → Int32) × Nat × Int32 × Nat) (hF : fX5_done kt n ea co ti an np sg ac1 rs mu al1 nr er cr tr ar = r) : Met l yX5_done wsX5_done ({ frames := 6, cells := 0, slots := 0, locals := 138 }) (kx_wp (dC, dI) [(hkc, .inr (5, [.ref ht, .ref ht1, .ref ht2, .int kp, .ref hp, .ref htr, .ref hh, .ref as])), (ht, .inr (3, [.ref hs, .ref ak, .int (nI si), .int fi])), (ak, .inl (cyI, 4, .inl kt)), (hs, .inr (2, [.ref a0, .ref a1, .ref a2, .int (nI n), .int ea])), (a0, .inl (cyI, 24, .inl co)), (a1, .inl (cyI, 24, .inl ti)), (a2, .inl (cyI, 24, .inl an)), (hp, .inr (1, [.ref ap, .int (nI np)])), (ap, .inl (cyI, 60, .inl sg)), (htr, .inr (4, [.ref hq, .int ac1, .int rs, .int mu, .int al1])), (hq, .inr (2, [.ref r0, .ref r1, .ref r2, .int (nI nr), .int er])), (r0, .inl (cyI, 24, .inl cr)), (r1, .inl (cyI, 24, .inl tr)), (r2, .inl (cyI, 24, .inl ar))] [(cyI, .int), (cyZ, .boolean)] sz [.ref hkc]) (kx_Qi r.1 (dC, dI) [(hkc, .inr (5, [.ref ht, .ref ht1, .ref ht2, .int kp, .ref hp, .ref htr, .ref hh, .ref as])), (ht, .inr (3, [.ref hs, .ref ak, .int (nI si), .int fi])), (ak, .inl (cyI, 4, .inl kt)), (hs, .inr (2, [.ref a0, .ref a1, .ref a2, .int (nI n), .int ea])), (a0, .inl (cyI, 24, .inl co)), (a1, .inl (cyI, 24, .inl ti)), (a2, .inl (cyI, 24, .inl an)), (hp, .inr (1, [.ref ap, .int (nI np)])), (ap, .inl (cyI, 60, .inl sg)), (htr, .inr (4, [.ref hq, .int ac1, .int rs, .int mu, .int al1])), (hq, .inr (2, [.ref r0, .ref r1, .ref r2, .int (nI nr), .int er])), (r0, .inl (cyI, 24, .inl cr)), (r1, .inl (cyI, 24, .inl tr)), (r2, .inl (cyI, 24, .inl ar))] [(hkc, .inr (5, [.ref ht, .ref ht1, .ref ht2, .int kp, .ref hp, .ref htr, .ref hh, .ref as])), (ht, .inr (3, [.ref hs, .ref ak, .int (nI si), .int fi])), (ak, .inl (cyI, 4, .inl kt)), (hs, .inr (2, [.ref a0, .ref a1, .ref a2, .int (nI (r.2.2.2.2.2.2.2.2.2.2.2.2.2.1)), .int r.2.2.2.2.2.2.2.2.2.2.2.2.2.2.1])), (a0, .inl (cyI, 24, .inl r.2.2.2.2.2.2.2.2.2.2.1)), (a1, .inl (cyI, 24, .inl r.2.2.2.2.2.2.2.2.2.2.2.1)), (a2, .inl (cyI, 24, .inl r.2.2.2.2.2.2.2.2.2.2.2.2.1)), (hp, .inr (1, [.ref ap, .int (nI (r.2.2.2.2.2.2.2.2.2.2.2.2.2.2.2))])), (ap, .inl (cyI, 60, .inl sg)), (htr, .inr (4, [.ref hq, .int r.2.2.2.2.2.2.1, .int r.2.2.2.2.2.2.2.1, .int r.2.2.2.2.2.2.2.2.1, .int r.2.2.2.2.2.2.2.2.2.1])), (hq, .inr (2, [.ref r0, .ref r1, .ref r2, .int (nI (r.2.2.2.2.1)), .int r.2.2.2.2.2.1])), (r0, .inl (cyI, 24, .inl r.2.1)), (r1, .inl (cyI, 24, .inl r.2.2.1)), (r2, .inl (cyI, 24, .inl r.2.2.2.1))] sz) 0 0 (va_A [(hkc, .inr (5, [.ref ht, .ref ht1, .ref ht2, .int kp, .ref hp, .ref htr, .ref hh, .ref as])), (ht, .inr (3, [.ref hs, .ref ak, .int (nI si), .int fi])), (ak, .inl (cyI, 4, .inl kt)), (hs, .inr (2, [.ref a0, .ref a1, .ref a2, .int (nI n), .int ea])), (a0, .inl (cyI, 24, .inl co)), (a1, .inl (cyI, 24, .inl ti)), (a2, .inl (cyI, 24, .inl an)), (hp, .inr (1, [.ref ap, .int (nI np)])), (ap, .inl (cyI, 60, .inl sg)), (htr, .inr (4, [.ref hq, .int ac1, .int rs, .int mu, .int al1])), (hq, .inr (2, [.ref r0, .ref r1, .ref r2, .int (nI nr), .int er])), (r0, .inl (cyI, 24, .inl cr)), (r1, .inl (cyI, 24, .inl tr)), (r2, .inl (cyI, 24, .inl ar))] sz) := by
  refine Met.ofW (cc := cX5_done) (maxL := 1) (ret := (some .int)) (by decide) rfl ?_
  intro p e s m args below meth c s₁ B hml hv
  obtain ⟨rfl, hsz, hP, hK, hN, hD0⟩ := hv
  have hx := B.exec
  have hb := B.bytes
  have hr := B.returns
  have hts := atoms_spec (ws := wsX5_done) B.pre
  have hown : s.vm.findClass RX5 = some m.cls := findClass_of_methodNamed B.named
  have hlocks := B.notSynchronized
  subst hsz
  obtain ⟨A, hAe⟩ : ∃ A, A = va_A [(hkc, .inr (5, [.ref ht, .ref ht1, .ref ht2, .int kp, .ref hp, .ref htr, .ref hh, .ref as])), (ht, .inr (3, [.ref hs, .ref ak, .int (nI si), .int fi])), (ak, .inl (cyI, 4, .inl kt)), (hs, .inr (2, [.ref a0, .ref a1, .ref a2, .int (nI n), .int ea])), (a0, .inl (cyI, 24, .inl co)), (a1, .inl (cyI, 24, .inl ti)), (a2, .inl (cyI, 24, .inl an)), (hp, .inr (1, [.ref ap, .int (nI np)])), (ap, .inl (cyI, 60, .inl sg)), (htr, .inr (4, [.ref hq, .int ac1, .int rs, .int mu, .int al1])), (hq, .inr (2, [.ref r0, .ref r1, .ref r2, .int (nI nr), .int er])), (r0, .inl (cyI, 24, .inl cr)), (r1, .inl (cyI, 24, .inl tr)), (r2, .inl (cyI, 24, .inl ar))] s.heap.size := ⟨_, rfl⟩
  have hD : va_D A [(hkc, .inr (5, [.ref ht, .ref ht1, .ref ht2, .int kp, .ref hp, .ref htr, .ref hh, .ref as])), (ht, .inr (3, [.ref hs, .ref ak, .int (nI si), .int fi])), (ak, .inl (cyI, 4, .inl kt)), (hs, .inr (2, [.ref a0, .ref a1, .ref a2, .int (nI n), .int ea])), (a0, .inl (cyI, 24, .inl co)), (a1, .inl (cyI, 24, .inl ti)), (a2, .inl (cyI, 24, .inl an)), (hp, .inr (1, [.ref ap, .int (nI np)])), (ap, .inl (cyI, 60, .inl sg)), (htr, .inr (4, [.ref hq, .int ac1, .int rs, .int mu, .int al1])), (hq, .inr (2, [.ref r0, .ref r1, .ref r2, .int (nI nr), .int er])), (r0, .inl (cyI, 24, .inl cr)), (r1, .inl (cyI, 24, .inl tr)), (r2, .inl (cyI, 24, .inl ar))] := by rw [hAe]; exact hD0.self
  have hA : ∀ q : Nat, s.heap.size ≤ q → A q := fun q h => by rw [hAe]; exact Or.inr h
  have hS : va_S A s.heap s.heap [] := va_S.rf
  have hiX1 : ∀ w ∈ wsX10, w ∈ wsX5_done := by decide +kernel
  have hiX3 : ∀ w ∈ wsX30, w ∈ wsX5_done := by decide +kernel
  have hiX4 : ∀ w ∈ wsX40, w ∈ wsX5_done := by decide +kernel
  have hiX5 : ∀ w ∈ wsX50, w ∈ wsX5_done := by decide +kernel
  have fl10 := hts (.fieldLink RX5 10 "KnitChronicle" "town" "LKnitChronicle$Town;") (by decide +kernel)
  have fl25 := hts (.fieldLink RX5 25 "KnitChronicle" "pad" "LKnitChronicle$Pad;") (by decide +kernel)
  have fl32 := hts (.fieldLink RX5 32 "KnitChronicle" "trial" "LKnitChronicle$Trial;") (by decide +kernel)
  have fl47 := hts (.fieldLink RX5 47 "KnitChronicle$Town" "scarf" "LKnitChronicle$Scarf;") (by decide +kernel)
  have fl87 := hts (.fieldLink RX5 87 "KnitChronicle$Pad" "length" "I") (by decide +kernel)
  have fl100 := hts (.fieldLink RX5 100 "KnitChronicle$Trial" "acts" "I") (by decide +kernel)
  have fl109 := hts (.fieldLink RX5 109 "KnitChronicle$Trial" "scarf" "LKnitChronicle$Scarf;") (by decide +kernel)
  have hl := lv_entry ([.ref hkc]) (n := 1) (Nat.le_of_ble_eq_true rfl)
  rw [lg_entry_eq]
  generalize (lg_sl ([.ref hkc]) ++ List.replicate (1 - (lg_sl ([.ref hkc])).length) Slot.unset).toArray = ls at hl ⊢
  have hl : lv_has ls 1 [(0, .ref hkc)] := hl
  unfold fX5_done at hF
  refine lv_aload_n hx hb dX5_done_0 rfl (lv_at hl 0 rfl) ?_
  generalize hq1 : fX5_weeksCanBe kt n ea co ti an np sg ac1 rs mu al1 nr er cr tr ar = q1 at hF
  obtain ⟨q1a, q1b, q1c, q1d, q1e, q1f, q1g, q1h, q1i, q1j⟩ := q1
  dsimp only at hF
  refine kx_wVi (As := []) (rest := []) (wr := []) (wc' := [(hkc, .inr (5, [.ref ht, .ref ht1, .ref ht2, .int kp, .ref hp, .ref htr, .ref hh, .ref as])), (ht, .inr (3, [.ref hs, .ref ak, .int (nI si), .int fi])), (ak, .inl (cyI, 4, .inl kt)), (hs, .inr (2, [.ref a0, .ref a1, .ref a2, .int (nI n), .int ea])), (a0, .inl (cyI, 24, .inl co)), (a1, .inl (cyI, 24, .inl ti)), (a2, .inl (cyI, 24, .inl an)), (hp, .inr (1, [.ref ap, .int (nI np)])), (ap, .inl (cyI, 60, .inl sg)), (htr, .inr (4, [.ref hq, .int q1g, .int q1h, .int q1i, .int q1j])), (hq, .inr (2, [.ref r0, .ref r1, .ref r2, .int (nI q1e), .int q1f])), (r0, .inl (cyI, 24, .inl q1b)), (r1, .inl (cyI, 24, .inl q1c)), (r2, .inl (cyI, 24, .inl q1d))]) (W1 := [(hkc, .inr (5, [.ref ht, .ref ht1, .ref ht2, .int kp, .ref hp, .ref htr, .ref hh, .ref as])), (ht, .inr (3, [.ref hs, .ref ak, .int (nI si), .int fi])), (ak, .inl (cyI, 4, .inl kt)), (hs, .inr (2, [.ref a0, .ref a1, .ref a2, .int (nI n), .int ea])), (a0, .inl (cyI, 24, .inl co)), (a1, .inl (cyI, 24, .inl ti)), (a2, .inl (cyI, 24, .inl an)), (hp, .inr (1, [.ref ap, .int (nI np)])), (ap, .inl (cyI, 60, .inl sg)), (htr, .inr (4, [.ref hq, .int q1g, .int q1h, .int q1i, .int q1j])), (hq, .inr (2, [.ref r0, .ref r1, .ref r2, .int (nI q1e), .int q1f])), (r0, .inl (cyI, 24, .inl q1b)), (r1, .inl (cyI, 24, .inl q1c)), (r2, .inl (cyI, 24, .inl q1d))]) ⟨hx, hb, hml, hown, hts⟩ (c_X5_weeksCanBe l dC dI cyI cyZ hkc ht ht1 ht2 hp htr hh as hs ak a0 a1 a2 ap hq r0 r1 r2 kp si fi kt n ea co ti an np sg ac1 rs mu al1 nr er cr tr ar (by omega) (by omega) _ _ hq1) (cwV 0 hts gX5_done_X5_weeksCanBe rfl rfl rfl (by decide +kernel) ⟨Nat.le_of_ble_eq_true rfl, Nat.le_of_ble_eq_true rfl⟩) hP hD hS hA hK hN [0, 1, 2, 3, 4, 5, 6, 7, 8, 9, 10, 11, 12, 13] [] [0, 1, 2, 3, 4, 5, 6, 7, 8, 9, 10, 11, 12, 13] rfl (by decide) rfl (by decide) (by decide) (by decide) rfl [0, 1] rfl 5 0 rfl rfl rfl rfl hl.1 rfl (Nat.le_of_ble_eq_true rfl) dX5_done_1 ⟨Nat.zero_le _, Nat.zero_le _⟩ (fun H locs hP hD hS => ?_)
  have hnw : q1e ≤ nr + (n + np) := fX5_weeksCanBe_n hq1
  refine lv_if_ne (tgt := 10) hx hb dX5_done_4 (by decide) (fun c4 => ?_) (fun c4 => ?_)
  · rw [if_neg c4] at hF
    refine lv_aload_n hx hb dX5_done_10 rfl (lv_at hl 0 rfl) ?_
    refine va_get (D := (dC, dI)) (ci := 5) (v := .ref ht) (C := RX5) (T := TX5) (N := 8) hx hb hts hiX5 hown hK hP 0 rfl rfl 0 (by decide) fl10 (fun _ h9 => h9) rfl dX5_done_11 ?_
    refine va_get (D := (dC, dI)) (ci := 3) (v := .ref hs) (C := RX3) (T := TX3) (N := 4) hx hb hts hiX3 hown hK hP 1 rfl rfl 0 (by decide) fl47 (fun _ h9 => h9) rfl dX5_done_14 ?_
    refine lv_aload_n hx hb dX5_done_17 rfl (lv_at hl 0 rfl) ?_
    refine va_get (D := (dC, dI)) (ci := 5) (v := .ref htr) (C := RX5) (T := TX5) (N := 8) hx hb hts hiX5 hown hK hP 0 rfl rfl 5 (by decide) fl32 (fun _ h9 => h9) rfl dX5_done_18 ?_
    refine va_get (D := (dC, dI)) (ci := 4) (v := .ref hq) (C := RX4) (T := TX4) (N := 5) hx hb hts hiX4 hown hK hP 9 rfl rfl 0 (by decide) fl109 (fun _ h9 => h9) rfl dX5_done_21 ?_
    generalize hq24 : fX2_copy co ti an q1e q1f q1b q1c q1d = q24 at hF
    obtain ⟨q24a, q24b, q24c, q24d, q24e⟩ := q24
    dsimp only at hF
    refine kx_wVv (As := [.ref hq]) (rest := []) (wr := [(hkc, .inr (5, [.ref ht, .ref ht1, .ref ht2, .int kp, .ref hp, .ref htr, .ref hh, .ref as])), (ht, .inr (3, [.ref hs, .ref ak, .int (nI si), .int fi])), (ak, .inl (cyI, 4, .inl kt)), (hp, .inr (1, [.ref ap, .int (nI np)])), (ap, .inl (cyI, 60, .inl sg)), (htr, .inr (4, [.ref hq, .int q1g, .int q1h, .int q1i, .int q1j]))]) (wc' := [(hs, .inr (2, [.ref a0, .ref a1, .ref a2, .int (nI q24d), .int q24e])), (a0, .inl (cyI, 24, .inl q24a)), (a1, .inl (cyI, 24, .inl q24b)), (a2, .inl (cyI, 24, .inl q24c)), (hq, .inr (2, [.ref r0, .ref r1, .ref r2, .int (nI q1e), .int q1f])), (r0, .inl (cyI, 24, .inl q1b)), (r1, .inl (cyI, 24, .inl q1c)), (r2, .inl (cyI, 24, .inl q1d))]) (W1 := [(hkc, .inr (5, [.ref ht, .ref ht1, .ref ht2, .int kp, .ref hp, .ref htr, .ref hh, .ref as])), (ht, .inr (3, [.ref hs, .ref ak, .int (nI si), .int fi])), (ak, .inl (cyI, 4, .inl kt)), (hs, .inr (2, [.ref a0, .ref a1, .ref a2, .int (nI q24d), .int q24e])), (a0, .inl (cyI, 24, .inl q24a)), (a1, .inl (cyI, 24, .inl q24b)), (a2, .inl (cyI, 24, .inl q24c)), (hp, .inr (1, [.ref ap, .int (nI np)])), (ap, .inl (cyI, 60, .inl sg)), (htr, .inr (4, [.ref hq, .int q1g, .int q1h, .int q1i, .int q1j])), (hq, .inr (2, [.ref r0, .ref r1, .ref r2, .int (nI q1e), .int q1f])), (r0, .inl (cyI, 24, .inl q1b)), (r1, .inl (cyI, 24, .inl q1c)), (r2, .inl (cyI, 24, .inl q1d))]) ⟨hx, hb, hml, hown, hts⟩ (c_X2_copy l dC dI cyI cyZ hs a0 a1 a2 hq r0 r1 r2 n ea co ti an q1e q1f q1b q1c q1d (by omega) _ _ hq24) (cwV 1 hts gX5_done_X2_copy rfl rfl rfl (by decide +kernel) ⟨Nat.le_of_ble_eq_true rfl, Nat.le_of_ble_eq_true rfl⟩) hP hD hS hA hK hN [3, 4, 5, 6, 10, 11, 12, 13] [0, 1, 2, 7, 8, 9] [0, 1, 2, 6, 7, 8, 9, 3, 4, 5, 10, 11, 12, 13] rfl (by decide) rfl (by decide) (by decide) (by decide) rfl [0, 1] rfl 2 3 rfl rfl rfl rfl hl.1 rfl (Nat.le_of_ble_eq_true rfl) dX5_done_24 ⟨Nat.zero_le _, Nat.zero_le _⟩ (fun H locs hP hD hS => ?_)
    refine lv_aload_n hx hb dX5_done_27 rfl (lv_at hl 0 rfl) ?_
    refine va_get (D := (dC, dI)) (ci := 5) (v := .ref hp) (C := RX5) (T := TX5) (N := 8) hx hb hts hiX5 hown hK hP 0 rfl rfl 4 (by decide) fl25 (fun _ h9 => h9) rfl dX5_done_28 ?_
    refine lv_iconst (v := (0 : Int32)) hx hb dX5_done_31 (by decide) ?_
    refine va_put (D := (dC, dI)) (ci := 1) (v := .int (0 : Int32)) (ty := .int) (C := RX1) (T := TX1) (N := 2) hx hb hts hiX1 tyX1 tyX1_ok nmX1 hown hK hP hD hS 7 rfl rfl 1 (by decide) fl87 (fun _ h9 => h9) rfl (by decide +kernel) rfl rfl (Nat.le_of_ble_eq_true rfl) dX5_done_32 (fun H locs hP hD hS => ?_)
    have hP : va_P (dC, dI) vwCl [(hkc, .inr (5, [.ref ht, .ref ht1, .ref ht2, .int kp, .ref hp, .ref htr, .ref hh, .ref as])), (ht, .inr (3, [.ref hs, .ref ak, .int (nI si), .int fi])), (ak, .inl (cyI, 4, .inl kt)), (hs, .inr (2, [.ref a0, .ref a1, .ref a2, .int (nI q24d), .int q24e])), (a0, .inl (cyI, 24, .inl q24a)), (a1, .inl (cyI, 24, .inl q24b)), (a2, .inl (cyI, 24, .inl q24c)), (hp, .inr (1, [.ref ap, .int (0 : Int32)])), (ap, .inl (cyI, 60, .inl sg)), (htr, .inr (4, [.ref hq, .int q1g, .int q1h, .int q1i, .int q1j])), (hq, .inr (2, [.ref r0, .ref r1, .ref r2, .int (nI q1e), .int q1f])), (r0, .inl (cyI, 24, .inl q1b)), (r1, .inl (cyI, 24, .inl q1c)), (r2, .inl (cyI, 24, .inl q1d))] H := hP
    have hD : va_D A [(hkc, .inr (5, [.ref ht, .ref ht1, .ref ht2, .int kp, .ref hp, .ref htr, .ref hh, .ref as])), (ht, .inr (3, [.ref hs, .ref ak, .int (nI si), .int fi])), (ak, .inl (cyI, 4, .inl kt)), (hs, .inr (2, [.ref a0, .ref a1, .ref a2, .int (nI q24d), .int q24e])), (a0, .inl (cyI, 24, .inl q24a)), (a1, .inl (cyI, 24, .inl q24b)), (a2, .inl (cyI, 24, .inl q24c)), (hp, .inr (1, [.ref ap, .int (0 : Int32)])), (ap, .inl (cyI, 60, .inl sg)), (htr, .inr (4, [.ref hq, .int q1g, .int q1h, .int q1i, .int q1j])), (hq, .inr (2, [.ref r0, .ref r1, .ref r2, .int (nI q1e), .int q1f])), (r0, .inl (cyI, 24, .inl q1b)), (r1, .inl (cyI, 24, .inl q1c)), (r2, .inl (cyI, 24, .inl q1d))] := hD
    refine lv_aload_n hx hb dX5_done_35 rfl (lv_at hl 0 rfl) ?_
    refine va_get (D := (dC, dI)) (ci := 5) (v := .ref htr) (C := RX5) (T := TX5) (N := 8) hx hb hts hiX5 hown hK hP 0 rfl rfl 5 (by decide) fl32 (fun _ h9 => h9) rfl dX5_done_36 ?_
    refine va_get (D := (dC, dI)) (ci := 4) (v := .int q1g) (C := RX4) (T := TX4) (N := 5) hx hb hts hiX4 hown hK hP 9 rfl rfl 1 (by decide) fl100 (fun _ h9 => h9) rfl dX5_done_39 ?_
    subst hF
    subst hAe
    exact W.iret hx hb hr (fun t ht _ => ⟨⟨_, (), rfl, rfl, by rw [ht]; exact hP, hD⟩, hS.F ht⟩) hS.2.2 dX5_done_42
  · rw [if_pos c4] at hF
    refine lv_bipush (v := (-5 : Int32)) hx hb dX5_done_7 (by decide) ?_
    subst hF
    subst hAe
    exact W.iret hx hb hr (fun t ht _ => ⟨⟨_, (), rfl, rfl, by rw [ht]; exact hP, hD⟩, hS.F ht⟩) hS.2.2 dX5_done_9

def fX5_behind (kt : Nat → Int32) (n : Nat) (ea : Int32) (co : Nat → Int32) (ti : Nat → Int32) (an : Nat → Int32) (np : Nat) (sg : Nat → Int32) (ac1 : Int32) (rs : Int32) (mu : Int32) (al1 : Int32) (nr : Nat) (er : Int32) (cr : Nat → Int32) (tr : Nat → Int32) (ar : Nat → Int32) (wh : Int32) : Int32 × (Nat → Int32) × (Nat → Int32) × (Nat → Int32) × Nat × Int32 × Int32 × Int32 × Int32 × Int32 :=
  (if (fX5_isBelow wh (4 : Int32)) = 0 then ((-2 : Int32), cr, tr, ar, nr, er, ac1, rs, mu, al1) else (match fX5_weeksCanBe kt n ea co ti an np sg ac1 rs mu al1 nr er cr tr ar with | (q12a, q12b, q12c, q12d, q12e, q12f, q12g, q12h, q12i, q12j) => (if q12a = 0 then ((-5 : Int32), q12b, q12c, q12d, q12e, q12f, q12g, q12h, q12i, q12j) else (if wh = (0 : Int32) then ((nI q12e), q12b, q12c, q12d, q12e, q12f, q12g, q12h, q12i, q12j) else (if wh = (1 : Int32) then (q12f, q12b, q12c, q12d, q12e, q12f, q12g, q12h, q12i, q12j) else (if wh = (2 : Int32) then ((fX2_looseOnes q12e q12f q12d), q12b, q12c, q12d, q12e, q12f, q12g, q12h, q12i, q12j) else (q12i, q12b, q12c, q12d, q12e, q12f, q12g, q12h, q12i, q12j)))))))
set_option maxHeartbeats 4000000 in
set_option maxRecDepth 100000 in
theorem c_X5_behind (l : Launch) (dC : Nat → ClassId) (dI : Nat → Nat → Nat) (cyI cyZ : ClassId) (hkc ht ht1 ht2 hp htr hh as hs ak a0 a1 a2 ap hq r0 r1 r2 : Nat) (kp : Int32) (si : Nat) (fi : Int32) (kt : Nat → Int32) (n : Nat) (ea : Int32) (co : Nat → Int32) (ti : Nat → Int32) (an : Nat → Int32) (np : Nat) (sg : Nat → Int32) (ac1 : Int32) (rs : Int32) (mu : Int32) (al1 : Int32) (nr : Nat) (er : Int32) (cr : Nat → Int32) (tr : Nat → Int32) (ar : Nat → Int32) (wh : Int32) (hn : n ≤ 24) (hnp : np ≤ 60) (hnr : nr ≤ 500) (sz : Nat) (r : Int32 × (Nat → Int32) × (Nat → Int32) × (Nat → Int32) × Nat × Int32 × Int32 × Int32 × Int32 × Int32) (hF : fX5_behind kt n ea co ti an np sg ac1 rs mu al1 nr er cr tr ar wh = r) : Met l yX5_behind wsX5_behind ({ frames := 6, cells := 0, slots := 0, locals := 138 }) (kx_wp (dC, dI) [(hkc, .inr (5, [.ref ht, .ref ht1, .ref ht2, .int kp, .ref hp, .ref htr, .ref hh, .ref as])), (ht, .inr (3, [.ref hs, .ref ak, .int (nI si), .int fi])), (ak, .inl (cyI, 4, .inl kt)), (hs, .inr (2, [.ref a0, .ref a1, .ref a2, .int (nI n), .int ea])), (a0, .inl (cyI, 24, .inl co)), (a1, .inl (cyI, 24, .inl ti)), (a2, .inl (cyI, 24, .inl an)), (hp, .inr (1, [.ref ap, .int (nI np)])), (ap, .inl (cyI, 60, .inl sg)), (htr, .inr (4, [.ref hq, .int ac1, .int rs, .int mu, .int al1])), (hq, .inr (2, [.ref r0, .ref r1, .ref r2, .int (nI nr), .int er])), (r0, .inl (cyI, 24, .inl cr)), (r1, .inl (cyI, 24, .inl tr)), (r2, .inl (cyI, 24, .inl ar))] [(cyI, .int), (cyZ, .boolean)] sz [.ref hkc, .int wh]) (kx_Qi r.1 (dC, dI) [(hkc, .inr (5, [.ref ht, .ref ht1, .ref ht2, .int kp, .ref hp, .ref htr, .ref hh, .ref as])), (ht, .inr (3, [.ref hs, .ref ak, .int (nI si), .int fi])), (ak, .inl (cyI, 4, .inl kt)), (hs, .inr (2, [.ref a0, .ref a1, .ref a2, .int (nI n), .int ea])), (a0, .inl (cyI, 24, .inl co)), (a1, .inl (cyI, 24, .inl ti)), (a2, .inl (cyI, 24, .inl an)), (hp, .inr (1, [.ref ap, .int (nI np)])), (ap, .inl (cyI, 60, .inl sg)), (htr, .inr (4, [.ref hq, .int ac1, .int rs, .int mu, .int al1])), (hq, .inr (2, [.ref r0, .ref r1, .ref r2, .int (nI nr), .int er])), (r0, .inl (cyI, 24, .inl cr)), (r1, .inl (cyI, 24, .inl tr)), (r2, .inl (cyI, 24, .inl ar))] [(hkc, .inr (5, [.ref ht, .ref ht1, .ref ht2, .int kp, .ref hp, .ref htr, .ref hh, .ref as])), (ht, .inr (3, [.ref hs, .ref ak, .int (nI si), .int fi])), (ak, .inl (cyI, 4, .inl kt)), (hs, .inr (2, [.ref a0, .ref a1, .ref a2, .int (nI n), .int ea])), (a0, .inl (cyI, 24, .inl co)), (a1, .inl (cyI, 24, .inl ti)), (a2, .inl (cyI, 24, .inl an)), (hp, .inr (1, [.ref ap, .int (nI np)])), (ap, .inl (cyI, 60, .inl sg)), (htr, .inr (4, [.ref hq, .int r.2.2.2.2.2.2.1, .int r.2.2.2.2.2.2.2.1, .int r.2.2.2.2.2.2.2.2.1, .int r.2.2.2.2.2.2.2.2.2])), (hq, .inr (2, [.ref r0, .ref r1, .ref r2, .int (nI (r.2.2.2.2.1)), .int r.2.2.2.2.2.1])), (r0, .inl (cyI, 24, .inl r.2.1)), (r1, .inl (cyI, 24, .inl r.2.2.1)), (r2, .inl (cyI, 24, .inl r.2.2.2.1))] sz) 0 0 (va_A [(hkc, .inr (5, [.ref ht, .ref ht1, .ref ht2, .int kp, .ref hp, .ref htr, .ref hh, .ref as])), (ht, .inr (3, [.ref hs, .ref ak, .int (nI si), .int fi])), (ak, .inl (cyI, 4, .inl kt)), (hs, .inr (2, [.ref a0, .ref a1, .ref a2, .int (nI n), .int ea])), (a0, .inl (cyI, 24, .inl co)), (a1, .inl (cyI, 24, .inl ti)), (a2, .inl (cyI, 24, .inl an)), (hp, .inr (1, [.ref ap, .int (nI np)])), (ap, .inl (cyI, 60, .inl sg)), (htr, .inr (4, [.ref hq, .int ac1, .int rs, .int mu, .int al1])), (hq, .inr (2, [.ref r0, .ref r1, .ref r2, .int (nI nr), .int er])), (r0, .inl (cyI, 24, .inl cr)), (r1, .inl (cyI, 24, .inl tr)), (r2, .inl (cyI, 24, .inl ar))] sz) := by
  refine Met.ofW (cc := cX5_behind) (maxL := 2) (ret := (some .int)) (by decide) rfl ?_
  intro p e s m args below meth c s₁ B hml hv
  obtain ⟨rfl, hsz, hP, hK, hN, hD0⟩ := hv
  have hx := B.exec
  have hb := B.bytes
  have hr := B.returns
  have hts := atoms_spec (ws := wsX5_behind) B.pre
  have hown : s.vm.findClass RX5 = some m.cls := findClass_of_methodNamed B.named
  have hlocks := B.notSynchronized
  subst hsz
  obtain ⟨A, hAe⟩ : ∃ A, A = va_A [(hkc, .inr (5, [.ref ht, .ref ht1, .ref ht2, .int kp, .ref hp, .ref htr, .ref hh, .ref as])), (ht, .inr (3, [.ref hs, .ref ak, .int (nI si), .int fi])), (ak, .inl (cyI, 4, .inl kt)), (hs, .inr (2, [.ref a0, .ref a1, .ref a2, .int (nI n), .int ea])), (a0, .inl (cyI, 24, .inl co)), (a1, .inl (cyI, 24, .inl ti)), (a2, .inl (cyI, 24, .inl an)), (hp, .inr (1, [.ref ap, .int (nI np)])), (ap, .inl (cyI, 60, .inl sg)), (htr, .inr (4, [.ref hq, .int ac1, .int rs, .int mu, .int al1])), (hq, .inr (2, [.ref r0, .ref r1, .ref r2, .int (nI nr), .int er])), (r0, .inl (cyI, 24, .inl cr)), (r1, .inl (cyI, 24, .inl tr)), (r2, .inl (cyI, 24, .inl ar))] s.heap.size := ⟨_, rfl⟩
  have hD : va_D A [(hkc, .inr (5, [.ref ht, .ref ht1, .ref ht2, .int kp, .ref hp, .ref htr, .ref hh, .ref as])), (ht, .inr (3, [.ref hs, .ref ak, .int (nI si), .int fi])), (ak, .inl (cyI, 4, .inl kt)), (hs, .inr (2, [.ref a0, .ref a1, .ref a2, .int (nI n), .int ea])), (a0, .inl (cyI, 24, .inl co)), (a1, .inl (cyI, 24, .inl ti)), (a2, .inl (cyI, 24, .inl an)), (hp, .inr (1, [.ref ap, .int (nI np)])), (ap, .inl (cyI, 60, .inl sg)), (htr, .inr (4, [.ref hq, .int ac1, .int rs, .int mu, .int al1])), (hq, .inr (2, [.ref r0, .ref r1, .ref r2, .int (nI nr), .int er])), (r0, .inl (cyI, 24, .inl cr)), (r1, .inl (cyI, 24, .inl tr)), (r2, .inl (cyI, 24, .inl ar))] := by rw [hAe]; exact hD0.self
  have hA : ∀ q : Nat, s.heap.size ≤ q → A q := fun q h => by rw [hAe]; exact Or.inr h
  have hS : va_S A s.heap s.heap [] := va_S.rf
  have hiX2 : ∀ w ∈ wsX20, w ∈ wsX5_behind := by decide +kernel
  have hiX4 : ∀ w ∈ wsX40, w ∈ wsX5_behind := by decide +kernel
  have hiX5 : ∀ w ∈ wsX50, w ∈ wsX5_behind := by decide +kernel
  have fl32 := hts (.fieldLink RX5 32 "KnitChronicle" "trial" "LKnitChronicle$Trial;") (by decide +kernel)
  have fl69 := hts (.fieldLink RX5 69 "KnitChronicle$Scarf" "size" "I") (by decide +kernel)
  have fl109 := hts (.fieldLink RX5 109 "KnitChronicle$Trial" "scarf" "LKnitChronicle$Scarf;") (by decide +kernel)
  have fl114 := hts (.fieldLink RX5 114 "KnitChronicle$Scarf" "eaten" "I") (by decide +kernel)
  have fl120 := hts (.fieldLink RX5 120 "KnitChronicle$Trial" "mostUndone" "I") (by decide +kernel)
  have hl := lv_entry ([.ref hkc, .int wh]) (n := 2) (Nat.le_of_ble_eq_true rfl)
  rw [lg_entry_eq]
  generalize (lg_sl ([.ref hkc, .int wh]) ++ List.replicate (2 - (lg_sl ([.ref hkc, .int wh])).length) Slot.unset).toArray = ls at hl ⊢
  have hl : lv_has ls 2 [(0, .ref hkc), (1, .int wh)] := hl
  unfold fX5_behind at hF
  refine lv_iload_n hx hb dX5_behind_0 rfl (lv_at hl 1 rfl) ?_
  refine lv_iconst (v := (4 : Int32)) hx hb dX5_behind_1 (by decide) ?_
  refine kx_cS (As := [.int wh, .int (4 : Int32)]) (rest := []) ⟨hx, hb, hml, hown, hts⟩ (c_X5_isBelow l dC dI cyI cyZ  wh (4 : Int32)  _ rfl) (va_cwS 2 hts gX5_behind_X5_isBelow rfl rfl rfl (by decide +kernel) ⟨Nat.le_of_ble_eq_true rfl, Nat.le_of_ble_eq_true rfl⟩) hP hK hN [] rfl [0, 1] rfl rfl hl.1 rfl (Nat.le_of_ble_eq_true rfl) dX5_behind_2 ⟨Nat.zero_le _, Nat.zero_le _⟩ ?_
  refine lv_if_ne (tgt := 11) hx hb dX5_behind_5 (by decide) (fun c5 => ?_) (fun c5 => ?_)
  · rw [if_neg c5] at hF
    refine lv_aload_n hx hb dX5_behind_11 rfl (lv_at hl 0 rfl) ?_
    generalize hq12 : fX5_weeksCanBe kt n ea co ti an np sg ac1 rs mu al1 nr er cr tr ar = q12 at hF
    obtain ⟨q12a, q12b, q12c, q12d, q12e, q12f, q12g, q12h, q12i, q12j⟩ := q12
    dsimp only at hF
    refine kx_wVi (As := []) (rest := []) (wr := []) (wc' := [(hkc, .inr (5, [.ref ht, .ref ht1, .ref ht2, .int kp, .ref hp, .ref htr, .ref hh, .ref as])), (ht, .inr (3, [.ref hs, .ref ak, .int (nI si), .int fi])), (ak, .inl (cyI, 4, .inl kt)), (hs, .inr (2, [.ref a0, .ref a1, .ref a2, .int (nI n), .int ea])), (a0, .inl (cyI, 24, .inl co)), (a1, .inl (cyI, 24, .inl ti)), (a2, .inl (cyI, 24, .inl an)), (hp, .inr (1, [.ref ap, .int (nI np)])), (ap, .inl (cyI, 60, .inl sg)), (htr, .inr (4, [.ref hq, .int q12g, .int q12h, .int q12i, .int q12j])), (hq, .inr (2, [.ref r0, .ref r1, .ref r2, .int (nI q12e), .int q12f])), (r0, .inl (cyI, 24, .inl q12b)), (r1, .inl (cyI, 24, .inl q12c)), (r2, .inl (cyI, 24, .inl q12d))]) (W1 := [(hkc, .inr (5, [.ref ht, .ref ht1, .ref ht2, .int kp, .ref hp, .ref htr, .ref hh, .ref as])), (ht, .inr (3, [.ref hs, .ref ak, .int (nI si), .int fi])), (ak, .inl (cyI, 4, .inl kt)), (hs, .inr (2, [.ref a0, .ref a1, .ref a2, .int (nI n), .int ea])), (a0, .inl (cyI, 24, .inl co)), (a1, .inl (cyI, 24, .inl ti)), (a2, .inl (cyI, 24, .inl an)), (hp, .inr (1, [.ref ap, .int (nI np)])), (ap, .inl (cyI, 60, .inl sg)), (htr, .inr (4, [.ref hq, .int q12g, .int q12h, .int q12i, .int q12j])), (hq, .inr (2, [.ref r0, .ref r1, .ref r2, .int (nI q12e), .int q12f])), (r0, .inl (cyI, 24, .inl q12b)), (r1, .inl (cyI, 24, .inl q12c)), (r2, .inl (cyI, 24, .inl q12d))]) ⟨hx, hb, hml, hown, hts⟩ (c_X5_weeksCanBe l dC dI cyI cyZ hkc ht ht1 ht2 hp htr hh as hs ak a0 a1 a2 ap hq r0 r1 r2 kp si fi kt n ea co ti an np sg ac1 rs mu al1 nr er cr tr ar (by omega) (by omega) _ _ hq12) (cwV 0 hts gX5_behind_X5_weeksCanBe rfl rfl rfl (by decide +kernel) ⟨Nat.le_of_ble_eq_true rfl, Nat.le_of_ble_eq_true rfl⟩) hP hD hS hA hK hN [0, 1, 2, 3, 4, 5, 6, 7, 8, 9, 10, 11, 12, 13] [] [0, 1, 2, 3, 4, 5, 6, 7, 8, 9, 10, 11, 12, 13] rfl (by decide) rfl (by decide) (by decide) (by decide) rfl [0, 1] rfl 5 0 rfl rfl rfl rfl hl.1 rfl (Nat.le_of_ble_eq_true rfl) dX5_behind_12 ⟨Nat.zero_le _, Nat.zero_le _⟩ (fun H locs hP hD hS => ?_)
    have hnw : q12e ≤ nr + (n + np) := fX5_weeksCanBe_n hq12
    refine lv_if_ne (tgt := 21) hx hb dX5_behind_15 (by decide) (fun c15 => ?_) (fun c15 => ?_)
    · rw [if_neg c15] at hF
      refine lv_iload_n hx hb dX5_behind_21 rfl (lv_at hl 1 rfl) ?_
      by_cases c22_0 : wh = (0 : Int32)
      · rw [if_pos c22_0] at hF
        refine lv_tableIn (tgt := 48) (off := 26) hx hb dX5_behind_22 (by rw [c22_0]; decide) (by rw [c22_0]; decide) (by rw [c22_0]; rfl) (by decide) ?_
        refine lv_aload_n hx hb dX5_behind_48 rfl (lv_at hl 0 rfl) ?_
        refine va_get (D := (dC, dI)) (ci := 5) (v := .ref htr) (C := RX5) (T := TX5) (N := 8) hx hb hts hiX5 hown hK hP 0 rfl rfl 5 (by decide) fl32 (fun _ h9 => h9) rfl dX5_behind_49 ?_
        refine va_get (D := (dC, dI)) (ci := 4) (v := .ref hq) (C := RX4) (T := TX4) (N := 5) hx hb hts hiX4 hown hK hP 9 rfl rfl 0 (by decide) fl109 (fun _ h9 => h9) rfl dX5_behind_52 ?_
        refine va_get (D := (dC, dI)) (ci := 2) (v := .int (nI q12e)) (C := RX2) (T := TX2) (N := 5) hx hb hts hiX2 hown hK hP 10 rfl rfl 3 (by decide) fl69 (fun _ h9 => h9) rfl dX5_behind_55 ?_
        subst hF
        subst hAe
        exact W.iret hx hb hr (fun t ht _ => ⟨⟨_, (), rfl, rfl, by rw [ht]; exact hP, hD⟩, hS.F ht⟩) hS.2.2 dX5_behind_58
      · rw [if_neg c22_0] at hF
        by_cases c22_1 : wh = (1 : Int32)
        · rw [if_pos c22_1] at hF
          refine lv_tableIn (tgt := 59) (off := 37) hx hb dX5_behind_22 (by rw [c22_1]; decide) (by rw [c22_1]; decide) (by rw [c22_1]; rfl) (by decide) ?_
          refine lv_aload_n hx hb dX5_behind_59 rfl (lv_at hl 0 rfl) ?_
          refine va_get (D := (dC, dI)) (ci := 5) (v := .ref htr) (C := RX5) (T := TX5) (N := 8) hx hb hts hiX5 hown hK hP 0 rfl rfl 5 (by decide) fl32 (fun _ h9 => h9) rfl dX5_behind_60 ?_
          refine va_get (D := (dC, dI)) (ci := 4) (v := .ref hq) (C := RX4) (T := TX4) (N := 5) hx hb hts hiX4 hown hK hP 9 rfl rfl 0 (by decide) fl109 (fun _ h9 => h9) rfl dX5_behind_63 ?_
          refine va_get (D := (dC, dI)) (ci := 2) (v := .int q12f) (C := RX2) (T := TX2) (N := 5) hx hb hts hiX2 hown hK hP 10 rfl rfl 4 (by decide) fl114 (fun _ h9 => h9) rfl dX5_behind_66 ?_
          subst hF
          subst hAe
          exact W.iret hx hb hr (fun t ht _ => ⟨⟨_, (), rfl, rfl, by rw [ht]; exact hP, hD⟩, hS.F ht⟩) hS.2.2 dX5_behind_69
        · rw [if_neg c22_1] at hF
          by_cases c22_2 : wh = (2 : Int32)
          · rw [if_pos c22_2] at hF
            refine lv_tableIn (tgt := 70) (off := 48) hx hb dX5_behind_22 (by rw [c22_2]; decide) (by rw [c22_2]; decide) (by rw [c22_2]; rfl) (by decide) ?_
            refine lv_aload_n hx hb dX5_behind_70 rfl (lv_at hl 0 rfl) ?_
            refine va_get (D := (dC, dI)) (ci := 5) (v := .ref htr) (C := RX5) (T := TX5) (N := 8) hx hb hts hiX5 hown hK hP 0 rfl rfl 5 (by decide) fl32 (fun _ h9 => h9) rfl dX5_behind_71 ?_
            refine va_get (D := (dC, dI)) (ci := 4) (v := .ref hq) (C := RX4) (T := TX4) (N := 5) hx hb hts hiX4 hown hK hP 9 rfl rfl 0 (by decide) fl109 (fun _ h9 => h9) rfl dX5_behind_74 ?_
            refine kx_cV (As := []) (rest := []) ⟨hx, hb, hml, hown, hts⟩ (c_X2_looseOnes l dC dI cyI cyZ hq r0 r1 r2 q12e q12f q12b q12c q12d (by omega) _ rfl) (cwV 0 hts gX5_behind_X2_looseOnes rfl rfl rfl (by decide +kernel) ⟨Nat.le_of_ble_eq_true rfl, Nat.le_of_ble_eq_true rfl⟩) hP hK hN [10, 11, 12, 13] rfl [0, 1] rfl 2 10 rfl rfl rfl rfl hl.1 rfl (Nat.le_of_ble_eq_true rfl) dX5_behind_77 ⟨Nat.zero_le _, Nat.zero_le _⟩ ?_
            subst hF
            subst hAe
            exact W.iret hx hb hr (fun t ht _ => ⟨⟨_, (), rfl, rfl, by rw [ht]; exact hP, hD⟩, hS.F ht⟩) hS.2.2 dX5_behind_80
          · rw [if_neg c22_2] at hF
            refine lv_tableOut (tgt := 81) hx hb dX5_behind_22 (by have q0 := lv_neT (k := (0 : Int32)) (a := 0) c22_0 rfl; have q1 := lv_neT (k := (1 : Int32)) (a := 1) c22_1 rfl; have q2 := lv_neT (k := (2 : Int32)) (a := 2) c22_2 rfl; omega) (by decide) ?_
            refine lv_aload_n hx hb dX5_behind_81 rfl (lv_at hl 0 rfl) ?_
            refine va_get (D := (dC, dI)) (ci := 5) (v := .ref htr) (C := RX5) (T := TX5) (N := 8) hx hb hts hiX5 hown hK hP 0 rfl rfl 5 (by decide) fl32 (fun _ h9 => h9) rfl dX5_behind_82 ?_
            refine va_get (D := (dC, dI)) (ci := 4) (v := .int q12i) (C := RX4) (T := TX4) (N := 5) hx hb hts hiX4 hown hK hP 9 rfl rfl 3 (by decide) fl120 (fun _ h9 => h9) rfl dX5_behind_85 ?_
            subst hF
            subst hAe
            exact W.iret hx hb hr (fun t ht _ => ⟨⟨_, (), rfl, rfl, by rw [ht]; exact hP, hD⟩, hS.F ht⟩) hS.2.2 dX5_behind_88
    · rw [if_pos c15] at hF
      refine lv_bipush (v := (-5 : Int32)) hx hb dX5_behind_18 (by decide) ?_
      subst hF
      subst hAe
      exact W.iret hx hb hr (fun t ht _ => ⟨⟨_, (), rfl, rfl, by rw [ht]; exact hP, hD⟩, hS.F ht⟩) hS.2.2 dX5_behind_20
  · rw [if_pos c5] at hF
    refine lv_bipush (v := (-2 : Int32)) hx hb dX5_behind_8 (by decide) ?_
    subst hF
    subst hAe
    exact W.iret hx hb hr (fun t ht _ => ⟨⟨_, (), rfl, rfl, by rw [ht]; exact hP, hD⟩, hS.F ht⟩) hS.2.2 dX5_behind_10

def fX5_of (kt : Nat → Int32) (n : Nat) (ea : Int32) (co : Nat → Int32) (ti : Nat → Int32) (an : Nat → Int32) (np : Nat) (sg : Nat → Int32) (ac1 : Int32) (rs : Int32) (mu : Int32) (al1 : Int32) (nr : Nat) (er : Int32) (cr : Nat → Int32) (tr : Nat → Int32) (ar : Nat → Int32) (k : Int32) (wh : Int32) : Int32 × (Nat → Int32) × (Nat → Int32) × (Nat → Int32) × Nat × Int32 × Int32 × Int32 × Int32 × Int32 :=
  (if (fX5_isBelow wh (3 : Int32)) = 0 then ((-2 : Int32), cr, tr, ar, nr, er, ac1, rs, mu, al1) else (match fX5_weeksCanBe kt n ea co ti an np sg ac1 rs mu al1 nr er cr tr ar with | (q12a, q12b, q12c, q12d, q12e, q12f, q12g, q12h, q12i, q12j) => (if q12a = 0 then ((-5 : Int32), q12b, q12c, q12d, q12e, q12f, q12g, q12h, q12i, q12j) else (if (fX2_has q12e k) = 0 then ((-1 : Int32), q12b, q12c, q12d, q12e, q12f, q12g, q12h, q12i, q12j) else ((fX2_trait q12b q12c q12d k wh), q12b, q12c, q12d, q12e, q12f, q12g, q12h, q12i, q12j)))))
set_option maxHeartbeats 4000000 in
set_option maxRecDepth 100000 in
theorem c_X5_of (l : Launch) (dC : Nat → ClassId) (dI : Nat → Nat → Nat) (cyI cyZ : ClassId) (hkc ht ht1 ht2 hp htr hh as hs ak a0 a1 a2 ap hq r0 r1 r2 : Nat) (kp : Int32) (si : Nat) (fi : Int32) (kt : Nat → Int32) (n : Nat) (ea : Int32) (co : Nat → Int32) (ti : Nat → Int32) (an : Nat → Int32) (np : Nat) (sg : Nat → Int32) (ac1 : Int32) (rs : Int32) (mu : Int32) (al1 : Int32) (nr : Nat) (er : Int32) (cr : Nat → Int32) (tr : Nat → Int32) (ar : Nat → Int32) (k : Int32) (wh : Int32) (hn : n ≤ 24) (hnp : np ≤ 60) (sz : Nat) (r : Int32 × (Nat → Int32) × (Nat → Int32) × (Nat → Int32) × Nat × Int32 × Int32 × Int32 × Int32 × Int32) (hF : fX5_of kt n ea co ti an np sg ac1 rs mu al1 nr er cr tr ar k wh = r) : Met l yX5_of wsX5_of ({ frames := 6, cells := 0, slots := 0, locals := 138 }) (kx_wp (dC, dI) [(hkc, .inr (5, [.ref ht, .ref ht1, .ref ht2, .int kp, .ref hp, .ref htr, .ref hh, .ref as])), (ht, .inr (3, [.ref hs, .ref ak, .int (nI si), .int fi])), (ak, .inl (cyI, 4, .inl kt)), (hs, .inr (2, [.ref a0, .ref a1, .ref a2, .int (nI n), .int ea])), (a0, .inl (cyI, 24, .inl co)), (a1, .inl (cyI, 24, .inl ti)), (a2, .inl (cyI, 24, .inl an)), (hp, .inr (1, [.ref ap, .int (nI np)])), (ap, .inl (cyI, 60, .inl sg)), (htr, .inr (4, [.ref hq, .int ac1, .int rs, .int mu, .int al1])), (hq, .inr (2, [.ref r0, .ref r1, .ref r2, .int (nI nr), .int er])), (r0, .inl (cyI, 24, .inl cr)), (r1, .inl (cyI, 24, .inl tr)), (r2, .inl (cyI, 24, .inl ar))] [(cyI, .int), (cyZ, .boolean)] sz [.ref hkc, .int k, .int wh]) (kx_Qi r.1 (dC, dI) [(hkc, .inr (5, [.ref ht, .ref ht1, .ref ht2, .int kp, .ref hp, .ref htr, .ref hh, .ref as])), (ht, .inr (3, [.ref hs, .ref ak, .int (nI si), .int fi])), (ak, .inl (cyI, 4, .inl kt)), (hs, .inr (2, [.ref a0, .ref a1, .ref a2, .int (nI n), .int ea])), (a0, .inl (cyI, 24, .inl co)), (a1, .inl (cyI, 24, .inl ti)), (a2, .inl (cyI, 24, .inl an)), (hp, .inr (1, [.ref ap, .int (nI np)])), (ap, .inl (cyI, 60, .inl sg)), (htr, .inr (4, [.ref hq, .int ac1, .int rs, .int mu, .int al1])), (hq, .inr (2, [.ref r0, .ref r1, .ref r2, .int (nI nr), .int er])), (r0, .inl (cyI, 24, .inl cr)), (r1, .inl (cyI, 24, .inl tr)), (r2, .inl (cyI, 24, .inl ar))] [(hkc, .inr (5, [.ref ht, .ref ht1, .ref ht2, .int kp, .ref hp, .ref htr, .ref hh, .ref as])), (ht, .inr (3, [.ref hs, .ref ak, .int (nI si), .int fi])), (ak, .inl (cyI, 4, .inl kt)), (hs, .inr (2, [.ref a0, .ref a1, .ref a2, .int (nI n), .int ea])), (a0, .inl (cyI, 24, .inl co)), (a1, .inl (cyI, 24, .inl ti)), (a2, .inl (cyI, 24, .inl an)), (hp, .inr (1, [.ref ap, .int (nI np)])), (ap, .inl (cyI, 60, .inl sg)), (htr, .inr (4, [.ref hq, .int r.2.2.2.2.2.2.1, .int r.2.2.2.2.2.2.2.1, .int r.2.2.2.2.2.2.2.2.1, .int r.2.2.2.2.2.2.2.2.2])), (hq, .inr (2, [.ref r0, .ref r1, .ref r2, .int (nI (r.2.2.2.2.1)), .int r.2.2.2.2.2.1])), (r0, .inl (cyI, 24, .inl r.2.1)), (r1, .inl (cyI, 24, .inl r.2.2.1)), (r2, .inl (cyI, 24, .inl r.2.2.2.1))] sz) 0 0 (va_A [(hkc, .inr (5, [.ref ht, .ref ht1, .ref ht2, .int kp, .ref hp, .ref htr, .ref hh, .ref as])), (ht, .inr (3, [.ref hs, .ref ak, .int (nI si), .int fi])), (ak, .inl (cyI, 4, .inl kt)), (hs, .inr (2, [.ref a0, .ref a1, .ref a2, .int (nI n), .int ea])), (a0, .inl (cyI, 24, .inl co)), (a1, .inl (cyI, 24, .inl ti)), (a2, .inl (cyI, 24, .inl an)), (hp, .inr (1, [.ref ap, .int (nI np)])), (ap, .inl (cyI, 60, .inl sg)), (htr, .inr (4, [.ref hq, .int ac1, .int rs, .int mu, .int al1])), (hq, .inr (2, [.ref r0, .ref r1, .ref r2, .int (nI nr), .int er])), (r0, .inl (cyI, 24, .inl cr)), (r1, .inl (cyI, 24, .inl tr)), (r2, .inl (cyI, 24, .inl ar))] sz) := by
  refine Met.ofW (cc := cX5_of) (maxL := 3) (ret := (some .int)) (by decide) rfl ?_
  intro p e s m args below meth c s₁ B hml hv
  obtain ⟨rfl, hsz, hP, hK, hN, hD0⟩ := hv
  have hx := B.exec
  have hb := B.bytes
  have hr := B.returns
  have hts := atoms_spec (ws := wsX5_of) B.pre
  have hown : s.vm.findClass RX5 = some m.cls := findClass_of_methodNamed B.named
  have hlocks := B.notSynchronized
  subst hsz
  obtain ⟨A, hAe⟩ : ∃ A, A = va_A [(hkc, .inr (5, [.ref ht, .ref ht1, .ref ht2, .int kp, .ref hp, .ref htr, .ref hh, .ref as])), (ht, .inr (3, [.ref hs, .ref ak, .int (nI si), .int fi])), (ak, .inl (cyI, 4, .inl kt)), (hs, .inr (2, [.ref a0, .ref a1, .ref a2, .int (nI n), .int ea])), (a0, .inl (cyI, 24, .inl co)), (a1, .inl (cyI, 24, .inl ti)), (a2, .inl (cyI, 24, .inl an)), (hp, .inr (1, [.ref ap, .int (nI np)])), (ap, .inl (cyI, 60, .inl sg)), (htr, .inr (4, [.ref hq, .int ac1, .int rs, .int mu, .int al1])), (hq, .inr (2, [.ref r0, .ref r1, .ref r2, .int (nI nr), .int er])), (r0, .inl (cyI, 24, .inl cr)), (r1, .inl (cyI, 24, .inl tr)), (r2, .inl (cyI, 24, .inl ar))] s.heap.size := ⟨_, rfl⟩
  have hD : va_D A [(hkc, .inr (5, [.ref ht, .ref ht1, .ref ht2, .int kp, .ref hp, .ref htr, .ref hh, .ref as])), (ht, .inr (3, [.ref hs, .ref ak, .int (nI si), .int fi])), (ak, .inl (cyI, 4, .inl kt)), (hs, .inr (2, [.ref a0, .ref a1, .ref a2, .int (nI n), .int ea])), (a0, .inl (cyI, 24, .inl co)), (a1, .inl (cyI, 24, .inl ti)), (a2, .inl (cyI, 24, .inl an)), (hp, .inr (1, [.ref ap, .int (nI np)])), (ap, .inl (cyI, 60, .inl sg)), (htr, .inr (4, [.ref hq, .int ac1, .int rs, .int mu, .int al1])), (hq, .inr (2, [.ref r0, .ref r1, .ref r2, .int (nI nr), .int er])), (r0, .inl (cyI, 24, .inl cr)), (r1, .inl (cyI, 24, .inl tr)), (r2, .inl (cyI, 24, .inl ar))] := by rw [hAe]; exact hD0.self
  have hA : ∀ q : Nat, s.heap.size ≤ q → A q := fun q h => by rw [hAe]; exact Or.inr h
  have hS : va_S A s.heap s.heap [] := va_S.rf
  have hiX4 : ∀ w ∈ wsX40, w ∈ wsX5_of := by decide +kernel
  have hiX5 : ∀ w ∈ wsX50, w ∈ wsX5_of := by decide +kernel
  have fl32 := hts (.fieldLink RX5 32 "KnitChronicle" "trial" "LKnitChronicle$Trial;") (by decide +kernel)
  have fl109 := hts (.fieldLink RX5 109 "KnitChronicle$Trial" "scarf" "LKnitChronicle$Scarf;") (by decide +kernel)
  have hl := lv_entry ([.ref hkc, .int k, .int wh]) (n := 3) (Nat.le_of_ble_eq_true rfl)
  rw [lg_entry_eq]
  generalize (lg_sl ([.ref hkc, .int k, .int wh]) ++ List.replicate (3 - (lg_sl ([.ref hkc, .int k, .int wh])).length) Slot.unset).toArray = ls at hl ⊢
  have hl : lv_has ls 3 [(0, .ref hkc), (1, .int k), (2, .int wh)] := hl
  unfold fX5_of at hF
  refine lv_iload_n hx hb dX5_of_0 rfl (lv_at hl 2 rfl) ?_
  refine lv_iconst (v := (3 : Int32)) hx hb dX5_of_1 (by decide) ?_
  refine kx_cS (As := [.int wh, .int (3 : Int32)]) (rest := []) ⟨hx, hb, hml, hown, hts⟩ (c_X5_isBelow l dC dI cyI cyZ  wh (3 : Int32)  _ rfl) (va_cwS 2 hts gX5_of_X5_isBelow rfl rfl rfl (by decide +kernel) ⟨Nat.le_of_ble_eq_true rfl, Nat.le_of_ble_eq_true rfl⟩) hP hK hN [] rfl [0, 1] rfl rfl hl.1 rfl (Nat.le_of_ble_eq_true rfl) dX5_of_2 ⟨Nat.zero_le _, Nat.zero_le _⟩ ?_
  refine lv_if_ne (tgt := 11) hx hb dX5_of_5 (by decide) (fun c5 => ?_) (fun c5 => ?_)
  · rw [if_neg c5] at hF
    refine lv_aload_n hx hb dX5_of_11 rfl (lv_at hl 0 rfl) ?_
    generalize hq12 : fX5_weeksCanBe kt n ea co ti an np sg ac1 rs mu al1 nr er cr tr ar = q12 at hF
    obtain ⟨q12a, q12b, q12c, q12d, q12e, q12f, q12g, q12h, q12i, q12j⟩ := q12
    dsimp only at hF
    refine kx_wVi (As := []) (rest := []) (wr := []) (wc' := [(hkc, .inr (5, [.ref ht, .ref ht1, .ref ht2, .int kp, .ref hp, .ref htr, .ref hh, .ref as])), (ht, .inr (3, [.ref hs, .ref ak, .int (nI si), .int fi])), (ak, .inl (cyI, 4, .inl kt)), (hs, .inr (2, [.ref a0, .ref a1, .ref a2, .int (nI n), .int ea])), (a0, .inl (cyI, 24, .inl co)), (a1, .inl (cyI, 24, .inl ti)), (a2, .inl (cyI, 24, .inl an)), (hp, .inr (1, [.ref ap, .int (nI np)])), (ap, .inl (cyI, 60, .inl sg)), (htr, .inr (4, [.ref hq, .int q12g, .int q12h, .int q12i, .int q12j])), (hq, .inr (2, [.ref r0, .ref r1, .ref r2, .int (nI q12e), .int q12f])), (r0, .inl (cyI, 24, .inl q12b)), (r1, .inl (cyI, 24, .inl q12c)), (r2, .inl (cyI, 24, .inl q12d))]) (W1 := [(hkc, .inr (5, [.ref ht, .ref ht1, .ref ht2, .int kp, .ref hp, .ref htr, .ref hh, .ref as])), (ht, .inr (3, [.ref hs, .ref ak, .int (nI si), .int fi])), (ak, .inl (cyI, 4, .inl kt)), (hs, .inr (2, [.ref a0, .ref a1, .ref a2, .int (nI n), .int ea])), (a0, .inl (cyI, 24, .inl co)), (a1, .inl (cyI, 24, .inl ti)), (a2, .inl (cyI, 24, .inl an)), (hp, .inr (1, [.ref ap, .int (nI np)])), (ap, .inl (cyI, 60, .inl sg)), (htr, .inr (4, [.ref hq, .int q12g, .int q12h, .int q12i, .int q12j])), (hq, .inr (2, [.ref r0, .ref r1, .ref r2, .int (nI q12e), .int q12f])), (r0, .inl (cyI, 24, .inl q12b)), (r1, .inl (cyI, 24, .inl q12c)), (r2, .inl (cyI, 24, .inl q12d))]) ⟨hx, hb, hml, hown, hts⟩ (c_X5_weeksCanBe l dC dI cyI cyZ hkc ht ht1 ht2 hp htr hh as hs ak a0 a1 a2 ap hq r0 r1 r2 kp si fi kt n ea co ti an np sg ac1 rs mu al1 nr er cr tr ar (by omega) (by omega) _ _ hq12) (cwV 0 hts gX5_of_X5_weeksCanBe rfl rfl rfl (by decide +kernel) ⟨Nat.le_of_ble_eq_true rfl, Nat.le_of_ble_eq_true rfl⟩) hP hD hS hA hK hN [0, 1, 2, 3, 4, 5, 6, 7, 8, 9, 10, 11, 12, 13] [] [0, 1, 2, 3, 4, 5, 6, 7, 8, 9, 10, 11, 12, 13] rfl (by decide) rfl (by decide) (by decide) (by decide) rfl [0, 1] rfl 5 0 rfl rfl rfl rfl hl.1 rfl (Nat.le_of_ble_eq_true rfl) dX5_of_12 ⟨Nat.zero_le _, Nat.zero_le _⟩ (fun H locs hP hD hS => ?_)
    refine lv_if_ne (tgt := 21) hx hb dX5_of_15 (by decide) (fun c15 => ?_) (fun c15 => ?_)
    · rw [if_neg c15] at hF
      refine lv_aload_n hx hb dX5_of_21 rfl (lv_at hl 0 rfl) ?_
      refine va_get (D := (dC, dI)) (ci := 5) (v := .ref htr) (C := RX5) (T := TX5) (N := 8) hx hb hts hiX5 hown hK hP 0 rfl rfl 5 (by decide) fl32 (fun _ h9 => h9) rfl dX5_of_22 ?_
      refine va_get (D := (dC, dI)) (ci := 4) (v := .ref hq) (C := RX4) (T := TX4) (N := 5) hx hb hts hiX4 hown hK hP 9 rfl rfl 0 (by decide) fl109 (fun _ h9 => h9) rfl dX5_of_25 ?_
      refine lv_iload_n hx hb dX5_of_28 rfl (lv_at hl 1 rfl) ?_
      refine kx_cV (As := [.int k]) (rest := []) ⟨hx, hb, hml, hown, hts⟩ (c_X2_has l dC dI cyI cyZ hq r0 r1 r2 q12e q12f q12b q12c q12d k  _ rfl) (cwV 1 hts gX5_of_X2_has rfl rfl rfl (by decide +kernel) ⟨Nat.le_of_ble_eq_true rfl, Nat.le_of_ble_eq_true rfl⟩) hP hK hN [10, 11, 12, 13] rfl [0, 1] rfl 2 10 rfl rfl rfl rfl hl.1 rfl (Nat.le_of_ble_eq_true rfl) dX5_of_29 ⟨Nat.zero_le _, Nat.zero_le _⟩ ?_
      refine lv_if_ne (tgt := 37) hx hb dX5_of_32 (by decide) (fun c32 => ?_) (fun c32 => ?_)
      · rw [if_neg c32] at hF
        refine lv_aload_n hx hb dX5_of_37 rfl (lv_at hl 0 rfl) ?_
        refine va_get (D := (dC, dI)) (ci := 5) (v := .ref htr) (C := RX5) (T := TX5) (N := 8) hx hb hts hiX5 hown hK hP 0 rfl rfl 5 (by decide) fl32 (fun _ h9 => h9) rfl dX5_of_38 ?_
        refine va_get (D := (dC, dI)) (ci := 4) (v := .ref hq) (C := RX4) (T := TX4) (N := 5) hx hb hts hiX4 hown hK hP 9 rfl rfl 0 (by decide) fl109 (fun _ h9 => h9) rfl dX5_of_41 ?_
        refine lv_iload_n hx hb dX5_of_44 rfl (lv_at hl 1 rfl) ?_
        refine lv_iload_n hx hb dX5_of_45 rfl (lv_at hl 2 rfl) ?_
        refine kx_cV (As := [.int k, .int wh]) (rest := []) ⟨hx, hb, hml, hown, hts⟩ (c_X2_trait l dC dI cyI cyZ hq r0 r1 r2 q12e q12f q12b q12c q12d k wh  _ rfl) (cwV 2 hts gX5_of_X2_trait rfl rfl rfl (by decide +kernel) ⟨Nat.le_of_ble_eq_true rfl, Nat.le_of_ble_eq_true rfl⟩) hP hK hN [10, 11, 12, 13] rfl [0, 1] rfl 2 10 rfl rfl rfl rfl hl.1 rfl (Nat.le_of_ble_eq_true rfl) dX5_of_46 ⟨Nat.zero_le _, Nat.zero_le _⟩ ?_
        subst hF
        subst hAe
        exact W.iret hx hb hr (fun t ht _ => ⟨⟨_, (), rfl, rfl, by rw [ht]; exact hP, hD⟩, hS.F ht⟩) hS.2.2 dX5_of_49
      · rw [if_pos c32] at hF
        refine lv_iconst (v := (-1 : Int32)) hx hb dX5_of_35 (by decide) ?_
        subst hF
        subst hAe
        exact W.iret hx hb hr (fun t ht _ => ⟨⟨_, (), rfl, rfl, by rw [ht]; exact hP, hD⟩, hS.F ht⟩) hS.2.2 dX5_of_36
    · rw [if_pos c15] at hF
      refine lv_bipush (v := (-5 : Int32)) hx hb dX5_of_18 (by decide) ?_
      subst hF
      subst hAe
      exact W.iret hx hb hr (fun t ht _ => ⟨⟨_, (), rfl, rfl, by rw [ht]; exact hP, hD⟩, hS.F ht⟩) hS.2.2 dX5_of_20
  · rw [if_pos c5] at hF
    refine lv_bipush (v := (-2 : Int32)) hx hb dX5_of_8 (by decide) ?_
    subst hF
    subst hAe
    exact W.iret hx hb hr (fun t ht _ => ⟨⟨_, (), rfl, rfl, by rw [ht]; exact hP, hD⟩, hS.F ht⟩) hS.2.2 dX5_of_10
