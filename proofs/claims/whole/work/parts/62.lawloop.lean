set_option maxHeartbeats 4000000 in
set_option maxRecDepth 100000 in
theorem law_loop {p : Program} {l : Launch} {e : Env} {s : State} {m : MethodId} {below : List Frame} {meth : Method} {c : Code} {dC : Nat → ClassId} {dI : Nat → Nat → Nat} {cyI cyZ : ClassId} {b L : Nat} {xs : Nat → Int32} (hL : L ≤ 2048) (C0 : lw_At p s m meth c b L xs) (hK : va_K (dC, dI) vwCl [(cyI, .int), (cyZ, .boolean)] s) (hN : kx_N s) {hkc ht ht1 ht2 hp htr hh as hs ak a0 a1 a2 hs1 ak1 a0_1 a1_1 a2_1 hs2 ak2 a0_2 a1_2 a2_2 ap hq r0 r1 r2 ac hm mb mn mk ms mp mq mi mz ma mc : Nat} : ∀ (d j : Nat), L ≤ 4 * d + j → j ≤ 2052 → kx_G p l e s m below meth c dC dI cyI cyZ b hkc ht ht1 ht2 hp htr hh as hs ak a0 a1 a2 hs1 ak1 a0_1 a1_1 a2_1 hs2 ak2 a0_2 a1_2 a2_2 ap hq r0 r1 r2 ac hm mb mn mk ms mp mq mi mz ma mc j := by
  obtain ⟨hx, hb, hr, hml, hown, hts, hX, hbl, hlocks, hgv⟩ := id C0
  have hbA : ¬ (fun q : Nat => s.heap.size ≤ q) b := Nat.not_le.mpr hbl
  intro d
  induction d with
  | zero =>
    intro j hd hj kp ea fi ea_1 fi_1 ea_2 fi_2 ac1 rs mu al1 er ud rz az n si n_1 si_1 n_2 si_2 np nr rg sn co ti an kt co_1 ti_1 an_1 kt_1 co_2 ti_2 an_2 kt_2 psg cr tr ar ch sc bk nw kn sh pd pq im zk ag cg iS iK iF iP iM1 iM2 hnr hJ H locs hP hD hS ls hl
    refine lv_iload_n hx hb dL_law_18 rfl (lv_at hl 3 rfl) ?_
    refine lv_aload_n hx hb dL_law_19 rfl (lv_at hl 0 rfl) ?_
    refine va_slen hx hb hX hbl hbA hS dL_law_20 ?_
    refine lv_iconst (v := (4 : Int32)) hx hb dL_law_21 (by decide) ?_
    refine lv_isub hx hb dL_law_22 ?_
    refine lv_icmp_gt (tgt := 840) hx hb dL_law_23 (by decide) (fun c23 => ?_) (fun c23 => absurd ((kx_law4 hL hj).mpr (by omega)) c23)
    refine lv_iconst (v := (1 : Int32)) hx hb dL_law_840 (by decide) ?_
    refine va_forget (fun q hq => hS.2.2 q hq) ?_
    exact lw_ret hx hb hr hlocks dL_law_841
  | succ d ih =>
    intro j hd hj kp ea fi ea_1 fi_1 ea_2 fi_2 ac1 rs mu al1 er ud rz az n si n_1 si_1 n_2 si_2 np nr rg sn co ti an kt co_1 ti_1 an_1 kt_1 co_2 ti_2 an_2 kt_2 psg cr tr ar ch sc bk nw kn sh pd pq im zk ag cg iS iK iF iP iM1 iM2 hnr hJ H locs hP hD hS ls hl
    refine lv_iload_n hx hb dL_law_18 rfl (lv_at hl 3 rfl) ?_
    refine lv_aload_n hx hb dL_law_19 rfl (lv_at hl 0 rfl) ?_
    refine va_slen hx hb hX hbl hbA hS dL_law_20 ?_
    refine lv_iconst (v := (4 : Int32)) hx hb dL_law_21 (by decide) ?_
    refine lv_isub hx hb dL_law_22 ?_
    refine lv_icmp_gt (tgt := 840) hx hb dL_law_23 (by decide) (fun c23 => ?_) (fun c23 => ?_)
    · refine lv_iconst (v := (1 : Int32)) hx hb dL_law_840 (by decide) ?_
      refine va_forget (fun q hq => hS.2.2 q hq) ?_
      exact lw_ret hx hb hr hlocks dL_law_841
    · have hj4 : j + 4 ≤ L := Nat.le_of_not_lt (fun q => c23 ((kx_law4 hL hj).mpr q))
      have ih2 : kx_G p l e s m below meth c dC dI cyI cyZ b hkc ht ht1 ht2 hp htr hh as hs ak a0 a1 a2 hs1 ak1 a0_1 a1_1 a2_1 hs2 ak2 a0_2 a1_2 a2_2 ap hq r0 r1 r2 ac hm mb mn mk ms mp mq mi mz ma mc (j + 4) := ih (j + 4) (by omega) (by omega)
      refine lv_aload_n hx hb dL_law_26 rfl (lv_at hl 0 rfl) ?_
      refine lv_iload_n hx hb dL_law_27 rfl (lv_at hl 3 rfl) ?_
      refine kx_sld hx hb hX hbl hbA hS j rfl (by omega) hL dL_law_28 ?_
      refine lv_bipush (v := (31 : Int32)) hx hb dL_law_29 (by decide) ?_
      refine lv_iand hx hb dL_law_31 ?_
      generalize hsw : xs j &&& (31 : Int32) = sw
      by_cases h0 : sw = (0 : Int32)
      · refine lv_tableIn (tgt := 156) (off := 124) hx hb dL_law_32 (by rw [h0]; decide) (by rw [h0]; decide) (by rw [h0]; rfl) (by decide) ?_
        exact law_c0 hL C0 hK hN hj4 ih2 iS iK iF iP iM1 iM2 hnr hJ hP hD hS hl
      by_cases h1 : sw = (1 : Int32)
      · refine lv_tableIn (tgt := 199) (off := 167) hx hb dL_law_32 (by rw [h1]; decide) (by rw [h1]; decide) (by rw [h1]; rfl) (by decide) ?_
        exact law_c1 hL C0 hK hN hj4 ih2 iS iK iF iP iM1 iM2 hnr hJ hP hD hS hl
      by_cases h2 : sw = (2 : Int32)
      · refine lv_tableIn (tgt := 212) (off := 180) hx hb dL_law_32 (by rw [h2]; decide) (by rw [h2]; decide) (by rw [h2]; rfl) (by decide) ?_
        exact law_c2 hL C0 hK hN hj4 ih2 iS iK iF iP iM1 iM2 hnr hJ hP hD hS hl
      by_cases h3 : sw = (3 : Int32)
      · refine lv_tableIn (tgt := 245) (off := 213) hx hb dL_law_32 (by rw [h3]; decide) (by rw [h3]; decide) (by rw [h3]; rfl) (by decide) ?_
        exact law_c3 hL C0 hK hN hj4 ih2 iS iK iF iP iM1 iM2 hnr hJ hP hD hS hl
      by_cases h4 : sw = (4 : Int32)
      · refine lv_tableIn (tgt := 268) (off := 236) hx hb dL_law_32 (by rw [h4]; decide) (by rw [h4]; decide) (by rw [h4]; rfl) (by decide) ?_
        exact law_c4 hL C0 hK hN hj4 ih2 iS iK iF iP iM1 iM2 hnr hJ hP hD hS hl
      by_cases h5 : sw = (5 : Int32)
      · refine lv_tableIn (tgt := 281) (off := 249) hx hb dL_law_32 (by rw [h5]; decide) (by rw [h5]; decide) (by rw [h5]; rfl) (by decide) ?_
        exact law_c5 hL C0 hK hN hj4 ih2 iS iK iF iP iM1 iM2 hnr hJ hP hD hS hl
      by_cases h6 : sw = (6 : Int32)
      · refine lv_tableIn (tgt := 294) (off := 262) hx hb dL_law_32 (by rw [h6]; decide) (by rw [h6]; decide) (by rw [h6]; rfl) (by decide) ?_
        exact law_c6 hL C0 hK hN hj4 ih2 iS iK iF iP iM1 iM2 hnr hJ hP hD hS hl
      by_cases h7 : sw = (7 : Int32)
      · refine lv_tableIn (tgt := 317) (off := 285) hx hb dL_law_32 (by rw [h7]; decide) (by rw [h7]; decide) (by rw [h7]; rfl) (by decide) ?_
        exact law_c7 hL C0 hK hN hj4 ih2 iS iK iF iP iM1 iM2 hnr hJ hP hD hS hl
      by_cases h8 : sw = (8 : Int32)
      · refine lv_tableIn (tgt := 330) (off := 298) hx hb dL_law_32 (by rw [h8]; decide) (by rw [h8]; decide) (by rw [h8]; rfl) (by decide) ?_
        exact law_c8 hL C0 hK hN hj4 ih2 iS iK iF iP iM1 iM2 hnr hJ hP hD hS hl
      by_cases h9 : sw = (9 : Int32)
      · refine lv_tableIn (tgt := 353) (off := 321) hx hb dL_law_32 (by rw [h9]; decide) (by rw [h9]; decide) (by rw [h9]; rfl) (by decide) ?_
        exact law_c9 hL C0 hK hN hj4 ih2 iS iK iF iP iM1 iM2 hnr hJ hP hD hS hl
      by_cases h10 : sw = (10 : Int32)
      · refine lv_tableIn (tgt := 386) (off := 354) hx hb dL_law_32 (by rw [h10]; decide) (by rw [h10]; decide) (by rw [h10]; rfl) (by decide) ?_
        exact law_c10 hL C0 hK hN hj4 ih2 iS iK iF iP iM1 iM2 hnr hJ hP hD hS hl
      by_cases h11 : sw = (11 : Int32)
      · refine lv_tableIn (tgt := 409) (off := 377) hx hb dL_law_32 (by rw [h11]; decide) (by rw [h11]; decide) (by rw [h11]; rfl) (by decide) ?_
        exact law_c11 hL C0 hK hN hj4 ih2 iS iK iF iP iM1 iM2 hnr hJ hP hD hS hl
      by_cases h12 : sw = (12 : Int32)
      · refine lv_tableIn (tgt := 452) (off := 420) hx hb dL_law_32 (by rw [h12]; decide) (by rw [h12]; decide) (by rw [h12]; rfl) (by decide) ?_
        exact law_c12 hL C0 hK hN hj4 ih2 iS iK iF iP iM1 iM2 hnr hJ hP hD hS hl
      by_cases h13 : sw = (13 : Int32)
      · refine lv_tableIn (tgt := 465) (off := 433) hx hb dL_law_32 (by rw [h13]; decide) (by rw [h13]; decide) (by rw [h13]; rfl) (by decide) ?_
        exact law_c13 hL C0 hK hN hj4 ih2 iS iK iF iP iM1 iM2 hnr hJ hP hD hS hl
      by_cases h14 : sw = (14 : Int32)
      · refine lv_tableIn (tgt := 488) (off := 456) hx hb dL_law_32 (by rw [h14]; decide) (by rw [h14]; decide) (by rw [h14]; rfl) (by decide) ?_
        exact law_c14 hL C0 hK hN hj4 ih2 iS iK iF iP iM1 iM2 hnr hJ hP hD hS hl
      by_cases h15 : sw = (15 : Int32)
      · refine lv_tableIn (tgt := 511) (off := 479) hx hb dL_law_32 (by rw [h15]; decide) (by rw [h15]; decide) (by rw [h15]; rfl) (by decide) ?_
        exact law_c15 hL C0 hK hN hj4 ih2 iS iK iF iP iM1 iM2 hnr hJ hP hD hS hl
      by_cases h16 : sw = (16 : Int32)
      · refine lv_tableIn (tgt := 544) (off := 512) hx hb dL_law_32 (by rw [h16]; decide) (by rw [h16]; decide) (by rw [h16]; rfl) (by decide) ?_
        exact law_c16 hL C0 hK hN hj4 ih2 iS iK iF iP iM1 iM2 hnr hJ hP hD hS hl
      by_cases h17 : sw = (17 : Int32)
      · refine lv_tableIn (tgt := 557) (off := 525) hx hb dL_law_32 (by rw [h17]; decide) (by rw [h17]; decide) (by rw [h17]; rfl) (by decide) ?_
        exact law_c17 hL C0 hK hN hj4 ih2 iS iK iF iP iM1 iM2 hnr hJ hP hD hS hl
      by_cases h18 : sw = (18 : Int32)
      · refine lv_tableIn (tgt := 580) (off := 548) hx hb dL_law_32 (by rw [h18]; decide) (by rw [h18]; decide) (by rw [h18]; rfl) (by decide) ?_
        exact law_c18 hL C0 hK hN hj4 ih2 iS iK iF iP iM1 iM2 hnr hJ hP hD hS hl
      by_cases h19 : sw = (19 : Int32)
      · refine lv_tableIn (tgt := 629) (off := 597) hx hb dL_law_32 (by rw [h19]; decide) (by rw [h19]; decide) (by rw [h19]; rfl) (by decide) ?_
        exact law_c19 hL C0 hK hN hj4 ih2 iS iK iF iP iM1 iM2 hnr hJ hP hD hS hl
      by_cases h20 : sw = (20 : Int32)
      · refine lv_tableIn (tgt := 642) (off := 610) hx hb dL_law_32 (by rw [h20]; decide) (by rw [h20]; decide) (by rw [h20]; rfl) (by decide) ?_
        exact law_c20 hL C0 hK hN hj4 ih2 iS iK iF iP iM1 iM2 hnr hJ hP hD hS hl
      by_cases h21 : sw = (21 : Int32)
      · refine lv_tableIn (tgt := 655) (off := 623) hx hb dL_law_32 (by rw [h21]; decide) (by rw [h21]; decide) (by rw [h21]; rfl) (by decide) ?_
        exact law_c21 hL C0 hK hN hj4 ih2 iS iK iF iP iM1 iM2 hnr hJ hP hD hS hl
      by_cases h22 : sw = (22 : Int32)
      · refine lv_tableIn (tgt := 678) (off := 646) hx hb dL_law_32 (by rw [h22]; decide) (by rw [h22]; decide) (by rw [h22]; rfl) (by decide) ?_
        exact law_c22 hL C0 hK hN hj4 ih2 iS iK iF iP iM1 iM2 hnr hJ hP hD hS hl
      by_cases h23 : sw = (23 : Int32)
      · refine lv_tableIn (tgt := 722) (off := 690) hx hb dL_law_32 (by rw [h23]; decide) (by rw [h23]; decide) (by rw [h23]; rfl) (by decide) ?_
        exact law_c23 hL C0 hK hN hj4 ih2 iS iK iF iP iM1 iM2 hnr hJ hP hD hS hl
      by_cases h24 : sw = (24 : Int32)
      · refine lv_tableIn (tgt := 765) (off := 733) hx hb dL_law_32 (by rw [h24]; decide) (by rw [h24]; decide) (by rw [h24]; rfl) (by decide) ?_
        exact law_c24 hL C0 hK hN hj4 ih2 iS iK iF iP iM1 iM2 hnr hJ hP hD hS hl
      by_cases h25 : sw = (25 : Int32)
      · refine lv_tableIn (tgt := 788) (off := 756) hx hb dL_law_32 (by rw [h25]; decide) (by rw [h25]; decide) (by rw [h25]; rfl) (by decide) ?_
        exact law_c25 hL C0 hK hN hj4 ih2 iS iK iF iP iM1 iM2 hnr hJ hP hD hS hl
      by_cases h26 : sw = (26 : Int32)
      · refine lv_tableIn (tgt := 811) (off := 779) hx hb dL_law_32 (by rw [h26]; decide) (by rw [h26]; decide) (by rw [h26]; rfl) (by decide) ?_
        exact law_c26 hL C0 hK hN hj4 ih2 iS iK iF iP iM1 iM2 hnr hJ hP hD hS hl
      have hout : sw.toInt < 0 ∨ 26 < sw.toInt := by
        have q0 := lv_neT (k := (0 : Int32)) (a := 0) h0 rfl; have q1 := lv_neT (k := (1 : Int32)) (a := 1) h1 rfl; have q2 := lv_neT (k := (2 : Int32)) (a := 2) h2 rfl; have q3 := lv_neT (k := (3 : Int32)) (a := 3) h3 rfl; have q4 := lv_neT (k := (4 : Int32)) (a := 4) h4 rfl; have q5 := lv_neT (k := (5 : Int32)) (a := 5) h5 rfl; have q6 := lv_neT (k := (6 : Int32)) (a := 6) h6 rfl; have q7 := lv_neT (k := (7 : Int32)) (a := 7) h7 rfl; have q8 := lv_neT (k := (8 : Int32)) (a := 8) h8 rfl; have q9 := lv_neT (k := (9 : Int32)) (a := 9) h9 rfl; have q10 := lv_neT (k := (10 : Int32)) (a := 10) h10 rfl; have q11 := lv_neT (k := (11 : Int32)) (a := 11) h11 rfl; have q12 := lv_neT (k := (12 : Int32)) (a := 12) h12 rfl; have q13 := lv_neT (k := (13 : Int32)) (a := 13) h13 rfl; have q14 := lv_neT (k := (14 : Int32)) (a := 14) h14 rfl; have q15 := lv_neT (k := (15 : Int32)) (a := 15) h15 rfl; have q16 := lv_neT (k := (16 : Int32)) (a := 16) h16 rfl; have q17 := lv_neT (k := (17 : Int32)) (a := 17) h17 rfl; have q18 := lv_neT (k := (18 : Int32)) (a := 18) h18 rfl; have q19 := lv_neT (k := (19 : Int32)) (a := 19) h19 rfl; have q20 := lv_neT (k := (20 : Int32)) (a := 20) h20 rfl; have q21 := lv_neT (k := (21 : Int32)) (a := 21) h21 rfl; have q22 := lv_neT (k := (22 : Int32)) (a := 22) h22 rfl; have q23 := lv_neT (k := (23 : Int32)) (a := 23) h23 rfl; have q24 := lv_neT (k := (24 : Int32)) (a := 24) h24 rfl; have q25 := lv_neT (k := (25 : Int32)) (a := 25) h25 rfl; have q26 := lv_neT (k := (26 : Int32)) (a := 26) h26 rfl
        omega
      refine lv_tableOut (tgt := 834) hx hb dL_law_32 hout (by decide) ?_
      refine lv_iinc (v := (nI (j + 4))) (lv' := [(3, .int (nI (j + 4))), (0, .ref b), (1, .ref hkc), (2, .ref hm)]) hx hb dL_law_834 hl (k := 3) rfl (by exact nI_add (j) 4) (by decide) rfl (fun ls hl => ?_)
      refine lv_goto (tgt := 18) hx hb dL_law_837 (by decide) ?_
      exact ih2 kp ea fi ea_1 fi_1 ea_2 fi_2 ac1 rs mu al1 er ud rz az n si n_1 si_1 n_2 si_2 np nr rg sn co ti an kt co_1 ti_1 an_1 kt_1 co_2 ti_2 an_2 kt_2 psg cr tr ar ch sc bk nw kn sh pd pq im zk ag cg iS iK iF iP iM1 iM2 hnr hJ _ _ hP hD hS _ (lv_sub hl [1, 2, 3, 0] rfl)
