/-- the book in an image -/
def imB (im : Nat → Int32) (i : Nat) : Nat → Int32 := fun j => im (150 * i + j)
def kx_M (im : Nat → Int32) (i : Nat) : Prop := kx_I (imB im i) ∧ im (150 * i + 130) = nI (im (150 * i + 130)).toNatClampNeg ∧ (im (150 * i + 130)).toNatClampNeg ≤ 8

def fX6_rip_L54 (bk : Nat → Int32) (im : Nat → Int32) (kni : Int32) (j40 : Nat) : Nat → Nat → (Nat → Int32) → (Nat → Int32)
  | 0, _, g2 => g2
  | r54 + 1, j54, g2 => (if j40 = 0 then (fX6_rip_L54 bk im kni j40 r54 (j54 + 1) (upd g2 (25 * j40 + j54) (0 : Int32))) else (if j54 = 0 then (fX6_rip_L54 bk im kni j40 r54 (j54 + 1) (upd g2 (25 * j40 + j54) (0 : Int32))) else (if (bk (j40 - 1)) = (im ((150 * kni.toNatClampNeg + j54) - 1)) then (if (g2 (25 * (j40 - 1) + j54)) ≤ (g2 ((25 * j40 + j54) - 1)) then (if ((g2 ((25 * (j40 - 1) + j54) - 1)) + (1 : Int32)) ≤ (g2 ((25 * j40 + j54) - 1)) then (fX6_rip_L54 bk im kni j40 r54 (j54 + 1) (upd g2 (25 * j40 + j54) (g2 ((25 * j40 + j54) - 1)))) else (fX6_rip_L54 bk im kni j40 r54 (j54 + 1) (upd g2 (25 * j40 + j54) ((g2 ((25 * (j40 - 1) + j54) - 1)) + (1 : Int32))))) else (if ((g2 ((25 * (j40 - 1) + j54) - 1)) + (1 : Int32)) ≤ (g2 (25 * (j40 - 1) + j54)) then (fX6_rip_L54 bk im kni j40 r54 (j54 + 1) (upd g2 (25 * j40 + j54) (g2 (25 * (j40 - 1) + j54)))) else (fX6_rip_L54 bk im kni j40 r54 (j54 + 1) (upd g2 (25 * j40 + j54) ((g2 ((25 * (j40 - 1) + j54) - 1)) + (1 : Int32)))))) else (if (g2 (25 * (j40 - 1) + j54)) ≤ (g2 ((25 * j40 + j54) - 1)) then (if ((g2 ((25 * (j40 - 1) + j54) - 1)) + (0 : Int32)) ≤ (g2 ((25 * j40 + j54) - 1)) then (fX6_rip_L54 bk im kni j40 r54 (j54 + 1) (upd g2 (25 * j40 + j54) (g2 ((25 * j40 + j54) - 1)))) else (fX6_rip_L54 bk im kni j40 r54 (j54 + 1) (upd g2 (25 * j40 + j54) ((g2 ((25 * (j40 - 1) + j54) - 1)) + (0 : Int32))))) else (if ((g2 ((25 * (j40 - 1) + j54) - 1)) + (0 : Int32)) ≤ (g2 (25 * (j40 - 1) + j54)) then (fX6_rip_L54 bk im kni j40 r54 (j54 + 1) (upd g2 (25 * j40 + j54) (g2 (25 * (j40 - 1) + j54)))) else (fX6_rip_L54 bk im kni j40 r54 (j54 + 1) (upd g2 (25 * j40 + j54) ((g2 ((25 * (j40 - 1) + j54) - 1)) + (0 : Int32)))))))))
def fX6_rip_L40 (bk : Nat → Int32) (im : Nat → Int32) (kni : Int32) : Nat → Nat → (Nat → Int32) → (Nat → Int32)
  | 0, _, g1 => g1
  | r40 + 1, j40, g1 => ((fun (g2 : Nat → Int32) => (fX6_rip_L40 bk im kni r40 (j40 + 1) g2)) (fX6_rip_L54 bk im kni j40 (mN (imB im kni.toNatClampNeg) + 1) 0 g1))
def fX6_rip (bk : Nat → Int32) (im : Nat → Int32) (zk : Nat → Int32) (ag : Nat → Int32) (kni : Int32) : Int32 × (Nat → Int32) :=
  (if (fX6_in kni (0 : Int32) (1 : Int32)) = 0 then ((-2 : Int32), ag) else (if (zk kni.toNatClampNeg) = 0 then ((-3 : Int32), ag) else ((fun (g1 : Nat → Int32) => (((nI (mN bk + (mN (imB im kni.toNatClampNeg)))) - ((2 : Int32) * (g1 (25 * (mN bk) + (mN (imB im kni.toNatClampNeg)))))), g1)) (fX6_rip_L40 bk im kni (mN bk + 1) 0 ag))))
set_option maxHeartbeats 4000000 in
set_option maxRecDepth 100000 in
theorem c_X6_rip (l : Launch) (dC : Nat → ClassId) (dI : Nat → Nat → Nat) (cyI cyZ : ClassId) (hm mb mn mk ms mp mq mi mz ma mc : Nat) (sg : Nat) (sn : Nat) (ud : Int32) (rz : Int32) (az : Int32) (bk : Nat → Int32) (im : Nat → Int32) (zk : Nat → Int32) (ag : Nat → Int32) (kni : Int32) (hI : kx_I bk) (himg : ∀ i, i < 2 → ¬ zk i = 0 → kx_M im i) (sz : Nat) (r : Int32 × (Nat → Int32)) (hF : fX6_rip bk im zk ag kni = r) : Met l yX6_rip wsX6_rip ({ frames := 1, cells := 0, slots := 0, locals := 22 }) (kx_wp (dC, dI) [(hm, .inr (6, [.ref mb, .ref mn, .ref mk, .int (nI sg), .ref ms, .int (nI sn), .ref mp, .int ud, .ref mq, .int rz, .int az, .ref mi, .ref mz, .ref ma, .ref mc])), (mb, .inl (cyI, 97, .inl bk)), (mi, .inl (cyI, 300, .inl im)), (mz, .inl (cyZ, 2, .inl zk)), (ma, .inl (cyI, 625, .inl ag))] [(cyI, .int), (cyZ, .boolean)] sz [.ref hm, .int kni]) (kx_Qi r.1 (dC, dI) [(hm, .inr (6, [.ref mb, .ref mn, .ref mk, .int (nI sg), .ref ms, .int (nI sn), .ref mp, .int ud, .ref mq, .int rz, .int az, .ref mi, .ref mz, .ref ma, .ref mc])), (mb, .inl (cyI, 97, .inl bk)), (mi, .inl (cyI, 300, .inl im)), (mz, .inl (cyZ, 2, .inl zk)), (ma, .inl (cyI, 625, .inl ag))] [(hm, .inr (6, [.ref mb, .ref mn, .ref mk, .int (nI sg), .ref ms, .int (nI sn), .ref mp, .int ud, .ref mq, .int rz, .int az, .ref mi, .ref mz, .ref ma, .ref mc])), (mb, .inl (cyI, 97, .inl bk)), (mi, .inl (cyI, 300, .inl im)), (mz, .inl (cyZ, 2, .inl zk)), (ma, .inl (cyI, 625, .inl r.2))] sz) 0 0 (va_A [(hm, .inr (6, [.ref mb, .ref mn, .ref mk, .int (nI sg), .ref ms, .int (nI sn), .ref mp, .int ud, .ref mq, .int rz, .int az, .ref mi, .ref mz, .ref ma, .ref mc])), (mb, .inl (cyI, 97, .inl bk)), (mi, .inl (cyI, 300, .inl im)), (mz, .inl (cyZ, 2, .inl zk)), (ma, .inl (cyI, 625, .inl ag))] sz) := by
  refine Met.ofW (cc := cX6_rip) (maxL := 9) (ret := (some .int)) (by decide) rfl ?_
  intro p e s m args below meth c s₁ B hml hv
  obtain ⟨rfl, hsz, hP, hK, hN, hD0⟩ := hv
  have hx := B.exec
  have hb := B.bytes
  have hr := B.returns
  have hts := atoms_spec (ws := wsX6_rip) B.pre
  have hown : s.vm.findClass RX6 = some m.cls := findClass_of_methodNamed B.named
  have hlocks := B.notSynchronized
  subst hsz
  obtain ⟨A, hAe⟩ : ∃ A, A = va_A [(hm, .inr (6, [.ref mb, .ref mn, .ref mk, .int (nI sg), .ref ms, .int (nI sn), .ref mp, .int ud, .ref mq, .int rz, .int az, .ref mi, .ref mz, .ref ma, .ref mc])), (mb, .inl (cyI, 97, .inl bk)), (mi, .inl (cyI, 300, .inl im)), (mz, .inl (cyZ, 2, .inl zk)), (ma, .inl (cyI, 625, .inl ag))] s.heap.size := ⟨_, rfl⟩
  have hD : va_D A [(hm, .inr (6, [.ref mb, .ref mn, .ref mk, .int (nI sg), .ref ms, .int (nI sn), .ref mp, .int ud, .ref mq, .int rz, .int az, .ref mi, .ref mz, .ref ma, .ref mc])), (mb, .inl (cyI, 97, .inl bk)), (mi, .inl (cyI, 300, .inl im)), (mz, .inl (cyZ, 2, .inl zk)), (ma, .inl (cyI, 625, .inl ag))] := by rw [hAe]; exact hD0.self
  have hA : ∀ q : Nat, s.heap.size ≤ q → A q := fun q h => by rw [hAe]; exact Or.inr h
  have hS : va_S A s.heap s.heap [] := va_S.rf
  have hiX6 : ∀ w ∈ wsX60, w ∈ wsX6_rip := by decide +kernel
  have fl7 := hts (.fieldLink RX6 7 "KnitChronicleModel" "book" "[I") (by decide +kernel)
  have fl28 := hts (.fieldLink RX6 28 "KnitChronicleModel" "image" "[I") (by decide +kernel)
  have fl31 := hts (.fieldLink RX6 31 "KnitChronicleModel" "isKept" "[Z") (by decide +kernel)
  have fl35 := hts (.fieldLink RX6 35 "KnitChronicleModel" "agree" "[I") (by decide +kernel)
  have hl := lv_entry ([.ref hm, .int kni]) (n := 9) (Nat.le_of_ble_eq_true rfl)
  rw [lg_entry_eq]
  generalize (lg_sl ([.ref hm, .int kni]) ++ List.replicate (9 - (lg_sl ([.ref hm, .int kni])).length) Slot.unset).toArray = ls at hl ⊢
  have hl : lv_has ls 9 [(0, .ref hm), (1, .int kni)] := hl
  unfold fX6_rip at hF
  have hmN := hI.2.1
  refine lv_iload_n hx hb dX6_rip_0 rfl (lv_at hl 1 rfl) ?_
  refine lv_iconst (v := (0 : Int32)) hx hb dX6_rip_1 (by decide) ?_
  refine lv_iconst (v := (1 : Int32)) hx hb dX6_rip_2 (by decide) ?_
  refine kx_cS (As := [.int kni, .int (0 : Int32), .int (1 : Int32)]) (rest := []) ⟨hx, hb, hml, hown, hts⟩ (c_X6_in l dC dI cyI cyZ  kni (0 : Int32) (1 : Int32)  _ rfl) (va_cwS 3 hts gX6_rip_X6_in rfl rfl rfl (by decide +kernel) ⟨Nat.le_of_ble_eq_true rfl, Nat.le_of_ble_eq_true rfl⟩) hP hK hN [] rfl [0, 1] rfl rfl hl.1 rfl (Nat.le_of_ble_eq_true rfl) dX6_rip_3 ⟨Nat.zero_le _, Nat.zero_le _⟩ ?_
  refine lv_if_ne (tgt := 12) hx hb dX6_rip_6 (by decide) (fun c6 => ?_) (fun c6 => ?_)
  · rw [if_neg c6] at hF
    obtain ⟨hk1, hk2, hk3⟩ := fX6_in_P 0 1 (by decide) (by decide) c6
    refine lv_aload_n hx hb dX6_rip_12 rfl (lv_at hl 0 rfl) ?_
    refine va_get (D := (dC, dI)) (ci := 6) (v := .ref mz) (C := RX6) (T := TX6) (N := 15) hx hb hts hiX6 hown hK hP 0 rfl rfl 12 (by decide) fl31 (fun _ h9 => h9) rfl dX6_rip_13 ?_
    refine lv_iload_n hx hb dX6_rip_16 rfl (lv_at hl 1 rfl) ?_
    refine kx_e hk1 ?_
    refine kx_zld hx hb hK hP 3 1 rfl rfl (kni.toNatClampNeg) rfl (by omega) (by decide) dX6_rip_17 ?_
    refine lv_if_ne (tgt := 24) hx hb dX6_rip_18 (by decide) (fun c18 => ?_) (fun c18 => ?_)
    · rw [if_neg c18] at hF
      have hM : kx_I (imB im kni.toNatClampNeg) := (himg _ (by omega) c18).1
      have hm2 := hM.2.1
      refine lv_aload_n hx hb dX6_rip_24 rfl (lv_at hl 0 rfl) ?_
      refine va_get (D := (dC, dI)) (ci := 6) (v := .ref mi) (C := RX6) (T := TX6) (N := 15) hx hb hts hiX6 hown hK hP 0 rfl rfl 11 (by decide) fl28 (fun _ h9 => h9) rfl dX6_rip_25 ?_
      refine lv_sipush (v := (150 : Int32)) hx hb dX6_rip_28 (by decide) ?_
      refine lv_iload_n hx hb dX6_rip_31 rfl (lv_at hl 1 rfl) ?_
      refine kx_e hk1 ?_
      refine lv_imul hx hb dX6_rip_32 ?_
      refine kx_e (pk_mul (150) (kni.toNatClampNeg)) ?_
      refine lv_bipush (v := (96 : Int32)) hx hb dX6_rip_33 (by decide) ?_
      refine lv_iadd hx hb dX6_rip_35 ?_
      refine kx_e (nI_add (150 * kni.toNatClampNeg) (96)) ?_
      refine kx_ld hx hb hK hP 2 0 rfl rfl (150 * kni.toNatClampNeg + 96) rfl (by omega) (by decide) dX6_rip_36 ?_
      refine kx_e hM.1 ?_
      refine lv_istore_n (lv' := [(2, .int (nI (mN (imB im kni.toNatClampNeg)))), (0, .ref hm), (1, .int kni)]) hx hb dX6_rip_37 rfl hl (by decide) rfl (fun ls hl => ?_)
      refine lv_iconst (v := (0 : Int32)) hx hb dX6_rip_38 (by decide) ?_
      refine lv_istore_n (lv' := [(3, .int (0 : Int32)), (2, .int (nI (mN (imB im kni.toNatClampNeg)))), (0, .ref hm), (1, .int kni)]) hx hb dX6_rip_39 rfl hl (by decide) rfl (fun ls hl => ?_)
      generalize hz40 : fX6_rip_L40 bk im kni (mN bk + 1) 0 ag = z40 at hF
      have LP40 : ∀ (r40 : Nat) (j40 : Nat) (g1 : Nat → Int32), r40 + j40 = mN bk + 1 → fX6_rip_L40 bk im kni r40 j40 g1 = z40 → ∀ (H : Heap) (locs : List Loc), va_P (dC, dI) vwCl [(hm, .inr (6, [.ref mb, .ref mn, .ref mk, .int (nI sg), .ref ms, .int (nI sn), .ref mp, .int ud, .ref mq, .int rz, .int az, .ref mi, .ref mz, .ref ma, .ref mc])), (mb, .inl (cyI, 97, .inl bk)), (mi, .inl (cyI, 300, .inl im)), (mz, .inl (cyZ, 2, .inl zk)), (ma, .inl (cyI, 625, .inl g1))] H → va_D A [(hm, .inr (6, [.ref mb, .ref mn, .ref mk, .int (nI sg), .ref ms, .int (nI sn), .ref mp, .int ud, .ref mq, .int rz, .int az, .ref mi, .ref mz, .ref ma, .ref mc])), (mb, .inl (cyI, 97, .inl bk)), (mi, .inl (cyI, 300, .inl im)), (mz, .inl (cyZ, 2, .inl zk)), (ma, .inl (cyI, 625, .inl g1))] → va_S A s.heap H locs → ∀ (ls : Array Slot), lv_has ls 9 [(3, .int (nI j40)), (2, .int (nI (mN (imB im kni.toNatClampNeg)))), (0, .ref hm), (1, .int kni)] → W p l e (headSpec wsX6_rip ({ frames := 1, cells := 0, slots := 0, locals := 22 } : Room)).room s m ([.ref hm, .int kni] : List Value).toArray below meth c H locs 0 0 (MQ below (kx_Qi r.1 (dC, dI) [(hm, .inr (6, [.ref mb, .ref mn, .ref mk, .int (nI sg), .ref ms, .int (nI sn), .ref mp, .int ud, .ref mq, .int rz, .int az, .ref mi, .ref mz, .ref ma, .ref mc])), (mb, .inl (cyI, 97, .inl bk)), (mi, .inl (cyI, 300, .inl im)), (mz, .inl (cyZ, 2, .inl zk)), (ma, .inl (cyI, 625, .inl ag))] [(hm, .inr (6, [.ref mb, .ref mn, .ref mk, .int (nI sg), .ref ms, .int (nI sn), .ref mp, .int ud, .ref mq, .int rz, .int az, .ref mi, .ref mz, .ref ma, .ref mc])), (mb, .inl (cyI, 97, .inl bk)), (mi, .inl (cyI, 300, .inl im)), (mz, .inl (cyZ, 2, .inl zk)), (ma, .inl (cyI, 625, .inl r.2))] s.heap.size) ([.ref hm, .int kni] : List Value).toArray s 0 0 (va_A [(hm, .inr (6, [.ref mb, .ref mn, .ref mk, .int (nI sg), .ref ms, .int (nI sn), .ref mp, .int ud, .ref mq, .int rz, .int az, .ref mi, .ref mz, .ref ma, .ref mc])), (mb, .inl (cyI, 97, .inl bk)), (mi, .inl (cyI, 300, .inl im)), (mz, .inl (cyZ, 2, .inl zk)), (ma, .inl (cyI, 625, .inl ag))] s.heap.size)) (F0 m 40 ls []) := by
        intro r40
        induction r40 with
        | zero =>
          intro j40 g1 hrj hz40 H locs hP hD hS ls hl
          rw [fX6_rip_L40] at hz40
          subst hz40
          try dsimp only at hF
          refine lv_iload_n hx hb dX6_rip_40 rfl (lv_at hl 0 rfl) ?_
          refine lv_aload_n hx hb dX6_rip_41 rfl (lv_at hl 2 rfl) ?_
          refine va_get (D := (dC, dI)) (ci := 6) (v := .ref mb) (C := RX6) (T := TX6) (N := 15) hx hb hts hiX6 hown hK hP 0 rfl rfl 0 (by decide) fl7 (fun _ h9 => h9) rfl dX6_rip_42 ?_
          refine lv_bipush (v := (96 : Int32)) hx hb dX6_rip_45 (by decide) ?_
          refine kx_ld hx hb hK hP 1 0 rfl rfl (96) rfl (by omega) (by decide) dX6_rip_47 ?_
          refine kx_e hI.1 ?_
          refine kx_gt hx hb (j40) (mN bk) rfl rfl (by omega) (by omega) dX6_rip_48 (by decide) (tgt := 212) (fun c48 => ?_) (fun c48 => absurd c48 (by omega))
          refine lv_aload_n hx hb dX6_rip_212 rfl (lv_at hl 2 rfl) ?_
          refine va_get (D := (dC, dI)) (ci := 6) (v := .ref mb) (C := RX6) (T := TX6) (N := 15) hx hb hts hiX6 hown hK hP 0 rfl rfl 0 (by decide) fl7 (fun _ h9 => h9) rfl dX6_rip_213 ?_
          refine lv_bipush (v := (96 : Int32)) hx hb dX6_rip_216 (by decide) ?_
          refine kx_ld hx hb hK hP 1 0 rfl rfl (96) rfl (by omega) (by decide) dX6_rip_218 ?_
          refine kx_e hI.1 ?_
          refine lv_iload_n hx hb dX6_rip_219 rfl (lv_at hl 1 rfl) ?_
          refine lv_iadd hx hb dX6_rip_220 ?_
          refine kx_e (nI_add (mN bk) (mN (imB im kni.toNatClampNeg))) ?_
          refine lv_iconst (v := (2 : Int32)) hx hb dX6_rip_221 (by decide) ?_
          refine lv_aload_n hx hb dX6_rip_222 rfl (lv_at hl 2 rfl) ?_
          refine va_get (D := (dC, dI)) (ci := 6) (v := .ref ma) (C := RX6) (T := TX6) (N := 15) hx hb hts hiX6 hown hK hP 0 rfl rfl 13 (by decide) fl35 (fun _ h9 => h9) rfl dX6_rip_223 ?_
          refine lv_bipush (v := (25 : Int32)) hx hb dX6_rip_226 (by decide) ?_
          refine lv_aload_n hx hb dX6_rip_228 rfl (lv_at hl 2 rfl) ?_
          refine va_get (D := (dC, dI)) (ci := 6) (v := .ref mb) (C := RX6) (T := TX6) (N := 15) hx hb hts hiX6 hown hK hP 0 rfl rfl 0 (by decide) fl7 (fun _ h9 => h9) rfl dX6_rip_229 ?_
          refine lv_bipush (v := (96 : Int32)) hx hb dX6_rip_232 (by decide) ?_
          refine kx_ld hx hb hK hP 1 0 rfl rfl (96) rfl (by omega) (by decide) dX6_rip_234 ?_
          refine kx_e hI.1 ?_
          refine lv_imul hx hb dX6_rip_235 ?_
          refine kx_e (pk_mul (25) (mN bk)) ?_
          refine lv_iload_n hx hb dX6_rip_236 rfl (lv_at hl 1 rfl) ?_
          refine lv_iadd hx hb dX6_rip_237 ?_
          refine kx_e (nI_add (25 * (mN bk)) (mN (imB im kni.toNatClampNeg))) ?_
          refine kx_ld hx hb hK hP 4 0 rfl rfl (25 * (mN bk) + (mN (imB im kni.toNatClampNeg))) rfl (by omega) (by decide) dX6_rip_238 ?_
          refine lv_imul hx hb dX6_rip_239 ?_
          refine lv_isub hx hb dX6_rip_240 ?_
          subst hF
          subst hAe
          exact W.iret hx hb hr (fun t ht _ => ⟨⟨_, (), rfl, rfl, by rw [ht]; exact hP, hD⟩, hS.F ht⟩) hS.2.2 dX6_rip_241
        | succ r40 ih =>
          intro j40 g1 hrj hz40 H locs hP hD hS ls hl
          rw [fX6_rip_L40] at hz40
          refine lv_iload_n hx hb dX6_rip_40 rfl (lv_at hl 0 rfl) ?_
          refine lv_aload_n hx hb dX6_rip_41 rfl (lv_at hl 2 rfl) ?_
          refine va_get (D := (dC, dI)) (ci := 6) (v := .ref mb) (C := RX6) (T := TX6) (N := 15) hx hb hts hiX6 hown hK hP 0 rfl rfl 0 (by decide) fl7 (fun _ h9 => h9) rfl dX6_rip_42 ?_
          refine lv_bipush (v := (96 : Int32)) hx hb dX6_rip_45 (by decide) ?_
          refine kx_ld hx hb hK hP 1 0 rfl rfl (96) rfl (by omega) (by decide) dX6_rip_47 ?_
          refine kx_e hI.1 ?_
          refine kx_gt hx hb (j40) (mN bk) rfl rfl (by omega) (by omega) dX6_rip_48 (by decide) (tgt := 212) (fun c48 => absurd c48 (by omega)) (fun c48 => ?_)
          refine lv_iconst (v := (0 : Int32)) hx hb dX6_rip_51 (by decide) ?_
          refine lv_istore (lv' := [(4, .int (0 : Int32)), (3, .int (nI j40)), (2, .int (nI (mN (imB im kni.toNatClampNeg)))), (0, .ref hm), (1, .int kni)]) hx hb dX6_rip_52 hl (by decide) rfl (fun ls hl => ?_)
          generalize hz54 : fX6_rip_L54 bk im kni j40 (mN (imB im kni.toNatClampNeg) + 1) 0 g1 = z54 at hz40
          have LP54 : ∀ (r54 : Nat) (j54 : Nat) (g2 : Nat → Int32), r54 + j54 = mN (imB im kni.toNatClampNeg) + 1 → fX6_rip_L54 bk im kni j40 r54 j54 g2 = z54 → ∀ (H : Heap) (locs : List Loc), va_P (dC, dI) vwCl [(hm, .inr (6, [.ref mb, .ref mn, .ref mk, .int (nI sg), .ref ms, .int (nI sn), .ref mp, .int ud, .ref mq, .int rz, .int az, .ref mi, .ref mz, .ref ma, .ref mc])), (mb, .inl (cyI, 97, .inl bk)), (mi, .inl (cyI, 300, .inl im)), (mz, .inl (cyZ, 2, .inl zk)), (ma, .inl (cyI, 625, .inl g2))] H → va_D A [(hm, .inr (6, [.ref mb, .ref mn, .ref mk, .int (nI sg), .ref ms, .int (nI sn), .ref mp, .int ud, .ref mq, .int rz, .int az, .ref mi, .ref mz, .ref ma, .ref mc])), (mb, .inl (cyI, 97, .inl bk)), (mi, .inl (cyI, 300, .inl im)), (mz, .inl (cyZ, 2, .inl zk)), (ma, .inl (cyI, 625, .inl g2))] → va_S A s.heap H locs → ∀ (ls : Array Slot), lv_has ls 9 [(4, .int (nI j54)), (3, .int (nI j40)), (2, .int (nI (mN (imB im kni.toNatClampNeg)))), (0, .ref hm), (1, .int kni)] → W p l e (headSpec wsX6_rip ({ frames := 1, cells := 0, slots := 0, locals := 22 } : Room)).room s m ([.ref hm, .int kni] : List Value).toArray below meth c H locs 0 0 (MQ below (kx_Qi r.1 (dC, dI) [(hm, .inr (6, [.ref mb, .ref mn, .ref mk, .int (nI sg), .ref ms, .int (nI sn), .ref mp, .int ud, .ref mq, .int rz, .int az, .ref mi, .ref mz, .ref ma, .ref mc])), (mb, .inl (cyI, 97, .inl bk)), (mi, .inl (cyI, 300, .inl im)), (mz, .inl (cyZ, 2, .inl zk)), (ma, .inl (cyI, 625, .inl ag))] [(hm, .inr (6, [.ref mb, .ref mn, .ref mk, .int (nI sg), .ref ms, .int (nI sn), .ref mp, .int ud, .ref mq, .int rz, .int az, .ref mi, .ref mz, .ref ma, .ref mc])), (mb, .inl (cyI, 97, .inl bk)), (mi, .inl (cyI, 300, .inl im)), (mz, .inl (cyZ, 2, .inl zk)), (ma, .inl (cyI, 625, .inl r.2))] s.heap.size) ([.ref hm, .int kni] : List Value).toArray s 0 0 (va_A [(hm, .inr (6, [.ref mb, .ref mn, .ref mk, .int (nI sg), .ref ms, .int (nI sn), .ref mp, .int ud, .ref mq, .int rz, .int az, .ref mi, .ref mz, .ref ma, .ref mc])), (mb, .inl (cyI, 97, .inl bk)), (mi, .inl (cyI, 300, .inl im)), (mz, .inl (cyZ, 2, .inl zk)), (ma, .inl (cyI, 625, .inl ag))] s.heap.size)) (F0 m 54 ls []) := by
            intro r54
            induction r54 with
            | zero =>
              intro j54 g2 hrj hz54 H locs hP hD hS ls hl
              rw [fX6_rip_L54] at hz54
              subst hz54
              try dsimp only at hz40
              refine lv_iload hx hb dX6_rip_54 (lv_at hl 0 rfl) ?_
              refine lv_iload_n hx hb dX6_rip_56 rfl (lv_at hl 2 rfl) ?_
              refine kx_gt hx hb (j54) (mN (imB im kni.toNatClampNeg)) rfl rfl (by omega) (by omega) dX6_rip_57 (by decide) (tgt := 206) (fun c57 => ?_) (fun c57 => absurd c57 (by omega))
              refine lv_iinc (v := (nI (j40 + 1))) (lv' := [(3, .int (nI (j40 + 1))), (4, .int (nI j54)), (2, .int (nI (mN (imB im kni.toNatClampNeg)))), (0, .ref hm), (1, .int kni)]) hx hb dX6_rip_206 hl (k := 1) rfl (by exact nI_add (j40) 1) (by decide) rfl (fun ls hl => ?_)
              refine lv_goto (tgt := 40) hx hb dX6_rip_209 (by decide) ?_
              exact ih (j40 + 1) g2 (by omega)  hz40 _ _ hP hD hS _ (lv_sub hl [0, 2, 3, 4] rfl)
            | succ r54 ih =>
              intro j54 g2 hrj hz54 H locs hP hD hS ls hl
              rw [fX6_rip_L54] at hz54
              refine lv_iload hx hb dX6_rip_54 (lv_at hl 0 rfl) ?_
              refine lv_iload_n hx hb dX6_rip_56 rfl (lv_at hl 2 rfl) ?_
              refine kx_gt hx hb (j54) (mN (imB im kni.toNatClampNeg)) rfl rfl (by omega) (by omega) dX6_rip_57 (by decide) (tgt := 206) (fun c57 => absurd c57 (by omega)) (fun c57 => ?_)
              refine lv_iconst (v := (0 : Int32)) hx hb dX6_rip_60 (by decide) ?_
              refine lv_istore (lv' := [(5, .int (0 : Int32)), (4, .int (nI j54)), (3, .int (nI j40)), (2, .int (nI (mN (imB im kni.toNatClampNeg)))), (0, .ref hm), (1, .int kni)]) hx hb dX6_rip_61 hl (by decide) rfl (fun ls hl => ?_)
              refine lv_iload_n hx hb dX6_rip_63 rfl (lv_at hl 2 rfl) ?_
              refine kx_le0 hx hb (j40) rfl (by omega) dX6_rip_64 (by decide) (tgt := 186) (fun c64 => ?_) (fun c64 => ?_)
              · rw [if_pos c64] at hz54
                refine lv_aload_n hx hb dX6_rip_186 rfl (lv_at hl 4 rfl) ?_
                refine va_get (D := (dC, dI)) (ci := 6) (v := .ref ma) (C := RX6) (T := TX6) (N := 15) hx hb hts hiX6 hown hK hP 0 rfl rfl 13 (by decide) fl35 (fun _ h9 => h9) rfl dX6_rip_187 ?_
                refine lv_bipush (v := (25 : Int32)) hx hb dX6_rip_190 (by decide) ?_
                refine lv_iload_n hx hb dX6_rip_192 rfl (lv_at hl 2 rfl) ?_
                refine lv_imul hx hb dX6_rip_193 ?_
                refine kx_e (pk_mul (25) (j40)) ?_
                refine lv_iload hx hb dX6_rip_194 (lv_at hl 1 rfl) ?_
                refine lv_iadd hx hb dX6_rip_196 ?_
                refine kx_e (nI_add (25 * j40) (j54)) ?_
                refine lv_iload hx hb dX6_rip_197 (lv_at hl 0 rfl) ?_
                refine kx_st hx hb hK hP hD hS 4 0 rfl rfl (25 * j40 + j54) rfl (by omega) (by decide) dX6_rip_199 (fun H locs hP hD hS => ?_)
                have hP : va_P (dC, dI) vwCl [(hm, .inr (6, [.ref mb, .ref mn, .ref mk, .int (nI sg), .ref ms, .int (nI sn), .ref mp, .int ud, .ref mq, .int rz, .int az, .ref mi, .ref mz, .ref ma, .ref mc])), (mb, .inl (cyI, 97, .inl bk)), (mi, .inl (cyI, 300, .inl im)), (mz, .inl (cyZ, 2, .inl zk)), (ma, .inl (cyI, 625, .inl (upd g2 (25 * j40 + j54) (0 : Int32))))] H := hP
                have hD : va_D A [(hm, .inr (6, [.ref mb, .ref mn, .ref mk, .int (nI sg), .ref ms, .int (nI sn), .ref mp, .int ud, .ref mq, .int rz, .int az, .ref mi, .ref mz, .ref ma, .ref mc])), (mb, .inl (cyI, 97, .inl bk)), (mi, .inl (cyI, 300, .inl im)), (mz, .inl (cyZ, 2, .inl zk)), (ma, .inl (cyI, 625, .inl (upd g2 (25 * j40 + j54) (0 : Int32))))] := hD
                refine lv_iinc (v := (nI (j54 + 1))) (lv' := [(4, .int (nI (j54 + 1))), (5, .int (0 : Int32)), (3, .int (nI j40)), (2, .int (nI (mN (imB im kni.toNatClampNeg)))), (0, .ref hm), (1, .int kni)]) hx hb dX6_rip_200 hl (k := 1) rfl (by exact nI_add (j54) 1) (by decide) rfl (fun ls hl => ?_)
                refine lv_goto (tgt := 54) hx hb dX6_rip_203 (by decide) ?_
                exact ih (j54 + 1) (upd g2 (25 * j40 + j54) (0 : Int32)) (by omega)  hz54 _ _ hP hD hS _ (lv_sub hl [0, 2, 3, 4, 5] rfl)
              · rw [if_neg c64] at hz54
                refine lv_iload hx hb dX6_rip_67 (lv_at hl 1 rfl) ?_
                refine kx_le0 hx hb (j54) rfl (by omega) dX6_rip_69 (by decide) (tgt := 186) (fun c69 => ?_) (fun c69 => ?_)
                · rw [if_pos c69] at hz54
                  refine lv_aload_n hx hb dX6_rip_186 rfl (lv_at hl 4 rfl) ?_
                  refine va_get (D := (dC, dI)) (ci := 6) (v := .ref ma) (C := RX6) (T := TX6) (N := 15) hx hb hts hiX6 hown hK hP 0 rfl rfl 13 (by decide) fl35 (fun _ h9 => h9) rfl dX6_rip_187 ?_
                  refine lv_bipush (v := (25 : Int32)) hx hb dX6_rip_190 (by decide) ?_
                  refine lv_iload_n hx hb dX6_rip_192 rfl (lv_at hl 2 rfl) ?_
                  refine lv_imul hx hb dX6_rip_193 ?_
                  refine kx_e (pk_mul (25) (j40)) ?_
                  refine lv_iload hx hb dX6_rip_194 (lv_at hl 1 rfl) ?_
                  refine lv_iadd hx hb dX6_rip_196 ?_
                  refine kx_e (nI_add (25 * j40) (j54)) ?_
                  refine lv_iload hx hb dX6_rip_197 (lv_at hl 0 rfl) ?_
                  refine kx_st hx hb hK hP hD hS 4 0 rfl rfl (25 * j40 + j54) rfl (by omega) (by decide) dX6_rip_199 (fun H locs hP hD hS => ?_)
                  have hP : va_P (dC, dI) vwCl [(hm, .inr (6, [.ref mb, .ref mn, .ref mk, .int (nI sg), .ref ms, .int (nI sn), .ref mp, .int ud, .ref mq, .int rz, .int az, .ref mi, .ref mz, .ref ma, .ref mc])), (mb, .inl (cyI, 97, .inl bk)), (mi, .inl (cyI, 300, .inl im)), (mz, .inl (cyZ, 2, .inl zk)), (ma, .inl (cyI, 625, .inl (upd g2 (25 * j40 + j54) (0 : Int32))))] H := hP
                  have hD : va_D A [(hm, .inr (6, [.ref mb, .ref mn, .ref mk, .int (nI sg), .ref ms, .int (nI sn), .ref mp, .int ud, .ref mq, .int rz, .int az, .ref mi, .ref mz, .ref ma, .ref mc])), (mb, .inl (cyI, 97, .inl bk)), (mi, .inl (cyI, 300, .inl im)), (mz, .inl (cyZ, 2, .inl zk)), (ma, .inl (cyI, 625, .inl (upd g2 (25 * j40 + j54) (0 : Int32))))] := hD
                  refine lv_iinc (v := (nI (j54 + 1))) (lv' := [(4, .int (nI (j54 + 1))), (5, .int (0 : Int32)), (3, .int (nI j40)), (2, .int (nI (mN (imB im kni.toNatClampNeg)))), (0, .ref hm), (1, .int kni)]) hx hb dX6_rip_200 hl (k := 1) rfl (by exact nI_add (j54) 1) (by decide) rfl (fun ls hl => ?_)
                  refine lv_goto (tgt := 54) hx hb dX6_rip_203 (by decide) ?_
                  exact ih (j54 + 1) (upd g2 (25 * j40 + j54) (0 : Int32)) (by omega)  hz54 _ _ hP hD hS _ (lv_sub hl [0, 2, 3, 4, 5] rfl)
                · rw [if_neg c69] at hz54
                  refine lv_aload_n hx hb dX6_rip_72 rfl (lv_at hl 4 rfl) ?_
                  refine va_get (D := (dC, dI)) (ci := 6) (v := .ref ma) (C := RX6) (T := TX6) (N := 15) hx hb hts hiX6 hown hK hP 0 rfl rfl 13 (by decide) fl35 (fun _ h9 => h9) rfl dX6_rip_73 ?_
                  refine lv_bipush (v := (25 : Int32)) hx hb dX6_rip_76 (by decide) ?_
                  refine lv_iload_n hx hb dX6_rip_78 rfl (lv_at hl 2 rfl) ?_
                  refine lv_iconst (v := (1 : Int32)) hx hb dX6_rip_79 (by decide) ?_
                  refine lv_isub hx hb dX6_rip_80 ?_
                  refine kx_e (pk_sub (a := j40) (b := 1) (by omega)) ?_
                  refine lv_imul hx hb dX6_rip_81 ?_
                  refine kx_e (pk_mul (25) (j40 - 1)) ?_
                  refine lv_iload hx hb dX6_rip_82 (lv_at hl 1 rfl) ?_
                  refine lv_iadd hx hb dX6_rip_84 ?_
                  refine kx_e (nI_add (25 * (j40 - 1)) (j54)) ?_
                  refine kx_ld hx hb hK hP 4 0 rfl rfl (25 * (j40 - 1) + j54) rfl (by omega) (by decide) dX6_rip_85 ?_
                  refine lv_istore (lv' := [(6, .int (g2 (25 * (j40 - 1) + j54))), (5, .int (0 : Int32)), (4, .int (nI j54)), (3, .int (nI j40)), (2, .int (nI (mN (imB im kni.toNatClampNeg)))), (0, .ref hm), (1, .int kni)]) hx hb dX6_rip_86 hl (by decide) rfl (fun ls hl => ?_)
                  refine lv_aload_n hx hb dX6_rip_88 rfl (lv_at hl 5 rfl) ?_
                  refine va_get (D := (dC, dI)) (ci := 6) (v := .ref ma) (C := RX6) (T := TX6) (N := 15) hx hb hts hiX6 hown hK hP 0 rfl rfl 13 (by decide) fl35 (fun _ h9 => h9) rfl dX6_rip_89 ?_
                  refine lv_bipush (v := (25 : Int32)) hx hb dX6_rip_92 (by decide) ?_
                  refine lv_iload_n hx hb dX6_rip_94 rfl (lv_at hl 3 rfl) ?_
                  refine lv_imul hx hb dX6_rip_95 ?_
                  refine kx_e (pk_mul (25) (j40)) ?_
                  refine lv_iload hx hb dX6_rip_96 (lv_at hl 2 rfl) ?_
                  refine lv_iadd hx hb dX6_rip_98 ?_
                  refine kx_e (nI_add (25 * j40) (j54)) ?_
                  refine lv_iconst (v := (1 : Int32)) hx hb dX6_rip_99 (by decide) ?_
                  refine lv_isub hx hb dX6_rip_100 ?_
                  refine kx_e (pk_sub (a := 25 * j40 + j54) (b := 1) (by omega)) ?_
                  refine kx_ld hx hb hK hP 4 0 rfl rfl ((25 * j40 + j54) - 1) rfl (by omega) (by decide) dX6_rip_101 ?_
                  refine lv_istore (lv' := [(7, .int (g2 ((25 * j40 + j54) - 1))), (6, .int (g2 (25 * (j40 - 1) + j54))), (5, .int (0 : Int32)), (4, .int (nI j54)), (3, .int (nI j40)), (2, .int (nI (mN (imB im kni.toNatClampNeg)))), (0, .ref hm), (1, .int kni)]) hx hb dX6_rip_102 hl (by decide) rfl (fun ls hl => ?_)
                  refine lv_aload_n hx hb dX6_rip_104 rfl (lv_at hl 6 rfl) ?_
                  refine va_get (D := (dC, dI)) (ci := 6) (v := .ref ma) (C := RX6) (T := TX6) (N := 15) hx hb hts hiX6 hown hK hP 0 rfl rfl 13 (by decide) fl35 (fun _ h9 => h9) rfl dX6_rip_105 ?_
                  refine lv_bipush (v := (25 : Int32)) hx hb dX6_rip_108 (by decide) ?_
                  refine lv_iload_n hx hb dX6_rip_110 rfl (lv_at hl 4 rfl) ?_
                  refine lv_iconst (v := (1 : Int32)) hx hb dX6_rip_111 (by decide) ?_
                  refine lv_isub hx hb dX6_rip_112 ?_
                  refine kx_e (pk_sub (a := j40) (b := 1) (by omega)) ?_
                  refine lv_imul hx hb dX6_rip_113 ?_
                  refine kx_e (pk_mul (25) (j40 - 1)) ?_
                  refine lv_iload hx hb dX6_rip_114 (lv_at hl 3 rfl) ?_
                  refine lv_iadd hx hb dX6_rip_116 ?_
                  refine kx_e (nI_add (25 * (j40 - 1)) (j54)) ?_
                  refine lv_iconst (v := (1 : Int32)) hx hb dX6_rip_117 (by decide) ?_
                  refine lv_isub hx hb dX6_rip_118 ?_
                  refine kx_e (pk_sub (a := 25 * (j40 - 1) + j54) (b := 1) (by omega)) ?_
                  refine kx_ld hx hb hK hP 4 0 rfl rfl ((25 * (j40 - 1) + j54) - 1) rfl (by omega) (by decide) dX6_rip_119 ?_
                  refine lv_aload_n hx hb dX6_rip_120 rfl (lv_at hl 6 rfl) ?_
                  refine va_get (D := (dC, dI)) (ci := 6) (v := .ref mb) (C := RX6) (T := TX6) (N := 15) hx hb hts hiX6 hown hK hP 0 rfl rfl 0 (by decide) fl7 (fun _ h9 => h9) rfl dX6_rip_121 ?_
                  refine lv_iload_n hx hb dX6_rip_124 rfl (lv_at hl 4 rfl) ?_
                  refine lv_iconst (v := (1 : Int32)) hx hb dX6_rip_125 (by decide) ?_
                  refine lv_isub hx hb dX6_rip_126 ?_
                  refine kx_e (pk_sub (a := j40) (b := 1) (by omega)) ?_
                  refine kx_ld hx hb hK hP 1 0 rfl rfl (j40 - 1) rfl (by omega) (by decide) dX6_rip_127 ?_
                  refine lv_aload_n hx hb dX6_rip_128 rfl (lv_at hl 6 rfl) ?_
                  refine va_get (D := (dC, dI)) (ci := 6) (v := .ref mi) (C := RX6) (T := TX6) (N := 15) hx hb hts hiX6 hown hK hP 0 rfl rfl 11 (by decide) fl28 (fun _ h9 => h9) rfl dX6_rip_129 ?_
                  refine lv_sipush (v := (150 : Int32)) hx hb dX6_rip_132 (by decide) ?_
                  refine lv_iload_n hx hb dX6_rip_135 rfl (lv_at hl 7 rfl) ?_
                  refine kx_e hk1 ?_
                  refine lv_imul hx hb dX6_rip_136 ?_
                  refine kx_e (pk_mul (150) (kni.toNatClampNeg)) ?_
                  refine lv_iload hx hb dX6_rip_137 (lv_at hl 3 rfl) ?_
                  refine lv_iadd hx hb dX6_rip_139 ?_
                  refine kx_e (nI_add (150 * kni.toNatClampNeg) (j54)) ?_
                  refine lv_iconst (v := (1 : Int32)) hx hb dX6_rip_140 (by decide) ?_
                  refine lv_isub hx hb dX6_rip_141 ?_
                  refine kx_e (pk_sub (a := 150 * kni.toNatClampNeg + j54) (b := 1) (by omega)) ?_
                  refine kx_ld hx hb hK hP 2 0 rfl rfl ((150 * kni.toNatClampNeg + j54) - 1) rfl (by omega) (by decide) dX6_rip_142 ?_
                  refine lv_icmp_ne (tgt := 150) hx hb dX6_rip_143 (by decide) (fun c143 => ?_) (fun c143 => ?_)
                  · rw [if_neg c143] at hz54
                    refine lv_iconst (v := (0 : Int32)) hx hb dX6_rip_150 (by decide) ?_
                    refine lv_iadd hx hb dX6_rip_151 ?_
                    refine lv_istore (lv' := [(8, .int ((g2 ((25 * (j40 - 1) + j54) - 1)) + (0 : Int32))), (7, .int (g2 ((25 * j40 + j54) - 1))), (6, .int (g2 (25 * (j40 - 1) + j54))), (5, .int (0 : Int32)), (4, .int (nI j54)), (3, .int (nI j40)), (2, .int (nI (mN (imB im kni.toNatClampNeg)))), (0, .ref hm), (1, .int kni)]) hx hb dX6_rip_152 hl (by decide) rfl (fun ls hl => ?_)
                    refine lv_iload hx hb dX6_rip_154 (lv_at hl 2 rfl) ?_
                    refine lv_iload hx hb dX6_rip_156 (lv_at hl 1 rfl) ?_
                    refine lv_icmp_le (tgt := 166) hx hb dX6_rip_158 (by decide) (fun c158 => ?_) (fun c158 => ?_)
                    · rw [if_pos c158] at hz54
                      refine lv_iload hx hb dX6_rip_166 (lv_at hl 1 rfl) ?_
                      refine lv_istore (lv' := [(5, .int (g2 ((25 * j40 + j54) - 1))), (8, .int ((g2 ((25 * (j40 - 1) + j54) - 1)) + (0 : Int32))), (7, .int (g2 ((25 * j40 + j54) - 1))), (6, .int (g2 (25 * (j40 - 1) + j54))), (4, .int (nI j54)), (3, .int (nI j40)), (2, .int (nI (mN (imB im kni.toNatClampNeg)))), (0, .ref hm), (1, .int kni)]) hx hb dX6_rip_168 hl (by decide) rfl (fun ls hl => ?_)
                      refine lv_iload hx hb dX6_rip_170 (lv_at hl 1 rfl) ?_
                      refine lv_iload hx hb dX6_rip_172 (lv_at hl 0 rfl) ?_
                      refine lv_icmp_le (tgt := 182) hx hb dX6_rip_174 (by decide) (fun c174 => ?_) (fun c174 => ?_)
                      · rw [if_pos c174] at hz54
                        refine lv_iload hx hb dX6_rip_182 (lv_at hl 0 rfl) ?_
                        refine lv_istore (lv' := [(5, .int (g2 ((25 * j40 + j54) - 1))), (8, .int ((g2 ((25 * (j40 - 1) + j54) - 1)) + (0 : Int32))), (7, .int (g2 ((25 * j40 + j54) - 1))), (6, .int (g2 (25 * (j40 - 1) + j54))), (4, .int (nI j54)), (3, .int (nI j40)), (2, .int (nI (mN (imB im kni.toNatClampNeg)))), (0, .ref hm), (1, .int kni)]) hx hb dX6_rip_184 hl (by decide) rfl (fun ls hl => ?_)
                        refine lv_aload_n hx hb dX6_rip_186 rfl (lv_at hl 7 rfl) ?_
                        refine va_get (D := (dC, dI)) (ci := 6) (v := .ref ma) (C := RX6) (T := TX6) (N := 15) hx hb hts hiX6 hown hK hP 0 rfl rfl 13 (by decide) fl35 (fun _ h9 => h9) rfl dX6_rip_187 ?_
                        refine lv_bipush (v := (25 : Int32)) hx hb dX6_rip_190 (by decide) ?_
                        refine lv_iload_n hx hb dX6_rip_192 rfl (lv_at hl 5 rfl) ?_
                        refine lv_imul hx hb dX6_rip_193 ?_
                        refine kx_e (pk_mul (25) (j40)) ?_
                        refine lv_iload hx hb dX6_rip_194 (lv_at hl 4 rfl) ?_
                        refine lv_iadd hx hb dX6_rip_196 ?_
                        refine kx_e (nI_add (25 * j40) (j54)) ?_
                        refine lv_iload hx hb dX6_rip_197 (lv_at hl 0 rfl) ?_
                        refine kx_st hx hb hK hP hD hS 4 0 rfl rfl (25 * j40 + j54) rfl (by omega) (by decide) dX6_rip_199 (fun H locs hP hD hS => ?_)
                        have hP : va_P (dC, dI) vwCl [(hm, .inr (6, [.ref mb, .ref mn, .ref mk, .int (nI sg), .ref ms, .int (nI sn), .ref mp, .int ud, .ref mq, .int rz, .int az, .ref mi, .ref mz, .ref ma, .ref mc])), (mb, .inl (cyI, 97, .inl bk)), (mi, .inl (cyI, 300, .inl im)), (mz, .inl (cyZ, 2, .inl zk)), (ma, .inl (cyI, 625, .inl (upd g2 (25 * j40 + j54) (g2 ((25 * j40 + j54) - 1)))))] H := hP
                        have hD : va_D A [(hm, .inr (6, [.ref mb, .ref mn, .ref mk, .int (nI sg), .ref ms, .int (nI sn), .ref mp, .int ud, .ref mq, .int rz, .int az, .ref mi, .ref mz, .ref ma, .ref mc])), (mb, .inl (cyI, 97, .inl bk)), (mi, .inl (cyI, 300, .inl im)), (mz, .inl (cyZ, 2, .inl zk)), (ma, .inl (cyI, 625, .inl (upd g2 (25 * j40 + j54) (g2 ((25 * j40 + j54) - 1)))))] := hD
                        refine lv_iinc (v := (nI (j54 + 1))) (lv' := [(4, .int (nI (j54 + 1))), (5, .int (g2 ((25 * j40 + j54) - 1))), (8, .int ((g2 ((25 * (j40 - 1) + j54) - 1)) + (0 : Int32))), (7, .int (g2 ((25 * j40 + j54) - 1))), (6, .int (g2 (25 * (j40 - 1) + j54))), (3, .int (nI j40)), (2, .int (nI (mN (imB im kni.toNatClampNeg)))), (0, .ref hm), (1, .int kni)]) hx hb dX6_rip_200 hl (k := 4) rfl (by exact nI_add (j54) 1) (by decide) rfl (fun ls hl => ?_)
                        refine lv_goto (tgt := 54) hx hb dX6_rip_203 (by decide) ?_
                        exact ih (j54 + 1) (upd g2 (25 * j40 + j54) (g2 ((25 * j40 + j54) - 1))) (by omega)  hz54 _ _ hP hD hS _ (lv_sub hl [0, 5, 6, 7, 8] rfl)
                      · rw [if_neg c174] at hz54
                        refine lv_iload hx hb dX6_rip_177 (lv_at hl 1 rfl) ?_
                        refine lv_goto (tgt := 184) hx hb dX6_rip_179 (by decide) ?_
                        refine lv_istore (lv' := [(5, .int ((g2 ((25 * (j40 - 1) + j54) - 1)) + (0 : Int32))), (8, .int ((g2 ((25 * (j40 - 1) + j54) - 1)) + (0 : Int32))), (7, .int (g2 ((25 * j40 + j54) - 1))), (6, .int (g2 (25 * (j40 - 1) + j54))), (4, .int (nI j54)), (3, .int (nI j40)), (2, .int (nI (mN (imB im kni.toNatClampNeg)))), (0, .ref hm), (1, .int kni)]) hx hb dX6_rip_184 hl (by decide) rfl (fun ls hl => ?_)
                        refine lv_aload_n hx hb dX6_rip_186 rfl (lv_at hl 7 rfl) ?_
                        refine va_get (D := (dC, dI)) (ci := 6) (v := .ref ma) (C := RX6) (T := TX6) (N := 15) hx hb hts hiX6 hown hK hP 0 rfl rfl 13 (by decide) fl35 (fun _ h9 => h9) rfl dX6_rip_187 ?_
                        refine lv_bipush (v := (25 : Int32)) hx hb dX6_rip_190 (by decide) ?_
                        refine lv_iload_n hx hb dX6_rip_192 rfl (lv_at hl 5 rfl) ?_
                        refine lv_imul hx hb dX6_rip_193 ?_
                        refine kx_e (pk_mul (25) (j40)) ?_
                        refine lv_iload hx hb dX6_rip_194 (lv_at hl 4 rfl) ?_
                        refine lv_iadd hx hb dX6_rip_196 ?_
                        refine kx_e (nI_add (25 * j40) (j54)) ?_
                        refine lv_iload hx hb dX6_rip_197 (lv_at hl 0 rfl) ?_
                        refine kx_st hx hb hK hP hD hS 4 0 rfl rfl (25 * j40 + j54) rfl (by omega) (by decide) dX6_rip_199 (fun H locs hP hD hS => ?_)
                        have hP : va_P (dC, dI) vwCl [(hm, .inr (6, [.ref mb, .ref mn, .ref mk, .int (nI sg), .ref ms, .int (nI sn), .ref mp, .int ud, .ref mq, .int rz, .int az, .ref mi, .ref mz, .ref ma, .ref mc])), (mb, .inl (cyI, 97, .inl bk)), (mi, .inl (cyI, 300, .inl im)), (mz, .inl (cyZ, 2, .inl zk)), (ma, .inl (cyI, 625, .inl (upd g2 (25 * j40 + j54) ((g2 ((25 * (j40 - 1) + j54) - 1)) + (0 : Int32)))))] H := hP
                        have hD : va_D A [(hm, .inr (6, [.ref mb, .ref mn, .ref mk, .int (nI sg), .ref ms, .int (nI sn), .ref mp, .int ud, .ref mq, .int rz, .int az, .ref mi, .ref mz, .ref ma, .ref mc])), (mb, .inl (cyI, 97, .inl bk)), (mi, .inl (cyI, 300, .inl im)), (mz, .inl (cyZ, 2, .inl zk)), (ma, .inl (cyI, 625, .inl (upd g2 (25 * j40 + j54) ((g2 ((25 * (j40 - 1) + j54) - 1)) + (0 : Int32)))))] := hD
                        refine lv_iinc (v := (nI (j54 + 1))) (lv' := [(4, .int (nI (j54 + 1))), (5, .int ((g2 ((25 * (j40 - 1) + j54) - 1)) + (0 : Int32))), (8, .int ((g2 ((25 * (j40 - 1) + j54) - 1)) + (0 : Int32))), (7, .int (g2 ((25 * j40 + j54) - 1))), (6, .int (g2 (25 * (j40 - 1) + j54))), (3, .int (nI j40)), (2, .int (nI (mN (imB im kni.toNatClampNeg)))), (0, .ref hm), (1, .int kni)]) hx hb dX6_rip_200 hl (k := 4) rfl (by exact nI_add (j54) 1) (by decide) rfl (fun ls hl => ?_)
                        refine lv_goto (tgt := 54) hx hb dX6_rip_203 (by decide) ?_
                        exact ih (j54 + 1) (upd g2 (25 * j40 + j54) ((g2 ((25 * (j40 - 1) + j54) - 1)) + (0 : Int32))) (by omega)  hz54 _ _ hP hD hS _ (lv_sub hl [0, 5, 6, 7, 8] rfl)
                    · rw [if_neg c158] at hz54
                      refine lv_iload hx hb dX6_rip_161 (lv_at hl 2 rfl) ?_
                      refine lv_goto (tgt := 168) hx hb dX6_rip_163 (by decide) ?_
                      refine lv_istore (lv' := [(5, .int (g2 (25 * (j40 - 1) + j54))), (8, .int ((g2 ((25 * (j40 - 1) + j54) - 1)) + (0 : Int32))), (7, .int (g2 ((25 * j40 + j54) - 1))), (6, .int (g2 (25 * (j40 - 1) + j54))), (4, .int (nI j54)), (3, .int (nI j40)), (2, .int (nI (mN (imB im kni.toNatClampNeg)))), (0, .ref hm), (1, .int kni)]) hx hb dX6_rip_168 hl (by decide) rfl (fun ls hl => ?_)
                      refine lv_iload hx hb dX6_rip_170 (lv_at hl 1 rfl) ?_
                      refine lv_iload hx hb dX6_rip_172 (lv_at hl 0 rfl) ?_
                      refine lv_icmp_le (tgt := 182) hx hb dX6_rip_174 (by decide) (fun c174 => ?_) (fun c174 => ?_)
                      · rw [if_pos c174] at hz54
                        refine lv_iload hx hb dX6_rip_182 (lv_at hl 0 rfl) ?_
                        refine lv_istore (lv' := [(5, .int (g2 (25 * (j40 - 1) + j54))), (8, .int ((g2 ((25 * (j40 - 1) + j54) - 1)) + (0 : Int32))), (7, .int (g2 ((25 * j40 + j54) - 1))), (6, .int (g2 (25 * (j40 - 1) + j54))), (4, .int (nI j54)), (3, .int (nI j40)), (2, .int (nI (mN (imB im kni.toNatClampNeg)))), (0, .ref hm), (1, .int kni)]) hx hb dX6_rip_184 hl (by decide) rfl (fun ls hl => ?_)
                        refine lv_aload_n hx hb dX6_rip_186 rfl (lv_at hl 7 rfl) ?_
                        refine va_get (D := (dC, dI)) (ci := 6) (v := .ref ma) (C := RX6) (T := TX6) (N := 15) hx hb hts hiX6 hown hK hP 0 rfl rfl 13 (by decide) fl35 (fun _ h9 => h9) rfl dX6_rip_187 ?_
                        refine lv_bipush (v := (25 : Int32)) hx hb dX6_rip_190 (by decide) ?_
                        refine lv_iload_n hx hb dX6_rip_192 rfl (lv_at hl 5 rfl) ?_
                        refine lv_imul hx hb dX6_rip_193 ?_
                        refine kx_e (pk_mul (25) (j40)) ?_
                        refine lv_iload hx hb dX6_rip_194 (lv_at hl 4 rfl) ?_
                        refine lv_iadd hx hb dX6_rip_196 ?_
                        refine kx_e (nI_add (25 * j40) (j54)) ?_
                        refine lv_iload hx hb dX6_rip_197 (lv_at hl 0 rfl) ?_
                        refine kx_st hx hb hK hP hD hS 4 0 rfl rfl (25 * j40 + j54) rfl (by omega) (by decide) dX6_rip_199 (fun H locs hP hD hS => ?_)
                        have hP : va_P (dC, dI) vwCl [(hm, .inr (6, [.ref mb, .ref mn, .ref mk, .int (nI sg), .ref ms, .int (nI sn), .ref mp, .int ud, .ref mq, .int rz, .int az, .ref mi, .ref mz, .ref ma, .ref mc])), (mb, .inl (cyI, 97, .inl bk)), (mi, .inl (cyI, 300, .inl im)), (mz, .inl (cyZ, 2, .inl zk)), (ma, .inl (cyI, 625, .inl (upd g2 (25 * j40 + j54) (g2 (25 * (j40 - 1) + j54)))))] H := hP
                        have hD : va_D A [(hm, .inr (6, [.ref mb, .ref mn, .ref mk, .int (nI sg), .ref ms, .int (nI sn), .ref mp, .int ud, .ref mq, .int rz, .int az, .ref mi, .ref mz, .ref ma, .ref mc])), (mb, .inl (cyI, 97, .inl bk)), (mi, .inl (cyI, 300, .inl im)), (mz, .inl (cyZ, 2, .inl zk)), (ma, .inl (cyI, 625, .inl (upd g2 (25 * j40 + j54) (g2 (25 * (j40 - 1) + j54)))))] := hD
                        refine lv_iinc (v := (nI (j54 + 1))) (lv' := [(4, .int (nI (j54 + 1))), (5, .int (g2 (25 * (j40 - 1) + j54))), (8, .int ((g2 ((25 * (j40 - 1) + j54) - 1)) + (0 : Int32))), (7, .int (g2 ((25 * j40 + j54) - 1))), (6, .int (g2 (25 * (j40 - 1) + j54))), (3, .int (nI j40)), (2, .int (nI (mN (imB im kni.toNatClampNeg)))), (0, .ref hm), (1, .int kni)]) hx hb dX6_rip_200 hl (k := 4) rfl (by exact nI_add (j54) 1) (by decide) rfl (fun ls hl => ?_)
                        refine lv_goto (tgt := 54) hx hb dX6_rip_203 (by decide) ?_
                        exact ih (j54 + 1) (upd g2 (25 * j40 + j54) (g2 (25 * (j40 - 1) + j54))) (by omega)  hz54 _ _ hP hD hS _ (lv_sub hl [0, 5, 6, 7, 8] rfl)
                      · rw [if_neg c174] at hz54
                        refine lv_iload hx hb dX6_rip_177 (lv_at hl 1 rfl) ?_
                        refine lv_goto (tgt := 184) hx hb dX6_rip_179 (by decide) ?_
                        refine lv_istore (lv' := [(5, .int ((g2 ((25 * (j40 - 1) + j54) - 1)) + (0 : Int32))), (8, .int ((g2 ((25 * (j40 - 1) + j54) - 1)) + (0 : Int32))), (7, .int (g2 ((25 * j40 + j54) - 1))), (6, .int (g2 (25 * (j40 - 1) + j54))), (4, .int (nI j54)), (3, .int (nI j40)), (2, .int (nI (mN (imB im kni.toNatClampNeg)))), (0, .ref hm), (1, .int kni)]) hx hb dX6_rip_184 hl (by decide) rfl (fun ls hl => ?_)
                        refine lv_aload_n hx hb dX6_rip_186 rfl (lv_at hl 7 rfl) ?_
                        refine va_get (D := (dC, dI)) (ci := 6) (v := .ref ma) (C := RX6) (T := TX6) (N := 15) hx hb hts hiX6 hown hK hP 0 rfl rfl 13 (by decide) fl35 (fun _ h9 => h9) rfl dX6_rip_187 ?_
                        refine lv_bipush (v := (25 : Int32)) hx hb dX6_rip_190 (by decide) ?_
                        refine lv_iload_n hx hb dX6_rip_192 rfl (lv_at hl 5 rfl) ?_
                        refine lv_imul hx hb dX6_rip_193 ?_
                        refine kx_e (pk_mul (25) (j40)) ?_
                        refine lv_iload hx hb dX6_rip_194 (lv_at hl 4 rfl) ?_
                        refine lv_iadd hx hb dX6_rip_196 ?_
                        refine kx_e (nI_add (25 * j40) (j54)) ?_
                        refine lv_iload hx hb dX6_rip_197 (lv_at hl 0 rfl) ?_
                        refine kx_st hx hb hK hP hD hS 4 0 rfl rfl (25 * j40 + j54) rfl (by omega) (by decide) dX6_rip_199 (fun H locs hP hD hS => ?_)
                        have hP : va_P (dC, dI) vwCl [(hm, .inr (6, [.ref mb, .ref mn, .ref mk, .int (nI sg), .ref ms, .int (nI sn), .ref mp, .int ud, .ref mq, .int rz, .int az, .ref mi, .ref mz, .ref ma, .ref mc])), (mb, .inl (cyI, 97, .inl bk)), (mi, .inl (cyI, 300, .inl im)), (mz, .inl (cyZ, 2, .inl zk)), (ma, .inl (cyI, 625, .inl (upd g2 (25 * j40 + j54) ((g2 ((25 * (j40 - 1) + j54) - 1)) + (0 : Int32)))))] H := hP
                        have hD : va_D A [(hm, .inr (6, [.ref mb, .ref mn, .ref mk, .int (nI sg), .ref ms, .int (nI sn), .ref mp, .int ud, .ref mq, .int rz, .int az, .ref mi, .ref mz, .ref ma, .ref mc])), (mb, .inl (cyI, 97, .inl bk)), (mi, .inl (cyI, 300, .inl im)), (mz, .inl (cyZ, 2, .inl zk)), (ma, .inl (cyI, 625, .inl (upd g2 (25 * j40 + j54) ((g2 ((25 * (j40 - 1) + j54) - 1)) + (0 : Int32)))))] := hD
                        refine lv_iinc (v := (nI (j54 + 1))) (lv' := [(4, .int (nI (j54 + 1))), (5, .int ((g2 ((25 * (j40 - 1) + j54) - 1)) + (0 : Int32))), (8, .int ((g2 ((25 * (j40 - 1) + j54) - 1)) + (0 : Int32))), (7, .int (g2 ((25 * j40 + j54) - 1))), (6, .int (g2 (25 * (j40 - 1) + j54))), (3, .int (nI j40)), (2, .int (nI (mN (imB im kni.toNatClampNeg)))), (0, .ref hm), (1, .int kni)]) hx hb dX6_rip_200 hl (k := 4) rfl (by exact nI_add (j54) 1) (by decide) rfl (fun ls hl => ?_)
                        refine lv_goto (tgt := 54) hx hb dX6_rip_203 (by decide) ?_
                        exact ih (j54 + 1) (upd g2 (25 * j40 + j54) ((g2 ((25 * (j40 - 1) + j54) - 1)) + (0 : Int32))) (by omega)  hz54 _ _ hP hD hS _ (lv_sub hl [0, 5, 6, 7, 8] rfl)
                  · rw [if_pos c143] at hz54
                    refine lv_iconst (v := (1 : Int32)) hx hb dX6_rip_146 (by decide) ?_
                    refine lv_goto (tgt := 151) hx hb dX6_rip_147 (by decide) ?_
                    refine lv_iadd hx hb dX6_rip_151 ?_
                    refine lv_istore (lv' := [(8, .int ((g2 ((25 * (j40 - 1) + j54) - 1)) + (1 : Int32))), (7, .int (g2 ((25 * j40 + j54) - 1))), (6, .int (g2 (25 * (j40 - 1) + j54))), (5, .int (0 : Int32)), (4, .int (nI j54)), (3, .int (nI j40)), (2, .int (nI (mN (imB im kni.toNatClampNeg)))), (0, .ref hm), (1, .int kni)]) hx hb dX6_rip_152 hl (by decide) rfl (fun ls hl => ?_)
                    refine lv_iload hx hb dX6_rip_154 (lv_at hl 2 rfl) ?_
                    refine lv_iload hx hb dX6_rip_156 (lv_at hl 1 rfl) ?_
                    refine lv_icmp_le (tgt := 166) hx hb dX6_rip_158 (by decide) (fun c158 => ?_) (fun c158 => ?_)
                    · rw [if_pos c158] at hz54
                      refine lv_iload hx hb dX6_rip_166 (lv_at hl 1 rfl) ?_
                      refine lv_istore (lv' := [(5, .int (g2 ((25 * j40 + j54) - 1))), (8, .int ((g2 ((25 * (j40 - 1) + j54) - 1)) + (1 : Int32))), (7, .int (g2 ((25 * j40 + j54) - 1))), (6, .int (g2 (25 * (j40 - 1) + j54))), (4, .int (nI j54)), (3, .int (nI j40)), (2, .int (nI (mN (imB im kni.toNatClampNeg)))), (0, .ref hm), (1, .int kni)]) hx hb dX6_rip_168 hl (by decide) rfl (fun ls hl => ?_)
                      refine lv_iload hx hb dX6_rip_170 (lv_at hl 1 rfl) ?_
                      refine lv_iload hx hb dX6_rip_172 (lv_at hl 0 rfl) ?_
                      refine lv_icmp_le (tgt := 182) hx hb dX6_rip_174 (by decide) (fun c174 => ?_) (fun c174 => ?_)
                      · rw [if_pos c174] at hz54
                        refine lv_iload hx hb dX6_rip_182 (lv_at hl 0 rfl) ?_
                        refine lv_istore (lv' := [(5, .int (g2 ((25 * j40 + j54) - 1))), (8, .int ((g2 ((25 * (j40 - 1) + j54) - 1)) + (1 : Int32))), (7, .int (g2 ((25 * j40 + j54) - 1))), (6, .int (g2 (25 * (j40 - 1) + j54))), (4, .int (nI j54)), (3, .int (nI j40)), (2, .int (nI (mN (imB im kni.toNatClampNeg)))), (0, .ref hm), (1, .int kni)]) hx hb dX6_rip_184 hl (by decide) rfl (fun ls hl => ?_)
                        refine lv_aload_n hx hb dX6_rip_186 rfl (lv_at hl 7 rfl) ?_
                        refine va_get (D := (dC, dI)) (ci := 6) (v := .ref ma) (C := RX6) (T := TX6) (N := 15) hx hb hts hiX6 hown hK hP 0 rfl rfl 13 (by decide) fl35 (fun _ h9 => h9) rfl dX6_rip_187 ?_
                        refine lv_bipush (v := (25 : Int32)) hx hb dX6_rip_190 (by decide) ?_
                        refine lv_iload_n hx hb dX6_rip_192 rfl (lv_at hl 5 rfl) ?_
                        refine lv_imul hx hb dX6_rip_193 ?_
                        refine kx_e (pk_mul (25) (j40)) ?_
                        refine lv_iload hx hb dX6_rip_194 (lv_at hl 4 rfl) ?_
                        refine lv_iadd hx hb dX6_rip_196 ?_
                        refine kx_e (nI_add (25 * j40) (j54)) ?_
                        refine lv_iload hx hb dX6_rip_197 (lv_at hl 0 rfl) ?_
                        refine kx_st hx hb hK hP hD hS 4 0 rfl rfl (25 * j40 + j54) rfl (by omega) (by decide) dX6_rip_199 (fun H locs hP hD hS => ?_)
                        have hP : va_P (dC, dI) vwCl [(hm, .inr (6, [.ref mb, .ref mn, .ref mk, .int (nI sg), .ref ms, .int (nI sn), .ref mp, .int ud, .ref mq, .int rz, .int az, .ref mi, .ref mz, .ref ma, .ref mc])), (mb, .inl (cyI, 97, .inl bk)), (mi, .inl (cyI, 300, .inl im)), (mz, .inl (cyZ, 2, .inl zk)), (ma, .inl (cyI, 625, .inl (upd g2 (25 * j40 + j54) (g2 ((25 * j40 + j54) - 1)))))] H := hP
                        have hD : va_D A [(hm, .inr (6, [.ref mb, .ref mn, .ref mk, .int (nI sg), .ref ms, .int (nI sn), .ref mp, .int ud, .ref mq, .int rz, .int az, .ref mi, .ref mz, .ref ma, .ref mc])), (mb, .inl (cyI, 97, .inl bk)), (mi, .inl (cyI, 300, .inl im)), (mz, .inl (cyZ, 2, .inl zk)), (ma, .inl (cyI, 625, .inl (upd g2 (25 * j40 + j54) (g2 ((25 * j40 + j54) - 1)))))] := hD
                        refine lv_iinc (v := (nI (j54 + 1))) (lv' := [(4, .int (nI (j54 + 1))), (5, .int (g2 ((25 * j40 + j54) - 1))), (8, .int ((g2 ((25 * (j40 - 1) + j54) - 1)) + (1 : Int32))), (7, .int (g2 ((25 * j40 + j54) - 1))), (6, .int (g2 (25 * (j40 - 1) + j54))), (3, .int (nI j40)), (2, .int (nI (mN (imB im kni.toNatClampNeg)))), (0, .ref hm), (1, .int kni)]) hx hb dX6_rip_200 hl (k := 4) rfl (by exact nI_add (j54) 1) (by decide) rfl (fun ls hl => ?_)
                        refine lv_goto (tgt := 54) hx hb dX6_rip_203 (by decide) ?_
                        exact ih (j54 + 1) (upd g2 (25 * j40 + j54) (g2 ((25 * j40 + j54) - 1))) (by omega)  hz54 _ _ hP hD hS _ (lv_sub hl [0, 5, 6, 7, 8] rfl)
                      · rw [if_neg c174] at hz54
                        refine lv_iload hx hb dX6_rip_177 (lv_at hl 1 rfl) ?_
                        refine lv_goto (tgt := 184) hx hb dX6_rip_179 (by decide) ?_
                        refine lv_istore (lv' := [(5, .int ((g2 ((25 * (j40 - 1) + j54) - 1)) + (1 : Int32))), (8, .int ((g2 ((25 * (j40 - 1) + j54) - 1)) + (1 : Int32))), (7, .int (g2 ((25 * j40 + j54) - 1))), (6, .int (g2 (25 * (j40 - 1) + j54))), (4, .int (nI j54)), (3, .int (nI j40)), (2, .int (nI (mN (imB im kni.toNatClampNeg)))), (0, .ref hm), (1, .int kni)]) hx hb dX6_rip_184 hl (by decide) rfl (fun ls hl => ?_)
                        refine lv_aload_n hx hb dX6_rip_186 rfl (lv_at hl 7 rfl) ?_
                        refine va_get (D := (dC, dI)) (ci := 6) (v := .ref ma) (C := RX6) (T := TX6) (N := 15) hx hb hts hiX6 hown hK hP 0 rfl rfl 13 (by decide) fl35 (fun _ h9 => h9) rfl dX6_rip_187 ?_
                        refine lv_bipush (v := (25 : Int32)) hx hb dX6_rip_190 (by decide) ?_
                        refine lv_iload_n hx hb dX6_rip_192 rfl (lv_at hl 5 rfl) ?_
                        refine lv_imul hx hb dX6_rip_193 ?_
                        refine kx_e (pk_mul (25) (j40)) ?_
                        refine lv_iload hx hb dX6_rip_194 (lv_at hl 4 rfl) ?_
                        refine lv_iadd hx hb dX6_rip_196 ?_
                        refine kx_e (nI_add (25 * j40) (j54)) ?_
                        refine lv_iload hx hb dX6_rip_197 (lv_at hl 0 rfl) ?_
                        refine kx_st hx hb hK hP hD hS 4 0 rfl rfl (25 * j40 + j54) rfl (by omega) (by decide) dX6_rip_199 (fun H locs hP hD hS => ?_)
                        have hP : va_P (dC, dI) vwCl [(hm, .inr (6, [.ref mb, .ref mn, .ref mk, .int (nI sg), .ref ms, .int (nI sn), .ref mp, .int ud, .ref mq, .int rz, .int az, .ref mi, .ref mz, .ref ma, .ref mc])), (mb, .inl (cyI, 97, .inl bk)), (mi, .inl (cyI, 300, .inl im)), (mz, .inl (cyZ, 2, .inl zk)), (ma, .inl (cyI, 625, .inl (upd g2 (25 * j40 + j54) ((g2 ((25 * (j40 - 1) + j54) - 1)) + (1 : Int32)))))] H := hP
                        have hD : va_D A [(hm, .inr (6, [.ref mb, .ref mn, .ref mk, .int (nI sg), .ref ms, .int (nI sn), .ref mp, .int ud, .ref mq, .int rz, .int az, .ref mi, .ref mz, .ref ma, .ref mc])), (mb, .inl (cyI, 97, .inl bk)), (mi, .inl (cyI, 300, .inl im)), (mz, .inl (cyZ, 2, .inl zk)), (ma, .inl (cyI, 625, .inl (upd g2 (25 * j40 + j54) ((g2 ((25 * (j40 - 1) + j54) - 1)) + (1 : Int32)))))] := hD
                        refine lv_iinc (v := (nI (j54 + 1))) (lv' := [(4, .int (nI (j54 + 1))), (5, .int ((g2 ((25 * (j40 - 1) + j54) - 1)) + (1 : Int32))), (8, .int ((g2 ((25 * (j40 - 1) + j54) - 1)) + (1 : Int32))), (7, .int (g2 ((25 * j40 + j54) - 1))), (6, .int (g2 (25 * (j40 - 1) + j54))), (3, .int (nI j40)), (2, .int (nI (mN (imB im kni.toNatClampNeg)))), (0, .ref hm), (1, .int kni)]) hx hb dX6_rip_200 hl (k := 4) rfl (by exact nI_add (j54) 1) (by decide) rfl (fun ls hl => ?_)
                        refine lv_goto (tgt := 54) hx hb dX6_rip_203 (by decide) ?_
                        exact ih (j54 + 1) (upd g2 (25 * j40 + j54) ((g2 ((25 * (j40 - 1) + j54) - 1)) + (1 : Int32))) (by omega)  hz54 _ _ hP hD hS _ (lv_sub hl [0, 5, 6, 7, 8] rfl)
                    · rw [if_neg c158] at hz54
                      refine lv_iload hx hb dX6_rip_161 (lv_at hl 2 rfl) ?_
                      refine lv_goto (tgt := 168) hx hb dX6_rip_163 (by decide) ?_
                      refine lv_istore (lv' := [(5, .int (g2 (25 * (j40 - 1) + j54))), (8, .int ((g2 ((25 * (j40 - 1) + j54) - 1)) + (1 : Int32))), (7, .int (g2 ((25 * j40 + j54) - 1))), (6, .int (g2 (25 * (j40 - 1) + j54))), (4, .int (nI j54)), (3, .int (nI j40)), (2, .int (nI (mN (imB im kni.toNatClampNeg)))), (0, .ref hm), (1, .int kni)]) hx hb dX6_rip_168 hl (by decide) rfl (fun ls hl => ?_)
                      refine lv_iload hx hb dX6_rip_170 (lv_at hl 1 rfl) ?_
                      refine lv_iload hx hb dX6_rip_172 (lv_at hl 0 rfl) ?_
                      refine lv_icmp_le (tgt := 182) hx hb dX6_rip_174 (by decide) (fun c174 => ?_) (fun c174 => ?_)
                      · rw [if_pos c174] at hz54
                        refine lv_iload hx hb dX6_rip_182 (lv_at hl 0 rfl) ?_
                        refine lv_istore (lv' := [(5, .int (g2 (25 * (j40 - 1) + j54))), (8, .int ((g2 ((25 * (j40 - 1) + j54) - 1)) + (1 : Int32))), (7, .int (g2 ((25 * j40 + j54) - 1))), (6, .int (g2 (25 * (j40 - 1) + j54))), (4, .int (nI j54)), (3, .int (nI j40)), (2, .int (nI (mN (imB im kni.toNatClampNeg)))), (0, .ref hm), (1, .int kni)]) hx hb dX6_rip_184 hl (by decide) rfl (fun ls hl => ?_)
                        refine lv_aload_n hx hb dX6_rip_186 rfl (lv_at hl 7 rfl) ?_
                        refine va_get (D := (dC, dI)) (ci := 6) (v := .ref ma) (C := RX6) (T := TX6) (N := 15) hx hb hts hiX6 hown hK hP 0 rfl rfl 13 (by decide) fl35 (fun _ h9 => h9) rfl dX6_rip_187 ?_
                        refine lv_bipush (v := (25 : Int32)) hx hb dX6_rip_190 (by decide) ?_
                        refine lv_iload_n hx hb dX6_rip_192 rfl (lv_at hl 5 rfl) ?_
                        refine lv_imul hx hb dX6_rip_193 ?_
                        refine kx_e (pk_mul (25) (j40)) ?_
                        refine lv_iload hx hb dX6_rip_194 (lv_at hl 4 rfl) ?_
                        refine lv_iadd hx hb dX6_rip_196 ?_
                        refine kx_e (nI_add (25 * j40) (j54)) ?_
                        refine lv_iload hx hb dX6_rip_197 (lv_at hl 0 rfl) ?_
                        refine kx_st hx hb hK hP hD hS 4 0 rfl rfl (25 * j40 + j54) rfl (by omega) (by decide) dX6_rip_199 (fun H locs hP hD hS => ?_)
                        have hP : va_P (dC, dI) vwCl [(hm, .inr (6, [.ref mb, .ref mn, .ref mk, .int (nI sg), .ref ms, .int (nI sn), .ref mp, .int ud, .ref mq, .int rz, .int az, .ref mi, .ref mz, .ref ma, .ref mc])), (mb, .inl (cyI, 97, .inl bk)), (mi, .inl (cyI, 300, .inl im)), (mz, .inl (cyZ, 2, .inl zk)), (ma, .inl (cyI, 625, .inl (upd g2 (25 * j40 + j54) (g2 (25 * (j40 - 1) + j54)))))] H := hP
                        have hD : va_D A [(hm, .inr (6, [.ref mb, .ref mn, .ref mk, .int (nI sg), .ref ms, .int (nI sn), .ref mp, .int ud, .ref mq, .int rz, .int az, .ref mi, .ref mz, .ref ma, .ref mc])), (mb, .inl (cyI, 97, .inl bk)), (mi, .inl (cyI, 300, .inl im)), (mz, .inl (cyZ, 2, .inl zk)), (ma, .inl (cyI, 625, .inl (upd g2 (25 * j40 + j54) (g2 (25 * (j40 - 1) + j54)))))] := hD
                        refine lv_iinc (v := (nI (j54 + 1))) (lv' := [(4, .int (nI (j54 + 1))), (5, .int (g2 (25 * (j40 - 1) + j54))), (8, .int ((g2 ((25 * (j40 - 1) + j54) - 1)) + (1 : Int32))), (7, .int (g2 ((25 * j40 + j54) - 1))), (6, .int (g2 (25 * (j40 - 1) + j54))), (3, .int (nI j40)), (2, .int (nI (mN (imB im kni.toNatClampNeg)))), (0, .ref hm), (1, .int kni)]) hx hb dX6_rip_200 hl (k := 4) rfl (by exact nI_add (j54) 1) (by decide) rfl (fun ls hl => ?_)
                        refine lv_goto (tgt := 54) hx hb dX6_rip_203 (by decide) ?_
                        exact ih (j54 + 1) (upd g2 (25 * j40 + j54) (g2 (25 * (j40 - 1) + j54))) (by omega)  hz54 _ _ hP hD hS _ (lv_sub hl [0, 5, 6, 7, 8] rfl)
                      · rw [if_neg c174] at hz54
                        refine lv_iload hx hb dX6_rip_177 (lv_at hl 1 rfl) ?_
                        refine lv_goto (tgt := 184) hx hb dX6_rip_179 (by decide) ?_
                        refine lv_istore (lv' := [(5, .int ((g2 ((25 * (j40 - 1) + j54) - 1)) + (1 : Int32))), (8, .int ((g2 ((25 * (j40 - 1) + j54) - 1)) + (1 : Int32))), (7, .int (g2 ((25 * j40 + j54) - 1))), (6, .int (g2 (25 * (j40 - 1) + j54))), (4, .int (nI j54)), (3, .int (nI j40)), (2, .int (nI (mN (imB im kni.toNatClampNeg)))), (0, .ref hm), (1, .int kni)]) hx hb dX6_rip_184 hl (by decide) rfl (fun ls hl => ?_)
                        refine lv_aload_n hx hb dX6_rip_186 rfl (lv_at hl 7 rfl) ?_
                        refine va_get (D := (dC, dI)) (ci := 6) (v := .ref ma) (C := RX6) (T := TX6) (N := 15) hx hb hts hiX6 hown hK hP 0 rfl rfl 13 (by decide) fl35 (fun _ h9 => h9) rfl dX6_rip_187 ?_
                        refine lv_bipush (v := (25 : Int32)) hx hb dX6_rip_190 (by decide) ?_
                        refine lv_iload_n hx hb dX6_rip_192 rfl (lv_at hl 5 rfl) ?_
                        refine lv_imul hx hb dX6_rip_193 ?_
                        refine kx_e (pk_mul (25) (j40)) ?_
                        refine lv_iload hx hb dX6_rip_194 (lv_at hl 4 rfl) ?_
                        refine lv_iadd hx hb dX6_rip_196 ?_
                        refine kx_e (nI_add (25 * j40) (j54)) ?_
                        refine lv_iload hx hb dX6_rip_197 (lv_at hl 0 rfl) ?_
                        refine kx_st hx hb hK hP hD hS 4 0 rfl rfl (25 * j40 + j54) rfl (by omega) (by decide) dX6_rip_199 (fun H locs hP hD hS => ?_)
                        have hP : va_P (dC, dI) vwCl [(hm, .inr (6, [.ref mb, .ref mn, .ref mk, .int (nI sg), .ref ms, .int (nI sn), .ref mp, .int ud, .ref mq, .int rz, .int az, .ref mi, .ref mz, .ref ma, .ref mc])), (mb, .inl (cyI, 97, .inl bk)), (mi, .inl (cyI, 300, .inl im)), (mz, .inl (cyZ, 2, .inl zk)), (ma, .inl (cyI, 625, .inl (upd g2 (25 * j40 + j54) ((g2 ((25 * (j40 - 1) + j54) - 1)) + (1 : Int32)))))] H := hP
                        have hD : va_D A [(hm, .inr (6, [.ref mb, .ref mn, .ref mk, .int (nI sg), .ref ms, .int (nI sn), .ref mp, .int ud, .ref mq, .int rz, .int az, .ref mi, .ref mz, .ref ma, .ref mc])), (mb, .inl (cyI, 97, .inl bk)), (mi, .inl (cyI, 300, .inl im)), (mz, .inl (cyZ, 2, .inl zk)), (ma, .inl (cyI, 625, .inl (upd g2 (25 * j40 + j54) ((g2 ((25 * (j40 - 1) + j54) - 1)) + (1 : Int32)))))] := hD
                        refine lv_iinc (v := (nI (j54 + 1))) (lv' := [(4, .int (nI (j54 + 1))), (5, .int ((g2 ((25 * (j40 - 1) + j54) - 1)) + (1 : Int32))), (8, .int ((g2 ((25 * (j40 - 1) + j54) - 1)) + (1 : Int32))), (7, .int (g2 ((25 * j40 + j54) - 1))), (6, .int (g2 (25 * (j40 - 1) + j54))), (3, .int (nI j40)), (2, .int (nI (mN (imB im kni.toNatClampNeg)))), (0, .ref hm), (1, .int kni)]) hx hb dX6_rip_200 hl (k := 4) rfl (by exact nI_add (j54) 1) (by decide) rfl (fun ls hl => ?_)
                        refine lv_goto (tgt := 54) hx hb dX6_rip_203 (by decide) ?_
                        exact ih (j54 + 1) (upd g2 (25 * j40 + j54) ((g2 ((25 * (j40 - 1) + j54) - 1)) + (1 : Int32))) (by omega)  hz54 _ _ hP hD hS _ (lv_sub hl [0, 5, 6, 7, 8] rfl)
          exact LP54 (mN (imB im kni.toNatClampNeg) + 1) 0 g1 (by omega)  hz54 _ _ hP hD hS _ (lv_sub hl [0, 1, 2, 3, 4] rfl)
      exact LP40 (mN bk + 1) 0 ag (by omega)  hz40 _ _ hP hD hS _ (lv_sub hl [0, 1, 2, 3] rfl)
    · rw [if_pos c18] at hF
      refine lv_bipush (v := (-3 : Int32)) hx hb dX6_rip_21 (by decide) ?_
      subst hF
      subst hAe
      exact W.iret hx hb hr (fun t ht _ => ⟨⟨_, (), rfl, rfl, by rw [ht]; exact hP, hD⟩, hS.F ht⟩) hS.2.2 dX6_rip_23
  · rw [if_pos c6] at hF
    refine lv_bipush (v := (-2 : Int32)) hx hb dX6_rip_9 (by decide) ?_
    subst hF
    subst hAe
    exact W.iret hx hb hr (fun t ht _ => ⟨⟨_, (), rfl, rfl, by rw [ht]; exact hP, hD⟩, hS.F ht⟩) hS.2.2 dX6_rip_11

def fX6_stretches_L11 (bk : Nat → Int32) (bu : Int32) : Nat → Nat → Int32 → Int32 → Int32 → Int32
  | 0, _, sr, su, op => sr
  | r11 + 1, j11, sr, su, op => (if (bk (24 + j11)) ≤ bu then (if op = 0 then (fX6_stretches_L11 bk bu r11 (j11 + 1) (sr + (1 : Int32)) ((0 : Int32) + (bk (24 + j11))) (1 : Int32)) else (if (su + (bk (24 + j11))) ≤ bu then (fX6_stretches_L11 bk bu r11 (j11 + 1) sr (su + (bk (24 + j11))) op) else (fX6_stretches_L11 bk bu r11 (j11 + 1) (sr + (1 : Int32)) ((0 : Int32) + (bk (24 + j11))) (1 : Int32)))) else (1000000 : Int32))
def fX6_stretches (bk : Nat → Int32) (kf : Nat) (bu : Int32) : Int32 :=
  (fX6_stretches_L11 bk bu ((mN bk) - kf) kf (0 : Int32) (0 : Int32) (0 : Int32))
set_option maxHeartbeats 4000000 in
set_option maxRecDepth 100000 in
theorem c_X6_stretches (l : Launch) (dC : Nat → ClassId) (dI : Nat → Nat → Nat) (cyI cyZ : ClassId) (hm mb mn mk ms mp mq mi mz ma mc : Nat) (sg : Nat) (sn : Nat) (ud : Int32) (rz : Int32) (az : Int32) (bk : Nat → Int32) (kf : Nat) (bu : Int32) (hI : kx_I bk) (hf : kf ≤ mN bk) (r : Int32) (hF : fX6_stretches bk kf bu = r) : Met l yX6_stretches wsX6_stretches ({ frames := 0, cells := 0, slots := 0, locals := 0 }) (kx_rp (dC, dI) [(hm, .inr (6, [.ref mb, .ref mn, .ref mk, .int (nI sg), .ref ms, .int (nI sn), .ref mp, .int ud, .ref mq, .int rz, .int az, .ref mi, .ref mz, .ref ma, .ref mc])), (mb, .inl (cyI, 97, .inl bk))] [(cyI, .int), (cyZ, .boolean)] [.ref hm, .int (nI kf), .int bu]) (k2_QcV (.int r)) 0 0 (fun _ => False) := by
  refine Met.ofW (cc := cX6_stretches) (maxL := 8) (ret := (some .int)) (by decide) rfl ?_
  intro p e s m args below meth c s₁ B hml hv
  obtain ⟨rfl, hP, hK, hN⟩ := hv
  have hx := B.exec
  have hb := B.bytes
  have hr := B.returns
  have hts := atoms_spec (ws := wsX6_stretches) B.pre
  have hown : s.vm.findClass RX6 = some m.cls := findClass_of_methodNamed B.named
  have hlocks := B.notSynchronized
  have hiX6 : ∀ w ∈ wsX60, w ∈ wsX6_stretches := by decide +kernel
  have fl7 := hts (.fieldLink RX6 7 "KnitChronicleModel" "book" "[I") (by decide +kernel)
  have hl := lv_entry ([.ref hm, .int (nI kf), .int bu]) (n := 8) (Nat.le_of_ble_eq_true rfl)
  rw [lg_entry_eq]
  generalize (lg_sl ([.ref hm, .int (nI kf), .int bu]) ++ List.replicate (8 - (lg_sl ([.ref hm, .int (nI kf), .int bu])).length) Slot.unset).toArray = ls at hl ⊢
  have hl : lv_has ls 8 [(0, .ref hm), (1, .int (nI kf)), (2, .int bu)] := hl
  unfold fX6_stretches at hF
  have hmN := hI.2.1
  refine lv_iconst (v := (0 : Int32)) hx hb dX6_stretches_0 (by decide) ?_
  refine lv_istore_n (lv' := [(3, .int (0 : Int32)), (0, .ref hm), (1, .int (nI kf)), (2, .int bu)]) hx hb dX6_stretches_1 rfl hl (by decide) rfl (fun ls hl => ?_)
  refine lv_iconst (v := (0 : Int32)) hx hb dX6_stretches_2 (by decide) ?_
  refine lv_istore (lv' := [(4, .int (0 : Int32)), (3, .int (0 : Int32)), (0, .ref hm), (1, .int (nI kf)), (2, .int bu)]) hx hb dX6_stretches_3 hl (by decide) rfl (fun ls hl => ?_)
  refine lv_iconst (v := (0 : Int32)) hx hb dX6_stretches_5 (by decide) ?_
  refine lv_istore (lv' := [(5, .int (0 : Int32)), (4, .int (0 : Int32)), (3, .int (0 : Int32)), (0, .ref hm), (1, .int (nI kf)), (2, .int bu)]) hx hb dX6_stretches_6 hl (by decide) rfl (fun ls hl => ?_)
  refine lv_iload_n hx hb dX6_stretches_8 rfl (lv_at hl 4 rfl) ?_
  refine lv_istore (lv' := [(6, .int (nI kf)), (5, .int (0 : Int32)), (4, .int (0 : Int32)), (3, .int (0 : Int32)), (0, .ref hm), (1, .int (nI kf)), (2, .int bu)]) hx hb dX6_stretches_9 hl (by decide) rfl (fun ls hl => ?_)
  have LP11 : ∀ (r11 : Nat) (j11 : Nat) (sr : Int32) (su : Int32) (op : Int32), r11 + j11 = mN bk → fX6_stretches_L11 bk bu r11 j11 sr su op = r → ∀ (ls : Array Slot), lv_has ls 8 [(6, .int (nI j11)), (5, .int op), (4, .int su), (3, .int sr), (0, .ref hm), (1, .int (nI kf)), (2, .int bu)] → W p l e (headSpec wsX6_stretches ({ frames := 0, cells := 0, slots := 0, locals := 0 } : Room)).room s m ([.ref hm, .int (nI kf), .int bu] : List Value).toArray below meth c s.heap [] 0 0 (MQ below (k2_QcV (.int r)) ([.ref hm, .int (nI kf), .int bu] : List Value).toArray s 0 0 (fun _ => False)) (F0 m 11 ls []) := by
    intro r11
    induction r11 with
    | zero =>
      intro j11 sr su op hrj hF ls hl
      rw [fX6_stretches_L11] at hF
      refine lv_iload hx hb dX6_stretches_11 (lv_at hl 0 rfl) ?_
      refine lv_aload_n hx hb dX6_stretches_13 rfl (lv_at hl 4 rfl) ?_
      refine va_get (D := (dC, dI)) (ci := 6) (v := .ref mb) (C := RX6) (T := TX6) (N := 15) hx hb hts hiX6 hown hK hP 0 rfl rfl 0 (by decide) fl7 (fun _ h9 => h9) rfl dX6_stretches_14 ?_
      refine lv_bipush (v := (96 : Int32)) hx hb dX6_stretches_17 (by decide) ?_
      refine kx_ld hx hb hK hP 1 0 rfl rfl (96) rfl (by omega) (by decide) dX6_stretches_19 ?_
      refine kx_e hI.1 ?_
      refine kx_ge hx hb (j11) (mN bk) rfl rfl (by omega) (by omega) dX6_stretches_20 (by decide) (tgt := 80) (fun c20 => ?_) (fun c20 => absurd c20 (by omega))
      refine lv_iload_n hx hb dX6_stretches_80 rfl (lv_at hl 3 rfl) ?_
      exact W.iret hx hb hr (fun t ht _ => ⟨congrArg (fun z => Outcome.returned (some (Value.int z))) hF, ht⟩) (fun _ h => absurd h List.not_mem_nil) dX6_stretches_81
    | succ r11 ih =>
      intro j11 sr su op hrj hF ls hl
      rw [fX6_stretches_L11] at hF
      refine lv_iload hx hb dX6_stretches_11 (lv_at hl 0 rfl) ?_
      refine lv_aload_n hx hb dX6_stretches_13 rfl (lv_at hl 4 rfl) ?_
      refine va_get (D := (dC, dI)) (ci := 6) (v := .ref mb) (C := RX6) (T := TX6) (N := 15) hx hb hts hiX6 hown hK hP 0 rfl rfl 0 (by decide) fl7 (fun _ h9 => h9) rfl dX6_stretches_14 ?_
      refine lv_bipush (v := (96 : Int32)) hx hb dX6_stretches_17 (by decide) ?_
      refine kx_ld hx hb hK hP 1 0 rfl rfl (96) rfl (by omega) (by decide) dX6_stretches_19 ?_
      refine kx_e hI.1 ?_
      refine kx_ge hx hb (j11) (mN bk) rfl rfl (by omega) (by omega) dX6_stretches_20 (by decide) (tgt := 80) (fun c20 => absurd c20 (by omega)) (fun c20 => ?_)
      refine lv_aload_n hx hb dX6_stretches_23 rfl (lv_at hl 4 rfl) ?_
      refine va_get (D := (dC, dI)) (ci := 6) (v := .ref mb) (C := RX6) (T := TX6) (N := 15) hx hb hts hiX6 hown hK hP 0 rfl rfl 0 (by decide) fl7 (fun _ h9 => h9) rfl dX6_stretches_24 ?_
      refine lv_bipush (v := (24 : Int32)) hx hb dX6_stretches_27 (by decide) ?_
      refine lv_iload hx hb dX6_stretches_29 (lv_at hl 0 rfl) ?_
      refine lv_iadd hx hb dX6_stretches_31 ?_
      refine kx_e (nI_add (24) (j11)) ?_
      refine kx_ld hx hb hK hP 1 0 rfl rfl (24 + j11) rfl (by omega) (by decide) dX6_stretches_32 ?_
      refine lv_istore (lv' := [(7, .int (bk (24 + j11))), (6, .int (nI j11)), (5, .int op), (4, .int su), (3, .int sr), (0, .ref hm), (1, .int (nI kf)), (2, .int bu)]) hx hb dX6_stretches_33 hl (by decide) rfl (fun ls hl => ?_)
      refine lv_iload hx hb dX6_stretches_35 (lv_at hl 0 rfl) ?_
      refine lv_iload_n hx hb dX6_stretches_37 rfl (lv_at hl 7 rfl) ?_
      refine lv_icmp_le (tgt := 44) hx hb dX6_stretches_38 (by decide) (fun c38 => ?_) (fun c38 => ?_)
      · rw [if_pos c38] at hF
        refine lv_iload hx hb dX6_stretches_44 (lv_at hl 2 rfl) ?_
        refine lv_if_eq (tgt := 58) hx hb dX6_stretches_46 (by decide) (fun c46 => ?_) (fun c46 => ?_)
        · rw [if_pos c46] at hF
          refine lv_iinc (v := (sr + (1 : Int32))) (lv' := [(3, .int (sr + (1 : Int32))), (7, .int (bk (24 + j11))), (6, .int (nI j11)), (5, .int op), (4, .int su), (0, .ref hm), (1, .int (nI kf)), (2, .int bu)]) hx hb dX6_stretches_58 hl (k := 4) rfl rfl (by decide) rfl (fun ls hl => ?_)
          refine lv_iconst (v := (0 : Int32)) hx hb dX6_stretches_61 (by decide) ?_
          refine lv_istore (lv' := [(4, .int (0 : Int32)), (3, .int (sr + (1 : Int32))), (7, .int (bk (24 + j11))), (6, .int (nI j11)), (5, .int op), (0, .ref hm), (1, .int (nI kf)), (2, .int bu)]) hx hb dX6_stretches_62 hl (by decide) rfl (fun ls hl => ?_)
          refine lv_iconst (v := (1 : Int32)) hx hb dX6_stretches_64 (by decide) ?_
          refine lv_istore (lv' := [(5, .int (1 : Int32)), (4, .int (0 : Int32)), (3, .int (sr + (1 : Int32))), (7, .int (bk (24 + j11))), (6, .int (nI j11)), (0, .ref hm), (1, .int (nI kf)), (2, .int bu)]) hx hb dX6_stretches_65 hl (by decide) rfl (fun ls hl => ?_)
          refine lv_iload hx hb dX6_stretches_67 (lv_at hl 1 rfl) ?_
          refine lv_iload hx hb dX6_stretches_69 (lv_at hl 3 rfl) ?_
          refine lv_iadd hx hb dX6_stretches_71 ?_
          refine lv_istore (lv' := [(4, .int ((0 : Int32) + (bk (24 + j11)))), (5, .int (1 : Int32)), (3, .int (sr + (1 : Int32))), (7, .int (bk (24 + j11))), (6, .int (nI j11)), (0, .ref hm), (1, .int (nI kf)), (2, .int bu)]) hx hb dX6_stretches_72 hl (by decide) rfl (fun ls hl => ?_)
          refine lv_iinc (v := (nI (j11 + 1))) (lv' := [(6, .int (nI (j11 + 1))), (4, .int ((0 : Int32) + (bk (24 + j11)))), (5, .int (1 : Int32)), (3, .int (sr + (1 : Int32))), (7, .int (bk (24 + j11))), (0, .ref hm), (1, .int (nI kf)), (2, .int bu)]) hx hb dX6_stretches_74 hl (k := 4) rfl (by exact nI_add (j11) 1) (by decide) rfl (fun ls hl => ?_)
          refine lv_goto (tgt := 11) hx hb dX6_stretches_77 (by decide) ?_
          exact ih (j11 + 1) (sr + (1 : Int32)) ((0 : Int32) + (bk (24 + j11))) (1 : Int32) (by omega)  hF _ (lv_sub hl [0, 2, 1, 3, 5, 6, 7] rfl)
        · rw [if_neg c46] at hF
          refine lv_iload hx hb dX6_stretches_49 (lv_at hl 3 rfl) ?_
          refine lv_iload hx hb dX6_stretches_51 (lv_at hl 0 rfl) ?_
          refine lv_iadd hx hb dX6_stretches_53 ?_
          refine lv_iload_n hx hb dX6_stretches_54 rfl (lv_at hl 7 rfl) ?_
          refine lv_icmp_le (tgt := 67) hx hb dX6_stretches_55 (by decide) (fun c55 => ?_) (fun c55 => ?_)
          · rw [if_pos c55] at hF
            refine lv_iload hx hb dX6_stretches_67 (lv_at hl 3 rfl) ?_
            refine lv_iload hx hb dX6_stretches_69 (lv_at hl 0 rfl) ?_
            refine lv_iadd hx hb dX6_stretches_71 ?_
            refine lv_istore (lv' := [(4, .int (su + (bk (24 + j11)))), (7, .int (bk (24 + j11))), (6, .int (nI j11)), (5, .int op), (3, .int sr), (0, .ref hm), (1, .int (nI kf)), (2, .int bu)]) hx hb dX6_stretches_72 hl (by decide) rfl (fun ls hl => ?_)
            refine lv_iinc (v := (nI (j11 + 1))) (lv' := [(6, .int (nI (j11 + 1))), (4, .int (su + (bk (24 + j11)))), (7, .int (bk (24 + j11))), (5, .int op), (3, .int sr), (0, .ref hm), (1, .int (nI kf)), (2, .int bu)]) hx hb dX6_stretches_74 hl (k := 2) rfl (by exact nI_add (j11) 1) (by decide) rfl (fun ls hl => ?_)
            refine lv_goto (tgt := 11) hx hb dX6_stretches_77 (by decide) ?_
            exact ih (j11 + 1) sr (su + (bk (24 + j11))) op (by omega)  hF _ (lv_sub hl [0, 3, 1, 4, 5, 6, 7] rfl)
          · rw [if_neg c55] at hF
            refine lv_iinc (v := (sr + (1 : Int32))) (lv' := [(3, .int (sr + (1 : Int32))), (7, .int (bk (24 + j11))), (6, .int (nI j11)), (5, .int op), (4, .int su), (0, .ref hm), (1, .int (nI kf)), (2, .int bu)]) hx hb dX6_stretches_58 hl (k := 4) rfl rfl (by decide) rfl (fun ls hl => ?_)
            refine lv_iconst (v := (0 : Int32)) hx hb dX6_stretches_61 (by decide) ?_
            refine lv_istore (lv' := [(4, .int (0 : Int32)), (3, .int (sr + (1 : Int32))), (7, .int (bk (24 + j11))), (6, .int (nI j11)), (5, .int op), (0, .ref hm), (1, .int (nI kf)), (2, .int bu)]) hx hb dX6_stretches_62 hl (by decide) rfl (fun ls hl => ?_)
            refine lv_iconst (v := (1 : Int32)) hx hb dX6_stretches_64 (by decide) ?_
            refine lv_istore (lv' := [(5, .int (1 : Int32)), (4, .int (0 : Int32)), (3, .int (sr + (1 : Int32))), (7, .int (bk (24 + j11))), (6, .int (nI j11)), (0, .ref hm), (1, .int (nI kf)), (2, .int bu)]) hx hb dX6_stretches_65 hl (by decide) rfl (fun ls hl => ?_)
            refine lv_iload hx hb dX6_stretches_67 (lv_at hl 1 rfl) ?_
            refine lv_iload hx hb dX6_stretches_69 (lv_at hl 3 rfl) ?_
            refine lv_iadd hx hb dX6_stretches_71 ?_
            refine lv_istore (lv' := [(4, .int ((0 : Int32) + (bk (24 + j11)))), (5, .int (1 : Int32)), (3, .int (sr + (1 : Int32))), (7, .int (bk (24 + j11))), (6, .int (nI j11)), (0, .ref hm), (1, .int (nI kf)), (2, .int bu)]) hx hb dX6_stretches_72 hl (by decide) rfl (fun ls hl => ?_)
            refine lv_iinc (v := (nI (j11 + 1))) (lv' := [(6, .int (nI (j11 + 1))), (4, .int ((0 : Int32) + (bk (24 + j11)))), (5, .int (1 : Int32)), (3, .int (sr + (1 : Int32))), (7, .int (bk (24 + j11))), (0, .ref hm), (1, .int (nI kf)), (2, .int bu)]) hx hb dX6_stretches_74 hl (k := 4) rfl (by exact nI_add (j11) 1) (by decide) rfl (fun ls hl => ?_)
            refine lv_goto (tgt := 11) hx hb dX6_stretches_77 (by decide) ?_
            exact ih (j11 + 1) (sr + (1 : Int32)) ((0 : Int32) + (bk (24 + j11))) (1 : Int32) (by omega)  hF _ (lv_sub hl [0, 2, 1, 3, 5, 6, 7] rfl)
      · rw [if_neg c38] at hF
        refine lv_ldc hx hb hown (hts (.constant RX6 121 (1000000)) (by decide +kernel)) dX6_stretches_41 ?_
        exact W.iret hx hb hr (fun t ht _ => ⟨congrArg (fun z => Outcome.returned (some (Value.int z))) hF, ht⟩) (fun _ h => absurd h List.not_mem_nil) dX6_stretches_43
  exact LP11 ((mN bk) - kf) kf (0 : Int32) (0 : Int32) (0 : Int32) (by omega)  hF _ (lv_sub hl [0, 1, 2, 3, 4, 5, 6] rfl)

def fX6_mayKnit (bk : Nat → Int32) (kn : Nat → Int32) (kk : Nat) (ks : Nat) : Int32 :=
  (fX6_in ((bk (24 + ks)) - (kn kk)) (-1 : Int32) (1 : Int32))
theorem nz_X6_mayKnit (bk : Nat → Int32) (kn : Nat → Int32) (kk : Nat) (ks : Nat) : narrow .boolean (.int (fX6_mayKnit bk kn kk ks)) = .int (fX6_mayKnit bk kn kk ks) := by
  unfold fX6_mayKnit
  (repeat' split) <;> first | rfl | exact nz_X6_in ..
set_option maxHeartbeats 4000000 in
set_option maxRecDepth 100000 in
theorem c_X6_mayKnit (l : Launch) (dC : Nat → ClassId) (dI : Nat → Nat → Nat) (cyI cyZ : ClassId) (hm mb mn mk ms mp mq mi mz ma mc : Nat) (sg : Nat) (sn : Nat) (ud : Int32) (rz : Int32) (az : Int32) (bk : Nat → Int32) (kn : Nat → Int32) (kk : Nat) (ks : Nat) (hkk : kk < 4) (hks : ks < 24) (r : Int32) (hF : fX6_mayKnit bk kn kk ks = r) : Met l yX6_mayKnit wsX6_mayKnit ({ frames := 1, cells := 0, slots := 0, locals := 22 }) (kx_rp (dC, dI) [(hm, .inr (6, [.ref mb, .ref mn, .ref mk, .int (nI sg), .ref ms, .int (nI sn), .ref mp, .int ud, .ref mq, .int rz, .int az, .ref mi, .ref mz, .ref ma, .ref mc])), (mb, .inl (cyI, 97, .inl bk)), (mk, .inl (cyI, 4, .inl kn))] [(cyI, .int), (cyZ, .boolean)] [.ref hm, .int (nI kk), .int (nI ks)]) (k2_QcV (.int r)) 0 0 (fun _ => False) := by
  refine Met.ofW (cc := cX6_mayKnit) (maxL := 3) (ret := (some .boolean)) (by decide) rfl ?_
  intro p e s m args below meth c s₁ B hml hv
  obtain ⟨rfl, hP, hK, hN⟩ := hv
  have hx := B.exec
  have hb := B.bytes
  have hr := B.returns
  have hts := atoms_spec (ws := wsX6_mayKnit) B.pre
  have hown : s.vm.findClass RX6 = some m.cls := findClass_of_methodNamed B.named
  have hlocks := B.notSynchronized
  have hiX6 : ∀ w ∈ wsX60, w ∈ wsX6_mayKnit := by decide +kernel
  have fl7 := hts (.fieldLink RX6 7 "KnitChronicleModel" "book" "[I") (by decide +kernel)
  have fl16 := hts (.fieldLink RX6 16 "KnitChronicleModel" "knits" "[I") (by decide +kernel)
  have hl := lv_entry ([.ref hm, .int (nI kk), .int (nI ks)]) (n := 3) (Nat.le_of_ble_eq_true rfl)
  rw [lg_entry_eq]
  generalize (lg_sl ([.ref hm, .int (nI kk), .int (nI ks)]) ++ List.replicate (3 - (lg_sl ([.ref hm, .int (nI kk), .int (nI ks)])).length) Slot.unset).toArray = ls at hl ⊢
  have hl : lv_has ls 3 [(0, .ref hm), (1, .int (nI kk)), (2, .int (nI ks))] := hl
  unfold fX6_mayKnit at hF
  refine lv_aload_n hx hb dX6_mayKnit_0 rfl (lv_at hl 0 rfl) ?_
  refine va_get (D := (dC, dI)) (ci := 6) (v := .ref mb) (C := RX6) (T := TX6) (N := 15) hx hb hts hiX6 hown hK hP 0 rfl rfl 0 (by decide) fl7 (fun _ h9 => h9) rfl dX6_mayKnit_1 ?_
  refine lv_bipush (v := (24 : Int32)) hx hb dX6_mayKnit_4 (by decide) ?_
  refine lv_iload_n hx hb dX6_mayKnit_6 rfl (lv_at hl 2 rfl) ?_
  refine lv_iadd hx hb dX6_mayKnit_7 ?_
  refine kx_e (nI_add (24) (ks)) ?_
  refine kx_ld hx hb hK hP 1 0 rfl rfl (24 + ks) rfl (by omega) (by decide) dX6_mayKnit_8 ?_
  refine lv_aload_n hx hb dX6_mayKnit_9 rfl (lv_at hl 0 rfl) ?_
  refine va_get (D := (dC, dI)) (ci := 6) (v := .ref mk) (C := RX6) (T := TX6) (N := 15) hx hb hts hiX6 hown hK hP 0 rfl rfl 2 (by decide) fl16 (fun _ h9 => h9) rfl dX6_mayKnit_10 ?_
  refine lv_iload_n hx hb dX6_mayKnit_13 rfl (lv_at hl 1 rfl) ?_
  refine kx_ld hx hb hK hP 2 0 rfl rfl (kk) rfl (by omega) (by decide) dX6_mayKnit_14 ?_
  refine lv_isub hx hb dX6_mayKnit_15 ?_
  refine lv_iconst (v := (-1 : Int32)) hx hb dX6_mayKnit_16 (by decide) ?_
  refine lv_iconst (v := (1 : Int32)) hx hb dX6_mayKnit_17 (by decide) ?_
  refine kx_cS (As := [.int ((bk (24 + ks)) - (kn kk)), .int (-1 : Int32), .int (1 : Int32)]) (rest := []) ⟨hx, hb, hml, hown, hts⟩ (c_X6_in l dC dI cyI cyZ  ((bk (24 + ks)) - (kn kk)) (-1 : Int32) (1 : Int32)  _ rfl) (va_cwS 3 hts gX6_mayKnit_X6_in rfl rfl rfl (by decide +kernel) ⟨Nat.le_of_ble_eq_true rfl, Nat.le_of_ble_eq_true rfl⟩) hP hK hN [] rfl [0, 1] rfl rfl hl.1 rfl (Nat.le_of_ble_eq_true rfl) dX6_mayKnit_18 ⟨Nat.zero_le _, Nat.zero_le _⟩ ?_
  exact W.zret hx hb hr (nz_X6_in ..) (fun t ht _ => ⟨congrArg (fun z => Outcome.returned (some (Value.int z))) hF, ht⟩) (fun _ h => absurd h List.not_mem_nil) dX6_mayKnit_21

def fX6_layHands_L44 (bk : Nat → Int32) (j10 : Nat) (g2 : Nat → Int32) (j16 : Nat) : Nat → Nat → Int32 → Int32
  | 0, _, ls1 => ls1
  | r44 + 1, j44, ls1 => (if ((nI (mN bk)) + (-1)) ≤ (nI j10) then ls1 else (if j44 = j16 then (if ls1 ≤ ((g2 (4 * j10 + 4 + j44)) + (0 : Int32)) then (fX6_layHands_L44 bk j10 g2 j16 r44 (j44 + 1) ls1) else (fX6_layHands_L44 bk j10 g2 j16 r44 (j44 + 1) ((g2 (4 * j10 + 4 + j44)) + (0 : Int32)))) else (if ls1 ≤ ((g2 (4 * j10 + 4 + j44)) + (1 : Int32)) then (fX6_layHands_L44 bk j10 g2 j16 r44 (j44 + 1) ls1) else (fX6_layHands_L44 bk j10 g2 j16 r44 (j44 + 1) ((g2 (4 * j10 + 4 + j44)) + (1 : Int32))))))
def fX6_layHands_L16 (bk : Nat → Int32) (kn : Nat → Int32) (j10 : Nat) : Nat → Nat → (Nat → Int32) → (Nat → Int32)
  | 0, _, g2 => g2
  | r16 + 1, j16, g2 => (if (nI j10) = ((nI (mN bk)) + (-1)) then ((fun (ls1 : Int32) => (if (fX6_mayKnit bk kn j16 j10) = 0 then (fX6_layHands_L16 bk kn j10 r16 (j16 + 1) (upd g2 (4 * j10 + j16) (1000000 : Int32))) else (fX6_layHands_L16 bk kn j10 r16 (j16 + 1) (upd g2 (4 * j10 + j16) ls1)))) (fX6_layHands_L44 bk j10 g2 j16 4 0 (0 : Int32))) else ((fun (ls1 : Int32) => (if (fX6_mayKnit bk kn j16 j10) = 0 then (fX6_layHands_L16 bk kn j10 r16 (j16 + 1) (upd g2 (4 * j10 + j16) (1000000 : Int32))) else (fX6_layHands_L16 bk kn j10 r16 (j16 + 1) (upd g2 (4 * j10 + j16) ls1)))) (fX6_layHands_L44 bk j10 g2 j16 4 0 (1000000 : Int32))))
def fX6_layHands_L10 (bk : Nat → Int32) (kn : Nat → Int32) : Nat → (Nat → Int32) → (Nat → Int32)
  | 0, g1 => g1
  | j10 + 1, g1 => ((fun (g2 : Nat → Int32) => (fX6_layHands_L10 bk kn j10 g2)) (fX6_layHands_L16 bk kn j10 4 0 g1))
def fX6_layHands (bk : Nat → Int32) (kn : Nat → Int32) (cg : Nat → Int32) : (Nat → Int32) :=
  ((fun (g1 : Nat → Int32) => g1) (fX6_layHands_L10 bk kn (mN bk) cg))
set_option maxHeartbeats 4000000 in
set_option maxRecDepth 100000 in
theorem c_X6_layHands (l : Launch) (dC : Nat → ClassId) (dI : Nat → Nat → Nat) (cyI cyZ : ClassId) (hm mb mn mk ms mp mq mi mz ma mc : Nat) (sg : Nat) (sn : Nat) (ud : Int32) (rz : Int32) (az : Int32) (bk : Nat → Int32) (kn : Nat → Int32) (cg : Nat → Int32) (hI : kx_I bk) (sz : Nat) (r : (Nat → Int32)) (hF : fX6_layHands bk kn cg = r) : Met l yX6_layHands wsX6_layHands ({ frames := 2, cells := 0, slots := 0, locals := 44 }) (kx_wp (dC, dI) [(hm, .inr (6, [.ref mb, .ref mn, .ref mk, .int (nI sg), .ref ms, .int (nI sn), .ref mp, .int ud, .ref mq, .int rz, .int az, .ref mi, .ref mz, .ref ma, .ref mc])), (mb, .inl (cyI, 97, .inl bk)), (mk, .inl (cyI, 4, .inl kn)), (mc, .inl (cyI, 100, .inl cg))] [(cyI, .int), (cyZ, .boolean)] sz [.ref hm]) (kx_Qv (dC, dI) [(hm, .inr (6, [.ref mb, .ref mn, .ref mk, .int (nI sg), .ref ms, .int (nI sn), .ref mp, .int ud, .ref mq, .int rz, .int az, .ref mi, .ref mz, .ref ma, .ref mc])), (mb, .inl (cyI, 97, .inl bk)), (mk, .inl (cyI, 4, .inl kn)), (mc, .inl (cyI, 100, .inl cg))] [(hm, .inr (6, [.ref mb, .ref mn, .ref mk, .int (nI sg), .ref ms, .int (nI sn), .ref mp, .int ud, .ref mq, .int rz, .int az, .ref mi, .ref mz, .ref ma, .ref mc])), (mb, .inl (cyI, 97, .inl bk)), (mk, .inl (cyI, 4, .inl kn)), (mc, .inl (cyI, 100, .inl r))] sz) 0 0 (va_A [(hm, .inr (6, [.ref mb, .ref mn, .ref mk, .int (nI sg), .ref ms, .int (nI sn), .ref mp, .int ud, .ref mq, .int rz, .int az, .ref mi, .ref mz, .ref ma, .ref mc])), (mb, .inl (cyI, 97, .inl bk)), (mk, .inl (cyI, 4, .inl kn)), (mc, .inl (cyI, 100, .inl cg))] sz) := by
  refine Met.ofW (cc := cX6_layHands) (maxL := 6) (ret := none) (by decide) rfl ?_
  intro p e s m args below meth c s₁ B hml hv
  obtain ⟨rfl, hsz, hP, hK, hN, hD0⟩ := hv
  have hx := B.exec
  have hb := B.bytes
  have hr := B.returns
  have hts := atoms_spec (ws := wsX6_layHands) B.pre
  have hown : s.vm.findClass RX6 = some m.cls := findClass_of_methodNamed B.named
  have hlocks := B.notSynchronized
  subst hsz
  obtain ⟨A, hAe⟩ : ∃ A, A = va_A [(hm, .inr (6, [.ref mb, .ref mn, .ref mk, .int (nI sg), .ref ms, .int (nI sn), .ref mp, .int ud, .ref mq, .int rz, .int az, .ref mi, .ref mz, .ref ma, .ref mc])), (mb, .inl (cyI, 97, .inl bk)), (mk, .inl (cyI, 4, .inl kn)), (mc, .inl (cyI, 100, .inl cg))] s.heap.size := ⟨_, rfl⟩
  have hD : va_D A [(hm, .inr (6, [.ref mb, .ref mn, .ref mk, .int (nI sg), .ref ms, .int (nI sn), .ref mp, .int ud, .ref mq, .int rz, .int az, .ref mi, .ref mz, .ref ma, .ref mc])), (mb, .inl (cyI, 97, .inl bk)), (mk, .inl (cyI, 4, .inl kn)), (mc, .inl (cyI, 100, .inl cg))] := by rw [hAe]; exact hD0.self
  have hA : ∀ q : Nat, s.heap.size ≤ q → A q := fun q h => by rw [hAe]; exact Or.inr h
  have hS : va_S A s.heap s.heap [] := va_S.rf
  have hiX6 : ∀ w ∈ wsX60, w ∈ wsX6_layHands := by decide +kernel
  have fl7 := hts (.fieldLink RX6 7 "KnitChronicleModel" "book" "[I") (by decide +kernel)
  have fl38 := hts (.fieldLink RX6 38 "KnitChronicleModel" "changes" "[I") (by decide +kernel)
  have hl := lv_entry ([.ref hm]) (n := 6) (Nat.le_of_ble_eq_true rfl)
  rw [lg_entry_eq]
  generalize (lg_sl ([.ref hm]) ++ List.replicate (6 - (lg_sl ([.ref hm])).length) Slot.unset).toArray = ls at hl ⊢
  have hl : lv_has ls 6 [(0, .ref hm)] := hl
  unfold fX6_layHands at hF
  have hmN := hI.2.1
  refine lv_aload_n hx hb dX6_layHands_0 rfl (lv_at hl 0 rfl) ?_
  refine va_get (D := (dC, dI)) (ci := 6) (v := .ref mb) (C := RX6) (T := TX6) (N := 15) hx hb hts hiX6 hown hK hP 0 rfl rfl 0 (by decide) fl7 (fun _ h9 => h9) rfl dX6_layHands_1 ?_
  refine lv_bipush (v := (96 : Int32)) hx hb dX6_layHands_4 (by decide) ?_
  refine kx_ld hx hb hK hP 1 0 rfl rfl (96) rfl (by omega) (by decide) dX6_layHands_6 ?_
  refine kx_e hI.1 ?_
  refine lv_iconst (v := (1 : Int32)) hx hb dX6_layHands_7 (by decide) ?_
  refine lv_isub hx hb dX6_layHands_8 ?_
  refine kx_e (kx_sub1 (mN bk)) ?_
  refine lv_istore_n (lv' := [(1, .int ((nI (mN bk)) + (-1))), (0, .ref hm)]) hx hb dX6_layHands_9 rfl hl (by decide) rfl (fun ls hl => ?_)
  generalize hz10 : fX6_layHands_L10 bk kn (mN bk) cg = z10 at hF
  have LP10 : ∀ (j10 : Nat) (g1 : Nat → Int32), j10 ≤ mN bk → fX6_layHands_L10 bk kn j10 g1 = z10 → ∀ (H : Heap) (locs : List Loc), va_P (dC, dI) vwCl [(hm, .inr (6, [.ref mb, .ref mn, .ref mk, .int (nI sg), .ref ms, .int (nI sn), .ref mp, .int ud, .ref mq, .int rz, .int az, .ref mi, .ref mz, .ref ma, .ref mc])), (mb, .inl (cyI, 97, .inl bk)), (mk, .inl (cyI, 4, .inl kn)), (mc, .inl (cyI, 100, .inl g1))] H → va_D A [(hm, .inr (6, [.ref mb, .ref mn, .ref mk, .int (nI sg), .ref ms, .int (nI sn), .ref mp, .int ud, .ref mq, .int rz, .int az, .ref mi, .ref mz, .ref ma, .ref mc])), (mb, .inl (cyI, 97, .inl bk)), (mk, .inl (cyI, 4, .inl kn)), (mc, .inl (cyI, 100, .inl g1))] → va_S A s.heap H locs → ∀ (ls : Array Slot), lv_has ls 6 [(1, .int ((nI j10) + (-1))), (0, .ref hm)] → W p l e (headSpec wsX6_layHands ({ frames := 2, cells := 0, slots := 0, locals := 44 } : Room)).room s m ([.ref hm] : List Value).toArray below meth c H locs 0 0 (MQ below (kx_Qv (dC, dI) [(hm, .inr (6, [.ref mb, .ref mn, .ref mk, .int (nI sg), .ref ms, .int (nI sn), .ref mp, .int ud, .ref mq, .int rz, .int az, .ref mi, .ref mz, .ref ma, .ref mc])), (mb, .inl (cyI, 97, .inl bk)), (mk, .inl (cyI, 4, .inl kn)), (mc, .inl (cyI, 100, .inl cg))] [(hm, .inr (6, [.ref mb, .ref mn, .ref mk, .int (nI sg), .ref ms, .int (nI sn), .ref mp, .int ud, .ref mq, .int rz, .int az, .ref mi, .ref mz, .ref ma, .ref mc])), (mb, .inl (cyI, 97, .inl bk)), (mk, .inl (cyI, 4, .inl kn)), (mc, .inl (cyI, 100, .inl r))] s.heap.size) ([.ref hm] : List Value).toArray s 0 0 (va_A [(hm, .inr (6, [.ref mb, .ref mn, .ref mk, .int (nI sg), .ref ms, .int (nI sn), .ref mp, .int ud, .ref mq, .int rz, .int az, .ref mi, .ref mz, .ref ma, .ref mc])), (mb, .inl (cyI, 97, .inl bk)), (mk, .inl (cyI, 4, .inl kn)), (mc, .inl (cyI, 100, .inl cg))] s.heap.size)) (F0 m 10 ls []) := by
    intro j10
    induction j10 with
    | zero =>
      intro g1 hrj hz10 H locs hP hD hS ls hl
      rw [fX6_layHands_L10] at hz10
      subst hz10
      try dsimp only at hF
      refine lv_iload_n hx hb dX6_layHands_10 rfl (lv_at hl 0 rfl) ?_
      refine lv_if_lt (tgt := 146) hx hb dX6_layHands_11 (by decide) (fun c11 => ?_) (fun c11 => absurd c11 (by decide))
      subst hF
      subst hAe
      exact W.vret hx hb hr (fun t ht _ => ⟨⟨(), rfl, trivial, by rw [ht]; exact hP, hD⟩, hS.F ht⟩) hS.2.2 dX6_layHands_146
    | succ j10 ih =>
      intro g1 hrj hz10 H locs hP hD hS ls hl
      rw [pk_m1] at hl
      rw [fX6_layHands_L10] at hz10
      refine lv_iload_n hx hb dX6_layHands_10 rfl (lv_at hl 0 rfl) ?_
      refine lv_if_lt (tgt := 146) hx hb dX6_layHands_11 (by decide) (fun c11 => absurd c11 (nI_pos (by omega))) (fun c11 => ?_)
      refine lv_iconst (v := (0 : Int32)) hx hb dX6_layHands_14 (by decide) ?_
      refine lv_istore_n (lv' := [(2, .int (0 : Int32)), (1, .int (nI j10)), (0, .ref hm)]) hx hb dX6_layHands_15 rfl hl (by decide) rfl (fun ls hl => ?_)
      generalize hz16 : fX6_layHands_L16 bk kn j10 4 0 g1 = z16 at hz10
      have LP16 : ∀ (r16 : Nat) (j16 : Nat) (g2 : Nat → Int32), r16 + j16 = 4 → fX6_layHands_L16 bk kn j10 r16 j16 g2 = z16 → ∀ (H : Heap) (locs : List Loc), va_P (dC, dI) vwCl [(hm, .inr (6, [.ref mb, .ref mn, .ref mk, .int (nI sg), .ref ms, .int (nI sn), .ref mp, .int ud, .ref mq, .int rz, .int az, .ref mi, .ref mz, .ref ma, .ref mc])), (mb, .inl (cyI, 97, .inl bk)), (mk, .inl (cyI, 4, .inl kn)), (mc, .inl (cyI, 100, .inl g2))] H → va_D A [(hm, .inr (6, [.ref mb, .ref mn, .ref mk, .int (nI sg), .ref ms, .int (nI sn), .ref mp, .int ud, .ref mq, .int rz, .int az, .ref mi, .ref mz, .ref ma, .ref mc])), (mb, .inl (cyI, 97, .inl bk)), (mk, .inl (cyI, 4, .inl kn)), (mc, .inl (cyI, 100, .inl g2))] → va_S A s.heap H locs → ∀ (ls : Array Slot), lv_has ls 6 [(2, .int (nI j16)), (1, .int (nI j10)), (0, .ref hm)] → W p l e (headSpec wsX6_layHands ({ frames := 2, cells := 0, slots := 0, locals := 44 } : Room)).room s m ([.ref hm] : List Value).toArray below meth c H locs 0 0 (MQ below (kx_Qv (dC, dI) [(hm, .inr (6, [.ref mb, .ref mn, .ref mk, .int (nI sg), .ref ms, .int (nI sn), .ref mp, .int ud, .ref mq, .int rz, .int az, .ref mi, .ref mz, .ref ma, .ref mc])), (mb, .inl (cyI, 97, .inl bk)), (mk, .inl (cyI, 4, .inl kn)), (mc, .inl (cyI, 100, .inl cg))] [(hm, .inr (6, [.ref mb, .ref mn, .ref mk, .int (nI sg), .ref ms, .int (nI sn), .ref mp, .int ud, .ref mq, .int rz, .int az, .ref mi, .ref mz, .ref ma, .ref mc])), (mb, .inl (cyI, 97, .inl bk)), (mk, .inl (cyI, 4, .inl kn)), (mc, .inl (cyI, 100, .inl r))] s.heap.size) ([.ref hm] : List Value).toArray s 0 0 (va_A [(hm, .inr (6, [.ref mb, .ref mn, .ref mk, .int (nI sg), .ref ms, .int (nI sn), .ref mp, .int ud, .ref mq, .int rz, .int az, .ref mi, .ref mz, .ref ma, .ref mc])), (mb, .inl (cyI, 97, .inl bk)), (mk, .inl (cyI, 4, .inl kn)), (mc, .inl (cyI, 100, .inl cg))] s.heap.size)) (F0 m 16 ls []) := by
        intro r16
        induction r16 with
        | zero =>
          intro j16 g2 hrj hz16 H locs hP hD hS ls hl
          rw [fX6_layHands_L16] at hz16
          subst hz16
          try dsimp only at hz10
          refine lv_iload_n hx hb dX6_layHands_16 rfl (lv_at hl 0 rfl) ?_
          refine lv_iconst (v := (4 : Int32)) hx hb dX6_layHands_17 (by decide) ?_
          refine kx_ge hx hb (j16) (4) rfl rfl (by omega) (by omega) dX6_layHands_18 (by decide) (tgt := 140) (fun c18 => ?_) (fun c18 => absurd c18 (by omega))
          refine lv_iinc (v := ((nI j10) + (-1))) (lv' := [(1, .int ((nI j10) + (-1))), (2, .int (nI j16)), (0, .ref hm)]) hx hb dX6_layHands_140 hl (k := 1) rfl rfl (by decide) rfl (fun ls hl => ?_)
          refine lv_goto (tgt := 10) hx hb dX6_layHands_143 (by decide) ?_
          exact ih g2 (by omega)  hz10 _ _ hP hD hS _ (lv_sub hl [0, 2] rfl)
        | succ r16 ih =>
          intro j16 g2 hrj hz16 H locs hP hD hS ls hl
          rw [fX6_layHands_L16] at hz16
          refine lv_iload_n hx hb dX6_layHands_16 rfl (lv_at hl 0 rfl) ?_
          refine lv_iconst (v := (4 : Int32)) hx hb dX6_layHands_17 (by decide) ?_
          refine kx_ge hx hb (j16) (4) rfl rfl (by omega) (by omega) dX6_layHands_18 (by decide) (tgt := 140) (fun c18 => absurd c18 (by omega)) (fun c18 => ?_)
          refine lv_iload_n hx hb dX6_layHands_21 rfl (lv_at hl 1 rfl) ?_
          refine lv_aload_n hx hb dX6_layHands_22 rfl (lv_at hl 2 rfl) ?_
          refine va_get (D := (dC, dI)) (ci := 6) (v := .ref mb) (C := RX6) (T := TX6) (N := 15) hx hb hts hiX6 hown hK hP 0 rfl rfl 0 (by decide) fl7 (fun _ h9 => h9) rfl dX6_layHands_23 ?_
          refine lv_bipush (v := (96 : Int32)) hx hb dX6_layHands_26 (by decide) ?_
          refine kx_ld hx hb hK hP 1 0 rfl rfl (96) rfl (by omega) (by decide) dX6_layHands_28 ?_
          refine kx_e hI.1 ?_
          refine lv_iconst (v := (1 : Int32)) hx hb dX6_layHands_29 (by decide) ?_
          refine lv_isub hx hb dX6_layHands_30 ?_
          refine kx_e (kx_sub1 (mN bk)) ?_
          refine lv_icmp_ne (tgt := 38) hx hb dX6_layHands_31 (by decide) (fun c31 => ?_) (fun c31 => ?_)
          · rw [if_neg c31] at hz16
            refine lv_ldc hx hb hown (hts (.constant RX6 121 (1000000)) (by decide +kernel)) dX6_layHands_38 ?_
            refine lv_istore_n (lv' := [(3, .int (1000000 : Int32)), (2, .int (nI j16)), (1, .int (nI j10)), (0, .ref hm)]) hx hb dX6_layHands_40 rfl hl (by decide) rfl (fun ls hl => ?_)
            refine lv_iconst (v := (0 : Int32)) hx hb dX6_layHands_41 (by decide) ?_
            refine lv_istore (lv' := [(4, .int (0 : Int32)), (3, .int (1000000 : Int32)), (2, .int (nI j16)), (1, .int (nI j10)), (0, .ref hm)]) hx hb dX6_layHands_42 hl (by decide) rfl (fun ls hl => ?_)
            generalize hz44 : fX6_layHands_L44 bk j10 g2 j16 4 0 (1000000 : Int32) = z44 at hz16
            have LP44 : ∀ (r44 : Nat) (j44 : Nat) (ls1 : Int32), r44 + j44 = 4 → fX6_layHands_L44 bk j10 g2 j16 r44 j44 ls1 = z44 → ∀ (H : Heap) (locs : List Loc), va_P (dC, dI) vwCl [(hm, .inr (6, [.ref mb, .ref mn, .ref mk, .int (nI sg), .ref ms, .int (nI sn), .ref mp, .int ud, .ref mq, .int rz, .int az, .ref mi, .ref mz, .ref ma, .ref mc])), (mb, .inl (cyI, 97, .inl bk)), (mk, .inl (cyI, 4, .inl kn)), (mc, .inl (cyI, 100, .inl g2))] H → va_D A [(hm, .inr (6, [.ref mb, .ref mn, .ref mk, .int (nI sg), .ref ms, .int (nI sn), .ref mp, .int ud, .ref mq, .int rz, .int az, .ref mi, .ref mz, .ref ma, .ref mc])), (mb, .inl (cyI, 97, .inl bk)), (mk, .inl (cyI, 4, .inl kn)), (mc, .inl (cyI, 100, .inl g2))] → va_S A s.heap H locs → ∀ (ls : Array Slot), lv_has ls 6 [(4, .int (nI j44)), (3, .int ls1), (2, .int (nI j16)), (1, .int (nI j10)), (0, .ref hm)] → W p l e (headSpec wsX6_layHands ({ frames := 2, cells := 0, slots := 0, locals := 44 } : Room)).room s m ([.ref hm] : List Value).toArray below meth c H locs 0 0 (MQ below (kx_Qv (dC, dI) [(hm, .inr (6, [.ref mb, .ref mn, .ref mk, .int (nI sg), .ref ms, .int (nI sn), .ref mp, .int ud, .ref mq, .int rz, .int az, .ref mi, .ref mz, .ref ma, .ref mc])), (mb, .inl (cyI, 97, .inl bk)), (mk, .inl (cyI, 4, .inl kn)), (mc, .inl (cyI, 100, .inl cg))] [(hm, .inr (6, [.ref mb, .ref mn, .ref mk, .int (nI sg), .ref ms, .int (nI sn), .ref mp, .int ud, .ref mq, .int rz, .int az, .ref mi, .ref mz, .ref ma, .ref mc])), (mb, .inl (cyI, 97, .inl bk)), (mk, .inl (cyI, 4, .inl kn)), (mc, .inl (cyI, 100, .inl r))] s.heap.size) ([.ref hm] : List Value).toArray s 0 0 (va_A [(hm, .inr (6, [.ref mb, .ref mn, .ref mk, .int (nI sg), .ref ms, .int (nI sn), .ref mp, .int ud, .ref mq, .int rz, .int az, .ref mi, .ref mz, .ref ma, .ref mc])), (mb, .inl (cyI, 97, .inl bk)), (mk, .inl (cyI, 4, .inl kn)), (mc, .inl (cyI, 100, .inl cg))] s.heap.size)) (F0 m 44 ls []) := by
              intro r44
              induction r44 with
              | zero =>
                intro j44 ls1 hrj hz44 H locs hP hD hS ls hl
                rw [fX6_layHands_L44] at hz44
                subst hz44
                try dsimp only at hz16
                refine lv_iload hx hb dX6_layHands_44 (lv_at hl 0 rfl) ?_
                refine lv_iconst (v := (4 : Int32)) hx hb dX6_layHands_46 (by decide) ?_
                refine kx_ge hx hb (j44) (4) rfl rfl (by omega) (by omega) dX6_layHands_47 (by decide) (tgt := 109) (fun c47 => ?_) (fun c47 => absurd c47 (by omega))
                refine lv_aload_n hx hb dX6_layHands_109 rfl (lv_at hl 4 rfl) ?_
                refine va_get (D := (dC, dI)) (ci := 6) (v := .ref mc) (C := RX6) (T := TX6) (N := 15) hx hb hts hiX6 hown hK hP 0 rfl rfl 14 (by decide) fl38 (fun _ h9 => h9) rfl dX6_layHands_110 ?_
                refine lv_iconst (v := (4 : Int32)) hx hb dX6_layHands_113 (by decide) ?_
                refine lv_iload_n hx hb dX6_layHands_114 rfl (lv_at hl 3 rfl) ?_
                refine lv_imul hx hb dX6_layHands_115 ?_
                refine kx_e (pk_mul (4) (j10)) ?_
                refine lv_iload_n hx hb dX6_layHands_116 rfl (lv_at hl 2 rfl) ?_
                refine lv_iadd hx hb dX6_layHands_117 ?_
                refine kx_e (nI_add (4 * j10) (j16)) ?_
                refine lv_aload_n hx hb dX6_layHands_118 rfl (lv_at hl 4 rfl) ?_
                refine lv_iload_n hx hb dX6_layHands_119 rfl (lv_at hl 2 rfl) ?_
                refine lv_iload_n hx hb dX6_layHands_120 rfl (lv_at hl 3 rfl) ?_
                refine kx_cV (As := [.int (nI j16), .int (nI j10)]) (rest := [.int (nI (4 * j10 + j16)), .ref mc]) ⟨hx, hb, hml, hown, hts⟩ (c_X6_mayKnit l dC dI cyI cyZ hm mb mn mk ms mp mq mi mz ma mc sg sn ud rz az bk kn j16 j10 (by omega) (by omega) _ rfl) (cwV 2 hts gX6_layHands_X6_mayKnit rfl rfl rfl (by decide +kernel) ⟨Nat.le_of_ble_eq_true rfl, Nat.le_of_ble_eq_true rfl⟩) hP hK hN [0, 1, 2] rfl [0, 1] rfl 6 0 rfl rfl rfl rfl hl.1 rfl (Nat.le_of_ble_eq_true rfl) dX6_layHands_121 ⟨Nat.zero_le _, Nat.zero_le _⟩ ?_
                refine lv_if_eq (tgt := 131) hx hb dX6_layHands_124 (by decide) (fun c124 => ?_) (fun c124 => ?_)
                · rw [if_pos c124] at hz16
                  refine lv_ldc hx hb hown (hts (.constant RX6 121 (1000000)) (by decide +kernel)) dX6_layHands_131 ?_
                  refine kx_st hx hb hK hP hD hS 3 0 rfl rfl (4 * j10 + j16) rfl (by omega) (by decide) dX6_layHands_133 (fun H locs hP hD hS => ?_)
                  have hP : va_P (dC, dI) vwCl [(hm, .inr (6, [.ref mb, .ref mn, .ref mk, .int (nI sg), .ref ms, .int (nI sn), .ref mp, .int ud, .ref mq, .int rz, .int az, .ref mi, .ref mz, .ref ma, .ref mc])), (mb, .inl (cyI, 97, .inl bk)), (mk, .inl (cyI, 4, .inl kn)), (mc, .inl (cyI, 100, .inl (upd g2 (4 * j10 + j16) (1000000 : Int32))))] H := hP
                  have hD : va_D A [(hm, .inr (6, [.ref mb, .ref mn, .ref mk, .int (nI sg), .ref ms, .int (nI sn), .ref mp, .int ud, .ref mq, .int rz, .int az, .ref mi, .ref mz, .ref ma, .ref mc])), (mb, .inl (cyI, 97, .inl bk)), (mk, .inl (cyI, 4, .inl kn)), (mc, .inl (cyI, 100, .inl (upd g2 (4 * j10 + j16) (1000000 : Int32))))] := hD
                  refine lv_iinc (v := (nI (j16 + 1))) (lv' := [(2, .int (nI (j16 + 1))), (4, .int (nI j44)), (3, .int ls1), (1, .int (nI j10)), (0, .ref hm)]) hx hb dX6_layHands_134 hl (k := 2) rfl (by exact nI_add (j16) 1) (by decide) rfl (fun ls hl => ?_)
                  refine lv_goto (tgt := 16) hx hb dX6_layHands_137 (by decide) ?_
                  exact ih (j16 + 1) (upd g2 (4 * j10 + j16) (1000000 : Int32)) (by omega)  hz16 _ _ hP hD hS _ (lv_sub hl [0, 3, 4] rfl)
                · rw [if_neg c124] at hz16
                  refine lv_iload_n hx hb dX6_layHands_127 rfl (lv_at hl 1 rfl) ?_
                  refine lv_goto (tgt := 133) hx hb dX6_layHands_128 (by decide) ?_
                  refine kx_st hx hb hK hP hD hS 3 0 rfl rfl (4 * j10 + j16) rfl (by omega) (by decide) dX6_layHands_133 (fun H locs hP hD hS => ?_)
                  have hP : va_P (dC, dI) vwCl [(hm, .inr (6, [.ref mb, .ref mn, .ref mk, .int (nI sg), .ref ms, .int (nI sn), .ref mp, .int ud, .ref mq, .int rz, .int az, .ref mi, .ref mz, .ref ma, .ref mc])), (mb, .inl (cyI, 97, .inl bk)), (mk, .inl (cyI, 4, .inl kn)), (mc, .inl (cyI, 100, .inl (upd g2 (4 * j10 + j16) ls1)))] H := hP
                  have hD : va_D A [(hm, .inr (6, [.ref mb, .ref mn, .ref mk, .int (nI sg), .ref ms, .int (nI sn), .ref mp, .int ud, .ref mq, .int rz, .int az, .ref mi, .ref mz, .ref ma, .ref mc])), (mb, .inl (cyI, 97, .inl bk)), (mk, .inl (cyI, 4, .inl kn)), (mc, .inl (cyI, 100, .inl (upd g2 (4 * j10 + j16) ls1)))] := hD
                  refine lv_iinc (v := (nI (j16 + 1))) (lv' := [(2, .int (nI (j16 + 1))), (4, .int (nI j44)), (3, .int ls1), (1, .int (nI j10)), (0, .ref hm)]) hx hb dX6_layHands_134 hl (k := 2) rfl (by exact nI_add (j16) 1) (by decide) rfl (fun ls hl => ?_)
                  refine lv_goto (tgt := 16) hx hb dX6_layHands_137 (by decide) ?_
                  exact ih (j16 + 1) (upd g2 (4 * j10 + j16) ls1) (by omega)  hz16 _ _ hP hD hS _ (lv_sub hl [0, 3, 4] rfl)
              | succ r44 ih44 =>
                intro j44 ls1 hrj hz44 H locs hP hD hS ls hl
                rw [fX6_layHands_L44] at hz44
                refine lv_iload hx hb dX6_layHands_44 (lv_at hl 0 rfl) ?_
                refine lv_iconst (v := (4 : Int32)) hx hb dX6_layHands_46 (by decide) ?_
                refine kx_ge hx hb (j44) (4) rfl rfl (by omega) (by omega) dX6_layHands_47 (by decide) (tgt := 109) (fun c47 => absurd c47 (by omega)) (fun c47 => ?_)
                refine lv_iload_n hx hb dX6_layHands_50 rfl (lv_at hl 3 rfl) ?_
                refine lv_aload_n hx hb dX6_layHands_51 rfl (lv_at hl 4 rfl) ?_
                refine va_get (D := (dC, dI)) (ci := 6) (v := .ref mb) (C := RX6) (T := TX6) (N := 15) hx hb hts hiX6 hown hK hP 0 rfl rfl 0 (by decide) fl7 (fun _ h9 => h9) rfl dX6_layHands_52 ?_
                refine lv_bipush (v := (96 : Int32)) hx hb dX6_layHands_55 (by decide) ?_
                refine kx_ld hx hb hK hP 1 0 rfl rfl (96) rfl (by omega) (by decide) dX6_layHands_57 ?_
                refine kx_e hI.1 ?_
                refine lv_iconst (v := (1 : Int32)) hx hb dX6_layHands_58 (by decide) ?_
                refine lv_isub hx hb dX6_layHands_59 ?_
                refine kx_e (kx_sub1 (mN bk)) ?_
                refine lv_icmp_ge (tgt := 109) hx hb dX6_layHands_60 (by decide) (fun c60 => ?_) (fun c60 => ?_)
                · rw [if_pos c60] at hz44
                  subst hz44
                  try dsimp only at hz16
                  refine lv_aload_n hx hb dX6_layHands_109 rfl (lv_at hl 4 rfl) ?_
                  refine va_get (D := (dC, dI)) (ci := 6) (v := .ref mc) (C := RX6) (T := TX6) (N := 15) hx hb hts hiX6 hown hK hP 0 rfl rfl 14 (by decide) fl38 (fun _ h9 => h9) rfl dX6_layHands_110 ?_
                  refine lv_iconst (v := (4 : Int32)) hx hb dX6_layHands_113 (by decide) ?_
                  refine lv_iload_n hx hb dX6_layHands_114 rfl (lv_at hl 3 rfl) ?_
                  refine lv_imul hx hb dX6_layHands_115 ?_
                  refine kx_e (pk_mul (4) (j10)) ?_
                  refine lv_iload_n hx hb dX6_layHands_116 rfl (lv_at hl 2 rfl) ?_
                  refine lv_iadd hx hb dX6_layHands_117 ?_
                  refine kx_e (nI_add (4 * j10) (j16)) ?_
                  refine lv_aload_n hx hb dX6_layHands_118 rfl (lv_at hl 4 rfl) ?_
                  refine lv_iload_n hx hb dX6_layHands_119 rfl (lv_at hl 2 rfl) ?_
                  refine lv_iload_n hx hb dX6_layHands_120 rfl (lv_at hl 3 rfl) ?_
                  refine kx_cV (As := [.int (nI j16), .int (nI j10)]) (rest := [.int (nI (4 * j10 + j16)), .ref mc]) ⟨hx, hb, hml, hown, hts⟩ (c_X6_mayKnit l dC dI cyI cyZ hm mb mn mk ms mp mq mi mz ma mc sg sn ud rz az bk kn j16 j10 (by omega) (by omega) _ rfl) (cwV 2 hts gX6_layHands_X6_mayKnit rfl rfl rfl (by decide +kernel) ⟨Nat.le_of_ble_eq_true rfl, Nat.le_of_ble_eq_true rfl⟩) hP hK hN [0, 1, 2] rfl [0, 1] rfl 6 0 rfl rfl rfl rfl hl.1 rfl (Nat.le_of_ble_eq_true rfl) dX6_layHands_121 ⟨Nat.zero_le _, Nat.zero_le _⟩ ?_
                  refine lv_if_eq (tgt := 131) hx hb dX6_layHands_124 (by decide) (fun c124 => ?_) (fun c124 => ?_)
                  · rw [if_pos c124] at hz16
                    refine lv_ldc hx hb hown (hts (.constant RX6 121 (1000000)) (by decide +kernel)) dX6_layHands_131 ?_
                    refine kx_st hx hb hK hP hD hS 3 0 rfl rfl (4 * j10 + j16) rfl (by omega) (by decide) dX6_layHands_133 (fun H locs hP hD hS => ?_)
                    have hP : va_P (dC, dI) vwCl [(hm, .inr (6, [.ref mb, .ref mn, .ref mk, .int (nI sg), .ref ms, .int (nI sn), .ref mp, .int ud, .ref mq, .int rz, .int az, .ref mi, .ref mz, .ref ma, .ref mc])), (mb, .inl (cyI, 97, .inl bk)), (mk, .inl (cyI, 4, .inl kn)), (mc, .inl (cyI, 100, .inl (upd g2 (4 * j10 + j16) (1000000 : Int32))))] H := hP
                    have hD : va_D A [(hm, .inr (6, [.ref mb, .ref mn, .ref mk, .int (nI sg), .ref ms, .int (nI sn), .ref mp, .int ud, .ref mq, .int rz, .int az, .ref mi, .ref mz, .ref ma, .ref mc])), (mb, .inl (cyI, 97, .inl bk)), (mk, .inl (cyI, 4, .inl kn)), (mc, .inl (cyI, 100, .inl (upd g2 (4 * j10 + j16) (1000000 : Int32))))] := hD
                    refine lv_iinc (v := (nI (j16 + 1))) (lv' := [(2, .int (nI (j16 + 1))), (4, .int (nI j44)), (3, .int ls1), (1, .int (nI j10)), (0, .ref hm)]) hx hb dX6_layHands_134 hl (k := 2) rfl (by exact nI_add (j16) 1) (by decide) rfl (fun ls hl => ?_)
                    refine lv_goto (tgt := 16) hx hb dX6_layHands_137 (by decide) ?_
                    exact ih (j16 + 1) (upd g2 (4 * j10 + j16) (1000000 : Int32)) (by omega)  hz16 _ _ hP hD hS _ (lv_sub hl [0, 3, 4] rfl)
                  · rw [if_neg c124] at hz16
                    refine lv_iload_n hx hb dX6_layHands_127 rfl (lv_at hl 1 rfl) ?_
                    refine lv_goto (tgt := 133) hx hb dX6_layHands_128 (by decide) ?_
                    refine kx_st hx hb hK hP hD hS 3 0 rfl rfl (4 * j10 + j16) rfl (by omega) (by decide) dX6_layHands_133 (fun H locs hP hD hS => ?_)
                    have hP : va_P (dC, dI) vwCl [(hm, .inr (6, [.ref mb, .ref mn, .ref mk, .int (nI sg), .ref ms, .int (nI sn), .ref mp, .int ud, .ref mq, .int rz, .int az, .ref mi, .ref mz, .ref ma, .ref mc])), (mb, .inl (cyI, 97, .inl bk)), (mk, .inl (cyI, 4, .inl kn)), (mc, .inl (cyI, 100, .inl (upd g2 (4 * j10 + j16) ls1)))] H := hP
                    have hD : va_D A [(hm, .inr (6, [.ref mb, .ref mn, .ref mk, .int (nI sg), .ref ms, .int (nI sn), .ref mp, .int ud, .ref mq, .int rz, .int az, .ref mi, .ref mz, .ref ma, .ref mc])), (mb, .inl (cyI, 97, .inl bk)), (mk, .inl (cyI, 4, .inl kn)), (mc, .inl (cyI, 100, .inl (upd g2 (4 * j10 + j16) ls1)))] := hD
                    refine lv_iinc (v := (nI (j16 + 1))) (lv' := [(2, .int (nI (j16 + 1))), (4, .int (nI j44)), (3, .int ls1), (1, .int (nI j10)), (0, .ref hm)]) hx hb dX6_layHands_134 hl (k := 2) rfl (by exact nI_add (j16) 1) (by decide) rfl (fun ls hl => ?_)
                    refine lv_goto (tgt := 16) hx hb dX6_layHands_137 (by decide) ?_
                    exact ih (j16 + 1) (upd g2 (4 * j10 + j16) ls1) (by omega)  hz16 _ _ hP hD hS _ (lv_sub hl [0, 3, 4] rfl)
                · rw [if_neg c60] at hz44
                  refine lv_aload_n hx hb dX6_layHands_63 rfl (lv_at hl 4 rfl) ?_
                  refine va_get (D := (dC, dI)) (ci := 6) (v := .ref mc) (C := RX6) (T := TX6) (N := 15) hx hb hts hiX6 hown hK hP 0 rfl rfl 14 (by decide) fl38 (fun _ h9 => h9) rfl dX6_layHands_64 ?_
                  refine lv_iconst (v := (4 : Int32)) hx hb dX6_layHands_67 (by decide) ?_
                  refine lv_iload_n hx hb dX6_layHands_68 rfl (lv_at hl 3 rfl) ?_
                  refine lv_imul hx hb dX6_layHands_69 ?_
                  refine kx_e (pk_mul (4) (j10)) ?_
                  refine lv_iconst (v := (4 : Int32)) hx hb dX6_layHands_70 (by decide) ?_
                  refine lv_iadd hx hb dX6_layHands_71 ?_
                  refine kx_e (nI_add (4 * j10) (4)) ?_
                  refine lv_iload hx hb dX6_layHands_72 (lv_at hl 0 rfl) ?_
                  refine lv_iadd hx hb dX6_layHands_74 ?_
                  refine kx_e (nI_add (4 * j10 + 4) (j44)) ?_
                  refine kx_ld hx hb hK hP 3 0 rfl rfl (4 * j10 + 4 + j44) rfl (by omega) (by decide) dX6_layHands_75 ?_
                  refine lv_iload hx hb dX6_layHands_76 (lv_at hl 0 rfl) ?_
                  refine lv_iload_n hx hb dX6_layHands_78 rfl (lv_at hl 2 rfl) ?_
                  refine kx_ne hx hb (j44) (j16) rfl rfl (by omega) (by omega) dX6_layHands_79 (by decide) (tgt := 86) (fun c79 => ?_) (fun c79 => ?_)
                  · rw [if_neg c79] at hz44
                    refine lv_iconst (v := (1 : Int32)) hx hb dX6_layHands_86 (by decide) ?_
                    refine lv_iadd hx hb dX6_layHands_87 ?_
                    refine lv_istore (lv' := [(5, .int ((g2 (4 * j10 + 4 + j44)) + (1 : Int32))), (4, .int (nI j44)), (3, .int ls1), (2, .int (nI j16)), (1, .int (nI j10)), (0, .ref hm)]) hx hb dX6_layHands_88 hl (by decide) rfl (fun ls hl => ?_)
                    refine lv_iload hx hb dX6_layHands_90 (lv_at hl 0 rfl) ?_
                    refine lv_iload_n hx hb dX6_layHands_92 rfl (lv_at hl 2 rfl) ?_
                    refine lv_icmp_ge (tgt := 101) hx hb dX6_layHands_93 (by decide) (fun c93 => ?_) (fun c93 => ?_)
                    · rw [if_pos c93] at hz44
                      refine lv_iload_n hx hb dX6_layHands_101 rfl (lv_at hl 2 rfl) ?_
                      refine lv_istore_n (lv' := [(3, .int ls1), (5, .int ((g2 (4 * j10 + 4 + j44)) + (1 : Int32))), (4, .int (nI j44)), (2, .int (nI j16)), (1, .int (nI j10)), (0, .ref hm)]) hx hb dX6_layHands_102 rfl hl (by decide) rfl (fun ls hl => ?_)
                      refine lv_iinc (v := (nI (j44 + 1))) (lv' := [(4, .int (nI (j44 + 1))), (3, .int ls1), (5, .int ((g2 (4 * j10 + 4 + j44)) + (1 : Int32))), (2, .int (nI j16)), (1, .int (nI j10)), (0, .ref hm)]) hx hb dX6_layHands_103 hl (k := 2) rfl (by exact nI_add (j44) 1) (by decide) rfl (fun ls hl => ?_)
                      refine lv_goto (tgt := 44) hx hb dX6_layHands_106 (by decide) ?_
                      exact ih44 (j44 + 1) ls1 (by omega)  hz44 _ _ hP hD hS _ (lv_sub hl [0, 1, 3, 4, 5] rfl)
                    · rw [if_neg c93] at hz44
                      refine lv_iload hx hb dX6_layHands_96 (lv_at hl 0 rfl) ?_
                      refine lv_goto (tgt := 102) hx hb dX6_layHands_98 (by decide) ?_
                      refine lv_istore_n (lv' := [(3, .int ((g2 (4 * j10 + 4 + j44)) + (1 : Int32))), (5, .int ((g2 (4 * j10 + 4 + j44)) + (1 : Int32))), (4, .int (nI j44)), (2, .int (nI j16)), (1, .int (nI j10)), (0, .ref hm)]) hx hb dX6_layHands_102 rfl hl (by decide) rfl (fun ls hl => ?_)
                      refine lv_iinc (v := (nI (j44 + 1))) (lv' := [(4, .int (nI (j44 + 1))), (3, .int ((g2 (4 * j10 + 4 + j44)) + (1 : Int32))), (5, .int ((g2 (4 * j10 + 4 + j44)) + (1 : Int32))), (2, .int (nI j16)), (1, .int (nI j10)), (0, .ref hm)]) hx hb dX6_layHands_103 hl (k := 2) rfl (by exact nI_add (j44) 1) (by decide) rfl (fun ls hl => ?_)
                      refine lv_goto (tgt := 44) hx hb dX6_layHands_106 (by decide) ?_
                      exact ih44 (j44 + 1) ((g2 (4 * j10 + 4 + j44)) + (1 : Int32)) (by omega)  hz44 _ _ hP hD hS _ (lv_sub hl [0, 1, 3, 4, 5] rfl)
                  · rw [if_pos c79] at hz44
                    refine lv_iconst (v := (0 : Int32)) hx hb dX6_layHands_82 (by decide) ?_
                    refine lv_goto (tgt := 87) hx hb dX6_layHands_83 (by decide) ?_
                    refine lv_iadd hx hb dX6_layHands_87 ?_
                    refine lv_istore (lv' := [(5, .int ((g2 (4 * j10 + 4 + j44)) + (0 : Int32))), (4, .int (nI j44)), (3, .int ls1), (2, .int (nI j16)), (1, .int (nI j10)), (0, .ref hm)]) hx hb dX6_layHands_88 hl (by decide) rfl (fun ls hl => ?_)
                    refine lv_iload hx hb dX6_layHands_90 (lv_at hl 0 rfl) ?_
                    refine lv_iload_n hx hb dX6_layHands_92 rfl (lv_at hl 2 rfl) ?_
                    refine lv_icmp_ge (tgt := 101) hx hb dX6_layHands_93 (by decide) (fun c93 => ?_) (fun c93 => ?_)
                    · rw [if_pos c93] at hz44
                      refine lv_iload_n hx hb dX6_layHands_101 rfl (lv_at hl 2 rfl) ?_
                      refine lv_istore_n (lv' := [(3, .int ls1), (5, .int ((g2 (4 * j10 + 4 + j44)) + (0 : Int32))), (4, .int (nI j44)), (2, .int (nI j16)), (1, .int (nI j10)), (0, .ref hm)]) hx hb dX6_layHands_102 rfl hl (by decide) rfl (fun ls hl => ?_)
                      refine lv_iinc (v := (nI (j44 + 1))) (lv' := [(4, .int (nI (j44 + 1))), (3, .int ls1), (5, .int ((g2 (4 * j10 + 4 + j44)) + (0 : Int32))), (2, .int (nI j16)), (1, .int (nI j10)), (0, .ref hm)]) hx hb dX6_layHands_103 hl (k := 2) rfl (by exact nI_add (j44) 1) (by decide) rfl (fun ls hl => ?_)
                      refine lv_goto (tgt := 44) hx hb dX6_layHands_106 (by decide) ?_
                      exact ih44 (j44 + 1) ls1 (by omega)  hz44 _ _ hP hD hS _ (lv_sub hl [0, 1, 3, 4, 5] rfl)
                    · rw [if_neg c93] at hz44
                      refine lv_iload hx hb dX6_layHands_96 (lv_at hl 0 rfl) ?_
                      refine lv_goto (tgt := 102) hx hb dX6_layHands_98 (by decide) ?_
                      refine lv_istore_n (lv' := [(3, .int ((g2 (4 * j10 + 4 + j44)) + (0 : Int32))), (5, .int ((g2 (4 * j10 + 4 + j44)) + (0 : Int32))), (4, .int (nI j44)), (2, .int (nI j16)), (1, .int (nI j10)), (0, .ref hm)]) hx hb dX6_layHands_102 rfl hl (by decide) rfl (fun ls hl => ?_)
                      refine lv_iinc (v := (nI (j44 + 1))) (lv' := [(4, .int (nI (j44 + 1))), (3, .int ((g2 (4 * j10 + 4 + j44)) + (0 : Int32))), (5, .int ((g2 (4 * j10 + 4 + j44)) + (0 : Int32))), (2, .int (nI j16)), (1, .int (nI j10)), (0, .ref hm)]) hx hb dX6_layHands_103 hl (k := 2) rfl (by exact nI_add (j44) 1) (by decide) rfl (fun ls hl => ?_)
                      refine lv_goto (tgt := 44) hx hb dX6_layHands_106 (by decide) ?_
                      exact ih44 (j44 + 1) ((g2 (4 * j10 + 4 + j44)) + (0 : Int32)) (by omega)  hz44 _ _ hP hD hS _ (lv_sub hl [0, 1, 3, 4, 5] rfl)
            exact LP44 4 0 (1000000 : Int32) (by omega)  hz44 _ _ hP hD hS _ (lv_sub hl [0, 1, 2, 3, 4] rfl)
          · rw [if_pos c31] at hz16
            refine lv_iconst (v := (0 : Int32)) hx hb dX6_layHands_34 (by decide) ?_
            refine lv_goto (tgt := 40) hx hb dX6_layHands_35 (by decide) ?_
            refine lv_istore_n (lv' := [(3, .int (0 : Int32)), (2, .int (nI j16)), (1, .int (nI j10)), (0, .ref hm)]) hx hb dX6_layHands_40 rfl hl (by decide) rfl (fun ls hl => ?_)
            refine lv_iconst (v := (0 : Int32)) hx hb dX6_layHands_41 (by decide) ?_
            refine lv_istore (lv' := [(4, .int (0 : Int32)), (3, .int (0 : Int32)), (2, .int (nI j16)), (1, .int (nI j10)), (0, .ref hm)]) hx hb dX6_layHands_42 hl (by decide) rfl (fun ls hl => ?_)
            generalize hz44 : fX6_layHands_L44 bk j10 g2 j16 4 0 (0 : Int32) = z44 at hz16
            have LP44 : ∀ (r44 : Nat) (j44 : Nat) (ls1 : Int32), r44 + j44 = 4 → fX6_layHands_L44 bk j10 g2 j16 r44 j44 ls1 = z44 → ∀ (H : Heap) (locs : List Loc), va_P (dC, dI) vwCl [(hm, .inr (6, [.ref mb, .ref mn, .ref mk, .int (nI sg), .ref ms, .int (nI sn), .ref mp, .int ud, .ref mq, .int rz, .int az, .ref mi, .ref mz, .ref ma, .ref mc])), (mb, .inl (cyI, 97, .inl bk)), (mk, .inl (cyI, 4, .inl kn)), (mc, .inl (cyI, 100, .inl g2))] H → va_D A [(hm, .inr (6, [.ref mb, .ref mn, .ref mk, .int (nI sg), .ref ms, .int (nI sn), .ref mp, .int ud, .ref mq, .int rz, .int az, .ref mi, .ref mz, .ref ma, .ref mc])), (mb, .inl (cyI, 97, .inl bk)), (mk, .inl (cyI, 4, .inl kn)), (mc, .inl (cyI, 100, .inl g2))] → va_S A s.heap H locs → ∀ (ls : Array Slot), lv_has ls 6 [(4, .int (nI j44)), (3, .int ls1), (2, .int (nI j16)), (1, .int (nI j10)), (0, .ref hm)] → W p l e (headSpec wsX6_layHands ({ frames := 2, cells := 0, slots := 0, locals := 44 } : Room)).room s m ([.ref hm] : List Value).toArray below meth c H locs 0 0 (MQ below (kx_Qv (dC, dI) [(hm, .inr (6, [.ref mb, .ref mn, .ref mk, .int (nI sg), .ref ms, .int (nI sn), .ref mp, .int ud, .ref mq, .int rz, .int az, .ref mi, .ref mz, .ref ma, .ref mc])), (mb, .inl (cyI, 97, .inl bk)), (mk, .inl (cyI, 4, .inl kn)), (mc, .inl (cyI, 100, .inl cg))] [(hm, .inr (6, [.ref mb, .ref mn, .ref mk, .int (nI sg), .ref ms, .int (nI sn), .ref mp, .int ud, .ref mq, .int rz, .int az, .ref mi, .ref mz, .ref ma, .ref mc])), (mb, .inl (cyI, 97, .inl bk)), (mk, .inl (cyI, 4, .inl kn)), (mc, .inl (cyI, 100, .inl r))] s.heap.size) ([.ref hm] : List Value).toArray s 0 0 (va_A [(hm, .inr (6, [.ref mb, .ref mn, .ref mk, .int (nI sg), .ref ms, .int (nI sn), .ref mp, .int ud, .ref mq, .int rz, .int az, .ref mi, .ref mz, .ref ma, .ref mc])), (mb, .inl (cyI, 97, .inl bk)), (mk, .inl (cyI, 4, .inl kn)), (mc, .inl (cyI, 100, .inl cg))] s.heap.size)) (F0 m 44 ls []) := by
              intro r44
              induction r44 with
              | zero =>
                intro j44 ls1 hrj hz44 H locs hP hD hS ls hl
                rw [fX6_layHands_L44] at hz44
                subst hz44
                try dsimp only at hz16
                refine lv_iload hx hb dX6_layHands_44 (lv_at hl 0 rfl) ?_
                refine lv_iconst (v := (4 : Int32)) hx hb dX6_layHands_46 (by decide) ?_
                refine kx_ge hx hb (j44) (4) rfl rfl (by omega) (by omega) dX6_layHands_47 (by decide) (tgt := 109) (fun c47 => ?_) (fun c47 => absurd c47 (by omega))
                refine lv_aload_n hx hb dX6_layHands_109 rfl (lv_at hl 4 rfl) ?_
                refine va_get (D := (dC, dI)) (ci := 6) (v := .ref mc) (C := RX6) (T := TX6) (N := 15) hx hb hts hiX6 hown hK hP 0 rfl rfl 14 (by decide) fl38 (fun _ h9 => h9) rfl dX6_layHands_110 ?_
                refine lv_iconst (v := (4 : Int32)) hx hb dX6_layHands_113 (by decide) ?_
                refine lv_iload_n hx hb dX6_layHands_114 rfl (lv_at hl 3 rfl) ?_
                refine lv_imul hx hb dX6_layHands_115 ?_
                refine kx_e (pk_mul (4) (j10)) ?_
                refine lv_iload_n hx hb dX6_layHands_116 rfl (lv_at hl 2 rfl) ?_
                refine lv_iadd hx hb dX6_layHands_117 ?_
                refine kx_e (nI_add (4 * j10) (j16)) ?_
                refine lv_aload_n hx hb dX6_layHands_118 rfl (lv_at hl 4 rfl) ?_
                refine lv_iload_n hx hb dX6_layHands_119 rfl (lv_at hl 2 rfl) ?_
                refine lv_iload_n hx hb dX6_layHands_120 rfl (lv_at hl 3 rfl) ?_
                refine kx_cV (As := [.int (nI j16), .int (nI j10)]) (rest := [.int (nI (4 * j10 + j16)), .ref mc]) ⟨hx, hb, hml, hown, hts⟩ (c_X6_mayKnit l dC dI cyI cyZ hm mb mn mk ms mp mq mi mz ma mc sg sn ud rz az bk kn j16 j10 (by omega) (by omega) _ rfl) (cwV 2 hts gX6_layHands_X6_mayKnit rfl rfl rfl (by decide +kernel) ⟨Nat.le_of_ble_eq_true rfl, Nat.le_of_ble_eq_true rfl⟩) hP hK hN [0, 1, 2] rfl [0, 1] rfl 6 0 rfl rfl rfl rfl hl.1 rfl (Nat.le_of_ble_eq_true rfl) dX6_layHands_121 ⟨Nat.zero_le _, Nat.zero_le _⟩ ?_
                refine lv_if_eq (tgt := 131) hx hb dX6_layHands_124 (by decide) (fun c124 => ?_) (fun c124 => ?_)
                · rw [if_pos c124] at hz16
                  refine lv_ldc hx hb hown (hts (.constant RX6 121 (1000000)) (by decide +kernel)) dX6_layHands_131 ?_
                  refine kx_st hx hb hK hP hD hS 3 0 rfl rfl (4 * j10 + j16) rfl (by omega) (by decide) dX6_layHands_133 (fun H locs hP hD hS => ?_)
                  have hP : va_P (dC, dI) vwCl [(hm, .inr (6, [.ref mb, .ref mn, .ref mk, .int (nI sg), .ref ms, .int (nI sn), .ref mp, .int ud, .ref mq, .int rz, .int az, .ref mi, .ref mz, .ref ma, .ref mc])), (mb, .inl (cyI, 97, .inl bk)), (mk, .inl (cyI, 4, .inl kn)), (mc, .inl (cyI, 100, .inl (upd g2 (4 * j10 + j16) (1000000 : Int32))))] H := hP
                  have hD : va_D A [(hm, .inr (6, [.ref mb, .ref mn, .ref mk, .int (nI sg), .ref ms, .int (nI sn), .ref mp, .int ud, .ref mq, .int rz, .int az, .ref mi, .ref mz, .ref ma, .ref mc])), (mb, .inl (cyI, 97, .inl bk)), (mk, .inl (cyI, 4, .inl kn)), (mc, .inl (cyI, 100, .inl (upd g2 (4 * j10 + j16) (1000000 : Int32))))] := hD
                  refine lv_iinc (v := (nI (j16 + 1))) (lv' := [(2, .int (nI (j16 + 1))), (4, .int (nI j44)), (3, .int ls1), (1, .int (nI j10)), (0, .ref hm)]) hx hb dX6_layHands_134 hl (k := 2) rfl (by exact nI_add (j16) 1) (by decide) rfl (fun ls hl => ?_)
                  refine lv_goto (tgt := 16) hx hb dX6_layHands_137 (by decide) ?_
                  exact ih (j16 + 1) (upd g2 (4 * j10 + j16) (1000000 : Int32)) (by omega)  hz16 _ _ hP hD hS _ (lv_sub hl [0, 3, 4] rfl)
                · rw [if_neg c124] at hz16
                  refine lv_iload_n hx hb dX6_layHands_127 rfl (lv_at hl 1 rfl) ?_
                  refine lv_goto (tgt := 133) hx hb dX6_layHands_128 (by decide) ?_
                  refine kx_st hx hb hK hP hD hS 3 0 rfl rfl (4 * j10 + j16) rfl (by omega) (by decide) dX6_layHands_133 (fun H locs hP hD hS => ?_)
                  have hP : va_P (dC, dI) vwCl [(hm, .inr (6, [.ref mb, .ref mn, .ref mk, .int (nI sg), .ref ms, .int (nI sn), .ref mp, .int ud, .ref mq, .int rz, .int az, .ref mi, .ref mz, .ref ma, .ref mc])), (mb, .inl (cyI, 97, .inl bk)), (mk, .inl (cyI, 4, .inl kn)), (mc, .inl (cyI, 100, .inl (upd g2 (4 * j10 + j16) ls1)))] H := hP
                  have hD : va_D A [(hm, .inr (6, [.ref mb, .ref mn, .ref mk, .int (nI sg), .ref ms, .int (nI sn), .ref mp, .int ud, .ref mq, .int rz, .int az, .ref mi, .ref mz, .ref ma, .ref mc])), (mb, .inl (cyI, 97, .inl bk)), (mk, .inl (cyI, 4, .inl kn)), (mc, .inl (cyI, 100, .inl (upd g2 (4 * j10 + j16) ls1)))] := hD
                  refine lv_iinc (v := (nI (j16 + 1))) (lv' := [(2, .int (nI (j16 + 1))), (4, .int (nI j44)), (3, .int ls1), (1, .int (nI j10)), (0, .ref hm)]) hx hb dX6_layHands_134 hl (k := 2) rfl (by exact nI_add (j16) 1) (by decide) rfl (fun ls hl => ?_)
                  refine lv_goto (tgt := 16) hx hb dX6_layHands_137 (by decide) ?_
                  exact ih (j16 + 1) (upd g2 (4 * j10 + j16) ls1) (by omega)  hz16 _ _ hP hD hS _ (lv_sub hl [0, 3, 4] rfl)
              | succ r44 ih44 =>
                intro j44 ls1 hrj hz44 H locs hP hD hS ls hl
                rw [fX6_layHands_L44] at hz44
                refine lv_iload hx hb dX6_layHands_44 (lv_at hl 0 rfl) ?_
                refine lv_iconst (v := (4 : Int32)) hx hb dX6_layHands_46 (by decide) ?_
                refine kx_ge hx hb (j44) (4) rfl rfl (by omega) (by omega) dX6_layHands_47 (by decide) (tgt := 109) (fun c47 => absurd c47 (by omega)) (fun c47 => ?_)
                refine lv_iload_n hx hb dX6_layHands_50 rfl (lv_at hl 3 rfl) ?_
                refine lv_aload_n hx hb dX6_layHands_51 rfl (lv_at hl 4 rfl) ?_
                refine va_get (D := (dC, dI)) (ci := 6) (v := .ref mb) (C := RX6) (T := TX6) (N := 15) hx hb hts hiX6 hown hK hP 0 rfl rfl 0 (by decide) fl7 (fun _ h9 => h9) rfl dX6_layHands_52 ?_
                refine lv_bipush (v := (96 : Int32)) hx hb dX6_layHands_55 (by decide) ?_
                refine kx_ld hx hb hK hP 1 0 rfl rfl (96) rfl (by omega) (by decide) dX6_layHands_57 ?_
                refine kx_e hI.1 ?_
                refine lv_iconst (v := (1 : Int32)) hx hb dX6_layHands_58 (by decide) ?_
                refine lv_isub hx hb dX6_layHands_59 ?_
                refine kx_e (kx_sub1 (mN bk)) ?_
                refine lv_icmp_ge (tgt := 109) hx hb dX6_layHands_60 (by decide) (fun c60 => ?_) (fun c60 => ?_)
                · rw [if_pos c60] at hz44
                  subst hz44
                  try dsimp only at hz16
                  refine lv_aload_n hx hb dX6_layHands_109 rfl (lv_at hl 4 rfl) ?_
                  refine va_get (D := (dC, dI)) (ci := 6) (v := .ref mc) (C := RX6) (T := TX6) (N := 15) hx hb hts hiX6 hown hK hP 0 rfl rfl 14 (by decide) fl38 (fun _ h9 => h9) rfl dX6_layHands_110 ?_
                  refine lv_iconst (v := (4 : Int32)) hx hb dX6_layHands_113 (by decide) ?_
                  refine lv_iload_n hx hb dX6_layHands_114 rfl (lv_at hl 3 rfl) ?_
                  refine lv_imul hx hb dX6_layHands_115 ?_
                  refine kx_e (pk_mul (4) (j10)) ?_
                  refine lv_iload_n hx hb dX6_layHands_116 rfl (lv_at hl 2 rfl) ?_
                  refine lv_iadd hx hb dX6_layHands_117 ?_
                  refine kx_e (nI_add (4 * j10) (j16)) ?_
                  refine lv_aload_n hx hb dX6_layHands_118 rfl (lv_at hl 4 rfl) ?_
                  refine lv_iload_n hx hb dX6_layHands_119 rfl (lv_at hl 2 rfl) ?_
                  refine lv_iload_n hx hb dX6_layHands_120 rfl (lv_at hl 3 rfl) ?_
                  refine kx_cV (As := [.int (nI j16), .int (nI j10)]) (rest := [.int (nI (4 * j10 + j16)), .ref mc]) ⟨hx, hb, hml, hown, hts⟩ (c_X6_mayKnit l dC dI cyI cyZ hm mb mn mk ms mp mq mi mz ma mc sg sn ud rz az bk kn j16 j10 (by omega) (by omega) _ rfl) (cwV 2 hts gX6_layHands_X6_mayKnit rfl rfl rfl (by decide +kernel) ⟨Nat.le_of_ble_eq_true rfl, Nat.le_of_ble_eq_true rfl⟩) hP hK hN [0, 1, 2] rfl [0, 1] rfl 6 0 rfl rfl rfl rfl hl.1 rfl (Nat.le_of_ble_eq_true rfl) dX6_layHands_121 ⟨Nat.zero_le _, Nat.zero_le _⟩ ?_
                  refine lv_if_eq (tgt := 131) hx hb dX6_layHands_124 (by decide) (fun c124 => ?_) (fun c124 => ?_)
                  · rw [if_pos c124] at hz16
                    refine lv_ldc hx hb hown (hts (.constant RX6 121 (1000000)) (by decide +kernel)) dX6_layHands_131 ?_
                    refine kx_st hx hb hK hP hD hS 3 0 rfl rfl (4 * j10 + j16) rfl (by omega) (by decide) dX6_layHands_133 (fun H locs hP hD hS => ?_)
                    have hP : va_P (dC, dI) vwCl [(hm, .inr (6, [.ref mb, .ref mn, .ref mk, .int (nI sg), .ref ms, .int (nI sn), .ref mp, .int ud, .ref mq, .int rz, .int az, .ref mi, .ref mz, .ref ma, .ref mc])), (mb, .inl (cyI, 97, .inl bk)), (mk, .inl (cyI, 4, .inl kn)), (mc, .inl (cyI, 100, .inl (upd g2 (4 * j10 + j16) (1000000 : Int32))))] H := hP
                    have hD : va_D A [(hm, .inr (6, [.ref mb, .ref mn, .ref mk, .int (nI sg), .ref ms, .int (nI sn), .ref mp, .int ud, .ref mq, .int rz, .int az, .ref mi, .ref mz, .ref ma, .ref mc])), (mb, .inl (cyI, 97, .inl bk)), (mk, .inl (cyI, 4, .inl kn)), (mc, .inl (cyI, 100, .inl (upd g2 (4 * j10 + j16) (1000000 : Int32))))] := hD
                    refine lv_iinc (v := (nI (j16 + 1))) (lv' := [(2, .int (nI (j16 + 1))), (4, .int (nI j44)), (3, .int ls1), (1, .int (nI j10)), (0, .ref hm)]) hx hb dX6_layHands_134 hl (k := 2) rfl (by exact nI_add (j16) 1) (by decide) rfl (fun ls hl => ?_)
                    refine lv_goto (tgt := 16) hx hb dX6_layHands_137 (by decide) ?_
                    exact ih (j16 + 1) (upd g2 (4 * j10 + j16) (1000000 : Int32)) (by omega)  hz16 _ _ hP hD hS _ (lv_sub hl [0, 3, 4] rfl)
                  · rw [if_neg c124] at hz16
                    refine lv_iload_n hx hb dX6_layHands_127 rfl (lv_at hl 1 rfl) ?_
                    refine lv_goto (tgt := 133) hx hb dX6_layHands_128 (by decide) ?_
                    refine kx_st hx hb hK hP hD hS 3 0 rfl rfl (4 * j10 + j16) rfl (by omega) (by decide) dX6_layHands_133 (fun H locs hP hD hS => ?_)
                    have hP : va_P (dC, dI) vwCl [(hm, .inr (6, [.ref mb, .ref mn, .ref mk, .int (nI sg), .ref ms, .int (nI sn), .ref mp, .int ud, .ref mq, .int rz, .int az, .ref mi, .ref mz, .ref ma, .ref mc])), (mb, .inl (cyI, 97, .inl bk)), (mk, .inl (cyI, 4, .inl kn)), (mc, .inl (cyI, 100, .inl (upd g2 (4 * j10 + j16) ls1)))] H := hP
                    have hD : va_D A [(hm, .inr (6, [.ref mb, .ref mn, .ref mk, .int (nI sg), .ref ms, .int (nI sn), .ref mp, .int ud, .ref mq, .int rz, .int az, .ref mi, .ref mz, .ref ma, .ref mc])), (mb, .inl (cyI, 97, .inl bk)), (mk, .inl (cyI, 4, .inl kn)), (mc, .inl (cyI, 100, .inl (upd g2 (4 * j10 + j16) ls1)))] := hD
                    refine lv_iinc (v := (nI (j16 + 1))) (lv' := [(2, .int (nI (j16 + 1))), (4, .int (nI j44)), (3, .int ls1), (1, .int (nI j10)), (0, .ref hm)]) hx hb dX6_layHands_134 hl (k := 2) rfl (by exact nI_add (j16) 1) (by decide) rfl (fun ls hl => ?_)
                    refine lv_goto (tgt := 16) hx hb dX6_layHands_137 (by decide) ?_
                    exact ih (j16 + 1) (upd g2 (4 * j10 + j16) ls1) (by omega)  hz16 _ _ hP hD hS _ (lv_sub hl [0, 3, 4] rfl)
                · rw [if_neg c60] at hz44
                  refine lv_aload_n hx hb dX6_layHands_63 rfl (lv_at hl 4 rfl) ?_
                  refine va_get (D := (dC, dI)) (ci := 6) (v := .ref mc) (C := RX6) (T := TX6) (N := 15) hx hb hts hiX6 hown hK hP 0 rfl rfl 14 (by decide) fl38 (fun _ h9 => h9) rfl dX6_layHands_64 ?_
                  refine lv_iconst (v := (4 : Int32)) hx hb dX6_layHands_67 (by decide) ?_
                  refine lv_iload_n hx hb dX6_layHands_68 rfl (lv_at hl 3 rfl) ?_
                  refine lv_imul hx hb dX6_layHands_69 ?_
                  refine kx_e (pk_mul (4) (j10)) ?_
                  refine lv_iconst (v := (4 : Int32)) hx hb dX6_layHands_70 (by decide) ?_
                  refine lv_iadd hx hb dX6_layHands_71 ?_
                  refine kx_e (nI_add (4 * j10) (4)) ?_
                  refine lv_iload hx hb dX6_layHands_72 (lv_at hl 0 rfl) ?_
                  refine lv_iadd hx hb dX6_layHands_74 ?_
                  refine kx_e (nI_add (4 * j10 + 4) (j44)) ?_
                  refine kx_ld hx hb hK hP 3 0 rfl rfl (4 * j10 + 4 + j44) rfl (by omega) (by decide) dX6_layHands_75 ?_
                  refine lv_iload hx hb dX6_layHands_76 (lv_at hl 0 rfl) ?_
                  refine lv_iload_n hx hb dX6_layHands_78 rfl (lv_at hl 2 rfl) ?_
                  refine kx_ne hx hb (j44) (j16) rfl rfl (by omega) (by omega) dX6_layHands_79 (by decide) (tgt := 86) (fun c79 => ?_) (fun c79 => ?_)
                  · rw [if_neg c79] at hz44
                    refine lv_iconst (v := (1 : Int32)) hx hb dX6_layHands_86 (by decide) ?_
                    refine lv_iadd hx hb dX6_layHands_87 ?_
                    refine lv_istore (lv' := [(5, .int ((g2 (4 * j10 + 4 + j44)) + (1 : Int32))), (4, .int (nI j44)), (3, .int ls1), (2, .int (nI j16)), (1, .int (nI j10)), (0, .ref hm)]) hx hb dX6_layHands_88 hl (by decide) rfl (fun ls hl => ?_)
                    refine lv_iload hx hb dX6_layHands_90 (lv_at hl 0 rfl) ?_
                    refine lv_iload_n hx hb dX6_layHands_92 rfl (lv_at hl 2 rfl) ?_
                    refine lv_icmp_ge (tgt := 101) hx hb dX6_layHands_93 (by decide) (fun c93 => ?_) (fun c93 => ?_)
                    · rw [if_pos c93] at hz44
                      refine lv_iload_n hx hb dX6_layHands_101 rfl (lv_at hl 2 rfl) ?_
                      refine lv_istore_n (lv' := [(3, .int ls1), (5, .int ((g2 (4 * j10 + 4 + j44)) + (1 : Int32))), (4, .int (nI j44)), (2, .int (nI j16)), (1, .int (nI j10)), (0, .ref hm)]) hx hb dX6_layHands_102 rfl hl (by decide) rfl (fun ls hl => ?_)
                      refine lv_iinc (v := (nI (j44 + 1))) (lv' := [(4, .int (nI (j44 + 1))), (3, .int ls1), (5, .int ((g2 (4 * j10 + 4 + j44)) + (1 : Int32))), (2, .int (nI j16)), (1, .int (nI j10)), (0, .ref hm)]) hx hb dX6_layHands_103 hl (k := 2) rfl (by exact nI_add (j44) 1) (by decide) rfl (fun ls hl => ?_)
                      refine lv_goto (tgt := 44) hx hb dX6_layHands_106 (by decide) ?_
                      exact ih44 (j44 + 1) ls1 (by omega)  hz44 _ _ hP hD hS _ (lv_sub hl [0, 1, 3, 4, 5] rfl)
                    · rw [if_neg c93] at hz44
                      refine lv_iload hx hb dX6_layHands_96 (lv_at hl 0 rfl) ?_
                      refine lv_goto (tgt := 102) hx hb dX6_layHands_98 (by decide) ?_
                      refine lv_istore_n (lv' := [(3, .int ((g2 (4 * j10 + 4 + j44)) + (1 : Int32))), (5, .int ((g2 (4 * j10 + 4 + j44)) + (1 : Int32))), (4, .int (nI j44)), (2, .int (nI j16)), (1, .int (nI j10)), (0, .ref hm)]) hx hb dX6_layHands_102 rfl hl (by decide) rfl (fun ls hl => ?_)
                      refine lv_iinc (v := (nI (j44 + 1))) (lv' := [(4, .int (nI (j44 + 1))), (3, .int ((g2 (4 * j10 + 4 + j44)) + (1 : Int32))), (5, .int ((g2 (4 * j10 + 4 + j44)) + (1 : Int32))), (2, .int (nI j16)), (1, .int (nI j10)), (0, .ref hm)]) hx hb dX6_layHands_103 hl (k := 2) rfl (by exact nI_add (j44) 1) (by decide) rfl (fun ls hl => ?_)
                      refine lv_goto (tgt := 44) hx hb dX6_layHands_106 (by decide) ?_
                      exact ih44 (j44 + 1) ((g2 (4 * j10 + 4 + j44)) + (1 : Int32)) (by omega)  hz44 _ _ hP hD hS _ (lv_sub hl [0, 1, 3, 4, 5] rfl)
                  · rw [if_pos c79] at hz44
                    refine lv_iconst (v := (0 : Int32)) hx hb dX6_layHands_82 (by decide) ?_
                    refine lv_goto (tgt := 87) hx hb dX6_layHands_83 (by decide) ?_
                    refine lv_iadd hx hb dX6_layHands_87 ?_
                    refine lv_istore (lv' := [(5, .int ((g2 (4 * j10 + 4 + j44)) + (0 : Int32))), (4, .int (nI j44)), (3, .int ls1), (2, .int (nI j16)), (1, .int (nI j10)), (0, .ref hm)]) hx hb dX6_layHands_88 hl (by decide) rfl (fun ls hl => ?_)
                    refine lv_iload hx hb dX6_layHands_90 (lv_at hl 0 rfl) ?_
                    refine lv_iload_n hx hb dX6_layHands_92 rfl (lv_at hl 2 rfl) ?_
                    refine lv_icmp_ge (tgt := 101) hx hb dX6_layHands_93 (by decide) (fun c93 => ?_) (fun c93 => ?_)
                    · rw [if_pos c93] at hz44
                      refine lv_iload_n hx hb dX6_layHands_101 rfl (lv_at hl 2 rfl) ?_
                      refine lv_istore_n (lv' := [(3, .int ls1), (5, .int ((g2 (4 * j10 + 4 + j44)) + (0 : Int32))), (4, .int (nI j44)), (2, .int (nI j16)), (1, .int (nI j10)), (0, .ref hm)]) hx hb dX6_layHands_102 rfl hl (by decide) rfl (fun ls hl => ?_)
                      refine lv_iinc (v := (nI (j44 + 1))) (lv' := [(4, .int (nI (j44 + 1))), (3, .int ls1), (5, .int ((g2 (4 * j10 + 4 + j44)) + (0 : Int32))), (2, .int (nI j16)), (1, .int (nI j10)), (0, .ref hm)]) hx hb dX6_layHands_103 hl (k := 2) rfl (by exact nI_add (j44) 1) (by decide) rfl (fun ls hl => ?_)
                      refine lv_goto (tgt := 44) hx hb dX6_layHands_106 (by decide) ?_
                      exact ih44 (j44 + 1) ls1 (by omega)  hz44 _ _ hP hD hS _ (lv_sub hl [0, 1, 3, 4, 5] rfl)
                    · rw [if_neg c93] at hz44
                      refine lv_iload hx hb dX6_layHands_96 (lv_at hl 0 rfl) ?_
                      refine lv_goto (tgt := 102) hx hb dX6_layHands_98 (by decide) ?_
                      refine lv_istore_n (lv' := [(3, .int ((g2 (4 * j10 + 4 + j44)) + (0 : Int32))), (5, .int ((g2 (4 * j10 + 4 + j44)) + (0 : Int32))), (4, .int (nI j44)), (2, .int (nI j16)), (1, .int (nI j10)), (0, .ref hm)]) hx hb dX6_layHands_102 rfl hl (by decide) rfl (fun ls hl => ?_)
                      refine lv_iinc (v := (nI (j44 + 1))) (lv' := [(4, .int (nI (j44 + 1))), (3, .int ((g2 (4 * j10 + 4 + j44)) + (0 : Int32))), (5, .int ((g2 (4 * j10 + 4 + j44)) + (0 : Int32))), (2, .int (nI j16)), (1, .int (nI j10)), (0, .ref hm)]) hx hb dX6_layHands_103 hl (k := 2) rfl (by exact nI_add (j44) 1) (by decide) rfl (fun ls hl => ?_)
                      refine lv_goto (tgt := 44) hx hb dX6_layHands_106 (by decide) ?_
                      exact ih44 (j44 + 1) ((g2 (4 * j10 + 4 + j44)) + (0 : Int32)) (by omega)  hz44 _ _ hP hD hS _ (lv_sub hl [0, 1, 3, 4, 5] rfl)
            exact LP44 4 0 (0 : Int32) (by omega)  hz44 _ _ hP hD hS _ (lv_sub hl [0, 1, 2, 3, 4] rfl)
      exact LP16 4 0 g1 (by omega)  hz16 _ _ hP hD hS _ (lv_sub hl [0, 1, 2] rfl)
  exact LP10 (mN bk) cg (by omega)  hz10 _ _ hP hD hS _ (lv_sub hl [0, 1] rfl)

def fX6_fewest_L5 (cg : Nat → Int32) (ks : Nat) : Nat → Nat → Int32 → Int32
  | 0, _, fw => fw
  | r5 + 1, j5, fw => (if fw ≤ (cg (4 * ks + j5)) then (fX6_fewest_L5 cg ks r5 (j5 + 1) fw) else (fX6_fewest_L5 cg ks r5 (j5 + 1) (cg (4 * ks + j5))))
def fX6_fewest (cg : Nat → Int32) (ks : Nat) : Int32 :=
  ((fun (fw : Int32) => fw) (fX6_fewest_L5 cg ks 4 0 (1000000 : Int32)))
set_option maxHeartbeats 4000000 in
set_option maxRecDepth 100000 in
theorem c_X6_fewest (l : Launch) (dC : Nat → ClassId) (dI : Nat → Nat → Nat) (cyI cyZ : ClassId) (hm mb mn mk ms mp mq mi mz ma mc : Nat) (sg : Nat) (sn : Nat) (ud : Int32) (rz : Int32) (az : Int32) (cg : Nat → Int32) (ks : Nat) (hks : ks < 24) (r : Int32) (hF : fX6_fewest cg ks = r) : Met l yX6_fewest wsX6_fewest ({ frames := 0, cells := 0, slots := 0, locals := 0 }) (kx_rp (dC, dI) [(hm, .inr (6, [.ref mb, .ref mn, .ref mk, .int (nI sg), .ref ms, .int (nI sn), .ref mp, .int ud, .ref mq, .int rz, .int az, .ref mi, .ref mz, .ref ma, .ref mc])), (mc, .inl (cyI, 100, .inl cg))] [(cyI, .int), (cyZ, .boolean)] [.ref hm, .int (nI ks)]) (k2_QcV (.int r)) 0 0 (fun _ => False) := by
  refine Met.ofW (cc := cX6_fewest) (maxL := 4) (ret := (some .int)) (by decide) rfl ?_
  intro p e s m args below meth c s₁ B hml hv
  obtain ⟨rfl, hP, hK, hN⟩ := hv
  have hx := B.exec
  have hb := B.bytes
  have hr := B.returns
  have hts := atoms_spec (ws := wsX6_fewest) B.pre
  have hown : s.vm.findClass RX6 = some m.cls := findClass_of_methodNamed B.named
  have hlocks := B.notSynchronized
  have hiX6 : ∀ w ∈ wsX60, w ∈ wsX6_fewest := by decide +kernel
  have fl38 := hts (.fieldLink RX6 38 "KnitChronicleModel" "changes" "[I") (by decide +kernel)
  have hl := lv_entry ([.ref hm, .int (nI ks)]) (n := 4) (Nat.le_of_ble_eq_true rfl)
  rw [lg_entry_eq]
  generalize (lg_sl ([.ref hm, .int (nI ks)]) ++ List.replicate (4 - (lg_sl ([.ref hm, .int (nI ks)])).length) Slot.unset).toArray = ls at hl ⊢
  have hl : lv_has ls 4 [(0, .ref hm), (1, .int (nI ks))] := hl
  unfold fX6_fewest at hF
  refine lv_ldc hx hb hown (hts (.constant RX6 121 (1000000)) (by decide +kernel)) dX6_fewest_0 ?_
  refine lv_istore_n (lv' := [(2, .int (1000000 : Int32)), (0, .ref hm), (1, .int (nI ks))]) hx hb dX6_fewest_2 rfl hl (by decide) rfl (fun ls hl => ?_)
  refine lv_iconst (v := (0 : Int32)) hx hb dX6_fewest_3 (by decide) ?_
  refine lv_istore_n (lv' := [(3, .int (0 : Int32)), (2, .int (1000000 : Int32)), (0, .ref hm), (1, .int (nI ks))]) hx hb dX6_fewest_4 rfl hl (by decide) rfl (fun ls hl => ?_)
  generalize hz5 : fX6_fewest_L5 cg ks 4 0 (1000000 : Int32) = z5 at hF
  have LP5 : ∀ (r5 : Nat) (j5 : Nat) (fw : Int32), r5 + j5 = 4 → fX6_fewest_L5 cg ks r5 j5 fw = z5 → ∀ (ls : Array Slot), lv_has ls 4 [(3, .int (nI j5)), (2, .int fw), (0, .ref hm), (1, .int (nI ks))] → W p l e (headSpec wsX6_fewest ({ frames := 0, cells := 0, slots := 0, locals := 0 } : Room)).room s m ([.ref hm, .int (nI ks)] : List Value).toArray below meth c s.heap [] 0 0 (MQ below (k2_QcV (.int r)) ([.ref hm, .int (nI ks)] : List Value).toArray s 0 0 (fun _ => False)) (F0 m 5 ls []) := by
    intro r5
    induction r5 with
    | zero =>
      intro j5 fw hrj hz5 ls hl
      rw [fX6_fewest_L5] at hz5
      subst hz5
      try dsimp only at hF
      refine lv_iload_n hx hb dX6_fewest_5 rfl (lv_at hl 0 rfl) ?_
      refine lv_iconst (v := (4 : Int32)) hx hb dX6_fewest_6 (by decide) ?_
      refine kx_ge hx hb (j5) (4) rfl rfl (by omega) (by omega) dX6_fewest_7 (by decide) (tgt := 45) (fun c7 => ?_) (fun c7 => absurd c7 (by omega))
      refine lv_iload_n hx hb dX6_fewest_45 rfl (lv_at hl 1 rfl) ?_
      exact W.iret hx hb hr (fun t ht _ => ⟨congrArg (fun z => Outcome.returned (some (Value.int z))) hF, ht⟩) (fun _ h => absurd h List.not_mem_nil) dX6_fewest_46
    | succ r5 ih =>
      intro j5 fw hrj hz5 ls hl
      rw [fX6_fewest_L5] at hz5
      refine lv_iload_n hx hb dX6_fewest_5 rfl (lv_at hl 0 rfl) ?_
      refine lv_iconst (v := (4 : Int32)) hx hb dX6_fewest_6 (by decide) ?_
      refine kx_ge hx hb (j5) (4) rfl rfl (by omega) (by omega) dX6_fewest_7 (by decide) (tgt := 45) (fun c7 => absurd c7 (by omega)) (fun c7 => ?_)
      refine lv_aload_n hx hb dX6_fewest_10 rfl (lv_at hl 2 rfl) ?_
      refine va_get (D := (dC, dI)) (ci := 6) (v := .ref mc) (C := RX6) (T := TX6) (N := 15) hx hb hts hiX6 hown hK hP 0 rfl rfl 14 (by decide) fl38 (fun _ h9 => h9) rfl dX6_fewest_11 ?_
      refine lv_iconst (v := (4 : Int32)) hx hb dX6_fewest_14 (by decide) ?_
      refine lv_iload_n hx hb dX6_fewest_15 rfl (lv_at hl 3 rfl) ?_
      refine lv_imul hx hb dX6_fewest_16 ?_
      refine kx_e (pk_mul (4) (ks)) ?_
      refine lv_iload_n hx hb dX6_fewest_17 rfl (lv_at hl 0 rfl) ?_
      refine lv_iadd hx hb dX6_fewest_18 ?_
      refine kx_e (nI_add (4 * ks) (j5)) ?_
      refine kx_ld hx hb hK hP 1 0 rfl rfl (4 * ks + j5) rfl (by omega) (by decide) dX6_fewest_19 ?_
      refine lv_iload_n hx hb dX6_fewest_20 rfl (lv_at hl 1 rfl) ?_
      refine lv_icmp_ge (tgt := 37) hx hb dX6_fewest_21 (by decide) (fun c21 => ?_) (fun c21 => ?_)
      · rw [if_pos c21] at hz5
        refine lv_iload_n hx hb dX6_fewest_37 rfl (lv_at hl 1 rfl) ?_
        refine lv_istore_n (lv' := [(2, .int fw), (3, .int (nI j5)), (0, .ref hm), (1, .int (nI ks))]) hx hb dX6_fewest_38 rfl hl (by decide) rfl (fun ls hl => ?_)
        refine lv_iinc (v := (nI (j5 + 1))) (lv' := [(3, .int (nI (j5 + 1))), (2, .int fw), (0, .ref hm), (1, .int (nI ks))]) hx hb dX6_fewest_39 hl (k := 1) rfl (by exact nI_add (j5) 1) (by decide) rfl (fun ls hl => ?_)
        refine lv_goto (tgt := 5) hx hb dX6_fewest_42 (by decide) ?_
        exact ih (j5 + 1) fw (by omega)  hz5 _ (lv_sub hl [0, 1, 2, 3] rfl)
      · rw [if_neg c21] at hz5
        refine lv_aload_n hx hb dX6_fewest_24 rfl (lv_at hl 2 rfl) ?_
        refine va_get (D := (dC, dI)) (ci := 6) (v := .ref mc) (C := RX6) (T := TX6) (N := 15) hx hb hts hiX6 hown hK hP 0 rfl rfl 14 (by decide) fl38 (fun _ h9 => h9) rfl dX6_fewest_25 ?_
        refine lv_iconst (v := (4 : Int32)) hx hb dX6_fewest_28 (by decide) ?_
        refine lv_iload_n hx hb dX6_fewest_29 rfl (lv_at hl 3 rfl) ?_
        refine lv_imul hx hb dX6_fewest_30 ?_
        refine kx_e (pk_mul (4) (ks)) ?_
        refine lv_iload_n hx hb dX6_fewest_31 rfl (lv_at hl 0 rfl) ?_
        refine lv_iadd hx hb dX6_fewest_32 ?_
        refine kx_e (nI_add (4 * ks) (j5)) ?_
        refine kx_ld hx hb hK hP 1 0 rfl rfl (4 * ks + j5) rfl (by omega) (by decide) dX6_fewest_33 ?_
        refine lv_goto (tgt := 38) hx hb dX6_fewest_34 (by decide) ?_
        refine lv_istore_n (lv' := [(2, .int (cg (4 * ks + j5))), (3, .int (nI j5)), (0, .ref hm), (1, .int (nI ks))]) hx hb dX6_fewest_38 rfl hl (by decide) rfl (fun ls hl => ?_)
        refine lv_iinc (v := (nI (j5 + 1))) (lv' := [(3, .int (nI (j5 + 1))), (2, .int (cg (4 * ks + j5))), (0, .ref hm), (1, .int (nI ks))]) hx hb dX6_fewest_39 hl (k := 1) rfl (by exact nI_add (j5) 1) (by decide) rfl (fun ls hl => ?_)
        refine lv_goto (tgt := 5) hx hb dX6_fewest_42 (by decide) ?_
        exact ih (j5 + 1) (cg (4 * ks + j5)) (by omega)  hz5 _ (lv_sub hl [0, 1, 2, 3] rfl)
  exact LP5 4 0 (1000000 : Int32) (by omega)  hz5 _ (lv_sub hl [0, 1, 2, 3] rfl)

def fX6_hands (bk : Nat → Int32) (kn : Nat → Int32) (cg : Nat → Int32) : Int32 × (Nat → Int32) :=
  (if mN bk = 0 then ((0 : Int32), cg) else ((fun (q13 : Nat → Int32) => (if (1000000 : Int32) ≤ (fX6_fewest q13 0) then ((-6 : Int32), q13) else ((fX6_fewest q13 0), q13))) (fX6_layHands bk kn cg)))
set_option maxHeartbeats 4000000 in
set_option maxRecDepth 100000 in
theorem c_X6_hands (l : Launch) (dC : Nat → ClassId) (dI : Nat → Nat → Nat) (cyI cyZ : ClassId) (hm mb mn mk ms mp mq mi mz ma mc : Nat) (sg : Nat) (sn : Nat) (ud : Int32) (rz : Int32) (az : Int32) (bk : Nat → Int32) (kn : Nat → Int32) (cg : Nat → Int32) (hI : kx_I bk) (sz : Nat) (r : Int32 × (Nat → Int32)) (hF : fX6_hands bk kn cg = r) : Met l yX6_hands wsX6_hands ({ frames := 3, cells := 0, slots := 0, locals := 69 }) (kx_wp (dC, dI) [(hm, .inr (6, [.ref mb, .ref mn, .ref mk, .int (nI sg), .ref ms, .int (nI sn), .ref mp, .int ud, .ref mq, .int rz, .int az, .ref mi, .ref mz, .ref ma, .ref mc])), (mb, .inl (cyI, 97, .inl bk)), (mk, .inl (cyI, 4, .inl kn)), (mc, .inl (cyI, 100, .inl cg))] [(cyI, .int), (cyZ, .boolean)] sz [.ref hm]) (kx_Qi r.1 (dC, dI) [(hm, .inr (6, [.ref mb, .ref mn, .ref mk, .int (nI sg), .ref ms, .int (nI sn), .ref mp, .int ud, .ref mq, .int rz, .int az, .ref mi, .ref mz, .ref ma, .ref mc])), (mb, .inl (cyI, 97, .inl bk)), (mk, .inl (cyI, 4, .inl kn)), (mc, .inl (cyI, 100, .inl cg))] [(hm, .inr (6, [.ref mb, .ref mn, .ref mk, .int (nI sg), .ref ms, .int (nI sn), .ref mp, .int ud, .ref mq, .int rz, .int az, .ref mi, .ref mz, .ref ma, .ref mc])), (mb, .inl (cyI, 97, .inl bk)), (mk, .inl (cyI, 4, .inl kn)), (mc, .inl (cyI, 100, .inl r.2))] sz) 0 0 (va_A [(hm, .inr (6, [.ref mb, .ref mn, .ref mk, .int (nI sg), .ref ms, .int (nI sn), .ref mp, .int ud, .ref mq, .int rz, .int az, .ref mi, .ref mz, .ref ma, .ref mc])), (mb, .inl (cyI, 97, .inl bk)), (mk, .inl (cyI, 4, .inl kn)), (mc, .inl (cyI, 100, .inl cg))] sz) := by
  refine Met.ofW (cc := cX6_hands) (maxL := 1) (ret := (some .int)) (by decide) rfl ?_
  intro p e s m args below meth c s₁ B hml hv
  obtain ⟨rfl, hsz, hP, hK, hN, hD0⟩ := hv
  have hx := B.exec
  have hb := B.bytes
  have hr := B.returns
  have hts := atoms_spec (ws := wsX6_hands) B.pre
  have hown : s.vm.findClass RX6 = some m.cls := findClass_of_methodNamed B.named
  have hlocks := B.notSynchronized
  subst hsz
  obtain ⟨A, hAe⟩ : ∃ A, A = va_A [(hm, .inr (6, [.ref mb, .ref mn, .ref mk, .int (nI sg), .ref ms, .int (nI sn), .ref mp, .int ud, .ref mq, .int rz, .int az, .ref mi, .ref mz, .ref ma, .ref mc])), (mb, .inl (cyI, 97, .inl bk)), (mk, .inl (cyI, 4, .inl kn)), (mc, .inl (cyI, 100, .inl cg))] s.heap.size := ⟨_, rfl⟩
  have hD : va_D A [(hm, .inr (6, [.ref mb, .ref mn, .ref mk, .int (nI sg), .ref ms, .int (nI sn), .ref mp, .int ud, .ref mq, .int rz, .int az, .ref mi, .ref mz, .ref ma, .ref mc])), (mb, .inl (cyI, 97, .inl bk)), (mk, .inl (cyI, 4, .inl kn)), (mc, .inl (cyI, 100, .inl cg))] := by rw [hAe]; exact hD0.self
  have hA : ∀ q : Nat, s.heap.size ≤ q → A q := fun q h => by rw [hAe]; exact Or.inr h
  have hS : va_S A s.heap s.heap [] := va_S.rf
  have hiX6 : ∀ w ∈ wsX60, w ∈ wsX6_hands := by decide +kernel
  have fl7 := hts (.fieldLink RX6 7 "KnitChronicleModel" "book" "[I") (by decide +kernel)
  have hl := lv_entry ([.ref hm]) (n := 1) (Nat.le_of_ble_eq_true rfl)
  rw [lg_entry_eq]
  generalize (lg_sl ([.ref hm]) ++ List.replicate (1 - (lg_sl ([.ref hm])).length) Slot.unset).toArray = ls at hl ⊢
  have hl : lv_has ls 1 [(0, .ref hm)] := hl
  unfold fX6_hands at hF
  have hmN := hI.2.1
  refine lv_aload_n hx hb dX6_hands_0 rfl (lv_at hl 0 rfl) ?_
  refine va_get (D := (dC, dI)) (ci := 6) (v := .ref mb) (C := RX6) (T := TX6) (N := 15) hx hb hts hiX6 hown hK hP 0 rfl rfl 0 (by decide) fl7 (fun _ h9 => h9) rfl dX6_hands_1 ?_
  refine lv_bipush (v := (96 : Int32)) hx hb dX6_hands_4 (by decide) ?_
  refine kx_ld hx hb hK hP 1 0 rfl rfl (96) rfl (by omega) (by decide) dX6_hands_6 ?_
  refine kx_e hI.1 ?_
  refine kx_ne0 hx hb (mN bk) rfl (by omega) dX6_hands_7 (by decide) (tgt := 12) (fun c7 => ?_) (fun c7 => ?_)
  · rw [if_neg c7] at hF
    refine lv_aload_n hx hb dX6_hands_12 rfl (lv_at hl 0 rfl) ?_
    generalize hq13 : fX6_layHands bk kn cg = q13 at hF
    try dsimp only at hF
    refine kx_wVv (As := []) (rest := []) (wr := []) (wc' := [(hm, .inr (6, [.ref mb, .ref mn, .ref mk, .int (nI sg), .ref ms, .int (nI sn), .ref mp, .int ud, .ref mq, .int rz, .int az, .ref mi, .ref mz, .ref ma, .ref mc])), (mb, .inl (cyI, 97, .inl bk)), (mk, .inl (cyI, 4, .inl kn)), (mc, .inl (cyI, 100, .inl q13))]) (W1 := [(hm, .inr (6, [.ref mb, .ref mn, .ref mk, .int (nI sg), .ref ms, .int (nI sn), .ref mp, .int ud, .ref mq, .int rz, .int az, .ref mi, .ref mz, .ref ma, .ref mc])), (mb, .inl (cyI, 97, .inl bk)), (mk, .inl (cyI, 4, .inl kn)), (mc, .inl (cyI, 100, .inl q13))]) ⟨hx, hb, hml, hown, hts⟩ (c_X6_layHands l dC dI cyI cyZ hm mb mn mk ms mp mq mi mz ma mc sg sn ud rz az bk kn cg hI _ _ hq13) (cwV 0 hts gX6_hands_X6_layHands rfl rfl rfl (by decide +kernel) ⟨Nat.le_of_ble_eq_true rfl, Nat.le_of_ble_eq_true rfl⟩) hP hD hS hA hK hN [0, 1, 2, 3] [] [0, 1, 2, 3] rfl (by decide) rfl (by decide) (by decide) (by decide) rfl [0, 1] rfl 6 0 rfl rfl rfl rfl hl.1 rfl (Nat.le_of_ble_eq_true rfl) dX6_hands_13 ⟨Nat.zero_le _, Nat.zero_le _⟩ (fun H locs hP hD hS => ?_)
    refine lv_aload_n hx hb dX6_hands_16 rfl (lv_at hl 0 rfl) ?_
    refine lv_iconst (v := (0 : Int32)) hx hb dX6_hands_17 (by decide) ?_
    refine kx_cV (As := [.int (0 : Int32)]) (rest := []) ⟨hx, hb, hml, hown, hts⟩ (c_X6_fewest l dC dI cyI cyZ hm mb mn mk ms mp mq mi mz ma mc sg sn ud rz az q13 0 (by omega) _ rfl) (cwV 1 hts gX6_hands_X6_fewest rfl rfl rfl (by decide +kernel) ⟨Nat.le_of_ble_eq_true rfl, Nat.le_of_ble_eq_true rfl⟩) hP hK hN [0, 3] rfl [0, 1] rfl 6 0 rfl rfl rfl rfl hl.1 rfl (Nat.le_of_ble_eq_true rfl) dX6_hands_18 ⟨Nat.zero_le _, Nat.zero_le _⟩ ?_
    refine lv_ldc hx hb hown (hts (.constant RX6 121 (1000000)) (by decide +kernel)) dX6_hands_21 ?_
    refine lv_icmp_ge (tgt := 34) hx hb dX6_hands_23 (by decide) (fun c23 => ?_) (fun c23 => ?_)
    · rw [if_pos c23] at hF
      refine lv_bipush (v := (-6 : Int32)) hx hb dX6_hands_34 (by decide) ?_
      subst hF
      subst hAe
      exact W.iret hx hb hr (fun t ht _ => ⟨⟨_, (), rfl, rfl, by rw [ht]; exact hP, hD⟩, hS.F ht⟩) hS.2.2 dX6_hands_36
    · rw [if_neg c23] at hF
      refine lv_aload_n hx hb dX6_hands_26 rfl (lv_at hl 0 rfl) ?_
      refine lv_iconst (v := (0 : Int32)) hx hb dX6_hands_27 (by decide) ?_
      refine kx_cV (As := [.int (0 : Int32)]) (rest := []) ⟨hx, hb, hml, hown, hts⟩ (c_X6_fewest l dC dI cyI cyZ hm mb mn mk ms mp mq mi mz ma mc sg sn ud rz az q13 0 (by omega) _ rfl) (cwV 1 hts gX6_hands_X6_fewest rfl rfl rfl (by decide +kernel) ⟨Nat.le_of_ble_eq_true rfl, Nat.le_of_ble_eq_true rfl⟩) hP hK hN [0, 3] rfl [0, 1] rfl 6 0 rfl rfl rfl rfl hl.1 rfl (Nat.le_of_ble_eq_true rfl) dX6_hands_28 ⟨Nat.zero_le _, Nat.zero_le _⟩ ?_
      refine lv_goto (tgt := 36) hx hb dX6_hands_31 (by decide) ?_
      subst hF
      subst hAe
      exact W.iret hx hb hr (fun t ht _ => ⟨⟨_, (), rfl, rfl, by rw [ht]; exact hP, hD⟩, hS.F ht⟩) hS.2.2 dX6_hands_36
  · rw [if_pos c7] at hF
    refine lv_iconst (v := (0 : Int32)) hx hb dX6_hands_10 (by decide) ?_
    subst hF
    subst hAe
    exact W.iret hx hb hr (fun t ht _ => ⟨⟨_, (), rfl, rfl, by rw [ht]; exact hP, hD⟩, hS.F ht⟩) hS.2.2 dX6_hands_11

def fX6_who_L52 (q11 : Nat → Int32) (lf : Int32) (bz : Int32) (j39 : Nat) : Nat → Int32 → Int32
  | 0, fo => fo
  | j52 + 1, fo => (if bz < 0 then (if ((q11 (4 * j39 + j52)) + (0 : Int32)) = lf then (fX6_who_L52 q11 lf bz j39 j52 (nI j52)) else (fX6_who_L52 q11 lf bz j39 j52 fo)) else (if bz = (nI j52) then (if ((q11 (4 * j39 + j52)) + (0 : Int32)) = lf then (fX6_who_L52 q11 lf bz j39 j52 (nI j52)) else (fX6_who_L52 q11 lf bz j39 j52 fo)) else (if ((q11 (4 * j39 + j52)) + (1 : Int32)) = lf then (fX6_who_L52 q11 lf bz j39 j52 (nI j52)) else (fX6_who_L52 q11 lf bz j39 j52 fo))))
def fX6_who_L39 (q11 : Nat → Int32) : Nat → Nat → Int32 → Int32 → Int32 × Int32
  | 0, _, lf, bz => (lf, bz)
  | r39 + 1, j39, lf, bz => ((fun (fo : Int32) => (if bz < 0 then (fX6_who_L39 q11 r39 (j39 + 1) (lf - (0 : Int32)) fo) else (if bz = fo then (fX6_who_L39 q11 r39 (j39 + 1) (lf - (0 : Int32)) fo) else (fX6_who_L39 q11 r39 (j39 + 1) (lf - (1 : Int32)) fo)))) (fX6_who_L52 q11 lf bz j39 4 (-6 : Int32)))
def fX6_who (bk : Nat → Int32) (kn : Nat → Int32) (cg : Nat → Int32) (k : Int32) : Int32 × (Nat → Int32) :=
  (if (fX6_isStitch bk k) = 0 then ((-1 : Int32), cg) else ((fun (q11 : Nat → Int32) => (if (fX6_fewest q11 0) < (1000000 : Int32) then (match fX6_who_L39 q11 (k.toNatClampNeg + 1) 0 (fX6_fewest q11 0) (-6 : Int32) with | (lf, bz) => (bz, q11)) else ((-6 : Int32), q11))) (fX6_layHands bk kn cg)))
set_option maxHeartbeats 4000000 in
set_option maxRecDepth 100000 in
theorem c_X6_who (l : Launch) (dC : Nat → ClassId) (dI : Nat → Nat → Nat) (cyI cyZ : ClassId) (hm mb mn mk ms mp mq mi mz ma mc : Nat) (sg : Nat) (sn : Nat) (ud : Int32) (rz : Int32) (az : Int32) (bk : Nat → Int32) (kn : Nat → Int32) (cg : Nat → Int32) (k : Int32) (hI : kx_I bk) (sz : Nat) (r : Int32 × (Nat → Int32)) (hF : fX6_who bk kn cg k = r) : Met l yX6_who wsX6_who ({ frames := 3, cells := 0, slots := 0, locals := 69 }) (kx_wp (dC, dI) [(hm, .inr (6, [.ref mb, .ref mn, .ref mk, .int (nI sg), .ref ms, .int (nI sn), .ref mp, .int ud, .ref mq, .int rz, .int az, .ref mi, .ref mz, .ref ma, .ref mc])), (mb, .inl (cyI, 97, .inl bk)), (mk, .inl (cyI, 4, .inl kn)), (mc, .inl (cyI, 100, .inl cg))] [(cyI, .int), (cyZ, .boolean)] sz [.ref hm, .int k]) (kx_Qi r.1 (dC, dI) [(hm, .inr (6, [.ref mb, .ref mn, .ref mk, .int (nI sg), .ref ms, .int (nI sn), .ref mp, .int ud, .ref mq, .int rz, .int az, .ref mi, .ref mz, .ref ma, .ref mc])), (mb, .inl (cyI, 97, .inl bk)), (mk, .inl (cyI, 4, .inl kn)), (mc, .inl (cyI, 100, .inl cg))] [(hm, .inr (6, [.ref mb, .ref mn, .ref mk, .int (nI sg), .ref ms, .int (nI sn), .ref mp, .int ud, .ref mq, .int rz, .int az, .ref mi, .ref mz, .ref ma, .ref mc])), (mb, .inl (cyI, 97, .inl bk)), (mk, .inl (cyI, 4, .inl kn)), (mc, .inl (cyI, 100, .inl r.2))] sz) 0 0 (va_A [(hm, .inr (6, [.ref mb, .ref mn, .ref mk, .int (nI sg), .ref ms, .int (nI sn), .ref mp, .int ud, .ref mq, .int rz, .int az, .ref mi, .ref mz, .ref ma, .ref mc])), (mb, .inl (cyI, 97, .inl bk)), (mk, .inl (cyI, 4, .inl kn)), (mc, .inl (cyI, 100, .inl cg))] sz) := by
  refine Met.ofW (cc := cX6_who) (maxL := 8) (ret := (some .int)) (by decide) rfl ?_
  intro p e s m args below meth c s₁ B hml hv
  obtain ⟨rfl, hsz, hP, hK, hN, hD0⟩ := hv
  have hx := B.exec
  have hb := B.bytes
  have hr := B.returns
  have hts := atoms_spec (ws := wsX6_who) B.pre
  have hown : s.vm.findClass RX6 = some m.cls := findClass_of_methodNamed B.named
  have hlocks := B.notSynchronized
  subst hsz
  obtain ⟨A, hAe⟩ : ∃ A, A = va_A [(hm, .inr (6, [.ref mb, .ref mn, .ref mk, .int (nI sg), .ref ms, .int (nI sn), .ref mp, .int ud, .ref mq, .int rz, .int az, .ref mi, .ref mz, .ref ma, .ref mc])), (mb, .inl (cyI, 97, .inl bk)), (mk, .inl (cyI, 4, .inl kn)), (mc, .inl (cyI, 100, .inl cg))] s.heap.size := ⟨_, rfl⟩
  have hD : va_D A [(hm, .inr (6, [.ref mb, .ref mn, .ref mk, .int (nI sg), .ref ms, .int (nI sn), .ref mp, .int ud, .ref mq, .int rz, .int az, .ref mi, .ref mz, .ref ma, .ref mc])), (mb, .inl (cyI, 97, .inl bk)), (mk, .inl (cyI, 4, .inl kn)), (mc, .inl (cyI, 100, .inl cg))] := by rw [hAe]; exact hD0.self
  have hA : ∀ q : Nat, s.heap.size ≤ q → A q := fun q h => by rw [hAe]; exact Or.inr h
  have hS : va_S A s.heap s.heap [] := va_S.rf
  have hiX6 : ∀ w ∈ wsX60, w ∈ wsX6_who := by decide +kernel
  have fl38 := hts (.fieldLink RX6 38 "KnitChronicleModel" "changes" "[I") (by decide +kernel)
  have hl := lv_entry ([.ref hm, .int k]) (n := 8) (Nat.le_of_ble_eq_true rfl)
  rw [lg_entry_eq]
  generalize (lg_sl ([.ref hm, .int k]) ++ List.replicate (8 - (lg_sl ([.ref hm, .int k])).length) Slot.unset).toArray = ls at hl ⊢
  have hl : lv_has ls 8 [(0, .ref hm), (1, .int k)] := hl
  unfold fX6_who at hF
  have hmN := hI.2.1
  refine lv_aload_n hx hb dX6_who_0 rfl (lv_at hl 0 rfl) ?_
  refine lv_iload_n hx hb dX6_who_1 rfl (lv_at hl 1 rfl) ?_
  refine kx_cV (As := [.int k]) (rest := []) ⟨hx, hb, hml, hown, hts⟩ (c_X6_isStitch l dC dI cyI cyZ hm mb mn mk ms mp mq mi mz ma mc sg sn ud rz az bk k hI _ rfl) (cwV 1 hts gX6_who_X6_isStitch rfl rfl rfl (by decide +kernel) ⟨Nat.le_of_ble_eq_true rfl, Nat.le_of_ble_eq_true rfl⟩) hP hK hN [0, 1] rfl [0, 1] rfl 6 0 rfl rfl rfl rfl hl.1 rfl (Nat.le_of_ble_eq_true rfl) dX6_who_2 ⟨Nat.zero_le _, Nat.zero_le _⟩ ?_
  refine lv_if_ne (tgt := 10) hx hb dX6_who_5 (by decide) (fun c5 => ?_) (fun c5 => ?_)
  · rw [if_neg c5] at hF
    obtain ⟨hk1, hk2⟩ := fX6_isStitch_P hI c5
    refine lv_aload_n hx hb dX6_who_10 rfl (lv_at hl 0 rfl) ?_
    generalize hq11 : fX6_layHands bk kn cg = q11 at hF
    try dsimp only at hF
    refine kx_wVv (As := []) (rest := []) (wr := []) (wc' := [(hm, .inr (6, [.ref mb, .ref mn, .ref mk, .int (nI sg), .ref ms, .int (nI sn), .ref mp, .int ud, .ref mq, .int rz, .int az, .ref mi, .ref mz, .ref ma, .ref mc])), (mb, .inl (cyI, 97, .inl bk)), (mk, .inl (cyI, 4, .inl kn)), (mc, .inl (cyI, 100, .inl q11))]) (W1 := [(hm, .inr (6, [.ref mb, .ref mn, .ref mk, .int (nI sg), .ref ms, .int (nI sn), .ref mp, .int ud, .ref mq, .int rz, .int az, .ref mi, .ref mz, .ref ma, .ref mc])), (mb, .inl (cyI, 97, .inl bk)), (mk, .inl (cyI, 4, .inl kn)), (mc, .inl (cyI, 100, .inl q11))]) ⟨hx, hb, hml, hown, hts⟩ (c_X6_layHands l dC dI cyI cyZ hm mb mn mk ms mp mq mi mz ma mc sg sn ud rz az bk kn cg hI _ _ hq11) (cwV 0 hts gX6_who_X6_layHands rfl rfl rfl (by decide +kernel) ⟨Nat.le_of_ble_eq_true rfl, Nat.le_of_ble_eq_true rfl⟩) hP hD hS hA hK hN [0, 1, 2, 3] [] [0, 1, 2, 3] rfl (by decide) rfl (by decide) (by decide) (by decide) rfl [0, 1] rfl 6 0 rfl rfl rfl rfl hl.1 rfl (Nat.le_of_ble_eq_true rfl) dX6_who_11 ⟨Nat.zero_le _, Nat.zero_le _⟩ (fun H locs hP hD hS => ?_)
    refine lv_aload_n hx hb dX6_who_14 rfl (lv_at hl 0 rfl) ?_
    refine lv_iconst (v := (0 : Int32)) hx hb dX6_who_15 (by decide) ?_
    refine kx_cV (As := [.int (0 : Int32)]) (rest := []) ⟨hx, hb, hml, hown, hts⟩ (c_X6_fewest l dC dI cyI cyZ hm mb mn mk ms mp mq mi mz ma mc sg sn ud rz az q11 0 (by omega) _ rfl) (cwV 1 hts gX6_who_X6_fewest rfl rfl rfl (by decide +kernel) ⟨Nat.le_of_ble_eq_true rfl, Nat.le_of_ble_eq_true rfl⟩) hP hK hN [0, 3] rfl [0, 1] rfl 6 0 rfl rfl rfl rfl hl.1 rfl (Nat.le_of_ble_eq_true rfl) dX6_who_16 ⟨Nat.zero_le _, Nat.zero_le _⟩ ?_
    refine lv_ldc hx hb hown (hts (.constant RX6 121 (1000000)) (by decide +kernel)) dX6_who_19 ?_
    refine lv_icmp_lt (tgt := 27) hx hb dX6_who_21 (by decide) (fun c21 => ?_) (fun c21 => ?_)
    · rw [if_pos c21] at hF
      refine lv_aload_n hx hb dX6_who_27 rfl (lv_at hl 0 rfl) ?_
      refine lv_iconst (v := (0 : Int32)) hx hb dX6_who_28 (by decide) ?_
      refine kx_cV (As := [.int (0 : Int32)]) (rest := []) ⟨hx, hb, hml, hown, hts⟩ (c_X6_fewest l dC dI cyI cyZ hm mb mn mk ms mp mq mi mz ma mc sg sn ud rz az q11 0 (by omega) _ rfl) (cwV 1 hts gX6_who_X6_fewest rfl rfl rfl (by decide +kernel) ⟨Nat.le_of_ble_eq_true rfl, Nat.le_of_ble_eq_true rfl⟩) hP hK hN [0, 3] rfl [0, 1] rfl 6 0 rfl rfl rfl rfl hl.1 rfl (Nat.le_of_ble_eq_true rfl) dX6_who_29 ⟨Nat.zero_le _, Nat.zero_le _⟩ ?_
      refine lv_istore_n (lv' := [(2, .int (fX6_fewest q11 0)), (0, .ref hm), (1, .int k)]) hx hb dX6_who_32 rfl hl (by decide) rfl (fun ls hl => ?_)
      refine lv_bipush (v := (-6 : Int32)) hx hb dX6_who_33 (by decide) ?_
      refine lv_istore_n (lv' := [(3, .int (-6 : Int32)), (2, .int (fX6_fewest q11 0)), (0, .ref hm), (1, .int k)]) hx hb dX6_who_35 rfl hl (by decide) rfl (fun ls hl => ?_)
      refine lv_iconst (v := (0 : Int32)) hx hb dX6_who_36 (by decide) ?_
      refine lv_istore (lv' := [(4, .int (0 : Int32)), (3, .int (-6 : Int32)), (2, .int (fX6_fewest q11 0)), (0, .ref hm), (1, .int k)]) hx hb dX6_who_37 hl (by decide) rfl (fun ls hl => ?_)
      generalize hz39 : fX6_who_L39 q11 (k.toNatClampNeg + 1) 0 (fX6_fewest q11 0) (-6 : Int32) = z39 at hF
      have LP39 : ∀ (r39 : Nat) (j39 : Nat) (lf : Int32) (bz : Int32), r39 + j39 = k.toNatClampNeg + 1 → fX6_who_L39 q11 r39 j39 lf bz = z39 → ∀ (H : Heap) (locs : List Loc), va_P (dC, dI) vwCl [(hm, .inr (6, [.ref mb, .ref mn, .ref mk, .int (nI sg), .ref ms, .int (nI sn), .ref mp, .int ud, .ref mq, .int rz, .int az, .ref mi, .ref mz, .ref ma, .ref mc])), (mb, .inl (cyI, 97, .inl bk)), (mk, .inl (cyI, 4, .inl kn)), (mc, .inl (cyI, 100, .inl q11))] H → va_D A [(hm, .inr (6, [.ref mb, .ref mn, .ref mk, .int (nI sg), .ref ms, .int (nI sn), .ref mp, .int ud, .ref mq, .int rz, .int az, .ref mi, .ref mz, .ref ma, .ref mc])), (mb, .inl (cyI, 97, .inl bk)), (mk, .inl (cyI, 4, .inl kn)), (mc, .inl (cyI, 100, .inl q11))] → va_S A s.heap H locs → ∀ (ls : Array Slot), lv_has ls 8 [(4, .int (nI j39)), (3, .int bz), (2, .int lf), (0, .ref hm), (1, .int k)] → W p l e (headSpec wsX6_who ({ frames := 3, cells := 0, slots := 0, locals := 69 } : Room)).room s m ([.ref hm, .int k] : List Value).toArray below meth c H locs 0 0 (MQ below (kx_Qi r.1 (dC, dI) [(hm, .inr (6, [.ref mb, .ref mn, .ref mk, .int (nI sg), .ref ms, .int (nI sn), .ref mp, .int ud, .ref mq, .int rz, .int az, .ref mi, .ref mz, .ref ma, .ref mc])), (mb, .inl (cyI, 97, .inl bk)), (mk, .inl (cyI, 4, .inl kn)), (mc, .inl (cyI, 100, .inl cg))] [(hm, .inr (6, [.ref mb, .ref mn, .ref mk, .int (nI sg), .ref ms, .int (nI sn), .ref mp, .int ud, .ref mq, .int rz, .int az, .ref mi, .ref mz, .ref ma, .ref mc])), (mb, .inl (cyI, 97, .inl bk)), (mk, .inl (cyI, 4, .inl kn)), (mc, .inl (cyI, 100, .inl r.2))] s.heap.size) ([.ref hm, .int k] : List Value).toArray s 0 0 (va_A [(hm, .inr (6, [.ref mb, .ref mn, .ref mk, .int (nI sg), .ref ms, .int (nI sn), .ref mp, .int ud, .ref mq, .int rz, .int az, .ref mi, .ref mz, .ref ma, .ref mc])), (mb, .inl (cyI, 97, .inl bk)), (mk, .inl (cyI, 4, .inl kn)), (mc, .inl (cyI, 100, .inl cg))] s.heap.size)) (F0 m 39 ls []) := by
        intro r39
        induction r39 with
        | zero =>
          intro j39 lf bz hrj hz39 H locs hP hD hS ls hl
          rw [fX6_who_L39] at hz39
          subst hz39
          dsimp only at hF
          refine lv_iload hx hb dX6_who_39 (lv_at hl 0 rfl) ?_
          refine lv_iload_n hx hb dX6_who_41 rfl (lv_at hl 4 rfl) ?_
          refine kx_e hk1 ?_
          refine kx_gt hx hb (j39) (k.toNatClampNeg) rfl rfl (by omega) (by omega) dX6_who_42 (by decide) (tgt := 135) (fun c42 => ?_) (fun c42 => absurd c42 (by omega))
          refine lv_iload_n hx hb dX6_who_135 rfl (lv_at hl 1 rfl) ?_
          subst hF
          subst hAe
          exact W.iret hx hb hr (fun t ht _ => ⟨⟨_, (), rfl, rfl, by rw [ht]; exact hP, hD⟩, hS.F ht⟩) hS.2.2 dX6_who_136
        | succ r39 ih =>
          intro j39 lf bz hrj hz39 H locs hP hD hS ls hl
          rw [fX6_who_L39] at hz39
          refine lv_iload hx hb dX6_who_39 (lv_at hl 0 rfl) ?_
          refine lv_iload_n hx hb dX6_who_41 rfl (lv_at hl 4 rfl) ?_
          refine kx_e hk1 ?_
          refine kx_gt hx hb (j39) (k.toNatClampNeg) rfl rfl (by omega) (by omega) dX6_who_42 (by decide) (tgt := 135) (fun c42 => absurd c42 (by omega)) (fun c42 => ?_)
          refine lv_bipush (v := (-6 : Int32)) hx hb dX6_who_45 (by decide) ?_
          refine lv_istore (lv' := [(5, .int (-6 : Int32)), (4, .int (nI j39)), (3, .int bz), (2, .int lf), (0, .ref hm), (1, .int k)]) hx hb dX6_who_47 hl (by decide) rfl (fun ls hl => ?_)
          refine lv_iconst (v := (3 : Int32)) hx hb dX6_who_49 (by decide) ?_
          refine kx_e (by decide : (3 : Int32) = (nI 4) + (-1)) ?_
          refine lv_istore (lv' := [(6, .int ((nI 4) + (-1))), (5, .int (-6 : Int32)), (4, .int (nI j39)), (3, .int bz), (2, .int lf), (0, .ref hm), (1, .int k)]) hx hb dX6_who_50 hl (by decide) rfl (fun ls hl => ?_)
          generalize hz52 : fX6_who_L52 q11 lf bz j39 4 (-6 : Int32) = z52 at hz39
          have LP52 : ∀ (j52 : Nat) (fo : Int32), j52 ≤ 4 → fX6_who_L52 q11 lf bz j39 j52 fo = z52 → ∀ (H : Heap) (locs : List Loc), va_P (dC, dI) vwCl [(hm, .inr (6, [.ref mb, .ref mn, .ref mk, .int (nI sg), .ref ms, .int (nI sn), .ref mp, .int ud, .ref mq, .int rz, .int az, .ref mi, .ref mz, .ref ma, .ref mc])), (mb, .inl (cyI, 97, .inl bk)), (mk, .inl (cyI, 4, .inl kn)), (mc, .inl (cyI, 100, .inl q11))] H → va_D A [(hm, .inr (6, [.ref mb, .ref mn, .ref mk, .int (nI sg), .ref ms, .int (nI sn), .ref mp, .int ud, .ref mq, .int rz, .int az, .ref mi, .ref mz, .ref ma, .ref mc])), (mb, .inl (cyI, 97, .inl bk)), (mk, .inl (cyI, 4, .inl kn)), (mc, .inl (cyI, 100, .inl q11))] → va_S A s.heap H locs → ∀ (ls : Array Slot), lv_has ls 8 [(6, .int ((nI j52) + (-1))), (5, .int fo), (4, .int (nI j39)), (3, .int bz), (2, .int lf), (0, .ref hm), (1, .int k)] → W p l e (headSpec wsX6_who ({ frames := 3, cells := 0, slots := 0, locals := 69 } : Room)).room s m ([.ref hm, .int k] : List Value).toArray below meth c H locs 0 0 (MQ below (kx_Qi r.1 (dC, dI) [(hm, .inr (6, [.ref mb, .ref mn, .ref mk, .int (nI sg), .ref ms, .int (nI sn), .ref mp, .int ud, .ref mq, .int rz, .int az, .ref mi, .ref mz, .ref ma, .ref mc])), (mb, .inl (cyI, 97, .inl bk)), (mk, .inl (cyI, 4, .inl kn)), (mc, .inl (cyI, 100, .inl cg))] [(hm, .inr (6, [.ref mb, .ref mn, .ref mk, .int (nI sg), .ref ms, .int (nI sn), .ref mp, .int ud, .ref mq, .int rz, .int az, .ref mi, .ref mz, .ref ma, .ref mc])), (mb, .inl (cyI, 97, .inl bk)), (mk, .inl (cyI, 4, .inl kn)), (mc, .inl (cyI, 100, .inl r.2))] s.heap.size) ([.ref hm, .int k] : List Value).toArray s 0 0 (va_A [(hm, .inr (6, [.ref mb, .ref mn, .ref mk, .int (nI sg), .ref ms, .int (nI sn), .ref mp, .int ud, .ref mq, .int rz, .int az, .ref mi, .ref mz, .ref ma, .ref mc])), (mb, .inl (cyI, 97, .inl bk)), (mk, .inl (cyI, 4, .inl kn)), (mc, .inl (cyI, 100, .inl cg))] s.heap.size)) (F0 m 52 ls []) := by
            intro j52
            induction j52 with
            | zero =>
              intro fo hrj hz52 H locs hP hD hS ls hl
              rw [fX6_who_L52] at hz52
              subst hz52
              try dsimp only at hz39
              refine lv_iload hx hb dX6_who_52 (lv_at hl 0 rfl) ?_
              refine lv_if_lt (tgt := 108) hx hb dX6_who_54 (by decide) (fun c54 => ?_) (fun c54 => absurd c54 (by decide))
              refine lv_iload_n hx hb dX6_who_108 rfl (lv_at hl 4 rfl) ?_
              refine lv_iload_n hx hb dX6_who_109 rfl (lv_at hl 3 rfl) ?_
              refine lv_if_lt (tgt := 123) hx hb dX6_who_110 (by decide) (fun c110 => ?_) (fun c110 => ?_)
              · rw [if_pos c110] at hz39
                refine lv_iconst (v := (0 : Int32)) hx hb dX6_who_123 (by decide) ?_
                refine lv_isub hx hb dX6_who_124 ?_
                refine lv_istore_n (lv' := [(2, .int (lf - (0 : Int32))), (6, .int ((nI 0) + (-1))), (5, .int fo), (4, .int (nI j39)), (3, .int bz), (0, .ref hm), (1, .int k)]) hx hb dX6_who_125 rfl hl (by decide) rfl (fun ls hl => ?_)
                refine lv_iload hx hb dX6_who_126 (lv_at hl 2 rfl) ?_
                refine lv_istore_n (lv' := [(3, .int fo), (2, .int (lf - (0 : Int32))), (6, .int ((nI 0) + (-1))), (5, .int fo), (4, .int (nI j39)), (0, .ref hm), (1, .int k)]) hx hb dX6_who_128 rfl hl (by decide) rfl (fun ls hl => ?_)
                refine lv_iinc (v := (nI (j39 + 1))) (lv' := [(4, .int (nI (j39 + 1))), (3, .int fo), (2, .int (lf - (0 : Int32))), (6, .int ((nI 0) + (-1))), (5, .int fo), (0, .ref hm), (1, .int k)]) hx hb dX6_who_129 hl (k := 4) rfl (by exact nI_add (j39) 1) (by decide) rfl (fun ls hl => ?_)
                refine lv_goto (tgt := 39) hx hb dX6_who_132 (by decide) ?_
                exact ih (j39 + 1) (lf - (0 : Int32)) fo (by omega)  hz39 _ _ hP hD hS _ (lv_sub hl [0, 1, 2, 5, 6] rfl)
              · rw [if_neg c110] at hz39
                refine lv_iload_n hx hb dX6_who_113 rfl (lv_at hl 3 rfl) ?_
                refine lv_iload hx hb dX6_who_114 (lv_at hl 1 rfl) ?_
                refine lv_icmp_eq (tgt := 123) hx hb dX6_who_116 (by decide) (fun c116 => ?_) (fun c116 => ?_)
                · rw [if_pos c116] at hz39
                  refine lv_iconst (v := (0 : Int32)) hx hb dX6_who_123 (by decide) ?_
                  refine lv_isub hx hb dX6_who_124 ?_
                  refine lv_istore_n (lv' := [(2, .int (lf - (0 : Int32))), (6, .int ((nI 0) + (-1))), (5, .int fo), (4, .int (nI j39)), (3, .int bz), (0, .ref hm), (1, .int k)]) hx hb dX6_who_125 rfl hl (by decide) rfl (fun ls hl => ?_)
                  refine lv_iload hx hb dX6_who_126 (lv_at hl 2 rfl) ?_
                  refine lv_istore_n (lv' := [(3, .int fo), (2, .int (lf - (0 : Int32))), (6, .int ((nI 0) + (-1))), (5, .int fo), (4, .int (nI j39)), (0, .ref hm), (1, .int k)]) hx hb dX6_who_128 rfl hl (by decide) rfl (fun ls hl => ?_)
                  refine lv_iinc (v := (nI (j39 + 1))) (lv' := [(4, .int (nI (j39 + 1))), (3, .int fo), (2, .int (lf - (0 : Int32))), (6, .int ((nI 0) + (-1))), (5, .int fo), (0, .ref hm), (1, .int k)]) hx hb dX6_who_129 hl (k := 4) rfl (by exact nI_add (j39) 1) (by decide) rfl (fun ls hl => ?_)
                  refine lv_goto (tgt := 39) hx hb dX6_who_132 (by decide) ?_
                  exact ih (j39 + 1) (lf - (0 : Int32)) fo (by omega)  hz39 _ _ hP hD hS _ (lv_sub hl [0, 1, 2, 5, 6] rfl)
                · rw [if_neg c116] at hz39
                  refine lv_iconst (v := (1 : Int32)) hx hb dX6_who_119 (by decide) ?_
                  refine lv_goto (tgt := 124) hx hb dX6_who_120 (by decide) ?_
                  refine lv_isub hx hb dX6_who_124 ?_
                  refine lv_istore_n (lv' := [(2, .int (lf - (1 : Int32))), (6, .int ((nI 0) + (-1))), (5, .int fo), (4, .int (nI j39)), (3, .int bz), (0, .ref hm), (1, .int k)]) hx hb dX6_who_125 rfl hl (by decide) rfl (fun ls hl => ?_)
                  refine lv_iload hx hb dX6_who_126 (lv_at hl 2 rfl) ?_
                  refine lv_istore_n (lv' := [(3, .int fo), (2, .int (lf - (1 : Int32))), (6, .int ((nI 0) + (-1))), (5, .int fo), (4, .int (nI j39)), (0, .ref hm), (1, .int k)]) hx hb dX6_who_128 rfl hl (by decide) rfl (fun ls hl => ?_)
                  refine lv_iinc (v := (nI (j39 + 1))) (lv' := [(4, .int (nI (j39 + 1))), (3, .int fo), (2, .int (lf - (1 : Int32))), (6, .int ((nI 0) + (-1))), (5, .int fo), (0, .ref hm), (1, .int k)]) hx hb dX6_who_129 hl (k := 4) rfl (by exact nI_add (j39) 1) (by decide) rfl (fun ls hl => ?_)
                  refine lv_goto (tgt := 39) hx hb dX6_who_132 (by decide) ?_
                  exact ih (j39 + 1) (lf - (1 : Int32)) fo (by omega)  hz39 _ _ hP hD hS _ (lv_sub hl [0, 1, 2, 5, 6] rfl)
            | succ j52 ih =>
              intro fo hrj hz52 H locs hP hD hS ls hl
              rw [pk_m1] at hl
              rw [fX6_who_L52] at hz52
              refine lv_iload hx hb dX6_who_52 (lv_at hl 0 rfl) ?_
              refine lv_if_lt (tgt := 108) hx hb dX6_who_54 (by decide) (fun c54 => absurd c54 (nI_pos (by omega))) (fun c54 => ?_)
              refine lv_iload_n hx hb dX6_who_57 rfl (lv_at hl 3 rfl) ?_
              refine lv_if_lt (tgt := 71) hx hb dX6_who_58 (by decide) (fun c58 => ?_) (fun c58 => ?_)
              · rw [if_pos c58] at hz52
                refine lv_iconst (v := (0 : Int32)) hx hb dX6_who_71 (by decide) ?_
                refine lv_istore (lv' := [(7, .int (0 : Int32)), (6, .int (nI j52)), (5, .int fo), (4, .int (nI j39)), (3, .int bz), (2, .int lf), (0, .ref hm), (1, .int k)]) hx hb dX6_who_72 hl (by decide) rfl (fun ls hl => ?_)
                refine lv_aload_n hx hb dX6_who_74 rfl (lv_at hl 6 rfl) ?_
                refine va_get (D := (dC, dI)) (ci := 6) (v := .ref mc) (C := RX6) (T := TX6) (N := 15) hx hb hts hiX6 hown hK hP 0 rfl rfl 14 (by decide) fl38 (fun _ h9 => h9) rfl dX6_who_75 ?_
                refine lv_iconst (v := (4 : Int32)) hx hb dX6_who_78 (by decide) ?_
                refine lv_iload hx hb dX6_who_79 (lv_at hl 3 rfl) ?_
                refine lv_imul hx hb dX6_who_81 ?_
                refine kx_e (pk_mul (4) (j39)) ?_
                refine lv_iload hx hb dX6_who_82 (lv_at hl 1 rfl) ?_
                refine lv_iadd hx hb dX6_who_84 ?_
                refine kx_e (nI_add (4 * j39) (j52)) ?_
                refine kx_ld hx hb hK hP 3 0 rfl rfl (4 * j39 + j52) rfl (by omega) (by decide) dX6_who_85 ?_
                refine lv_iload hx hb dX6_who_86 (lv_at hl 0 rfl) ?_
                refine lv_iadd hx hb dX6_who_88 ?_
                refine lv_iload_n hx hb dX6_who_89 rfl (lv_at hl 5 rfl) ?_
                refine lv_icmp_ne (tgt := 98) hx hb dX6_who_90 (by decide) (fun c90 => ?_) (fun c90 => ?_)
                · rw [if_neg c90] at hz52
                  refine lv_iload hx hb dX6_who_98 (lv_at hl 2 rfl) ?_
                  refine lv_istore (lv' := [(5, .int fo), (7, .int (0 : Int32)), (6, .int (nI j52)), (4, .int (nI j39)), (3, .int bz), (2, .int lf), (0, .ref hm), (1, .int k)]) hx hb dX6_who_100 hl (by decide) rfl (fun ls hl => ?_)
                  refine lv_iinc (v := ((nI j52) + (-1))) (lv' := [(6, .int ((nI j52) + (-1))), (5, .int fo), (7, .int (0 : Int32)), (4, .int (nI j39)), (3, .int bz), (2, .int lf), (0, .ref hm), (1, .int k)]) hx hb dX6_who_102 hl (k := 2) rfl rfl (by decide) rfl (fun ls hl => ?_)
                  refine lv_goto (tgt := 52) hx hb dX6_who_105 (by decide) ?_
                  exact ih fo (by omega)  hz52 _ _ hP hD hS _ (lv_sub hl [0, 1, 3, 4, 5, 6, 7] rfl)
                · rw [if_pos c90] at hz52
                  refine lv_iload hx hb dX6_who_93 (lv_at hl 1 rfl) ?_
                  refine lv_goto (tgt := 100) hx hb dX6_who_95 (by decide) ?_
                  refine lv_istore (lv' := [(5, .int (nI j52)), (7, .int (0 : Int32)), (6, .int (nI j52)), (4, .int (nI j39)), (3, .int bz), (2, .int lf), (0, .ref hm), (1, .int k)]) hx hb dX6_who_100 hl (by decide) rfl (fun ls hl => ?_)
                  refine lv_iinc (v := ((nI j52) + (-1))) (lv' := [(6, .int ((nI j52) + (-1))), (5, .int (nI j52)), (7, .int (0 : Int32)), (4, .int (nI j39)), (3, .int bz), (2, .int lf), (0, .ref hm), (1, .int k)]) hx hb dX6_who_102 hl (k := 2) rfl rfl (by decide) rfl (fun ls hl => ?_)
                  refine lv_goto (tgt := 52) hx hb dX6_who_105 (by decide) ?_
                  exact ih (nI j52) (by omega)  hz52 _ _ hP hD hS _ (lv_sub hl [0, 1, 3, 4, 5, 6, 7] rfl)
              · rw [if_neg c58] at hz52
                refine lv_iload_n hx hb dX6_who_61 rfl (lv_at hl 3 rfl) ?_
                refine lv_iload hx hb dX6_who_62 (lv_at hl 0 rfl) ?_
                refine lv_icmp_eq (tgt := 71) hx hb dX6_who_64 (by decide) (fun c64 => ?_) (fun c64 => ?_)
                · rw [if_pos c64] at hz52
                  refine lv_iconst (v := (0 : Int32)) hx hb dX6_who_71 (by decide) ?_
                  refine lv_istore (lv' := [(7, .int (0 : Int32)), (6, .int (nI j52)), (5, .int fo), (4, .int (nI j39)), (3, .int bz), (2, .int lf), (0, .ref hm), (1, .int k)]) hx hb dX6_who_72 hl (by decide) rfl (fun ls hl => ?_)
                  refine lv_aload_n hx hb dX6_who_74 rfl (lv_at hl 6 rfl) ?_
                  refine va_get (D := (dC, dI)) (ci := 6) (v := .ref mc) (C := RX6) (T := TX6) (N := 15) hx hb hts hiX6 hown hK hP 0 rfl rfl 14 (by decide) fl38 (fun _ h9 => h9) rfl dX6_who_75 ?_
                  refine lv_iconst (v := (4 : Int32)) hx hb dX6_who_78 (by decide) ?_
                  refine lv_iload hx hb dX6_who_79 (lv_at hl 3 rfl) ?_
                  refine lv_imul hx hb dX6_who_81 ?_
                  refine kx_e (pk_mul (4) (j39)) ?_
                  refine lv_iload hx hb dX6_who_82 (lv_at hl 1 rfl) ?_
                  refine lv_iadd hx hb dX6_who_84 ?_
                  refine kx_e (nI_add (4 * j39) (j52)) ?_
                  refine kx_ld hx hb hK hP 3 0 rfl rfl (4 * j39 + j52) rfl (by omega) (by decide) dX6_who_85 ?_
                  refine lv_iload hx hb dX6_who_86 (lv_at hl 0 rfl) ?_
                  refine lv_iadd hx hb dX6_who_88 ?_
                  refine lv_iload_n hx hb dX6_who_89 rfl (lv_at hl 5 rfl) ?_
                  refine lv_icmp_ne (tgt := 98) hx hb dX6_who_90 (by decide) (fun c90 => ?_) (fun c90 => ?_)
                  · rw [if_neg c90] at hz52
                    refine lv_iload hx hb dX6_who_98 (lv_at hl 2 rfl) ?_
                    refine lv_istore (lv' := [(5, .int fo), (7, .int (0 : Int32)), (6, .int (nI j52)), (4, .int (nI j39)), (3, .int bz), (2, .int lf), (0, .ref hm), (1, .int k)]) hx hb dX6_who_100 hl (by decide) rfl (fun ls hl => ?_)
                    refine lv_iinc (v := ((nI j52) + (-1))) (lv' := [(6, .int ((nI j52) + (-1))), (5, .int fo), (7, .int (0 : Int32)), (4, .int (nI j39)), (3, .int bz), (2, .int lf), (0, .ref hm), (1, .int k)]) hx hb dX6_who_102 hl (k := 2) rfl rfl (by decide) rfl (fun ls hl => ?_)
                    refine lv_goto (tgt := 52) hx hb dX6_who_105 (by decide) ?_
                    exact ih fo (by omega)  hz52 _ _ hP hD hS _ (lv_sub hl [0, 1, 3, 4, 5, 6, 7] rfl)
                  · rw [if_pos c90] at hz52
                    refine lv_iload hx hb dX6_who_93 (lv_at hl 1 rfl) ?_
                    refine lv_goto (tgt := 100) hx hb dX6_who_95 (by decide) ?_
                    refine lv_istore (lv' := [(5, .int (nI j52)), (7, .int (0 : Int32)), (6, .int (nI j52)), (4, .int (nI j39)), (3, .int bz), (2, .int lf), (0, .ref hm), (1, .int k)]) hx hb dX6_who_100 hl (by decide) rfl (fun ls hl => ?_)
                    refine lv_iinc (v := ((nI j52) + (-1))) (lv' := [(6, .int ((nI j52) + (-1))), (5, .int (nI j52)), (7, .int (0 : Int32)), (4, .int (nI j39)), (3, .int bz), (2, .int lf), (0, .ref hm), (1, .int k)]) hx hb dX6_who_102 hl (k := 2) rfl rfl (by decide) rfl (fun ls hl => ?_)
                    refine lv_goto (tgt := 52) hx hb dX6_who_105 (by decide) ?_
                    exact ih (nI j52) (by omega)  hz52 _ _ hP hD hS _ (lv_sub hl [0, 1, 3, 4, 5, 6, 7] rfl)
                · rw [if_neg c64] at hz52
                  refine lv_iconst (v := (1 : Int32)) hx hb dX6_who_67 (by decide) ?_
                  refine lv_goto (tgt := 72) hx hb dX6_who_68 (by decide) ?_
                  refine lv_istore (lv' := [(7, .int (1 : Int32)), (6, .int (nI j52)), (5, .int fo), (4, .int (nI j39)), (3, .int bz), (2, .int lf), (0, .ref hm), (1, .int k)]) hx hb dX6_who_72 hl (by decide) rfl (fun ls hl => ?_)
                  refine lv_aload_n hx hb dX6_who_74 rfl (lv_at hl 6 rfl) ?_
                  refine va_get (D := (dC, dI)) (ci := 6) (v := .ref mc) (C := RX6) (T := TX6) (N := 15) hx hb hts hiX6 hown hK hP 0 rfl rfl 14 (by decide) fl38 (fun _ h9 => h9) rfl dX6_who_75 ?_
                  refine lv_iconst (v := (4 : Int32)) hx hb dX6_who_78 (by decide) ?_
                  refine lv_iload hx hb dX6_who_79 (lv_at hl 3 rfl) ?_
                  refine lv_imul hx hb dX6_who_81 ?_
                  refine kx_e (pk_mul (4) (j39)) ?_
                  refine lv_iload hx hb dX6_who_82 (lv_at hl 1 rfl) ?_
                  refine lv_iadd hx hb dX6_who_84 ?_
                  refine kx_e (nI_add (4 * j39) (j52)) ?_
                  refine kx_ld hx hb hK hP 3 0 rfl rfl (4 * j39 + j52) rfl (by omega) (by decide) dX6_who_85 ?_
                  refine lv_iload hx hb dX6_who_86 (lv_at hl 0 rfl) ?_
                  refine lv_iadd hx hb dX6_who_88 ?_
                  refine lv_iload_n hx hb dX6_who_89 rfl (lv_at hl 5 rfl) ?_
                  refine lv_icmp_ne (tgt := 98) hx hb dX6_who_90 (by decide) (fun c90 => ?_) (fun c90 => ?_)
                  · rw [if_neg c90] at hz52
                    refine lv_iload hx hb dX6_who_98 (lv_at hl 2 rfl) ?_
                    refine lv_istore (lv' := [(5, .int fo), (7, .int (1 : Int32)), (6, .int (nI j52)), (4, .int (nI j39)), (3, .int bz), (2, .int lf), (0, .ref hm), (1, .int k)]) hx hb dX6_who_100 hl (by decide) rfl (fun ls hl => ?_)
                    refine lv_iinc (v := ((nI j52) + (-1))) (lv' := [(6, .int ((nI j52) + (-1))), (5, .int fo), (7, .int (1 : Int32)), (4, .int (nI j39)), (3, .int bz), (2, .int lf), (0, .ref hm), (1, .int k)]) hx hb dX6_who_102 hl (k := 2) rfl rfl (by decide) rfl (fun ls hl => ?_)
                    refine lv_goto (tgt := 52) hx hb dX6_who_105 (by decide) ?_
                    exact ih fo (by omega)  hz52 _ _ hP hD hS _ (lv_sub hl [0, 1, 3, 4, 5, 6, 7] rfl)
                  · rw [if_pos c90] at hz52
                    refine lv_iload hx hb dX6_who_93 (lv_at hl 1 rfl) ?_
                    refine lv_goto (tgt := 100) hx hb dX6_who_95 (by decide) ?_
                    refine lv_istore (lv' := [(5, .int (nI j52)), (7, .int (1 : Int32)), (6, .int (nI j52)), (4, .int (nI j39)), (3, .int bz), (2, .int lf), (0, .ref hm), (1, .int k)]) hx hb dX6_who_100 hl (by decide) rfl (fun ls hl => ?_)
                    refine lv_iinc (v := ((nI j52) + (-1))) (lv' := [(6, .int ((nI j52) + (-1))), (5, .int (nI j52)), (7, .int (1 : Int32)), (4, .int (nI j39)), (3, .int bz), (2, .int lf), (0, .ref hm), (1, .int k)]) hx hb dX6_who_102 hl (k := 2) rfl rfl (by decide) rfl (fun ls hl => ?_)
                    refine lv_goto (tgt := 52) hx hb dX6_who_105 (by decide) ?_
                    exact ih (nI j52) (by omega)  hz52 _ _ hP hD hS _ (lv_sub hl [0, 1, 3, 4, 5, 6, 7] rfl)
          exact LP52 4 (-6 : Int32) (by omega)  hz52 _ _ hP hD hS _ (lv_sub hl [0, 1, 2, 3, 4, 5, 6] rfl)
      exact LP39 (k.toNatClampNeg + 1) 0 (fX6_fewest q11 0) (-6 : Int32) (by omega)  hz39 _ _ hP hD hS _ (lv_sub hl [0, 1, 2, 3, 4] rfl)
    · rw [if_neg c21] at hF
      refine lv_bipush (v := (-6 : Int32)) hx hb dX6_who_24 (by decide) ?_
      subst hF
      subst hAe
      exact W.iret hx hb hr (fun t ht _ => ⟨⟨_, (), rfl, rfl, by rw [ht]; exact hP, hD⟩, hS.F ht⟩) hS.2.2 dX6_who_26
  · rw [if_pos c5] at hF
    refine lv_iconst (v := (-1 : Int32)) hx hb dX6_who_8 (by decide) ?_
    subst hF
    subst hAe
    exact W.iret hx hb hr (fun t ht _ => ⟨⟨_, (), rfl, rfl, by rw [ht]; exact hP, hD⟩, hS.F ht⟩) hS.2.2 dX6_who_9
