theorem kx_k1 {x : Int32} (h1 : x = nI x.toNatClampNeg) (h2 : 1 ≤ x.toNatClampNeg) (h3 : x.toNatClampNeg ≤ 9) : (1 : Int32) ≤ x ∧ (0 : Int32) ≤ x - (1 : Int32) := by
  generalize x.toNatClampNeg = j at h1 h2 h3
  subst h1
  refine ⟨(nI_leI (a := 1) (by omega) (by omega)).mpr h2, ?_⟩
  have h4 : nI j - (1 : Int32) = nI (j - 1) := pk_sub (b := 1) h2
  rw [h4]
  exact nI_pos' (by omega)
theorem fX6_stretches_end (bk : Nat → Int32) (b : Int32) : fX6_stretches bk (mN bk) b = (0 : Int32) := by
  unfold fX6_stretches
  rw [Nat.sub_self]
  rfl
/-- two numbers on the way to their greatest common divisor -/
def kx_E (x y : Int64) (f : Nat) : Prop := ∃ a b : Nat, a < 2 ^ 63 ∧ b < 2 ^ 63 ∧ b ≤ f ∧ (a ≠ 0 ∨ b ≠ 0) ∧ x = lN a ∧ y = lN b
theorem lg_cmp0 {b : Nat} (hb : b < 2 ^ 63) : lg_cmp (lN b) (0 : Int64) = 0 ↔ b = 0 := by
  rw [lg_cmp_eq]
  exact pk_lEQ (b := 0) hb (by decide)
theorem kx_E_zero {x y : Int64} (h : kx_E x y 0) : lg_cmp y (0 : Int64) = 0 := by
  obtain ⟨a, b, ha, hb, hf, hn, rfl, rfl⟩ := h
  exact (lg_cmp0 hb).mpr (by omega)
theorem kx_E_ne {x y : Int64} {f : Nat} (h : kx_E x y f) (c : lg_cmp y (0 : Int64) = 0) : ¬ x = 0 := by
  obtain ⟨a, b, ha, hb, hf, hn, rfl, rfl⟩ := h
  have h0 := (lg_cmp0 hb).mp c
  intro q
  have h1 : a = 0 := (pk_lEQ (b := 0) ha (by decide)).mp q
  omega
theorem kx_E_step {x y : Int64} {f : Nat} (h : kx_E x y (f + 1)) (c : ¬ lg_cmp y (0 : Int64) = 0) : kx_E y (x - x / y * y) f := by
  obtain ⟨a, b, ha, hb, hf, hn, rfl, rfl⟩ := h
  have h0 : b ≠ 0 := fun q => c ((lg_cmp0 hb).mpr q)
  have h1 : a % b < b := Nat.mod_lt _ (by omega)
  exact ⟨b, a % b, hb, by omega, by omega, Or.inl h0, rfl, pk_lRem ha (by omega) hb⟩
theorem pow_L5 (b : Nat) : ∀ (r j p : Nat), fX6_power_L5 (lN b) r j (lN p) = lN (p * b ^ r) := by
  intro r
  induction r with
  | zero => intro j p; rw [fX6_power_L5, Nat.pow_zero, Nat.mul_one]
  | succ r ih =>
    intro j p
    rw [fX6_power_L5, lN_mul, ih]
    exact congrArg lN (by rw [Nat.pow_succ, Nat.mul_assoc, Nat.mul_comm b (b ^ r)])
theorem pow_N (b n : Nat) (hn : n < 2 ^ 31) : fX6_power (lN b) (nI n) = lN (b ^ n) := by
  have h := pow_L5 b n 0 1
  rw [Nat.one_mul] at h
  unfold fX6_power
  rw [nI_clamp hn]
  exact h
theorem ten_sub : ∀ t, t < 11 → (10 : Int64) - (nI t).toInt64 = lN (10 - t) := by decide +kernel
theorem fX6_moths_E {te al : Int32} (h : ¬ fX6_in te (0 : Int32) (10 : Int32) = 0) (h2 : fX6_bits al ≤ (18 : Int32)) : kx_E (fX6_power ((10 : Int64) - (te).toInt64) (fX6_bits al)) (fX6_power (10 : Int64) (fX6_bits al)) (fX6_power (10 : Int64) (fX6_bits al)).toInt.toNat ∧ kx_E (0 : Int64) (fX6_power (10 : Int64) (fX6_bits al)) (fX6_power (10 : Int64) (fX6_bits al)).toInt.toNat := by
  obtain ⟨h1, -, h3⟩ := fX6_in_P 0 10 (by decide) (by decide) h
  have h4 := cnt_le (bt al) 24
  have e := bits_eq al
  generalize cnt (bt al) 24 = c at h4 e
  rw [e] at h2 ⊢
  have h5 : c ≤ 18 := (nI_leI (b := 18) (by omega) (by decide)).mp h2
  generalize te.toNatClampNeg = t at h1 h3
  subst h1
  rw [ten_sub t (by omega), show (10 : Int64) = lN 10 from rfl, pow_N _ c (by omega), pow_N _ c (by omega)]
  have p1 : 10 ^ c ≤ 10 ^ 18 := Nat.pow_le_pow_right (by decide) h5
  have p2 : (10 - t) ^ c ≤ 10 ^ c := Nat.pow_le_pow_left (Nat.sub_le 10 t) c
  have p3 : 10 ^ c ≠ 0 := fun q => by
    have := Nat.one_le_two_pow (n := c)
    have := Nat.pow_le_pow_left (show 2 ≤ 10 by decide) c
    omega
  generalize 10 ^ c = X at p1 p2 p3 ⊢
  generalize (10 - t) ^ c = Y at p2 ⊢
  have p4 : (lN X).toInt.toNat = X := by rw [pk_lT (by omega)]; rfl
  rw [p4]
  exact ⟨⟨Y, X, by omega, by omega, Nat.le_refl _, Or.inr p3, rfl, rfl⟩, ⟨0, X, by omega, by omega, Nat.le_refl _, Or.inr p3, rfl, rfl⟩⟩

def fX6_hold_L49 (bk : Nat → Int32) (kw : Int32) (mo : Nat) : Nat → Nat → Int32
  | 0, fr => (nI fr)
  | j49 + 1, fr => (if (fX6_stretches bk fr (nI mo)) ≤ (kw - (1 : Int32)) then (nI fr) else (fX6_hold_L49 bk kw mo j49 (fr + 1)))
def fX6_hold_L24 (bk : Nat → Int32) (kw : Int32) : Nat → Nat → Nat
  | 0, mo => mo
  | j24 + 1, mo => (if (fX6_stretches bk 0 (nI mo)) ≤ kw then mo else (fX6_hold_L24 bk kw j24 (mo + 1)))
def fX6_hold (bk : Nat → Int32) (kw : Int32) (wh : Int32) (wm : Nat) : Int32 :=
  (if (fX6_in kw (1 : Int32) (9 : Int32)) = 0 then (-2 : Int32) else (if (fX6_in wh (0 : Int32) (1 : Int32)) = 0 then (-2 : Int32) else ((fun (mo : Nat) => (if wh = 0 then (nI mo) else (fX6_hold_L49 bk kw mo (mN bk) 0))) (fX6_hold_L24 bk kw wm 0))))
set_option maxHeartbeats 4000000 in
set_option maxRecDepth 100000 in
theorem c_X6_hold (l : Launch) (dC : Nat → ClassId) (dI : Nat → Nat → Nat) (cyI cyZ : ClassId) (hm mb mn mk ms mp mq mi mz ma mc : Nat) (sg : Nat) (sn : Nat) (ud : Int32) (rz : Int32) (az : Int32) (bk : Nat → Int32) (kw : Int32) (wh : Int32) (wm : Nat) (hI : kx_I bk) (hwm : wm ≤ 1000) (hst : (1 : Int32) ≤ kw → fX6_stretches bk 0 (nI wm) ≤ kw) (r : Int32) (hF : fX6_hold bk kw wh wm = r) : Met l yX6_hold wsX6_hold ({ frames := 1, cells := 0, slots := 0, locals := 27 }) (kx_rp (dC, dI) [(hm, .inr (6, [.ref mb, .ref mn, .ref mk, .int (nI sg), .ref ms, .int (nI sn), .ref mp, .int ud, .ref mq, .int rz, .int az, .ref mi, .ref mz, .ref ma, .ref mc])), (mb, .inl (cyI, 97, .inl bk))] [(cyI, .int), (cyZ, .boolean)] [.ref hm, .int kw, .int wh]) (k2_QcV (.int r)) 0 0 (fun _ => False) := by
  refine Met.ofW (cc := cX6_hold) (maxL := 5) (ret := (some .int)) (by decide) rfl ?_
  intro p e s m args below meth c s₁ B hml hv
  obtain ⟨rfl, hP, hK, hN⟩ := hv
  have hx := B.exec
  have hb := B.bytes
  have hr := B.returns
  have hts := atoms_spec (ws := wsX6_hold) B.pre
  have hown : s.vm.findClass RX6 = some m.cls := findClass_of_methodNamed B.named
  have hlocks := B.notSynchronized
  have hl := lv_entry ([.ref hm, .int kw, .int wh]) (n := 5) (Nat.le_of_ble_eq_true rfl)
  rw [lg_entry_eq]
  generalize (lg_sl ([.ref hm, .int kw, .int wh]) ++ List.replicate (5 - (lg_sl ([.ref hm, .int kw, .int wh])).length) Slot.unset).toArray = ls at hl ⊢
  have hl : lv_has ls 5 [(0, .ref hm), (1, .int kw), (2, .int wh)] := hl
  unfold fX6_hold at hF
  have hmN := hI.2.1
  refine lv_iload_n hx hb dX6_hold_0 rfl (lv_at hl 1 rfl) ?_
  refine lv_iconst (v := (1 : Int32)) hx hb dX6_hold_1 (by decide) ?_
  refine lv_bipush (v := (9 : Int32)) hx hb dX6_hold_2 (by decide) ?_
  refine kx_cS (As := [.int kw, .int (1 : Int32), .int (9 : Int32)]) (rest := []) ⟨hx, hb, hml, hown, hts⟩ (c_X6_in l dC dI cyI cyZ  kw (1 : Int32) (9 : Int32)  _ rfl) (va_cwS 3 hts gX6_hold_X6_in rfl rfl rfl (by decide +kernel) ⟨Nat.le_of_ble_eq_true rfl, Nat.le_of_ble_eq_true rfl⟩) hP hK hN [] rfl [0, 1] rfl rfl hl.1 rfl (Nat.le_of_ble_eq_true rfl) dX6_hold_4 ⟨Nat.zero_le _, Nat.zero_le _⟩ ?_
  refine lv_if_eq (tgt := 19) hx hb dX6_hold_7 (by decide) (fun c7 => ?_) (fun c7 => ?_)
  · rw [if_pos c7] at hF
    refine lv_bipush (v := (-2 : Int32)) hx hb dX6_hold_19 (by decide) ?_
    exact W.iret hx hb hr (fun t ht _ => ⟨congrArg (fun z => Outcome.returned (some (Value.int z))) hF, ht⟩) (fun _ h => absurd h List.not_mem_nil) dX6_hold_21
  · rw [if_neg c7] at hF
    refine lv_iload_n hx hb dX6_hold_10 rfl (lv_at hl 2 rfl) ?_
    refine lv_iconst (v := (0 : Int32)) hx hb dX6_hold_11 (by decide) ?_
    refine lv_iconst (v := (1 : Int32)) hx hb dX6_hold_12 (by decide) ?_
    refine kx_cS (As := [.int wh, .int (0 : Int32), .int (1 : Int32)]) (rest := []) ⟨hx, hb, hml, hown, hts⟩ (c_X6_in l dC dI cyI cyZ  wh (0 : Int32) (1 : Int32)  _ rfl) (va_cwS 3 hts gX6_hold_X6_in rfl rfl rfl (by decide +kernel) ⟨Nat.le_of_ble_eq_true rfl, Nat.le_of_ble_eq_true rfl⟩) hP hK hN [] rfl [0, 1] rfl rfl hl.1 rfl (Nat.le_of_ble_eq_true rfl) dX6_hold_13 ⟨Nat.zero_le _, Nat.zero_le _⟩ ?_
    refine lv_if_ne (tgt := 22) hx hb dX6_hold_16 (by decide) (fun c16 => ?_) (fun c16 => ?_)
    · rw [if_neg c16] at hF
      obtain ⟨hk1, hk2, hk3⟩ := fX6_in_P 1 9 (by decide) (by decide) c7
      obtain ⟨h1k, h0k⟩ := kx_k1 hk1 hk2 hk3
      refine lv_iconst (v := (0 : Int32)) hx hb dX6_hold_22 (by decide) ?_
      refine lv_istore_n (lv' := [(3, .int (0 : Int32)), (0, .ref hm), (1, .int kw), (2, .int wh)]) hx hb dX6_hold_23 rfl hl (by decide) rfl (fun ls hl => ?_)
      generalize hz24 : fX6_hold_L24 bk kw wm 0 = z24 at hF
      have LP24 : ∀ (j24 : Nat) (mo : Nat), 0 ≤ j24 → (mo + j24 = wm) → fX6_hold_L24 bk kw j24 mo = z24 → ∀ (ls : Array Slot), lv_has ls 5 [(3, .int (nI mo)), (0, .ref hm), (1, .int kw), (2, .int wh)] → W p l e (headSpec wsX6_hold ({ frames := 1, cells := 0, slots := 0, locals := 27 } : Room)).room s m ([.ref hm, .int kw, .int wh] : List Value).toArray below meth c s.heap [] 0 0 (MQ below (k2_QcV (.int r)) ([.ref hm, .int kw, .int wh] : List Value).toArray s 0 0 (fun _ => False)) (F0 m 24 ls []) := by
        intro j24
        induction j24 with
        | zero =>
          intro mo hrj hmo hz24 ls hl
          rw [fX6_hold_L24] at hz24
          subst hz24
          try dsimp only at hF
          refine lv_aload_n hx hb dX6_hold_24 rfl (lv_at hl 1 rfl) ?_
          refine lv_iconst (v := (0 : Int32)) hx hb dX6_hold_25 (by decide) ?_
          refine lv_iload_n hx hb dX6_hold_26 rfl (lv_at hl 0 rfl) ?_
          refine kx_cV (As := [.int (0 : Int32), .int (nI mo)]) (rest := []) ⟨hx, hb, hml, hown, hts⟩ (c_X6_stretches l dC dI cyI cyZ hm mb mn mk ms mp mq mi mz ma mc sg sn ud rz az bk 0 (nI mo) hI (by omega) _ rfl) (cwV 2 hts gX6_hold_X6_stretches rfl rfl rfl (by decide +kernel) ⟨Nat.le_of_ble_eq_true rfl, Nat.le_of_ble_eq_true rfl⟩) hP hK hN [0, 1] rfl [0, 1] rfl 6 0 rfl rfl rfl rfl hl.1 rfl (Nat.le_of_ble_eq_true rfl) dX6_hold_27 ⟨Nat.zero_le _, Nat.zero_le _⟩ ?_
          refine lv_iload_n hx hb dX6_hold_30 rfl (lv_at hl 2 rfl) ?_
          refine lv_icmp_le (tgt := 40) hx hb dX6_hold_31 (by decide) (fun c31 => ?_) (fun c31 => absurd c31 (fun z9 => z9 (by rw [show mo = wm by omega]; exact hst h1k)))
          refine lv_iload_n hx hb dX6_hold_40 rfl (lv_at hl 3 rfl) ?_
          refine lv_if_ne (tgt := 46) hx hb dX6_hold_41 (by decide) (fun c41 => ?_) (fun c41 => ?_)
          · rw [if_neg c41] at hF
            refine lv_iconst (v := (0 : Int32)) hx hb dX6_hold_46 (by decide) ?_
            refine lv_istore (lv' := [(4, .int (0 : Int32)), (3, .int (nI mo)), (0, .ref hm), (1, .int kw), (2, .int wh)]) hx hb dX6_hold_47 hl (by decide) rfl (fun ls hl => ?_)
            have LP49 : ∀ (j49 : Nat) (fr : Nat), 0 ≤ j49 → (fr + j49 = mN bk) → fX6_hold_L49 bk kw mo j49 fr = r → ∀ (ls : Array Slot), lv_has ls 5 [(4, .int (nI fr)), (3, .int (nI mo)), (0, .ref hm), (1, .int kw), (2, .int wh)] → W p l e (headSpec wsX6_hold ({ frames := 1, cells := 0, slots := 0, locals := 27 } : Room)).room s m ([.ref hm, .int kw, .int wh] : List Value).toArray below meth c s.heap [] 0 0 (MQ below (k2_QcV (.int r)) ([.ref hm, .int kw, .int wh] : List Value).toArray s 0 0 (fun _ => False)) (F0 m 49 ls []) := by
              intro j49
              induction j49 with
              | zero =>
                intro fr hrj hfr hF ls hl
                rw [fX6_hold_L49] at hF
                refine lv_aload_n hx hb dX6_hold_49 rfl (lv_at hl 2 rfl) ?_
                refine lv_iload hx hb dX6_hold_50 (lv_at hl 0 rfl) ?_
                refine lv_iload_n hx hb dX6_hold_52 rfl (lv_at hl 1 rfl) ?_
                refine kx_cV (As := [.int (nI fr), .int (nI mo)]) (rest := []) ⟨hx, hb, hml, hown, hts⟩ (c_X6_stretches l dC dI cyI cyZ hm mb mn mk ms mp mq mi mz ma mc sg sn ud rz az bk fr (nI mo) hI (by omega) _ rfl) (cwV 2 hts gX6_hold_X6_stretches rfl rfl rfl (by decide +kernel) ⟨Nat.le_of_ble_eq_true rfl, Nat.le_of_ble_eq_true rfl⟩) hP hK hN [0, 1] rfl [0, 1] rfl 6 0 rfl rfl rfl rfl hl.1 rfl (Nat.le_of_ble_eq_true rfl) dX6_hold_53 ⟨Nat.zero_le _, Nat.zero_le _⟩ ?_
                refine lv_iload_n hx hb dX6_hold_56 rfl (lv_at hl 3 rfl) ?_
                refine lv_iconst (v := (1 : Int32)) hx hb dX6_hold_57 (by decide) ?_
                refine lv_isub hx hb dX6_hold_58 ?_
                refine lv_icmp_le (tgt := 68) hx hb dX6_hold_59 (by decide) (fun c59 => ?_) (fun c59 => absurd c59 (fun z9 => z9 (by rw [show fr = mN bk by omega, fX6_stretches_end]; exact h0k)))
                refine lv_iload hx hb dX6_hold_68 (lv_at hl 0 rfl) ?_
                exact W.iret hx hb hr (fun t ht _ => ⟨congrArg (fun z => Outcome.returned (some (Value.int z))) hF, ht⟩) (fun _ h => absurd h List.not_mem_nil) dX6_hold_70
              | succ j49 ih =>
                intro fr hrj hfr hF ls hl
                rw [fX6_hold_L49] at hF
                refine lv_aload_n hx hb dX6_hold_49 rfl (lv_at hl 2 rfl) ?_
                refine lv_iload hx hb dX6_hold_50 (lv_at hl 0 rfl) ?_
                refine lv_iload_n hx hb dX6_hold_52 rfl (lv_at hl 1 rfl) ?_
                refine kx_cV (As := [.int (nI fr), .int (nI mo)]) (rest := []) ⟨hx, hb, hml, hown, hts⟩ (c_X6_stretches l dC dI cyI cyZ hm mb mn mk ms mp mq mi mz ma mc sg sn ud rz az bk fr (nI mo) hI (by omega) _ rfl) (cwV 2 hts gX6_hold_X6_stretches rfl rfl rfl (by decide +kernel) ⟨Nat.le_of_ble_eq_true rfl, Nat.le_of_ble_eq_true rfl⟩) hP hK hN [0, 1] rfl [0, 1] rfl 6 0 rfl rfl rfl rfl hl.1 rfl (Nat.le_of_ble_eq_true rfl) dX6_hold_53 ⟨Nat.zero_le _, Nat.zero_le _⟩ ?_
                refine lv_iload_n hx hb dX6_hold_56 rfl (lv_at hl 3 rfl) ?_
                refine lv_iconst (v := (1 : Int32)) hx hb dX6_hold_57 (by decide) ?_
                refine lv_isub hx hb dX6_hold_58 ?_
                refine lv_icmp_le (tgt := 68) hx hb dX6_hold_59 (by decide) (fun c59 => ?_) (fun c59 => ?_)
                · rw [if_pos c59] at hF
                  refine lv_iload hx hb dX6_hold_68 (lv_at hl 0 rfl) ?_
                  exact W.iret hx hb hr (fun t ht _ => ⟨congrArg (fun z => Outcome.returned (some (Value.int z))) hF, ht⟩) (fun _ h => absurd h List.not_mem_nil) dX6_hold_70
                · rw [if_neg c59] at hF
                  refine lv_iinc (v := (nI (fr + 1))) (lv' := [(4, .int (nI (fr + 1))), (3, .int (nI mo)), (0, .ref hm), (1, .int kw), (2, .int wh)]) hx hb dX6_hold_62 hl (k := 0) rfl (by exact nI_add (fr) 1) (by decide) rfl (fun ls hl => ?_)
                  refine lv_goto (tgt := 49) hx hb dX6_hold_65 (by decide) ?_
                  exact ih (fr + 1) (by omega) (by omega) hF _ (lv_sub hl [0, 1, 2, 3, 4] rfl)
            exact LP49 (mN bk) 0 (by omega) (by omega) hF _ (lv_sub hl [0, 1, 2, 3, 4] rfl)
          · rw [if_pos c41] at hF
            refine lv_iload_n hx hb dX6_hold_44 rfl (lv_at hl 0 rfl) ?_
            exact W.iret hx hb hr (fun t ht _ => ⟨congrArg (fun z => Outcome.returned (some (Value.int z))) hF, ht⟩) (fun _ h => absurd h List.not_mem_nil) dX6_hold_45
        | succ j24 ih24 =>
          intro mo hrj hmo hz24 ls hl
          rw [fX6_hold_L24] at hz24
          refine lv_aload_n hx hb dX6_hold_24 rfl (lv_at hl 1 rfl) ?_
          refine lv_iconst (v := (0 : Int32)) hx hb dX6_hold_25 (by decide) ?_
          refine lv_iload_n hx hb dX6_hold_26 rfl (lv_at hl 0 rfl) ?_
          refine kx_cV (As := [.int (0 : Int32), .int (nI mo)]) (rest := []) ⟨hx, hb, hml, hown, hts⟩ (c_X6_stretches l dC dI cyI cyZ hm mb mn mk ms mp mq mi mz ma mc sg sn ud rz az bk 0 (nI mo) hI (by omega) _ rfl) (cwV 2 hts gX6_hold_X6_stretches rfl rfl rfl (by decide +kernel) ⟨Nat.le_of_ble_eq_true rfl, Nat.le_of_ble_eq_true rfl⟩) hP hK hN [0, 1] rfl [0, 1] rfl 6 0 rfl rfl rfl rfl hl.1 rfl (Nat.le_of_ble_eq_true rfl) dX6_hold_27 ⟨Nat.zero_le _, Nat.zero_le _⟩ ?_
          refine lv_iload_n hx hb dX6_hold_30 rfl (lv_at hl 2 rfl) ?_
          refine lv_icmp_le (tgt := 40) hx hb dX6_hold_31 (by decide) (fun c31 => ?_) (fun c31 => ?_)
          · rw [if_pos c31] at hz24
            subst hz24
            try dsimp only at hF
            refine lv_iload_n hx hb dX6_hold_40 rfl (lv_at hl 3 rfl) ?_
            refine lv_if_ne (tgt := 46) hx hb dX6_hold_41 (by decide) (fun c41 => ?_) (fun c41 => ?_)
            · rw [if_neg c41] at hF
              refine lv_iconst (v := (0 : Int32)) hx hb dX6_hold_46 (by decide) ?_
              refine lv_istore (lv' := [(4, .int (0 : Int32)), (3, .int (nI mo)), (0, .ref hm), (1, .int kw), (2, .int wh)]) hx hb dX6_hold_47 hl (by decide) rfl (fun ls hl => ?_)
              have LP49 : ∀ (j49 : Nat) (fr : Nat), 0 ≤ j49 → (fr + j49 = mN bk) → fX6_hold_L49 bk kw mo j49 fr = r → ∀ (ls : Array Slot), lv_has ls 5 [(4, .int (nI fr)), (3, .int (nI mo)), (0, .ref hm), (1, .int kw), (2, .int wh)] → W p l e (headSpec wsX6_hold ({ frames := 1, cells := 0, slots := 0, locals := 27 } : Room)).room s m ([.ref hm, .int kw, .int wh] : List Value).toArray below meth c s.heap [] 0 0 (MQ below (k2_QcV (.int r)) ([.ref hm, .int kw, .int wh] : List Value).toArray s 0 0 (fun _ => False)) (F0 m 49 ls []) := by
                intro j49
                induction j49 with
                | zero =>
                  intro fr hrj hfr hF ls hl
                  rw [fX6_hold_L49] at hF
                  refine lv_aload_n hx hb dX6_hold_49 rfl (lv_at hl 2 rfl) ?_
                  refine lv_iload hx hb dX6_hold_50 (lv_at hl 0 rfl) ?_
                  refine lv_iload_n hx hb dX6_hold_52 rfl (lv_at hl 1 rfl) ?_
                  refine kx_cV (As := [.int (nI fr), .int (nI mo)]) (rest := []) ⟨hx, hb, hml, hown, hts⟩ (c_X6_stretches l dC dI cyI cyZ hm mb mn mk ms mp mq mi mz ma mc sg sn ud rz az bk fr (nI mo) hI (by omega) _ rfl) (cwV 2 hts gX6_hold_X6_stretches rfl rfl rfl (by decide +kernel) ⟨Nat.le_of_ble_eq_true rfl, Nat.le_of_ble_eq_true rfl⟩) hP hK hN [0, 1] rfl [0, 1] rfl 6 0 rfl rfl rfl rfl hl.1 rfl (Nat.le_of_ble_eq_true rfl) dX6_hold_53 ⟨Nat.zero_le _, Nat.zero_le _⟩ ?_
                  refine lv_iload_n hx hb dX6_hold_56 rfl (lv_at hl 3 rfl) ?_
                  refine lv_iconst (v := (1 : Int32)) hx hb dX6_hold_57 (by decide) ?_
                  refine lv_isub hx hb dX6_hold_58 ?_
                  refine lv_icmp_le (tgt := 68) hx hb dX6_hold_59 (by decide) (fun c59 => ?_) (fun c59 => absurd c59 (fun z9 => z9 (by rw [show fr = mN bk by omega, fX6_stretches_end]; exact h0k)))
                  refine lv_iload hx hb dX6_hold_68 (lv_at hl 0 rfl) ?_
                  exact W.iret hx hb hr (fun t ht _ => ⟨congrArg (fun z => Outcome.returned (some (Value.int z))) hF, ht⟩) (fun _ h => absurd h List.not_mem_nil) dX6_hold_70
                | succ j49 ih =>
                  intro fr hrj hfr hF ls hl
                  rw [fX6_hold_L49] at hF
                  refine lv_aload_n hx hb dX6_hold_49 rfl (lv_at hl 2 rfl) ?_
                  refine lv_iload hx hb dX6_hold_50 (lv_at hl 0 rfl) ?_
                  refine lv_iload_n hx hb dX6_hold_52 rfl (lv_at hl 1 rfl) ?_
                  refine kx_cV (As := [.int (nI fr), .int (nI mo)]) (rest := []) ⟨hx, hb, hml, hown, hts⟩ (c_X6_stretches l dC dI cyI cyZ hm mb mn mk ms mp mq mi mz ma mc sg sn ud rz az bk fr (nI mo) hI (by omega) _ rfl) (cwV 2 hts gX6_hold_X6_stretches rfl rfl rfl (by decide +kernel) ⟨Nat.le_of_ble_eq_true rfl, Nat.le_of_ble_eq_true rfl⟩) hP hK hN [0, 1] rfl [0, 1] rfl 6 0 rfl rfl rfl rfl hl.1 rfl (Nat.le_of_ble_eq_true rfl) dX6_hold_53 ⟨Nat.zero_le _, Nat.zero_le _⟩ ?_
                  refine lv_iload_n hx hb dX6_hold_56 rfl (lv_at hl 3 rfl) ?_
                  refine lv_iconst (v := (1 : Int32)) hx hb dX6_hold_57 (by decide) ?_
                  refine lv_isub hx hb dX6_hold_58 ?_
                  refine lv_icmp_le (tgt := 68) hx hb dX6_hold_59 (by decide) (fun c59 => ?_) (fun c59 => ?_)
                  · rw [if_pos c59] at hF
                    refine lv_iload hx hb dX6_hold_68 (lv_at hl 0 rfl) ?_
                    exact W.iret hx hb hr (fun t ht _ => ⟨congrArg (fun z => Outcome.returned (some (Value.int z))) hF, ht⟩) (fun _ h => absurd h List.not_mem_nil) dX6_hold_70
                  · rw [if_neg c59] at hF
                    refine lv_iinc (v := (nI (fr + 1))) (lv' := [(4, .int (nI (fr + 1))), (3, .int (nI mo)), (0, .ref hm), (1, .int kw), (2, .int wh)]) hx hb dX6_hold_62 hl (k := 0) rfl (by exact nI_add (fr) 1) (by decide) rfl (fun ls hl => ?_)
                    refine lv_goto (tgt := 49) hx hb dX6_hold_65 (by decide) ?_
                    exact ih (fr + 1) (by omega) (by omega) hF _ (lv_sub hl [0, 1, 2, 3, 4] rfl)
              exact LP49 (mN bk) 0 (by omega) (by omega) hF _ (lv_sub hl [0, 1, 2, 3, 4] rfl)
            · rw [if_pos c41] at hF
              refine lv_iload_n hx hb dX6_hold_44 rfl (lv_at hl 0 rfl) ?_
              exact W.iret hx hb hr (fun t ht _ => ⟨congrArg (fun z => Outcome.returned (some (Value.int z))) hF, ht⟩) (fun _ h => absurd h List.not_mem_nil) dX6_hold_45
          · rw [if_neg c31] at hz24
            refine lv_iinc (v := (nI (mo + 1))) (lv' := [(3, .int (nI (mo + 1))), (0, .ref hm), (1, .int kw), (2, .int wh)]) hx hb dX6_hold_34 hl (k := 0) rfl (by exact nI_add (mo) 1) (by decide) rfl (fun ls hl => ?_)
            refine lv_goto (tgt := 24) hx hb dX6_hold_37 (by decide) ?_
            exact ih24 (mo + 1) (by omega) (by omega) hz24 _ (lv_sub hl [0, 1, 2, 3] rfl)
      exact LP24 wm 0 (by omega) (by omega) hz24 _ (lv_sub hl [0, 1, 2, 3] rfl)
    · rw [if_pos c16] at hF
      refine lv_bipush (v := (-2 : Int32)) hx hb dX6_hold_19 (by decide) ?_
      exact W.iret hx hb hr (fun t ht _ => ⟨congrArg (fun z => Outcome.returned (some (Value.int z))) hF, ht⟩) (fun _ h => absurd h List.not_mem_nil) dX6_hold_21

def fX6_year_L46 (kn : Nat → Int32) : Nat → Nat → Nat → Int32 → (Nat → Int32) → (Nat → Int32) → (Nat × Int32 × (Nat → Int32) × (Nat → Int32))
  | 0, _, xx, gx, g1, g2 => (xx, gx, g1, g2)
  | r46 + 1, j46, xx, gx, g1, g2 => (if ((75 * xx + 74) % 65537) % 8 = 0 then (match fX6_pullOut g1 g2 ((((75 * xx + 74) % 65537) / 8) % 24) with | (q90a, q90b, q90c) => (if 0 ≤ q90a then (fX6_year_L46 kn r46 (j46 + 1) ((75 * xx + 74) % 65537) (gx + q90a) q90b q90c) else (fX6_year_L46 kn r46 (j46 + 1) ((75 * xx + 74) % 65537) (gx + (0 : Int32)) q90b q90c))) else (if ((75 * xx + 74) % 65537) % 8 = 1 then (match fX6_eat g1 ((((75 * xx + 74) % 65537) / 8) % 24) with | (q123a, q123b) => (fX6_year_L46 kn r46 (j46 + 1) ((75 * xx + 74) % 65537) gx q123b g2)) else (if ((75 * xx + 74) % 65537) % 8 = 2 then (match fX6_mend g1 kn ((((75 * xx + 74) % 65537) / 8) % 24) ((((75 * xx + 74) % 65537) / 192) % 4) with | (q147a, q147b) => (fX6_year_L46 kn r46 (j46 + 1) ((75 * xx + 74) % 65537) gx q147b g2)) else (match fX6_knit g1 kn ((((75 * xx + 74) % 65537) / 8) % 4) (nI ((((75 * xx + 74) % 65537) / 32) % 4)) with | (q169a, q169b) => (fX6_year_L46 kn r46 (j46 + 1) ((75 * xx + 74) % 65537) gx q169b g2)))))
def fX6_year (ud : Int32) (bk : Nat → Int32) (nw : Nat → Int32) (kn : Nat → Int32) (pq : Nat → Int32) (sd : Int32) (mm : Int32) (wh : Int32) : Int32 × (Nat → Int32) × (Nat → Int32) × Int32 :=
  (if (fX6_in sd (0 : Int32) (9999 : Int32)) = 0 then ((-2 : Int32), nw, pq, ud) else (if (fX6_in mm (1 : Int32) (99 : Int32)) = 0 then ((-2 : Int32), nw, pq, ud) else (if (fX6_in wh (0 : Int32) (2 : Int32)) = 0 then ((-2 : Int32), nw, pq, ud) else (match fX6_asNow bk nw with | (q34a, q34b) => (match fX6_year_L46 kn mm.toNatClampNeg 0 sd.toNatClampNeg (0 : Int32) q34a pq with | (xx, gx, g1, g2) => (if wh = 0 then ((nI (mN g1)), g1, g2, q34b) else (if wh = (1 : Int32) then ((fX6_bits ((fX6_eatenSet g1) ||| (fX6_looseSet g1))), g1, g2, q34b) else (gx, g1, g2, q34b))))))))
set_option maxHeartbeats 4000000 in
set_option maxRecDepth 100000 in
theorem c_X6_year (l : Launch) (dC : Nat → ClassId) (dI : Nat → Nat → Nat) (cyI cyZ : ClassId) (hm mb mn mk ms mp mq mi mz ma mc : Nat) (sg : Nat) (sn : Nat) (ud : Int32) (rz : Int32) (az : Int32) (bk : Nat → Int32) (nw : Nat → Int32) (kn : Nat → Int32) (pq : Nat → Int32) (sd : Int32) (mm : Int32) (wh : Int32) (hI : kx_I bk) (sz : Nat) (r : Int32 × (Nat → Int32) × (Nat → Int32) × Int32) (hF : fX6_year ud bk nw kn pq sd mm wh = r) : Met l yX6_year wsX6_year ({ frames := 3, cells := 0, slots := 0, locals := 67 }) (kx_wp (dC, dI) [(hm, .inr (6, [.ref mb, .ref mn, .ref mk, .int (nI sg), .ref ms, .int (nI sn), .ref mp, .int ud, .ref mq, .int rz, .int az, .ref mi, .ref mz, .ref ma, .ref mc])), (mb, .inl (cyI, 97, .inl bk)), (mn, .inl (cyI, 97, .inl nw)), (mk, .inl (cyI, 4, .inl kn)), (mq, .inl (cyI, 24, .inl pq))] [(cyI, .int), (cyZ, .boolean)] sz [.ref hm, .int sd, .int mm, .int wh]) (kx_Qi r.1 (dC, dI) [(hm, .inr (6, [.ref mb, .ref mn, .ref mk, .int (nI sg), .ref ms, .int (nI sn), .ref mp, .int ud, .ref mq, .int rz, .int az, .ref mi, .ref mz, .ref ma, .ref mc])), (mb, .inl (cyI, 97, .inl bk)), (mn, .inl (cyI, 97, .inl nw)), (mk, .inl (cyI, 4, .inl kn)), (mq, .inl (cyI, 24, .inl pq))] [(hm, .inr (6, [.ref mb, .ref mn, .ref mk, .int (nI sg), .ref ms, .int (nI sn), .ref mp, .int r.2.2.2, .ref mq, .int rz, .int az, .ref mi, .ref mz, .ref ma, .ref mc])), (mb, .inl (cyI, 97, .inl bk)), (mn, .inl (cyI, 97, .inl r.2.1)), (mk, .inl (cyI, 4, .inl kn)), (mq, .inl (cyI, 24, .inl r.2.2.1))] sz) 0 0 (va_A [(hm, .inr (6, [.ref mb, .ref mn, .ref mk, .int (nI sg), .ref ms, .int (nI sn), .ref mp, .int ud, .ref mq, .int rz, .int az, .ref mi, .ref mz, .ref ma, .ref mc])), (mb, .inl (cyI, 97, .inl bk)), (mn, .inl (cyI, 97, .inl nw)), (mk, .inl (cyI, 4, .inl kn)), (mq, .inl (cyI, 24, .inl pq))] sz) := by
  refine Met.ofW (cc := cX6_year) (maxL := 10) (ret := (some .int)) (by decide) rfl ?_
  intro p e s m args below meth c s₁ B hml hv
  obtain ⟨rfl, hsz, hP, hK, hN, hD0⟩ := hv
  have hx := B.exec
  have hb := B.bytes
  have hr := B.returns
  have hts := atoms_spec (ws := wsX6_year) B.pre
  have hown : s.vm.findClass RX6 = some m.cls := findClass_of_methodNamed B.named
  have hlocks := B.notSynchronized
  subst hsz
  obtain ⟨A, hAe⟩ : ∃ A, A = va_A [(hm, .inr (6, [.ref mb, .ref mn, .ref mk, .int (nI sg), .ref ms, .int (nI sn), .ref mp, .int ud, .ref mq, .int rz, .int az, .ref mi, .ref mz, .ref ma, .ref mc])), (mb, .inl (cyI, 97, .inl bk)), (mn, .inl (cyI, 97, .inl nw)), (mk, .inl (cyI, 4, .inl kn)), (mq, .inl (cyI, 24, .inl pq))] s.heap.size := ⟨_, rfl⟩
  have hD : va_D A [(hm, .inr (6, [.ref mb, .ref mn, .ref mk, .int (nI sg), .ref ms, .int (nI sn), .ref mp, .int ud, .ref mq, .int rz, .int az, .ref mi, .ref mz, .ref ma, .ref mc])), (mb, .inl (cyI, 97, .inl bk)), (mn, .inl (cyI, 97, .inl nw)), (mk, .inl (cyI, 4, .inl kn)), (mq, .inl (cyI, 24, .inl pq))] := by rw [hAe]; exact hD0.self
  have hA : ∀ q : Nat, s.heap.size ≤ q → A q := fun q h => by rw [hAe]; exact Or.inr h
  have hS : va_S A s.heap s.heap [] := va_S.rf
  have hiX6 : ∀ w ∈ wsX60, w ∈ wsX6_year := by decide +kernel
  have fl13 := hts (.fieldLink RX6 13 "KnitChronicleModel" "now" "[I") (by decide +kernel)
  have hl := lv_entry ([.ref hm, .int sd, .int mm, .int wh]) (n := 10) (Nat.le_of_ble_eq_true rfl)
  rw [lg_entry_eq]
  generalize (lg_sl ([.ref hm, .int sd, .int mm, .int wh]) ++ List.replicate (10 - (lg_sl ([.ref hm, .int sd, .int mm, .int wh])).length) Slot.unset).toArray = ls at hl ⊢
  have hl : lv_has ls 10 [(0, .ref hm), (1, .int sd), (2, .int mm), (3, .int wh)] := hl
  unfold fX6_year at hF
  have hmN := hI.2.1
  refine lv_iload_n hx hb dX6_year_0 rfl (lv_at hl 1 rfl) ?_
  refine lv_iconst (v := (0 : Int32)) hx hb dX6_year_1 (by decide) ?_
  refine lv_sipush (v := (9999 : Int32)) hx hb dX6_year_2 (by decide) ?_
  refine kx_cS (As := [.int sd, .int (0 : Int32), .int (9999 : Int32)]) (rest := []) ⟨hx, hb, hml, hown, hts⟩ (c_X6_in l dC dI cyI cyZ  sd (0 : Int32) (9999 : Int32)  _ rfl) (va_cwS 3 hts gX6_year_X6_in rfl rfl rfl (by decide +kernel) ⟨Nat.le_of_ble_eq_true rfl, Nat.le_of_ble_eq_true rfl⟩) hP hK hN [] rfl [0, 1] rfl rfl hl.1 rfl (Nat.le_of_ble_eq_true rfl) dX6_year_5 ⟨Nat.zero_le _, Nat.zero_le _⟩ ?_
  refine lv_if_eq (tgt := 30) hx hb dX6_year_8 (by decide) (fun c8 => ?_) (fun c8 => ?_)
  · rw [if_pos c8] at hF
    refine lv_bipush (v := (-2 : Int32)) hx hb dX6_year_30 (by decide) ?_
    subst hF
    subst hAe
    exact W.iret hx hb hr (fun t ht _ => ⟨⟨_, (), rfl, rfl, by rw [ht]; exact hP, hD⟩, hS.F ht⟩) hS.2.2 dX6_year_32
  · rw [if_neg c8] at hF
    refine lv_iload_n hx hb dX6_year_11 rfl (lv_at hl 2 rfl) ?_
    refine lv_iconst (v := (1 : Int32)) hx hb dX6_year_12 (by decide) ?_
    refine lv_bipush (v := (99 : Int32)) hx hb dX6_year_13 (by decide) ?_
    refine kx_cS (As := [.int mm, .int (1 : Int32), .int (99 : Int32)]) (rest := []) ⟨hx, hb, hml, hown, hts⟩ (c_X6_in l dC dI cyI cyZ  mm (1 : Int32) (99 : Int32)  _ rfl) (va_cwS 3 hts gX6_year_X6_in rfl rfl rfl (by decide +kernel) ⟨Nat.le_of_ble_eq_true rfl, Nat.le_of_ble_eq_true rfl⟩) hP hK hN [] rfl [0, 1] rfl rfl hl.1 rfl (Nat.le_of_ble_eq_true rfl) dX6_year_15 ⟨Nat.zero_le _, Nat.zero_le _⟩ ?_
    refine lv_if_eq (tgt := 30) hx hb dX6_year_18 (by decide) (fun c18 => ?_) (fun c18 => ?_)
    · rw [if_pos c18] at hF
      refine lv_bipush (v := (-2 : Int32)) hx hb dX6_year_30 (by decide) ?_
      subst hF
      subst hAe
      exact W.iret hx hb hr (fun t ht _ => ⟨⟨_, (), rfl, rfl, by rw [ht]; exact hP, hD⟩, hS.F ht⟩) hS.2.2 dX6_year_32
    · rw [if_neg c18] at hF
      refine lv_iload_n hx hb dX6_year_21 rfl (lv_at hl 3 rfl) ?_
      refine lv_iconst (v := (0 : Int32)) hx hb dX6_year_22 (by decide) ?_
      refine lv_iconst (v := (2 : Int32)) hx hb dX6_year_23 (by decide) ?_
      refine kx_cS (As := [.int wh, .int (0 : Int32), .int (2 : Int32)]) (rest := []) ⟨hx, hb, hml, hown, hts⟩ (c_X6_in l dC dI cyI cyZ  wh (0 : Int32) (2 : Int32)  _ rfl) (va_cwS 3 hts gX6_year_X6_in rfl rfl rfl (by decide +kernel) ⟨Nat.le_of_ble_eq_true rfl, Nat.le_of_ble_eq_true rfl⟩) hP hK hN [] rfl [0, 1] rfl rfl hl.1 rfl (Nat.le_of_ble_eq_true rfl) dX6_year_24 ⟨Nat.zero_le _, Nat.zero_le _⟩ ?_
      refine lv_if_ne (tgt := 33) hx hb dX6_year_27 (by decide) (fun c27 => ?_) (fun c27 => ?_)
      · rw [if_neg c27] at hF
        obtain ⟨hs1, hs2, hs3⟩ := fX6_in_P 0 9999 (by decide) (by decide) c8
        have htn := kx_tnc mm
        refine lv_aload_n hx hb dX6_year_33 rfl (lv_at hl 0 rfl) ?_
        generalize hq34 : fX6_asNow bk nw = q34 at hF
        obtain ⟨q34a, q34b⟩ := q34
        dsimp only at hF
        refine kx_wVv (As := []) (rest := []) (wr := [(mk, .inl (cyI, 4, .inl kn)), (mq, .inl (cyI, 24, .inl pq))]) (wc' := [(hm, .inr (6, [.ref mb, .ref mn, .ref mk, .int (nI sg), .ref ms, .int (nI sn), .ref mp, .int q34b, .ref mq, .int rz, .int az, .ref mi, .ref mz, .ref ma, .ref mc])), (mb, .inl (cyI, 97, .inl bk)), (mn, .inl (cyI, 97, .inl q34a))]) (W1 := [(hm, .inr (6, [.ref mb, .ref mn, .ref mk, .int (nI sg), .ref ms, .int (nI sn), .ref mp, .int q34b, .ref mq, .int rz, .int az, .ref mi, .ref mz, .ref ma, .ref mc])), (mb, .inl (cyI, 97, .inl bk)), (mn, .inl (cyI, 97, .inl q34a)), (mk, .inl (cyI, 4, .inl kn)), (mq, .inl (cyI, 24, .inl pq))]) ⟨hx, hb, hml, hown, hts⟩ (c_X6_asNow l dC dI cyI cyZ hm mb mn mk ms mp mq mi mz ma mc sg sn ud rz az bk nw  _ _ hq34) (cwV 0 hts gX6_year_X6_asNow rfl rfl rfl (by decide +kernel) ⟨Nat.le_of_ble_eq_true rfl, Nat.le_of_ble_eq_true rfl⟩) hP hD hS hA hK hN [0, 1, 2] [3, 4] [2, 3, 4, 0, 1] rfl (by decide) rfl (by decide) (by decide) (by decide) rfl [0, 1] rfl 6 0 rfl rfl rfl rfl hl.1 rfl (Nat.le_of_ble_eq_true rfl) dX6_year_34 ⟨Nat.zero_le _, Nat.zero_le _⟩ (fun H locs hP hD hS => ?_)
        have hJ0 : kx_I q34a := fX6_asNow_I hI hq34
        refine lv_iload_n hx hb dX6_year_37 rfl (lv_at hl 1 rfl) ?_
        refine kx_e hs1 ?_
        refine lv_istore (lv' := [(4, .int (nI (sd.toNatClampNeg))), (0, .ref hm), (1, .int sd), (2, .int mm), (3, .int wh)]) hx hb dX6_year_38 hl (by decide) rfl (fun ls hl => ?_)
        refine lv_iconst (v := (0 : Int32)) hx hb dX6_year_40 (by decide) ?_
        refine lv_istore (lv' := [(5, .int (0 : Int32)), (4, .int (nI (sd.toNatClampNeg))), (0, .ref hm), (1, .int sd), (2, .int mm), (3, .int wh)]) hx hb dX6_year_41 hl (by decide) rfl (fun ls hl => ?_)
        refine lv_iconst (v := (0 : Int32)) hx hb dX6_year_43 (by decide) ?_
        refine lv_istore (lv' := [(6, .int (0 : Int32)), (5, .int (0 : Int32)), (4, .int (nI (sd.toNatClampNeg))), (0, .ref hm), (1, .int sd), (2, .int mm), (3, .int wh)]) hx hb dX6_year_44 hl (by decide) rfl (fun ls hl => ?_)
        generalize hz46 : fX6_year_L46 kn mm.toNatClampNeg 0 sd.toNatClampNeg (0 : Int32) q34a pq = z46 at hF
        have LP46 : ∀ (r46 : Nat) (j46 : Nat) (xx : Nat) (gx : Int32) (g1 : Nat → Int32) (g2 : Nat → Int32), r46 + j46 = mm.toNatClampNeg → (xx < 65537) → (kx_I g1) → fX6_year_L46 kn r46 j46 xx gx g1 g2 = z46 → ∀ (H : Heap) (locs : List Loc), va_P (dC, dI) vwCl [(hm, .inr (6, [.ref mb, .ref mn, .ref mk, .int (nI sg), .ref ms, .int (nI sn), .ref mp, .int q34b, .ref mq, .int rz, .int az, .ref mi, .ref mz, .ref ma, .ref mc])), (mb, .inl (cyI, 97, .inl bk)), (mn, .inl (cyI, 97, .inl g1)), (mk, .inl (cyI, 4, .inl kn)), (mq, .inl (cyI, 24, .inl g2))] H → va_D A [(hm, .inr (6, [.ref mb, .ref mn, .ref mk, .int (nI sg), .ref ms, .int (nI sn), .ref mp, .int q34b, .ref mq, .int rz, .int az, .ref mi, .ref mz, .ref ma, .ref mc])), (mb, .inl (cyI, 97, .inl bk)), (mn, .inl (cyI, 97, .inl g1)), (mk, .inl (cyI, 4, .inl kn)), (mq, .inl (cyI, 24, .inl g2))] → va_S A s.heap H locs → ∀ (ls : Array Slot), lv_has ls 10 [(6, .int (nI j46)), (5, .int gx), (4, .int (nI xx)), (0, .ref hm), (1, .int sd), (2, .int mm), (3, .int wh)] → W p l e (headSpec wsX6_year ({ frames := 3, cells := 0, slots := 0, locals := 67 } : Room)).room s m ([.ref hm, .int sd, .int mm, .int wh] : List Value).toArray below meth c H locs 0 0 (MQ below (kx_Qi r.1 (dC, dI) [(hm, .inr (6, [.ref mb, .ref mn, .ref mk, .int (nI sg), .ref ms, .int (nI sn), .ref mp, .int ud, .ref mq, .int rz, .int az, .ref mi, .ref mz, .ref ma, .ref mc])), (mb, .inl (cyI, 97, .inl bk)), (mn, .inl (cyI, 97, .inl nw)), (mk, .inl (cyI, 4, .inl kn)), (mq, .inl (cyI, 24, .inl pq))] [(hm, .inr (6, [.ref mb, .ref mn, .ref mk, .int (nI sg), .ref ms, .int (nI sn), .ref mp, .int r.2.2.2, .ref mq, .int rz, .int az, .ref mi, .ref mz, .ref ma, .ref mc])), (mb, .inl (cyI, 97, .inl bk)), (mn, .inl (cyI, 97, .inl r.2.1)), (mk, .inl (cyI, 4, .inl kn)), (mq, .inl (cyI, 24, .inl r.2.2.1))] s.heap.size) ([.ref hm, .int sd, .int mm, .int wh] : List Value).toArray s 0 0 (va_A [(hm, .inr (6, [.ref mb, .ref mn, .ref mk, .int (nI sg), .ref ms, .int (nI sn), .ref mp, .int ud, .ref mq, .int rz, .int az, .ref mi, .ref mz, .ref ma, .ref mc])), (mb, .inl (cyI, 97, .inl bk)), (mn, .inl (cyI, 97, .inl nw)), (mk, .inl (cyI, 4, .inl kn)), (mq, .inl (cyI, 24, .inl pq))] s.heap.size)) (F0 m 46 ls []) := by
          intro r46
          induction r46 with
          | zero =>
            intro j46 xx gx g1 g2 hrj hxx hJ1 hz46 H locs hP hD hS ls hl
            rw [fX6_year_L46] at hz46
            subst hz46
            dsimp only at hF
            refine lv_iload hx hb dX6_year_46 (lv_at hl 0 rfl) ?_
            refine lv_iload_n hx hb dX6_year_48 rfl (lv_at hl 5 rfl) ?_
            refine kx_geR hx hb (j46) mm rfl (by omega) dX6_year_49 (by decide) (tgt := 179) (fun c49 => ?_) (fun c49 => absurd c49 (by omega))
            refine lv_iload_n hx hb dX6_year_179 rfl (lv_at hl 6 rfl) ?_
            refine lv_if_ne (tgt := 193) hx hb dX6_year_180 (by decide) (fun c180 => ?_) (fun c180 => ?_)
            · rw [if_neg c180] at hF
              refine lv_iload_n hx hb dX6_year_193 rfl (lv_at hl 6 rfl) ?_
              refine lv_iconst (v := (1 : Int32)) hx hb dX6_year_194 (by decide) ?_
              refine lv_icmp_ne (tgt := 213) hx hb dX6_year_195 (by decide) (fun c195 => ?_) (fun c195 => ?_)
              · rw [if_neg c195] at hF
                refine lv_iload hx hb dX6_year_213 (lv_at hl 1 rfl) ?_
                subst hF
                subst hAe
                exact W.iret hx hb hr (fun t ht _ => ⟨⟨_, (), rfl, rfl, by rw [ht]; exact hP, hD⟩, hS.F ht⟩) hS.2.2 dX6_year_215
              · rw [if_pos c195] at hF
                refine lv_aload_n hx hb dX6_year_198 rfl (lv_at hl 3 rfl) ?_
                refine kx_cV (As := []) (rest := []) ⟨hx, hb, hml, hown, hts⟩ (c_X6_eatenSet l dC dI cyI cyZ hm mb mn mk ms mp mq mi mz ma mc sg sn q34b rz az g1 hJ1 _ rfl) (cwV 0 hts gX6_year_X6_eatenSet rfl rfl rfl (by decide +kernel) ⟨Nat.le_of_ble_eq_true rfl, Nat.le_of_ble_eq_true rfl⟩) hP hK hN [0, 2] rfl [0, 1] rfl 6 0 rfl rfl rfl rfl hl.1 rfl (Nat.le_of_ble_eq_true rfl) dX6_year_199 ⟨Nat.zero_le _, Nat.zero_le _⟩ ?_
                refine lv_aload_n hx hb dX6_year_202 rfl (lv_at hl 3 rfl) ?_
                refine kx_cV (As := []) (rest := [.int (fX6_eatenSet g1)]) ⟨hx, hb, hml, hown, hts⟩ (c_X6_looseSet l dC dI cyI cyZ hm mb mn mk ms mp mq mi mz ma mc sg sn q34b rz az g1 hJ1 _ rfl) (cwV 0 hts gX6_year_X6_looseSet rfl rfl rfl (by decide +kernel) ⟨Nat.le_of_ble_eq_true rfl, Nat.le_of_ble_eq_true rfl⟩) hP hK hN [0, 2] rfl [0, 1] rfl 6 0 rfl rfl rfl rfl hl.1 rfl (Nat.le_of_ble_eq_true rfl) dX6_year_203 ⟨Nat.zero_le _, Nat.zero_le _⟩ ?_
                refine lv_ior hx hb dX6_year_206 ?_
                refine kx_cS (As := [.int ((fX6_eatenSet g1) ||| (fX6_looseSet g1))]) (rest := []) ⟨hx, hb, hml, hown, hts⟩ (c_X6_bits l dC dI cyI cyZ  ((fX6_eatenSet g1) ||| (fX6_looseSet g1))  _ rfl) (va_cwS 1 hts gX6_year_X6_bits rfl rfl rfl (by decide +kernel) ⟨Nat.le_of_ble_eq_true rfl, Nat.le_of_ble_eq_true rfl⟩) hP hK hN [] rfl [0, 1] rfl rfl hl.1 rfl (Nat.le_of_ble_eq_true rfl) dX6_year_207 ⟨Nat.zero_le _, Nat.zero_le _⟩ ?_
                refine lv_goto (tgt := 215) hx hb dX6_year_210 (by decide) ?_
                subst hF
                subst hAe
                exact W.iret hx hb hr (fun t ht _ => ⟨⟨_, (), rfl, rfl, by rw [ht]; exact hP, hD⟩, hS.F ht⟩) hS.2.2 dX6_year_215
            · rw [if_pos c180] at hF
              refine lv_aload_n hx hb dX6_year_183 rfl (lv_at hl 3 rfl) ?_
              refine va_get (D := (dC, dI)) (ci := 6) (v := .ref mn) (C := RX6) (T := TX6) (N := 15) hx hb hts hiX6 hown hK hP 0 rfl rfl 1 (by decide) fl13 (fun _ h9 => h9) rfl dX6_year_184 ?_
              refine lv_bipush (v := (96 : Int32)) hx hb dX6_year_187 (by decide) ?_
              refine kx_ld hx hb hK hP 2 0 rfl rfl (96) rfl (by omega) (by decide) dX6_year_189 ?_
              refine kx_e hJ1.1 ?_
              refine lv_goto (tgt := 215) hx hb dX6_year_190 (by decide) ?_
              subst hF
              subst hAe
              exact W.iret hx hb hr (fun t ht _ => ⟨⟨_, (), rfl, rfl, by rw [ht]; exact hP, hD⟩, hS.F ht⟩) hS.2.2 dX6_year_215
          | succ r46 ih =>
            intro j46 xx gx g1 g2 hrj hxx hJ1 hz46 H locs hP hD hS ls hl
            rw [fX6_year_L46] at hz46
            refine lv_iload hx hb dX6_year_46 (lv_at hl 0 rfl) ?_
            refine lv_iload_n hx hb dX6_year_48 rfl (lv_at hl 5 rfl) ?_
            refine kx_geR hx hb (j46) mm rfl (by omega) dX6_year_49 (by decide) (tgt := 179) (fun c49 => absurd c49 (by omega)) (fun c49 => ?_)
            refine lv_bipush (v := (75 : Int32)) hx hb dX6_year_52 (by decide) ?_
            refine lv_iload hx hb dX6_year_54 (lv_at hl 2 rfl) ?_
            refine lv_imul hx hb dX6_year_56 ?_
            refine kx_e (pk_mul (75) (xx)) ?_
            refine lv_bipush (v := (74 : Int32)) hx hb dX6_year_57 (by decide) ?_
            refine lv_iadd hx hb dX6_year_59 ?_
            refine kx_e (nI_add (75 * xx) (74)) ?_
            refine lv_ldc hx hb hown (hts (.constant RX6 152 (65537)) (by decide +kernel)) dX6_year_60 ?_
            refine lv_irem hx hb dX6_year_62 (by decide) ?_
            refine kx_e (pk_rem (a := 75 * xx + 74) (d := 65537) (by omega) (by decide) (by decide)) ?_
            refine lv_istore (lv' := [(4, .int (nI ((75 * xx + 74) % 65537))), (6, .int (nI j46)), (5, .int gx), (0, .ref hm), (1, .int sd), (2, .int mm), (3, .int wh)]) hx hb dX6_year_63 hl (by decide) rfl (fun ls hl => ?_)
            refine lv_iload hx hb dX6_year_65 (lv_at hl 0 rfl) ?_
            refine lv_bipush (v := (8 : Int32)) hx hb dX6_year_67 (by decide) ?_
            refine lv_irem hx hb dX6_year_69 (by decide) ?_
            refine kx_e (pk_rem (a := (75 * xx + 74) % 65537) (d := 8) (by omega) (by decide) (by decide)) ?_
            refine lv_istore (lv' := [(7, .int (nI (((75 * xx + 74) % 65537) % 8))), (4, .int (nI ((75 * xx + 74) % 65537))), (6, .int (nI j46)), (5, .int gx), (0, .ref hm), (1, .int sd), (2, .int mm), (3, .int wh)]) hx hb dX6_year_70 hl (by decide) rfl (fun ls hl => ?_)
            refine lv_iload hx hb dX6_year_72 (lv_at hl 1 rfl) ?_
            refine lv_bipush (v := (8 : Int32)) hx hb dX6_year_74 (by decide) ?_
            refine lv_idiv hx hb dX6_year_76 (by decide) ?_
            refine kx_e (pk_div (a := (75 * xx + 74) % 65537) (d := 8) (by omega) (by decide) (by decide)) ?_
            refine lv_bipush (v := (24 : Int32)) hx hb dX6_year_77 (by decide) ?_
            refine lv_irem hx hb dX6_year_79 (by decide) ?_
            refine kx_e (pk_rem (a := ((75 * xx + 74) % 65537) / 8) (d := 24) (by omega) (by decide) (by decide)) ?_
            refine lv_istore (lv' := [(8, .int (nI ((((75 * xx + 74) % 65537) / 8) % 24))), (7, .int (nI (((75 * xx + 74) % 65537) % 8))), (4, .int (nI ((75 * xx + 74) % 65537))), (6, .int (nI j46)), (5, .int gx), (0, .ref hm), (1, .int sd), (2, .int mm), (3, .int wh)]) hx hb dX6_year_80 hl (by decide) rfl (fun ls hl => ?_)
            refine lv_iload hx hb dX6_year_82 (lv_at hl 1 rfl) ?_
            refine kx_ne0 hx hb (((75 * xx + 74) % 65537) % 8) rfl (by omega) dX6_year_84 (by decide) (tgt := 114) (fun c84 => ?_) (fun c84 => ?_)
            · rw [if_neg c84] at hz46
              refine lv_iload hx hb dX6_year_114 (lv_at hl 1 rfl) ?_
              refine lv_iconst (v := (1 : Int32)) hx hb dX6_year_116 (by decide) ?_
              refine kx_ne hx hb (((75 * xx + 74) % 65537) % 8) (1) rfl rfl (by omega) (by omega) dX6_year_117 (by decide) (tgt := 130) (fun c117 => ?_) (fun c117 => ?_)
              · rw [if_neg c117] at hz46
                refine lv_iload hx hb dX6_year_130 (lv_at hl 1 rfl) ?_
                refine lv_iconst (v := (2 : Int32)) hx hb dX6_year_132 (by decide) ?_
                refine kx_ne hx hb (((75 * xx + 74) % 65537) % 8) (2) rfl rfl (by omega) (by omega) dX6_year_133 (by decide) (tgt := 154) (fun c133 => ?_) (fun c133 => ?_)
                · rw [if_neg c133] at hz46
                  refine lv_aload_n hx hb dX6_year_154 rfl (lv_at hl 5 rfl) ?_
                  refine lv_iload hx hb dX6_year_155 (lv_at hl 2 rfl) ?_
                  refine lv_bipush (v := (8 : Int32)) hx hb dX6_year_157 (by decide) ?_
                  refine lv_idiv hx hb dX6_year_159 (by decide) ?_
                  refine kx_e (pk_div (a := (75 * xx + 74) % 65537) (d := 8) (by omega) (by decide) (by decide)) ?_
                  refine lv_iconst (v := (4 : Int32)) hx hb dX6_year_160 (by decide) ?_
                  refine lv_irem hx hb dX6_year_161 (by decide) ?_
                  refine kx_e (pk_rem (a := ((75 * xx + 74) % 65537) / 8) (d := 4) (by omega) (by decide) (by decide)) ?_
                  refine lv_iload hx hb dX6_year_162 (lv_at hl 2 rfl) ?_
                  refine lv_bipush (v := (32 : Int32)) hx hb dX6_year_164 (by decide) ?_
                  refine lv_idiv hx hb dX6_year_166 (by decide) ?_
                  refine kx_e (pk_div (a := (75 * xx + 74) % 65537) (d := 32) (by omega) (by decide) (by decide)) ?_
                  refine lv_iconst (v := (4 : Int32)) hx hb dX6_year_167 (by decide) ?_
                  refine lv_irem hx hb dX6_year_168 (by decide) ?_
                  refine kx_e (pk_rem (a := ((75 * xx + 74) % 65537) / 32) (d := 4) (by omega) (by decide) (by decide)) ?_
                  generalize hq169 : fX6_knit g1 kn ((((75 * xx + 74) % 65537) / 8) % 4) (nI ((((75 * xx + 74) % 65537) / 32) % 4)) = q169 at hz46
                  obtain ⟨q169a, q169b⟩ := q169
                  dsimp only at hz46
                  refine kx_wVi (As := [.int (nI ((((75 * xx + 74) % 65537) / 8) % 4)), .int (nI ((((75 * xx + 74) % 65537) / 32) % 4))]) (rest := []) (wr := [(mb, .inl (cyI, 97, .inl bk)), (mq, .inl (cyI, 24, .inl g2))]) (wc' := [(hm, .inr (6, [.ref mb, .ref mn, .ref mk, .int (nI sg), .ref ms, .int (nI sn), .ref mp, .int q34b, .ref mq, .int rz, .int az, .ref mi, .ref mz, .ref ma, .ref mc])), (mn, .inl (cyI, 97, .inl q169b)), (mk, .inl (cyI, 4, .inl kn))]) (W1 := [(hm, .inr (6, [.ref mb, .ref mn, .ref mk, .int (nI sg), .ref ms, .int (nI sn), .ref mp, .int q34b, .ref mq, .int rz, .int az, .ref mi, .ref mz, .ref ma, .ref mc])), (mb, .inl (cyI, 97, .inl bk)), (mn, .inl (cyI, 97, .inl q169b)), (mk, .inl (cyI, 4, .inl kn)), (mq, .inl (cyI, 24, .inl g2))]) ⟨hx, hb, hml, hown, hts⟩ (c_X6_knit l dC dI cyI cyZ hm mb mn mk ms mp mq mi mz ma mc sg sn q34b rz az g1 kn ((((75 * xx + 74) % 65537) / 8) % 4) (nI ((((75 * xx + 74) % 65537) / 32) % 4)) hJ1 (by omega) _ _ hq169) (cwV 2 hts gX6_year_X6_knit rfl rfl rfl (by decide +kernel) ⟨Nat.le_of_ble_eq_true rfl, Nat.le_of_ble_eq_true rfl⟩) hP hD hS hA hK hN [0, 2, 3] [1, 4] [2, 0, 3, 4, 1] rfl (by decide) rfl (by decide) (by decide) (by decide) rfl [0, 1] rfl 6 0 rfl rfl rfl rfl hl.1 rfl (Nat.le_of_ble_eq_true rfl) dX6_year_169 ⟨Nat.zero_le _, Nat.zero_le _⟩ (fun H locs hP hD hS => ?_)
                  have hJn : kx_I q169b := fX6_knit_I hJ1 hq169
                  refine lv_pop hx hb dX6_year_172 rfl ?_
                  refine lv_iinc (v := (nI (j46 + 1))) (lv' := [(6, .int (nI (j46 + 1))), (8, .int (nI ((((75 * xx + 74) % 65537) / 8) % 24))), (7, .int (nI (((75 * xx + 74) % 65537) % 8))), (4, .int (nI ((75 * xx + 74) % 65537))), (5, .int gx), (0, .ref hm), (1, .int sd), (2, .int mm), (3, .int wh)]) hx hb dX6_year_173 hl (k := 3) rfl (by exact nI_add (j46) 1) (by decide) rfl (fun ls hl => ?_)
                  refine lv_goto (tgt := 46) hx hb dX6_year_176 (by decide) ?_
                  exact ih (j46 + 1) ((75 * xx + 74) % 65537) gx q169b g2 (by omega) (Nat.mod_lt _ (by decide)) hJn hz46 _ _ hP hD hS _ (lv_sub hl [0, 4, 3, 5, 6, 7, 8] rfl)
                · rw [if_pos c133] at hz46
                  refine lv_aload_n hx hb dX6_year_136 rfl (lv_at hl 5 rfl) ?_
                  refine lv_iload hx hb dX6_year_137 (lv_at hl 0 rfl) ?_
                  refine lv_iload hx hb dX6_year_139 (lv_at hl 2 rfl) ?_
                  refine lv_sipush (v := (192 : Int32)) hx hb dX6_year_141 (by decide) ?_
                  refine lv_idiv hx hb dX6_year_144 (by decide) ?_
                  refine kx_e (pk_div (a := (75 * xx + 74) % 65537) (d := 192) (by omega) (by decide) (by decide)) ?_
                  refine lv_iconst (v := (4 : Int32)) hx hb dX6_year_145 (by decide) ?_
                  refine lv_irem hx hb dX6_year_146 (by decide) ?_
                  refine kx_e (pk_rem (a := ((75 * xx + 74) % 65537) / 192) (d := 4) (by omega) (by decide) (by decide)) ?_
                  generalize hq147 : fX6_mend g1 kn ((((75 * xx + 74) % 65537) / 8) % 24) ((((75 * xx + 74) % 65537) / 192) % 4) = q147 at hz46
                  obtain ⟨q147a, q147b⟩ := q147
                  dsimp only at hz46
                  refine kx_wVi (As := [.int (nI ((((75 * xx + 74) % 65537) / 8) % 24)), .int (nI ((((75 * xx + 74) % 65537) / 192) % 4))]) (rest := []) (wr := [(mb, .inl (cyI, 97, .inl bk)), (mq, .inl (cyI, 24, .inl g2))]) (wc' := [(hm, .inr (6, [.ref mb, .ref mn, .ref mk, .int (nI sg), .ref ms, .int (nI sn), .ref mp, .int q34b, .ref mq, .int rz, .int az, .ref mi, .ref mz, .ref ma, .ref mc])), (mn, .inl (cyI, 97, .inl q147b)), (mk, .inl (cyI, 4, .inl kn))]) (W1 := [(hm, .inr (6, [.ref mb, .ref mn, .ref mk, .int (nI sg), .ref ms, .int (nI sn), .ref mp, .int q34b, .ref mq, .int rz, .int az, .ref mi, .ref mz, .ref ma, .ref mc])), (mb, .inl (cyI, 97, .inl bk)), (mn, .inl (cyI, 97, .inl q147b)), (mk, .inl (cyI, 4, .inl kn)), (mq, .inl (cyI, 24, .inl g2))]) ⟨hx, hb, hml, hown, hts⟩ (c_X6_mend l dC dI cyI cyZ hm mb mn mk ms mp mq mi mz ma mc sg sn q34b rz az g1 kn ((((75 * xx + 74) % 65537) / 8) % 24) ((((75 * xx + 74) % 65537) / 192) % 4) hJ1 (by omega) (by omega) _ _ hq147) (cwV 2 hts gX6_year_X6_mend rfl rfl rfl (by decide +kernel) ⟨Nat.le_of_ble_eq_true rfl, Nat.le_of_ble_eq_true rfl⟩) hP hD hS hA hK hN [0, 2, 3] [1, 4] [2, 0, 3, 4, 1] rfl (by decide) rfl (by decide) (by decide) (by decide) rfl [0, 1] rfl 6 0 rfl rfl rfl rfl hl.1 rfl (Nat.le_of_ble_eq_true rfl) dX6_year_147 ⟨Nat.zero_le _, Nat.zero_le _⟩ (fun H locs hP hD hS => ?_)
                  have hJn : kx_I q147b := fX6_mend_I hJ1 hq147
                  refine lv_pop hx hb dX6_year_150 rfl ?_
                  refine lv_goto (tgt := 173) hx hb dX6_year_151 (by decide) ?_
                  refine lv_iinc (v := (nI (j46 + 1))) (lv' := [(6, .int (nI (j46 + 1))), (8, .int (nI ((((75 * xx + 74) % 65537) / 8) % 24))), (7, .int (nI (((75 * xx + 74) % 65537) % 8))), (4, .int (nI ((75 * xx + 74) % 65537))), (5, .int gx), (0, .ref hm), (1, .int sd), (2, .int mm), (3, .int wh)]) hx hb dX6_year_173 hl (k := 3) rfl (by exact nI_add (j46) 1) (by decide) rfl (fun ls hl => ?_)
                  refine lv_goto (tgt := 46) hx hb dX6_year_176 (by decide) ?_
                  exact ih (j46 + 1) ((75 * xx + 74) % 65537) gx q147b g2 (by omega) (Nat.mod_lt _ (by decide)) hJn hz46 _ _ hP hD hS _ (lv_sub hl [0, 4, 3, 5, 6, 7, 8] rfl)
              · rw [if_pos c117] at hz46
                refine lv_aload_n hx hb dX6_year_120 rfl (lv_at hl 5 rfl) ?_
                refine lv_iload hx hb dX6_year_121 (lv_at hl 0 rfl) ?_
                generalize hq123 : fX6_eat g1 ((((75 * xx + 74) % 65537) / 8) % 24) = q123 at hz46
                obtain ⟨q123a, q123b⟩ := q123
                dsimp only at hz46
                refine kx_wVi (As := [.int (nI ((((75 * xx + 74) % 65537) / 8) % 24))]) (rest := []) (wr := [(mb, .inl (cyI, 97, .inl bk)), (mk, .inl (cyI, 4, .inl kn)), (mq, .inl (cyI, 24, .inl g2))]) (wc' := [(hm, .inr (6, [.ref mb, .ref mn, .ref mk, .int (nI sg), .ref ms, .int (nI sn), .ref mp, .int q34b, .ref mq, .int rz, .int az, .ref mi, .ref mz, .ref ma, .ref mc])), (mn, .inl (cyI, 97, .inl q123b))]) (W1 := [(hm, .inr (6, [.ref mb, .ref mn, .ref mk, .int (nI sg), .ref ms, .int (nI sn), .ref mp, .int q34b, .ref mq, .int rz, .int az, .ref mi, .ref mz, .ref ma, .ref mc])), (mb, .inl (cyI, 97, .inl bk)), (mn, .inl (cyI, 97, .inl q123b)), (mk, .inl (cyI, 4, .inl kn)), (mq, .inl (cyI, 24, .inl g2))]) ⟨hx, hb, hml, hown, hts⟩ (c_X6_eat l dC dI cyI cyZ hm mb mn mk ms mp mq mi mz ma mc sg sn q34b rz az g1 ((((75 * xx + 74) % 65537) / 8) % 24) hJ1 (by omega) _ _ hq123) (cwV 1 hts gX6_year_X6_eat rfl rfl rfl (by decide +kernel) ⟨Nat.le_of_ble_eq_true rfl, Nat.le_of_ble_eq_true rfl⟩) hP hD hS hA hK hN [0, 2] [1, 3, 4] [3, 0, 4, 1, 2] rfl (by decide) rfl (by decide) (by decide) (by decide) rfl [0, 1] rfl 6 0 rfl rfl rfl rfl hl.1 rfl (Nat.le_of_ble_eq_true rfl) dX6_year_123 ⟨Nat.zero_le _, Nat.zero_le _⟩ (fun H locs hP hD hS => ?_)
                have hJn : kx_I q123b := fX6_eat_I hJ1 hq123
                refine lv_pop hx hb dX6_year_126 rfl ?_
                refine lv_goto (tgt := 173) hx hb dX6_year_127 (by decide) ?_
                refine lv_iinc (v := (nI (j46 + 1))) (lv' := [(6, .int (nI (j46 + 1))), (8, .int (nI ((((75 * xx + 74) % 65537) / 8) % 24))), (7, .int (nI (((75 * xx + 74) % 65537) % 8))), (4, .int (nI ((75 * xx + 74) % 65537))), (5, .int gx), (0, .ref hm), (1, .int sd), (2, .int mm), (3, .int wh)]) hx hb dX6_year_173 hl (k := 3) rfl (by exact nI_add (j46) 1) (by decide) rfl (fun ls hl => ?_)
                refine lv_goto (tgt := 46) hx hb dX6_year_176 (by decide) ?_
                exact ih (j46 + 1) ((75 * xx + 74) % 65537) gx q123b g2 (by omega) (Nat.mod_lt _ (by decide)) hJn hz46 _ _ hP hD hS _ (lv_sub hl [0, 4, 3, 5, 6, 7, 8] rfl)
            · rw [if_pos c84] at hz46
              refine lv_aload_n hx hb dX6_year_87 rfl (lv_at hl 5 rfl) ?_
              refine lv_iload hx hb dX6_year_88 (lv_at hl 0 rfl) ?_
              generalize hq90 : fX6_pullOut g1 g2 ((((75 * xx + 74) % 65537) / 8) % 24) = q90 at hz46
              obtain ⟨q90a, q90b, q90c⟩ := q90
              dsimp only at hz46
              refine kx_wVi (As := [.int (nI ((((75 * xx + 74) % 65537) / 8) % 24))]) (rest := []) (wr := [(mb, .inl (cyI, 97, .inl bk)), (mk, .inl (cyI, 4, .inl kn))]) (wc' := [(hm, .inr (6, [.ref mb, .ref mn, .ref mk, .int (nI sg), .ref ms, .int (nI sn), .ref mp, .int q34b, .ref mq, .int rz, .int az, .ref mi, .ref mz, .ref ma, .ref mc])), (mn, .inl (cyI, 97, .inl q90b)), (mq, .inl (cyI, 24, .inl q90c))]) (W1 := [(hm, .inr (6, [.ref mb, .ref mn, .ref mk, .int (nI sg), .ref ms, .int (nI sn), .ref mp, .int q34b, .ref mq, .int rz, .int az, .ref mi, .ref mz, .ref ma, .ref mc])), (mb, .inl (cyI, 97, .inl bk)), (mn, .inl (cyI, 97, .inl q90b)), (mk, .inl (cyI, 4, .inl kn)), (mq, .inl (cyI, 24, .inl q90c))]) ⟨hx, hb, hml, hown, hts⟩ (c_X6_pullOut l dC dI cyI cyZ hm mb mn mk ms mp mq mi mz ma mc sg sn q34b rz az g1 g2 ((((75 * xx + 74) % 65537) / 8) % 24) hJ1 (by omega) _ _ hq90) (cwV 1 hts gX6_year_X6_pullOut rfl rfl rfl (by decide +kernel) ⟨Nat.le_of_ble_eq_true rfl, Nat.le_of_ble_eq_true rfl⟩) hP hD hS hA hK hN [0, 2, 4] [1, 3] [2, 0, 3, 1, 4] rfl (by decide) rfl (by decide) (by decide) (by decide) rfl [0, 1] rfl 6 0 rfl rfl rfl rfl hl.1 rfl (Nat.le_of_ble_eq_true rfl) dX6_year_90 ⟨Nat.zero_le _, Nat.zero_le _⟩ (fun H locs hP hD hS => ?_)
              have hJn : kx_I q90b := fX6_pullOut_I hJ1 (by omega) hq90
              refine lv_istore (lv' := [(9, .int q90a), (8, .int (nI ((((75 * xx + 74) % 65537) / 8) % 24))), (7, .int (nI (((75 * xx + 74) % 65537) % 8))), (4, .int (nI ((75 * xx + 74) % 65537))), (6, .int (nI j46)), (5, .int gx), (0, .ref hm), (1, .int sd), (2, .int mm), (3, .int wh)]) hx hb dX6_year_93 hl (by decide) rfl (fun ls hl => ?_)
              refine lv_iload hx hb dX6_year_95 (lv_at hl 5 rfl) ?_
              refine lv_iload hx hb dX6_year_97 (lv_at hl 0 rfl) ?_
              refine lv_if_ge (tgt := 106) hx hb dX6_year_99 (by decide) (fun c99 => ?_) (fun c99 => ?_)
              · rw [if_pos c99] at hz46
                refine lv_iload hx hb dX6_year_106 (lv_at hl 0 rfl) ?_
                refine lv_iadd hx hb dX6_year_108 ?_
                refine lv_istore (lv' := [(5, .int (gx + q90a)), (9, .int q90a), (8, .int (nI ((((75 * xx + 74) % 65537) / 8) % 24))), (7, .int (nI (((75 * xx + 74) % 65537) % 8))), (4, .int (nI ((75 * xx + 74) % 65537))), (6, .int (nI j46)), (0, .ref hm), (1, .int sd), (2, .int mm), (3, .int wh)]) hx hb dX6_year_109 hl (by decide) rfl (fun ls hl => ?_)
                refine lv_goto (tgt := 173) hx hb dX6_year_111 (by decide) ?_
                refine lv_iinc (v := (nI (j46 + 1))) (lv' := [(6, .int (nI (j46 + 1))), (5, .int (gx + q90a)), (9, .int q90a), (8, .int (nI ((((75 * xx + 74) % 65537) / 8) % 24))), (7, .int (nI (((75 * xx + 74) % 65537) % 8))), (4, .int (nI ((75 * xx + 74) % 65537))), (0, .ref hm), (1, .int sd), (2, .int mm), (3, .int wh)]) hx hb dX6_year_173 hl (k := 5) rfl (by exact nI_add (j46) 1) (by decide) rfl (fun ls hl => ?_)
                refine lv_goto (tgt := 46) hx hb dX6_year_176 (by decide) ?_
                exact ih (j46 + 1) ((75 * xx + 74) % 65537) (gx + q90a) q90b q90c (by omega) (Nat.mod_lt _ (by decide)) hJn hz46 _ _ hP hD hS _ (lv_sub hl [0, 1, 5, 6, 7, 8, 9] rfl)
              · rw [if_neg c99] at hz46
                refine lv_iconst (v := (0 : Int32)) hx hb dX6_year_102 (by decide) ?_
                refine lv_goto (tgt := 108) hx hb dX6_year_103 (by decide) ?_
                refine lv_iadd hx hb dX6_year_108 ?_
                refine lv_istore (lv' := [(5, .int (gx + (0 : Int32))), (9, .int q90a), (8, .int (nI ((((75 * xx + 74) % 65537) / 8) % 24))), (7, .int (nI (((75 * xx + 74) % 65537) % 8))), (4, .int (nI ((75 * xx + 74) % 65537))), (6, .int (nI j46)), (0, .ref hm), (1, .int sd), (2, .int mm), (3, .int wh)]) hx hb dX6_year_109 hl (by decide) rfl (fun ls hl => ?_)
                refine lv_goto (tgt := 173) hx hb dX6_year_111 (by decide) ?_
                refine lv_iinc (v := (nI (j46 + 1))) (lv' := [(6, .int (nI (j46 + 1))), (5, .int (gx + (0 : Int32))), (9, .int q90a), (8, .int (nI ((((75 * xx + 74) % 65537) / 8) % 24))), (7, .int (nI (((75 * xx + 74) % 65537) % 8))), (4, .int (nI ((75 * xx + 74) % 65537))), (0, .ref hm), (1, .int sd), (2, .int mm), (3, .int wh)]) hx hb dX6_year_173 hl (k := 5) rfl (by exact nI_add (j46) 1) (by decide) rfl (fun ls hl => ?_)
                refine lv_goto (tgt := 46) hx hb dX6_year_176 (by decide) ?_
                exact ih (j46 + 1) ((75 * xx + 74) % 65537) (gx + (0 : Int32)) q90b q90c (by omega) (Nat.mod_lt _ (by decide)) hJn hz46 _ _ hP hD hS _ (lv_sub hl [0, 1, 5, 6, 7, 8, 9] rfl)
        exact LP46 mm.toNatClampNeg 0 sd.toNatClampNeg (0 : Int32) q34a pq (by omega) (by omega) hJ0 hz46 _ _ hP hD hS _ (lv_sub hl [0, 1, 2, 3, 4, 5, 6] rfl)
      · rw [if_pos c27] at hF
        refine lv_bipush (v := (-2 : Int32)) hx hb dX6_year_30 (by decide) ?_
        subst hF
        subst hAe
        exact W.iret hx hb hr (fun t ht _ => ⟨⟨_, (), rfl, rfl, by rw [ht]; exact hP, hD⟩, hS.F ht⟩) hS.2.2 dX6_year_32

def fX6_moths_L203 (pa : Int32) (up : Int64) (lw : Int64) : Nat → Int64 → Int64 → Int64
  | 0, ex, ey => (if pa = 0 then (up / ex) else (lw / ex))
  | j203 + 1, ex, ey => (if (lg_cmp ey (0 : Int64)) = 0 then (if pa = 0 then (up / ex) else (lw / ex)) else (fX6_moths_L203 pa up lw j203 ey (ex - ex / ey * ey)))
def fX6_moths_L62 (bk : Nat → Int32) : Nat → Int32 → Int32 → Int32 × Int32
  | 0, al, gx => (al, gx)
  | j62 + 1, al, gx => (if (fX6_has al (nI j62)) = 0 then (fX6_moths_L62 bk j62 al gx) else (if (bk (48 + j62)) < 0 then (if gx = 0 then (if (bk (72 + j62)) = (1 : Int32) then (fX6_moths_L62 bk j62 (al ||| (0 : Int32)) (1 : Int32)) else (fX6_moths_L62 bk j62 (al ||| (0 : Int32)) (0 : Int32))) else (fX6_moths_L62 bk j62 (al ||| (0 : Int32)) (1 : Int32))) else (if gx = 0 then (if (bk (72 + j62)) = (1 : Int32) then (fX6_moths_L62 bk j62 (al ||| ((1 : Int32) <<< ((bk (48 + j62)) &&& 31))) (1 : Int32)) else (fX6_moths_L62 bk j62 (al ||| ((1 : Int32) <<< ((bk (48 + j62)) &&& 31))) (0 : Int32))) else (fX6_moths_L62 bk j62 (al ||| ((1 : Int32) <<< ((bk (48 + j62)) &&& 31))) (1 : Int32)))))
def fX6_moths (bk : Nat → Int32) (se : Int32) (te : Int32) (pa : Int32) : Int64 :=
  (if (se &&& ((((1 : Int32) <<< ((nI (mN bk)) &&& 31)) - (1 : Int32)) ^^^ (-1 : Int32))) = 0 then (if (fX6_in te (0 : Int32) (10 : Int32)) = 0 then (-1000000000000000002 : Int64) else (if (fX6_in pa (0 : Int32) (1 : Int32)) = 0 then (-1000000000000000002 : Int64) else (match fX6_moths_L62 bk (mN bk) se (0 : Int32) with | (al, gx) => (if (fX6_bits al) ≤ (18 : Int32) then (if gx = 0 then ((fun (up : Int64) => ((fun (lw : Int64) => (fX6_moths_L203 pa up lw lw.toInt.toNat up lw)) (fX6_power (10 : Int64) (fX6_bits al)))) (fX6_power ((10 : Int64) - (te).toInt64) (fX6_bits al))) else ((fun (up : Int64) => ((fun (lw : Int64) => (fX6_moths_L203 pa up lw lw.toInt.toNat up lw)) (fX6_power (10 : Int64) (fX6_bits al)))) (0 : Int64))) else (-1000000000000000003 : Int64))))) else (-1000000000000000001 : Int64))
set_option maxHeartbeats 4000000 in
set_option maxRecDepth 100000 in
theorem c_X6_moths (l : Launch) (dC : Nat → ClassId) (dI : Nat → Nat → Nat) (cyI cyZ : ClassId) (hm mb mn mk ms mp mq mi mz ma mc : Nat) (sg : Nat) (sn : Nat) (ud : Int32) (rz : Int32) (az : Int32) (bk : Nat → Int32) (se : Int32) (te : Int32) (pa : Int32) (hI : kx_I bk) (r : Int64) (hF : fX6_moths bk se te pa = r) : Met l yX6_moths wsX6_moths ({ frames := 1, cells := 0, slots := 0, locals := 25 }) (kx_rp (dC, dI) [(hm, .inr (6, [.ref mb, .ref mn, .ref mk, .int (nI sg), .ref ms, .int (nI sn), .ref mp, .int ud, .ref mq, .int rz, .int az, .ref mi, .ref mz, .ref ma, .ref mc])), (mb, .inl (cyI, 97, .inl bk))] [(cyI, .int), (cyZ, .boolean)] [.ref hm, .int se, .int te, .int pa]) (k2_QcV (.long r)) 0 0 (fun _ => False) := by
  refine Met.ofW (cc := cX6_moths) (maxL := 16) (ret := (some .long)) (by decide) rfl ?_
  intro p e s m args below meth c s₁ B hml hv
  obtain ⟨rfl, hP, hK, hN⟩ := hv
  have hx := B.exec
  have hb := B.bytes
  have hr := B.returns
  have hts := atoms_spec (ws := wsX6_moths) B.pre
  have hown : s.vm.findClass RX6 = some m.cls := findClass_of_methodNamed B.named
  have hlocks := B.notSynchronized
  have hiX6 : ∀ w ∈ wsX60, w ∈ wsX6_moths := by decide +kernel
  have fl7 := hts (.fieldLink RX6 7 "KnitChronicleModel" "book" "[I") (by decide +kernel)
  have hl := lv_entry ([.ref hm, .int se, .int te, .int pa]) (n := 16) (Nat.le_of_ble_eq_true rfl)
  rw [lg_entry_eq]
  generalize (lg_sl ([.ref hm, .int se, .int te, .int pa]) ++ List.replicate (16 - (lg_sl ([.ref hm, .int se, .int te, .int pa])).length) Slot.unset).toArray = ls at hl ⊢
  have hl : lv_has ls 16 [(0, .ref hm), (1, .int se), (2, .int te), (3, .int pa)] := hl
  unfold fX6_moths at hF
  have hmN := hI.2.1
  refine lv_iload_n hx hb dX6_moths_0 rfl (lv_at hl 1 rfl) ?_
  refine lv_iconst (v := (1 : Int32)) hx hb dX6_moths_1 (by decide) ?_
  refine lv_aload_n hx hb dX6_moths_2 rfl (lv_at hl 0 rfl) ?_
  refine va_get (D := (dC, dI)) (ci := 6) (v := .ref mb) (C := RX6) (T := TX6) (N := 15) hx hb hts hiX6 hown hK hP 0 rfl rfl 0 (by decide) fl7 (fun _ h9 => h9) rfl dX6_moths_3 ?_
  refine lv_bipush (v := (96 : Int32)) hx hb dX6_moths_6 (by decide) ?_
  refine kx_ld hx hb hK hP 1 0 rfl rfl (96) rfl (by omega) (by decide) dX6_moths_8 ?_
  refine kx_e hI.1 ?_
  refine lv_ishl hx hb dX6_moths_9 ?_
  refine lv_iconst (v := (1 : Int32)) hx hb dX6_moths_10 (by decide) ?_
  refine lv_isub hx hb dX6_moths_11 ?_
  refine lv_iconst (v := (-1 : Int32)) hx hb dX6_moths_12 (by decide) ?_
  refine lv_ixor hx hb dX6_moths_13 ?_
  refine lv_iand hx hb dX6_moths_14 ?_
  refine lv_if_eq (tgt := 22) hx hb dX6_moths_15 (by decide) (fun c15 => ?_) (fun c15 => ?_)
  · rw [if_pos c15] at hF
    refine lv_iload_n hx hb dX6_moths_22 rfl (lv_at hl 2 rfl) ?_
    refine lv_iconst (v := (0 : Int32)) hx hb dX6_moths_23 (by decide) ?_
    refine lv_bipush (v := (10 : Int32)) hx hb dX6_moths_24 (by decide) ?_
    refine kx_cS (As := [.int te, .int (0 : Int32), .int (10 : Int32)]) (rest := []) ⟨hx, hb, hml, hown, hts⟩ (c_X6_in l dC dI cyI cyZ  te (0 : Int32) (10 : Int32)  _ rfl) (va_cwS 3 hts gX6_moths_X6_in rfl rfl rfl (by decide +kernel) ⟨Nat.le_of_ble_eq_true rfl, Nat.le_of_ble_eq_true rfl⟩) hP hK hN [] rfl [0, 1] rfl rfl hl.1 rfl (Nat.le_of_ble_eq_true rfl) dX6_moths_26 ⟨Nat.zero_le _, Nat.zero_le _⟩ ?_
    refine lv_if_eq (tgt := 41) hx hb dX6_moths_29 (by decide) (fun c29 => ?_) (fun c29 => ?_)
    · rw [if_pos c29] at hF
      refine lv_ldc2 hx hb hown (hts (.constantLong RX6 142 (-1000000000000000002)) (by decide +kernel)) dX6_moths_41 ?_
      exact W.lret hx hb hr (fun t ht _ => ⟨congrArg (fun z => Outcome.returned (some (Value.long z))) hF, ht⟩) (fun _ h => absurd h List.not_mem_nil) dX6_moths_44
    · rw [if_neg c29] at hF
      refine lv_iload_n hx hb dX6_moths_32 rfl (lv_at hl 3 rfl) ?_
      refine lv_iconst (v := (0 : Int32)) hx hb dX6_moths_33 (by decide) ?_
      refine lv_iconst (v := (1 : Int32)) hx hb dX6_moths_34 (by decide) ?_
      refine kx_cS (As := [.int pa, .int (0 : Int32), .int (1 : Int32)]) (rest := []) ⟨hx, hb, hml, hown, hts⟩ (c_X6_in l dC dI cyI cyZ  pa (0 : Int32) (1 : Int32)  _ rfl) (va_cwS 3 hts gX6_moths_X6_in rfl rfl rfl (by decide +kernel) ⟨Nat.le_of_ble_eq_true rfl, Nat.le_of_ble_eq_true rfl⟩) hP hK hN [] rfl [0, 1] rfl rfl hl.1 rfl (Nat.le_of_ble_eq_true rfl) dX6_moths_35 ⟨Nat.zero_le _, Nat.zero_le _⟩ ?_
      refine lv_if_ne (tgt := 45) hx hb dX6_moths_38 (by decide) (fun c38 => ?_) (fun c38 => ?_)
      · rw [if_neg c38] at hF
        refine lv_iload_n hx hb dX6_moths_45 rfl (lv_at hl 1 rfl) ?_
        refine lv_istore (lv' := [(4, .int se), (0, .ref hm), (1, .int se), (2, .int te), (3, .int pa)]) hx hb dX6_moths_46 hl (by decide) rfl (fun ls hl => ?_)
        refine lv_iconst (v := (0 : Int32)) hx hb dX6_moths_48 (by decide) ?_
        refine lv_istore (lv' := [(5, .int (0 : Int32)), (4, .int se), (0, .ref hm), (1, .int se), (2, .int te), (3, .int pa)]) hx hb dX6_moths_49 hl (by decide) rfl (fun ls hl => ?_)
        refine lv_aload_n hx hb dX6_moths_51 rfl (lv_at hl 2 rfl) ?_
        refine va_get (D := (dC, dI)) (ci := 6) (v := .ref mb) (C := RX6) (T := TX6) (N := 15) hx hb hts hiX6 hown hK hP 0 rfl rfl 0 (by decide) fl7 (fun _ h9 => h9) rfl dX6_moths_52 ?_
        refine lv_bipush (v := (96 : Int32)) hx hb dX6_moths_55 (by decide) ?_
        refine kx_ld hx hb hK hP 1 0 rfl rfl (96) rfl (by omega) (by decide) dX6_moths_57 ?_
        refine kx_e hI.1 ?_
        refine lv_iconst (v := (1 : Int32)) hx hb dX6_moths_58 (by decide) ?_
        refine lv_isub hx hb dX6_moths_59 ?_
        refine kx_e (kx_sub1 (mN bk)) ?_
        refine lv_istore (lv' := [(6, .int ((nI (mN bk)) + (-1))), (5, .int (0 : Int32)), (4, .int se), (0, .ref hm), (1, .int se), (2, .int te), (3, .int pa)]) hx hb dX6_moths_60 hl (by decide) rfl (fun ls hl => ?_)
        generalize hz62 : fX6_moths_L62 bk (mN bk) se (0 : Int32) = z62 at hF
        have LP62 : ∀ (j62 : Nat) (al : Int32) (gx : Int32), j62 ≤ mN bk → fX6_moths_L62 bk j62 al gx = z62 → ∀ (ls : Array Slot), lv_has ls 16 [(6, .int ((nI j62) + (-1))), (5, .int gx), (4, .int al), (0, .ref hm), (1, .int se), (2, .int te), (3, .int pa)] → W p l e (headSpec wsX6_moths ({ frames := 1, cells := 0, slots := 0, locals := 25 } : Room)).room s m ([.ref hm, .int se, .int te, .int pa] : List Value).toArray below meth c s.heap [] 0 0 (MQ below (k2_QcV (.long r)) ([.ref hm, .int se, .int te, .int pa] : List Value).toArray s 0 0 (fun _ => False)) (F0 m 62 ls []) := by
          intro j62
          induction j62 with
          | zero =>
            intro al gx hrj hz62 ls hl
            rw [fX6_moths_L62] at hz62
            subst hz62
            dsimp only at hF
            refine lv_iload hx hb dX6_moths_62 (lv_at hl 0 rfl) ?_
            refine lv_if_lt (tgt := 143) hx hb dX6_moths_64 (by decide) (fun c64 => ?_) (fun c64 => absurd c64 (by decide))
            refine lv_iload hx hb dX6_moths_143 (lv_at hl 2 rfl) ?_
            refine kx_cS (As := [.int al]) (rest := []) ⟨hx, hb, hml, hown, hts⟩ (c_X6_bits l dC dI cyI cyZ  al  _ rfl) (va_cwS 1 hts gX6_moths_X6_bits rfl rfl rfl (by decide +kernel) ⟨Nat.le_of_ble_eq_true rfl, Nat.le_of_ble_eq_true rfl⟩) hP hK hN [] rfl [0, 1] rfl rfl hl.1 rfl (Nat.le_of_ble_eq_true rfl) dX6_moths_145 ⟨Nat.zero_le _, Nat.zero_le _⟩ ?_
            refine lv_bipush (v := (18 : Int32)) hx hb dX6_moths_148 (by decide) ?_
            refine lv_icmp_le (tgt := 157) hx hb dX6_moths_150 (by decide) (fun c150 => ?_) (fun c150 => ?_)
            · rw [if_pos c150] at hF
              obtain ⟨hE1, hE2⟩ := fX6_moths_E c29 c150
              refine lv_iload hx hb dX6_moths_157 (lv_at hl 1 rfl) ?_
              refine lv_if_eq (tgt := 166) hx hb dX6_moths_159 (by decide) (fun c159 => ?_) (fun c159 => ?_)
              · rw [if_pos c159] at hF
                refine lv_ldc2 hx hb hown (hts (.constantLong RX6 146 (10)) (by decide +kernel)) dX6_moths_166 ?_
                refine lv_iload_n hx hb dX6_moths_169 rfl (lv_at hl 5 rfl) ?_
                refine lv_i2l (v := (te).toInt64) hx hb dX6_moths_170 rfl ?_
                refine lv_lsub hx hb dX6_moths_171 ?_
                refine lv_iload hx hb dX6_moths_172 (lv_at hl 2 rfl) ?_
                refine kx_cS (As := [.int al]) (rest := [.long ((10 : Int64) - (te).toInt64)]) ⟨hx, hb, hml, hown, hts⟩ (c_X6_bits l dC dI cyI cyZ  al  _ rfl) (va_cwS 1 hts gX6_moths_X6_bits rfl rfl rfl (by decide +kernel) ⟨Nat.le_of_ble_eq_true rfl, Nat.le_of_ble_eq_true rfl⟩) hP hK hN [] rfl [0, 1] rfl rfl hl.1 rfl (Nat.le_of_ble_eq_true rfl) dX6_moths_174 ⟨Nat.zero_le _, Nat.zero_le _⟩ ?_
                refine kx_cS (As := [.long ((10 : Int64) - (te).toInt64), .int (fX6_bits al)]) (rest := []) ⟨hx, hb, hml, hown, hts⟩ (c_X6_power l dC dI cyI cyZ  ((10 : Int64) - (te).toInt64) (fX6_bits al)  _ rfl) (va_cwS 2 hts gX6_moths_X6_power rfl rfl rfl (by decide +kernel) ⟨Nat.le_of_ble_eq_true rfl, Nat.le_of_ble_eq_true rfl⟩) hP hK hN [] rfl [0, 1] rfl rfl hl.1 rfl (Nat.le_of_ble_eq_true rfl) dX6_moths_177 ⟨Nat.zero_le _, Nat.zero_le _⟩ ?_
                refine lv_topl (fun up eup => ?_)
                rw [← eup] at hF
                try dsimp only at hF
                refine lv_lstore (lv' := [(6, .long up), (5, .int gx), (4, .int al), (0, .ref hm), (1, .int se), (2, .int te), (3, .int pa)]) hx hb dX6_moths_180 hl (by decide) rfl (fun ls hl => ?_)
                refine lv_ldc2 hx hb hown (hts (.constantLong RX6 146 (10)) (by decide +kernel)) dX6_moths_182 ?_
                refine lv_iload hx hb dX6_moths_185 (lv_at hl 2 rfl) ?_
                refine kx_cS (As := [.int al]) (rest := [.long (10 : Int64)]) ⟨hx, hb, hml, hown, hts⟩ (c_X6_bits l dC dI cyI cyZ  al  _ rfl) (va_cwS 1 hts gX6_moths_X6_bits rfl rfl rfl (by decide +kernel) ⟨Nat.le_of_ble_eq_true rfl, Nat.le_of_ble_eq_true rfl⟩) hP hK hN [] rfl [0, 1] rfl rfl hl.1 rfl (Nat.le_of_ble_eq_true rfl) dX6_moths_187 ⟨Nat.zero_le _, Nat.zero_le _⟩ ?_
                refine kx_cS (As := [.long (10 : Int64), .int (fX6_bits al)]) (rest := []) ⟨hx, hb, hml, hown, hts⟩ (c_X6_power l dC dI cyI cyZ  (10 : Int64) (fX6_bits al)  _ rfl) (va_cwS 2 hts gX6_moths_X6_power rfl rfl rfl (by decide +kernel) ⟨Nat.le_of_ble_eq_true rfl, Nat.le_of_ble_eq_true rfl⟩) hP hK hN [] rfl [0, 1] rfl rfl hl.1 rfl (Nat.le_of_ble_eq_true rfl) dX6_moths_190 ⟨Nat.zero_le _, Nat.zero_le _⟩ ?_
                refine lv_topl (fun lw elw => ?_)
                rw [← elw] at hF
                try dsimp only at hF
                refine lv_lstore (lv' := [(8, .long lw), (6, .long up), (5, .int gx), (4, .int al), (0, .ref hm), (1, .int se), (2, .int te), (3, .int pa)]) hx hb dX6_moths_193 hl (by decide) rfl (fun ls hl => ?_)
                refine lv_lload hx hb dX6_moths_195 (lv_at hl 1 rfl) ?_
                refine lv_lstore (lv' := [(10, .long up), (8, .long lw), (6, .long up), (5, .int gx), (4, .int al), (0, .ref hm), (1, .int se), (2, .int te), (3, .int pa)]) hx hb dX6_moths_197 hl (by decide) rfl (fun ls hl => ?_)
                refine lv_lload hx hb dX6_moths_199 (lv_at hl 1 rfl) ?_
                refine lv_lstore (lv' := [(12, .long lw), (10, .long up), (8, .long lw), (6, .long up), (5, .int gx), (4, .int al), (0, .ref hm), (1, .int se), (2, .int te), (3, .int pa)]) hx hb dX6_moths_201 hl (by decide) rfl (fun ls hl => ?_)
                have LP203 : ∀ (j203 : Nat) (ex : Int64) (ey : Int64), 0 ≤ j203 → (kx_E ex ey j203) → fX6_moths_L203 pa up lw j203 ex ey = r → ∀ (ls : Array Slot), lv_has ls 16 [(12, .long ey), (10, .long ex), (8, .long lw), (6, .long up), (5, .int gx), (4, .int al), (0, .ref hm), (1, .int se), (2, .int te), (3, .int pa)] → W p l e (headSpec wsX6_moths ({ frames := 1, cells := 0, slots := 0, locals := 25 } : Room)).room s m ([.ref hm, .int se, .int te, .int pa] : List Value).toArray below meth c s.heap [] 0 0 (MQ below (k2_QcV (.long r)) ([.ref hm, .int se, .int te, .int pa] : List Value).toArray s 0 0 (fun _ => False)) (F0 m 203 ls []) := by
                  intro j203
                  induction j203 with
                  | zero =>
                    intro ex ey hrj hE hF ls hl
                    rw [fX6_moths_L203] at hF
                    refine lv_lload hx hb dX6_moths_203 (lv_at hl 0 rfl) ?_
                    refine lv_lconst (v := 0) hx hb dX6_moths_205 rfl ?_
                    refine W.lcmp hx hb dX6_moths_206 ?_
                    refine lv_if_eq (tgt := 228) hx hb dX6_moths_207 (by decide) (fun c207 => ?_) (fun c207 => absurd c207 (fun z9 => z9 (kx_E_zero hE)))
                    refine lv_iload_n hx hb dX6_moths_228 rfl (lv_at hl 9 rfl) ?_
                    refine lv_if_ne (tgt := 240) hx hb dX6_moths_229 (by decide) (fun c229 => ?_) (fun c229 => ?_)
                    · rw [if_neg c229] at hF
                      refine lv_lload hx hb dX6_moths_240 (lv_at hl 2 rfl) ?_
                      refine lv_lload hx hb dX6_moths_242 (lv_at hl 1 rfl) ?_
                      refine lv_ldiv hx hb dX6_moths_244 (kx_E_ne hE c207) ?_
                      exact W.lret hx hb hr (fun t ht _ => ⟨congrArg (fun z => Outcome.returned (some (Value.long z))) hF, ht⟩) (fun _ h => absurd h List.not_mem_nil) dX6_moths_245
                    · rw [if_pos c229] at hF
                      refine lv_lload hx hb dX6_moths_232 (lv_at hl 3 rfl) ?_
                      refine lv_lload hx hb dX6_moths_234 (lv_at hl 1 rfl) ?_
                      refine lv_ldiv hx hb dX6_moths_236 (kx_E_ne hE c207) ?_
                      refine lv_goto (tgt := 245) hx hb dX6_moths_237 (by decide) ?_
                      exact W.lret hx hb hr (fun t ht _ => ⟨congrArg (fun z => Outcome.returned (some (Value.long z))) hF, ht⟩) (fun _ h => absurd h List.not_mem_nil) dX6_moths_245
                  | succ j203 ih =>
                    intro ex ey hrj hE hF ls hl
                    rw [fX6_moths_L203] at hF
                    refine lv_lload hx hb dX6_moths_203 (lv_at hl 0 rfl) ?_
                    refine lv_lconst (v := 0) hx hb dX6_moths_205 rfl ?_
                    refine W.lcmp hx hb dX6_moths_206 ?_
                    refine lv_if_eq (tgt := 228) hx hb dX6_moths_207 (by decide) (fun c207 => ?_) (fun c207 => ?_)
                    · rw [if_pos c207] at hF
                      refine lv_iload_n hx hb dX6_moths_228 rfl (lv_at hl 9 rfl) ?_
                      refine lv_if_ne (tgt := 240) hx hb dX6_moths_229 (by decide) (fun c229 => ?_) (fun c229 => ?_)
                      · rw [if_neg c229] at hF
                        refine lv_lload hx hb dX6_moths_240 (lv_at hl 2 rfl) ?_
                        refine lv_lload hx hb dX6_moths_242 (lv_at hl 1 rfl) ?_
                        refine lv_ldiv hx hb dX6_moths_244 (kx_E_ne hE c207) ?_
                        exact W.lret hx hb hr (fun t ht _ => ⟨congrArg (fun z => Outcome.returned (some (Value.long z))) hF, ht⟩) (fun _ h => absurd h List.not_mem_nil) dX6_moths_245
                      · rw [if_pos c229] at hF
                        refine lv_lload hx hb dX6_moths_232 (lv_at hl 3 rfl) ?_
                        refine lv_lload hx hb dX6_moths_234 (lv_at hl 1 rfl) ?_
                        refine lv_ldiv hx hb dX6_moths_236 (kx_E_ne hE c207) ?_
                        refine lv_goto (tgt := 245) hx hb dX6_moths_237 (by decide) ?_
                        exact W.lret hx hb hr (fun t ht _ => ⟨congrArg (fun z => Outcome.returned (some (Value.long z))) hF, ht⟩) (fun _ h => absurd h List.not_mem_nil) dX6_moths_245
                    · rw [if_neg c207] at hF
                      refine lv_lload hx hb dX6_moths_210 (lv_at hl 1 rfl) ?_
                      refine lv_lload hx hb dX6_moths_212 (lv_at hl 0 rfl) ?_
                      refine lv_lrem hx hb dX6_moths_214 (fun z9 => c207 (by rw [z9]; rfl)) ?_
                      refine lv_lstore (lv' := [(14, .long (ex - ex / ey * ey)), (12, .long ey), (10, .long ex), (8, .long lw), (6, .long up), (5, .int gx), (4, .int al), (0, .ref hm), (1, .int se), (2, .int te), (3, .int pa)]) hx hb dX6_moths_215 hl (by decide) rfl (fun ls hl => ?_)
                      refine lv_lload hx hb dX6_moths_217 (lv_at hl 1 rfl) ?_
                      refine lv_lstore (lv' := [(10, .long ey), (14, .long (ex - ex / ey * ey)), (12, .long ey), (8, .long lw), (6, .long up), (5, .int gx), (4, .int al), (0, .ref hm), (1, .int se), (2, .int te), (3, .int pa)]) hx hb dX6_moths_219 hl (by decide) rfl (fun ls hl => ?_)
                      refine lv_lload hx hb dX6_moths_221 (lv_at hl 1 rfl) ?_
                      refine lv_lstore (lv' := [(12, .long (ex - ex / ey * ey)), (10, .long ey), (14, .long (ex - ex / ey * ey)), (8, .long lw), (6, .long up), (5, .int gx), (4, .int al), (0, .ref hm), (1, .int se), (2, .int te), (3, .int pa)]) hx hb dX6_moths_223 hl (by decide) rfl (fun ls hl => ?_)
                      refine lv_goto (tgt := 203) hx hb dX6_moths_225 (by decide) ?_
                      exact ih ey (ex - ex / ey * ey) (by omega) (kx_E_step hE c207) hF _ (lv_sub hl [0, 1, 3, 4, 5, 6, 7, 8, 9, 10] rfl)
                exact LP203 lw.toInt.toNat up lw (by omega) (by rw [eup, elw]; first | exact hE1 | exact hE2) hF _ (lv_sub hl [0, 1, 2, 3, 4, 5, 6, 7, 8, 9] rfl)
              · rw [if_neg c159] at hF
                refine lv_lconst (v := 0) hx hb dX6_moths_162 rfl ?_
                refine lv_goto (tgt := 180) hx hb dX6_moths_163 (by decide) ?_
                refine lv_topl (fun up eup => ?_)
                rw [← eup] at hF
                try dsimp only at hF
                refine lv_lstore (lv' := [(6, .long up), (5, .int gx), (4, .int al), (0, .ref hm), (1, .int se), (2, .int te), (3, .int pa)]) hx hb dX6_moths_180 hl (by decide) rfl (fun ls hl => ?_)
                refine lv_ldc2 hx hb hown (hts (.constantLong RX6 146 (10)) (by decide +kernel)) dX6_moths_182 ?_
                refine lv_iload hx hb dX6_moths_185 (lv_at hl 2 rfl) ?_
                refine kx_cS (As := [.int al]) (rest := [.long (10 : Int64)]) ⟨hx, hb, hml, hown, hts⟩ (c_X6_bits l dC dI cyI cyZ  al  _ rfl) (va_cwS 1 hts gX6_moths_X6_bits rfl rfl rfl (by decide +kernel) ⟨Nat.le_of_ble_eq_true rfl, Nat.le_of_ble_eq_true rfl⟩) hP hK hN [] rfl [0, 1] rfl rfl hl.1 rfl (Nat.le_of_ble_eq_true rfl) dX6_moths_187 ⟨Nat.zero_le _, Nat.zero_le _⟩ ?_
                refine kx_cS (As := [.long (10 : Int64), .int (fX6_bits al)]) (rest := []) ⟨hx, hb, hml, hown, hts⟩ (c_X6_power l dC dI cyI cyZ  (10 : Int64) (fX6_bits al)  _ rfl) (va_cwS 2 hts gX6_moths_X6_power rfl rfl rfl (by decide +kernel) ⟨Nat.le_of_ble_eq_true rfl, Nat.le_of_ble_eq_true rfl⟩) hP hK hN [] rfl [0, 1] rfl rfl hl.1 rfl (Nat.le_of_ble_eq_true rfl) dX6_moths_190 ⟨Nat.zero_le _, Nat.zero_le _⟩ ?_
                refine lv_topl (fun lw elw => ?_)
                rw [← elw] at hF
                try dsimp only at hF
                refine lv_lstore (lv' := [(8, .long lw), (6, .long up), (5, .int gx), (4, .int al), (0, .ref hm), (1, .int se), (2, .int te), (3, .int pa)]) hx hb dX6_moths_193 hl (by decide) rfl (fun ls hl => ?_)
                refine lv_lload hx hb dX6_moths_195 (lv_at hl 1 rfl) ?_
                refine lv_lstore (lv' := [(10, .long up), (8, .long lw), (6, .long up), (5, .int gx), (4, .int al), (0, .ref hm), (1, .int se), (2, .int te), (3, .int pa)]) hx hb dX6_moths_197 hl (by decide) rfl (fun ls hl => ?_)
                refine lv_lload hx hb dX6_moths_199 (lv_at hl 1 rfl) ?_
                refine lv_lstore (lv' := [(12, .long lw), (10, .long up), (8, .long lw), (6, .long up), (5, .int gx), (4, .int al), (0, .ref hm), (1, .int se), (2, .int te), (3, .int pa)]) hx hb dX6_moths_201 hl (by decide) rfl (fun ls hl => ?_)
                have LP203 : ∀ (j203 : Nat) (ex : Int64) (ey : Int64), 0 ≤ j203 → (kx_E ex ey j203) → fX6_moths_L203 pa up lw j203 ex ey = r → ∀ (ls : Array Slot), lv_has ls 16 [(12, .long ey), (10, .long ex), (8, .long lw), (6, .long up), (5, .int gx), (4, .int al), (0, .ref hm), (1, .int se), (2, .int te), (3, .int pa)] → W p l e (headSpec wsX6_moths ({ frames := 1, cells := 0, slots := 0, locals := 25 } : Room)).room s m ([.ref hm, .int se, .int te, .int pa] : List Value).toArray below meth c s.heap [] 0 0 (MQ below (k2_QcV (.long r)) ([.ref hm, .int se, .int te, .int pa] : List Value).toArray s 0 0 (fun _ => False)) (F0 m 203 ls []) := by
                  intro j203
                  induction j203 with
                  | zero =>
                    intro ex ey hrj hE hF ls hl
                    rw [fX6_moths_L203] at hF
                    refine lv_lload hx hb dX6_moths_203 (lv_at hl 0 rfl) ?_
                    refine lv_lconst (v := 0) hx hb dX6_moths_205 rfl ?_
                    refine W.lcmp hx hb dX6_moths_206 ?_
                    refine lv_if_eq (tgt := 228) hx hb dX6_moths_207 (by decide) (fun c207 => ?_) (fun c207 => absurd c207 (fun z9 => z9 (kx_E_zero hE)))
                    refine lv_iload_n hx hb dX6_moths_228 rfl (lv_at hl 9 rfl) ?_
                    refine lv_if_ne (tgt := 240) hx hb dX6_moths_229 (by decide) (fun c229 => ?_) (fun c229 => ?_)
                    · rw [if_neg c229] at hF
                      refine lv_lload hx hb dX6_moths_240 (lv_at hl 2 rfl) ?_
                      refine lv_lload hx hb dX6_moths_242 (lv_at hl 1 rfl) ?_
                      refine lv_ldiv hx hb dX6_moths_244 (kx_E_ne hE c207) ?_
                      exact W.lret hx hb hr (fun t ht _ => ⟨congrArg (fun z => Outcome.returned (some (Value.long z))) hF, ht⟩) (fun _ h => absurd h List.not_mem_nil) dX6_moths_245
                    · rw [if_pos c229] at hF
                      refine lv_lload hx hb dX6_moths_232 (lv_at hl 3 rfl) ?_
                      refine lv_lload hx hb dX6_moths_234 (lv_at hl 1 rfl) ?_
                      refine lv_ldiv hx hb dX6_moths_236 (kx_E_ne hE c207) ?_
                      refine lv_goto (tgt := 245) hx hb dX6_moths_237 (by decide) ?_
                      exact W.lret hx hb hr (fun t ht _ => ⟨congrArg (fun z => Outcome.returned (some (Value.long z))) hF, ht⟩) (fun _ h => absurd h List.not_mem_nil) dX6_moths_245
                  | succ j203 ih =>
                    intro ex ey hrj hE hF ls hl
                    rw [fX6_moths_L203] at hF
                    refine lv_lload hx hb dX6_moths_203 (lv_at hl 0 rfl) ?_
                    refine lv_lconst (v := 0) hx hb dX6_moths_205 rfl ?_
                    refine W.lcmp hx hb dX6_moths_206 ?_
                    refine lv_if_eq (tgt := 228) hx hb dX6_moths_207 (by decide) (fun c207 => ?_) (fun c207 => ?_)
                    · rw [if_pos c207] at hF
                      refine lv_iload_n hx hb dX6_moths_228 rfl (lv_at hl 9 rfl) ?_
                      refine lv_if_ne (tgt := 240) hx hb dX6_moths_229 (by decide) (fun c229 => ?_) (fun c229 => ?_)
                      · rw [if_neg c229] at hF
                        refine lv_lload hx hb dX6_moths_240 (lv_at hl 2 rfl) ?_
                        refine lv_lload hx hb dX6_moths_242 (lv_at hl 1 rfl) ?_
                        refine lv_ldiv hx hb dX6_moths_244 (kx_E_ne hE c207) ?_
                        exact W.lret hx hb hr (fun t ht _ => ⟨congrArg (fun z => Outcome.returned (some (Value.long z))) hF, ht⟩) (fun _ h => absurd h List.not_mem_nil) dX6_moths_245
                      · rw [if_pos c229] at hF
                        refine lv_lload hx hb dX6_moths_232 (lv_at hl 3 rfl) ?_
                        refine lv_lload hx hb dX6_moths_234 (lv_at hl 1 rfl) ?_
                        refine lv_ldiv hx hb dX6_moths_236 (kx_E_ne hE c207) ?_
                        refine lv_goto (tgt := 245) hx hb dX6_moths_237 (by decide) ?_
                        exact W.lret hx hb hr (fun t ht _ => ⟨congrArg (fun z => Outcome.returned (some (Value.long z))) hF, ht⟩) (fun _ h => absurd h List.not_mem_nil) dX6_moths_245
                    · rw [if_neg c207] at hF
                      refine lv_lload hx hb dX6_moths_210 (lv_at hl 1 rfl) ?_
                      refine lv_lload hx hb dX6_moths_212 (lv_at hl 0 rfl) ?_
                      refine lv_lrem hx hb dX6_moths_214 (fun z9 => c207 (by rw [z9]; rfl)) ?_
                      refine lv_lstore (lv' := [(14, .long (ex - ex / ey * ey)), (12, .long ey), (10, .long ex), (8, .long lw), (6, .long up), (5, .int gx), (4, .int al), (0, .ref hm), (1, .int se), (2, .int te), (3, .int pa)]) hx hb dX6_moths_215 hl (by decide) rfl (fun ls hl => ?_)
                      refine lv_lload hx hb dX6_moths_217 (lv_at hl 1 rfl) ?_
                      refine lv_lstore (lv' := [(10, .long ey), (14, .long (ex - ex / ey * ey)), (12, .long ey), (8, .long lw), (6, .long up), (5, .int gx), (4, .int al), (0, .ref hm), (1, .int se), (2, .int te), (3, .int pa)]) hx hb dX6_moths_219 hl (by decide) rfl (fun ls hl => ?_)
                      refine lv_lload hx hb dX6_moths_221 (lv_at hl 1 rfl) ?_
                      refine lv_lstore (lv' := [(12, .long (ex - ex / ey * ey)), (10, .long ey), (14, .long (ex - ex / ey * ey)), (8, .long lw), (6, .long up), (5, .int gx), (4, .int al), (0, .ref hm), (1, .int se), (2, .int te), (3, .int pa)]) hx hb dX6_moths_223 hl (by decide) rfl (fun ls hl => ?_)
                      refine lv_goto (tgt := 203) hx hb dX6_moths_225 (by decide) ?_
                      exact ih ey (ex - ex / ey * ey) (by omega) (kx_E_step hE c207) hF _ (lv_sub hl [0, 1, 3, 4, 5, 6, 7, 8, 9, 10] rfl)
                exact LP203 lw.toInt.toNat up lw (by omega) (by rw [eup, elw]; first | exact hE1 | exact hE2) hF _ (lv_sub hl [0, 1, 2, 3, 4, 5, 6, 7, 8, 9] rfl)
            · rw [if_neg c150] at hF
              refine lv_ldc2 hx hb hown (hts (.constantLong RX6 144 (-1000000000000000003)) (by decide +kernel)) dX6_moths_153 ?_
              exact W.lret hx hb hr (fun t ht _ => ⟨congrArg (fun z => Outcome.returned (some (Value.long z))) hF, ht⟩) (fun _ h => absurd h List.not_mem_nil) dX6_moths_156
          | succ j62 ih =>
            intro al gx hrj hz62 ls hl
            rw [pk_m1] at hl
            rw [fX6_moths_L62] at hz62
            refine lv_iload hx hb dX6_moths_62 (lv_at hl 0 rfl) ?_
            refine lv_if_lt (tgt := 143) hx hb dX6_moths_64 (by decide) (fun c64 => absurd c64 (nI_pos (by omega))) (fun c64 => ?_)
            refine lv_iload hx hb dX6_moths_67 (lv_at hl 2 rfl) ?_
            refine lv_iload hx hb dX6_moths_69 (lv_at hl 0 rfl) ?_
            refine kx_cS (As := [.int al, .int (nI j62)]) (rest := []) ⟨hx, hb, hml, hown, hts⟩ (c_X6_has l dC dI cyI cyZ  al (nI j62)  _ rfl) (va_cwS 2 hts gX6_moths_X6_has rfl rfl rfl (by decide +kernel) ⟨Nat.le_of_ble_eq_true rfl, Nat.le_of_ble_eq_true rfl⟩) hP hK hN [] rfl [0, 1] rfl rfl hl.1 rfl (Nat.le_of_ble_eq_true rfl) dX6_moths_71 ⟨Nat.zero_le _, Nat.zero_le _⟩ ?_
            refine lv_if_eq (tgt := 137) hx hb dX6_moths_74 (by decide) (fun c74 => ?_) (fun c74 => ?_)
            · rw [if_pos c74] at hz62
              refine lv_iinc (v := ((nI j62) + (-1))) (lv' := [(6, .int ((nI j62) + (-1))), (5, .int gx), (4, .int al), (0, .ref hm), (1, .int se), (2, .int te), (3, .int pa)]) hx hb dX6_moths_137 hl (k := 0) rfl rfl (by decide) rfl (fun ls hl => ?_)
              refine lv_goto (tgt := 62) hx hb dX6_moths_140 (by decide) ?_
              exact ih al gx (by omega)  hz62 _ (lv_sub hl [0, 1, 2, 3, 4, 5, 6] rfl)
            · rw [if_neg c74] at hz62
              refine lv_iload hx hb dX6_moths_77 (lv_at hl 2 rfl) ?_
              refine lv_aload_n hx hb dX6_moths_79 rfl (lv_at hl 3 rfl) ?_
              refine va_get (D := (dC, dI)) (ci := 6) (v := .ref mb) (C := RX6) (T := TX6) (N := 15) hx hb hts hiX6 hown hK hP 0 rfl rfl 0 (by decide) fl7 (fun _ h9 => h9) rfl dX6_moths_80 ?_
              refine lv_bipush (v := (48 : Int32)) hx hb dX6_moths_83 (by decide) ?_
              refine lv_iload hx hb dX6_moths_85 (lv_at hl 0 rfl) ?_
              refine lv_iadd hx hb dX6_moths_87 ?_
              refine kx_e (nI_add (48) (j62)) ?_
              refine kx_ld hx hb hK hP 1 0 rfl rfl (48 + j62) rfl (by omega) (by decide) dX6_moths_88 ?_
              refine lv_if_lt (tgt := 107) hx hb dX6_moths_89 (by decide) (fun c89 => ?_) (fun c89 => ?_)
              · rw [if_pos c89] at hz62
                refine lv_iconst (v := (0 : Int32)) hx hb dX6_moths_107 (by decide) ?_
                refine lv_ior hx hb dX6_moths_108 ?_
                refine lv_istore (lv' := [(4, .int (al ||| (0 : Int32))), (6, .int (nI j62)), (5, .int gx), (0, .ref hm), (1, .int se), (2, .int te), (3, .int pa)]) hx hb dX6_moths_109 hl (by decide) rfl (fun ls hl => ?_)
                refine lv_iload hx hb dX6_moths_111 (lv_at hl 2 rfl) ?_
                refine lv_if_ne (tgt := 130) hx hb dX6_moths_113 (by decide) (fun c113 => ?_) (fun c113 => ?_)
                · rw [if_neg c113] at hz62
                  refine lv_iconst (v := (1 : Int32)) hx hb dX6_moths_130 (by decide) ?_
                  refine lv_goto (tgt := 135) hx hb dX6_moths_131 (by decide) ?_
                  refine lv_istore (lv' := [(5, .int (1 : Int32)), (4, .int (al ||| (0 : Int32))), (6, .int (nI j62)), (0, .ref hm), (1, .int se), (2, .int te), (3, .int pa)]) hx hb dX6_moths_135 hl (by decide) rfl (fun ls hl => ?_)
                  refine lv_iinc (v := ((nI j62) + (-1))) (lv' := [(6, .int ((nI j62) + (-1))), (5, .int (1 : Int32)), (4, .int (al ||| (0 : Int32))), (0, .ref hm), (1, .int se), (2, .int te), (3, .int pa)]) hx hb dX6_moths_137 hl (k := 2) rfl rfl (by decide) rfl (fun ls hl => ?_)
                  refine lv_goto (tgt := 62) hx hb dX6_moths_140 (by decide) ?_
                  exact ih (al ||| (0 : Int32)) (1 : Int32) (by omega)  hz62 _ (lv_sub hl [0, 1, 2, 3, 4, 5, 6] rfl)
                · rw [if_pos c113] at hz62
                  refine lv_aload_n hx hb dX6_moths_116 rfl (lv_at hl 3 rfl) ?_
                  refine va_get (D := (dC, dI)) (ci := 6) (v := .ref mb) (C := RX6) (T := TX6) (N := 15) hx hb hts hiX6 hown hK hP 0 rfl rfl 0 (by decide) fl7 (fun _ h9 => h9) rfl dX6_moths_117 ?_
                  refine lv_bipush (v := (72 : Int32)) hx hb dX6_moths_120 (by decide) ?_
                  refine lv_iload hx hb dX6_moths_122 (lv_at hl 1 rfl) ?_
                  refine lv_iadd hx hb dX6_moths_124 ?_
                  refine kx_e (nI_add (72) (j62)) ?_
                  refine kx_ld hx hb hK hP 1 0 rfl rfl (72 + j62) rfl (by omega) (by decide) dX6_moths_125 ?_
                  refine lv_iconst (v := (1 : Int32)) hx hb dX6_moths_126 (by decide) ?_
                  refine lv_icmp_ne (tgt := 134) hx hb dX6_moths_127 (by decide) (fun c127 => ?_) (fun c127 => ?_)
                  · rw [if_neg c127] at hz62
                    refine lv_iconst (v := (0 : Int32)) hx hb dX6_moths_134 (by decide) ?_
                    refine lv_istore (lv' := [(5, .int (0 : Int32)), (4, .int (al ||| (0 : Int32))), (6, .int (nI j62)), (0, .ref hm), (1, .int se), (2, .int te), (3, .int pa)]) hx hb dX6_moths_135 hl (by decide) rfl (fun ls hl => ?_)
                    refine lv_iinc (v := ((nI j62) + (-1))) (lv' := [(6, .int ((nI j62) + (-1))), (5, .int (0 : Int32)), (4, .int (al ||| (0 : Int32))), (0, .ref hm), (1, .int se), (2, .int te), (3, .int pa)]) hx hb dX6_moths_137 hl (k := 2) rfl rfl (by decide) rfl (fun ls hl => ?_)
                    refine lv_goto (tgt := 62) hx hb dX6_moths_140 (by decide) ?_
                    exact ih (al ||| (0 : Int32)) (0 : Int32) (by omega)  hz62 _ (lv_sub hl [0, 1, 2, 3, 4, 5, 6] rfl)
                  · rw [if_pos c127] at hz62
                    refine lv_iconst (v := (1 : Int32)) hx hb dX6_moths_130 (by decide) ?_
                    refine lv_goto (tgt := 135) hx hb dX6_moths_131 (by decide) ?_
                    refine lv_istore (lv' := [(5, .int (1 : Int32)), (4, .int (al ||| (0 : Int32))), (6, .int (nI j62)), (0, .ref hm), (1, .int se), (2, .int te), (3, .int pa)]) hx hb dX6_moths_135 hl (by decide) rfl (fun ls hl => ?_)
                    refine lv_iinc (v := ((nI j62) + (-1))) (lv' := [(6, .int ((nI j62) + (-1))), (5, .int (1 : Int32)), (4, .int (al ||| (0 : Int32))), (0, .ref hm), (1, .int se), (2, .int te), (3, .int pa)]) hx hb dX6_moths_137 hl (k := 2) rfl rfl (by decide) rfl (fun ls hl => ?_)
                    refine lv_goto (tgt := 62) hx hb dX6_moths_140 (by decide) ?_
                    exact ih (al ||| (0 : Int32)) (1 : Int32) (by omega)  hz62 _ (lv_sub hl [0, 1, 2, 3, 4, 5, 6] rfl)
              · rw [if_neg c89] at hz62
                refine lv_iconst (v := (1 : Int32)) hx hb dX6_moths_92 (by decide) ?_
                refine lv_aload_n hx hb dX6_moths_93 rfl (lv_at hl 3 rfl) ?_
                refine va_get (D := (dC, dI)) (ci := 6) (v := .ref mb) (C := RX6) (T := TX6) (N := 15) hx hb hts hiX6 hown hK hP 0 rfl rfl 0 (by decide) fl7 (fun _ h9 => h9) rfl dX6_moths_94 ?_
                refine lv_bipush (v := (48 : Int32)) hx hb dX6_moths_97 (by decide) ?_
                refine lv_iload hx hb dX6_moths_99 (lv_at hl 0 rfl) ?_
                refine lv_iadd hx hb dX6_moths_101 ?_
                refine kx_e (nI_add (48) (j62)) ?_
                refine kx_ld hx hb hK hP 1 0 rfl rfl (48 + j62) rfl (by omega) (by decide) dX6_moths_102 ?_
                refine lv_ishl hx hb dX6_moths_103 ?_
                refine lv_goto (tgt := 108) hx hb dX6_moths_104 (by decide) ?_
                refine lv_ior hx hb dX6_moths_108 ?_
                refine lv_istore (lv' := [(4, .int (al ||| ((1 : Int32) <<< ((bk (48 + j62)) &&& 31)))), (6, .int (nI j62)), (5, .int gx), (0, .ref hm), (1, .int se), (2, .int te), (3, .int pa)]) hx hb dX6_moths_109 hl (by decide) rfl (fun ls hl => ?_)
                refine lv_iload hx hb dX6_moths_111 (lv_at hl 2 rfl) ?_
                refine lv_if_ne (tgt := 130) hx hb dX6_moths_113 (by decide) (fun c113 => ?_) (fun c113 => ?_)
                · rw [if_neg c113] at hz62
                  refine lv_iconst (v := (1 : Int32)) hx hb dX6_moths_130 (by decide) ?_
                  refine lv_goto (tgt := 135) hx hb dX6_moths_131 (by decide) ?_
                  refine lv_istore (lv' := [(5, .int (1 : Int32)), (4, .int (al ||| ((1 : Int32) <<< ((bk (48 + j62)) &&& 31)))), (6, .int (nI j62)), (0, .ref hm), (1, .int se), (2, .int te), (3, .int pa)]) hx hb dX6_moths_135 hl (by decide) rfl (fun ls hl => ?_)
                  refine lv_iinc (v := ((nI j62) + (-1))) (lv' := [(6, .int ((nI j62) + (-1))), (5, .int (1 : Int32)), (4, .int (al ||| ((1 : Int32) <<< ((bk (48 + j62)) &&& 31)))), (0, .ref hm), (1, .int se), (2, .int te), (3, .int pa)]) hx hb dX6_moths_137 hl (k := 2) rfl rfl (by decide) rfl (fun ls hl => ?_)
                  refine lv_goto (tgt := 62) hx hb dX6_moths_140 (by decide) ?_
                  exact ih (al ||| ((1 : Int32) <<< ((bk (48 + j62)) &&& 31))) (1 : Int32) (by omega)  hz62 _ (lv_sub hl [0, 1, 2, 3, 4, 5, 6] rfl)
                · rw [if_pos c113] at hz62
                  refine lv_aload_n hx hb dX6_moths_116 rfl (lv_at hl 3 rfl) ?_
                  refine va_get (D := (dC, dI)) (ci := 6) (v := .ref mb) (C := RX6) (T := TX6) (N := 15) hx hb hts hiX6 hown hK hP 0 rfl rfl 0 (by decide) fl7 (fun _ h9 => h9) rfl dX6_moths_117 ?_
                  refine lv_bipush (v := (72 : Int32)) hx hb dX6_moths_120 (by decide) ?_
                  refine lv_iload hx hb dX6_moths_122 (lv_at hl 1 rfl) ?_
                  refine lv_iadd hx hb dX6_moths_124 ?_
                  refine kx_e (nI_add (72) (j62)) ?_
                  refine kx_ld hx hb hK hP 1 0 rfl rfl (72 + j62) rfl (by omega) (by decide) dX6_moths_125 ?_
                  refine lv_iconst (v := (1 : Int32)) hx hb dX6_moths_126 (by decide) ?_
                  refine lv_icmp_ne (tgt := 134) hx hb dX6_moths_127 (by decide) (fun c127 => ?_) (fun c127 => ?_)
                  · rw [if_neg c127] at hz62
                    refine lv_iconst (v := (0 : Int32)) hx hb dX6_moths_134 (by decide) ?_
                    refine lv_istore (lv' := [(5, .int (0 : Int32)), (4, .int (al ||| ((1 : Int32) <<< ((bk (48 + j62)) &&& 31)))), (6, .int (nI j62)), (0, .ref hm), (1, .int se), (2, .int te), (3, .int pa)]) hx hb dX6_moths_135 hl (by decide) rfl (fun ls hl => ?_)
                    refine lv_iinc (v := ((nI j62) + (-1))) (lv' := [(6, .int ((nI j62) + (-1))), (5, .int (0 : Int32)), (4, .int (al ||| ((1 : Int32) <<< ((bk (48 + j62)) &&& 31)))), (0, .ref hm), (1, .int se), (2, .int te), (3, .int pa)]) hx hb dX6_moths_137 hl (k := 2) rfl rfl (by decide) rfl (fun ls hl => ?_)
                    refine lv_goto (tgt := 62) hx hb dX6_moths_140 (by decide) ?_
                    exact ih (al ||| ((1 : Int32) <<< ((bk (48 + j62)) &&& 31))) (0 : Int32) (by omega)  hz62 _ (lv_sub hl [0, 1, 2, 3, 4, 5, 6] rfl)
                  · rw [if_pos c127] at hz62
                    refine lv_iconst (v := (1 : Int32)) hx hb dX6_moths_130 (by decide) ?_
                    refine lv_goto (tgt := 135) hx hb dX6_moths_131 (by decide) ?_
                    refine lv_istore (lv' := [(5, .int (1 : Int32)), (4, .int (al ||| ((1 : Int32) <<< ((bk (48 + j62)) &&& 31)))), (6, .int (nI j62)), (0, .ref hm), (1, .int se), (2, .int te), (3, .int pa)]) hx hb dX6_moths_135 hl (by decide) rfl (fun ls hl => ?_)
                    refine lv_iinc (v := ((nI j62) + (-1))) (lv' := [(6, .int ((nI j62) + (-1))), (5, .int (1 : Int32)), (4, .int (al ||| ((1 : Int32) <<< ((bk (48 + j62)) &&& 31)))), (0, .ref hm), (1, .int se), (2, .int te), (3, .int pa)]) hx hb dX6_moths_137 hl (k := 2) rfl rfl (by decide) rfl (fun ls hl => ?_)
                    refine lv_goto (tgt := 62) hx hb dX6_moths_140 (by decide) ?_
                    exact ih (al ||| ((1 : Int32) <<< ((bk (48 + j62)) &&& 31))) (1 : Int32) (by omega)  hz62 _ (lv_sub hl [0, 1, 2, 3, 4, 5, 6] rfl)
        exact LP62 (mN bk) se (0 : Int32) (by omega)  hz62 _ (lv_sub hl [0, 1, 2, 3, 4, 5, 6] rfl)
      · rw [if_pos c38] at hF
        refine lv_ldc2 hx hb hown (hts (.constantLong RX6 142 (-1000000000000000002)) (by decide +kernel)) dX6_moths_41 ?_
        exact W.lret hx hb hr (fun t ht _ => ⟨congrArg (fun z => Outcome.returned (some (Value.long z))) hF, ht⟩) (fun _ h => absurd h List.not_mem_nil) dX6_moths_44
  · rw [if_neg c15] at hF
    refine lv_ldc2 hx hb hown (hts (.constantLong RX6 140 (-1000000000000000001)) (by decide +kernel)) dX6_moths_18 ?_
    exact W.lret hx hb hr (fun t ht _ => ⟨congrArg (fun z => Outcome.returned (some (Value.long z))) hF, ht⟩) (fun _ h => absurd h List.not_mem_nil) dX6_moths_21
