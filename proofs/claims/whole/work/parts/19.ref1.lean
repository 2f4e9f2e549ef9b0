def fX6_in (x : Int32) (lo : Int32) (hi : Int32) : Int32 :=
  (if x < lo then (0 : Int32) else (if hi < x then (0 : Int32) else (1 : Int32)))
theorem nz_X6_in (x : Int32) (lo : Int32) (hi : Int32) : narrow .boolean (.int (fX6_in x lo hi)) = .int (fX6_in x lo hi) := by
  unfold fX6_in
  (repeat' split) <;> first | rfl
set_option maxHeartbeats 4000000 in
set_option maxRecDepth 100000 in
theorem c_X6_in (l : Launch) (dC : Nat → ClassId) (dI : Nat → Nat → Nat) (cyI cyZ : ClassId)  (x : Int32) (lo : Int32) (hi : Int32) (r : Int32) (hF : fX6_in x lo hi = r) : Met l yX6_in wsX6_in ({ frames := 0, cells := 0, slots := 0, locals := 0 }) (kx_rp (dC, dI) [] [(cyI, .int), (cyZ, .boolean)] [.int x, .int lo, .int hi]) (k2_QcV (.int r)) 0 0 (fun _ => False) := by
  refine Met.ofW (cc := cX6_in) (maxL := 3) (ret := (some .boolean)) (by decide) rfl ?_
  intro p e s m args below meth c s₁ B hml hv
  obtain ⟨rfl, hP, hK, hN⟩ := hv
  have hx := B.exec
  have hb := B.bytes
  have hr := B.returns
  have hts := atoms_spec (ws := wsX6_in) B.pre
  have hown : s.vm.findClass RX6 = some m.cls := findClass_of_methodNamed B.named
  have hlocks := B.notSynchronized
  have hl := lv_entry ([.int x, .int lo, .int hi]) (n := 3) (Nat.le_of_ble_eq_true rfl)
  rw [lg_entry_eq]
  generalize (lg_sl ([.int x, .int lo, .int hi]) ++ List.replicate (3 - (lg_sl ([.int x, .int lo, .int hi])).length) Slot.unset).toArray = ls at hl ⊢
  have hl : lv_has ls 3 [(0, .int x), (1, .int lo), (2, .int hi)] := hl
  unfold fX6_in at hF
  refine lv_iload_n hx hb dX6_in_0 rfl (lv_at hl 0 rfl) ?_
  refine lv_iload_n hx hb dX6_in_1 rfl (lv_at hl 1 rfl) ?_
  refine lv_icmp_lt (tgt := 14) hx hb dX6_in_2 (by decide) (fun c2 => ?_) (fun c2 => ?_)
  · rw [if_pos c2] at hF
    refine lv_iconst (v := (0 : Int32)) hx hb dX6_in_14 (by decide) ?_
    exact W.zret hx hb hr rfl (fun t ht _ => ⟨congrArg (fun z => Outcome.returned (some (Value.int z))) hF, ht⟩) (fun _ h => absurd h List.not_mem_nil) dX6_in_15
  · rw [if_neg c2] at hF
    refine lv_iload_n hx hb dX6_in_5 rfl (lv_at hl 0 rfl) ?_
    refine lv_iload_n hx hb dX6_in_6 rfl (lv_at hl 2 rfl) ?_
    refine lv_icmp_gt (tgt := 14) hx hb dX6_in_7 (by decide) (fun c7 => ?_) (fun c7 => ?_)
    · rw [if_pos c7] at hF
      refine lv_iconst (v := (0 : Int32)) hx hb dX6_in_14 (by decide) ?_
      exact W.zret hx hb hr rfl (fun t ht _ => ⟨congrArg (fun z => Outcome.returned (some (Value.int z))) hF, ht⟩) (fun _ h => absurd h List.not_mem_nil) dX6_in_15
    · rw [if_neg c7] at hF
      refine lv_iconst (v := (1 : Int32)) hx hb dX6_in_10 (by decide) ?_
      refine lv_goto (tgt := 15) hx hb dX6_in_11 (by decide) ?_
      exact W.zret hx hb hr rfl (fun t ht _ => ⟨congrArg (fun z => Outcome.returned (some (Value.int z))) hF, ht⟩) (fun _ h => absurd h List.not_mem_nil) dX6_in_15

def fX6_has (se : Int32) (k : Int32) : Int32 :=
  (if ((se >>> (k &&& 31)) &&& (1 : Int32)) = (1 : Int32) then (1 : Int32) else (0 : Int32))
theorem nz_X6_has (se : Int32) (k : Int32) : narrow .boolean (.int (fX6_has se k)) = .int (fX6_has se k) := by
  unfold fX6_has
  (repeat' split) <;> first | rfl
set_option maxHeartbeats 4000000 in
set_option maxRecDepth 100000 in
theorem c_X6_has (l : Launch) (dC : Nat → ClassId) (dI : Nat → Nat → Nat) (cyI cyZ : ClassId)  (se : Int32) (k : Int32) (r : Int32) (hF : fX6_has se k = r) : Met l yX6_has wsX6_has ({ frames := 0, cells := 0, slots := 0, locals := 0 }) (kx_rp (dC, dI) [] [(cyI, .int), (cyZ, .boolean)] [.int se, .int k]) (k2_QcV (.int r)) 0 0 (fun _ => False) := by
  refine Met.ofW (cc := cX6_has) (maxL := 2) (ret := (some .boolean)) (by decide) rfl ?_
  intro p e s m args below meth c s₁ B hml hv
  obtain ⟨rfl, hP, hK, hN⟩ := hv
  have hx := B.exec
  have hb := B.bytes
  have hr := B.returns
  have hts := atoms_spec (ws := wsX6_has) B.pre
  have hown : s.vm.findClass RX6 = some m.cls := findClass_of_methodNamed B.named
  have hlocks := B.notSynchronized
  have hl := lv_entry ([.int se, .int k]) (n := 2) (Nat.le_of_ble_eq_true rfl)
  rw [lg_entry_eq]
  generalize (lg_sl ([.int se, .int k]) ++ List.replicate (2 - (lg_sl ([.int se, .int k])).length) Slot.unset).toArray = ls at hl ⊢
  have hl : lv_has ls 2 [(0, .int se), (1, .int k)] := hl
  unfold fX6_has at hF
  refine lv_iload_n hx hb dX6_has_0 rfl (lv_at hl 0 rfl) ?_
  refine lv_iload_n hx hb dX6_has_1 rfl (lv_at hl 1 rfl) ?_
  refine lv_ishr hx hb dX6_has_2 ?_
  refine lv_iconst (v := (1 : Int32)) hx hb dX6_has_3 (by decide) ?_
  refine lv_iand hx hb dX6_has_4 ?_
  refine lv_iconst (v := (1 : Int32)) hx hb dX6_has_5 (by decide) ?_
  refine lv_icmp_ne (tgt := 13) hx hb dX6_has_6 (by decide) (fun c6 => ?_) (fun c6 => ?_)
  · rw [if_neg c6] at hF
    refine lv_iconst (v := (0 : Int32)) hx hb dX6_has_13 (by decide) ?_
    exact W.zret hx hb hr rfl (fun t ht _ => ⟨congrArg (fun z => Outcome.returned (some (Value.int z))) hF, ht⟩) (fun _ h => absurd h List.not_mem_nil) dX6_has_14
  · rw [if_pos c6] at hF
    refine lv_iconst (v := (1 : Int32)) hx hb dX6_has_9 (by decide) ?_
    refine lv_goto (tgt := 14) hx hb dX6_has_10 (by decide) ?_
    exact W.zret hx hb hr rfl (fun t ht _ => ⟨congrArg (fun z => Outcome.returned (some (Value.int z))) hF, ht⟩) (fun _ h => absurd h List.not_mem_nil) dX6_has_14

def fX6_bits_L4 (se : Int32) : Nat → Nat → Int32 → Int32
  | 0, _, bs => bs
  | r4 + 1, j4, bs => (fX6_bits_L4 se r4 (j4 + 1) (bs + ((se >>> ((nI j4) &&& 31)) &&& (1 : Int32))))
def fX6_bits (se : Int32) : Int32 :=
  ((fun (bs : Int32) => bs) (fX6_bits_L4 se 24 0 (0 : Int32)))
set_option maxHeartbeats 4000000 in
set_option maxRecDepth 100000 in
theorem c_X6_bits (l : Launch) (dC : Nat → ClassId) (dI : Nat → Nat → Nat) (cyI cyZ : ClassId)  (se : Int32) (r : Int32) (hF : fX6_bits se = r) : Met l yX6_bits wsX6_bits ({ frames := 0, cells := 0, slots := 0, locals := 0 }) (kx_rp (dC, dI) [] [(cyI, .int), (cyZ, .boolean)] [.int se]) (k2_QcV (.int r)) 0 0 (fun _ => False) := by
  refine Met.ofW (cc := cX6_bits) (maxL := 3) (ret := (some .int)) (by decide) rfl ?_
  intro p e s m args below meth c s₁ B hml hv
  obtain ⟨rfl, hP, hK, hN⟩ := hv
  have hx := B.exec
  have hb := B.bytes
  have hr := B.returns
  have hts := atoms_spec (ws := wsX6_bits) B.pre
  have hown : s.vm.findClass RX6 = some m.cls := findClass_of_methodNamed B.named
  have hlocks := B.notSynchronized
  have hl := lv_entry ([.int se]) (n := 3) (Nat.le_of_ble_eq_true rfl)
  rw [lg_entry_eq]
  generalize (lg_sl ([.int se]) ++ List.replicate (3 - (lg_sl ([.int se])).length) Slot.unset).toArray = ls at hl ⊢
  have hl : lv_has ls 3 [(0, .int se)] := hl
  unfold fX6_bits at hF
  refine lv_iconst (v := (0 : Int32)) hx hb dX6_bits_0 (by decide) ?_
  refine lv_istore_n (lv' := [(1, .int (0 : Int32)), (0, .int se)]) hx hb dX6_bits_1 rfl hl (by decide) rfl (fun ls hl => ?_)
  refine lv_iconst (v := (0 : Int32)) hx hb dX6_bits_2 (by decide) ?_
  refine lv_istore_n (lv' := [(2, .int (0 : Int32)), (1, .int (0 : Int32)), (0, .int se)]) hx hb dX6_bits_3 rfl hl (by decide) rfl (fun ls hl => ?_)
  generalize hz4 : fX6_bits_L4 se 24 0 (0 : Int32) = z4 at hF
  have LP4 : ∀ (r4 : Nat) (j4 : Nat) (bs : Int32), r4 + j4 = 24 → fX6_bits_L4 se r4 j4 bs = z4 → ∀ (ls : Array Slot), lv_has ls 3 [(2, .int (nI j4)), (1, .int bs), (0, .int se)] → W p l e (headSpec wsX6_bits ({ frames := 0, cells := 0, slots := 0, locals := 0 } : Room)).room s m ([.int se] : List Value).toArray below meth c s.heap [] 0 0 (MQ below (k2_QcV (.int r)) ([.int se] : List Value).toArray s 0 0 (fun _ => False)) (F0 m 4 ls []) := by
    intro r4
    induction r4 with
    | zero =>
      intro j4 bs hrj hz4 ls hl
      rw [fX6_bits_L4] at hz4
      subst hz4
      try dsimp only at hF
      refine lv_iload_n hx hb dX6_bits_4 rfl (lv_at hl 0 rfl) ?_
      refine lv_bipush (v := (24 : Int32)) hx hb dX6_bits_5 (by decide) ?_
      refine kx_ge hx hb (j4) (24) rfl rfl (by omega) (by omega) dX6_bits_7 (by decide) (tgt := 24) (fun c7 => ?_) (fun c7 => absurd c7 (by omega))
      refine lv_iload_n hx hb dX6_bits_24 rfl (lv_at hl 1 rfl) ?_
      exact W.iret hx hb hr (fun t ht _ => ⟨congrArg (fun z => Outcome.returned (some (Value.int z))) hF, ht⟩) (fun _ h => absurd h List.not_mem_nil) dX6_bits_25
    | succ r4 ih =>
      intro j4 bs hrj hz4 ls hl
      rw [fX6_bits_L4] at hz4
      refine lv_iload_n hx hb dX6_bits_4 rfl (lv_at hl 0 rfl) ?_
      refine lv_bipush (v := (24 : Int32)) hx hb dX6_bits_5 (by decide) ?_
      refine kx_ge hx hb (j4) (24) rfl rfl (by omega) (by omega) dX6_bits_7 (by decide) (tgt := 24) (fun c7 => absurd c7 (by omega)) (fun c7 => ?_)
      refine lv_iload_n hx hb dX6_bits_10 rfl (lv_at hl 1 rfl) ?_
      refine lv_iload_n hx hb dX6_bits_11 rfl (lv_at hl 2 rfl) ?_
      refine lv_iload_n hx hb dX6_bits_12 rfl (lv_at hl 0 rfl) ?_
      refine lv_ishr hx hb dX6_bits_13 ?_
      refine lv_iconst (v := (1 : Int32)) hx hb dX6_bits_14 (by decide) ?_
      refine lv_iand hx hb dX6_bits_15 ?_
      refine lv_iadd hx hb dX6_bits_16 ?_
      refine lv_istore_n (lv' := [(1, .int (bs + ((se >>> ((nI j4) &&& 31)) &&& (1 : Int32)))), (2, .int (nI j4)), (0, .int se)]) hx hb dX6_bits_17 rfl hl (by decide) rfl (fun ls hl => ?_)
      refine lv_iinc (v := (nI (j4 + 1))) (lv' := [(2, .int (nI (j4 + 1))), (1, .int (bs + ((se >>> ((nI j4) &&& 31)) &&& (1 : Int32)))), (0, .int se)]) hx hb dX6_bits_18 hl (k := 1) rfl (by exact nI_add (j4) 1) (by decide) rfl (fun ls hl => ?_)
      refine lv_goto (tgt := 4) hx hb dX6_bits_21 (by decide) ?_
      exact ih (j4 + 1) (bs + ((se >>> ((nI j4) &&& 31)) &&& (1 : Int32))) (by omega)  hz4 _ (lv_sub hl [0, 1, 2] rfl)
  exact LP4 24 0 (0 : Int32) (by omega)  hz4 _ (lv_sub hl [0, 1, 2] rfl)

def fX6_isKnitter (k : Int32) : Int32 :=
  (fX6_in k (0 : Int32) (3 : Int32))
theorem nz_X6_isKnitter (k : Int32) : narrow .boolean (.int (fX6_isKnitter k)) = .int (fX6_isKnitter k) := by
  unfold fX6_isKnitter
  (repeat' split) <;> first | rfl | exact nz_X6_in ..
set_option maxHeartbeats 4000000 in
set_option maxRecDepth 100000 in
theorem c_X6_isKnitter (l : Launch) (dC : Nat → ClassId) (dI : Nat → Nat → Nat) (cyI cyZ : ClassId)  (k : Int32) (r : Int32) (hF : fX6_isKnitter k = r) : Met l yX6_isKnitter wsX6_isKnitter ({ frames := 1, cells := 0, slots := 0, locals := 22 }) (kx_rp (dC, dI) [] [(cyI, .int), (cyZ, .boolean)] [.int k]) (k2_QcV (.int r)) 0 0 (fun _ => False) := by
  refine Met.ofW (cc := cX6_isKnitter) (maxL := 1) (ret := (some .boolean)) (by decide) rfl ?_
  intro p e s m args below meth c s₁ B hml hv
  obtain ⟨rfl, hP, hK, hN⟩ := hv
  have hx := B.exec
  have hb := B.bytes
  have hr := B.returns
  have hts := atoms_spec (ws := wsX6_isKnitter) B.pre
  have hown : s.vm.findClass RX6 = some m.cls := findClass_of_methodNamed B.named
  have hlocks := B.notSynchronized
  have hl := lv_entry ([.int k]) (n := 1) (Nat.le_of_ble_eq_true rfl)
  rw [lg_entry_eq]
  generalize (lg_sl ([.int k]) ++ List.replicate (1 - (lg_sl ([.int k])).length) Slot.unset).toArray = ls at hl ⊢
  have hl : lv_has ls 1 [(0, .int k)] := hl
  unfold fX6_isKnitter at hF
  refine lv_iload_n hx hb dX6_isKnitter_0 rfl (lv_at hl 0 rfl) ?_
  refine lv_iconst (v := (0 : Int32)) hx hb dX6_isKnitter_1 (by decide) ?_
  refine lv_iconst (v := (3 : Int32)) hx hb dX6_isKnitter_2 (by decide) ?_
  refine kx_cS (As := [.int k, .int (0 : Int32), .int (3 : Int32)]) (rest := []) ⟨hx, hb, hml, hown, hts⟩ (c_X6_in l dC dI cyI cyZ  k (0 : Int32) (3 : Int32)  _ rfl) (va_cwS 3 hts gX6_isKnitter_X6_in rfl rfl rfl (by decide +kernel) ⟨Nat.le_of_ble_eq_true rfl, Nat.le_of_ble_eq_true rfl⟩) hP hK hN [] rfl [0, 1] rfl rfl hl.1 rfl (Nat.le_of_ble_eq_true rfl) dX6_isKnitter_3 ⟨Nat.zero_le _, Nat.zero_le _⟩ ?_
  exact W.zret hx hb hr (nz_X6_in ..) (fun t ht _ => ⟨congrArg (fun z => Outcome.returned (some (Value.int z))) hF, ht⟩) (fun _ h => absurd h List.not_mem_nil) dX6_isKnitter_6

def fX6_isHand (k : Int32) : Int32 :=
  (fX6_in k (97 : Int32) (100 : Int32))
theorem nz_X6_isHand (k : Int32) : narrow .boolean (.int (fX6_isHand k)) = .int (fX6_isHand k) := by
  unfold fX6_isHand
  (repeat' split) <;> first | rfl | exact nz_X6_in ..
set_option maxHeartbeats 4000000 in
set_option maxRecDepth 100000 in
theorem c_X6_isHand (l : Launch) (dC : Nat → ClassId) (dI : Nat → Nat → Nat) (cyI cyZ : ClassId)  (k : Int32) (r : Int32) (hF : fX6_isHand k = r) : Met l yX6_isHand wsX6_isHand ({ frames := 1, cells := 0, slots := 0, locals := 22 }) (kx_rp (dC, dI) [] [(cyI, .int), (cyZ, .boolean)] [.int k]) (k2_QcV (.int r)) 0 0 (fun _ => False) := by
  refine Met.ofW (cc := cX6_isHand) (maxL := 1) (ret := (some .boolean)) (by decide) rfl ?_
  intro p e s m args below meth c s₁ B hml hv
  obtain ⟨rfl, hP, hK, hN⟩ := hv
  have hx := B.exec
  have hb := B.bytes
  have hr := B.returns
  have hts := atoms_spec (ws := wsX6_isHand) B.pre
  have hown : s.vm.findClass RX6 = some m.cls := findClass_of_methodNamed B.named
  have hlocks := B.notSynchronized
  have hl := lv_entry ([.int k]) (n := 1) (Nat.le_of_ble_eq_true rfl)
  rw [lg_entry_eq]
  generalize (lg_sl ([.int k]) ++ List.replicate (1 - (lg_sl ([.int k])).length) Slot.unset).toArray = ls at hl ⊢
  have hl : lv_has ls 1 [(0, .int k)] := hl
  unfold fX6_isHand at hF
  refine lv_iload_n hx hb dX6_isHand_0 rfl (lv_at hl 0 rfl) ?_
  refine lv_bipush (v := (97 : Int32)) hx hb dX6_isHand_1 (by decide) ?_
  refine lv_bipush (v := (100 : Int32)) hx hb dX6_isHand_3 (by decide) ?_
  refine kx_cS (As := [.int k, .int (97 : Int32), .int (100 : Int32)]) (rest := []) ⟨hx, hb, hml, hown, hts⟩ (c_X6_in l dC dI cyI cyZ  k (97 : Int32) (100 : Int32)  _ rfl) (va_cwS 3 hts gX6_isHand_X6_in rfl rfl rfl (by decide +kernel) ⟨Nat.le_of_ble_eq_true rfl, Nat.le_of_ble_eq_true rfl⟩) hP hK hN [] rfl [0, 1] rfl rfl hl.1 rfl (Nat.le_of_ble_eq_true rfl) dX6_isHand_5 ⟨Nat.zero_le _, Nat.zero_le _⟩ ?_
  exact W.zret hx hb hr (nz_X6_in ..) (fun t ht _ => ⟨congrArg (fun z => Outcome.returned (some (Value.int z))) hF, ht⟩) (fun _ h => absurd h List.not_mem_nil) dX6_isHand_8

def fX6_isLetter (k : Int32) : Int32 :=
  (fX6_in k (65 : Int32) (88 : Int32))
theorem nz_X6_isLetter (k : Int32) : narrow .boolean (.int (fX6_isLetter k)) = .int (fX6_isLetter k) := by
  unfold fX6_isLetter
  (repeat' split) <;> first | rfl | exact nz_X6_in ..
set_option maxHeartbeats 4000000 in
set_option maxRecDepth 100000 in
theorem c_X6_isLetter (l : Launch) (dC : Nat → ClassId) (dI : Nat → Nat → Nat) (cyI cyZ : ClassId)  (k : Int32) (r : Int32) (hF : fX6_isLetter k = r) : Met l yX6_isLetter wsX6_isLetter ({ frames := 1, cells := 0, slots := 0, locals := 22 }) (kx_rp (dC, dI) [] [(cyI, .int), (cyZ, .boolean)] [.int k]) (k2_QcV (.int r)) 0 0 (fun _ => False) := by
  refine Met.ofW (cc := cX6_isLetter) (maxL := 1) (ret := (some .boolean)) (by decide) rfl ?_
  intro p e s m args below meth c s₁ B hml hv
  obtain ⟨rfl, hP, hK, hN⟩ := hv
  have hx := B.exec
  have hb := B.bytes
  have hr := B.returns
  have hts := atoms_spec (ws := wsX6_isLetter) B.pre
  have hown : s.vm.findClass RX6 = some m.cls := findClass_of_methodNamed B.named
  have hlocks := B.notSynchronized
  have hl := lv_entry ([.int k]) (n := 1) (Nat.le_of_ble_eq_true rfl)
  rw [lg_entry_eq]
  generalize (lg_sl ([.int k]) ++ List.replicate (1 - (lg_sl ([.int k])).length) Slot.unset).toArray = ls at hl ⊢
  have hl : lv_has ls 1 [(0, .int k)] := hl
  unfold fX6_isLetter at hF
  refine lv_iload_n hx hb dX6_isLetter_0 rfl (lv_at hl 0 rfl) ?_
  refine lv_bipush (v := (65 : Int32)) hx hb dX6_isLetter_1 (by decide) ?_
  refine lv_bipush (v := (88 : Int32)) hx hb dX6_isLetter_3 (by decide) ?_
  refine kx_cS (As := [.int k, .int (65 : Int32), .int (88 : Int32)]) (rest := []) ⟨hx, hb, hml, hown, hts⟩ (c_X6_in l dC dI cyI cyZ  k (65 : Int32) (88 : Int32)  _ rfl) (va_cwS 3 hts gX6_isLetter_X6_in rfl rfl rfl (by decide +kernel) ⟨Nat.le_of_ble_eq_true rfl, Nat.le_of_ble_eq_true rfl⟩) hP hK hN [] rfl [0, 1] rfl rfl hl.1 rfl (Nat.le_of_ble_eq_true rfl) dX6_isLetter_5 ⟨Nat.zero_le _, Nat.zero_le _⟩ ?_
  exact W.zret hx hb hr (nz_X6_in ..) (fun t ht _ => ⟨congrArg (fun z => Outcome.returned (some (Value.int z))) hF, ht⟩) (fun _ h => absurd h List.not_mem_nil) dX6_isLetter_8

def fX6_isStitch (bk : Nat → Int32) (k : Int32) : Int32 :=
  (fX6_in k (0 : Int32) ((nI (mN bk)) + (-1)))
theorem nz_X6_isStitch (bk : Nat → Int32) (k : Int32) : narrow .boolean (.int (fX6_isStitch bk k)) = .int (fX6_isStitch bk k) := by
  unfold fX6_isStitch
  (repeat' split) <;> first | rfl | exact nz_X6_in ..
set_option maxHeartbeats 4000000 in
set_option maxRecDepth 100000 in
theorem c_X6_isStitch (l : Launch) (dC : Nat → ClassId) (dI : Nat → Nat → Nat) (cyI cyZ : ClassId) (hm mb mn mk ms mp mq mi mz ma mc : Nat) (sg : Nat) (sn : Nat) (ud : Int32) (rz : Int32) (az : Int32) (bk : Nat → Int32) (k : Int32) (hI : kx_I bk) (r : Int32) (hF : fX6_isStitch bk k = r) : Met l yX6_isStitch wsX6_isStitch ({ frames := 1, cells := 0, slots := 0, locals := 22 }) (kx_rp (dC, dI) [(hm, .inr (6, [.ref mb, .ref mn, .ref mk, .int (nI sg), .ref ms, .int (nI sn), .ref mp, .int ud, .ref mq, .int rz, .int az, .ref mi, .ref mz, .ref ma, .ref mc])), (mb, .inl (cyI, 97, .inl bk))] [(cyI, .int), (cyZ, .boolean)] [.ref hm, .int k]) (k2_QcV (.int r)) 0 0 (fun _ => False) := by
  refine Met.ofW (cc := cX6_isStitch) (maxL := 2) (ret := (some .boolean)) (by decide) rfl ?_
  intro p e s m args below meth c s₁ B hml hv
  obtain ⟨rfl, hP, hK, hN⟩ := hv
  have hx := B.exec
  have hb := B.bytes
  have hr := B.returns
  have hts := atoms_spec (ws := wsX6_isStitch) B.pre
  have hown : s.vm.findClass RX6 = some m.cls := findClass_of_methodNamed B.named
  have hlocks := B.notSynchronized
  have hiX6 : ∀ w ∈ wsX60, w ∈ wsX6_isStitch := by decide +kernel
  have fl7 := hts (.fieldLink RX6 7 "KnitChronicleModel" "book" "[I") (by decide +kernel)
  have hl := lv_entry ([.ref hm, .int k]) (n := 2) (Nat.le_of_ble_eq_true rfl)
  rw [lg_entry_eq]
  generalize (lg_sl ([.ref hm, .int k]) ++ List.replicate (2 - (lg_sl ([.ref hm, .int k])).length) Slot.unset).toArray = ls at hl ⊢
  have hl : lv_has ls 2 [(0, .ref hm), (1, .int k)] := hl
  unfold fX6_isStitch at hF
  have hmN := hI.2.1
  refine lv_iload_n hx hb dX6_isStitch_0 rfl (lv_at hl 1 rfl) ?_
  refine lv_iconst (v := (0 : Int32)) hx hb dX6_isStitch_1 (by decide) ?_
  refine lv_aload_n hx hb dX6_isStitch_2 rfl (lv_at hl 0 rfl) ?_
  refine va_get (D := (dC, dI)) (ci := 6) (v := .ref mb) (C := RX6) (T := TX6) (N := 15) hx hb hts hiX6 hown hK hP 0 rfl rfl 0 (by decide) fl7 (fun _ h9 => h9) rfl dX6_isStitch_3 ?_
  refine lv_bipush (v := (96 : Int32)) hx hb dX6_isStitch_6 (by decide) ?_
  refine kx_ld hx hb hK hP 1 0 rfl rfl (96) rfl (by omega) (by decide) dX6_isStitch_8 ?_
  refine kx_e hI.1 ?_
  refine lv_iconst (v := (1 : Int32)) hx hb dX6_isStitch_9 (by decide) ?_
  refine lv_isub hx hb dX6_isStitch_10 ?_
  refine kx_e (kx_sub1 (mN bk)) ?_
  refine kx_cS (As := [.int k, .int (0 : Int32), .int ((nI (mN bk)) + (-1))]) (rest := []) ⟨hx, hb, hml, hown, hts⟩ (c_X6_in l dC dI cyI cyZ  k (0 : Int32) ((nI (mN bk)) + (-1))  _ rfl) (va_cwS 3 hts gX6_isStitch_X6_in rfl rfl rfl (by decide +kernel) ⟨Nat.le_of_ble_eq_true rfl, Nat.le_of_ble_eq_true rfl⟩) hP hK hN [] rfl [0, 1] rfl rfl hl.1 rfl (Nat.le_of_ble_eq_true rfl) dX6_isStitch_11 ⟨Nat.zero_le _, Nat.zero_le _⟩ ?_
  exact W.zret hx hb hr (nz_X6_in ..) (fun t ht _ => ⟨congrArg (fun z => Outcome.returned (some (Value.int z))) hF, ht⟩) (fun _ h => absurd h List.not_mem_nil) dX6_isStitch_14

theorem fX6_in_P {x : Int32} (a b : Nat) (ha : a < 2 ^ 31) (hb : b < 2 ^ 31) (h : ¬ fX6_in x (nI a) (nI b) = 0) : x = nI x.toNatClampNeg ∧ a ≤ x.toNatClampNeg ∧ x.toNatClampNeg ≤ b := by
  unfold fX6_in at h
  by_cases c1 : x < nI a
  · rw [if_pos c1] at h; exact absurd rfl h
  · rw [if_neg c1] at h
    by_cases c2 : nI b < x
    · rw [if_pos c2] at h; exact absurd rfl h
    · by_cases c0 : x < 0
      · exfalso
        apply c1
        have h1 : x.toInt < 0 := Int32.lt_iff_toInt_lt.mp c0
        refine Int32.lt_iff_toInt_lt.mpr ?_
        rw [nI_toInt ha]; omega
      · obtain ⟨j, hj, rfl⟩ := nI_of c0
        rw [nI_clamp hj]
        exact ⟨rfl, Nat.le_of_not_lt (fun q => c1 ((nI_ltI hj ha).mpr q)), Nat.le_of_not_lt (fun q => c2 ((nI_ltI hb hj).mpr q))⟩
theorem fX6_isStitch_P {bk : Nat → Int32} {k : Int32} (hI : kx_I bk) (h : ¬ fX6_isStitch bk k = 0) : k = nI k.toNatClampNeg ∧ k.toNatClampNeg < mN bk := by
  have hm := hI.2.1
  unfold fX6_isStitch fX6_in at h
  by_cases c1 : k < (0 : Int32)
  · rw [if_pos c1] at h; exact absurd rfl h
  · rw [if_neg c1] at h
    by_cases c2 : nI (mN bk) + (-1) < k
    · rw [if_pos c2] at h; exact absurd rfl h
    · obtain ⟨j, hj, rfl⟩ := nI_of c1
      rw [nI_clamp hj]
      refine ⟨rfl, ?_⟩
      rcases Nat.eq_zero_or_pos (mN bk) with q | q
      · exfalso; apply c2; rw [q]
        refine Int32.lt_iff_toInt_lt.mpr ?_
        rw [nI_toInt hj]
        have : (nI 0 + (-1)).toInt = -1 := by decide
        omega
      · obtain ⟨w, hw⟩ : ∃ w, mN bk = w + 1 := ⟨mN bk - 1, by omega⟩
        rw [hw, pk_m1] at c2
        rw [hw]
        exact Nat.lt_of_not_le (fun q => c2 ((nI_ltI (by omega) hj).mpr q))

def fX6_stitch (bk : Nat → Int32) (kcl : Int32) (ktt : Int32) (kha : Int32) : Int32 × (Nat → Int32) :=
  (if kha = (-1 : Int32) then (if (fX6_in kcl (0 : Int32) (3 : Int32)) = 0 then ((-2 : Int32), bk) else (if (fX6_in ktt (0 : Int32) (9 : Int32)) = 0 then ((-2 : Int32), bk) else (if mN bk = 24 then ((-4 : Int32), bk) else (if 0 ≤ kha then ((nI (mN bk + 1)), (upd (upd (upd (upd (upd bk (mN bk) kcl) (24 + (mN bk)) ktt) (48 + (mN bk)) kha) (72 + (mN bk)) (0 : Int32)) 96 (nI (mN bk + 1)))) else ((nI (mN bk + 1)), (upd (upd (upd (upd (upd bk (mN bk) kcl) (24 + (mN bk)) ktt) (48 + (mN bk)) (-6 : Int32)) (72 + (mN bk)) (0 : Int32)) 96 (nI (mN bk + 1)))))))) else (if (fX6_isStitch bk kha) = 0 then ((-1 : Int32), bk) else (if (fX6_in kcl (0 : Int32) (3 : Int32)) = 0 then ((-2 : Int32), bk) else (if (fX6_in ktt (0 : Int32) (9 : Int32)) = 0 then ((-2 : Int32), bk) else (if mN bk = 24 then ((-4 : Int32), bk) else (if 0 ≤ kha then ((nI (mN bk + 1)), (upd (upd (upd (upd (upd bk (mN bk) kcl) (24 + (mN bk)) ktt) (48 + (mN bk)) kha) (72 + (mN bk)) (0 : Int32)) 96 (nI (mN bk + 1)))) else ((nI (mN bk + 1)), (upd (upd (upd (upd (upd bk (mN bk) kcl) (24 + (mN bk)) ktt) (48 + (mN bk)) (-6 : Int32)) (72 + (mN bk)) (0 : Int32)) 96 (nI (mN bk + 1))))))))))
set_option maxHeartbeats 4000000 in
set_option maxRecDepth 100000 in
theorem c_X6_stitch (l : Launch) (dC : Nat → ClassId) (dI : Nat → Nat → Nat) (cyI cyZ : ClassId) (hm mb mn mk ms mp mq mi mz ma mc : Nat) (sg : Nat) (sn : Nat) (ud : Int32) (rz : Int32) (az : Int32) (bk : Nat → Int32) (kcl : Int32) (ktt : Int32) (kha : Int32) (hI : kx_I bk) (sz : Nat) (r : Int32 × (Nat → Int32)) (hF : fX6_stitch bk kcl ktt kha = r) : Met l yX6_stitch wsX6_stitch ({ frames := 2, cells := 0, slots := 0, locals := 43 }) (kx_wp (dC, dI) [(hm, .inr (6, [.ref mb, .ref mn, .ref mk, .int (nI sg), .ref ms, .int (nI sn), .ref mp, .int ud, .ref mq, .int rz, .int az, .ref mi, .ref mz, .ref ma, .ref mc])), (mb, .inl (cyI, 97, .inl bk))] [(cyI, .int), (cyZ, .boolean)] sz [.ref hm, .int kcl, .int ktt, .int kha]) (kx_Qi r.1 (dC, dI) [(hm, .inr (6, [.ref mb, .ref mn, .ref mk, .int (nI sg), .ref ms, .int (nI sn), .ref mp, .int ud, .ref mq, .int rz, .int az, .ref mi, .ref mz, .ref ma, .ref mc])), (mb, .inl (cyI, 97, .inl bk))] [(hm, .inr (6, [.ref mb, .ref mn, .ref mk, .int (nI sg), .ref ms, .int (nI sn), .ref mp, .int ud, .ref mq, .int rz, .int az, .ref mi, .ref mz, .ref ma, .ref mc])), (mb, .inl (cyI, 97, .inl r.2))] sz) 0 0 (va_A [(hm, .inr (6, [.ref mb, .ref mn, .ref mk, .int (nI sg), .ref ms, .int (nI sn), .ref mp, .int ud, .ref mq, .int rz, .int az, .ref mi, .ref mz, .ref ma, .ref mc])), (mb, .inl (cyI, 97, .inl bk))] sz) := by
  refine Met.ofW (cc := cX6_stitch) (maxL := 5) (ret := (some .int)) (by decide) rfl ?_
  intro p e s m args below meth c s₁ B hml hv
  obtain ⟨rfl, hsz, hP, hK, hN, hD0⟩ := hv
  have hx := B.exec
  have hb := B.bytes
  have hr := B.returns
  have hts := atoms_spec (ws := wsX6_stitch) B.pre
  have hown : s.vm.findClass RX6 = some m.cls := findClass_of_methodNamed B.named
  have hlocks := B.notSynchronized
  subst hsz
  obtain ⟨A, hAe⟩ : ∃ A, A = va_A [(hm, .inr (6, [.ref mb, .ref mn, .ref mk, .int (nI sg), .ref ms, .int (nI sn), .ref mp, .int ud, .ref mq, .int rz, .int az, .ref mi, .ref mz, .ref ma, .ref mc])), (mb, .inl (cyI, 97, .inl bk))] s.heap.size := ⟨_, rfl⟩
  have hD : va_D A [(hm, .inr (6, [.ref mb, .ref mn, .ref mk, .int (nI sg), .ref ms, .int (nI sn), .ref mp, .int ud, .ref mq, .int rz, .int az, .ref mi, .ref mz, .ref ma, .ref mc])), (mb, .inl (cyI, 97, .inl bk))] := by rw [hAe]; exact hD0.self
  have hA : ∀ q : Nat, s.heap.size ≤ q → A q := fun q h => by rw [hAe]; exact Or.inr h
  have hS : va_S A s.heap s.heap [] := va_S.rf
  have hiX6 : ∀ w ∈ wsX60, w ∈ wsX6_stitch := by decide +kernel
  have fl7 := hts (.fieldLink RX6 7 "KnitChronicleModel" "book" "[I") (by decide +kernel)
  have hl := lv_entry ([.ref hm, .int kcl, .int ktt, .int kha]) (n := 5) (Nat.le_of_ble_eq_true rfl)
  rw [lg_entry_eq]
  generalize (lg_sl ([.ref hm, .int kcl, .int ktt, .int kha]) ++ List.replicate (5 - (lg_sl ([.ref hm, .int kcl, .int ktt, .int kha])).length) Slot.unset).toArray = ls at hl ⊢
  have hl : lv_has ls 5 [(0, .ref hm), (1, .int kcl), (2, .int ktt), (3, .int kha)] := hl
  unfold fX6_stitch at hF
  have hmN := hI.2.1
  refine lv_iload_n hx hb dX6_stitch_0 rfl (lv_at hl 3 rfl) ?_
  refine lv_iconst (v := (-1 : Int32)) hx hb dX6_stitch_1 (by decide) ?_
  refine lv_icmp_eq (tgt := 15) hx hb dX6_stitch_2 (by decide) (fun c2 => ?_) (fun c2 => ?_)
  · rw [if_pos c2] at hF
    refine lv_iload_n hx hb dX6_stitch_15 rfl (lv_at hl 1 rfl) ?_
    refine lv_iconst (v := (0 : Int32)) hx hb dX6_stitch_16 (by decide) ?_
    refine lv_iconst (v := (3 : Int32)) hx hb dX6_stitch_17 (by decide) ?_
    refine kx_cS (As := [.int kcl, .int (0 : Int32), .int (3 : Int32)]) (rest := []) ⟨hx, hb, hml, hown, hts⟩ (c_X6_in l dC dI cyI cyZ  kcl (0 : Int32) (3 : Int32)  _ rfl) (va_cwS 3 hts gX6_stitch_X6_in rfl rfl rfl (by decide +kernel) ⟨Nat.le_of_ble_eq_true rfl, Nat.le_of_ble_eq_true rfl⟩) hP hK hN [] rfl [0, 1] rfl rfl hl.1 rfl (Nat.le_of_ble_eq_true rfl) dX6_stitch_18 ⟨Nat.zero_le _, Nat.zero_le _⟩ ?_
    refine lv_if_eq (tgt := 34) hx hb dX6_stitch_21 (by decide) (fun c21 => ?_) (fun c21 => ?_)
    · rw [if_pos c21] at hF
      refine lv_bipush (v := (-2 : Int32)) hx hb dX6_stitch_34 (by decide) ?_
      subst hF
      subst hAe
      exact W.iret hx hb hr (fun t ht _ => ⟨⟨_, (), rfl, rfl, by rw [ht]; exact hP, hD⟩, hS.F ht⟩) hS.2.2 dX6_stitch_36
    · rw [if_neg c21] at hF
      refine lv_iload_n hx hb dX6_stitch_24 rfl (lv_at hl 2 rfl) ?_
      refine lv_iconst (v := (0 : Int32)) hx hb dX6_stitch_25 (by decide) ?_
      refine lv_bipush (v := (9 : Int32)) hx hb dX6_stitch_26 (by decide) ?_
      refine kx_cS (As := [.int ktt, .int (0 : Int32), .int (9 : Int32)]) (rest := []) ⟨hx, hb, hml, hown, hts⟩ (c_X6_in l dC dI cyI cyZ  ktt (0 : Int32) (9 : Int32)  _ rfl) (va_cwS 3 hts gX6_stitch_X6_in rfl rfl rfl (by decide +kernel) ⟨Nat.le_of_ble_eq_true rfl, Nat.le_of_ble_eq_true rfl⟩) hP hK hN [] rfl [0, 1] rfl rfl hl.1 rfl (Nat.le_of_ble_eq_true rfl) dX6_stitch_28 ⟨Nat.zero_le _, Nat.zero_le _⟩ ?_
      refine lv_if_ne (tgt := 37) hx hb dX6_stitch_31 (by decide) (fun c31 => ?_) (fun c31 => ?_)
      · rw [if_neg c31] at hF
        refine lv_aload_n hx hb dX6_stitch_37 rfl (lv_at hl 0 rfl) ?_
        refine va_get (D := (dC, dI)) (ci := 6) (v := .ref mb) (C := RX6) (T := TX6) (N := 15) hx hb hts hiX6 hown hK hP 0 rfl rfl 0 (by decide) fl7 (fun _ h9 => h9) rfl dX6_stitch_38 ?_
        refine lv_bipush (v := (96 : Int32)) hx hb dX6_stitch_41 (by decide) ?_
        refine kx_ld hx hb hK hP 1 0 rfl rfl (96) rfl (by omega) (by decide) dX6_stitch_43 ?_
        refine kx_e hI.1 ?_
        refine lv_istore (lv' := [(4, .int (nI (mN bk))), (0, .ref hm), (1, .int kcl), (2, .int ktt), (3, .int kha)]) hx hb dX6_stitch_44 hl (by decide) rfl (fun ls hl => ?_)
        refine lv_iload hx hb dX6_stitch_46 (lv_at hl 0 rfl) ?_
        refine lv_bipush (v := (24 : Int32)) hx hb dX6_stitch_48 (by decide) ?_
        refine kx_ne hx hb (mN bk) (24) rfl rfl (by omega) (by omega) dX6_stitch_50 (by decide) (tgt := 56) (fun c50 => ?_) (fun c50 => ?_)
        · rw [if_neg c50] at hF
          refine lv_aload_n hx hb dX6_stitch_56 rfl (lv_at hl 1 rfl) ?_
          refine va_get (D := (dC, dI)) (ci := 6) (v := .ref mb) (C := RX6) (T := TX6) (N := 15) hx hb hts hiX6 hown hK hP 0 rfl rfl 0 (by decide) fl7 (fun _ h9 => h9) rfl dX6_stitch_57 ?_
          refine lv_iload hx hb dX6_stitch_60 (lv_at hl 0 rfl) ?_
          refine lv_iload_n hx hb dX6_stitch_62 rfl (lv_at hl 2 rfl) ?_
          refine kx_st hx hb hK hP hD hS 1 0 rfl rfl (mN bk) rfl (by omega) (by decide) dX6_stitch_63 (fun H locs hP hD hS => ?_)
          have hP : va_P (dC, dI) vwCl [(hm, .inr (6, [.ref mb, .ref mn, .ref mk, .int (nI sg), .ref ms, .int (nI sn), .ref mp, .int ud, .ref mq, .int rz, .int az, .ref mi, .ref mz, .ref ma, .ref mc])), (mb, .inl (cyI, 97, .inl (upd bk (mN bk) kcl)))] H := hP
          have hD : va_D A [(hm, .inr (6, [.ref mb, .ref mn, .ref mk, .int (nI sg), .ref ms, .int (nI sn), .ref mp, .int ud, .ref mq, .int rz, .int az, .ref mi, .ref mz, .ref ma, .ref mc])), (mb, .inl (cyI, 97, .inl (upd bk (mN bk) kcl)))] := hD
          refine lv_aload_n hx hb dX6_stitch_64 rfl (lv_at hl 1 rfl) ?_
          refine va_get (D := (dC, dI)) (ci := 6) (v := .ref mb) (C := RX6) (T := TX6) (N := 15) hx hb hts hiX6 hown hK hP 0 rfl rfl 0 (by decide) fl7 (fun _ h9 => h9) rfl dX6_stitch_65 ?_
          refine lv_bipush (v := (24 : Int32)) hx hb dX6_stitch_68 (by decide) ?_
          refine lv_iload hx hb dX6_stitch_70 (lv_at hl 0 rfl) ?_
          refine lv_iadd hx hb dX6_stitch_72 ?_
          refine kx_e (nI_add (24) (mN bk)) ?_
          refine lv_iload_n hx hb dX6_stitch_73 rfl (lv_at hl 3 rfl) ?_
          refine kx_st hx hb hK hP hD hS 1 0 rfl rfl (24 + (mN bk)) rfl (by omega) (by decide) dX6_stitch_74 (fun H locs hP hD hS => ?_)
          have hP : va_P (dC, dI) vwCl [(hm, .inr (6, [.ref mb, .ref mn, .ref mk, .int (nI sg), .ref ms, .int (nI sn), .ref mp, .int ud, .ref mq, .int rz, .int az, .ref mi, .ref mz, .ref ma, .ref mc])), (mb, .inl (cyI, 97, .inl (upd (upd bk (mN bk) kcl) (24 + (mN bk)) ktt)))] H := hP
          have hD : va_D A [(hm, .inr (6, [.ref mb, .ref mn, .ref mk, .int (nI sg), .ref ms, .int (nI sn), .ref mp, .int ud, .ref mq, .int rz, .int az, .ref mi, .ref mz, .ref ma, .ref mc])), (mb, .inl (cyI, 97, .inl (upd (upd bk (mN bk) kcl) (24 + (mN bk)) ktt)))] := hD
          refine lv_aload_n hx hb dX6_stitch_75 rfl (lv_at hl 1 rfl) ?_
          refine va_get (D := (dC, dI)) (ci := 6) (v := .ref mb) (C := RX6) (T := TX6) (N := 15) hx hb hts hiX6 hown hK hP 0 rfl rfl 0 (by decide) fl7 (fun _ h9 => h9) rfl dX6_stitch_76 ?_
          refine lv_bipush (v := (48 : Int32)) hx hb dX6_stitch_79 (by decide) ?_
          refine lv_iload hx hb dX6_stitch_81 (lv_at hl 0 rfl) ?_
          refine lv_iadd hx hb dX6_stitch_83 ?_
          refine kx_e (nI_add (48) (mN bk)) ?_
          refine lv_iload_n hx hb dX6_stitch_84 rfl (lv_at hl 4 rfl) ?_
          refine lv_if_ge (tgt := 93) hx hb dX6_stitch_85 (by decide) (fun c85 => ?_) (fun c85 => ?_)
          · rw [if_pos c85] at hF
            refine lv_iload_n hx hb dX6_stitch_93 rfl (lv_at hl 4 rfl) ?_
            refine kx_st hx hb hK hP hD hS 1 0 rfl rfl (48 + (mN bk)) rfl (by omega) (by decide) dX6_stitch_94 (fun H locs hP hD hS => ?_)
            have hP : va_P (dC, dI) vwCl [(hm, .inr (6, [.ref mb, .ref mn, .ref mk, .int (nI sg), .ref ms, .int (nI sn), .ref mp, .int ud, .ref mq, .int rz, .int az, .ref mi, .ref mz, .ref ma, .ref mc])), (mb, .inl (cyI, 97, .inl (upd (upd (upd bk (mN bk) kcl) (24 + (mN bk)) ktt) (48 + (mN bk)) kha)))] H := hP
            have hD : va_D A [(hm, .inr (6, [.ref mb, .ref mn, .ref mk, .int (nI sg), .ref ms, .int (nI sn), .ref mp, .int ud, .ref mq, .int rz, .int az, .ref mi, .ref mz, .ref ma, .ref mc])), (mb, .inl (cyI, 97, .inl (upd (upd (upd bk (mN bk) kcl) (24 + (mN bk)) ktt) (48 + (mN bk)) kha)))] := hD
            refine lv_aload_n hx hb dX6_stitch_95 rfl (lv_at hl 1 rfl) ?_
            refine va_get (D := (dC, dI)) (ci := 6) (v := .ref mb) (C := RX6) (T := TX6) (N := 15) hx hb hts hiX6 hown hK hP 0 rfl rfl 0 (by decide) fl7 (fun _ h9 => h9) rfl dX6_stitch_96 ?_
            refine lv_bipush (v := (72 : Int32)) hx hb dX6_stitch_99 (by decide) ?_
            refine lv_iload hx hb dX6_stitch_101 (lv_at hl 0 rfl) ?_
            refine lv_iadd hx hb dX6_stitch_103 ?_
            refine kx_e (nI_add (72) (mN bk)) ?_
            refine lv_iconst (v := (0 : Int32)) hx hb dX6_stitch_104 (by decide) ?_
            refine kx_st hx hb hK hP hD hS 1 0 rfl rfl (72 + (mN bk)) rfl (by omega) (by decide) dX6_stitch_105 (fun H locs hP hD hS => ?_)
            have hP : va_P (dC, dI) vwCl [(hm, .inr (6, [.ref mb, .ref mn, .ref mk, .int (nI sg), .ref ms, .int (nI sn), .ref mp, .int ud, .ref mq, .int rz, .int az, .ref mi, .ref mz, .ref ma, .ref mc])), (mb, .inl (cyI, 97, .inl (upd (upd (upd (upd bk (mN bk) kcl) (24 + (mN bk)) ktt) (48 + (mN bk)) kha) (72 + (mN bk)) (0 : Int32))))] H := hP
            have hD : va_D A [(hm, .inr (6, [.ref mb, .ref mn, .ref mk, .int (nI sg), .ref ms, .int (nI sn), .ref mp, .int ud, .ref mq, .int rz, .int az, .ref mi, .ref mz, .ref ma, .ref mc])), (mb, .inl (cyI, 97, .inl (upd (upd (upd (upd bk (mN bk) kcl) (24 + (mN bk)) ktt) (48 + (mN bk)) kha) (72 + (mN bk)) (0 : Int32))))] := hD
            refine lv_aload_n hx hb dX6_stitch_106 rfl (lv_at hl 1 rfl) ?_
            refine va_get (D := (dC, dI)) (ci := 6) (v := .ref mb) (C := RX6) (T := TX6) (N := 15) hx hb hts hiX6 hown hK hP 0 rfl rfl 0 (by decide) fl7 (fun _ h9 => h9) rfl dX6_stitch_107 ?_
            refine lv_bipush (v := (96 : Int32)) hx hb dX6_stitch_110 (by decide) ?_
            refine lv_iload hx hb dX6_stitch_112 (lv_at hl 0 rfl) ?_
            refine lv_iconst (v := (1 : Int32)) hx hb dX6_stitch_114 (by decide) ?_
            refine lv_iadd hx hb dX6_stitch_115 ?_
            refine kx_e (nI_add (mN bk) (1)) ?_
            refine kx_st hx hb hK hP hD hS 1 0 rfl rfl (96) rfl (by omega) (by decide) dX6_stitch_116 (fun H locs hP hD hS => ?_)
            have hP : va_P (dC, dI) vwCl [(hm, .inr (6, [.ref mb, .ref mn, .ref mk, .int (nI sg), .ref ms, .int (nI sn), .ref mp, .int ud, .ref mq, .int rz, .int az, .ref mi, .ref mz, .ref ma, .ref mc])), (mb, .inl (cyI, 97, .inl (upd (upd (upd (upd (upd bk (mN bk) kcl) (24 + (mN bk)) ktt) (48 + (mN bk)) kha) (72 + (mN bk)) (0 : Int32)) 96 (nI (mN bk + 1)))))] H := hP
            have hD : va_D A [(hm, .inr (6, [.ref mb, .ref mn, .ref mk, .int (nI sg), .ref ms, .int (nI sn), .ref mp, .int ud, .ref mq, .int rz, .int az, .ref mi, .ref mz, .ref ma, .ref mc])), (mb, .inl (cyI, 97, .inl (upd (upd (upd (upd (upd bk (mN bk) kcl) (24 + (mN bk)) ktt) (48 + (mN bk)) kha) (72 + (mN bk)) (0 : Int32)) 96 (nI (mN bk + 1)))))] := hD
            refine lv_iload hx hb dX6_stitch_117 (lv_at hl 0 rfl) ?_
            refine lv_iconst (v := (1 : Int32)) hx hb dX6_stitch_119 (by decide) ?_
            refine lv_iadd hx hb dX6_stitch_120 ?_
            refine kx_e (nI_add (mN bk) (1)) ?_
            subst hF
            subst hAe
            exact W.iret hx hb hr (fun t ht _ => ⟨⟨_, (), rfl, rfl, by rw [ht]; exact hP, hD⟩, hS.F ht⟩) hS.2.2 dX6_stitch_121
          · rw [if_neg c85] at hF
            refine lv_bipush (v := (-6 : Int32)) hx hb dX6_stitch_88 (by decide) ?_
            refine lv_goto (tgt := 94) hx hb dX6_stitch_90 (by decide) ?_
            refine kx_st hx hb hK hP hD hS 1 0 rfl rfl (48 + (mN bk)) rfl (by omega) (by decide) dX6_stitch_94 (fun H locs hP hD hS => ?_)
            have hP : va_P (dC, dI) vwCl [(hm, .inr (6, [.ref mb, .ref mn, .ref mk, .int (nI sg), .ref ms, .int (nI sn), .ref mp, .int ud, .ref mq, .int rz, .int az, .ref mi, .ref mz, .ref ma, .ref mc])), (mb, .inl (cyI, 97, .inl (upd (upd (upd bk (mN bk) kcl) (24 + (mN bk)) ktt) (48 + (mN bk)) (-6 : Int32))))] H := hP
            have hD : va_D A [(hm, .inr (6, [.ref mb, .ref mn, .ref mk, .int (nI sg), .ref ms, .int (nI sn), .ref mp, .int ud, .ref mq, .int rz, .int az, .ref mi, .ref mz, .ref ma, .ref mc])), (mb, .inl (cyI, 97, .inl (upd (upd (upd bk (mN bk) kcl) (24 + (mN bk)) ktt) (48 + (mN bk)) (-6 : Int32))))] := hD
            refine lv_aload_n hx hb dX6_stitch_95 rfl (lv_at hl 1 rfl) ?_
            refine va_get (D := (dC, dI)) (ci := 6) (v := .ref mb) (C := RX6) (T := TX6) (N := 15) hx hb hts hiX6 hown hK hP 0 rfl rfl 0 (by decide) fl7 (fun _ h9 => h9) rfl dX6_stitch_96 ?_
            refine lv_bipush (v := (72 : Int32)) hx hb dX6_stitch_99 (by decide) ?_
            refine lv_iload hx hb dX6_stitch_101 (lv_at hl 0 rfl) ?_
            refine lv_iadd hx hb dX6_stitch_103 ?_
            refine kx_e (nI_add (72) (mN bk)) ?_
            refine lv_iconst (v := (0 : Int32)) hx hb dX6_stitch_104 (by decide) ?_
            refine kx_st hx hb hK hP hD hS 1 0 rfl rfl (72 + (mN bk)) rfl (by omega) (by decide) dX6_stitch_105 (fun H locs hP hD hS => ?_)
            have hP : va_P (dC, dI) vwCl [(hm, .inr (6, [.ref mb, .ref mn, .ref mk, .int (nI sg), .ref ms, .int (nI sn), .ref mp, .int ud, .ref mq, .int rz, .int az, .ref mi, .ref mz, .ref ma, .ref mc])), (mb, .inl (cyI, 97, .inl (upd (upd (upd (upd bk (mN bk) kcl) (24 + (mN bk)) ktt) (48 + (mN bk)) (-6 : Int32)) (72 + (mN bk)) (0 : Int32))))] H := hP
            have hD : va_D A [(hm, .inr (6, [.ref mb, .ref mn, .ref mk, .int (nI sg), .ref ms, .int (nI sn), .ref mp, .int ud, .ref mq, .int rz, .int az, .ref mi, .ref mz, .ref ma, .ref mc])), (mb, .inl (cyI, 97, .inl (upd (upd (upd (upd bk (mN bk) kcl) (24 + (mN bk)) ktt) (48 + (mN bk)) (-6 : Int32)) (72 + (mN bk)) (0 : Int32))))] := hD
            refine lv_aload_n hx hb dX6_stitch_106 rfl (lv_at hl 1 rfl) ?_
            refine va_get (D := (dC, dI)) (ci := 6) (v := .ref mb) (C := RX6) (T := TX6) (N := 15) hx hb hts hiX6 hown hK hP 0 rfl rfl 0 (by decide) fl7 (fun _ h9 => h9) rfl dX6_stitch_107 ?_
            refine lv_bipush (v := (96 : Int32)) hx hb dX6_stitch_110 (by decide) ?_
            refine lv_iload hx hb dX6_stitch_112 (lv_at hl 0 rfl) ?_
            refine lv_iconst (v := (1 : Int32)) hx hb dX6_stitch_114 (by decide) ?_
            refine lv_iadd hx hb dX6_stitch_115 ?_
            refine kx_e (nI_add (mN bk) (1)) ?_
            refine kx_st hx hb hK hP hD hS 1 0 rfl rfl (96) rfl (by omega) (by decide) dX6_stitch_116 (fun H locs hP hD hS => ?_)
            have hP : va_P (dC, dI) vwCl [(hm, .inr (6, [.ref mb, .ref mn, .ref mk, .int (nI sg), .ref ms, .int (nI sn), .ref mp, .int ud, .ref mq, .int rz, .int az, .ref mi, .ref mz, .ref ma, .ref mc])), (mb, .inl (cyI, 97, .inl (upd (upd (upd (upd (upd bk (mN bk) kcl) (24 + (mN bk)) ktt) (48 + (mN bk)) (-6 : Int32)) (72 + (mN bk)) (0 : Int32)) 96 (nI (mN bk + 1)))))] H := hP
            have hD : va_D A [(hm, .inr (6, [.ref mb, .ref mn, .ref mk, .int (nI sg), .ref ms, .int (nI sn), .ref mp, .int ud, .ref mq, .int rz, .int az, .ref mi, .ref mz, .ref ma, .ref mc])), (mb, .inl (cyI, 97, .inl (upd (upd (upd (upd (upd bk (mN bk) kcl) (24 + (mN bk)) ktt) (48 + (mN bk)) (-6 : Int32)) (72 + (mN bk)) (0 : Int32)) 96 (nI (mN bk + 1)))))] := hD
            refine lv_iload hx hb dX6_stitch_117 (lv_at hl 0 rfl) ?_
            refine lv_iconst (v := (1 : Int32)) hx hb dX6_stitch_119 (by decide) ?_
            refine lv_iadd hx hb dX6_stitch_120 ?_
            refine kx_e (nI_add (mN bk) (1)) ?_
            subst hF
            subst hAe
            exact W.iret hx hb hr (fun t ht _ => ⟨⟨_, (), rfl, rfl, by rw [ht]; exact hP, hD⟩, hS.F ht⟩) hS.2.2 dX6_stitch_121
        · rw [if_pos c50] at hF
          refine lv_bipush (v := (-4 : Int32)) hx hb dX6_stitch_53 (by decide) ?_
          subst hF
          subst hAe
          exact W.iret hx hb hr (fun t ht _ => ⟨⟨_, (), rfl, rfl, by rw [ht]; exact hP, hD⟩, hS.F ht⟩) hS.2.2 dX6_stitch_55
      · rw [if_pos c31] at hF
        refine lv_bipush (v := (-2 : Int32)) hx hb dX6_stitch_34 (by decide) ?_
        subst hF
        subst hAe
        exact W.iret hx hb hr (fun t ht _ => ⟨⟨_, (), rfl, rfl, by rw [ht]; exact hP, hD⟩, hS.F ht⟩) hS.2.2 dX6_stitch_36
  · rw [if_neg c2] at hF
    refine lv_aload_n hx hb dX6_stitch_5 rfl (lv_at hl 0 rfl) ?_
    refine lv_iload_n hx hb dX6_stitch_6 rfl (lv_at hl 3 rfl) ?_
    refine kx_cV (As := [.int kha]) (rest := []) ⟨hx, hb, hml, hown, hts⟩ (c_X6_isStitch l dC dI cyI cyZ hm mb mn mk ms mp mq mi mz ma mc sg sn ud rz az bk kha hI _ rfl) (cwV 1 hts gX6_stitch_X6_isStitch rfl rfl rfl (by decide +kernel) ⟨Nat.le_of_ble_eq_true rfl, Nat.le_of_ble_eq_true rfl⟩) hP hK hN [0, 1] rfl [0, 1] rfl 6 0 rfl rfl rfl rfl hl.1 rfl (Nat.le_of_ble_eq_true rfl) dX6_stitch_7 ⟨Nat.zero_le _, Nat.zero_le _⟩ ?_
    refine lv_if_ne (tgt := 15) hx hb dX6_stitch_10 (by decide) (fun c10 => ?_) (fun c10 => ?_)
    · rw [if_neg c10] at hF
      refine lv_iload_n hx hb dX6_stitch_15 rfl (lv_at hl 1 rfl) ?_
      refine lv_iconst (v := (0 : Int32)) hx hb dX6_stitch_16 (by decide) ?_
      refine lv_iconst (v := (3 : Int32)) hx hb dX6_stitch_17 (by decide) ?_
      refine kx_cS (As := [.int kcl, .int (0 : Int32), .int (3 : Int32)]) (rest := []) ⟨hx, hb, hml, hown, hts⟩ (c_X6_in l dC dI cyI cyZ  kcl (0 : Int32) (3 : Int32)  _ rfl) (va_cwS 3 hts gX6_stitch_X6_in rfl rfl rfl (by decide +kernel) ⟨Nat.le_of_ble_eq_true rfl, Nat.le_of_ble_eq_true rfl⟩) hP hK hN [] rfl [0, 1] rfl rfl hl.1 rfl (Nat.le_of_ble_eq_true rfl) dX6_stitch_18 ⟨Nat.zero_le _, Nat.zero_le _⟩ ?_
      refine lv_if_eq (tgt := 34) hx hb dX6_stitch_21 (by decide) (fun c21 => ?_) (fun c21 => ?_)
      · rw [if_pos c21] at hF
        refine lv_bipush (v := (-2 : Int32)) hx hb dX6_stitch_34 (by decide) ?_
        subst hF
        subst hAe
        exact W.iret hx hb hr (fun t ht _ => ⟨⟨_, (), rfl, rfl, by rw [ht]; exact hP, hD⟩, hS.F ht⟩) hS.2.2 dX6_stitch_36
      · rw [if_neg c21] at hF
        refine lv_iload_n hx hb dX6_stitch_24 rfl (lv_at hl 2 rfl) ?_
        refine lv_iconst (v := (0 : Int32)) hx hb dX6_stitch_25 (by decide) ?_
        refine lv_bipush (v := (9 : Int32)) hx hb dX6_stitch_26 (by decide) ?_
        refine kx_cS (As := [.int ktt, .int (0 : Int32), .int (9 : Int32)]) (rest := []) ⟨hx, hb, hml, hown, hts⟩ (c_X6_in l dC dI cyI cyZ  ktt (0 : Int32) (9 : Int32)  _ rfl) (va_cwS 3 hts gX6_stitch_X6_in rfl rfl rfl (by decide +kernel) ⟨Nat.le_of_ble_eq_true rfl, Nat.le_of_ble_eq_true rfl⟩) hP hK hN [] rfl [0, 1] rfl rfl hl.1 rfl (Nat.le_of_ble_eq_true rfl) dX6_stitch_28 ⟨Nat.zero_le _, Nat.zero_le _⟩ ?_
        refine lv_if_ne (tgt := 37) hx hb dX6_stitch_31 (by decide) (fun c31 => ?_) (fun c31 => ?_)
        · rw [if_neg c31] at hF
          refine lv_aload_n hx hb dX6_stitch_37 rfl (lv_at hl 0 rfl) ?_
          refine va_get (D := (dC, dI)) (ci := 6) (v := .ref mb) (C := RX6) (T := TX6) (N := 15) hx hb hts hiX6 hown hK hP 0 rfl rfl 0 (by decide) fl7 (fun _ h9 => h9) rfl dX6_stitch_38 ?_
          refine lv_bipush (v := (96 : Int32)) hx hb dX6_stitch_41 (by decide) ?_
          refine kx_ld hx hb hK hP 1 0 rfl rfl (96) rfl (by omega) (by decide) dX6_stitch_43 ?_
          refine kx_e hI.1 ?_
          refine lv_istore (lv' := [(4, .int (nI (mN bk))), (0, .ref hm), (1, .int kcl), (2, .int ktt), (3, .int kha)]) hx hb dX6_stitch_44 hl (by decide) rfl (fun ls hl => ?_)
          refine lv_iload hx hb dX6_stitch_46 (lv_at hl 0 rfl) ?_
          refine lv_bipush (v := (24 : Int32)) hx hb dX6_stitch_48 (by decide) ?_
          refine kx_ne hx hb (mN bk) (24) rfl rfl (by omega) (by omega) dX6_stitch_50 (by decide) (tgt := 56) (fun c50 => ?_) (fun c50 => ?_)
          · rw [if_neg c50] at hF
            refine lv_aload_n hx hb dX6_stitch_56 rfl (lv_at hl 1 rfl) ?_
            refine va_get (D := (dC, dI)) (ci := 6) (v := .ref mb) (C := RX6) (T := TX6) (N := 15) hx hb hts hiX6 hown hK hP 0 rfl rfl 0 (by decide) fl7 (fun _ h9 => h9) rfl dX6_stitch_57 ?_
            refine lv_iload hx hb dX6_stitch_60 (lv_at hl 0 rfl) ?_
            refine lv_iload_n hx hb dX6_stitch_62 rfl (lv_at hl 2 rfl) ?_
            refine kx_st hx hb hK hP hD hS 1 0 rfl rfl (mN bk) rfl (by omega) (by decide) dX6_stitch_63 (fun H locs hP hD hS => ?_)
            have hP : va_P (dC, dI) vwCl [(hm, .inr (6, [.ref mb, .ref mn, .ref mk, .int (nI sg), .ref ms, .int (nI sn), .ref mp, .int ud, .ref mq, .int rz, .int az, .ref mi, .ref mz, .ref ma, .ref mc])), (mb, .inl (cyI, 97, .inl (upd bk (mN bk) kcl)))] H := hP
            have hD : va_D A [(hm, .inr (6, [.ref mb, .ref mn, .ref mk, .int (nI sg), .ref ms, .int (nI sn), .ref mp, .int ud, .ref mq, .int rz, .int az, .ref mi, .ref mz, .ref ma, .ref mc])), (mb, .inl (cyI, 97, .inl (upd bk (mN bk) kcl)))] := hD
            refine lv_aload_n hx hb dX6_stitch_64 rfl (lv_at hl 1 rfl) ?_
            refine va_get (D := (dC, dI)) (ci := 6) (v := .ref mb) (C := RX6) (T := TX6) (N := 15) hx hb hts hiX6 hown hK hP 0 rfl rfl 0 (by decide) fl7 (fun _ h9 => h9) rfl dX6_stitch_65 ?_
            refine lv_bipush (v := (24 : Int32)) hx hb dX6_stitch_68 (by decide) ?_
            refine lv_iload hx hb dX6_stitch_70 (lv_at hl 0 rfl) ?_
            refine lv_iadd hx hb dX6_stitch_72 ?_
            refine kx_e (nI_add (24) (mN bk)) ?_
            refine lv_iload_n hx hb dX6_stitch_73 rfl (lv_at hl 3 rfl) ?_
            refine kx_st hx hb hK hP hD hS 1 0 rfl rfl (24 + (mN bk)) rfl (by omega) (by decide) dX6_stitch_74 (fun H locs hP hD hS => ?_)
            have hP : va_P (dC, dI) vwCl [(hm, .inr (6, [.ref mb, .ref mn, .ref mk, .int (nI sg), .ref ms, .int (nI sn), .ref mp, .int ud, .ref mq, .int rz, .int az, .ref mi, .ref mz, .ref ma, .ref mc])), (mb, .inl (cyI, 97, .inl (upd (upd bk (mN bk) kcl) (24 + (mN bk)) ktt)))] H := hP
            have hD : va_D A [(hm, .inr (6, [.ref mb, .ref mn, .ref mk, .int (nI sg), .ref ms, .int (nI sn), .ref mp, .int ud, .ref mq, .int rz, .int az, .ref mi, .ref mz, .ref ma, .ref mc])), (mb, .inl (cyI, 97, .inl (upd (upd bk (mN bk) kcl) (24 + (mN bk)) ktt)))] := hD
            refine lv_aload_n hx hb dX6_stitch_75 rfl (lv_at hl 1 rfl) ?_
            refine va_get (D := (dC, dI)) (ci := 6) (v := .ref mb) (C := RX6) (T := TX6) (N := 15) hx hb hts hiX6 hown hK hP 0 rfl rfl 0 (by decide) fl7 (fun _ h9 => h9) rfl dX6_stitch_76 ?_
            refine lv_bipush (v := (48 : Int32)) hx hb dX6_stitch_79 (by decide) ?_
            refine lv_iload hx hb dX6_stitch_81 (lv_at hl 0 rfl) ?_
            refine lv_iadd hx hb dX6_stitch_83 ?_
            refine kx_e (nI_add (48) (mN bk)) ?_
            refine lv_iload_n hx hb dX6_stitch_84 rfl (lv_at hl 4 rfl) ?_
            refine lv_if_ge (tgt := 93) hx hb dX6_stitch_85 (by decide) (fun c85 => ?_) (fun c85 => ?_)
            · rw [if_pos c85] at hF
              refine lv_iload_n hx hb dX6_stitch_93 rfl (lv_at hl 4 rfl) ?_
              refine kx_st hx hb hK hP hD hS 1 0 rfl rfl (48 + (mN bk)) rfl (by omega) (by decide) dX6_stitch_94 (fun H locs hP hD hS => ?_)
              have hP : va_P (dC, dI) vwCl [(hm, .inr (6, [.ref mb, .ref mn, .ref mk, .int (nI sg), .ref ms, .int (nI sn), .ref mp, .int ud, .ref mq, .int rz, .int az, .ref mi, .ref mz, .ref ma, .ref mc])), (mb, .inl (cyI, 97, .inl (upd (upd (upd bk (mN bk) kcl) (24 + (mN bk)) ktt) (48 + (mN bk)) kha)))] H := hP
              have hD : va_D A [(hm, .inr (6, [.ref mb, .ref mn, .ref mk, .int (nI sg), .ref ms, .int (nI sn), .ref mp, .int ud, .ref mq, .int rz, .int az, .ref mi, .ref mz, .ref ma, .ref mc])), (mb, .inl (cyI, 97, .inl (upd (upd (upd bk (mN bk) kcl) (24 + (mN bk)) ktt) (48 + (mN bk)) kha)))] := hD
              refine lv_aload_n hx hb dX6_stitch_95 rfl (lv_at hl 1 rfl) ?_
              refine va_get (D := (dC, dI)) (ci := 6) (v := .ref mb) (C := RX6) (T := TX6) (N := 15) hx hb hts hiX6 hown hK hP 0 rfl rfl 0 (by decide) fl7 (fun _ h9 => h9) rfl dX6_stitch_96 ?_
              refine lv_bipush (v := (72 : Int32)) hx hb dX6_stitch_99 (by decide) ?_
              refine lv_iload hx hb dX6_stitch_101 (lv_at hl 0 rfl) ?_
              refine lv_iadd hx hb dX6_stitch_103 ?_
              refine kx_e (nI_add (72) (mN bk)) ?_
              refine lv_iconst (v := (0 : Int32)) hx hb dX6_stitch_104 (by decide) ?_
              refine kx_st hx hb hK hP hD hS 1 0 rfl rfl (72 + (mN bk)) rfl (by omega) (by decide) dX6_stitch_105 (fun H locs hP hD hS => ?_)
              have hP : va_P (dC, dI) vwCl [(hm, .inr (6, [.ref mb, .ref mn, .ref mk, .int (nI sg), .ref ms, .int (nI sn), .ref mp, .int ud, .ref mq, .int rz, .int az, .ref mi, .ref mz, .ref ma, .ref mc])), (mb, .inl (cyI, 97, .inl (upd (upd (upd (upd bk (mN bk) kcl) (24 + (mN bk)) ktt) (48 + (mN bk)) kha) (72 + (mN bk)) (0 : Int32))))] H := hP
              have hD : va_D A [(hm, .inr (6, [.ref mb, .ref mn, .ref mk, .int (nI sg), .ref ms, .int (nI sn), .ref mp, .int ud, .ref mq, .int rz, .int az, .ref mi, .ref mz, .ref ma, .ref mc])), (mb, .inl (cyI, 97, .inl (upd (upd (upd (upd bk (mN bk) kcl) (24 + (mN bk)) ktt) (48 + (mN bk)) kha) (72 + (mN bk)) (0 : Int32))))] := hD
              refine lv_aload_n hx hb dX6_stitch_106 rfl (lv_at hl 1 rfl) ?_
              refine va_get (D := (dC, dI)) (ci := 6) (v := .ref mb) (C := RX6) (T := TX6) (N := 15) hx hb hts hiX6 hown hK hP 0 rfl rfl 0 (by decide) fl7 (fun _ h9 => h9) rfl dX6_stitch_107 ?_
              refine lv_bipush (v := (96 : Int32)) hx hb dX6_stitch_110 (by decide) ?_
              refine lv_iload hx hb dX6_stitch_112 (lv_at hl 0 rfl) ?_
              refine lv_iconst (v := (1 : Int32)) hx hb dX6_stitch_114 (by decide) ?_
              refine lv_iadd hx hb dX6_stitch_115 ?_
              refine kx_e (nI_add (mN bk) (1)) ?_
              refine kx_st hx hb hK hP hD hS 1 0 rfl rfl (96) rfl (by omega) (by decide) dX6_stitch_116 (fun H locs hP hD hS => ?_)
              have hP : va_P (dC, dI) vwCl [(hm, .inr (6, [.ref mb, .ref mn, .ref mk, .int (nI sg), .ref ms, .int (nI sn), .ref mp, .int ud, .ref mq, .int rz, .int az, .ref mi, .ref mz, .ref ma, .ref mc])), (mb, .inl (cyI, 97, .inl (upd (upd (upd (upd (upd bk (mN bk) kcl) (24 + (mN bk)) ktt) (48 + (mN bk)) kha) (72 + (mN bk)) (0 : Int32)) 96 (nI (mN bk + 1)))))] H := hP
              have hD : va_D A [(hm, .inr (6, [.ref mb, .ref mn, .ref mk, .int (nI sg), .ref ms, .int (nI sn), .ref mp, .int ud, .ref mq, .int rz, .int az, .ref mi, .ref mz, .ref ma, .ref mc])), (mb, .inl (cyI, 97, .inl (upd (upd (upd (upd (upd bk (mN bk) kcl) (24 + (mN bk)) ktt) (48 + (mN bk)) kha) (72 + (mN bk)) (0 : Int32)) 96 (nI (mN bk + 1)))))] := hD
              refine lv_iload hx hb dX6_stitch_117 (lv_at hl 0 rfl) ?_
              refine lv_iconst (v := (1 : Int32)) hx hb dX6_stitch_119 (by decide) ?_
              refine lv_iadd hx hb dX6_stitch_120 ?_
              refine kx_e (nI_add (mN bk) (1)) ?_
              subst hF
              subst hAe
              exact W.iret hx hb hr (fun t ht _ => ⟨⟨_, (), rfl, rfl, by rw [ht]; exact hP, hD⟩, hS.F ht⟩) hS.2.2 dX6_stitch_121
            · rw [if_neg c85] at hF
              refine lv_bipush (v := (-6 : Int32)) hx hb dX6_stitch_88 (by decide) ?_
              refine lv_goto (tgt := 94) hx hb dX6_stitch_90 (by decide) ?_
              refine kx_st hx hb hK hP hD hS 1 0 rfl rfl (48 + (mN bk)) rfl (by omega) (by decide) dX6_stitch_94 (fun H locs hP hD hS => ?_)
              have hP : va_P (dC, dI) vwCl [(hm, .inr (6, [.ref mb, .ref mn, .ref mk, .int (nI sg), .ref ms, .int (nI sn), .ref mp, .int ud, .ref mq, .int rz, .int az, .ref mi, .ref mz, .ref ma, .ref mc])), (mb, .inl (cyI, 97, .inl (upd (upd (upd bk (mN bk) kcl) (24 + (mN bk)) ktt) (48 + (mN bk)) (-6 : Int32))))] H := hP
              have hD : va_D A [(hm, .inr (6, [.ref mb, .ref mn, .ref mk, .int (nI sg), .ref ms, .int (nI sn), .ref mp, .int ud, .ref mq, .int rz, .int az, .ref mi, .ref mz, .ref ma, .ref mc])), (mb, .inl (cyI, 97, .inl (upd (upd (upd bk (mN bk) kcl) (24 + (mN bk)) ktt) (48 + (mN bk)) (-6 : Int32))))] := hD
              refine lv_aload_n hx hb dX6_stitch_95 rfl (lv_at hl 1 rfl) ?_
              refine va_get (D := (dC, dI)) (ci := 6) (v := .ref mb) (C := RX6) (T := TX6) (N := 15) hx hb hts hiX6 hown hK hP 0 rfl rfl 0 (by decide) fl7 (fun _ h9 => h9) rfl dX6_stitch_96 ?_
              refine lv_bipush (v := (72 : Int32)) hx hb dX6_stitch_99 (by decide) ?_
              refine lv_iload hx hb dX6_stitch_101 (lv_at hl 0 rfl) ?_
              refine lv_iadd hx hb dX6_stitch_103 ?_
              refine kx_e (nI_add (72) (mN bk)) ?_
              refine lv_iconst (v := (0 : Int32)) hx hb dX6_stitch_104 (by decide) ?_
              refine kx_st hx hb hK hP hD hS 1 0 rfl rfl (72 + (mN bk)) rfl (by omega) (by decide) dX6_stitch_105 (fun H locs hP hD hS => ?_)
              have hP : va_P (dC, dI) vwCl [(hm, .inr (6, [.ref mb, .ref mn, .ref mk, .int (nI sg), .ref ms, .int (nI sn), .ref mp, .int ud, .ref mq, .int rz, .int az, .ref mi, .ref mz, .ref ma, .ref mc])), (mb, .inl (cyI, 97, .inl (upd (upd (upd (upd bk (mN bk) kcl) (24 + (mN bk)) ktt) (48 + (mN bk)) (-6 : Int32)) (72 + (mN bk)) (0 : Int32))))] H := hP
              have hD : va_D A [(hm, .inr (6, [.ref mb, .ref mn, .ref mk, .int (nI sg), .ref ms, .int (nI sn), .ref mp, .int ud, .ref mq, .int rz, .int az, .ref mi, .ref mz, .ref ma, .ref mc])), (mb, .inl (cyI, 97, .inl (upd (upd (upd (upd bk (mN bk) kcl) (24 + (mN bk)) ktt) (48 + (mN bk)) (-6 : Int32)) (72 + (mN bk)) (0 : Int32))))] := hD
              refine lv_aload_n hx hb dX6_stitch_106 rfl (lv_at hl 1 rfl) ?_
              refine va_get (D := (dC, dI)) (ci := 6) (v := .ref mb) (C := RX6) (T := TX6) (N := 15) hx hb hts hiX6 hown hK hP 0 rfl rfl 0 (by decide) fl7 (fun _ h9 => h9) rfl dX6_stitch_107 ?_
              refine lv_bipush (v := (96 : Int32)) hx hb dX6_stitch_110 (by decide) ?_
              refine lv_iload hx hb dX6_stitch_112 (lv_at hl 0 rfl) ?_
              refine lv_iconst (v := (1 : Int32)) hx hb dX6_stitch_114 (by decide) ?_
              refine lv_iadd hx hb dX6_stitch_115 ?_
              refine kx_e (nI_add (mN bk) (1)) ?_
              refine kx_st hx hb hK hP hD hS 1 0 rfl rfl (96) rfl (by omega) (by decide) dX6_stitch_116 (fun H locs hP hD hS => ?_)
              have hP : va_P (dC, dI) vwCl [(hm, .inr (6, [.ref mb, .ref mn, .ref mk, .int (nI sg), .ref ms, .int (nI sn), .ref mp, .int ud, .ref mq, .int rz, .int az, .ref mi, .ref mz, .ref ma, .ref mc])), (mb, .inl (cyI, 97, .inl (upd (upd (upd (upd (upd bk (mN bk) kcl) (24 + (mN bk)) ktt) (48 + (mN bk)) (-6 : Int32)) (72 + (mN bk)) (0 : Int32)) 96 (nI (mN bk + 1)))))] H := hP
              have hD : va_D A [(hm, .inr (6, [.ref mb, .ref mn, .ref mk, .int (nI sg), .ref ms, .int (nI sn), .ref mp, .int ud, .ref mq, .int rz, .int az, .ref mi, .ref mz, .ref ma, .ref mc])), (mb, .inl (cyI, 97, .inl (upd (upd (upd (upd (upd bk (mN bk) kcl) (24 + (mN bk)) ktt) (48 + (mN bk)) (-6 : Int32)) (72 + (mN bk)) (0 : Int32)) 96 (nI (mN bk + 1)))))] := hD
              refine lv_iload hx hb dX6_stitch_117 (lv_at hl 0 rfl) ?_
              refine lv_iconst (v := (1 : Int32)) hx hb dX6_stitch_119 (by decide) ?_
              refine lv_iadd hx hb dX6_stitch_120 ?_
              refine kx_e (nI_add (mN bk) (1)) ?_
              subst hF
              subst hAe
              exact W.iret hx hb hr (fun t ht _ => ⟨⟨_, (), rfl, rfl, by rw [ht]; exact hP, hD⟩, hS.F ht⟩) hS.2.2 dX6_stitch_121
          · rw [if_pos c50] at hF
            refine lv_bipush (v := (-4 : Int32)) hx hb dX6_stitch_53 (by decide) ?_
            subst hF
            subst hAe
            exact W.iret hx hb hr (fun t ht _ => ⟨⟨_, (), rfl, rfl, by rw [ht]; exact hP, hD⟩, hS.F ht⟩) hS.2.2 dX6_stitch_55
        · rw [if_pos c31] at hF
          refine lv_bipush (v := (-2 : Int32)) hx hb dX6_stitch_34 (by decide) ?_
          subst hF
          subst hAe
          exact W.iret hx hb hr (fun t ht _ => ⟨⟨_, (), rfl, rfl, by rw [ht]; exact hP, hD⟩, hS.F ht⟩) hS.2.2 dX6_stitch_36
    · rw [if_pos c10] at hF
      refine lv_iconst (v := (-1 : Int32)) hx hb dX6_stitch_13 (by decide) ?_
      subst hF
      subst hAe
      exact W.iret hx hb hr (fun t ht _ => ⟨⟨_, (), rfl, rfl, by rw [ht]; exact hP, hD⟩, hS.F ht⟩) hS.2.2 dX6_stitch_14

def fX6_cast (bk : Nat → Int32) : Int32 × (Nat → Int32) :=
  ((nI (mN bk)), (upd bk 96 (0 : Int32)))
set_option maxHeartbeats 4000000 in
set_option maxRecDepth 100000 in
theorem c_X6_cast (l : Launch) (dC : Nat → ClassId) (dI : Nat → Nat → Nat) (cyI cyZ : ClassId) (hm mb mn mk ms mp mq mi mz ma mc : Nat) (sg : Nat) (sn : Nat) (ud : Int32) (rz : Int32) (az : Int32) (bk : Nat → Int32) (hI : kx_I bk) (sz : Nat) (r : Int32 × (Nat → Int32)) (hF : fX6_cast bk = r) : Met l yX6_cast wsX6_cast ({ frames := 0, cells := 0, slots := 0, locals := 0 }) (kx_wp (dC, dI) [(hm, .inr (6, [.ref mb, .ref mn, .ref mk, .int (nI sg), .ref ms, .int (nI sn), .ref mp, .int ud, .ref mq, .int rz, .int az, .ref mi, .ref mz, .ref ma, .ref mc])), (mb, .inl (cyI, 97, .inl bk))] [(cyI, .int), (cyZ, .boolean)] sz [.ref hm]) (kx_Qi r.1 (dC, dI) [(hm, .inr (6, [.ref mb, .ref mn, .ref mk, .int (nI sg), .ref ms, .int (nI sn), .ref mp, .int ud, .ref mq, .int rz, .int az, .ref mi, .ref mz, .ref ma, .ref mc])), (mb, .inl (cyI, 97, .inl bk))] [(hm, .inr (6, [.ref mb, .ref mn, .ref mk, .int (nI sg), .ref ms, .int (nI sn), .ref mp, .int ud, .ref mq, .int rz, .int az, .ref mi, .ref mz, .ref ma, .ref mc])), (mb, .inl (cyI, 97, .inl r.2))] sz) 0 0 (va_A [(hm, .inr (6, [.ref mb, .ref mn, .ref mk, .int (nI sg), .ref ms, .int (nI sn), .ref mp, .int ud, .ref mq, .int rz, .int az, .ref mi, .ref mz, .ref ma, .ref mc])), (mb, .inl (cyI, 97, .inl bk))] sz) := by
  refine Met.ofW (cc := cX6_cast) (maxL := 2) (ret := (some .int)) (by decide) rfl ?_
  intro p e s m args below meth c s₁ B hml hv
  obtain ⟨rfl, hsz, hP, hK, hN, hD0⟩ := hv
  have hx := B.exec
  have hb := B.bytes
  have hr := B.returns
  have hts := atoms_spec (ws := wsX6_cast) B.pre
  have hown : s.vm.findClass RX6 = some m.cls := findClass_of_methodNamed B.named
  have hlocks := B.notSynchronized
  subst hsz
  obtain ⟨A, hAe⟩ : ∃ A, A = va_A [(hm, .inr (6, [.ref mb, .ref mn, .ref mk, .int (nI sg), .ref ms, .int (nI sn), .ref mp, .int ud, .ref mq, .int rz, .int az, .ref mi, .ref mz, .ref ma, .ref mc])), (mb, .inl (cyI, 97, .inl bk))] s.heap.size := ⟨_, rfl⟩
  have hD : va_D A [(hm, .inr (6, [.ref mb, .ref mn, .ref mk, .int (nI sg), .ref ms, .int (nI sn), .ref mp, .int ud, .ref mq, .int rz, .int az, .ref mi, .ref mz, .ref ma, .ref mc])), (mb, .inl (cyI, 97, .inl bk))] := by rw [hAe]; exact hD0.self
  have hA : ∀ q : Nat, s.heap.size ≤ q → A q := fun q h => by rw [hAe]; exact Or.inr h
  have hS : va_S A s.heap s.heap [] := va_S.rf
  have hiX6 : ∀ w ∈ wsX60, w ∈ wsX6_cast := by decide +kernel
  have fl7 := hts (.fieldLink RX6 7 "KnitChronicleModel" "book" "[I") (by decide +kernel)
  have hl := lv_entry ([.ref hm]) (n := 2) (Nat.le_of_ble_eq_true rfl)
  rw [lg_entry_eq]
  generalize (lg_sl ([.ref hm]) ++ List.replicate (2 - (lg_sl ([.ref hm])).length) Slot.unset).toArray = ls at hl ⊢
  have hl : lv_has ls 2 [(0, .ref hm)] := hl
  unfold fX6_cast at hF
  have hmN := hI.2.1
  refine lv_aload_n hx hb dX6_cast_0 rfl (lv_at hl 0 rfl) ?_
  refine va_get (D := (dC, dI)) (ci := 6) (v := .ref mb) (C := RX6) (T := TX6) (N := 15) hx hb hts hiX6 hown hK hP 0 rfl rfl 0 (by decide) fl7 (fun _ h9 => h9) rfl dX6_cast_1 ?_
  refine lv_bipush (v := (96 : Int32)) hx hb dX6_cast_4 (by decide) ?_
  refine kx_ld hx hb hK hP 1 0 rfl rfl (96) rfl (by omega) (by decide) dX6_cast_6 ?_
  refine kx_e hI.1 ?_
  refine lv_istore_n (lv' := [(1, .int (nI (mN bk))), (0, .ref hm)]) hx hb dX6_cast_7 rfl hl (by decide) rfl (fun ls hl => ?_)
  refine lv_aload_n hx hb dX6_cast_8 rfl (lv_at hl 1 rfl) ?_
  refine va_get (D := (dC, dI)) (ci := 6) (v := .ref mb) (C := RX6) (T := TX6) (N := 15) hx hb hts hiX6 hown hK hP 0 rfl rfl 0 (by decide) fl7 (fun _ h9 => h9) rfl dX6_cast_9 ?_
  refine lv_bipush (v := (96 : Int32)) hx hb dX6_cast_12 (by decide) ?_
  refine lv_iconst (v := (0 : Int32)) hx hb dX6_cast_14 (by decide) ?_
  refine kx_st hx hb hK hP hD hS 1 0 rfl rfl (96) rfl (by omega) (by decide) dX6_cast_15 (fun H locs hP hD hS => ?_)
  have hP : va_P (dC, dI) vwCl [(hm, .inr (6, [.ref mb, .ref mn, .ref mk, .int (nI sg), .ref ms, .int (nI sn), .ref mp, .int ud, .ref mq, .int rz, .int az, .ref mi, .ref mz, .ref ma, .ref mc])), (mb, .inl (cyI, 97, .inl (upd bk 96 (0 : Int32))))] H := hP
  have hD : va_D A [(hm, .inr (6, [.ref mb, .ref mn, .ref mk, .int (nI sg), .ref ms, .int (nI sn), .ref mp, .int ud, .ref mq, .int rz, .int az, .ref mi, .ref mz, .ref ma, .ref mc])), (mb, .inl (cyI, 97, .inl (upd bk 96 (0 : Int32))))] := hD
  refine lv_iload_n hx hb dX6_cast_16 rfl (lv_at hl 0 rfl) ?_
  subst hF
  subst hAe
  exact W.iret hx hb hr (fun t ht _ => ⟨⟨_, (), rfl, rfl, by rw [ht]; exact hP, hD⟩, hS.F ht⟩) hS.2.2 dX6_cast_17

def fX6_knitter (kn : Nat → Int32) (kk : Int32) (ktt : Int32) : Int32 × (Nat → Int32) :=
  (if (fX6_isKnitter kk) = 0 then ((-1 : Int32), kn) else (if (fX6_in ktt (0 : Int32) (9 : Int32)) = 0 then ((-2 : Int32), kn) else ((kn kk.toNatClampNeg), (upd kn kk.toNatClampNeg ktt))))
set_option maxHeartbeats 4000000 in
set_option maxRecDepth 100000 in
theorem c_X6_knitter (l : Launch) (dC : Nat → ClassId) (dI : Nat → Nat → Nat) (cyI cyZ : ClassId) (hm mb mn mk ms mp mq mi mz ma mc : Nat) (sg : Nat) (sn : Nat) (ud : Int32) (rz : Int32) (az : Int32) (kn : Nat → Int32) (kk : Int32) (ktt : Int32) (sz : Nat) (r : Int32 × (Nat → Int32)) (hF : fX6_knitter kn kk ktt = r) : Met l yX6_knitter wsX6_knitter ({ frames := 2, cells := 0, slots := 0, locals := 42 }) (kx_wp (dC, dI) [(hm, .inr (6, [.ref mb, .ref mn, .ref mk, .int (nI sg), .ref ms, .int (nI sn), .ref mp, .int ud, .ref mq, .int rz, .int az, .ref mi, .ref mz, .ref ma, .ref mc])), (mk, .inl (cyI, 4, .inl kn))] [(cyI, .int), (cyZ, .boolean)] sz [.ref hm, .int kk, .int ktt]) (kx_Qi r.1 (dC, dI) [(hm, .inr (6, [.ref mb, .ref mn, .ref mk, .int (nI sg), .ref ms, .int (nI sn), .ref mp, .int ud, .ref mq, .int rz, .int az, .ref mi, .ref mz, .ref ma, .ref mc])), (mk, .inl (cyI, 4, .inl kn))] [(hm, .inr (6, [.ref mb, .ref mn, .ref mk, .int (nI sg), .ref ms, .int (nI sn), .ref mp, .int ud, .ref mq, .int rz, .int az, .ref mi, .ref mz, .ref ma, .ref mc])), (mk, .inl (cyI, 4, .inl r.2))] sz) 0 0 (va_A [(hm, .inr (6, [.ref mb, .ref mn, .ref mk, .int (nI sg), .ref ms, .int (nI sn), .ref mp, .int ud, .ref mq, .int rz, .int az, .ref mi, .ref mz, .ref ma, .ref mc])), (mk, .inl (cyI, 4, .inl kn))] sz) := by
  refine Met.ofW (cc := cX6_knitter) (maxL := 4) (ret := (some .int)) (by decide) rfl ?_
  intro p e s m args below meth c s₁ B hml hv
  obtain ⟨rfl, hsz, hP, hK, hN, hD0⟩ := hv
  have hx := B.exec
  have hb := B.bytes
  have hr := B.returns
  have hts := atoms_spec (ws := wsX6_knitter) B.pre
  have hown : s.vm.findClass RX6 = some m.cls := findClass_of_methodNamed B.named
  have hlocks := B.notSynchronized
  subst hsz
  obtain ⟨A, hAe⟩ : ∃ A, A = va_A [(hm, .inr (6, [.ref mb, .ref mn, .ref mk, .int (nI sg), .ref ms, .int (nI sn), .ref mp, .int ud, .ref mq, .int rz, .int az, .ref mi, .ref mz, .ref ma, .ref mc])), (mk, .inl (cyI, 4, .inl kn))] s.heap.size := ⟨_, rfl⟩
  have hD : va_D A [(hm, .inr (6, [.ref mb, .ref mn, .ref mk, .int (nI sg), .ref ms, .int (nI sn), .ref mp, .int ud, .ref mq, .int rz, .int az, .ref mi, .ref mz, .ref ma, .ref mc])), (mk, .inl (cyI, 4, .inl kn))] := by rw [hAe]; exact hD0.self
  have hA : ∀ q : Nat, s.heap.size ≤ q → A q := fun q h => by rw [hAe]; exact Or.inr h
  have hS : va_S A s.heap s.heap [] := va_S.rf
  have hiX6 : ∀ w ∈ wsX60, w ∈ wsX6_knitter := by decide +kernel
  have fl16 := hts (.fieldLink RX6 16 "KnitChronicleModel" "knits" "[I") (by decide +kernel)
  have hl := lv_entry ([.ref hm, .int kk, .int ktt]) (n := 4) (Nat.le_of_ble_eq_true rfl)
  rw [lg_entry_eq]
  generalize (lg_sl ([.ref hm, .int kk, .int ktt]) ++ List.replicate (4 - (lg_sl ([.ref hm, .int kk, .int ktt])).length) Slot.unset).toArray = ls at hl ⊢
  have hl : lv_has ls 4 [(0, .ref hm), (1, .int kk), (2, .int ktt)] := hl
  unfold fX6_knitter at hF
  refine lv_iload_n hx hb dX6_knitter_0 rfl (lv_at hl 1 rfl) ?_
  refine kx_cS (As := [.int kk]) (rest := []) ⟨hx, hb, hml, hown, hts⟩ (c_X6_isKnitter l dC dI cyI cyZ  kk  _ rfl) (va_cwS 1 hts gX6_knitter_X6_isKnitter rfl rfl rfl (by decide +kernel) ⟨Nat.le_of_ble_eq_true rfl, Nat.le_of_ble_eq_true rfl⟩) hP hK hN [] rfl [0, 1] rfl rfl hl.1 rfl (Nat.le_of_ble_eq_true rfl) dX6_knitter_1 ⟨Nat.zero_le _, Nat.zero_le _⟩ ?_
  refine lv_if_ne (tgt := 9) hx hb dX6_knitter_4 (by decide) (fun c4 => ?_) (fun c4 => ?_)
  · rw [if_neg c4] at hF
    obtain ⟨hk1, hk2, hk3⟩ := fX6_in_P 0 3 (by decide) (by decide) c4
    refine lv_iload_n hx hb dX6_knitter_9 rfl (lv_at hl 2 rfl) ?_
    refine lv_iconst (v := (0 : Int32)) hx hb dX6_knitter_10 (by decide) ?_
    refine lv_bipush (v := (9 : Int32)) hx hb dX6_knitter_11 (by decide) ?_
    refine kx_cS (As := [.int ktt, .int (0 : Int32), .int (9 : Int32)]) (rest := []) ⟨hx, hb, hml, hown, hts⟩ (c_X6_in l dC dI cyI cyZ  ktt (0 : Int32) (9 : Int32)  _ rfl) (va_cwS 3 hts gX6_knitter_X6_in rfl rfl rfl (by decide +kernel) ⟨Nat.le_of_ble_eq_true rfl, Nat.le_of_ble_eq_true rfl⟩) hP hK hN [] rfl [0, 1] rfl rfl hl.1 rfl (Nat.le_of_ble_eq_true rfl) dX6_knitter_13 ⟨Nat.zero_le _, Nat.zero_le _⟩ ?_
    refine lv_if_ne (tgt := 22) hx hb dX6_knitter_16 (by decide) (fun c16 => ?_) (fun c16 => ?_)
    · rw [if_neg c16] at hF
      refine lv_aload_n hx hb dX6_knitter_22 rfl (lv_at hl 0 rfl) ?_
      refine va_get (D := (dC, dI)) (ci := 6) (v := .ref mk) (C := RX6) (T := TX6) (N := 15) hx hb hts hiX6 hown hK hP 0 rfl rfl 2 (by decide) fl16 (fun _ h9 => h9) rfl dX6_knitter_23 ?_
      refine lv_iload_n hx hb dX6_knitter_26 rfl (lv_at hl 1 rfl) ?_
      refine kx_e hk1 ?_
      refine kx_ld hx hb hK hP 1 0 rfl rfl (kk.toNatClampNeg) rfl (by omega) (by decide) dX6_knitter_27 ?_
      refine lv_istore_n (lv' := [(3, .int (kn kk.toNatClampNeg)), (0, .ref hm), (1, .int kk), (2, .int ktt)]) hx hb dX6_knitter_28 rfl hl (by decide) rfl (fun ls hl => ?_)
      refine lv_aload_n hx hb dX6_knitter_29 rfl (lv_at hl 1 rfl) ?_
      refine va_get (D := (dC, dI)) (ci := 6) (v := .ref mk) (C := RX6) (T := TX6) (N := 15) hx hb hts hiX6 hown hK hP 0 rfl rfl 2 (by decide) fl16 (fun _ h9 => h9) rfl dX6_knitter_30 ?_
      refine lv_iload_n hx hb dX6_knitter_33 rfl (lv_at hl 2 rfl) ?_
      refine kx_e hk1 ?_
      refine lv_iload_n hx hb dX6_knitter_34 rfl (lv_at hl 3 rfl) ?_
      refine kx_st hx hb hK hP hD hS 1 0 rfl rfl (kk.toNatClampNeg) rfl (by omega) (by decide) dX6_knitter_35 (fun H locs hP hD hS => ?_)
      have hP : va_P (dC, dI) vwCl [(hm, .inr (6, [.ref mb, .ref mn, .ref mk, .int (nI sg), .ref ms, .int (nI sn), .ref mp, .int ud, .ref mq, .int rz, .int az, .ref mi, .ref mz, .ref ma, .ref mc])), (mk, .inl (cyI, 4, .inl (upd kn kk.toNatClampNeg ktt)))] H := hP
      have hD : va_D A [(hm, .inr (6, [.ref mb, .ref mn, .ref mk, .int (nI sg), .ref ms, .int (nI sn), .ref mp, .int ud, .ref mq, .int rz, .int az, .ref mi, .ref mz, .ref ma, .ref mc])), (mk, .inl (cyI, 4, .inl (upd kn kk.toNatClampNeg ktt)))] := hD
      refine lv_iload_n hx hb dX6_knitter_36 rfl (lv_at hl 0 rfl) ?_
      subst hF
      subst hAe
      exact W.iret hx hb hr (fun t ht _ => ⟨⟨_, (), rfl, rfl, by rw [ht]; exact hP, hD⟩, hS.F ht⟩) hS.2.2 dX6_knitter_37
    · rw [if_pos c16] at hF
      refine lv_bipush (v := (-2 : Int32)) hx hb dX6_knitter_19 (by decide) ?_
      subst hF
      subst hAe
      exact W.iret hx hb hr (fun t ht _ => ⟨⟨_, (), rfl, rfl, by rw [ht]; exact hP, hD⟩, hS.F ht⟩) hS.2.2 dX6_knitter_21
  · rw [if_pos c4] at hF
    refine lv_iconst (v := (-1 : Int32)) hx hb dX6_knitter_7 (by decide) ?_
    subst hF
    subst hAe
    exact W.iret hx hb hr (fun t ht _ => ⟨⟨_, (), rfl, rfl, by rw [ht]; exact hP, hD⟩, hS.F ht⟩) hS.2.2 dX6_knitter_8

def fX6_say (sn : Nat) (pd : Nat → Int32) (ks : Int32) : Int32 × (Nat → Int32) × Nat :=
  (if (fX6_in ks (33 : Int32) (126 : Int32)) = 0 then ((-2 : Int32), pd, sn) else (if sn = 60 then ((-4 : Int32), pd, sn) else ((nI (sn + 1)), (upd pd sn ks), sn + 1)))
set_option maxHeartbeats 4000000 in
set_option maxRecDepth 100000 in
theorem c_X6_say (l : Launch) (dC : Nat → ClassId) (dI : Nat → Nat → Nat) (cyI cyZ : ClassId) (hm mb mn mk ms mp mq mi mz ma mc : Nat) (sg : Nat) (sn : Nat) (ud : Int32) (rz : Int32) (az : Int32) (pd : Nat → Int32) (ks : Int32) (hsn : sn ≤ 60) (sz : Nat) (r : Int32 × (Nat → Int32) × Nat) (hF : fX6_say sn pd ks = r) : Met l yX6_say wsX6_say ({ frames := 1, cells := 0, slots := 0, locals := 22 }) (kx_wp (dC, dI) [(hm, .inr (6, [.ref mb, .ref mn, .ref mk, .int (nI sg), .ref ms, .int (nI sn), .ref mp, .int ud, .ref mq, .int rz, .int az, .ref mi, .ref mz, .ref ma, .ref mc])), (mp, .inl (cyI, 60, .inl pd))] [(cyI, .int), (cyZ, .boolean)] sz [.ref hm, .int ks]) (kx_Qi r.1 (dC, dI) [(hm, .inr (6, [.ref mb, .ref mn, .ref mk, .int (nI sg), .ref ms, .int (nI sn), .ref mp, .int ud, .ref mq, .int rz, .int az, .ref mi, .ref mz, .ref ma, .ref mc])), (mp, .inl (cyI, 60, .inl pd))] [(hm, .inr (6, [.ref mb, .ref mn, .ref mk, .int (nI sg), .ref ms, .int (nI (r.2.2)), .ref mp, .int ud, .ref mq, .int rz, .int az, .ref mi, .ref mz, .ref ma, .ref mc])), (mp, .inl (cyI, 60, .inl r.2.1))] sz) 0 0 (va_A [(hm, .inr (6, [.ref mb, .ref mn, .ref mk, .int (nI sg), .ref ms, .int (nI sn), .ref mp, .int ud, .ref mq, .int rz, .int az, .ref mi, .ref mz, .ref ma, .ref mc])), (mp, .inl (cyI, 60, .inl pd))] sz) := by
  refine Met.ofW (cc := cX6_say) (maxL := 2) (ret := (some .int)) (by decide) rfl ?_
  intro p e s m args below meth c s₁ B hml hv
  obtain ⟨rfl, hsz, hP, hK, hN, hD0⟩ := hv
  have hx := B.exec
  have hb := B.bytes
  have hr := B.returns
  have hts := atoms_spec (ws := wsX6_say) B.pre
  have hown : s.vm.findClass RX6 = some m.cls := findClass_of_methodNamed B.named
  have hlocks := B.notSynchronized
  subst hsz
  obtain ⟨A, hAe⟩ : ∃ A, A = va_A [(hm, .inr (6, [.ref mb, .ref mn, .ref mk, .int (nI sg), .ref ms, .int (nI sn), .ref mp, .int ud, .ref mq, .int rz, .int az, .ref mi, .ref mz, .ref ma, .ref mc])), (mp, .inl (cyI, 60, .inl pd))] s.heap.size := ⟨_, rfl⟩
  have hD : va_D A [(hm, .inr (6, [.ref mb, .ref mn, .ref mk, .int (nI sg), .ref ms, .int (nI sn), .ref mp, .int ud, .ref mq, .int rz, .int az, .ref mi, .ref mz, .ref ma, .ref mc])), (mp, .inl (cyI, 60, .inl pd))] := by rw [hAe]; exact hD0.self
  have hA : ∀ q : Nat, s.heap.size ≤ q → A q := fun q h => by rw [hAe]; exact Or.inr h
  have hS : va_S A s.heap s.heap [] := va_S.rf
  have hiX6 : ∀ w ∈ wsX60, w ∈ wsX6_say := by decide +kernel
  have fl22 := hts (.fieldLink RX6 22 "KnitChronicleModel" "pad" "[I") (by decide +kernel)
  have fl52 := hts (.fieldLink RX6 52 "KnitChronicleModel" "signs" "I") (by decide +kernel)
  have hl := lv_entry ([.ref hm, .int ks]) (n := 2) (Nat.le_of_ble_eq_true rfl)
  rw [lg_entry_eq]
  generalize (lg_sl ([.ref hm, .int ks]) ++ List.replicate (2 - (lg_sl ([.ref hm, .int ks])).length) Slot.unset).toArray = ls at hl ⊢
  have hl : lv_has ls 2 [(0, .ref hm), (1, .int ks)] := hl
  unfold fX6_say at hF
  refine lv_iload_n hx hb dX6_say_0 rfl (lv_at hl 1 rfl) ?_
  refine lv_bipush (v := (33 : Int32)) hx hb dX6_say_1 (by decide) ?_
  refine lv_bipush (v := (126 : Int32)) hx hb dX6_say_3 (by decide) ?_
  refine kx_cS (As := [.int ks, .int (33 : Int32), .int (126 : Int32)]) (rest := []) ⟨hx, hb, hml, hown, hts⟩ (c_X6_in l dC dI cyI cyZ  ks (33 : Int32) (126 : Int32)  _ rfl) (va_cwS 3 hts gX6_say_X6_in rfl rfl rfl (by decide +kernel) ⟨Nat.le_of_ble_eq_true rfl, Nat.le_of_ble_eq_true rfl⟩) hP hK hN [] rfl [0, 1] rfl rfl hl.1 rfl (Nat.le_of_ble_eq_true rfl) dX6_say_5 ⟨Nat.zero_le _, Nat.zero_le _⟩ ?_
  refine lv_if_ne (tgt := 14) hx hb dX6_say_8 (by decide) (fun c8 => ?_) (fun c8 => ?_)
  · rw [if_neg c8] at hF
    refine lv_aload_n hx hb dX6_say_14 rfl (lv_at hl 0 rfl) ?_
    refine va_get (D := (dC, dI)) (ci := 6) (v := .int (nI sn)) (C := RX6) (T := TX6) (N := 15) hx hb hts hiX6 hown hK hP 0 rfl rfl 5 (by decide) fl52 (fun _ h9 => h9) rfl dX6_say_15 ?_
    refine lv_bipush (v := (60 : Int32)) hx hb dX6_say_18 (by decide) ?_
    refine kx_ne hx hb (sn) (60) rfl rfl (by omega) (by omega) dX6_say_20 (by decide) (tgt := 26) (fun c20 => ?_) (fun c20 => ?_)
    · rw [if_neg c20] at hF
      refine lv_aload_n hx hb dX6_say_26 rfl (lv_at hl 0 rfl) ?_
      refine va_get (D := (dC, dI)) (ci := 6) (v := .ref mp) (C := RX6) (T := TX6) (N := 15) hx hb hts hiX6 hown hK hP 0 rfl rfl 6 (by decide) fl22 (fun _ h9 => h9) rfl dX6_say_27 ?_
      refine lv_aload_n hx hb dX6_say_30 rfl (lv_at hl 0 rfl) ?_
      refine va_get (D := (dC, dI)) (ci := 6) (v := .int (nI sn)) (C := RX6) (T := TX6) (N := 15) hx hb hts hiX6 hown hK hP 0 rfl rfl 5 (by decide) fl52 (fun _ h9 => h9) rfl dX6_say_31 ?_
      refine lv_iload_n hx hb dX6_say_34 rfl (lv_at hl 1 rfl) ?_
      refine kx_st hx hb hK hP hD hS 1 0 rfl rfl (sn) rfl (by omega) (by decide) dX6_say_35 (fun H locs hP hD hS => ?_)
      have hP : va_P (dC, dI) vwCl [(hm, .inr (6, [.ref mb, .ref mn, .ref mk, .int (nI sg), .ref ms, .int (nI sn), .ref mp, .int ud, .ref mq, .int rz, .int az, .ref mi, .ref mz, .ref ma, .ref mc])), (mp, .inl (cyI, 60, .inl (upd pd sn ks)))] H := hP
      have hD : va_D A [(hm, .inr (6, [.ref mb, .ref mn, .ref mk, .int (nI sg), .ref ms, .int (nI sn), .ref mp, .int ud, .ref mq, .int rz, .int az, .ref mi, .ref mz, .ref ma, .ref mc])), (mp, .inl (cyI, 60, .inl (upd pd sn ks)))] := hD
      refine lv_aload_n hx hb dX6_say_36 rfl (lv_at hl 0 rfl) ?_
      refine lv_dup hx hb dX6_say_37 rfl ?_
      refine va_get (D := (dC, dI)) (ci := 6) (v := .int (nI sn)) (C := RX6) (T := TX6) (N := 15) hx hb hts hiX6 hown hK hP 0 rfl rfl 5 (by decide) fl52 (fun _ h9 => h9) rfl dX6_say_38 ?_
      refine lv_iconst (v := (1 : Int32)) hx hb dX6_say_41 (by decide) ?_
      refine lv_iadd hx hb dX6_say_42 ?_
      refine kx_e (nI_add (sn) (1)) ?_
      refine va_put (D := (dC, dI)) (ci := 6) (v := .int (nI (sn + 1))) (ty := .int) (C := RX6) (T := TX6) (N := 15) hx hb hts hiX6 tyX6 tyX6_ok nmX6 hown hK hP hD hS 0 rfl rfl 5 (by decide) fl52 (fun _ h9 => h9) rfl (by decide +kernel) rfl rfl (Nat.le_of_ble_eq_true rfl) dX6_say_43 (fun H locs hP hD hS => ?_)
      have hP : va_P (dC, dI) vwCl [(hm, .inr (6, [.ref mb, .ref mn, .ref mk, .int (nI sg), .ref ms, .int (nI (sn + 1)), .ref mp, .int ud, .ref mq, .int rz, .int az, .ref mi, .ref mz, .ref ma, .ref mc])), (mp, .inl (cyI, 60, .inl (upd pd sn ks)))] H := hP
      have hD : va_D A [(hm, .inr (6, [.ref mb, .ref mn, .ref mk, .int (nI sg), .ref ms, .int (nI (sn + 1)), .ref mp, .int ud, .ref mq, .int rz, .int az, .ref mi, .ref mz, .ref ma, .ref mc])), (mp, .inl (cyI, 60, .inl (upd pd sn ks)))] := hD
      refine lv_aload_n hx hb dX6_say_46 rfl (lv_at hl 0 rfl) ?_
      refine va_get (D := (dC, dI)) (ci := 6) (v := .int (nI (sn + 1))) (C := RX6) (T := TX6) (N := 15) hx hb hts hiX6 hown hK hP 0 rfl rfl 5 (by decide) fl52 (fun _ h9 => h9) rfl dX6_say_47 ?_
      subst hF
      subst hAe
      exact W.iret hx hb hr (fun t ht _ => ⟨⟨_, (), rfl, rfl, by rw [ht]; exact hP, hD⟩, hS.F ht⟩) hS.2.2 dX6_say_50
    · rw [if_pos c20] at hF
      refine lv_bipush (v := (-4 : Int32)) hx hb dX6_say_23 (by decide) ?_
      subst hF
      subst hAe
      exact W.iret hx hb hr (fun t ht _ => ⟨⟨_, (), rfl, rfl, by rw [ht]; exact hP, hD⟩, hS.F ht⟩) hS.2.2 dX6_say_25
  · rw [if_pos c8] at hF
    refine lv_bipush (v := (-2 : Int32)) hx hb dX6_say_11 (by decide) ?_
    subst hF
    subst hAe
    exact W.iret hx hb hr (fun t ht _ => ⟨⟨_, (), rfl, rfl, by rw [ht]; exact hP, hD⟩, hS.F ht⟩) hS.2.2 dX6_say_13

def fX6_wipe (sn : Nat) : Int32 × Nat :=
  ((nI sn), 0)
set_option maxHeartbeats 4000000 in
set_option maxRecDepth 100000 in
theorem c_X6_wipe (l : Launch) (dC : Nat → ClassId) (dI : Nat → Nat → Nat) (cyI cyZ : ClassId) (hm mb mn mk ms mp mq mi mz ma mc : Nat) (sg : Nat) (sn : Nat) (ud : Int32) (rz : Int32) (az : Int32) (sz : Nat) (r : Int32 × Nat) (hF : fX6_wipe sn = r) : Met l yX6_wipe wsX6_wipe ({ frames := 0, cells := 0, slots := 0, locals := 0 }) (kx_wp (dC, dI) [(hm, .inr (6, [.ref mb, .ref mn, .ref mk, .int (nI sg), .ref ms, .int (nI sn), .ref mp, .int ud, .ref mq, .int rz, .int az, .ref mi, .ref mz, .ref ma, .ref mc]))] [(cyI, .int), (cyZ, .boolean)] sz [.ref hm]) (kx_Qi r.1 (dC, dI) [(hm, .inr (6, [.ref mb, .ref mn, .ref mk, .int (nI sg), .ref ms, .int (nI sn), .ref mp, .int ud, .ref mq, .int rz, .int az, .ref mi, .ref mz, .ref ma, .ref mc]))] [(hm, .inr (6, [.ref mb, .ref mn, .ref mk, .int (nI sg), .ref ms, .int (nI (r.2)), .ref mp, .int ud, .ref mq, .int rz, .int az, .ref mi, .ref mz, .ref ma, .ref mc]))] sz) 0 0 (va_A [(hm, .inr (6, [.ref mb, .ref mn, .ref mk, .int (nI sg), .ref ms, .int (nI sn), .ref mp, .int ud, .ref mq, .int rz, .int az, .ref mi, .ref mz, .ref ma, .ref mc]))] sz) := by
  refine Met.ofW (cc := cX6_wipe) (maxL := 2) (ret := (some .int)) (by decide) rfl ?_
  intro p e s m args below meth c s₁ B hml hv
  obtain ⟨rfl, hsz, hP, hK, hN, hD0⟩ := hv
  have hx := B.exec
  have hb := B.bytes
  have hr := B.returns
  have hts := atoms_spec (ws := wsX6_wipe) B.pre
  have hown : s.vm.findClass RX6 = some m.cls := findClass_of_methodNamed B.named
  have hlocks := B.notSynchronized
  subst hsz
  obtain ⟨A, hAe⟩ : ∃ A, A = va_A [(hm, .inr (6, [.ref mb, .ref mn, .ref mk, .int (nI sg), .ref ms, .int (nI sn), .ref mp, .int ud, .ref mq, .int rz, .int az, .ref mi, .ref mz, .ref ma, .ref mc]))] s.heap.size := ⟨_, rfl⟩
  have hD : va_D A [(hm, .inr (6, [.ref mb, .ref mn, .ref mk, .int (nI sg), .ref ms, .int (nI sn), .ref mp, .int ud, .ref mq, .int rz, .int az, .ref mi, .ref mz, .ref ma, .ref mc]))] := by rw [hAe]; exact hD0.self
  have hA : ∀ q : Nat, s.heap.size ≤ q → A q := fun q h => by rw [hAe]; exact Or.inr h
  have hS : va_S A s.heap s.heap [] := va_S.rf
  have hiX6 : ∀ w ∈ wsX60, w ∈ wsX6_wipe := by decide +kernel
  have fl52 := hts (.fieldLink RX6 52 "KnitChronicleModel" "signs" "I") (by decide +kernel)
  have hl := lv_entry ([.ref hm]) (n := 2) (Nat.le_of_ble_eq_true rfl)
  rw [lg_entry_eq]
  generalize (lg_sl ([.ref hm]) ++ List.replicate (2 - (lg_sl ([.ref hm])).length) Slot.unset).toArray = ls at hl ⊢
  have hl : lv_has ls 2 [(0, .ref hm)] := hl
  unfold fX6_wipe at hF
  refine lv_aload_n hx hb dX6_wipe_0 rfl (lv_at hl 0 rfl) ?_
  refine va_get (D := (dC, dI)) (ci := 6) (v := .int (nI sn)) (C := RX6) (T := TX6) (N := 15) hx hb hts hiX6 hown hK hP 0 rfl rfl 5 (by decide) fl52 (fun _ h9 => h9) rfl dX6_wipe_1 ?_
  refine lv_istore_n (lv' := [(1, .int (nI sn)), (0, .ref hm)]) hx hb dX6_wipe_4 rfl hl (by decide) rfl (fun ls hl => ?_)
  refine lv_aload_n hx hb dX6_wipe_5 rfl (lv_at hl 1 rfl) ?_
  refine lv_iconst (v := (0 : Int32)) hx hb dX6_wipe_6 (by decide) ?_
  refine va_put (D := (dC, dI)) (ci := 6) (v := .int (0 : Int32)) (ty := .int) (C := RX6) (T := TX6) (N := 15) hx hb hts hiX6 tyX6 tyX6_ok nmX6 hown hK hP hD hS 0 rfl rfl 5 (by decide) fl52 (fun _ h9 => h9) rfl (by decide +kernel) rfl rfl (Nat.le_of_ble_eq_true rfl) dX6_wipe_7 (fun H locs hP hD hS => ?_)
  have hP : va_P (dC, dI) vwCl [(hm, .inr (6, [.ref mb, .ref mn, .ref mk, .int (nI sg), .ref ms, .int (0 : Int32), .ref mp, .int ud, .ref mq, .int rz, .int az, .ref mi, .ref mz, .ref ma, .ref mc]))] H := hP
  have hD : va_D A [(hm, .inr (6, [.ref mb, .ref mn, .ref mk, .int (nI sg), .ref ms, .int (0 : Int32), .ref mp, .int ud, .ref mq, .int rz, .int az, .ref mi, .ref mz, .ref ma, .ref mc]))] := hD
  refine lv_iload_n hx hb dX6_wipe_10 rfl (lv_at hl 0 rfl) ?_
  subst hF
  subst hAe
  exact W.iret hx hb hr (fun t ht _ => ⟨⟨_, (), rfl, rfl, by rw [ht]; exact hP, hD⟩, hS.F ht⟩) hS.2.2 dX6_wipe_11

def fX6_faultOf_L4 (sn : Nat) (pd : Nat → Int32) : Nat → Nat → Int32 → Int32
  | 0, _, st0 => (if st0 = 0 then (-6 : Int32) else (nI sn))
  | r4 + 1, j4, st0 => (if st0 = 0 then (if (fX6_isHand (pd j4)) = 0 then (if (pd j4) = (45 : Int32) then (if (fX6_isHand (pd j4)) = 0 then (if (pd j4) = (43 : Int32) then (fX6_faultOf_L4 sn pd r4 (j4 + 1) (3 : Int32)) else (fX6_faultOf_L4 sn pd r4 (j4 + 1) (2 : Int32))) else (fX6_faultOf_L4 sn pd r4 (j4 + 1) (1 : Int32))) else (if (pd j4) = (42 : Int32) then (if (fX6_isHand (pd j4)) = 0 then (if (pd j4) = (43 : Int32) then (fX6_faultOf_L4 sn pd r4 (j4 + 1) (3 : Int32)) else (fX6_faultOf_L4 sn pd r4 (j4 + 1) (2 : Int32))) else (fX6_faultOf_L4 sn pd r4 (j4 + 1) (1 : Int32))) else (if (pd j4) = (43 : Int32) then (if (fX6_isHand (pd j4)) = 0 then (if (pd j4) = (43 : Int32) then (fX6_faultOf_L4 sn pd r4 (j4 + 1) (3 : Int32)) else (fX6_faultOf_L4 sn pd r4 (j4 + 1) (2 : Int32))) else (fX6_faultOf_L4 sn pd r4 (j4 + 1) (1 : Int32))) else (if (fX6_isHand (pd j4)) = 0 then (if (pd j4) = (43 : Int32) then (nI j4) else (nI j4)) else (nI j4))))) else (if (fX6_isHand (pd j4)) = 0 then (if (pd j4) = (43 : Int32) then (fX6_faultOf_L4 sn pd r4 (j4 + 1) (3 : Int32)) else (fX6_faultOf_L4 sn pd r4 (j4 + 1) (2 : Int32))) else (fX6_faultOf_L4 sn pd r4 (j4 + 1) (1 : Int32)))) else (if st0 = (1 : Int32) then (if (fX6_in (pd j4) (48 : Int32) (51 : Int32)) = 0 then (nI j4) else (fX6_faultOf_L4 sn pd r4 (j4 + 1) (0 : Int32))) else (if st0 = (4 : Int32) then (if (fX6_isHand (pd j4)) = 0 then (nI j4) else (fX6_faultOf_L4 sn pd r4 (j4 + 1) (0 : Int32))) else (if st0 = (3 : Int32) then (if (fX6_isLetter (pd j4)) = 0 then (nI j4) else (fX6_faultOf_L4 sn pd r4 (j4 + 1) (4 : Int32))) else (if (fX6_isLetter (pd j4)) = 0 then (nI j4) else (fX6_faultOf_L4 sn pd r4 (j4 + 1) (0 : Int32)))))))
def fX6_faultOf (sn : Nat) (pd : Nat → Int32) : Int32 :=
  (fX6_faultOf_L4 sn pd sn 0 (0 : Int32))
set_option maxHeartbeats 4000000 in
set_option maxRecDepth 100000 in
theorem c_X6_faultOf (l : Launch) (dC : Nat → ClassId) (dI : Nat → Nat → Nat) (cyI cyZ : ClassId) (hm mb mn mk ms mp mq mi mz ma mc : Nat) (sg : Nat) (sn : Nat) (ud : Int32) (rz : Int32) (az : Int32) (pd : Nat → Int32) (hsn : sn ≤ 60) (r : Int32) (hF : fX6_faultOf sn pd = r) : Met l yX6_faultOf wsX6_faultOf ({ frames := 2, cells := 0, slots := 0, locals := 42 }) (kx_rp (dC, dI) [(hm, .inr (6, [.ref mb, .ref mn, .ref mk, .int (nI sg), .ref ms, .int (nI sn), .ref mp, .int ud, .ref mq, .int rz, .int az, .ref mi, .ref mz, .ref ma, .ref mc])), (mp, .inl (cyI, 60, .inl pd))] [(cyI, .int), (cyZ, .boolean)] [.ref hm]) (k2_QcV (.int r)) 0 0 (fun _ => False) := by
  refine Met.ofW (cc := cX6_faultOf) (maxL := 6) (ret := (some .int)) (by decide) rfl ?_
  intro p e s m args below meth c s₁ B hml hv
  obtain ⟨rfl, hP, hK, hN⟩ := hv
  have hx := B.exec
  have hb := B.bytes
  have hr := B.returns
  have hts := atoms_spec (ws := wsX6_faultOf) B.pre
  have hown : s.vm.findClass RX6 = some m.cls := findClass_of_methodNamed B.named
  have hlocks := B.notSynchronized
  have hiX6 : ∀ w ∈ wsX60, w ∈ wsX6_faultOf := by decide +kernel
  have fl22 := hts (.fieldLink RX6 22 "KnitChronicleModel" "pad" "[I") (by decide +kernel)
  have fl52 := hts (.fieldLink RX6 52 "KnitChronicleModel" "signs" "I") (by decide +kernel)
  have hl := lv_entry ([.ref hm]) (n := 6) (Nat.le_of_ble_eq_true rfl)
  rw [lg_entry_eq]
  generalize (lg_sl ([.ref hm]) ++ List.replicate (6 - (lg_sl ([.ref hm])).length) Slot.unset).toArray = ls at hl ⊢
  have hl : lv_has ls 6 [(0, .ref hm)] := hl
  unfold fX6_faultOf at hF
  refine lv_iconst (v := (0 : Int32)) hx hb dX6_faultOf_0 (by decide) ?_
  refine lv_istore_n (lv' := [(1, .int (0 : Int32)), (0, .ref hm)]) hx hb dX6_faultOf_1 rfl hl (by decide) rfl (fun ls hl => ?_)
  refine lv_iconst (v := (0 : Int32)) hx hb dX6_faultOf_2 (by decide) ?_
  refine lv_istore_n (lv' := [(2, .int (0 : Int32)), (1, .int (0 : Int32)), (0, .ref hm)]) hx hb dX6_faultOf_3 rfl hl (by decide) rfl (fun ls hl => ?_)
  have LP4 : ∀ (r4 : Nat) (j4 : Nat) (st0 : Int32), r4 + j4 = sn → fX6_faultOf_L4 sn pd r4 j4 st0 = r → ∀ (ls : Array Slot), lv_has ls 6 [(2, .int (nI j4)), (1, .int st0), (0, .ref hm)] → W p l e (headSpec wsX6_faultOf ({ frames := 2, cells := 0, slots := 0, locals := 42 } : Room)).room s m ([.ref hm] : List Value).toArray below meth c s.heap [] 0 0 (MQ below (k2_QcV (.int r)) ([.ref hm] : List Value).toArray s 0 0 (fun _ => False)) (F0 m 4 ls []) := by
    intro r4
    induction r4 with
    | zero =>
      intro j4 st0 hrj hF ls hl
      rw [fX6_faultOf_L4] at hF
      refine lv_iload_n hx hb dX6_faultOf_4 rfl (lv_at hl 0 rfl) ?_
      refine lv_aload_n hx hb dX6_faultOf_5 rfl (lv_at hl 2 rfl) ?_
      refine va_get (D := (dC, dI)) (ci := 6) (v := .int (nI sn)) (C := RX6) (T := TX6) (N := 15) hx hb hts hiX6 hown hK hP 0 rfl rfl 5 (by decide) fl52 (fun _ h9 => h9) rfl dX6_faultOf_6 ?_
      refine kx_ge hx hb (j4) (sn) rfl rfl (by omega) (by omega) dX6_faultOf_9 (by decide) (tgt := 151) (fun c9 => ?_) (fun c9 => absurd c9 (by omega))
      refine lv_iload_n hx hb dX6_faultOf_151 rfl (lv_at hl 1 rfl) ?_
      refine lv_if_ne (tgt := 160) hx hb dX6_faultOf_152 (by decide) (fun c152 => ?_) (fun c152 => ?_)
      · rw [if_neg c152] at hF
        refine lv_aload_n hx hb dX6_faultOf_160 rfl (lv_at hl 2 rfl) ?_
        refine va_get (D := (dC, dI)) (ci := 6) (v := .int (nI sn)) (C := RX6) (T := TX6) (N := 15) hx hb hts hiX6 hown hK hP 0 rfl rfl 5 (by decide) fl52 (fun _ h9 => h9) rfl dX6_faultOf_161 ?_
        exact W.iret hx hb hr (fun t ht _ => ⟨congrArg (fun z => Outcome.returned (some (Value.int z))) hF, ht⟩) (fun _ h => absurd h List.not_mem_nil) dX6_faultOf_164
      · rw [if_pos c152] at hF
        refine lv_bipush (v := (-6 : Int32)) hx hb dX6_faultOf_155 (by decide) ?_
        refine lv_goto (tgt := 164) hx hb dX6_faultOf_157 (by decide) ?_
        exact W.iret hx hb hr (fun t ht _ => ⟨congrArg (fun z => Outcome.returned (some (Value.int z))) hF, ht⟩) (fun _ h => absurd h List.not_mem_nil) dX6_faultOf_164
    | succ r4 ih =>
      intro j4 st0 hrj hF ls hl
      rw [fX6_faultOf_L4] at hF
      refine lv_iload_n hx hb dX6_faultOf_4 rfl (lv_at hl 0 rfl) ?_
      refine lv_aload_n hx hb dX6_faultOf_5 rfl (lv_at hl 2 rfl) ?_
      refine va_get (D := (dC, dI)) (ci := 6) (v := .int (nI sn)) (C := RX6) (T := TX6) (N := 15) hx hb hts hiX6 hown hK hP 0 rfl rfl 5 (by decide) fl52 (fun _ h9 => h9) rfl dX6_faultOf_6 ?_
      refine kx_ge hx hb (j4) (sn) rfl rfl (by omega) (by omega) dX6_faultOf_9 (by decide) (tgt := 151) (fun c9 => absurd c9 (by omega)) (fun c9 => ?_)
      refine lv_aload_n hx hb dX6_faultOf_12 rfl (lv_at hl 2 rfl) ?_
      refine va_get (D := (dC, dI)) (ci := 6) (v := .ref mp) (C := RX6) (T := TX6) (N := 15) hx hb hts hiX6 hown hK hP 0 rfl rfl 6 (by decide) fl22 (fun _ h9 => h9) rfl dX6_faultOf_13 ?_
      refine lv_iload_n hx hb dX6_faultOf_16 rfl (lv_at hl 0 rfl) ?_
      refine kx_ld hx hb hK hP 1 0 rfl rfl (j4) rfl (by omega) (by decide) dX6_faultOf_17 ?_
      refine lv_istore_n (lv' := [(3, .int (pd j4)), (2, .int (nI j4)), (1, .int st0), (0, .ref hm)]) hx hb dX6_faultOf_18 rfl hl (by decide) rfl (fun ls hl => ?_)
      refine lv_iconst (v := (0 : Int32)) hx hb dX6_faultOf_19 (by decide) ?_
      refine lv_istore (lv' := [(5, .int (0 : Int32)), (3, .int (pd j4)), (2, .int (nI j4)), (1, .int st0), (0, .ref hm)]) hx hb dX6_faultOf_20 hl (by decide) rfl (fun ls hl => ?_)
      refine lv_iload_n hx hb dX6_faultOf_22 rfl (lv_at hl 3 rfl) ?_
      refine lv_if_ne (tgt := 85) hx hb dX6_faultOf_23 (by decide) (fun c23 => ?_) (fun c23 => ?_)
      · rw [if_neg c23] at hF
        refine lv_iload_n hx hb dX6_faultOf_85 rfl (lv_at hl 3 rfl) ?_
        refine lv_iconst (v := (1 : Int32)) hx hb dX6_faultOf_86 (by decide) ?_
        refine lv_icmp_ne (tgt := 103) hx hb dX6_faultOf_87 (by decide) (fun c87 => ?_) (fun c87 => ?_)
        · rw [if_neg c87] at hF
          refine lv_iload_n hx hb dX6_faultOf_103 rfl (lv_at hl 3 rfl) ?_
          refine lv_iconst (v := (4 : Int32)) hx hb dX6_faultOf_104 (by decide) ?_
          refine lv_icmp_ne (tgt := 117) hx hb dX6_faultOf_105 (by decide) (fun c105 => ?_) (fun c105 => ?_)
          · rw [if_neg c105] at hF
            refine lv_iload_n hx hb dX6_faultOf_117 rfl (lv_at hl 1 rfl) ?_
            refine kx_cS (As := [.int (pd j4)]) (rest := []) ⟨hx, hb, hml, hown, hts⟩ (c_X6_isLetter l dC dI cyI cyZ  (pd j4)  _ rfl) (va_cwS 1 hts gX6_faultOf_X6_isLetter rfl rfl rfl (by decide +kernel) ⟨Nat.le_of_ble_eq_true rfl, Nat.le_of_ble_eq_true rfl⟩) hP hK hN [] rfl [0, 1] rfl rfl hl.1 rfl (Nat.le_of_ble_eq_true rfl) dX6_faultOf_118 ⟨Nat.zero_le _, Nat.zero_le _⟩ ?_
            refine lv_istore (lv' := [(4, .int (fX6_isLetter (pd j4))), (5, .int (0 : Int32)), (3, .int (pd j4)), (2, .int (nI j4)), (1, .int st0), (0, .ref hm)]) hx hb dX6_faultOf_121 hl (by decide) rfl (fun ls hl => ?_)
            refine lv_iload_n hx hb dX6_faultOf_123 rfl (lv_at hl 4 rfl) ?_
            refine lv_iconst (v := (3 : Int32)) hx hb dX6_faultOf_124 (by decide) ?_
            refine lv_icmp_ne (tgt := 132) hx hb dX6_faultOf_125 (by decide) (fun c125 => ?_) (fun c125 => ?_)
            · rw [if_neg c125] at hF
              refine lv_iconst (v := (0 : Int32)) hx hb dX6_faultOf_132 (by decide) ?_
              refine lv_istore (lv' := [(5, .int (0 : Int32)), (4, .int (fX6_isLetter (pd j4))), (3, .int (pd j4)), (2, .int (nI j4)), (1, .int st0), (0, .ref hm)]) hx hb dX6_faultOf_133 hl (by decide) rfl (fun ls hl => ?_)
              refine lv_iload hx hb dX6_faultOf_135 (lv_at hl 1 rfl) ?_
              refine lv_if_ne (tgt := 142) hx hb dX6_faultOf_137 (by decide) (fun c137 => ?_) (fun c137 => ?_)
              · rw [if_neg c137] at hF
                refine lv_iload hx hb dX6_faultOf_142 (lv_at hl 0 rfl) ?_
                refine lv_istore_n (lv' := [(1, .int (0 : Int32)), (5, .int (0 : Int32)), (4, .int (fX6_isLetter (pd j4))), (3, .int (pd j4)), (2, .int (nI j4)), (0, .ref hm)]) hx hb dX6_faultOf_144 rfl hl (by decide) rfl (fun ls hl => ?_)
                refine lv_iinc (v := (nI (j4 + 1))) (lv' := [(2, .int (nI (j4 + 1))), (1, .int (0 : Int32)), (5, .int (0 : Int32)), (4, .int (fX6_isLetter (pd j4))), (3, .int (pd j4)), (0, .ref hm)]) hx hb dX6_faultOf_145 hl (k := 4) rfl (by exact nI_add (j4) 1) (by decide) rfl (fun ls hl => ?_)
                refine lv_goto (tgt := 4) hx hb dX6_faultOf_148 (by decide) ?_
                exact ih (j4 + 1) (0 : Int32) (by omega)  hF _ (lv_sub hl [0, 1, 5] rfl)
              · rw [if_pos c137] at hF
                refine lv_iload_n hx hb dX6_faultOf_140 rfl (lv_at hl 3 rfl) ?_
                exact W.iret hx hb hr (fun t ht _ => ⟨congrArg (fun z => Outcome.returned (some (Value.int z))) hF, ht⟩) (fun _ h => absurd h List.not_mem_nil) dX6_faultOf_141
            · rw [if_pos c125] at hF
              refine lv_iconst (v := (4 : Int32)) hx hb dX6_faultOf_128 (by decide) ?_
              refine lv_goto (tgt := 133) hx hb dX6_faultOf_129 (by decide) ?_
              refine lv_istore (lv' := [(5, .int (4 : Int32)), (4, .int (fX6_isLetter (pd j4))), (3, .int (pd j4)), (2, .int (nI j4)), (1, .int st0), (0, .ref hm)]) hx hb dX6_faultOf_133 hl (by decide) rfl (fun ls hl => ?_)
              refine lv_iload hx hb dX6_faultOf_135 (lv_at hl 1 rfl) ?_
              refine lv_if_ne (tgt := 142) hx hb dX6_faultOf_137 (by decide) (fun c137 => ?_) (fun c137 => ?_)
              · rw [if_neg c137] at hF
                refine lv_iload hx hb dX6_faultOf_142 (lv_at hl 0 rfl) ?_
                refine lv_istore_n (lv' := [(1, .int (4 : Int32)), (5, .int (4 : Int32)), (4, .int (fX6_isLetter (pd j4))), (3, .int (pd j4)), (2, .int (nI j4)), (0, .ref hm)]) hx hb dX6_faultOf_144 rfl hl (by decide) rfl (fun ls hl => ?_)
                refine lv_iinc (v := (nI (j4 + 1))) (lv' := [(2, .int (nI (j4 + 1))), (1, .int (4 : Int32)), (5, .int (4 : Int32)), (4, .int (fX6_isLetter (pd j4))), (3, .int (pd j4)), (0, .ref hm)]) hx hb dX6_faultOf_145 hl (k := 4) rfl (by exact nI_add (j4) 1) (by decide) rfl (fun ls hl => ?_)
                refine lv_goto (tgt := 4) hx hb dX6_faultOf_148 (by decide) ?_
                exact ih (j4 + 1) (4 : Int32) (by omega)  hF _ (lv_sub hl [0, 1, 5] rfl)
              · rw [if_pos c137] at hF
                refine lv_iload_n hx hb dX6_faultOf_140 rfl (lv_at hl 3 rfl) ?_
                exact W.iret hx hb hr (fun t ht _ => ⟨congrArg (fun z => Outcome.returned (some (Value.int z))) hF, ht⟩) (fun _ h => absurd h List.not_mem_nil) dX6_faultOf_141
          · rw [if_pos c105] at hF
            refine lv_iload_n hx hb dX6_faultOf_108 rfl (lv_at hl 1 rfl) ?_
            refine kx_cS (As := [.int (pd j4)]) (rest := []) ⟨hx, hb, hml, hown, hts⟩ (c_X6_isHand l dC dI cyI cyZ  (pd j4)  _ rfl) (va_cwS 1 hts gX6_faultOf_X6_isHand rfl rfl rfl (by decide +kernel) ⟨Nat.le_of_ble_eq_true rfl, Nat.le_of_ble_eq_true rfl⟩) hP hK hN [] rfl [0, 1] rfl rfl hl.1 rfl (Nat.le_of_ble_eq_true rfl) dX6_faultOf_109 ⟨Nat.zero_le _, Nat.zero_le _⟩ ?_
            refine lv_istore (lv' := [(4, .int (fX6_isHand (pd j4))), (5, .int (0 : Int32)), (3, .int (pd j4)), (2, .int (nI j4)), (1, .int st0), (0, .ref hm)]) hx hb dX6_faultOf_112 hl (by decide) rfl (fun ls hl => ?_)
            refine lv_goto (tgt := 135) hx hb dX6_faultOf_114 (by decide) ?_
            refine lv_iload hx hb dX6_faultOf_135 (lv_at hl 0 rfl) ?_
            refine lv_if_ne (tgt := 142) hx hb dX6_faultOf_137 (by decide) (fun c137 => ?_) (fun c137 => ?_)
            · rw [if_neg c137] at hF
              refine lv_iload hx hb dX6_faultOf_142 (lv_at hl 1 rfl) ?_
              refine lv_istore_n (lv' := [(1, .int (0 : Int32)), (4, .int (fX6_isHand (pd j4))), (5, .int (0 : Int32)), (3, .int (pd j4)), (2, .int (nI j4)), (0, .ref hm)]) hx hb dX6_faultOf_144 rfl hl (by decide) rfl (fun ls hl => ?_)
              refine lv_iinc (v := (nI (j4 + 1))) (lv' := [(2, .int (nI (j4 + 1))), (1, .int (0 : Int32)), (4, .int (fX6_isHand (pd j4))), (5, .int (0 : Int32)), (3, .int (pd j4)), (0, .ref hm)]) hx hb dX6_faultOf_145 hl (k := 4) rfl (by exact nI_add (j4) 1) (by decide) rfl (fun ls hl => ?_)
              refine lv_goto (tgt := 4) hx hb dX6_faultOf_148 (by decide) ?_
              exact ih (j4 + 1) (0 : Int32) (by omega)  hF _ (lv_sub hl [0, 1, 5] rfl)
            · rw [if_pos c137] at hF
              refine lv_iload_n hx hb dX6_faultOf_140 rfl (lv_at hl 3 rfl) ?_
              exact W.iret hx hb hr (fun t ht _ => ⟨congrArg (fun z => Outcome.returned (some (Value.int z))) hF, ht⟩) (fun _ h => absurd h List.not_mem_nil) dX6_faultOf_141
        · rw [if_pos c87] at hF
          refine lv_iload_n hx hb dX6_faultOf_90 rfl (lv_at hl 1 rfl) ?_
          refine lv_bipush (v := (48 : Int32)) hx hb dX6_faultOf_91 (by decide) ?_
          refine lv_bipush (v := (51 : Int32)) hx hb dX6_faultOf_93 (by decide) ?_
          refine kx_cS (As := [.int (pd j4), .int (48 : Int32), .int (51 : Int32)]) (rest := []) ⟨hx, hb, hml, hown, hts⟩ (c_X6_in l dC dI cyI cyZ  (pd j4) (48 : Int32) (51 : Int32)  _ rfl) (va_cwS 3 hts gX6_faultOf_X6_in rfl rfl rfl (by decide +kernel) ⟨Nat.le_of_ble_eq_true rfl, Nat.le_of_ble_eq_true rfl⟩) hP hK hN [] rfl [0, 1] rfl rfl hl.1 rfl (Nat.le_of_ble_eq_true rfl) dX6_faultOf_95 ⟨Nat.zero_le _, Nat.zero_le _⟩ ?_
          refine lv_istore (lv' := [(4, .int (fX6_in (pd j4) (48 : Int32) (51 : Int32))), (5, .int (0 : Int32)), (3, .int (pd j4)), (2, .int (nI j4)), (1, .int st0), (0, .ref hm)]) hx hb dX6_faultOf_98 hl (by decide) rfl (fun ls hl => ?_)
          refine lv_goto (tgt := 135) hx hb dX6_faultOf_100 (by decide) ?_
          refine lv_iload hx hb dX6_faultOf_135 (lv_at hl 0 rfl) ?_
          refine lv_if_ne (tgt := 142) hx hb dX6_faultOf_137 (by decide) (fun c137 => ?_) (fun c137 => ?_)
          · rw [if_neg c137] at hF
            refine lv_iload hx hb dX6_faultOf_142 (lv_at hl 1 rfl) ?_
            refine lv_istore_n (lv' := [(1, .int (0 : Int32)), (4, .int (fX6_in (pd j4) (48 : Int32) (51 : Int32))), (5, .int (0 : Int32)), (3, .int (pd j4)), (2, .int (nI j4)), (0, .ref hm)]) hx hb dX6_faultOf_144 rfl hl (by decide) rfl (fun ls hl => ?_)
            refine lv_iinc (v := (nI (j4 + 1))) (lv' := [(2, .int (nI (j4 + 1))), (1, .int (0 : Int32)), (4, .int (fX6_in (pd j4) (48 : Int32) (51 : Int32))), (5, .int (0 : Int32)), (3, .int (pd j4)), (0, .ref hm)]) hx hb dX6_faultOf_145 hl (k := 4) rfl (by exact nI_add (j4) 1) (by decide) rfl (fun ls hl => ?_)
            refine lv_goto (tgt := 4) hx hb dX6_faultOf_148 (by decide) ?_
            exact ih (j4 + 1) (0 : Int32) (by omega)  hF _ (lv_sub hl [0, 1, 5] rfl)
          · rw [if_pos c137] at hF
            refine lv_iload_n hx hb dX6_faultOf_140 rfl (lv_at hl 3 rfl) ?_
            exact W.iret hx hb hr (fun t ht _ => ⟨congrArg (fun z => Outcome.returned (some (Value.int z))) hF, ht⟩) (fun _ h => absurd h List.not_mem_nil) dX6_faultOf_141
      · rw [if_pos c23] at hF
        refine lv_iload_n hx hb dX6_faultOf_26 rfl (lv_at hl 1 rfl) ?_
        refine kx_cS (As := [.int (pd j4)]) (rest := []) ⟨hx, hb, hml, hown, hts⟩ (c_X6_isHand l dC dI cyI cyZ  (pd j4)  _ rfl) (va_cwS 1 hts gX6_faultOf_X6_isHand rfl rfl rfl (by decide +kernel) ⟨Nat.le_of_ble_eq_true rfl, Nat.le_of_ble_eq_true rfl⟩) hP hK hN [] rfl [0, 1] rfl rfl hl.1 rfl (Nat.le_of_ble_eq_true rfl) dX6_faultOf_27 ⟨Nat.zero_le _, Nat.zero_le _⟩ ?_
        refine lv_if_ne (tgt := 51) hx hb dX6_faultOf_30 (by decide) (fun c30 => ?_) (fun c30 => ?_)
        · rw [if_neg c30] at hF
          refine lv_iconst (v := (1 : Int32)) hx hb dX6_faultOf_51 (by decide) ?_
          refine lv_goto (tgt := 56) hx hb dX6_faultOf_52 (by decide) ?_
          refine lv_istore (lv' := [(4, .int (1 : Int32)), (5, .int (0 : Int32)), (3, .int (pd j4)), (2, .int (nI j4)), (1, .int st0), (0, .ref hm)]) hx hb dX6_faultOf_56 hl (by decide) rfl (fun ls hl => ?_)
          refine lv_iload_n hx hb dX6_faultOf_58 rfl (lv_at hl 2 rfl) ?_
          refine kx_cS (As := [.int (pd j4)]) (rest := []) ⟨hx, hb, hml, hown, hts⟩ (c_X6_isHand l dC dI cyI cyZ  (pd j4)  _ rfl) (va_cwS 1 hts gX6_faultOf_X6_isHand rfl rfl rfl (by decide +kernel) ⟨Nat.le_of_ble_eq_true rfl, Nat.le_of_ble_eq_true rfl⟩) hP hK hN [] rfl [0, 1] rfl rfl hl.1 rfl (Nat.le_of_ble_eq_true rfl) dX6_faultOf_59 ⟨Nat.zero_le _, Nat.zero_le _⟩ ?_
          refine lv_if_eq (tgt := 69) hx hb dX6_faultOf_62 (by decide) (fun c62 => ?_) (fun c62 => ?_)
          · rw [if_pos c62] at hF
            refine lv_iload_n hx hb dX6_faultOf_69 rfl (lv_at hl 2 rfl) ?_
            refine lv_bipush (v := (43 : Int32)) hx hb dX6_faultOf_70 (by decide) ?_
            refine lv_icmp_ne (tgt := 79) hx hb dX6_faultOf_72 (by decide) (fun c72 => ?_) (fun c72 => ?_)
            · rw [if_neg c72] at hF
              refine lv_iconst (v := (2 : Int32)) hx hb dX6_faultOf_79 (by decide) ?_
              refine lv_istore (lv' := [(5, .int (2 : Int32)), (4, .int (1 : Int32)), (3, .int (pd j4)), (2, .int (nI j4)), (1, .int st0), (0, .ref hm)]) hx hb dX6_faultOf_80 hl (by decide) rfl (fun ls hl => ?_)
              refine lv_goto (tgt := 135) hx hb dX6_faultOf_82 (by decide) ?_
              refine lv_iload hx hb dX6_faultOf_135 (lv_at hl 1 rfl) ?_
              refine lv_if_ne (tgt := 142) hx hb dX6_faultOf_137 (by decide) (fun c137 => ?_) (fun c137 => absurd c137 (by decide))
              refine lv_iload hx hb dX6_faultOf_142 (lv_at hl 0 rfl) ?_
              refine lv_istore_n (lv' := [(1, .int (2 : Int32)), (5, .int (2 : Int32)), (4, .int (1 : Int32)), (3, .int (pd j4)), (2, .int (nI j4)), (0, .ref hm)]) hx hb dX6_faultOf_144 rfl hl (by decide) rfl (fun ls hl => ?_)
              refine lv_iinc (v := (nI (j4 + 1))) (lv' := [(2, .int (nI (j4 + 1))), (1, .int (2 : Int32)), (5, .int (2 : Int32)), (4, .int (1 : Int32)), (3, .int (pd j4)), (0, .ref hm)]) hx hb dX6_faultOf_145 hl (k := 4) rfl (by exact nI_add (j4) 1) (by decide) rfl (fun ls hl => ?_)
              refine lv_goto (tgt := 4) hx hb dX6_faultOf_148 (by decide) ?_
              exact ih (j4 + 1) (2 : Int32) (by omega)  hF _ (lv_sub hl [0, 1, 5] rfl)
            · rw [if_pos c72] at hF
              refine lv_iconst (v := (3 : Int32)) hx hb dX6_faultOf_75 (by decide) ?_
              refine lv_goto (tgt := 80) hx hb dX6_faultOf_76 (by decide) ?_
              refine lv_istore (lv' := [(5, .int (3 : Int32)), (4, .int (1 : Int32)), (3, .int (pd j4)), (2, .int (nI j4)), (1, .int st0), (0, .ref hm)]) hx hb dX6_faultOf_80 hl (by decide) rfl (fun ls hl => ?_)
              refine lv_goto (tgt := 135) hx hb dX6_faultOf_82 (by decide) ?_
              refine lv_iload hx hb dX6_faultOf_135 (lv_at hl 1 rfl) ?_
              refine lv_if_ne (tgt := 142) hx hb dX6_faultOf_137 (by decide) (fun c137 => ?_) (fun c137 => absurd c137 (by decide))
              refine lv_iload hx hb dX6_faultOf_142 (lv_at hl 0 rfl) ?_
              refine lv_istore_n (lv' := [(1, .int (3 : Int32)), (5, .int (3 : Int32)), (4, .int (1 : Int32)), (3, .int (pd j4)), (2, .int (nI j4)), (0, .ref hm)]) hx hb dX6_faultOf_144 rfl hl (by decide) rfl (fun ls hl => ?_)
              refine lv_iinc (v := (nI (j4 + 1))) (lv' := [(2, .int (nI (j4 + 1))), (1, .int (3 : Int32)), (5, .int (3 : Int32)), (4, .int (1 : Int32)), (3, .int (pd j4)), (0, .ref hm)]) hx hb dX6_faultOf_145 hl (k := 4) rfl (by exact nI_add (j4) 1) (by decide) rfl (fun ls hl => ?_)
              refine lv_goto (tgt := 4) hx hb dX6_faultOf_148 (by decide) ?_
              exact ih (j4 + 1) (3 : Int32) (by omega)  hF _ (lv_sub hl [0, 1, 5] rfl)
          · rw [if_neg c62] at hF
            refine lv_iconst (v := (1 : Int32)) hx hb dX6_faultOf_65 (by decide) ?_
            refine lv_goto (tgt := 80) hx hb dX6_faultOf_66 (by decide) ?_
            refine lv_istore (lv' := [(5, .int (1 : Int32)), (4, .int (1 : Int32)), (3, .int (pd j4)), (2, .int (nI j4)), (1, .int st0), (0, .ref hm)]) hx hb dX6_faultOf_80 hl (by decide) rfl (fun ls hl => ?_)
            refine lv_goto (tgt := 135) hx hb dX6_faultOf_82 (by decide) ?_
            refine lv_iload hx hb dX6_faultOf_135 (lv_at hl 1 rfl) ?_
            refine lv_if_ne (tgt := 142) hx hb dX6_faultOf_137 (by decide) (fun c137 => ?_) (fun c137 => absurd c137 (by decide))
            refine lv_iload hx hb dX6_faultOf_142 (lv_at hl 0 rfl) ?_
            refine lv_istore_n (lv' := [(1, .int (1 : Int32)), (5, .int (1 : Int32)), (4, .int (1 : Int32)), (3, .int (pd j4)), (2, .int (nI j4)), (0, .ref hm)]) hx hb dX6_faultOf_144 rfl hl (by decide) rfl (fun ls hl => ?_)
            refine lv_iinc (v := (nI (j4 + 1))) (lv' := [(2, .int (nI (j4 + 1))), (1, .int (1 : Int32)), (5, .int (1 : Int32)), (4, .int (1 : Int32)), (3, .int (pd j4)), (0, .ref hm)]) hx hb dX6_faultOf_145 hl (k := 4) rfl (by exact nI_add (j4) 1) (by decide) rfl (fun ls hl => ?_)
            refine lv_goto (tgt := 4) hx hb dX6_faultOf_148 (by decide) ?_
            exact ih (j4 + 1) (1 : Int32) (by omega)  hF _ (lv_sub hl [0, 1, 5] rfl)
        · rw [if_pos c30] at hF
          refine lv_iload_n hx hb dX6_faultOf_33 rfl (lv_at hl 1 rfl) ?_
          refine lv_bipush (v := (45 : Int32)) hx hb dX6_faultOf_34 (by decide) ?_
          refine lv_icmp_eq (tgt := 51) hx hb dX6_faultOf_36 (by decide) (fun c36 => ?_) (fun c36 => ?_)
          · rw [if_pos c36] at hF
            refine lv_iconst (v := (1 : Int32)) hx hb dX6_faultOf_51 (by decide) ?_
            refine lv_goto (tgt := 56) hx hb dX6_faultOf_52 (by decide) ?_
            refine lv_istore (lv' := [(4, .int (1 : Int32)), (5, .int (0 : Int32)), (3, .int (pd j4)), (2, .int (nI j4)), (1, .int st0), (0, .ref hm)]) hx hb dX6_faultOf_56 hl (by decide) rfl (fun ls hl => ?_)
            refine lv_iload_n hx hb dX6_faultOf_58 rfl (lv_at hl 2 rfl) ?_
            refine kx_cS (As := [.int (pd j4)]) (rest := []) ⟨hx, hb, hml, hown, hts⟩ (c_X6_isHand l dC dI cyI cyZ  (pd j4)  _ rfl) (va_cwS 1 hts gX6_faultOf_X6_isHand rfl rfl rfl (by decide +kernel) ⟨Nat.le_of_ble_eq_true rfl, Nat.le_of_ble_eq_true rfl⟩) hP hK hN [] rfl [0, 1] rfl rfl hl.1 rfl (Nat.le_of_ble_eq_true rfl) dX6_faultOf_59 ⟨Nat.zero_le _, Nat.zero_le _⟩ ?_
            refine lv_if_eq (tgt := 69) hx hb dX6_faultOf_62 (by decide) (fun c62 => ?_) (fun c62 => ?_)
            · rw [if_pos c62] at hF
              refine lv_iload_n hx hb dX6_faultOf_69 rfl (lv_at hl 2 rfl) ?_
              refine lv_bipush (v := (43 : Int32)) hx hb dX6_faultOf_70 (by decide) ?_
              refine lv_icmp_ne (tgt := 79) hx hb dX6_faultOf_72 (by decide) (fun c72 => ?_) (fun c72 => ?_)
              · rw [if_neg c72] at hF
                refine lv_iconst (v := (2 : Int32)) hx hb dX6_faultOf_79 (by decide) ?_
                refine lv_istore (lv' := [(5, .int (2 : Int32)), (4, .int (1 : Int32)), (3, .int (pd j4)), (2, .int (nI j4)), (1, .int st0), (0, .ref hm)]) hx hb dX6_faultOf_80 hl (by decide) rfl (fun ls hl => ?_)
                refine lv_goto (tgt := 135) hx hb dX6_faultOf_82 (by decide) ?_
                refine lv_iload hx hb dX6_faultOf_135 (lv_at hl 1 rfl) ?_
                refine lv_if_ne (tgt := 142) hx hb dX6_faultOf_137 (by decide) (fun c137 => ?_) (fun c137 => absurd c137 (by decide))
                refine lv_iload hx hb dX6_faultOf_142 (lv_at hl 0 rfl) ?_
                refine lv_istore_n (lv' := [(1, .int (2 : Int32)), (5, .int (2 : Int32)), (4, .int (1 : Int32)), (3, .int (pd j4)), (2, .int (nI j4)), (0, .ref hm)]) hx hb dX6_faultOf_144 rfl hl (by decide) rfl (fun ls hl => ?_)
                refine lv_iinc (v := (nI (j4 + 1))) (lv' := [(2, .int (nI (j4 + 1))), (1, .int (2 : Int32)), (5, .int (2 : Int32)), (4, .int (1 : Int32)), (3, .int (pd j4)), (0, .ref hm)]) hx hb dX6_faultOf_145 hl (k := 4) rfl (by exact nI_add (j4) 1) (by decide) rfl (fun ls hl => ?_)
                refine lv_goto (tgt := 4) hx hb dX6_faultOf_148 (by decide) ?_
                exact ih (j4 + 1) (2 : Int32) (by omega)  hF _ (lv_sub hl [0, 1, 5] rfl)
              · rw [if_pos c72] at hF
                refine lv_iconst (v := (3 : Int32)) hx hb dX6_faultOf_75 (by decide) ?_
                refine lv_goto (tgt := 80) hx hb dX6_faultOf_76 (by decide) ?_
                refine lv_istore (lv' := [(5, .int (3 : Int32)), (4, .int (1 : Int32)), (3, .int (pd j4)), (2, .int (nI j4)), (1, .int st0), (0, .ref hm)]) hx hb dX6_faultOf_80 hl (by decide) rfl (fun ls hl => ?_)
                refine lv_goto (tgt := 135) hx hb dX6_faultOf_82 (by decide) ?_
                refine lv_iload hx hb dX6_faultOf_135 (lv_at hl 1 rfl) ?_
                refine lv_if_ne (tgt := 142) hx hb dX6_faultOf_137 (by decide) (fun c137 => ?_) (fun c137 => absurd c137 (by decide))
                refine lv_iload hx hb dX6_faultOf_142 (lv_at hl 0 rfl) ?_
                refine lv_istore_n (lv' := [(1, .int (3 : Int32)), (5, .int (3 : Int32)), (4, .int (1 : Int32)), (3, .int (pd j4)), (2, .int (nI j4)), (0, .ref hm)]) hx hb dX6_faultOf_144 rfl hl (by decide) rfl (fun ls hl => ?_)
                refine lv_iinc (v := (nI (j4 + 1))) (lv' := [(2, .int (nI (j4 + 1))), (1, .int (3 : Int32)), (5, .int (3 : Int32)), (4, .int (1 : Int32)), (3, .int (pd j4)), (0, .ref hm)]) hx hb dX6_faultOf_145 hl (k := 4) rfl (by exact nI_add (j4) 1) (by decide) rfl (fun ls hl => ?_)
                refine lv_goto (tgt := 4) hx hb dX6_faultOf_148 (by decide) ?_
                exact ih (j4 + 1) (3 : Int32) (by omega)  hF _ (lv_sub hl [0, 1, 5] rfl)
            · rw [if_neg c62] at hF
              refine lv_iconst (v := (1 : Int32)) hx hb dX6_faultOf_65 (by decide) ?_
              refine lv_goto (tgt := 80) hx hb dX6_faultOf_66 (by decide) ?_
              refine lv_istore (lv' := [(5, .int (1 : Int32)), (4, .int (1 : Int32)), (3, .int (pd j4)), (2, .int (nI j4)), (1, .int st0), (0, .ref hm)]) hx hb dX6_faultOf_80 hl (by decide) rfl (fun ls hl => ?_)
              refine lv_goto (tgt := 135) hx hb dX6_faultOf_82 (by decide) ?_
              refine lv_iload hx hb dX6_faultOf_135 (lv_at hl 1 rfl) ?_
              refine lv_if_ne (tgt := 142) hx hb dX6_faultOf_137 (by decide) (fun c137 => ?_) (fun c137 => absurd c137 (by decide))
              refine lv_iload hx hb dX6_faultOf_142 (lv_at hl 0 rfl) ?_
              refine lv_istore_n (lv' := [(1, .int (1 : Int32)), (5, .int (1 : Int32)), (4, .int (1 : Int32)), (3, .int (pd j4)), (2, .int (nI j4)), (0, .ref hm)]) hx hb dX6_faultOf_144 rfl hl (by decide) rfl (fun ls hl => ?_)
              refine lv_iinc (v := (nI (j4 + 1))) (lv' := [(2, .int (nI (j4 + 1))), (1, .int (1 : Int32)), (5, .int (1 : Int32)), (4, .int (1 : Int32)), (3, .int (pd j4)), (0, .ref hm)]) hx hb dX6_faultOf_145 hl (k := 4) rfl (by exact nI_add (j4) 1) (by decide) rfl (fun ls hl => ?_)
              refine lv_goto (tgt := 4) hx hb dX6_faultOf_148 (by decide) ?_
              exact ih (j4 + 1) (1 : Int32) (by omega)  hF _ (lv_sub hl [0, 1, 5] rfl)
          · rw [if_neg c36] at hF
            refine lv_iload_n hx hb dX6_faultOf_39 rfl (lv_at hl 1 rfl) ?_
            refine lv_bipush (v := (42 : Int32)) hx hb dX6_faultOf_40 (by decide) ?_
            refine lv_icmp_eq (tgt := 51) hx hb dX6_faultOf_42 (by decide) (fun c42 => ?_) (fun c42 => ?_)
            · rw [if_pos c42] at hF
              refine lv_iconst (v := (1 : Int32)) hx hb dX6_faultOf_51 (by decide) ?_
              refine lv_goto (tgt := 56) hx hb dX6_faultOf_52 (by decide) ?_
              refine lv_istore (lv' := [(4, .int (1 : Int32)), (5, .int (0 : Int32)), (3, .int (pd j4)), (2, .int (nI j4)), (1, .int st0), (0, .ref hm)]) hx hb dX6_faultOf_56 hl (by decide) rfl (fun ls hl => ?_)
              refine lv_iload_n hx hb dX6_faultOf_58 rfl (lv_at hl 2 rfl) ?_
              refine kx_cS (As := [.int (pd j4)]) (rest := []) ⟨hx, hb, hml, hown, hts⟩ (c_X6_isHand l dC dI cyI cyZ  (pd j4)  _ rfl) (va_cwS 1 hts gX6_faultOf_X6_isHand rfl rfl rfl (by decide +kernel) ⟨Nat.le_of_ble_eq_true rfl, Nat.le_of_ble_eq_true rfl⟩) hP hK hN [] rfl [0, 1] rfl rfl hl.1 rfl (Nat.le_of_ble_eq_true rfl) dX6_faultOf_59 ⟨Nat.zero_le _, Nat.zero_le _⟩ ?_
              refine lv_if_eq (tgt := 69) hx hb dX6_faultOf_62 (by decide) (fun c62 => ?_) (fun c62 => ?_)
              · rw [if_pos c62] at hF
                refine lv_iload_n hx hb dX6_faultOf_69 rfl (lv_at hl 2 rfl) ?_
                refine lv_bipush (v := (43 : Int32)) hx hb dX6_faultOf_70 (by decide) ?_
                refine lv_icmp_ne (tgt := 79) hx hb dX6_faultOf_72 (by decide) (fun c72 => ?_) (fun c72 => ?_)
                · rw [if_neg c72] at hF
                  refine lv_iconst (v := (2 : Int32)) hx hb dX6_faultOf_79 (by decide) ?_
                  refine lv_istore (lv' := [(5, .int (2 : Int32)), (4, .int (1 : Int32)), (3, .int (pd j4)), (2, .int (nI j4)), (1, .int st0), (0, .ref hm)]) hx hb dX6_faultOf_80 hl (by decide) rfl (fun ls hl => ?_)
                  refine lv_goto (tgt := 135) hx hb dX6_faultOf_82 (by decide) ?_
                  refine lv_iload hx hb dX6_faultOf_135 (lv_at hl 1 rfl) ?_
                  refine lv_if_ne (tgt := 142) hx hb dX6_faultOf_137 (by decide) (fun c137 => ?_) (fun c137 => absurd c137 (by decide))
                  refine lv_iload hx hb dX6_faultOf_142 (lv_at hl 0 rfl) ?_
                  refine lv_istore_n (lv' := [(1, .int (2 : Int32)), (5, .int (2 : Int32)), (4, .int (1 : Int32)), (3, .int (pd j4)), (2, .int (nI j4)), (0, .ref hm)]) hx hb dX6_faultOf_144 rfl hl (by decide) rfl (fun ls hl => ?_)
                  refine lv_iinc (v := (nI (j4 + 1))) (lv' := [(2, .int (nI (j4 + 1))), (1, .int (2 : Int32)), (5, .int (2 : Int32)), (4, .int (1 : Int32)), (3, .int (pd j4)), (0, .ref hm)]) hx hb dX6_faultOf_145 hl (k := 4) rfl (by exact nI_add (j4) 1) (by decide) rfl (fun ls hl => ?_)
                  refine lv_goto (tgt := 4) hx hb dX6_faultOf_148 (by decide) ?_
                  exact ih (j4 + 1) (2 : Int32) (by omega)  hF _ (lv_sub hl [0, 1, 5] rfl)
                · rw [if_pos c72] at hF
                  refine lv_iconst (v := (3 : Int32)) hx hb dX6_faultOf_75 (by decide) ?_
                  refine lv_goto (tgt := 80) hx hb dX6_faultOf_76 (by decide) ?_
                  refine lv_istore (lv' := [(5, .int (3 : Int32)), (4, .int (1 : Int32)), (3, .int (pd j4)), (2, .int (nI j4)), (1, .int st0), (0, .ref hm)]) hx hb dX6_faultOf_80 hl (by decide) rfl (fun ls hl => ?_)
                  refine lv_goto (tgt := 135) hx hb dX6_faultOf_82 (by decide) ?_
                  refine lv_iload hx hb dX6_faultOf_135 (lv_at hl 1 rfl) ?_
                  refine lv_if_ne (tgt := 142) hx hb dX6_faultOf_137 (by decide) (fun c137 => ?_) (fun c137 => absurd c137 (by decide))
                  refine lv_iload hx hb dX6_faultOf_142 (lv_at hl 0 rfl) ?_
                  refine lv_istore_n (lv' := [(1, .int (3 : Int32)), (5, .int (3 : Int32)), (4, .int (1 : Int32)), (3, .int (pd j4)), (2, .int (nI j4)), (0, .ref hm)]) hx hb dX6_faultOf_144 rfl hl (by decide) rfl (fun ls hl => ?_)
                  refine lv_iinc (v := (nI (j4 + 1))) (lv' := [(2, .int (nI (j4 + 1))), (1, .int (3 : Int32)), (5, .int (3 : Int32)), (4, .int (1 : Int32)), (3, .int (pd j4)), (0, .ref hm)]) hx hb dX6_faultOf_145 hl (k := 4) rfl (by exact nI_add (j4) 1) (by decide) rfl (fun ls hl => ?_)
                  refine lv_goto (tgt := 4) hx hb dX6_faultOf_148 (by decide) ?_
                  exact ih (j4 + 1) (3 : Int32) (by omega)  hF _ (lv_sub hl [0, 1, 5] rfl)
              · rw [if_neg c62] at hF
                refine lv_iconst (v := (1 : Int32)) hx hb dX6_faultOf_65 (by decide) ?_
                refine lv_goto (tgt := 80) hx hb dX6_faultOf_66 (by decide) ?_
                refine lv_istore (lv' := [(5, .int (1 : Int32)), (4, .int (1 : Int32)), (3, .int (pd j4)), (2, .int (nI j4)), (1, .int st0), (0, .ref hm)]) hx hb dX6_faultOf_80 hl (by decide) rfl (fun ls hl => ?_)
                refine lv_goto (tgt := 135) hx hb dX6_faultOf_82 (by decide) ?_
                refine lv_iload hx hb dX6_faultOf_135 (lv_at hl 1 rfl) ?_
                refine lv_if_ne (tgt := 142) hx hb dX6_faultOf_137 (by decide) (fun c137 => ?_) (fun c137 => absurd c137 (by decide))
                refine lv_iload hx hb dX6_faultOf_142 (lv_at hl 0 rfl) ?_
                refine lv_istore_n (lv' := [(1, .int (1 : Int32)), (5, .int (1 : Int32)), (4, .int (1 : Int32)), (3, .int (pd j4)), (2, .int (nI j4)), (0, .ref hm)]) hx hb dX6_faultOf_144 rfl hl (by decide) rfl (fun ls hl => ?_)
                refine lv_iinc (v := (nI (j4 + 1))) (lv' := [(2, .int (nI (j4 + 1))), (1, .int (1 : Int32)), (5, .int (1 : Int32)), (4, .int (1 : Int32)), (3, .int (pd j4)), (0, .ref hm)]) hx hb dX6_faultOf_145 hl (k := 4) rfl (by exact nI_add (j4) 1) (by decide) rfl (fun ls hl => ?_)
                refine lv_goto (tgt := 4) hx hb dX6_faultOf_148 (by decide) ?_
                exact ih (j4 + 1) (1 : Int32) (by omega)  hF _ (lv_sub hl [0, 1, 5] rfl)
            · rw [if_neg c42] at hF
              refine lv_iload_n hx hb dX6_faultOf_45 rfl (lv_at hl 1 rfl) ?_
              refine lv_bipush (v := (43 : Int32)) hx hb dX6_faultOf_46 (by decide) ?_
              refine lv_icmp_ne (tgt := 55) hx hb dX6_faultOf_48 (by decide) (fun c48 => ?_) (fun c48 => ?_)
              · rw [if_neg c48] at hF
                refine lv_iconst (v := (0 : Int32)) hx hb dX6_faultOf_55 (by decide) ?_
                refine lv_istore (lv' := [(4, .int (0 : Int32)), (5, .int (0 : Int32)), (3, .int (pd j4)), (2, .int (nI j4)), (1, .int st0), (0, .ref hm)]) hx hb dX6_faultOf_56 hl (by decide) rfl (fun ls hl => ?_)
                refine lv_iload_n hx hb dX6_faultOf_58 rfl (lv_at hl 2 rfl) ?_
                refine kx_cS (As := [.int (pd j4)]) (rest := []) ⟨hx, hb, hml, hown, hts⟩ (c_X6_isHand l dC dI cyI cyZ  (pd j4)  _ rfl) (va_cwS 1 hts gX6_faultOf_X6_isHand rfl rfl rfl (by decide +kernel) ⟨Nat.le_of_ble_eq_true rfl, Nat.le_of_ble_eq_true rfl⟩) hP hK hN [] rfl [0, 1] rfl rfl hl.1 rfl (Nat.le_of_ble_eq_true rfl) dX6_faultOf_59 ⟨Nat.zero_le _, Nat.zero_le _⟩ ?_
                refine lv_if_eq (tgt := 69) hx hb dX6_faultOf_62 (by decide) (fun c62 => ?_) (fun c62 => ?_)
                · rw [if_pos c62] at hF
                  refine lv_iload_n hx hb dX6_faultOf_69 rfl (lv_at hl 2 rfl) ?_
                  refine lv_bipush (v := (43 : Int32)) hx hb dX6_faultOf_70 (by decide) ?_
                  refine lv_icmp_ne (tgt := 79) hx hb dX6_faultOf_72 (by decide) (fun c72 => ?_) (fun c72 => ?_)
                  · rw [if_neg c72] at hF
                    refine lv_iconst (v := (2 : Int32)) hx hb dX6_faultOf_79 (by decide) ?_
                    refine lv_istore (lv' := [(5, .int (2 : Int32)), (4, .int (0 : Int32)), (3, .int (pd j4)), (2, .int (nI j4)), (1, .int st0), (0, .ref hm)]) hx hb dX6_faultOf_80 hl (by decide) rfl (fun ls hl => ?_)
                    refine lv_goto (tgt := 135) hx hb dX6_faultOf_82 (by decide) ?_
                    refine lv_iload hx hb dX6_faultOf_135 (lv_at hl 1 rfl) ?_
                    refine lv_if_ne (tgt := 142) hx hb dX6_faultOf_137 (by decide) (fun c137 => absurd c137 (by decide)) (fun c137 => ?_)
                    refine lv_iload_n hx hb dX6_faultOf_140 rfl (lv_at hl 3 rfl) ?_
                    exact W.iret hx hb hr (fun t ht _ => ⟨congrArg (fun z => Outcome.returned (some (Value.int z))) hF, ht⟩) (fun _ h => absurd h List.not_mem_nil) dX6_faultOf_141
                  · rw [if_pos c72] at hF
                    refine lv_iconst (v := (3 : Int32)) hx hb dX6_faultOf_75 (by decide) ?_
                    refine lv_goto (tgt := 80) hx hb dX6_faultOf_76 (by decide) ?_
                    refine lv_istore (lv' := [(5, .int (3 : Int32)), (4, .int (0 : Int32)), (3, .int (pd j4)), (2, .int (nI j4)), (1, .int st0), (0, .ref hm)]) hx hb dX6_faultOf_80 hl (by decide) rfl (fun ls hl => ?_)
                    refine lv_goto (tgt := 135) hx hb dX6_faultOf_82 (by decide) ?_
                    refine lv_iload hx hb dX6_faultOf_135 (lv_at hl 1 rfl) ?_
                    refine lv_if_ne (tgt := 142) hx hb dX6_faultOf_137 (by decide) (fun c137 => absurd c137 (by decide)) (fun c137 => ?_)
                    refine lv_iload_n hx hb dX6_faultOf_140 rfl (lv_at hl 3 rfl) ?_
                    exact W.iret hx hb hr (fun t ht _ => ⟨congrArg (fun z => Outcome.returned (some (Value.int z))) hF, ht⟩) (fun _ h => absurd h List.not_mem_nil) dX6_faultOf_141
                · rw [if_neg c62] at hF
                  refine lv_iconst (v := (1 : Int32)) hx hb dX6_faultOf_65 (by decide) ?_
                  refine lv_goto (tgt := 80) hx hb dX6_faultOf_66 (by decide) ?_
                  refine lv_istore (lv' := [(5, .int (1 : Int32)), (4, .int (0 : Int32)), (3, .int (pd j4)), (2, .int (nI j4)), (1, .int st0), (0, .ref hm)]) hx hb dX6_faultOf_80 hl (by decide) rfl (fun ls hl => ?_)
                  refine lv_goto (tgt := 135) hx hb dX6_faultOf_82 (by decide) ?_
                  refine lv_iload hx hb dX6_faultOf_135 (lv_at hl 1 rfl) ?_
                  refine lv_if_ne (tgt := 142) hx hb dX6_faultOf_137 (by decide) (fun c137 => absurd c137 (by decide)) (fun c137 => ?_)
                  refine lv_iload_n hx hb dX6_faultOf_140 rfl (lv_at hl 3 rfl) ?_
                  exact W.iret hx hb hr (fun t ht _ => ⟨congrArg (fun z => Outcome.returned (some (Value.int z))) hF, ht⟩) (fun _ h => absurd h List.not_mem_nil) dX6_faultOf_141
              · rw [if_pos c48] at hF
                refine lv_iconst (v := (1 : Int32)) hx hb dX6_faultOf_51 (by decide) ?_
                refine lv_goto (tgt := 56) hx hb dX6_faultOf_52 (by decide) ?_
                refine lv_istore (lv' := [(4, .int (1 : Int32)), (5, .int (0 : Int32)), (3, .int (pd j4)), (2, .int (nI j4)), (1, .int st0), (0, .ref hm)]) hx hb dX6_faultOf_56 hl (by decide) rfl (fun ls hl => ?_)
                refine lv_iload_n hx hb dX6_faultOf_58 rfl (lv_at hl 2 rfl) ?_
                refine kx_cS (As := [.int (pd j4)]) (rest := []) ⟨hx, hb, hml, hown, hts⟩ (c_X6_isHand l dC dI cyI cyZ  (pd j4)  _ rfl) (va_cwS 1 hts gX6_faultOf_X6_isHand rfl rfl rfl (by decide +kernel) ⟨Nat.le_of_ble_eq_true rfl, Nat.le_of_ble_eq_true rfl⟩) hP hK hN [] rfl [0, 1] rfl rfl hl.1 rfl (Nat.le_of_ble_eq_true rfl) dX6_faultOf_59 ⟨Nat.zero_le _, Nat.zero_le _⟩ ?_
                refine lv_if_eq (tgt := 69) hx hb dX6_faultOf_62 (by decide) (fun c62 => ?_) (fun c62 => ?_)
                · rw [if_pos c62] at hF
                  refine lv_iload_n hx hb dX6_faultOf_69 rfl (lv_at hl 2 rfl) ?_
                  refine lv_bipush (v := (43 : Int32)) hx hb dX6_faultOf_70 (by decide) ?_
                  refine lv_icmp_ne (tgt := 79) hx hb dX6_faultOf_72 (by decide) (fun c72 => ?_) (fun c72 => ?_)
                  · rw [if_neg c72] at hF
                    refine lv_iconst (v := (2 : Int32)) hx hb dX6_faultOf_79 (by decide) ?_
                    refine lv_istore (lv' := [(5, .int (2 : Int32)), (4, .int (1 : Int32)), (3, .int (pd j4)), (2, .int (nI j4)), (1, .int st0), (0, .ref hm)]) hx hb dX6_faultOf_80 hl (by decide) rfl (fun ls hl => ?_)
                    refine lv_goto (tgt := 135) hx hb dX6_faultOf_82 (by decide) ?_
                    refine lv_iload hx hb dX6_faultOf_135 (lv_at hl 1 rfl) ?_
                    refine lv_if_ne (tgt := 142) hx hb dX6_faultOf_137 (by decide) (fun c137 => ?_) (fun c137 => absurd c137 (by decide))
                    refine lv_iload hx hb dX6_faultOf_142 (lv_at hl 0 rfl) ?_
                    refine lv_istore_n (lv' := [(1, .int (2 : Int32)), (5, .int (2 : Int32)), (4, .int (1 : Int32)), (3, .int (pd j4)), (2, .int (nI j4)), (0, .ref hm)]) hx hb dX6_faultOf_144 rfl hl (by decide) rfl (fun ls hl => ?_)
                    refine lv_iinc (v := (nI (j4 + 1))) (lv' := [(2, .int (nI (j4 + 1))), (1, .int (2 : Int32)), (5, .int (2 : Int32)), (4, .int (1 : Int32)), (3, .int (pd j4)), (0, .ref hm)]) hx hb dX6_faultOf_145 hl (k := 4) rfl (by exact nI_add (j4) 1) (by decide) rfl (fun ls hl => ?_)
                    refine lv_goto (tgt := 4) hx hb dX6_faultOf_148 (by decide) ?_
                    exact ih (j4 + 1) (2 : Int32) (by omega)  hF _ (lv_sub hl [0, 1, 5] rfl)
                  · rw [if_pos c72] at hF
                    refine lv_iconst (v := (3 : Int32)) hx hb dX6_faultOf_75 (by decide) ?_
                    refine lv_goto (tgt := 80) hx hb dX6_faultOf_76 (by decide) ?_
                    refine lv_istore (lv' := [(5, .int (3 : Int32)), (4, .int (1 : Int32)), (3, .int (pd j4)), (2, .int (nI j4)), (1, .int st0), (0, .ref hm)]) hx hb dX6_faultOf_80 hl (by decide) rfl (fun ls hl => ?_)
                    refine lv_goto (tgt := 135) hx hb dX6_faultOf_82 (by decide) ?_
                    refine lv_iload hx hb dX6_faultOf_135 (lv_at hl 1 rfl) ?_
                    refine lv_if_ne (tgt := 142) hx hb dX6_faultOf_137 (by decide) (fun c137 => ?_) (fun c137 => absurd c137 (by decide))
                    refine lv_iload hx hb dX6_faultOf_142 (lv_at hl 0 rfl) ?_
                    refine lv_istore_n (lv' := [(1, .int (3 : Int32)), (5, .int (3 : Int32)), (4, .int (1 : Int32)), (3, .int (pd j4)), (2, .int (nI j4)), (0, .ref hm)]) hx hb dX6_faultOf_144 rfl hl (by decide) rfl (fun ls hl => ?_)
                    refine lv_iinc (v := (nI (j4 + 1))) (lv' := [(2, .int (nI (j4 + 1))), (1, .int (3 : Int32)), (5, .int (3 : Int32)), (4, .int (1 : Int32)), (3, .int (pd j4)), (0, .ref hm)]) hx hb dX6_faultOf_145 hl (k := 4) rfl (by exact nI_add (j4) 1) (by decide) rfl (fun ls hl => ?_)
                    refine lv_goto (tgt := 4) hx hb dX6_faultOf_148 (by decide) ?_
                    exact ih (j4 + 1) (3 : Int32) (by omega)  hF _ (lv_sub hl [0, 1, 5] rfl)
                · rw [if_neg c62] at hF
                  refine lv_iconst (v := (1 : Int32)) hx hb dX6_faultOf_65 (by decide) ?_
                  refine lv_goto (tgt := 80) hx hb dX6_faultOf_66 (by decide) ?_
                  refine lv_istore (lv' := [(5, .int (1 : Int32)), (4, .int (1 : Int32)), (3, .int (pd j4)), (2, .int (nI j4)), (1, .int st0), (0, .ref hm)]) hx hb dX6_faultOf_80 hl (by decide) rfl (fun ls hl => ?_)
                  refine lv_goto (tgt := 135) hx hb dX6_faultOf_82 (by decide) ?_
                  refine lv_iload hx hb dX6_faultOf_135 (lv_at hl 1 rfl) ?_
                  refine lv_if_ne (tgt := 142) hx hb dX6_faultOf_137 (by decide) (fun c137 => ?_) (fun c137 => absurd c137 (by decide))
                  refine lv_iload hx hb dX6_faultOf_142 (lv_at hl 0 rfl) ?_
                  refine lv_istore_n (lv' := [(1, .int (1 : Int32)), (5, .int (1 : Int32)), (4, .int (1 : Int32)), (3, .int (pd j4)), (2, .int (nI j4)), (0, .ref hm)]) hx hb dX6_faultOf_144 rfl hl (by decide) rfl (fun ls hl => ?_)
                  refine lv_iinc (v := (nI (j4 + 1))) (lv' := [(2, .int (nI (j4 + 1))), (1, .int (1 : Int32)), (5, .int (1 : Int32)), (4, .int (1 : Int32)), (3, .int (pd j4)), (0, .ref hm)]) hx hb dX6_faultOf_145 hl (k := 4) rfl (by exact nI_add (j4) 1) (by decide) rfl (fun ls hl => ?_)
                  refine lv_goto (tgt := 4) hx hb dX6_faultOf_148 (by decide) ?_
                  exact ih (j4 + 1) (1 : Int32) (by omega)  hF _ (lv_sub hl [0, 1, 5] rfl)
  exact LP4 sn 0 (0 : Int32) (by omega)  hF _ (lv_sub hl [0, 1, 2] rfl)

def fX6_fault (sn : Nat) (pd : Nat → Int32) : Int32 :=
  (fX6_faultOf sn pd)
set_option maxHeartbeats 4000000 in
set_option maxRecDepth 100000 in
theorem c_X6_fault (l : Launch) (dC : Nat → ClassId) (dI : Nat → Nat → Nat) (cyI cyZ : ClassId) (hm mb mn mk ms mp mq mi mz ma mc : Nat) (sg : Nat) (sn : Nat) (ud : Int32) (rz : Int32) (az : Int32) (pd : Nat → Int32) (hsn : sn ≤ 60) (r : Int32) (hF : fX6_fault sn pd = r) : Met l yX6_fault wsX6_fault ({ frames := 3, cells := 0, slots := 0, locals := 67 }) (kx_rp (dC, dI) [(hm, .inr (6, [.ref mb, .ref mn, .ref mk, .int (nI sg), .ref ms, .int (nI sn), .ref mp, .int ud, .ref mq, .int rz, .int az, .ref mi, .ref mz, .ref ma, .ref mc])), (mp, .inl (cyI, 60, .inl pd))] [(cyI, .int), (cyZ, .boolean)] [.ref hm]) (k2_QcV (.int r)) 0 0 (fun _ => False) := by
  refine Met.ofW (cc := cX6_fault) (maxL := 1) (ret := (some .int)) (by decide) rfl ?_
  intro p e s m args below meth c s₁ B hml hv
  obtain ⟨rfl, hP, hK, hN⟩ := hv
  have hx := B.exec
  have hb := B.bytes
  have hr := B.returns
  have hts := atoms_spec (ws := wsX6_fault) B.pre
  have hown : s.vm.findClass RX6 = some m.cls := findClass_of_methodNamed B.named
  have hlocks := B.notSynchronized
  have hl := lv_entry ([.ref hm]) (n := 1) (Nat.le_of_ble_eq_true rfl)
  rw [lg_entry_eq]
  generalize (lg_sl ([.ref hm]) ++ List.replicate (1 - (lg_sl ([.ref hm])).length) Slot.unset).toArray = ls at hl ⊢
  have hl : lv_has ls 1 [(0, .ref hm)] := hl
  unfold fX6_fault at hF
  refine lv_aload_n hx hb dX6_fault_0 rfl (lv_at hl 0 rfl) ?_
  refine kx_cV (As := []) (rest := []) ⟨hx, hb, hml, hown, hts⟩ (c_X6_faultOf l dC dI cyI cyZ hm mb mn mk ms mp mq mi mz ma mc sg sn ud rz az pd (by omega) _ rfl) (cwV 0 hts gX6_fault_X6_faultOf rfl rfl rfl (by decide +kernel) ⟨Nat.le_of_ble_eq_true rfl, Nat.le_of_ble_eq_true rfl⟩) hP hK hN [0, 1] rfl [0, 1] rfl 6 0 rfl rfl rfl rfl hl.1 rfl (Nat.le_of_ble_eq_true rfl) dX6_fault_1 ⟨Nat.zero_le _, Nat.zero_le _⟩ ?_
  exact W.iret hx hb hr (fun t ht _ => ⟨congrArg (fun z => Outcome.returned (some (Value.int z))) hF, ht⟩) (fun _ h => absurd h List.not_mem_nil) dX6_fault_4

def fX6_asNow_L2 (bk : Nat → Int32) : Nat → Nat → (Nat → Int32) → (Nat → Int32)
  | 0, _, g1 => g1
  | r2 + 1, j2, g1 => (fX6_asNow_L2 bk r2 (j2 + 1) (upd g1 j2 (bk j2)))
def fX6_asNow (bk : Nat → Int32) (nw : Nat → Int32) : (Nat → Int32) × Int32 :=
  ((fun (g1 : Nat → Int32) => (g1, (0 : Int32))) (fX6_asNow_L2 bk 97 0 nw))
set_option maxHeartbeats 4000000 in
set_option maxRecDepth 100000 in
theorem c_X6_asNow (l : Launch) (dC : Nat → ClassId) (dI : Nat → Nat → Nat) (cyI cyZ : ClassId) (hm mb mn mk ms mp mq mi mz ma mc : Nat) (sg : Nat) (sn : Nat) (ud : Int32) (rz : Int32) (az : Int32) (bk : Nat → Int32) (nw : Nat → Int32) (sz : Nat) (r : (Nat → Int32) × Int32) (hF : fX6_asNow bk nw = r) : Met l yX6_asNow wsX6_asNow ({ frames := 0, cells := 0, slots := 0, locals := 0 }) (kx_wp (dC, dI) [(hm, .inr (6, [.ref mb, .ref mn, .ref mk, .int (nI sg), .ref ms, .int (nI sn), .ref mp, .int ud, .ref mq, .int rz, .int az, .ref mi, .ref mz, .ref ma, .ref mc])), (mb, .inl (cyI, 97, .inl bk)), (mn, .inl (cyI, 97, .inl nw))] [(cyI, .int), (cyZ, .boolean)] sz [.ref hm]) (kx_Qv (dC, dI) [(hm, .inr (6, [.ref mb, .ref mn, .ref mk, .int (nI sg), .ref ms, .int (nI sn), .ref mp, .int ud, .ref mq, .int rz, .int az, .ref mi, .ref mz, .ref ma, .ref mc])), (mb, .inl (cyI, 97, .inl bk)), (mn, .inl (cyI, 97, .inl nw))] [(hm, .inr (6, [.ref mb, .ref mn, .ref mk, .int (nI sg), .ref ms, .int (nI sn), .ref mp, .int r.2, .ref mq, .int rz, .int az, .ref mi, .ref mz, .ref ma, .ref mc])), (mb, .inl (cyI, 97, .inl bk)), (mn, .inl (cyI, 97, .inl r.1))] sz) 0 0 (va_A [(hm, .inr (6, [.ref mb, .ref mn, .ref mk, .int (nI sg), .ref ms, .int (nI sn), .ref mp, .int ud, .ref mq, .int rz, .int az, .ref mi, .ref mz, .ref ma, .ref mc])), (mb, .inl (cyI, 97, .inl bk)), (mn, .inl (cyI, 97, .inl nw))] sz) := by
  refine Met.ofW (cc := cX6_asNow) (maxL := 2) (ret := none) (by decide) rfl ?_
  intro p e s m args below meth c s₁ B hml hv
  obtain ⟨rfl, hsz, hP, hK, hN, hD0⟩ := hv
  have hx := B.exec
  have hb := B.bytes
  have hr := B.returns
  have hts := atoms_spec (ws := wsX6_asNow) B.pre
  have hown : s.vm.findClass RX6 = some m.cls := findClass_of_methodNamed B.named
  have hlocks := B.notSynchronized
  subst hsz
  obtain ⟨A, hAe⟩ : ∃ A, A = va_A [(hm, .inr (6, [.ref mb, .ref mn, .ref mk, .int (nI sg), .ref ms, .int (nI sn), .ref mp, .int ud, .ref mq, .int rz, .int az, .ref mi, .ref mz, .ref ma, .ref mc])), (mb, .inl (cyI, 97, .inl bk)), (mn, .inl (cyI, 97, .inl nw))] s.heap.size := ⟨_, rfl⟩
  have hD : va_D A [(hm, .inr (6, [.ref mb, .ref mn, .ref mk, .int (nI sg), .ref ms, .int (nI sn), .ref mp, .int ud, .ref mq, .int rz, .int az, .ref mi, .ref mz, .ref ma, .ref mc])), (mb, .inl (cyI, 97, .inl bk)), (mn, .inl (cyI, 97, .inl nw))] := by rw [hAe]; exact hD0.self
  have hA : ∀ q : Nat, s.heap.size ≤ q → A q := fun q h => by rw [hAe]; exact Or.inr h
  have hS : va_S A s.heap s.heap [] := va_S.rf
  have hiX6 : ∀ w ∈ wsX60, w ∈ wsX6_asNow := by decide +kernel
  have fl7 := hts (.fieldLink RX6 7 "KnitChronicleModel" "book" "[I") (by decide +kernel)
  have fl13 := hts (.fieldLink RX6 13 "KnitChronicleModel" "now" "[I") (by decide +kernel)
  have fl66 := hts (.fieldLink RX6 66 "KnitChronicleModel" "undone" "I") (by decide +kernel)
  have hl := lv_entry ([.ref hm]) (n := 2) (Nat.le_of_ble_eq_true rfl)
  rw [lg_entry_eq]
  generalize (lg_sl ([.ref hm]) ++ List.replicate (2 - (lg_sl ([.ref hm])).length) Slot.unset).toArray = ls at hl ⊢
  have hl : lv_has ls 2 [(0, .ref hm)] := hl
  unfold fX6_asNow at hF
  refine lv_iconst (v := (0 : Int32)) hx hb dX6_asNow_0 (by decide) ?_
  refine lv_istore_n (lv' := [(1, .int (0 : Int32)), (0, .ref hm)]) hx hb dX6_asNow_1 rfl hl (by decide) rfl (fun ls hl => ?_)
  generalize hz2 : fX6_asNow_L2 bk 97 0 nw = z2 at hF
  have LP2 : ∀ (r2 : Nat) (j2 : Nat) (g1 : Nat → Int32), r2 + j2 = 97 → fX6_asNow_L2 bk r2 j2 g1 = z2 → ∀ (H : Heap) (locs : List Loc), va_P (dC, dI) vwCl [(hm, .inr (6, [.ref mb, .ref mn, .ref mk, .int (nI sg), .ref ms, .int (nI sn), .ref mp, .int ud, .ref mq, .int rz, .int az, .ref mi, .ref mz, .ref ma, .ref mc])), (mb, .inl (cyI, 97, .inl bk)), (mn, .inl (cyI, 97, .inl g1))] H → va_D A [(hm, .inr (6, [.ref mb, .ref mn, .ref mk, .int (nI sg), .ref ms, .int (nI sn), .ref mp, .int ud, .ref mq, .int rz, .int az, .ref mi, .ref mz, .ref ma, .ref mc])), (mb, .inl (cyI, 97, .inl bk)), (mn, .inl (cyI, 97, .inl g1))] → va_S A s.heap H locs → ∀ (ls : Array Slot), lv_has ls 2 [(1, .int (nI j2)), (0, .ref hm)] → W p l e (headSpec wsX6_asNow ({ frames := 0, cells := 0, slots := 0, locals := 0 } : Room)).room s m ([.ref hm] : List Value).toArray below meth c H locs 0 0 (MQ below (kx_Qv (dC, dI) [(hm, .inr (6, [.ref mb, .ref mn, .ref mk, .int (nI sg), .ref ms, .int (nI sn), .ref mp, .int ud, .ref mq, .int rz, .int az, .ref mi, .ref mz, .ref ma, .ref mc])), (mb, .inl (cyI, 97, .inl bk)), (mn, .inl (cyI, 97, .inl nw))] [(hm, .inr (6, [.ref mb, .ref mn, .ref mk, .int (nI sg), .ref ms, .int (nI sn), .ref mp, .int r.2, .ref mq, .int rz, .int az, .ref mi, .ref mz, .ref ma, .ref mc])), (mb, .inl (cyI, 97, .inl bk)), (mn, .inl (cyI, 97, .inl r.1))] s.heap.size) ([.ref hm] : List Value).toArray s 0 0 (va_A [(hm, .inr (6, [.ref mb, .ref mn, .ref mk, .int (nI sg), .ref ms, .int (nI sn), .ref mp, .int ud, .ref mq, .int rz, .int az, .ref mi, .ref mz, .ref ma, .ref mc])), (mb, .inl (cyI, 97, .inl bk)), (mn, .inl (cyI, 97, .inl nw))] s.heap.size)) (F0 m 2 ls []) := by
    intro r2
    induction r2 with
    | zero =>
      intro j2 g1 hrj hz2 H locs hP hD hS ls hl
      rw [fX6_asNow_L2] at hz2
      subst hz2
      try dsimp only at hF
      refine lv_iload_n hx hb dX6_asNow_2 rfl (lv_at hl 0 rfl) ?_
      refine lv_bipush (v := (97 : Int32)) hx hb dX6_asNow_3 (by decide) ?_
      refine kx_ge hx hb (j2) (97) rfl rfl (by omega) (by omega) dX6_asNow_5 (by decide) (tgt := 26) (fun c5 => ?_) (fun c5 => absurd c5 (by omega))
      refine lv_aload_n hx hb dX6_asNow_26 rfl (lv_at hl 1 rfl) ?_
      refine lv_iconst (v := (0 : Int32)) hx hb dX6_asNow_27 (by decide) ?_
      refine va_put (D := (dC, dI)) (ci := 6) (v := .int (0 : Int32)) (ty := .int) (C := RX6) (T := TX6) (N := 15) hx hb hts hiX6 tyX6 tyX6_ok nmX6 hown hK hP hD hS 0 rfl rfl 7 (by decide) fl66 (fun _ h9 => h9) rfl (by decide +kernel) rfl rfl (Nat.le_of_ble_eq_true rfl) dX6_asNow_28 (fun H locs hP hD hS => ?_)
      have hP : va_P (dC, dI) vwCl [(hm, .inr (6, [.ref mb, .ref mn, .ref mk, .int (nI sg), .ref ms, .int (nI sn), .ref mp, .int (0 : Int32), .ref mq, .int rz, .int az, .ref mi, .ref mz, .ref ma, .ref mc])), (mb, .inl (cyI, 97, .inl bk)), (mn, .inl (cyI, 97, .inl g1))] H := hP
      have hD : va_D A [(hm, .inr (6, [.ref mb, .ref mn, .ref mk, .int (nI sg), .ref ms, .int (nI sn), .ref mp, .int (0 : Int32), .ref mq, .int rz, .int az, .ref mi, .ref mz, .ref ma, .ref mc])), (mb, .inl (cyI, 97, .inl bk)), (mn, .inl (cyI, 97, .inl g1))] := hD
      subst hF
      subst hAe
      exact W.vret hx hb hr (fun t ht _ => ⟨⟨(), rfl, trivial, by rw [ht]; exact hP, hD⟩, hS.F ht⟩) hS.2.2 dX6_asNow_31
    | succ r2 ih =>
      intro j2 g1 hrj hz2 H locs hP hD hS ls hl
      rw [fX6_asNow_L2] at hz2
      refine lv_iload_n hx hb dX6_asNow_2 rfl (lv_at hl 0 rfl) ?_
      refine lv_bipush (v := (97 : Int32)) hx hb dX6_asNow_3 (by decide) ?_
      refine kx_ge hx hb (j2) (97) rfl rfl (by omega) (by omega) dX6_asNow_5 (by decide) (tgt := 26) (fun c5 => absurd c5 (by omega)) (fun c5 => ?_)
      refine lv_aload_n hx hb dX6_asNow_8 rfl (lv_at hl 1 rfl) ?_
      refine va_get (D := (dC, dI)) (ci := 6) (v := .ref mn) (C := RX6) (T := TX6) (N := 15) hx hb hts hiX6 hown hK hP 0 rfl rfl 1 (by decide) fl13 (fun _ h9 => h9) rfl dX6_asNow_9 ?_
      refine lv_iload_n hx hb dX6_asNow_12 rfl (lv_at hl 0 rfl) ?_
      refine lv_aload_n hx hb dX6_asNow_13 rfl (lv_at hl 1 rfl) ?_
      refine va_get (D := (dC, dI)) (ci := 6) (v := .ref mb) (C := RX6) (T := TX6) (N := 15) hx hb hts hiX6 hown hK hP 0 rfl rfl 0 (by decide) fl7 (fun _ h9 => h9) rfl dX6_asNow_14 ?_
      refine lv_iload_n hx hb dX6_asNow_17 rfl (lv_at hl 0 rfl) ?_
      refine kx_ld hx hb hK hP 1 0 rfl rfl (j2) rfl (by omega) (by decide) dX6_asNow_18 ?_
      refine kx_st hx hb hK hP hD hS 2 0 rfl rfl (j2) rfl (by omega) (by decide) dX6_asNow_19 (fun H locs hP hD hS => ?_)
      have hP : va_P (dC, dI) vwCl [(hm, .inr (6, [.ref mb, .ref mn, .ref mk, .int (nI sg), .ref ms, .int (nI sn), .ref mp, .int ud, .ref mq, .int rz, .int az, .ref mi, .ref mz, .ref ma, .ref mc])), (mb, .inl (cyI, 97, .inl bk)), (mn, .inl (cyI, 97, .inl (upd g1 j2 (bk j2))))] H := hP
      have hD : va_D A [(hm, .inr (6, [.ref mb, .ref mn, .ref mk, .int (nI sg), .ref ms, .int (nI sn), .ref mp, .int ud, .ref mq, .int rz, .int az, .ref mi, .ref mz, .ref ma, .ref mc])), (mb, .inl (cyI, 97, .inl bk)), (mn, .inl (cyI, 97, .inl (upd g1 j2 (bk j2))))] := hD
      refine lv_iinc (v := (nI (j2 + 1))) (lv' := [(1, .int (nI (j2 + 1))), (0, .ref hm)]) hx hb dX6_asNow_20 hl (k := 0) rfl (by exact nI_add (j2) 1) (by decide) rfl (fun ls hl => ?_)
      refine lv_goto (tgt := 2) hx hb dX6_asNow_23 (by decide) ?_
      exact ih (j2 + 1) (upd g1 j2 (bk j2)) (by omega)  hz2 _ _ hP hD hS _ (lv_sub hl [0, 1] rfl)
  exact LP2 97 0 nw (by omega)  hz2 _ _ hP hD hS _ (lv_sub hl [0, 1] rfl)

def fX6_threadOf_L8 (nw : Nat → Int32) : Nat → Nat → Int32 → Int32
  | 0, _, u => u
  | r8 + 1, j8, u => (if (nw (48 + j8)) < 0 then (fX6_threadOf_L8 nw r8 (j8 + 1) (u ||| (0 : Int32))) else (if (fX6_has u (nw (48 + j8))) = 0 then (fX6_threadOf_L8 nw r8 (j8 + 1) (u ||| (0 : Int32))) else (fX6_threadOf_L8 nw r8 (j8 + 1) (u ||| ((1 : Int32) <<< ((nI j8) &&& 31))))))
def fX6_threadOf (nw : Nat → Int32) (ks : Nat) : Int32 :=
  ((fun (u : Int32) => u) (fX6_threadOf_L8 nw ((mN nw) - (ks + 1)) (ks + 1) ((1 : Int32) <<< ((nI ks) &&& 31))))
set_option maxHeartbeats 4000000 in
set_option maxRecDepth 100000 in
theorem c_X6_threadOf (l : Launch) (dC : Nat → ClassId) (dI : Nat → Nat → Nat) (cyI cyZ : ClassId) (hm mb mn mk ms mp mq mi mz ma mc : Nat) (sg : Nat) (sn : Nat) (ud : Int32) (rz : Int32) (az : Int32) (nw : Nat → Int32) (ks : Nat) (hJ : kx_I nw) (hks : ks < mN nw) (r : Int32) (hF : fX6_threadOf nw ks = r) : Met l yX6_threadOf wsX6_threadOf ({ frames := 1, cells := 0, slots := 0, locals := 21 }) (kx_rp (dC, dI) [(hm, .inr (6, [.ref mb, .ref mn, .ref mk, .int (nI sg), .ref ms, .int (nI sn), .ref mp, .int ud, .ref mq, .int rz, .int az, .ref mi, .ref mz, .ref ma, .ref mc])), (mn, .inl (cyI, 97, .inl nw))] [(cyI, .int), (cyZ, .boolean)] [.ref hm, .int (nI ks)]) (k2_QcV (.int r)) 0 0 (fun _ => False) := by
  refine Met.ofW (cc := cX6_threadOf) (maxL := 5) (ret := (some .int)) (by decide) rfl ?_
  intro p e s m args below meth c s₁ B hml hv
  obtain ⟨rfl, hP, hK, hN⟩ := hv
  have hx := B.exec
  have hb := B.bytes
  have hr := B.returns
  have hts := atoms_spec (ws := wsX6_threadOf) B.pre
  have hown : s.vm.findClass RX6 = some m.cls := findClass_of_methodNamed B.named
  have hlocks := B.notSynchronized
  have hiX6 : ∀ w ∈ wsX60, w ∈ wsX6_threadOf := by decide +kernel
  have fl13 := hts (.fieldLink RX6 13 "KnitChronicleModel" "now" "[I") (by decide +kernel)
  have hl := lv_entry ([.ref hm, .int (nI ks)]) (n := 5) (Nat.le_of_ble_eq_true rfl)
  rw [lg_entry_eq]
  generalize (lg_sl ([.ref hm, .int (nI ks)]) ++ List.replicate (5 - (lg_sl ([.ref hm, .int (nI ks)])).length) Slot.unset).toArray = ls at hl ⊢
  have hl : lv_has ls 5 [(0, .ref hm), (1, .int (nI ks))] := hl
  unfold fX6_threadOf at hF
  have hmN := hJ.2.1
  refine lv_iconst (v := (1 : Int32)) hx hb dX6_threadOf_0 (by decide) ?_
  refine lv_iload_n hx hb dX6_threadOf_1 rfl (lv_at hl 1 rfl) ?_
  refine lv_ishl hx hb dX6_threadOf_2 ?_
  refine lv_istore_n (lv' := [(2, .int ((1 : Int32) <<< ((nI ks) &&& 31))), (0, .ref hm), (1, .int (nI ks))]) hx hb dX6_threadOf_3 rfl hl (by decide) rfl (fun ls hl => ?_)
  refine lv_iload_n hx hb dX6_threadOf_4 rfl (lv_at hl 2 rfl) ?_
  refine lv_iconst (v := (1 : Int32)) hx hb dX6_threadOf_5 (by decide) ?_
  refine lv_iadd hx hb dX6_threadOf_6 ?_
  refine kx_e (nI_add (ks) (1)) ?_
  refine lv_istore_n (lv' := [(3, .int (nI (ks + 1))), (2, .int ((1 : Int32) <<< ((nI ks) &&& 31))), (0, .ref hm), (1, .int (nI ks))]) hx hb dX6_threadOf_7 rfl hl (by decide) rfl (fun ls hl => ?_)
  generalize hz8 : fX6_threadOf_L8 nw ((mN nw) - (ks + 1)) (ks + 1) ((1 : Int32) <<< ((nI ks) &&& 31)) = z8 at hF
  have LP8 : ∀ (r8 : Nat) (j8 : Nat) (u : Int32), r8 + j8 = mN nw → fX6_threadOf_L8 nw r8 j8 u = z8 → ∀ (ls : Array Slot), lv_has ls 5 [(3, .int (nI j8)), (2, .int u), (0, .ref hm), (1, .int (nI ks))] → W p l e (headSpec wsX6_threadOf ({ frames := 1, cells := 0, slots := 0, locals := 21 } : Room)).room s m ([.ref hm, .int (nI ks)] : List Value).toArray below meth c s.heap [] 0 0 (MQ below (k2_QcV (.int r)) ([.ref hm, .int (nI ks)] : List Value).toArray s 0 0 (fun _ => False)) (F0 m 8 ls []) := by
    intro r8
    induction r8 with
    | zero =>
      intro j8 u hrj hz8 ls hl
      rw [fX6_threadOf_L8] at hz8
      subst hz8
      try dsimp only at hF
      refine lv_iload_n hx hb dX6_threadOf_8 rfl (lv_at hl 0 rfl) ?_
      refine lv_aload_n hx hb dX6_threadOf_9 rfl (lv_at hl 2 rfl) ?_
      refine va_get (D := (dC, dI)) (ci := 6) (v := .ref mn) (C := RX6) (T := TX6) (N := 15) hx hb hts hiX6 hown hK hP 0 rfl rfl 1 (by decide) fl13 (fun _ h9 => h9) rfl dX6_threadOf_10 ?_
      refine lv_bipush (v := (96 : Int32)) hx hb dX6_threadOf_13 (by decide) ?_
      refine kx_ld hx hb hK hP 1 0 rfl rfl (96) rfl (by omega) (by decide) dX6_threadOf_15 ?_
      refine kx_e hJ.1 ?_
      refine kx_ge hx hb (j8) (mN nw) rfl rfl (by omega) (by omega) dX6_threadOf_16 (by decide) (tgt := 60) (fun c16 => ?_) (fun c16 => absurd c16 (by omega))
      refine lv_iload_n hx hb dX6_threadOf_60 rfl (lv_at hl 1 rfl) ?_
      exact W.iret hx hb hr (fun t ht _ => ⟨congrArg (fun z => Outcome.returned (some (Value.int z))) hF, ht⟩) (fun _ h => absurd h List.not_mem_nil) dX6_threadOf_61
    | succ r8 ih =>
      intro j8 u hrj hz8 ls hl
      rw [fX6_threadOf_L8] at hz8
      refine lv_iload_n hx hb dX6_threadOf_8 rfl (lv_at hl 0 rfl) ?_
      refine lv_aload_n hx hb dX6_threadOf_9 rfl (lv_at hl 2 rfl) ?_
      refine va_get (D := (dC, dI)) (ci := 6) (v := .ref mn) (C := RX6) (T := TX6) (N := 15) hx hb hts hiX6 hown hK hP 0 rfl rfl 1 (by decide) fl13 (fun _ h9 => h9) rfl dX6_threadOf_10 ?_
      refine lv_bipush (v := (96 : Int32)) hx hb dX6_threadOf_13 (by decide) ?_
      refine kx_ld hx hb hK hP 1 0 rfl rfl (96) rfl (by omega) (by decide) dX6_threadOf_15 ?_
      refine kx_e hJ.1 ?_
      refine kx_ge hx hb (j8) (mN nw) rfl rfl (by omega) (by omega) dX6_threadOf_16 (by decide) (tgt := 60) (fun c16 => absurd c16 (by omega)) (fun c16 => ?_)
      refine lv_aload_n hx hb dX6_threadOf_19 rfl (lv_at hl 2 rfl) ?_
      refine va_get (D := (dC, dI)) (ci := 6) (v := .ref mn) (C := RX6) (T := TX6) (N := 15) hx hb hts hiX6 hown hK hP 0 rfl rfl 1 (by decide) fl13 (fun _ h9 => h9) rfl dX6_threadOf_20 ?_
      refine lv_bipush (v := (48 : Int32)) hx hb dX6_threadOf_23 (by decide) ?_
      refine lv_iload_n hx hb dX6_threadOf_25 rfl (lv_at hl 0 rfl) ?_
      refine lv_iadd hx hb dX6_threadOf_26 ?_
      refine kx_e (nI_add (48) (j8)) ?_
      refine kx_ld hx hb hK hP 1 0 rfl rfl (48 + j8) rfl (by omega) (by decide) dX6_threadOf_27 ?_
      refine lv_istore (lv' := [(4, .int (nw (48 + j8))), (3, .int (nI j8)), (2, .int u), (0, .ref hm), (1, .int (nI ks))]) hx hb dX6_threadOf_28 hl (by decide) rfl (fun ls hl => ?_)
      refine lv_iload_n hx hb dX6_threadOf_30 rfl (lv_at hl 2 rfl) ?_
      refine lv_iload hx hb dX6_threadOf_31 (lv_at hl 0 rfl) ?_
      refine lv_if_lt (tgt := 51) hx hb dX6_threadOf_33 (by decide) (fun c33 => ?_) (fun c33 => ?_)
      · rw [if_pos c33] at hz8
        refine lv_iconst (v := (0 : Int32)) hx hb dX6_threadOf_51 (by decide) ?_
        refine lv_ior hx hb dX6_threadOf_52 ?_
        refine lv_istore_n (lv' := [(2, .int (u ||| (0 : Int32))), (4, .int (nw (48 + j8))), (3, .int (nI j8)), (0, .ref hm), (1, .int (nI ks))]) hx hb dX6_threadOf_53 rfl hl (by decide) rfl (fun ls hl => ?_)
        refine lv_iinc (v := (nI (j8 + 1))) (lv' := [(3, .int (nI (j8 + 1))), (2, .int (u ||| (0 : Int32))), (4, .int (nw (48 + j8))), (0, .ref hm), (1, .int (nI ks))]) hx hb dX6_threadOf_54 hl (k := 2) rfl (by exact nI_add (j8) 1) (by decide) rfl (fun ls hl => ?_)
        refine lv_goto (tgt := 8) hx hb dX6_threadOf_57 (by decide) ?_
        exact ih (j8 + 1) (u ||| (0 : Int32)) (by omega)  hz8 _ (lv_sub hl [0, 1, 3, 4] rfl)
      · rw [if_neg c33] at hz8
        refine lv_iload_n hx hb dX6_threadOf_36 rfl (lv_at hl 2 rfl) ?_
        refine lv_iload hx hb dX6_threadOf_37 (lv_at hl 0 rfl) ?_
        refine kx_cS (As := [.int u, .int (nw (48 + j8))]) (rest := [.int u]) ⟨hx, hb, hml, hown, hts⟩ (c_X6_has l dC dI cyI cyZ  u (nw (48 + j8))  _ rfl) (va_cwS 2 hts gX6_threadOf_X6_has rfl rfl rfl (by decide +kernel) ⟨Nat.le_of_ble_eq_true rfl, Nat.le_of_ble_eq_true rfl⟩) hP hK hN [] rfl [0, 1] rfl rfl hl.1 rfl (Nat.le_of_ble_eq_true rfl) dX6_threadOf_39 ⟨Nat.zero_le _, Nat.zero_le _⟩ ?_
        refine lv_if_eq (tgt := 51) hx hb dX6_threadOf_42 (by decide) (fun c42 => ?_) (fun c42 => ?_)
        · rw [if_pos c42] at hz8
          refine lv_iconst (v := (0 : Int32)) hx hb dX6_threadOf_51 (by decide) ?_
          refine lv_ior hx hb dX6_threadOf_52 ?_
          refine lv_istore_n (lv' := [(2, .int (u ||| (0 : Int32))), (4, .int (nw (48 + j8))), (3, .int (nI j8)), (0, .ref hm), (1, .int (nI ks))]) hx hb dX6_threadOf_53 rfl hl (by decide) rfl (fun ls hl => ?_)
          refine lv_iinc (v := (nI (j8 + 1))) (lv' := [(3, .int (nI (j8 + 1))), (2, .int (u ||| (0 : Int32))), (4, .int (nw (48 + j8))), (0, .ref hm), (1, .int (nI ks))]) hx hb dX6_threadOf_54 hl (k := 2) rfl (by exact nI_add (j8) 1) (by decide) rfl (fun ls hl => ?_)
          refine lv_goto (tgt := 8) hx hb dX6_threadOf_57 (by decide) ?_
          exact ih (j8 + 1) (u ||| (0 : Int32)) (by omega)  hz8 _ (lv_sub hl [0, 1, 3, 4] rfl)
        · rw [if_neg c42] at hz8
          refine lv_iconst (v := (1 : Int32)) hx hb dX6_threadOf_45 (by decide) ?_
          refine lv_iload_n hx hb dX6_threadOf_46 rfl (lv_at hl 1 rfl) ?_
          refine lv_ishl hx hb dX6_threadOf_47 ?_
          refine lv_goto (tgt := 52) hx hb dX6_threadOf_48 (by decide) ?_
          refine lv_ior hx hb dX6_threadOf_52 ?_
          refine lv_istore_n (lv' := [(2, .int (u ||| ((1 : Int32) <<< ((nI j8) &&& 31)))), (4, .int (nw (48 + j8))), (3, .int (nI j8)), (0, .ref hm), (1, .int (nI ks))]) hx hb dX6_threadOf_53 rfl hl (by decide) rfl (fun ls hl => ?_)
          refine lv_iinc (v := (nI (j8 + 1))) (lv' := [(3, .int (nI (j8 + 1))), (2, .int (u ||| ((1 : Int32) <<< ((nI j8) &&& 31)))), (4, .int (nw (48 + j8))), (0, .ref hm), (1, .int (nI ks))]) hx hb dX6_threadOf_54 hl (k := 2) rfl (by exact nI_add (j8) 1) (by decide) rfl (fun ls hl => ?_)
          refine lv_goto (tgt := 8) hx hb dX6_threadOf_57 (by decide) ?_
          exact ih (j8 + 1) (u ||| ((1 : Int32) <<< ((nI j8) &&& 31))) (by omega)  hz8 _ (lv_sub hl [0, 1, 3, 4] rfl)
  exact LP8 ((mN nw) - (ks + 1)) (ks + 1) ((1 : Int32) <<< ((nI ks) &&& 31)) (by omega)  hz8 _ (lv_sub hl [0, 1, 2, 3] rfl)
