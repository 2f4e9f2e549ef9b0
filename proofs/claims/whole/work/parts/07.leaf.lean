def fX5_isBelow (x : Int32) (y : Int32) : Int32 :=
  (if x < 0 then (0 : Int32) else (if y ≤ x then (0 : Int32) else (1 : Int32)))
theorem nz_X5_isBelow (x : Int32) (y : Int32) : narrow .boolean (.int (fX5_isBelow x y)) = .int (fX5_isBelow x y) := by
  unfold fX5_isBelow
  (repeat' split) <;> first | rfl
set_option maxHeartbeats 4000000 in
set_option maxRecDepth 100000 in
theorem c_X5_isBelow (l : Launch) (dC : Nat → ClassId) (dI : Nat → Nat → Nat) (cyI cyZ : ClassId)  (x : Int32) (y : Int32) (r : Int32) (hF : fX5_isBelow x y = r) : Met l yX5_isBelow wsX5_isBelow ({ frames := 0, cells := 0, slots := 0, locals := 0 }) (kx_rp (dC, dI) [] [(cyI, .int), (cyZ, .boolean)] [.int x, .int y]) (k2_QcV (.int r)) 0 0 (fun _ => False) := by
  refine Met.ofW (cc := cX5_isBelow) (maxL := 2) (ret := (some .boolean)) (by decide) rfl ?_
  intro p e s m args below meth c s₁ B hml hv
  obtain ⟨rfl, hP, hK, hN⟩ := hv
  have hx := B.exec
  have hb := B.bytes
  have hr := B.returns
  have hts := atoms_spec (ws := wsX5_isBelow) B.pre
  have hown : s.vm.findClass RX5 = some m.cls := findClass_of_methodNamed B.named
  have hlocks := B.notSynchronized
  have hl := lv_entry ([.int x, .int y]) (n := 2) (Nat.le_of_ble_eq_true rfl)
  rw [lg_entry_eq]
  generalize (lg_sl ([.int x, .int y]) ++ List.replicate (2 - (lg_sl ([.int x, .int y])).length) Slot.unset).toArray = ls at hl ⊢
  have hl : lv_has ls 2 [(0, .int x), (1, .int y)] := hl
  unfold fX5_isBelow at hF
  refine lv_iload_n hx hb dX5_isBelow_0 rfl (lv_at hl 0 rfl) ?_
  refine lv_if_lt (tgt := 13) hx hb dX5_isBelow_1 (by decide) (fun c1 => ?_) (fun c1 => ?_)
  · rw [if_pos c1] at hF
    refine lv_iconst (v := (0 : Int32)) hx hb dX5_isBelow_13 (by decide) ?_
    exact W.zret hx hb hr rfl (fun t ht _ => ⟨congrArg (fun z => Outcome.returned (some (Value.int z))) hF, ht⟩) (fun _ h => absurd h List.not_mem_nil) dX5_isBelow_14
  · rw [if_neg c1] at hF
    refine lv_iload_n hx hb dX5_isBelow_4 rfl (lv_at hl 0 rfl) ?_
    refine lv_iload_n hx hb dX5_isBelow_5 rfl (lv_at hl 1 rfl) ?_
    refine lv_icmp_ge (tgt := 13) hx hb dX5_isBelow_6 (by decide) (fun c6 => ?_) (fun c6 => ?_)
    · rw [if_pos c6] at hF
      refine lv_iconst (v := (0 : Int32)) hx hb dX5_isBelow_13 (by decide) ?_
      exact W.zret hx hb hr rfl (fun t ht _ => ⟨congrArg (fun z => Outcome.returned (some (Value.int z))) hF, ht⟩) (fun _ h => absurd h List.not_mem_nil) dX5_isBelow_14
    · rw [if_neg c6] at hF
      refine lv_iconst (v := (1 : Int32)) hx hb dX5_isBelow_9 (by decide) ?_
      refine lv_goto (tgt := 14) hx hb dX5_isBelow_10 (by decide) ?_
      exact W.zret hx hb hr rfl (fun t ht _ => ⟨congrArg (fun z => Outcome.returned (some (Value.int z))) hF, ht⟩) (fun _ h => absurd h List.not_mem_nil) dX5_isBelow_14

def fX5_isIn (x : Int32) (k : Int32) : Int32 :=
  (if k < 0 then (0 : Int32) else (if (32 : Int32) ≤ k then (0 : Int32) else (if (x &&& ((1 : Int32) <<< (k &&& 31))) = 0 then (0 : Int32) else (1 : Int32))))
theorem nz_X5_isIn (x : Int32) (k : Int32) : narrow .boolean (.int (fX5_isIn x k)) = .int (fX5_isIn x k) := by
  unfold fX5_isIn
  (repeat' split) <;> first | rfl
set_option maxHeartbeats 4000000 in
set_option maxRecDepth 100000 in
theorem c_X5_isIn (l : Launch) (dC : Nat → ClassId) (dI : Nat → Nat → Nat) (cyI cyZ : ClassId)  (x : Int32) (k : Int32) (r : Int32) (hF : fX5_isIn x k = r) : Met l yX5_isIn wsX5_isIn ({ frames := 0, cells := 0, slots := 0, locals := 0 }) (kx_rp (dC, dI) [] [(cyI, .int), (cyZ, .boolean)] [.int x, .int k]) (k2_QcV (.int r)) 0 0 (fun _ => False) := by
  refine Met.ofW (cc := cX5_isIn) (maxL := 2) (ret := (some .boolean)) (by decide) rfl ?_
  intro p e s m args below meth c s₁ B hml hv
  obtain ⟨rfl, hP, hK, hN⟩ := hv
  have hx := B.exec
  have hb := B.bytes
  have hr := B.returns
  have hts := atoms_spec (ws := wsX5_isIn) B.pre
  have hown : s.vm.findClass RX5 = some m.cls := findClass_of_methodNamed B.named
  have hlocks := B.notSynchronized
  have hl := lv_entry ([.int x, .int k]) (n := 2) (Nat.le_of_ble_eq_true rfl)
  rw [lg_entry_eq]
  generalize (lg_sl ([.int x, .int k]) ++ List.replicate (2 - (lg_sl ([.int x, .int k])).length) Slot.unset).toArray = ls at hl ⊢
  have hl : lv_has ls 2 [(0, .int x), (1, .int k)] := hl
  unfold fX5_isIn at hF
  refine lv_iload_n hx hb dX5_isIn_0 rfl (lv_at hl 1 rfl) ?_
  refine lv_if_lt (tgt := 22) hx hb dX5_isIn_1 (by decide) (fun c1 => ?_) (fun c1 => ?_)
  · rw [if_pos c1] at hF
    refine lv_iconst (v := (0 : Int32)) hx hb dX5_isIn_22 (by decide) ?_
    exact W.zret hx hb hr rfl (fun t ht _ => ⟨congrArg (fun z => Outcome.returned (some (Value.int z))) hF, ht⟩) (fun _ h => absurd h List.not_mem_nil) dX5_isIn_23
  · rw [if_neg c1] at hF
    refine lv_iload_n hx hb dX5_isIn_4 rfl (lv_at hl 1 rfl) ?_
    refine lv_bipush (v := (32 : Int32)) hx hb dX5_isIn_5 (by decide) ?_
    refine lv_icmp_ge (tgt := 22) hx hb dX5_isIn_7 (by decide) (fun c7 => ?_) (fun c7 => ?_)
    · rw [if_pos c7] at hF
      refine lv_iconst (v := (0 : Int32)) hx hb dX5_isIn_22 (by decide) ?_
      exact W.zret hx hb hr rfl (fun t ht _ => ⟨congrArg (fun z => Outcome.returned (some (Value.int z))) hF, ht⟩) (fun _ h => absurd h List.not_mem_nil) dX5_isIn_23
    · rw [if_neg c7] at hF
      refine lv_iload_n hx hb dX5_isIn_10 rfl (lv_at hl 0 rfl) ?_
      refine lv_iconst (v := (1 : Int32)) hx hb dX5_isIn_11 (by decide) ?_
      refine lv_iload_n hx hb dX5_isIn_12 rfl (lv_at hl 1 rfl) ?_
      refine lv_ishl hx hb dX5_isIn_13 ?_
      refine lv_iand hx hb dX5_isIn_14 ?_
      refine lv_if_eq (tgt := 22) hx hb dX5_isIn_15 (by decide) (fun c15 => ?_) (fun c15 => ?_)
      · rw [if_pos c15] at hF
        refine lv_iconst (v := (0 : Int32)) hx hb dX5_isIn_22 (by decide) ?_
        exact W.zret hx hb hr rfl (fun t ht _ => ⟨congrArg (fun z => Outcome.returned (some (Value.int z))) hF, ht⟩) (fun _ h => absurd h List.not_mem_nil) dX5_isIn_23
      · rw [if_neg c15] at hF
        refine lv_iconst (v := (1 : Int32)) hx hb dX5_isIn_18 (by decide) ?_
        refine lv_goto (tgt := 23) hx hb dX5_isIn_19 (by decide) ?_
        exact W.zret hx hb hr rfl (fun t ht _ => ⟨congrArg (fun z => Outcome.returned (some (Value.int z))) hF, ht⟩) (fun _ h => absurd h List.not_mem_nil) dX5_isIn_23

def fX5_near (v : Int32) : Int32 :=
  ((((7 : Int32) <<< (v &&& 31)) >>> ((1 : Int32) &&& 31)) &&& (1023 : Int32))
set_option maxHeartbeats 4000000 in
set_option maxRecDepth 100000 in
theorem c_X5_near (l : Launch) (dC : Nat → ClassId) (dI : Nat → Nat → Nat) (cyI cyZ : ClassId)  (v : Int32) (r : Int32) (hF : fX5_near v = r) : Met l yX5_near wsX5_near ({ frames := 0, cells := 0, slots := 0, locals := 0 }) (kx_rp (dC, dI) [] [(cyI, .int), (cyZ, .boolean)] [.int v]) (k2_QcV (.int r)) 0 0 (fun _ => False) := by
  refine Met.ofW (cc := cX5_near) (maxL := 1) (ret := (some .int)) (by decide) rfl ?_
  intro p e s m args below meth c s₁ B hml hv
  obtain ⟨rfl, hP, hK, hN⟩ := hv
  have hx := B.exec
  have hb := B.bytes
  have hr := B.returns
  have hts := atoms_spec (ws := wsX5_near) B.pre
  have hown : s.vm.findClass RX5 = some m.cls := findClass_of_methodNamed B.named
  have hlocks := B.notSynchronized
  have hl := lv_entry ([.int v]) (n := 1) (Nat.le_of_ble_eq_true rfl)
  rw [lg_entry_eq]
  generalize (lg_sl ([.int v]) ++ List.replicate (1 - (lg_sl ([.int v])).length) Slot.unset).toArray = ls at hl ⊢
  have hl : lv_has ls 1 [(0, .int v)] := hl
  unfold fX5_near at hF
  refine lv_bipush (v := (7 : Int32)) hx hb dX5_near_0 (by decide) ?_
  refine lv_iload_n hx hb dX5_near_2 rfl (lv_at hl 0 rfl) ?_
  refine lv_ishl hx hb dX5_near_3 ?_
  refine lv_iconst (v := (1 : Int32)) hx hb dX5_near_4 (by decide) ?_
  refine lv_ishr hx hb dX5_near_5 ?_
  refine lv_sipush (v := (1023 : Int32)) hx hb dX5_near_6 (by decide) ?_
  refine lv_iand hx hb dX5_near_9 ?_
  exact W.iret hx hb hr (fun t ht _ => ⟨congrArg (fun z => Outcome.returned (some (Value.int z))) hF, ht⟩) (fun _ h => absurd h List.not_mem_nil) dX5_near_10

def fX5_at (f : Nat → Int32) (n : Nat) (x : Int32) : Int32 :=
  (if x < 0 then (0 : Int32) else (if (nI n) ≤ x then (0 : Int32) else (f (x).toNatClampNeg)))
set_option maxHeartbeats 4000000 in
set_option maxRecDepth 100000 in
theorem c_X5_at (l : Launch) (dC : Nat → ClassId) (dI : Nat → Nat → Nat) (cyI cyZ : ClassId) (a : Nat) (f : Nat → Int32) (n : Nat) (x : Int32) (hn : n < 2147483648) (r : Int32) (hF : fX5_at f n x = r) : Met l yX5_at wsX5_at ({ frames := 0, cells := 0, slots := 0, locals := 0 }) (kx_rp (dC, dI) [(a, .inl (cyI, n, .inl f))] [(cyI, .int), (cyZ, .boolean)] [.ref a, .int x]) (k2_QcV (.int r)) 0 0 (fun _ => False) := by
  refine Met.ofW (cc := cX5_at) (maxL := 2) (ret := (some .int)) (by decide) rfl ?_
  intro p e s m args below meth c s₁ B hml hv
  obtain ⟨rfl, hP, hK, hN⟩ := hv
  have hx := B.exec
  have hb := B.bytes
  have hr := B.returns
  have hts := atoms_spec (ws := wsX5_at) B.pre
  have hown : s.vm.findClass RX5 = some m.cls := findClass_of_methodNamed B.named
  have hlocks := B.notSynchronized
  have hl := lv_entry ([.ref a, .int x]) (n := 2) (Nat.le_of_ble_eq_true rfl)
  rw [lg_entry_eq]
  generalize (lg_sl ([.ref a, .int x]) ++ List.replicate (2 - (lg_sl ([.ref a, .int x])).length) Slot.unset).toArray = ls at hl ⊢
  have hl : lv_has ls 2 [(0, .ref a), (1, .int x)] := hl
  unfold fX5_at at hF
  refine lv_iload_n hx hb dX5_at_0 rfl (lv_at hl 1 rfl) ?_
  refine lv_if_lt (tgt := 16) hx hb dX5_at_1 (by decide) (fun c1 => ?_) (fun c1 => ?_)
  · rw [if_pos c1] at hF
    refine lv_iconst (v := (0 : Int32)) hx hb dX5_at_16 (by decide) ?_
    exact W.iret hx hb hr (fun t ht _ => ⟨congrArg (fun z => Outcome.returned (some (Value.int z))) hF, ht⟩) (fun _ h => absurd h List.not_mem_nil) dX5_at_17
  · rw [if_neg c1] at hF
    refine lv_iload_n hx hb dX5_at_4 rfl (lv_at hl 1 rfl) ?_
    refine lv_aload_n hx hb dX5_at_5 rfl (lv_at hl 0 rfl) ?_
    refine va_alen hx hb hK hP 0 0 rfl rfl (v := (nI n)) rfl dX5_at_6 ?_
    refine lv_icmp_ge (tgt := 16) hx hb dX5_at_7 (by decide) (fun c7 => ?_) (fun c7 => ?_)
    · rw [if_pos c7] at hF
      refine lv_iconst (v := (0 : Int32)) hx hb dX5_at_16 (by decide) ?_
      exact W.iret hx hb hr (fun t ht _ => ⟨congrArg (fun z => Outcome.returned (some (Value.int z))) hF, ht⟩) (fun _ h => absurd h List.not_mem_nil) dX5_at_17
    · rw [if_neg c7] at hF
      refine lv_aload_n hx hb dX5_at_10 rfl (lv_at hl 0 rfl) ?_
      refine lv_iload_n hx hb dX5_at_11 rfl (lv_at hl 1 rfl) ?_
      refine va_iald hx hb hK hP 0 0 rfl rfl (kx_in (by omega) c1 c7) dX5_at_12 ?_
      refine lv_goto (tgt := 17) hx hb dX5_at_13 (by decide) ?_
      exact W.iret hx hb hr (fun t ht _ => ⟨congrArg (fun z => Outcome.returned (some (Value.int z))) hF, ht⟩) (fun _ h => absurd h List.not_mem_nil) dX5_at_17

def fX5_put (f : Nat → Int32) (n : Nat) (x : Int32) (v : Int32) : (Nat → Int32) :=
  (if x < 0 then f else (if (nI n) ≤ x then f else (upd f (x).toNatClampNeg v)))
set_option maxHeartbeats 4000000 in
set_option maxRecDepth 100000 in
theorem c_X5_put (l : Launch) (dC : Nat → ClassId) (dI : Nat → Nat → Nat) (cyI cyZ : ClassId) (a : Nat) (f : Nat → Int32) (n : Nat) (x : Int32) (v : Int32) (hn : n < 2147483648) (sz : Nat) (r : (Nat → Int32)) (hF : fX5_put f n x v = r) : Met l yX5_put wsX5_put ({ frames := 0, cells := 0, slots := 0, locals := 0 }) (kx_wp (dC, dI) [(a, .inl (cyI, n, .inl f))] [(cyI, .int), (cyZ, .boolean)] sz [.ref a, .int x, .int v]) (kx_Qv (dC, dI) [(a, .inl (cyI, n, .inl f))] [(a, .inl (cyI, n, .inl r))] sz) 0 0 (va_A [(a, .inl (cyI, n, .inl f))] sz) := by
  refine Met.ofW (cc := cX5_put) (maxL := 3) (ret := none) (by decide) rfl ?_
  intro p e s m args below meth c s₁ B hml hv
  obtain ⟨rfl, hsz, hP, hK, hN, hD0⟩ := hv
  have hx := B.exec
  have hb := B.bytes
  have hr := B.returns
  have hts := atoms_spec (ws := wsX5_put) B.pre
  have hown : s.vm.findClass RX5 = some m.cls := findClass_of_methodNamed B.named
  have hlocks := B.notSynchronized
  subst hsz
  obtain ⟨A, hAe⟩ : ∃ A, A = va_A [(a, .inl (cyI, n, .inl f))] s.heap.size := ⟨_, rfl⟩
  have hD : va_D A [(a, .inl (cyI, n, .inl f))] := by rw [hAe]; exact hD0.self
  have hA : ∀ q : Nat, s.heap.size ≤ q → A q := fun q h => by rw [hAe]; exact Or.inr h
  have hS : va_S A s.heap s.heap [] := va_S.rf
  have hl := lv_entry ([.ref a, .int x, .int v]) (n := 3) (Nat.le_of_ble_eq_true rfl)
  rw [lg_entry_eq]
  generalize (lg_sl ([.ref a, .int x, .int v]) ++ List.replicate (3 - (lg_sl ([.ref a, .int x, .int v])).length) Slot.unset).toArray = ls at hl ⊢
  have hl : lv_has ls 3 [(0, .ref a), (1, .int x), (2, .int v)] := hl
  unfold fX5_put at hF
  refine lv_iload_n hx hb dX5_put_0 rfl (lv_at hl 1 rfl) ?_
  refine lv_if_lt (tgt := 14) hx hb dX5_put_1 (by decide) (fun c1 => ?_) (fun c1 => ?_)
  · rw [if_pos c1] at hF
    subst hF
    subst hAe
    exact W.vret hx hb hr (fun t ht _ => ⟨⟨(), rfl, trivial, by rw [ht]; exact hP, hD⟩, hS.F ht⟩) hS.2.2 dX5_put_14
  · rw [if_neg c1] at hF
    refine lv_iload_n hx hb dX5_put_4 rfl (lv_at hl 1 rfl) ?_
    refine lv_aload_n hx hb dX5_put_5 rfl (lv_at hl 0 rfl) ?_
    refine va_alen hx hb hK hP 0 0 rfl rfl (v := (nI n)) rfl dX5_put_6 ?_
    refine lv_icmp_ge (tgt := 14) hx hb dX5_put_7 (by decide) (fun c7 => ?_) (fun c7 => ?_)
    · rw [if_pos c7] at hF
      subst hF
      subst hAe
      exact W.vret hx hb hr (fun t ht _ => ⟨⟨(), rfl, trivial, by rw [ht]; exact hP, hD⟩, hS.F ht⟩) hS.2.2 dX5_put_14
    · rw [if_neg c7] at hF
      refine lv_aload_n hx hb dX5_put_10 rfl (lv_at hl 0 rfl) ?_
      refine lv_iload_n hx hb dX5_put_11 rfl (lv_at hl 1 rfl) ?_
      refine lv_iload_n hx hb dX5_put_12 rfl (lv_at hl 2 rfl) ?_
      refine va_iast hx hb hK hP hD hS 0 0 rfl rfl (kx_in (by omega) c1 c7) dX5_put_13 (fun H locs hP hD hS => ?_)
      have hP : va_P (dC, dI) vwCl [(a, .inl (cyI, n, .inl (upd f (x).toNatClampNeg v)))] H := hP
      have hD : va_D A [(a, .inl (cyI, n, .inl (upd f (x).toNatClampNeg v)))] := hD
      subst hF
      subst hAe
      exact W.vret hx hb hr (fun t ht _ => ⟨⟨(), rfl, trivial, by rw [ht]; exact hP, hD⟩, hS.F ht⟩) hS.2.2 dX5_put_14

def fJ6_bitCount_0f7a4 (x : Int32) : Int32 :=
  ((fun (w1 : Int32) => ((fun (w2 : Int32) => ((fun (w3 : Int32) => ((fun (w4 : Int32) => ((fun (w5 : Int32) => (w5 &&& (63 : Int32))) (w4 + (w4.toUInt32 >>> ((16 : Int32).toUInt32 &&& Int32.toUInt32 31)).toInt32))) (w3 + (w3.toUInt32 >>> ((8 : Int32).toUInt32 &&& Int32.toUInt32 31)).toInt32))) ((w2 + (w2.toUInt32 >>> ((4 : Int32).toUInt32 &&& Int32.toUInt32 31)).toInt32) &&& (252645135 : Int32)))) ((w1 &&& (858993459 : Int32)) + ((w1.toUInt32 >>> ((2 : Int32).toUInt32 &&& Int32.toUInt32 31)).toInt32 &&& (858993459 : Int32))))) (x - ((x.toUInt32 >>> ((1 : Int32).toUInt32 &&& Int32.toUInt32 31)).toInt32 &&& (1431655765 : Int32))))
set_option maxHeartbeats 4000000 in
set_option maxRecDepth 100000 in
theorem c_J6_bitCount_0f7a4 (l : Launch) (dC : Nat → ClassId) (dI : Nat → Nat → Nat) (cyI cyZ : ClassId)  (x : Int32) (r : Int32) (hF : fJ6_bitCount_0f7a4 x = r) : Met l yJ6_bitCount_0f7a4 wsJ6_bitCount_0f7a4 ({ frames := 0, cells := 0, slots := 0, locals := 0 }) (kx_rp (dC, dI) [] [(cyI, .int), (cyZ, .boolean)] [.int x]) (k2_QcV (.int r)) 0 0 (fun _ => False) := by
  refine Met.ofW (cc := cJ6_bitCount_0f7a4) (maxL := 1) (ret := (some .int)) (by decide) rfl ?_
  intro p e s m args below meth c s₁ B hml hv
  obtain ⟨rfl, hP, hK, hN⟩ := hv
  have hx := B.exec
  have hb := B.bytes
  have hr := B.returns
  have hts := atoms_spec (ws := wsJ6_bitCount_0f7a4) B.pre
  have hown : s.vm.findClass RJ6 = some m.cls := findClass_of_methodNamed B.named
  have hlocks := B.notSynchronized
  have hl := lv_entry ([.int x]) (n := 1) (Nat.le_of_ble_eq_true rfl)
  rw [lg_entry_eq]
  generalize (lg_sl ([.int x]) ++ List.replicate (1 - (lg_sl ([.int x])).length) Slot.unset).toArray = ls at hl ⊢
  have hl : lv_has ls 1 [(0, .int x)] := hl
  unfold fJ6_bitCount_0f7a4 at hF
  refine lv_iload_n hx hb dJ6_bitCount_0f7a4_0 rfl (lv_at hl 0 rfl) ?_
  refine lv_iload_n hx hb dJ6_bitCount_0f7a4_1 rfl (lv_at hl 0 rfl) ?_
  refine lv_iconst (v := (1 : Int32)) hx hb dJ6_bitCount_0f7a4_2 (by decide) ?_
  refine lv_iushr (v := (x.toUInt32 >>> ((1 : Int32).toUInt32 &&& Int32.toUInt32 31)).toInt32) hx hb dJ6_bitCount_0f7a4_3 rfl ?_
  refine lv_ldcw hx hb hown (hts (.constant RJ6 265 (1431655765)) (by decide +kernel)) dJ6_bitCount_0f7a4_4 ?_
  refine lv_iand hx hb dJ6_bitCount_0f7a4_7 ?_
  refine lv_isub hx hb dJ6_bitCount_0f7a4_8 ?_
  refine lv_topi (fun w1 ew1 => ?_)
  rw [← ew1] at hF
  try dsimp only at hF
  refine lv_istore_n (lv' := [(0, .int w1)]) hx hb dJ6_bitCount_0f7a4_9 rfl hl (by decide) rfl (fun ls hl => ?_)
  refine lv_iload_n hx hb dJ6_bitCount_0f7a4_10 rfl (lv_at hl 0 rfl) ?_
  refine lv_ldcw hx hb hown (hts (.constant RJ6 266 (858993459)) (by decide +kernel)) dJ6_bitCount_0f7a4_11 ?_
  refine lv_iand hx hb dJ6_bitCount_0f7a4_14 ?_
  refine lv_iload_n hx hb dJ6_bitCount_0f7a4_15 rfl (lv_at hl 0 rfl) ?_
  refine lv_iconst (v := (2 : Int32)) hx hb dJ6_bitCount_0f7a4_16 (by decide) ?_
  refine lv_iushr (v := (w1.toUInt32 >>> ((2 : Int32).toUInt32 &&& Int32.toUInt32 31)).toInt32) hx hb dJ6_bitCount_0f7a4_17 rfl ?_
  refine lv_ldcw hx hb hown (hts (.constant RJ6 266 (858993459)) (by decide +kernel)) dJ6_bitCount_0f7a4_18 ?_
  refine lv_iand hx hb dJ6_bitCount_0f7a4_21 ?_
  refine lv_iadd hx hb dJ6_bitCount_0f7a4_22 ?_
  refine lv_topi (fun w2 ew2 => ?_)
  rw [← ew2] at hF
  try dsimp only at hF
  refine lv_istore_n (lv' := [(0, .int w2)]) hx hb dJ6_bitCount_0f7a4_23 rfl hl (by decide) rfl (fun ls hl => ?_)
  refine lv_iload_n hx hb dJ6_bitCount_0f7a4_24 rfl (lv_at hl 0 rfl) ?_
  refine lv_iload_n hx hb dJ6_bitCount_0f7a4_25 rfl (lv_at hl 0 rfl) ?_
  refine lv_iconst (v := (4 : Int32)) hx hb dJ6_bitCount_0f7a4_26 (by decide) ?_
  refine lv_iushr (v := (w2.toUInt32 >>> ((4 : Int32).toUInt32 &&& Int32.toUInt32 31)).toInt32) hx hb dJ6_bitCount_0f7a4_27 rfl ?_
  refine lv_iadd hx hb dJ6_bitCount_0f7a4_28 ?_
  refine lv_ldcw hx hb hown (hts (.constant RJ6 267 (252645135)) (by decide +kernel)) dJ6_bitCount_0f7a4_29 ?_
  refine lv_iand hx hb dJ6_bitCount_0f7a4_32 ?_
  refine lv_topi (fun w3 ew3 => ?_)
  rw [← ew3] at hF
  try dsimp only at hF
  refine lv_istore_n (lv' := [(0, .int w3)]) hx hb dJ6_bitCount_0f7a4_33 rfl hl (by decide) rfl (fun ls hl => ?_)
  refine lv_iload_n hx hb dJ6_bitCount_0f7a4_34 rfl (lv_at hl 0 rfl) ?_
  refine lv_iload_n hx hb dJ6_bitCount_0f7a4_35 rfl (lv_at hl 0 rfl) ?_
  refine lv_bipush (v := (8 : Int32)) hx hb dJ6_bitCount_0f7a4_36 (by decide) ?_
  refine lv_iushr (v := (w3.toUInt32 >>> ((8 : Int32).toUInt32 &&& Int32.toUInt32 31)).toInt32) hx hb dJ6_bitCount_0f7a4_38 rfl ?_
  refine lv_iadd hx hb dJ6_bitCount_0f7a4_39 ?_
  refine lv_topi (fun w4 ew4 => ?_)
  rw [← ew4] at hF
  try dsimp only at hF
  refine lv_istore_n (lv' := [(0, .int w4)]) hx hb dJ6_bitCount_0f7a4_40 rfl hl (by decide) rfl (fun ls hl => ?_)
  refine lv_iload_n hx hb dJ6_bitCount_0f7a4_41 rfl (lv_at hl 0 rfl) ?_
  refine lv_iload_n hx hb dJ6_bitCount_0f7a4_42 rfl (lv_at hl 0 rfl) ?_
  refine lv_bipush (v := (16 : Int32)) hx hb dJ6_bitCount_0f7a4_43 (by decide) ?_
  refine lv_iushr (v := (w4.toUInt32 >>> ((16 : Int32).toUInt32 &&& Int32.toUInt32 31)).toInt32) hx hb dJ6_bitCount_0f7a4_45 rfl ?_
  refine lv_iadd hx hb dJ6_bitCount_0f7a4_46 ?_
  refine lv_topi (fun w5 ew5 => ?_)
  rw [← ew5] at hF
  try dsimp only at hF
  refine lv_istore_n (lv' := [(0, .int w5)]) hx hb dJ6_bitCount_0f7a4_47 rfl hl (by decide) rfl (fun ls hl => ?_)
  refine lv_iload_n hx hb dJ6_bitCount_0f7a4_48 rfl (lv_at hl 0 rfl) ?_
  refine lv_bipush (v := (63 : Int32)) hx hb dJ6_bitCount_0f7a4_49 (by decide) ?_
  refine lv_iand hx hb dJ6_bitCount_0f7a4_51 ?_
  exact W.iret hx hb hr (fun t ht _ => ⟨congrArg (fun z => Outcome.returned (some (Value.int z))) hF, ht⟩) (fun _ h => absurd h List.not_mem_nil) dJ6_bitCount_0f7a4_52

theorem kx_a63 (w : Int32) : (w &&& (63 : Int32)) = nI ((w &&& (63 : Int32)).toNatClampNeg) := by
  obtain ⟨j, hj, he⟩ := pk_andE w (m := 63) 6 (by decide)
  rw [he, nI_clamp (by omega)]
theorem kx_a63l (w : Int32) : (w &&& (63 : Int32)).toNatClampNeg < 64 := by
  obtain ⟨j, hj, he⟩ := pk_andE w (m := 63) 6 (by decide)
  rw [he, nI_clamp (by omega)]; exact hj
def pcN (x : Int32) : Nat := (fJ6_bitCount_0f7a4 x).toNatClampNeg
theorem pcN_lt (x : Int32) : pcN x < 64 := by
  unfold pcN fJ6_bitCount_0f7a4
  exact kx_a63l _
theorem pcN_eq (x : Int32) : fJ6_bitCount_0f7a4 x = nI (pcN x) := kx_a63 _
