/-! The base of every contract here: what a contract asks of the state, and the rows of calls. -/
-- nest mates' links
def kx_nl : List (String × Nat × MethodName × String) := [(RX5, 9, yX3_init, RX5), (RX3, 11, yX2_init, RX5), (RX5, 24, yX1_init, RX5), (RX5, 31, yX4_init, RX5), (RX4, 11, yX2_init, RX5), (RX5, 38, yX0_init, RX5), (RX2, 25, yX5_isBelow, RX5), (RX2, 39, yX5_put, RX5), (RX3, 26, yX5_at, RX5), (RX1, 19, yX5_put, RX5), (RX1, 47, yX5_at, RX5), (RX1, 31, yX5_isBelow, RX5), (RX2, 35, yX5_at, RX5), (RX2, 32, yX5_isIn, RX5), (RX0, 30, yX5_at, RX5), (RX0, 34, yX5_near, RX5), (RX0, 45, yX5_isIn, RX5), (RX0, 49, yX5_put, RX5), (RX3, 41, yX5_put, RX5)]
def kx_N (U : State) : Prop := ∀ q ∈ kx_nl, va_Nw (.methodLinkNest q.1 q.2.1 q.2.2.1 q.2.2.2) U
theorem kx_N.warm {s U : State} (h : kx_N s) (hW : s.WarmedH U.vm) : kx_N U := fun q hq => va_Nw.warmM hW (h q hq)
theorem kx_N.same {u U : State} (h : kx_N u) (hv : u.vm = U.vm) : kx_N U := fun q hq => va_Nw.same rfl hv (h q hq)
-- a contract that only reads: its start
def kx_rp (D : va_G) (ws : va_W) (tys : List (ClassId × FieldType)) (av : List Value) : Array Value → State → Prop := va_Pc av (fun U => va_P D vwCl ws U.heap ∧ va_K D vwCl tys U ∧ kx_N U)
theorem kx_rb {D : va_G} {ws : va_W} {tys : List (ClassId × FieldType)} {av : List Value} : FrameBlind (kx_rp D ws tys av) := fun a U g mk q => by
  obtain ⟨q0, qP, qK, qN⟩ := q
  exact ⟨q0, qP, va_K.moved (u := U) (U := U.calling g mk a) (Vm.Alike.refl U.vm) qK, kx_N.same (u := U) (U := U.calling g mk a) qN rfl⟩
theorem kx_rg {s U : State} {H : Heap} {D : va_G} {W0 wc : va_W} {t0 tc : List (ClassId × FieldType)} {av : List Value} (hP : va_P D vwCl W0 H) (hK : va_K D vwCl t0 s) (hN : kx_N s) (is : List Nat) (hs : is.filterMap (fun i => W0[i]?) = wc) (it : List Nat) (ht : it.filterMap (fun i => t0[i]?) = tc) (hU : U.heap = H) (hW : s.WarmedH U.vm) : kx_rp D wc tc av av.toArray U :=
  ⟨rfl, by rw [hU]; exact hP.sub is hs, va_K.moved hW.alike (hK.sub it ht), hN.warm hW⟩
-- a contract that writes: its start and its ends
def kx_wp (D : va_G) (ws : va_W) (tys : List (ClassId × FieldType)) (sz : Nat) (av : List Value) : Array Value → State → Prop := va_Pc av (fun U => U.heap.size = sz ∧ va_P D vwCl ws U.heap ∧ va_K D vwCl tys U ∧ kx_N U ∧ va_D (fun _ => True) ws)
def kx_B (D : va_G) (ws ws' : va_W) (sz : Nat) : Unit → State → Prop := fun _ t => va_P D vwCl ws' t.heap ∧ va_D (va_A ws sz) ws'
def kx_Qi (r : Int32) (D : va_G) (ws ws' : va_W) (sz : Nat) : Array Value → State → Outcome → State → Prop := va_Qi (fun x (_ : Unit) => x = r) (kx_B D ws ws' sz) (va_A ws sz)
def kx_Qv (D : va_G) (ws ws' : va_W) (sz : Nat) : Array Value → State → Outcome → State → Prop := va_Qv (fun (_ : Unit) => True) (kx_B D ws ws' sz) (va_A ws sz)
theorem kx_wb {D : va_G} {ws : va_W} {tys : List (ClassId × FieldType)} {sz : Nat} {av : List Value} : FrameBlind (kx_wp D ws tys sz av) := fun a U g mk q => by
  obtain ⟨q0, q1, qP, qK, qN, qD⟩ := q
  exact ⟨q0, q1, qP, va_K.moved (u := U) (U := U.calling g mk a) (Vm.Alike.refl U.vm) qK, kx_N.same (u := U) (U := U.calling g mk a) qN rfl, qD⟩
theorem kx_fm {α : Type} {is : List Nat} {f : Nat → Option α} : ∀ {W : List α}, is.map f = W.map some → is.filterMap f = W := by
  induction is with
  | nil => intro W h; cases W with
    | nil => rfl
    | cons a l => cases h
  | cons i is ih => intro W h; cases W with
    | nil => cases h
    | cons a l =>
      have h1 : f i = some a := (List.cons.inj h).1
      have h2 : is.map f = l.map some := (List.cons.inj h).2
      rw [List.filterMap_cons, h1, ih h2]
theorem kx_wg {s U : State} {A : Nat → Prop} {H : Heap} {D : va_G} {W0 wc : va_W} {t0 tc : List (ClassId × FieldType)} {av : List Value} (hP : va_P D vwCl W0 H) (hD : va_D A W0) (hK : va_K D vwCl t0 s) (hN : kx_N s) (is : List Nat) (hs : is.map (fun i => W0[i]?) = wc.map some) (hd : va_nd is = true) (it : List Nat) (ht : it.filterMap (fun i => t0[i]?) = tc) (hU : U.heap = H) (hW : s.WarmedH U.vm) : kx_wp D wc tc H.size av av.toArray U :=
  ⟨rfl, by rw [hU], by rw [hU]; exact hP.sub is (kx_fm hs), va_K.moved hW.alike (hK.sub it ht), hN.warm hW, (hD.sub is hd hs).weaken (fun _ _ _ _ => trivial)⟩
section KXC
variable {p : Program} {l : Launch} {e : Env} {R : Room} {s : State} {m : MethodId} {args : Array Value} {below : List Frame} {meth : Method} {c : Code} {H : Heap} {locs : List Loc} {cells slots : Nat} {Q : State → Prop}
variable {pc : Nat} {ls : Array Slot} {rest st0 : List Value} {y : MethodName} {bytes cc : ByteArray} {maxL nL n index : Nat} {ret : Option FieldType} {ws : List Cond} {rm : Room} {Ts : List Cond} {own C host : String} {b : Addr} {As : List Value} {D : va_G} {W0 W1 wc wr wc' : va_W} {t0 tc : List (ClassId × FieldType)}
theorem kx_e {x x' : Int32} (h : x = x') (k : W p l e R s m args below meth c H locs cells slots Q (F0 m pc ls (.int x' :: rest))) : W p l e R s m args below meth c H locs cells slots Q (F0 m pc ls (.int x :: rest)) := h ▸ k
theorem kx_el {x x' : Int64} (h : x = x') (k : W p l e R s m args below meth c H locs cells slots Q (F0 m pc ls (.long x' :: rest))) : W p l e R s m args below meth c H locs cells slots Q (F0 m pc ls (.long x :: rest)) := h ▸ k
/-- a virtual call that only reads -/
theorem kx_cV {r : Value} (S : CallFix p m c cc nL s args Ts own) (hM : Met l y ws rm (kx_rp D wc tc (.ref b :: As)) (k2_QcV r) 0 0 (fun _ => False)) (cw : CallW R s args own C index y bytes maxL ret ws rm 0 0 n) (hP : va_P D vwCl W0 H) (hK : va_K D vwCl t0 s) (hN : kx_N s) (is : List Nat) (hs : is.filterMap (fun i => W0[i]?) = wc) (it : List Nat) (ht : it.filterMap (fun i => t0[i]?) = tc) (ci q0 : Nat) {q : vw_C} {fs : List Value} (hc : vwCl[ci]? = some q) (hC : q.1 = C) (he : W0[q0]? = some (b, .inr (ci, fs))) (hn : As.length = n) (hsize : ls.size = nL) (hst : st0 = As.reverse ++ .ref b :: rest) (hW : (rest.map fun v => v.category).sum ≤ 8) (hdg : decode cc pc = .ok (.invokevirtual index, 3)) (hf : cells ≤ R.cells ∧ slots ≤ R.slots)
    (kk : W p l e R s m args below meth c H locs cells slots Q (F0 m (pc + 3) ls (r :: rest))) : W p l e R s m args below meth c H locs cells slots Q (F0 m pc ls st0) := by
  subst hst
  exact W.callV (W.runV S hM cw ⟨kx_rb, by rw [← hC]; exact va_recv hK hP hc he, fun U hU hW => kx_rg hP hK hN is hs it ht hU hW⟩ rfl hn hsize rfl (lv_room hW) hdg hf) kk
/-- a static call that only reads -/
theorem kx_cS {r : Value} (S : CallFix p m c cc nL s args Ts own) (hM : Met l y ws rm (kx_rp D wc tc As) (k2_QcV r) 0 0 (fun _ => False)) (cw : CallB R s args own index y bytes maxL ret ws rm 0 0 n ∧ (Cond.static y).before args s = true) (hP : va_P D vwCl W0 H) (hK : va_K D vwCl t0 s) (hN : kx_N s) (is : List Nat) (hs : is.filterMap (fun i => W0[i]?) = wc) (it : List Nat) (ht : it.filterMap (fun i => t0[i]?) = tc) (hn : As.length = n) (hsize : ls.size = nL) (hst : st0 = As.reverse ++ rest) (hW : (rest.map fun v => v.category).sum ≤ 8) (hdg : decode cc pc = .ok (.invokestatic index, 3)) (hf : cells ≤ R.cells ∧ slots ≤ R.slots)
    (kk : W p l e R s m args below meth c H locs cells slots Q (F0 m (pc + 3) ls (r :: rest))) : W p l e R s m args below meth c H locs cells slots Q (F0 m pc ls st0) := by
  subst hst
  exact W.callV (W.runS S hM cw ⟨kx_rb, fun U hU hW => kx_rg hP hK hN is hs it ht hU hW⟩ rfl hn hsize rfl (lv_room hW) hdg hf) kk
/-- a static call of a nest mate's private method that only reads -/
theorem kx_cSN {r : Value} (S : CallFix p m c cc nL s args Ts own) (hM : Met l y ws rm (kx_rp D wc tc As) (k2_QcV r) 0 0 (fun _ => False)) (cw : va_CN R s args own index y host bytes maxL ret ws rm 0 0 n ∧ (Cond.static y).before args s = true ∧ True) (hP : va_P D vwCl W0 H) (hK : va_K D vwCl t0 s) (hN : kx_N s) (is : List Nat) (hs : is.filterMap (fun i => W0[i]?) = wc) (it : List Nat) (ht : it.filterMap (fun i => t0[i]?) = tc) (hn : As.length = n) (hsize : ls.size = nL) (hst : st0 = As.reverse ++ rest) (hW : (rest.map fun v => v.category).sum ≤ 8) (hdg : decode cc pc = .ok (.invokestatic index, 3)) (hf : cells ≤ R.cells ∧ slots ≤ R.slots)
    (kk : W p l e R s m args below meth c H locs cells slots Q (F0 m (pc + 3) ls (r :: rest))) : W p l e R s m args below meth c H locs cells slots Q (F0 m pc ls st0) := by
  subst hst
  exact W.callV (va_Run.run (va_runSN S hM cw ⟨kx_rb, fun U hU hW => kx_rg hP hK hN is hs it ht hU hW⟩ rfl hn hsize rfl (lv_room hW) hdg hf)) kk
variable {A : Nat → Prop} {H0 : Heap}
theorem kx_j {H1 : Heap} (hP : va_P D vwCl W0 H) (hD : va_D A W0) (hS : va_S A H0 H locs) (hA : ∀ q, H0.size ≤ q → A q) (isC isR isP : List Nat) (hC : isC.map (fun i => W0[i]?) = wc.map some) (hR : isR.map (fun i => W0[i]?) = wr.map some) (hnR : va_nd isR = true) (hdis : ∀ i ∈ isR, i ∉ isC) (hnP : va_nd isP = true) (hPP : isP.map (fun i => (wr ++ wc')[i]?) = W1.map some) (hk : ∀ q : Nat, q < H.size → ¬ va_A wc H.size q → H1[q]? = H[q]?) (hP1 : va_P D vwCl wc' H1) (hD1 : va_D (va_A wc H.size) wc') : va_P D vwCl W1 H1 ∧ va_D A W1 := by
  obtain ⟨h1, h2⟩ := va_join hP hD isC isR hC hR hnR hdis hk (va_free hD hS hA isC hC) hP1 hD1
  exact ⟨h1.sub isP (kx_fm hPP), h2.sub isP hnP hPP⟩
/-- a virtual call that writes, and answers nothing -/
theorem kx_wVv (S : CallFix p m c cc nL s args Ts own) (hM : Met l y ws rm (kx_wp D wc tc H.size (.ref b :: As)) (kx_Qv D wc wc' H.size) 0 0 (va_A wc H.size)) (cw : CallW R s args own C index y bytes maxL ret ws rm 0 0 n) (hP : va_P D vwCl W0 H) (hD : va_D A W0) (hS : va_S A H0 H locs) (hA : ∀ q, H0.size ≤ q → A q) (hK : va_K D vwCl t0 s) (hN : kx_N s) (isC isR isP : List Nat) (hC' : isC.map (fun i => W0[i]?) = wc.map some) (hnC : va_nd isC = true) (hR : isR.map (fun i => W0[i]?) = wr.map some) (hnR : va_nd isR = true) (hdis : ∀ i ∈ isR, i ∉ isC) (hnP : va_nd isP = true) (hPP : isP.map (fun i => (wr ++ wc')[i]?) = W1.map some) (it : List Nat) (ht : it.filterMap (fun i => t0[i]?) = tc) (ci q0 : Nat) {q : vw_C} {fs : List Value} (hc : vwCl[ci]? = some q) (hC : q.1 = C) (he : W0[q0]? = some (b, .inr (ci, fs))) (hn : As.length = n) (hsize : ls.size = nL) (hst : st0 = As.reverse ++ .ref b :: rest) (hW : (rest.map fun v => v.category).sum ≤ 8) (hdg : decode cc pc = .ok (.invokevirtual index, 3)) (hf : cells ≤ R.cells ∧ slots ≤ R.slots)
    (kk : ∀ (H1 : Heap) (locs1 : List Loc), va_P D vwCl W1 H1 → va_D A W1 → va_S A H0 H1 locs1 → W p l e R s m args below meth c H1 locs1 cells slots Q (F0 m (pc + 3) ls rest)) : W p l e R s m args below meth c H locs cells slots Q (F0 m pc ls st0) := by
  subst hst
  refine va_callv (va_runV S hM cw ⟨kx_wb, by rw [← hC]; exact va_recv hK hP hc he, fun U hU hW => kx_wg hP hD hK hN isC hC' hnC it ht hU hW⟩ rfl hn hsize rfl (lv_room hW) hdg hf) hS (fun q _ h => va_free hD hS hA isC hC' q h) (va_free hD hS hA isC hC') (fun u t H1 locs1 ht hvm hw hB hz1 hk1 hS1 => ?_)
  obtain ⟨hP1, hD1⟩ := hB
  rw [ht] at hP1
  obtain ⟨hP2, hD2⟩ := kx_j hP hD hS hA isC isR isP hC' hR hnR hdis hnP hPP hk1 hP1 hD1
  exact kk H1 locs1 hP2 hD2 hS1
/-- a virtual call that writes, and answers an int -/
theorem kx_wVi {r : Int32} (S : CallFix p m c cc nL s args Ts own) (hM : Met l y ws rm (kx_wp D wc tc H.size (.ref b :: As)) (kx_Qi r D wc wc' H.size) 0 0 (va_A wc H.size)) (cw : CallW R s args own C index y bytes maxL ret ws rm 0 0 n) (hP : va_P D vwCl W0 H) (hD : va_D A W0) (hS : va_S A H0 H locs) (hA : ∀ q, H0.size ≤ q → A q) (hK : va_K D vwCl t0 s) (hN : kx_N s) (isC isR isP : List Nat) (hC' : isC.map (fun i => W0[i]?) = wc.map some) (hnC : va_nd isC = true) (hR : isR.map (fun i => W0[i]?) = wr.map some) (hnR : va_nd isR = true) (hdis : ∀ i ∈ isR, i ∉ isC) (hnP : va_nd isP = true) (hPP : isP.map (fun i => (wr ++ wc')[i]?) = W1.map some) (it : List Nat) (ht : it.filterMap (fun i => t0[i]?) = tc) (ci q0 : Nat) {q : vw_C} {fs : List Value} (hc : vwCl[ci]? = some q) (hC : q.1 = C) (he : W0[q0]? = some (b, .inr (ci, fs))) (hn : As.length = n) (hsize : ls.size = nL) (hst : st0 = As.reverse ++ .ref b :: rest) (hW : (rest.map fun v => v.category).sum ≤ 8) (hdg : decode cc pc = .ok (.invokevirtual index, 3)) (hf : cells ≤ R.cells ∧ slots ≤ R.slots)
    (kk : ∀ (H1 : Heap) (locs1 : List Loc), va_P D vwCl W1 H1 → va_D A W1 → va_S A H0 H1 locs1 → W p l e R s m args below meth c H1 locs1 cells slots Q (F0 m (pc + 3) ls (.int r :: rest))) : W p l e R s m args below meth c H locs cells slots Q (F0 m pc ls st0) := by
  subst hst
  refine va_calli (va_runV S hM cw ⟨kx_wb, by rw [← hC]; exact va_recv hK hP hc he, fun U hU hW => kx_wg hP hD hK hN isC hC' hnC it ht hU hW⟩ rfl hn hsize rfl (lv_room hW) hdg hf) hS (fun q _ h => va_free hD hS hA isC hC' q h) (va_free hD hS hA isC hC') (fun r' u t H1 locs1 ht hvm hw hB hz1 hk1 hS1 => ?_)
  obtain ⟨hP1, hD1⟩ := hB
  rw [ht] at hP1
  obtain ⟨hP2, hD2⟩ := kx_j hP hD hS hA isC isR isP hC' hR hnR hdis hnP hPP hk1 hP1 hD1
  have hw : r' = r := hw
  subst hw
  exact kk H1 locs1 hP2 hD2 hS1
/-- a static call that writes, and answers nothing: of one's own class, and of a nest mate's private method -/
theorem kx_wSv (S : CallFix p m c cc nL s args Ts own) (hM : Met l y ws rm (kx_wp D wc tc H.size As) (kx_Qv D wc wc' H.size) 0 0 (va_A wc H.size)) (cw : CallB R s args own index y bytes maxL ret ws rm 0 0 n ∧ (Cond.static y).before args s = true) (hP : va_P D vwCl W0 H) (hD : va_D A W0) (hS : va_S A H0 H locs) (hA : ∀ q, H0.size ≤ q → A q) (hK : va_K D vwCl t0 s) (hN : kx_N s) (isC isR isP : List Nat) (hC' : isC.map (fun i => W0[i]?) = wc.map some) (hnC : va_nd isC = true) (hR : isR.map (fun i => W0[i]?) = wr.map some) (hnR : va_nd isR = true) (hdis : ∀ i ∈ isR, i ∉ isC) (hnP : va_nd isP = true) (hPP : isP.map (fun i => (wr ++ wc')[i]?) = W1.map some) (it : List Nat) (ht : it.filterMap (fun i => t0[i]?) = tc) (hn : As.length = n) (hsize : ls.size = nL) (hst : st0 = As.reverse ++ rest) (hW : (rest.map fun v => v.category).sum ≤ 8) (hdg : decode cc pc = .ok (.invokestatic index, 3)) (hf : cells ≤ R.cells ∧ slots ≤ R.slots)
    (kk : ∀ (H1 : Heap) (locs1 : List Loc), va_P D vwCl W1 H1 → va_D A W1 → va_S A H0 H1 locs1 → W p l e R s m args below meth c H1 locs1 cells slots Q (F0 m (pc + 3) ls rest)) : W p l e R s m args below meth c H locs cells slots Q (F0 m pc ls st0) := by
  subst hst
  refine va_callv (va_runS S hM cw ⟨kx_wb, fun U hU hW => kx_wg hP hD hK hN isC hC' hnC it ht hU hW⟩ rfl hn hsize rfl (lv_room hW) hdg hf) hS (fun q _ h => va_free hD hS hA isC hC' q h) (va_free hD hS hA isC hC') (fun u t H1 locs1 ht hvm hw hB hz1 hk1 hS1 => ?_)
  obtain ⟨hP1, hD1⟩ := hB
  rw [ht] at hP1
  obtain ⟨hP2, hD2⟩ := kx_j hP hD hS hA isC isR isP hC' hR hnR hdis hnP hPP hk1 hP1 hD1
  exact kk H1 locs1 hP2 hD2 hS1
theorem kx_wSNv (S : CallFix p m c cc nL s args Ts own) (hM : Met l y ws rm (kx_wp D wc tc H.size As) (kx_Qv D wc wc' H.size) 0 0 (va_A wc H.size)) (cw : va_CN R s args own index y host bytes maxL ret ws rm 0 0 n ∧ (Cond.static y).before args s = true ∧ True) (hP : va_P D vwCl W0 H) (hD : va_D A W0) (hS : va_S A H0 H locs) (hA : ∀ q, H0.size ≤ q → A q) (hK : va_K D vwCl t0 s) (hN : kx_N s) (isC isR isP : List Nat) (hC' : isC.map (fun i => W0[i]?) = wc.map some) (hnC : va_nd isC = true) (hR : isR.map (fun i => W0[i]?) = wr.map some) (hnR : va_nd isR = true) (hdis : ∀ i ∈ isR, i ∉ isC) (hnP : va_nd isP = true) (hPP : isP.map (fun i => (wr ++ wc')[i]?) = W1.map some) (it : List Nat) (ht : it.filterMap (fun i => t0[i]?) = tc) (hn : As.length = n) (hsize : ls.size = nL) (hst : st0 = As.reverse ++ rest) (hW : (rest.map fun v => v.category).sum ≤ 8) (hdg : decode cc pc = .ok (.invokestatic index, 3)) (hf : cells ≤ R.cells ∧ slots ≤ R.slots)
    (kk : ∀ (H1 : Heap) (locs1 : List Loc), va_P D vwCl W1 H1 → va_D A W1 → va_S A H0 H1 locs1 → W p l e R s m args below meth c H1 locs1 cells slots Q (F0 m (pc + 3) ls rest)) : W p l e R s m args below meth c H locs cells slots Q (F0 m pc ls st0) := by
  subst hst
  refine va_callv (va_runSN S hM cw ⟨kx_wb, fun U hU hW => kx_wg hP hD hK hN isC hC' hnC it ht hU hW⟩ rfl hn hsize rfl (lv_room hW) hdg hf) hS (fun q _ h => va_free hD hS hA isC hC' q h) (va_free hD hS hA isC hC') (fun u t H1 locs1 ht hvm hw hB hz1 hk1 hS1 => ?_)
  obtain ⟨hP1, hD1⟩ := hB
  rw [ht] at hP1
  obtain ⟨hP2, hD2⟩ := kx_j hP hD hS hA isC isR isP hC' hR hnR hdis hnP hPP hk1 hP1 hD1
  exact kk H1 locs1 hP2 hD2 hS1
-- arrays, at a place that is a number
theorem kx_ld (hexec : p.tables.exec = Jvm.exec) (hb : c.code = cc) (hK : va_K D vwCl t0 s) (hP : va_P D vwCl W0 H) (q0 u0 : Nat) {a : Nat} {cA : ClassId} {N : Nat} {f : Nat → Int32} (ha : W0[q0]? = some (a, .inl (cA, N, .inl f))) (ht : t0[u0]? = some (cA, .int)) (j : Nat) {i : Int32} (hi : i = nI j) (hj : j < N) (hN : N < 2 ^ 31) (hdg : decode cc pc = .ok (.iaload, 1))
    (kk : W p l e R s m args below meth c H locs cells slots Q (F0 m (pc + 1) ls (.int (f j) :: rest))) : W p l e R s m args below meth c H locs cells slots Q (F0 m pc ls (.int i :: .ref a :: rest)) := by
  subst hi
  refine va_iald hexec hb hK hP q0 u0 ha ht (vp_in_nI hj hN) hdg ?_
  rw [nI_clamp (Nat.lt_trans hj hN)]
  exact kk
theorem kx_zld (hexec : p.tables.exec = Jvm.exec) (hb : c.code = cc) (hK : va_K D vwCl t0 s) (hP : va_P D vwCl W0 H) (q0 u0 : Nat) {a : Nat} {cA : ClassId} {N : Nat} {f : Nat → Int32} (ha : W0[q0]? = some (a, .inl (cA, N, .inl f))) (ht : t0[u0]? = some (cA, .boolean)) (j : Nat) {i : Int32} (hi : i = nI j) (hj : j < N) (hN : N < 2 ^ 31) (hdg : decode cc pc = .ok (.baload, 1))
    (kk : W p l e R s m args below meth c H locs cells slots Q (F0 m (pc + 1) ls (.int (f j) :: rest))) : W p l e R s m args below meth c H locs cells slots Q (F0 m pc ls (.int i :: .ref a :: rest)) := by
  subst hi
  refine va_zald hexec hb hK hP q0 u0 ha ht (vp_in_nI hj hN) hdg ?_
  rw [nI_clamp (Nat.lt_trans hj hN)]
  exact kk
theorem kx_st (hexec : p.tables.exec = Jvm.exec) (hb : c.code = cc) (hK : va_K D vwCl t0 s) (hP : va_P D vwCl W0 H) (hD : va_D A W0) (hS : va_S A H0 H locs) (q0 u0 : Nat) {a : Nat} {cA : ClassId} {N : Nat} {f : Nat → Int32} (ha : W0[q0]? = some (a, .inl (cA, N, .inl f))) (ht : t0[u0]? = some (cA, .int)) (j : Nat) {i x : Int32} (hi : i = nI j) (hj : j < N) (hN : N < 2 ^ 31) (hdg : decode cc pc = .ok (.iastore, 1))
    (kk : ∀ (H1 : Heap) (locs1 : List Loc), va_P D vwCl (W0.set q0 (a, .inl (cA, N, .inl (upd f j x)))) H1 → va_D A (W0.set q0 (a, .inl (cA, N, .inl (upd f j x)))) → va_S A H0 H1 locs1 → W p l e R s m args below meth c H1 locs1 cells slots Q (F0 m (pc + 1) ls rest)) : W p l e R s m args below meth c H locs cells slots Q (F0 m pc ls (.int x :: .int i :: .ref a :: rest)) := by
  subst hi
  refine va_iast hexec hb hK hP hD hS q0 u0 ha ht (vp_in_nI hj hN) hdg ?_
  rw [nI_clamp (Nat.lt_trans hj hN)]
  exact kk
theorem kx_zst (hexec : p.tables.exec = Jvm.exec) (hb : c.code = cc) (hK : va_K D vwCl t0 s) (hP : va_P D vwCl W0 H) (hD : va_D A W0) (hS : va_S A H0 H locs) (q0 u0 : Nat) {a : Nat} {cA : ClassId} {N : Nat} {f : Nat → Int32} (ha : W0[q0]? = some (a, .inl (cA, N, .inl f))) (ht : t0[u0]? = some (cA, .boolean)) (j : Nat) {i x : Int32} (hi : i = nI j) (hj : j < N) (hN : N < 2 ^ 31) (hx : vp_nar .boolean x = x) (hdg : decode cc pc = .ok (.bastore, 1))
    (kk : ∀ (H1 : Heap) (locs1 : List Loc), va_P D vwCl (W0.set q0 (a, .inl (cA, N, .inl (upd f j x)))) H1 → va_D A (W0.set q0 (a, .inl (cA, N, .inl (upd f j x)))) → va_S A H0 H1 locs1 → W p l e R s m args below meth c H1 locs1 cells slots Q (F0 m (pc + 1) ls rest)) : W p l e R s m args below meth c H locs cells slots Q (F0 m pc ls (.int x :: .int i :: .ref a :: rest)) := by
  subst hi
  refine va_zast hexec hb hK hP hD hS q0 u0 ha ht (vp_in_nI hj hN) hdg ?_
  rw [nI_clamp (Nat.lt_trans hj hN), hx]
  exact kk
-- branches between numbers
theorem kx_lt (hexec : p.tables.exec = Jvm.exec) (hb : c.code = cc) (i j : Nat) {x y : Int32} (hx : x = nI i) (hy : y = nI j) (hi : i < 2 ^ 31) (hj : j < 2 ^ 31) {off : Int} {tgt : Nat} (hdg : decode cc pc = .ok (.if_icmp .lt off, 3)) (ht : (pc : Int) + off = (tgt : Int)) (kt : i < j → W p l e R s m args below meth c H locs cells slots Q (F0 m tgt ls rest)) (kf : j ≤ i → W p l e R s m args below meth c H locs cells slots Q (F0 m (pc + 3) ls rest)) : W p l e R s m args below meth c H locs cells slots Q (F0 m pc ls (.int y :: .int x :: rest)) := by
  subst hx; subst hy
  exact lv_icmp_lt hexec hb hdg ht (fun h => kt ((nI_ltI hi hj).mp h)) (fun h => kf (Nat.le_of_not_lt (fun q => h ((nI_ltI hi hj).mpr q))))
theorem kx_ge (hexec : p.tables.exec = Jvm.exec) (hb : c.code = cc) (i j : Nat) {x y : Int32} (hx : x = nI i) (hy : y = nI j) (hi : i < 2 ^ 31) (hj : j < 2 ^ 31) {off : Int} {tgt : Nat} (hdg : decode cc pc = .ok (.if_icmp .ge off, 3)) (ht : (pc : Int) + off = (tgt : Int)) (kt : j ≤ i → W p l e R s m args below meth c H locs cells slots Q (F0 m tgt ls rest)) (kf : i < j → W p l e R s m args below meth c H locs cells slots Q (F0 m (pc + 3) ls rest)) : W p l e R s m args below meth c H locs cells slots Q (F0 m pc ls (.int y :: .int x :: rest)) := by
  subst hx; subst hy
  exact lv_icmp_ge hexec hb hdg ht (fun h => kt ((nI_leI hj hi).mp h)) (fun h => kf (Nat.lt_of_not_le (fun q => h ((nI_leI hj hi).mpr q))))
theorem kx_gt (hexec : p.tables.exec = Jvm.exec) (hb : c.code = cc) (i j : Nat) {x y : Int32} (hx : x = nI i) (hy : y = nI j) (hi : i < 2 ^ 31) (hj : j < 2 ^ 31) {off : Int} {tgt : Nat} (hdg : decode cc pc = .ok (.if_icmp .gt off, 3)) (ht : (pc : Int) + off = (tgt : Int)) (kt : j < i → W p l e R s m args below meth c H locs cells slots Q (F0 m tgt ls rest)) (kf : i ≤ j → W p l e R s m args below meth c H locs cells slots Q (F0 m (pc + 3) ls rest)) : W p l e R s m args below meth c H locs cells slots Q (F0 m pc ls (.int y :: .int x :: rest)) := by
  subst hx; subst hy
  exact lv_icmp_gt hexec hb hdg ht (fun h => kt ((nI_ltI hj hi).mp h)) (fun h => kf (Nat.le_of_not_lt (fun q => h ((nI_ltI hj hi).mpr q))))
theorem kx_ne (hexec : p.tables.exec = Jvm.exec) (hb : c.code = cc) (i j : Nat) {x y : Int32} (hx : x = nI i) (hy : y = nI j) (hi : i < 2 ^ 31) (hj : j < 2 ^ 31) {off : Int} {tgt : Nat} (hdg : decode cc pc = .ok (.if_icmp .ne off, 3)) (ht : (pc : Int) + off = (tgt : Int)) (kt : ¬ i = j → W p l e R s m args below meth c H locs cells slots Q (F0 m tgt ls rest)) (kf : i = j → W p l e R s m args below meth c H locs cells slots Q (F0 m (pc + 3) ls rest)) : W p l e R s m args below meth c H locs cells slots Q (F0 m pc ls (.int y :: .int x :: rest)) := by
  subst hx; subst hy
  exact lv_icmp_ne hexec hb hdg ht (fun h => kt (fun q => h (by rw [q]))) (fun h => kf ((nI_eq hi hj).mp h))
theorem kx_eq (hexec : p.tables.exec = Jvm.exec) (hb : c.code = cc) (i j : Nat) {x y : Int32} (hx : x = nI i) (hy : y = nI j) (hi : i < 2 ^ 31) (hj : j < 2 ^ 31) {off : Int} {tgt : Nat} (hdg : decode cc pc = .ok (.if_icmp .eq off, 3)) (ht : (pc : Int) + off = (tgt : Int)) (kt : i = j → W p l e R s m args below meth c H locs cells slots Q (F0 m tgt ls rest)) (kf : ¬ i = j → W p l e R s m args below meth c H locs cells slots Q (F0 m (pc + 3) ls rest)) : W p l e R s m args below meth c H locs cells slots Q (F0 m pc ls (.int y :: .int x :: rest)) := by
  subst hx; subst hy
  exact lv_icmp_eq hexec hb hdg ht (fun h => kt ((nI_eq hi hj).mp h)) (fun h => kf (fun q => h (by rw [q])))
/-- a loop that counts down: at its head the counter is nI n - 1 -/
theorem kx_dn (hexec : p.tables.exec = Jvm.exec) (hb : c.code = cc) (n : Nat) {x : Int32} (hx : x = nI n + (-1)) (hn : n < 2 ^ 31) {off : Int} {tgt : Nat} (hdg : decode cc pc = .ok (.ifCond .lt off, 3)) (ht : (pc : Int) + off = (tgt : Int)) (kt : n = 0 → W p l e R s m args below meth c H locs cells slots Q (F0 m tgt ls rest)) (kf : 0 < n → W p l e R s m args below meth c H locs cells slots Q (F0 m (pc + 3) ls rest)) : W p l e R s m args below meth c H locs cells slots Q (F0 m pc ls (.int x :: rest)) := by
  subst hx
  cases n with
  | zero => exact lv_if_lt hexec hb hdg ht (fun _ => kt rfl) (fun h => absurd (by decide) h)
  | succ n =>
    rw [pk_m1]
    exact lv_if_lt hexec hb hdg ht (fun h => absurd h (nI_pos (by omega))) (fun _ => kf (by omega))
end KXC
theorem kx_sub1 (n : Nat) : nI n - 1 = nI n + (-1) := by rw [Int32.sub_eq_add_neg]
def kx_z (P : Prop) [Decidable P] : Int32 := if P then 1 else 0
theorem kx_in {x : Int32} {n : Nat} (hn : n < 2 ^ 31) (h0 : ¬ x < 0) (h1 : ¬ nI n ≤ x) : vp_in x n := by
  rcases pk_ix x hn with h | h | ⟨j, hj, rfl⟩
  · exact absurd h h0
  · exact absurd h h1
  · exact vp_in_nI hj hn
section KXD
variable {p : Program} {l : Launch} {e : Env} {R : Room} {s : State} {m : MethodId} {args : Array Value} {below : List Frame} {meth : Method} {c : Code} {H : Heap} {locs : List Loc} {cells slots : Nat} {Q : State → Prop}
variable {pc : Nat} {ls : Array Slot} {rest : List Value} {cc : ByteArray}
theorem kx_le (hexec : p.tables.exec = Jvm.exec) (hb : c.code = cc) (i j : Nat) {x y : Int32} (hx : x = nI i) (hy : y = nI j) (hi : i < 2 ^ 31) (hj : j < 2 ^ 31) {off : Int} {tgt : Nat} (hdg : decode cc pc = .ok (.if_icmp .le off, 3)) (ht : (pc : Int) + off = (tgt : Int)) (kt : i ≤ j → W p l e R s m args below meth c H locs cells slots Q (F0 m tgt ls rest)) (kf : j < i → W p l e R s m args below meth c H locs cells slots Q (F0 m (pc + 3) ls rest)) : W p l e R s m args below meth c H locs cells slots Q (F0 m pc ls (.int y :: .int x :: rest)) := by
  subst hx; subst hy
  exact lv_icmp_le hexec hb hdg ht (fun h => kt ((nI_leI hi hj).mp h)) (fun h => kf (Nat.lt_of_not_le (fun q => h ((nI_leI hi hj).mpr q))))
theorem kx_z0 {n : Nat} (hn : n < 2 ^ 31) : nI n = 0 ↔ n = 0 := nI_eq (b := 0) hn (by decide)
theorem kx_eq0 (hexec : p.tables.exec = Jvm.exec) (hb : c.code = cc) (i : Nat) {x : Int32} (hx : x = nI i) (hi : i < 2 ^ 31) {off : Int} {tgt : Nat} (hdg : decode cc pc = .ok (.ifCond .eq off, 3)) (ht : (pc : Int) + off = (tgt : Int)) (kt : i = 0 → W p l e R s m args below meth c H locs cells slots Q (F0 m tgt ls rest)) (kf : ¬ i = 0 → W p l e R s m args below meth c H locs cells slots Q (F0 m (pc + 3) ls rest)) : W p l e R s m args below meth c H locs cells slots Q (F0 m pc ls (.int x :: rest)) := by
  subst hx
  exact lv_if_eq hexec hb hdg ht (fun h => kt ((kx_z0 hi).mp h)) (fun h => kf (fun q => h ((kx_z0 hi).mpr q)))
theorem kx_ne0 (hexec : p.tables.exec = Jvm.exec) (hb : c.code = cc) (i : Nat) {x : Int32} (hx : x = nI i) (hi : i < 2 ^ 31) {off : Int} {tgt : Nat} (hdg : decode cc pc = .ok (.ifCond .ne off, 3)) (ht : (pc : Int) + off = (tgt : Int)) (kt : ¬ i = 0 → W p l e R s m args below meth c H locs cells slots Q (F0 m tgt ls rest)) (kf : i = 0 → W p l e R s m args below meth c H locs cells slots Q (F0 m (pc + 3) ls rest)) : W p l e R s m args below meth c H locs cells slots Q (F0 m pc ls (.int x :: rest)) := by
  subst hx
  exact lv_if_ne hexec hb hdg ht (fun h => kt (fun q => h ((kx_z0 hi).mpr q))) (fun h => kf ((kx_z0 hi).mp h))
end KXD
theorem kx_tnc (w : Int32) : w.toNatClampNeg < 2 ^ 31 := by
  by_cases h : w < 0
  · have : w.toNatClampNeg = 0 := by
      have h2 : w.toInt < 0 := Int32.lt_iff_toInt_lt.mp h
      show w.toInt.toNat = 0
      omega
    omega
  · obtain ⟨j, hj, rfl⟩ := nI_of h
    rw [nI_clamp hj]; exact hj
theorem kx_ltR {i : Nat} (w : Int32) (hi : i < 2 ^ 31) : nI i < w ↔ i < w.toNatClampNeg := by
  by_cases h : w < 0
  · have h2 : w.toInt < 0 := Int32.lt_iff_toInt_lt.mp h
    have h3 : w.toNatClampNeg = 0 := by show w.toInt.toNat = 0; omega
    have h4 : (nI i).toInt = (i : Int) := nI_toInt hi
    constructor
    · intro q
      have q2 : (nI i).toInt < w.toInt := Int32.lt_iff_toInt_lt.mp q
      omega
    · intro q; omega
  · obtain ⟨j, hj, rfl⟩ := nI_of h
    rw [nI_clamp hj]; exact nI_ltI hi hj
section KXE
variable {p : Program} {l : Launch} {e : Env} {R : Room} {s : State} {m : MethodId} {args : Array Value} {below : List Frame} {meth : Method} {c : Code} {H : Heap} {locs : List Loc} {cells slots : Nat} {Q : State → Prop}
variable {pc : Nat} {ls : Array Slot} {rest : List Value} {cc : ByteArray}
theorem kx_geR (hexec : p.tables.exec = Jvm.exec) (hb : c.code = cc) (i : Nat) (w : Int32) {x : Int32} (hx : x = nI i) (hi : i < 2 ^ 31) {off : Int} {tgt : Nat} (hdg : decode cc pc = .ok (.if_icmp .ge off, 3)) (ht : (pc : Int) + off = (tgt : Int)) (kt : w.toNatClampNeg ≤ i → W p l e R s m args below meth c H locs cells slots Q (F0 m tgt ls rest)) (kf : i < w.toNatClampNeg → W p l e R s m args below meth c H locs cells slots Q (F0 m (pc + 3) ls rest)) : W p l e R s m args below meth c H locs cells slots Q (F0 m pc ls (.int w :: .int x :: rest)) := by
  subst hx
  exact lv_icmp_ge hexec hb hdg ht (fun h => kt (Nat.le_of_not_lt (fun q => Int32.not_le.mpr ((kx_ltR w hi).mpr q) h))) (fun h => kf ((kx_ltR w hi).mp (Int32.not_le.mp h)))
end KXE
