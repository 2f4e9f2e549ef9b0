section KXF
variable {p : Program} {l : Launch} {e : Env} {R : Room} {s : State} {m : MethodId} {args : Array Value} {below : List Frame} {meth : Method} {c : Code} {H : Heap} {locs : List Loc} {cells slots : Nat} {Q : State → Prop}
variable {pc : Nat} {ls : Array Slot} {rest : List Value} {cc : ByteArray}
theorem kx_le0 (hexec : p.tables.exec = Jvm.exec) (hb : c.code = cc) (i : Nat) {x : Int32} (hx : x = nI i) (hi : i < 2 ^ 31) {off : Int} {tgt : Nat} (hdg : decode cc pc = .ok (.ifCond .le off, 3)) (ht : (pc : Int) + off = (tgt : Int)) (kt : i = 0 → W p l e R s m args below meth c H locs cells slots Q (F0 m tgt ls rest)) (kf : ¬ i = 0 → W p l e R s m args below meth c H locs cells slots Q (F0 m (pc + 3) ls rest)) : W p l e R s m args below meth c H locs cells slots Q (F0 m pc ls (.int x :: rest)) := by
  subst hx
  exact lv_if_le hexec hb hdg ht (fun h => kt (by have := (nI_leI (b := 0) hi (by decide)).mp h; omega)) (fun h => kf (fun q => h (by rw [q]; decide)))
theorem kx_gt0 (hexec : p.tables.exec = Jvm.exec) (hb : c.code = cc) (i : Nat) {x : Int32} (hx : x = nI i) (hi : i < 2 ^ 31) {off : Int} {tgt : Nat} (hdg : decode cc pc = .ok (.ifCond .gt off, 3)) (ht : (pc : Int) + off = (tgt : Int)) (kt : ¬ i = 0 → W p l e R s m args below meth c H locs cells slots Q (F0 m tgt ls rest)) (kf : i = 0 → W p l e R s m args below meth c H locs cells slots Q (F0 m (pc + 3) ls rest)) : W p l e R s m args below meth c H locs cells slots Q (F0 m pc ls (.int x :: rest)) := by
  subst hx
  exact lv_if_gt hexec hb hdg ht (fun h => kt (fun q => by rw [q] at h; exact absurd h (by decide))) (fun h => kf (by
    rcases Nat.eq_zero_or_pos i with q | q
    · exact q
    · exact absurd ((nI_ltI (a := 0) (by decide) hi).mpr q) h))
end KXF
/-- how many stitches a book tells of -/
def mN (b : Nat → Int32) : Nat := (b 96).toNatClampNeg
/-- what a stitch hangs on: one ahead of it, or none -/
def kx_on (x : Int32) (k : Nat) : Prop := x = (-6 : Int32) ∨ ∃ j, j < k ∧ x = nI j
/-- what holds of a book at any time -/
def kx_I (b : Nat → Int32) : Prop := b 96 = nI (mN b) ∧ mN b ≤ 24 ∧ ∀ k, k < mN b → kx_on (b (48 + k)) k
theorem kx_onP {x : Int32} {k : Nat} (hk : k ≤ 24) (h : kx_on x k) (c : ¬ x < 0) : x = nI x.toNatClampNeg ∧ x.toNatClampNeg < k := by
  rcases h with rfl | ⟨j, hj, rfl⟩
  · exact absurd (by decide) c
  · rw [nI_clamp (by omega)]; exact ⟨rfl, hj⟩
theorem kx_bI {b g : Nat → Int32} (h : kx_I b) (h96 : g 96 = b 96) (ho : ∀ k, k < 24 → g (48 + k) = b (48 + k)) : kx_I g := by
  have hm : mN g = mN b := by unfold mN; rw [h96]
  refine ⟨by rw [hm, h96]; exact h.1, by rw [hm]; exact h.2.1, fun k hk => ?_⟩
  rw [hm] at hk
  rw [ho k (Nat.lt_of_lt_of_le hk h.2.1)]
  exact h.2.2 k hk
