/-! what ties the class's state to the reference's -/
def RS (co ti an : Nat → Int32) (n : Nat) (ea : Int32) (b : Nat → Int32) : Prop := n ≤ 24 ∧ b 96 = nI n ∧ (∀ k, k < n → (co k = b k ∧ ∃ j, j < 4 ∧ co k = nI j) ∧ (ti k = b (24 + k) ∧ ∃ j, j < 10 ∧ ti k = nI j) ∧ ((an k = (-1 : Int32) ∧ b (48 + k) = (-6 : Int32)) ∨ ∃ j, j < k ∧ an k = nI j ∧ b (48 + k) = nI j) ∧ b (72 + k) = (if bt ea k = true then (1 : Int32) else (0 : Int32))) ∧ ∀ i, n ≤ i → i < 32 → bt ea i = false
def RK (kt kn : Nat → Int32) : Prop := ∀ k, k < 4 → kt k = kn k ∧ ∃ j, j < 10 ∧ kt k = nI j
def RF (si : Nat) (fi : Int32) (rg : Nat) (sh : Nat → Int32) : Prop := si = rg ∧ rg ≤ 8 ∧ fi = fX6_tightSet rg sh
def RP (np : Nat) (psg : Nat → Int32) (sn : Nat) (pd : Nat → Int32) : Prop := np = sn ∧ np ≤ 60 ∧ ∀ k, k < np → psg k = pd k
def RM (i : Nat) (kp : Int32) (zk : Nat → Int32) (co ti an : Nat → Int32) (n : Nat) (ea : Int32) (kt : Nat → Int32) (si : Nat) (fi : Int32) (im : Nat → Int32) : Prop := n ≤ 24 ∧ (fX5_isIn kp (nI i) = 0 ↔ zk i = 0) ∧ (¬ zk i = 0 → RS co ti an n ea (imB im i) ∧ RK kt (fun k => im (150 * i + 100 + k)) ∧ im (150 * i + 130) = nI si ∧ RF si fi si (fun k => im (150 * i + 110 + k)))
theorem RS_mN {co ti an : Nat → Int32} {n : Nat} {ea : Int32} {b : Nat → Int32} (h : RS co ti an n ea b) : mN b = n := by
  have h1 := h.1
  unfold mN
  rw [h.2.1, nI_clamp (by omega)]
theorem RS_kI {co ti an : Nat → Int32} {n : Nat} {ea : Int32} {b : Nat → Int32} (h : RS co ti an n ea b) : kx_I b := by
  have hm := RS_mN h
  refine ⟨by rw [hm]; exact h.2.1, by rw [hm]; exact h.1, fun k hk => ?_⟩
  rw [hm] at hk
  rcases (h.2.2.1 k hk).2.2.1 with ⟨-, h2⟩ | ⟨j, hj, -, h2⟩
  · exact Or.inl h2
  · exact Or.inr ⟨j, hj, h2⟩
theorem RM_kM {i : Nat} {kp : Int32} {zk : Nat → Int32} {co ti an : Nat → Int32} {n : Nat} {ea : Int32} {kt : Nat → Int32} {si : Nat} {fi : Int32} {im : Nat → Int32} (h : RM i kp zk co ti an n ea kt si fi im) (hz : ¬ zk i = 0) : kx_M im i := by
  obtain ⟨h1, h2, h3, h4⟩ := h.2.2 hz
  have h5 : si ≤ 8 := h4.2.1
  have h6 : (im (150 * i + 130)).toNatClampNeg = si := by rw [h3, nI_clamp (by omega)]
  exact ⟨RS_kI h1, by rw [h6]; exact h3, by rw [h6]; exact h5⟩
theorem RM_img {kp : Int32} {zk im : Nat → Int32} {co ti an : Nat → Int32} {n : Nat} {ea : Int32} {kt : Nat → Int32} {si : Nat} {fi : Int32} {co2 ti2 an2 : Nat → Int32} {n2 : Nat} {ea2 : Int32} {kt2 : Nat → Int32} {si2 : Nat} {fi2 : Int32} (h : RM 0 kp zk co ti an n ea kt si fi im) (h2 : RM 1 kp zk co2 ti2 an2 n2 ea2 kt2 si2 fi2 im) : ∀ i, i < 2 → ¬ zk i = 0 → kx_M im i := by
  intro i hi hz
  rcases (show i = 0 ∨ i = 1 by omega) with rfl | rfl
  · exact RM_kM h hz
  · exact RM_kM h2 hz
