/-! pulling one, what is told -/
theorem m_pull {co ti an : Nat → Int32} {n : Nat} {ea ud : Int32} {bk nw : Nat → Int32} (iS : RS co ti an n ea bk) (hJ : kx_I nw) (a1 : Int32) {r : Int32 × (Nat → Int32) × Int32} (hr : fX6_pull ud bk nw a1 = r) : fX5_pull n an a1 = r.1 ∧ kx_I r.2.1 := by
  have hs := has_stitch iS a1
  have hn := iS.1
  unfold fX6_pull at hr
  unfold fX5_pull
  by_cases c : fX2_has n a1 = 0
  · rw [if_pos (hs ▸ c)] at hr
    rw [if_pos c]
    subst hr
    exact ⟨rfl, hJ⟩
  · rw [if_neg (hs ▸ c)] at hr
    rw [if_neg c]
    obtain ⟨k1, k2⟩ := below_P (b := n) (by omega) c
    have iN := RS_now (nw := nw) iS
    generalize fX6_asNow bk nw = T at hr iN
    obtain ⟨Ta, Tb⟩ := T
    dsimp only at hr iN
    subst hr
    refine ⟨?_, RS_kI iN⟩
    have hm := RS_mN iN
    show nI (pcN (fX2_undoneWith n an a1.toNatClampNeg)) = fX6_bits (fX6_threadOf Ta a1.toNatClampNeg)
    rw [undone_eq iN k2]
    exact pcN_bits (fun i h1 h2 => (thr_P (RS_kI iN) (ks := a1.toNatClampNeg) (by omega)).2.2.1 i (by omega))
theorem m_told {si : Nat} {fi : Int32} {rg : Nat} {sh kt kn co ti an : Nat → Int32} {n np sn : Nat} {psg pd : Nat → Int32} {ea ud : Int32} {bk nw : Nat → Int32} (iS : RS co ti an n ea bk) (iK : RK kt kn) (iF : RF si fi rg sh) (iP : RP np psg sn pd) (hJ : kx_I nw) (a1 : Int32) {r : Int32 × (Nat → Int32) × Int32} (hr : fX6_told rg sn ud bk nw kn a1 = r) : fX5_told si kt n ea co ti an np a1 = r.1 ∧ kx_I r.2.1 := by
  have hn := iS.1
  have hm := RS_mN iS
  have e1 : np = sn := iP.1
  have e2 : si = rg := iF.1
  unfold fX6_told at hr
  unfold fX5_told
  by_cases c1 : a1 < (100 : Int32)
  · rw [if_pos c1] at hr
    rw [if_pos c1]
    by_cases c2 : a1 < (10 : Int32)
    · rw [if_pos c2] at hr
      have hb : fX5_isBelow (a1 - (10 : Int32)) (4 : Int32) = 0 := by
        rw [show fX5_isBelow (a1 - (10 : Int32)) (4 : Int32) = fX6_in a1 (10 : Int32) (13 : Int32) from below_sub a1 (a := 10) (b := 3) (by decide) (by decide)]
        unfold fX6_in
        rw [if_pos c2]
      rw [if_pos hb]
      have iN := RS_now (nw := nw) iS
      generalize fX6_asNow bk nw = T at hr iN
      obtain ⟨Ta, Tb⟩ := T
      dsimp only at hr iN
      by_cases w0 : a1 = (0 : Int32)
      · rw [if_pos w0] at hr
        rw [if_pos w0]
        subst hr
        exact ⟨by rw [e1], RS_kI iN⟩
      · rw [if_neg w0] at hr
        rw [if_neg w0]
        by_cases w1 : a1 = (1 : Int32)
        · rw [if_pos w1] at hr
          rw [if_pos w1]
          subst hr
          exact ⟨by rw [hm], RS_kI iN⟩
        · rw [if_neg w1] at hr
          rw [if_neg w1]
          by_cases w2 : a1 = (2 : Int32)
          · rw [if_pos w2] at hr
            rw [if_pos w2]
            subst hr
            exact ⟨(eaten_eq iN).symm, RS_kI iN⟩
          · rw [if_neg w2] at hr
            rw [if_neg w2]
            by_cases w3 : a1 = (3 : Int32)
            · rw [if_pos w3] at hr
              rw [if_pos w3]
              subst hr
              exact ⟨by rw [e2], RS_kI iN⟩
            · rw [if_neg w3] at hr
              rw [if_neg w3]
              by_cases w4 : a1 = (4 : Int32)
              · rw [if_pos w4] at hr
                rw [if_pos w4]
                subst hr
                exact ⟨loose_eq iN, RS_kI iN⟩
              · rw [if_neg w4] at hr
                rw [if_neg w4]
                subst hr
                exact ⟨rfl, RS_kI iN⟩
    · rw [if_neg c2] at hr
      have hb' : fX5_isBelow (a1 - (10 : Int32)) (4 : Int32) = fX6_isKnitter (a1 - (10 : Int32)) := below_in (a1 - (10 : Int32)) (b := 3) (by decide)
      rw [hb']
      by_cases c3 : fX6_isKnitter (a1 - (10 : Int32)) = 0
      · rw [if_pos c3] at hr
        rw [if_pos c3]
        have ne : ∀ k : Int32, k < (10 : Int32) → ¬ a1 = k := fun k hk q => c2 (by rw [q]; exact hk)
        rw [if_neg (ne 0 (by decide)), if_neg (ne 1 (by decide)), if_neg (ne 2 (by decide)), if_neg (ne 3 (by decide)), if_neg (ne 4 (by decide))]
        subst hr
        exact ⟨rfl, hJ⟩
      · rw [if_neg c3] at hr
        rw [if_neg c3]
        obtain ⟨j, hj, e⟩ := in_ok (b := 3) (by decide) c3
        subst hr
        refine ⟨?_, hJ⟩
        show fX3_tightnessOf kt (a1 - (10 : Int32)) = kn (a1 - (10 : Int32)).toNatClampNeg
        rw [e, nI_clamp (by omega)]
        unfold fX3_tightnessOf
        rw [at_nI (by omega) (by decide)]
        exact (iK j (by omega)).1
  · rw [if_neg c1] at hr
    rw [if_neg c1]
    have h0 : ¬ a1 < 0 := fun q => c1 (Int32.lt_iff_toInt_lt.mpr (by
      have q1 := Int32.lt_iff_toInt_lt.mp q
      have q2 : (100 : Int32).toInt = 100 := by decide
      have q3 : (0 : Int32).toInt = 0 := by decide
      omega))
    obtain ⟨w, hw, rfl⟩ := nI_of h0
    have hw2 : 100 ≤ w := Nat.le_of_not_lt (fun q => c1 ((nI_ltI (b := 100) hw (by decide)).mpr q))
    have d1 : nI w / (100 : Int32) = nI (w / 100) := pk_div (d := 100) hw (by decide) (by decide)
    have d2 : nI w - nI w / (100 : Int32) * (100 : Int32) = nI (w % 100) := pk_rem (d := 100) hw (by decide) (by decide)
    have d3 : nI (w / 100) - (1 : Int32) = nI (w / 100 - 1) := pk_sub (b := 1) (by omega)
    rw [d2, d1, d3] at hr
    rw [d2, d1, d3]
    have hs := has_stitch iS (nI (w / 100 - 1))
    unfold fX5_toldOfStitch
    rw [hs]
    by_cases c2 : fX6_isStitch bk (nI (w / 100 - 1)) = 0
    · rw [if_pos c2] at hr
      rw [if_pos c2]
      subst hr
      exact ⟨rfl, hJ⟩
    · rw [if_neg c2] at hr
      rw [if_neg c2]
      obtain ⟨k1, k2⟩ := below_P (b := n) (by omega) (hs ▸ c2 : ¬ fX2_has n (nI (w / 100 - 1)) = 0)
      rw [nI_clamp (by omega)] at k2
      have hm3 : w % 100 < 2 ^ 31 := by omega
      rw [show fX5_isBelow (nI (w % 100)) (3 : Int32) = (if w % 100 < 3 then (1 : Int32) else (0 : Int32)) from below_nn (b := 3) hm3 (by decide)]
      by_cases c3 : w % 100 < 3
      · rw [if_neg (show ¬ (3 : Int32) ≤ nI (w % 100) from fun q => by have := (nI_leI (a := 3) (by decide) hm3).mp q; omega)] at hr
        rw [if_pos c3, if_neg (by decide)]
        subst hr
        refine ⟨?_, hJ⟩
        show fX2_trait co ti an (nI (w / 100 - 1)) (nI (w % 100)) = bk (24 * (nI (w % 100)).toNatClampNeg + (nI (w / 100 - 1)).toNatClampNeg)
        rw [trait_eq iS k2 c3, nI_clamp hm3, nI_clamp (by omega)]
      · rw [if_pos (show (3 : Int32) ≤ nI (w % 100) from (nI_leI (a := 3) (by decide) hm3).mpr (by omega))] at hr
        rw [if_neg c3, if_pos rfl]
        subst hr
        exact ⟨rfl, hJ⟩
/-! images -/
theorem img_L20 (bk : Nat → Int32) (k : Int32) : ∀ (r j : Nat) (g : Nat → Int32) (x : Nat), fX6_image_L20 bk k r j g x = if 150 * k.toNatClampNeg + j ≤ x ∧ x < 150 * k.toNatClampNeg + j + r then bk (x - 150 * k.toNatClampNeg) else g x := by
  intro r
  induction r with
  | zero => intro j g x; rw [fX6_image_L20, if_neg (by omega)]
  | succ r ih =>
    intro j g x
    rw [fX6_image_L20, ih]
    by_cases q : x = 150 * k.toNatClampNeg + j
    · rw [if_neg (by omega), if_pos (by omega), q, upd_s]
      exact congrArg bk (by omega)
    · rw [upd_n q]
      by_cases c : 150 * k.toNatClampNeg + (j + 1) ≤ x ∧ x < 150 * k.toNatClampNeg + (j + 1) + r
      · rw [if_pos c, if_pos (by omega)]
      · rw [if_neg c, if_neg (by omega)]
theorem img_L48 (kn : Nat → Int32) (k : Int32) : ∀ (r j : Nat) (g : Nat → Int32) (x : Nat), fX6_image_L48 kn k r j g x = if 150 * k.toNatClampNeg + 100 + j ≤ x ∧ x < 150 * k.toNatClampNeg + 100 + j + r then kn (x - (150 * k.toNatClampNeg + 100)) else g x := by
  intro r
  induction r with
  | zero => intro j g x; rw [fX6_image_L48, if_neg (by omega)]
  | succ r ih =>
    intro j g x
    rw [fX6_image_L48, ih]
    by_cases q : x = 150 * k.toNatClampNeg + 100 + j
    · rw [if_neg (by omega), if_pos (by omega), q, upd_s]
      exact congrArg kn (by omega)
    · rw [upd_n q]
      by_cases c : 150 * k.toNatClampNeg + 100 + (j + 1) ≤ x ∧ x < 150 * k.toNatClampNeg + 100 + (j + 1) + r
      · rw [if_pos c, if_pos (by omega)]
      · rw [if_neg c, if_neg (by omega)]
theorem img_L78 (sh : Nat → Int32) (k : Int32) : ∀ (r j : Nat) (g : Nat → Int32) (x : Nat), fX6_image_L78 sh k r j g x = if 150 * k.toNatClampNeg + 110 + j ≤ x ∧ x < 150 * k.toNatClampNeg + 110 + j + r then sh (x - (150 * k.toNatClampNeg + 110)) else g x := by
  intro r
  induction r with
  | zero => intro j g x; rw [fX6_image_L78, if_neg (by omega)]
  | succ r ih =>
    intro j g x
    rw [fX6_image_L78, ih]
    by_cases q : x = 150 * k.toNatClampNeg + 110 + j
    · rw [if_neg (by omega), if_pos (by omega), q, upd_s]
      exact congrArg sh (by omega)
    · rw [upd_n q]
      by_cases c : 150 * k.toNatClampNeg + 110 + (j + 1) ≤ x ∧ x < 150 * k.toNatClampNeg + 110 + (j + 1) + r
      · rw [if_pos c, if_pos (by omega)]
      · rw [if_neg c, if_neg (by omega)]
theorem img_P (bk kn sh im : Nat → Int32) (rg : Nat) (k : Int32) {K : Nat} (hK : k.toNatClampNeg = K) {g : Nat → Int32} (hg : g = upd (fX6_image_L78 sh k 16 0 (fX6_image_L48 kn k 4 0 (fX6_image_L20 bk k 97 0 im))) (150 * K + 130) (nI rg)) : (∀ j, j < 97 → g (150 * K + j) = bk j) ∧ (∀ j, j < 4 → g (150 * K + 100 + j) = kn j) ∧ (∀ j, j < 16 → g (150 * K + 110 + j) = sh j) ∧ g (150 * K + 130) = nI rg ∧ ∀ x, (x < 150 * K ∨ 150 * K + 150 ≤ x) → g x = im x := by
  refine ⟨fun j hj => ?_, fun j hj => ?_, fun j hj => ?_, ?_, fun x hx => ?_⟩
  · rw [hg, upd_n (by omega), img_L78, if_neg (by omega), img_L48, if_neg (by omega), img_L20, if_pos (by omega)]
    exact congrArg bk (by omega)
  · rw [hg, upd_n (by omega), img_L78, if_neg (by omega), img_L48, if_pos (by omega)]
    exact congrArg kn (by omega)
  · rw [hg, upd_n (by omega), img_L78, if_pos (by omega)]
    exact congrArg sh (by omega)
  · rw [hg, upd_s]
  · rw [hg, upd_n (by omega), img_L78, if_neg (by omega), img_L48, if_neg (by omega), img_L20, if_neg (by omega)]
theorem sFit_congr {sg : Nat} {sh sh' : Nat → Int32} (h : ∀ k, k < 2 * sg → sh' k = sh k) (t : Nat) : sFit sg sh' t ↔ sFit sg sh t := by
  have h1 : ∀ i, i < sg → (sOk sh' t i ↔ sOk sh t i) := by
    intro i hi
    unfold sOk
    rw [h (2 * i + 1) (by omega), h (2 * i) (by omega)]
  exact ⟨fun q i hi => (h1 i hi).mp (q i hi), fun q i hi => (h1 i hi).mpr (q i hi)⟩
theorem tight_congr {sg : Nat} {sh sh' : Nat → Int32} (h : ∀ k, k < 2 * sg → sh' k = sh k) : fX6_tightSet sg sh' = fX6_tightSet sg sh :=
  b_ext (fun i hi => by rw [Bool.eq_iff_iff, tightSet_bt _ _ hi, tightSet_bt _ _ hi, sFit_congr h])
theorem kcopy_L13 (kt2 : Nat → Int32) : ∀ (r j : Nat) (g : Nat → Int32), r + j = 4 → ∀ i, i < 4 → fX3_copy_L13 kt2 r j g i = if j ≤ i then kt2 i else g i := by
  intro r
  induction r with
  | zero => intro j g hr i hi; rw [fX3_copy_L13, if_neg (by omega)]
  | succ r ih =>
    intro j g hr i hi
    rw [fX3_copy_L13]
    dsimp only
    unfold fX3_tightnessOf
    rw [at_nI (by omega) (by decide), put_nI (by omega) (by decide), ih _ _ (by omega) i hi]
    by_cases q : i = j
    · subst q; rw [if_neg (by omega), if_pos (by omega), upd_s]
    · rw [upd_n q]
      by_cases c : j + 1 ≤ i
      · rw [if_pos c, if_pos (by omega)]
      · rw [if_neg c, if_neg (by omega)]
theorem town_copy {co ti an kt kn co' ti' an' kt' : Nat → Int32} {n si : Nat} {ea fi : Int32} {bk : Nat → Int32} (iS : RS co ti an n ea bk) (iK : RK kt kn) {C : (Nat → Int32) × (Nat → Int32) × (Nat → Int32) × Nat × Int32 × (Nat → Int32) × Nat × Int32} (hC : fX3_copy kt' co' ti' an' si fi kt n ea co ti an = C) : RS C.1 C.2.1 C.2.2.1 C.2.2.2.1 C.2.2.2.2.1 bk ∧ RK C.2.2.2.2.2.1 kn ∧ C.2.2.2.2.2.2.1 = si ∧ C.2.2.2.2.2.2.2 = fi := by
  subst hC
  refine ⟨RS_copy (co := co') (ti := ti') (an := an') iS, ?_, rfl, rfl⟩
  show RK (fX3_copy_L13 kt 4 0 kt') kn
  intro k hk
  rw [kcopy_L13 kt 4 0 kt' rfl k hk, if_pos (Nat.zero_le _)]
  exact iK k hk
theorem RM_keep {i : Nat} {kp kp' : Int32} {zk zk' : Nat → Int32} {co ti an : Nat → Int32} {n : Nat} {ea : Int32} {kt : Nat → Int32} {si : Nat} {fi : Int32} {im im' : Nat → Int32} (h : RM i kp zk co ti an n ea kt si fi im) (hk : fX5_isIn kp' (nI i) = fX5_isIn kp (nI i)) (hz : zk' i = zk i) (hx : ∀ x, 150 * i ≤ x → x < 150 * i + 150 → im' x = im x) : RM i kp' zk' co ti an n ea kt si fi im' := by
  obtain ⟨h1, h2, h3⟩ := h
  refine ⟨h1, by rw [hk, hz]; exact h2, fun q => ?_⟩
  rw [hz] at q
  obtain ⟨g1, g2, g3, g4⟩ := h3 q
  have h8 : si ≤ 8 := g4.2.1
  refine ⟨RS_congrB g1 (fun k hk2 => hx _ (by omega) (by omega)), fun k hk2 => ?_, by rw [hx _ (by omega) (by omega)]; exact g3, g4.1, g4.2.1, ?_⟩
  · show kt k = im' (150 * i + 100 + k) ∧ _
    rw [hx _ (by omega) (by omega)]
    exact g2 k hk2
  · rw [g4.2.2]
    exact (tight_congr (fun k hk2 => hx _ (by omega) (by omega))).symm
theorem RM_new {i : Nat} (hi : i < 2) {kp : Int32} {zk : Nat → Int32} {co ti an kt kn bk sh im' : Nat → Int32} {n si rg : Nat} {ea fi : Int32} (iS : RS co ti an n ea bk) (iK : RK kt kn) (iF : RF si fi rg sh) (h1 : ∀ j, j < 97 → im' (150 * i + j) = bk j) (h2 : ∀ j, j < 4 → im' (150 * i + 100 + j) = kn j) (h3 : ∀ j, j < 16 → im' (150 * i + 110 + j) = sh j) (h4 : im' (150 * i + 130) = nI rg) : RM i (kp ||| ((1 : Int32) <<< (nI i &&& 31))) (upd zk i (1 : Int32)) co ti an n ea kt si fi im' := by
  obtain ⟨e, h8, hf⟩ := iF
  subst e
  refine ⟨iS.1, ?_, fun _ => ⟨RS_congrB iS h1, fun k hk => ?_, h4, rfl, h8, ?_⟩⟩
  · rw [isIn_bt (by omega), bt_orp (by omega) (by omega), decide_eq_true rfl, Bool.or_true, if_pos rfl, upd_s]
  · show kt k = im' (150 * i + 100 + k) ∧ _
    rw [h2 k hk]
    exact iK k hk
  · rw [hf]
    exact (tight_congr (fun k hk => h3 k (by omega))).symm
theorem isIn_or {kp : Int32} {i j : Nat} (hi : i < 32) (hj : j < 32) (h : i ≠ j) : fX5_isIn (kp ||| ((1 : Int32) <<< (nI j &&& 31))) (nI i) = fX5_isIn kp (nI i) := by
  rw [isIn_bt hi, isIn_bt hi, bt_orp hj hi, decide_eq_false h, Bool.or_false]
theorem m_image {kp ea fi ea_1 fi_1 ea_2 fi_2 : Int32} {n si n_1 si_1 n_2 si_2 rg : Nat} {co ti an kt co_1 ti_1 an_1 kt_1 co_2 ti_2 an_2 kt_2 bk kn sh im zk : Nat → Int32} (iS : RS co ti an n ea bk) (iK : RK kt kn) (iF : RF si fi rg sh) (iM1 : RM 0 kp zk co_1 ti_1 an_1 n_1 ea_1 kt_1 si_1 fi_1 im) (iM2 : RM 1 kp zk co_2 ti_2 an_2 n_2 ea_2 kt_2 si_2 fi_2 im) (a1 : Int32) {q : Int32 × Int32 × (Nat → Int32) × (Nat → Int32) × (Nat → Int32) × Nat × Int32 × (Nat → Int32) × Nat × Int32 × (Nat → Int32) × (Nat → Int32) × (Nat → Int32) × Nat × Int32 × (Nat → Int32) × Nat × Int32} (hq : fX5_image kp si fi kt n ea co ti an si_1 fi_1 kt_1 n_1 ea_1 co_1 ti_1 an_1 si_2 fi_2 kt_2 n_2 ea_2 co_2 ti_2 an_2 a1 = q) {r : Int32 × (Nat → Int32) × (Nat → Int32)} (hr : fX6_image rg bk kn sh im zk a1 = r) : q.1 = r.1 ∧ RM 0 q.2.1 r.2.2 q.2.2.1 q.2.2.2.1 q.2.2.2.2.1 q.2.2.2.2.2.1 q.2.2.2.2.2.2.1 q.2.2.2.2.2.2.2.1 q.2.2.2.2.2.2.2.2.1 q.2.2.2.2.2.2.2.2.2.1 r.2.1 ∧ RM 1 q.2.1 r.2.2 q.2.2.2.2.2.2.2.2.2.2.1 q.2.2.2.2.2.2.2.2.2.2.2.1 q.2.2.2.2.2.2.2.2.2.2.2.2.1 q.2.2.2.2.2.2.2.2.2.2.2.2.2.1 q.2.2.2.2.2.2.2.2.2.2.2.2.2.2.1 q.2.2.2.2.2.2.2.2.2.2.2.2.2.2.2.1 q.2.2.2.2.2.2.2.2.2.2.2.2.2.2.2.2.1 q.2.2.2.2.2.2.2.2.2.2.2.2.2.2.2.2.2 r.2.1 := by
  have hb : fX5_isBelow a1 (2 : Int32) = fX6_in a1 (0 : Int32) (1 : Int32) := below_in a1 (b := 1) (by decide)
  unfold fX5_image at hq
  unfold fX6_image at hr
  rw [hb] at hq
  by_cases c : fX6_in a1 (0 : Int32) (1 : Int32) = 0
  · rw [if_pos c] at hq hr
    subst hq; subst hr
    exact ⟨rfl, iM1, iM2⟩
  · rw [if_neg c] at hq hr
    obtain ⟨j, hj, rfl⟩ := in_ok (b := 1) (by decide) c
    have hcl : (nI j).toNatClampNeg = j := nI_clamp (by omega)
    have hP := img_P bk kn sh im rg (nI j) hcl rfl
    dsimp only at hr
    rw [hcl] at hr
    generalize upd (fX6_image_L78 sh (nI j) 16 0 (fX6_image_L48 kn (nI j) 4 0 (fX6_image_L20 bk (nI j) 97 0 im))) (150 * j + 130) (nI rg) = im' at hr hP
    obtain ⟨p1, p2, p3, p4, p5⟩ := hP
    subst hr
    rcases (show j = 0 ∨ j = 1 by omega) with rfl | rfl
    · rw [if_pos (by decide)] at hq
      generalize hC : fX3_copy kt_1 co_1 ti_1 an_1 si fi kt n ea co ti an = C at hq
      have hT := town_copy iS iK hC
      obtain ⟨ca, cb, cc, cd, ce, cf, cg, ch⟩ := C
      dsimp only at hq hT
      obtain ⟨t1, t2, rfl, rfl⟩ := hT
      subst hq
      refine ⟨rfl, RM_new (by decide) t1 t2 iF p1 p2 p3 p4, RM_keep iM2 (isIn_or (by decide) (by decide) (by decide)) (upd_n (f := zk) (x := (1 : Int32)) (k := 0) (j := 1) (by decide)) (fun x h1 h2 => p5 x (by omega))⟩
    · rw [if_neg (by decide)] at hq
      generalize hC : fX3_copy kt_2 co_2 ti_2 an_2 si fi kt n ea co ti an = C at hq
      have hT := town_copy iS iK hC
      obtain ⟨ca, cb, cc, cd, ce, cf, cg, ch⟩ := C
      dsimp only at hq hT
      obtain ⟨t1, t2, rfl, rfl⟩ := hT
      subst hq
      refine ⟨rfl, RM_keep iM1 (isIn_or (by decide) (by decide) (by decide)) (upd_n (f := zk) (x := (1 : Int32)) (k := 1) (j := 0) (by decide)) (fun x h1 h2 => p5 x (by omega)), RM_new (by decide) t1 t2 iF p1 p2 p3 p4⟩
theorem res_L32 (im : Nat → Int32) (k : Int32) : ∀ (r j : Nat) (g : Nat → Int32) (x : Nat), fX6_restore_L32 im k r j g x = if j ≤ x ∧ x < j + r then im (150 * k.toNatClampNeg + x) else g x := by
  intro r
  induction r with
  | zero => intro j g x; rw [fX6_restore_L32, if_neg (by omega)]
  | succ r ih =>
    intro j g x
    rw [fX6_restore_L32, ih]
    by_cases q : x = j
    · subst q; rw [if_neg (by omega), if_pos (by omega), upd_s]
    · rw [upd_n q]
      by_cases c : j + 1 ≤ x ∧ x < j + 1 + r
      · rw [if_pos c, if_pos (by omega)]
      · rw [if_neg c, if_neg (by omega)]
theorem res_L60 (im : Nat → Int32) (k : Int32) : ∀ (r j : Nat) (g : Nat → Int32) (x : Nat), fX6_restore_L60 im k r j g x = if j ≤ x ∧ x < j + r then im (150 * k.toNatClampNeg + 100 + x) else g x := by
  intro r
  induction r with
  | zero => intro j g x; rw [fX6_restore_L60, if_neg (by omega)]
  | succ r ih =>
    intro j g x
    rw [fX6_restore_L60, ih]
    by_cases q : x = j
    · subst q; rw [if_neg (by omega), if_pos (by omega), upd_s]
    · rw [upd_n q]
      by_cases c : j + 1 ≤ x ∧ x < j + 1 + r
      · rw [if_pos c, if_pos (by omega)]
      · rw [if_neg c, if_neg (by omega)]
theorem res_L90 (im : Nat → Int32) (k : Int32) : ∀ (r j : Nat) (g : Nat → Int32) (x : Nat), fX6_restore_L90 im k r j g x = if j ≤ x ∧ x < j + r then im (150 * k.toNatClampNeg + 110 + x) else g x := by
  intro r
  induction r with
  | zero => intro j g x; rw [fX6_restore_L90, if_neg (by omega)]
  | succ r ih =>
    intro j g x
    rw [fX6_restore_L90, ih]
    by_cases q : x = j
    · subst q; rw [if_neg (by omega), if_pos (by omega), upd_s]
    · rw [upd_n q]
      by_cases c : j + 1 ≤ x ∧ x < j + 1 + r
      · rw [if_pos c, if_pos (by omega)]
      · rw [if_neg c, if_neg (by omega)]
theorem res_one {i : Nat} (hi : i < 2) {kp : Int32} {zk co ti an co' ti' an' kt kt' im bk kn sh : Nat → Int32} {n si : Nat} {ea fi : Int32} (h : RM i kp zk co ti an n ea kt si fi im) (hz : ¬ zk i = 0) {C : (Nat → Int32) × (Nat → Int32) × (Nat → Int32) × Nat × Int32 × (Nat → Int32) × Nat × Int32} (hC : fX3_copy kt' co' ti' an' si fi kt n ea co ti an = C) : RS C.1 C.2.1 C.2.2.1 C.2.2.2.1 C.2.2.2.2.1 (fX6_restore_L32 im (nI i) 97 0 bk) ∧ RK C.2.2.2.2.2.1 (fX6_restore_L60 im (nI i) 4 0 kn) ∧ RF C.2.2.2.2.2.2.1 C.2.2.2.2.2.2.2 (im (150 * i + 130)).toNatClampNeg (fX6_restore_L90 im (nI i) 16 0 sh) := by
  obtain ⟨g1, g2, g3, g4, g5, g6⟩ := h.2.2 hz
  have hcl : (nI i).toNatClampNeg = i := nI_clamp (by omega)
  obtain ⟨t1, t2, t3, t4⟩ := town_copy g1 g2 hC
  refine ⟨RS_congrB t1 (fun k hk => ?_), fun k hk => ?_, ?_, ?_, ?_⟩
  · rw [res_L32, if_pos (by omega), hcl]
    rfl
  · rw [res_L60, if_pos (by omega), hcl]
    exact t2 k hk
  · rw [t3, g3, nI_clamp (by omega)]
  · rw [g3, nI_clamp (by omega)]; exact g5
  · rw [t4, g6, g3, nI_clamp (by omega)]
    exact (tight_congr (fun k hk => by rw [res_L90, if_pos (by omega), hcl])).symm
theorem m_restore {kp ea fi ea_1 fi_1 ea_2 fi_2 : Int32} {n si n_1 si_1 n_2 si_2 rg : Nat} {co ti an kt co_1 ti_1 an_1 kt_1 co_2 ti_2 an_2 kt_2 bk kn sh im zk : Nat → Int32} (iS : RS co ti an n ea bk) (iK : RK kt kn) (iF : RF si fi rg sh) (iM1 : RM 0 kp zk co_1 ti_1 an_1 n_1 ea_1 kt_1 si_1 fi_1 im) (iM2 : RM 1 kp zk co_2 ti_2 an_2 n_2 ea_2 kt_2 si_2 fi_2 im) (a1 : Int32) {q : Int32 × (Nat → Int32) × (Nat → Int32) × (Nat → Int32) × Nat × Int32 × (Nat → Int32) × Nat × Int32} (hq : fX5_restore kp si fi kt n ea co ti an si_1 fi_1 kt_1 n_1 ea_1 co_1 ti_1 an_1 si_2 fi_2 kt_2 n_2 ea_2 co_2 ti_2 an_2 a1 = q) {r : Int32 × (Nat → Int32) × (Nat → Int32) × (Nat → Int32) × Nat} (hr : fX6_restore rg bk kn sh im zk a1 = r) : q.1 = r.1 ∧ RS q.2.1 q.2.2.1 q.2.2.2.1 q.2.2.2.2.1 q.2.2.2.2.2.1 r.2.1 ∧ RK q.2.2.2.2.2.2.1 r.2.2.1 ∧ RF q.2.2.2.2.2.2.2.1 q.2.2.2.2.2.2.2.2 r.2.2.2.2 r.2.2.2.1 := by
  have hb : fX5_isBelow a1 (2 : Int32) = fX6_in a1 (0 : Int32) (1 : Int32) := below_in a1 (b := 1) (by decide)
  unfold fX5_restore at hq
  unfold fX6_restore at hr
  rw [hb] at hq
  by_cases c : fX6_in a1 (0 : Int32) (1 : Int32) = 0
  · rw [if_pos c] at hq hr
    subst hq; subst hr
    exact ⟨rfl, iS, iK, iF⟩
  · rw [if_neg c] at hq hr
    obtain ⟨j, hj, rfl⟩ := in_ok (b := 1) (by decide) c
    have hcl : (nI j).toNatClampNeg = j := nI_clamp (by omega)
    have hz : fX5_isIn kp (nI j) = 0 ↔ zk j = 0 := by
      rcases (show j = 0 ∨ j = 1 by omega) with rfl | rfl
      · exact iM1.2.1
      · exact iM2.2.1
    rw [hcl] at hr
    by_cases z : zk j = 0
    · rw [if_pos (hz.mpr z)] at hq
      rw [if_pos z] at hr
      subst hq; subst hr
      exact ⟨rfl, iS, iK, iF⟩
    · rw [if_neg (fun w => z (hz.mp w))] at hq
      rw [if_neg z] at hr
      dsimp only at hr
      subst hr
      rcases (show j = 0 ∨ j = 1 by omega) with rfl | rfl
      · rw [if_pos (by decide)] at hq
        generalize hC : fX3_copy kt co ti an si_1 fi_1 kt_1 n_1 ea_1 co_1 ti_1 an_1 = C at hq
        have hT := res_one (bk := bk) (kn := kn) (sh := sh) (by decide) iM1 z hC
        obtain ⟨ca, cb, cc, cd, ce, cf, cg, ch⟩ := C
        dsimp only at hq hT
        subst hq
        exact ⟨rfl, hT⟩
      · rw [if_neg (by decide)] at hq
        generalize hC : fX3_copy kt co ti an si_2 fi_2 kt_2 n_2 ea_2 co_2 ti_2 an_2 = C at hq
        have hT := res_one (bk := bk) (kn := kn) (sh := sh) (by decide) iM2 z hC
        obtain ⟨ca, cb, cc, cd, ce, cf, cg, ch⟩ := C
        dsimp only at hq hT
        subst hq
        exact ⟨rfl, hT⟩
