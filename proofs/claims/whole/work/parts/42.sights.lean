/-! what was felt -/
def sOk (sh : Nat → Int32) (t i : Nat) : Prop := if sh (2 * i + 1) = (1 : Int32) then fX6_in (nI t - sh (2 * i)) (-1 : Int32) (1 : Int32) = (1 : Int32) else fX6_in (nI t - sh (2 * i)) (-1 : Int32) (1 : Int32) = (0 : Int32)
theorem L15_ne (sh : Nat → Int32) (t : Nat) : ∀ (r j : Nat) (ff : Int32), fX6_tightSet_L15 sh t r j ff ≠ 0 ↔ ff ≠ 0 ∧ ∀ i, j ≤ i → i < j + r → sOk sh t i := by
  intro r
  induction r with
  | zero =>
    intro j ff
    rw [fX6_tightSet_L15]
    exact ⟨fun h => ⟨h, fun i h1 h2 => absurd h2 (by omega)⟩, fun h => h.1⟩
  | succ r ih =>
    intro j ff
    rw [fX6_tightSet_L15]
    have split_ : (∀ i, j ≤ i → i < j + (r + 1) → sOk sh t i) ↔ sOk sh t j ∧ ∀ i, j + 1 ≤ i → i < j + 1 + r → sOk sh t i := by
      constructor
      · intro h; exact ⟨h j (Nat.le_refl _) (by omega), fun i h1 h2 => h i (by omega) (by omega)⟩
      · intro h i h1 h2
        rcases Nat.eq_or_lt_of_le h1 with q | q
        · subst q; exact h.1
        · exact h.2 i (by omega) (by omega)
    rw [split_]
    by_cases c : ff = 0
    · rw [if_pos c, ih]
      exact ⟨fun h => absurd rfl h.1, fun h => absurd c h.1⟩
    · rw [if_neg c]
      unfold sOk
      by_cases c1 : sh (2 * j + 1) = (1 : Int32)
      · rw [if_pos c1, if_pos c1]
        by_cases c2 : fX6_in (nI t - sh (2 * j)) (-1 : Int32) (1 : Int32) = (1 : Int32)
        · rw [if_pos c2, ih]
          exact ⟨fun h => ⟨c, c2, h.2⟩, fun h => ⟨by decide, h.2.2⟩⟩
        · rw [if_neg c2, ih]
          exact ⟨fun h => absurd rfl h.1, fun h => absurd h.2.1 c2⟩
      · rw [if_neg c1, if_neg c1]
        by_cases c2 : fX6_in (nI t - sh (2 * j)) (-1 : Int32) (1 : Int32) = (0 : Int32)
        · rw [if_pos c2, ih]
          exact ⟨fun h => ⟨c, c2, h.2⟩, fun h => ⟨by decide, h.2.2⟩⟩
        · rw [if_neg c2, ih]
          exact ⟨fun h => absurd rfl h.1, fun h => absurd h.2.1 c2⟩
def sFit (sg : Nat) (sh : Nat → Int32) (t : Nat) : Prop := ∀ i, i < sg → sOk sh t i
theorem L15_fit (sg : Nat) (sh : Nat → Int32) (t : Nat) : fX6_tightSet_L15 sh t sg 0 (1 : Int32) ≠ 0 ↔ sFit sg sh t := by
  rw [L15_ne]
  exact ⟨fun h i hi => h.2 i (Nat.zero_le _) (by omega), fun h => ⟨by decide, fun i _ h2 => h i (by omega)⟩⟩
theorem L4_bt (sg : Nat) (sh : Nat → Int32) : ∀ (r j : Nat) (ts : Int32) (i : Nat), i < 32 → j + r ≤ 32 → (bt (fX6_tightSet_L4 sg sh r j ts) i = true ↔ bt ts i = true ∨ (j ≤ i ∧ i < j + r ∧ sFit sg sh i)) := by
  intro r
  induction r with
  | zero =>
    intro j ts i hi hj
    rw [fX6_tightSet_L4]
    exact ⟨fun h => Or.inl h, fun h => h.elim id (fun q => absurd q.2.1 (by omega))⟩
  | succ r ih =>
    intro j ts i hi hj
    rw [fX6_tightSet_L4]
    dsimp only
    by_cases c : fX6_tightSet_L15 sh j sg 0 (1 : Int32) = 0
    · rw [if_pos c, ih _ _ _ hi (by omega), b_or, b_0, Bool.or_false]
      have hf : ¬ sFit sg sh j := fun q => (L15_fit sg sh j).mpr q c
      constructor
      · rintro (h | ⟨h1, h2, h3⟩)
        · exact Or.inl h
        · exact Or.inr ⟨by omega, by omega, h3⟩
      · rintro (h | ⟨h1, h2, h3⟩)
        · exact Or.inl h
        · rcases Nat.eq_or_lt_of_le h1 with q | q
          · subst q; exact absurd h3 hf
          · exact Or.inr ⟨by omega, by omega, h3⟩
    · rw [if_neg c, ih _ _ _ hi (by omega), b_or, bt_p (by omega) hi]
      have hf : sFit sg sh j := (L15_fit sg sh j).mp c
      constructor
      · rintro (h | ⟨h1, h2, h3⟩)
        · rcases Bool.or_eq_true _ _ |>.mp h with h | h
          · exact Or.inl h
          · have h := of_decide_eq_true h
            subst h; exact Or.inr ⟨Nat.le_refl _, by omega, hf⟩
        · exact Or.inr ⟨by omega, by omega, h3⟩
      · rintro (h | ⟨h1, h2, h3⟩)
        · exact Or.inl (by rw [h]; rfl)
        · rcases Nat.eq_or_lt_of_le h1 with q | q
          · subst q; exact Or.inl (by simp)
          · exact Or.inr ⟨by omega, by omega, h3⟩
theorem tightSet_bt (sg : Nat) (sh : Nat → Int32) {i : Nat} (hi : i < 32) : bt (fX6_tightSet sg sh) i = true ↔ i < 10 ∧ sFit sg sh i := by
  unfold fX6_tightSet
  dsimp only
  rw [L4_bt sg sh 10 0 _ i hi (by omega), b_0]
  exact ⟨fun h => h.elim (fun q => by cases q) (fun q => ⟨by omega, q.2.2⟩), fun h => Or.inr ⟨Nat.zero_le _, by omega, h.2⟩⟩
theorem near_bt : ∀ v, v < 10 → ∀ i, i < 32 → (bt (fX5_near (nI v)) i = true ↔ i < 10 ∧ fX6_in (nI i - nI v) (-1 : Int32) (1 : Int32) = (1 : Int32)) := by
  decide +kernel
theorem sFit_put {sg : Nat} {sh : Nat → Int32} {v b : Int32} {t : Nat} : sFit (sg + 1) (upd (upd sh (2 * sg) v) (2 * sg + 1) b) t ↔ sFit sg sh t ∧ (if b = (1 : Int32) then fX6_in (nI t - v) (-1 : Int32) (1 : Int32) = (1 : Int32) else fX6_in (nI t - v) (-1 : Int32) (1 : Int32) = (0 : Int32)) := by
  have h1 : ∀ i, i < sg → (sOk (upd (upd sh (2 * sg) v) (2 * sg + 1) b) t i ↔ sOk sh t i) := by
    intro i hi
    unfold sOk
    rw [upd_n (by omega), upd_n (by omega), upd_n (by omega), upd_n (by omega)]
  have h2 : sOk (upd (upd sh (2 * sg) v) (2 * sg + 1) b) t sg ↔ (if b = (1 : Int32) then fX6_in (nI t - v) (-1 : Int32) (1 : Int32) = (1 : Int32) else fX6_in (nI t - v) (-1 : Int32) (1 : Int32) = (0 : Int32)) := by
    unfold sOk
    rw [upd_s, upd_n (by omega), upd_s]
  constructor
  · intro h; exact ⟨fun i hi => (h1 i hi).mp (h i (by omega)), h2.mp (h sg (by omega))⟩
  · intro h i hi
    by_cases q : i = sg
    · subst q; exact h2.mpr h.2
    · exact (h1 i (by omega)).mpr (h.1 i (by omega))
theorem m_seen {si : Nat} {fi : Int32} {rg : Nat} {sh : Nat → Int32} (iF : RF si fi rg sh) (a1 a2 : Int32) : (fX5_seen si fi a1 a2).1 = (fX6_seen rg sh a1 a2).1 ∧ RF (fX5_seen si fi a1 a2).2.1 (fX5_seen si fi a1 a2).2.2 (fX6_seen rg sh a1 a2).2.2 (fX6_seen rg sh a1 a2).2.1 := by
  obtain ⟨rfl, h8, h3⟩ := id iF
  have hc := below_in a1 (b := 9) (by decide)
  unfold fX5_seen fX6_seen
  rw [show (10 : Int32) = nI (9 + 1) from rfl, hc, show (9 : Int32) = nI 9 from rfl]
  by_cases h1 : fX6_in a1 (0 : Int32) (nI 9) = 0
  · rw [if_pos h1, if_pos h1]; exact ⟨rfl, iF⟩
  · rw [if_neg h1, if_neg h1]
    by_cases h2 : si < 8
    · rw [if_pos h2, if_neg (show ¬ si = 8 by omega)]
      obtain ⟨v, hv, rfl⟩ := in_ok (by decide) h1
      by_cases h4 : a2 = 0
      · rw [if_pos h4, if_pos h4]
        refine ⟨rfl, rfl, by show si + 1 ≤ 8; omega, b_ext (fun i hi => ?_)⟩
        show bt (fi &&& (fX5_near (nI v) ^^^ (-1 : Int32))) i = _
        rw [Bool.eq_iff_iff, tightSet_bt _ _ hi, sFit_put, if_neg (by decide), b_and, b_xor, b_m1 i hi, h3, Bool.and_eq_true, tightSet_bt _ _ hi]
        have hn := near_bt v hv i hi
        constructor
        · rintro ⟨⟨h5, h6⟩, h7⟩
          refine ⟨h5, h6, (in_01 _ _ _).resolve_right (fun q => ?_)⟩
          rw [hn.mpr ⟨h5, q⟩] at h7
          exact absurd h7 (by decide)
        · rintro ⟨h5, h6, h7⟩
          refine ⟨⟨h5, h6⟩, ?_⟩
          cases hb : bt (fX5_near (nI v)) i with
          | false => rfl
          | true =>
            have h8 := (hn.mp hb).2
            rw [h7] at h8
            exact absurd h8 (by decide)
      · rw [if_neg h4, if_neg h4]
        refine ⟨rfl, rfl, by show si + 1 ≤ 8; omega, b_ext (fun i hi => ?_)⟩
        show bt (fi &&& fX5_near (nI v)) i = _
        rw [Bool.eq_iff_iff, tightSet_bt _ _ hi, sFit_put, if_pos rfl, b_and, h3, Bool.and_eq_true, tightSet_bt _ _ hi, near_bt v hv i hi]
        exact ⟨fun ⟨⟨h5, h6⟩, _, h7⟩ => ⟨h5, h6, h7⟩, fun ⟨h5, h6, h7⟩ => ⟨⟨h5, h6⟩, h5, h7⟩⟩
    · rw [if_neg h2, if_pos (show si = 8 by omega)]; exact ⟨rfl, iF⟩
theorem m_forget {si : Nat} {fi : Int32} {rg : Nat} {sh : Nat → Int32} (iF : RF si fi rg sh) : (fX5_forget si).1 = (fX6_forget rg).1 ∧ RF (fX5_forget si).2.1 (fX5_forget si).2.2 (fX6_forget rg).2 sh := by
  obtain ⟨rfl, h8, h3⟩ := iF
  refine ⟨rfl, rfl, Nat.zero_le _, ?_⟩
  show (1023 : Int32) = fX6_tightSet 0 sh
  refine b_ext (fun i hi => ?_)
  rw [Bool.eq_iff_iff, tightSet_bt _ _ hi]
  have h : ∀ i, i < 32 → (bt (1023 : Int32) i = true ↔ i < 10) := by decide +kernel
  rw [h i hi]
  exact ⟨fun q => ⟨q, fun j hj => absurd hj (by omega)⟩, fun q => q.1⟩

