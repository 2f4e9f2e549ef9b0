/-! the calls that change little -/
theorem RS_cast {co ti an : Nat → Int32} {n : Nat} {ea : Int32} {b : Nat → Int32} (h : RS co ti an n ea b) : RS co ti an 0 (0 : Int32) (upd b 96 (0 : Int32)) := ⟨by omega, upd_s, fun k hk => absurd hk (by omega), fun i _ _ => b_0 i⟩
/-- a stitch more -/
theorem RS_app {co ti an : Nat → Int32} {n : Nat} {ea : Int32} {b : Nat → Int32} (h : RS co ti an n ea b) (hn : n < 24) {kc kt kx ky : Int32} (hc : ∃ j, j < 4 ∧ kc = nI j) (ht : ∃ j, j < 10 ∧ kt = nI j) (hx : (kx = (-1 : Int32) ∧ ky = (-6 : Int32)) ∨ ∃ j, j < n ∧ kx = nI j ∧ ky = nI j) : RS (upd co n kc) (upd ti n kt) (upd an n kx) (n + 1) ea (upd (upd (upd (upd (upd b n kc) (24 + n) kt) (48 + n) ky) (72 + n) (0 : Int32)) 96 (nI (n + 1))) := by
  refine ⟨by omega, upd_s, fun k hk => ?_, fun i h1 h2 => h.2.2.2 i (by omega) h2⟩
  by_cases q : k = n
  · subst q
    rw [upd_s, upd_s, upd_s]
    refine ⟨⟨?_, hc⟩, ⟨?_, ht⟩, ?_, ?_⟩
    · rw [upd_n (by omega), upd_n (by omega), upd_n (by omega), upd_n (by omega), upd_s]
    · rw [upd_n (by omega), upd_n (by omega), upd_n (by omega), upd_s]
    · rw [upd_n (by omega), upd_n (by omega), upd_s]; exact hx
    · rw [upd_n (by omega), upd_s, h.2.2.2 k (Nat.le_refl _) (by omega)]
      rfl
  · obtain ⟨⟨a1, a2⟩, ⟨a3, a4⟩, a5, a6⟩ := h.2.2.1 k (by omega)
    rw [upd_n q, upd_n q, upd_n q]
    refine ⟨⟨?_, a2⟩, ⟨?_, a4⟩, ?_, ?_⟩
    · rw [upd_n (by omega), upd_n (by omega), upd_n (by omega), upd_n (by omega), upd_n (by omega)]; exact a1
    · rw [upd_n (by omega), upd_n (by omega), upd_n (by omega), upd_n (by omega), upd_n (by omega)]; exact a3
    · rw [upd_n (by omega), upd_n (by omega), upd_n (by omega), upd_n (by omega), upd_n (by omega)]; exact a5
    · rw [upd_n (by omega), upd_n (by omega), upd_n (by omega), upd_n (by omega), upd_n (by omega)]; exact a6
theorem append_nI {co ti an : Nat → Int32} {n : Nat} (hn : n < 24) {kc kt kx : Int32} : fX2_append n co ti an kc kt kx = (upd co n kc, upd ti n kt, upd an n kx, n + 1) := by
  unfold fX2_append
  rw [put_nI hn (by decide), put_nI hn (by decide), put_nI hn (by decide)]
theorem in_ok {x : Int32} {b : Nat} (hb : b + 1 < 2 ^ 31) (h : ¬ fX6_in x (0 : Int32) (nI b) = 0) : ∃ j, j < b + 1 ∧ x = nI j := by
  obtain ⟨h1, -, h2⟩ := fX6_in_P 0 b (by decide) (by omega) h
  exact ⟨_, by omega, h1⟩
theorem isFull_0 {n : Nat} : fX2_isFull n = 0 ↔ n < 24 := by
  unfold fX2_isFull
  by_cases h : n < 24
  · rw [if_pos h]; exact ⟨fun _ => h, fun _ => rfl⟩
  · rw [if_neg h]; exact ⟨fun q => absurd q (by decide), fun q => absurd q h⟩
theorem m_stitch {co ti an : Nat → Int32} {n : Nat} {ea : Int32} {bk : Nat → Int32} (iS : RS co ti an n ea bk) (a1 a2 a3 : Int32) : (fX5_stitch n co ti an a1 a2 a3).1 = (fX6_stitch bk a1 a2 a3).1 ∧ RS (fX5_stitch n co ti an a1 a2 a3).2.1 (fX5_stitch n co ti an a1 a2 a3).2.2.1 (fX5_stitch n co ti an a1 a2 a3).2.2.2.1 (fX5_stitch n co ti an a1 a2 a3).2.2.2.2 ea (fX6_stitch bk a1 a2 a3).2 := by
  have hm := RS_mN iS
  have hs := has_stitch iS a3
  have hc := below_in a1 (b := 3) (by decide)
  have ht := below_in a2 (b := 9) (by decide)
  have key : ∀ ky : Int32, ((a3 = (-1 : Int32) ∧ ky = (-6 : Int32)) ∨ ∃ j, j < n ∧ a3 = nI j ∧ ky = nI j) → ¬ fX6_in a1 (0 : Int32) (nI 3) = 0 → ¬ fX6_in a2 (0 : Int32) (nI 9) = 0 → n < 24 → RS (fX2_append n co ti an a1 a2 a3).1 (fX2_append n co ti an a1 a2 a3).2.1 (fX2_append n co ti an a1 a2 a3).2.2.1 (fX2_append n co ti an a1 a2 a3).2.2.2 ea (upd (upd (upd (upd (upd bk n a1) (24 + n) a2) (48 + n) ky) (72 + n) (0 : Int32)) 96 (nI (n + 1))) := by
    intro ky hx h1 h2 h3
    rw [append_nI h3]
    exact RS_app iS h3 (in_ok (by decide) h1) (in_ok (by decide) h2) hx
  unfold fX5_stitch fX6_stitch
  rw [hm, ← hs]
  rw [show (4 : Int32) = nI (3 + 1) from rfl, show (10 : Int32) = nI (9 + 1) from rfl, hc, ht]
  rw [show (3 : Int32) = nI 3 from rfl, show (9 : Int32) = nI 9 from rfl]
  by_cases h3 : a3 = (-1 : Int32)
  · rw [if_pos h3, if_pos h3]
    by_cases h1 : fX6_in a1 (0 : Int32) (nI 3) = 0
    · rw [if_pos h1, if_pos h1]; exact ⟨rfl, iS⟩
    · rw [if_neg h1, if_neg h1]
      by_cases h2 : fX6_in a2 (0 : Int32) (nI 9) = 0
      · rw [if_pos h2, if_pos h2]; exact ⟨rfl, iS⟩
      · rw [if_neg h2, if_neg h2]
        by_cases h4 : n < 24
        · rw [if_pos (isFull_0.mpr h4), if_neg (show ¬ n = 24 by omega), if_neg (show ¬ (0 : Int32) ≤ a3 by rw [h3]; decide)]
          exact ⟨by rw [append_nI h4], key _ (Or.inl ⟨h3, rfl⟩) h1 h2 h4⟩
        · rw [if_neg (fun q => h4 (isFull_0.mp q)), if_pos (show n = 24 by have := iS.1; omega)]; exact ⟨rfl, iS⟩
  · rw [if_neg h3, if_neg h3]
    by_cases h5 : fX2_has n a3 = 0
    · rw [if_pos h5, if_pos h5]; exact ⟨rfl, iS⟩
    · rw [if_neg h5, if_neg h5]
      obtain ⟨h6, h7⟩ := kx_has (by have := iS.1; omega) h5
      by_cases h1 : fX6_in a1 (0 : Int32) (nI 3) = 0
      · rw [if_pos h1, if_pos h1]; exact ⟨rfl, iS⟩
      · rw [if_neg h1, if_neg h1]
        by_cases h2 : fX6_in a2 (0 : Int32) (nI 9) = 0
        · rw [if_pos h2, if_pos h2]; exact ⟨rfl, iS⟩
        · rw [if_neg h2, if_neg h2]
          by_cases h4 : n < 24
          · rw [if_pos (isFull_0.mpr h4), if_neg (show ¬ n = 24 by omega), if_pos (show (0 : Int32) ≤ a3 by rw [h6]; exact nI_pos' (by have := iS.1; omega))]
            exact ⟨by rw [append_nI h4], key _ (Or.inr ⟨_, h7, h6, h6⟩) h1 h2 h4⟩
          · rw [if_neg (fun q => h4 (isFull_0.mp q)), if_pos (show n = 24 by have := iS.1; omega)]; exact ⟨rfl, iS⟩
theorem m_cast {co ti an : Nat → Int32} {n : Nat} {ea : Int32} {bk : Nat → Int32} (iS : RS co ti an n ea bk) : (fX5_cast n).1 = (fX6_cast bk).1 ∧ RS co ti an (fX5_cast n).2.1 (fX5_cast n).2.2 (fX6_cast bk).2 := by
  unfold fX5_cast fX6_cast
  rw [RS_mN iS]
  exact ⟨rfl, RS_cast iS⟩
theorem RK_put {kt kn : Nat → Int32} (h : RK kt kn) {j : Nat} {v : Int32} (hv : ∃ i, i < 10 ∧ v = nI i) : RK (upd kt j v) (upd kn j v) := by
  intro k hk
  by_cases q : k = j
  · subst q; rw [upd_s, upd_s]; exact ⟨rfl, hv⟩
  · rw [upd_n q, upd_n q]; exact h k hk
theorem m_knitter {kt kn : Nat → Int32} (iK : RK kt kn) (a1 a2 : Int32) : (fX5_knitter kt a1 a2).1 = (fX6_knitter kn a1 a2).1 ∧ RK (fX5_knitter kt a1 a2).2 (fX6_knitter kn a1 a2).2 := by
  have hc := below_in a1 (b := 3) (by decide)
  have ht := below_in a2 (b := 9) (by decide)
  unfold fX5_knitter fX6_knitter fX6_isKnitter
  rw [show (4 : Int32) = nI (3 + 1) from rfl, show (10 : Int32) = nI (9 + 1) from rfl, hc, ht]
  rw [show (3 : Int32) = nI 3 from rfl, show (9 : Int32) = nI 9 from rfl]
  by_cases h1 : fX6_in a1 (0 : Int32) (nI 3) = 0
  · rw [if_pos h1, if_pos h1]; exact ⟨rfl, iK⟩
  · rw [if_neg h1, if_neg h1]
    by_cases h2 : fX6_in a2 (0 : Int32) (nI 9) = 0
    · rw [if_pos h2, if_pos h2]; exact ⟨rfl, iK⟩
    · rw [if_neg h2, if_neg h2]
      obtain ⟨j, hj, rfl⟩ := in_ok (by decide) h1
      rw [nI_clamp (by omega)]
      unfold fX3_tightnessOf
      dsimp only
      rw [at_nI (by omega) (by decide), put_nI (by omega) (by decide)]
      exact ⟨(iK j (by omega)).1, RK_put iK (in_ok (by decide) h2)⟩
theorem RP_put {np : Nat} {psg : Nat → Int32} {sn : Nat} {pd : Nat → Int32} (h : RP np psg sn pd) (hn : np < 60) (v : Int32) : RP (np + 1) (upd psg np v) (sn + 1) (upd pd sn v) := by
  obtain ⟨rfl, h2, h3⟩ := h
  refine ⟨rfl, by omega, fun k hk => ?_⟩
  by_cases q : k = np
  · subst q; rw [upd_s, upd_s]
  · rw [upd_n q, upd_n q]; exact h3 k (by omega)
theorem m_say {np : Nat} {psg : Nat → Int32} {sn : Nat} {pd : Nat → Int32} (iP : RP np psg sn pd) (a1 : Int32) : (fX5_say np psg a1).1 = (fX6_say sn pd a1).1 ∧ RP (fX5_say np psg a1).2.2 (fX5_say np psg a1).2.1 (fX6_say sn pd a1).2.2 (fX6_say sn pd a1).2.1 := by
  have h1 := iP.1
  have h2 := iP.2.1
  subst h1
  unfold fX5_say fX6_say fX6_in
  by_cases c1 : a1 < (33 : Int32)
  · rw [if_pos c1, if_pos (if_pos c1)]; exact ⟨rfl, iP⟩
  · rw [if_neg c1]
    by_cases c2 : a1 ≤ (126 : Int32)
    · rw [if_pos c2, if_neg (show ¬ (if a1 < (33 : Int32) then (0 : Int32) else if (126 : Int32) < a1 then (0 : Int32) else (1 : Int32)) = 0 by rw [if_neg c1, if_neg (Int32.not_lt.mpr c2)]; decide)]
      by_cases c3 : np < 60
      · rw [if_pos c3, if_neg (show ¬ np = 60 by omega)]
        unfold fX1_append
        dsimp only
        rw [put_nI c3 (by decide)]
        exact ⟨rfl, RP_put iP c3 a1⟩
      · rw [if_neg c3, if_pos (show np = 60 by omega)]; exact ⟨rfl, iP⟩
    · rw [if_neg c2, if_pos (show (if a1 < (33 : Int32) then (0 : Int32) else if (126 : Int32) < a1 then (0 : Int32) else (1 : Int32)) = 0 by rw [if_neg c1, if_pos (Int32.not_le.mp c2)])]; exact ⟨rfl, iP⟩
theorem m_wipe {np : Nat} {psg : Nat → Int32} {sn : Nat} {pd : Nat → Int32} (iP : RP np psg sn pd) : (fX5_wipe np).1 = (fX6_wipe sn).1 ∧ RP (fX5_wipe np).2 psg (fX6_wipe sn).2 pd := by
  have h1 := iP.1
  subst h1
  exact ⟨rfl, rfl, Nat.zero_le _, fun k hk => absurd hk (Nat.not_lt_zero k)⟩

