section
-- ===== PART A: goes FIRST, ahead of the names: the tables' words, and 'selects' of the private methods out of them =====
/-- a private method of a class that the tables say can be made, by its rows of tables_1 -/
def lw_okq (q : MethodName × Nat) : Prop := (q.1.cls ≠ "java/lang/invoke/MethodHandle" ∧ q.1.cls ≠ "java/lang/invoke/VarHandle") ∧ Cond.instantiable q.1.cls q.2 ∈ tables_1 ∧ Cond.privateMethod q.1 ∈ tables_1 ∧ Cond.instanceMethod q.1 ∈ tables_1
theorem lw_p0 : lw_okq (⟨"KnitChronicle$Pad", "wantedAfter", "(II)I"⟩, 2) := ⟨⟨by decide +kernel, by decide +kernel⟩, List.mem_of_getElem? (i := 71) (by decide +kernel), List.mem_of_getElem? (i := 213) (by decide +kernel), List.mem_of_getElem? (i := 214) (by decide +kernel)⟩
theorem lw_p1 : lw_okq (⟨"KnitChronicle", "tryWeeks", "()Z"⟩, 8) := ⟨⟨by decide +kernel, by decide +kernel⟩, List.mem_of_getElem? (i := 11) (by decide +kernel), List.mem_of_getElem? (i := 242) (by decide +kernel), List.mem_of_getElem? (i := 243) (by decide +kernel)⟩
theorem lw_p2 : lw_okq (⟨"KnitChronicle$Trial", "reasonAgainst", "(II)I"⟩, 5) := ⟨⟨by decide +kernel, by decide +kernel⟩, List.mem_of_getElem? (i := 85) (by decide +kernel), List.mem_of_getElem? (i := 263) (by decide +kernel), List.mem_of_getElem? (i := 264) (by decide +kernel)⟩
theorem lw_p3 : lw_okq (⟨"KnitChronicle$Trial", "countUndone", "(I)V"⟩, 5) := ⟨⟨by decide +kernel, by decide +kernel⟩, List.mem_of_getElem? (i := 85) (by decide +kernel), List.mem_of_getElem? (i := 294) (by decide +kernel), List.mem_of_getElem? (i := 295) (by decide +kernel)⟩
theorem lw_p4 : lw_okq (⟨"KnitChronicle$Scarf", "lastWholeOf", "(I)I"⟩, 5) := ⟨⟨by decide +kernel, by decide +kernel⟩, List.mem_of_getElem? (i := 25) (by decide +kernel), List.mem_of_getElem? (i := 313) (by decide +kernel), List.mem_of_getElem? (i := 314) (by decide +kernel)⟩
theorem lw_p5 : lw_okq (⟨"KnitChronicle", "weeksCanBe", "()Z"⟩, 8) := ⟨⟨by decide +kernel, by decide +kernel⟩, List.mem_of_getElem? (i := 11) (by decide +kernel), List.mem_of_getElem? (i := 322) (by decide +kernel), List.mem_of_getElem? (i := 323) (by decide +kernel)⟩
theorem lw_p6 : lw_okq (⟨"KnitChronicle$Scarf", "topOf", "(II)I"⟩, 5) := ⟨⟨by decide +kernel, by decide +kernel⟩, List.mem_of_getElem? (i := 25) (by decide +kernel), List.mem_of_getElem? (i := 365) (by decide +kernel), List.mem_of_getElem? (i := 366) (by decide +kernel)⟩
theorem lw_p7 : lw_okq (⟨"KnitChronicle$Scarf", "repeatsBy", "(I)Z"⟩, 5) := ⟨⟨by decide +kernel, by decide +kernel⟩, List.mem_of_getElem? (i := 25) (by decide +kernel), List.mem_of_getElem? (i := 377) (by decide +kernel), List.mem_of_getElem? (i := 378) (by decide +kernel)⟩
theorem lw_p8 : lw_okq (⟨"KnitChronicle$Scarf", "areAlike", "(III)Z"⟩, 5) := ⟨⟨by decide +kernel, by decide +kernel⟩, List.mem_of_getElem? (i := 25) (by decide +kernel), List.mem_of_getElem? (i := 381) (by decide +kernel), List.mem_of_getElem? (i := 382) (by decide +kernel)⟩
theorem lw_p9 : lw_okq (⟨"KnitChronicle", "imageAt", "(I)LKnitChronicle$Town;"⟩, 8) := ⟨⟨by decide +kernel, by decide +kernel⟩, List.mem_of_getElem? (i := 11) (by decide +kernel), List.mem_of_getElem? (i := 400) (by decide +kernel), List.mem_of_getElem? (i := 401) (by decide +kernel)⟩
theorem lw_p10 : lw_okq (⟨"KnitChronicle", "longestShared", "(LKnitChronicle$Scarf;LKnitChronicle$Scarf;)I"⟩, 8) := ⟨⟨by decide +kernel, by decide +kernel⟩, List.mem_of_getElem? (i := 11) (by decide +kernel), List.mem_of_getElem? (i := 404) (by decide +kernel), List.mem_of_getElem? (i := 405) (by decide +kernel)⟩
theorem lw_p11 : lw_okq (⟨"KnitChronicle", "leastBurden", "(I)I"⟩, 8) := ⟨⟨by decide +kernel, by decide +kernel⟩, List.mem_of_getElem? (i := 11) (by decide +kernel), List.mem_of_getElem? (i := 414) (by decide +kernel), List.mem_of_getElem? (i := 415) (by decide +kernel)⟩
theorem lw_p12 : lw_okq (⟨"KnitChronicle", "fewestOfFirst", "(II)I"⟩, 8) := ⟨⟨by decide +kernel, by decide +kernel⟩, List.mem_of_getElem? (i := 11) (by decide +kernel), List.mem_of_getElem? (i := 426) (by decide +kernel), List.mem_of_getElem? (i := 427) (by decide +kernel)⟩
theorem lw_p13 : lw_okq (⟨"KnitChronicle$HandChanges", "fewestFrom", "(II)I"⟩, 1) := ⟨⟨by decide +kernel, by decide +kernel⟩, List.mem_of_getElem? (i := 114) (by decide +kernel), List.mem_of_getElem? (i := 442) (by decide +kernel), List.mem_of_getElem? (i := 443) (by decide +kernel)⟩
theorem lw_p14 : lw_okq (⟨"KnitChronicle$HandChanges", "changesBy", "(III)I"⟩, 1) := ⟨⟨by decide +kernel, by decide +kernel⟩, List.mem_of_getElem? (i := 114) (by decide +kernel), List.mem_of_getElem? (i := 446) (by decide +kernel), List.mem_of_getElem? (i := 447) (by decide +kernel)⟩
theorem lw_p15 : lw_okq (⟨"KnitChronicle$HandChanges", "leastAfter", "(II)I"⟩, 1) := ⟨⟨by decide +kernel, by decide +kernel⟩, List.mem_of_getElem? (i := 114) (by decide +kernel), List.mem_of_getElem? (i := 468) (by decide +kernel), List.mem_of_getElem? (i := 469) (by decide +kernel)⟩
def lw_privs_1 : List (MethodName × Nat) := [(⟨"KnitChronicle$Pad", "wantedAfter", "(II)I"⟩, 2), (⟨"KnitChronicle", "tryWeeks", "()Z"⟩, 8), (⟨"KnitChronicle$Trial", "reasonAgainst", "(II)I"⟩, 5), (⟨"KnitChronicle$Trial", "countUndone", "(I)V"⟩, 5), (⟨"KnitChronicle$Scarf", "lastWholeOf", "(I)I"⟩, 5), (⟨"KnitChronicle", "weeksCanBe", "()Z"⟩, 8), (⟨"KnitChronicle$Scarf", "topOf", "(II)I"⟩, 5), (⟨"KnitChronicle$Scarf", "repeatsBy", "(I)Z"⟩, 5), (⟨"KnitChronicle$Scarf", "areAlike", "(III)Z"⟩, 5), (⟨"KnitChronicle", "imageAt", "(I)LKnitChronicle$Town;"⟩, 8), (⟨"KnitChronicle", "longestShared", "(LKnitChronicle$Scarf;LKnitChronicle$Scarf;)I"⟩, 8), (⟨"KnitChronicle", "leastBurden", "(I)I"⟩, 8), (⟨"KnitChronicle", "fewestOfFirst", "(II)I"⟩, 8), (⟨"KnitChronicle$HandChanges", "fewestFrom", "(II)I"⟩, 1), (⟨"KnitChronicle$HandChanges", "changesBy", "(III)I"⟩, 1), (⟨"KnitChronicle$HandChanges", "leastAfter", "(II)I"⟩, 1)]
theorem lw_r1 : ∀ q ∈ lw_privs_1, lw_okq q := List.forall_mem_cons.mpr ⟨lw_p0, List.forall_mem_cons.mpr ⟨lw_p1, List.forall_mem_cons.mpr ⟨lw_p2, List.forall_mem_cons.mpr ⟨lw_p3, List.forall_mem_cons.mpr ⟨lw_p4, List.forall_mem_cons.mpr ⟨lw_p5, List.forall_mem_cons.mpr ⟨lw_p6, List.forall_mem_cons.mpr ⟨lw_p7, List.forall_mem_cons.mpr ⟨lw_p8, List.forall_mem_cons.mpr ⟨lw_p9, List.forall_mem_cons.mpr ⟨lw_p10, List.forall_mem_cons.mpr ⟨lw_p11, List.forall_mem_cons.mpr ⟨lw_p12, List.forall_mem_cons.mpr ⟨lw_p13, List.forall_mem_cons.mpr ⟨lw_p14, List.forall_mem_cons.mpr ⟨lw_p15, fun _ h => absurd h List.not_mem_nil⟩⟩⟩⟩⟩⟩⟩⟩⟩⟩⟩⟩⟩⟩⟩⟩
theorem lw_p16 : lw_okq (⟨"KnitChronicle", "mostLeftBy", "(I)I"⟩, 8) := ⟨⟨by decide +kernel, by decide +kernel⟩, List.mem_of_getElem? (i := 11) (by decide +kernel), List.mem_of_getElem? (i := 493) (by decide +kernel), List.mem_of_getElem? (i := 494) (by decide +kernel)⟩
theorem lw_p17 : lw_okq (⟨"KnitChronicle", "tryDrawn", "(I)V"⟩, 8) := ⟨⟨by decide +kernel, by decide +kernel⟩, List.mem_of_getElem? (i := 11) (by decide +kernel), List.mem_of_getElem? (i := 515) (by decide +kernel), List.mem_of_getElem? (i := 516) (by decide +kernel)⟩
theorem lw_p18 : lw_okq (⟨"KnitChronicle", "toldOfStitch", "(II)I"⟩, 8) := ⟨⟨by decide +kernel, by decide +kernel⟩, List.mem_of_getElem? (i := 11) (by decide +kernel), List.mem_of_getElem? (i := 539) (by decide +kernel), List.mem_of_getElem? (i := 540) (by decide +kernel)⟩
theorem lw_p19 : lw_okq (⟨"KnitChronicleModel", "isStitch", "(I)Z"⟩, 15) := ⟨⟨by decide +kernel, by decide +kernel⟩, List.mem_of_getElem? (i := 543) (by decide +kernel), List.mem_of_getElem? (i := 600) (by decide +kernel), List.mem_of_getElem? (i := 601) (by decide +kernel)⟩
theorem lw_p20 : lw_okq (⟨"KnitChronicleModel", "faultOf", "()I"⟩, 15) := ⟨⟨by decide +kernel, by decide +kernel⟩, List.mem_of_getElem? (i := 543) (by decide +kernel), List.mem_of_getElem? (i := 630) (by decide +kernel), List.mem_of_getElem? (i := 631) (by decide +kernel)⟩
theorem lw_p21 : lw_okq (⟨"KnitChronicleModel", "goWeeks", "()I"⟩, 15) := ⟨⟨by decide +kernel, by decide +kernel⟩, List.mem_of_getElem? (i := 543) (by decide +kernel), List.mem_of_getElem? (i := 644) (by decide +kernel), List.mem_of_getElem? (i := 645) (by decide +kernel)⟩
theorem lw_p22 : lw_okq (⟨"KnitChronicleModel", "asNow", "()V"⟩, 15) := ⟨⟨by decide +kernel, by decide +kernel⟩, List.mem_of_getElem? (i := 543) (by decide +kernel), List.mem_of_getElem? (i := 648) (by decide +kernel), List.mem_of_getElem? (i := 649) (by decide +kernel)⟩
theorem lw_p23 : lw_okq (⟨"KnitChronicleModel", "knit", "(II)I"⟩, 15) := ⟨⟨by decide +kernel, by decide +kernel⟩, List.mem_of_getElem? (i := 543) (by decide +kernel), List.mem_of_getElem? (i := 652) (by decide +kernel), List.mem_of_getElem? (i := 653) (by decide +kernel)⟩
theorem lw_p24 : lw_okq (⟨"KnitChronicleModel", "pullOut", "(I)I"⟩, 15) := ⟨⟨by decide +kernel, by decide +kernel⟩, List.mem_of_getElem? (i := 543) (by decide +kernel), List.mem_of_getElem? (i := 656) (by decide +kernel), List.mem_of_getElem? (i := 657) (by decide +kernel)⟩
theorem lw_p25 : lw_okq (⟨"KnitChronicleModel", "threadOf", "(I)I"⟩, 15) := ⟨⟨by decide +kernel, by decide +kernel⟩, List.mem_of_getElem? (i := 543) (by decide +kernel), List.mem_of_getElem? (i := 660) (by decide +kernel), List.mem_of_getElem? (i := 661) (by decide +kernel)⟩
theorem lw_p26 : lw_okq (⟨"KnitChronicleModel", "takeOut", "(I)V"⟩, 15) := ⟨⟨by decide +kernel, by decide +kernel⟩, List.mem_of_getElem? (i := 543) (by decide +kernel), List.mem_of_getElem? (i := 667) (by decide +kernel), List.mem_of_getElem? (i := 668) (by decide +kernel)⟩
theorem lw_p27 : lw_okq (⟨"KnitChronicleModel", "eat", "(I)I"⟩, 15) := ⟨⟨by decide +kernel, by decide +kernel⟩, List.mem_of_getElem? (i := 543) (by decide +kernel), List.mem_of_getElem? (i := 674) (by decide +kernel), List.mem_of_getElem? (i := 675) (by decide +kernel)⟩
theorem lw_p28 : lw_okq (⟨"KnitChronicleModel", "mend", "(II)I"⟩, 15) := ⟨⟨by decide +kernel, by decide +kernel⟩, List.mem_of_getElem? (i := 543) (by decide +kernel), List.mem_of_getElem? (i := 678) (by decide +kernel), List.mem_of_getElem? (i := 679) (by decide +kernel)⟩
theorem lw_p29 : lw_okq (⟨"KnitChronicleModel", "barOfWeeks", "()I"⟩, 15) := ⟨⟨by decide +kernel, by decide +kernel⟩, List.mem_of_getElem? (i := 543) (by decide +kernel), List.mem_of_getElem? (i := 686) (by decide +kernel), List.mem_of_getElem? (i := 687) (by decide +kernel)⟩
theorem lw_p30 : lw_okq (⟨"KnitChronicleModel", "eatenSet", "()I"⟩, 15) := ⟨⟨by decide +kernel, by decide +kernel⟩, List.mem_of_getElem? (i := 543) (by decide +kernel), List.mem_of_getElem? (i := 694) (by decide +kernel), List.mem_of_getElem? (i := 695) (by decide +kernel)⟩
theorem lw_p31 : lw_okq (⟨"KnitChronicleModel", "looseSet", "()I"⟩, 15) := ⟨⟨by decide +kernel, by decide +kernel⟩, List.mem_of_getElem? (i := 543) (by decide +kernel), List.mem_of_getElem? (i := 698) (by decide +kernel), List.mem_of_getElem? (i := 699) (by decide +kernel)⟩
def lw_privs_2 : List (MethodName × Nat) := [(⟨"KnitChronicle", "mostLeftBy", "(I)I"⟩, 8), (⟨"KnitChronicle", "tryDrawn", "(I)V"⟩, 8), (⟨"KnitChronicle", "toldOfStitch", "(II)I"⟩, 8), (⟨"KnitChronicleModel", "isStitch", "(I)Z"⟩, 15), (⟨"KnitChronicleModel", "faultOf", "()I"⟩, 15), (⟨"KnitChronicleModel", "goWeeks", "()I"⟩, 15), (⟨"KnitChronicleModel", "asNow", "()V"⟩, 15), (⟨"KnitChronicleModel", "knit", "(II)I"⟩, 15), (⟨"KnitChronicleModel", "pullOut", "(I)I"⟩, 15), (⟨"KnitChronicleModel", "threadOf", "(I)I"⟩, 15), (⟨"KnitChronicleModel", "takeOut", "(I)V"⟩, 15), (⟨"KnitChronicleModel", "eat", "(I)I"⟩, 15), (⟨"KnitChronicleModel", "mend", "(II)I"⟩, 15), (⟨"KnitChronicleModel", "barOfWeeks", "()I"⟩, 15), (⟨"KnitChronicleModel", "eatenSet", "()I"⟩, 15), (⟨"KnitChronicleModel", "looseSet", "()I"⟩, 15)]
theorem lw_r2 : ∀ q ∈ lw_privs_2, lw_okq q := List.forall_mem_cons.mpr ⟨lw_p16, List.forall_mem_cons.mpr ⟨lw_p17, List.forall_mem_cons.mpr ⟨lw_p18, List.forall_mem_cons.mpr ⟨lw_p19, List.forall_mem_cons.mpr ⟨lw_p20, List.forall_mem_cons.mpr ⟨lw_p21, List.forall_mem_cons.mpr ⟨lw_p22, List.forall_mem_cons.mpr ⟨lw_p23, List.forall_mem_cons.mpr ⟨lw_p24, List.forall_mem_cons.mpr ⟨lw_p25, List.forall_mem_cons.mpr ⟨lw_p26, List.forall_mem_cons.mpr ⟨lw_p27, List.forall_mem_cons.mpr ⟨lw_p28, List.forall_mem_cons.mpr ⟨lw_p29, List.forall_mem_cons.mpr ⟨lw_p30, List.forall_mem_cons.mpr ⟨lw_p31, fun _ h => absurd h List.not_mem_nil⟩⟩⟩⟩⟩⟩⟩⟩⟩⟩⟩⟩⟩⟩⟩⟩
theorem lw_p32 : lw_okq (⟨"KnitChronicleModel", "patternOf", "()I"⟩, 15) := ⟨⟨by decide +kernel, by decide +kernel⟩, List.mem_of_getElem? (i := 543) (by decide +kernel), List.mem_of_getElem? (i := 718) (by decide +kernel), List.mem_of_getElem? (i := 719) (by decide +kernel)⟩
theorem lw_p33 : lw_okq (⟨"KnitChronicleModel", "stretches", "(II)I"⟩, 15) := ⟨⟨by decide +kernel, by decide +kernel⟩, List.mem_of_getElem? (i := 543) (by decide +kernel), List.mem_of_getElem? (i := 734) (by decide +kernel), List.mem_of_getElem? (i := 735) (by decide +kernel)⟩
theorem lw_p34 : lw_okq (⟨"KnitChronicleModel", "layHands", "()V"⟩, 15) := ⟨⟨by decide +kernel, by decide +kernel⟩, List.mem_of_getElem? (i := 543) (by decide +kernel), List.mem_of_getElem? (i := 743) (by decide +kernel), List.mem_of_getElem? (i := 744) (by decide +kernel)⟩
theorem lw_p35 : lw_okq (⟨"KnitChronicleModel", "mayKnit", "(II)Z"⟩, 15) := ⟨⟨by decide +kernel, by decide +kernel⟩, List.mem_of_getElem? (i := 543) (by decide +kernel), List.mem_of_getElem? (i := 747) (by decide +kernel), List.mem_of_getElem? (i := 748) (by decide +kernel)⟩
theorem lw_p36 : lw_okq (⟨"KnitChronicleModel", "fewest", "(I)I"⟩, 15) := ⟨⟨by decide +kernel, by decide +kernel⟩, List.mem_of_getElem? (i := 543) (by decide +kernel), List.mem_of_getElem? (i := 751) (by decide +kernel), List.mem_of_getElem? (i := 752) (by decide +kernel)⟩
theorem lw_p37 : lw_okq (⟨"KnitChronicleModel", "tightSet", "()I"⟩, 15) := ⟨⟨by decide +kernel, by decide +kernel⟩, List.mem_of_getElem? (i := 543) (by decide +kernel), List.mem_of_getElem? (i := 771) (by decide +kernel), List.mem_of_getElem? (i := 772) (by decide +kernel)⟩
def lw_privs_3 : List (MethodName × Nat) := [(⟨"KnitChronicleModel", "patternOf", "()I"⟩, 15), (⟨"KnitChronicleModel", "stretches", "(II)I"⟩, 15), (⟨"KnitChronicleModel", "layHands", "()V"⟩, 15), (⟨"KnitChronicleModel", "mayKnit", "(II)Z"⟩, 15), (⟨"KnitChronicleModel", "fewest", "(I)I"⟩, 15), (⟨"KnitChronicleModel", "tightSet", "()I"⟩, 15)]
theorem lw_r3 : ∀ q ∈ lw_privs_3, lw_okq q := List.forall_mem_cons.mpr ⟨lw_p32, List.forall_mem_cons.mpr ⟨lw_p33, List.forall_mem_cons.mpr ⟨lw_p34, List.forall_mem_cons.mpr ⟨lw_p35, List.forall_mem_cons.mpr ⟨lw_p36, List.forall_mem_cons.mpr ⟨lw_p37, fun _ h => absurd h List.not_mem_nil⟩⟩⟩⟩⟩⟩
def lw_privs : List (MethodName × Nat) := lw_privs_1 ++ (lw_privs_2 ++ (lw_privs_3))
def lw_tbl : List Cond := k2_sels lw_privs ++ tables_1
theorem lw_privs_ok : ∀ q ∈ lw_privs, lw_okq q := by
  show ∀ q ∈ lw_privs_1 ++ (lw_privs_2 ++ (lw_privs_3)), lw_okq q
  exact List.forall_mem_append.mpr ⟨lw_r1, List.forall_mem_append.mpr ⟨lw_r2, lw_r3⟩⟩
end
section
/-! ===== BEGIN words of one list among another's, by their places ===== -/
theorem goodIn_r {big : List Cond} (ws : List Cond) (ps : List Nat) (hp : ws = ps.filterMap (fun i => big[i]?)) (h : ws.all goodWord = true) : GoodIn big ws := by
  intro w hw
  have h1 := List.all_eq_true.mp h w hw
  rw [hp] at hw
  obtain ⟨i, -, hi⟩ := List.mem_filterMap.mp hw
  have hm : w ∈ big := by first | exact List.mem_of_getElem? hi | exact List.getElem?_mem hi
  exact ⟨hm, good_of_word h1⟩
theorem goodIn_app {big a b : List Cond} (ha : GoodIn big a) (hb : GoodIn big b) : GoodIn big (a ++ b) := fun w h => (List.mem_append.mp h).elim (ha w) (hb w)
theorem goodIn_ca {big a b : List Cond} {c : Cond} (ha : GoodIn big (c :: a)) (hb : GoodIn big b) : GoodIn big (c :: (a ++ b)) := fun w h => (List.mem_cons.mp h).elim (fun e => ha w (List.mem_cons.mpr (Or.inl e))) (fun h => (List.mem_append.mp h).elim (fun h => ha w (List.mem_cons.mpr (Or.inr h))) (hb w))
theorem goodIn_sub {big ws : List Cond} (hm : ∀ w ∈ ws, w ∈ big) (h : ws.all goodWord = true) : GoodIn big ws := fun w hw => ⟨hm w hw, good_of_word (List.all_eq_true.mp h w hw)⟩
/-! ===== END ===== -/

/-! ===== BEGIN printed: names, fields, word lists, decode rows ===== -/
def RX0 : String := "KnitChronicle$HandChanges"
def TX0 : u_T := fun k => match k with
  | _ => ("KnitChronicle$HandChanges", "changes", "[I", true)
def tyX0 : Nat → FieldType := fun k => match k with
  | _ => .array .int
abbrev wsX00 : List Cond := u_ws RX0 TX0 1
theorem nmX0 : ∀ a, a < 1 → ∀ b, b < 1 → a ≠ b → (TX0 a).2.1 ≠ (TX0 b).2.1 := by decide +kernel
theorem tyX0_ok : ∀ k, k < 1 → parseFieldDescriptor (TX0 k).2.2.1 = some (tyX0 k) := by decide +kernel
abbrev cX0_init : ByteArray := prog_2_method_1_code
def yX0_init : MethodName := ⟨RX0, "<init>", "()V"⟩
abbrev cX0_count : ByteArray := prog_2_method_2_code
def yX0_count : MethodName := ⟨RX0, "count", "(LKnitChronicle$Town;)V"⟩
abbrev cX0_fewestFrom : ByteArray := prog_2_method_3_code
def yX0_fewestFrom : MethodName := ⟨RX0, "fewestFrom", "(II)I"⟩
abbrev cX0_changesBy : ByteArray := prog_2_method_4_code
def yX0_changesBy : MethodName := ⟨RX0, "changesBy", "(III)I"⟩
abbrev cX0_fewest : ByteArray := prog_2_method_5_code
def yX0_fewest : MethodName := ⟨RX0, "fewest", "(I)I"⟩
abbrev cX0_knitterOf : ByteArray := prog_2_method_6_code
def yX0_knitterOf : MethodName := ⟨RX0, "knitterOf", "(I)I"⟩
abbrev cX0_leastAfter : ByteArray := prog_2_method_7_code
def yX0_leastAfter : MethodName := ⟨RX0, "leastAfter", "(II)I"⟩
def RX1 : String := "KnitChronicle$Pad"
def TX1 : u_T := fun k => match k with
  | 0 => ("KnitChronicle$Pad", "signs", "[I", true)
  | _ => ("KnitChronicle$Pad", "length", "I", false)
def tyX1 : Nat → FieldType := fun k => match k with
  | 0 => .array .int
  | _ => .int
abbrev wsX10 : List Cond := u_ws RX1 TX1 2
theorem nmX1 : ∀ a, a < 2 → ∀ b, b < 2 → a ≠ b → (TX1 a).2.1 ≠ (TX1 b).2.1 := by decide +kernel
theorem tyX1_ok : ∀ k, k < 2 → parseFieldDescriptor (TX1 k).2.2.1 = some (tyX1 k) := by decide +kernel
abbrev cX1_init : ByteArray := prog_3_method_1_code
def yX1_init : MethodName := ⟨RX1, "<init>", "()V"⟩
abbrev cX1_append : ByteArray := prog_3_method_2_code
def yX1_append : MethodName := ⟨RX1, "append", "(I)V"⟩
abbrev cX1_firstFault : ByteArray := prog_3_method_3_code
def yX1_firstFault : MethodName := ⟨RX1, "firstFault", "()I"⟩
abbrev cX1_wantedAfter : ByteArray := prog_3_method_4_code
def yX1_wantedAfter : MethodName := ⟨RX1, "wantedAfter", "(II)I"⟩
abbrev cX1_wantedBy : ByteArray := prog_3_method_5_code
def yX1_wantedBy : MethodName := ⟨RX1, "wantedBy", "(I)I"⟩
abbrev cX1_kindAt : ByteArray := prog_3_method_6_code
def yX1_kindAt : MethodName := ⟨RX1, "kindAt", "(I)I"⟩
abbrev cX1_knitterAt : ByteArray := prog_3_method_7_code
def yX1_knitterAt : MethodName := ⟨RX1, "knitterAt", "(I)I"⟩
abbrev cX1_colourAt : ByteArray := prog_3_method_8_code
def yX1_colourAt : MethodName := ⟨RX1, "colourAt", "(I)I"⟩
abbrev cX1_stitchAt : ByteArray := prog_3_method_9_code
def yX1_stitchAt : MethodName := ⟨RX1, "stitchAt", "(I)I"⟩
def RX2 : String := "KnitChronicle$Scarf"
def TX2 : u_T := fun k => match k with
  | 0 => ("KnitChronicle$Scarf", "colours", "[I", true)
  | 1 => ("KnitChronicle$Scarf", "tightnesses", "[I", true)
  | 2 => ("KnitChronicle$Scarf", "anchors", "[I", true)
  | 3 => ("KnitChronicle$Scarf", "size", "I", false)
  | _ => ("KnitChronicle$Scarf", "eaten", "I", false)
def tyX2 : Nat → FieldType := fun k => match k with
  | 0 => .array .int
  | 1 => .array .int
  | 2 => .array .int
  | 3 => .int
  | _ => .int
abbrev wsX20 : List Cond := u_ws RX2 TX2 5
theorem nmX2 : ∀ a, a < 5 → ∀ b, b < 5 → a ≠ b → (TX2 a).2.1 ≠ (TX2 b).2.1 := by decide +kernel
theorem tyX2_ok : ∀ k, k < 5 → parseFieldDescriptor (TX2 k).2.2.1 = some (tyX2 k) := by decide +kernel
abbrev cX2_init : ByteArray := prog_4_method_1_code
def yX2_init : MethodName := ⟨RX2, "<init>", "()V"⟩
abbrev cX2_has : ByteArray := prog_4_method_2_code
def yX2_has : MethodName := ⟨RX2, "has", "(I)Z"⟩
abbrev cX2_hasAll : ByteArray := prog_4_method_3_code
def yX2_hasAll : MethodName := ⟨RX2, "hasAll", "(I)Z"⟩
abbrev cX2_isFull : ByteArray := prog_4_method_4_code
def yX2_isFull : MethodName := ⟨RX2, "isFull", "()Z"⟩
abbrev cX2_isEaten : ByteArray := prog_4_method_5_code
def yX2_isEaten : MethodName := ⟨RX2, "isEaten", "(I)Z"⟩
abbrev cX2_trait : ByteArray := prog_4_method_6_code
def yX2_trait : MethodName := ⟨RX2, "trait", "(II)I"⟩
abbrev cX2_clear : ByteArray := prog_4_method_7_code
def yX2_clear : MethodName := ⟨RX2, "clear", "()V"⟩
abbrev cX2_copy : ByteArray := prog_4_method_8_code
def yX2_copy : MethodName := ⟨RX2, "copy", "(LKnitChronicle$Scarf;)V"⟩
abbrev cX2_append : ByteArray := prog_4_method_9_code
def yX2_append : MethodName := ⟨RX2, "append", "(III)V"⟩
abbrev cX2_knit : ByteArray := prog_4_method_10_code
def yX2_knit : MethodName := ⟨RX2, "knit", "(II)V"⟩
abbrev cX2_lastWholeOf : ByteArray := prog_4_method_11_code
def yX2_lastWholeOf : MethodName := ⟨RX2, "lastWholeOf", "(I)I"⟩
abbrev cX2_eat : ByteArray := prog_4_method_12_code
def yX2_eat : MethodName := ⟨RX2, "eat", "(I)V"⟩
abbrev cX2_mend : ByteArray := prog_4_method_13_code
def yX2_mend : MethodName := ⟨RX2, "mend", "(II)V"⟩
abbrev cX2_undoneWith : ByteArray := prog_4_method_14_code
def yX2_undoneWith : MethodName := ⟨RX2, "undoneWith", "(I)I"⟩
abbrev cX2_unpick : ByteArray := prog_4_method_15_code
def yX2_unpick : MethodName := ⟨RX2, "unpick", "(I)I"⟩
abbrev cX2_closedUp : ByteArray := prog_4_method_16_code
def yX2_closedUp : MethodName := ⟨RX2, "closedUp", "(II)I"⟩
abbrev cX2_looseOnes : ByteArray := prog_4_method_17_code
def yX2_looseOnes : MethodName := ⟨RX2, "looseOnes", "()I"⟩
abbrev cX2_withAnchors : ByteArray := prog_4_method_18_code
def yX2_withAnchors : MethodName := ⟨RX2, "withAnchors", "(I)I"⟩
abbrev cX2_topmostBelow : ByteArray := prog_4_method_19_code
def yX2_topmostBelow : MethodName := ⟨RX2, "topmostBelow", "(II)I"⟩
abbrev cX2_topOf : ByteArray := prog_4_method_20_code
def yX2_topOf : MethodName := ⟨RX2, "topOf", "(II)I"⟩
abbrev cX2_shortestPattern : ByteArray := prog_4_method_21_code
def yX2_shortestPattern : MethodName := ⟨RX2, "shortestPattern", "()I"⟩
abbrev cX2_repeatsBy : ByteArray := prog_4_method_22_code
def yX2_repeatsBy : MethodName := ⟨RX2, "repeatsBy", "(I)Z"⟩
abbrev cX2_areAlike : ByteArray := prog_4_method_23_code
def yX2_areAlike : MethodName := ⟨RX2, "areAlike", "(III)Z"⟩
abbrev cX2_coloursOfHole : ByteArray := prog_4_method_24_code
def yX2_coloursOfHole : MethodName := ⟨RX2, "coloursOfHole", "(I)I"⟩
abbrev cX2_tightnessFrom : ByteArray := prog_4_method_25_code
def yX2_tightnessFrom : MethodName := ⟨RX2, "tightnessFrom", "(I)I"⟩
abbrev cX2_stretchesFrom : ByteArray := prog_4_method_26_code
def yX2_stretchesFrom : MethodName := ⟨RX2, "stretchesFrom", "(II)I"⟩
def RX3 : String := "KnitChronicle$Town"
def TX3 : u_T := fun k => match k with
  | 0 => ("KnitChronicle$Town", "scarf", "LKnitChronicle$Scarf;", true)
  | 1 => ("KnitChronicle$Town", "knitterTightness", "[I", true)
  | 2 => ("KnitChronicle$Town", "sights", "I", false)
  | _ => ("KnitChronicle$Town", "fitting", "I", false)
def tyX3 : Nat → FieldType := fun k => match k with
  | 0 => .object "KnitChronicle$Scarf"
  | 1 => .array .int
  | 2 => .int
  | _ => .int
abbrev wsX30 : List Cond := u_ws RX3 TX3 4
theorem nmX3 : ∀ a, a < 4 → ∀ b, b < 4 → a ≠ b → (TX3 a).2.1 ≠ (TX3 b).2.1 := by decide +kernel
theorem tyX3_ok : ∀ k, k < 4 → parseFieldDescriptor (TX3 k).2.2.1 = some (tyX3 k) := by decide +kernel
abbrev cX3_init : ByteArray := prog_5_method_1_code
def yX3_init : MethodName := ⟨RX3, "<init>", "()V"⟩
abbrev cX3_tightnessOf : ByteArray := prog_5_method_2_code
def yX3_tightnessOf : MethodName := ⟨RX3, "tightnessOf", "(I)I"⟩
abbrev cX3_forgetSights : ByteArray := prog_5_method_3_code
def yX3_forgetSights : MethodName := ⟨RX3, "forgetSights", "()V"⟩
abbrev cX3_copy : ByteArray := prog_5_method_4_code
def yX3_copy : MethodName := ⟨RX3, "copy", "(LKnitChronicle$Town;)V"⟩
def RX4 : String := "KnitChronicle$Trial"
def TX4 : u_T := fun k => match k with
  | 0 => ("KnitChronicle$Trial", "scarf", "LKnitChronicle$Scarf;", true)
  | 1 => ("KnitChronicle$Trial", "acts", "I", false)
  | 2 => ("KnitChronicle$Trial", "reason", "I", false)
  | 3 => ("KnitChronicle$Trial", "mostUndone", "I", false)
  | _ => ("KnitChronicle$Trial", "allUndone", "I", false)
def tyX4 : Nat → FieldType := fun k => match k with
  | 0 => .object "KnitChronicle$Scarf"
  | 1 => .int
  | 2 => .int
  | 3 => .int
  | _ => .int
abbrev wsX40 : List Cond := u_ws RX4 TX4 5
theorem nmX4 : ∀ a, a < 5 → ∀ b, b < 5 → a ≠ b → (TX4 a).2.1 ≠ (TX4 b).2.1 := by decide +kernel
theorem tyX4_ok : ∀ k, k < 5 → parseFieldDescriptor (TX4 k).2.2.1 = some (tyX4 k) := by decide +kernel
abbrev cX4_init : ByteArray := prog_6_method_1_code
def yX4_init : MethodName := ⟨RX4, "<init>", "()V"⟩
abbrev cX4_begin : ByteArray := prog_6_method_2_code
def yX4_begin : MethodName := ⟨RX4, "begin", "(LKnitChronicle$Scarf;)V"⟩
abbrev cX4_act : ByteArray := prog_6_method_3_code
def yX4_act : MethodName := ⟨RX4, "act", "(IIII)Z"⟩
abbrev cX4_reasonAgainst : ByteArray := prog_6_method_4_code
def yX4_reasonAgainst : MethodName := ⟨RX4, "reasonAgainst", "(II)I"⟩
abbrev cX4_countUndone : ByteArray := prog_6_method_5_code
def yX4_countUndone : MethodName := ⟨RX4, "countUndone", "(I)V"⟩
def RX5 : String := "KnitChronicle"
def TX5 : u_T := fun k => match k with
  | 0 => ("KnitChronicle", "town", "LKnitChronicle$Town;", true)
  | 1 => ("KnitChronicle", "firstImage", "LKnitChronicle$Town;", true)
  | 2 => ("KnitChronicle", "secondImage", "LKnitChronicle$Town;", true)
  | 3 => ("KnitChronicle", "keptImages", "I", false)
  | 4 => ("KnitChronicle", "pad", "LKnitChronicle$Pad;", true)
  | 5 => ("KnitChronicle", "trial", "LKnitChronicle$Trial;", true)
  | 6 => ("KnitChronicle", "handChanges", "LKnitChronicle$HandChanges;", true)
  | _ => ("KnitChronicle", "sharedColours", "[I", true)
def tyX5 : Nat → FieldType := fun k => match k with
  | 0 => .object "KnitChronicle$Town"
  | 1 => .object "KnitChronicle$Town"
  | 2 => .object "KnitChronicle$Town"
  | 3 => .int
  | 4 => .object "KnitChronicle$Pad"
  | 5 => .object "KnitChronicle$Trial"
  | 6 => .object "KnitChronicle$HandChanges"
  | _ => .array .int
abbrev wsX50 : List Cond := u_ws RX5 TX5 8
theorem nmX5 : ∀ a, a < 8 → ∀ b, b < 8 → a ≠ b → (TX5 a).2.1 ≠ (TX5 b).2.1 := by decide +kernel
theorem tyX5_ok : ∀ k, k < 8 → parseFieldDescriptor (TX5 k).2.2.1 = some (tyX5 k) := by decide +kernel
abbrev cX5_init : ByteArray := prog_1_method_1_code
def yX5_init : MethodName := ⟨RX5, "<init>", "()V"⟩
abbrev cX5_stitch : ByteArray := prog_1_method_2_code
def yX5_stitch : MethodName := ⟨RX5, "stitch", "(III)I"⟩
abbrev cX5_cast : ByteArray := prog_1_method_3_code
def yX5_cast : MethodName := ⟨RX5, "cast", "()I"⟩
abbrev cX5_knitter : ByteArray := prog_1_method_4_code
def yX5_knitter : MethodName := ⟨RX5, "knitter", "(II)I"⟩
abbrev cX5_say : ByteArray := prog_1_method_5_code
def yX5_say : MethodName := ⟨RX5, "say", "(I)I"⟩
abbrev cX5_wipe : ByteArray := prog_1_method_6_code
def yX5_wipe : MethodName := ⟨RX5, "wipe", "()I"⟩
abbrev cX5_fault : ByteArray := prog_1_method_7_code
def yX5_fault : MethodName := ⟨RX5, "fault", "()I"⟩
abbrev cX5_judge : ByteArray := prog_1_method_8_code
def yX5_judge : MethodName := ⟨RX5, "judge", "(I)I"⟩
abbrev cX5_done : ByteArray := prog_1_method_9_code
def yX5_done : MethodName := ⟨RX5, "done", "()I"⟩
abbrev cX5_behind : ByteArray := prog_1_method_10_code
def yX5_behind : MethodName := ⟨RX5, "behind", "(I)I"⟩
abbrev cX5_of : ByteArray := prog_1_method_11_code
def yX5_of : MethodName := ⟨RX5, "of", "(II)I"⟩
abbrev cX5_weeksCanBe : ByteArray := prog_1_method_12_code
def yX5_weeksCanBe : MethodName := ⟨RX5, "weeksCanBe", "()Z"⟩
abbrev cX5_tryWeeks : ByteArray := prog_1_method_13_code
def yX5_tryWeeks : MethodName := ⟨RX5, "tryWeeks", "()Z"⟩
abbrev cX5_pull : ByteArray := prog_1_method_14_code
def yX5_pull : MethodName := ⟨RX5, "pull", "(I)I"⟩
abbrev cX5_pulls : ByteArray := prog_1_method_15_code
def yX5_pulls : MethodName := ⟨RX5, "pulls", "(III)I"⟩
abbrev cX5_pattern : ByteArray := prog_1_method_16_code
def yX5_pattern : MethodName := ⟨RX5, "pattern", "()I"⟩
abbrev cX5_hole : ByteArray := prog_1_method_17_code
def yX5_hole : MethodName := ⟨RX5, "hole", "(I)I"⟩
abbrev cX5_rip : ByteArray := prog_1_method_18_code
def yX5_rip : MethodName := ⟨RX5, "rip", "(I)I"⟩
abbrev cX5_longestShared : ByteArray := prog_1_method_19_code
def yX5_longestShared : MethodName := ⟨RX5, "longestShared", "(LKnitChronicle$Scarf;LKnitChronicle$Scarf;)I"⟩
abbrev cX5_hold : ByteArray := prog_1_method_20_code
def yX5_hold : MethodName := ⟨RX5, "hold", "(II)I"⟩
abbrev cX5_leastBurden : ByteArray := prog_1_method_21_code
def yX5_leastBurden : MethodName := ⟨RX5, "leastBurden", "(I)I"⟩
abbrev cX5_fewestOfFirst : ByteArray := prog_1_method_22_code
def yX5_fewestOfFirst : MethodName := ⟨RX5, "fewestOfFirst", "(II)I"⟩
abbrev cX5_hands : ByteArray := prog_1_method_23_code
def yX5_hands : MethodName := ⟨RX5, "hands", "()I"⟩
abbrev cX5_who : ByteArray := prog_1_method_24_code
def yX5_who : MethodName := ⟨RX5, "who", "(I)I"⟩
abbrev cX5_seen : ByteArray := prog_1_method_25_code
def yX5_seen : MethodName := ⟨RX5, "seen", "(IZ)I"⟩
abbrev cX5_forget : ByteArray := prog_1_method_26_code
def yX5_forget : MethodName := ⟨RX5, "forget", "()I"⟩
abbrev cX5_tights : ByteArray := prog_1_method_27_code
def yX5_tights : MethodName := ⟨RX5, "tights", "()I"⟩
abbrev cX5_next : ByteArray := prog_1_method_28_code
def yX5_next : MethodName := ⟨RX5, "next", "(I)I"⟩
abbrev cX5_mostLeftBy : ByteArray := prog_1_method_29_code
def yX5_mostLeftBy : MethodName := ⟨RX5, "mostLeftBy", "(I)I"⟩
abbrev cX5_moths : ByteArray := prog_1_method_30_code
def yX5_moths : MethodName := ⟨RX5, "moths", "(III)J"⟩
abbrev cX5_year : ByteArray := prog_1_method_31_code
def yX5_year : MethodName := ⟨RX5, "year", "(III)I"⟩
abbrev cX5_tryDrawn : ByteArray := prog_1_method_32_code
def yX5_tryDrawn : MethodName := ⟨RX5, "tryDrawn", "(I)V"⟩
abbrev cX5_image : ByteArray := prog_1_method_33_code
def yX5_image : MethodName := ⟨RX5, "image", "(I)I"⟩
abbrev cX5_restore : ByteArray := prog_1_method_34_code
def yX5_restore : MethodName := ⟨RX5, "restore", "(I)I"⟩
abbrev cX5_imageAt : ByteArray := prog_1_method_35_code
def yX5_imageAt : MethodName := ⟨RX5, "imageAt", "(I)LKnitChronicle$Town;"⟩
abbrev cX5_told : ByteArray := prog_1_method_36_code
def yX5_told : MethodName := ⟨RX5, "told", "(I)I"⟩
abbrev cX5_toldOfStitch : ByteArray := prog_1_method_37_code
def yX5_toldOfStitch : MethodName := ⟨RX5, "toldOfStitch", "(II)I"⟩
abbrev cX5_isBelow : ByteArray := prog_1_method_38_code
def yX5_isBelow : MethodName := ⟨RX5, "isBelow", "(II)Z"⟩
abbrev cX5_isIn : ByteArray := prog_1_method_39_code
def yX5_isIn : MethodName := ⟨RX5, "isIn", "(II)Z"⟩
abbrev cX5_at : ByteArray := prog_1_method_40_code
def yX5_at : MethodName := ⟨RX5, "at", "([II)I"⟩
abbrev cX5_put : ByteArray := prog_1_method_41_code
def yX5_put : MethodName := ⟨RX5, "put", "([III)V"⟩
abbrev cX5_near : ByteArray := prog_1_method_42_code
def yX5_near : MethodName := ⟨RX5, "near", "(I)I"⟩
abbrev cX5_termOfTenths : ByteArray := prog_1_method_43_code
def yX5_termOfTenths : MethodName := ⟨RX5, "termOfTenths", "(II)I"⟩
abbrev cX5_power : ByteArray := prog_1_method_44_code
def yX5_power : MethodName := ⟨RX5, "power", "(JI)J"⟩
def RX6 : String := "KnitChronicleModel"
def TX6 : u_T := fun k => match k with
  | 0 => ("KnitChronicleModel", "book", "[I", true)
  | 1 => ("KnitChronicleModel", "now", "[I", true)
  | 2 => ("KnitChronicleModel", "knits", "[I", true)
  | 3 => ("KnitChronicleModel", "sights", "I", false)
  | 4 => ("KnitChronicleModel", "sight", "[I", true)
  | 5 => ("KnitChronicleModel", "signs", "I", false)
  | 6 => ("KnitChronicleModel", "pad", "[I", true)
  | 7 => ("KnitChronicleModel", "undone", "I", false)
  | 8 => ("KnitChronicleModel", "place", "[I", true)
  | 9 => ("KnitChronicleModel", "reason", "I", false)
  | 10 => ("KnitChronicleModel", "acts", "I", false)
  | 11 => ("KnitChronicleModel", "image", "[I", true)
  | 12 => ("KnitChronicleModel", "isKept", "[Z", true)
  | 13 => ("KnitChronicleModel", "agree", "[I", true)
  | _ => ("KnitChronicleModel", "changes", "[I", true)
def tyX6 : Nat → FieldType := fun k => match k with
  | 0 => .array .int
  | 1 => .array .int
  | 2 => .array .int
  | 3 => .int
  | 4 => .array .int
  | 5 => .int
  | 6 => .array .int
  | 7 => .int
  | 8 => .array .int
  | 9 => .int
  | 10 => .int
  | 11 => .array .int
  | 12 => .array .boolean
  | 13 => .array .int
  | _ => .array .int
abbrev wsX60 : List Cond := u_ws RX6 TX6 15
theorem nmX6 : ∀ a, a < 15 → ∀ b, b < 15 → a ≠ b → (TX6 a).2.1 ≠ (TX6 b).2.1 := by decide +kernel
theorem tyX6_ok : ∀ k, k < 15 → parseFieldDescriptor (TX6 k).2.2.1 = some (tyX6 k) := by decide +kernel
abbrev cX6_init : ByteArray := prog_8_method_1_code
def yX6_init : MethodName := ⟨RX6, "<init>", "()V"⟩
abbrev cX6_in : ByteArray := prog_8_method_2_code
def yX6_in : MethodName := ⟨RX6, "in", "(III)Z"⟩
abbrev cX6_has : ByteArray := prog_8_method_3_code
def yX6_has : MethodName := ⟨RX6, "has", "(II)Z"⟩
abbrev cX6_bits : ByteArray := prog_8_method_4_code
def yX6_bits : MethodName := ⟨RX6, "bits", "(I)I"⟩
abbrev cX6_isKnitter : ByteArray := prog_8_method_5_code
def yX6_isKnitter : MethodName := ⟨RX6, "isKnitter", "(I)Z"⟩
abbrev cX6_isStitch : ByteArray := prog_8_method_6_code
def yX6_isStitch : MethodName := ⟨RX6, "isStitch", "(I)Z"⟩
abbrev cX6_stitch : ByteArray := prog_8_method_7_code
def yX6_stitch : MethodName := ⟨RX6, "stitch", "(III)I"⟩
abbrev cX6_cast : ByteArray := prog_8_method_8_code
def yX6_cast : MethodName := ⟨RX6, "cast", "()I"⟩
abbrev cX6_knitter : ByteArray := prog_8_method_9_code
def yX6_knitter : MethodName := ⟨RX6, "knitter", "(II)I"⟩
abbrev cX6_say : ByteArray := prog_8_method_10_code
def yX6_say : MethodName := ⟨RX6, "say", "(I)I"⟩
abbrev cX6_wipe : ByteArray := prog_8_method_11_code
def yX6_wipe : MethodName := ⟨RX6, "wipe", "()I"⟩
abbrev cX6_isHand : ByteArray := prog_8_method_12_code
def yX6_isHand : MethodName := ⟨RX6, "isHand", "(I)Z"⟩
abbrev cX6_isLetter : ByteArray := prog_8_method_13_code
def yX6_isLetter : MethodName := ⟨RX6, "isLetter", "(I)Z"⟩
abbrev cX6_faultOf : ByteArray := prog_8_method_14_code
def yX6_faultOf : MethodName := ⟨RX6, "faultOf", "()I"⟩
abbrev cX6_fault : ByteArray := prog_8_method_15_code
def yX6_fault : MethodName := ⟨RX6, "fault", "()I"⟩
abbrev cX6_asNow : ByteArray := prog_8_method_16_code
def yX6_asNow : MethodName := ⟨RX6, "asNow", "()V"⟩
abbrev cX6_threadOf : ByteArray := prog_8_method_17_code
def yX6_threadOf : MethodName := ⟨RX6, "threadOf", "(I)I"⟩
abbrev cX6_takeOut : ByteArray := prog_8_method_18_code
def yX6_takeOut : MethodName := ⟨RX6, "takeOut", "(I)V"⟩
abbrev cX6_knit : ByteArray := prog_8_method_19_code
def yX6_knit : MethodName := ⟨RX6, "knit", "(II)I"⟩
abbrev cX6_pullOut : ByteArray := prog_8_method_20_code
def yX6_pullOut : MethodName := ⟨RX6, "pullOut", "(I)I"⟩
abbrev cX6_eat : ByteArray := prog_8_method_21_code
def yX6_eat : MethodName := ⟨RX6, "eat", "(I)I"⟩
abbrev cX6_mend : ByteArray := prog_8_method_22_code
def yX6_mend : MethodName := ⟨RX6, "mend", "(II)I"⟩
abbrev cX6_goWeeks : ByteArray := prog_8_method_23_code
def yX6_goWeeks : MethodName := ⟨RX6, "goWeeks", "()I"⟩
abbrev cX6_judge : ByteArray := prog_8_method_24_code
def yX6_judge : MethodName := ⟨RX6, "judge", "(I)I"⟩
abbrev cX6_barOfWeeks : ByteArray := prog_8_method_25_code
def yX6_barOfWeeks : MethodName := ⟨RX6, "barOfWeeks", "()I"⟩
abbrev cX6_done : ByteArray := prog_8_method_26_code
def yX6_done : MethodName := ⟨RX6, "done", "()I"⟩
abbrev cX6_eatenSet : ByteArray := prog_8_method_27_code
def yX6_eatenSet : MethodName := ⟨RX6, "eatenSet", "()I"⟩
abbrev cX6_looseSet : ByteArray := prog_8_method_28_code
def yX6_looseSet : MethodName := ⟨RX6, "looseSet", "()I"⟩
abbrev cX6_behind : ByteArray := prog_8_method_29_code
def yX6_behind : MethodName := ⟨RX6, "behind", "(I)I"⟩
abbrev cX6_of : ByteArray := prog_8_method_30_code
def yX6_of : MethodName := ⟨RX6, "of", "(II)I"⟩
abbrev cX6_pull : ByteArray := prog_8_method_31_code
def yX6_pull : MethodName := ⟨RX6, "pull", "(I)I"⟩
abbrev cX6_pulls : ByteArray := prog_8_method_32_code
def yX6_pulls : MethodName := ⟨RX6, "pulls", "(III)I"⟩
abbrev cX6_patternOf : ByteArray := prog_8_method_33_code
def yX6_patternOf : MethodName := ⟨RX6, "patternOf", "()I"⟩
abbrev cX6_pattern : ByteArray := prog_8_method_34_code
def yX6_pattern : MethodName := ⟨RX6, "pattern", "()I"⟩
abbrev cX6_hole : ByteArray := prog_8_method_35_code
def yX6_hole : MethodName := ⟨RX6, "hole", "(I)I"⟩
abbrev cX6_rip : ByteArray := prog_8_method_36_code
def yX6_rip : MethodName := ⟨RX6, "rip", "(I)I"⟩
abbrev cX6_stretches : ByteArray := prog_8_method_37_code
def yX6_stretches : MethodName := ⟨RX6, "stretches", "(II)I"⟩
abbrev cX6_hold : ByteArray := prog_8_method_38_code
def yX6_hold : MethodName := ⟨RX6, "hold", "(II)I"⟩
abbrev cX6_mayKnit : ByteArray := prog_8_method_39_code
def yX6_mayKnit : MethodName := ⟨RX6, "mayKnit", "(II)Z"⟩
abbrev cX6_layHands : ByteArray := prog_8_method_40_code
def yX6_layHands : MethodName := ⟨RX6, "layHands", "()V"⟩
abbrev cX6_fewest : ByteArray := prog_8_method_41_code
def yX6_fewest : MethodName := ⟨RX6, "fewest", "(I)I"⟩
abbrev cX6_hands : ByteArray := prog_8_method_42_code
def yX6_hands : MethodName := ⟨RX6, "hands", "()I"⟩
abbrev cX6_who : ByteArray := prog_8_method_43_code
def yX6_who : MethodName := ⟨RX6, "who", "(I)I"⟩
abbrev cX6_seen : ByteArray := prog_8_method_44_code
def yX6_seen : MethodName := ⟨RX6, "seen", "(IZ)I"⟩
abbrev cX6_forget : ByteArray := prog_8_method_45_code
def yX6_forget : MethodName := ⟨RX6, "forget", "()I"⟩
abbrev cX6_tightSet : ByteArray := prog_8_method_46_code
def yX6_tightSet : MethodName := ⟨RX6, "tightSet", "()I"⟩
abbrev cX6_tights : ByteArray := prog_8_method_47_code
def yX6_tights : MethodName := ⟨RX6, "tights", "()I"⟩
abbrev cX6_next : ByteArray := prog_8_method_48_code
def yX6_next : MethodName := ⟨RX6, "next", "(I)I"⟩
abbrev cX6_power : ByteArray := prog_8_method_49_code
def yX6_power : MethodName := ⟨RX6, "power", "(JI)J"⟩
abbrev cX6_moths : ByteArray := prog_8_method_50_code
def yX6_moths : MethodName := ⟨RX6, "moths", "(III)J"⟩
abbrev cX6_year : ByteArray := prog_8_method_51_code
def yX6_year : MethodName := ⟨RX6, "year", "(III)I"⟩
abbrev cX6_image : ByteArray := prog_8_method_52_code
def yX6_image : MethodName := ⟨RX6, "image", "(I)I"⟩
abbrev cX6_restore : ByteArray := prog_8_method_53_code
def yX6_restore : MethodName := ⟨RX6, "restore", "(I)I"⟩
abbrev cX6_told : ByteArray := prog_8_method_54_code
def yX6_told : MethodName := ⟨RX6, "told", "(I)I"⟩
def RJ6 : String := "java/lang/Integer"
def TJ6 : u_T := fun k => match k with
  | _ => ("", "", "", false)
def tyJ6 : Nat → FieldType := fun k => match k with
  | _ => .int
abbrev wsJ60 : List Cond := u_ws RJ6 TJ6 0
theorem nmJ6 : ∀ a, a < 0 → ∀ b, b < 0 → a ≠ b → (TJ6 a).2.1 ≠ (TJ6 b).2.1 := by decide +kernel
theorem tyJ6_ok : ∀ k, k < 0 → parseFieldDescriptor (TJ6 k).2.2.1 = some (tyJ6 k) := by decide +kernel
abbrev cJ6_bitCount_0f7a4 : ByteArray := prog_9_method_49_code
def yJ6_bitCount_0f7a4 : MethodName := ⟨RJ6, "bitCount", "(I)I"⟩
def RJ9 : String := "java/lang/Math"
def TJ9 : u_T := fun k => match k with
  | _ => ("", "", "", false)
def tyJ9 : Nat → FieldType := fun k => match k with
  | _ => .int
abbrev wsJ90 : List Cond := u_ws RJ9 TJ9 0
theorem nmJ9 : ∀ a, a < 0 → ∀ b, b < 0 → a ≠ b → (TJ9 a).2.1 ≠ (TJ9 b).2.1 := by decide +kernel
theorem tyJ9_ok : ∀ k, k < 0 → parseFieldDescriptor (TJ9 k).2.2.1 = some (tyJ9 k) := by decide +kernel
abbrev cJ9_max_7cf53 : ByteArray := prog_10_method_65_code
def yJ9_max_7cf53 : MethodName := ⟨RJ9, "max", "(II)I"⟩
abbrev cJ9_min_7cf53 : ByteArray := prog_10_method_69_code
def yJ9_min_7cf53 : MethodName := ⟨RJ9, "min", "(II)I"⟩
def RL : String := "KnitChronicleLaw"
abbrev cL_law : ByteArray := code
def yL_law : MethodName := ⟨RL, "law", "([I)Z"⟩
def wsX0_init : List Cond := .code yX0_init cX0_init 1 none :: ([.methodLink RX0 3 objectInit, .instanceMethod objectInit, .code objectInit ⟨#[0xb1]⟩ 1 none, .arrayClass .int, .fieldLink RX0 9 "KnitChronicle$HandChanges" "changes" "[I"] ++ wsX00)
def wsX5_at : List Cond := .code yX5_at cX5_at 2 (some .int) :: ([])
def wsX5_near : List Cond := .code yX5_near cX5_near 1 (some .int) :: ([])
def wsX0_changesBy : List Cond := .code yX0_changesBy cX0_changesBy 4 (some .int) :: ([.fieldLink RX0 9 "KnitChronicle$HandChanges" "changes" "[I", .static yX5_at, .initialized RX5, .code yX5_at cX5_at 2 (some .int)] ++ wsX00)
def wsX0_fewestFrom : List Cond := .code yX0_fewestFrom cX0_fewestFrom 5 (some .int) :: ([.methodLink RX0 57 Lib.Math.min.name, .static Lib.Math.min.name, .initialized "java/lang/Math", .code Lib.Math.min.name Lib.Math.min.code 2 (some .int), .methodLink RX0 53 yX0_changesBy, .instanceMethod yX0_changesBy, .selects RX0 yX0_changesBy yX0_changesBy, .initialized RX0, .code yX0_changesBy cX0_changesBy 4 (some .int), .fieldLink RX0 9 "KnitChronicle$HandChanges" "changes" "[I", .static yX5_at, .initialized RX5, .code yX5_at cX5_at 2 (some .int)] ++ wsX00)
def wsX3_tightnessOf : List Cond := .code yX3_tightnessOf cX3_tightnessOf 2 (some .int) :: ([.fieldLink RX3 18 "KnitChronicle$Town" "knitterTightness" "[I", .static yX5_at, .initialized RX5, .code yX5_at cX5_at 2 (some .int)] ++ wsX30)
def wsX5_isIn : List Cond := .code yX5_isIn cX5_isIn 2 (some .boolean) :: ([])
def wsX5_put : List Cond := .code yX5_put cX5_put 3 none :: ([])
def wsX0_count_r1 : List Cond := [Cond.fieldLink RX0 15 "KnitChronicle$Town" "scarf" "LKnitChronicle$Scarf;", Cond.fieldLink RX0 21 "KnitChronicle$Scarf" "size" "I", Cond.fieldLink RX0 27 "KnitChronicle$Scarf" "tightnesses" "[I", Cond.fieldLink RX0 9 "KnitChronicle$HandChanges" "changes" "[I", Cond.static yX5_at, Cond.initialized RX5, Cond.code yX5_at cX5_at 2 (some .int), Cond.static yX5_near, Cond.code yX5_near cX5_near 1 (some .int), Cond.methodLink RX0 38 yX0_fewestFrom, Cond.instanceMethod yX0_fewestFrom, Cond.selects RX0 yX0_fewestFrom yX0_fewestFrom, Cond.initialized RX0, Cond.code yX0_fewestFrom cX0_fewestFrom 5 (some .int), Cond.methodLink RX0 57 Lib.Math.min.name, Cond.static Lib.Math.min.name, Cond.initialized "java/lang/Math", Cond.code Lib.Math.min.name Lib.Math.min.code 2 (some .int), Cond.methodLink RX0 53 yX0_changesBy, Cond.instanceMethod yX0_changesBy, Cond.selects RX0 yX0_changesBy yX0_changesBy, Cond.code yX0_changesBy cX0_changesBy 4 (some .int), Cond.methodLink RX0 42 yX3_tightnessOf, Cond.instanceMethod yX3_tightnessOf]
def wsX0_count_r2 : List Cond := [Cond.selects RX3 yX3_tightnessOf yX3_tightnessOf, Cond.initialized RX3, Cond.code yX3_tightnessOf cX3_tightnessOf 2 (some .int), Cond.fieldLink RX3 18 "KnitChronicle$Town" "knitterTightness" "[I", Cond.static yX5_isIn, Cond.code yX5_isIn cX5_isIn 2 (some .boolean), Cond.static yX5_put, Cond.code yX5_put cX5_put 3 none]
def wsX0_count : List Cond := .code yX0_count cX0_count 8 none :: ((wsX0_count_r1 ++ wsX0_count_r2) ++ wsX30 ++ wsX20 ++ wsX00)
def wsX0_fewest : List Cond := .code yX0_fewest cX0_fewest 4 (some .int) :: ([.fieldLink RX0 9 "KnitChronicle$HandChanges" "changes" "[I", .methodLink RX0 57 Lib.Math.min.name, .static Lib.Math.min.name, .initialized "java/lang/Math", .code Lib.Math.min.name Lib.Math.min.code 2 (some .int), .static yX5_at, .initialized RX5, .code yX5_at cX5_at 2 (some .int)] ++ wsX00)
def wsX0_leastAfter : List Cond := .code yX0_leastAfter cX0_leastAfter 5 (some .int) :: ([.methodLink RX0 53 yX0_changesBy, .instanceMethod yX0_changesBy, .selects RX0 yX0_changesBy yX0_changesBy, .initialized RX0, .code yX0_changesBy cX0_changesBy 4 (some .int), .fieldLink RX0 9 "KnitChronicle$HandChanges" "changes" "[I", .static yX5_at, .initialized RX5, .code yX5_at cX5_at 2 (some .int)] ++ wsX00)
def wsX0_knitterOf : List Cond := .code yX0_knitterOf cX0_knitterOf 4 (some .int) :: ([.fieldLink RX0 9 "KnitChronicle$HandChanges" "changes" "[I", .static yX5_at, .initialized RX5, .code yX5_at cX5_at 2 (some .int), .methodLink RX0 62 yX0_leastAfter, .instanceMethod yX0_leastAfter, .selects RX0 yX0_leastAfter yX0_leastAfter, .initialized RX0, .code yX0_leastAfter cX0_leastAfter 5 (some .int), .methodLink RX0 53 yX0_changesBy, .instanceMethod yX0_changesBy, .selects RX0 yX0_changesBy yX0_changesBy, .code yX0_changesBy cX0_changesBy 4 (some .int)] ++ wsX00)
def wsX1_init : List Cond := .code yX1_init cX1_init 1 none :: ([.methodLink RX1 3 objectInit, .instanceMethod objectInit, .code objectInit ⟨#[0xb1]⟩ 1 none, .arrayClass .int, .fieldLink RX1 9 "KnitChronicle$Pad" "signs" "[I"] ++ wsX10)
def wsX1_append : List Cond := .code yX1_append cX1_append 2 none :: ([.fieldLink RX1 9 "KnitChronicle$Pad" "signs" "[I", .fieldLink RX1 15 "KnitChronicle$Pad" "length" "I", .static yX5_put, .initialized RX5, .code yX5_put cX5_put 3 none] ++ wsX10)
def wsX1_colourAt : List Cond := .code yX1_colourAt cX1_colourAt 2 (some .int) :: ([.fieldLink RX1 9 "KnitChronicle$Pad" "signs" "[I", .static yX5_at, .initialized RX5, .code yX5_at cX5_at 2 (some .int)] ++ wsX10)
def wsX5_isBelow : List Cond := .code yX5_isBelow cX5_isBelow 2 (some .boolean) :: ([])
def wsX1_stitchAt : List Cond := .code yX1_stitchAt cX1_stitchAt 2 (some .int) :: ([.fieldLink RX1 9 "KnitChronicle$Pad" "signs" "[I", .static yX5_at, .initialized RX5, .code yX5_at cX5_at 2 (some .int)] ++ wsX10)
def wsX1_knitterAt : List Cond := .code yX1_knitterAt cX1_knitterAt 2 (some .int) :: ([.fieldLink RX1 9 "KnitChronicle$Pad" "signs" "[I", .static yX5_at, .initialized RX5, .code yX5_at cX5_at 2 (some .int)] ++ wsX10)
def wsX1_kindAt : List Cond := .code yX1_kindAt cX1_kindAt 2 (some .int) :: ([.fieldLink RX1 9 "KnitChronicle$Pad" "signs" "[I", .methodLink RX1 38 yX1_knitterAt, .instanceMethod yX1_knitterAt, .selects RX1 yX1_knitterAt yX1_knitterAt, .initialized RX1, .code yX1_knitterAt cX1_knitterAt 2 (some .int), .static yX5_at, .initialized RX5, .code yX5_at cX5_at 2 (some .int), .static yX5_isBelow, .code yX5_isBelow cX5_isBelow 2 (some .boolean)] ++ wsX10)
def wsX1_wantedBy : List Cond := .code yX1_wantedBy cX1_wantedBy 1 (some .int) :: ([])
def wsX1_wantedAfter_r1 : List Cond := [Cond.methodLink RX1 27 yX1_colourAt, Cond.instanceMethod yX1_colourAt, Cond.selects RX1 yX1_colourAt yX1_colourAt, Cond.initialized RX1, Cond.code yX1_colourAt cX1_colourAt 2 (some .int), Cond.fieldLink RX1 9 "KnitChronicle$Pad" "signs" "[I", Cond.static yX5_at, Cond.initialized RX5, Cond.code yX5_at cX5_at 2 (some .int), Cond.static yX5_isBelow, Cond.code yX5_isBelow cX5_isBelow 2 (some .boolean), Cond.methodLink RX1 35 yX1_stitchAt, Cond.instanceMethod yX1_stitchAt, Cond.selects RX1 yX1_stitchAt yX1_stitchAt, Cond.code yX1_stitchAt cX1_stitchAt 2 (some .int), Cond.methodLink RX1 38 yX1_knitterAt, Cond.instanceMethod yX1_knitterAt, Cond.selects RX1 yX1_knitterAt yX1_knitterAt, Cond.code yX1_knitterAt cX1_knitterAt 2 (some .int), Cond.methodLink RX1 41 yX1_kindAt, Cond.instanceMethod yX1_kindAt, Cond.selects RX1 yX1_kindAt yX1_kindAt, Cond.code yX1_kindAt cX1_kindAt 2 (some .int), Cond.methodLink RX1 44 yX1_wantedBy]
def wsX1_wantedAfter_r2 : List Cond := [Cond.static yX1_wantedBy, Cond.code yX1_wantedBy cX1_wantedBy 1 (some .int)]
def wsX1_wantedAfter : List Cond := .code yX1_wantedAfter cX1_wantedAfter 3 (some .int) :: ((wsX1_wantedAfter_r1 ++ wsX1_wantedAfter_r2) ++ wsX10)
def wsX1_firstFault_r1 : List Cond := [Cond.fieldLink RX1 15 "KnitChronicle$Pad" "length" "I", Cond.methodLink RX1 23 yX1_wantedAfter, Cond.instanceMethod yX1_wantedAfter, Cond.selects RX1 yX1_wantedAfter yX1_wantedAfter, Cond.initialized RX1, Cond.code yX1_wantedAfter cX1_wantedAfter 3 (some .int), Cond.methodLink RX1 27 yX1_colourAt, Cond.instanceMethod yX1_colourAt, Cond.selects RX1 yX1_colourAt yX1_colourAt, Cond.code yX1_colourAt cX1_colourAt 2 (some .int), Cond.fieldLink RX1 9 "KnitChronicle$Pad" "signs" "[I", Cond.static yX5_at, Cond.initialized RX5, Cond.code yX5_at cX5_at 2 (some .int), Cond.static yX5_isBelow, Cond.code yX5_isBelow cX5_isBelow 2 (some .boolean), Cond.methodLink RX1 35 yX1_stitchAt, Cond.instanceMethod yX1_stitchAt, Cond.selects RX1 yX1_stitchAt yX1_stitchAt, Cond.code yX1_stitchAt cX1_stitchAt 2 (some .int), Cond.methodLink RX1 38 yX1_knitterAt, Cond.instanceMethod yX1_knitterAt, Cond.selects RX1 yX1_knitterAt yX1_knitterAt, Cond.code yX1_knitterAt cX1_knitterAt 2 (some .int)]
def wsX1_firstFault_r2 : List Cond := [Cond.methodLink RX1 41 yX1_kindAt, Cond.instanceMethod yX1_kindAt, Cond.selects RX1 yX1_kindAt yX1_kindAt, Cond.code yX1_kindAt cX1_kindAt 2 (some .int), Cond.methodLink RX1 44 yX1_wantedBy, Cond.static yX1_wantedBy, Cond.code yX1_wantedBy cX1_wantedBy 1 (some .int)]
def wsX1_firstFault : List Cond := .code yX1_firstFault cX1_firstFault 3 (some .int) :: ((wsX1_firstFault_r1 ++ wsX1_firstFault_r2) ++ wsX10)
def wsX2_init : List Cond := .code yX2_init cX2_init 1 none :: ([.methodLink RX2 3 objectInit, .instanceMethod objectInit, .code objectInit ⟨#[0xb1]⟩ 1 none, .arrayClass .int, .fieldLink RX2 9 "KnitChronicle$Scarf" "colours" "[I", .fieldLink RX2 15 "KnitChronicle$Scarf" "tightnesses" "[I", .fieldLink RX2 18 "KnitChronicle$Scarf" "anchors" "[I"] ++ wsX20)
def wsX2_has : List Cond := .code yX2_has cX2_has 2 (some .boolean) :: ([.fieldLink RX2 21 "KnitChronicle$Scarf" "size" "I", .static yX5_isBelow, .initialized RX5, .code yX5_isBelow cX5_isBelow 2 (some .boolean)] ++ wsX20)
def wsX2_hasAll : List Cond := .code yX2_hasAll cX2_hasAll 2 (some .boolean) :: ([.fieldLink RX2 21 "KnitChronicle$Scarf" "size" "I"] ++ wsX20)
def wsX2_isFull : List Cond := .code yX2_isFull cX2_isFull 1 (some .boolean) :: ([.fieldLink RX2 21 "KnitChronicle$Scarf" "size" "I"] ++ wsX20)
def wsX2_isEaten : List Cond := .code yX2_isEaten cX2_isEaten 2 (some .boolean) :: ([.fieldLink RX2 29 "KnitChronicle$Scarf" "eaten" "I", .static yX5_isIn, .initialized RX5, .code yX5_isIn cX5_isIn 2 (some .boolean)] ++ wsX20)
def wsX2_trait : List Cond := .code yX2_trait cX2_trait 4 (some .int) :: ([.fieldLink RX2 9 "KnitChronicle$Scarf" "colours" "[I", .fieldLink RX2 15 "KnitChronicle$Scarf" "tightnesses" "[I", .fieldLink RX2 18 "KnitChronicle$Scarf" "anchors" "[I", .static yX5_at, .initialized RX5, .code yX5_at cX5_at 2 (some .int)] ++ wsX20)
def wsX2_clear : List Cond := .code yX2_clear cX2_clear 1 none :: ([.fieldLink RX2 21 "KnitChronicle$Scarf" "size" "I", .fieldLink RX2 29 "KnitChronicle$Scarf" "eaten" "I"] ++ wsX20)
def wsX2_copy : List Cond := .code yX2_copy cX2_copy 3 none :: ([.fieldLink RX2 21 "KnitChronicle$Scarf" "size" "I", .fieldLink RX2 29 "KnitChronicle$Scarf" "eaten" "I", .fieldLink RX2 9 "KnitChronicle$Scarf" "colours" "[I", .fieldLink RX2 15 "KnitChronicle$Scarf" "tightnesses" "[I", .fieldLink RX2 18 "KnitChronicle$Scarf" "anchors" "[I", .static yX5_at, .initialized RX5, .code yX5_at cX5_at 2 (some .int), .static yX5_put, .code yX5_put cX5_put 3 none] ++ wsX20)
def wsX2_append : List Cond := .code yX2_append cX2_append 4 none :: ([.fieldLink RX2 9 "KnitChronicle$Scarf" "colours" "[I", .fieldLink RX2 21 "KnitChronicle$Scarf" "size" "I", .fieldLink RX2 15 "KnitChronicle$Scarf" "tightnesses" "[I", .fieldLink RX2 18 "KnitChronicle$Scarf" "anchors" "[I", .static yX5_put, .initialized RX5, .code yX5_put cX5_put 3 none] ++ wsX20)
def wsX2_lastWholeOf : List Cond := .code yX2_lastWholeOf cX2_lastWholeOf 3 (some .int) :: ([.fieldLink RX2 21 "KnitChronicle$Scarf" "size" "I", .fieldLink RX2 9 "KnitChronicle$Scarf" "colours" "[I", .fieldLink RX2 29 "KnitChronicle$Scarf" "eaten" "I", .static yX5_at, .initialized RX5, .code yX5_at cX5_at 2 (some .int), .static yX5_isIn, .code yX5_isIn cX5_isIn 2 (some .boolean)] ++ wsX20)
def wsX2_knit : List Cond := .code yX2_knit cX2_knit 3 none :: ([.methodLink RX2 43 yX2_lastWholeOf, .instanceMethod yX2_lastWholeOf, .selects RX2 yX2_lastWholeOf yX2_lastWholeOf, .initialized RX2, .code yX2_lastWholeOf cX2_lastWholeOf 3 (some .int), .fieldLink RX2 21 "KnitChronicle$Scarf" "size" "I", .fieldLink RX2 9 "KnitChronicle$Scarf" "colours" "[I", .fieldLink RX2 29 "KnitChronicle$Scarf" "eaten" "I", .static yX5_at, .initialized RX5, .code yX5_at cX5_at 2 (some .int), .static yX5_isIn, .code yX5_isIn cX5_isIn 2 (some .boolean), .methodLink RX2 47 yX2_append, .instanceMethod yX2_append, .selects RX2 yX2_append yX2_append, .code yX2_append cX2_append 4 none, .fieldLink RX2 15 "KnitChronicle$Scarf" "tightnesses" "[I", .fieldLink RX2 18 "KnitChronicle$Scarf" "anchors" "[I", .static yX5_put, .code yX5_put cX5_put 3 none] ++ wsX20)
def wsX2_eat : List Cond := .code yX2_eat cX2_eat 2 none :: ([.fieldLink RX2 29 "KnitChronicle$Scarf" "eaten" "I"] ++ wsX20)
def wsX2_mend : List Cond := .code yX2_mend cX2_mend 3 none :: ([.fieldLink RX2 29 "KnitChronicle$Scarf" "eaten" "I", .fieldLink RX2 15 "KnitChronicle$Scarf" "tightnesses" "[I", .static yX5_put, .initialized RX5, .code yX5_put cX5_put 3 none] ++ wsX20)
def wsX2_undoneWith : List Cond := .code yX2_undoneWith cX2_undoneWith 4 (some .int) :: ([.fieldLink RX2 21 "KnitChronicle$Scarf" "size" "I", .fieldLink RX2 18 "KnitChronicle$Scarf" "anchors" "[I", .static yX5_at, .initialized RX5, .code yX5_at cX5_at 2 (some .int), .static yX5_isIn, .code yX5_isIn cX5_isIn 2 (some .boolean)] ++ wsX20)
def wsJ6_bitCount_0f7a4 : List Cond := .code yJ6_bitCount_0f7a4 cJ6_bitCount_0f7a4 1 (some .int) :: ([.constant RJ6 265 (1431655765), .constant RJ6 266 (858993459), .constant RJ6 267 (252645135)])
def wsX2_closedUp : List Cond := .code yX2_closedUp cX2_closedUp 2 (some .int) :: ([.methodLink RX2 62 yJ6_bitCount_0f7a4, .static yJ6_bitCount_0f7a4, .initialized RJ6, .code yJ6_bitCount_0f7a4 cJ6_bitCount_0f7a4 1 (some .int), .constant RJ6 265 (1431655765), .constant RJ6 266 (858993459), .constant RJ6 267 (252645135)])
def wsX2_unpick_r1 : List Cond := [Cond.fieldLink RX2 21 "KnitChronicle$Scarf" "size" "I", Cond.fieldLink RX2 9 "KnitChronicle$Scarf" "colours" "[I", Cond.fieldLink RX2 15 "KnitChronicle$Scarf" "tightnesses" "[I", Cond.fieldLink RX2 18 "KnitChronicle$Scarf" "anchors" "[I", Cond.fieldLink RX2 29 "KnitChronicle$Scarf" "eaten" "I", Cond.methodLink RX2 51 yX2_undoneWith, Cond.instanceMethod yX2_undoneWith, Cond.selects RX2 yX2_undoneWith yX2_undoneWith, Cond.initialized RX2, Cond.code yX2_undoneWith cX2_undoneWith 4 (some .int), Cond.static yX5_at, Cond.initialized RX5, Cond.code yX5_at cX5_at 2 (some .int), Cond.static yX5_isIn, Cond.code yX5_isIn cX5_isIn 2 (some .boolean), Cond.static yX5_put, Cond.code yX5_put cX5_put 3 none, Cond.methodLink RX2 54 yX2_closedUp, Cond.static yX2_closedUp, Cond.code yX2_closedUp cX2_closedUp 2 (some .int), Cond.methodLink RX2 62 yJ6_bitCount_0f7a4, Cond.static yJ6_bitCount_0f7a4, Cond.initialized RJ6, Cond.code yJ6_bitCount_0f7a4 cJ6_bitCount_0f7a4 1 (some .int)]
def wsX2_unpick_r2 : List Cond := [Cond.constant RJ6 265 (1431655765), Cond.constant RJ6 266 (858993459), Cond.constant RJ6 267 (252645135), Cond.methodLink RX2 58 yX2_isEaten, Cond.instanceMethod yX2_isEaten, Cond.selects RX2 yX2_isEaten yX2_isEaten, Cond.code yX2_isEaten cX2_isEaten 2 (some .boolean)]
def wsX2_unpick : List Cond := .code yX2_unpick cX2_unpick 6 (some .int) :: ((wsX2_unpick_r1 ++ wsX2_unpick_r2) ++ wsX20)
def wsX2_looseOnes : List Cond := .code yX2_looseOnes cX2_looseOnes 3 (some .int) :: ([.fieldLink RX2 21 "KnitChronicle$Scarf" "size" "I", .fieldLink RX2 29 "KnitChronicle$Scarf" "eaten" "I", .fieldLink RX2 18 "KnitChronicle$Scarf" "anchors" "[I", .static yX5_at, .initialized RX5, .code yX5_at cX5_at 2 (some .int), .static yX5_isIn, .code yX5_isIn cX5_isIn 2 (some .boolean)] ++ wsX20)
def wsX2_withAnchors : List Cond := .code yX2_withAnchors cX2_withAnchors 5 (some .int) :: ([.fieldLink RX2 21 "KnitChronicle$Scarf" "size" "I", .fieldLink RX2 18 "KnitChronicle$Scarf" "anchors" "[I", .static yX5_at, .initialized RX5, .code yX5_at cX5_at 2 (some .int), .static yX5_isIn, .code yX5_isIn cX5_isIn 2 (some .boolean)] ++ wsX20)
def wsX2_topOf : List Cond := .code yX2_topOf cX2_topOf 5 (some .int) :: ([.fieldLink RX2 18 "KnitChronicle$Scarf" "anchors" "[I", .static yX5_at, .initialized RX5, .code yX5_at cX5_at 2 (some .int), .static yX5_isIn, .code yX5_isIn cX5_isIn 2 (some .boolean)] ++ wsX20)
def wsX2_topmostBelow : List Cond := .code yX2_topmostBelow cX2_topmostBelow 5 (some .int) :: ([.fieldLink RX2 21 "KnitChronicle$Scarf" "size" "I", .static yX5_isIn, .initialized RX5, .code yX5_isIn cX5_isIn 2 (some .boolean), .methodLink RX2 67 yX2_topOf, .instanceMethod yX2_topOf, .selects RX2 yX2_topOf yX2_topOf, .initialized RX2, .code yX2_topOf cX2_topOf 5 (some .int), .fieldLink RX2 18 "KnitChronicle$Scarf" "anchors" "[I", .static yX5_at, .code yX5_at cX5_at 2 (some .int)] ++ wsX20)
def wsX2_areAlike : List Cond := .code yX2_areAlike cX2_areAlike 4 (some .boolean) :: ([.methodLink RX2 58 yX2_isEaten, .instanceMethod yX2_isEaten, .selects RX2 yX2_isEaten yX2_isEaten, .initialized RX2, .code yX2_isEaten cX2_isEaten 2 (some .boolean), .fieldLink RX2 29 "KnitChronicle$Scarf" "eaten" "I", .static yX5_isIn, .initialized RX5, .code yX5_isIn cX5_isIn 2 (some .boolean)] ++ wsX20)
def wsX2_repeatsBy : List Cond := .code yX2_repeatsBy cX2_repeatsBy 4 (some .boolean) :: ([.fieldLink RX2 21 "KnitChronicle$Scarf" "size" "I", .fieldLink RX2 9 "KnitChronicle$Scarf" "colours" "[I", .methodLink RX2 73 yX2_areAlike, .instanceMethod yX2_areAlike, .selects RX2 yX2_areAlike yX2_areAlike, .initialized RX2, .code yX2_areAlike cX2_areAlike 4 (some .boolean), .methodLink RX2 58 yX2_isEaten, .instanceMethod yX2_isEaten, .selects RX2 yX2_isEaten yX2_isEaten, .code yX2_isEaten cX2_isEaten 2 (some .boolean), .fieldLink RX2 29 "KnitChronicle$Scarf" "eaten" "I", .static yX5_isIn, .initialized RX5, .code yX5_isIn cX5_isIn 2 (some .boolean), .static yX5_at, .code yX5_at cX5_at 2 (some .int)] ++ wsX20)
def wsX2_shortestPattern : List Cond := .code yX2_shortestPattern cX2_shortestPattern 2 (some .int) :: ([.fieldLink RX2 21 "KnitChronicle$Scarf" "size" "I", .methodLink RX2 70 yX2_repeatsBy, .instanceMethod yX2_repeatsBy, .selects RX2 yX2_repeatsBy yX2_repeatsBy, .initialized RX2, .code yX2_repeatsBy cX2_repeatsBy 4 (some .boolean), .fieldLink RX2 9 "KnitChronicle$Scarf" "colours" "[I", .methodLink RX2 73 yX2_areAlike, .instanceMethod yX2_areAlike, .selects RX2 yX2_areAlike yX2_areAlike, .code yX2_areAlike cX2_areAlike 4 (some .boolean), .methodLink RX2 58 yX2_isEaten, .instanceMethod yX2_isEaten, .selects RX2 yX2_isEaten yX2_isEaten, .code yX2_isEaten cX2_isEaten 2 (some .boolean), .fieldLink RX2 29 "KnitChronicle$Scarf" "eaten" "I", .static yX5_isIn, .initialized RX5, .code yX5_isIn cX5_isIn 2 (some .boolean), .static yX5_at, .code yX5_at cX5_at 2 (some .int)] ++ wsX20)
def wsX2_coloursOfHole_r1 : List Cond := [Cond.fieldLink RX2 21 "KnitChronicle$Scarf" "size" "I", Cond.fieldLink RX2 9 "KnitChronicle$Scarf" "colours" "[I", Cond.methodLink RX2 77 yX2_shortestPattern, Cond.instanceMethod yX2_shortestPattern, Cond.selects RX2 yX2_shortestPattern yX2_shortestPattern, Cond.initialized RX2, Cond.code yX2_shortestPattern cX2_shortestPattern 2 (some .int), Cond.methodLink RX2 70 yX2_repeatsBy, Cond.instanceMethod yX2_repeatsBy, Cond.selects RX2 yX2_repeatsBy yX2_repeatsBy, Cond.code yX2_repeatsBy cX2_repeatsBy 4 (some .boolean), Cond.methodLink RX2 73 yX2_areAlike, Cond.instanceMethod yX2_areAlike, Cond.selects RX2 yX2_areAlike yX2_areAlike, Cond.code yX2_areAlike cX2_areAlike 4 (some .boolean), Cond.methodLink RX2 58 yX2_isEaten, Cond.instanceMethod yX2_isEaten, Cond.selects RX2 yX2_isEaten yX2_isEaten, Cond.code yX2_isEaten cX2_isEaten 2 (some .boolean), Cond.fieldLink RX2 29 "KnitChronicle$Scarf" "eaten" "I", Cond.static yX5_isIn, Cond.initialized RX5, Cond.code yX5_isIn cX5_isIn 2 (some .boolean), Cond.static yX5_at]
def wsX2_coloursOfHole_r2 : List Cond := [Cond.code yX5_at cX5_at 2 (some .int)]
def wsX2_coloursOfHole : List Cond := .code yX2_coloursOfHole cX2_coloursOfHole 4 (some .int) :: ((wsX2_coloursOfHole_r1 ++ wsX2_coloursOfHole_r2) ++ wsX20)
def wsX2_tightnessFrom : List Cond := .code yX2_tightnessFrom cX2_tightnessFrom 4 (some .int) :: ([.fieldLink RX2 21 "KnitChronicle$Scarf" "size" "I", .fieldLink RX2 15 "KnitChronicle$Scarf" "tightnesses" "[I", .static yX5_at, .initialized RX5, .code yX5_at cX5_at 2 (some .int)] ++ wsX20)
def wsX2_stretchesFrom : List Cond := .code yX2_stretchesFrom cX2_stretchesFrom 7 (some .int) :: ([.fieldLink RX2 21 "KnitChronicle$Scarf" "size" "I", .fieldLink RX2 15 "KnitChronicle$Scarf" "tightnesses" "[I", .static yX5_at, .initialized RX5, .code yX5_at cX5_at 2 (some .int)] ++ wsX20)
def wsX3_init : List Cond := .code yX3_init cX3_init 1 none :: ([.methodLink RX3 3 objectInit, .instanceMethod objectInit, .code objectInit ⟨#[0xb1]⟩ 1 none, .classLink RX3 9 RX2, .instantiable RX2 5, .initialized RX2, .fieldLink RX3 12 "KnitChronicle$Town" "scarf" "LKnitChronicle$Scarf;", .arrayClass .int, .fieldLink RX3 18 "KnitChronicle$Town" "knitterTightness" "[I", .fieldLink RX3 22 "KnitChronicle$Town" "fitting" "I", .instanceMethod yX2_init, .code yX2_init cX2_init 1 none, .methodLink RX2 3 objectInit, .fieldLink RX2 9 "KnitChronicle$Scarf" "colours" "[I", .fieldLink RX2 15 "KnitChronicle$Scarf" "tightnesses" "[I", .fieldLink RX2 18 "KnitChronicle$Scarf" "anchors" "[I"] ++ wsX20 ++ wsX30)
def wsX3_forgetSights : List Cond := .code yX3_forgetSights cX3_forgetSights 1 none :: ([.fieldLink RX3 30 "KnitChronicle$Town" "sights" "I", .fieldLink RX3 22 "KnitChronicle$Town" "fitting" "I"] ++ wsX30)
def wsX3_copy : List Cond := .code yX3_copy cX3_copy 3 none :: ([.fieldLink RX3 12 "KnitChronicle$Town" "scarf" "LKnitChronicle$Scarf;", .fieldLink RX3 18 "KnitChronicle$Town" "knitterTightness" "[I", .fieldLink RX3 30 "KnitChronicle$Town" "sights" "I", .fieldLink RX3 22 "KnitChronicle$Town" "fitting" "I", .methodLink RX3 33 yX2_copy, .instanceMethod yX2_copy, .selects RX2 yX2_copy yX2_copy, .initialized RX2, .code yX2_copy cX2_copy 3 none, .fieldLink RX2 21 "KnitChronicle$Scarf" "size" "I", .fieldLink RX2 29 "KnitChronicle$Scarf" "eaten" "I", .fieldLink RX2 9 "KnitChronicle$Scarf" "colours" "[I", .fieldLink RX2 15 "KnitChronicle$Scarf" "tightnesses" "[I", .fieldLink RX2 18 "KnitChronicle$Scarf" "anchors" "[I", .static yX5_at, .initialized RX5, .code yX5_at cX5_at 2 (some .int), .static yX5_put, .code yX5_put cX5_put 3 none, .methodLink RX3 37 yX3_tightnessOf, .instanceMethod yX3_tightnessOf, .selects RX3 yX3_tightnessOf yX3_tightnessOf, .initialized RX3, .code yX3_tightnessOf cX3_tightnessOf 2 (some .int)] ++ wsX30 ++ wsX20)
def wsX4_init : List Cond := .code yX4_init cX4_init 1 none :: ([.methodLink RX4 3 objectInit, .instanceMethod objectInit, .code objectInit ⟨#[0xb1]⟩ 1 none, .classLink RX4 9 RX2, .instantiable RX2 5, .initialized RX2, .fieldLink RX4 12 "KnitChronicle$Trial" "scarf" "LKnitChronicle$Scarf;", .instanceMethod yX2_init, .code yX2_init cX2_init 1 none, .methodLink RX2 3 objectInit, .arrayClass .int, .fieldLink RX2 9 "KnitChronicle$Scarf" "colours" "[I", .fieldLink RX2 15 "KnitChronicle$Scarf" "tightnesses" "[I", .fieldLink RX2 18 "KnitChronicle$Scarf" "anchors" "[I"] ++ wsX20 ++ wsX40)
def wsX4_begin : List Cond := .code yX4_begin cX4_begin 2 none :: ([.fieldLink RX4 12 "KnitChronicle$Trial" "scarf" "LKnitChronicle$Scarf;", .fieldLink RX4 22 "KnitChronicle$Trial" "acts" "I", .fieldLink RX4 26 "KnitChronicle$Trial" "reason" "I", .fieldLink RX4 29 "KnitChronicle$Trial" "mostUndone" "I", .fieldLink RX4 32 "KnitChronicle$Trial" "allUndone" "I", .methodLink RX4 18 yX2_copy, .instanceMethod yX2_copy, .selects RX2 yX2_copy yX2_copy, .initialized RX2, .code yX2_copy cX2_copy 3 none, .fieldLink RX2 21 "KnitChronicle$Scarf" "size" "I", .fieldLink RX2 29 "KnitChronicle$Scarf" "eaten" "I", .fieldLink RX2 9 "KnitChronicle$Scarf" "colours" "[I", .fieldLink RX2 15 "KnitChronicle$Scarf" "tightnesses" "[I", .fieldLink RX2 18 "KnitChronicle$Scarf" "anchors" "[I", .static yX5_at, .initialized RX5, .code yX5_at cX5_at 2 (some .int), .static yX5_put, .code yX5_put cX5_put 3 none] ++ wsX40 ++ wsX20)
def wsX4_reasonAgainst : List Cond := .code yX4_reasonAgainst cX4_reasonAgainst 3 (some .int) :: ([.fieldLink RX4 12 "KnitChronicle$Trial" "scarf" "LKnitChronicle$Scarf;", .methodLink RX4 57 yX2_isFull, .instanceMethod yX2_isFull, .selects RX2 yX2_isFull yX2_isFull, .initialized RX2, .code yX2_isFull cX2_isFull 1 (some .boolean), .fieldLink RX2 21 "KnitChronicle$Scarf" "size" "I", .methodLink RX4 61 yX2_has, .instanceMethod yX2_has, .selects RX2 yX2_has yX2_has, .code yX2_has cX2_has 2 (some .boolean), .static yX5_isBelow, .initialized RX5, .code yX5_isBelow cX5_isBelow 2 (some .boolean), .methodLink RX4 65 yX2_isEaten, .instanceMethod yX2_isEaten, .selects RX2 yX2_isEaten yX2_isEaten, .code yX2_isEaten cX2_isEaten 2 (some .boolean), .fieldLink RX2 29 "KnitChronicle$Scarf" "eaten" "I", .static yX5_isIn, .code yX5_isIn cX5_isIn 2 (some .boolean)] ++ wsX40 ++ wsX20)
def wsX4_countUndone : List Cond := .code yX4_countUndone cX4_countUndone 2 none :: ([.fieldLink RX4 29 "KnitChronicle$Trial" "mostUndone" "I", .methodLink RX4 68 Lib.Math.max.name, .static Lib.Math.max.name, .initialized "java/lang/Math", .code Lib.Math.max.name Lib.Math.max.code 2 (some .int), .fieldLink RX4 32 "KnitChronicle$Trial" "allUndone" "I"] ++ wsX40)
def wsX4_act_r1 : List Cond := [Cond.fieldLink RX4 26 "KnitChronicle$Trial" "reason" "I", Cond.fieldLink RX4 22 "KnitChronicle$Trial" "acts" "I", Cond.fieldLink RX4 12 "KnitChronicle$Trial" "scarf" "LKnitChronicle$Scarf;", Cond.methodLink RX4 35 yX4_reasonAgainst, Cond.instanceMethod yX4_reasonAgainst, Cond.selects RX4 yX4_reasonAgainst yX4_reasonAgainst, Cond.initialized RX4, Cond.code yX4_reasonAgainst cX4_reasonAgainst 3 (some .int), Cond.methodLink RX4 57 yX2_isFull, Cond.instanceMethod yX2_isFull, Cond.selects RX2 yX2_isFull yX2_isFull, Cond.initialized RX2, Cond.code yX2_isFull cX2_isFull 1 (some .boolean), Cond.fieldLink RX2 21 "KnitChronicle$Scarf" "size" "I", Cond.methodLink RX4 61 yX2_has, Cond.instanceMethod yX2_has, Cond.selects RX2 yX2_has yX2_has, Cond.code yX2_has cX2_has 2 (some .boolean), Cond.static yX5_isBelow, Cond.initialized RX5, Cond.code yX5_isBelow cX5_isBelow 2 (some .boolean), Cond.methodLink RX4 65 yX2_isEaten, Cond.instanceMethod yX2_isEaten, Cond.selects RX2 yX2_isEaten yX2_isEaten]
def wsX4_act_r2 : List Cond := [Cond.code yX2_isEaten cX2_isEaten 2 (some .boolean), Cond.fieldLink RX2 29 "KnitChronicle$Scarf" "eaten" "I", Cond.static yX5_isIn, Cond.code yX5_isIn cX5_isIn 2 (some .boolean), Cond.methodLink RX4 39 yX2_unpick, Cond.instanceMethod yX2_unpick, Cond.selects RX2 yX2_unpick yX2_unpick, Cond.code yX2_unpick cX2_unpick 6 (some .int), Cond.fieldLink RX2 9 "KnitChronicle$Scarf" "colours" "[I", Cond.fieldLink RX2 15 "KnitChronicle$Scarf" "tightnesses" "[I", Cond.fieldLink RX2 18 "KnitChronicle$Scarf" "anchors" "[I", Cond.methodLink RX2 51 yX2_undoneWith, Cond.instanceMethod yX2_undoneWith, Cond.selects RX2 yX2_undoneWith yX2_undoneWith, Cond.code yX2_undoneWith cX2_undoneWith 4 (some .int), Cond.static yX5_at, Cond.code yX5_at cX5_at 2 (some .int), Cond.static yX5_put, Cond.code yX5_put cX5_put 3 none, Cond.methodLink RX2 54 yX2_closedUp, Cond.static yX2_closedUp, Cond.code yX2_closedUp cX2_closedUp 2 (some .int), Cond.methodLink RX2 62 yJ6_bitCount_0f7a4, Cond.static yJ6_bitCount_0f7a4]
def wsX4_act_r3 : List Cond := [Cond.initialized RJ6, Cond.code yJ6_bitCount_0f7a4 cJ6_bitCount_0f7a4 1 (some .int), Cond.constant RJ6 265 (1431655765), Cond.constant RJ6 266 (858993459), Cond.constant RJ6 267 (252645135), Cond.methodLink RX2 58 yX2_isEaten, Cond.methodLink RX4 43 yX4_countUndone, Cond.instanceMethod yX4_countUndone, Cond.selects RX4 yX4_countUndone yX4_countUndone, Cond.code yX4_countUndone cX4_countUndone 2 none, Cond.fieldLink RX4 29 "KnitChronicle$Trial" "mostUndone" "I", Cond.methodLink RX4 68 Lib.Math.max.name, Cond.static Lib.Math.max.name, Cond.initialized "java/lang/Math", Cond.code Lib.Math.max.name Lib.Math.max.code 2 (some .int), Cond.fieldLink RX4 32 "KnitChronicle$Trial" "allUndone" "I", Cond.methodLink RX4 47 yX2_eat, Cond.instanceMethod yX2_eat, Cond.selects RX2 yX2_eat yX2_eat, Cond.code yX2_eat cX2_eat 2 none, Cond.methodLink RX4 50 yX2_mend, Cond.instanceMethod yX2_mend, Cond.selects RX2 yX2_mend yX2_mend, Cond.code yX2_mend cX2_mend 3 none]
def wsX4_act_r4 : List Cond := [Cond.methodLink RX4 54 yX2_knit, Cond.instanceMethod yX2_knit, Cond.selects RX2 yX2_knit yX2_knit, Cond.code yX2_knit cX2_knit 3 none, Cond.methodLink RX2 43 yX2_lastWholeOf, Cond.instanceMethod yX2_lastWholeOf, Cond.selects RX2 yX2_lastWholeOf yX2_lastWholeOf, Cond.code yX2_lastWholeOf cX2_lastWholeOf 3 (some .int), Cond.methodLink RX2 47 yX2_append, Cond.instanceMethod yX2_append, Cond.selects RX2 yX2_append yX2_append, Cond.code yX2_append cX2_append 4 none]
def wsX4_act : List Cond := .code yX4_act cX4_act 5 (some .boolean) :: ((wsX4_act_r1 ++ (wsX4_act_r2 ++ (wsX4_act_r3 ++ wsX4_act_r4))) ++ wsX40 ++ wsX20)
def wsX5_init_r1 : List Cond := [Cond.methodLink RX5 1 objectInit, Cond.instanceMethod objectInit, Cond.code objectInit ⟨#[0xb1]⟩ 1 none, Cond.classLink RX5 7 RX3, Cond.instantiable RX3 4, Cond.initialized RX3, Cond.fieldLink RX5 10 "KnitChronicle" "town" "LKnitChronicle$Town;", Cond.fieldLink RX5 16 "KnitChronicle" "firstImage" "LKnitChronicle$Town;", Cond.fieldLink RX5 19 "KnitChronicle" "secondImage" "LKnitChronicle$Town;", Cond.classLink RX5 22 RX1, Cond.instantiable RX1 2, Cond.initialized RX1, Cond.fieldLink RX5 25 "KnitChronicle" "pad" "LKnitChronicle$Pad;", Cond.classLink RX5 29 RX4, Cond.instantiable RX4 5, Cond.initialized RX4, Cond.fieldLink RX5 32 "KnitChronicle" "trial" "LKnitChronicle$Trial;", Cond.classLink RX5 36 RX0, Cond.instantiable RX0 1, Cond.initialized RX0, Cond.fieldLink RX5 39 "KnitChronicle" "handChanges" "LKnitChronicle$HandChanges;", Cond.arrayClass .int, Cond.fieldLink RX5 43 "KnitChronicle" "sharedColours" "[I", Cond.instanceMethod yX3_init]
def wsX5_init_r2 : List Cond := [Cond.code yX3_init cX3_init 1 none, Cond.methodLink RX3 3 objectInit, Cond.classLink RX3 9 RX2, Cond.instantiable RX2 5, Cond.initialized RX2, Cond.fieldLink RX3 12 "KnitChronicle$Town" "scarf" "LKnitChronicle$Scarf;", Cond.fieldLink RX3 18 "KnitChronicle$Town" "knitterTightness" "[I", Cond.fieldLink RX3 22 "KnitChronicle$Town" "fitting" "I", Cond.instanceMethod yX2_init, Cond.code yX2_init cX2_init 1 none, Cond.methodLink RX2 3 objectInit, Cond.fieldLink RX2 9 "KnitChronicle$Scarf" "colours" "[I", Cond.fieldLink RX2 15 "KnitChronicle$Scarf" "tightnesses" "[I", Cond.fieldLink RX2 18 "KnitChronicle$Scarf" "anchors" "[I", Cond.instanceMethod yX1_init, Cond.code yX1_init cX1_init 1 none, Cond.methodLink RX1 3 objectInit, Cond.fieldLink RX1 9 "KnitChronicle$Pad" "signs" "[I", Cond.instanceMethod yX4_init, Cond.code yX4_init cX4_init 1 none, Cond.methodLink RX4 3 objectInit, Cond.classLink RX4 9 RX2, Cond.fieldLink RX4 12 "KnitChronicle$Trial" "scarf" "LKnitChronicle$Scarf;", Cond.instanceMethod yX0_init]
def wsX5_init_r3 : List Cond := [Cond.code yX0_init cX0_init 1 none, Cond.methodLink RX0 3 objectInit, Cond.fieldLink RX0 9 "KnitChronicle$HandChanges" "changes" "[I"]
def wsX5_init : List Cond := .code yX5_init cX5_init 1 none :: ((wsX5_init_r1 ++ (wsX5_init_r2 ++ wsX5_init_r3)) ++ wsX30 ++ wsX50 ++ wsX10 ++ wsX40 ++ wsX00 ++ wsX20)
def wsX5_stitch_r1 : List Cond := [Cond.fieldLink RX5 10 "KnitChronicle" "town" "LKnitChronicle$Town;", Cond.fieldLink RX5 47 "KnitChronicle$Town" "scarf" "LKnitChronicle$Scarf;", Cond.fieldLink RX5 69 "KnitChronicle$Scarf" "size" "I", Cond.methodLink RX5 51 yX2_has, Cond.instanceMethod yX2_has, Cond.selects RX2 yX2_has yX2_has, Cond.initialized RX2, Cond.code yX2_has cX2_has 2 (some .boolean), Cond.fieldLink RX2 21 "KnitChronicle$Scarf" "size" "I", Cond.static yX5_isBelow, Cond.initialized RX5, Cond.code yX5_isBelow cX5_isBelow 2 (some .boolean), Cond.methodLink RX5 57 yX5_isBelow, Cond.methodLink RX5 61 yX2_isFull, Cond.instanceMethod yX2_isFull, Cond.selects RX2 yX2_isFull yX2_isFull, Cond.code yX2_isFull cX2_isFull 1 (some .boolean), Cond.methodLink RX5 65 yX2_append, Cond.instanceMethod yX2_append, Cond.selects RX2 yX2_append yX2_append, Cond.code yX2_append cX2_append 4 none, Cond.fieldLink RX2 9 "KnitChronicle$Scarf" "colours" "[I", Cond.fieldLink RX2 15 "KnitChronicle$Scarf" "tightnesses" "[I", Cond.fieldLink RX2 18 "KnitChronicle$Scarf" "anchors" "[I"]
def wsX5_stitch_r2 : List Cond := [Cond.static yX5_put, Cond.code yX5_put cX5_put 3 none]
def wsX5_stitch : List Cond := .code yX5_stitch cX5_stitch 5 (some .int) :: ((wsX5_stitch_r1 ++ wsX5_stitch_r2) ++ wsX50 ++ wsX30 ++ wsX20)
def wsX5_cast : List Cond := .code yX5_cast cX5_cast 2 (some .int) :: ([.fieldLink RX5 10 "KnitChronicle" "town" "LKnitChronicle$Town;", .fieldLink RX5 47 "KnitChronicle$Town" "scarf" "LKnitChronicle$Scarf;", .fieldLink RX5 69 "KnitChronicle$Scarf" "size" "I", .methodLink RX5 73 yX2_clear, .instanceMethod yX2_clear, .selects RX2 yX2_clear yX2_clear, .initialized RX2, .code yX2_clear cX2_clear 1 none, .fieldLink RX2 21 "KnitChronicle$Scarf" "size" "I", .fieldLink RX2 29 "KnitChronicle$Scarf" "eaten" "I"] ++ wsX50 ++ wsX30 ++ wsX20)
def wsX5_knitter : List Cond := .code yX5_knitter cX5_knitter 4 (some .int) :: ([.fieldLink RX5 10 "KnitChronicle" "town" "LKnitChronicle$Town;", .fieldLink RX5 80 "KnitChronicle$Town" "knitterTightness" "[I", .methodLink RX5 57 yX5_isBelow, .static yX5_isBelow, .initialized RX5, .code yX5_isBelow cX5_isBelow 2 (some .boolean), .methodLink RX5 76 yX3_tightnessOf, .instanceMethod yX3_tightnessOf, .selects RX3 yX3_tightnessOf yX3_tightnessOf, .initialized RX3, .code yX3_tightnessOf cX3_tightnessOf 2 (some .int), .fieldLink RX3 18 "KnitChronicle$Town" "knitterTightness" "[I", .static yX5_at, .code yX5_at cX5_at 2 (some .int), .methodLink RX5 83 yX5_put, .static yX5_put, .code yX5_put cX5_put 3 none] ++ wsX50 ++ wsX30)
def wsX5_say : List Cond := .code yX5_say cX5_say 2 (some .int) :: ([.fieldLink RX5 25 "KnitChronicle" "pad" "LKnitChronicle$Pad;", .fieldLink RX5 87 "KnitChronicle$Pad" "length" "I", .methodLink RX5 90 yX1_append, .instanceMethod yX1_append, .selects RX1 yX1_append yX1_append, .initialized RX1, .code yX1_append cX1_append 2 none, .fieldLink RX1 9 "KnitChronicle$Pad" "signs" "[I", .fieldLink RX1 15 "KnitChronicle$Pad" "length" "I", .static yX5_put, .initialized RX5, .code yX5_put cX5_put 3 none] ++ wsX50 ++ wsX10)
def wsX5_wipe : List Cond := .code yX5_wipe cX5_wipe 2 (some .int) :: ([.fieldLink RX5 25 "KnitChronicle" "pad" "LKnitChronicle$Pad;", .fieldLink RX5 87 "KnitChronicle$Pad" "length" "I"] ++ wsX50 ++ wsX10)
def wsX5_fault_r1 : List Cond := [Cond.fieldLink RX5 25 "KnitChronicle" "pad" "LKnitChronicle$Pad;", Cond.methodLink RX5 93 yX1_firstFault, Cond.instanceMethod yX1_firstFault, Cond.selects RX1 yX1_firstFault yX1_firstFault, Cond.initialized RX1, Cond.code yX1_firstFault cX1_firstFault 3 (some .int), Cond.fieldLink RX1 15 "KnitChronicle$Pad" "length" "I", Cond.methodLink RX1 23 yX1_wantedAfter, Cond.instanceMethod yX1_wantedAfter, Cond.selects RX1 yX1_wantedAfter yX1_wantedAfter, Cond.code yX1_wantedAfter cX1_wantedAfter 3 (some .int), Cond.methodLink RX1 27 yX1_colourAt, Cond.instanceMethod yX1_colourAt, Cond.selects RX1 yX1_colourAt yX1_colourAt, Cond.code yX1_colourAt cX1_colourAt 2 (some .int), Cond.fieldLink RX1 9 "KnitChronicle$Pad" "signs" "[I", Cond.static yX5_at, Cond.initialized RX5, Cond.code yX5_at cX5_at 2 (some .int), Cond.static yX5_isBelow, Cond.code yX5_isBelow cX5_isBelow 2 (some .boolean), Cond.methodLink RX1 35 yX1_stitchAt, Cond.instanceMethod yX1_stitchAt, Cond.selects RX1 yX1_stitchAt yX1_stitchAt]
def wsX5_fault_r2 : List Cond := [Cond.code yX1_stitchAt cX1_stitchAt 2 (some .int), Cond.methodLink RX1 38 yX1_knitterAt, Cond.instanceMethod yX1_knitterAt, Cond.selects RX1 yX1_knitterAt yX1_knitterAt, Cond.code yX1_knitterAt cX1_knitterAt 2 (some .int), Cond.methodLink RX1 41 yX1_kindAt, Cond.instanceMethod yX1_kindAt, Cond.selects RX1 yX1_kindAt yX1_kindAt, Cond.code yX1_kindAt cX1_kindAt 2 (some .int), Cond.methodLink RX1 44 yX1_wantedBy, Cond.static yX1_wantedBy, Cond.code yX1_wantedBy cX1_wantedBy 1 (some .int)]
def wsX5_fault : List Cond := .code yX5_fault cX5_fault 1 (some .int) :: ((wsX5_fault_r1 ++ wsX5_fault_r2) ++ wsX50 ++ wsX10)
def wsX5_tryWeeks_r1 : List Cond := [Cond.fieldLink RX5 32 "KnitChronicle" "trial" "LKnitChronicle$Trial;", Cond.fieldLink RX5 10 "KnitChronicle" "town" "LKnitChronicle$Town;", Cond.fieldLink RX5 47 "KnitChronicle$Town" "scarf" "LKnitChronicle$Scarf;", Cond.fieldLink RX5 25 "KnitChronicle" "pad" "LKnitChronicle$Pad;", Cond.fieldLink RX5 87 "KnitChronicle$Pad" "length" "I", Cond.methodLink RX5 127 yX4_begin, Cond.instanceMethod yX4_begin, Cond.selects RX4 yX4_begin yX4_begin, Cond.initialized RX4, Cond.code yX4_begin cX4_begin 2 none, Cond.fieldLink RX4 12 "KnitChronicle$Trial" "scarf" "LKnitChronicle$Scarf;", Cond.fieldLink RX4 22 "KnitChronicle$Trial" "acts" "I", Cond.fieldLink RX4 26 "KnitChronicle$Trial" "reason" "I", Cond.fieldLink RX4 29 "KnitChronicle$Trial" "mostUndone" "I", Cond.fieldLink RX4 32 "KnitChronicle$Trial" "allUndone" "I", Cond.methodLink RX4 18 yX2_copy, Cond.instanceMethod yX2_copy, Cond.selects RX2 yX2_copy yX2_copy, Cond.initialized RX2, Cond.code yX2_copy cX2_copy 3 none, Cond.fieldLink RX2 21 "KnitChronicle$Scarf" "size" "I", Cond.fieldLink RX2 29 "KnitChronicle$Scarf" "eaten" "I", Cond.fieldLink RX2 9 "KnitChronicle$Scarf" "colours" "[I", Cond.fieldLink RX2 15 "KnitChronicle$Scarf" "tightnesses" "[I"]
def wsX5_tryWeeks_r2 : List Cond := [Cond.fieldLink RX2 18 "KnitChronicle$Scarf" "anchors" "[I", Cond.static yX5_at, Cond.initialized RX5, Cond.code yX5_at cX5_at 2 (some .int), Cond.static yX5_put, Cond.code yX5_put cX5_put 3 none, Cond.methodLink RX5 130 yX1_kindAt, Cond.instanceMethod yX1_kindAt, Cond.selects RX1 yX1_kindAt yX1_kindAt, Cond.initialized RX1, Cond.code yX1_kindAt cX1_kindAt 2 (some .int), Cond.fieldLink RX1 9 "KnitChronicle$Pad" "signs" "[I", Cond.methodLink RX1 38 yX1_knitterAt, Cond.instanceMethod yX1_knitterAt, Cond.selects RX1 yX1_knitterAt yX1_knitterAt, Cond.code yX1_knitterAt cX1_knitterAt 2 (some .int), Cond.static yX5_isBelow, Cond.code yX5_isBelow cX5_isBelow 2 (some .boolean), Cond.methodLink RX5 133 yX1_stitchAt, Cond.instanceMethod yX1_stitchAt, Cond.selects RX1 yX1_stitchAt yX1_stitchAt, Cond.code yX1_stitchAt cX1_stitchAt 2 (some .int), Cond.methodLink RX5 136 yX1_colourAt, Cond.instanceMethod yX1_colourAt]
def wsX5_tryWeeks_r3 : List Cond := [Cond.selects RX1 yX1_colourAt yX1_colourAt, Cond.code yX1_colourAt cX1_colourAt 2 (some .int), Cond.methodLink RX5 139 yX1_knitterAt, Cond.methodLink RX5 76 yX3_tightnessOf, Cond.instanceMethod yX3_tightnessOf, Cond.selects RX3 yX3_tightnessOf yX3_tightnessOf, Cond.initialized RX3, Cond.code yX3_tightnessOf cX3_tightnessOf 2 (some .int), Cond.fieldLink RX3 18 "KnitChronicle$Town" "knitterTightness" "[I", Cond.methodLink RX5 142 yX4_act, Cond.instanceMethod yX4_act, Cond.selects RX4 yX4_act yX4_act, Cond.code yX4_act cX4_act 5 (some .boolean), Cond.methodLink RX4 35 yX4_reasonAgainst, Cond.instanceMethod yX4_reasonAgainst, Cond.selects RX4 yX4_reasonAgainst yX4_reasonAgainst, Cond.code yX4_reasonAgainst cX4_reasonAgainst 3 (some .int), Cond.methodLink RX4 57 yX2_isFull, Cond.instanceMethod yX2_isFull, Cond.selects RX2 yX2_isFull yX2_isFull, Cond.code yX2_isFull cX2_isFull 1 (some .boolean), Cond.methodLink RX4 61 yX2_has, Cond.instanceMethod yX2_has, Cond.selects RX2 yX2_has yX2_has]
def wsX5_tryWeeks_r4 : List Cond := [Cond.code yX2_has cX2_has 2 (some .boolean), Cond.methodLink RX4 65 yX2_isEaten, Cond.instanceMethod yX2_isEaten, Cond.selects RX2 yX2_isEaten yX2_isEaten, Cond.code yX2_isEaten cX2_isEaten 2 (some .boolean), Cond.static yX5_isIn, Cond.code yX5_isIn cX5_isIn 2 (some .boolean), Cond.methodLink RX4 39 yX2_unpick, Cond.instanceMethod yX2_unpick, Cond.selects RX2 yX2_unpick yX2_unpick, Cond.code yX2_unpick cX2_unpick 6 (some .int), Cond.methodLink RX2 51 yX2_undoneWith, Cond.instanceMethod yX2_undoneWith, Cond.selects RX2 yX2_undoneWith yX2_undoneWith, Cond.code yX2_undoneWith cX2_undoneWith 4 (some .int), Cond.methodLink RX2 54 yX2_closedUp, Cond.static yX2_closedUp, Cond.code yX2_closedUp cX2_closedUp 2 (some .int), Cond.methodLink RX2 62 yJ6_bitCount_0f7a4, Cond.static yJ6_bitCount_0f7a4, Cond.initialized RJ6, Cond.code yJ6_bitCount_0f7a4 cJ6_bitCount_0f7a4 1 (some .int), Cond.constant RJ6 265 (1431655765), Cond.constant RJ6 266 (858993459)]
def wsX5_tryWeeks_r5 : List Cond := [Cond.constant RJ6 267 (252645135), Cond.methodLink RX2 58 yX2_isEaten, Cond.methodLink RX4 43 yX4_countUndone, Cond.instanceMethod yX4_countUndone, Cond.selects RX4 yX4_countUndone yX4_countUndone, Cond.code yX4_countUndone cX4_countUndone 2 none, Cond.methodLink RX4 68 Lib.Math.max.name, Cond.static Lib.Math.max.name, Cond.initialized "java/lang/Math", Cond.code Lib.Math.max.name Lib.Math.max.code 2 (some .int), Cond.methodLink RX4 47 yX2_eat, Cond.instanceMethod yX2_eat, Cond.selects RX2 yX2_eat yX2_eat, Cond.code yX2_eat cX2_eat 2 none, Cond.methodLink RX4 50 yX2_mend, Cond.instanceMethod yX2_mend, Cond.selects RX2 yX2_mend yX2_mend, Cond.code yX2_mend cX2_mend 3 none, Cond.methodLink RX4 54 yX2_knit, Cond.instanceMethod yX2_knit, Cond.selects RX2 yX2_knit yX2_knit, Cond.code yX2_knit cX2_knit 3 none, Cond.methodLink RX2 43 yX2_lastWholeOf, Cond.instanceMethod yX2_lastWholeOf]
def wsX5_tryWeeks_r6 : List Cond := [Cond.selects RX2 yX2_lastWholeOf yX2_lastWholeOf, Cond.code yX2_lastWholeOf cX2_lastWholeOf 3 (some .int), Cond.methodLink RX2 47 yX2_append, Cond.instanceMethod yX2_append, Cond.selects RX2 yX2_append yX2_append, Cond.code yX2_append cX2_append 4 none]
def wsX5_tryWeeks : List Cond := .code yX5_tryWeeks cX5_tryWeeks 6 (some .boolean) :: ((wsX5_tryWeeks_r1 ++ (wsX5_tryWeeks_r2 ++ (wsX5_tryWeeks_r3 ++ (wsX5_tryWeeks_r4 ++ (wsX5_tryWeeks_r5 ++ wsX5_tryWeeks_r6))))) ++ wsX50 ++ wsX30 ++ wsX10 ++ wsX40 ++ wsX20)
def wsX5_judge_r1 : List Cond := [Cond.fieldLink RX5 25 "KnitChronicle" "pad" "LKnitChronicle$Pad;", Cond.fieldLink RX5 32 "KnitChronicle" "trial" "LKnitChronicle$Trial;", Cond.fieldLink RX5 100 "KnitChronicle$Trial" "acts" "I", Cond.fieldLink RX5 103 "KnitChronicle$Trial" "reason" "I", Cond.methodLink RX5 57 yX5_isBelow, Cond.static yX5_isBelow, Cond.initialized RX5, Cond.code yX5_isBelow cX5_isBelow 2 (some .boolean), Cond.methodLink RX5 93 yX1_firstFault, Cond.instanceMethod yX1_firstFault, Cond.selects RX1 yX1_firstFault yX1_firstFault, Cond.initialized RX1, Cond.code yX1_firstFault cX1_firstFault 3 (some .int), Cond.fieldLink RX1 15 "KnitChronicle$Pad" "length" "I", Cond.methodLink RX1 23 yX1_wantedAfter, Cond.instanceMethod yX1_wantedAfter, Cond.selects RX1 yX1_wantedAfter yX1_wantedAfter, Cond.code yX1_wantedAfter cX1_wantedAfter 3 (some .int), Cond.methodLink RX1 27 yX1_colourAt, Cond.instanceMethod yX1_colourAt, Cond.selects RX1 yX1_colourAt yX1_colourAt, Cond.code yX1_colourAt cX1_colourAt 2 (some .int), Cond.fieldLink RX1 9 "KnitChronicle$Pad" "signs" "[I", Cond.static yX5_at]
def wsX5_judge_r2 : List Cond := [Cond.code yX5_at cX5_at 2 (some .int), Cond.methodLink RX1 35 yX1_stitchAt, Cond.instanceMethod yX1_stitchAt, Cond.selects RX1 yX1_stitchAt yX1_stitchAt, Cond.code yX1_stitchAt cX1_stitchAt 2 (some .int), Cond.methodLink RX1 38 yX1_knitterAt, Cond.instanceMethod yX1_knitterAt, Cond.selects RX1 yX1_knitterAt yX1_knitterAt, Cond.code yX1_knitterAt cX1_knitterAt 2 (some .int), Cond.methodLink RX1 41 yX1_kindAt, Cond.instanceMethod yX1_kindAt, Cond.selects RX1 yX1_kindAt yX1_kindAt, Cond.code yX1_kindAt cX1_kindAt 2 (some .int), Cond.methodLink RX1 44 yX1_wantedBy, Cond.static yX1_wantedBy, Cond.code yX1_wantedBy cX1_wantedBy 1 (some .int), Cond.methodLink RX5 97 yX5_tryWeeks, Cond.instanceMethod yX5_tryWeeks, Cond.selects RX5 yX5_tryWeeks yX5_tryWeeks, Cond.code yX5_tryWeeks cX5_tryWeeks 6 (some .boolean), Cond.fieldLink RX5 10 "KnitChronicle" "town" "LKnitChronicle$Town;", Cond.fieldLink RX5 47 "KnitChronicle$Town" "scarf" "LKnitChronicle$Scarf;", Cond.fieldLink RX5 87 "KnitChronicle$Pad" "length" "I", Cond.methodLink RX5 127 yX4_begin]
def wsX5_judge_r3 : List Cond := [Cond.instanceMethod yX4_begin, Cond.selects RX4 yX4_begin yX4_begin, Cond.initialized RX4, Cond.code yX4_begin cX4_begin 2 none, Cond.fieldLink RX4 12 "KnitChronicle$Trial" "scarf" "LKnitChronicle$Scarf;", Cond.fieldLink RX4 22 "KnitChronicle$Trial" "acts" "I", Cond.fieldLink RX4 26 "KnitChronicle$Trial" "reason" "I", Cond.fieldLink RX4 29 "KnitChronicle$Trial" "mostUndone" "I", Cond.fieldLink RX4 32 "KnitChronicle$Trial" "allUndone" "I", Cond.methodLink RX4 18 yX2_copy, Cond.instanceMethod yX2_copy, Cond.selects RX2 yX2_copy yX2_copy, Cond.initialized RX2, Cond.code yX2_copy cX2_copy 3 none, Cond.fieldLink RX2 21 "KnitChronicle$Scarf" "size" "I", Cond.fieldLink RX2 29 "KnitChronicle$Scarf" "eaten" "I", Cond.fieldLink RX2 9 "KnitChronicle$Scarf" "colours" "[I", Cond.fieldLink RX2 15 "KnitChronicle$Scarf" "tightnesses" "[I", Cond.fieldLink RX2 18 "KnitChronicle$Scarf" "anchors" "[I", Cond.static yX5_put, Cond.code yX5_put cX5_put 3 none, Cond.methodLink RX5 130 yX1_kindAt, Cond.methodLink RX5 133 yX1_stitchAt, Cond.methodLink RX5 136 yX1_colourAt]
def wsX5_judge_r4 : List Cond := [Cond.methodLink RX5 139 yX1_knitterAt, Cond.methodLink RX5 76 yX3_tightnessOf, Cond.instanceMethod yX3_tightnessOf, Cond.selects RX3 yX3_tightnessOf yX3_tightnessOf, Cond.initialized RX3, Cond.code yX3_tightnessOf cX3_tightnessOf 2 (some .int), Cond.fieldLink RX3 18 "KnitChronicle$Town" "knitterTightness" "[I", Cond.methodLink RX5 142 yX4_act, Cond.instanceMethod yX4_act, Cond.selects RX4 yX4_act yX4_act, Cond.code yX4_act cX4_act 5 (some .boolean), Cond.methodLink RX4 35 yX4_reasonAgainst, Cond.instanceMethod yX4_reasonAgainst, Cond.selects RX4 yX4_reasonAgainst yX4_reasonAgainst, Cond.code yX4_reasonAgainst cX4_reasonAgainst 3 (some .int), Cond.methodLink RX4 57 yX2_isFull, Cond.instanceMethod yX2_isFull, Cond.selects RX2 yX2_isFull yX2_isFull, Cond.code yX2_isFull cX2_isFull 1 (some .boolean), Cond.methodLink RX4 61 yX2_has, Cond.instanceMethod yX2_has, Cond.selects RX2 yX2_has yX2_has, Cond.code yX2_has cX2_has 2 (some .boolean), Cond.methodLink RX4 65 yX2_isEaten]
def wsX5_judge_r5 : List Cond := [Cond.instanceMethod yX2_isEaten, Cond.selects RX2 yX2_isEaten yX2_isEaten, Cond.code yX2_isEaten cX2_isEaten 2 (some .boolean), Cond.static yX5_isIn, Cond.code yX5_isIn cX5_isIn 2 (some .boolean), Cond.methodLink RX4 39 yX2_unpick, Cond.instanceMethod yX2_unpick, Cond.selects RX2 yX2_unpick yX2_unpick, Cond.code yX2_unpick cX2_unpick 6 (some .int), Cond.methodLink RX2 51 yX2_undoneWith, Cond.instanceMethod yX2_undoneWith, Cond.selects RX2 yX2_undoneWith yX2_undoneWith, Cond.code yX2_undoneWith cX2_undoneWith 4 (some .int), Cond.methodLink RX2 54 yX2_closedUp, Cond.static yX2_closedUp, Cond.code yX2_closedUp cX2_closedUp 2 (some .int), Cond.methodLink RX2 62 yJ6_bitCount_0f7a4, Cond.static yJ6_bitCount_0f7a4, Cond.initialized RJ6, Cond.code yJ6_bitCount_0f7a4 cJ6_bitCount_0f7a4 1 (some .int), Cond.constant RJ6 265 (1431655765), Cond.constant RJ6 266 (858993459), Cond.constant RJ6 267 (252645135), Cond.methodLink RX2 58 yX2_isEaten]
def wsX5_judge_r6 : List Cond := [Cond.methodLink RX4 43 yX4_countUndone, Cond.instanceMethod yX4_countUndone, Cond.selects RX4 yX4_countUndone yX4_countUndone, Cond.code yX4_countUndone cX4_countUndone 2 none, Cond.methodLink RX4 68 Lib.Math.max.name, Cond.static Lib.Math.max.name, Cond.initialized "java/lang/Math", Cond.code Lib.Math.max.name Lib.Math.max.code 2 (some .int), Cond.methodLink RX4 47 yX2_eat, Cond.instanceMethod yX2_eat, Cond.selects RX2 yX2_eat yX2_eat, Cond.code yX2_eat cX2_eat 2 none, Cond.methodLink RX4 50 yX2_mend, Cond.instanceMethod yX2_mend, Cond.selects RX2 yX2_mend yX2_mend, Cond.code yX2_mend cX2_mend 3 none, Cond.methodLink RX4 54 yX2_knit, Cond.instanceMethod yX2_knit, Cond.selects RX2 yX2_knit yX2_knit, Cond.code yX2_knit cX2_knit 3 none, Cond.methodLink RX2 43 yX2_lastWholeOf, Cond.instanceMethod yX2_lastWholeOf, Cond.selects RX2 yX2_lastWholeOf yX2_lastWholeOf, Cond.code yX2_lastWholeOf cX2_lastWholeOf 3 (some .int)]
def wsX5_judge_r7 : List Cond := [Cond.methodLink RX2 47 yX2_append, Cond.instanceMethod yX2_append, Cond.selects RX2 yX2_append yX2_append, Cond.code yX2_append cX2_append 4 none]
def wsX5_judge : List Cond := .code yX5_judge cX5_judge 2 (some .int) :: ((wsX5_judge_r1 ++ (wsX5_judge_r2 ++ (wsX5_judge_r3 ++ (wsX5_judge_r4 ++ (wsX5_judge_r5 ++ (wsX5_judge_r6 ++ wsX5_judge_r7)))))) ++ wsX50 ++ wsX40 ++ wsX10 ++ wsX30 ++ wsX20)
def wsX5_weeksCanBe_r1 : List Cond := [Cond.fieldLink RX5 25 "KnitChronicle" "pad" "LKnitChronicle$Pad;", Cond.methodLink RX5 93 yX1_firstFault, Cond.instanceMethod yX1_firstFault, Cond.selects RX1 yX1_firstFault yX1_firstFault, Cond.initialized RX1, Cond.code yX1_firstFault cX1_firstFault 3 (some .int), Cond.fieldLink RX1 15 "KnitChronicle$Pad" "length" "I", Cond.methodLink RX1 23 yX1_wantedAfter, Cond.instanceMethod yX1_wantedAfter, Cond.selects RX1 yX1_wantedAfter yX1_wantedAfter, Cond.code yX1_wantedAfter cX1_wantedAfter 3 (some .int), Cond.methodLink RX1 27 yX1_colourAt, Cond.instanceMethod yX1_colourAt, Cond.selects RX1 yX1_colourAt yX1_colourAt, Cond.code yX1_colourAt cX1_colourAt 2 (some .int), Cond.fieldLink RX1 9 "KnitChronicle$Pad" "signs" "[I", Cond.static yX5_at, Cond.initialized RX5, Cond.code yX5_at cX5_at 2 (some .int), Cond.static yX5_isBelow, Cond.code yX5_isBelow cX5_isBelow 2 (some .boolean), Cond.methodLink RX1 35 yX1_stitchAt, Cond.instanceMethod yX1_stitchAt, Cond.selects RX1 yX1_stitchAt yX1_stitchAt]
def wsX5_weeksCanBe_r2 : List Cond := [Cond.code yX1_stitchAt cX1_stitchAt 2 (some .int), Cond.methodLink RX1 38 yX1_knitterAt, Cond.instanceMethod yX1_knitterAt, Cond.selects RX1 yX1_knitterAt yX1_knitterAt, Cond.code yX1_knitterAt cX1_knitterAt 2 (some .int), Cond.methodLink RX1 41 yX1_kindAt, Cond.instanceMethod yX1_kindAt, Cond.selects RX1 yX1_kindAt yX1_kindAt, Cond.code yX1_kindAt cX1_kindAt 2 (some .int), Cond.methodLink RX1 44 yX1_wantedBy, Cond.static yX1_wantedBy, Cond.code yX1_wantedBy cX1_wantedBy 1 (some .int), Cond.methodLink RX5 97 yX5_tryWeeks, Cond.instanceMethod yX5_tryWeeks, Cond.selects RX5 yX5_tryWeeks yX5_tryWeeks, Cond.code yX5_tryWeeks cX5_tryWeeks 6 (some .boolean), Cond.fieldLink RX5 32 "KnitChronicle" "trial" "LKnitChronicle$Trial;", Cond.fieldLink RX5 10 "KnitChronicle" "town" "LKnitChronicle$Town;", Cond.fieldLink RX5 47 "KnitChronicle$Town" "scarf" "LKnitChronicle$Scarf;", Cond.fieldLink RX5 87 "KnitChronicle$Pad" "length" "I", Cond.methodLink RX5 127 yX4_begin, Cond.instanceMethod yX4_begin, Cond.selects RX4 yX4_begin yX4_begin, Cond.initialized RX4]
def wsX5_weeksCanBe_r3 : List Cond := [Cond.code yX4_begin cX4_begin 2 none, Cond.fieldLink RX4 12 "KnitChronicle$Trial" "scarf" "LKnitChronicle$Scarf;", Cond.fieldLink RX4 22 "KnitChronicle$Trial" "acts" "I", Cond.fieldLink RX4 26 "KnitChronicle$Trial" "reason" "I", Cond.fieldLink RX4 29 "KnitChronicle$Trial" "mostUndone" "I", Cond.fieldLink RX4 32 "KnitChronicle$Trial" "allUndone" "I", Cond.methodLink RX4 18 yX2_copy, Cond.instanceMethod yX2_copy, Cond.selects RX2 yX2_copy yX2_copy, Cond.initialized RX2, Cond.code yX2_copy cX2_copy 3 none, Cond.fieldLink RX2 21 "KnitChronicle$Scarf" "size" "I", Cond.fieldLink RX2 29 "KnitChronicle$Scarf" "eaten" "I", Cond.fieldLink RX2 9 "KnitChronicle$Scarf" "colours" "[I", Cond.fieldLink RX2 15 "KnitChronicle$Scarf" "tightnesses" "[I", Cond.fieldLink RX2 18 "KnitChronicle$Scarf" "anchors" "[I", Cond.static yX5_put, Cond.code yX5_put cX5_put 3 none, Cond.methodLink RX5 130 yX1_kindAt, Cond.methodLink RX5 133 yX1_stitchAt, Cond.methodLink RX5 136 yX1_colourAt, Cond.methodLink RX5 139 yX1_knitterAt, Cond.methodLink RX5 76 yX3_tightnessOf, Cond.instanceMethod yX3_tightnessOf]
def wsX5_weeksCanBe_r4 : List Cond := [Cond.selects RX3 yX3_tightnessOf yX3_tightnessOf, Cond.initialized RX3, Cond.code yX3_tightnessOf cX3_tightnessOf 2 (some .int), Cond.fieldLink RX3 18 "KnitChronicle$Town" "knitterTightness" "[I", Cond.methodLink RX5 142 yX4_act, Cond.instanceMethod yX4_act, Cond.selects RX4 yX4_act yX4_act, Cond.code yX4_act cX4_act 5 (some .boolean), Cond.methodLink RX4 35 yX4_reasonAgainst, Cond.instanceMethod yX4_reasonAgainst, Cond.selects RX4 yX4_reasonAgainst yX4_reasonAgainst, Cond.code yX4_reasonAgainst cX4_reasonAgainst 3 (some .int), Cond.methodLink RX4 57 yX2_isFull, Cond.instanceMethod yX2_isFull, Cond.selects RX2 yX2_isFull yX2_isFull, Cond.code yX2_isFull cX2_isFull 1 (some .boolean), Cond.methodLink RX4 61 yX2_has, Cond.instanceMethod yX2_has, Cond.selects RX2 yX2_has yX2_has, Cond.code yX2_has cX2_has 2 (some .boolean), Cond.methodLink RX4 65 yX2_isEaten, Cond.instanceMethod yX2_isEaten, Cond.selects RX2 yX2_isEaten yX2_isEaten, Cond.code yX2_isEaten cX2_isEaten 2 (some .boolean)]
def wsX5_weeksCanBe_r5 : List Cond := [Cond.static yX5_isIn, Cond.code yX5_isIn cX5_isIn 2 (some .boolean), Cond.methodLink RX4 39 yX2_unpick, Cond.instanceMethod yX2_unpick, Cond.selects RX2 yX2_unpick yX2_unpick, Cond.code yX2_unpick cX2_unpick 6 (some .int), Cond.methodLink RX2 51 yX2_undoneWith, Cond.instanceMethod yX2_undoneWith, Cond.selects RX2 yX2_undoneWith yX2_undoneWith, Cond.code yX2_undoneWith cX2_undoneWith 4 (some .int), Cond.methodLink RX2 54 yX2_closedUp, Cond.static yX2_closedUp, Cond.code yX2_closedUp cX2_closedUp 2 (some .int), Cond.methodLink RX2 62 yJ6_bitCount_0f7a4, Cond.static yJ6_bitCount_0f7a4, Cond.initialized RJ6, Cond.code yJ6_bitCount_0f7a4 cJ6_bitCount_0f7a4 1 (some .int), Cond.constant RJ6 265 (1431655765), Cond.constant RJ6 266 (858993459), Cond.constant RJ6 267 (252645135), Cond.methodLink RX2 58 yX2_isEaten, Cond.methodLink RX4 43 yX4_countUndone, Cond.instanceMethod yX4_countUndone, Cond.selects RX4 yX4_countUndone yX4_countUndone]
def wsX5_weeksCanBe_r6 : List Cond := [Cond.code yX4_countUndone cX4_countUndone 2 none, Cond.methodLink RX4 68 Lib.Math.max.name, Cond.static Lib.Math.max.name, Cond.initialized "java/lang/Math", Cond.code Lib.Math.max.name Lib.Math.max.code 2 (some .int), Cond.methodLink RX4 47 yX2_eat, Cond.instanceMethod yX2_eat, Cond.selects RX2 yX2_eat yX2_eat, Cond.code yX2_eat cX2_eat 2 none, Cond.methodLink RX4 50 yX2_mend, Cond.instanceMethod yX2_mend, Cond.selects RX2 yX2_mend yX2_mend, Cond.code yX2_mend cX2_mend 3 none, Cond.methodLink RX4 54 yX2_knit, Cond.instanceMethod yX2_knit, Cond.selects RX2 yX2_knit yX2_knit, Cond.code yX2_knit cX2_knit 3 none, Cond.methodLink RX2 43 yX2_lastWholeOf, Cond.instanceMethod yX2_lastWholeOf, Cond.selects RX2 yX2_lastWholeOf yX2_lastWholeOf, Cond.code yX2_lastWholeOf cX2_lastWholeOf 3 (some .int), Cond.methodLink RX2 47 yX2_append, Cond.instanceMethod yX2_append, Cond.selects RX2 yX2_append yX2_append]
def wsX5_weeksCanBe_r7 : List Cond := [Cond.code yX2_append cX2_append 4 none]
def wsX5_weeksCanBe : List Cond := .code yX5_weeksCanBe cX5_weeksCanBe 1 (some .boolean) :: ((wsX5_weeksCanBe_r1 ++ (wsX5_weeksCanBe_r2 ++ (wsX5_weeksCanBe_r3 ++ (wsX5_weeksCanBe_r4 ++ (wsX5_weeksCanBe_r5 ++ (wsX5_weeksCanBe_r6 ++ wsX5_weeksCanBe_r7)))))) ++ wsX50 ++ wsX10 ++ wsX30 ++ wsX40 ++ wsX20)
def wsX5_done_r1 : List Cond := [Cond.fieldLink RX5 10 "KnitChronicle" "town" "LKnitChronicle$Town;", Cond.fieldLink RX5 47 "KnitChronicle$Town" "scarf" "LKnitChronicle$Scarf;", Cond.fieldLink RX5 32 "KnitChronicle" "trial" "LKnitChronicle$Trial;", Cond.fieldLink RX5 109 "KnitChronicle$Trial" "scarf" "LKnitChronicle$Scarf;", Cond.fieldLink RX5 25 "KnitChronicle" "pad" "LKnitChronicle$Pad;", Cond.fieldLink RX5 87 "KnitChronicle$Pad" "length" "I", Cond.fieldLink RX5 100 "KnitChronicle$Trial" "acts" "I", Cond.methodLink RX5 106 yX5_weeksCanBe, Cond.instanceMethod yX5_weeksCanBe, Cond.selects RX5 yX5_weeksCanBe yX5_weeksCanBe, Cond.initialized RX5, Cond.code yX5_weeksCanBe cX5_weeksCanBe 1 (some .boolean), Cond.methodLink RX5 93 yX1_firstFault, Cond.instanceMethod yX1_firstFault, Cond.selects RX1 yX1_firstFault yX1_firstFault, Cond.initialized RX1, Cond.code yX1_firstFault cX1_firstFault 3 (some .int), Cond.fieldLink RX1 15 "KnitChronicle$Pad" "length" "I", Cond.methodLink RX1 23 yX1_wantedAfter, Cond.instanceMethod yX1_wantedAfter, Cond.selects RX1 yX1_wantedAfter yX1_wantedAfter, Cond.code yX1_wantedAfter cX1_wantedAfter 3 (some .int), Cond.methodLink RX1 27 yX1_colourAt, Cond.instanceMethod yX1_colourAt]
def wsX5_done_r2 : List Cond := [Cond.selects RX1 yX1_colourAt yX1_colourAt, Cond.code yX1_colourAt cX1_colourAt 2 (some .int), Cond.fieldLink RX1 9 "KnitChronicle$Pad" "signs" "[I", Cond.static yX5_at, Cond.code yX5_at cX5_at 2 (some .int), Cond.static yX5_isBelow, Cond.code yX5_isBelow cX5_isBelow 2 (some .boolean), Cond.methodLink RX1 35 yX1_stitchAt, Cond.instanceMethod yX1_stitchAt, Cond.selects RX1 yX1_stitchAt yX1_stitchAt, Cond.code yX1_stitchAt cX1_stitchAt 2 (some .int), Cond.methodLink RX1 38 yX1_knitterAt, Cond.instanceMethod yX1_knitterAt, Cond.selects RX1 yX1_knitterAt yX1_knitterAt, Cond.code yX1_knitterAt cX1_knitterAt 2 (some .int), Cond.methodLink RX1 41 yX1_kindAt, Cond.instanceMethod yX1_kindAt, Cond.selects RX1 yX1_kindAt yX1_kindAt, Cond.code yX1_kindAt cX1_kindAt 2 (some .int), Cond.methodLink RX1 44 yX1_wantedBy, Cond.static yX1_wantedBy, Cond.code yX1_wantedBy cX1_wantedBy 1 (some .int), Cond.methodLink RX5 97 yX5_tryWeeks, Cond.instanceMethod yX5_tryWeeks]
def wsX5_done_r3 : List Cond := [Cond.selects RX5 yX5_tryWeeks yX5_tryWeeks, Cond.code yX5_tryWeeks cX5_tryWeeks 6 (some .boolean), Cond.methodLink RX5 127 yX4_begin, Cond.instanceMethod yX4_begin, Cond.selects RX4 yX4_begin yX4_begin, Cond.initialized RX4, Cond.code yX4_begin cX4_begin 2 none, Cond.fieldLink RX4 12 "KnitChronicle$Trial" "scarf" "LKnitChronicle$Scarf;", Cond.fieldLink RX4 22 "KnitChronicle$Trial" "acts" "I", Cond.fieldLink RX4 26 "KnitChronicle$Trial" "reason" "I", Cond.fieldLink RX4 29 "KnitChronicle$Trial" "mostUndone" "I", Cond.fieldLink RX4 32 "KnitChronicle$Trial" "allUndone" "I", Cond.methodLink RX4 18 yX2_copy, Cond.instanceMethod yX2_copy, Cond.selects RX2 yX2_copy yX2_copy, Cond.initialized RX2, Cond.code yX2_copy cX2_copy 3 none, Cond.fieldLink RX2 21 "KnitChronicle$Scarf" "size" "I", Cond.fieldLink RX2 29 "KnitChronicle$Scarf" "eaten" "I", Cond.fieldLink RX2 9 "KnitChronicle$Scarf" "colours" "[I", Cond.fieldLink RX2 15 "KnitChronicle$Scarf" "tightnesses" "[I", Cond.fieldLink RX2 18 "KnitChronicle$Scarf" "anchors" "[I", Cond.static yX5_put, Cond.code yX5_put cX5_put 3 none]
def wsX5_done_r4 : List Cond := [Cond.methodLink RX5 130 yX1_kindAt, Cond.methodLink RX5 133 yX1_stitchAt, Cond.methodLink RX5 136 yX1_colourAt, Cond.methodLink RX5 139 yX1_knitterAt, Cond.methodLink RX5 76 yX3_tightnessOf, Cond.instanceMethod yX3_tightnessOf, Cond.selects RX3 yX3_tightnessOf yX3_tightnessOf, Cond.initialized RX3, Cond.code yX3_tightnessOf cX3_tightnessOf 2 (some .int), Cond.fieldLink RX3 18 "KnitChronicle$Town" "knitterTightness" "[I", Cond.methodLink RX5 142 yX4_act, Cond.instanceMethod yX4_act, Cond.selects RX4 yX4_act yX4_act, Cond.code yX4_act cX4_act 5 (some .boolean), Cond.methodLink RX4 35 yX4_reasonAgainst, Cond.instanceMethod yX4_reasonAgainst, Cond.selects RX4 yX4_reasonAgainst yX4_reasonAgainst, Cond.code yX4_reasonAgainst cX4_reasonAgainst 3 (some .int), Cond.methodLink RX4 57 yX2_isFull, Cond.instanceMethod yX2_isFull, Cond.selects RX2 yX2_isFull yX2_isFull, Cond.code yX2_isFull cX2_isFull 1 (some .boolean), Cond.methodLink RX4 61 yX2_has, Cond.instanceMethod yX2_has]
def wsX5_done_r5 : List Cond := [Cond.selects RX2 yX2_has yX2_has, Cond.code yX2_has cX2_has 2 (some .boolean), Cond.methodLink RX4 65 yX2_isEaten, Cond.instanceMethod yX2_isEaten, Cond.selects RX2 yX2_isEaten yX2_isEaten, Cond.code yX2_isEaten cX2_isEaten 2 (some .boolean), Cond.static yX5_isIn, Cond.code yX5_isIn cX5_isIn 2 (some .boolean), Cond.methodLink RX4 39 yX2_unpick, Cond.instanceMethod yX2_unpick, Cond.selects RX2 yX2_unpick yX2_unpick, Cond.code yX2_unpick cX2_unpick 6 (some .int), Cond.methodLink RX2 51 yX2_undoneWith, Cond.instanceMethod yX2_undoneWith, Cond.selects RX2 yX2_undoneWith yX2_undoneWith, Cond.code yX2_undoneWith cX2_undoneWith 4 (some .int), Cond.methodLink RX2 54 yX2_closedUp, Cond.static yX2_closedUp, Cond.code yX2_closedUp cX2_closedUp 2 (some .int), Cond.methodLink RX2 62 yJ6_bitCount_0f7a4, Cond.static yJ6_bitCount_0f7a4, Cond.initialized RJ6, Cond.code yJ6_bitCount_0f7a4 cJ6_bitCount_0f7a4 1 (some .int), Cond.constant RJ6 265 (1431655765)]
def wsX5_done_r6 : List Cond := [Cond.constant RJ6 266 (858993459), Cond.constant RJ6 267 (252645135), Cond.methodLink RX2 58 yX2_isEaten, Cond.methodLink RX4 43 yX4_countUndone, Cond.instanceMethod yX4_countUndone, Cond.selects RX4 yX4_countUndone yX4_countUndone, Cond.code yX4_countUndone cX4_countUndone 2 none, Cond.methodLink RX4 68 Lib.Math.max.name, Cond.static Lib.Math.max.name, Cond.initialized "java/lang/Math", Cond.code Lib.Math.max.name Lib.Math.max.code 2 (some .int), Cond.methodLink RX4 47 yX2_eat, Cond.instanceMethod yX2_eat, Cond.selects RX2 yX2_eat yX2_eat, Cond.code yX2_eat cX2_eat 2 none, Cond.methodLink RX4 50 yX2_mend, Cond.instanceMethod yX2_mend, Cond.selects RX2 yX2_mend yX2_mend, Cond.code yX2_mend cX2_mend 3 none, Cond.methodLink RX4 54 yX2_knit, Cond.instanceMethod yX2_knit, Cond.selects RX2 yX2_knit yX2_knit, Cond.code yX2_knit cX2_knit 3 none, Cond.methodLink RX2 43 yX2_lastWholeOf]
def wsX5_done_r7 : List Cond := [Cond.instanceMethod yX2_lastWholeOf, Cond.selects RX2 yX2_lastWholeOf yX2_lastWholeOf, Cond.code yX2_lastWholeOf cX2_lastWholeOf 3 (some .int), Cond.methodLink RX2 47 yX2_append, Cond.instanceMethod yX2_append, Cond.selects RX2 yX2_append yX2_append, Cond.code yX2_append cX2_append 4 none, Cond.methodLink RX5 110 yX2_copy]
def wsX5_done : List Cond := .code yX5_done cX5_done 1 (some .int) :: ((wsX5_done_r1 ++ (wsX5_done_r2 ++ (wsX5_done_r3 ++ (wsX5_done_r4 ++ (wsX5_done_r5 ++ (wsX5_done_r6 ++ wsX5_done_r7)))))) ++ wsX50 ++ wsX30 ++ wsX40 ++ wsX10 ++ wsX20)
def wsX5_behind_r1 : List Cond := [Cond.fieldLink RX5 32 "KnitChronicle" "trial" "LKnitChronicle$Trial;", Cond.fieldLink RX5 109 "KnitChronicle$Trial" "scarf" "LKnitChronicle$Scarf;", Cond.fieldLink RX5 69 "KnitChronicle$Scarf" "size" "I", Cond.fieldLink RX5 114 "KnitChronicle$Scarf" "eaten" "I", Cond.fieldLink RX5 120 "KnitChronicle$Trial" "mostUndone" "I", Cond.methodLink RX5 57 yX5_isBelow, Cond.static yX5_isBelow, Cond.initialized RX5, Cond.code yX5_isBelow cX5_isBelow 2 (some .boolean), Cond.methodLink RX5 106 yX5_weeksCanBe, Cond.instanceMethod yX5_weeksCanBe, Cond.selects RX5 yX5_weeksCanBe yX5_weeksCanBe, Cond.code yX5_weeksCanBe cX5_weeksCanBe 1 (some .boolean), Cond.fieldLink RX5 25 "KnitChronicle" "pad" "LKnitChronicle$Pad;", Cond.methodLink RX5 93 yX1_firstFault, Cond.instanceMethod yX1_firstFault, Cond.selects RX1 yX1_firstFault yX1_firstFault, Cond.initialized RX1, Cond.code yX1_firstFault cX1_firstFault 3 (some .int), Cond.fieldLink RX1 15 "KnitChronicle$Pad" "length" "I", Cond.methodLink RX1 23 yX1_wantedAfter, Cond.instanceMethod yX1_wantedAfter, Cond.selects RX1 yX1_wantedAfter yX1_wantedAfter, Cond.code yX1_wantedAfter cX1_wantedAfter 3 (some .int)]
def wsX5_behind_r2 : List Cond := [Cond.methodLink RX1 27 yX1_colourAt, Cond.instanceMethod yX1_colourAt, Cond.selects RX1 yX1_colourAt yX1_colourAt, Cond.code yX1_colourAt cX1_colourAt 2 (some .int), Cond.fieldLink RX1 9 "KnitChronicle$Pad" "signs" "[I", Cond.static yX5_at, Cond.code yX5_at cX5_at 2 (some .int), Cond.methodLink RX1 35 yX1_stitchAt, Cond.instanceMethod yX1_stitchAt, Cond.selects RX1 yX1_stitchAt yX1_stitchAt, Cond.code yX1_stitchAt cX1_stitchAt 2 (some .int), Cond.methodLink RX1 38 yX1_knitterAt, Cond.instanceMethod yX1_knitterAt, Cond.selects RX1 yX1_knitterAt yX1_knitterAt, Cond.code yX1_knitterAt cX1_knitterAt 2 (some .int), Cond.methodLink RX1 41 yX1_kindAt, Cond.instanceMethod yX1_kindAt, Cond.selects RX1 yX1_kindAt yX1_kindAt, Cond.code yX1_kindAt cX1_kindAt 2 (some .int), Cond.methodLink RX1 44 yX1_wantedBy, Cond.static yX1_wantedBy, Cond.code yX1_wantedBy cX1_wantedBy 1 (some .int), Cond.methodLink RX5 97 yX5_tryWeeks, Cond.instanceMethod yX5_tryWeeks]
def wsX5_behind_r3 : List Cond := [Cond.selects RX5 yX5_tryWeeks yX5_tryWeeks, Cond.code yX5_tryWeeks cX5_tryWeeks 6 (some .boolean), Cond.fieldLink RX5 10 "KnitChronicle" "town" "LKnitChronicle$Town;", Cond.fieldLink RX5 47 "KnitChronicle$Town" "scarf" "LKnitChronicle$Scarf;", Cond.fieldLink RX5 87 "KnitChronicle$Pad" "length" "I", Cond.methodLink RX5 127 yX4_begin, Cond.instanceMethod yX4_begin, Cond.selects RX4 yX4_begin yX4_begin, Cond.initialized RX4, Cond.code yX4_begin cX4_begin 2 none, Cond.fieldLink RX4 12 "KnitChronicle$Trial" "scarf" "LKnitChronicle$Scarf;", Cond.fieldLink RX4 22 "KnitChronicle$Trial" "acts" "I", Cond.fieldLink RX4 26 "KnitChronicle$Trial" "reason" "I", Cond.fieldLink RX4 29 "KnitChronicle$Trial" "mostUndone" "I", Cond.fieldLink RX4 32 "KnitChronicle$Trial" "allUndone" "I", Cond.methodLink RX4 18 yX2_copy, Cond.instanceMethod yX2_copy, Cond.selects RX2 yX2_copy yX2_copy, Cond.initialized RX2, Cond.code yX2_copy cX2_copy 3 none, Cond.fieldLink RX2 21 "KnitChronicle$Scarf" "size" "I", Cond.fieldLink RX2 29 "KnitChronicle$Scarf" "eaten" "I", Cond.fieldLink RX2 9 "KnitChronicle$Scarf" "colours" "[I", Cond.fieldLink RX2 15 "KnitChronicle$Scarf" "tightnesses" "[I"]
def wsX5_behind_r4 : List Cond := [Cond.fieldLink RX2 18 "KnitChronicle$Scarf" "anchors" "[I", Cond.static yX5_put, Cond.code yX5_put cX5_put 3 none, Cond.methodLink RX5 130 yX1_kindAt, Cond.methodLink RX5 133 yX1_stitchAt, Cond.methodLink RX5 136 yX1_colourAt, Cond.methodLink RX5 139 yX1_knitterAt, Cond.methodLink RX5 76 yX3_tightnessOf, Cond.instanceMethod yX3_tightnessOf, Cond.selects RX3 yX3_tightnessOf yX3_tightnessOf, Cond.initialized RX3, Cond.code yX3_tightnessOf cX3_tightnessOf 2 (some .int), Cond.fieldLink RX3 18 "KnitChronicle$Town" "knitterTightness" "[I", Cond.methodLink RX5 142 yX4_act, Cond.instanceMethod yX4_act, Cond.selects RX4 yX4_act yX4_act, Cond.code yX4_act cX4_act 5 (some .boolean), Cond.methodLink RX4 35 yX4_reasonAgainst, Cond.instanceMethod yX4_reasonAgainst, Cond.selects RX4 yX4_reasonAgainst yX4_reasonAgainst, Cond.code yX4_reasonAgainst cX4_reasonAgainst 3 (some .int), Cond.methodLink RX4 57 yX2_isFull, Cond.instanceMethod yX2_isFull, Cond.selects RX2 yX2_isFull yX2_isFull]
def wsX5_behind_r5 : List Cond := [Cond.code yX2_isFull cX2_isFull 1 (some .boolean), Cond.methodLink RX4 61 yX2_has, Cond.instanceMethod yX2_has, Cond.selects RX2 yX2_has yX2_has, Cond.code yX2_has cX2_has 2 (some .boolean), Cond.methodLink RX4 65 yX2_isEaten, Cond.instanceMethod yX2_isEaten, Cond.selects RX2 yX2_isEaten yX2_isEaten, Cond.code yX2_isEaten cX2_isEaten 2 (some .boolean), Cond.static yX5_isIn, Cond.code yX5_isIn cX5_isIn 2 (some .boolean), Cond.methodLink RX4 39 yX2_unpick, Cond.instanceMethod yX2_unpick, Cond.selects RX2 yX2_unpick yX2_unpick, Cond.code yX2_unpick cX2_unpick 6 (some .int), Cond.methodLink RX2 51 yX2_undoneWith, Cond.instanceMethod yX2_undoneWith, Cond.selects RX2 yX2_undoneWith yX2_undoneWith, Cond.code yX2_undoneWith cX2_undoneWith 4 (some .int), Cond.methodLink RX2 54 yX2_closedUp, Cond.static yX2_closedUp, Cond.code yX2_closedUp cX2_closedUp 2 (some .int), Cond.methodLink RX2 62 yJ6_bitCount_0f7a4, Cond.static yJ6_bitCount_0f7a4]
def wsX5_behind_r6 : List Cond := [Cond.initialized RJ6, Cond.code yJ6_bitCount_0f7a4 cJ6_bitCount_0f7a4 1 (some .int), Cond.constant RJ6 265 (1431655765), Cond.constant RJ6 266 (858993459), Cond.constant RJ6 267 (252645135), Cond.methodLink RX2 58 yX2_isEaten, Cond.methodLink RX4 43 yX4_countUndone, Cond.instanceMethod yX4_countUndone, Cond.selects RX4 yX4_countUndone yX4_countUndone, Cond.code yX4_countUndone cX4_countUndone 2 none, Cond.methodLink RX4 68 Lib.Math.max.name, Cond.static Lib.Math.max.name, Cond.initialized "java/lang/Math", Cond.code Lib.Math.max.name Lib.Math.max.code 2 (some .int), Cond.methodLink RX4 47 yX2_eat, Cond.instanceMethod yX2_eat, Cond.selects RX2 yX2_eat yX2_eat, Cond.code yX2_eat cX2_eat 2 none, Cond.methodLink RX4 50 yX2_mend, Cond.instanceMethod yX2_mend, Cond.selects RX2 yX2_mend yX2_mend, Cond.code yX2_mend cX2_mend 3 none, Cond.methodLink RX4 54 yX2_knit, Cond.instanceMethod yX2_knit]
def wsX5_behind_r7 : List Cond := [Cond.selects RX2 yX2_knit yX2_knit, Cond.code yX2_knit cX2_knit 3 none, Cond.methodLink RX2 43 yX2_lastWholeOf, Cond.instanceMethod yX2_lastWholeOf, Cond.selects RX2 yX2_lastWholeOf yX2_lastWholeOf, Cond.code yX2_lastWholeOf cX2_lastWholeOf 3 (some .int), Cond.methodLink RX2 47 yX2_append, Cond.instanceMethod yX2_append, Cond.selects RX2 yX2_append yX2_append, Cond.code yX2_append cX2_append 4 none, Cond.methodLink RX5 117 yX2_looseOnes, Cond.instanceMethod yX2_looseOnes, Cond.selects RX2 yX2_looseOnes yX2_looseOnes, Cond.code yX2_looseOnes cX2_looseOnes 3 (some .int)]
def wsX5_behind : List Cond := .code yX5_behind cX5_behind 2 (some .int) :: ((wsX5_behind_r1 ++ (wsX5_behind_r2 ++ (wsX5_behind_r3 ++ (wsX5_behind_r4 ++ (wsX5_behind_r5 ++ (wsX5_behind_r6 ++ wsX5_behind_r7)))))) ++ wsX50 ++ wsX40 ++ wsX20 ++ wsX10 ++ wsX30)
def wsX5_of_r1 : List Cond := [Cond.fieldLink RX5 32 "KnitChronicle" "trial" "LKnitChronicle$Trial;", Cond.fieldLink RX5 109 "KnitChronicle$Trial" "scarf" "LKnitChronicle$Scarf;", Cond.methodLink RX5 57 yX5_isBelow, Cond.static yX5_isBelow, Cond.initialized RX5, Cond.code yX5_isBelow cX5_isBelow 2 (some .boolean), Cond.methodLink RX5 106 yX5_weeksCanBe, Cond.instanceMethod yX5_weeksCanBe, Cond.selects RX5 yX5_weeksCanBe yX5_weeksCanBe, Cond.code yX5_weeksCanBe cX5_weeksCanBe 1 (some .boolean), Cond.fieldLink RX5 25 "KnitChronicle" "pad" "LKnitChronicle$Pad;", Cond.methodLink RX5 93 yX1_firstFault, Cond.instanceMethod yX1_firstFault, Cond.selects RX1 yX1_firstFault yX1_firstFault, Cond.initialized RX1, Cond.code yX1_firstFault cX1_firstFault 3 (some .int), Cond.fieldLink RX1 15 "KnitChronicle$Pad" "length" "I", Cond.methodLink RX1 23 yX1_wantedAfter, Cond.instanceMethod yX1_wantedAfter, Cond.selects RX1 yX1_wantedAfter yX1_wantedAfter, Cond.code yX1_wantedAfter cX1_wantedAfter 3 (some .int), Cond.methodLink RX1 27 yX1_colourAt, Cond.instanceMethod yX1_colourAt, Cond.selects RX1 yX1_colourAt yX1_colourAt]
def wsX5_of_r2 : List Cond := [Cond.code yX1_colourAt cX1_colourAt 2 (some .int), Cond.fieldLink RX1 9 "KnitChronicle$Pad" "signs" "[I", Cond.static yX5_at, Cond.code yX5_at cX5_at 2 (some .int), Cond.methodLink RX1 35 yX1_stitchAt, Cond.instanceMethod yX1_stitchAt, Cond.selects RX1 yX1_stitchAt yX1_stitchAt, Cond.code yX1_stitchAt cX1_stitchAt 2 (some .int), Cond.methodLink RX1 38 yX1_knitterAt, Cond.instanceMethod yX1_knitterAt, Cond.selects RX1 yX1_knitterAt yX1_knitterAt, Cond.code yX1_knitterAt cX1_knitterAt 2 (some .int), Cond.methodLink RX1 41 yX1_kindAt, Cond.instanceMethod yX1_kindAt, Cond.selects RX1 yX1_kindAt yX1_kindAt, Cond.code yX1_kindAt cX1_kindAt 2 (some .int), Cond.methodLink RX1 44 yX1_wantedBy, Cond.static yX1_wantedBy, Cond.code yX1_wantedBy cX1_wantedBy 1 (some .int), Cond.methodLink RX5 97 yX5_tryWeeks, Cond.instanceMethod yX5_tryWeeks, Cond.selects RX5 yX5_tryWeeks yX5_tryWeeks, Cond.code yX5_tryWeeks cX5_tryWeeks 6 (some .boolean), Cond.fieldLink RX5 10 "KnitChronicle" "town" "LKnitChronicle$Town;"]
def wsX5_of_r3 : List Cond := [Cond.fieldLink RX5 47 "KnitChronicle$Town" "scarf" "LKnitChronicle$Scarf;", Cond.fieldLink RX5 87 "KnitChronicle$Pad" "length" "I", Cond.methodLink RX5 127 yX4_begin, Cond.instanceMethod yX4_begin, Cond.selects RX4 yX4_begin yX4_begin, Cond.initialized RX4, Cond.code yX4_begin cX4_begin 2 none, Cond.fieldLink RX4 12 "KnitChronicle$Trial" "scarf" "LKnitChronicle$Scarf;", Cond.fieldLink RX4 22 "KnitChronicle$Trial" "acts" "I", Cond.fieldLink RX4 26 "KnitChronicle$Trial" "reason" "I", Cond.fieldLink RX4 29 "KnitChronicle$Trial" "mostUndone" "I", Cond.fieldLink RX4 32 "KnitChronicle$Trial" "allUndone" "I", Cond.methodLink RX4 18 yX2_copy, Cond.instanceMethod yX2_copy, Cond.selects RX2 yX2_copy yX2_copy, Cond.initialized RX2, Cond.code yX2_copy cX2_copy 3 none, Cond.fieldLink RX2 21 "KnitChronicle$Scarf" "size" "I", Cond.fieldLink RX2 29 "KnitChronicle$Scarf" "eaten" "I", Cond.fieldLink RX2 9 "KnitChronicle$Scarf" "colours" "[I", Cond.fieldLink RX2 15 "KnitChronicle$Scarf" "tightnesses" "[I", Cond.fieldLink RX2 18 "KnitChronicle$Scarf" "anchors" "[I", Cond.static yX5_put, Cond.code yX5_put cX5_put 3 none]
def wsX5_of_r4 : List Cond := [Cond.methodLink RX5 130 yX1_kindAt, Cond.methodLink RX5 133 yX1_stitchAt, Cond.methodLink RX5 136 yX1_colourAt, Cond.methodLink RX5 139 yX1_knitterAt, Cond.methodLink RX5 76 yX3_tightnessOf, Cond.instanceMethod yX3_tightnessOf, Cond.selects RX3 yX3_tightnessOf yX3_tightnessOf, Cond.initialized RX3, Cond.code yX3_tightnessOf cX3_tightnessOf 2 (some .int), Cond.fieldLink RX3 18 "KnitChronicle$Town" "knitterTightness" "[I", Cond.methodLink RX5 142 yX4_act, Cond.instanceMethod yX4_act, Cond.selects RX4 yX4_act yX4_act, Cond.code yX4_act cX4_act 5 (some .boolean), Cond.methodLink RX4 35 yX4_reasonAgainst, Cond.instanceMethod yX4_reasonAgainst, Cond.selects RX4 yX4_reasonAgainst yX4_reasonAgainst, Cond.code yX4_reasonAgainst cX4_reasonAgainst 3 (some .int), Cond.methodLink RX4 57 yX2_isFull, Cond.instanceMethod yX2_isFull, Cond.selects RX2 yX2_isFull yX2_isFull, Cond.code yX2_isFull cX2_isFull 1 (some .boolean), Cond.methodLink RX4 61 yX2_has, Cond.instanceMethod yX2_has]
def wsX5_of_r5 : List Cond := [Cond.selects RX2 yX2_has yX2_has, Cond.code yX2_has cX2_has 2 (some .boolean), Cond.methodLink RX4 65 yX2_isEaten, Cond.instanceMethod yX2_isEaten, Cond.selects RX2 yX2_isEaten yX2_isEaten, Cond.code yX2_isEaten cX2_isEaten 2 (some .boolean), Cond.static yX5_isIn, Cond.code yX5_isIn cX5_isIn 2 (some .boolean), Cond.methodLink RX4 39 yX2_unpick, Cond.instanceMethod yX2_unpick, Cond.selects RX2 yX2_unpick yX2_unpick, Cond.code yX2_unpick cX2_unpick 6 (some .int), Cond.methodLink RX2 51 yX2_undoneWith, Cond.instanceMethod yX2_undoneWith, Cond.selects RX2 yX2_undoneWith yX2_undoneWith, Cond.code yX2_undoneWith cX2_undoneWith 4 (some .int), Cond.methodLink RX2 54 yX2_closedUp, Cond.static yX2_closedUp, Cond.code yX2_closedUp cX2_closedUp 2 (some .int), Cond.methodLink RX2 62 yJ6_bitCount_0f7a4, Cond.static yJ6_bitCount_0f7a4, Cond.initialized RJ6, Cond.code yJ6_bitCount_0f7a4 cJ6_bitCount_0f7a4 1 (some .int), Cond.constant RJ6 265 (1431655765)]
def wsX5_of_r6 : List Cond := [Cond.constant RJ6 266 (858993459), Cond.constant RJ6 267 (252645135), Cond.methodLink RX2 58 yX2_isEaten, Cond.methodLink RX4 43 yX4_countUndone, Cond.instanceMethod yX4_countUndone, Cond.selects RX4 yX4_countUndone yX4_countUndone, Cond.code yX4_countUndone cX4_countUndone 2 none, Cond.methodLink RX4 68 Lib.Math.max.name, Cond.static Lib.Math.max.name, Cond.initialized "java/lang/Math", Cond.code Lib.Math.max.name Lib.Math.max.code 2 (some .int), Cond.methodLink RX4 47 yX2_eat, Cond.instanceMethod yX2_eat, Cond.selects RX2 yX2_eat yX2_eat, Cond.code yX2_eat cX2_eat 2 none, Cond.methodLink RX4 50 yX2_mend, Cond.instanceMethod yX2_mend, Cond.selects RX2 yX2_mend yX2_mend, Cond.code yX2_mend cX2_mend 3 none, Cond.methodLink RX4 54 yX2_knit, Cond.instanceMethod yX2_knit, Cond.selects RX2 yX2_knit yX2_knit, Cond.code yX2_knit cX2_knit 3 none, Cond.methodLink RX2 43 yX2_lastWholeOf]
def wsX5_of_r7 : List Cond := [Cond.instanceMethod yX2_lastWholeOf, Cond.selects RX2 yX2_lastWholeOf yX2_lastWholeOf, Cond.code yX2_lastWholeOf cX2_lastWholeOf 3 (some .int), Cond.methodLink RX2 47 yX2_append, Cond.instanceMethod yX2_append, Cond.selects RX2 yX2_append yX2_append, Cond.code yX2_append cX2_append 4 none, Cond.methodLink RX5 51 yX2_has, Cond.methodLink RX5 123 yX2_trait, Cond.instanceMethod yX2_trait, Cond.selects RX2 yX2_trait yX2_trait, Cond.code yX2_trait cX2_trait 4 (some .int)]
def wsX5_of : List Cond := .code yX5_of cX5_of 3 (some .int) :: ((wsX5_of_r1 ++ (wsX5_of_r2 ++ (wsX5_of_r3 ++ (wsX5_of_r4 ++ (wsX5_of_r5 ++ (wsX5_of_r6 ++ wsX5_of_r7)))))) ++ wsX50 ++ wsX40 ++ wsX10 ++ wsX30 ++ wsX20)
def wsX5_pull_r1 : List Cond := [Cond.fieldLink RX5 10 "KnitChronicle" "town" "LKnitChronicle$Town;", Cond.fieldLink RX5 47 "KnitChronicle$Town" "scarf" "LKnitChronicle$Scarf;", Cond.methodLink RX5 51 yX2_has, Cond.instanceMethod yX2_has, Cond.selects RX2 yX2_has yX2_has, Cond.initialized RX2, Cond.code yX2_has cX2_has 2 (some .boolean), Cond.fieldLink RX2 21 "KnitChronicle$Scarf" "size" "I", Cond.static yX5_isBelow, Cond.initialized RX5, Cond.code yX5_isBelow cX5_isBelow 2 (some .boolean), Cond.methodLink RX5 146 yX2_undoneWith, Cond.instanceMethod yX2_undoneWith, Cond.selects RX2 yX2_undoneWith yX2_undoneWith, Cond.code yX2_undoneWith cX2_undoneWith 4 (some .int), Cond.fieldLink RX2 18 "KnitChronicle$Scarf" "anchors" "[I", Cond.static yX5_at, Cond.code yX5_at cX5_at 2 (some .int), Cond.static yX5_isIn, Cond.code yX5_isIn cX5_isIn 2 (some .boolean), Cond.methodLink RX5 149 yJ6_bitCount_0f7a4, Cond.static yJ6_bitCount_0f7a4, Cond.initialized RJ6, Cond.code yJ6_bitCount_0f7a4 cJ6_bitCount_0f7a4 1 (some .int)]
def wsX5_pull_r2 : List Cond := [Cond.constant RJ6 265 (1431655765), Cond.constant RJ6 266 (858993459), Cond.constant RJ6 267 (252645135)]
def wsX5_pull : List Cond := .code yX5_pull cX5_pull 2 (some .int) :: ((wsX5_pull_r1 ++ wsX5_pull_r2) ++ wsX50 ++ wsX30 ++ wsX20)
def wsX5_pulls_r1 : List Cond := [Cond.fieldLink RX5 10 "KnitChronicle" "town" "LKnitChronicle$Town;", Cond.fieldLink RX5 47 "KnitChronicle$Town" "scarf" "LKnitChronicle$Scarf;", Cond.methodLink RX5 154 yX2_hasAll, Cond.instanceMethod yX2_hasAll, Cond.selects RX2 yX2_hasAll yX2_hasAll, Cond.initialized RX2, Cond.code yX2_hasAll cX2_hasAll 2 (some .boolean), Cond.fieldLink RX2 21 "KnitChronicle$Scarf" "size" "I", Cond.methodLink RX5 57 yX5_isBelow, Cond.static yX5_isBelow, Cond.initialized RX5, Cond.code yX5_isBelow cX5_isBelow 2 (some .boolean), Cond.methodLink RX5 157 yX2_withAnchors, Cond.instanceMethod yX2_withAnchors, Cond.selects RX2 yX2_withAnchors yX2_withAnchors, Cond.code yX2_withAnchors cX2_withAnchors 5 (some .int), Cond.fieldLink RX2 18 "KnitChronicle$Scarf" "anchors" "[I", Cond.static yX5_at, Cond.code yX5_at cX5_at 2 (some .int), Cond.static yX5_isIn, Cond.code yX5_isIn cX5_isIn 2 (some .boolean), Cond.methodLink RX5 160 yX2_topmostBelow, Cond.instanceMethod yX2_topmostBelow, Cond.selects RX2 yX2_topmostBelow yX2_topmostBelow]
def wsX5_pulls_r2 : List Cond := [Cond.code yX2_topmostBelow cX2_topmostBelow 5 (some .int), Cond.methodLink RX2 67 yX2_topOf, Cond.instanceMethod yX2_topOf, Cond.selects RX2 yX2_topOf yX2_topOf, Cond.code yX2_topOf cX2_topOf 5 (some .int), Cond.methodLink RX5 149 yJ6_bitCount_0f7a4, Cond.static yJ6_bitCount_0f7a4, Cond.initialized RJ6, Cond.code yJ6_bitCount_0f7a4 cJ6_bitCount_0f7a4 1 (some .int), Cond.constant RJ6 265 (1431655765), Cond.constant RJ6 266 (858993459), Cond.constant RJ6 267 (252645135)]
def wsX5_pulls : List Cond := .code yX5_pulls cX5_pulls 7 (some .int) :: ((wsX5_pulls_r1 ++ wsX5_pulls_r2) ++ wsX50 ++ wsX30 ++ wsX20)
def wsX5_pattern_r1 : List Cond := [Cond.fieldLink RX5 10 "KnitChronicle" "town" "LKnitChronicle$Town;", Cond.fieldLink RX5 47 "KnitChronicle$Town" "scarf" "LKnitChronicle$Scarf;", Cond.methodLink RX5 163 yX2_shortestPattern, Cond.instanceMethod yX2_shortestPattern, Cond.selects RX2 yX2_shortestPattern yX2_shortestPattern, Cond.initialized RX2, Cond.code yX2_shortestPattern cX2_shortestPattern 2 (some .int), Cond.fieldLink RX2 21 "KnitChronicle$Scarf" "size" "I", Cond.methodLink RX2 70 yX2_repeatsBy, Cond.instanceMethod yX2_repeatsBy, Cond.selects RX2 yX2_repeatsBy yX2_repeatsBy, Cond.code yX2_repeatsBy cX2_repeatsBy 4 (some .boolean), Cond.fieldLink RX2 9 "KnitChronicle$Scarf" "colours" "[I", Cond.methodLink RX2 73 yX2_areAlike, Cond.instanceMethod yX2_areAlike, Cond.selects RX2 yX2_areAlike yX2_areAlike, Cond.code yX2_areAlike cX2_areAlike 4 (some .boolean), Cond.methodLink RX2 58 yX2_isEaten, Cond.instanceMethod yX2_isEaten, Cond.selects RX2 yX2_isEaten yX2_isEaten, Cond.code yX2_isEaten cX2_isEaten 2 (some .boolean), Cond.fieldLink RX2 29 "KnitChronicle$Scarf" "eaten" "I", Cond.static yX5_isIn, Cond.initialized RX5]
def wsX5_pattern_r2 : List Cond := [Cond.code yX5_isIn cX5_isIn 2 (some .boolean), Cond.static yX5_at, Cond.code yX5_at cX5_at 2 (some .int)]
def wsX5_pattern : List Cond := .code yX5_pattern cX5_pattern 1 (some .int) :: ((wsX5_pattern_r1 ++ wsX5_pattern_r2) ++ wsX50 ++ wsX30 ++ wsX20)
def wsX5_hole_r1 : List Cond := [Cond.fieldLink RX5 10 "KnitChronicle" "town" "LKnitChronicle$Town;", Cond.fieldLink RX5 47 "KnitChronicle$Town" "scarf" "LKnitChronicle$Scarf;", Cond.methodLink RX5 51 yX2_has, Cond.instanceMethod yX2_has, Cond.selects RX2 yX2_has yX2_has, Cond.initialized RX2, Cond.code yX2_has cX2_has 2 (some .boolean), Cond.fieldLink RX2 21 "KnitChronicle$Scarf" "size" "I", Cond.static yX5_isBelow, Cond.initialized RX5, Cond.code yX5_isBelow cX5_isBelow 2 (some .boolean), Cond.methodLink RX5 166 yX2_isEaten, Cond.instanceMethod yX2_isEaten, Cond.selects RX2 yX2_isEaten yX2_isEaten, Cond.code yX2_isEaten cX2_isEaten 2 (some .boolean), Cond.fieldLink RX2 29 "KnitChronicle$Scarf" "eaten" "I", Cond.static yX5_isIn, Cond.code yX5_isIn cX5_isIn 2 (some .boolean), Cond.methodLink RX5 169 yX2_coloursOfHole, Cond.instanceMethod yX2_coloursOfHole, Cond.selects RX2 yX2_coloursOfHole yX2_coloursOfHole, Cond.code yX2_coloursOfHole cX2_coloursOfHole 4 (some .int), Cond.fieldLink RX2 9 "KnitChronicle$Scarf" "colours" "[I", Cond.methodLink RX2 77 yX2_shortestPattern]
def wsX5_hole_r2 : List Cond := [Cond.instanceMethod yX2_shortestPattern, Cond.selects RX2 yX2_shortestPattern yX2_shortestPattern, Cond.code yX2_shortestPattern cX2_shortestPattern 2 (some .int), Cond.methodLink RX2 70 yX2_repeatsBy, Cond.instanceMethod yX2_repeatsBy, Cond.selects RX2 yX2_repeatsBy yX2_repeatsBy, Cond.code yX2_repeatsBy cX2_repeatsBy 4 (some .boolean), Cond.methodLink RX2 73 yX2_areAlike, Cond.instanceMethod yX2_areAlike, Cond.selects RX2 yX2_areAlike yX2_areAlike, Cond.code yX2_areAlike cX2_areAlike 4 (some .boolean), Cond.methodLink RX2 58 yX2_isEaten, Cond.static yX5_at, Cond.code yX5_at cX5_at 2 (some .int)]
def wsX5_hole : List Cond := .code yX5_hole cX5_hole 2 (some .int) :: ((wsX5_hole_r1 ++ wsX5_hole_r2) ++ wsX50 ++ wsX30 ++ wsX20)
def wsX5_imageAt : List Cond := .code yX5_imageAt cX5_imageAt 2 (some (.object "KnitChronicle$Town")) :: ([.fieldLink RX5 16 "KnitChronicle" "firstImage" "LKnitChronicle$Town;", .fieldLink RX5 19 "KnitChronicle" "secondImage" "LKnitChronicle$Town;"] ++ wsX50)
def wsX5_longestShared : List Cond := .code yX5_longestShared cX5_longestShared 8 (some .int) :: ([.fieldLink RX5 69 "KnitChronicle$Scarf" "size" "I", .fieldLink RX5 43 "KnitChronicle" "sharedColours" "[I", .fieldLink RX5 190 "KnitChronicle$Scarf" "colours" "[I", .methodLink RX5 193 Lib.Math.max.name, .static Lib.Math.max.name, .initialized "java/lang/Math", .code Lib.Math.max.name Lib.Math.max.code 2 (some .int), .methodLink RX5 83 yX5_put, .static yX5_put, .initialized RX5, .code yX5_put cX5_put 3 none, .methodLink RX5 186 yX5_at, .static yX5_at, .code yX5_at cX5_at 2 (some .int)] ++ wsX20 ++ wsX50)
def wsX5_rip_r1 : List Cond := [Cond.fieldLink RX5 172 "KnitChronicle" "keptImages" "I", Cond.fieldLink RX5 10 "KnitChronicle" "town" "LKnitChronicle$Town;", Cond.fieldLink RX5 47 "KnitChronicle$Town" "scarf" "LKnitChronicle$Scarf;", Cond.fieldLink RX5 69 "KnitChronicle$Scarf" "size" "I", Cond.methodLink RX5 57 yX5_isBelow, Cond.static yX5_isBelow, Cond.initialized RX5, Cond.code yX5_isBelow cX5_isBelow 2 (some .boolean), Cond.methodLink RX5 175 yX5_isIn, Cond.static yX5_isIn, Cond.code yX5_isIn cX5_isIn 2 (some .boolean), Cond.methodLink RX5 178 yX5_imageAt, Cond.instanceMethod yX5_imageAt, Cond.selects RX5 yX5_imageAt yX5_imageAt, Cond.code yX5_imageAt cX5_imageAt 2 (some (.object "KnitChronicle$Town")), Cond.fieldLink RX5 16 "KnitChronicle" "firstImage" "LKnitChronicle$Town;", Cond.fieldLink RX5 19 "KnitChronicle" "secondImage" "LKnitChronicle$Town;", Cond.methodLink RX5 182 yX5_longestShared, Cond.instanceMethod yX5_longestShared, Cond.selects RX5 yX5_longestShared yX5_longestShared, Cond.code yX5_longestShared cX5_longestShared 8 (some .int), Cond.fieldLink RX5 43 "KnitChronicle" "sharedColours" "[I", Cond.fieldLink RX5 190 "KnitChronicle$Scarf" "colours" "[I", Cond.methodLink RX5 193 Lib.Math.max.name]
def wsX5_rip_r2 : List Cond := [Cond.static Lib.Math.max.name, Cond.initialized "java/lang/Math", Cond.code Lib.Math.max.name Lib.Math.max.code 2 (some .int), Cond.methodLink RX5 83 yX5_put, Cond.static yX5_put, Cond.code yX5_put cX5_put 3 none, Cond.methodLink RX5 186 yX5_at, Cond.static yX5_at, Cond.code yX5_at cX5_at 2 (some .int)]
def wsX5_rip : List Cond := .code yX5_rip cX5_rip 4 (some .int) :: ((wsX5_rip_r1 ++ wsX5_rip_r2) ++ wsX50 ++ wsX30 ++ wsX20)
def wsX5_leastBurden : List Cond := .code yX5_leastBurden cX5_leastBurden 4 (some .int) :: ([.fieldLink RX5 10 "KnitChronicle" "town" "LKnitChronicle$Town;", .fieldLink RX5 47 "KnitChronicle$Town" "scarf" "LKnitChronicle$Scarf;", .methodLink RX5 204 yX2_tightnessFrom, .instanceMethod yX2_tightnessFrom, .selects RX2 yX2_tightnessFrom yX2_tightnessFrom, .initialized RX2, .code yX2_tightnessFrom cX2_tightnessFrom 4 (some .int), .fieldLink RX2 21 "KnitChronicle$Scarf" "size" "I", .fieldLink RX2 15 "KnitChronicle$Scarf" "tightnesses" "[I", .static yX5_at, .initialized RX5, .code yX5_at cX5_at 2 (some .int), .methodLink RX5 207 yX2_stretchesFrom, .instanceMethod yX2_stretchesFrom, .selects RX2 yX2_stretchesFrom yX2_stretchesFrom, .code yX2_stretchesFrom cX2_stretchesFrom 7 (some .int)] ++ wsX50 ++ wsX30 ++ wsX20)
def wsX5_fewestOfFirst : List Cond := .code yX5_fewestOfFirst cX5_fewestOfFirst 4 (some .int) :: ([.fieldLink RX5 10 "KnitChronicle" "town" "LKnitChronicle$Town;", .fieldLink RX5 47 "KnitChronicle$Town" "scarf" "LKnitChronicle$Scarf;", .fieldLink RX5 69 "KnitChronicle$Scarf" "size" "I", .methodLink RX5 207 yX2_stretchesFrom, .instanceMethod yX2_stretchesFrom, .selects RX2 yX2_stretchesFrom yX2_stretchesFrom, .initialized RX2, .code yX2_stretchesFrom cX2_stretchesFrom 7 (some .int), .fieldLink RX2 21 "KnitChronicle$Scarf" "size" "I", .fieldLink RX2 15 "KnitChronicle$Scarf" "tightnesses" "[I", .static yX5_at, .initialized RX5, .code yX5_at cX5_at 2 (some .int)] ++ wsX50 ++ wsX30 ++ wsX20)
def wsX5_hold_r1 : List Cond := [Cond.methodLink RX5 57 yX5_isBelow, Cond.static yX5_isBelow, Cond.initialized RX5, Cond.code yX5_isBelow cX5_isBelow 2 (some .boolean), Cond.methodLink RX5 198 yX5_leastBurden, Cond.instanceMethod yX5_leastBurden, Cond.selects RX5 yX5_leastBurden yX5_leastBurden, Cond.code yX5_leastBurden cX5_leastBurden 4 (some .int), Cond.fieldLink RX5 10 "KnitChronicle" "town" "LKnitChronicle$Town;", Cond.fieldLink RX5 47 "KnitChronicle$Town" "scarf" "LKnitChronicle$Scarf;", Cond.methodLink RX5 204 yX2_tightnessFrom, Cond.instanceMethod yX2_tightnessFrom, Cond.selects RX2 yX2_tightnessFrom yX2_tightnessFrom, Cond.initialized RX2, Cond.code yX2_tightnessFrom cX2_tightnessFrom 4 (some .int), Cond.fieldLink RX2 21 "KnitChronicle$Scarf" "size" "I", Cond.fieldLink RX2 15 "KnitChronicle$Scarf" "tightnesses" "[I", Cond.static yX5_at, Cond.code yX5_at cX5_at 2 (some .int), Cond.methodLink RX5 207 yX2_stretchesFrom, Cond.instanceMethod yX2_stretchesFrom, Cond.selects RX2 yX2_stretchesFrom yX2_stretchesFrom, Cond.code yX2_stretchesFrom cX2_stretchesFrom 7 (some .int), Cond.methodLink RX5 201 yX5_fewestOfFirst]
def wsX5_hold_r2 : List Cond := [Cond.instanceMethod yX5_fewestOfFirst, Cond.selects RX5 yX5_fewestOfFirst yX5_fewestOfFirst, Cond.code yX5_fewestOfFirst cX5_fewestOfFirst 4 (some .int), Cond.fieldLink RX5 69 "KnitChronicle$Scarf" "size" "I"]
def wsX5_hold : List Cond := .code yX5_hold cX5_hold 4 (some .int) :: ((wsX5_hold_r1 ++ wsX5_hold_r2) ++ wsX50 ++ wsX30 ++ wsX20)
def wsX5_hands_r1 : List Cond := [Cond.fieldLink RX5 39 "KnitChronicle" "handChanges" "LKnitChronicle$HandChanges;", Cond.fieldLink RX5 10 "KnitChronicle" "town" "LKnitChronicle$Town;", Cond.fieldLink RX5 47 "KnitChronicle$Town" "scarf" "LKnitChronicle$Scarf;", Cond.fieldLink RX5 69 "KnitChronicle$Scarf" "size" "I", Cond.methodLink RX5 210 yX0_count, Cond.instanceMethod yX0_count, Cond.selects RX0 yX0_count yX0_count, Cond.initialized RX0, Cond.code yX0_count cX0_count 8 none, Cond.fieldLink RX0 15 "KnitChronicle$Town" "scarf" "LKnitChronicle$Scarf;", Cond.fieldLink RX0 21 "KnitChronicle$Scarf" "size" "I", Cond.fieldLink RX0 27 "KnitChronicle$Scarf" "tightnesses" "[I", Cond.fieldLink RX0 9 "KnitChronicle$HandChanges" "changes" "[I", Cond.static yX5_at, Cond.initialized RX5, Cond.code yX5_at cX5_at 2 (some .int), Cond.static yX5_near, Cond.code yX5_near cX5_near 1 (some .int), Cond.methodLink RX0 38 yX0_fewestFrom, Cond.instanceMethod yX0_fewestFrom, Cond.selects RX0 yX0_fewestFrom yX0_fewestFrom, Cond.code yX0_fewestFrom cX0_fewestFrom 5 (some .int), Cond.methodLink RX0 57 Lib.Math.min.name, Cond.static Lib.Math.min.name]
def wsX5_hands_r2 : List Cond := [Cond.initialized "java/lang/Math", Cond.code Lib.Math.min.name Lib.Math.min.code 2 (some .int), Cond.methodLink RX0 53 yX0_changesBy, Cond.instanceMethod yX0_changesBy, Cond.selects RX0 yX0_changesBy yX0_changesBy, Cond.code yX0_changesBy cX0_changesBy 4 (some .int), Cond.methodLink RX0 42 yX3_tightnessOf, Cond.instanceMethod yX3_tightnessOf, Cond.selects RX3 yX3_tightnessOf yX3_tightnessOf, Cond.initialized RX3, Cond.code yX3_tightnessOf cX3_tightnessOf 2 (some .int), Cond.fieldLink RX3 18 "KnitChronicle$Town" "knitterTightness" "[I", Cond.static yX5_isIn, Cond.code yX5_isIn cX5_isIn 2 (some .boolean), Cond.static yX5_put, Cond.code yX5_put cX5_put 3 none, Cond.methodLink RX5 214 yX0_fewest, Cond.instanceMethod yX0_fewest, Cond.selects RX0 yX0_fewest yX0_fewest, Cond.code yX0_fewest cX0_fewest 4 (some .int)]
def wsX5_hands : List Cond := .code yX5_hands cX5_hands 1 (some .int) :: ((wsX5_hands_r1 ++ wsX5_hands_r2) ++ wsX50 ++ wsX30 ++ wsX20 ++ wsX00)
def wsX5_who_r1 : List Cond := [Cond.fieldLink RX5 10 "KnitChronicle" "town" "LKnitChronicle$Town;", Cond.fieldLink RX5 47 "KnitChronicle$Town" "scarf" "LKnitChronicle$Scarf;", Cond.fieldLink RX5 39 "KnitChronicle" "handChanges" "LKnitChronicle$HandChanges;", Cond.fieldLink RX5 69 "KnitChronicle$Scarf" "size" "I", Cond.methodLink RX5 51 yX2_has, Cond.instanceMethod yX2_has, Cond.selects RX2 yX2_has yX2_has, Cond.initialized RX2, Cond.code yX2_has cX2_has 2 (some .boolean), Cond.fieldLink RX2 21 "KnitChronicle$Scarf" "size" "I", Cond.static yX5_isBelow, Cond.initialized RX5, Cond.code yX5_isBelow cX5_isBelow 2 (some .boolean), Cond.methodLink RX5 210 yX0_count, Cond.instanceMethod yX0_count, Cond.selects RX0 yX0_count yX0_count, Cond.initialized RX0, Cond.code yX0_count cX0_count 8 none, Cond.fieldLink RX0 15 "KnitChronicle$Town" "scarf" "LKnitChronicle$Scarf;", Cond.fieldLink RX0 21 "KnitChronicle$Scarf" "size" "I", Cond.fieldLink RX0 27 "KnitChronicle$Scarf" "tightnesses" "[I", Cond.fieldLink RX0 9 "KnitChronicle$HandChanges" "changes" "[I", Cond.static yX5_at, Cond.code yX5_at cX5_at 2 (some .int)]
def wsX5_who_r2 : List Cond := [Cond.static yX5_near, Cond.code yX5_near cX5_near 1 (some .int), Cond.methodLink RX0 38 yX0_fewestFrom, Cond.instanceMethod yX0_fewestFrom, Cond.selects RX0 yX0_fewestFrom yX0_fewestFrom, Cond.code yX0_fewestFrom cX0_fewestFrom 5 (some .int), Cond.methodLink RX0 57 Lib.Math.min.name, Cond.static Lib.Math.min.name, Cond.initialized "java/lang/Math", Cond.code Lib.Math.min.name Lib.Math.min.code 2 (some .int), Cond.methodLink RX0 53 yX0_changesBy, Cond.instanceMethod yX0_changesBy, Cond.selects RX0 yX0_changesBy yX0_changesBy, Cond.code yX0_changesBy cX0_changesBy 4 (some .int), Cond.methodLink RX0 42 yX3_tightnessOf, Cond.instanceMethod yX3_tightnessOf, Cond.selects RX3 yX3_tightnessOf yX3_tightnessOf, Cond.initialized RX3, Cond.code yX3_tightnessOf cX3_tightnessOf 2 (some .int), Cond.fieldLink RX3 18 "KnitChronicle$Town" "knitterTightness" "[I", Cond.static yX5_isIn, Cond.code yX5_isIn cX5_isIn 2 (some .boolean), Cond.static yX5_put, Cond.code yX5_put cX5_put 3 none]
def wsX5_who_r3 : List Cond := [Cond.methodLink RX5 214 yX0_fewest, Cond.instanceMethod yX0_fewest, Cond.selects RX0 yX0_fewest yX0_fewest, Cond.code yX0_fewest cX0_fewest 4 (some .int), Cond.methodLink RX5 217 yX0_knitterOf, Cond.instanceMethod yX0_knitterOf, Cond.selects RX0 yX0_knitterOf yX0_knitterOf, Cond.code yX0_knitterOf cX0_knitterOf 4 (some .int), Cond.methodLink RX0 62 yX0_leastAfter, Cond.instanceMethod yX0_leastAfter, Cond.selects RX0 yX0_leastAfter yX0_leastAfter, Cond.code yX0_leastAfter cX0_leastAfter 5 (some .int)]
def wsX5_who : List Cond := .code yX5_who cX5_who 2 (some .int) :: ((wsX5_who_r1 ++ (wsX5_who_r2 ++ wsX5_who_r3)) ++ wsX50 ++ wsX30 ++ wsX20 ++ wsX00)
def wsX5_seen : List Cond := .code yX5_seen cX5_seen 3 (some .int) :: ([.fieldLink RX5 10 "KnitChronicle" "town" "LKnitChronicle$Town;", .fieldLink RX5 220 "KnitChronicle$Town" "sights" "I", .fieldLink RX5 223 "KnitChronicle$Town" "fitting" "I", .methodLink RX5 57 yX5_isBelow, .static yX5_isBelow, .initialized RX5, .code yX5_isBelow cX5_isBelow 2 (some .boolean), .methodLink RX5 226 yX5_near, .static yX5_near, .code yX5_near cX5_near 1 (some .int)] ++ wsX50 ++ wsX30)
def wsX5_forget : List Cond := .code yX5_forget cX5_forget 2 (some .int) :: ([.fieldLink RX5 10 "KnitChronicle" "town" "LKnitChronicle$Town;", .fieldLink RX5 220 "KnitChronicle$Town" "sights" "I", .methodLink RX5 229 yX3_forgetSights, .instanceMethod yX3_forgetSights, .selects RX3 yX3_forgetSights yX3_forgetSights, .initialized RX3, .code yX3_forgetSights cX3_forgetSights 1 none, .fieldLink RX3 30 "KnitChronicle$Town" "sights" "I", .fieldLink RX3 22 "KnitChronicle$Town" "fitting" "I"] ++ wsX50 ++ wsX30)
def wsX5_tights : List Cond := .code yX5_tights cX5_tights 1 (some .int) :: ([.fieldLink RX5 10 "KnitChronicle" "town" "LKnitChronicle$Town;", .fieldLink RX5 223 "KnitChronicle$Town" "fitting" "I"] ++ wsX50 ++ wsX30)
def wsX5_mostLeftBy : List Cond := .code yX5_mostLeftBy cX5_mostLeftBy 4 (some .int) :: ([.fieldLink RX5 10 "KnitChronicle" "town" "LKnitChronicle$Town;", .fieldLink RX5 223 "KnitChronicle$Town" "fitting" "I", .methodLink RX5 193 Lib.Math.max.name, .static Lib.Math.max.name, .initialized "java/lang/Math", .code Lib.Math.max.name Lib.Math.max.code 2 (some .int), .methodLink RX5 226 yX5_near, .static yX5_near, .initialized RX5, .code yX5_near cX5_near 1 (some .int), .methodLink RX5 149 yJ6_bitCount_0f7a4, .static yJ6_bitCount_0f7a4, .initialized RJ6, .code yJ6_bitCount_0f7a4 cJ6_bitCount_0f7a4 1 (some .int), .constant RJ6 265 (1431655765), .constant RJ6 266 (858993459), .constant RJ6 267 (252645135)] ++ wsX50 ++ wsX30)
def wsX5_next : List Cond := .code yX5_next cX5_next 4 (some .int) :: ([.fieldLink RX5 10 "KnitChronicle" "town" "LKnitChronicle$Town;", .fieldLink RX5 223 "KnitChronicle$Town" "fitting" "I", .methodLink RX5 57 yX5_isBelow, .static yX5_isBelow, .initialized RX5, .code yX5_isBelow cX5_isBelow 2 (some .boolean), .methodLink RX5 232 yX5_mostLeftBy, .instanceMethod yX5_mostLeftBy, .selects RX5 yX5_mostLeftBy yX5_mostLeftBy, .code yX5_mostLeftBy cX5_mostLeftBy 4 (some .int), .methodLink RX5 193 Lib.Math.max.name, .static Lib.Math.max.name, .initialized "java/lang/Math", .code Lib.Math.max.name Lib.Math.max.code 2 (some .int), .methodLink RX5 226 yX5_near, .static yX5_near, .code yX5_near cX5_near 1 (some .int), .methodLink RX5 149 yJ6_bitCount_0f7a4, .static yJ6_bitCount_0f7a4, .initialized RJ6, .code yJ6_bitCount_0f7a4 cJ6_bitCount_0f7a4 1 (some .int), .constant RJ6 265 (1431655765), .constant RJ6 266 (858993459), .constant RJ6 267 (252645135)] ++ wsX50 ++ wsX30)
def wsX5_termOfTenths : List Cond := .code yX5_termOfTenths cX5_termOfTenths 5 (some .int) :: ([])
def wsX5_power : List Cond := .code yX5_power cX5_power 6 (some .long) :: ([])
def wsX5_moths_r1 : List Cond := [Cond.fieldLink RX5 10 "KnitChronicle" "town" "LKnitChronicle$Town;", Cond.fieldLink RX5 47 "KnitChronicle$Town" "scarf" "LKnitChronicle$Scarf;", Cond.constantLong RX5 235 (-1000000000000000001), Cond.constantLong RX5 237 (-1000000000000000002), Cond.constantLong RX5 239 (-1000000000000000003), Cond.fieldLink RX5 114 "KnitChronicle$Scarf" "eaten" "I", Cond.methodLink RX5 154 yX2_hasAll, Cond.instanceMethod yX2_hasAll, Cond.selects RX2 yX2_hasAll yX2_hasAll, Cond.initialized RX2, Cond.code yX2_hasAll cX2_hasAll 2 (some .boolean), Cond.fieldLink RX2 21 "KnitChronicle$Scarf" "size" "I", Cond.methodLink RX5 57 yX5_isBelow, Cond.static yX5_isBelow, Cond.initialized RX5, Cond.code yX5_isBelow cX5_isBelow 2 (some .boolean), Cond.methodLink RX5 157 yX2_withAnchors, Cond.instanceMethod yX2_withAnchors, Cond.selects RX2 yX2_withAnchors yX2_withAnchors, Cond.code yX2_withAnchors cX2_withAnchors 5 (some .int), Cond.fieldLink RX2 18 "KnitChronicle$Scarf" "anchors" "[I", Cond.static yX5_at, Cond.code yX5_at cX5_at 2 (some .int), Cond.static yX5_isIn]
def wsX5_moths_r2 : List Cond := [Cond.code yX5_isIn cX5_isIn 2 (some .boolean), Cond.methodLink RX5 149 yJ6_bitCount_0f7a4, Cond.static yJ6_bitCount_0f7a4, Cond.initialized RJ6, Cond.code yJ6_bitCount_0f7a4 cJ6_bitCount_0f7a4 1 (some .int), Cond.constant RJ6 265 (1431655765), Cond.constant RJ6 266 (858993459), Cond.constant RJ6 267 (252645135), Cond.methodLink RX5 241 yX5_termOfTenths, Cond.static yX5_termOfTenths, Cond.code yX5_termOfTenths cX5_termOfTenths 5 (some .int), Cond.methodLink RX5 244 yX5_power, Cond.static yX5_power, Cond.code yX5_power cX5_power 6 (some .long)]
def wsX5_moths : List Cond := .code yX5_moths cX5_moths 7 (some .long) :: ((wsX5_moths_r1 ++ wsX5_moths_r2) ++ wsX50 ++ wsX30 ++ wsX20)
def wsX5_tryDrawn_r1 : List Cond := [Cond.methodLink RX5 255 Lib.Math.min.name, Cond.static Lib.Math.min.name, Cond.initialized "java/lang/Math", Cond.code Lib.Math.min.name Lib.Math.min.code 2 (some .int), Cond.fieldLink RX5 32 "KnitChronicle" "trial" "LKnitChronicle$Trial;", Cond.fieldLink RX5 10 "KnitChronicle" "town" "LKnitChronicle$Town;", Cond.methodLink RX5 76 yX3_tightnessOf, Cond.instanceMethod yX3_tightnessOf, Cond.selects RX3 yX3_tightnessOf yX3_tightnessOf, Cond.initialized RX3, Cond.code yX3_tightnessOf cX3_tightnessOf 2 (some .int), Cond.fieldLink RX3 18 "KnitChronicle$Town" "knitterTightness" "[I", Cond.static yX5_at, Cond.initialized RX5, Cond.code yX5_at cX5_at 2 (some .int), Cond.methodLink RX5 142 yX4_act, Cond.instanceMethod yX4_act, Cond.selects RX4 yX4_act yX4_act, Cond.initialized RX4, Cond.code yX4_act cX4_act 5 (some .boolean), Cond.fieldLink RX4 26 "KnitChronicle$Trial" "reason" "I", Cond.fieldLink RX4 22 "KnitChronicle$Trial" "acts" "I", Cond.fieldLink RX4 12 "KnitChronicle$Trial" "scarf" "LKnitChronicle$Scarf;", Cond.methodLink RX4 35 yX4_reasonAgainst]
def wsX5_tryDrawn_r2 : List Cond := [Cond.instanceMethod yX4_reasonAgainst, Cond.selects RX4 yX4_reasonAgainst yX4_reasonAgainst, Cond.code yX4_reasonAgainst cX4_reasonAgainst 3 (some .int), Cond.methodLink RX4 57 yX2_isFull, Cond.instanceMethod yX2_isFull, Cond.selects RX2 yX2_isFull yX2_isFull, Cond.initialized RX2, Cond.code yX2_isFull cX2_isFull 1 (some .boolean), Cond.fieldLink RX2 21 "KnitChronicle$Scarf" "size" "I", Cond.methodLink RX4 61 yX2_has, Cond.instanceMethod yX2_has, Cond.selects RX2 yX2_has yX2_has, Cond.code yX2_has cX2_has 2 (some .boolean), Cond.static yX5_isBelow, Cond.code yX5_isBelow cX5_isBelow 2 (some .boolean), Cond.methodLink RX4 65 yX2_isEaten, Cond.instanceMethod yX2_isEaten, Cond.selects RX2 yX2_isEaten yX2_isEaten, Cond.code yX2_isEaten cX2_isEaten 2 (some .boolean), Cond.fieldLink RX2 29 "KnitChronicle$Scarf" "eaten" "I", Cond.static yX5_isIn, Cond.code yX5_isIn cX5_isIn 2 (some .boolean), Cond.methodLink RX4 39 yX2_unpick, Cond.instanceMethod yX2_unpick]
def wsX5_tryDrawn_r3 : List Cond := [Cond.selects RX2 yX2_unpick yX2_unpick, Cond.code yX2_unpick cX2_unpick 6 (some .int), Cond.fieldLink RX2 9 "KnitChronicle$Scarf" "colours" "[I", Cond.fieldLink RX2 15 "KnitChronicle$Scarf" "tightnesses" "[I", Cond.fieldLink RX2 18 "KnitChronicle$Scarf" "anchors" "[I", Cond.methodLink RX2 51 yX2_undoneWith, Cond.instanceMethod yX2_undoneWith, Cond.selects RX2 yX2_undoneWith yX2_undoneWith, Cond.code yX2_undoneWith cX2_undoneWith 4 (some .int), Cond.static yX5_put, Cond.code yX5_put cX5_put 3 none, Cond.methodLink RX2 54 yX2_closedUp, Cond.static yX2_closedUp, Cond.code yX2_closedUp cX2_closedUp 2 (some .int), Cond.methodLink RX2 62 yJ6_bitCount_0f7a4, Cond.static yJ6_bitCount_0f7a4, Cond.initialized RJ6, Cond.code yJ6_bitCount_0f7a4 cJ6_bitCount_0f7a4 1 (some .int), Cond.constant RJ6 265 (1431655765), Cond.constant RJ6 266 (858993459), Cond.constant RJ6 267 (252645135), Cond.methodLink RX2 58 yX2_isEaten, Cond.methodLink RX4 43 yX4_countUndone, Cond.instanceMethod yX4_countUndone]
def wsX5_tryDrawn_r4 : List Cond := [Cond.selects RX4 yX4_countUndone yX4_countUndone, Cond.code yX4_countUndone cX4_countUndone 2 none, Cond.fieldLink RX4 29 "KnitChronicle$Trial" "mostUndone" "I", Cond.methodLink RX4 68 Lib.Math.max.name, Cond.static Lib.Math.max.name, Cond.code Lib.Math.max.name Lib.Math.max.code 2 (some .int), Cond.fieldLink RX4 32 "KnitChronicle$Trial" "allUndone" "I", Cond.methodLink RX4 47 yX2_eat, Cond.instanceMethod yX2_eat, Cond.selects RX2 yX2_eat yX2_eat, Cond.code yX2_eat cX2_eat 2 none, Cond.methodLink RX4 50 yX2_mend, Cond.instanceMethod yX2_mend, Cond.selects RX2 yX2_mend yX2_mend, Cond.code yX2_mend cX2_mend 3 none, Cond.methodLink RX4 54 yX2_knit, Cond.instanceMethod yX2_knit, Cond.selects RX2 yX2_knit yX2_knit, Cond.code yX2_knit cX2_knit 3 none, Cond.methodLink RX2 43 yX2_lastWholeOf, Cond.instanceMethod yX2_lastWholeOf, Cond.selects RX2 yX2_lastWholeOf yX2_lastWholeOf, Cond.code yX2_lastWholeOf cX2_lastWholeOf 3 (some .int), Cond.methodLink RX2 47 yX2_append]
def wsX5_tryDrawn_r5 : List Cond := [Cond.instanceMethod yX2_append, Cond.selects RX2 yX2_append yX2_append, Cond.code yX2_append cX2_append 4 none]
def wsX5_tryDrawn : List Cond := .code yX5_tryDrawn cX5_tryDrawn 4 none :: ((wsX5_tryDrawn_r1 ++ (wsX5_tryDrawn_r2 ++ (wsX5_tryDrawn_r3 ++ (wsX5_tryDrawn_r4 ++ wsX5_tryDrawn_r5)))) ++ wsX50 ++ wsX30 ++ wsX40 ++ wsX20)
def wsX5_year_r1 : List Cond := [Cond.fieldLink RX5 32 "KnitChronicle" "trial" "LKnitChronicle$Trial;", Cond.fieldLink RX5 10 "KnitChronicle" "town" "LKnitChronicle$Town;", Cond.fieldLink RX5 47 "KnitChronicle$Town" "scarf" "LKnitChronicle$Scarf;", Cond.constant RX5 248 (65537), Cond.fieldLink RX5 109 "KnitChronicle$Trial" "scarf" "LKnitChronicle$Scarf;", Cond.fieldLink RX5 69 "KnitChronicle$Scarf" "size" "I", Cond.fieldLink RX5 114 "KnitChronicle$Scarf" "eaten" "I", Cond.fieldLink RX5 252 "KnitChronicle$Trial" "allUndone" "I", Cond.methodLink RX5 57 yX5_isBelow, Cond.static yX5_isBelow, Cond.initialized RX5, Cond.code yX5_isBelow cX5_isBelow 2 (some .boolean), Cond.methodLink RX5 127 yX4_begin, Cond.instanceMethod yX4_begin, Cond.selects RX4 yX4_begin yX4_begin, Cond.initialized RX4, Cond.code yX4_begin cX4_begin 2 none, Cond.fieldLink RX4 12 "KnitChronicle$Trial" "scarf" "LKnitChronicle$Scarf;", Cond.fieldLink RX4 22 "KnitChronicle$Trial" "acts" "I", Cond.fieldLink RX4 26 "KnitChronicle$Trial" "reason" "I", Cond.fieldLink RX4 29 "KnitChronicle$Trial" "mostUndone" "I", Cond.fieldLink RX4 32 "KnitChronicle$Trial" "allUndone" "I", Cond.methodLink RX4 18 yX2_copy, Cond.instanceMethod yX2_copy]
def wsX5_year_r2 : List Cond := [Cond.selects RX2 yX2_copy yX2_copy, Cond.initialized RX2, Cond.code yX2_copy cX2_copy 3 none, Cond.fieldLink RX2 21 "KnitChronicle$Scarf" "size" "I", Cond.fieldLink RX2 29 "KnitChronicle$Scarf" "eaten" "I", Cond.fieldLink RX2 9 "KnitChronicle$Scarf" "colours" "[I", Cond.fieldLink RX2 15 "KnitChronicle$Scarf" "tightnesses" "[I", Cond.fieldLink RX2 18 "KnitChronicle$Scarf" "anchors" "[I", Cond.static yX5_at, Cond.code yX5_at cX5_at 2 (some .int), Cond.static yX5_put, Cond.code yX5_put cX5_put 3 none, Cond.methodLink RX5 249 yX5_tryDrawn, Cond.instanceMethod yX5_tryDrawn, Cond.selects RX5 yX5_tryDrawn yX5_tryDrawn, Cond.code yX5_tryDrawn cX5_tryDrawn 4 none, Cond.methodLink RX5 255 Lib.Math.min.name, Cond.static Lib.Math.min.name, Cond.initialized "java/lang/Math", Cond.code Lib.Math.min.name Lib.Math.min.code 2 (some .int), Cond.methodLink RX5 76 yX3_tightnessOf, Cond.instanceMethod yX3_tightnessOf, Cond.selects RX3 yX3_tightnessOf yX3_tightnessOf, Cond.initialized RX3]
def wsX5_year_r3 : List Cond := [Cond.code yX3_tightnessOf cX3_tightnessOf 2 (some .int), Cond.fieldLink RX3 18 "KnitChronicle$Town" "knitterTightness" "[I", Cond.methodLink RX5 142 yX4_act, Cond.instanceMethod yX4_act, Cond.selects RX4 yX4_act yX4_act, Cond.code yX4_act cX4_act 5 (some .boolean), Cond.methodLink RX4 35 yX4_reasonAgainst, Cond.instanceMethod yX4_reasonAgainst, Cond.selects RX4 yX4_reasonAgainst yX4_reasonAgainst, Cond.code yX4_reasonAgainst cX4_reasonAgainst 3 (some .int), Cond.methodLink RX4 57 yX2_isFull, Cond.instanceMethod yX2_isFull, Cond.selects RX2 yX2_isFull yX2_isFull, Cond.code yX2_isFull cX2_isFull 1 (some .boolean), Cond.methodLink RX4 61 yX2_has, Cond.instanceMethod yX2_has, Cond.selects RX2 yX2_has yX2_has, Cond.code yX2_has cX2_has 2 (some .boolean), Cond.methodLink RX4 65 yX2_isEaten, Cond.instanceMethod yX2_isEaten, Cond.selects RX2 yX2_isEaten yX2_isEaten, Cond.code yX2_isEaten cX2_isEaten 2 (some .boolean), Cond.static yX5_isIn, Cond.code yX5_isIn cX5_isIn 2 (some .boolean)]
def wsX5_year_r4 : List Cond := [Cond.methodLink RX4 39 yX2_unpick, Cond.instanceMethod yX2_unpick, Cond.selects RX2 yX2_unpick yX2_unpick, Cond.code yX2_unpick cX2_unpick 6 (some .int), Cond.methodLink RX2 51 yX2_undoneWith, Cond.instanceMethod yX2_undoneWith, Cond.selects RX2 yX2_undoneWith yX2_undoneWith, Cond.code yX2_undoneWith cX2_undoneWith 4 (some .int), Cond.methodLink RX2 54 yX2_closedUp, Cond.static yX2_closedUp, Cond.code yX2_closedUp cX2_closedUp 2 (some .int), Cond.methodLink RX2 62 yJ6_bitCount_0f7a4, Cond.static yJ6_bitCount_0f7a4, Cond.initialized RJ6, Cond.code yJ6_bitCount_0f7a4 cJ6_bitCount_0f7a4 1 (some .int), Cond.constant RJ6 265 (1431655765), Cond.constant RJ6 266 (858993459), Cond.constant RJ6 267 (252645135), Cond.methodLink RX2 58 yX2_isEaten, Cond.methodLink RX4 43 yX4_countUndone, Cond.instanceMethod yX4_countUndone, Cond.selects RX4 yX4_countUndone yX4_countUndone, Cond.code yX4_countUndone cX4_countUndone 2 none, Cond.methodLink RX4 68 Lib.Math.max.name]
def wsX5_year_r5 : List Cond := [Cond.static Lib.Math.max.name, Cond.code Lib.Math.max.name Lib.Math.max.code 2 (some .int), Cond.methodLink RX4 47 yX2_eat, Cond.instanceMethod yX2_eat, Cond.selects RX2 yX2_eat yX2_eat, Cond.code yX2_eat cX2_eat 2 none, Cond.methodLink RX4 50 yX2_mend, Cond.instanceMethod yX2_mend, Cond.selects RX2 yX2_mend yX2_mend, Cond.code yX2_mend cX2_mend 3 none, Cond.methodLink RX4 54 yX2_knit, Cond.instanceMethod yX2_knit, Cond.selects RX2 yX2_knit yX2_knit, Cond.code yX2_knit cX2_knit 3 none, Cond.methodLink RX2 43 yX2_lastWholeOf, Cond.instanceMethod yX2_lastWholeOf, Cond.selects RX2 yX2_lastWholeOf yX2_lastWholeOf, Cond.code yX2_lastWholeOf cX2_lastWholeOf 3 (some .int), Cond.methodLink RX2 47 yX2_append, Cond.instanceMethod yX2_append, Cond.selects RX2 yX2_append yX2_append, Cond.code yX2_append cX2_append 4 none, Cond.methodLink RX5 117 yX2_looseOnes, Cond.instanceMethod yX2_looseOnes]
def wsX5_year_r6 : List Cond := [Cond.selects RX2 yX2_looseOnes yX2_looseOnes, Cond.code yX2_looseOnes cX2_looseOnes 3 (some .int), Cond.methodLink RX5 149 yJ6_bitCount_0f7a4]
def wsX5_year : List Cond := .code yX5_year cX5_year 6 (some .int) :: ((wsX5_year_r1 ++ (wsX5_year_r2 ++ (wsX5_year_r3 ++ (wsX5_year_r4 ++ (wsX5_year_r5 ++ wsX5_year_r6))))) ++ wsX50 ++ wsX30 ++ wsX40 ++ wsX20)
def wsX5_image_r1 : List Cond := [Cond.fieldLink RX5 10 "KnitChronicle" "town" "LKnitChronicle$Town;", Cond.fieldLink RX5 172 "KnitChronicle" "keptImages" "I", Cond.methodLink RX5 57 yX5_isBelow, Cond.static yX5_isBelow, Cond.initialized RX5, Cond.code yX5_isBelow cX5_isBelow 2 (some .boolean), Cond.methodLink RX5 178 yX5_imageAt, Cond.instanceMethod yX5_imageAt, Cond.selects RX5 yX5_imageAt yX5_imageAt, Cond.code yX5_imageAt cX5_imageAt 2 (some (.object "KnitChronicle$Town")), Cond.fieldLink RX5 16 "KnitChronicle" "firstImage" "LKnitChronicle$Town;", Cond.fieldLink RX5 19 "KnitChronicle" "secondImage" "LKnitChronicle$Town;", Cond.methodLink RX5 258 yX3_copy, Cond.instanceMethod yX3_copy, Cond.selects RX3 yX3_copy yX3_copy, Cond.initialized RX3, Cond.code yX3_copy cX3_copy 3 none, Cond.fieldLink RX3 12 "KnitChronicle$Town" "scarf" "LKnitChronicle$Scarf;", Cond.fieldLink RX3 18 "KnitChronicle$Town" "knitterTightness" "[I", Cond.fieldLink RX3 30 "KnitChronicle$Town" "sights" "I", Cond.fieldLink RX3 22 "KnitChronicle$Town" "fitting" "I", Cond.methodLink RX3 33 yX2_copy, Cond.instanceMethod yX2_copy, Cond.selects RX2 yX2_copy yX2_copy]
def wsX5_image_r2 : List Cond := [Cond.initialized RX2, Cond.code yX2_copy cX2_copy 3 none, Cond.fieldLink RX2 21 "KnitChronicle$Scarf" "size" "I", Cond.fieldLink RX2 29 "KnitChronicle$Scarf" "eaten" "I", Cond.fieldLink RX2 9 "KnitChronicle$Scarf" "colours" "[I", Cond.fieldLink RX2 15 "KnitChronicle$Scarf" "tightnesses" "[I", Cond.fieldLink RX2 18 "KnitChronicle$Scarf" "anchors" "[I", Cond.static yX5_at, Cond.code yX5_at cX5_at 2 (some .int), Cond.static yX5_put, Cond.code yX5_put cX5_put 3 none, Cond.methodLink RX3 37 yX3_tightnessOf, Cond.instanceMethod yX3_tightnessOf, Cond.selects RX3 yX3_tightnessOf yX3_tightnessOf, Cond.code yX3_tightnessOf cX3_tightnessOf 2 (some .int)]
def wsX5_image : List Cond := .code yX5_image cX5_image 2 (some .int) :: ((wsX5_image_r1 ++ wsX5_image_r2) ++ wsX50 ++ wsX30 ++ wsX20)
def wsX5_restore_r1 : List Cond := [Cond.fieldLink RX5 172 "KnitChronicle" "keptImages" "I", Cond.fieldLink RX5 10 "KnitChronicle" "town" "LKnitChronicle$Town;", Cond.methodLink RX5 57 yX5_isBelow, Cond.static yX5_isBelow, Cond.initialized RX5, Cond.code yX5_isBelow cX5_isBelow 2 (some .boolean), Cond.methodLink RX5 175 yX5_isIn, Cond.static yX5_isIn, Cond.code yX5_isIn cX5_isIn 2 (some .boolean), Cond.methodLink RX5 178 yX5_imageAt, Cond.instanceMethod yX5_imageAt, Cond.selects RX5 yX5_imageAt yX5_imageAt, Cond.code yX5_imageAt cX5_imageAt 2 (some (.object "KnitChronicle$Town")), Cond.fieldLink RX5 16 "KnitChronicle" "firstImage" "LKnitChronicle$Town;", Cond.fieldLink RX5 19 "KnitChronicle" "secondImage" "LKnitChronicle$Town;", Cond.methodLink RX5 258 yX3_copy, Cond.instanceMethod yX3_copy, Cond.selects RX3 yX3_copy yX3_copy, Cond.initialized RX3, Cond.code yX3_copy cX3_copy 3 none, Cond.fieldLink RX3 12 "KnitChronicle$Town" "scarf" "LKnitChronicle$Scarf;", Cond.fieldLink RX3 18 "KnitChronicle$Town" "knitterTightness" "[I", Cond.fieldLink RX3 30 "KnitChronicle$Town" "sights" "I", Cond.fieldLink RX3 22 "KnitChronicle$Town" "fitting" "I"]
def wsX5_restore_r2 : List Cond := [Cond.methodLink RX3 33 yX2_copy, Cond.instanceMethod yX2_copy, Cond.selects RX2 yX2_copy yX2_copy, Cond.initialized RX2, Cond.code yX2_copy cX2_copy 3 none, Cond.fieldLink RX2 21 "KnitChronicle$Scarf" "size" "I", Cond.fieldLink RX2 29 "KnitChronicle$Scarf" "eaten" "I", Cond.fieldLink RX2 9 "KnitChronicle$Scarf" "colours" "[I", Cond.fieldLink RX2 15 "KnitChronicle$Scarf" "tightnesses" "[I", Cond.fieldLink RX2 18 "KnitChronicle$Scarf" "anchors" "[I", Cond.static yX5_at, Cond.code yX5_at cX5_at 2 (some .int), Cond.static yX5_put, Cond.code yX5_put cX5_put 3 none, Cond.methodLink RX3 37 yX3_tightnessOf, Cond.instanceMethod yX3_tightnessOf, Cond.selects RX3 yX3_tightnessOf yX3_tightnessOf, Cond.code yX3_tightnessOf cX3_tightnessOf 2 (some .int)]
def wsX5_restore : List Cond := .code yX5_restore cX5_restore 2 (some .int) :: ((wsX5_restore_r1 ++ wsX5_restore_r2) ++ wsX50 ++ wsX30 ++ wsX20)
def wsX5_toldOfStitch : List Cond := .code yX5_toldOfStitch cX5_toldOfStitch 3 (some .int) :: ([.fieldLink RX5 10 "KnitChronicle" "town" "LKnitChronicle$Town;", .fieldLink RX5 47 "KnitChronicle$Town" "scarf" "LKnitChronicle$Scarf;", .methodLink RX5 51 yX2_has, .instanceMethod yX2_has, .selects RX2 yX2_has yX2_has, .initialized RX2, .code yX2_has cX2_has 2 (some .boolean), .fieldLink RX2 21 "KnitChronicle$Scarf" "size" "I", .static yX5_isBelow, .initialized RX5, .code yX5_isBelow cX5_isBelow 2 (some .boolean), .methodLink RX5 57 yX5_isBelow, .methodLink RX5 123 yX2_trait, .instanceMethod yX2_trait, .selects RX2 yX2_trait yX2_trait, .code yX2_trait cX2_trait 4 (some .int), .fieldLink RX2 9 "KnitChronicle$Scarf" "colours" "[I", .fieldLink RX2 15 "KnitChronicle$Scarf" "tightnesses" "[I", .fieldLink RX2 18 "KnitChronicle$Scarf" "anchors" "[I", .static yX5_at, .code yX5_at cX5_at 2 (some .int)] ++ wsX50 ++ wsX30 ++ wsX20)
def wsX5_told_r1 : List Cond := [Cond.fieldLink RX5 10 "KnitChronicle" "town" "LKnitChronicle$Town;", Cond.fieldLink RX5 25 "KnitChronicle" "pad" "LKnitChronicle$Pad;", Cond.fieldLink RX5 87 "KnitChronicle$Pad" "length" "I", Cond.fieldLink RX5 47 "KnitChronicle$Town" "scarf" "LKnitChronicle$Scarf;", Cond.fieldLink RX5 69 "KnitChronicle$Scarf" "size" "I", Cond.fieldLink RX5 114 "KnitChronicle$Scarf" "eaten" "I", Cond.fieldLink RX5 220 "KnitChronicle$Town" "sights" "I", Cond.methodLink RX5 260 yX5_toldOfStitch, Cond.instanceMethod yX5_toldOfStitch, Cond.selects RX5 yX5_toldOfStitch yX5_toldOfStitch, Cond.initialized RX5, Cond.code yX5_toldOfStitch cX5_toldOfStitch 3 (some .int), Cond.methodLink RX5 51 yX2_has, Cond.instanceMethod yX2_has, Cond.selects RX2 yX2_has yX2_has, Cond.initialized RX2, Cond.code yX2_has cX2_has 2 (some .boolean), Cond.fieldLink RX2 21 "KnitChronicle$Scarf" "size" "I", Cond.static yX5_isBelow, Cond.code yX5_isBelow cX5_isBelow 2 (some .boolean), Cond.methodLink RX5 57 yX5_isBelow, Cond.methodLink RX5 123 yX2_trait, Cond.instanceMethod yX2_trait, Cond.selects RX2 yX2_trait yX2_trait]
def wsX5_told_r2 : List Cond := [Cond.code yX2_trait cX2_trait 4 (some .int), Cond.fieldLink RX2 9 "KnitChronicle$Scarf" "colours" "[I", Cond.fieldLink RX2 15 "KnitChronicle$Scarf" "tightnesses" "[I", Cond.fieldLink RX2 18 "KnitChronicle$Scarf" "anchors" "[I", Cond.static yX5_at, Cond.code yX5_at cX5_at 2 (some .int), Cond.methodLink RX5 76 yX3_tightnessOf, Cond.instanceMethod yX3_tightnessOf, Cond.selects RX3 yX3_tightnessOf yX3_tightnessOf, Cond.initialized RX3, Cond.code yX3_tightnessOf cX3_tightnessOf 2 (some .int), Cond.fieldLink RX3 18 "KnitChronicle$Town" "knitterTightness" "[I", Cond.methodLink RX5 117 yX2_looseOnes, Cond.instanceMethod yX2_looseOnes, Cond.selects RX2 yX2_looseOnes yX2_looseOnes, Cond.code yX2_looseOnes cX2_looseOnes 3 (some .int), Cond.fieldLink RX2 29 "KnitChronicle$Scarf" "eaten" "I", Cond.static yX5_isIn, Cond.code yX5_isIn cX5_isIn 2 (some .boolean)]
def wsX5_told : List Cond := .code yX5_told cX5_told 2 (some .int) :: ((wsX5_told_r1 ++ wsX5_told_r2) ++ wsX50 ++ wsX10 ++ wsX30 ++ wsX20)
def wsX6_init : List Cond := .code yX6_init cX6_init 2 none :: ([.methodLink RX6 1 objectInit, .instanceMethod objectInit, .code objectInit ⟨#[0xb1]⟩ 1 none, .arrayClass .int, .fieldLink RX6 7 "KnitChronicleModel" "book" "[I", .fieldLink RX6 13 "KnitChronicleModel" "now" "[I", .fieldLink RX6 16 "KnitChronicleModel" "knits" "[I", .fieldLink RX6 19 "KnitChronicleModel" "sight" "[I", .fieldLink RX6 22 "KnitChronicleModel" "pad" "[I", .fieldLink RX6 25 "KnitChronicleModel" "place" "[I", .fieldLink RX6 28 "KnitChronicleModel" "image" "[I", .arrayClass .boolean, .fieldLink RX6 31 "KnitChronicleModel" "isKept" "[Z", .fieldLink RX6 35 "KnitChronicleModel" "agree" "[I", .fieldLink RX6 38 "KnitChronicleModel" "changes" "[I"] ++ wsX60)
def wsX6_in : List Cond := .code yX6_in cX6_in 3 (some .boolean) :: ([])
def wsX6_has : List Cond := .code yX6_has cX6_has 2 (some .boolean) :: ([])
def wsX6_bits : List Cond := .code yX6_bits cX6_bits 3 (some .int) :: ([])
def wsX6_isKnitter : List Cond := .code yX6_isKnitter cX6_isKnitter 1 (some .boolean) :: ([.methodLink RX6 41 yX6_in, .static yX6_in, .initialized RX6, .code yX6_in cX6_in 3 (some .boolean)])
def wsX6_isStitch : List Cond := .code yX6_isStitch cX6_isStitch 2 (some .boolean) :: ([.fieldLink RX6 7 "KnitChronicleModel" "book" "[I", .methodLink RX6 41 yX6_in, .static yX6_in, .initialized RX6, .code yX6_in cX6_in 3 (some .boolean)] ++ wsX60)
def wsX6_stitch : List Cond := .code yX6_stitch cX6_stitch 5 (some .int) :: ([.fieldLink RX6 7 "KnitChronicleModel" "book" "[I", .methodLink RX6 45 yX6_isStitch, .instanceMethod yX6_isStitch, .selects RX6 yX6_isStitch yX6_isStitch, .initialized RX6, .code yX6_isStitch cX6_isStitch 2 (some .boolean), .methodLink RX6 41 yX6_in, .static yX6_in, .code yX6_in cX6_in 3 (some .boolean)] ++ wsX60)
def wsX6_cast : List Cond := .code yX6_cast cX6_cast 2 (some .int) :: ([.fieldLink RX6 7 "KnitChronicleModel" "book" "[I"] ++ wsX60)
def wsX6_knitter : List Cond := .code yX6_knitter cX6_knitter 4 (some .int) :: ([.fieldLink RX6 16 "KnitChronicleModel" "knits" "[I", .methodLink RX6 49 yX6_isKnitter, .static yX6_isKnitter, .initialized RX6, .code yX6_isKnitter cX6_isKnitter 1 (some .boolean), .methodLink RX6 41 yX6_in, .static yX6_in, .code yX6_in cX6_in 3 (some .boolean)] ++ wsX60)
def wsX6_say : List Cond := .code yX6_say cX6_say 2 (some .int) :: ([.fieldLink RX6 52 "KnitChronicleModel" "signs" "I", .fieldLink RX6 22 "KnitChronicleModel" "pad" "[I", .methodLink RX6 41 yX6_in, .static yX6_in, .initialized RX6, .code yX6_in cX6_in 3 (some .boolean)] ++ wsX60)
def wsX6_wipe : List Cond := .code yX6_wipe cX6_wipe 2 (some .int) :: ([.fieldLink RX6 52 "KnitChronicleModel" "signs" "I"] ++ wsX60)
def wsX6_isHand : List Cond := .code yX6_isHand cX6_isHand 1 (some .boolean) :: ([.methodLink RX6 41 yX6_in, .static yX6_in, .initialized RX6, .code yX6_in cX6_in 3 (some .boolean)])
def wsX6_isLetter : List Cond := .code yX6_isLetter cX6_isLetter 1 (some .boolean) :: ([.methodLink RX6 41 yX6_in, .static yX6_in, .initialized RX6, .code yX6_in cX6_in 3 (some .boolean)])
def wsX6_faultOf : List Cond := .code yX6_faultOf cX6_faultOf 6 (some .int) :: ([.fieldLink RX6 52 "KnitChronicleModel" "signs" "I", .fieldLink RX6 22 "KnitChronicleModel" "pad" "[I", .methodLink RX6 56 yX6_isHand, .static yX6_isHand, .initialized RX6, .code yX6_isHand cX6_isHand 1 (some .boolean), .methodLink RX6 41 yX6_in, .static yX6_in, .code yX6_in cX6_in 3 (some .boolean), .methodLink RX6 59 yX6_isLetter, .static yX6_isLetter, .code yX6_isLetter cX6_isLetter 1 (some .boolean)] ++ wsX60)
def wsX6_fault : List Cond := .code yX6_fault cX6_fault 1 (some .int) :: ([.methodLink RX6 62 yX6_faultOf, .instanceMethod yX6_faultOf, .selects RX6 yX6_faultOf yX6_faultOf, .initialized RX6, .code yX6_faultOf cX6_faultOf 6 (some .int), .fieldLink RX6 52 "KnitChronicleModel" "signs" "I", .fieldLink RX6 22 "KnitChronicleModel" "pad" "[I", .methodLink RX6 56 yX6_isHand, .static yX6_isHand, .code yX6_isHand cX6_isHand 1 (some .boolean), .methodLink RX6 41 yX6_in, .static yX6_in, .code yX6_in cX6_in 3 (some .boolean), .methodLink RX6 59 yX6_isLetter, .static yX6_isLetter, .code yX6_isLetter cX6_isLetter 1 (some .boolean)] ++ wsX60)
def wsX6_asNow : List Cond := .code yX6_asNow cX6_asNow 2 none :: ([.fieldLink RX6 13 "KnitChronicleModel" "now" "[I", .fieldLink RX6 7 "KnitChronicleModel" "book" "[I", .fieldLink RX6 66 "KnitChronicleModel" "undone" "I"] ++ wsX60)
def wsX6_threadOf : List Cond := .code yX6_threadOf cX6_threadOf 5 (some .int) :: ([.fieldLink RX6 13 "KnitChronicleModel" "now" "[I", .methodLink RX6 69 yX6_has, .static yX6_has, .initialized RX6, .code yX6_has cX6_has 2 (some .boolean)] ++ wsX60)
def wsX6_takeOut : List Cond := .code yX6_takeOut cX6_takeOut 5 none :: ([.fieldLink RX6 13 "KnitChronicleModel" "now" "[I", .fieldLink RX6 25 "KnitChronicleModel" "place" "[I", .methodLink RX6 69 yX6_has, .static yX6_has, .initialized RX6, .code yX6_has cX6_has 2 (some .boolean)] ++ wsX60)
def wsX6_knit : List Cond := .code yX6_knit cX6_knit 6 (some .int) :: ([.fieldLink RX6 13 "KnitChronicleModel" "now" "[I", .fieldLink RX6 16 "KnitChronicleModel" "knits" "[I"] ++ wsX60)
def wsX6_pullOut : List Cond := .code yX6_pullOut cX6_pullOut 3 (some .int) :: ([.fieldLink RX6 13 "KnitChronicleModel" "now" "[I", .methodLink RX6 73 yX6_threadOf, .instanceMethod yX6_threadOf, .selects RX6 yX6_threadOf yX6_threadOf, .initialized RX6, .code yX6_threadOf cX6_threadOf 5 (some .int), .methodLink RX6 69 yX6_has, .static yX6_has, .code yX6_has cX6_has 2 (some .boolean), .methodLink RX6 77 yX6_takeOut, .instanceMethod yX6_takeOut, .selects RX6 yX6_takeOut yX6_takeOut, .code yX6_takeOut cX6_takeOut 5 none, .fieldLink RX6 25 "KnitChronicleModel" "place" "[I", .methodLink RX6 81 yX6_bits, .static yX6_bits, .code yX6_bits cX6_bits 3 (some .int)] ++ wsX60)
def wsX6_eat : List Cond := .code yX6_eat cX6_eat 2 (some .int) :: ([.fieldLink RX6 13 "KnitChronicleModel" "now" "[I"] ++ wsX60)
def wsX6_mend : List Cond := .code yX6_mend cX6_mend 3 (some .int) :: ([.fieldLink RX6 13 "KnitChronicleModel" "now" "[I", .fieldLink RX6 16 "KnitChronicleModel" "knits" "[I"] ++ wsX60)
def wsX6_goWeeks_r1 : List Cond := [Cond.fieldLink RX6 87 "KnitChronicleModel" "acts" "I", Cond.fieldLink RX6 52 "KnitChronicleModel" "signs" "I", Cond.fieldLink RX6 22 "KnitChronicleModel" "pad" "[I", Cond.fieldLink RX6 94 "KnitChronicleModel" "reason" "I", Cond.fieldLink RX6 66 "KnitChronicleModel" "undone" "I", Cond.methodLink RX6 84 yX6_asNow, Cond.instanceMethod yX6_asNow, Cond.selects RX6 yX6_asNow yX6_asNow, Cond.initialized RX6, Cond.code yX6_asNow cX6_asNow 2 none, Cond.fieldLink RX6 13 "KnitChronicleModel" "now" "[I", Cond.fieldLink RX6 7 "KnitChronicleModel" "book" "[I", Cond.methodLink RX6 56 yX6_isHand, Cond.static yX6_isHand, Cond.code yX6_isHand cX6_isHand 1 (some .boolean), Cond.methodLink RX6 41 yX6_in, Cond.static yX6_in, Cond.code yX6_in cX6_in 3 (some .boolean), Cond.methodLink RX6 90 yX6_knit, Cond.instanceMethod yX6_knit, Cond.selects RX6 yX6_knit yX6_knit, Cond.code yX6_knit cX6_knit 6 (some .int), Cond.fieldLink RX6 16 "KnitChronicleModel" "knits" "[I", Cond.methodLink RX6 97 yX6_pullOut]
def wsX6_goWeeks_r2 : List Cond := [Cond.instanceMethod yX6_pullOut, Cond.selects RX6 yX6_pullOut yX6_pullOut, Cond.code yX6_pullOut cX6_pullOut 3 (some .int), Cond.methodLink RX6 73 yX6_threadOf, Cond.instanceMethod yX6_threadOf, Cond.selects RX6 yX6_threadOf yX6_threadOf, Cond.code yX6_threadOf cX6_threadOf 5 (some .int), Cond.methodLink RX6 69 yX6_has, Cond.static yX6_has, Cond.code yX6_has cX6_has 2 (some .boolean), Cond.methodLink RX6 77 yX6_takeOut, Cond.instanceMethod yX6_takeOut, Cond.selects RX6 yX6_takeOut yX6_takeOut, Cond.code yX6_takeOut cX6_takeOut 5 none, Cond.fieldLink RX6 25 "KnitChronicleModel" "place" "[I", Cond.methodLink RX6 81 yX6_bits, Cond.static yX6_bits, Cond.code yX6_bits cX6_bits 3 (some .int), Cond.methodLink RX6 100 yX6_eat, Cond.instanceMethod yX6_eat, Cond.selects RX6 yX6_eat yX6_eat, Cond.code yX6_eat cX6_eat 2 (some .int), Cond.methodLink RX6 103 yX6_mend, Cond.instanceMethod yX6_mend]
def wsX6_goWeeks_r3 : List Cond := [Cond.selects RX6 yX6_mend yX6_mend, Cond.code yX6_mend cX6_mend 3 (some .int)]
def wsX6_goWeeks : List Cond := .code yX6_goWeeks cX6_goWeeks 5 (some .int) :: ((wsX6_goWeeks_r1 ++ (wsX6_goWeeks_r2 ++ wsX6_goWeeks_r3)) ++ wsX60)
def wsX6_judge_r1 : List Cond := [Cond.fieldLink RX6 94 "KnitChronicleModel" "reason" "I", Cond.methodLink RX6 41 yX6_in, Cond.static yX6_in, Cond.initialized RX6, Cond.code yX6_in cX6_in 3 (some .boolean), Cond.methodLink RX6 62 yX6_faultOf, Cond.instanceMethod yX6_faultOf, Cond.selects RX6 yX6_faultOf yX6_faultOf, Cond.code yX6_faultOf cX6_faultOf 6 (some .int), Cond.fieldLink RX6 52 "KnitChronicleModel" "signs" "I", Cond.fieldLink RX6 22 "KnitChronicleModel" "pad" "[I", Cond.methodLink RX6 56 yX6_isHand, Cond.static yX6_isHand, Cond.code yX6_isHand cX6_isHand 1 (some .boolean), Cond.methodLink RX6 59 yX6_isLetter, Cond.static yX6_isLetter, Cond.code yX6_isLetter cX6_isLetter 1 (some .boolean), Cond.methodLink RX6 106 yX6_goWeeks, Cond.instanceMethod yX6_goWeeks, Cond.selects RX6 yX6_goWeeks yX6_goWeeks, Cond.code yX6_goWeeks cX6_goWeeks 5 (some .int), Cond.fieldLink RX6 87 "KnitChronicleModel" "acts" "I", Cond.fieldLink RX6 66 "KnitChronicleModel" "undone" "I", Cond.methodLink RX6 84 yX6_asNow]
def wsX6_judge_r2 : List Cond := [Cond.instanceMethod yX6_asNow, Cond.selects RX6 yX6_asNow yX6_asNow, Cond.code yX6_asNow cX6_asNow 2 none, Cond.fieldLink RX6 13 "KnitChronicleModel" "now" "[I", Cond.fieldLink RX6 7 "KnitChronicleModel" "book" "[I", Cond.methodLink RX6 90 yX6_knit, Cond.instanceMethod yX6_knit, Cond.selects RX6 yX6_knit yX6_knit, Cond.code yX6_knit cX6_knit 6 (some .int), Cond.fieldLink RX6 16 "KnitChronicleModel" "knits" "[I", Cond.methodLink RX6 97 yX6_pullOut, Cond.instanceMethod yX6_pullOut, Cond.selects RX6 yX6_pullOut yX6_pullOut, Cond.code yX6_pullOut cX6_pullOut 3 (some .int), Cond.methodLink RX6 73 yX6_threadOf, Cond.instanceMethod yX6_threadOf, Cond.selects RX6 yX6_threadOf yX6_threadOf, Cond.code yX6_threadOf cX6_threadOf 5 (some .int), Cond.methodLink RX6 69 yX6_has, Cond.static yX6_has, Cond.code yX6_has cX6_has 2 (some .boolean), Cond.methodLink RX6 77 yX6_takeOut, Cond.instanceMethod yX6_takeOut, Cond.selects RX6 yX6_takeOut yX6_takeOut]
def wsX6_judge_r3 : List Cond := [Cond.code yX6_takeOut cX6_takeOut 5 none, Cond.fieldLink RX6 25 "KnitChronicleModel" "place" "[I", Cond.methodLink RX6 81 yX6_bits, Cond.static yX6_bits, Cond.code yX6_bits cX6_bits 3 (some .int), Cond.methodLink RX6 100 yX6_eat, Cond.instanceMethod yX6_eat, Cond.selects RX6 yX6_eat yX6_eat, Cond.code yX6_eat cX6_eat 2 (some .int), Cond.methodLink RX6 103 yX6_mend, Cond.instanceMethod yX6_mend, Cond.selects RX6 yX6_mend yX6_mend, Cond.code yX6_mend cX6_mend 3 (some .int)]
def wsX6_judge : List Cond := .code yX6_judge cX6_judge 3 (some .int) :: ((wsX6_judge_r1 ++ (wsX6_judge_r2 ++ wsX6_judge_r3)) ++ wsX60)
def wsX6_barOfWeeks_r1 : List Cond := [Cond.methodLink RX6 62 yX6_faultOf, Cond.instanceMethod yX6_faultOf, Cond.selects RX6 yX6_faultOf yX6_faultOf, Cond.initialized RX6, Cond.code yX6_faultOf cX6_faultOf 6 (some .int), Cond.fieldLink RX6 52 "KnitChronicleModel" "signs" "I", Cond.fieldLink RX6 22 "KnitChronicleModel" "pad" "[I", Cond.methodLink RX6 56 yX6_isHand, Cond.static yX6_isHand, Cond.code yX6_isHand cX6_isHand 1 (some .boolean), Cond.methodLink RX6 41 yX6_in, Cond.static yX6_in, Cond.code yX6_in cX6_in 3 (some .boolean), Cond.methodLink RX6 59 yX6_isLetter, Cond.static yX6_isLetter, Cond.code yX6_isLetter cX6_isLetter 1 (some .boolean), Cond.methodLink RX6 106 yX6_goWeeks, Cond.instanceMethod yX6_goWeeks, Cond.selects RX6 yX6_goWeeks yX6_goWeeks, Cond.code yX6_goWeeks cX6_goWeeks 5 (some .int), Cond.fieldLink RX6 87 "KnitChronicleModel" "acts" "I", Cond.fieldLink RX6 94 "KnitChronicleModel" "reason" "I", Cond.fieldLink RX6 66 "KnitChronicleModel" "undone" "I", Cond.methodLink RX6 84 yX6_asNow]
def wsX6_barOfWeeks_r2 : List Cond := [Cond.instanceMethod yX6_asNow, Cond.selects RX6 yX6_asNow yX6_asNow, Cond.code yX6_asNow cX6_asNow 2 none, Cond.fieldLink RX6 13 "KnitChronicleModel" "now" "[I", Cond.fieldLink RX6 7 "KnitChronicleModel" "book" "[I", Cond.methodLink RX6 90 yX6_knit, Cond.instanceMethod yX6_knit, Cond.selects RX6 yX6_knit yX6_knit, Cond.code yX6_knit cX6_knit 6 (some .int), Cond.fieldLink RX6 16 "KnitChronicleModel" "knits" "[I", Cond.methodLink RX6 97 yX6_pullOut, Cond.instanceMethod yX6_pullOut, Cond.selects RX6 yX6_pullOut yX6_pullOut, Cond.code yX6_pullOut cX6_pullOut 3 (some .int), Cond.methodLink RX6 73 yX6_threadOf, Cond.instanceMethod yX6_threadOf, Cond.selects RX6 yX6_threadOf yX6_threadOf, Cond.code yX6_threadOf cX6_threadOf 5 (some .int), Cond.methodLink RX6 69 yX6_has, Cond.static yX6_has, Cond.code yX6_has cX6_has 2 (some .boolean), Cond.methodLink RX6 77 yX6_takeOut, Cond.instanceMethod yX6_takeOut, Cond.selects RX6 yX6_takeOut yX6_takeOut]
def wsX6_barOfWeeks_r3 : List Cond := [Cond.code yX6_takeOut cX6_takeOut 5 none, Cond.fieldLink RX6 25 "KnitChronicleModel" "place" "[I", Cond.methodLink RX6 81 yX6_bits, Cond.static yX6_bits, Cond.code yX6_bits cX6_bits 3 (some .int), Cond.methodLink RX6 100 yX6_eat, Cond.instanceMethod yX6_eat, Cond.selects RX6 yX6_eat yX6_eat, Cond.code yX6_eat cX6_eat 2 (some .int), Cond.methodLink RX6 103 yX6_mend, Cond.instanceMethod yX6_mend, Cond.selects RX6 yX6_mend yX6_mend, Cond.code yX6_mend cX6_mend 3 (some .int)]
def wsX6_barOfWeeks : List Cond := .code yX6_barOfWeeks cX6_barOfWeeks 1 (some .int) :: ((wsX6_barOfWeeks_r1 ++ (wsX6_barOfWeeks_r2 ++ wsX6_barOfWeeks_r3)) ++ wsX60)
def wsX6_done_r1 : List Cond := [Cond.fieldLink RX6 7 "KnitChronicleModel" "book" "[I", Cond.fieldLink RX6 13 "KnitChronicleModel" "now" "[I", Cond.fieldLink RX6 52 "KnitChronicleModel" "signs" "I", Cond.fieldLink RX6 87 "KnitChronicleModel" "acts" "I", Cond.methodLink RX6 109 yX6_barOfWeeks, Cond.instanceMethod yX6_barOfWeeks, Cond.selects RX6 yX6_barOfWeeks yX6_barOfWeeks, Cond.initialized RX6, Cond.code yX6_barOfWeeks cX6_barOfWeeks 1 (some .int), Cond.methodLink RX6 62 yX6_faultOf, Cond.instanceMethod yX6_faultOf, Cond.selects RX6 yX6_faultOf yX6_faultOf, Cond.code yX6_faultOf cX6_faultOf 6 (some .int), Cond.fieldLink RX6 22 "KnitChronicleModel" "pad" "[I", Cond.methodLink RX6 56 yX6_isHand, Cond.static yX6_isHand, Cond.code yX6_isHand cX6_isHand 1 (some .boolean), Cond.methodLink RX6 41 yX6_in, Cond.static yX6_in, Cond.code yX6_in cX6_in 3 (some .boolean), Cond.methodLink RX6 59 yX6_isLetter, Cond.static yX6_isLetter, Cond.code yX6_isLetter cX6_isLetter 1 (some .boolean), Cond.methodLink RX6 106 yX6_goWeeks]
def wsX6_done_r2 : List Cond := [Cond.instanceMethod yX6_goWeeks, Cond.selects RX6 yX6_goWeeks yX6_goWeeks, Cond.code yX6_goWeeks cX6_goWeeks 5 (some .int), Cond.fieldLink RX6 94 "KnitChronicleModel" "reason" "I", Cond.fieldLink RX6 66 "KnitChronicleModel" "undone" "I", Cond.methodLink RX6 84 yX6_asNow, Cond.instanceMethod yX6_asNow, Cond.selects RX6 yX6_asNow yX6_asNow, Cond.code yX6_asNow cX6_asNow 2 none, Cond.methodLink RX6 90 yX6_knit, Cond.instanceMethod yX6_knit, Cond.selects RX6 yX6_knit yX6_knit, Cond.code yX6_knit cX6_knit 6 (some .int), Cond.fieldLink RX6 16 "KnitChronicleModel" "knits" "[I", Cond.methodLink RX6 97 yX6_pullOut, Cond.instanceMethod yX6_pullOut, Cond.selects RX6 yX6_pullOut yX6_pullOut, Cond.code yX6_pullOut cX6_pullOut 3 (some .int), Cond.methodLink RX6 73 yX6_threadOf, Cond.instanceMethod yX6_threadOf, Cond.selects RX6 yX6_threadOf yX6_threadOf, Cond.code yX6_threadOf cX6_threadOf 5 (some .int), Cond.methodLink RX6 69 yX6_has, Cond.static yX6_has]
def wsX6_done_r3 : List Cond := [Cond.code yX6_has cX6_has 2 (some .boolean), Cond.methodLink RX6 77 yX6_takeOut, Cond.instanceMethod yX6_takeOut, Cond.selects RX6 yX6_takeOut yX6_takeOut, Cond.code yX6_takeOut cX6_takeOut 5 none, Cond.fieldLink RX6 25 "KnitChronicleModel" "place" "[I", Cond.methodLink RX6 81 yX6_bits, Cond.static yX6_bits, Cond.code yX6_bits cX6_bits 3 (some .int), Cond.methodLink RX6 100 yX6_eat, Cond.instanceMethod yX6_eat, Cond.selects RX6 yX6_eat yX6_eat, Cond.code yX6_eat cX6_eat 2 (some .int), Cond.methodLink RX6 103 yX6_mend, Cond.instanceMethod yX6_mend, Cond.selects RX6 yX6_mend yX6_mend, Cond.code yX6_mend cX6_mend 3 (some .int)]
def wsX6_done : List Cond := .code yX6_done cX6_done 2 (some .int) :: ((wsX6_done_r1 ++ (wsX6_done_r2 ++ wsX6_done_r3)) ++ wsX60)
def wsX6_eatenSet : List Cond := .code yX6_eatenSet cX6_eatenSet 3 (some .int) :: ([.fieldLink RX6 13 "KnitChronicleModel" "now" "[I"] ++ wsX60)
def wsX6_looseSet : List Cond := .code yX6_looseSet cX6_looseSet 5 (some .int) :: ([.fieldLink RX6 13 "KnitChronicleModel" "now" "[I", .methodLink RX6 112 yX6_eatenSet, .instanceMethod yX6_eatenSet, .selects RX6 yX6_eatenSet yX6_eatenSet, .initialized RX6, .code yX6_eatenSet cX6_eatenSet 3 (some .int), .methodLink RX6 69 yX6_has, .static yX6_has, .code yX6_has cX6_has 2 (some .boolean)] ++ wsX60)
def wsX6_behind_r1 : List Cond := [Cond.fieldLink RX6 13 "KnitChronicleModel" "now" "[I", Cond.fieldLink RX6 66 "KnitChronicleModel" "undone" "I", Cond.methodLink RX6 41 yX6_in, Cond.static yX6_in, Cond.initialized RX6, Cond.code yX6_in cX6_in 3 (some .boolean), Cond.methodLink RX6 109 yX6_barOfWeeks, Cond.instanceMethod yX6_barOfWeeks, Cond.selects RX6 yX6_barOfWeeks yX6_barOfWeeks, Cond.code yX6_barOfWeeks cX6_barOfWeeks 1 (some .int), Cond.methodLink RX6 62 yX6_faultOf, Cond.instanceMethod yX6_faultOf, Cond.selects RX6 yX6_faultOf yX6_faultOf, Cond.code yX6_faultOf cX6_faultOf 6 (some .int), Cond.fieldLink RX6 52 "KnitChronicleModel" "signs" "I", Cond.fieldLink RX6 22 "KnitChronicleModel" "pad" "[I", Cond.methodLink RX6 56 yX6_isHand, Cond.static yX6_isHand, Cond.code yX6_isHand cX6_isHand 1 (some .boolean), Cond.methodLink RX6 59 yX6_isLetter, Cond.static yX6_isLetter, Cond.code yX6_isLetter cX6_isLetter 1 (some .boolean), Cond.methodLink RX6 106 yX6_goWeeks, Cond.instanceMethod yX6_goWeeks]
def wsX6_behind_r2 : List Cond := [Cond.selects RX6 yX6_goWeeks yX6_goWeeks, Cond.code yX6_goWeeks cX6_goWeeks 5 (some .int), Cond.fieldLink RX6 87 "KnitChronicleModel" "acts" "I", Cond.fieldLink RX6 94 "KnitChronicleModel" "reason" "I", Cond.methodLink RX6 84 yX6_asNow, Cond.instanceMethod yX6_asNow, Cond.selects RX6 yX6_asNow yX6_asNow, Cond.code yX6_asNow cX6_asNow 2 none, Cond.fieldLink RX6 7 "KnitChronicleModel" "book" "[I", Cond.methodLink RX6 90 yX6_knit, Cond.instanceMethod yX6_knit, Cond.selects RX6 yX6_knit yX6_knit, Cond.code yX6_knit cX6_knit 6 (some .int), Cond.fieldLink RX6 16 "KnitChronicleModel" "knits" "[I", Cond.methodLink RX6 97 yX6_pullOut, Cond.instanceMethod yX6_pullOut, Cond.selects RX6 yX6_pullOut yX6_pullOut, Cond.code yX6_pullOut cX6_pullOut 3 (some .int), Cond.methodLink RX6 73 yX6_threadOf, Cond.instanceMethod yX6_threadOf, Cond.selects RX6 yX6_threadOf yX6_threadOf, Cond.code yX6_threadOf cX6_threadOf 5 (some .int), Cond.methodLink RX6 69 yX6_has, Cond.static yX6_has]
def wsX6_behind_r3 : List Cond := [Cond.code yX6_has cX6_has 2 (some .boolean), Cond.methodLink RX6 77 yX6_takeOut, Cond.instanceMethod yX6_takeOut, Cond.selects RX6 yX6_takeOut yX6_takeOut, Cond.code yX6_takeOut cX6_takeOut 5 none, Cond.fieldLink RX6 25 "KnitChronicleModel" "place" "[I", Cond.methodLink RX6 81 yX6_bits, Cond.static yX6_bits, Cond.code yX6_bits cX6_bits 3 (some .int), Cond.methodLink RX6 100 yX6_eat, Cond.instanceMethod yX6_eat, Cond.selects RX6 yX6_eat yX6_eat, Cond.code yX6_eat cX6_eat 2 (some .int), Cond.methodLink RX6 103 yX6_mend, Cond.instanceMethod yX6_mend, Cond.selects RX6 yX6_mend yX6_mend, Cond.code yX6_mend cX6_mend 3 (some .int), Cond.methodLink RX6 112 yX6_eatenSet, Cond.instanceMethod yX6_eatenSet, Cond.selects RX6 yX6_eatenSet yX6_eatenSet, Cond.code yX6_eatenSet cX6_eatenSet 3 (some .int), Cond.methodLink RX6 115 yX6_looseSet, Cond.instanceMethod yX6_looseSet, Cond.selects RX6 yX6_looseSet yX6_looseSet]
def wsX6_behind_r4 : List Cond := [Cond.code yX6_looseSet cX6_looseSet 5 (some .int)]
def wsX6_behind : List Cond := .code yX6_behind cX6_behind 2 (some .int) :: ((wsX6_behind_r1 ++ (wsX6_behind_r2 ++ (wsX6_behind_r3 ++ wsX6_behind_r4))) ++ wsX60)
def wsX6_of_r1 : List Cond := [Cond.fieldLink RX6 13 "KnitChronicleModel" "now" "[I", Cond.methodLink RX6 41 yX6_in, Cond.static yX6_in, Cond.initialized RX6, Cond.code yX6_in cX6_in 3 (some .boolean), Cond.methodLink RX6 109 yX6_barOfWeeks, Cond.instanceMethod yX6_barOfWeeks, Cond.selects RX6 yX6_barOfWeeks yX6_barOfWeeks, Cond.code yX6_barOfWeeks cX6_barOfWeeks 1 (some .int), Cond.methodLink RX6 62 yX6_faultOf, Cond.instanceMethod yX6_faultOf, Cond.selects RX6 yX6_faultOf yX6_faultOf, Cond.code yX6_faultOf cX6_faultOf 6 (some .int), Cond.fieldLink RX6 52 "KnitChronicleModel" "signs" "I", Cond.fieldLink RX6 22 "KnitChronicleModel" "pad" "[I", Cond.methodLink RX6 56 yX6_isHand, Cond.static yX6_isHand, Cond.code yX6_isHand cX6_isHand 1 (some .boolean), Cond.methodLink RX6 59 yX6_isLetter, Cond.static yX6_isLetter, Cond.code yX6_isLetter cX6_isLetter 1 (some .boolean), Cond.methodLink RX6 106 yX6_goWeeks, Cond.instanceMethod yX6_goWeeks, Cond.selects RX6 yX6_goWeeks yX6_goWeeks]
def wsX6_of_r2 : List Cond := [Cond.code yX6_goWeeks cX6_goWeeks 5 (some .int), Cond.fieldLink RX6 87 "KnitChronicleModel" "acts" "I", Cond.fieldLink RX6 94 "KnitChronicleModel" "reason" "I", Cond.fieldLink RX6 66 "KnitChronicleModel" "undone" "I", Cond.methodLink RX6 84 yX6_asNow, Cond.instanceMethod yX6_asNow, Cond.selects RX6 yX6_asNow yX6_asNow, Cond.code yX6_asNow cX6_asNow 2 none, Cond.fieldLink RX6 7 "KnitChronicleModel" "book" "[I", Cond.methodLink RX6 90 yX6_knit, Cond.instanceMethod yX6_knit, Cond.selects RX6 yX6_knit yX6_knit, Cond.code yX6_knit cX6_knit 6 (some .int), Cond.fieldLink RX6 16 "KnitChronicleModel" "knits" "[I", Cond.methodLink RX6 97 yX6_pullOut, Cond.instanceMethod yX6_pullOut, Cond.selects RX6 yX6_pullOut yX6_pullOut, Cond.code yX6_pullOut cX6_pullOut 3 (some .int), Cond.methodLink RX6 73 yX6_threadOf, Cond.instanceMethod yX6_threadOf, Cond.selects RX6 yX6_threadOf yX6_threadOf, Cond.code yX6_threadOf cX6_threadOf 5 (some .int), Cond.methodLink RX6 69 yX6_has, Cond.static yX6_has]
def wsX6_of_r3 : List Cond := [Cond.code yX6_has cX6_has 2 (some .boolean), Cond.methodLink RX6 77 yX6_takeOut, Cond.instanceMethod yX6_takeOut, Cond.selects RX6 yX6_takeOut yX6_takeOut, Cond.code yX6_takeOut cX6_takeOut 5 none, Cond.fieldLink RX6 25 "KnitChronicleModel" "place" "[I", Cond.methodLink RX6 81 yX6_bits, Cond.static yX6_bits, Cond.code yX6_bits cX6_bits 3 (some .int), Cond.methodLink RX6 100 yX6_eat, Cond.instanceMethod yX6_eat, Cond.selects RX6 yX6_eat yX6_eat, Cond.code yX6_eat cX6_eat 2 (some .int), Cond.methodLink RX6 103 yX6_mend, Cond.instanceMethod yX6_mend, Cond.selects RX6 yX6_mend yX6_mend, Cond.code yX6_mend cX6_mend 3 (some .int)]
def wsX6_of : List Cond := .code yX6_of cX6_of 3 (some .int) :: ((wsX6_of_r1 ++ (wsX6_of_r2 ++ wsX6_of_r3)) ++ wsX60)
def wsX6_pull_r1 : List Cond := [Cond.methodLink RX6 45 yX6_isStitch, Cond.instanceMethod yX6_isStitch, Cond.selects RX6 yX6_isStitch yX6_isStitch, Cond.initialized RX6, Cond.code yX6_isStitch cX6_isStitch 2 (some .boolean), Cond.fieldLink RX6 7 "KnitChronicleModel" "book" "[I", Cond.methodLink RX6 41 yX6_in, Cond.static yX6_in, Cond.code yX6_in cX6_in 3 (some .boolean), Cond.methodLink RX6 84 yX6_asNow, Cond.instanceMethod yX6_asNow, Cond.selects RX6 yX6_asNow yX6_asNow, Cond.code yX6_asNow cX6_asNow 2 none, Cond.fieldLink RX6 13 "KnitChronicleModel" "now" "[I", Cond.fieldLink RX6 66 "KnitChronicleModel" "undone" "I", Cond.methodLink RX6 73 yX6_threadOf, Cond.instanceMethod yX6_threadOf, Cond.selects RX6 yX6_threadOf yX6_threadOf, Cond.code yX6_threadOf cX6_threadOf 5 (some .int), Cond.methodLink RX6 69 yX6_has, Cond.static yX6_has, Cond.code yX6_has cX6_has 2 (some .boolean), Cond.methodLink RX6 81 yX6_bits, Cond.static yX6_bits]
def wsX6_pull_r2 : List Cond := [Cond.code yX6_bits cX6_bits 3 (some .int)]
def wsX6_pull : List Cond := .code yX6_pull cX6_pull 2 (some .int) :: ((wsX6_pull_r1 ++ wsX6_pull_r2) ++ wsX60)
def wsX6_pulls : List Cond := .code yX6_pulls cX6_pulls 9 (some .int) :: ([.fieldLink RX6 7 "KnitChronicleModel" "book" "[I", .fieldLink RX6 13 "KnitChronicleModel" "now" "[I", .methodLink RX6 41 yX6_in, .static yX6_in, .initialized RX6, .code yX6_in cX6_in 3 (some .boolean), .methodLink RX6 84 yX6_asNow, .instanceMethod yX6_asNow, .selects RX6 yX6_asNow yX6_asNow, .code yX6_asNow cX6_asNow 2 none, .fieldLink RX6 66 "KnitChronicleModel" "undone" "I", .methodLink RX6 69 yX6_has, .static yX6_has, .code yX6_has cX6_has 2 (some .boolean), .methodLink RX6 73 yX6_threadOf, .instanceMethod yX6_threadOf, .selects RX6 yX6_threadOf yX6_threadOf, .code yX6_threadOf cX6_threadOf 5 (some .int), .methodLink RX6 81 yX6_bits, .static yX6_bits, .code yX6_bits cX6_bits 3 (some .int)] ++ wsX60)
def wsX6_patternOf : List Cond := .code yX6_patternOf cX6_patternOf 5 (some .int) :: ([.fieldLink RX6 7 "KnitChronicleModel" "book" "[I"] ++ wsX60)
def wsX6_pattern : List Cond := .code yX6_pattern cX6_pattern 1 (some .int) :: ([.methodLink RX6 118 yX6_patternOf, .instanceMethod yX6_patternOf, .selects RX6 yX6_patternOf yX6_patternOf, .initialized RX6, .code yX6_patternOf cX6_patternOf 5 (some .int), .fieldLink RX6 7 "KnitChronicleModel" "book" "[I"] ++ wsX60)
def wsX6_hole : List Cond := .code yX6_hole cX6_hole 5 (some .int) :: ([.fieldLink RX6 7 "KnitChronicleModel" "book" "[I", .methodLink RX6 45 yX6_isStitch, .instanceMethod yX6_isStitch, .selects RX6 yX6_isStitch yX6_isStitch, .initialized RX6, .code yX6_isStitch cX6_isStitch 2 (some .boolean), .methodLink RX6 41 yX6_in, .static yX6_in, .code yX6_in cX6_in 3 (some .boolean), .methodLink RX6 118 yX6_patternOf, .instanceMethod yX6_patternOf, .selects RX6 yX6_patternOf yX6_patternOf, .code yX6_patternOf cX6_patternOf 5 (some .int)] ++ wsX60)
def wsX6_rip : List Cond := .code yX6_rip cX6_rip 9 (some .int) :: ([.fieldLink RX6 31 "KnitChronicleModel" "isKept" "[Z", .fieldLink RX6 28 "KnitChronicleModel" "image" "[I", .fieldLink RX6 7 "KnitChronicleModel" "book" "[I", .fieldLink RX6 35 "KnitChronicleModel" "agree" "[I", .methodLink RX6 41 yX6_in, .static yX6_in, .initialized RX6, .code yX6_in cX6_in 3 (some .boolean)] ++ wsX60)
def wsX6_stretches : List Cond := .code yX6_stretches cX6_stretches 8 (some .int) :: ([.fieldLink RX6 7 "KnitChronicleModel" "book" "[I", .constant RX6 121 (1000000)] ++ wsX60)
def wsX6_hold : List Cond := .code yX6_hold cX6_hold 5 (some .int) :: ([.methodLink RX6 41 yX6_in, .static yX6_in, .initialized RX6, .code yX6_in cX6_in 3 (some .boolean), .methodLink RX6 122 yX6_stretches, .instanceMethod yX6_stretches, .selects RX6 yX6_stretches yX6_stretches, .code yX6_stretches cX6_stretches 8 (some .int), .fieldLink RX6 7 "KnitChronicleModel" "book" "[I", .constant RX6 121 (1000000)] ++ wsX60)
def wsX6_mayKnit : List Cond := .code yX6_mayKnit cX6_mayKnit 3 (some .boolean) :: ([.fieldLink RX6 7 "KnitChronicleModel" "book" "[I", .fieldLink RX6 16 "KnitChronicleModel" "knits" "[I", .methodLink RX6 41 yX6_in, .static yX6_in, .initialized RX6, .code yX6_in cX6_in 3 (some .boolean)] ++ wsX60)
def wsX6_layHands : List Cond := .code yX6_layHands cX6_layHands 6 none :: ([.fieldLink RX6 7 "KnitChronicleModel" "book" "[I", .constant RX6 121 (1000000), .fieldLink RX6 38 "KnitChronicleModel" "changes" "[I", .methodLink RX6 125 yX6_mayKnit, .instanceMethod yX6_mayKnit, .selects RX6 yX6_mayKnit yX6_mayKnit, .initialized RX6, .code yX6_mayKnit cX6_mayKnit 3 (some .boolean), .fieldLink RX6 16 "KnitChronicleModel" "knits" "[I", .methodLink RX6 41 yX6_in, .static yX6_in, .code yX6_in cX6_in 3 (some .boolean)] ++ wsX60)
def wsX6_fewest : List Cond := .code yX6_fewest cX6_fewest 4 (some .int) :: ([.constant RX6 121 (1000000), .fieldLink RX6 38 "KnitChronicleModel" "changes" "[I"] ++ wsX60)
def wsX6_hands : List Cond := .code yX6_hands cX6_hands 1 (some .int) :: ([.fieldLink RX6 7 "KnitChronicleModel" "book" "[I", .constant RX6 121 (1000000), .methodLink RX6 128 yX6_layHands, .instanceMethod yX6_layHands, .selects RX6 yX6_layHands yX6_layHands, .initialized RX6, .code yX6_layHands cX6_layHands 6 none, .fieldLink RX6 38 "KnitChronicleModel" "changes" "[I", .methodLink RX6 125 yX6_mayKnit, .instanceMethod yX6_mayKnit, .selects RX6 yX6_mayKnit yX6_mayKnit, .code yX6_mayKnit cX6_mayKnit 3 (some .boolean), .fieldLink RX6 16 "KnitChronicleModel" "knits" "[I", .methodLink RX6 41 yX6_in, .static yX6_in, .code yX6_in cX6_in 3 (some .boolean), .methodLink RX6 131 yX6_fewest, .instanceMethod yX6_fewest, .selects RX6 yX6_fewest yX6_fewest, .code yX6_fewest cX6_fewest 4 (some .int)] ++ wsX60)
def wsX6_who : List Cond := .code yX6_who cX6_who 8 (some .int) :: ([.constant RX6 121 (1000000), .fieldLink RX6 38 "KnitChronicleModel" "changes" "[I", .methodLink RX6 45 yX6_isStitch, .instanceMethod yX6_isStitch, .selects RX6 yX6_isStitch yX6_isStitch, .initialized RX6, .code yX6_isStitch cX6_isStitch 2 (some .boolean), .fieldLink RX6 7 "KnitChronicleModel" "book" "[I", .methodLink RX6 41 yX6_in, .static yX6_in, .code yX6_in cX6_in 3 (some .boolean), .methodLink RX6 128 yX6_layHands, .instanceMethod yX6_layHands, .selects RX6 yX6_layHands yX6_layHands, .code yX6_layHands cX6_layHands 6 none, .methodLink RX6 125 yX6_mayKnit, .instanceMethod yX6_mayKnit, .selects RX6 yX6_mayKnit yX6_mayKnit, .code yX6_mayKnit cX6_mayKnit 3 (some .boolean), .fieldLink RX6 16 "KnitChronicleModel" "knits" "[I", .methodLink RX6 131 yX6_fewest, .instanceMethod yX6_fewest, .selects RX6 yX6_fewest yX6_fewest, .code yX6_fewest cX6_fewest 4 (some .int)] ++ wsX60)
def wsX6_seen : List Cond := .code yX6_seen cX6_seen 3 (some .int) :: ([.fieldLink RX6 134 "KnitChronicleModel" "sights" "I", .fieldLink RX6 19 "KnitChronicleModel" "sight" "[I", .methodLink RX6 41 yX6_in, .static yX6_in, .initialized RX6, .code yX6_in cX6_in 3 (some .boolean)] ++ wsX60)
def wsX6_forget : List Cond := .code yX6_forget cX6_forget 2 (some .int) :: ([.fieldLink RX6 134 "KnitChronicleModel" "sights" "I"] ++ wsX60)
def wsX6_tightSet : List Cond := .code yX6_tightSet cX6_tightSet 5 (some .int) :: ([.fieldLink RX6 134 "KnitChronicleModel" "sights" "I", .fieldLink RX6 19 "KnitChronicleModel" "sight" "[I", .methodLink RX6 41 yX6_in, .static yX6_in, .initialized RX6, .code yX6_in cX6_in 3 (some .boolean)] ++ wsX60)
def wsX6_tights : List Cond := .code yX6_tights cX6_tights 1 (some .int) :: ([.methodLink RX6 137 yX6_tightSet, .instanceMethod yX6_tightSet, .selects RX6 yX6_tightSet yX6_tightSet, .initialized RX6, .code yX6_tightSet cX6_tightSet 5 (some .int), .fieldLink RX6 134 "KnitChronicleModel" "sights" "I", .fieldLink RX6 19 "KnitChronicleModel" "sight" "[I", .methodLink RX6 41 yX6_in, .static yX6_in, .code yX6_in cX6_in 3 (some .boolean)] ++ wsX60)
def wsX6_next : List Cond := .code yX6_next cX6_next 8 (some .int) :: ([.constant RX6 121 (1000000), .methodLink RX6 41 yX6_in, .static yX6_in, .initialized RX6, .code yX6_in cX6_in 3 (some .boolean), .methodLink RX6 137 yX6_tightSet, .instanceMethod yX6_tightSet, .selects RX6 yX6_tightSet yX6_tightSet, .code yX6_tightSet cX6_tightSet 5 (some .int), .fieldLink RX6 134 "KnitChronicleModel" "sights" "I", .fieldLink RX6 19 "KnitChronicleModel" "sight" "[I", .methodLink RX6 69 yX6_has, .static yX6_has, .code yX6_has cX6_has 2 (some .boolean), .methodLink RX6 81 yX6_bits, .static yX6_bits, .code yX6_bits cX6_bits 3 (some .int)] ++ wsX60)
def wsX6_power : List Cond := .code yX6_power cX6_power 6 (some .long) :: ([])
def wsX6_moths : List Cond := .code yX6_moths cX6_moths 16 (some .long) :: ([.fieldLink RX6 7 "KnitChronicleModel" "book" "[I", .constantLong RX6 140 (-1000000000000000001), .constantLong RX6 142 (-1000000000000000002), .constantLong RX6 144 (-1000000000000000003), .constantLong RX6 146 (10), .methodLink RX6 41 yX6_in, .static yX6_in, .initialized RX6, .code yX6_in cX6_in 3 (some .boolean), .methodLink RX6 69 yX6_has, .static yX6_has, .code yX6_has cX6_has 2 (some .boolean), .methodLink RX6 81 yX6_bits, .static yX6_bits, .code yX6_bits cX6_bits 3 (some .int), .methodLink RX6 148 yX6_power, .static yX6_power, .code yX6_power cX6_power 6 (some .long)] ++ wsX60)
def wsX6_year_r1 : List Cond := [Cond.constant RX6 152 (65537), Cond.fieldLink RX6 13 "KnitChronicleModel" "now" "[I", Cond.methodLink RX6 41 yX6_in, Cond.static yX6_in, Cond.initialized RX6, Cond.code yX6_in cX6_in 3 (some .boolean), Cond.methodLink RX6 84 yX6_asNow, Cond.instanceMethod yX6_asNow, Cond.selects RX6 yX6_asNow yX6_asNow, Cond.code yX6_asNow cX6_asNow 2 none, Cond.fieldLink RX6 7 "KnitChronicleModel" "book" "[I", Cond.fieldLink RX6 66 "KnitChronicleModel" "undone" "I", Cond.methodLink RX6 97 yX6_pullOut, Cond.instanceMethod yX6_pullOut, Cond.selects RX6 yX6_pullOut yX6_pullOut, Cond.code yX6_pullOut cX6_pullOut 3 (some .int), Cond.methodLink RX6 73 yX6_threadOf, Cond.instanceMethod yX6_threadOf, Cond.selects RX6 yX6_threadOf yX6_threadOf, Cond.code yX6_threadOf cX6_threadOf 5 (some .int), Cond.methodLink RX6 69 yX6_has, Cond.static yX6_has, Cond.code yX6_has cX6_has 2 (some .boolean), Cond.methodLink RX6 77 yX6_takeOut]
def wsX6_year_r2 : List Cond := [Cond.instanceMethod yX6_takeOut, Cond.selects RX6 yX6_takeOut yX6_takeOut, Cond.code yX6_takeOut cX6_takeOut 5 none, Cond.fieldLink RX6 25 "KnitChronicleModel" "place" "[I", Cond.methodLink RX6 81 yX6_bits, Cond.static yX6_bits, Cond.code yX6_bits cX6_bits 3 (some .int), Cond.methodLink RX6 100 yX6_eat, Cond.instanceMethod yX6_eat, Cond.selects RX6 yX6_eat yX6_eat, Cond.code yX6_eat cX6_eat 2 (some .int), Cond.methodLink RX6 103 yX6_mend, Cond.instanceMethod yX6_mend, Cond.selects RX6 yX6_mend yX6_mend, Cond.code yX6_mend cX6_mend 3 (some .int), Cond.fieldLink RX6 16 "KnitChronicleModel" "knits" "[I", Cond.methodLink RX6 90 yX6_knit, Cond.instanceMethod yX6_knit, Cond.selects RX6 yX6_knit yX6_knit, Cond.code yX6_knit cX6_knit 6 (some .int), Cond.methodLink RX6 112 yX6_eatenSet, Cond.instanceMethod yX6_eatenSet, Cond.selects RX6 yX6_eatenSet yX6_eatenSet, Cond.code yX6_eatenSet cX6_eatenSet 3 (some .int)]
def wsX6_year_r3 : List Cond := [Cond.methodLink RX6 115 yX6_looseSet, Cond.instanceMethod yX6_looseSet, Cond.selects RX6 yX6_looseSet yX6_looseSet, Cond.code yX6_looseSet cX6_looseSet 5 (some .int)]
def wsX6_year : List Cond := .code yX6_year cX6_year 10 (some .int) :: ((wsX6_year_r1 ++ (wsX6_year_r2 ++ wsX6_year_r3)) ++ wsX60)
def wsX6_image : List Cond := .code yX6_image cX6_image 4 (some .int) :: ([.fieldLink RX6 28 "KnitChronicleModel" "image" "[I", .fieldLink RX6 7 "KnitChronicleModel" "book" "[I", .fieldLink RX6 16 "KnitChronicleModel" "knits" "[I", .fieldLink RX6 19 "KnitChronicleModel" "sight" "[I", .fieldLink RX6 134 "KnitChronicleModel" "sights" "I", .fieldLink RX6 31 "KnitChronicleModel" "isKept" "[Z", .methodLink RX6 41 yX6_in, .static yX6_in, .initialized RX6, .code yX6_in cX6_in 3 (some .boolean)] ++ wsX60)
def wsX6_restore : List Cond := .code yX6_restore cX6_restore 4 (some .int) :: ([.fieldLink RX6 31 "KnitChronicleModel" "isKept" "[Z", .fieldLink RX6 7 "KnitChronicleModel" "book" "[I", .fieldLink RX6 28 "KnitChronicleModel" "image" "[I", .fieldLink RX6 16 "KnitChronicleModel" "knits" "[I", .fieldLink RX6 19 "KnitChronicleModel" "sight" "[I", .fieldLink RX6 134 "KnitChronicleModel" "sights" "I", .methodLink RX6 41 yX6_in, .static yX6_in, .initialized RX6, .code yX6_in cX6_in 3 (some .boolean)] ++ wsX60)
def wsX6_told_r1 : List Cond := [Cond.fieldLink RX6 7 "KnitChronicleModel" "book" "[I", Cond.fieldLink RX6 16 "KnitChronicleModel" "knits" "[I", Cond.fieldLink RX6 52 "KnitChronicleModel" "signs" "I", Cond.fieldLink RX6 134 "KnitChronicleModel" "sights" "I", Cond.methodLink RX6 45 yX6_isStitch, Cond.instanceMethod yX6_isStitch, Cond.selects RX6 yX6_isStitch yX6_isStitch, Cond.initialized RX6, Cond.code yX6_isStitch cX6_isStitch 2 (some .boolean), Cond.methodLink RX6 41 yX6_in, Cond.static yX6_in, Cond.code yX6_in cX6_in 3 (some .boolean), Cond.methodLink RX6 49 yX6_isKnitter, Cond.static yX6_isKnitter, Cond.code yX6_isKnitter cX6_isKnitter 1 (some .boolean), Cond.methodLink RX6 84 yX6_asNow, Cond.instanceMethod yX6_asNow, Cond.selects RX6 yX6_asNow yX6_asNow, Cond.code yX6_asNow cX6_asNow 2 none, Cond.fieldLink RX6 13 "KnitChronicleModel" "now" "[I", Cond.fieldLink RX6 66 "KnitChronicleModel" "undone" "I", Cond.methodLink RX6 112 yX6_eatenSet, Cond.instanceMethod yX6_eatenSet, Cond.selects RX6 yX6_eatenSet yX6_eatenSet]
def wsX6_told_r2 : List Cond := [Cond.code yX6_eatenSet cX6_eatenSet 3 (some .int), Cond.methodLink RX6 115 yX6_looseSet, Cond.instanceMethod yX6_looseSet, Cond.selects RX6 yX6_looseSet yX6_looseSet, Cond.code yX6_looseSet cX6_looseSet 5 (some .int), Cond.methodLink RX6 69 yX6_has, Cond.static yX6_has, Cond.code yX6_has cX6_has 2 (some .boolean)]
def wsX6_told : List Cond := .code yX6_told cX6_told 3 (some .int) :: ((wsX6_told_r1 ++ wsX6_told_r2) ++ wsX60)
def wsJ9_max_7cf53 : List Cond := .code yJ9_max_7cf53 cJ9_max_7cf53 2 (some .int) :: ([])
def wsJ9_min_7cf53 : List Cond := .code yJ9_min_7cf53 cJ9_min_7cf53 2 (some .int) :: ([])
def wsL_law_r1 : List Cond := [Cond.classLink RL 7 RX5, Cond.instantiable RX5 8, Cond.initialized RX5, Cond.classLink RL 10 RX6, Cond.instantiable RX6 15, Cond.initialized RX6, Cond.methodLink RL 9 yX5_init, Cond.instanceMethod yX5_init, Cond.code yX5_init cX5_init 1 none, Cond.methodLink RX5 1 objectInit, Cond.instanceMethod objectInit, Cond.code objectInit ⟨#[0xb1]⟩ 1 none, Cond.classLink RX5 7 RX3, Cond.instantiable RX3 4, Cond.initialized RX3, Cond.fieldLink RX5 10 "KnitChronicle" "town" "LKnitChronicle$Town;", Cond.fieldLink RX5 16 "KnitChronicle" "firstImage" "LKnitChronicle$Town;", Cond.fieldLink RX5 19 "KnitChronicle" "secondImage" "LKnitChronicle$Town;", Cond.classLink RX5 22 RX1, Cond.instantiable RX1 2, Cond.initialized RX1, Cond.fieldLink RX5 25 "KnitChronicle" "pad" "LKnitChronicle$Pad;", Cond.classLink RX5 29 RX4, Cond.instantiable RX4 5]
def wsL_law_r2 : List Cond := [Cond.initialized RX4, Cond.fieldLink RX5 32 "KnitChronicle" "trial" "LKnitChronicle$Trial;", Cond.classLink RX5 36 RX0, Cond.instantiable RX0 1, Cond.initialized RX0, Cond.fieldLink RX5 39 "KnitChronicle" "handChanges" "LKnitChronicle$HandChanges;", Cond.arrayClass .int, Cond.fieldLink RX5 43 "KnitChronicle" "sharedColours" "[I", Cond.instanceMethod yX3_init, Cond.code yX3_init cX3_init 1 none, Cond.methodLink RX3 3 objectInit, Cond.classLink RX3 9 RX2, Cond.instantiable RX2 5, Cond.initialized RX2, Cond.fieldLink RX3 12 "KnitChronicle$Town" "scarf" "LKnitChronicle$Scarf;", Cond.fieldLink RX3 18 "KnitChronicle$Town" "knitterTightness" "[I", Cond.fieldLink RX3 22 "KnitChronicle$Town" "fitting" "I", Cond.instanceMethod yX2_init, Cond.code yX2_init cX2_init 1 none, Cond.methodLink RX2 3 objectInit, Cond.fieldLink RX2 9 "KnitChronicle$Scarf" "colours" "[I", Cond.fieldLink RX2 15 "KnitChronicle$Scarf" "tightnesses" "[I", Cond.fieldLink RX2 18 "KnitChronicle$Scarf" "anchors" "[I", Cond.instanceMethod yX1_init]
def wsL_law_r3 : List Cond := [Cond.code yX1_init cX1_init 1 none, Cond.methodLink RX1 3 objectInit, Cond.fieldLink RX1 9 "KnitChronicle$Pad" "signs" "[I", Cond.instanceMethod yX4_init, Cond.code yX4_init cX4_init 1 none, Cond.methodLink RX4 3 objectInit, Cond.classLink RX4 9 RX2, Cond.fieldLink RX4 12 "KnitChronicle$Trial" "scarf" "LKnitChronicle$Scarf;", Cond.instanceMethod yX0_init, Cond.code yX0_init cX0_init 1 none, Cond.methodLink RX0 3 objectInit, Cond.fieldLink RX0 9 "KnitChronicle$HandChanges" "changes" "[I", Cond.methodLink RL 12 yX6_init, Cond.instanceMethod yX6_init, Cond.code yX6_init cX6_init 2 none, Cond.methodLink RX6 1 objectInit, Cond.fieldLink RX6 7 "KnitChronicleModel" "book" "[I", Cond.fieldLink RX6 13 "KnitChronicleModel" "now" "[I", Cond.fieldLink RX6 16 "KnitChronicleModel" "knits" "[I", Cond.fieldLink RX6 19 "KnitChronicleModel" "sight" "[I", Cond.fieldLink RX6 22 "KnitChronicleModel" "pad" "[I", Cond.fieldLink RX6 25 "KnitChronicleModel" "place" "[I", Cond.fieldLink RX6 28 "KnitChronicleModel" "image" "[I", Cond.arrayClass .boolean]
def wsL_law_r4 : List Cond := [Cond.fieldLink RX6 31 "KnitChronicleModel" "isKept" "[Z", Cond.fieldLink RX6 35 "KnitChronicleModel" "agree" "[I", Cond.fieldLink RX6 38 "KnitChronicleModel" "changes" "[I", Cond.methodLink RL 13 yX5_stitch, Cond.instanceMethod yX5_stitch, Cond.selects RX5 yX5_stitch yX5_stitch, Cond.code yX5_stitch cX5_stitch 5 (some .int), Cond.fieldLink RX5 47 "KnitChronicle$Town" "scarf" "LKnitChronicle$Scarf;", Cond.fieldLink RX5 69 "KnitChronicle$Scarf" "size" "I", Cond.methodLink RX5 51 yX2_has, Cond.instanceMethod yX2_has, Cond.selects RX2 yX2_has yX2_has, Cond.code yX2_has cX2_has 2 (some .boolean), Cond.fieldLink RX2 21 "KnitChronicle$Scarf" "size" "I", Cond.static yX5_isBelow, Cond.code yX5_isBelow cX5_isBelow 2 (some .boolean), Cond.methodLink RX5 57 yX5_isBelow, Cond.methodLink RX5 61 yX2_isFull, Cond.instanceMethod yX2_isFull, Cond.selects RX2 yX2_isFull yX2_isFull, Cond.code yX2_isFull cX2_isFull 1 (some .boolean), Cond.methodLink RX5 65 yX2_append, Cond.instanceMethod yX2_append, Cond.selects RX2 yX2_append yX2_append]
def wsL_law_r5 : List Cond := [Cond.code yX2_append cX2_append 4 none, Cond.static yX5_put, Cond.code yX5_put cX5_put 3 none, Cond.methodLink RL 17 yX6_stitch, Cond.instanceMethod yX6_stitch, Cond.selects RX6 yX6_stitch yX6_stitch, Cond.code yX6_stitch cX6_stitch 5 (some .int), Cond.methodLink RX6 45 yX6_isStitch, Cond.instanceMethod yX6_isStitch, Cond.selects RX6 yX6_isStitch yX6_isStitch, Cond.code yX6_isStitch cX6_isStitch 2 (some .boolean), Cond.methodLink RX6 41 yX6_in, Cond.static yX6_in, Cond.code yX6_in cX6_in 3 (some .boolean), Cond.methodLink RL 18 yX5_cast, Cond.instanceMethod yX5_cast, Cond.selects RX5 yX5_cast yX5_cast, Cond.code yX5_cast cX5_cast 2 (some .int), Cond.methodLink RX5 73 yX2_clear, Cond.instanceMethod yX2_clear, Cond.selects RX2 yX2_clear yX2_clear, Cond.code yX2_clear cX2_clear 1 none, Cond.fieldLink RX2 29 "KnitChronicle$Scarf" "eaten" "I", Cond.methodLink RL 22 yX6_cast]
def wsL_law_r6 : List Cond := [Cond.instanceMethod yX6_cast, Cond.selects RX6 yX6_cast yX6_cast, Cond.code yX6_cast cX6_cast 2 (some .int), Cond.methodLink RL 23 yX5_knitter, Cond.instanceMethod yX5_knitter, Cond.selects RX5 yX5_knitter yX5_knitter, Cond.code yX5_knitter cX5_knitter 4 (some .int), Cond.fieldLink RX5 80 "KnitChronicle$Town" "knitterTightness" "[I", Cond.methodLink RX5 76 yX3_tightnessOf, Cond.instanceMethod yX3_tightnessOf, Cond.selects RX3 yX3_tightnessOf yX3_tightnessOf, Cond.code yX3_tightnessOf cX3_tightnessOf 2 (some .int), Cond.static yX5_at, Cond.code yX5_at cX5_at 2 (some .int), Cond.methodLink RX5 83 yX5_put, Cond.methodLink RL 27 yX6_knitter, Cond.instanceMethod yX6_knitter, Cond.selects RX6 yX6_knitter yX6_knitter, Cond.code yX6_knitter cX6_knitter 4 (some .int), Cond.methodLink RX6 49 yX6_isKnitter, Cond.static yX6_isKnitter, Cond.code yX6_isKnitter cX6_isKnitter 1 (some .boolean), Cond.methodLink RL 28 yX5_say, Cond.instanceMethod yX5_say]
def wsL_law_r7 : List Cond := [Cond.selects RX5 yX5_say yX5_say, Cond.code yX5_say cX5_say 2 (some .int), Cond.fieldLink RX5 87 "KnitChronicle$Pad" "length" "I", Cond.methodLink RX5 90 yX1_append, Cond.instanceMethod yX1_append, Cond.selects RX1 yX1_append yX1_append, Cond.code yX1_append cX1_append 2 none, Cond.fieldLink RX1 15 "KnitChronicle$Pad" "length" "I", Cond.methodLink RL 32 yX6_say, Cond.instanceMethod yX6_say, Cond.selects RX6 yX6_say yX6_say, Cond.code yX6_say cX6_say 2 (some .int), Cond.fieldLink RX6 52 "KnitChronicleModel" "signs" "I", Cond.methodLink RL 33 yX5_wipe, Cond.instanceMethod yX5_wipe, Cond.selects RX5 yX5_wipe yX5_wipe, Cond.code yX5_wipe cX5_wipe 2 (some .int), Cond.methodLink RL 36 yX6_wipe, Cond.instanceMethod yX6_wipe, Cond.selects RX6 yX6_wipe yX6_wipe, Cond.code yX6_wipe cX6_wipe 2 (some .int), Cond.methodLink RL 37 yX5_fault, Cond.instanceMethod yX5_fault, Cond.selects RX5 yX5_fault yX5_fault]
def wsL_law_r8 : List Cond := [Cond.code yX5_fault cX5_fault 1 (some .int), Cond.methodLink RX5 93 yX1_firstFault, Cond.instanceMethod yX1_firstFault, Cond.selects RX1 yX1_firstFault yX1_firstFault, Cond.code yX1_firstFault cX1_firstFault 3 (some .int), Cond.methodLink RX1 23 yX1_wantedAfter, Cond.instanceMethod yX1_wantedAfter, Cond.selects RX1 yX1_wantedAfter yX1_wantedAfter, Cond.code yX1_wantedAfter cX1_wantedAfter 3 (some .int), Cond.methodLink RX1 27 yX1_colourAt, Cond.instanceMethod yX1_colourAt, Cond.selects RX1 yX1_colourAt yX1_colourAt, Cond.code yX1_colourAt cX1_colourAt 2 (some .int), Cond.methodLink RX1 35 yX1_stitchAt, Cond.instanceMethod yX1_stitchAt, Cond.selects RX1 yX1_stitchAt yX1_stitchAt, Cond.code yX1_stitchAt cX1_stitchAt 2 (some .int), Cond.methodLink RX1 38 yX1_knitterAt, Cond.instanceMethod yX1_knitterAt, Cond.selects RX1 yX1_knitterAt yX1_knitterAt, Cond.code yX1_knitterAt cX1_knitterAt 2 (some .int), Cond.methodLink RX1 41 yX1_kindAt, Cond.instanceMethod yX1_kindAt, Cond.selects RX1 yX1_kindAt yX1_kindAt]
def wsL_law_r9 : List Cond := [Cond.code yX1_kindAt cX1_kindAt 2 (some .int), Cond.methodLink RX1 44 yX1_wantedBy, Cond.static yX1_wantedBy, Cond.code yX1_wantedBy cX1_wantedBy 1 (some .int), Cond.methodLink RL 40 yX6_fault, Cond.instanceMethod yX6_fault, Cond.selects RX6 yX6_fault yX6_fault, Cond.code yX6_fault cX6_fault 1 (some .int), Cond.methodLink RX6 62 yX6_faultOf, Cond.instanceMethod yX6_faultOf, Cond.selects RX6 yX6_faultOf yX6_faultOf, Cond.code yX6_faultOf cX6_faultOf 6 (some .int), Cond.methodLink RX6 56 yX6_isHand, Cond.static yX6_isHand, Cond.code yX6_isHand cX6_isHand 1 (some .boolean), Cond.methodLink RX6 59 yX6_isLetter, Cond.static yX6_isLetter, Cond.code yX6_isLetter cX6_isLetter 1 (some .boolean), Cond.methodLink RL 41 yX5_judge, Cond.instanceMethod yX5_judge, Cond.selects RX5 yX5_judge yX5_judge, Cond.code yX5_judge cX5_judge 2 (some .int), Cond.fieldLink RX5 100 "KnitChronicle$Trial" "acts" "I", Cond.fieldLink RX5 103 "KnitChronicle$Trial" "reason" "I"]
def wsL_law_r10 : List Cond := [Cond.methodLink RX5 97 yX5_tryWeeks, Cond.instanceMethod yX5_tryWeeks, Cond.selects RX5 yX5_tryWeeks yX5_tryWeeks, Cond.code yX5_tryWeeks cX5_tryWeeks 6 (some .boolean), Cond.methodLink RX5 127 yX4_begin, Cond.instanceMethod yX4_begin, Cond.selects RX4 yX4_begin yX4_begin, Cond.code yX4_begin cX4_begin 2 none, Cond.fieldLink RX4 22 "KnitChronicle$Trial" "acts" "I", Cond.fieldLink RX4 26 "KnitChronicle$Trial" "reason" "I", Cond.fieldLink RX4 29 "KnitChronicle$Trial" "mostUndone" "I", Cond.fieldLink RX4 32 "KnitChronicle$Trial" "allUndone" "I", Cond.methodLink RX4 18 yX2_copy, Cond.instanceMethod yX2_copy, Cond.selects RX2 yX2_copy yX2_copy, Cond.code yX2_copy cX2_copy 3 none, Cond.methodLink RX5 130 yX1_kindAt, Cond.methodLink RX5 133 yX1_stitchAt, Cond.methodLink RX5 136 yX1_colourAt, Cond.methodLink RX5 139 yX1_knitterAt, Cond.methodLink RX5 142 yX4_act, Cond.instanceMethod yX4_act, Cond.selects RX4 yX4_act yX4_act, Cond.code yX4_act cX4_act 5 (some .boolean)]
def wsL_law_r11 : List Cond := [Cond.methodLink RX4 35 yX4_reasonAgainst, Cond.instanceMethod yX4_reasonAgainst, Cond.selects RX4 yX4_reasonAgainst yX4_reasonAgainst, Cond.code yX4_reasonAgainst cX4_reasonAgainst 3 (some .int), Cond.methodLink RX4 57 yX2_isFull, Cond.methodLink RX4 61 yX2_has, Cond.methodLink RX4 65 yX2_isEaten, Cond.instanceMethod yX2_isEaten, Cond.selects RX2 yX2_isEaten yX2_isEaten, Cond.code yX2_isEaten cX2_isEaten 2 (some .boolean), Cond.static yX5_isIn, Cond.code yX5_isIn cX5_isIn 2 (some .boolean), Cond.methodLink RX4 39 yX2_unpick, Cond.instanceMethod yX2_unpick, Cond.selects RX2 yX2_unpick yX2_unpick, Cond.code yX2_unpick cX2_unpick 6 (some .int), Cond.methodLink RX2 51 yX2_undoneWith, Cond.instanceMethod yX2_undoneWith, Cond.selects RX2 yX2_undoneWith yX2_undoneWith, Cond.code yX2_undoneWith cX2_undoneWith 4 (some .int), Cond.methodLink RX2 54 yX2_closedUp, Cond.static yX2_closedUp, Cond.code yX2_closedUp cX2_closedUp 2 (some .int), Cond.methodLink RX2 62 yJ6_bitCount_0f7a4]
def wsL_law_r12 : List Cond := [Cond.static yJ6_bitCount_0f7a4, Cond.initialized RJ6, Cond.code yJ6_bitCount_0f7a4 cJ6_bitCount_0f7a4 1 (some .int), Cond.constant RJ6 265 (1431655765), Cond.constant RJ6 266 (858993459), Cond.constant RJ6 267 (252645135), Cond.methodLink RX2 58 yX2_isEaten, Cond.methodLink RX4 43 yX4_countUndone, Cond.instanceMethod yX4_countUndone, Cond.selects RX4 yX4_countUndone yX4_countUndone, Cond.code yX4_countUndone cX4_countUndone 2 none, Cond.methodLink RX4 68 Lib.Math.max.name, Cond.static Lib.Math.max.name, Cond.initialized "java/lang/Math", Cond.code Lib.Math.max.name Lib.Math.max.code 2 (some .int), Cond.methodLink RX4 47 yX2_eat, Cond.instanceMethod yX2_eat, Cond.selects RX2 yX2_eat yX2_eat, Cond.code yX2_eat cX2_eat 2 none, Cond.methodLink RX4 50 yX2_mend, Cond.instanceMethod yX2_mend, Cond.selects RX2 yX2_mend yX2_mend, Cond.code yX2_mend cX2_mend 3 none, Cond.methodLink RX4 54 yX2_knit]
def wsL_law_r13 : List Cond := [Cond.instanceMethod yX2_knit, Cond.selects RX2 yX2_knit yX2_knit, Cond.code yX2_knit cX2_knit 3 none, Cond.methodLink RX2 43 yX2_lastWholeOf, Cond.instanceMethod yX2_lastWholeOf, Cond.selects RX2 yX2_lastWholeOf yX2_lastWholeOf, Cond.code yX2_lastWholeOf cX2_lastWholeOf 3 (some .int), Cond.methodLink RX2 47 yX2_append, Cond.methodLink RL 44 yX6_judge, Cond.instanceMethod yX6_judge, Cond.selects RX6 yX6_judge yX6_judge, Cond.code yX6_judge cX6_judge 3 (some .int), Cond.fieldLink RX6 94 "KnitChronicleModel" "reason" "I", Cond.methodLink RX6 106 yX6_goWeeks, Cond.instanceMethod yX6_goWeeks, Cond.selects RX6 yX6_goWeeks yX6_goWeeks, Cond.code yX6_goWeeks cX6_goWeeks 5 (some .int), Cond.fieldLink RX6 87 "KnitChronicleModel" "acts" "I", Cond.fieldLink RX6 66 "KnitChronicleModel" "undone" "I", Cond.methodLink RX6 84 yX6_asNow, Cond.instanceMethod yX6_asNow, Cond.selects RX6 yX6_asNow yX6_asNow, Cond.code yX6_asNow cX6_asNow 2 none, Cond.methodLink RX6 90 yX6_knit]
def wsL_law_r14 : List Cond := [Cond.instanceMethod yX6_knit, Cond.selects RX6 yX6_knit yX6_knit, Cond.code yX6_knit cX6_knit 6 (some .int), Cond.methodLink RX6 97 yX6_pullOut, Cond.instanceMethod yX6_pullOut, Cond.selects RX6 yX6_pullOut yX6_pullOut, Cond.code yX6_pullOut cX6_pullOut 3 (some .int), Cond.methodLink RX6 73 yX6_threadOf, Cond.instanceMethod yX6_threadOf, Cond.selects RX6 yX6_threadOf yX6_threadOf, Cond.code yX6_threadOf cX6_threadOf 5 (some .int), Cond.methodLink RX6 69 yX6_has, Cond.static yX6_has, Cond.code yX6_has cX6_has 2 (some .boolean), Cond.methodLink RX6 77 yX6_takeOut, Cond.instanceMethod yX6_takeOut, Cond.selects RX6 yX6_takeOut yX6_takeOut, Cond.code yX6_takeOut cX6_takeOut 5 none, Cond.methodLink RX6 81 yX6_bits, Cond.static yX6_bits, Cond.code yX6_bits cX6_bits 3 (some .int), Cond.methodLink RX6 100 yX6_eat, Cond.instanceMethod yX6_eat, Cond.selects RX6 yX6_eat yX6_eat]
def wsL_law_r15 : List Cond := [Cond.code yX6_eat cX6_eat 2 (some .int), Cond.methodLink RX6 103 yX6_mend, Cond.instanceMethod yX6_mend, Cond.selects RX6 yX6_mend yX6_mend, Cond.code yX6_mend cX6_mend 3 (some .int), Cond.methodLink RL 45 yX5_done, Cond.instanceMethod yX5_done, Cond.selects RX5 yX5_done yX5_done, Cond.code yX5_done cX5_done 1 (some .int), Cond.fieldLink RX5 109 "KnitChronicle$Trial" "scarf" "LKnitChronicle$Scarf;", Cond.methodLink RX5 106 yX5_weeksCanBe, Cond.instanceMethod yX5_weeksCanBe, Cond.selects RX5 yX5_weeksCanBe yX5_weeksCanBe, Cond.code yX5_weeksCanBe cX5_weeksCanBe 1 (some .boolean), Cond.methodLink RX5 110 yX2_copy, Cond.methodLink RL 48 yX6_done, Cond.instanceMethod yX6_done, Cond.selects RX6 yX6_done yX6_done, Cond.code yX6_done cX6_done 2 (some .int), Cond.methodLink RX6 109 yX6_barOfWeeks, Cond.instanceMethod yX6_barOfWeeks, Cond.selects RX6 yX6_barOfWeeks yX6_barOfWeeks, Cond.code yX6_barOfWeeks cX6_barOfWeeks 1 (some .int), Cond.methodLink RL 49 yX5_behind]
def wsL_law_r16 : List Cond := [Cond.instanceMethod yX5_behind, Cond.selects RX5 yX5_behind yX5_behind, Cond.code yX5_behind cX5_behind 2 (some .int), Cond.fieldLink RX5 114 "KnitChronicle$Scarf" "eaten" "I", Cond.fieldLink RX5 120 "KnitChronicle$Trial" "mostUndone" "I", Cond.methodLink RX5 117 yX2_looseOnes, Cond.instanceMethod yX2_looseOnes, Cond.selects RX2 yX2_looseOnes yX2_looseOnes, Cond.code yX2_looseOnes cX2_looseOnes 3 (some .int), Cond.methodLink RL 52 yX6_behind, Cond.instanceMethod yX6_behind, Cond.selects RX6 yX6_behind yX6_behind, Cond.code yX6_behind cX6_behind 2 (some .int), Cond.methodLink RX6 112 yX6_eatenSet, Cond.instanceMethod yX6_eatenSet, Cond.selects RX6 yX6_eatenSet yX6_eatenSet, Cond.code yX6_eatenSet cX6_eatenSet 3 (some .int), Cond.methodLink RX6 115 yX6_looseSet, Cond.instanceMethod yX6_looseSet, Cond.selects RX6 yX6_looseSet yX6_looseSet, Cond.code yX6_looseSet cX6_looseSet 5 (some .int), Cond.methodLink RL 53 yX5_of, Cond.instanceMethod yX5_of, Cond.selects RX5 yX5_of yX5_of]
def wsL_law_r17 : List Cond := [Cond.code yX5_of cX5_of 3 (some .int), Cond.methodLink RX5 123 yX2_trait, Cond.instanceMethod yX2_trait, Cond.selects RX2 yX2_trait yX2_trait, Cond.code yX2_trait cX2_trait 4 (some .int), Cond.methodLink RL 56 yX6_of, Cond.instanceMethod yX6_of, Cond.selects RX6 yX6_of yX6_of, Cond.code yX6_of cX6_of 3 (some .int), Cond.methodLink RL 57 yX5_pull, Cond.instanceMethod yX5_pull, Cond.selects RX5 yX5_pull yX5_pull, Cond.code yX5_pull cX5_pull 2 (some .int), Cond.methodLink RX5 146 yX2_undoneWith, Cond.methodLink RX5 149 yJ6_bitCount_0f7a4, Cond.methodLink RL 60 yX6_pull, Cond.instanceMethod yX6_pull, Cond.selects RX6 yX6_pull yX6_pull, Cond.code yX6_pull cX6_pull 2 (some .int), Cond.methodLink RL 61 yX5_pulls, Cond.instanceMethod yX5_pulls, Cond.selects RX5 yX5_pulls yX5_pulls, Cond.code yX5_pulls cX5_pulls 7 (some .int), Cond.methodLink RX5 154 yX2_hasAll]
def wsL_law_r18 : List Cond := [Cond.instanceMethod yX2_hasAll, Cond.selects RX2 yX2_hasAll yX2_hasAll, Cond.code yX2_hasAll cX2_hasAll 2 (some .boolean), Cond.methodLink RX5 157 yX2_withAnchors, Cond.instanceMethod yX2_withAnchors, Cond.selects RX2 yX2_withAnchors yX2_withAnchors, Cond.code yX2_withAnchors cX2_withAnchors 5 (some .int), Cond.methodLink RX5 160 yX2_topmostBelow, Cond.instanceMethod yX2_topmostBelow, Cond.selects RX2 yX2_topmostBelow yX2_topmostBelow, Cond.code yX2_topmostBelow cX2_topmostBelow 5 (some .int), Cond.methodLink RX2 67 yX2_topOf, Cond.instanceMethod yX2_topOf, Cond.selects RX2 yX2_topOf yX2_topOf, Cond.code yX2_topOf cX2_topOf 5 (some .int), Cond.methodLink RL 64 yX6_pulls, Cond.instanceMethod yX6_pulls, Cond.selects RX6 yX6_pulls yX6_pulls, Cond.code yX6_pulls cX6_pulls 9 (some .int), Cond.methodLink RL 65 yX5_pattern, Cond.instanceMethod yX5_pattern, Cond.selects RX5 yX5_pattern yX5_pattern, Cond.code yX5_pattern cX5_pattern 1 (some .int), Cond.methodLink RX5 163 yX2_shortestPattern]
def wsL_law_r19 : List Cond := [Cond.instanceMethod yX2_shortestPattern, Cond.selects RX2 yX2_shortestPattern yX2_shortestPattern, Cond.code yX2_shortestPattern cX2_shortestPattern 2 (some .int), Cond.methodLink RX2 70 yX2_repeatsBy, Cond.instanceMethod yX2_repeatsBy, Cond.selects RX2 yX2_repeatsBy yX2_repeatsBy, Cond.code yX2_repeatsBy cX2_repeatsBy 4 (some .boolean), Cond.methodLink RX2 73 yX2_areAlike, Cond.instanceMethod yX2_areAlike, Cond.selects RX2 yX2_areAlike yX2_areAlike, Cond.code yX2_areAlike cX2_areAlike 4 (some .boolean), Cond.methodLink RL 68 yX6_pattern, Cond.instanceMethod yX6_pattern, Cond.selects RX6 yX6_pattern yX6_pattern, Cond.code yX6_pattern cX6_pattern 1 (some .int), Cond.methodLink RX6 118 yX6_patternOf, Cond.instanceMethod yX6_patternOf, Cond.selects RX6 yX6_patternOf yX6_patternOf, Cond.code yX6_patternOf cX6_patternOf 5 (some .int), Cond.methodLink RL 69 yX5_hole, Cond.instanceMethod yX5_hole, Cond.selects RX5 yX5_hole yX5_hole, Cond.code yX5_hole cX5_hole 2 (some .int), Cond.methodLink RX5 166 yX2_isEaten]
def wsL_law_r20 : List Cond := [Cond.methodLink RX5 169 yX2_coloursOfHole, Cond.instanceMethod yX2_coloursOfHole, Cond.selects RX2 yX2_coloursOfHole yX2_coloursOfHole, Cond.code yX2_coloursOfHole cX2_coloursOfHole 4 (some .int), Cond.methodLink RX2 77 yX2_shortestPattern, Cond.methodLink RL 72 yX6_hole, Cond.instanceMethod yX6_hole, Cond.selects RX6 yX6_hole yX6_hole, Cond.code yX6_hole cX6_hole 5 (some .int), Cond.methodLink RL 73 yX5_rip, Cond.instanceMethod yX5_rip, Cond.selects RX5 yX5_rip yX5_rip, Cond.code yX5_rip cX5_rip 4 (some .int), Cond.fieldLink RX5 172 "KnitChronicle" "keptImages" "I", Cond.methodLink RX5 175 yX5_isIn, Cond.methodLink RX5 178 yX5_imageAt, Cond.instanceMethod yX5_imageAt, Cond.selects RX5 yX5_imageAt yX5_imageAt, Cond.code yX5_imageAt cX5_imageAt 2 (some (.object "KnitChronicle$Town")), Cond.methodLink RX5 182 yX5_longestShared, Cond.instanceMethod yX5_longestShared, Cond.selects RX5 yX5_longestShared yX5_longestShared, Cond.code yX5_longestShared cX5_longestShared 8 (some .int), Cond.fieldLink RX5 190 "KnitChronicle$Scarf" "colours" "[I"]
def wsL_law_r21 : List Cond := [Cond.methodLink RX5 193 Lib.Math.max.name, Cond.methodLink RX5 186 yX5_at, Cond.methodLink RL 76 yX6_rip, Cond.instanceMethod yX6_rip, Cond.selects RX6 yX6_rip yX6_rip, Cond.code yX6_rip cX6_rip 9 (some .int), Cond.methodLink RL 77 yX5_hold, Cond.instanceMethod yX5_hold, Cond.selects RX5 yX5_hold yX5_hold, Cond.code yX5_hold cX5_hold 4 (some .int), Cond.methodLink RX5 198 yX5_leastBurden, Cond.instanceMethod yX5_leastBurden, Cond.selects RX5 yX5_leastBurden yX5_leastBurden, Cond.code yX5_leastBurden cX5_leastBurden 4 (some .int), Cond.methodLink RX5 204 yX2_tightnessFrom, Cond.instanceMethod yX2_tightnessFrom, Cond.selects RX2 yX2_tightnessFrom yX2_tightnessFrom, Cond.code yX2_tightnessFrom cX2_tightnessFrom 4 (some .int), Cond.methodLink RX5 207 yX2_stretchesFrom, Cond.instanceMethod yX2_stretchesFrom, Cond.selects RX2 yX2_stretchesFrom yX2_stretchesFrom, Cond.code yX2_stretchesFrom cX2_stretchesFrom 7 (some .int), Cond.methodLink RX5 201 yX5_fewestOfFirst, Cond.instanceMethod yX5_fewestOfFirst]
def wsL_law_r22 : List Cond := [Cond.selects RX5 yX5_fewestOfFirst yX5_fewestOfFirst, Cond.code yX5_fewestOfFirst cX5_fewestOfFirst 4 (some .int), Cond.methodLink RL 80 yX6_hold, Cond.instanceMethod yX6_hold, Cond.selects RX6 yX6_hold yX6_hold, Cond.code yX6_hold cX6_hold 5 (some .int), Cond.methodLink RX6 122 yX6_stretches, Cond.instanceMethod yX6_stretches, Cond.selects RX6 yX6_stretches yX6_stretches, Cond.code yX6_stretches cX6_stretches 8 (some .int), Cond.constant RX6 121 (1000000), Cond.methodLink RL 81 yX5_hands, Cond.instanceMethod yX5_hands, Cond.selects RX5 yX5_hands yX5_hands, Cond.code yX5_hands cX5_hands 1 (some .int), Cond.methodLink RX5 210 yX0_count, Cond.instanceMethod yX0_count, Cond.selects RX0 yX0_count yX0_count, Cond.code yX0_count cX0_count 8 none, Cond.fieldLink RX0 15 "KnitChronicle$Town" "scarf" "LKnitChronicle$Scarf;", Cond.fieldLink RX0 21 "KnitChronicle$Scarf" "size" "I", Cond.fieldLink RX0 27 "KnitChronicle$Scarf" "tightnesses" "[I", Cond.static yX5_near, Cond.code yX5_near cX5_near 1 (some .int)]
def wsL_law_r23 : List Cond := [Cond.methodLink RX0 38 yX0_fewestFrom, Cond.instanceMethod yX0_fewestFrom, Cond.selects RX0 yX0_fewestFrom yX0_fewestFrom, Cond.code yX0_fewestFrom cX0_fewestFrom 5 (some .int), Cond.methodLink RX0 57 Lib.Math.min.name, Cond.static Lib.Math.min.name, Cond.code Lib.Math.min.name Lib.Math.min.code 2 (some .int), Cond.methodLink RX0 53 yX0_changesBy, Cond.instanceMethod yX0_changesBy, Cond.selects RX0 yX0_changesBy yX0_changesBy, Cond.code yX0_changesBy cX0_changesBy 4 (some .int), Cond.methodLink RX0 42 yX3_tightnessOf, Cond.methodLink RX5 214 yX0_fewest, Cond.instanceMethod yX0_fewest, Cond.selects RX0 yX0_fewest yX0_fewest, Cond.code yX0_fewest cX0_fewest 4 (some .int), Cond.methodLink RL 84 yX6_hands, Cond.instanceMethod yX6_hands, Cond.selects RX6 yX6_hands yX6_hands, Cond.code yX6_hands cX6_hands 1 (some .int), Cond.methodLink RX6 128 yX6_layHands, Cond.instanceMethod yX6_layHands, Cond.selects RX6 yX6_layHands yX6_layHands, Cond.code yX6_layHands cX6_layHands 6 none]
def wsL_law_r24 : List Cond := [Cond.methodLink RX6 125 yX6_mayKnit, Cond.instanceMethod yX6_mayKnit, Cond.selects RX6 yX6_mayKnit yX6_mayKnit, Cond.code yX6_mayKnit cX6_mayKnit 3 (some .boolean), Cond.methodLink RX6 131 yX6_fewest, Cond.instanceMethod yX6_fewest, Cond.selects RX6 yX6_fewest yX6_fewest, Cond.code yX6_fewest cX6_fewest 4 (some .int), Cond.methodLink RL 85 yX5_who, Cond.instanceMethod yX5_who, Cond.selects RX5 yX5_who yX5_who, Cond.code yX5_who cX5_who 2 (some .int), Cond.methodLink RX5 217 yX0_knitterOf, Cond.instanceMethod yX0_knitterOf, Cond.selects RX0 yX0_knitterOf yX0_knitterOf, Cond.code yX0_knitterOf cX0_knitterOf 4 (some .int), Cond.methodLink RX0 62 yX0_leastAfter, Cond.instanceMethod yX0_leastAfter, Cond.selects RX0 yX0_leastAfter yX0_leastAfter, Cond.code yX0_leastAfter cX0_leastAfter 5 (some .int), Cond.methodLink RL 88 yX6_who, Cond.instanceMethod yX6_who, Cond.selects RX6 yX6_who yX6_who, Cond.code yX6_who cX6_who 8 (some .int)]
def wsL_law_r25 : List Cond := [Cond.methodLink RL 89 yX5_seen, Cond.instanceMethod yX5_seen, Cond.selects RX5 yX5_seen yX5_seen, Cond.code yX5_seen cX5_seen 3 (some .int), Cond.fieldLink RX5 220 "KnitChronicle$Town" "sights" "I", Cond.fieldLink RX5 223 "KnitChronicle$Town" "fitting" "I", Cond.methodLink RX5 226 yX5_near, Cond.methodLink RL 93 yX6_seen, Cond.instanceMethod yX6_seen, Cond.selects RX6 yX6_seen yX6_seen, Cond.code yX6_seen cX6_seen 3 (some .int), Cond.fieldLink RX6 134 "KnitChronicleModel" "sights" "I", Cond.methodLink RL 94 yX5_forget, Cond.instanceMethod yX5_forget, Cond.selects RX5 yX5_forget yX5_forget, Cond.code yX5_forget cX5_forget 2 (some .int), Cond.methodLink RX5 229 yX3_forgetSights, Cond.instanceMethod yX3_forgetSights, Cond.selects RX3 yX3_forgetSights yX3_forgetSights, Cond.code yX3_forgetSights cX3_forgetSights 1 none, Cond.fieldLink RX3 30 "KnitChronicle$Town" "sights" "I", Cond.methodLink RL 97 yX6_forget, Cond.instanceMethod yX6_forget, Cond.selects RX6 yX6_forget yX6_forget]
def wsL_law_r26 : List Cond := [Cond.code yX6_forget cX6_forget 2 (some .int), Cond.methodLink RL 98 yX5_tights, Cond.instanceMethod yX5_tights, Cond.selects RX5 yX5_tights yX5_tights, Cond.code yX5_tights cX5_tights 1 (some .int), Cond.methodLink RL 101 yX6_tights, Cond.instanceMethod yX6_tights, Cond.selects RX6 yX6_tights yX6_tights, Cond.code yX6_tights cX6_tights 1 (some .int), Cond.methodLink RX6 137 yX6_tightSet, Cond.instanceMethod yX6_tightSet, Cond.selects RX6 yX6_tightSet yX6_tightSet, Cond.code yX6_tightSet cX6_tightSet 5 (some .int), Cond.methodLink RL 102 yX5_next, Cond.instanceMethod yX5_next, Cond.selects RX5 yX5_next yX5_next, Cond.code yX5_next cX5_next 4 (some .int), Cond.methodLink RX5 232 yX5_mostLeftBy, Cond.instanceMethod yX5_mostLeftBy, Cond.selects RX5 yX5_mostLeftBy yX5_mostLeftBy, Cond.code yX5_mostLeftBy cX5_mostLeftBy 4 (some .int), Cond.methodLink RL 105 yX6_next, Cond.instanceMethod yX6_next, Cond.selects RX6 yX6_next yX6_next]
def wsL_law_r27 : List Cond := [Cond.code yX6_next cX6_next 8 (some .int), Cond.methodLink RL 106 yX5_moths, Cond.instanceMethod yX5_moths, Cond.selects RX5 yX5_moths yX5_moths, Cond.code yX5_moths cX5_moths 7 (some .long), Cond.constantLong RX5 235 (-1000000000000000001), Cond.constantLong RX5 237 (-1000000000000000002), Cond.constantLong RX5 239 (-1000000000000000003), Cond.methodLink RX5 241 yX5_termOfTenths, Cond.static yX5_termOfTenths, Cond.code yX5_termOfTenths cX5_termOfTenths 5 (some .int), Cond.methodLink RX5 244 yX5_power, Cond.static yX5_power, Cond.code yX5_power cX5_power 6 (some .long), Cond.methodLink RL 110 yX6_moths, Cond.instanceMethod yX6_moths, Cond.selects RX6 yX6_moths yX6_moths, Cond.code yX6_moths cX6_moths 16 (some .long), Cond.constantLong RX6 140 (-1000000000000000001), Cond.constantLong RX6 142 (-1000000000000000002), Cond.constantLong RX6 144 (-1000000000000000003), Cond.constantLong RX6 146 (10), Cond.methodLink RX6 148 yX6_power, Cond.static yX6_power]
def wsL_law_r28 : List Cond := [Cond.code yX6_power cX6_power 6 (some .long), Cond.methodLink RL 111 yX5_year, Cond.instanceMethod yX5_year, Cond.selects RX5 yX5_year yX5_year, Cond.code yX5_year cX5_year 6 (some .int), Cond.constant RX5 248 (65537), Cond.fieldLink RX5 252 "KnitChronicle$Trial" "allUndone" "I", Cond.methodLink RX5 249 yX5_tryDrawn, Cond.instanceMethod yX5_tryDrawn, Cond.selects RX5 yX5_tryDrawn yX5_tryDrawn, Cond.code yX5_tryDrawn cX5_tryDrawn 4 none, Cond.methodLink RX5 255 Lib.Math.min.name, Cond.methodLink RL 114 yX6_year, Cond.instanceMethod yX6_year, Cond.selects RX6 yX6_year yX6_year, Cond.code yX6_year cX6_year 10 (some .int), Cond.constant RX6 152 (65537), Cond.methodLink RL 115 yX5_image, Cond.instanceMethod yX5_image, Cond.selects RX5 yX5_image yX5_image, Cond.code yX5_image cX5_image 2 (some .int), Cond.methodLink RX5 258 yX3_copy, Cond.instanceMethod yX3_copy, Cond.selects RX3 yX3_copy yX3_copy]
def wsL_law_r29 : List Cond := [Cond.code yX3_copy cX3_copy 3 none, Cond.methodLink RX3 33 yX2_copy, Cond.methodLink RX3 37 yX3_tightnessOf, Cond.methodLink RL 118 yX6_image, Cond.instanceMethod yX6_image, Cond.selects RX6 yX6_image yX6_image, Cond.code yX6_image cX6_image 4 (some .int), Cond.methodLink RL 119 yX5_restore, Cond.instanceMethod yX5_restore, Cond.selects RX5 yX5_restore yX5_restore, Cond.code yX5_restore cX5_restore 2 (some .int), Cond.methodLink RL 122 yX6_restore, Cond.instanceMethod yX6_restore, Cond.selects RX6 yX6_restore yX6_restore, Cond.code yX6_restore cX6_restore 4 (some .int), Cond.methodLink RL 123 yX5_told, Cond.instanceMethod yX5_told, Cond.selects RX5 yX5_told yX5_told, Cond.code yX5_told cX5_told 2 (some .int), Cond.methodLink RX5 260 yX5_toldOfStitch, Cond.instanceMethod yX5_toldOfStitch, Cond.selects RX5 yX5_toldOfStitch yX5_toldOfStitch, Cond.code yX5_toldOfStitch cX5_toldOfStitch 3 (some .int), Cond.methodLink RL 126 yX6_told]
def wsL_law_r30 : List Cond := [Cond.instanceMethod yX6_told, Cond.selects RX6 yX6_told yX6_told, Cond.code yX6_told cX6_told 3 (some .int)]
def wsL_law : List Cond := (wsL_law_r1 ++ (wsL_law_r2 ++ (wsL_law_r3 ++ (wsL_law_r4 ++ (wsL_law_r5 ++ (wsL_law_r6 ++ (wsL_law_r7 ++ (wsL_law_r8 ++ (wsL_law_r9 ++ (wsL_law_r10 ++ (wsL_law_r11 ++ (wsL_law_r12 ++ (wsL_law_r13 ++ (wsL_law_r14 ++ (wsL_law_r15 ++ (wsL_law_r16 ++ (wsL_law_r17 ++ (wsL_law_r18 ++ (wsL_law_r19 ++ (wsL_law_r20 ++ (wsL_law_r21 ++ (wsL_law_r22 ++ (wsL_law_r23 ++ (wsL_law_r24 ++ (wsL_law_r25 ++ (wsL_law_r26 ++ (wsL_law_r27 ++ (wsL_law_r28 ++ (wsL_law_r29 ++ wsL_law_r30))))))))))))))))))))))))))))) ++ wsX50 ++ wsX60 ++ wsX30 ++ wsX10 ++ wsX40 ++ wsX00 ++ wsX20 ++ ([] : List Cond)
abbrev vwCl : List vw_C := [(RX0, TX0, 1), (RX1, TX1, 2), (RX2, TX2, 5), (RX3, TX3, 4), (RX4, TX4, 5), (RX5, TX5, 8), (RX6, TX6, 15)]
end
section
set_option maxRecDepth 20000 in
theorem wsL_law_r1_in : ∀ w ∈ wsL_law_r1, w ∈ lw_tbl := fun w h => (goodIn_r wsL_law_r1 [48, 49, 39, 580, 581, 45, 50, 51, 52, 53, 54, 55, 56, 57, 40, 161, 162, 163, 108, 109, 42, 165, 122, 123] (by decide +kernel) (by decide +kernel) w h).1
set_option maxRecDepth 20000 in
theorem wsL_law_r2_in : ∀ w ∈ wsL_law_r2, w ∈ lw_tbl := fun w h => (goodIn_r wsL_law_r2 [43, 166, 151, 152, 44, 167, 89, 168, 59, 60, 61, 62, 63, 41, 90, 93, 97, 65, 66, 67, 68, 70, 72, 111] (by decide +kernel) (by decide +kernel) w h).1
set_option maxRecDepth 20000 in
theorem wsL_law_r3_in : ∀ w ∈ wsL_law_r3, w ∈ lw_tbl := fun w h => (goodIn_r wsL_law_r3 [112, 113, 114, 125, 126, 127, 128, 130, 154, 155, 156, 157, 582, 583, 584, 585, 586, 587, 588, 590, 592, 594, 597, 632] (by decide +kernel) (by decide +kernel) w h).1
set_option maxRecDepth 20000 in
theorem wsL_law_r4_in : ∀ w ∈ wsL_law_r4, w ∈ lw_tbl := fun w h => (goodIn_r wsL_law_r4 [598, 599, 600, 186, 187, 188, 189, 92, 75, 190, 191, 192, 193, 73, 195, 196, 197, 198, 199, 200, 201, 202, 203, 204] (by decide +kernel) (by decide +kernel) w h).1
set_option maxRecDepth 20000 in
theorem wsL_law_r5_in : ∀ w ∈ wsL_law_r5, w ∈ lw_tbl := fun w h => (goodIn_r wsL_law_r5 [205, 207, 208, 633, 634, 635, 636, 637, 639, 19, 640, 641, 642, 643, 209, 210, 211, 212, 213, 214, 215, 216, 76, 644] (by decide +kernel) (by decide +kernel) w h).1
set_option maxRecDepth 20000 in
theorem wsL_law_r6_in : ∀ w ∈ wsL_law_r6, w ∈ lw_tbl := fun w h => (goodIn_r wsL_law_r6 [645, 646, 647, 217, 218, 219, 220, 94, 221, 222, 223, 224, 226, 227, 228, 648, 649, 650, 651, 652, 653, 654, 229, 230] (by decide +kernel) (by decide +kernel) w h).1
set_option maxRecDepth 20000 in
theorem wsL_law_r7_in : ∀ w ∈ wsL_law_r7, w ∈ lw_tbl := fun w h => (goodIn_r wsL_law_r7 [231, 232, 116, 233, 234, 235, 236, 115, 655, 656, 657, 658, 591, 238, 239, 240, 241, 659, 660, 661, 662, 242, 243, 244] (by decide +kernel) (by decide +kernel) w h).1
set_option maxRecDepth 20000 in
theorem wsL_law_r8_in : ∀ w ∈ wsL_law_r8, w ∈ lw_tbl := fun w h => (goodIn_r wsL_law_r8 [245, 246, 247, 248, 249, 250, 252, 0, 253, 254, 255, 256, 257, 260, 261, 262, 263, 264, 265, 266, 267, 268, 269, 270] (by decide +kernel) (by decide +kernel) w h).1
set_option maxRecDepth 20000 in
theorem wsL_law_r9_in : ∀ w ∈ wsL_law_r9, w ∈ lw_tbl := fun w h => (goodIn_r wsL_law_r9 [271, 272, 273, 274, 663, 664, 665, 666, 667, 669, 20, 670, 671, 672, 673, 674, 675, 676, 275, 276, 277, 278, 133, 135] (by decide +kernel) (by decide +kernel) w h).1
set_option maxRecDepth 20000 in
theorem wsL_law_r10_in : ∀ w ∈ wsL_law_r10, w ∈ lw_tbl := fun w h => (goodIn_r wsL_law_r10 [279, 281, 1, 282, 283, 284, 285, 286, 132, 134, 136, 138, 287, 288, 289, 290, 292, 293, 294, 295, 296, 297, 298, 299] (by decide +kernel) (by decide +kernel) w h).1
set_option maxRecDepth 20000 in
theorem wsL_law_r11_in : ∀ w ∈ wsL_law_r11, w ∈ lw_tbl := fun w h => (goodIn_r wsL_law_r11 [300, 302, 2, 303, 304, 305, 306, 307, 308, 309, 311, 312, 313, 314, 315, 316, 317, 318, 319, 320, 321, 322, 323, 324] (by decide +kernel) (by decide +kernel) w h).1
set_option maxRecDepth 20000 in
theorem wsL_law_r12_in : ∀ w ∈ wsL_law_r12, w ∈ lw_tbl := fun w h => (goodIn_r wsL_law_r12 [325, 46, 326, 327, 328, 329, 330, 331, 333, 3, 334, 335, 336, 47, 337, 338, 339, 340, 341, 342, 343, 344, 345, 346] (by decide +kernel) (by decide +kernel) w h).1
set_option maxRecDepth 20000 in
theorem wsL_law_r13_in : ∀ w ∈ wsL_law_r13, w ∈ lw_tbl := fun w h => (goodIn_r wsL_law_r13 [347, 348, 349, 350, 352, 4, 353, 354, 677, 678, 679, 680, 595, 681, 683, 21, 684, 596, 593, 685, 687, 22, 688, 689] (by decide +kernel) (by decide +kernel) w h).1
set_option maxRecDepth 20000 in
theorem wsL_law_r14_in : ∀ w ∈ wsL_law_r14, w ∈ lw_tbl := fun w h => (goodIn_r wsL_law_r14 [691, 23, 692, 693, 695, 24, 696, 697, 699, 25, 700, 701, 702, 703, 704, 706, 26, 707, 708, 709, 710, 711, 713, 27] (by decide +kernel) (by decide +kernel) w h).1
set_option maxRecDepth 20000 in
theorem wsL_law_r15_in : ∀ w ∈ wsL_law_r15, w ∈ lw_tbl := fun w h => (goodIn_r wsL_law_r15 [714, 715, 717, 28, 718, 355, 356, 357, 358, 131, 359, 361, 5, 362, 363, 719, 720, 721, 722, 723, 725, 29, 726, 364] (by decide +kernel) (by decide +kernel) w h).1
set_option maxRecDepth 20000 in
theorem wsL_law_r16_in : ∀ w ∈ wsL_law_r16, w ∈ lw_tbl := fun w h => (goodIn_r wsL_law_r16 [365, 366, 367, 77, 137, 368, 369, 370, 371, 727, 728, 729, 730, 731, 733, 30, 734, 735, 737, 31, 738, 372, 373, 374] (by decide +kernel) (by decide +kernel) w h).1
set_option maxRecDepth 20000 in
theorem wsL_law_r17_in : ∀ w ∈ wsL_law_r17, w ∈ lw_tbl := fun w h => (goodIn_r wsL_law_r17 [375, 376, 377, 378, 379, 739, 740, 741, 742, 380, 381, 382, 383, 384, 385, 743, 744, 745, 746, 386, 387, 388, 389, 390] (by decide +kernel) (by decide +kernel) w h).1
set_option maxRecDepth 20000 in
theorem wsL_law_r18_in : ∀ w ∈ wsL_law_r18, w ∈ lw_tbl := fun w h => (goodIn_r wsL_law_r18 [391, 392, 393, 394, 395, 396, 397, 398, 399, 400, 401, 402, 404, 6, 405, 747, 748, 749, 750, 406, 407, 408, 409, 410] (by decide +kernel) (by decide +kernel) w h).1
set_option maxRecDepth 20000 in
theorem wsL_law_r19_in : ∀ w ∈ wsL_law_r19, w ∈ lw_tbl := fun w h => (goodIn_r wsL_law_r19 [411, 412, 413, 414, 416, 7, 417, 418, 420, 8, 421, 751, 752, 753, 754, 755, 757, 32, 758, 422, 423, 424, 425, 426] (by decide +kernel) (by decide +kernel) w h).1
set_option maxRecDepth 20000 in
theorem wsL_law_r20_in : ∀ w ∈ wsL_law_r20, w ∈ lw_tbl := fun w h => (goodIn_r wsL_law_r20 [427, 428, 429, 430, 431, 759, 760, 761, 762, 432, 433, 434, 435, 164, 436, 437, 439, 9, 440, 441, 443, 10, 444, 69] (by decide +kernel) (by decide +kernel) w h).1
set_option maxRecDepth 20000 in
theorem wsL_law_r21_in : ∀ w ∈ wsL_law_r21, w ∈ lw_tbl := fun w h => (goodIn_r wsL_law_r21 [446, 445, 763, 764, 765, 766, 447, 448, 449, 450, 451, 453, 11, 454, 455, 456, 457, 458, 459, 460, 461, 462, 463, 465] (by decide +kernel) (by decide +kernel) w h).1
set_option maxRecDepth 20000 in
theorem wsL_law_r22_in : ∀ w ∈ wsL_law_r22, w ∈ lw_tbl := fun w h => (goodIn_r wsL_law_r22 [12, 466, 767, 768, 769, 770, 771, 773, 33, 774, 775, 467, 468, 469, 470, 471, 472, 473, 474, 91, 74, 71, 477, 478] (by decide +kernel) (by decide +kernel) w h).1
set_option maxRecDepth 20000 in
theorem wsL_law_r23_in : ∀ w ∈ wsL_law_r23, w ∈ lw_tbl := fun w h => (goodIn_r wsL_law_r23 [479, 481, 13, 482, 487, 488, 489, 483, 485, 14, 486, 490, 493, 494, 495, 496, 776, 777, 778, 779, 780, 782, 34, 783] (by decide +kernel) (by decide +kernel) w h).1
set_option maxRecDepth 20000 in
theorem wsL_law_r24_in : ∀ w ∈ wsL_law_r24, w ∈ lw_tbl := fun w h => (goodIn_r wsL_law_r24 [784, 786, 35, 787, 788, 790, 36, 791, 497, 498, 499, 500, 501, 502, 503, 504, 505, 507, 15, 508, 792, 793, 794, 795] (by decide +kernel) (by decide +kernel) w h).1
set_option maxRecDepth 20000 in
theorem wsL_law_r25_in : ∀ w ∈ wsL_law_r25, w ∈ lw_tbl := fun w h => (goodIn_r wsL_law_r25 [509, 510, 511, 512, 96, 98, 513, 796, 797, 798, 799, 589, 514, 515, 516, 517, 518, 519, 520, 521, 95, 800, 801, 802] (by decide +kernel) (by decide +kernel) w h).1
set_option maxRecDepth 20000 in
theorem wsL_law_r26_in : ∀ w ∈ wsL_law_r26, w ∈ lw_tbl := fun w h => (goodIn_r wsL_law_r26 [803, 522, 523, 524, 525, 804, 805, 806, 807, 808, 810, 37, 811, 526, 527, 528, 529, 530, 532, 16, 533, 812, 813, 814] (by decide +kernel) (by decide +kernel) w h).1
set_option maxRecDepth 20000 in
theorem wsL_law_r27_in : ∀ w ∈ wsL_law_r27, w ∈ lw_tbl := fun w h => (goodIn_r wsL_law_r27 [815, 534, 535, 536, 537, 538, 539, 540, 541, 542, 543, 544, 545, 546, 816, 817, 818, 819, 820, 821, 822, 823, 824, 825] (by decide +kernel) (by decide +kernel) w h).1
set_option maxRecDepth 20000 in
theorem wsL_law_r28_in : ∀ w ∈ wsL_law_r28, w ∈ lw_tbl := fun w h => (goodIn_r wsL_law_r28 [826, 547, 548, 549, 550, 551, 139, 552, 554, 17, 555, 556, 827, 828, 829, 830, 831, 557, 558, 559, 560, 561, 562, 563] (by decide +kernel) (by decide +kernel) w h).1
set_option maxRecDepth 20000 in
theorem wsL_law_r29_in : ∀ w ∈ wsL_law_r29, w ∈ lw_tbl := fun w h => (goodIn_r wsL_law_r29 [564, 565, 566, 832, 833, 834, 835, 568, 569, 570, 571, 836, 837, 838, 839, 572, 573, 574, 575, 576, 578, 18, 579, 840] (by decide +kernel) (by decide +kernel) w h).1
set_option maxRecDepth 20000 in
theorem wsL_law_r30_in : ∀ w ∈ wsL_law_r30, w ∈ lw_tbl := fun w h => (goodIn_r wsL_law_r30 [841, 842, 843] (by decide +kernel) (by decide +kernel) w h).1
set_option maxRecDepth 20000 in
theorem wsX50_in : ∀ w ∈ wsX50, w ∈ lw_tbl := by decide +kernel
set_option maxRecDepth 20000 in
theorem wsX60_in : ∀ w ∈ wsX60, w ∈ lw_tbl := by decide +kernel
set_option maxRecDepth 20000 in
theorem wsX30_in : ∀ w ∈ wsX30, w ∈ lw_tbl := by decide +kernel
set_option maxRecDepth 20000 in
theorem wsX10_in : ∀ w ∈ wsX10, w ∈ lw_tbl := by decide +kernel
set_option maxRecDepth 20000 in
theorem wsX40_in : ∀ w ∈ wsX40, w ∈ lw_tbl := by decide +kernel
set_option maxRecDepth 20000 in
theorem wsX00_in : ∀ w ∈ wsX00, w ∈ lw_tbl := by decide +kernel
set_option maxRecDepth 20000 in
theorem wsX20_in : ∀ w ∈ wsX20, w ∈ lw_tbl := by decide +kernel
theorem wsL_law_in : ∀ w ∈ wsL_law, w ∈ lw_tbl := (List.forall_mem_append.mpr ⟨(List.forall_mem_append.mpr ⟨(List.forall_mem_append.mpr ⟨(List.forall_mem_append.mpr ⟨(List.forall_mem_append.mpr ⟨(List.forall_mem_append.mpr ⟨(List.forall_mem_append.mpr ⟨(List.forall_mem_append.mpr ⟨(List.forall_mem_append.mpr ⟨wsL_law_r1_in, (List.forall_mem_append.mpr ⟨wsL_law_r2_in, (List.forall_mem_append.mpr ⟨wsL_law_r3_in, (List.forall_mem_append.mpr ⟨wsL_law_r4_in, (List.forall_mem_append.mpr ⟨wsL_law_r5_in, (List.forall_mem_append.mpr ⟨wsL_law_r6_in, (List.forall_mem_append.mpr ⟨wsL_law_r7_in, (List.forall_mem_append.mpr ⟨wsL_law_r8_in, (List.forall_mem_append.mpr ⟨wsL_law_r9_in, (List.forall_mem_append.mpr ⟨wsL_law_r10_in, (List.forall_mem_append.mpr ⟨wsL_law_r11_in, (List.forall_mem_append.mpr ⟨wsL_law_r12_in, (List.forall_mem_append.mpr ⟨wsL_law_r13_in, (List.forall_mem_append.mpr ⟨wsL_law_r14_in, (List.forall_mem_append.mpr ⟨wsL_law_r15_in, (List.forall_mem_append.mpr ⟨wsL_law_r16_in, (List.forall_mem_append.mpr ⟨wsL_law_r17_in, (List.forall_mem_append.mpr ⟨wsL_law_r18_in, (List.forall_mem_append.mpr ⟨wsL_law_r19_in, (List.forall_mem_append.mpr ⟨wsL_law_r20_in, (List.forall_mem_append.mpr ⟨wsL_law_r21_in, (List.forall_mem_append.mpr ⟨wsL_law_r22_in, (List.forall_mem_append.mpr ⟨wsL_law_r23_in, (List.forall_mem_append.mpr ⟨wsL_law_r24_in, (List.forall_mem_append.mpr ⟨wsL_law_r25_in, (List.forall_mem_append.mpr ⟨wsL_law_r26_in, (List.forall_mem_append.mpr ⟨wsL_law_r27_in, (List.forall_mem_append.mpr ⟨wsL_law_r28_in, (List.forall_mem_append.mpr ⟨wsL_law_r29_in, wsL_law_r30_in⟩)⟩)⟩)⟩)⟩)⟩)⟩)⟩)⟩)⟩)⟩)⟩)⟩)⟩)⟩)⟩)⟩)⟩)⟩)⟩)⟩)⟩)⟩)⟩)⟩)⟩)⟩)⟩)⟩), wsX50_in⟩), wsX60_in⟩), wsX30_in⟩), wsX10_in⟩), wsX40_in⟩), wsX00_in⟩), wsX20_in⟩), fun _ h => absurd h List.not_mem_nil⟩)
theorem inlX0 : ∀ w ∈ wsX00, w ∈ wsL_law := fun _ h => List.mem_append_left _ (List.mem_append_left _ (List.mem_append_right _ h))
theorem inX0 : ∀ w ∈ wsX00, w ∈ lw_tbl := fun w h => wsL_law_in w (inlX0 w h)
theorem inlX1 : ∀ w ∈ wsX10, w ∈ wsL_law := fun _ h => List.mem_append_left _ (List.mem_append_left _ (List.mem_append_left _ (List.mem_append_left _ (List.mem_append_right _ h))))
theorem inX1 : ∀ w ∈ wsX10, w ∈ lw_tbl := fun w h => wsL_law_in w (inlX1 w h)
theorem inlX2 : ∀ w ∈ wsX20, w ∈ wsL_law := fun _ h => List.mem_append_left _ (List.mem_append_right _ h)
theorem inX2 : ∀ w ∈ wsX20, w ∈ lw_tbl := fun w h => wsL_law_in w (inlX2 w h)
theorem inlX3 : ∀ w ∈ wsX30, w ∈ wsL_law := fun _ h => List.mem_append_left _ (List.mem_append_left _ (List.mem_append_left _ (List.mem_append_left _ (List.mem_append_left _ (List.mem_append_right _ h)))))
theorem inX3 : ∀ w ∈ wsX30, w ∈ lw_tbl := fun w h => wsL_law_in w (inlX3 w h)
theorem inlX4 : ∀ w ∈ wsX40, w ∈ wsL_law := fun _ h => List.mem_append_left _ (List.mem_append_left _ (List.mem_append_left _ (List.mem_append_right _ h)))
theorem inX4 : ∀ w ∈ wsX40, w ∈ lw_tbl := fun w h => wsL_law_in w (inlX4 w h)
theorem inlX5 : ∀ w ∈ wsX50, w ∈ wsL_law := fun _ h => List.mem_append_left _ (List.mem_append_left _ (List.mem_append_left _ (List.mem_append_left _ (List.mem_append_left _ (List.mem_append_left _ (List.mem_append_left _ (List.mem_append_right _ h)))))))
theorem inX5 : ∀ w ∈ wsX50, w ∈ lw_tbl := fun w h => wsL_law_in w (inlX5 w h)
theorem inlX6 : ∀ w ∈ wsX60, w ∈ wsL_law := fun _ h => List.mem_append_left _ (List.mem_append_left _ (List.mem_append_left _ (List.mem_append_left _ (List.mem_append_left _ (List.mem_append_left _ (List.mem_append_right _ h))))))
theorem inX6 : ∀ w ∈ wsX60, w ∈ lw_tbl := fun w h => wsL_law_in w (inlX6 w h)
theorem inJ6 : ∀ w ∈ wsJ60, w ∈ lw_tbl := by decide +kernel
theorem inJ9 : ∀ w ∈ wsJ90, w ∈ lw_tbl := by decide +kernel
end
section
theorem dX0_init_0 : decode cX0_init 0 = .ok (.aload_n 0, 1) := by decide +kernel
theorem dX0_init_1 : decode cX0_init 1 = .ok (.invokespecial 3, 3) := by decide +kernel
theorem dX0_init_4 : decode cX0_init 4 = .ok (.aload_n 0, 1) := by decide +kernel
theorem dX0_init_5 : decode cX0_init 5 = .ok (.bipush 96, 2) := by decide +kernel
theorem dX0_init_7 : decode cX0_init 7 = .ok (.newarray .int, 2) := by decide +kernel
theorem dX0_init_9 : decode cX0_init 9 = .ok (.putfield 9, 3) := by decide +kernel
theorem dX0_init_12 : decode cX0_init 12 = .ok (.return_, 1) := by decide +kernel
set_option maxRecDepth 20000 in
theorem ggX0_count_X5_at : GoodIn wsX0_count wsX5_at := goodIn_r _ [7] (by decide +kernel) (by decide +kernel)
set_option maxRecDepth 20000 in
theorem gX0_count_X5_at_n30 : GoodIn wsX0_count (wsX5_at) := ggX0_count_X5_at
set_option maxRecDepth 20000 in
theorem ggX0_count_X5_near : GoodIn wsX0_count wsX5_near := goodIn_r _ [9] (by decide +kernel) (by decide +kernel)
set_option maxRecDepth 20000 in
theorem gX0_count_X5_near_n34 : GoodIn wsX0_count (wsX5_near) := ggX0_count_X5_near
set_option maxRecDepth 20000 in
theorem ggX0_count_X0_fewestFrom : GoodIn wsX0_count wsX0_fewestFrom := goodIn_r _ [14, 15, 16, 17, 18, 19, 20, 21, 13, 22, 4, 5, 6, 7, 42] (by decide +kernel) (by decide +kernel)
set_option maxRecDepth 20000 in
theorem gX0_count_X0_fewestFrom : GoodIn wsX0_count (wsV RX0 38 RX0 yX0_fewestFrom wsX0_fewestFrom) := goodIn_app (goodIn_of _ (by decide +kernel)) ggX0_count_X0_fewestFrom
set_option maxRecDepth 20000 in
theorem ggX0_count_X3_tightnessOf : GoodIn wsX0_count wsX3_tightnessOf := goodIn_r _ [27, 28, 5, 6, 7, 33, 34, 35, 36] (by decide +kernel) (by decide +kernel)
set_option maxRecDepth 20000 in
theorem gX0_count_X3_tightnessOf : GoodIn wsX0_count (wsV RX0 42 RX3 yX3_tightnessOf wsX3_tightnessOf) := goodIn_app (goodIn_of _ (by decide +kernel)) ggX0_count_X3_tightnessOf
set_option maxRecDepth 20000 in
theorem ggX0_count_X5_isIn : GoodIn wsX0_count wsX5_isIn := goodIn_r _ [30] (by decide +kernel) (by decide +kernel)
set_option maxRecDepth 20000 in
theorem gX0_count_X5_isIn_n45 : GoodIn wsX0_count (wsX5_isIn) := ggX0_count_X5_isIn
set_option maxRecDepth 20000 in
theorem ggX0_count_X5_put : GoodIn wsX0_count wsX5_put := goodIn_r _ [32] (by decide +kernel) (by decide +kernel)
set_option maxRecDepth 20000 in
theorem gX0_count_X5_put_n49 : GoodIn wsX0_count (wsX5_put) := ggX0_count_X5_put
theorem dX0_count_0 : decode cX0_count 0 = .ok (.aload_n 1, 1) := by decide +kernel
theorem dX0_count_1 : decode cX0_count 1 = .ok (.getfield 15, 3) := by decide +kernel
theorem dX0_count_4 : decode cX0_count 4 = .ok (.getfield 21, 3) := by decide +kernel
theorem dX0_count_7 : decode cX0_count 7 = .ok (.iconst 1, 1) := by decide +kernel
theorem dX0_count_8 : decode cX0_count 8 = .ok (.isub, 1) := by decide +kernel
theorem dX0_count_9 : decode cX0_count 9 = .ok (.istore_n 2, 1) := by decide +kernel
theorem dX0_count_10 : decode cX0_count 10 = .ok (.iload_n 2, 1) := by decide +kernel
theorem dX0_count_11 : decode cX0_count 11 = .ok (.istore_n 3, 1) := by decide +kernel
theorem dX0_count_12 : decode cX0_count 12 = .ok (.iload_n 3, 1) := by decide +kernel
theorem dX0_count_13 : decode cX0_count 13 = .ok (.ifCond .lt 99, 3) := by decide +kernel
theorem dX0_count_16 : decode cX0_count 16 = .ok (.aload_n 1, 1) := by decide +kernel
theorem dX0_count_17 : decode cX0_count 17 = .ok (.getfield 15, 3) := by decide +kernel
theorem dX0_count_20 : decode cX0_count 20 = .ok (.getfield 27, 3) := by decide +kernel
theorem dX0_count_23 : decode cX0_count 23 = .ok (.iload_n 3, 1) := by decide +kernel
theorem dX0_count_24 : decode cX0_count 24 = .ok (.invokestatic 30, 3) := by decide +kernel
theorem dX0_count_27 : decode cX0_count 27 = .ok (.invokestatic 34, 3) := by decide +kernel
theorem dX0_count_30 : decode cX0_count 30 = .ok (.istore 4, 2) := by decide +kernel
theorem dX0_count_32 : decode cX0_count 32 = .ok (.iconst 0, 1) := by decide +kernel
theorem dX0_count_33 : decode cX0_count 33 = .ok (.istore 5, 2) := by decide +kernel
theorem dX0_count_35 : decode cX0_count 35 = .ok (.iload 5, 2) := by decide +kernel
theorem dX0_count_37 : decode cX0_count 37 = .ok (.iconst 4, 1) := by decide +kernel
theorem dX0_count_38 : decode cX0_count 38 = .ok (.if_icmp .ge 68, 3) := by decide +kernel
theorem dX0_count_41 : decode cX0_count 41 = .ok (.iload_n 3, 1) := by decide +kernel
theorem dX0_count_42 : decode cX0_count 42 = .ok (.iload_n 2, 1) := by decide +kernel
theorem dX0_count_43 : decode cX0_count 43 = .ok (.if_icmp .ne 7, 3) := by decide +kernel
theorem dX0_count_46 : decode cX0_count 46 = .ok (.iconst 0, 1) := by decide +kernel
theorem dX0_count_47 : decode cX0_count 47 = .ok (.goto 12, 3) := by decide +kernel
theorem dX0_count_50 : decode cX0_count 50 = .ok (.aload_n 0, 1) := by decide +kernel
theorem dX0_count_51 : decode cX0_count 51 = .ok (.iload_n 3, 1) := by decide +kernel
theorem dX0_count_52 : decode cX0_count 52 = .ok (.iconst 1, 1) := by decide +kernel
theorem dX0_count_53 : decode cX0_count 53 = .ok (.iadd, 1) := by decide +kernel
theorem dX0_count_54 : decode cX0_count 54 = .ok (.iload 5, 2) := by decide +kernel
theorem dX0_count_56 : decode cX0_count 56 = .ok (.invokevirtual 38, 3) := by decide +kernel
theorem dX0_count_59 : decode cX0_count 59 = .ok (.istore 6, 2) := by decide +kernel
theorem dX0_count_61 : decode cX0_count 61 = .ok (.iload 4, 2) := by decide +kernel
theorem dX0_count_63 : decode cX0_count 63 = .ok (.aload_n 1, 1) := by decide +kernel
theorem dX0_count_64 : decode cX0_count 64 = .ok (.iload 5, 2) := by decide +kernel
theorem dX0_count_66 : decode cX0_count 66 = .ok (.invokevirtual 42, 3) := by decide +kernel
theorem dX0_count_69 : decode cX0_count 69 = .ok (.invokestatic 45, 3) := by decide +kernel
theorem dX0_count_72 : decode cX0_count 72 = .ok (.istore 7, 2) := by decide +kernel
theorem dX0_count_74 : decode cX0_count 74 = .ok (.aload_n 0, 1) := by decide +kernel
theorem dX0_count_75 : decode cX0_count 75 = .ok (.getfield 9, 3) := by decide +kernel
theorem dX0_count_78 : decode cX0_count 78 = .ok (.iload_n 3, 1) := by decide +kernel
theorem dX0_count_79 : decode cX0_count 79 = .ok (.iconst 4, 1) := by decide +kernel
theorem dX0_count_80 : decode cX0_count 80 = .ok (.imul, 1) := by decide +kernel
theorem dX0_count_81 : decode cX0_count 81 = .ok (.iload 5, 2) := by decide +kernel
theorem dX0_count_83 : decode cX0_count 83 = .ok (.iadd, 1) := by decide +kernel
theorem dX0_count_84 : decode cX0_count 84 = .ok (.iload 7, 2) := by decide +kernel
theorem dX0_count_86 : decode cX0_count 86 = .ok (.ifCond .eq 8, 3) := by decide +kernel
theorem dX0_count_89 : decode cX0_count 89 = .ok (.iload 6, 2) := by decide +kernel
theorem dX0_count_91 : decode cX0_count 91 = .ok (.goto 6, 3) := by decide +kernel
theorem dX0_count_94 : decode cX0_count 94 = .ok (.sipush 1000, 3) := by decide +kernel
theorem dX0_count_97 : decode cX0_count 97 = .ok (.invokestatic 49, 3) := by decide +kernel
theorem dX0_count_100 : decode cX0_count 100 = .ok (.iinc 5 1, 3) := by decide +kernel
theorem dX0_count_103 : decode cX0_count 103 = .ok (.goto (-68), 3) := by decide +kernel
theorem dX0_count_106 : decode cX0_count 106 = .ok (.iinc 3 (-1), 3) := by decide +kernel
theorem dX0_count_109 : decode cX0_count 109 = .ok (.goto (-97), 3) := by decide +kernel
theorem dX0_count_112 : decode cX0_count 112 = .ok (.return_, 1) := by decide +kernel
set_option maxRecDepth 20000 in
theorem ggX0_fewestFrom_X0_changesBy : GoodIn wsX0_fewestFrom wsX0_changesBy := goodIn_r _ [9, 10, 11, 12, 13, 14] (by decide +kernel) (by decide +kernel)
set_option maxRecDepth 20000 in
theorem gX0_fewestFrom_X0_changesBy : GoodIn wsX0_fewestFrom (wsV RX0 53 RX0 yX0_changesBy wsX0_changesBy) := goodIn_app (goodIn_of _ (by decide +kernel)) ggX0_fewestFrom_X0_changesBy
theorem dX0_fewestFrom_0 : decode cX0_fewestFrom 0 = .ok (.sipush 1000, 3) := by decide +kernel
theorem dX0_fewestFrom_3 : decode cX0_fewestFrom 3 = .ok (.istore_n 3, 1) := by decide +kernel
theorem dX0_fewestFrom_4 : decode cX0_fewestFrom 4 = .ok (.iconst 0, 1) := by decide +kernel
theorem dX0_fewestFrom_5 : decode cX0_fewestFrom 5 = .ok (.istore 4, 2) := by decide +kernel
theorem dX0_fewestFrom_7 : decode cX0_fewestFrom 7 = .ok (.iload 4, 2) := by decide +kernel
theorem dX0_fewestFrom_9 : decode cX0_fewestFrom 9 = .ok (.iconst 4, 1) := by decide +kernel
theorem dX0_fewestFrom_10 : decode cX0_fewestFrom 10 = .ok (.if_icmp .ge 22, 3) := by decide +kernel
theorem dX0_fewestFrom_13 : decode cX0_fewestFrom 13 = .ok (.iload_n 3, 1) := by decide +kernel
theorem dX0_fewestFrom_14 : decode cX0_fewestFrom 14 = .ok (.aload_n 0, 1) := by decide +kernel
theorem dX0_fewestFrom_15 : decode cX0_fewestFrom 15 = .ok (.iload_n 1, 1) := by decide +kernel
theorem dX0_fewestFrom_16 : decode cX0_fewestFrom 16 = .ok (.iload 4, 2) := by decide +kernel
theorem dX0_fewestFrom_18 : decode cX0_fewestFrom 18 = .ok (.iload_n 2, 1) := by decide +kernel
theorem dX0_fewestFrom_19 : decode cX0_fewestFrom 19 = .ok (.invokevirtual 53, 3) := by decide +kernel
theorem dX0_fewestFrom_22 : decode cX0_fewestFrom 22 = .ok (.invokestatic 57, 3) := by decide +kernel
theorem dX0_fewestFrom_25 : decode cX0_fewestFrom 25 = .ok (.istore_n 3, 1) := by decide +kernel
theorem dX0_fewestFrom_26 : decode cX0_fewestFrom 26 = .ok (.iinc 4 1, 3) := by decide +kernel
theorem dX0_fewestFrom_29 : decode cX0_fewestFrom 29 = .ok (.goto (-22), 3) := by decide +kernel
theorem dX0_fewestFrom_32 : decode cX0_fewestFrom 32 = .ok (.iload_n 3, 1) := by decide +kernel
theorem dX0_fewestFrom_33 : decode cX0_fewestFrom 33 = .ok (.ireturn, 1) := by decide +kernel
set_option maxRecDepth 20000 in
theorem ggX0_changesBy_X5_at : GoodIn wsX0_changesBy wsX5_at := goodIn_r _ [4] (by decide +kernel) (by decide +kernel)
set_option maxRecDepth 20000 in
theorem gX0_changesBy_X5_at_n30 : GoodIn wsX0_changesBy (wsX5_at) := ggX0_changesBy_X5_at
theorem dX0_changesBy_0 : decode cX0_changesBy 0 = .ok (.aload_n 0, 1) := by decide +kernel
theorem dX0_changesBy_1 : decode cX0_changesBy 1 = .ok (.getfield 9, 3) := by decide +kernel
theorem dX0_changesBy_4 : decode cX0_changesBy 4 = .ok (.iload_n 1, 1) := by decide +kernel
theorem dX0_changesBy_5 : decode cX0_changesBy 5 = .ok (.iconst 4, 1) := by decide +kernel
theorem dX0_changesBy_6 : decode cX0_changesBy 6 = .ok (.imul, 1) := by decide +kernel
theorem dX0_changesBy_7 : decode cX0_changesBy 7 = .ok (.iload_n 2, 1) := by decide +kernel
theorem dX0_changesBy_8 : decode cX0_changesBy 8 = .ok (.iadd, 1) := by decide +kernel
theorem dX0_changesBy_9 : decode cX0_changesBy 9 = .ok (.invokestatic 30, 3) := by decide +kernel
theorem dX0_changesBy_12 : decode cX0_changesBy 12 = .ok (.iload_n 2, 1) := by decide +kernel
theorem dX0_changesBy_13 : decode cX0_changesBy 13 = .ok (.iload_n 3, 1) := by decide +kernel
theorem dX0_changesBy_14 : decode cX0_changesBy 14 = .ok (.if_icmp .ne 7, 3) := by decide +kernel
theorem dX0_changesBy_17 : decode cX0_changesBy 17 = .ok (.iconst 0, 1) := by decide +kernel
theorem dX0_changesBy_18 : decode cX0_changesBy 18 = .ok (.goto 4, 3) := by decide +kernel
theorem dX0_changesBy_21 : decode cX0_changesBy 21 = .ok (.iconst 1, 1) := by decide +kernel
theorem dX0_changesBy_22 : decode cX0_changesBy 22 = .ok (.iadd, 1) := by decide +kernel
theorem dX0_changesBy_23 : decode cX0_changesBy 23 = .ok (.ireturn, 1) := by decide +kernel
set_option maxRecDepth 20000 in
theorem ggX0_fewest_X5_at : GoodIn wsX0_fewest wsX5_at := goodIn_r _ [8] (by decide +kernel) (by decide +kernel)
set_option maxRecDepth 20000 in
theorem gX0_fewest_X5_at_n30 : GoodIn wsX0_fewest (wsX5_at) := ggX0_fewest_X5_at
theorem dX0_fewest_0 : decode cX0_fewest 0 = .ok (.iload_n 1, 1) := by decide +kernel
theorem dX0_fewest_1 : decode cX0_fewest 1 = .ok (.ifCond .ne 5, 3) := by decide +kernel
theorem dX0_fewest_4 : decode cX0_fewest 4 = .ok (.iconst 0, 1) := by decide +kernel
theorem dX0_fewest_5 : decode cX0_fewest 5 = .ok (.ireturn, 1) := by decide +kernel
theorem dX0_fewest_6 : decode cX0_fewest 6 = .ok (.sipush 1000, 3) := by decide +kernel
theorem dX0_fewest_9 : decode cX0_fewest 9 = .ok (.istore_n 2, 1) := by decide +kernel
theorem dX0_fewest_10 : decode cX0_fewest 10 = .ok (.iconst 0, 1) := by decide +kernel
theorem dX0_fewest_11 : decode cX0_fewest 11 = .ok (.istore_n 3, 1) := by decide +kernel
theorem dX0_fewest_12 : decode cX0_fewest 12 = .ok (.iload_n 3, 1) := by decide +kernel
theorem dX0_fewest_13 : decode cX0_fewest 13 = .ok (.iconst 4, 1) := by decide +kernel
theorem dX0_fewest_14 : decode cX0_fewest 14 = .ok (.if_icmp .ge 22, 3) := by decide +kernel
theorem dX0_fewest_17 : decode cX0_fewest 17 = .ok (.iload_n 2, 1) := by decide +kernel
theorem dX0_fewest_18 : decode cX0_fewest 18 = .ok (.aload_n 0, 1) := by decide +kernel
theorem dX0_fewest_19 : decode cX0_fewest 19 = .ok (.getfield 9, 3) := by decide +kernel
theorem dX0_fewest_22 : decode cX0_fewest 22 = .ok (.iload_n 3, 1) := by decide +kernel
theorem dX0_fewest_23 : decode cX0_fewest 23 = .ok (.invokestatic 30, 3) := by decide +kernel
theorem dX0_fewest_26 : decode cX0_fewest 26 = .ok (.invokestatic 57, 3) := by decide +kernel
theorem dX0_fewest_29 : decode cX0_fewest 29 = .ok (.istore_n 2, 1) := by decide +kernel
theorem dX0_fewest_30 : decode cX0_fewest 30 = .ok (.iinc 3 1, 3) := by decide +kernel
theorem dX0_fewest_33 : decode cX0_fewest 33 = .ok (.goto (-21), 3) := by decide +kernel
theorem dX0_fewest_36 : decode cX0_fewest 36 = .ok (.iload_n 2, 1) := by decide +kernel
theorem dX0_fewest_37 : decode cX0_fewest 37 = .ok (.sipush 1000, 3) := by decide +kernel
theorem dX0_fewest_40 : decode cX0_fewest 40 = .ok (.if_icmp .ge 7, 3) := by decide +kernel
theorem dX0_fewest_43 : decode cX0_fewest 43 = .ok (.iload_n 2, 1) := by decide +kernel
theorem dX0_fewest_44 : decode cX0_fewest 44 = .ok (.goto 5, 3) := by decide +kernel
theorem dX0_fewest_47 : decode cX0_fewest 47 = .ok (.bipush (-6), 2) := by decide +kernel
theorem dX0_fewest_49 : decode cX0_fewest 49 = .ok (.ireturn, 1) := by decide +kernel
set_option maxRecDepth 20000 in
theorem ggX0_knitterOf_X5_at : GoodIn wsX0_knitterOf wsX5_at := goodIn_r _ [4] (by decide +kernel) (by decide +kernel)
set_option maxRecDepth 20000 in
theorem gX0_knitterOf_X5_at_n30 : GoodIn wsX0_knitterOf (wsX5_at) := ggX0_knitterOf_X5_at
set_option maxRecDepth 20000 in
theorem ggX0_knitterOf_X0_leastAfter : GoodIn wsX0_knitterOf wsX0_leastAfter := goodIn_r _ [9, 10, 11, 12, 8, 13, 1, 2, 3, 4, 14] (by decide +kernel) (by decide +kernel)
set_option maxRecDepth 20000 in
theorem gX0_knitterOf_X0_leastAfter : GoodIn wsX0_knitterOf (wsV RX0 62 RX0 yX0_leastAfter wsX0_leastAfter) := goodIn_app (goodIn_of _ (by decide +kernel)) ggX0_knitterOf_X0_leastAfter
theorem dX0_knitterOf_0 : decode cX0_knitterOf 0 = .ok (.iconst 0, 1) := by decide +kernel
theorem dX0_knitterOf_1 : decode cX0_knitterOf 1 = .ok (.istore_n 2, 1) := by decide +kernel
theorem dX0_knitterOf_2 : decode cX0_knitterOf 2 = .ok (.iconst 1, 1) := by decide +kernel
theorem dX0_knitterOf_3 : decode cX0_knitterOf 3 = .ok (.istore_n 3, 1) := by decide +kernel
theorem dX0_knitterOf_4 : decode cX0_knitterOf 4 = .ok (.iload_n 3, 1) := by decide +kernel
theorem dX0_knitterOf_5 : decode cX0_knitterOf 5 = .ok (.iconst 4, 1) := by decide +kernel
theorem dX0_knitterOf_6 : decode cX0_knitterOf 6 = .ok (.if_icmp .ge 30, 3) := by decide +kernel
theorem dX0_knitterOf_9 : decode cX0_knitterOf 9 = .ok (.aload_n 0, 1) := by decide +kernel
theorem dX0_knitterOf_10 : decode cX0_knitterOf 10 = .ok (.getfield 9, 3) := by decide +kernel
theorem dX0_knitterOf_13 : decode cX0_knitterOf 13 = .ok (.iload_n 3, 1) := by decide +kernel
theorem dX0_knitterOf_14 : decode cX0_knitterOf 14 = .ok (.invokestatic 30, 3) := by decide +kernel
theorem dX0_knitterOf_17 : decode cX0_knitterOf 17 = .ok (.aload_n 0, 1) := by decide +kernel
theorem dX0_knitterOf_18 : decode cX0_knitterOf 18 = .ok (.getfield 9, 3) := by decide +kernel
theorem dX0_knitterOf_21 : decode cX0_knitterOf 21 = .ok (.iload_n 2, 1) := by decide +kernel
theorem dX0_knitterOf_22 : decode cX0_knitterOf 22 = .ok (.invokestatic 30, 3) := by decide +kernel
theorem dX0_knitterOf_25 : decode cX0_knitterOf 25 = .ok (.if_icmp .ge 5, 3) := by decide +kernel
theorem dX0_knitterOf_28 : decode cX0_knitterOf 28 = .ok (.iload_n 3, 1) := by decide +kernel
theorem dX0_knitterOf_29 : decode cX0_knitterOf 29 = .ok (.istore_n 2, 1) := by decide +kernel
theorem dX0_knitterOf_30 : decode cX0_knitterOf 30 = .ok (.iinc 3 1, 3) := by decide +kernel
theorem dX0_knitterOf_33 : decode cX0_knitterOf 33 = .ok (.goto (-29), 3) := by decide +kernel
theorem dX0_knitterOf_36 : decode cX0_knitterOf 36 = .ok (.iconst 1, 1) := by decide +kernel
theorem dX0_knitterOf_37 : decode cX0_knitterOf 37 = .ok (.istore_n 3, 1) := by decide +kernel
theorem dX0_knitterOf_38 : decode cX0_knitterOf 38 = .ok (.iload_n 3, 1) := by decide +kernel
theorem dX0_knitterOf_39 : decode cX0_knitterOf 39 = .ok (.iload_n 1, 1) := by decide +kernel
theorem dX0_knitterOf_40 : decode cX0_knitterOf 40 = .ok (.if_icmp .gt 16, 3) := by decide +kernel
theorem dX0_knitterOf_43 : decode cX0_knitterOf 43 = .ok (.aload_n 0, 1) := by decide +kernel
theorem dX0_knitterOf_44 : decode cX0_knitterOf 44 = .ok (.iload_n 3, 1) := by decide +kernel
theorem dX0_knitterOf_45 : decode cX0_knitterOf 45 = .ok (.iload_n 2, 1) := by decide +kernel
theorem dX0_knitterOf_46 : decode cX0_knitterOf 46 = .ok (.invokevirtual 62, 3) := by decide +kernel
theorem dX0_knitterOf_49 : decode cX0_knitterOf 49 = .ok (.istore_n 2, 1) := by decide +kernel
theorem dX0_knitterOf_50 : decode cX0_knitterOf 50 = .ok (.iinc 3 1, 3) := by decide +kernel
theorem dX0_knitterOf_53 : decode cX0_knitterOf 53 = .ok (.goto (-15), 3) := by decide +kernel
theorem dX0_knitterOf_56 : decode cX0_knitterOf 56 = .ok (.iload_n 2, 1) := by decide +kernel
theorem dX0_knitterOf_57 : decode cX0_knitterOf 57 = .ok (.ireturn, 1) := by decide +kernel
set_option maxRecDepth 20000 in
theorem ggX0_leastAfter_X0_changesBy : GoodIn wsX0_leastAfter wsX0_changesBy := goodIn_r _ [5, 6, 7, 8, 9, 10] (by decide +kernel) (by decide +kernel)
set_option maxRecDepth 20000 in
theorem gX0_leastAfter_X0_changesBy : GoodIn wsX0_leastAfter (wsV RX0 53 RX0 yX0_changesBy wsX0_changesBy) := goodIn_app (goodIn_of _ (by decide +kernel)) ggX0_leastAfter_X0_changesBy
theorem dX0_leastAfter_0 : decode cX0_leastAfter 0 = .ok (.iconst 0, 1) := by decide +kernel
theorem dX0_leastAfter_1 : decode cX0_leastAfter 1 = .ok (.istore_n 3, 1) := by decide +kernel
theorem dX0_leastAfter_2 : decode cX0_leastAfter 2 = .ok (.iconst 1, 1) := by decide +kernel
theorem dX0_leastAfter_3 : decode cX0_leastAfter 3 = .ok (.istore 4, 2) := by decide +kernel
theorem dX0_leastAfter_5 : decode cX0_leastAfter 5 = .ok (.iload 4, 2) := by decide +kernel
theorem dX0_leastAfter_7 : decode cX0_leastAfter 7 = .ok (.iconst 4, 1) := by decide +kernel
theorem dX0_leastAfter_8 : decode cX0_leastAfter 8 = .ok (.if_icmp .ge 30, 3) := by decide +kernel
theorem dX0_leastAfter_11 : decode cX0_leastAfter 11 = .ok (.aload_n 0, 1) := by decide +kernel
theorem dX0_leastAfter_12 : decode cX0_leastAfter 12 = .ok (.iload_n 1, 1) := by decide +kernel
theorem dX0_leastAfter_13 : decode cX0_leastAfter 13 = .ok (.iload 4, 2) := by decide +kernel
theorem dX0_leastAfter_15 : decode cX0_leastAfter 15 = .ok (.iload_n 2, 1) := by decide +kernel
theorem dX0_leastAfter_16 : decode cX0_leastAfter 16 = .ok (.invokevirtual 53, 3) := by decide +kernel
theorem dX0_leastAfter_19 : decode cX0_leastAfter 19 = .ok (.aload_n 0, 1) := by decide +kernel
theorem dX0_leastAfter_20 : decode cX0_leastAfter 20 = .ok (.iload_n 1, 1) := by decide +kernel
theorem dX0_leastAfter_21 : decode cX0_leastAfter 21 = .ok (.iload_n 3, 1) := by decide +kernel
theorem dX0_leastAfter_22 : decode cX0_leastAfter 22 = .ok (.iload_n 2, 1) := by decide +kernel
theorem dX0_leastAfter_23 : decode cX0_leastAfter 23 = .ok (.invokevirtual 53, 3) := by decide +kernel
theorem dX0_leastAfter_26 : decode cX0_leastAfter 26 = .ok (.if_icmp .ge 6, 3) := by decide +kernel
theorem dX0_leastAfter_29 : decode cX0_leastAfter 29 = .ok (.iload 4, 2) := by decide +kernel
theorem dX0_leastAfter_31 : decode cX0_leastAfter 31 = .ok (.istore_n 3, 1) := by decide +kernel
theorem dX0_leastAfter_32 : decode cX0_leastAfter 32 = .ok (.iinc 4 1, 3) := by decide +kernel
theorem dX0_leastAfter_35 : decode cX0_leastAfter 35 = .ok (.goto (-30), 3) := by decide +kernel
theorem dX0_leastAfter_38 : decode cX0_leastAfter 38 = .ok (.iload_n 3, 1) := by decide +kernel
theorem dX0_leastAfter_39 : decode cX0_leastAfter 39 = .ok (.ireturn, 1) := by decide +kernel
theorem dX1_init_0 : decode cX1_init 0 = .ok (.aload_n 0, 1) := by decide +kernel
theorem dX1_init_1 : decode cX1_init 1 = .ok (.invokespecial 3, 3) := by decide +kernel
theorem dX1_init_4 : decode cX1_init 4 = .ok (.aload_n 0, 1) := by decide +kernel
theorem dX1_init_5 : decode cX1_init 5 = .ok (.bipush 60, 2) := by decide +kernel
theorem dX1_init_7 : decode cX1_init 7 = .ok (.newarray .int, 2) := by decide +kernel
theorem dX1_init_9 : decode cX1_init 9 = .ok (.putfield 9, 3) := by decide +kernel
theorem dX1_init_12 : decode cX1_init 12 = .ok (.return_, 1) := by decide +kernel
set_option maxRecDepth 20000 in
theorem ggX1_append_X5_put : GoodIn wsX1_append wsX5_put := goodIn_r _ [5] (by decide +kernel) (by decide +kernel)
set_option maxRecDepth 20000 in
theorem gX1_append_X5_put_n19 : GoodIn wsX1_append (wsX5_put) := ggX1_append_X5_put
theorem dX1_append_0 : decode cX1_append 0 = .ok (.aload_n 0, 1) := by decide +kernel
theorem dX1_append_1 : decode cX1_append 1 = .ok (.getfield 9, 3) := by decide +kernel
theorem dX1_append_4 : decode cX1_append 4 = .ok (.aload_n 0, 1) := by decide +kernel
theorem dX1_append_5 : decode cX1_append 5 = .ok (.getfield 15, 3) := by decide +kernel
theorem dX1_append_8 : decode cX1_append 8 = .ok (.iload_n 1, 1) := by decide +kernel
theorem dX1_append_9 : decode cX1_append 9 = .ok (.invokestatic 19, 3) := by decide +kernel
theorem dX1_append_12 : decode cX1_append 12 = .ok (.aload_n 0, 1) := by decide +kernel
theorem dX1_append_13 : decode cX1_append 13 = .ok (.dup, 1) := by decide +kernel
theorem dX1_append_14 : decode cX1_append 14 = .ok (.getfield 15, 3) := by decide +kernel
theorem dX1_append_17 : decode cX1_append 17 = .ok (.iconst 1, 1) := by decide +kernel
theorem dX1_append_18 : decode cX1_append 18 = .ok (.iadd, 1) := by decide +kernel
theorem dX1_append_19 : decode cX1_append 19 = .ok (.putfield 15, 3) := by decide +kernel
theorem dX1_append_22 : decode cX1_append 22 = .ok (.return_, 1) := by decide +kernel
set_option maxRecDepth 20000 in
theorem ggX1_firstFault_X1_wantedAfter : GoodIn wsX1_firstFault wsX1_wantedAfter := goodIn_r _ [6, 7, 8, 9, 5, 10, 11, 12, 13, 14, 15, 16, 17, 18, 19, 20, 21, 22, 23, 24, 25, 26, 27, 28, 29, 30, 31, 32, 33] (by decide +kernel) (by decide +kernel)
set_option maxRecDepth 20000 in
theorem gX1_firstFault_X1_wantedAfter : GoodIn wsX1_firstFault (wsV RX1 23 RX1 yX1_wantedAfter wsX1_wantedAfter) := goodIn_app (goodIn_of _ (by decide +kernel)) ggX1_firstFault_X1_wantedAfter
theorem dX1_firstFault_0 : decode cX1_firstFault 0 = .ok (.iconst 0, 1) := by decide +kernel
theorem dX1_firstFault_1 : decode cX1_firstFault 1 = .ok (.istore_n 1, 1) := by decide +kernel
theorem dX1_firstFault_2 : decode cX1_firstFault 2 = .ok (.iconst 0, 1) := by decide +kernel
theorem dX1_firstFault_3 : decode cX1_firstFault 3 = .ok (.istore_n 2, 1) := by decide +kernel
theorem dX1_firstFault_4 : decode cX1_firstFault 4 = .ok (.iload_n 2, 1) := by decide +kernel
theorem dX1_firstFault_5 : decode cX1_firstFault 5 = .ok (.aload_n 0, 1) := by decide +kernel
theorem dX1_firstFault_6 : decode cX1_firstFault 6 = .ok (.getfield 15, 3) := by decide +kernel
theorem dX1_firstFault_9 : decode cX1_firstFault 9 = .ok (.if_icmp .ge 23, 3) := by decide +kernel
theorem dX1_firstFault_12 : decode cX1_firstFault 12 = .ok (.aload_n 0, 1) := by decide +kernel
theorem dX1_firstFault_13 : decode cX1_firstFault 13 = .ok (.iload_n 1, 1) := by decide +kernel
theorem dX1_firstFault_14 : decode cX1_firstFault 14 = .ok (.iload_n 2, 1) := by decide +kernel
theorem dX1_firstFault_15 : decode cX1_firstFault 15 = .ok (.invokevirtual 23, 3) := by decide +kernel
theorem dX1_firstFault_18 : decode cX1_firstFault 18 = .ok (.istore_n 1, 1) := by decide +kernel
theorem dX1_firstFault_19 : decode cX1_firstFault 19 = .ok (.iload_n 1, 1) := by decide +kernel
theorem dX1_firstFault_20 : decode cX1_firstFault 20 = .ok (.iconst (-1), 1) := by decide +kernel
theorem dX1_firstFault_21 : decode cX1_firstFault 21 = .ok (.if_icmp .ne 5, 3) := by decide +kernel
theorem dX1_firstFault_24 : decode cX1_firstFault 24 = .ok (.iload_n 2, 1) := by decide +kernel
theorem dX1_firstFault_25 : decode cX1_firstFault 25 = .ok (.ireturn, 1) := by decide +kernel
theorem dX1_firstFault_26 : decode cX1_firstFault 26 = .ok (.iinc 2 1, 3) := by decide +kernel
theorem dX1_firstFault_29 : decode cX1_firstFault 29 = .ok (.goto (-25), 3) := by decide +kernel
theorem dX1_firstFault_32 : decode cX1_firstFault 32 = .ok (.iload_n 1, 1) := by decide +kernel
theorem dX1_firstFault_33 : decode cX1_firstFault 33 = .ok (.ifCond .ne 8, 3) := by decide +kernel
theorem dX1_firstFault_36 : decode cX1_firstFault 36 = .ok (.bipush (-6), 2) := by decide +kernel
theorem dX1_firstFault_38 : decode cX1_firstFault 38 = .ok (.goto 7, 3) := by decide +kernel
theorem dX1_firstFault_41 : decode cX1_firstFault 41 = .ok (.aload_n 0, 1) := by decide +kernel
theorem dX1_firstFault_42 : decode cX1_firstFault 42 = .ok (.getfield 15, 3) := by decide +kernel
theorem dX1_firstFault_45 : decode cX1_firstFault 45 = .ok (.ireturn, 1) := by decide +kernel
set_option maxRecDepth 20000 in
theorem ggX1_wantedAfter_X1_colourAt : GoodIn wsX1_wantedAfter wsX1_colourAt := goodIn_r _ [5, 6, 7, 8, 9, 27, 28] (by decide +kernel) (by decide +kernel)
set_option maxRecDepth 20000 in
theorem gX1_wantedAfter_X1_colourAt : GoodIn wsX1_wantedAfter (wsV RX1 27 RX1 yX1_colourAt wsX1_colourAt) := goodIn_app (goodIn_of _ (by decide +kernel)) ggX1_wantedAfter_X1_colourAt
set_option maxRecDepth 20000 in
theorem ggX1_wantedAfter_X5_isBelow : GoodIn wsX1_wantedAfter wsX5_isBelow := goodIn_r _ [11] (by decide +kernel) (by decide +kernel)
set_option maxRecDepth 20000 in
theorem gX1_wantedAfter_X5_isBelow_n31 : GoodIn wsX1_wantedAfter (wsX5_isBelow) := ggX1_wantedAfter_X5_isBelow
set_option maxRecDepth 20000 in
theorem ggX1_wantedAfter_X1_stitchAt : GoodIn wsX1_wantedAfter wsX1_stitchAt := goodIn_r _ [15, 6, 7, 8, 9, 27, 28] (by decide +kernel) (by decide +kernel)
set_option maxRecDepth 20000 in
theorem gX1_wantedAfter_X1_stitchAt : GoodIn wsX1_wantedAfter (wsV RX1 35 RX1 yX1_stitchAt wsX1_stitchAt) := goodIn_app (goodIn_of _ (by decide +kernel)) ggX1_wantedAfter_X1_stitchAt
set_option maxRecDepth 20000 in
theorem ggX1_wantedAfter_X1_knitterAt : GoodIn wsX1_wantedAfter wsX1_knitterAt := goodIn_r _ [19, 6, 7, 8, 9, 27, 28] (by decide +kernel) (by decide +kernel)
set_option maxRecDepth 20000 in
theorem gX1_wantedAfter_X1_knitterAt : GoodIn wsX1_wantedAfter (wsV RX1 38 RX1 yX1_knitterAt wsX1_knitterAt) := goodIn_app (goodIn_of _ (by decide +kernel)) ggX1_wantedAfter_X1_knitterAt
set_option maxRecDepth 20000 in
theorem ggX1_wantedAfter_X1_kindAt : GoodIn wsX1_wantedAfter wsX1_kindAt := goodIn_r _ [23, 6, 16, 17, 18, 4, 19, 7, 8, 9, 10, 11, 27, 28] (by decide +kernel) (by decide +kernel)
set_option maxRecDepth 20000 in
theorem gX1_wantedAfter_X1_kindAt : GoodIn wsX1_wantedAfter (wsV RX1 41 RX1 yX1_kindAt wsX1_kindAt) := goodIn_app (goodIn_of _ (by decide +kernel)) ggX1_wantedAfter_X1_kindAt
set_option maxRecDepth 20000 in
theorem ggX1_wantedAfter_X1_wantedBy : GoodIn wsX1_wantedAfter wsX1_wantedBy := goodIn_r _ [26] (by decide +kernel) (by decide +kernel)
set_option maxRecDepth 20000 in
theorem gX1_wantedAfter_X1_wantedBy : GoodIn wsX1_wantedAfter (va_wsS RX1 44 yX1_wantedBy wsX1_wantedBy) := goodIn_app (goodIn_of _ (by decide +kernel)) ggX1_wantedAfter_X1_wantedBy
theorem dX1_wantedAfter_0 : decode cX1_wantedAfter 0 = .ok (.iload_n 1, 1) := by decide +kernel
theorem dX1_wantedAfter_1 : decode cX1_wantedAfter 1 = .ok (.tableswitch 105 1 4 #[31, 49, 68, 87], 31) := by decide +kernel
theorem dX1_wantedAfter_32 : decode cX1_wantedAfter 32 = .ok (.aload_n 0, 1) := by decide +kernel
theorem dX1_wantedAfter_33 : decode cX1_wantedAfter 33 = .ok (.iload_n 2, 1) := by decide +kernel
theorem dX1_wantedAfter_34 : decode cX1_wantedAfter 34 = .ok (.invokevirtual 27, 3) := by decide +kernel
theorem dX1_wantedAfter_37 : decode cX1_wantedAfter 37 = .ok (.iconst 4, 1) := by decide +kernel
theorem dX1_wantedAfter_38 : decode cX1_wantedAfter 38 = .ok (.invokestatic 31, 3) := by decide +kernel
theorem dX1_wantedAfter_41 : decode cX1_wantedAfter 41 = .ok (.ifCond .eq 7, 3) := by decide +kernel
theorem dX1_wantedAfter_44 : decode cX1_wantedAfter 44 = .ok (.iconst 0, 1) := by decide +kernel
theorem dX1_wantedAfter_45 : decode cX1_wantedAfter 45 = .ok (.goto 4, 3) := by decide +kernel
theorem dX1_wantedAfter_48 : decode cX1_wantedAfter 48 = .ok (.iconst (-1), 1) := by decide +kernel
theorem dX1_wantedAfter_49 : decode cX1_wantedAfter 49 = .ok (.ireturn, 1) := by decide +kernel
theorem dX1_wantedAfter_50 : decode cX1_wantedAfter 50 = .ok (.aload_n 0, 1) := by decide +kernel
theorem dX1_wantedAfter_51 : decode cX1_wantedAfter 51 = .ok (.iload_n 2, 1) := by decide +kernel
theorem dX1_wantedAfter_52 : decode cX1_wantedAfter 52 = .ok (.invokevirtual 35, 3) := by decide +kernel
theorem dX1_wantedAfter_55 : decode cX1_wantedAfter 55 = .ok (.bipush 24, 2) := by decide +kernel
theorem dX1_wantedAfter_57 : decode cX1_wantedAfter 57 = .ok (.invokestatic 31, 3) := by decide +kernel
theorem dX1_wantedAfter_60 : decode cX1_wantedAfter 60 = .ok (.ifCond .eq 7, 3) := by decide +kernel
theorem dX1_wantedAfter_63 : decode cX1_wantedAfter 63 = .ok (.iconst 0, 1) := by decide +kernel
theorem dX1_wantedAfter_64 : decode cX1_wantedAfter 64 = .ok (.goto 4, 3) := by decide +kernel
theorem dX1_wantedAfter_67 : decode cX1_wantedAfter 67 = .ok (.iconst (-1), 1) := by decide +kernel
theorem dX1_wantedAfter_68 : decode cX1_wantedAfter 68 = .ok (.ireturn, 1) := by decide +kernel
theorem dX1_wantedAfter_69 : decode cX1_wantedAfter 69 = .ok (.aload_n 0, 1) := by decide +kernel
theorem dX1_wantedAfter_70 : decode cX1_wantedAfter 70 = .ok (.iload_n 2, 1) := by decide +kernel
theorem dX1_wantedAfter_71 : decode cX1_wantedAfter 71 = .ok (.invokevirtual 35, 3) := by decide +kernel
theorem dX1_wantedAfter_74 : decode cX1_wantedAfter 74 = .ok (.bipush 24, 2) := by decide +kernel
theorem dX1_wantedAfter_76 : decode cX1_wantedAfter 76 = .ok (.invokestatic 31, 3) := by decide +kernel
theorem dX1_wantedAfter_79 : decode cX1_wantedAfter 79 = .ok (.ifCond .eq 7, 3) := by decide +kernel
theorem dX1_wantedAfter_82 : decode cX1_wantedAfter 82 = .ok (.iconst 4, 1) := by decide +kernel
theorem dX1_wantedAfter_83 : decode cX1_wantedAfter 83 = .ok (.goto 4, 3) := by decide +kernel
theorem dX1_wantedAfter_86 : decode cX1_wantedAfter 86 = .ok (.iconst (-1), 1) := by decide +kernel
theorem dX1_wantedAfter_87 : decode cX1_wantedAfter 87 = .ok (.ireturn, 1) := by decide +kernel
theorem dX1_wantedAfter_88 : decode cX1_wantedAfter 88 = .ok (.aload_n 0, 1) := by decide +kernel
theorem dX1_wantedAfter_89 : decode cX1_wantedAfter 89 = .ok (.iload_n 2, 1) := by decide +kernel
theorem dX1_wantedAfter_90 : decode cX1_wantedAfter 90 = .ok (.invokevirtual 38, 3) := by decide +kernel
theorem dX1_wantedAfter_93 : decode cX1_wantedAfter 93 = .ok (.iconst 4, 1) := by decide +kernel
theorem dX1_wantedAfter_94 : decode cX1_wantedAfter 94 = .ok (.invokestatic 31, 3) := by decide +kernel
theorem dX1_wantedAfter_97 : decode cX1_wantedAfter 97 = .ok (.ifCond .eq 7, 3) := by decide +kernel
theorem dX1_wantedAfter_100 : decode cX1_wantedAfter 100 = .ok (.iconst 0, 1) := by decide +kernel
theorem dX1_wantedAfter_101 : decode cX1_wantedAfter 101 = .ok (.goto 4, 3) := by decide +kernel
theorem dX1_wantedAfter_104 : decode cX1_wantedAfter 104 = .ok (.iconst (-1), 1) := by decide +kernel
theorem dX1_wantedAfter_105 : decode cX1_wantedAfter 105 = .ok (.ireturn, 1) := by decide +kernel
theorem dX1_wantedAfter_106 : decode cX1_wantedAfter 106 = .ok (.aload_n 0, 1) := by decide +kernel
theorem dX1_wantedAfter_107 : decode cX1_wantedAfter 107 = .ok (.iload_n 2, 1) := by decide +kernel
theorem dX1_wantedAfter_108 : decode cX1_wantedAfter 108 = .ok (.invokevirtual 41, 3) := by decide +kernel
theorem dX1_wantedAfter_111 : decode cX1_wantedAfter 111 = .ok (.invokestatic 44, 3) := by decide +kernel
theorem dX1_wantedAfter_114 : decode cX1_wantedAfter 114 = .ok (.ireturn, 1) := by decide +kernel
theorem dX1_wantedBy_0 : decode cX1_wantedBy 0 = .ok (.iload_n 0, 1) := by decide +kernel
theorem dX1_wantedBy_1 : decode cX1_wantedBy 1 = .ok (.tableswitch 37 0 3 #[33, 33, 35, 31], 31) := by decide +kernel
theorem dX1_wantedBy_32 : decode cX1_wantedBy 32 = .ok (.iconst 1, 1) := by decide +kernel
theorem dX1_wantedBy_33 : decode cX1_wantedBy 33 = .ok (.ireturn, 1) := by decide +kernel
theorem dX1_wantedBy_34 : decode cX1_wantedBy 34 = .ok (.iconst 2, 1) := by decide +kernel
theorem dX1_wantedBy_35 : decode cX1_wantedBy 35 = .ok (.ireturn, 1) := by decide +kernel
theorem dX1_wantedBy_36 : decode cX1_wantedBy 36 = .ok (.iconst 3, 1) := by decide +kernel
theorem dX1_wantedBy_37 : decode cX1_wantedBy 37 = .ok (.ireturn, 1) := by decide +kernel
theorem dX1_wantedBy_38 : decode cX1_wantedBy 38 = .ok (.iconst (-1), 1) := by decide +kernel
theorem dX1_wantedBy_39 : decode cX1_wantedBy 39 = .ok (.ireturn, 1) := by decide +kernel
set_option maxRecDepth 20000 in
theorem ggX1_kindAt_X1_knitterAt : GoodIn wsX1_kindAt wsX1_knitterAt := goodIn_r _ [6, 1, 7, 8, 9, 12, 13] (by decide +kernel) (by decide +kernel)
set_option maxRecDepth 20000 in
theorem gX1_kindAt_X1_knitterAt : GoodIn wsX1_kindAt (wsV RX1 38 RX1 yX1_knitterAt wsX1_knitterAt) := goodIn_app (goodIn_of _ (by decide +kernel)) ggX1_kindAt_X1_knitterAt
set_option maxRecDepth 20000 in
theorem ggX1_kindAt_X5_isBelow : GoodIn wsX1_kindAt wsX5_isBelow := goodIn_r _ [11] (by decide +kernel) (by decide +kernel)
set_option maxRecDepth 20000 in
theorem gX1_kindAt_X5_isBelow_n31 : GoodIn wsX1_kindAt (wsX5_isBelow) := ggX1_kindAt_X5_isBelow
set_option maxRecDepth 20000 in
theorem ggX1_kindAt_X5_at : GoodIn wsX1_kindAt wsX5_at := goodIn_r _ [9] (by decide +kernel) (by decide +kernel)
set_option maxRecDepth 20000 in
theorem gX1_kindAt_X5_at_n47 : GoodIn wsX1_kindAt (wsX5_at) := ggX1_kindAt_X5_at
theorem dX1_kindAt_0 : decode cX1_kindAt 0 = .ok (.aload_n 0, 1) := by decide +kernel
theorem dX1_kindAt_1 : decode cX1_kindAt 1 = .ok (.iload_n 1, 1) := by decide +kernel
theorem dX1_kindAt_2 : decode cX1_kindAt 2 = .ok (.invokevirtual 38, 3) := by decide +kernel
theorem dX1_kindAt_5 : decode cX1_kindAt 5 = .ok (.iconst 4, 1) := by decide +kernel
theorem dX1_kindAt_6 : decode cX1_kindAt 6 = .ok (.invokestatic 31, 3) := by decide +kernel
theorem dX1_kindAt_9 : decode cX1_kindAt 9 = .ok (.ifCond .eq 5, 3) := by decide +kernel
theorem dX1_kindAt_12 : decode cX1_kindAt 12 = .ok (.iconst 3, 1) := by decide +kernel
theorem dX1_kindAt_13 : decode cX1_kindAt 13 = .ok (.ireturn, 1) := by decide +kernel
theorem dX1_kindAt_14 : decode cX1_kindAt 14 = .ok (.aload_n 0, 1) := by decide +kernel
theorem dX1_kindAt_15 : decode cX1_kindAt 15 = .ok (.getfield 9, 3) := by decide +kernel
theorem dX1_kindAt_18 : decode cX1_kindAt 18 = .ok (.iload_n 1, 1) := by decide +kernel
theorem dX1_kindAt_19 : decode cX1_kindAt 19 = .ok (.invokestatic 47, 3) := by decide +kernel
theorem dX1_kindAt_22 : decode cX1_kindAt 22 = .ok (.tableswitch 36 42 45 #[32, 34, 36, 30], 30) := by decide +kernel
theorem dX1_kindAt_52 : decode cX1_kindAt 52 = .ok (.iconst 0, 1) := by decide +kernel
theorem dX1_kindAt_53 : decode cX1_kindAt 53 = .ok (.ireturn, 1) := by decide +kernel
theorem dX1_kindAt_54 : decode cX1_kindAt 54 = .ok (.iconst 1, 1) := by decide +kernel
theorem dX1_kindAt_55 : decode cX1_kindAt 55 = .ok (.ireturn, 1) := by decide +kernel
theorem dX1_kindAt_56 : decode cX1_kindAt 56 = .ok (.iconst 2, 1) := by decide +kernel
theorem dX1_kindAt_57 : decode cX1_kindAt 57 = .ok (.ireturn, 1) := by decide +kernel
theorem dX1_kindAt_58 : decode cX1_kindAt 58 = .ok (.iconst (-1), 1) := by decide +kernel
theorem dX1_kindAt_59 : decode cX1_kindAt 59 = .ok (.ireturn, 1) := by decide +kernel
set_option maxRecDepth 20000 in
theorem ggX1_knitterAt_X5_at : GoodIn wsX1_knitterAt wsX5_at := goodIn_r _ [4] (by decide +kernel) (by decide +kernel)
set_option maxRecDepth 20000 in
theorem gX1_knitterAt_X5_at_n47 : GoodIn wsX1_knitterAt (wsX5_at) := ggX1_knitterAt_X5_at
theorem dX1_knitterAt_0 : decode cX1_knitterAt 0 = .ok (.aload_n 0, 1) := by decide +kernel
theorem dX1_knitterAt_1 : decode cX1_knitterAt 1 = .ok (.getfield 9, 3) := by decide +kernel
theorem dX1_knitterAt_4 : decode cX1_knitterAt 4 = .ok (.iload_n 1, 1) := by decide +kernel
theorem dX1_knitterAt_5 : decode cX1_knitterAt 5 = .ok (.invokestatic 47, 3) := by decide +kernel
theorem dX1_knitterAt_8 : decode cX1_knitterAt 8 = .ok (.bipush 97, 2) := by decide +kernel
theorem dX1_knitterAt_10 : decode cX1_knitterAt 10 = .ok (.isub, 1) := by decide +kernel
theorem dX1_knitterAt_11 : decode cX1_knitterAt 11 = .ok (.ireturn, 1) := by decide +kernel
set_option maxRecDepth 20000 in
theorem ggX1_colourAt_X5_at : GoodIn wsX1_colourAt wsX5_at := goodIn_r _ [4] (by decide +kernel) (by decide +kernel)
set_option maxRecDepth 20000 in
theorem gX1_colourAt_X5_at_n47 : GoodIn wsX1_colourAt (wsX5_at) := ggX1_colourAt_X5_at
theorem dX1_colourAt_0 : decode cX1_colourAt 0 = .ok (.aload_n 0, 1) := by decide +kernel
theorem dX1_colourAt_1 : decode cX1_colourAt 1 = .ok (.getfield 9, 3) := by decide +kernel
theorem dX1_colourAt_4 : decode cX1_colourAt 4 = .ok (.iload_n 1, 1) := by decide +kernel
theorem dX1_colourAt_5 : decode cX1_colourAt 5 = .ok (.invokestatic 47, 3) := by decide +kernel
theorem dX1_colourAt_8 : decode cX1_colourAt 8 = .ok (.bipush 48, 2) := by decide +kernel
theorem dX1_colourAt_10 : decode cX1_colourAt 10 = .ok (.isub, 1) := by decide +kernel
theorem dX1_colourAt_11 : decode cX1_colourAt 11 = .ok (.ireturn, 1) := by decide +kernel
set_option maxRecDepth 20000 in
theorem ggX1_stitchAt_X5_at : GoodIn wsX1_stitchAt wsX5_at := goodIn_r _ [4] (by decide +kernel) (by decide +kernel)
set_option maxRecDepth 20000 in
theorem gX1_stitchAt_X5_at_n47 : GoodIn wsX1_stitchAt (wsX5_at) := ggX1_stitchAt_X5_at
theorem dX1_stitchAt_0 : decode cX1_stitchAt 0 = .ok (.aload_n 0, 1) := by decide +kernel
theorem dX1_stitchAt_1 : decode cX1_stitchAt 1 = .ok (.getfield 9, 3) := by decide +kernel
theorem dX1_stitchAt_4 : decode cX1_stitchAt 4 = .ok (.iload_n 1, 1) := by decide +kernel
theorem dX1_stitchAt_5 : decode cX1_stitchAt 5 = .ok (.invokestatic 47, 3) := by decide +kernel
theorem dX1_stitchAt_8 : decode cX1_stitchAt 8 = .ok (.bipush 65, 2) := by decide +kernel
theorem dX1_stitchAt_10 : decode cX1_stitchAt 10 = .ok (.isub, 1) := by decide +kernel
theorem dX1_stitchAt_11 : decode cX1_stitchAt 11 = .ok (.ireturn, 1) := by decide +kernel
theorem dX2_init_0 : decode cX2_init 0 = .ok (.aload_n 0, 1) := by decide +kernel
theorem dX2_init_1 : decode cX2_init 1 = .ok (.invokespecial 3, 3) := by decide +kernel
theorem dX2_init_4 : decode cX2_init 4 = .ok (.aload_n 0, 1) := by decide +kernel
theorem dX2_init_5 : decode cX2_init 5 = .ok (.bipush 24, 2) := by decide +kernel
theorem dX2_init_7 : decode cX2_init 7 = .ok (.newarray .int, 2) := by decide +kernel
theorem dX2_init_9 : decode cX2_init 9 = .ok (.putfield 9, 3) := by decide +kernel
theorem dX2_init_12 : decode cX2_init 12 = .ok (.aload_n 0, 1) := by decide +kernel
theorem dX2_init_13 : decode cX2_init 13 = .ok (.bipush 24, 2) := by decide +kernel
theorem dX2_init_15 : decode cX2_init 15 = .ok (.newarray .int, 2) := by decide +kernel
theorem dX2_init_17 : decode cX2_init 17 = .ok (.putfield 15, 3) := by decide +kernel
theorem dX2_init_20 : decode cX2_init 20 = .ok (.aload_n 0, 1) := by decide +kernel
theorem dX2_init_21 : decode cX2_init 21 = .ok (.bipush 24, 2) := by decide +kernel
theorem dX2_init_23 : decode cX2_init 23 = .ok (.newarray .int, 2) := by decide +kernel
theorem dX2_init_25 : decode cX2_init 25 = .ok (.putfield 18, 3) := by decide +kernel
theorem dX2_init_28 : decode cX2_init 28 = .ok (.return_, 1) := by decide +kernel
set_option maxRecDepth 20000 in
theorem ggX2_has_X5_isBelow : GoodIn wsX2_has wsX5_isBelow := goodIn_r _ [4] (by decide +kernel) (by decide +kernel)
set_option maxRecDepth 20000 in
theorem gX2_has_X5_isBelow_n25 : GoodIn wsX2_has (wsX5_isBelow) := ggX2_has_X5_isBelow
theorem dX2_has_0 : decode cX2_has 0 = .ok (.iload_n 1, 1) := by decide +kernel
theorem dX2_has_1 : decode cX2_has 1 = .ok (.aload_n 0, 1) := by decide +kernel
theorem dX2_has_2 : decode cX2_has 2 = .ok (.getfield 21, 3) := by decide +kernel
theorem dX2_has_5 : decode cX2_has 5 = .ok (.invokestatic 25, 3) := by decide +kernel
theorem dX2_has_8 : decode cX2_has 8 = .ok (.ireturn, 1) := by decide +kernel
theorem dX2_hasAll_0 : decode cX2_hasAll 0 = .ok (.iload_n 1, 1) := by decide +kernel
theorem dX2_hasAll_1 : decode cX2_hasAll 1 = .ok (.iconst 1, 1) := by decide +kernel
theorem dX2_hasAll_2 : decode cX2_hasAll 2 = .ok (.aload_n 0, 1) := by decide +kernel
theorem dX2_hasAll_3 : decode cX2_hasAll 3 = .ok (.getfield 21, 3) := by decide +kernel
theorem dX2_hasAll_6 : decode cX2_hasAll 6 = .ok (.ishl, 1) := by decide +kernel
theorem dX2_hasAll_7 : decode cX2_hasAll 7 = .ok (.iconst 1, 1) := by decide +kernel
theorem dX2_hasAll_8 : decode cX2_hasAll 8 = .ok (.isub, 1) := by decide +kernel
theorem dX2_hasAll_9 : decode cX2_hasAll 9 = .ok (.iand, 1) := by decide +kernel
theorem dX2_hasAll_10 : decode cX2_hasAll 10 = .ok (.iload_n 1, 1) := by decide +kernel
theorem dX2_hasAll_11 : decode cX2_hasAll 11 = .ok (.if_icmp .ne 7, 3) := by decide +kernel
theorem dX2_hasAll_14 : decode cX2_hasAll 14 = .ok (.iconst 1, 1) := by decide +kernel
theorem dX2_hasAll_15 : decode cX2_hasAll 15 = .ok (.goto 4, 3) := by decide +kernel
theorem dX2_hasAll_18 : decode cX2_hasAll 18 = .ok (.iconst 0, 1) := by decide +kernel
theorem dX2_hasAll_19 : decode cX2_hasAll 19 = .ok (.ireturn, 1) := by decide +kernel
theorem dX2_isFull_0 : decode cX2_isFull 0 = .ok (.aload_n 0, 1) := by decide +kernel
theorem dX2_isFull_1 : decode cX2_isFull 1 = .ok (.getfield 21, 3) := by decide +kernel
theorem dX2_isFull_4 : decode cX2_isFull 4 = .ok (.bipush 24, 2) := by decide +kernel
theorem dX2_isFull_6 : decode cX2_isFull 6 = .ok (.if_icmp .lt 7, 3) := by decide +kernel
theorem dX2_isFull_9 : decode cX2_isFull 9 = .ok (.iconst 1, 1) := by decide +kernel
theorem dX2_isFull_10 : decode cX2_isFull 10 = .ok (.goto 4, 3) := by decide +kernel
theorem dX2_isFull_13 : decode cX2_isFull 13 = .ok (.iconst 0, 1) := by decide +kernel
theorem dX2_isFull_14 : decode cX2_isFull 14 = .ok (.ireturn, 1) := by decide +kernel
set_option maxRecDepth 20000 in
theorem ggX2_isEaten_X5_isIn : GoodIn wsX2_isEaten wsX5_isIn := goodIn_r _ [4] (by decide +kernel) (by decide +kernel)
set_option maxRecDepth 20000 in
theorem gX2_isEaten_X5_isIn_n32 : GoodIn wsX2_isEaten (wsX5_isIn) := ggX2_isEaten_X5_isIn
theorem dX2_isEaten_0 : decode cX2_isEaten 0 = .ok (.aload_n 0, 1) := by decide +kernel
theorem dX2_isEaten_1 : decode cX2_isEaten 1 = .ok (.getfield 29, 3) := by decide +kernel
theorem dX2_isEaten_4 : decode cX2_isEaten 4 = .ok (.iload_n 1, 1) := by decide +kernel
theorem dX2_isEaten_5 : decode cX2_isEaten 5 = .ok (.invokestatic 32, 3) := by decide +kernel
theorem dX2_isEaten_8 : decode cX2_isEaten 8 = .ok (.ireturn, 1) := by decide +kernel
set_option maxRecDepth 20000 in
theorem ggX2_trait_X5_at : GoodIn wsX2_trait wsX5_at := goodIn_r _ [6] (by decide +kernel) (by decide +kernel)
set_option maxRecDepth 20000 in
theorem gX2_trait_X5_at_n35 : GoodIn wsX2_trait (wsX5_at) := ggX2_trait_X5_at
theorem dX2_trait_0 : decode cX2_trait 0 = .ok (.iload_n 2, 1) := by decide +kernel
theorem dX2_trait_1 : decode cX2_trait 1 = .ok (.lookupswitch 45 #[(0, 27), (1, 36)], 27) := by decide +kernel
theorem dX2_trait_28 : decode cX2_trait 28 = .ok (.aload_n 0, 1) := by decide +kernel
theorem dX2_trait_29 : decode cX2_trait 29 = .ok (.getfield 9, 3) := by decide +kernel
theorem dX2_trait_32 : decode cX2_trait 32 = .ok (.iload_n 1, 1) := by decide +kernel
theorem dX2_trait_33 : decode cX2_trait 33 = .ok (.invokestatic 35, 3) := by decide +kernel
theorem dX2_trait_36 : decode cX2_trait 36 = .ok (.ireturn, 1) := by decide +kernel
theorem dX2_trait_37 : decode cX2_trait 37 = .ok (.aload_n 0, 1) := by decide +kernel
theorem dX2_trait_38 : decode cX2_trait 38 = .ok (.getfield 15, 3) := by decide +kernel
theorem dX2_trait_41 : decode cX2_trait 41 = .ok (.iload_n 1, 1) := by decide +kernel
theorem dX2_trait_42 : decode cX2_trait 42 = .ok (.invokestatic 35, 3) := by decide +kernel
theorem dX2_trait_45 : decode cX2_trait 45 = .ok (.ireturn, 1) := by decide +kernel
theorem dX2_trait_46 : decode cX2_trait 46 = .ok (.aload_n 0, 1) := by decide +kernel
theorem dX2_trait_47 : decode cX2_trait 47 = .ok (.getfield 18, 3) := by decide +kernel
theorem dX2_trait_50 : decode cX2_trait 50 = .ok (.iload_n 1, 1) := by decide +kernel
theorem dX2_trait_51 : decode cX2_trait 51 = .ok (.invokestatic 35, 3) := by decide +kernel
theorem dX2_trait_54 : decode cX2_trait 54 = .ok (.istore_n 3, 1) := by decide +kernel
theorem dX2_trait_55 : decode cX2_trait 55 = .ok (.iload_n 3, 1) := by decide +kernel
theorem dX2_trait_56 : decode cX2_trait 56 = .ok (.iconst (-1), 1) := by decide +kernel
theorem dX2_trait_57 : decode cX2_trait 57 = .ok (.if_icmp .ne 8, 3) := by decide +kernel
theorem dX2_trait_60 : decode cX2_trait 60 = .ok (.bipush (-6), 2) := by decide +kernel
theorem dX2_trait_62 : decode cX2_trait 62 = .ok (.goto 4, 3) := by decide +kernel
theorem dX2_trait_65 : decode cX2_trait 65 = .ok (.iload_n 3, 1) := by decide +kernel
theorem dX2_trait_66 : decode cX2_trait 66 = .ok (.ireturn, 1) := by decide +kernel
theorem dX2_clear_0 : decode cX2_clear 0 = .ok (.aload_n 0, 1) := by decide +kernel
theorem dX2_clear_1 : decode cX2_clear 1 = .ok (.iconst 0, 1) := by decide +kernel
theorem dX2_clear_2 : decode cX2_clear 2 = .ok (.putfield 21, 3) := by decide +kernel
theorem dX2_clear_5 : decode cX2_clear 5 = .ok (.aload_n 0, 1) := by decide +kernel
theorem dX2_clear_6 : decode cX2_clear 6 = .ok (.iconst 0, 1) := by decide +kernel
theorem dX2_clear_7 : decode cX2_clear 7 = .ok (.putfield 29, 3) := by decide +kernel
theorem dX2_clear_10 : decode cX2_clear 10 = .ok (.return_, 1) := by decide +kernel
set_option maxRecDepth 20000 in
theorem ggX2_copy_X5_at : GoodIn wsX2_copy wsX5_at := goodIn_r _ [8] (by decide +kernel) (by decide +kernel)
set_option maxRecDepth 20000 in
theorem gX2_copy_X5_at_n35 : GoodIn wsX2_copy (wsX5_at) := ggX2_copy_X5_at
set_option maxRecDepth 20000 in
theorem ggX2_copy_X5_put : GoodIn wsX2_copy wsX5_put := goodIn_r _ [10] (by decide +kernel) (by decide +kernel)
set_option maxRecDepth 20000 in
theorem gX2_copy_X5_put_n39 : GoodIn wsX2_copy (wsX5_put) := ggX2_copy_X5_put
theorem dX2_copy_0 : decode cX2_copy 0 = .ok (.aload_n 0, 1) := by decide +kernel
theorem dX2_copy_1 : decode cX2_copy 1 = .ok (.aload_n 1, 1) := by decide +kernel
theorem dX2_copy_2 : decode cX2_copy 2 = .ok (.getfield 21, 3) := by decide +kernel
theorem dX2_copy_5 : decode cX2_copy 5 = .ok (.putfield 21, 3) := by decide +kernel
theorem dX2_copy_8 : decode cX2_copy 8 = .ok (.aload_n 0, 1) := by decide +kernel
theorem dX2_copy_9 : decode cX2_copy 9 = .ok (.aload_n 1, 1) := by decide +kernel
theorem dX2_copy_10 : decode cX2_copy 10 = .ok (.getfield 29, 3) := by decide +kernel
theorem dX2_copy_13 : decode cX2_copy 13 = .ok (.putfield 29, 3) := by decide +kernel
theorem dX2_copy_16 : decode cX2_copy 16 = .ok (.iconst 0, 1) := by decide +kernel
theorem dX2_copy_17 : decode cX2_copy 17 = .ok (.istore_n 2, 1) := by decide +kernel
theorem dX2_copy_18 : decode cX2_copy 18 = .ok (.iload_n 2, 1) := by decide +kernel
theorem dX2_copy_19 : decode cX2_copy 19 = .ok (.aload_n 0, 1) := by decide +kernel
theorem dX2_copy_20 : decode cX2_copy 20 = .ok (.getfield 21, 3) := by decide +kernel
theorem dX2_copy_23 : decode cX2_copy 23 = .ok (.if_icmp .ge 57, 3) := by decide +kernel
theorem dX2_copy_26 : decode cX2_copy 26 = .ok (.aload_n 0, 1) := by decide +kernel
theorem dX2_copy_27 : decode cX2_copy 27 = .ok (.getfield 9, 3) := by decide +kernel
theorem dX2_copy_30 : decode cX2_copy 30 = .ok (.iload_n 2, 1) := by decide +kernel
theorem dX2_copy_31 : decode cX2_copy 31 = .ok (.aload_n 1, 1) := by decide +kernel
theorem dX2_copy_32 : decode cX2_copy 32 = .ok (.getfield 9, 3) := by decide +kernel
theorem dX2_copy_35 : decode cX2_copy 35 = .ok (.iload_n 2, 1) := by decide +kernel
theorem dX2_copy_36 : decode cX2_copy 36 = .ok (.invokestatic 35, 3) := by decide +kernel
theorem dX2_copy_39 : decode cX2_copy 39 = .ok (.invokestatic 39, 3) := by decide +kernel
theorem dX2_copy_42 : decode cX2_copy 42 = .ok (.aload_n 0, 1) := by decide +kernel
theorem dX2_copy_43 : decode cX2_copy 43 = .ok (.getfield 15, 3) := by decide +kernel
theorem dX2_copy_46 : decode cX2_copy 46 = .ok (.iload_n 2, 1) := by decide +kernel
theorem dX2_copy_47 : decode cX2_copy 47 = .ok (.aload_n 1, 1) := by decide +kernel
theorem dX2_copy_48 : decode cX2_copy 48 = .ok (.getfield 15, 3) := by decide +kernel
theorem dX2_copy_51 : decode cX2_copy 51 = .ok (.iload_n 2, 1) := by decide +kernel
theorem dX2_copy_52 : decode cX2_copy 52 = .ok (.invokestatic 35, 3) := by decide +kernel
theorem dX2_copy_55 : decode cX2_copy 55 = .ok (.invokestatic 39, 3) := by decide +kernel
theorem dX2_copy_58 : decode cX2_copy 58 = .ok (.aload_n 0, 1) := by decide +kernel
theorem dX2_copy_59 : decode cX2_copy 59 = .ok (.getfield 18, 3) := by decide +kernel
theorem dX2_copy_62 : decode cX2_copy 62 = .ok (.iload_n 2, 1) := by decide +kernel
theorem dX2_copy_63 : decode cX2_copy 63 = .ok (.aload_n 1, 1) := by decide +kernel
theorem dX2_copy_64 : decode cX2_copy 64 = .ok (.getfield 18, 3) := by decide +kernel
theorem dX2_copy_67 : decode cX2_copy 67 = .ok (.iload_n 2, 1) := by decide +kernel
theorem dX2_copy_68 : decode cX2_copy 68 = .ok (.invokestatic 35, 3) := by decide +kernel
theorem dX2_copy_71 : decode cX2_copy 71 = .ok (.invokestatic 39, 3) := by decide +kernel
theorem dX2_copy_74 : decode cX2_copy 74 = .ok (.iinc 2 1, 3) := by decide +kernel
theorem dX2_copy_77 : decode cX2_copy 77 = .ok (.goto (-59), 3) := by decide +kernel
theorem dX2_copy_80 : decode cX2_copy 80 = .ok (.return_, 1) := by decide +kernel
set_option maxRecDepth 20000 in
theorem ggX2_append_X5_put : GoodIn wsX2_append wsX5_put := goodIn_r _ [7] (by decide +kernel) (by decide +kernel)
set_option maxRecDepth 20000 in
theorem gX2_append_X5_put_n39 : GoodIn wsX2_append (wsX5_put) := ggX2_append_X5_put
theorem dX2_append_0 : decode cX2_append 0 = .ok (.aload_n 0, 1) := by decide +kernel
theorem dX2_append_1 : decode cX2_append 1 = .ok (.getfield 9, 3) := by decide +kernel
theorem dX2_append_4 : decode cX2_append 4 = .ok (.aload_n 0, 1) := by decide +kernel
theorem dX2_append_5 : decode cX2_append 5 = .ok (.getfield 21, 3) := by decide +kernel
theorem dX2_append_8 : decode cX2_append 8 = .ok (.iload_n 1, 1) := by decide +kernel
theorem dX2_append_9 : decode cX2_append 9 = .ok (.invokestatic 39, 3) := by decide +kernel
theorem dX2_append_12 : decode cX2_append 12 = .ok (.aload_n 0, 1) := by decide +kernel
theorem dX2_append_13 : decode cX2_append 13 = .ok (.getfield 15, 3) := by decide +kernel
theorem dX2_append_16 : decode cX2_append 16 = .ok (.aload_n 0, 1) := by decide +kernel
theorem dX2_append_17 : decode cX2_append 17 = .ok (.getfield 21, 3) := by decide +kernel
theorem dX2_append_20 : decode cX2_append 20 = .ok (.iload_n 2, 1) := by decide +kernel
theorem dX2_append_21 : decode cX2_append 21 = .ok (.invokestatic 39, 3) := by decide +kernel
theorem dX2_append_24 : decode cX2_append 24 = .ok (.aload_n 0, 1) := by decide +kernel
theorem dX2_append_25 : decode cX2_append 25 = .ok (.getfield 18, 3) := by decide +kernel
theorem dX2_append_28 : decode cX2_append 28 = .ok (.aload_n 0, 1) := by decide +kernel
theorem dX2_append_29 : decode cX2_append 29 = .ok (.getfield 21, 3) := by decide +kernel
theorem dX2_append_32 : decode cX2_append 32 = .ok (.iload_n 3, 1) := by decide +kernel
theorem dX2_append_33 : decode cX2_append 33 = .ok (.invokestatic 39, 3) := by decide +kernel
theorem dX2_append_36 : decode cX2_append 36 = .ok (.aload_n 0, 1) := by decide +kernel
theorem dX2_append_37 : decode cX2_append 37 = .ok (.dup, 1) := by decide +kernel
theorem dX2_append_38 : decode cX2_append 38 = .ok (.getfield 21, 3) := by decide +kernel
theorem dX2_append_41 : decode cX2_append 41 = .ok (.iconst 1, 1) := by decide +kernel
theorem dX2_append_42 : decode cX2_append 42 = .ok (.iadd, 1) := by decide +kernel
theorem dX2_append_43 : decode cX2_append 43 = .ok (.putfield 21, 3) := by decide +kernel
theorem dX2_append_46 : decode cX2_append 46 = .ok (.return_, 1) := by decide +kernel
set_option maxRecDepth 20000 in
theorem ggX2_knit_X2_lastWholeOf : GoodIn wsX2_knit wsX2_lastWholeOf := goodIn_r _ [5, 6, 7, 8, 9, 10, 11, 12, 13, 22, 23, 24, 25, 26] (by decide +kernel) (by decide +kernel)
set_option maxRecDepth 20000 in
theorem gX2_knit_X2_lastWholeOf : GoodIn wsX2_knit (wsV RX2 43 RX2 yX2_lastWholeOf wsX2_lastWholeOf) := goodIn_app (goodIn_of _ (by decide +kernel)) ggX2_knit_X2_lastWholeOf
set_option maxRecDepth 20000 in
theorem ggX2_knit_X2_append : GoodIn wsX2_knit wsX2_append := goodIn_r _ [17, 7, 6, 18, 19, 20, 10, 21, 22, 23, 24, 25, 26] (by decide +kernel) (by decide +kernel)
set_option maxRecDepth 20000 in
theorem gX2_knit_X2_append : GoodIn wsX2_knit (wsV RX2 47 RX2 yX2_append wsX2_append) := goodIn_app (goodIn_of _ (by decide +kernel)) ggX2_knit_X2_append
theorem dX2_knit_0 : decode cX2_knit 0 = .ok (.aload_n 0, 1) := by decide +kernel
theorem dX2_knit_1 : decode cX2_knit 1 = .ok (.iload_n 1, 1) := by decide +kernel
theorem dX2_knit_2 : decode cX2_knit 2 = .ok (.iload_n 2, 1) := by decide +kernel
theorem dX2_knit_3 : decode cX2_knit 3 = .ok (.aload_n 0, 1) := by decide +kernel
theorem dX2_knit_4 : decode cX2_knit 4 = .ok (.iload_n 1, 1) := by decide +kernel
theorem dX2_knit_5 : decode cX2_knit 5 = .ok (.invokevirtual 43, 3) := by decide +kernel
theorem dX2_knit_8 : decode cX2_knit 8 = .ok (.invokevirtual 47, 3) := by decide +kernel
theorem dX2_knit_11 : decode cX2_knit 11 = .ok (.return_, 1) := by decide +kernel
set_option maxRecDepth 20000 in
theorem ggX2_lastWholeOf_X5_at : GoodIn wsX2_lastWholeOf wsX5_at := goodIn_r _ [6] (by decide +kernel) (by decide +kernel)
set_option maxRecDepth 20000 in
theorem gX2_lastWholeOf_X5_at_n35 : GoodIn wsX2_lastWholeOf (wsX5_at) := ggX2_lastWholeOf_X5_at
set_option maxRecDepth 20000 in
theorem ggX2_lastWholeOf_X5_isIn : GoodIn wsX2_lastWholeOf wsX5_isIn := goodIn_r _ [8] (by decide +kernel) (by decide +kernel)
set_option maxRecDepth 20000 in
theorem gX2_lastWholeOf_X5_isIn_n32 : GoodIn wsX2_lastWholeOf (wsX5_isIn) := ggX2_lastWholeOf_X5_isIn
theorem dX2_lastWholeOf_0 : decode cX2_lastWholeOf 0 = .ok (.aload_n 0, 1) := by decide +kernel
theorem dX2_lastWholeOf_1 : decode cX2_lastWholeOf 1 = .ok (.getfield 21, 3) := by decide +kernel
theorem dX2_lastWholeOf_4 : decode cX2_lastWholeOf 4 = .ok (.iconst 1, 1) := by decide +kernel
theorem dX2_lastWholeOf_5 : decode cX2_lastWholeOf 5 = .ok (.isub, 1) := by decide +kernel
theorem dX2_lastWholeOf_6 : decode cX2_lastWholeOf 6 = .ok (.istore_n 2, 1) := by decide +kernel
theorem dX2_lastWholeOf_7 : decode cX2_lastWholeOf 7 = .ok (.iload_n 2, 1) := by decide +kernel
theorem dX2_lastWholeOf_8 : decode cX2_lastWholeOf 8 = .ok (.ifCond .lt 34, 3) := by decide +kernel
theorem dX2_lastWholeOf_11 : decode cX2_lastWholeOf 11 = .ok (.aload_n 0, 1) := by decide +kernel
theorem dX2_lastWholeOf_12 : decode cX2_lastWholeOf 12 = .ok (.getfield 9, 3) := by decide +kernel
theorem dX2_lastWholeOf_15 : decode cX2_lastWholeOf 15 = .ok (.iload_n 2, 1) := by decide +kernel
theorem dX2_lastWholeOf_16 : decode cX2_lastWholeOf 16 = .ok (.invokestatic 35, 3) := by decide +kernel
theorem dX2_lastWholeOf_19 : decode cX2_lastWholeOf 19 = .ok (.iload_n 1, 1) := by decide +kernel
theorem dX2_lastWholeOf_20 : decode cX2_lastWholeOf 20 = .ok (.if_icmp .ne 16, 3) := by decide +kernel
theorem dX2_lastWholeOf_23 : decode cX2_lastWholeOf 23 = .ok (.aload_n 0, 1) := by decide +kernel
theorem dX2_lastWholeOf_24 : decode cX2_lastWholeOf 24 = .ok (.getfield 29, 3) := by decide +kernel
theorem dX2_lastWholeOf_27 : decode cX2_lastWholeOf 27 = .ok (.iload_n 2, 1) := by decide +kernel
theorem dX2_lastWholeOf_28 : decode cX2_lastWholeOf 28 = .ok (.invokestatic 32, 3) := by decide +kernel
theorem dX2_lastWholeOf_31 : decode cX2_lastWholeOf 31 = .ok (.ifCond .ne 5, 3) := by decide +kernel
theorem dX2_lastWholeOf_34 : decode cX2_lastWholeOf 34 = .ok (.iload_n 2, 1) := by decide +kernel
theorem dX2_lastWholeOf_35 : decode cX2_lastWholeOf 35 = .ok (.ireturn, 1) := by decide +kernel
theorem dX2_lastWholeOf_36 : decode cX2_lastWholeOf 36 = .ok (.iinc 2 (-1), 3) := by decide +kernel
theorem dX2_lastWholeOf_39 : decode cX2_lastWholeOf 39 = .ok (.goto (-32), 3) := by decide +kernel
theorem dX2_lastWholeOf_42 : decode cX2_lastWholeOf 42 = .ok (.iconst (-1), 1) := by decide +kernel
theorem dX2_lastWholeOf_43 : decode cX2_lastWholeOf 43 = .ok (.ireturn, 1) := by decide +kernel
theorem dX2_eat_0 : decode cX2_eat 0 = .ok (.aload_n 0, 1) := by decide +kernel
theorem dX2_eat_1 : decode cX2_eat 1 = .ok (.dup, 1) := by decide +kernel
theorem dX2_eat_2 : decode cX2_eat 2 = .ok (.getfield 29, 3) := by decide +kernel
theorem dX2_eat_5 : decode cX2_eat 5 = .ok (.iconst 1, 1) := by decide +kernel
theorem dX2_eat_6 : decode cX2_eat 6 = .ok (.iload_n 1, 1) := by decide +kernel
theorem dX2_eat_7 : decode cX2_eat 7 = .ok (.ishl, 1) := by decide +kernel
theorem dX2_eat_8 : decode cX2_eat 8 = .ok (.ior, 1) := by decide +kernel
theorem dX2_eat_9 : decode cX2_eat 9 = .ok (.putfield 29, 3) := by decide +kernel
theorem dX2_eat_12 : decode cX2_eat 12 = .ok (.return_, 1) := by decide +kernel
set_option maxRecDepth 20000 in
theorem ggX2_mend_X5_put : GoodIn wsX2_mend wsX5_put := goodIn_r _ [5] (by decide +kernel) (by decide +kernel)
set_option maxRecDepth 20000 in
theorem gX2_mend_X5_put_n39 : GoodIn wsX2_mend (wsX5_put) := ggX2_mend_X5_put
theorem dX2_mend_0 : decode cX2_mend 0 = .ok (.aload_n 0, 1) := by decide +kernel
theorem dX2_mend_1 : decode cX2_mend 1 = .ok (.dup, 1) := by decide +kernel
theorem dX2_mend_2 : decode cX2_mend 2 = .ok (.getfield 29, 3) := by decide +kernel
theorem dX2_mend_5 : decode cX2_mend 5 = .ok (.iconst 1, 1) := by decide +kernel
theorem dX2_mend_6 : decode cX2_mend 6 = .ok (.iload_n 1, 1) := by decide +kernel
theorem dX2_mend_7 : decode cX2_mend 7 = .ok (.ishl, 1) := by decide +kernel
theorem dX2_mend_8 : decode cX2_mend 8 = .ok (.iconst (-1), 1) := by decide +kernel
theorem dX2_mend_9 : decode cX2_mend 9 = .ok (.ixor, 1) := by decide +kernel
theorem dX2_mend_10 : decode cX2_mend 10 = .ok (.iand, 1) := by decide +kernel
theorem dX2_mend_11 : decode cX2_mend 11 = .ok (.putfield 29, 3) := by decide +kernel
theorem dX2_mend_14 : decode cX2_mend 14 = .ok (.aload_n 0, 1) := by decide +kernel
theorem dX2_mend_15 : decode cX2_mend 15 = .ok (.getfield 15, 3) := by decide +kernel
theorem dX2_mend_18 : decode cX2_mend 18 = .ok (.iload_n 1, 1) := by decide +kernel
theorem dX2_mend_19 : decode cX2_mend 19 = .ok (.iload_n 2, 1) := by decide +kernel
theorem dX2_mend_20 : decode cX2_mend 20 = .ok (.invokestatic 39, 3) := by decide +kernel
theorem dX2_mend_23 : decode cX2_mend 23 = .ok (.return_, 1) := by decide +kernel
set_option maxRecDepth 20000 in
theorem ggX2_undoneWith_X5_at : GoodIn wsX2_undoneWith wsX5_at := goodIn_r _ [5] (by decide +kernel) (by decide +kernel)
set_option maxRecDepth 20000 in
theorem gX2_undoneWith_X5_at_n35 : GoodIn wsX2_undoneWith (wsX5_at) := ggX2_undoneWith_X5_at
set_option maxRecDepth 20000 in
theorem ggX2_undoneWith_X5_isIn : GoodIn wsX2_undoneWith wsX5_isIn := goodIn_r _ [7] (by decide +kernel) (by decide +kernel)
set_option maxRecDepth 20000 in
theorem gX2_undoneWith_X5_isIn_n32 : GoodIn wsX2_undoneWith (wsX5_isIn) := ggX2_undoneWith_X5_isIn
theorem dX2_undoneWith_0 : decode cX2_undoneWith 0 = .ok (.iconst 1, 1) := by decide +kernel
theorem dX2_undoneWith_1 : decode cX2_undoneWith 1 = .ok (.iload_n 1, 1) := by decide +kernel
theorem dX2_undoneWith_2 : decode cX2_undoneWith 2 = .ok (.ishl, 1) := by decide +kernel
theorem dX2_undoneWith_3 : decode cX2_undoneWith 3 = .ok (.istore_n 2, 1) := by decide +kernel
theorem dX2_undoneWith_4 : decode cX2_undoneWith 4 = .ok (.iload_n 1, 1) := by decide +kernel
theorem dX2_undoneWith_5 : decode cX2_undoneWith 5 = .ok (.iconst 1, 1) := by decide +kernel
theorem dX2_undoneWith_6 : decode cX2_undoneWith 6 = .ok (.iadd, 1) := by decide +kernel
theorem dX2_undoneWith_7 : decode cX2_undoneWith 7 = .ok (.istore_n 3, 1) := by decide +kernel
theorem dX2_undoneWith_8 : decode cX2_undoneWith 8 = .ok (.iload_n 3, 1) := by decide +kernel
theorem dX2_undoneWith_9 : decode cX2_undoneWith 9 = .ok (.aload_n 0, 1) := by decide +kernel
theorem dX2_undoneWith_10 : decode cX2_undoneWith 10 = .ok (.getfield 21, 3) := by decide +kernel
theorem dX2_undoneWith_13 : decode cX2_undoneWith 13 = .ok (.if_icmp .ge 30, 3) := by decide +kernel
theorem dX2_undoneWith_16 : decode cX2_undoneWith 16 = .ok (.iload_n 2, 1) := by decide +kernel
theorem dX2_undoneWith_17 : decode cX2_undoneWith 17 = .ok (.aload_n 0, 1) := by decide +kernel
theorem dX2_undoneWith_18 : decode cX2_undoneWith 18 = .ok (.getfield 18, 3) := by decide +kernel
theorem dX2_undoneWith_21 : decode cX2_undoneWith 21 = .ok (.iload_n 3, 1) := by decide +kernel
theorem dX2_undoneWith_22 : decode cX2_undoneWith 22 = .ok (.invokestatic 35, 3) := by decide +kernel
theorem dX2_undoneWith_25 : decode cX2_undoneWith 25 = .ok (.invokestatic 32, 3) := by decide +kernel
theorem dX2_undoneWith_28 : decode cX2_undoneWith 28 = .ok (.ifCond .eq 9, 3) := by decide +kernel
theorem dX2_undoneWith_31 : decode cX2_undoneWith 31 = .ok (.iload_n 2, 1) := by decide +kernel
theorem dX2_undoneWith_32 : decode cX2_undoneWith 32 = .ok (.iconst 1, 1) := by decide +kernel
theorem dX2_undoneWith_33 : decode cX2_undoneWith 33 = .ok (.iload_n 3, 1) := by decide +kernel
theorem dX2_undoneWith_34 : decode cX2_undoneWith 34 = .ok (.ishl, 1) := by decide +kernel
theorem dX2_undoneWith_35 : decode cX2_undoneWith 35 = .ok (.ior, 1) := by decide +kernel
theorem dX2_undoneWith_36 : decode cX2_undoneWith 36 = .ok (.istore_n 2, 1) := by decide +kernel
theorem dX2_undoneWith_37 : decode cX2_undoneWith 37 = .ok (.iinc 3 1, 3) := by decide +kernel
theorem dX2_undoneWith_40 : decode cX2_undoneWith 40 = .ok (.goto (-32), 3) := by decide +kernel
theorem dX2_undoneWith_43 : decode cX2_undoneWith 43 = .ok (.iload_n 2, 1) := by decide +kernel
theorem dX2_undoneWith_44 : decode cX2_undoneWith 44 = .ok (.ireturn, 1) := by decide +kernel
set_option maxRecDepth 20000 in
theorem ggX2_unpick_X2_undoneWith : GoodIn wsX2_unpick wsX2_undoneWith := goodIn_r _ [10, 1, 4, 11, 12, 13, 14, 15, 32, 33, 34, 35, 36] (by decide +kernel) (by decide +kernel)
set_option maxRecDepth 20000 in
theorem gX2_unpick_X2_undoneWith : GoodIn wsX2_unpick (wsV RX2 51 RX2 yX2_undoneWith wsX2_undoneWith) := goodIn_app (goodIn_of _ (by decide +kernel)) ggX2_unpick_X2_undoneWith
set_option maxRecDepth 20000 in
theorem ggX2_unpick_X5_isIn : GoodIn wsX2_unpick wsX5_isIn := goodIn_r _ [15] (by decide +kernel) (by decide +kernel)
set_option maxRecDepth 20000 in
theorem gX2_unpick_X5_isIn_n32 : GoodIn wsX2_unpick (wsX5_isIn) := ggX2_unpick_X5_isIn
set_option maxRecDepth 20000 in
theorem ggX2_unpick_X5_at : GoodIn wsX2_unpick wsX5_at := goodIn_r _ [13] (by decide +kernel) (by decide +kernel)
set_option maxRecDepth 20000 in
theorem gX2_unpick_X5_at_n35 : GoodIn wsX2_unpick (wsX5_at) := ggX2_unpick_X5_at
set_option maxRecDepth 20000 in
theorem ggX2_unpick_X5_put : GoodIn wsX2_unpick wsX5_put := goodIn_r _ [17] (by decide +kernel) (by decide +kernel)
set_option maxRecDepth 20000 in
theorem gX2_unpick_X5_put_n39 : GoodIn wsX2_unpick (wsX5_put) := ggX2_unpick_X5_put
set_option maxRecDepth 20000 in
theorem ggX2_unpick_X2_closedUp : GoodIn wsX2_unpick wsX2_closedUp := goodIn_r _ [20, 21, 22, 23, 24, 25, 26, 27] (by decide +kernel) (by decide +kernel)
set_option maxRecDepth 20000 in
theorem gX2_unpick_X2_closedUp : GoodIn wsX2_unpick (va_wsS RX2 54 yX2_closedUp wsX2_closedUp) := goodIn_app (goodIn_of _ (by decide +kernel)) ggX2_unpick_X2_closedUp
set_option maxRecDepth 20000 in
theorem ggX2_unpick_X2_isEaten : GoodIn wsX2_unpick wsX2_isEaten := goodIn_r _ [31, 5, 14, 12, 15, 32, 33, 34, 35, 36] (by decide +kernel) (by decide +kernel)
set_option maxRecDepth 20000 in
theorem gX2_unpick_X2_isEaten : GoodIn wsX2_unpick (wsV RX2 58 RX2 yX2_isEaten wsX2_isEaten) := goodIn_app (goodIn_of _ (by decide +kernel)) ggX2_unpick_X2_isEaten
set_option maxRecDepth 20000 in
theorem ggX2_unpick_J6_bitCount_0f7a4 : GoodIn wsX2_unpick wsJ6_bitCount_0f7a4 := goodIn_r _ [24, 25, 26, 27] (by decide +kernel) (by decide +kernel)
set_option maxRecDepth 20000 in
theorem gX2_unpick_J6_bitCount_0f7a4 : GoodIn wsX2_unpick (va_wsS RX2 62 yJ6_bitCount_0f7a4 wsJ6_bitCount_0f7a4) := goodIn_app (goodIn_of _ (by decide +kernel)) ggX2_unpick_J6_bitCount_0f7a4
theorem dX2_unpick_0 : decode cX2_unpick 0 = .ok (.aload_n 0, 1) := by decide +kernel
theorem dX2_unpick_1 : decode cX2_unpick 1 = .ok (.iload_n 1, 1) := by decide +kernel
theorem dX2_unpick_2 : decode cX2_unpick 2 = .ok (.invokevirtual 51, 3) := by decide +kernel
theorem dX2_unpick_5 : decode cX2_unpick 5 = .ok (.istore_n 2, 1) := by decide +kernel
theorem dX2_unpick_6 : decode cX2_unpick 6 = .ok (.iconst 0, 1) := by decide +kernel
theorem dX2_unpick_7 : decode cX2_unpick 7 = .ok (.istore_n 3, 1) := by decide +kernel
theorem dX2_unpick_8 : decode cX2_unpick 8 = .ok (.iconst 0, 1) := by decide +kernel
theorem dX2_unpick_9 : decode cX2_unpick 9 = .ok (.istore 4, 2) := by decide +kernel
theorem dX2_unpick_11 : decode cX2_unpick 11 = .ok (.iconst 0, 1) := by decide +kernel
theorem dX2_unpick_12 : decode cX2_unpick 12 = .ok (.istore 5, 2) := by decide +kernel
theorem dX2_unpick_14 : decode cX2_unpick 14 = .ok (.iload 5, 2) := by decide +kernel
theorem dX2_unpick_16 : decode cX2_unpick 16 = .ok (.aload_n 0, 1) := by decide +kernel
theorem dX2_unpick_17 : decode cX2_unpick 17 = .ok (.getfield 21, 3) := by decide +kernel
theorem dX2_unpick_20 : decode cX2_unpick 20 = .ok (.if_icmp .ge 97, 3) := by decide +kernel
theorem dX2_unpick_23 : decode cX2_unpick 23 = .ok (.iload_n 2, 1) := by decide +kernel
theorem dX2_unpick_24 : decode cX2_unpick 24 = .ok (.iload 5, 2) := by decide +kernel
theorem dX2_unpick_26 : decode cX2_unpick 26 = .ok (.invokestatic 32, 3) := by decide +kernel
theorem dX2_unpick_29 : decode cX2_unpick 29 = .ok (.ifCond .ne 82, 3) := by decide +kernel
theorem dX2_unpick_32 : decode cX2_unpick 32 = .ok (.aload_n 0, 1) := by decide +kernel
theorem dX2_unpick_33 : decode cX2_unpick 33 = .ok (.getfield 9, 3) := by decide +kernel
theorem dX2_unpick_36 : decode cX2_unpick 36 = .ok (.iload_n 3, 1) := by decide +kernel
theorem dX2_unpick_37 : decode cX2_unpick 37 = .ok (.aload_n 0, 1) := by decide +kernel
theorem dX2_unpick_38 : decode cX2_unpick 38 = .ok (.getfield 9, 3) := by decide +kernel
theorem dX2_unpick_41 : decode cX2_unpick 41 = .ok (.iload 5, 2) := by decide +kernel
theorem dX2_unpick_43 : decode cX2_unpick 43 = .ok (.invokestatic 35, 3) := by decide +kernel
theorem dX2_unpick_46 : decode cX2_unpick 46 = .ok (.invokestatic 39, 3) := by decide +kernel
theorem dX2_unpick_49 : decode cX2_unpick 49 = .ok (.aload_n 0, 1) := by decide +kernel
theorem dX2_unpick_50 : decode cX2_unpick 50 = .ok (.getfield 15, 3) := by decide +kernel
theorem dX2_unpick_53 : decode cX2_unpick 53 = .ok (.iload_n 3, 1) := by decide +kernel
theorem dX2_unpick_54 : decode cX2_unpick 54 = .ok (.aload_n 0, 1) := by decide +kernel
theorem dX2_unpick_55 : decode cX2_unpick 55 = .ok (.getfield 15, 3) := by decide +kernel
theorem dX2_unpick_58 : decode cX2_unpick 58 = .ok (.iload 5, 2) := by decide +kernel
theorem dX2_unpick_60 : decode cX2_unpick 60 = .ok (.invokestatic 35, 3) := by decide +kernel
theorem dX2_unpick_63 : decode cX2_unpick 63 = .ok (.invokestatic 39, 3) := by decide +kernel
theorem dX2_unpick_66 : decode cX2_unpick 66 = .ok (.aload_n 0, 1) := by decide +kernel
theorem dX2_unpick_67 : decode cX2_unpick 67 = .ok (.getfield 18, 3) := by decide +kernel
theorem dX2_unpick_70 : decode cX2_unpick 70 = .ok (.iload_n 3, 1) := by decide +kernel
theorem dX2_unpick_71 : decode cX2_unpick 71 = .ok (.aload_n 0, 1) := by decide +kernel
theorem dX2_unpick_72 : decode cX2_unpick 72 = .ok (.getfield 18, 3) := by decide +kernel
theorem dX2_unpick_75 : decode cX2_unpick 75 = .ok (.iload 5, 2) := by decide +kernel
theorem dX2_unpick_77 : decode cX2_unpick 77 = .ok (.invokestatic 35, 3) := by decide +kernel
theorem dX2_unpick_80 : decode cX2_unpick 80 = .ok (.iload_n 2, 1) := by decide +kernel
theorem dX2_unpick_81 : decode cX2_unpick 81 = .ok (.invokestatic 54, 3) := by decide +kernel
theorem dX2_unpick_84 : decode cX2_unpick 84 = .ok (.invokestatic 39, 3) := by decide +kernel
theorem dX2_unpick_87 : decode cX2_unpick 87 = .ok (.iload 4, 2) := by decide +kernel
theorem dX2_unpick_89 : decode cX2_unpick 89 = .ok (.aload_n 0, 1) := by decide +kernel
theorem dX2_unpick_90 : decode cX2_unpick 90 = .ok (.iload 5, 2) := by decide +kernel
theorem dX2_unpick_92 : decode cX2_unpick 92 = .ok (.invokevirtual 58, 3) := by decide +kernel
theorem dX2_unpick_95 : decode cX2_unpick 95 = .ok (.ifCond .eq 9, 3) := by decide +kernel
theorem dX2_unpick_98 : decode cX2_unpick 98 = .ok (.iconst 1, 1) := by decide +kernel
theorem dX2_unpick_99 : decode cX2_unpick 99 = .ok (.iload_n 3, 1) := by decide +kernel
theorem dX2_unpick_100 : decode cX2_unpick 100 = .ok (.ishl, 1) := by decide +kernel
theorem dX2_unpick_101 : decode cX2_unpick 101 = .ok (.goto 4, 3) := by decide +kernel
theorem dX2_unpick_104 : decode cX2_unpick 104 = .ok (.iconst 0, 1) := by decide +kernel
theorem dX2_unpick_105 : decode cX2_unpick 105 = .ok (.ior, 1) := by decide +kernel
theorem dX2_unpick_106 : decode cX2_unpick 106 = .ok (.istore 4, 2) := by decide +kernel
theorem dX2_unpick_108 : decode cX2_unpick 108 = .ok (.iinc 3 1, 3) := by decide +kernel
theorem dX2_unpick_111 : decode cX2_unpick 111 = .ok (.iinc 5 1, 3) := by decide +kernel
theorem dX2_unpick_114 : decode cX2_unpick 114 = .ok (.goto (-100), 3) := by decide +kernel
theorem dX2_unpick_117 : decode cX2_unpick 117 = .ok (.aload_n 0, 1) := by decide +kernel
theorem dX2_unpick_118 : decode cX2_unpick 118 = .ok (.iload_n 3, 1) := by decide +kernel
theorem dX2_unpick_119 : decode cX2_unpick 119 = .ok (.putfield 21, 3) := by decide +kernel
theorem dX2_unpick_122 : decode cX2_unpick 122 = .ok (.aload_n 0, 1) := by decide +kernel
theorem dX2_unpick_123 : decode cX2_unpick 123 = .ok (.iload 4, 2) := by decide +kernel
theorem dX2_unpick_125 : decode cX2_unpick 125 = .ok (.putfield 29, 3) := by decide +kernel
theorem dX2_unpick_128 : decode cX2_unpick 128 = .ok (.iload_n 2, 1) := by decide +kernel
theorem dX2_unpick_129 : decode cX2_unpick 129 = .ok (.invokestatic 62, 3) := by decide +kernel
theorem dX2_unpick_132 : decode cX2_unpick 132 = .ok (.ireturn, 1) := by decide +kernel
set_option maxRecDepth 20000 in
theorem ggX2_closedUp_J6_bitCount_0f7a4 : GoodIn wsX2_closedUp wsJ6_bitCount_0f7a4 := goodIn_r _ [4, 5, 6, 7] (by decide +kernel) (by decide +kernel)
set_option maxRecDepth 20000 in
theorem gX2_closedUp_J6_bitCount_0f7a4 : GoodIn wsX2_closedUp (va_wsS RX2 62 yJ6_bitCount_0f7a4 wsJ6_bitCount_0f7a4) := goodIn_app (goodIn_of _ (by decide +kernel)) ggX2_closedUp_J6_bitCount_0f7a4
theorem dX2_closedUp_0 : decode cX2_closedUp 0 = .ok (.iload_n 0, 1) := by decide +kernel
theorem dX2_closedUp_1 : decode cX2_closedUp 1 = .ok (.iconst (-1), 1) := by decide +kernel
theorem dX2_closedUp_2 : decode cX2_closedUp 2 = .ok (.if_icmp .ne 7, 3) := by decide +kernel
theorem dX2_closedUp_5 : decode cX2_closedUp 5 = .ok (.iconst (-1), 1) := by decide +kernel
theorem dX2_closedUp_6 : decode cX2_closedUp 6 = .ok (.goto 15, 3) := by decide +kernel
theorem dX2_closedUp_9 : decode cX2_closedUp 9 = .ok (.iload_n 0, 1) := by decide +kernel
theorem dX2_closedUp_10 : decode cX2_closedUp 10 = .ok (.iload_n 1, 1) := by decide +kernel
theorem dX2_closedUp_11 : decode cX2_closedUp 11 = .ok (.iconst 1, 1) := by decide +kernel
theorem dX2_closedUp_12 : decode cX2_closedUp 12 = .ok (.iload_n 0, 1) := by decide +kernel
theorem dX2_closedUp_13 : decode cX2_closedUp 13 = .ok (.ishl, 1) := by decide +kernel
theorem dX2_closedUp_14 : decode cX2_closedUp 14 = .ok (.iconst 1, 1) := by decide +kernel
theorem dX2_closedUp_15 : decode cX2_closedUp 15 = .ok (.isub, 1) := by decide +kernel
theorem dX2_closedUp_16 : decode cX2_closedUp 16 = .ok (.iand, 1) := by decide +kernel
theorem dX2_closedUp_17 : decode cX2_closedUp 17 = .ok (.invokestatic 62, 3) := by decide +kernel
theorem dX2_closedUp_20 : decode cX2_closedUp 20 = .ok (.isub, 1) := by decide +kernel
theorem dX2_closedUp_21 : decode cX2_closedUp 21 = .ok (.ireturn, 1) := by decide +kernel
set_option maxRecDepth 20000 in
theorem ggX2_looseOnes_X5_at : GoodIn wsX2_looseOnes wsX5_at := goodIn_r _ [6] (by decide +kernel) (by decide +kernel)
set_option maxRecDepth 20000 in
theorem gX2_looseOnes_X5_at_n35 : GoodIn wsX2_looseOnes (wsX5_at) := ggX2_looseOnes_X5_at
set_option maxRecDepth 20000 in
theorem ggX2_looseOnes_X5_isIn : GoodIn wsX2_looseOnes wsX5_isIn := goodIn_r _ [8] (by decide +kernel) (by decide +kernel)
set_option maxRecDepth 20000 in
theorem gX2_looseOnes_X5_isIn_n32 : GoodIn wsX2_looseOnes (wsX5_isIn) := ggX2_looseOnes_X5_isIn
theorem dX2_looseOnes_0 : decode cX2_looseOnes 0 = .ok (.iconst 0, 1) := by decide +kernel
theorem dX2_looseOnes_1 : decode cX2_looseOnes 1 = .ok (.istore_n 1, 1) := by decide +kernel
theorem dX2_looseOnes_2 : decode cX2_looseOnes 2 = .ok (.iconst 0, 1) := by decide +kernel
theorem dX2_looseOnes_3 : decode cX2_looseOnes 3 = .ok (.istore_n 2, 1) := by decide +kernel
theorem dX2_looseOnes_4 : decode cX2_looseOnes 4 = .ok (.iload_n 2, 1) := by decide +kernel
theorem dX2_looseOnes_5 : decode cX2_looseOnes 5 = .ok (.aload_n 0, 1) := by decide +kernel
theorem dX2_looseOnes_6 : decode cX2_looseOnes 6 = .ok (.getfield 21, 3) := by decide +kernel
theorem dX2_looseOnes_9 : decode cX2_looseOnes 9 = .ok (.if_icmp .ge 35, 3) := by decide +kernel
theorem dX2_looseOnes_12 : decode cX2_looseOnes 12 = .ok (.aload_n 0, 1) := by decide +kernel
theorem dX2_looseOnes_13 : decode cX2_looseOnes 13 = .ok (.getfield 29, 3) := by decide +kernel
theorem dX2_looseOnes_16 : decode cX2_looseOnes 16 = .ok (.iload_n 1, 1) := by decide +kernel
theorem dX2_looseOnes_17 : decode cX2_looseOnes 17 = .ok (.ior, 1) := by decide +kernel
theorem dX2_looseOnes_18 : decode cX2_looseOnes 18 = .ok (.aload_n 0, 1) := by decide +kernel
theorem dX2_looseOnes_19 : decode cX2_looseOnes 19 = .ok (.getfield 18, 3) := by decide +kernel
theorem dX2_looseOnes_22 : decode cX2_looseOnes 22 = .ok (.iload_n 2, 1) := by decide +kernel
theorem dX2_looseOnes_23 : decode cX2_looseOnes 23 = .ok (.invokestatic 35, 3) := by decide +kernel
theorem dX2_looseOnes_26 : decode cX2_looseOnes 26 = .ok (.invokestatic 32, 3) := by decide +kernel
theorem dX2_looseOnes_29 : decode cX2_looseOnes 29 = .ok (.ifCond .eq 9, 3) := by decide +kernel
theorem dX2_looseOnes_32 : decode cX2_looseOnes 32 = .ok (.iload_n 1, 1) := by decide +kernel
theorem dX2_looseOnes_33 : decode cX2_looseOnes 33 = .ok (.iconst 1, 1) := by decide +kernel
theorem dX2_looseOnes_34 : decode cX2_looseOnes 34 = .ok (.iload_n 2, 1) := by decide +kernel
theorem dX2_looseOnes_35 : decode cX2_looseOnes 35 = .ok (.ishl, 1) := by decide +kernel
theorem dX2_looseOnes_36 : decode cX2_looseOnes 36 = .ok (.ior, 1) := by decide +kernel
theorem dX2_looseOnes_37 : decode cX2_looseOnes 37 = .ok (.istore_n 1, 1) := by decide +kernel
theorem dX2_looseOnes_38 : decode cX2_looseOnes 38 = .ok (.iinc 2 1, 3) := by decide +kernel
theorem dX2_looseOnes_41 : decode cX2_looseOnes 41 = .ok (.goto (-37), 3) := by decide +kernel
theorem dX2_looseOnes_44 : decode cX2_looseOnes 44 = .ok (.iload_n 1, 1) := by decide +kernel
theorem dX2_looseOnes_45 : decode cX2_looseOnes 45 = .ok (.ireturn, 1) := by decide +kernel
set_option maxRecDepth 20000 in
theorem ggX2_withAnchors_X5_at : GoodIn wsX2_withAnchors wsX5_at := goodIn_r _ [5] (by decide +kernel) (by decide +kernel)
set_option maxRecDepth 20000 in
theorem gX2_withAnchors_X5_at_n35 : GoodIn wsX2_withAnchors (wsX5_at) := ggX2_withAnchors_X5_at
set_option maxRecDepth 20000 in
theorem ggX2_withAnchors_X5_isIn : GoodIn wsX2_withAnchors wsX5_isIn := goodIn_r _ [7] (by decide +kernel) (by decide +kernel)
set_option maxRecDepth 20000 in
theorem gX2_withAnchors_X5_isIn_n32 : GoodIn wsX2_withAnchors (wsX5_isIn) := ggX2_withAnchors_X5_isIn
theorem dX2_withAnchors_0 : decode cX2_withAnchors 0 = .ok (.iload_n 1, 1) := by decide +kernel
theorem dX2_withAnchors_1 : decode cX2_withAnchors 1 = .ok (.istore_n 2, 1) := by decide +kernel
theorem dX2_withAnchors_2 : decode cX2_withAnchors 2 = .ok (.aload_n 0, 1) := by decide +kernel
theorem dX2_withAnchors_3 : decode cX2_withAnchors 3 = .ok (.getfield 21, 3) := by decide +kernel
theorem dX2_withAnchors_6 : decode cX2_withAnchors 6 = .ok (.iconst 1, 1) := by decide +kernel
theorem dX2_withAnchors_7 : decode cX2_withAnchors 7 = .ok (.isub, 1) := by decide +kernel
theorem dX2_withAnchors_8 : decode cX2_withAnchors 8 = .ok (.istore_n 3, 1) := by decide +kernel
theorem dX2_withAnchors_9 : decode cX2_withAnchors 9 = .ok (.iload_n 3, 1) := by decide +kernel
theorem dX2_withAnchors_10 : decode cX2_withAnchors 10 = .ok (.ifCond .lt 40, 3) := by decide +kernel
theorem dX2_withAnchors_13 : decode cX2_withAnchors 13 = .ok (.aload_n 0, 1) := by decide +kernel
theorem dX2_withAnchors_14 : decode cX2_withAnchors 14 = .ok (.getfield 18, 3) := by decide +kernel
theorem dX2_withAnchors_17 : decode cX2_withAnchors 17 = .ok (.iload_n 3, 1) := by decide +kernel
theorem dX2_withAnchors_18 : decode cX2_withAnchors 18 = .ok (.invokestatic 35, 3) := by decide +kernel
theorem dX2_withAnchors_21 : decode cX2_withAnchors 21 = .ok (.istore 4, 2) := by decide +kernel
theorem dX2_withAnchors_23 : decode cX2_withAnchors 23 = .ok (.iload_n 2, 1) := by decide +kernel
theorem dX2_withAnchors_24 : decode cX2_withAnchors 24 = .ok (.iload_n 3, 1) := by decide +kernel
theorem dX2_withAnchors_25 : decode cX2_withAnchors 25 = .ok (.invokestatic 32, 3) := by decide +kernel
theorem dX2_withAnchors_28 : decode cX2_withAnchors 28 = .ok (.ifCond .eq 16, 3) := by decide +kernel
theorem dX2_withAnchors_31 : decode cX2_withAnchors 31 = .ok (.iload 4, 2) := by decide +kernel
theorem dX2_withAnchors_33 : decode cX2_withAnchors 33 = .ok (.iconst (-1), 1) := by decide +kernel
theorem dX2_withAnchors_34 : decode cX2_withAnchors 34 = .ok (.if_icmp .eq 10, 3) := by decide +kernel
theorem dX2_withAnchors_37 : decode cX2_withAnchors 37 = .ok (.iload_n 2, 1) := by decide +kernel
theorem dX2_withAnchors_38 : decode cX2_withAnchors 38 = .ok (.iconst 1, 1) := by decide +kernel
theorem dX2_withAnchors_39 : decode cX2_withAnchors 39 = .ok (.iload 4, 2) := by decide +kernel
theorem dX2_withAnchors_41 : decode cX2_withAnchors 41 = .ok (.ishl, 1) := by decide +kernel
theorem dX2_withAnchors_42 : decode cX2_withAnchors 42 = .ok (.ior, 1) := by decide +kernel
theorem dX2_withAnchors_43 : decode cX2_withAnchors 43 = .ok (.istore_n 2, 1) := by decide +kernel
theorem dX2_withAnchors_44 : decode cX2_withAnchors 44 = .ok (.iinc 3 (-1), 3) := by decide +kernel
theorem dX2_withAnchors_47 : decode cX2_withAnchors 47 = .ok (.goto (-38), 3) := by decide +kernel
theorem dX2_withAnchors_50 : decode cX2_withAnchors 50 = .ok (.iload_n 2, 1) := by decide +kernel
theorem dX2_withAnchors_51 : decode cX2_withAnchors 51 = .ok (.ireturn, 1) := by decide +kernel
set_option maxRecDepth 20000 in
theorem ggX2_topmostBelow_X5_isIn : GoodIn wsX2_topmostBelow wsX5_isIn := goodIn_r _ [4] (by decide +kernel) (by decide +kernel)
set_option maxRecDepth 20000 in
theorem gX2_topmostBelow_X5_isIn_n32 : GoodIn wsX2_topmostBelow (wsX5_isIn) := ggX2_topmostBelow_X5_isIn
set_option maxRecDepth 20000 in
theorem ggX2_topmostBelow_X2_topOf : GoodIn wsX2_topmostBelow wsX2_topOf := goodIn_r _ [9, 10, 11, 3, 12, 2, 4, 13, 14, 15, 16, 17] (by decide +kernel) (by decide +kernel)
set_option maxRecDepth 20000 in
theorem gX2_topmostBelow_X2_topOf : GoodIn wsX2_topmostBelow (wsV RX2 67 RX2 yX2_topOf wsX2_topOf) := goodIn_app (goodIn_of _ (by decide +kernel)) ggX2_topmostBelow_X2_topOf
theorem dX2_topmostBelow_0 : decode cX2_topmostBelow 0 = .ok (.iconst 0, 1) := by decide +kernel
theorem dX2_topmostBelow_1 : decode cX2_topmostBelow 1 = .ok (.istore_n 3, 1) := by decide +kernel
theorem dX2_topmostBelow_2 : decode cX2_topmostBelow 2 = .ok (.iconst 0, 1) := by decide +kernel
theorem dX2_topmostBelow_3 : decode cX2_topmostBelow 3 = .ok (.istore 4, 2) := by decide +kernel
theorem dX2_topmostBelow_5 : decode cX2_topmostBelow 5 = .ok (.iload 4, 2) := by decide +kernel
theorem dX2_topmostBelow_7 : decode cX2_topmostBelow 7 = .ok (.aload_n 0, 1) := by decide +kernel
theorem dX2_topmostBelow_8 : decode cX2_topmostBelow 8 = .ok (.getfield 21, 3) := by decide +kernel
theorem dX2_topmostBelow_11 : decode cX2_topmostBelow 11 = .ok (.if_icmp .ge 30, 3) := by decide +kernel
theorem dX2_topmostBelow_14 : decode cX2_topmostBelow 14 = .ok (.iload_n 1, 1) := by decide +kernel
theorem dX2_topmostBelow_15 : decode cX2_topmostBelow 15 = .ok (.iload 4, 2) := by decide +kernel
theorem dX2_topmostBelow_17 : decode cX2_topmostBelow 17 = .ok (.invokestatic 32, 3) := by decide +kernel
theorem dX2_topmostBelow_20 : decode cX2_topmostBelow 20 = .ok (.ifCond .eq 15, 3) := by decide +kernel
theorem dX2_topmostBelow_23 : decode cX2_topmostBelow 23 = .ok (.iload_n 3, 1) := by decide +kernel
theorem dX2_topmostBelow_24 : decode cX2_topmostBelow 24 = .ok (.iconst 1, 1) := by decide +kernel
theorem dX2_topmostBelow_25 : decode cX2_topmostBelow 25 = .ok (.aload_n 0, 1) := by decide +kernel
theorem dX2_topmostBelow_26 : decode cX2_topmostBelow 26 = .ok (.iload 4, 2) := by decide +kernel
theorem dX2_topmostBelow_28 : decode cX2_topmostBelow 28 = .ok (.iload_n 2, 1) := by decide +kernel
theorem dX2_topmostBelow_29 : decode cX2_topmostBelow 29 = .ok (.invokevirtual 67, 3) := by decide +kernel
theorem dX2_topmostBelow_32 : decode cX2_topmostBelow 32 = .ok (.ishl, 1) := by decide +kernel
theorem dX2_topmostBelow_33 : decode cX2_topmostBelow 33 = .ok (.ior, 1) := by decide +kernel
theorem dX2_topmostBelow_34 : decode cX2_topmostBelow 34 = .ok (.istore_n 3, 1) := by decide +kernel
theorem dX2_topmostBelow_35 : decode cX2_topmostBelow 35 = .ok (.iinc 4 1, 3) := by decide +kernel
theorem dX2_topmostBelow_38 : decode cX2_topmostBelow 38 = .ok (.goto (-33), 3) := by decide +kernel
theorem dX2_topmostBelow_41 : decode cX2_topmostBelow 41 = .ok (.iload_n 3, 1) := by decide +kernel
theorem dX2_topmostBelow_42 : decode cX2_topmostBelow 42 = .ok (.ireturn, 1) := by decide +kernel
set_option maxRecDepth 20000 in
theorem ggX2_topOf_X5_at : GoodIn wsX2_topOf wsX5_at := goodIn_r _ [4] (by decide +kernel) (by decide +kernel)
set_option maxRecDepth 20000 in
theorem gX2_topOf_X5_at_n35 : GoodIn wsX2_topOf (wsX5_at) := ggX2_topOf_X5_at
set_option maxRecDepth 20000 in
theorem ggX2_topOf_X5_isIn : GoodIn wsX2_topOf wsX5_isIn := goodIn_r _ [6] (by decide +kernel) (by decide +kernel)
set_option maxRecDepth 20000 in
theorem gX2_topOf_X5_isIn_n32 : GoodIn wsX2_topOf (wsX5_isIn) := ggX2_topOf_X5_isIn
theorem dX2_topOf_0 : decode cX2_topOf 0 = .ok (.iload_n 1, 1) := by decide +kernel
theorem dX2_topOf_1 : decode cX2_topOf 1 = .ok (.istore_n 3, 1) := by decide +kernel
theorem dX2_topOf_2 : decode cX2_topOf 2 = .ok (.iload_n 1, 1) := by decide +kernel
theorem dX2_topOf_3 : decode cX2_topOf 3 = .ok (.iconst 1, 1) := by decide +kernel
theorem dX2_topOf_4 : decode cX2_topOf 4 = .ok (.isub, 1) := by decide +kernel
theorem dX2_topOf_5 : decode cX2_topOf 5 = .ok (.istore 4, 2) := by decide +kernel
theorem dX2_topOf_7 : decode cX2_topOf 7 = .ok (.iload 4, 2) := by decide +kernel
theorem dX2_topOf_9 : decode cX2_topOf 9 = .ok (.ifCond .lt 34, 3) := by decide +kernel
theorem dX2_topOf_12 : decode cX2_topOf 12 = .ok (.aload_n 0, 1) := by decide +kernel
theorem dX2_topOf_13 : decode cX2_topOf 13 = .ok (.getfield 18, 3) := by decide +kernel
theorem dX2_topOf_16 : decode cX2_topOf 16 = .ok (.iload_n 3, 1) := by decide +kernel
theorem dX2_topOf_17 : decode cX2_topOf 17 = .ok (.invokestatic 35, 3) := by decide +kernel
theorem dX2_topOf_20 : decode cX2_topOf 20 = .ok (.iload 4, 2) := by decide +kernel
theorem dX2_topOf_22 : decode cX2_topOf 22 = .ok (.if_icmp .ne 15, 3) := by decide +kernel
theorem dX2_topOf_25 : decode cX2_topOf 25 = .ok (.iload_n 2, 1) := by decide +kernel
theorem dX2_topOf_26 : decode cX2_topOf 26 = .ok (.iload 4, 2) := by decide +kernel
theorem dX2_topOf_28 : decode cX2_topOf 28 = .ok (.invokestatic 32, 3) := by decide +kernel
theorem dX2_topOf_31 : decode cX2_topOf 31 = .ok (.ifCond .ne 6, 3) := by decide +kernel
theorem dX2_topOf_34 : decode cX2_topOf 34 = .ok (.iload 4, 2) := by decide +kernel
theorem dX2_topOf_36 : decode cX2_topOf 36 = .ok (.istore_n 3, 1) := by decide +kernel
theorem dX2_topOf_37 : decode cX2_topOf 37 = .ok (.iinc 4 (-1), 3) := by decide +kernel
theorem dX2_topOf_40 : decode cX2_topOf 40 = .ok (.goto (-33), 3) := by decide +kernel
theorem dX2_topOf_43 : decode cX2_topOf 43 = .ok (.iload_n 3, 1) := by decide +kernel
theorem dX2_topOf_44 : decode cX2_topOf 44 = .ok (.ireturn, 1) := by decide +kernel
set_option maxRecDepth 20000 in
theorem ggX2_shortestPattern_X2_repeatsBy : GoodIn wsX2_shortestPattern wsX2_repeatsBy := goodIn_r _ [6, 1, 7, 8, 9, 10, 5, 11, 12, 13, 14, 15, 16, 17, 18, 19, 20, 21, 22, 23, 24, 25, 26] (by decide +kernel) (by decide +kernel)
set_option maxRecDepth 20000 in
theorem gX2_shortestPattern_X2_repeatsBy : GoodIn wsX2_shortestPattern (wsV RX2 70 RX2 yX2_repeatsBy wsX2_repeatsBy) := goodIn_app (goodIn_of _ (by decide +kernel)) ggX2_shortestPattern_X2_repeatsBy
theorem dX2_shortestPattern_0 : decode cX2_shortestPattern 0 = .ok (.iconst 1, 1) := by decide +kernel
theorem dX2_shortestPattern_1 : decode cX2_shortestPattern 1 = .ok (.istore_n 1, 1) := by decide +kernel
theorem dX2_shortestPattern_2 : decode cX2_shortestPattern 2 = .ok (.iload_n 1, 1) := by decide +kernel
theorem dX2_shortestPattern_3 : decode cX2_shortestPattern 3 = .ok (.aload_n 0, 1) := by decide +kernel
theorem dX2_shortestPattern_4 : decode cX2_shortestPattern 4 = .ok (.getfield 21, 3) := by decide +kernel
theorem dX2_shortestPattern_7 : decode cX2_shortestPattern 7 = .ok (.if_icmp .ge 19, 3) := by decide +kernel
theorem dX2_shortestPattern_10 : decode cX2_shortestPattern 10 = .ok (.aload_n 0, 1) := by decide +kernel
theorem dX2_shortestPattern_11 : decode cX2_shortestPattern 11 = .ok (.iload_n 1, 1) := by decide +kernel
theorem dX2_shortestPattern_12 : decode cX2_shortestPattern 12 = .ok (.invokevirtual 70, 3) := by decide +kernel
theorem dX2_shortestPattern_15 : decode cX2_shortestPattern 15 = .ok (.ifCond .eq 5, 3) := by decide +kernel
theorem dX2_shortestPattern_18 : decode cX2_shortestPattern 18 = .ok (.iload_n 1, 1) := by decide +kernel
theorem dX2_shortestPattern_19 : decode cX2_shortestPattern 19 = .ok (.ireturn, 1) := by decide +kernel
theorem dX2_shortestPattern_20 : decode cX2_shortestPattern 20 = .ok (.iinc 1 1, 3) := by decide +kernel
theorem dX2_shortestPattern_23 : decode cX2_shortestPattern 23 = .ok (.goto (-21), 3) := by decide +kernel
theorem dX2_shortestPattern_26 : decode cX2_shortestPattern 26 = .ok (.aload_n 0, 1) := by decide +kernel
theorem dX2_shortestPattern_27 : decode cX2_shortestPattern 27 = .ok (.getfield 21, 3) := by decide +kernel
theorem dX2_shortestPattern_30 : decode cX2_shortestPattern 30 = .ok (.ireturn, 1) := by decide +kernel
set_option maxRecDepth 20000 in
theorem ggX2_repeatsBy_X2_areAlike : GoodIn wsX2_repeatsBy wsX2_areAlike := goodIn_r _ [7, 8, 9, 10, 6, 11, 12, 13, 14, 15, 18, 19, 20, 21, 22] (by decide +kernel) (by decide +kernel)
set_option maxRecDepth 20000 in
theorem gX2_repeatsBy_X2_areAlike : GoodIn wsX2_repeatsBy (wsV RX2 73 RX2 yX2_areAlike wsX2_areAlike) := goodIn_app (goodIn_of _ (by decide +kernel)) ggX2_repeatsBy_X2_areAlike
set_option maxRecDepth 20000 in
theorem ggX2_repeatsBy_X5_at : GoodIn wsX2_repeatsBy wsX5_at := goodIn_r _ [17] (by decide +kernel) (by decide +kernel)
set_option maxRecDepth 20000 in
theorem gX2_repeatsBy_X5_at_n35 : GoodIn wsX2_repeatsBy (wsX5_at) := ggX2_repeatsBy_X5_at
theorem dX2_repeatsBy_0 : decode cX2_repeatsBy 0 = .ok (.iconst 0, 1) := by decide +kernel
theorem dX2_repeatsBy_1 : decode cX2_repeatsBy 1 = .ok (.istore_n 2, 1) := by decide +kernel
theorem dX2_repeatsBy_2 : decode cX2_repeatsBy 2 = .ok (.iload_n 2, 1) := by decide +kernel
theorem dX2_repeatsBy_3 : decode cX2_repeatsBy 3 = .ok (.aload_n 0, 1) := by decide +kernel
theorem dX2_repeatsBy_4 : decode cX2_repeatsBy 4 = .ok (.getfield 21, 3) := by decide +kernel
theorem dX2_repeatsBy_7 : decode cX2_repeatsBy 7 = .ok (.if_icmp .ge 58, 3) := by decide +kernel
theorem dX2_repeatsBy_10 : decode cX2_repeatsBy 10 = .ok (.iload_n 2, 1) := by decide +kernel
theorem dX2_repeatsBy_11 : decode cX2_repeatsBy 11 = .ok (.iconst 1, 1) := by decide +kernel
theorem dX2_repeatsBy_12 : decode cX2_repeatsBy 12 = .ok (.iadd, 1) := by decide +kernel
theorem dX2_repeatsBy_13 : decode cX2_repeatsBy 13 = .ok (.istore_n 3, 1) := by decide +kernel
theorem dX2_repeatsBy_14 : decode cX2_repeatsBy 14 = .ok (.iload_n 3, 1) := by decide +kernel
theorem dX2_repeatsBy_15 : decode cX2_repeatsBy 15 = .ok (.aload_n 0, 1) := by decide +kernel
theorem dX2_repeatsBy_16 : decode cX2_repeatsBy 16 = .ok (.getfield 21, 3) := by decide +kernel
theorem dX2_repeatsBy_19 : decode cX2_repeatsBy 19 = .ok (.if_icmp .ge 40, 3) := by decide +kernel
theorem dX2_repeatsBy_22 : decode cX2_repeatsBy 22 = .ok (.aload_n 0, 1) := by decide +kernel
theorem dX2_repeatsBy_23 : decode cX2_repeatsBy 23 = .ok (.iload_n 2, 1) := by decide +kernel
theorem dX2_repeatsBy_24 : decode cX2_repeatsBy 24 = .ok (.iload_n 3, 1) := by decide +kernel
theorem dX2_repeatsBy_25 : decode cX2_repeatsBy 25 = .ok (.iload_n 1, 1) := by decide +kernel
theorem dX2_repeatsBy_26 : decode cX2_repeatsBy 26 = .ok (.invokevirtual 73, 3) := by decide +kernel
theorem dX2_repeatsBy_29 : decode cX2_repeatsBy 29 = .ok (.ifCond .eq 24, 3) := by decide +kernel
theorem dX2_repeatsBy_32 : decode cX2_repeatsBy 32 = .ok (.aload_n 0, 1) := by decide +kernel
theorem dX2_repeatsBy_33 : decode cX2_repeatsBy 33 = .ok (.getfield 9, 3) := by decide +kernel
theorem dX2_repeatsBy_36 : decode cX2_repeatsBy 36 = .ok (.iload_n 2, 1) := by decide +kernel
theorem dX2_repeatsBy_37 : decode cX2_repeatsBy 37 = .ok (.invokestatic 35, 3) := by decide +kernel
theorem dX2_repeatsBy_40 : decode cX2_repeatsBy 40 = .ok (.aload_n 0, 1) := by decide +kernel
theorem dX2_repeatsBy_41 : decode cX2_repeatsBy 41 = .ok (.getfield 9, 3) := by decide +kernel
theorem dX2_repeatsBy_44 : decode cX2_repeatsBy 44 = .ok (.iload_n 3, 1) := by decide +kernel
theorem dX2_repeatsBy_45 : decode cX2_repeatsBy 45 = .ok (.invokestatic 35, 3) := by decide +kernel
theorem dX2_repeatsBy_48 : decode cX2_repeatsBy 48 = .ok (.if_icmp .eq 5, 3) := by decide +kernel
theorem dX2_repeatsBy_51 : decode cX2_repeatsBy 51 = .ok (.iconst 0, 1) := by decide +kernel
theorem dX2_repeatsBy_52 : decode cX2_repeatsBy 52 = .ok (.ireturn, 1) := by decide +kernel
theorem dX2_repeatsBy_53 : decode cX2_repeatsBy 53 = .ok (.iinc 3 1, 3) := by decide +kernel
theorem dX2_repeatsBy_56 : decode cX2_repeatsBy 56 = .ok (.goto (-42), 3) := by decide +kernel
theorem dX2_repeatsBy_59 : decode cX2_repeatsBy 59 = .ok (.iinc 2 1, 3) := by decide +kernel
theorem dX2_repeatsBy_62 : decode cX2_repeatsBy 62 = .ok (.goto (-60), 3) := by decide +kernel
theorem dX2_repeatsBy_65 : decode cX2_repeatsBy 65 = .ok (.iconst 1, 1) := by decide +kernel
theorem dX2_repeatsBy_66 : decode cX2_repeatsBy 66 = .ok (.ireturn, 1) := by decide +kernel
set_option maxRecDepth 20000 in
theorem ggX2_areAlike_X2_isEaten : GoodIn wsX2_areAlike wsX2_isEaten := goodIn_r _ [5, 6, 7, 8, 9, 10, 11, 12, 13, 14] (by decide +kernel) (by decide +kernel)
set_option maxRecDepth 20000 in
theorem gX2_areAlike_X2_isEaten : GoodIn wsX2_areAlike (wsV RX2 58 RX2 yX2_isEaten wsX2_isEaten) := goodIn_app (goodIn_of _ (by decide +kernel)) ggX2_areAlike_X2_isEaten
theorem dX2_areAlike_0 : decode cX2_areAlike 0 = .ok (.iload_n 3, 1) := by decide +kernel
theorem dX2_areAlike_1 : decode cX2_areAlike 1 = .ok (.ifCond .le 31, 3) := by decide +kernel
theorem dX2_areAlike_4 : decode cX2_areAlike 4 = .ok (.iload_n 1, 1) := by decide +kernel
theorem dX2_areAlike_5 : decode cX2_areAlike 5 = .ok (.iload_n 2, 1) := by decide +kernel
theorem dX2_areAlike_6 : decode cX2_areAlike 6 = .ok (.isub, 1) := by decide +kernel
theorem dX2_areAlike_7 : decode cX2_areAlike 7 = .ok (.iload_n 3, 1) := by decide +kernel
theorem dX2_areAlike_8 : decode cX2_areAlike 8 = .ok (.irem, 1) := by decide +kernel
theorem dX2_areAlike_9 : decode cX2_areAlike 9 = .ok (.ifCond .ne 23, 3) := by decide +kernel
theorem dX2_areAlike_12 : decode cX2_areAlike 12 = .ok (.aload_n 0, 1) := by decide +kernel
theorem dX2_areAlike_13 : decode cX2_areAlike 13 = .ok (.iload_n 1, 1) := by decide +kernel
theorem dX2_areAlike_14 : decode cX2_areAlike 14 = .ok (.invokevirtual 58, 3) := by decide +kernel
theorem dX2_areAlike_17 : decode cX2_areAlike 17 = .ok (.ifCond .ne 15, 3) := by decide +kernel
theorem dX2_areAlike_20 : decode cX2_areAlike 20 = .ok (.aload_n 0, 1) := by decide +kernel
theorem dX2_areAlike_21 : decode cX2_areAlike 21 = .ok (.iload_n 2, 1) := by decide +kernel
theorem dX2_areAlike_22 : decode cX2_areAlike 22 = .ok (.invokevirtual 58, 3) := by decide +kernel
theorem dX2_areAlike_25 : decode cX2_areAlike 25 = .ok (.ifCond .ne 7, 3) := by decide +kernel
theorem dX2_areAlike_28 : decode cX2_areAlike 28 = .ok (.iconst 1, 1) := by decide +kernel
theorem dX2_areAlike_29 : decode cX2_areAlike 29 = .ok (.goto 4, 3) := by decide +kernel
theorem dX2_areAlike_32 : decode cX2_areAlike 32 = .ok (.iconst 0, 1) := by decide +kernel
theorem dX2_areAlike_33 : decode cX2_areAlike 33 = .ok (.ireturn, 1) := by decide +kernel
set_option maxRecDepth 20000 in
theorem ggX2_coloursOfHole_X2_shortestPattern : GoodIn wsX2_coloursOfHole wsX2_shortestPattern := goodIn_r _ [7, 1, 8, 9, 10, 6, 11, 2, 12, 13, 14, 15, 16, 17, 18, 19, 20, 21, 22, 23, 24, 25, 26, 27, 28, 29, 30] (by decide +kernel) (by decide +kernel)
set_option maxRecDepth 20000 in
theorem gX2_coloursOfHole_X2_shortestPattern : GoodIn wsX2_coloursOfHole (wsV RX2 77 RX2 yX2_shortestPattern wsX2_shortestPattern) := goodIn_app (goodIn_of _ (by decide +kernel)) ggX2_coloursOfHole_X2_shortestPattern
set_option maxRecDepth 20000 in
theorem ggX2_coloursOfHole_X2_isEaten : GoodIn wsX2_coloursOfHole wsX2_isEaten := goodIn_r _ [19, 20, 21, 22, 23, 26, 27, 28, 29, 30] (by decide +kernel) (by decide +kernel)
set_option maxRecDepth 20000 in
theorem gX2_coloursOfHole_X2_isEaten : GoodIn wsX2_coloursOfHole (wsV RX2 58 RX2 yX2_isEaten wsX2_isEaten) := goodIn_app (goodIn_of _ (by decide +kernel)) ggX2_coloursOfHole_X2_isEaten
set_option maxRecDepth 20000 in
theorem ggX2_coloursOfHole_X5_at : GoodIn wsX2_coloursOfHole wsX5_at := goodIn_r _ [25] (by decide +kernel) (by decide +kernel)
set_option maxRecDepth 20000 in
theorem gX2_coloursOfHole_X5_at_n35 : GoodIn wsX2_coloursOfHole (wsX5_at) := ggX2_coloursOfHole_X5_at
theorem dX2_coloursOfHole_0 : decode cX2_coloursOfHole 0 = .ok (.aload_n 0, 1) := by decide +kernel
theorem dX2_coloursOfHole_1 : decode cX2_coloursOfHole 1 = .ok (.invokevirtual 77, 3) := by decide +kernel
theorem dX2_coloursOfHole_4 : decode cX2_coloursOfHole 4 = .ok (.istore_n 2, 1) := by decide +kernel
theorem dX2_coloursOfHole_5 : decode cX2_coloursOfHole 5 = .ok (.iconst 0, 1) := by decide +kernel
theorem dX2_coloursOfHole_6 : decode cX2_coloursOfHole 6 = .ok (.istore_n 3, 1) := by decide +kernel
theorem dX2_coloursOfHole_7 : decode cX2_coloursOfHole 7 = .ok (.iload_n 3, 1) := by decide +kernel
theorem dX2_coloursOfHole_8 : decode cX2_coloursOfHole 8 = .ok (.aload_n 0, 1) := by decide +kernel
theorem dX2_coloursOfHole_9 : decode cX2_coloursOfHole 9 = .ok (.getfield 21, 3) := by decide +kernel
theorem dX2_coloursOfHole_12 : decode cX2_coloursOfHole 12 = .ok (.if_icmp .ge 40, 3) := by decide +kernel
theorem dX2_coloursOfHole_15 : decode cX2_coloursOfHole 15 = .ok (.iload_n 2, 1) := by decide +kernel
theorem dX2_coloursOfHole_16 : decode cX2_coloursOfHole 16 = .ok (.ifCond .le 30, 3) := by decide +kernel
theorem dX2_coloursOfHole_19 : decode cX2_coloursOfHole 19 = .ok (.iload_n 3, 1) := by decide +kernel
theorem dX2_coloursOfHole_20 : decode cX2_coloursOfHole 20 = .ok (.iload_n 1, 1) := by decide +kernel
theorem dX2_coloursOfHole_21 : decode cX2_coloursOfHole 21 = .ok (.isub, 1) := by decide +kernel
theorem dX2_coloursOfHole_22 : decode cX2_coloursOfHole 22 = .ok (.iload_n 2, 1) := by decide +kernel
theorem dX2_coloursOfHole_23 : decode cX2_coloursOfHole 23 = .ok (.irem, 1) := by decide +kernel
theorem dX2_coloursOfHole_24 : decode cX2_coloursOfHole 24 = .ok (.ifCond .ne 22, 3) := by decide +kernel
theorem dX2_coloursOfHole_27 : decode cX2_coloursOfHole 27 = .ok (.aload_n 0, 1) := by decide +kernel
theorem dX2_coloursOfHole_28 : decode cX2_coloursOfHole 28 = .ok (.iload_n 3, 1) := by decide +kernel
theorem dX2_coloursOfHole_29 : decode cX2_coloursOfHole 29 = .ok (.invokevirtual 58, 3) := by decide +kernel
theorem dX2_coloursOfHole_32 : decode cX2_coloursOfHole 32 = .ok (.ifCond .ne 14, 3) := by decide +kernel
theorem dX2_coloursOfHole_35 : decode cX2_coloursOfHole 35 = .ok (.iconst 1, 1) := by decide +kernel
theorem dX2_coloursOfHole_36 : decode cX2_coloursOfHole 36 = .ok (.aload_n 0, 1) := by decide +kernel
theorem dX2_coloursOfHole_37 : decode cX2_coloursOfHole 37 = .ok (.getfield 9, 3) := by decide +kernel
theorem dX2_coloursOfHole_40 : decode cX2_coloursOfHole 40 = .ok (.iload_n 3, 1) := by decide +kernel
theorem dX2_coloursOfHole_41 : decode cX2_coloursOfHole 41 = .ok (.invokestatic 35, 3) := by decide +kernel
theorem dX2_coloursOfHole_44 : decode cX2_coloursOfHole 44 = .ok (.ishl, 1) := by decide +kernel
theorem dX2_coloursOfHole_45 : decode cX2_coloursOfHole 45 = .ok (.ireturn, 1) := by decide +kernel
theorem dX2_coloursOfHole_46 : decode cX2_coloursOfHole 46 = .ok (.iinc 3 1, 3) := by decide +kernel
theorem dX2_coloursOfHole_49 : decode cX2_coloursOfHole 49 = .ok (.goto (-42), 3) := by decide +kernel
theorem dX2_coloursOfHole_52 : decode cX2_coloursOfHole 52 = .ok (.bipush 15, 2) := by decide +kernel
theorem dX2_coloursOfHole_54 : decode cX2_coloursOfHole 54 = .ok (.ireturn, 1) := by decide +kernel
set_option maxRecDepth 20000 in
theorem ggX2_tightnessFrom_X5_at : GoodIn wsX2_tightnessFrom wsX5_at := goodIn_r _ [5] (by decide +kernel) (by decide +kernel)
set_option maxRecDepth 20000 in
theorem gX2_tightnessFrom_X5_at_n35 : GoodIn wsX2_tightnessFrom (wsX5_at) := ggX2_tightnessFrom_X5_at
theorem dX2_tightnessFrom_0 : decode cX2_tightnessFrom 0 = .ok (.iconst 0, 1) := by decide +kernel
theorem dX2_tightnessFrom_1 : decode cX2_tightnessFrom 1 = .ok (.istore_n 2, 1) := by decide +kernel
theorem dX2_tightnessFrom_2 : decode cX2_tightnessFrom 2 = .ok (.iload_n 1, 1) := by decide +kernel
theorem dX2_tightnessFrom_3 : decode cX2_tightnessFrom 3 = .ok (.istore_n 3, 1) := by decide +kernel
theorem dX2_tightnessFrom_4 : decode cX2_tightnessFrom 4 = .ok (.iload_n 3, 1) := by decide +kernel
theorem dX2_tightnessFrom_5 : decode cX2_tightnessFrom 5 = .ok (.aload_n 0, 1) := by decide +kernel
theorem dX2_tightnessFrom_6 : decode cX2_tightnessFrom 6 = .ok (.getfield 21, 3) := by decide +kernel
theorem dX2_tightnessFrom_9 : decode cX2_tightnessFrom 9 = .ok (.if_icmp .ge 20, 3) := by decide +kernel
theorem dX2_tightnessFrom_12 : decode cX2_tightnessFrom 12 = .ok (.iload_n 2, 1) := by decide +kernel
theorem dX2_tightnessFrom_13 : decode cX2_tightnessFrom 13 = .ok (.aload_n 0, 1) := by decide +kernel
theorem dX2_tightnessFrom_14 : decode cX2_tightnessFrom 14 = .ok (.getfield 15, 3) := by decide +kernel
theorem dX2_tightnessFrom_17 : decode cX2_tightnessFrom 17 = .ok (.iload_n 3, 1) := by decide +kernel
theorem dX2_tightnessFrom_18 : decode cX2_tightnessFrom 18 = .ok (.invokestatic 35, 3) := by decide +kernel
theorem dX2_tightnessFrom_21 : decode cX2_tightnessFrom 21 = .ok (.iadd, 1) := by decide +kernel
theorem dX2_tightnessFrom_22 : decode cX2_tightnessFrom 22 = .ok (.istore_n 2, 1) := by decide +kernel
theorem dX2_tightnessFrom_23 : decode cX2_tightnessFrom 23 = .ok (.iinc 3 1, 3) := by decide +kernel
theorem dX2_tightnessFrom_26 : decode cX2_tightnessFrom 26 = .ok (.goto (-22), 3) := by decide +kernel
theorem dX2_tightnessFrom_29 : decode cX2_tightnessFrom 29 = .ok (.iload_n 2, 1) := by decide +kernel
theorem dX2_tightnessFrom_30 : decode cX2_tightnessFrom 30 = .ok (.ireturn, 1) := by decide +kernel
set_option maxRecDepth 20000 in
theorem ggX2_stretchesFrom_X5_at : GoodIn wsX2_stretchesFrom wsX5_at := goodIn_r _ [5] (by decide +kernel) (by decide +kernel)
set_option maxRecDepth 20000 in
theorem gX2_stretchesFrom_X5_at_n35 : GoodIn wsX2_stretchesFrom (wsX5_at) := ggX2_stretchesFrom_X5_at
theorem dX2_stretchesFrom_0 : decode cX2_stretchesFrom 0 = .ok (.iconst 0, 1) := by decide +kernel
theorem dX2_stretchesFrom_1 : decode cX2_stretchesFrom 1 = .ok (.istore_n 3, 1) := by decide +kernel
theorem dX2_stretchesFrom_2 : decode cX2_stretchesFrom 2 = .ok (.iconst (-1), 1) := by decide +kernel
theorem dX2_stretchesFrom_3 : decode cX2_stretchesFrom 3 = .ok (.istore 4, 2) := by decide +kernel
theorem dX2_stretchesFrom_5 : decode cX2_stretchesFrom 5 = .ok (.iload_n 1, 1) := by decide +kernel
theorem dX2_stretchesFrom_6 : decode cX2_stretchesFrom 6 = .ok (.istore 5, 2) := by decide +kernel
theorem dX2_stretchesFrom_8 : decode cX2_stretchesFrom 8 = .ok (.iload 5, 2) := by decide +kernel
theorem dX2_stretchesFrom_10 : decode cX2_stretchesFrom 10 = .ok (.aload_n 0, 1) := by decide +kernel
theorem dX2_stretchesFrom_11 : decode cX2_stretchesFrom 11 = .ok (.getfield 21, 3) := by decide +kernel
theorem dX2_stretchesFrom_14 : decode cX2_stretchesFrom 14 = .ok (.if_icmp .ge 49, 3) := by decide +kernel
theorem dX2_stretchesFrom_17 : decode cX2_stretchesFrom 17 = .ok (.aload_n 0, 1) := by decide +kernel
theorem dX2_stretchesFrom_18 : decode cX2_stretchesFrom 18 = .ok (.getfield 15, 3) := by decide +kernel
theorem dX2_stretchesFrom_21 : decode cX2_stretchesFrom 21 = .ok (.iload 5, 2) := by decide +kernel
theorem dX2_stretchesFrom_23 : decode cX2_stretchesFrom 23 = .ok (.invokestatic 35, 3) := by decide +kernel
theorem dX2_stretchesFrom_26 : decode cX2_stretchesFrom 26 = .ok (.istore 6, 2) := by decide +kernel
theorem dX2_stretchesFrom_28 : decode cX2_stretchesFrom 28 = .ok (.iload 6, 2) := by decide +kernel
theorem dX2_stretchesFrom_30 : decode cX2_stretchesFrom 30 = .ok (.iload_n 2, 1) := by decide +kernel
theorem dX2_stretchesFrom_31 : decode cX2_stretchesFrom 31 = .ok (.if_icmp .le 6, 3) := by decide +kernel
theorem dX2_stretchesFrom_34 : decode cX2_stretchesFrom 34 = .ok (.bipush 25, 2) := by decide +kernel
theorem dX2_stretchesFrom_36 : decode cX2_stretchesFrom 36 = .ok (.ireturn, 1) := by decide +kernel
theorem dX2_stretchesFrom_37 : decode cX2_stretchesFrom 37 = .ok (.iload 6, 2) := by decide +kernel
theorem dX2_stretchesFrom_39 : decode cX2_stretchesFrom 39 = .ok (.iload 4, 2) := by decide +kernel
theorem dX2_stretchesFrom_41 : decode cX2_stretchesFrom 41 = .ok (.if_icmp .le 9, 3) := by decide +kernel
theorem dX2_stretchesFrom_44 : decode cX2_stretchesFrom 44 = .ok (.iinc 3 1, 3) := by decide +kernel
theorem dX2_stretchesFrom_47 : decode cX2_stretchesFrom 47 = .ok (.iload_n 2, 1) := by decide +kernel
theorem dX2_stretchesFrom_48 : decode cX2_stretchesFrom 48 = .ok (.istore 4, 2) := by decide +kernel
theorem dX2_stretchesFrom_50 : decode cX2_stretchesFrom 50 = .ok (.iload 4, 2) := by decide +kernel
theorem dX2_stretchesFrom_52 : decode cX2_stretchesFrom 52 = .ok (.iload 6, 2) := by decide +kernel
theorem dX2_stretchesFrom_54 : decode cX2_stretchesFrom 54 = .ok (.isub, 1) := by decide +kernel
theorem dX2_stretchesFrom_55 : decode cX2_stretchesFrom 55 = .ok (.istore 4, 2) := by decide +kernel
theorem dX2_stretchesFrom_57 : decode cX2_stretchesFrom 57 = .ok (.iinc 5 1, 3) := by decide +kernel
theorem dX2_stretchesFrom_60 : decode cX2_stretchesFrom 60 = .ok (.goto (-52), 3) := by decide +kernel
theorem dX2_stretchesFrom_63 : decode cX2_stretchesFrom 63 = .ok (.iload_n 3, 1) := by decide +kernel
theorem dX2_stretchesFrom_64 : decode cX2_stretchesFrom 64 = .ok (.ireturn, 1) := by decide +kernel
set_option maxRecDepth 20000 in
theorem ggX3_init_X2_init : GoodIn wsX3_init wsX2_init := goodIn_r _ [12, 13, 2, 3, 8, 14, 15, 16, 17, 18, 19, 20, 21] (by decide +kernel) (by decide +kernel)
set_option maxRecDepth 20000 in
theorem gX3_init_X2_init_n11 : GoodIn wsX3_init (wsX2_init) := ggX3_init_X2_init
theorem dX3_init_0 : decode cX3_init 0 = .ok (.aload_n 0, 1) := by decide +kernel
theorem dX3_init_1 : decode cX3_init 1 = .ok (.invokespecial 3, 3) := by decide +kernel
theorem dX3_init_4 : decode cX3_init 4 = .ok (.aload_n 0, 1) := by decide +kernel
theorem dX3_init_5 : decode cX3_init 5 = .ok (.new 9, 3) := by decide +kernel
theorem dX3_init_8 : decode cX3_init 8 = .ok (.dup, 1) := by decide +kernel
theorem dX3_init_9 : decode cX3_init 9 = .ok (.invokespecial 11, 3) := by decide +kernel
theorem dX3_init_12 : decode cX3_init 12 = .ok (.putfield 12, 3) := by decide +kernel
theorem dX3_init_15 : decode cX3_init 15 = .ok (.aload_n 0, 1) := by decide +kernel
theorem dX3_init_16 : decode cX3_init 16 = .ok (.iconst 4, 1) := by decide +kernel
theorem dX3_init_17 : decode cX3_init 17 = .ok (.newarray .int, 2) := by decide +kernel
theorem dX3_init_19 : decode cX3_init 19 = .ok (.dup, 1) := by decide +kernel
theorem dX3_init_20 : decode cX3_init 20 = .ok (.iconst 0, 1) := by decide +kernel
theorem dX3_init_21 : decode cX3_init 21 = .ok (.iconst 5, 1) := by decide +kernel
theorem dX3_init_22 : decode cX3_init 22 = .ok (.iastore, 1) := by decide +kernel
theorem dX3_init_23 : decode cX3_init 23 = .ok (.dup, 1) := by decide +kernel
theorem dX3_init_24 : decode cX3_init 24 = .ok (.iconst 1, 1) := by decide +kernel
theorem dX3_init_25 : decode cX3_init 25 = .ok (.iconst 5, 1) := by decide +kernel
theorem dX3_init_26 : decode cX3_init 26 = .ok (.iastore, 1) := by decide +kernel
theorem dX3_init_27 : decode cX3_init 27 = .ok (.dup, 1) := by decide +kernel
theorem dX3_init_28 : decode cX3_init 28 = .ok (.iconst 2, 1) := by decide +kernel
theorem dX3_init_29 : decode cX3_init 29 = .ok (.iconst 5, 1) := by decide +kernel
theorem dX3_init_30 : decode cX3_init 30 = .ok (.iastore, 1) := by decide +kernel
theorem dX3_init_31 : decode cX3_init 31 = .ok (.dup, 1) := by decide +kernel
theorem dX3_init_32 : decode cX3_init 32 = .ok (.iconst 3, 1) := by decide +kernel
theorem dX3_init_33 : decode cX3_init 33 = .ok (.iconst 5, 1) := by decide +kernel
theorem dX3_init_34 : decode cX3_init 34 = .ok (.iastore, 1) := by decide +kernel
theorem dX3_init_35 : decode cX3_init 35 = .ok (.putfield 18, 3) := by decide +kernel
theorem dX3_init_38 : decode cX3_init 38 = .ok (.aload_n 0, 1) := by decide +kernel
theorem dX3_init_39 : decode cX3_init 39 = .ok (.sipush 1023, 3) := by decide +kernel
theorem dX3_init_42 : decode cX3_init 42 = .ok (.putfield 22, 3) := by decide +kernel
theorem dX3_init_45 : decode cX3_init 45 = .ok (.return_, 1) := by decide +kernel
set_option maxRecDepth 20000 in
theorem ggX3_tightnessOf_X5_at : GoodIn wsX3_tightnessOf wsX5_at := goodIn_r _ [4] (by decide +kernel) (by decide +kernel)
set_option maxRecDepth 20000 in
theorem gX3_tightnessOf_X5_at_n26 : GoodIn wsX3_tightnessOf (wsX5_at) := ggX3_tightnessOf_X5_at
theorem dX3_tightnessOf_0 : decode cX3_tightnessOf 0 = .ok (.aload_n 0, 1) := by decide +kernel
theorem dX3_tightnessOf_1 : decode cX3_tightnessOf 1 = .ok (.getfield 18, 3) := by decide +kernel
theorem dX3_tightnessOf_4 : decode cX3_tightnessOf 4 = .ok (.iload_n 1, 1) := by decide +kernel
theorem dX3_tightnessOf_5 : decode cX3_tightnessOf 5 = .ok (.invokestatic 26, 3) := by decide +kernel
theorem dX3_tightnessOf_8 : decode cX3_tightnessOf 8 = .ok (.ireturn, 1) := by decide +kernel
theorem dX3_forgetSights_0 : decode cX3_forgetSights 0 = .ok (.aload_n 0, 1) := by decide +kernel
theorem dX3_forgetSights_1 : decode cX3_forgetSights 1 = .ok (.iconst 0, 1) := by decide +kernel
theorem dX3_forgetSights_2 : decode cX3_forgetSights 2 = .ok (.putfield 30, 3) := by decide +kernel
theorem dX3_forgetSights_5 : decode cX3_forgetSights 5 = .ok (.aload_n 0, 1) := by decide +kernel
theorem dX3_forgetSights_6 : decode cX3_forgetSights 6 = .ok (.sipush 1023, 3) := by decide +kernel
theorem dX3_forgetSights_9 : decode cX3_forgetSights 9 = .ok (.putfield 22, 3) := by decide +kernel
theorem dX3_forgetSights_12 : decode cX3_forgetSights 12 = .ok (.return_, 1) := by decide +kernel
set_option maxRecDepth 20000 in
theorem ggX3_copy_X2_copy : GoodIn wsX3_copy wsX2_copy := goodIn_r _ [9, 10, 11, 12, 13, 14, 15, 16, 17, 18, 19, 29, 30, 31, 32, 33] (by decide +kernel) (by decide +kernel)
set_option maxRecDepth 20000 in
theorem gX3_copy_X2_copy : GoodIn wsX3_copy (wsV RX3 33 RX2 yX2_copy wsX2_copy) := goodIn_app (goodIn_of _ (by decide +kernel)) ggX3_copy_X2_copy
set_option maxRecDepth 20000 in
theorem ggX3_copy_X3_tightnessOf : GoodIn wsX3_copy wsX3_tightnessOf := goodIn_r _ [24, 2, 15, 16, 17, 25, 26, 27, 28] (by decide +kernel) (by decide +kernel)
set_option maxRecDepth 20000 in
theorem gX3_copy_X3_tightnessOf : GoodIn wsX3_copy (wsV RX3 37 RX3 yX3_tightnessOf wsX3_tightnessOf) := goodIn_app (goodIn_of _ (by decide +kernel)) ggX3_copy_X3_tightnessOf
set_option maxRecDepth 20000 in
theorem ggX3_copy_X5_put : GoodIn wsX3_copy wsX5_put := goodIn_r _ [19] (by decide +kernel) (by decide +kernel)
set_option maxRecDepth 20000 in
theorem gX3_copy_X5_put_n41 : GoodIn wsX3_copy (wsX5_put) := ggX3_copy_X5_put
theorem dX3_copy_0 : decode cX3_copy 0 = .ok (.aload_n 0, 1) := by decide +kernel
theorem dX3_copy_1 : decode cX3_copy 1 = .ok (.getfield 12, 3) := by decide +kernel
theorem dX3_copy_4 : decode cX3_copy 4 = .ok (.aload_n 1, 1) := by decide +kernel
theorem dX3_copy_5 : decode cX3_copy 5 = .ok (.getfield 12, 3) := by decide +kernel
theorem dX3_copy_8 : decode cX3_copy 8 = .ok (.invokevirtual 33, 3) := by decide +kernel
theorem dX3_copy_11 : decode cX3_copy 11 = .ok (.iconst 0, 1) := by decide +kernel
theorem dX3_copy_12 : decode cX3_copy 12 = .ok (.istore_n 2, 1) := by decide +kernel
theorem dX3_copy_13 : decode cX3_copy 13 = .ok (.iload_n 2, 1) := by decide +kernel
theorem dX3_copy_14 : decode cX3_copy 14 = .ok (.iconst 4, 1) := by decide +kernel
theorem dX3_copy_15 : decode cX3_copy 15 = .ok (.if_icmp .ge 22, 3) := by decide +kernel
theorem dX3_copy_18 : decode cX3_copy 18 = .ok (.aload_n 0, 1) := by decide +kernel
theorem dX3_copy_19 : decode cX3_copy 19 = .ok (.getfield 18, 3) := by decide +kernel
theorem dX3_copy_22 : decode cX3_copy 22 = .ok (.iload_n 2, 1) := by decide +kernel
theorem dX3_copy_23 : decode cX3_copy 23 = .ok (.aload_n 1, 1) := by decide +kernel
theorem dX3_copy_24 : decode cX3_copy 24 = .ok (.iload_n 2, 1) := by decide +kernel
theorem dX3_copy_25 : decode cX3_copy 25 = .ok (.invokevirtual 37, 3) := by decide +kernel
theorem dX3_copy_28 : decode cX3_copy 28 = .ok (.invokestatic 41, 3) := by decide +kernel
theorem dX3_copy_31 : decode cX3_copy 31 = .ok (.iinc 2 1, 3) := by decide +kernel
theorem dX3_copy_34 : decode cX3_copy 34 = .ok (.goto (-21), 3) := by decide +kernel
theorem dX3_copy_37 : decode cX3_copy 37 = .ok (.aload_n 0, 1) := by decide +kernel
theorem dX3_copy_38 : decode cX3_copy 38 = .ok (.aload_n 1, 1) := by decide +kernel
theorem dX3_copy_39 : decode cX3_copy 39 = .ok (.getfield 30, 3) := by decide +kernel
theorem dX3_copy_42 : decode cX3_copy 42 = .ok (.putfield 30, 3) := by decide +kernel
theorem dX3_copy_45 : decode cX3_copy 45 = .ok (.aload_n 0, 1) := by decide +kernel
theorem dX3_copy_46 : decode cX3_copy 46 = .ok (.aload_n 1, 1) := by decide +kernel
theorem dX3_copy_47 : decode cX3_copy 47 = .ok (.getfield 22, 3) := by decide +kernel
theorem dX3_copy_50 : decode cX3_copy 50 = .ok (.putfield 22, 3) := by decide +kernel
theorem dX3_copy_53 : decode cX3_copy 53 = .ok (.return_, 1) := by decide +kernel
set_option maxRecDepth 20000 in
theorem ggX4_init_X2_init : GoodIn wsX4_init wsX2_init := goodIn_r _ [9, 10, 2, 3, 11, 12, 13, 14, 15, 16, 17, 18, 19] (by decide +kernel) (by decide +kernel)
set_option maxRecDepth 20000 in
theorem gX4_init_X2_init_n11 : GoodIn wsX4_init (wsX2_init) := ggX4_init_X2_init
theorem dX4_init_0 : decode cX4_init 0 = .ok (.aload_n 0, 1) := by decide +kernel
theorem dX4_init_1 : decode cX4_init 1 = .ok (.invokespecial 3, 3) := by decide +kernel
theorem dX4_init_4 : decode cX4_init 4 = .ok (.aload_n 0, 1) := by decide +kernel
theorem dX4_init_5 : decode cX4_init 5 = .ok (.new 9, 3) := by decide +kernel
theorem dX4_init_8 : decode cX4_init 8 = .ok (.dup, 1) := by decide +kernel
theorem dX4_init_9 : decode cX4_init 9 = .ok (.invokespecial 11, 3) := by decide +kernel
theorem dX4_init_12 : decode cX4_init 12 = .ok (.putfield 12, 3) := by decide +kernel
theorem dX4_init_15 : decode cX4_init 15 = .ok (.return_, 1) := by decide +kernel
set_option maxRecDepth 20000 in
theorem ggX4_begin_X2_copy : GoodIn wsX4_begin wsX2_copy := goodIn_r _ [10, 11, 12, 13, 14, 15, 16, 17, 18, 19, 20, 26, 27, 28, 29, 30] (by decide +kernel) (by decide +kernel)
set_option maxRecDepth 20000 in
theorem gX4_begin_X2_copy : GoodIn wsX4_begin (wsV RX4 18 RX2 yX2_copy wsX2_copy) := goodIn_app (goodIn_of _ (by decide +kernel)) ggX4_begin_X2_copy
theorem dX4_begin_0 : decode cX4_begin 0 = .ok (.aload_n 0, 1) := by decide +kernel
theorem dX4_begin_1 : decode cX4_begin 1 = .ok (.getfield 12, 3) := by decide +kernel
theorem dX4_begin_4 : decode cX4_begin 4 = .ok (.aload_n 1, 1) := by decide +kernel
theorem dX4_begin_5 : decode cX4_begin 5 = .ok (.invokevirtual 18, 3) := by decide +kernel
theorem dX4_begin_8 : decode cX4_begin 8 = .ok (.aload_n 0, 1) := by decide +kernel
theorem dX4_begin_9 : decode cX4_begin 9 = .ok (.iconst 0, 1) := by decide +kernel
theorem dX4_begin_10 : decode cX4_begin 10 = .ok (.putfield 22, 3) := by decide +kernel
theorem dX4_begin_13 : decode cX4_begin 13 = .ok (.aload_n 0, 1) := by decide +kernel
theorem dX4_begin_14 : decode cX4_begin 14 = .ok (.iconst 0, 1) := by decide +kernel
theorem dX4_begin_15 : decode cX4_begin 15 = .ok (.putfield 26, 3) := by decide +kernel
theorem dX4_begin_18 : decode cX4_begin 18 = .ok (.aload_n 0, 1) := by decide +kernel
theorem dX4_begin_19 : decode cX4_begin 19 = .ok (.iconst 0, 1) := by decide +kernel
theorem dX4_begin_20 : decode cX4_begin 20 = .ok (.putfield 29, 3) := by decide +kernel
theorem dX4_begin_23 : decode cX4_begin 23 = .ok (.aload_n 0, 1) := by decide +kernel
theorem dX4_begin_24 : decode cX4_begin 24 = .ok (.iconst 0, 1) := by decide +kernel
theorem dX4_begin_25 : decode cX4_begin 25 = .ok (.putfield 32, 3) := by decide +kernel
theorem dX4_begin_28 : decode cX4_begin 28 = .ok (.return_, 1) := by decide +kernel
set_option maxRecDepth 20000 in
theorem ggX4_act_X4_reasonAgainst : GoodIn wsX4_act wsX4_reasonAgainst := goodIn_r _ [8, 3, 9, 10, 11, 12, 13, 14, 15, 16, 17, 18, 19, 20, 21, 22, 23, 24, 25, 26, 27, 28, 85, 86, 87, 88, 89, 90, 91, 92, 93, 94] (by decide +kernel) (by decide +kernel)
set_option maxRecDepth 20000 in
theorem gX4_act_X4_reasonAgainst : GoodIn wsX4_act (wsV RX4 35 RX4 yX4_reasonAgainst wsX4_reasonAgainst) := goodIn_app (goodIn_of _ (by decide +kernel)) ggX4_act_X4_reasonAgainst
set_option maxRecDepth 20000 in
theorem ggX4_act_X2_unpick : GoodIn wsX4_act wsX2_unpick := goodIn_r _ [32, 14, 33, 34, 35, 26, 36, 37, 38, 12, 39, 40, 20, 41, 27, 28, 42, 43, 44, 45, 46, 47, 48, 49, 50, 51, 52, 53, 54, 23, 24, 25, 90, 91, 92, 93, 94] (by decide +kernel) (by decide +kernel)
set_option maxRecDepth 20000 in
theorem gX4_act_X2_unpick : GoodIn wsX4_act (wsV RX4 39 RX2 yX2_unpick wsX2_unpick) := goodIn_app (goodIn_of _ (by decide +kernel)) ggX4_act_X2_unpick
set_option maxRecDepth 20000 in
theorem ggX4_act_X4_countUndone : GoodIn wsX4_act wsX4_countUndone := goodIn_r _ [58, 59, 60, 61, 62, 63, 64, 85, 86, 87, 88, 89] (by decide +kernel) (by decide +kernel)
set_option maxRecDepth 20000 in
theorem gX4_act_X4_countUndone : GoodIn wsX4_act (wsV RX4 43 RX4 yX4_countUndone wsX4_countUndone) := goodIn_app (goodIn_of _ (by decide +kernel)) ggX4_act_X4_countUndone
set_option maxRecDepth 20000 in
theorem ggX4_act_X2_eat : GoodIn wsX4_act wsX2_eat := goodIn_r _ [68, 26, 90, 91, 92, 93, 94] (by decide +kernel) (by decide +kernel)
set_option maxRecDepth 20000 in
theorem gX4_act_X2_eat : GoodIn wsX4_act (wsV RX4 47 RX2 yX2_eat wsX2_eat) := goodIn_app (goodIn_of _ (by decide +kernel)) ggX4_act_X2_eat
set_option maxRecDepth 20000 in
theorem ggX4_act_X2_mend : GoodIn wsX4_act wsX2_mend := goodIn_r _ [72, 26, 34, 42, 20, 43, 90, 91, 92, 93, 94] (by decide +kernel) (by decide +kernel)
set_option maxRecDepth 20000 in
theorem gX4_act_X2_mend : GoodIn wsX4_act (wsV RX4 50 RX2 yX2_mend wsX2_mend) := goodIn_app (goodIn_of _ (by decide +kernel)) ggX4_act_X2_mend
set_option maxRecDepth 20000 in
theorem ggX4_act_X2_knit : GoodIn wsX4_act wsX2_knit := goodIn_r _ [76, 77, 78, 79, 12, 80, 14, 33, 26, 40, 20, 41, 27, 28, 81, 82, 83, 84, 34, 35, 42, 43, 90, 91, 92, 93, 94] (by decide +kernel) (by decide +kernel)
set_option maxRecDepth 20000 in
theorem gX4_act_X2_knit : GoodIn wsX4_act (wsV RX4 54 RX2 yX2_knit wsX2_knit) := goodIn_app (goodIn_of _ (by decide +kernel)) ggX4_act_X2_knit
theorem dX4_act_0 : decode cX4_act 0 = .ok (.aload_n 0, 1) := by decide +kernel
theorem dX4_act_1 : decode cX4_act 1 = .ok (.aload_n 0, 1) := by decide +kernel
theorem dX4_act_2 : decode cX4_act 2 = .ok (.iload_n 1, 1) := by decide +kernel
theorem dX4_act_3 : decode cX4_act 3 = .ok (.iload_n 2, 1) := by decide +kernel
theorem dX4_act_4 : decode cX4_act 4 = .ok (.invokevirtual 35, 3) := by decide +kernel
theorem dX4_act_7 : decode cX4_act 7 = .ok (.putfield 26, 3) := by decide +kernel
theorem dX4_act_10 : decode cX4_act 10 = .ok (.aload_n 0, 1) := by decide +kernel
theorem dX4_act_11 : decode cX4_act 11 = .ok (.getfield 26, 3) := by decide +kernel
theorem dX4_act_14 : decode cX4_act 14 = .ok (.ifCond .eq 5, 3) := by decide +kernel
theorem dX4_act_17 : decode cX4_act 17 = .ok (.iconst 0, 1) := by decide +kernel
theorem dX4_act_18 : decode cX4_act 18 = .ok (.ireturn, 1) := by decide +kernel
theorem dX4_act_19 : decode cX4_act 19 = .ok (.aload_n 0, 1) := by decide +kernel
theorem dX4_act_20 : decode cX4_act 20 = .ok (.dup, 1) := by decide +kernel
theorem dX4_act_21 : decode cX4_act 21 = .ok (.getfield 22, 3) := by decide +kernel
theorem dX4_act_24 : decode cX4_act 24 = .ok (.iconst 1, 1) := by decide +kernel
theorem dX4_act_25 : decode cX4_act 25 = .ok (.iadd, 1) := by decide +kernel
theorem dX4_act_26 : decode cX4_act 26 = .ok (.putfield 22, 3) := by decide +kernel
theorem dX4_act_29 : decode cX4_act 29 = .ok (.iload_n 1, 1) := by decide +kernel
theorem dX4_act_30 : decode cX4_act 30 = .ok (.tableswitch 65 0 2 #[26, 41, 52], 26) := by decide +kernel
theorem dX4_act_56 : decode cX4_act 56 = .ok (.aload_n 0, 1) := by decide +kernel
theorem dX4_act_57 : decode cX4_act 57 = .ok (.aload_n 0, 1) := by decide +kernel
theorem dX4_act_58 : decode cX4_act 58 = .ok (.getfield 12, 3) := by decide +kernel
theorem dX4_act_61 : decode cX4_act 61 = .ok (.iload_n 2, 1) := by decide +kernel
theorem dX4_act_62 : decode cX4_act 62 = .ok (.invokevirtual 39, 3) := by decide +kernel
theorem dX4_act_65 : decode cX4_act 65 = .ok (.invokevirtual 43, 3) := by decide +kernel
theorem dX4_act_68 : decode cX4_act 68 = .ok (.goto 37, 3) := by decide +kernel
theorem dX4_act_71 : decode cX4_act 71 = .ok (.aload_n 0, 1) := by decide +kernel
theorem dX4_act_72 : decode cX4_act 72 = .ok (.getfield 12, 3) := by decide +kernel
theorem dX4_act_75 : decode cX4_act 75 = .ok (.iload_n 2, 1) := by decide +kernel
theorem dX4_act_76 : decode cX4_act 76 = .ok (.invokevirtual 47, 3) := by decide +kernel
theorem dX4_act_79 : decode cX4_act 79 = .ok (.goto 26, 3) := by decide +kernel
theorem dX4_act_82 : decode cX4_act 82 = .ok (.aload_n 0, 1) := by decide +kernel
theorem dX4_act_83 : decode cX4_act 83 = .ok (.getfield 12, 3) := by decide +kernel
theorem dX4_act_86 : decode cX4_act 86 = .ok (.iload_n 2, 1) := by decide +kernel
theorem dX4_act_87 : decode cX4_act 87 = .ok (.iload 4, 2) := by decide +kernel
theorem dX4_act_89 : decode cX4_act 89 = .ok (.invokevirtual 50, 3) := by decide +kernel
theorem dX4_act_92 : decode cX4_act 92 = .ok (.goto 13, 3) := by decide +kernel
theorem dX4_act_95 : decode cX4_act 95 = .ok (.aload_n 0, 1) := by decide +kernel
theorem dX4_act_96 : decode cX4_act 96 = .ok (.getfield 12, 3) := by decide +kernel
theorem dX4_act_99 : decode cX4_act 99 = .ok (.iload_n 3, 1) := by decide +kernel
theorem dX4_act_100 : decode cX4_act 100 = .ok (.iload 4, 2) := by decide +kernel
theorem dX4_act_102 : decode cX4_act 102 = .ok (.invokevirtual 54, 3) := by decide +kernel
theorem dX4_act_105 : decode cX4_act 105 = .ok (.iconst 1, 1) := by decide +kernel
theorem dX4_act_106 : decode cX4_act 106 = .ok (.ireturn, 1) := by decide +kernel
set_option maxRecDepth 20000 in
theorem ggX4_reasonAgainst_X2_isFull : GoodIn wsX4_reasonAgainst wsX2_isFull := goodIn_r _ [6, 7, 27, 28, 29, 30, 31] (by decide +kernel) (by decide +kernel)
set_option maxRecDepth 20000 in
theorem gX4_reasonAgainst_X2_isFull : GoodIn wsX4_reasonAgainst (wsV RX4 57 RX2 yX2_isFull wsX2_isFull) := goodIn_app (goodIn_of _ (by decide +kernel)) ggX4_reasonAgainst_X2_isFull
set_option maxRecDepth 20000 in
theorem ggX4_reasonAgainst_X2_has : GoodIn wsX4_reasonAgainst wsX2_has := goodIn_r _ [11, 7, 12, 13, 14, 27, 28, 29, 30, 31] (by decide +kernel) (by decide +kernel)
set_option maxRecDepth 20000 in
theorem gX4_reasonAgainst_X2_has : GoodIn wsX4_reasonAgainst (wsV RX4 61 RX2 yX2_has wsX2_has) := goodIn_app (goodIn_of _ (by decide +kernel)) ggX4_reasonAgainst_X2_has
set_option maxRecDepth 20000 in
theorem ggX4_reasonAgainst_X2_isEaten : GoodIn wsX4_reasonAgainst wsX2_isEaten := goodIn_r _ [18, 19, 20, 13, 21, 27, 28, 29, 30, 31] (by decide +kernel) (by decide +kernel)
set_option maxRecDepth 20000 in
theorem gX4_reasonAgainst_X2_isEaten : GoodIn wsX4_reasonAgainst (wsV RX4 65 RX2 yX2_isEaten wsX2_isEaten) := goodIn_app (goodIn_of _ (by decide +kernel)) ggX4_reasonAgainst_X2_isEaten
theorem dX4_reasonAgainst_0 : decode cX4_reasonAgainst 0 = .ok (.iload_n 1, 1) := by decide +kernel
theorem dX4_reasonAgainst_1 : decode cX4_reasonAgainst 1 = .ok (.iconst 3, 1) := by decide +kernel
theorem dX4_reasonAgainst_2 : decode cX4_reasonAgainst 2 = .ok (.if_icmp .ne 19, 3) := by decide +kernel
theorem dX4_reasonAgainst_5 : decode cX4_reasonAgainst 5 = .ok (.aload_n 0, 1) := by decide +kernel
theorem dX4_reasonAgainst_6 : decode cX4_reasonAgainst 6 = .ok (.getfield 12, 3) := by decide +kernel
theorem dX4_reasonAgainst_9 : decode cX4_reasonAgainst 9 = .ok (.invokevirtual 57, 3) := by decide +kernel
theorem dX4_reasonAgainst_12 : decode cX4_reasonAgainst 12 = .ok (.ifCond .eq 7, 3) := by decide +kernel
theorem dX4_reasonAgainst_15 : decode cX4_reasonAgainst 15 = .ok (.iconst 2, 1) := by decide +kernel
theorem dX4_reasonAgainst_16 : decode cX4_reasonAgainst 16 = .ok (.goto 4, 3) := by decide +kernel
theorem dX4_reasonAgainst_19 : decode cX4_reasonAgainst 19 = .ok (.iconst 0, 1) := by decide +kernel
theorem dX4_reasonAgainst_20 : decode cX4_reasonAgainst 20 = .ok (.ireturn, 1) := by decide +kernel
theorem dX4_reasonAgainst_21 : decode cX4_reasonAgainst 21 = .ok (.aload_n 0, 1) := by decide +kernel
theorem dX4_reasonAgainst_22 : decode cX4_reasonAgainst 22 = .ok (.getfield 12, 3) := by decide +kernel
theorem dX4_reasonAgainst_25 : decode cX4_reasonAgainst 25 = .ok (.iload_n 2, 1) := by decide +kernel
theorem dX4_reasonAgainst_26 : decode cX4_reasonAgainst 26 = .ok (.invokevirtual 61, 3) := by decide +kernel
theorem dX4_reasonAgainst_29 : decode cX4_reasonAgainst 29 = .ok (.ifCond .ne 5, 3) := by decide +kernel
theorem dX4_reasonAgainst_32 : decode cX4_reasonAgainst 32 = .ok (.iconst 1, 1) := by decide +kernel
theorem dX4_reasonAgainst_33 : decode cX4_reasonAgainst 33 = .ok (.ireturn, 1) := by decide +kernel
theorem dX4_reasonAgainst_34 : decode cX4_reasonAgainst 34 = .ok (.iload_n 1, 1) := by decide +kernel
theorem dX4_reasonAgainst_35 : decode cX4_reasonAgainst 35 = .ok (.ifCond .ne 5, 3) := by decide +kernel
theorem dX4_reasonAgainst_38 : decode cX4_reasonAgainst 38 = .ok (.iconst 0, 1) := by decide +kernel
theorem dX4_reasonAgainst_39 : decode cX4_reasonAgainst 39 = .ok (.ireturn, 1) := by decide +kernel
theorem dX4_reasonAgainst_40 : decode cX4_reasonAgainst 40 = .ok (.aload_n 0, 1) := by decide +kernel
theorem dX4_reasonAgainst_41 : decode cX4_reasonAgainst 41 = .ok (.getfield 12, 3) := by decide +kernel
theorem dX4_reasonAgainst_44 : decode cX4_reasonAgainst 44 = .ok (.iload_n 2, 1) := by decide +kernel
theorem dX4_reasonAgainst_45 : decode cX4_reasonAgainst 45 = .ok (.invokevirtual 65, 3) := by decide +kernel
theorem dX4_reasonAgainst_48 : decode cX4_reasonAgainst 48 = .ok (.iload_n 1, 1) := by decide +kernel
theorem dX4_reasonAgainst_49 : decode cX4_reasonAgainst 49 = .ok (.iconst 1, 1) := by decide +kernel
theorem dX4_reasonAgainst_50 : decode cX4_reasonAgainst 50 = .ok (.if_icmp .ne 7, 3) := by decide +kernel
theorem dX4_reasonAgainst_53 : decode cX4_reasonAgainst 53 = .ok (.iconst 1, 1) := by decide +kernel
theorem dX4_reasonAgainst_54 : decode cX4_reasonAgainst 54 = .ok (.goto 4, 3) := by decide +kernel
theorem dX4_reasonAgainst_57 : decode cX4_reasonAgainst 57 = .ok (.iconst 0, 1) := by decide +kernel
theorem dX4_reasonAgainst_58 : decode cX4_reasonAgainst 58 = .ok (.if_icmp .ne 7, 3) := by decide +kernel
theorem dX4_reasonAgainst_61 : decode cX4_reasonAgainst 61 = .ok (.iconst 3, 1) := by decide +kernel
theorem dX4_reasonAgainst_62 : decode cX4_reasonAgainst 62 = .ok (.goto 4, 3) := by decide +kernel
theorem dX4_reasonAgainst_65 : decode cX4_reasonAgainst 65 = .ok (.iconst 0, 1) := by decide +kernel
theorem dX4_reasonAgainst_66 : decode cX4_reasonAgainst 66 = .ok (.ireturn, 1) := by decide +kernel
theorem dX4_countUndone_0 : decode cX4_countUndone 0 = .ok (.aload_n 0, 1) := by decide +kernel
theorem dX4_countUndone_1 : decode cX4_countUndone 1 = .ok (.aload_n 0, 1) := by decide +kernel
theorem dX4_countUndone_2 : decode cX4_countUndone 2 = .ok (.getfield 29, 3) := by decide +kernel
theorem dX4_countUndone_5 : decode cX4_countUndone 5 = .ok (.iload_n 1, 1) := by decide +kernel
theorem dX4_countUndone_6 : decode cX4_countUndone 6 = .ok (.invokestatic 68, 3) := by decide +kernel
theorem dX4_countUndone_9 : decode cX4_countUndone 9 = .ok (.putfield 29, 3) := by decide +kernel
theorem dX4_countUndone_12 : decode cX4_countUndone 12 = .ok (.aload_n 0, 1) := by decide +kernel
theorem dX4_countUndone_13 : decode cX4_countUndone 13 = .ok (.dup, 1) := by decide +kernel
theorem dX4_countUndone_14 : decode cX4_countUndone 14 = .ok (.getfield 32, 3) := by decide +kernel
theorem dX4_countUndone_17 : decode cX4_countUndone 17 = .ok (.iload_n 1, 1) := by decide +kernel
theorem dX4_countUndone_18 : decode cX4_countUndone 18 = .ok (.iadd, 1) := by decide +kernel
theorem dX4_countUndone_19 : decode cX4_countUndone 19 = .ok (.putfield 32, 3) := by decide +kernel
theorem dX4_countUndone_22 : decode cX4_countUndone 22 = .ok (.return_, 1) := by decide +kernel
set_option maxRecDepth 20000 in
theorem ggX5_init_X3_init : GoodIn wsX5_init wsX3_init := goodIn_r _ [25, 26, 2, 3, 27, 28, 29, 30, 22, 31, 32, 33, 34, 35, 36, 37, 38, 72, 73, 74, 75, 76, 52, 53, 54, 55] (by decide +kernel) (by decide +kernel)
set_option maxRecDepth 20000 in
theorem gX5_init_X3_init_n9 : GoodIn wsX5_init (wsX3_init) := ggX5_init_X3_init
set_option maxRecDepth 20000 in
theorem ggX5_init_X1_init : GoodIn wsX5_init wsX1_init := goodIn_r _ [40, 41, 2, 3, 22, 42, 64, 65] (by decide +kernel) (by decide +kernel)
set_option maxRecDepth 20000 in
theorem gX5_init_X1_init_n24 : GoodIn wsX5_init (wsX1_init) := ggX5_init_X1_init
set_option maxRecDepth 20000 in
theorem ggX5_init_X4_init : GoodIn wsX5_init wsX4_init := goodIn_r _ [44, 45, 2, 3, 46, 28, 29, 47, 33, 34, 35, 22, 36, 37, 38, 72, 73, 74, 75, 76, 66, 67, 68, 69, 70] (by decide +kernel) (by decide +kernel)
set_option maxRecDepth 20000 in
theorem gX5_init_X4_init_n31 : GoodIn wsX5_init (wsX4_init) := ggX5_init_X4_init
set_option maxRecDepth 20000 in
theorem ggX5_init_X0_init : GoodIn wsX5_init wsX0_init := goodIn_r _ [49, 50, 2, 3, 22, 51, 71] (by decide +kernel) (by decide +kernel)
set_option maxRecDepth 20000 in
theorem gX5_init_X0_init_n38 : GoodIn wsX5_init (wsX0_init) := ggX5_init_X0_init
end
section
theorem dX5_init_0 : decode cX5_init 0 = .ok (.aload_n 0, 1) := by decide +kernel
theorem dX5_init_1 : decode cX5_init 1 = .ok (.invokespecial 1, 3) := by decide +kernel
theorem dX5_init_4 : decode cX5_init 4 = .ok (.aload_n 0, 1) := by decide +kernel
theorem dX5_init_5 : decode cX5_init 5 = .ok (.new 7, 3) := by decide +kernel
theorem dX5_init_8 : decode cX5_init 8 = .ok (.dup, 1) := by decide +kernel
theorem dX5_init_9 : decode cX5_init 9 = .ok (.invokespecial 9, 3) := by decide +kernel
theorem dX5_init_12 : decode cX5_init 12 = .ok (.putfield 10, 3) := by decide +kernel
theorem dX5_init_15 : decode cX5_init 15 = .ok (.aload_n 0, 1) := by decide +kernel
theorem dX5_init_16 : decode cX5_init 16 = .ok (.new 7, 3) := by decide +kernel
theorem dX5_init_19 : decode cX5_init 19 = .ok (.dup, 1) := by decide +kernel
theorem dX5_init_20 : decode cX5_init 20 = .ok (.invokespecial 9, 3) := by decide +kernel
theorem dX5_init_23 : decode cX5_init 23 = .ok (.putfield 16, 3) := by decide +kernel
theorem dX5_init_26 : decode cX5_init 26 = .ok (.aload_n 0, 1) := by decide +kernel
theorem dX5_init_27 : decode cX5_init 27 = .ok (.new 7, 3) := by decide +kernel
theorem dX5_init_30 : decode cX5_init 30 = .ok (.dup, 1) := by decide +kernel
theorem dX5_init_31 : decode cX5_init 31 = .ok (.invokespecial 9, 3) := by decide +kernel
theorem dX5_init_34 : decode cX5_init 34 = .ok (.putfield 19, 3) := by decide +kernel
theorem dX5_init_37 : decode cX5_init 37 = .ok (.aload_n 0, 1) := by decide +kernel
theorem dX5_init_38 : decode cX5_init 38 = .ok (.new 22, 3) := by decide +kernel
theorem dX5_init_41 : decode cX5_init 41 = .ok (.dup, 1) := by decide +kernel
theorem dX5_init_42 : decode cX5_init 42 = .ok (.invokespecial 24, 3) := by decide +kernel
theorem dX5_init_45 : decode cX5_init 45 = .ok (.putfield 25, 3) := by decide +kernel
theorem dX5_init_48 : decode cX5_init 48 = .ok (.aload_n 0, 1) := by decide +kernel
theorem dX5_init_49 : decode cX5_init 49 = .ok (.new 29, 3) := by decide +kernel
theorem dX5_init_52 : decode cX5_init 52 = .ok (.dup, 1) := by decide +kernel
theorem dX5_init_53 : decode cX5_init 53 = .ok (.invokespecial 31, 3) := by decide +kernel
theorem dX5_init_56 : decode cX5_init 56 = .ok (.putfield 32, 3) := by decide +kernel
theorem dX5_init_59 : decode cX5_init 59 = .ok (.aload_n 0, 1) := by decide +kernel
theorem dX5_init_60 : decode cX5_init 60 = .ok (.new 36, 3) := by decide +kernel
theorem dX5_init_63 : decode cX5_init 63 = .ok (.dup, 1) := by decide +kernel
theorem dX5_init_64 : decode cX5_init 64 = .ok (.invokespecial 38, 3) := by decide +kernel
theorem dX5_init_67 : decode cX5_init 67 = .ok (.putfield 39, 3) := by decide +kernel
theorem dX5_init_70 : decode cX5_init 70 = .ok (.aload_n 0, 1) := by decide +kernel
theorem dX5_init_71 : decode cX5_init 71 = .ok (.bipush 25, 2) := by decide +kernel
theorem dX5_init_73 : decode cX5_init 73 = .ok (.newarray .int, 2) := by decide +kernel
theorem dX5_init_75 : decode cX5_init 75 = .ok (.putfield 43, 3) := by decide +kernel
theorem dX5_init_78 : decode cX5_init 78 = .ok (.return_, 1) := by decide +kernel
set_option maxRecDepth 20000 in
theorem ggX5_stitch_X2_has : GoodIn wsX5_stitch wsX2_has := goodIn_r _ [8, 9, 10, 11, 12, 39, 40, 41, 42, 43] (by decide +kernel) (by decide +kernel)
set_option maxRecDepth 20000 in
theorem gX5_stitch_X2_has : GoodIn wsX5_stitch (wsV RX5 51 RX2 yX2_has wsX2_has) := goodIn_app (goodIn_of _ (by decide +kernel)) ggX5_stitch_X2_has
set_option maxRecDepth 20000 in
theorem ggX5_stitch_X5_isBelow : GoodIn wsX5_stitch wsX5_isBelow := goodIn_r _ [12] (by decide +kernel) (by decide +kernel)
set_option maxRecDepth 20000 in
theorem gX5_stitch_X5_isBelow : GoodIn wsX5_stitch (va_wsS RX5 57 yX5_isBelow wsX5_isBelow) := goodIn_app (goodIn_of _ (by decide +kernel)) ggX5_stitch_X5_isBelow
set_option maxRecDepth 20000 in
theorem ggX5_stitch_X2_isFull : GoodIn wsX5_stitch wsX2_isFull := goodIn_r _ [17, 9, 39, 40, 41, 42, 43] (by decide +kernel) (by decide +kernel)
set_option maxRecDepth 20000 in
theorem gX5_stitch_X2_isFull : GoodIn wsX5_stitch (wsV RX5 61 RX2 yX2_isFull wsX2_isFull) := goodIn_app (goodIn_of _ (by decide +kernel)) ggX5_stitch_X2_isFull
set_option maxRecDepth 20000 in
theorem ggX5_stitch_X2_append : GoodIn wsX5_stitch wsX2_append := goodIn_r _ [21, 22, 9, 23, 24, 25, 11, 26, 39, 40, 41, 42, 43] (by decide +kernel) (by decide +kernel)
set_option maxRecDepth 20000 in
theorem gX5_stitch_X2_append : GoodIn wsX5_stitch (wsV RX5 65 RX2 yX2_append wsX2_append) := goodIn_app (goodIn_of _ (by decide +kernel)) ggX5_stitch_X2_append
theorem dX5_stitch_0 : decode cX5_stitch 0 = .ok (.aload_n 0, 1) := by decide +kernel
theorem dX5_stitch_1 : decode cX5_stitch 1 = .ok (.getfield 10, 3) := by decide +kernel
theorem dX5_stitch_4 : decode cX5_stitch 4 = .ok (.getfield 47, 3) := by decide +kernel
theorem dX5_stitch_7 : decode cX5_stitch 7 = .ok (.astore 4, 2) := by decide +kernel
theorem dX5_stitch_9 : decode cX5_stitch 9 = .ok (.iload_n 3, 1) := by decide +kernel
theorem dX5_stitch_10 : decode cX5_stitch 10 = .ok (.iconst (-1), 1) := by decide +kernel
theorem dX5_stitch_11 : decode cX5_stitch 11 = .ok (.if_icmp .eq 14, 3) := by decide +kernel
theorem dX5_stitch_14 : decode cX5_stitch 14 = .ok (.aload 4, 2) := by decide +kernel
theorem dX5_stitch_16 : decode cX5_stitch 16 = .ok (.iload_n 3, 1) := by decide +kernel
theorem dX5_stitch_17 : decode cX5_stitch 17 = .ok (.invokevirtual 51, 3) := by decide +kernel
theorem dX5_stitch_20 : decode cX5_stitch 20 = .ok (.ifCond .ne 5, 3) := by decide +kernel
theorem dX5_stitch_23 : decode cX5_stitch 23 = .ok (.iconst (-1), 1) := by decide +kernel
theorem dX5_stitch_24 : decode cX5_stitch 24 = .ok (.ireturn, 1) := by decide +kernel
theorem dX5_stitch_25 : decode cX5_stitch 25 = .ok (.iload_n 1, 1) := by decide +kernel
theorem dX5_stitch_26 : decode cX5_stitch 26 = .ok (.iconst 4, 1) := by decide +kernel
theorem dX5_stitch_27 : decode cX5_stitch 27 = .ok (.invokestatic 57, 3) := by decide +kernel
theorem dX5_stitch_30 : decode cX5_stitch 30 = .ok (.ifCond .eq 12, 3) := by decide +kernel
theorem dX5_stitch_33 : decode cX5_stitch 33 = .ok (.iload_n 2, 1) := by decide +kernel
theorem dX5_stitch_34 : decode cX5_stitch 34 = .ok (.bipush 10, 2) := by decide +kernel
theorem dX5_stitch_36 : decode cX5_stitch 36 = .ok (.invokestatic 57, 3) := by decide +kernel
theorem dX5_stitch_39 : decode cX5_stitch 39 = .ok (.ifCond .ne 6, 3) := by decide +kernel
theorem dX5_stitch_42 : decode cX5_stitch 42 = .ok (.bipush (-2), 2) := by decide +kernel
theorem dX5_stitch_44 : decode cX5_stitch 44 = .ok (.ireturn, 1) := by decide +kernel
theorem dX5_stitch_45 : decode cX5_stitch 45 = .ok (.aload 4, 2) := by decide +kernel
theorem dX5_stitch_47 : decode cX5_stitch 47 = .ok (.invokevirtual 61, 3) := by decide +kernel
theorem dX5_stitch_50 : decode cX5_stitch 50 = .ok (.ifCond .eq 6, 3) := by decide +kernel
theorem dX5_stitch_53 : decode cX5_stitch 53 = .ok (.bipush (-4), 2) := by decide +kernel
theorem dX5_stitch_55 : decode cX5_stitch 55 = .ok (.ireturn, 1) := by decide +kernel
theorem dX5_stitch_56 : decode cX5_stitch 56 = .ok (.aload 4, 2) := by decide +kernel
theorem dX5_stitch_58 : decode cX5_stitch 58 = .ok (.iload_n 1, 1) := by decide +kernel
theorem dX5_stitch_59 : decode cX5_stitch 59 = .ok (.iload_n 2, 1) := by decide +kernel
theorem dX5_stitch_60 : decode cX5_stitch 60 = .ok (.iload_n 3, 1) := by decide +kernel
theorem dX5_stitch_61 : decode cX5_stitch 61 = .ok (.invokevirtual 65, 3) := by decide +kernel
theorem dX5_stitch_64 : decode cX5_stitch 64 = .ok (.aload 4, 2) := by decide +kernel
theorem dX5_stitch_66 : decode cX5_stitch 66 = .ok (.getfield 69, 3) := by decide +kernel
theorem dX5_stitch_69 : decode cX5_stitch 69 = .ok (.ireturn, 1) := by decide +kernel
set_option maxRecDepth 20000 in
theorem ggX5_cast_X2_clear : GoodIn wsX5_cast wsX2_clear := goodIn_r _ [8, 9, 10, 23, 24, 25, 26, 27] (by decide +kernel) (by decide +kernel)
set_option maxRecDepth 20000 in
theorem gX5_cast_X2_clear : GoodIn wsX5_cast (wsV RX5 73 RX2 yX2_clear wsX2_clear) := goodIn_app (goodIn_of _ (by decide +kernel)) ggX5_cast_X2_clear
theorem dX5_cast_0 : decode cX5_cast 0 = .ok (.aload_n 0, 1) := by decide +kernel
theorem dX5_cast_1 : decode cX5_cast 1 = .ok (.getfield 10, 3) := by decide +kernel
theorem dX5_cast_4 : decode cX5_cast 4 = .ok (.getfield 47, 3) := by decide +kernel
theorem dX5_cast_7 : decode cX5_cast 7 = .ok (.getfield 69, 3) := by decide +kernel
theorem dX5_cast_10 : decode cX5_cast 10 = .ok (.istore_n 1, 1) := by decide +kernel
theorem dX5_cast_11 : decode cX5_cast 11 = .ok (.aload_n 0, 1) := by decide +kernel
theorem dX5_cast_12 : decode cX5_cast 12 = .ok (.getfield 10, 3) := by decide +kernel
theorem dX5_cast_15 : decode cX5_cast 15 = .ok (.getfield 47, 3) := by decide +kernel
theorem dX5_cast_18 : decode cX5_cast 18 = .ok (.invokevirtual 73, 3) := by decide +kernel
theorem dX5_cast_21 : decode cX5_cast 21 = .ok (.iload_n 1, 1) := by decide +kernel
theorem dX5_cast_22 : decode cX5_cast 22 = .ok (.ireturn, 1) := by decide +kernel
set_option maxRecDepth 20000 in
theorem ggX5_knitter_X5_isBelow : GoodIn wsX5_knitter wsX5_isBelow := goodIn_r _ [6] (by decide +kernel) (by decide +kernel)
set_option maxRecDepth 20000 in
theorem gX5_knitter_X5_isBelow : GoodIn wsX5_knitter (va_wsS RX5 57 yX5_isBelow wsX5_isBelow) := goodIn_app (goodIn_of _ (by decide +kernel)) ggX5_knitter_X5_isBelow
set_option maxRecDepth 20000 in
theorem ggX5_knitter_X3_tightnessOf : GoodIn wsX5_knitter wsX3_tightnessOf := goodIn_r _ [11, 12, 13, 5, 14, 26, 27, 28, 29] (by decide +kernel) (by decide +kernel)
set_option maxRecDepth 20000 in
theorem gX5_knitter_X3_tightnessOf : GoodIn wsX5_knitter (wsV RX5 76 RX3 yX3_tightnessOf wsX3_tightnessOf) := goodIn_app (goodIn_of _ (by decide +kernel)) ggX5_knitter_X3_tightnessOf
set_option maxRecDepth 20000 in
theorem ggX5_knitter_X5_put : GoodIn wsX5_knitter wsX5_put := goodIn_r _ [17] (by decide +kernel) (by decide +kernel)
set_option maxRecDepth 20000 in
theorem gX5_knitter_X5_put : GoodIn wsX5_knitter (va_wsS RX5 83 yX5_put wsX5_put) := goodIn_app (goodIn_of _ (by decide +kernel)) ggX5_knitter_X5_put
theorem dX5_knitter_0 : decode cX5_knitter 0 = .ok (.iload_n 1, 1) := by decide +kernel
theorem dX5_knitter_1 : decode cX5_knitter 1 = .ok (.iconst 4, 1) := by decide +kernel
theorem dX5_knitter_2 : decode cX5_knitter 2 = .ok (.invokestatic 57, 3) := by decide +kernel
theorem dX5_knitter_5 : decode cX5_knitter 5 = .ok (.ifCond .ne 5, 3) := by decide +kernel
theorem dX5_knitter_8 : decode cX5_knitter 8 = .ok (.iconst (-1), 1) := by decide +kernel
theorem dX5_knitter_9 : decode cX5_knitter 9 = .ok (.ireturn, 1) := by decide +kernel
theorem dX5_knitter_10 : decode cX5_knitter 10 = .ok (.iload_n 2, 1) := by decide +kernel
theorem dX5_knitter_11 : decode cX5_knitter 11 = .ok (.bipush 10, 2) := by decide +kernel
theorem dX5_knitter_13 : decode cX5_knitter 13 = .ok (.invokestatic 57, 3) := by decide +kernel
theorem dX5_knitter_16 : decode cX5_knitter 16 = .ok (.ifCond .ne 6, 3) := by decide +kernel
theorem dX5_knitter_19 : decode cX5_knitter 19 = .ok (.bipush (-2), 2) := by decide +kernel
theorem dX5_knitter_21 : decode cX5_knitter 21 = .ok (.ireturn, 1) := by decide +kernel
theorem dX5_knitter_22 : decode cX5_knitter 22 = .ok (.aload_n 0, 1) := by decide +kernel
theorem dX5_knitter_23 : decode cX5_knitter 23 = .ok (.getfield 10, 3) := by decide +kernel
theorem dX5_knitter_26 : decode cX5_knitter 26 = .ok (.iload_n 1, 1) := by decide +kernel
theorem dX5_knitter_27 : decode cX5_knitter 27 = .ok (.invokevirtual 76, 3) := by decide +kernel
theorem dX5_knitter_30 : decode cX5_knitter 30 = .ok (.istore_n 3, 1) := by decide +kernel
theorem dX5_knitter_31 : decode cX5_knitter 31 = .ok (.aload_n 0, 1) := by decide +kernel
theorem dX5_knitter_32 : decode cX5_knitter 32 = .ok (.getfield 10, 3) := by decide +kernel
theorem dX5_knitter_35 : decode cX5_knitter 35 = .ok (.getfield 80, 3) := by decide +kernel
theorem dX5_knitter_38 : decode cX5_knitter 38 = .ok (.iload_n 1, 1) := by decide +kernel
theorem dX5_knitter_39 : decode cX5_knitter 39 = .ok (.iload_n 2, 1) := by decide +kernel
theorem dX5_knitter_40 : decode cX5_knitter 40 = .ok (.invokestatic 83, 3) := by decide +kernel
theorem dX5_knitter_43 : decode cX5_knitter 43 = .ok (.iload_n 3, 1) := by decide +kernel
theorem dX5_knitter_44 : decode cX5_knitter 44 = .ok (.ireturn, 1) := by decide +kernel
set_option maxRecDepth 20000 in
theorem ggX5_say_X1_append : GoodIn wsX5_say wsX1_append := goodIn_r _ [7, 8, 9, 10, 11, 12, 21, 22] (by decide +kernel) (by decide +kernel)
set_option maxRecDepth 20000 in
theorem gX5_say_X1_append : GoodIn wsX5_say (wsV RX5 90 RX1 yX1_append wsX1_append) := goodIn_app (goodIn_of _ (by decide +kernel)) ggX5_say_X1_append
theorem dX5_say_0 : decode cX5_say 0 = .ok (.iload_n 1, 1) := by decide +kernel
theorem dX5_say_1 : decode cX5_say 1 = .ok (.bipush 33, 2) := by decide +kernel
theorem dX5_say_3 : decode cX5_say 3 = .ok (.if_icmp .lt 9, 3) := by decide +kernel
theorem dX5_say_6 : decode cX5_say 6 = .ok (.iload_n 1, 1) := by decide +kernel
theorem dX5_say_7 : decode cX5_say 7 = .ok (.bipush 126, 2) := by decide +kernel
theorem dX5_say_9 : decode cX5_say 9 = .ok (.if_icmp .le 6, 3) := by decide +kernel
theorem dX5_say_12 : decode cX5_say 12 = .ok (.bipush (-2), 2) := by decide +kernel
theorem dX5_say_14 : decode cX5_say 14 = .ok (.ireturn, 1) := by decide +kernel
theorem dX5_say_15 : decode cX5_say 15 = .ok (.aload_n 0, 1) := by decide +kernel
theorem dX5_say_16 : decode cX5_say 16 = .ok (.getfield 25, 3) := by decide +kernel
theorem dX5_say_19 : decode cX5_say 19 = .ok (.getfield 87, 3) := by decide +kernel
theorem dX5_say_22 : decode cX5_say 22 = .ok (.bipush 60, 2) := by decide +kernel
theorem dX5_say_24 : decode cX5_say 24 = .ok (.if_icmp .lt 6, 3) := by decide +kernel
theorem dX5_say_27 : decode cX5_say 27 = .ok (.bipush (-4), 2) := by decide +kernel
theorem dX5_say_29 : decode cX5_say 29 = .ok (.ireturn, 1) := by decide +kernel
theorem dX5_say_30 : decode cX5_say 30 = .ok (.aload_n 0, 1) := by decide +kernel
theorem dX5_say_31 : decode cX5_say 31 = .ok (.getfield 25, 3) := by decide +kernel
theorem dX5_say_34 : decode cX5_say 34 = .ok (.iload_n 1, 1) := by decide +kernel
theorem dX5_say_35 : decode cX5_say 35 = .ok (.invokevirtual 90, 3) := by decide +kernel
theorem dX5_say_38 : decode cX5_say 38 = .ok (.aload_n 0, 1) := by decide +kernel
theorem dX5_say_39 : decode cX5_say 39 = .ok (.getfield 25, 3) := by decide +kernel
theorem dX5_say_42 : decode cX5_say 42 = .ok (.getfield 87, 3) := by decide +kernel
theorem dX5_say_45 : decode cX5_say 45 = .ok (.ireturn, 1) := by decide +kernel
theorem dX5_wipe_0 : decode cX5_wipe 0 = .ok (.aload_n 0, 1) := by decide +kernel
theorem dX5_wipe_1 : decode cX5_wipe 1 = .ok (.getfield 25, 3) := by decide +kernel
theorem dX5_wipe_4 : decode cX5_wipe 4 = .ok (.getfield 87, 3) := by decide +kernel
theorem dX5_wipe_7 : decode cX5_wipe 7 = .ok (.istore_n 1, 1) := by decide +kernel
theorem dX5_wipe_8 : decode cX5_wipe 8 = .ok (.aload_n 0, 1) := by decide +kernel
theorem dX5_wipe_9 : decode cX5_wipe 9 = .ok (.getfield 25, 3) := by decide +kernel
theorem dX5_wipe_12 : decode cX5_wipe 12 = .ok (.iconst 0, 1) := by decide +kernel
theorem dX5_wipe_13 : decode cX5_wipe 13 = .ok (.putfield 87, 3) := by decide +kernel
theorem dX5_wipe_16 : decode cX5_wipe 16 = .ok (.iload_n 1, 1) := by decide +kernel
theorem dX5_wipe_17 : decode cX5_wipe 17 = .ok (.ireturn, 1) := by decide +kernel
set_option maxRecDepth 20000 in
theorem ggX5_fault_X1_firstFault : GoodIn wsX5_fault wsX1_firstFault := goodIn_r _ [6, 7, 8, 9, 10, 5, 11, 12, 13, 14, 15, 16, 17, 18, 19, 20, 21, 22, 23, 24, 25, 26, 27, 28, 29, 30, 31, 32, 33, 34, 35, 36, 45, 46] (by decide +kernel) (by decide +kernel)
set_option maxRecDepth 20000 in
theorem gX5_fault_X1_firstFault : GoodIn wsX5_fault (wsV RX5 93 RX1 yX1_firstFault wsX1_firstFault) := goodIn_app (goodIn_of _ (by decide +kernel)) ggX5_fault_X1_firstFault
theorem dX5_fault_0 : decode cX5_fault 0 = .ok (.aload_n 0, 1) := by decide +kernel
theorem dX5_fault_1 : decode cX5_fault 1 = .ok (.getfield 25, 3) := by decide +kernel
theorem dX5_fault_4 : decode cX5_fault 4 = .ok (.invokevirtual 93, 3) := by decide +kernel
theorem dX5_fault_7 : decode cX5_fault 7 = .ok (.ireturn, 1) := by decide +kernel
set_option maxRecDepth 20000 in
theorem ggX5_judge_X5_isBelow : GoodIn wsX5_judge wsX5_isBelow := goodIn_r _ [8] (by decide +kernel) (by decide +kernel)
set_option maxRecDepth 20000 in
theorem gX5_judge_X5_isBelow : GoodIn wsX5_judge (va_wsS RX5 57 yX5_isBelow wsX5_isBelow) := goodIn_app (goodIn_of _ (by decide +kernel)) ggX5_judge_X5_isBelow
set_option maxRecDepth 20000 in
theorem ggX5_judge_X1_firstFault : GoodIn wsX5_judge wsX1_firstFault := goodIn_r _ [13, 14, 15, 16, 17, 12, 18, 19, 20, 21, 22, 23, 24, 7, 25, 6, 8, 26, 27, 28, 29, 30, 31, 32, 33, 34, 35, 36, 37, 38, 39, 40, 162, 163] (by decide +kernel) (by decide +kernel)
set_option maxRecDepth 20000 in
theorem gX5_judge_X1_firstFault : GoodIn wsX5_judge (wsV RX5 93 RX1 yX1_firstFault wsX1_firstFault) := goodIn_app (goodIn_of _ (by decide +kernel)) ggX5_judge_X1_firstFault
set_option maxRecDepth 20000 in
theorem ggX5_judge_X5_tryWeeks : GoodIn wsX5_judge wsX5_tryWeeks := goodIn_r _ [44, 2, 45, 46, 1, 47, 48, 49, 50, 51, 52, 53, 54, 55, 56, 57, 58, 59, 60, 61, 62, 63, 64, 65, 66, 67, 24, 7, 25, 68, 69, 70, 35, 36, 12, 37, 23, 30, 31, 32, 33, 6, 8, 71, 27, 28, 29, 72, 20, 21, 22, 73, 74, 75, 76, 77, 78, 79, 80, 81, 82, 83, 84, 85, 86, 87, 88, 89, 90, 91, 92, 93, 94, 95, 96, 97, 98, 99, 100, 101, 102, 103, 104, 105, 106, 107, 108, 109, 110, 111, 112, 113, 114, 115, 116, 117, 118, 119, 120, 121, 122, 123, 124, 125, 126, 127, 128, 129, 130, 131, 132, 133, 134, 135, 136, 137, 138, 139, 140, 141, 142, 143, 144, 145, 146, 147, 148, 149, 150, 151, 152, 153, 154, 155, 156, 164, 165, 166, 167, 162, 163, 157, 158, 159, 160, 161, 168, 169, 170, 171, 172] (by decide +kernel) (by decide +kernel)
set_option maxRecDepth 20000 in
theorem gX5_judge_X5_tryWeeks : GoodIn wsX5_judge (wsV RX5 97 RX5 yX5_tryWeeks wsX5_tryWeeks) := goodIn_app (goodIn_of _ (by decide +kernel)) ggX5_judge_X5_tryWeeks
theorem dX5_judge_0 : decode cX5_judge 0 = .ok (.iload_n 1, 1) := by decide +kernel
theorem dX5_judge_1 : decode cX5_judge 1 = .ok (.iconst 2, 1) := by decide +kernel
theorem dX5_judge_2 : decode cX5_judge 2 = .ok (.invokestatic 57, 3) := by decide +kernel
theorem dX5_judge_5 : decode cX5_judge 5 = .ok (.ifCond .ne 6, 3) := by decide +kernel
theorem dX5_judge_8 : decode cX5_judge 8 = .ok (.bipush (-2), 2) := by decide +kernel
theorem dX5_judge_10 : decode cX5_judge 10 = .ok (.ireturn, 1) := by decide +kernel
theorem dX5_judge_11 : decode cX5_judge 11 = .ok (.aload_n 0, 1) := by decide +kernel
theorem dX5_judge_12 : decode cX5_judge 12 = .ok (.getfield 25, 3) := by decide +kernel
theorem dX5_judge_15 : decode cX5_judge 15 = .ok (.invokevirtual 93, 3) := by decide +kernel
theorem dX5_judge_18 : decode cX5_judge 18 = .ok (.bipush (-6), 2) := by decide +kernel
theorem dX5_judge_20 : decode cX5_judge 20 = .ok (.if_icmp .eq 6, 3) := by decide +kernel
theorem dX5_judge_23 : decode cX5_judge 23 = .ok (.bipush (-5), 2) := by decide +kernel
theorem dX5_judge_25 : decode cX5_judge 25 = .ok (.ireturn, 1) := by decide +kernel
theorem dX5_judge_26 : decode cX5_judge 26 = .ok (.aload_n 0, 1) := by decide +kernel
theorem dX5_judge_27 : decode cX5_judge 27 = .ok (.invokevirtual 97, 3) := by decide +kernel
theorem dX5_judge_30 : decode cX5_judge 30 = .ok (.ifCond .eq 6, 3) := by decide +kernel
theorem dX5_judge_33 : decode cX5_judge 33 = .ok (.bipush (-6), 2) := by decide +kernel
theorem dX5_judge_35 : decode cX5_judge 35 = .ok (.ireturn, 1) := by decide +kernel
theorem dX5_judge_36 : decode cX5_judge 36 = .ok (.iload_n 1, 1) := by decide +kernel
theorem dX5_judge_37 : decode cX5_judge 37 = .ok (.ifCond .ne 13, 3) := by decide +kernel
theorem dX5_judge_40 : decode cX5_judge 40 = .ok (.aload_n 0, 1) := by decide +kernel
theorem dX5_judge_41 : decode cX5_judge 41 = .ok (.getfield 32, 3) := by decide +kernel
theorem dX5_judge_44 : decode cX5_judge 44 = .ok (.getfield 100, 3) := by decide +kernel
theorem dX5_judge_47 : decode cX5_judge 47 = .ok (.goto 10, 3) := by decide +kernel
theorem dX5_judge_50 : decode cX5_judge 50 = .ok (.aload_n 0, 1) := by decide +kernel
theorem dX5_judge_51 : decode cX5_judge 51 = .ok (.getfield 32, 3) := by decide +kernel
theorem dX5_judge_54 : decode cX5_judge 54 = .ok (.getfield 103, 3) := by decide +kernel
theorem dX5_judge_57 : decode cX5_judge 57 = .ok (.ireturn, 1) := by decide +kernel
set_option maxRecDepth 20000 in
theorem ggX5_done_X5_weeksCanBe : GoodIn wsX5_done wsX5_weeksCanBe := goodIn_r _ [12, 5, 13, 14, 15, 16, 17, 18, 19, 20, 21, 22, 23, 24, 25, 26, 27, 28, 11, 29, 30, 31, 32, 33, 34, 35, 36, 37, 38, 39, 40, 41, 42, 43, 44, 45, 46, 47, 48, 49, 50, 3, 1, 2, 6, 51, 52, 53, 54, 55, 56, 57, 58, 59, 60, 61, 62, 63, 64, 65, 66, 67, 68, 69, 70, 71, 72, 73, 74, 75, 76, 77, 78, 79, 80, 81, 82, 83, 84, 85, 86, 87, 88, 89, 90, 91, 92, 93, 94, 95, 96, 97, 98, 99, 100, 101, 102, 103, 104, 105, 106, 107, 108, 109, 110, 111, 112, 113, 114, 115, 116, 117, 118, 119, 120, 121, 122, 123, 124, 125, 126, 127, 128, 129, 130, 131, 132, 133, 134, 135, 136, 137, 138, 139, 140, 141, 142, 143, 144, 145, 146, 147, 148, 149, 150, 151, 153, 154, 155, 156, 157, 158, 159, 160, 170, 171, 161, 162, 163, 164, 165, 166, 167, 168, 169, 172, 173, 174, 175, 176] (by decide +kernel) (by decide +kernel)
set_option maxRecDepth 20000 in
theorem gX5_done_X5_weeksCanBe : GoodIn wsX5_done (wsV RX5 106 RX5 yX5_weeksCanBe wsX5_weeksCanBe) := goodIn_app (goodIn_of _ (by decide +kernel)) ggX5_done_X5_weeksCanBe
set_option maxRecDepth 20000 in
theorem ggX5_done_X2_copy : GoodIn wsX5_done wsX2_copy := goodIn_r _ [65, 66, 67, 68, 69, 70, 28, 11, 29, 71, 72, 172, 173, 174, 175, 176] (by decide +kernel) (by decide +kernel)
set_option maxRecDepth 20000 in
theorem gX5_done_X2_copy : GoodIn wsX5_done (wsV RX5 110 RX2 yX2_copy wsX2_copy) := goodIn_app (goodIn_of _ (by decide +kernel)) ggX5_done_X2_copy
theorem dX5_done_0 : decode cX5_done 0 = .ok (.aload_n 0, 1) := by decide +kernel
theorem dX5_done_1 : decode cX5_done 1 = .ok (.invokevirtual 106, 3) := by decide +kernel
theorem dX5_done_4 : decode cX5_done 4 = .ok (.ifCond .ne 6, 3) := by decide +kernel
theorem dX5_done_7 : decode cX5_done 7 = .ok (.bipush (-5), 2) := by decide +kernel
theorem dX5_done_9 : decode cX5_done 9 = .ok (.ireturn, 1) := by decide +kernel
theorem dX5_done_10 : decode cX5_done 10 = .ok (.aload_n 0, 1) := by decide +kernel
theorem dX5_done_11 : decode cX5_done 11 = .ok (.getfield 10, 3) := by decide +kernel
theorem dX5_done_14 : decode cX5_done 14 = .ok (.getfield 47, 3) := by decide +kernel
theorem dX5_done_17 : decode cX5_done 17 = .ok (.aload_n 0, 1) := by decide +kernel
theorem dX5_done_18 : decode cX5_done 18 = .ok (.getfield 32, 3) := by decide +kernel
theorem dX5_done_21 : decode cX5_done 21 = .ok (.getfield 109, 3) := by decide +kernel
theorem dX5_done_24 : decode cX5_done 24 = .ok (.invokevirtual 110, 3) := by decide +kernel
theorem dX5_done_27 : decode cX5_done 27 = .ok (.aload_n 0, 1) := by decide +kernel
theorem dX5_done_28 : decode cX5_done 28 = .ok (.getfield 25, 3) := by decide +kernel
theorem dX5_done_31 : decode cX5_done 31 = .ok (.iconst 0, 1) := by decide +kernel
theorem dX5_done_32 : decode cX5_done 32 = .ok (.putfield 87, 3) := by decide +kernel
theorem dX5_done_35 : decode cX5_done 35 = .ok (.aload_n 0, 1) := by decide +kernel
theorem dX5_done_36 : decode cX5_done 36 = .ok (.getfield 32, 3) := by decide +kernel
theorem dX5_done_39 : decode cX5_done 39 = .ok (.getfield 100, 3) := by decide +kernel
theorem dX5_done_42 : decode cX5_done 42 = .ok (.ireturn, 1) := by decide +kernel
set_option maxRecDepth 20000 in
theorem ggX5_behind_X5_isBelow : GoodIn wsX5_behind wsX5_isBelow := goodIn_r _ [9] (by decide +kernel) (by decide +kernel)
set_option maxRecDepth 20000 in
theorem gX5_behind_X5_isBelow : GoodIn wsX5_behind (va_wsS RX5 57 yX5_isBelow wsX5_isBelow) := goodIn_app (goodIn_of _ (by decide +kernel)) ggX5_behind_X5_isBelow
set_option maxRecDepth 20000 in
theorem ggX5_behind_X5_weeksCanBe : GoodIn wsX5_behind wsX5_weeksCanBe := goodIn_r _ [13, 14, 15, 16, 17, 18, 19, 20, 21, 22, 23, 24, 25, 26, 27, 28, 29, 30, 8, 31, 7, 9, 32, 33, 34, 35, 36, 37, 38, 39, 40, 41, 42, 43, 44, 45, 46, 47, 48, 49, 50, 1, 51, 52, 53, 54, 55, 56, 57, 58, 59, 60, 61, 62, 63, 64, 65, 66, 67, 68, 69, 70, 71, 72, 73, 74, 75, 76, 77, 78, 79, 80, 81, 82, 83, 84, 85, 86, 87, 88, 89, 90, 91, 92, 93, 94, 95, 96, 97, 98, 99, 100, 101, 102, 103, 104, 105, 106, 107, 108, 109, 110, 111, 112, 113, 114, 115, 116, 117, 118, 119, 120, 121, 122, 123, 124, 125, 126, 127, 128, 129, 130, 131, 132, 133, 134, 135, 136, 137, 138, 139, 140, 141, 142, 143, 144, 145, 146, 147, 148, 149, 150, 151, 152, 153, 154, 159, 160, 161, 162, 163, 164, 165, 166, 177, 178, 179, 180, 181, 182, 167, 168, 169, 170, 171, 172, 173, 174, 175, 176] (by decide +kernel) (by decide +kernel)
set_option maxRecDepth 20000 in
theorem gX5_behind_X5_weeksCanBe : GoodIn wsX5_behind (wsV RX5 106 RX5 yX5_weeksCanBe wsX5_weeksCanBe) := goodIn_app (goodIn_of _ (by decide +kernel)) ggX5_behind_X5_weeksCanBe
set_option maxRecDepth 20000 in
theorem ggX5_behind_X2_looseOnes : GoodIn wsX5_behind wsX2_looseOnes := goodIn_r _ [158, 69, 70, 73, 30, 8, 31, 106, 107, 172, 173, 174, 175, 176] (by decide +kernel) (by decide +kernel)
set_option maxRecDepth 20000 in
theorem gX5_behind_X2_looseOnes : GoodIn wsX5_behind (wsV RX5 117 RX2 yX2_looseOnes wsX2_looseOnes) := goodIn_app (goodIn_of _ (by decide +kernel)) ggX5_behind_X2_looseOnes
theorem dX5_behind_0 : decode cX5_behind 0 = .ok (.iload_n 1, 1) := by decide +kernel
theorem dX5_behind_1 : decode cX5_behind 1 = .ok (.iconst 4, 1) := by decide +kernel
theorem dX5_behind_2 : decode cX5_behind 2 = .ok (.invokestatic 57, 3) := by decide +kernel
theorem dX5_behind_5 : decode cX5_behind 5 = .ok (.ifCond .ne 6, 3) := by decide +kernel
theorem dX5_behind_8 : decode cX5_behind 8 = .ok (.bipush (-2), 2) := by decide +kernel
theorem dX5_behind_10 : decode cX5_behind 10 = .ok (.ireturn, 1) := by decide +kernel
theorem dX5_behind_11 : decode cX5_behind 11 = .ok (.aload_n 0, 1) := by decide +kernel
theorem dX5_behind_12 : decode cX5_behind 12 = .ok (.invokevirtual 106, 3) := by decide +kernel
theorem dX5_behind_15 : decode cX5_behind 15 = .ok (.ifCond .ne 6, 3) := by decide +kernel
theorem dX5_behind_18 : decode cX5_behind 18 = .ok (.bipush (-5), 2) := by decide +kernel
theorem dX5_behind_20 : decode cX5_behind 20 = .ok (.ireturn, 1) := by decide +kernel
theorem dX5_behind_21 : decode cX5_behind 21 = .ok (.iload_n 1, 1) := by decide +kernel
theorem dX5_behind_22 : decode cX5_behind 22 = .ok (.tableswitch 59 0 2 #[26, 37, 48], 26) := by decide +kernel
theorem dX5_behind_48 : decode cX5_behind 48 = .ok (.aload_n 0, 1) := by decide +kernel
theorem dX5_behind_49 : decode cX5_behind 49 = .ok (.getfield 32, 3) := by decide +kernel
theorem dX5_behind_52 : decode cX5_behind 52 = .ok (.getfield 109, 3) := by decide +kernel
theorem dX5_behind_55 : decode cX5_behind 55 = .ok (.getfield 69, 3) := by decide +kernel
theorem dX5_behind_58 : decode cX5_behind 58 = .ok (.ireturn, 1) := by decide +kernel
theorem dX5_behind_59 : decode cX5_behind 59 = .ok (.aload_n 0, 1) := by decide +kernel
theorem dX5_behind_60 : decode cX5_behind 60 = .ok (.getfield 32, 3) := by decide +kernel
theorem dX5_behind_63 : decode cX5_behind 63 = .ok (.getfield 109, 3) := by decide +kernel
theorem dX5_behind_66 : decode cX5_behind 66 = .ok (.getfield 114, 3) := by decide +kernel
theorem dX5_behind_69 : decode cX5_behind 69 = .ok (.ireturn, 1) := by decide +kernel
theorem dX5_behind_70 : decode cX5_behind 70 = .ok (.aload_n 0, 1) := by decide +kernel
theorem dX5_behind_71 : decode cX5_behind 71 = .ok (.getfield 32, 3) := by decide +kernel
theorem dX5_behind_74 : decode cX5_behind 74 = .ok (.getfield 109, 3) := by decide +kernel
theorem dX5_behind_77 : decode cX5_behind 77 = .ok (.invokevirtual 117, 3) := by decide +kernel
theorem dX5_behind_80 : decode cX5_behind 80 = .ok (.ireturn, 1) := by decide +kernel
theorem dX5_behind_81 : decode cX5_behind 81 = .ok (.aload_n 0, 1) := by decide +kernel
theorem dX5_behind_82 : decode cX5_behind 82 = .ok (.getfield 32, 3) := by decide +kernel
theorem dX5_behind_85 : decode cX5_behind 85 = .ok (.getfield 120, 3) := by decide +kernel
theorem dX5_behind_88 : decode cX5_behind 88 = .ok (.ireturn, 1) := by decide +kernel
set_option maxRecDepth 20000 in
theorem ggX5_of_X5_isBelow : GoodIn wsX5_of wsX5_isBelow := goodIn_r _ [6] (by decide +kernel) (by decide +kernel)
set_option maxRecDepth 20000 in
theorem gX5_of_X5_isBelow : GoodIn wsX5_of (va_wsS RX5 57 yX5_isBelow wsX5_isBelow) := goodIn_app (goodIn_of _ (by decide +kernel)) ggX5_of_X5_isBelow
set_option maxRecDepth 20000 in
theorem ggX5_of_X5_weeksCanBe : GoodIn wsX5_of wsX5_weeksCanBe := goodIn_r _ [10, 11, 12, 13, 14, 15, 16, 17, 18, 19, 20, 21, 22, 23, 24, 25, 26, 27, 5, 28, 4, 6, 29, 30, 31, 32, 33, 34, 35, 36, 37, 38, 39, 40, 41, 42, 43, 44, 45, 46, 47, 1, 48, 49, 50, 51, 52, 53, 54, 55, 56, 57, 58, 59, 60, 61, 62, 63, 64, 65, 66, 67, 68, 69, 70, 71, 72, 73, 74, 75, 76, 77, 78, 79, 80, 81, 82, 83, 84, 85, 86, 87, 88, 89, 90, 91, 92, 93, 94, 95, 96, 97, 98, 99, 100, 101, 102, 103, 104, 105, 106, 107, 108, 109, 110, 111, 112, 113, 114, 115, 116, 117, 118, 119, 120, 121, 122, 123, 124, 125, 126, 127, 128, 129, 130, 131, 132, 133, 134, 135, 136, 137, 138, 139, 140, 141, 142, 143, 144, 145, 146, 147, 148, 149, 150, 151, 157, 158, 159, 160, 161, 162, 163, 164, 170, 171, 172, 173, 174, 175, 165, 166, 167, 168, 169, 176, 177, 178, 179, 180] (by decide +kernel) (by decide +kernel)
set_option maxRecDepth 20000 in
theorem gX5_of_X5_weeksCanBe : GoodIn wsX5_of (wsV RX5 106 RX5 yX5_weeksCanBe wsX5_weeksCanBe) := goodIn_app (goodIn_of _ (by decide +kernel)) ggX5_of_X5_weeksCanBe
set_option maxRecDepth 20000 in
theorem ggX5_of_X2_has : GoodIn wsX5_of wsX2_has := goodIn_r _ [98, 66, 4, 5, 6, 176, 177, 178, 179, 180] (by decide +kernel) (by decide +kernel)
set_option maxRecDepth 20000 in
theorem gX5_of_X2_has : GoodIn wsX5_of (wsV RX5 51 RX2 yX2_has wsX2_has) := goodIn_app (goodIn_of _ (by decide +kernel)) ggX5_of_X2_has
set_option maxRecDepth 20000 in
theorem ggX5_of_X2_trait : GoodIn wsX5_of wsX2_trait := goodIn_r _ [156, 68, 69, 70, 27, 5, 28, 176, 177, 178, 179, 180] (by decide +kernel) (by decide +kernel)
set_option maxRecDepth 20000 in
theorem gX5_of_X2_trait : GoodIn wsX5_of (wsV RX5 123 RX2 yX2_trait wsX2_trait) := goodIn_app (goodIn_of _ (by decide +kernel)) ggX5_of_X2_trait
theorem dX5_of_0 : decode cX5_of 0 = .ok (.iload_n 2, 1) := by decide +kernel
theorem dX5_of_1 : decode cX5_of 1 = .ok (.iconst 3, 1) := by decide +kernel
theorem dX5_of_2 : decode cX5_of 2 = .ok (.invokestatic 57, 3) := by decide +kernel
theorem dX5_of_5 : decode cX5_of 5 = .ok (.ifCond .ne 6, 3) := by decide +kernel
theorem dX5_of_8 : decode cX5_of 8 = .ok (.bipush (-2), 2) := by decide +kernel
theorem dX5_of_10 : decode cX5_of 10 = .ok (.ireturn, 1) := by decide +kernel
theorem dX5_of_11 : decode cX5_of 11 = .ok (.aload_n 0, 1) := by decide +kernel
theorem dX5_of_12 : decode cX5_of 12 = .ok (.invokevirtual 106, 3) := by decide +kernel
theorem dX5_of_15 : decode cX5_of 15 = .ok (.ifCond .ne 6, 3) := by decide +kernel
theorem dX5_of_18 : decode cX5_of 18 = .ok (.bipush (-5), 2) := by decide +kernel
theorem dX5_of_20 : decode cX5_of 20 = .ok (.ireturn, 1) := by decide +kernel
theorem dX5_of_21 : decode cX5_of 21 = .ok (.aload_n 0, 1) := by decide +kernel
theorem dX5_of_22 : decode cX5_of 22 = .ok (.getfield 32, 3) := by decide +kernel
theorem dX5_of_25 : decode cX5_of 25 = .ok (.getfield 109, 3) := by decide +kernel
theorem dX5_of_28 : decode cX5_of 28 = .ok (.iload_n 1, 1) := by decide +kernel
theorem dX5_of_29 : decode cX5_of 29 = .ok (.invokevirtual 51, 3) := by decide +kernel
theorem dX5_of_32 : decode cX5_of 32 = .ok (.ifCond .ne 5, 3) := by decide +kernel
theorem dX5_of_35 : decode cX5_of 35 = .ok (.iconst (-1), 1) := by decide +kernel
theorem dX5_of_36 : decode cX5_of 36 = .ok (.ireturn, 1) := by decide +kernel
theorem dX5_of_37 : decode cX5_of 37 = .ok (.aload_n 0, 1) := by decide +kernel
theorem dX5_of_38 : decode cX5_of 38 = .ok (.getfield 32, 3) := by decide +kernel
theorem dX5_of_41 : decode cX5_of 41 = .ok (.getfield 109, 3) := by decide +kernel
theorem dX5_of_44 : decode cX5_of 44 = .ok (.iload_n 1, 1) := by decide +kernel
theorem dX5_of_45 : decode cX5_of 45 = .ok (.iload_n 2, 1) := by decide +kernel
theorem dX5_of_46 : decode cX5_of 46 = .ok (.invokevirtual 123, 3) := by decide +kernel
theorem dX5_of_49 : decode cX5_of 49 = .ok (.ireturn, 1) := by decide +kernel
set_option maxRecDepth 20000 in
theorem ggX5_weeksCanBe_X1_firstFault : GoodIn wsX5_weeksCanBe wsX1_firstFault := goodIn_r _ [6, 7, 8, 9, 10, 5, 11, 12, 13, 14, 15, 16, 17, 18, 19, 20, 21, 22, 23, 24, 25, 26, 27, 28, 29, 30, 31, 32, 33, 34, 35, 36, 154, 155] (by decide +kernel) (by decide +kernel)
set_option maxRecDepth 20000 in
theorem gX5_weeksCanBe_X1_firstFault : GoodIn wsX5_weeksCanBe (wsV RX5 93 RX1 yX1_firstFault wsX1_firstFault) := goodIn_app (goodIn_of _ (by decide +kernel)) ggX5_weeksCanBe_X1_firstFault
set_option maxRecDepth 20000 in
theorem ggX5_weeksCanBe_X5_tryWeeks : GoodIn wsX5_weeksCanBe wsX5_tryWeeks := goodIn_r _ [40, 41, 42, 43, 1, 44, 45, 46, 47, 48, 49, 50, 51, 52, 53, 54, 55, 56, 57, 58, 59, 60, 61, 62, 63, 64, 17, 18, 19, 65, 66, 67, 31, 32, 5, 33, 16, 26, 27, 28, 29, 20, 21, 68, 23, 24, 25, 69, 13, 14, 15, 70, 71, 72, 73, 74, 75, 76, 77, 78, 79, 80, 81, 82, 83, 84, 85, 86, 87, 88, 89, 90, 91, 92, 93, 94, 95, 96, 97, 98, 99, 100, 101, 102, 103, 104, 105, 106, 107, 108, 109, 110, 111, 112, 113, 114, 115, 116, 117, 118, 119, 120, 121, 122, 123, 124, 125, 126, 127, 128, 129, 130, 131, 132, 133, 134, 135, 136, 137, 138, 139, 140, 141, 142, 143, 144, 145, 146, 147, 148, 149, 150, 151, 152, 153, 156, 157, 158, 159, 154, 155, 160, 161, 162, 163, 164, 165, 166, 167, 168, 169] (by decide +kernel) (by decide +kernel)
set_option maxRecDepth 20000 in
theorem gX5_weeksCanBe_X5_tryWeeks : GoodIn wsX5_weeksCanBe (wsV RX5 97 RX5 yX5_tryWeeks wsX5_tryWeeks) := goodIn_app (goodIn_of _ (by decide +kernel)) ggX5_weeksCanBe_X5_tryWeeks
theorem dX5_weeksCanBe_0 : decode cX5_weeksCanBe 0 = .ok (.aload_n 0, 1) := by decide +kernel
theorem dX5_weeksCanBe_1 : decode cX5_weeksCanBe 1 = .ok (.getfield 25, 3) := by decide +kernel
theorem dX5_weeksCanBe_4 : decode cX5_weeksCanBe 4 = .ok (.invokevirtual 93, 3) := by decide +kernel
theorem dX5_weeksCanBe_7 : decode cX5_weeksCanBe 7 = .ok (.bipush (-6), 2) := by decide +kernel
theorem dX5_weeksCanBe_9 : decode cX5_weeksCanBe 9 = .ok (.if_icmp .ne 14, 3) := by decide +kernel
theorem dX5_weeksCanBe_12 : decode cX5_weeksCanBe 12 = .ok (.aload_n 0, 1) := by decide +kernel
theorem dX5_weeksCanBe_13 : decode cX5_weeksCanBe 13 = .ok (.invokevirtual 97, 3) := by decide +kernel
theorem dX5_weeksCanBe_16 : decode cX5_weeksCanBe 16 = .ok (.ifCond .eq 7, 3) := by decide +kernel
theorem dX5_weeksCanBe_19 : decode cX5_weeksCanBe 19 = .ok (.iconst 1, 1) := by decide +kernel
theorem dX5_weeksCanBe_20 : decode cX5_weeksCanBe 20 = .ok (.goto 4, 3) := by decide +kernel
theorem dX5_weeksCanBe_23 : decode cX5_weeksCanBe 23 = .ok (.iconst 0, 1) := by decide +kernel
theorem dX5_weeksCanBe_24 : decode cX5_weeksCanBe 24 = .ok (.ireturn, 1) := by decide +kernel
set_option maxRecDepth 20000 in
theorem ggX5_tryWeeks_X4_begin : GoodIn wsX5_tryWeeks wsX4_begin := goodIn_r _ [10, 11, 12, 13, 14, 15, 16, 17, 18, 19, 20, 21, 22, 23, 24, 25, 26, 27, 28, 29, 30, 141, 142, 143, 144, 145, 146, 147, 148, 149, 150] (by decide +kernel) (by decide +kernel)
set_option maxRecDepth 20000 in
theorem gX5_tryWeeks_X4_begin : GoodIn wsX5_tryWeeks (wsV RX5 127 RX4 yX4_begin wsX4_begin) := goodIn_app (goodIn_of _ (by decide +kernel)) ggX5_tryWeeks_X4_begin
set_option maxRecDepth 20000 in
theorem ggX5_tryWeeks_X1_kindAt : GoodIn wsX5_tryWeeks wsX1_kindAt := goodIn_r _ [35, 36, 37, 38, 39, 34, 40, 26, 27, 28, 41, 42, 139, 140] (by decide +kernel) (by decide +kernel)
set_option maxRecDepth 20000 in
theorem gX5_tryWeeks_X1_kindAt : GoodIn wsX5_tryWeeks (wsV RX5 130 RX1 yX1_kindAt wsX1_kindAt) := goodIn_app (goodIn_of _ (by decide +kernel)) ggX5_tryWeeks_X1_kindAt
set_option maxRecDepth 20000 in
theorem ggX5_tryWeeks_X1_stitchAt : GoodIn wsX5_tryWeeks wsX1_stitchAt := goodIn_r _ [46, 36, 26, 27, 28, 139, 140] (by decide +kernel) (by decide +kernel)
set_option maxRecDepth 20000 in
theorem gX5_tryWeeks_X1_stitchAt : GoodIn wsX5_tryWeeks (wsV RX5 133 RX1 yX1_stitchAt wsX1_stitchAt) := goodIn_app (goodIn_of _ (by decide +kernel)) ggX5_tryWeeks_X1_stitchAt
set_option maxRecDepth 20000 in
theorem ggX5_tryWeeks_X1_colourAt : GoodIn wsX5_tryWeeks wsX1_colourAt := goodIn_r _ [50, 36, 26, 27, 28, 139, 140] (by decide +kernel) (by decide +kernel)
set_option maxRecDepth 20000 in
theorem gX5_tryWeeks_X1_colourAt : GoodIn wsX5_tryWeeks (wsV RX5 136 RX1 yX1_colourAt wsX1_colourAt) := goodIn_app (goodIn_of _ (by decide +kernel)) ggX5_tryWeeks_X1_colourAt
set_option maxRecDepth 20000 in
theorem ggX5_tryWeeks_X1_knitterAt : GoodIn wsX5_tryWeeks wsX1_knitterAt := goodIn_r _ [40, 36, 26, 27, 28, 139, 140] (by decide +kernel) (by decide +kernel)
set_option maxRecDepth 20000 in
theorem gX5_tryWeeks_X1_knitterAt : GoodIn wsX5_tryWeeks (wsV RX5 139 RX1 yX1_knitterAt wsX1_knitterAt) := goodIn_app (goodIn_of _ (by decide +kernel)) ggX5_tryWeeks_X1_knitterAt
set_option maxRecDepth 20000 in
theorem ggX5_tryWeeks_X3_tightnessOf : GoodIn wsX5_tryWeeks wsX3_tightnessOf := goodIn_r _ [56, 57, 26, 27, 28, 135, 136, 137, 138] (by decide +kernel) (by decide +kernel)
set_option maxRecDepth 20000 in
theorem gX5_tryWeeks_X3_tightnessOf : GoodIn wsX5_tryWeeks (wsV RX5 76 RX3 yX3_tightnessOf wsX3_tightnessOf) := goodIn_app (goodIn_of _ (by decide +kernel)) ggX5_tryWeeks_X3_tightnessOf
set_option maxRecDepth 20000 in
theorem ggX5_tryWeeks_X4_act : GoodIn wsX5_tryWeeks wsX4_act := goodIn_r _ [61, 13, 12, 11, 62, 63, 64, 9, 65, 66, 67, 68, 19, 69, 21, 70, 71, 72, 73, 41, 27, 42, 74, 75, 76, 77, 22, 78, 79, 80, 81, 82, 83, 23, 24, 25, 84, 85, 86, 87, 26, 28, 29, 30, 88, 89, 90, 91, 92, 93, 94, 95, 96, 97, 98, 99, 100, 101, 102, 14, 103, 104, 105, 106, 15, 107, 108, 109, 110, 111, 112, 113, 114, 115, 116, 117, 118, 119, 120, 121, 122, 123, 124, 125, 126, 141, 142, 143, 144, 145, 146, 147, 148, 149, 150] (by decide +kernel) (by decide +kernel)
set_option maxRecDepth 20000 in
theorem gX5_tryWeeks_X4_act : GoodIn wsX5_tryWeeks (wsV RX5 142 RX4 yX4_act wsX4_act) := goodIn_app (goodIn_of _ (by decide +kernel)) ggX5_tryWeeks_X4_act
theorem dX5_tryWeeks_0 : decode cX5_tryWeeks 0 = .ok (.aload_n 0, 1) := by decide +kernel
theorem dX5_tryWeeks_1 : decode cX5_tryWeeks 1 = .ok (.getfield 32, 3) := by decide +kernel
theorem dX5_tryWeeks_4 : decode cX5_tryWeeks 4 = .ok (.aload_n 0, 1) := by decide +kernel
theorem dX5_tryWeeks_5 : decode cX5_tryWeeks 5 = .ok (.getfield 10, 3) := by decide +kernel
theorem dX5_tryWeeks_8 : decode cX5_tryWeeks 8 = .ok (.getfield 47, 3) := by decide +kernel
theorem dX5_tryWeeks_11 : decode cX5_tryWeeks 11 = .ok (.invokevirtual 127, 3) := by decide +kernel
theorem dX5_tryWeeks_14 : decode cX5_tryWeeks 14 = .ok (.iconst 0, 1) := by decide +kernel
theorem dX5_tryWeeks_15 : decode cX5_tryWeeks 15 = .ok (.istore_n 1, 1) := by decide +kernel
theorem dX5_tryWeeks_16 : decode cX5_tryWeeks 16 = .ok (.iload_n 1, 1) := by decide +kernel
theorem dX5_tryWeeks_17 : decode cX5_tryWeeks 17 = .ok (.aload_n 0, 1) := by decide +kernel
theorem dX5_tryWeeks_18 : decode cX5_tryWeeks 18 = .ok (.getfield 25, 3) := by decide +kernel
theorem dX5_tryWeeks_21 : decode cX5_tryWeeks 21 = .ok (.getfield 87, 3) := by decide +kernel
theorem dX5_tryWeeks_24 : decode cX5_tryWeeks 24 = .ok (.if_icmp .ge 97, 3) := by decide +kernel
theorem dX5_tryWeeks_27 : decode cX5_tryWeeks 27 = .ok (.aload_n 0, 1) := by decide +kernel
theorem dX5_tryWeeks_28 : decode cX5_tryWeeks 28 = .ok (.getfield 25, 3) := by decide +kernel
theorem dX5_tryWeeks_31 : decode cX5_tryWeeks 31 = .ok (.iload_n 1, 1) := by decide +kernel
theorem dX5_tryWeeks_32 : decode cX5_tryWeeks 32 = .ok (.invokevirtual 130, 3) := by decide +kernel
theorem dX5_tryWeeks_35 : decode cX5_tryWeeks 35 = .ok (.istore_n 2, 1) := by decide +kernel
theorem dX5_tryWeeks_36 : decode cX5_tryWeeks 36 = .ok (.aload_n 0, 1) := by decide +kernel
theorem dX5_tryWeeks_37 : decode cX5_tryWeeks 37 = .ok (.getfield 25, 3) := by decide +kernel
theorem dX5_tryWeeks_40 : decode cX5_tryWeeks 40 = .ok (.iload_n 1, 1) := by decide +kernel
theorem dX5_tryWeeks_41 : decode cX5_tryWeeks 41 = .ok (.iconst 1, 1) := by decide +kernel
theorem dX5_tryWeeks_42 : decode cX5_tryWeeks 42 = .ok (.iadd, 1) := by decide +kernel
theorem dX5_tryWeeks_43 : decode cX5_tryWeeks 43 = .ok (.invokevirtual 133, 3) := by decide +kernel
theorem dX5_tryWeeks_46 : decode cX5_tryWeeks 46 = .ok (.istore_n 3, 1) := by decide +kernel
theorem dX5_tryWeeks_47 : decode cX5_tryWeeks 47 = .ok (.aload_n 0, 1) := by decide +kernel
theorem dX5_tryWeeks_48 : decode cX5_tryWeeks 48 = .ok (.getfield 25, 3) := by decide +kernel
theorem dX5_tryWeeks_51 : decode cX5_tryWeeks 51 = .ok (.iload_n 1, 1) := by decide +kernel
theorem dX5_tryWeeks_52 : decode cX5_tryWeeks 52 = .ok (.iconst 1, 1) := by decide +kernel
theorem dX5_tryWeeks_53 : decode cX5_tryWeeks 53 = .ok (.iadd, 1) := by decide +kernel
theorem dX5_tryWeeks_54 : decode cX5_tryWeeks 54 = .ok (.invokevirtual 136, 3) := by decide +kernel
theorem dX5_tryWeeks_57 : decode cX5_tryWeeks 57 = .ok (.istore 4, 2) := by decide +kernel
theorem dX5_tryWeeks_59 : decode cX5_tryWeeks 59 = .ok (.aload_n 0, 1) := by decide +kernel
theorem dX5_tryWeeks_60 : decode cX5_tryWeeks 60 = .ok (.getfield 10, 3) := by decide +kernel
theorem dX5_tryWeeks_63 : decode cX5_tryWeeks 63 = .ok (.aload_n 0, 1) := by decide +kernel
theorem dX5_tryWeeks_64 : decode cX5_tryWeeks 64 = .ok (.getfield 25, 3) := by decide +kernel
theorem dX5_tryWeeks_67 : decode cX5_tryWeeks 67 = .ok (.iload_n 2, 1) := by decide +kernel
theorem dX5_tryWeeks_68 : decode cX5_tryWeeks 68 = .ok (.iconst 3, 1) := by decide +kernel
theorem dX5_tryWeeks_69 : decode cX5_tryWeeks 69 = .ok (.if_icmp .ne 7, 3) := by decide +kernel
theorem dX5_tryWeeks_72 : decode cX5_tryWeeks 72 = .ok (.iload_n 1, 1) := by decide +kernel
theorem dX5_tryWeeks_73 : decode cX5_tryWeeks 73 = .ok (.goto 6, 3) := by decide +kernel
theorem dX5_tryWeeks_76 : decode cX5_tryWeeks 76 = .ok (.iload_n 1, 1) := by decide +kernel
theorem dX5_tryWeeks_77 : decode cX5_tryWeeks 77 = .ok (.iconst 2, 1) := by decide +kernel
theorem dX5_tryWeeks_78 : decode cX5_tryWeeks 78 = .ok (.iadd, 1) := by decide +kernel
theorem dX5_tryWeeks_79 : decode cX5_tryWeeks 79 = .ok (.invokevirtual 139, 3) := by decide +kernel
theorem dX5_tryWeeks_82 : decode cX5_tryWeeks 82 = .ok (.invokevirtual 76, 3) := by decide +kernel
theorem dX5_tryWeeks_85 : decode cX5_tryWeeks 85 = .ok (.istore 5, 2) := by decide +kernel
theorem dX5_tryWeeks_87 : decode cX5_tryWeeks 87 = .ok (.aload_n 0, 1) := by decide +kernel
theorem dX5_tryWeeks_88 : decode cX5_tryWeeks 88 = .ok (.getfield 32, 3) := by decide +kernel
theorem dX5_tryWeeks_91 : decode cX5_tryWeeks 91 = .ok (.iload_n 2, 1) := by decide +kernel
theorem dX5_tryWeeks_92 : decode cX5_tryWeeks 92 = .ok (.iload_n 3, 1) := by decide +kernel
theorem dX5_tryWeeks_93 : decode cX5_tryWeeks 93 = .ok (.iload 4, 2) := by decide +kernel
theorem dX5_tryWeeks_95 : decode cX5_tryWeeks 95 = .ok (.iload 5, 2) := by decide +kernel
theorem dX5_tryWeeks_97 : decode cX5_tryWeeks 97 = .ok (.invokevirtual 142, 3) := by decide +kernel
theorem dX5_tryWeeks_100 : decode cX5_tryWeeks 100 = .ok (.ifCond .ne 5, 3) := by decide +kernel
theorem dX5_tryWeeks_103 : decode cX5_tryWeeks 103 = .ok (.iconst 0, 1) := by decide +kernel
theorem dX5_tryWeeks_104 : decode cX5_tryWeeks 104 = .ok (.ireturn, 1) := by decide +kernel
theorem dX5_tryWeeks_105 : decode cX5_tryWeeks 105 = .ok (.iload_n 1, 1) := by decide +kernel
theorem dX5_tryWeeks_106 : decode cX5_tryWeeks 106 = .ok (.iload_n 2, 1) := by decide +kernel
theorem dX5_tryWeeks_107 : decode cX5_tryWeeks 107 = .ok (.iconst 2, 1) := by decide +kernel
theorem dX5_tryWeeks_108 : decode cX5_tryWeeks 108 = .ok (.if_icmp .ne 7, 3) := by decide +kernel
theorem dX5_tryWeeks_111 : decode cX5_tryWeeks 111 = .ok (.iconst 3, 1) := by decide +kernel
theorem dX5_tryWeeks_112 : decode cX5_tryWeeks 112 = .ok (.goto 4, 3) := by decide +kernel
theorem dX5_tryWeeks_115 : decode cX5_tryWeeks 115 = .ok (.iconst 2, 1) := by decide +kernel
theorem dX5_tryWeeks_116 : decode cX5_tryWeeks 116 = .ok (.iadd, 1) := by decide +kernel
theorem dX5_tryWeeks_117 : decode cX5_tryWeeks 117 = .ok (.istore_n 1, 1) := by decide +kernel
theorem dX5_tryWeeks_118 : decode cX5_tryWeeks 118 = .ok (.goto (-102), 3) := by decide +kernel
theorem dX5_tryWeeks_121 : decode cX5_tryWeeks 121 = .ok (.iconst 1, 1) := by decide +kernel
theorem dX5_tryWeeks_122 : decode cX5_tryWeeks 122 = .ok (.ireturn, 1) := by decide +kernel
set_option maxRecDepth 20000 in
theorem ggX5_pull_X2_has : GoodIn wsX5_pull wsX2_has := goodIn_r _ [7, 8, 9, 10, 11, 40, 41, 42, 43, 44] (by decide +kernel) (by decide +kernel)
set_option maxRecDepth 20000 in
theorem gX5_pull_X2_has : GoodIn wsX5_pull (wsV RX5 51 RX2 yX2_has wsX2_has) := goodIn_app (goodIn_of _ (by decide +kernel)) ggX5_pull_X2_has
set_option maxRecDepth 20000 in
theorem ggX5_pull_X2_undoneWith : GoodIn wsX5_pull wsX2_undoneWith := goodIn_r _ [15, 8, 16, 17, 10, 18, 19, 20, 40, 41, 42, 43, 44] (by decide +kernel) (by decide +kernel)
set_option maxRecDepth 20000 in
theorem gX5_pull_X2_undoneWith : GoodIn wsX5_pull (wsV RX5 146 RX2 yX2_undoneWith wsX2_undoneWith) := goodIn_app (goodIn_of _ (by decide +kernel)) ggX5_pull_X2_undoneWith
set_option maxRecDepth 20000 in
theorem ggX5_pull_J6_bitCount_0f7a4 : GoodIn wsX5_pull wsJ6_bitCount_0f7a4 := goodIn_r _ [24, 25, 26, 27] (by decide +kernel) (by decide +kernel)
set_option maxRecDepth 20000 in
theorem gX5_pull_J6_bitCount_0f7a4 : GoodIn wsX5_pull (va_wsS RX5 149 yJ6_bitCount_0f7a4 wsJ6_bitCount_0f7a4) := goodIn_app (goodIn_of _ (by decide +kernel)) ggX5_pull_J6_bitCount_0f7a4
theorem dX5_pull_0 : decode cX5_pull 0 = .ok (.aload_n 0, 1) := by decide +kernel
theorem dX5_pull_1 : decode cX5_pull 1 = .ok (.getfield 10, 3) := by decide +kernel
theorem dX5_pull_4 : decode cX5_pull 4 = .ok (.getfield 47, 3) := by decide +kernel
theorem dX5_pull_7 : decode cX5_pull 7 = .ok (.iload_n 1, 1) := by decide +kernel
theorem dX5_pull_8 : decode cX5_pull 8 = .ok (.invokevirtual 51, 3) := by decide +kernel
theorem dX5_pull_11 : decode cX5_pull 11 = .ok (.ifCond .ne 5, 3) := by decide +kernel
theorem dX5_pull_14 : decode cX5_pull 14 = .ok (.iconst (-1), 1) := by decide +kernel
theorem dX5_pull_15 : decode cX5_pull 15 = .ok (.ireturn, 1) := by decide +kernel
theorem dX5_pull_16 : decode cX5_pull 16 = .ok (.aload_n 0, 1) := by decide +kernel
theorem dX5_pull_17 : decode cX5_pull 17 = .ok (.getfield 10, 3) := by decide +kernel
theorem dX5_pull_20 : decode cX5_pull 20 = .ok (.getfield 47, 3) := by decide +kernel
theorem dX5_pull_23 : decode cX5_pull 23 = .ok (.iload_n 1, 1) := by decide +kernel
theorem dX5_pull_24 : decode cX5_pull 24 = .ok (.invokevirtual 146, 3) := by decide +kernel
theorem dX5_pull_27 : decode cX5_pull 27 = .ok (.invokestatic 149, 3) := by decide +kernel
theorem dX5_pull_30 : decode cX5_pull 30 = .ok (.ireturn, 1) := by decide +kernel
set_option maxRecDepth 20000 in
theorem ggX5_pulls_X2_hasAll : GoodIn wsX5_pulls wsX2_hasAll := goodIn_r _ [7, 8, 49, 50, 51, 52, 53] (by decide +kernel) (by decide +kernel)
set_option maxRecDepth 20000 in
theorem gX5_pulls_X2_hasAll : GoodIn wsX5_pulls (wsV RX5 154 RX2 yX2_hasAll wsX2_hasAll) := goodIn_app (goodIn_of _ (by decide +kernel)) ggX5_pulls_X2_hasAll
set_option maxRecDepth 20000 in
theorem ggX5_pulls_X5_isBelow : GoodIn wsX5_pulls wsX5_isBelow := goodIn_r _ [12] (by decide +kernel) (by decide +kernel)
set_option maxRecDepth 20000 in
theorem gX5_pulls_X5_isBelow : GoodIn wsX5_pulls (va_wsS RX5 57 yX5_isBelow wsX5_isBelow) := goodIn_app (goodIn_of _ (by decide +kernel)) ggX5_pulls_X5_isBelow
set_option maxRecDepth 20000 in
theorem ggX5_pulls_X2_withAnchors : GoodIn wsX5_pulls wsX2_withAnchors := goodIn_r _ [16, 8, 17, 18, 11, 19, 20, 21, 49, 50, 51, 52, 53] (by decide +kernel) (by decide +kernel)
set_option maxRecDepth 20000 in
theorem gX5_pulls_X2_withAnchors : GoodIn wsX5_pulls (wsV RX5 157 RX2 yX2_withAnchors wsX2_withAnchors) := goodIn_app (goodIn_of _ (by decide +kernel)) ggX5_pulls_X2_withAnchors
set_option maxRecDepth 20000 in
theorem ggX5_pulls_X2_topmostBelow : GoodIn wsX5_pulls wsX2_topmostBelow := goodIn_r _ [25, 8, 20, 11, 21, 26, 27, 28, 6, 29, 17, 18, 19, 49, 50, 51, 52, 53] (by decide +kernel) (by decide +kernel)
set_option maxRecDepth 20000 in
theorem gX5_pulls_X2_topmostBelow : GoodIn wsX5_pulls (wsV RX5 160 RX2 yX2_topmostBelow wsX2_topmostBelow) := goodIn_app (goodIn_of _ (by decide +kernel)) ggX5_pulls_X2_topmostBelow
set_option maxRecDepth 20000 in
theorem ggX5_pulls_J6_bitCount_0f7a4 : GoodIn wsX5_pulls wsJ6_bitCount_0f7a4 := goodIn_r _ [33, 34, 35, 36] (by decide +kernel) (by decide +kernel)
set_option maxRecDepth 20000 in
theorem gX5_pulls_J6_bitCount_0f7a4 : GoodIn wsX5_pulls (va_wsS RX5 149 yJ6_bitCount_0f7a4 wsJ6_bitCount_0f7a4) := goodIn_app (goodIn_of _ (by decide +kernel)) ggX5_pulls_J6_bitCount_0f7a4
theorem dX5_pulls_0 : decode cX5_pulls 0 = .ok (.aload_n 0, 1) := by decide +kernel
theorem dX5_pulls_1 : decode cX5_pulls 1 = .ok (.getfield 10, 3) := by decide +kernel
theorem dX5_pulls_4 : decode cX5_pulls 4 = .ok (.getfield 47, 3) := by decide +kernel
theorem dX5_pulls_7 : decode cX5_pulls 7 = .ok (.astore 4, 2) := by decide +kernel
theorem dX5_pulls_9 : decode cX5_pulls 9 = .ok (.aload 4, 2) := by decide +kernel
theorem dX5_pulls_11 : decode cX5_pulls 11 = .ok (.iload_n 1, 1) := by decide +kernel
theorem dX5_pulls_12 : decode cX5_pulls 12 = .ok (.invokevirtual 154, 3) := by decide +kernel
theorem dX5_pulls_15 : decode cX5_pulls 15 = .ok (.ifCond .eq 12, 3) := by decide +kernel
theorem dX5_pulls_18 : decode cX5_pulls 18 = .ok (.aload 4, 2) := by decide +kernel
theorem dX5_pulls_20 : decode cX5_pulls 20 = .ok (.iload_n 2, 1) := by decide +kernel
theorem dX5_pulls_21 : decode cX5_pulls 21 = .ok (.invokevirtual 154, 3) := by decide +kernel
theorem dX5_pulls_24 : decode cX5_pulls 24 = .ok (.ifCond .ne 5, 3) := by decide +kernel
theorem dX5_pulls_27 : decode cX5_pulls 27 = .ok (.iconst (-1), 1) := by decide +kernel
theorem dX5_pulls_28 : decode cX5_pulls 28 = .ok (.ireturn, 1) := by decide +kernel
theorem dX5_pulls_29 : decode cX5_pulls 29 = .ok (.iload_n 3, 1) := by decide +kernel
theorem dX5_pulls_30 : decode cX5_pulls 30 = .ok (.iconst 2, 1) := by decide +kernel
theorem dX5_pulls_31 : decode cX5_pulls 31 = .ok (.invokestatic 57, 3) := by decide +kernel
theorem dX5_pulls_34 : decode cX5_pulls 34 = .ok (.ifCond .ne 6, 3) := by decide +kernel
theorem dX5_pulls_37 : decode cX5_pulls 37 = .ok (.bipush (-2), 2) := by decide +kernel
theorem dX5_pulls_39 : decode cX5_pulls 39 = .ok (.ireturn, 1) := by decide +kernel
theorem dX5_pulls_40 : decode cX5_pulls 40 = .ok (.aload 4, 2) := by decide +kernel
theorem dX5_pulls_42 : decode cX5_pulls 42 = .ok (.iload_n 2, 1) := by decide +kernel
theorem dX5_pulls_43 : decode cX5_pulls 43 = .ok (.invokevirtual 157, 3) := by decide +kernel
theorem dX5_pulls_46 : decode cX5_pulls 46 = .ok (.istore 5, 2) := by decide +kernel
theorem dX5_pulls_48 : decode cX5_pulls 48 = .ok (.iload_n 1, 1) := by decide +kernel
theorem dX5_pulls_49 : decode cX5_pulls 49 = .ok (.iload 5, 2) := by decide +kernel
theorem dX5_pulls_51 : decode cX5_pulls 51 = .ok (.iand, 1) := by decide +kernel
theorem dX5_pulls_52 : decode cX5_pulls 52 = .ok (.ifCond .eq 6, 3) := by decide +kernel
theorem dX5_pulls_55 : decode cX5_pulls 55 = .ok (.bipush (-6), 2) := by decide +kernel
theorem dX5_pulls_57 : decode cX5_pulls 57 = .ok (.ireturn, 1) := by decide +kernel
theorem dX5_pulls_58 : decode cX5_pulls 58 = .ok (.aload 4, 2) := by decide +kernel
theorem dX5_pulls_60 : decode cX5_pulls 60 = .ok (.iload_n 1, 1) := by decide +kernel
theorem dX5_pulls_61 : decode cX5_pulls 61 = .ok (.iload 5, 2) := by decide +kernel
theorem dX5_pulls_63 : decode cX5_pulls 63 = .ok (.invokevirtual 160, 3) := by decide +kernel
theorem dX5_pulls_66 : decode cX5_pulls 66 = .ok (.istore 6, 2) := by decide +kernel
theorem dX5_pulls_68 : decode cX5_pulls 68 = .ok (.iload_n 3, 1) := by decide +kernel
theorem dX5_pulls_69 : decode cX5_pulls 69 = .ok (.ifCond .ne 11, 3) := by decide +kernel
theorem dX5_pulls_72 : decode cX5_pulls 72 = .ok (.iload 6, 2) := by decide +kernel
theorem dX5_pulls_74 : decode cX5_pulls 74 = .ok (.invokestatic 149, 3) := by decide +kernel
theorem dX5_pulls_77 : decode cX5_pulls 77 = .ok (.goto 5, 3) := by decide +kernel
theorem dX5_pulls_80 : decode cX5_pulls 80 = .ok (.iload 6, 2) := by decide +kernel
theorem dX5_pulls_82 : decode cX5_pulls 82 = .ok (.ireturn, 1) := by decide +kernel
set_option maxRecDepth 20000 in
theorem ggX5_pattern_X2_shortestPattern : GoodIn wsX5_pattern wsX2_shortestPattern := goodIn_r _ [7, 8, 9, 10, 11, 6, 12, 13, 14, 15, 16, 17, 18, 19, 20, 21, 22, 23, 24, 25, 26, 27, 40, 41, 42, 43, 44] (by decide +kernel) (by decide +kernel)
set_option maxRecDepth 20000 in
theorem gX5_pattern_X2_shortestPattern : GoodIn wsX5_pattern (wsV RX5 163 RX2 yX2_shortestPattern wsX2_shortestPattern) := goodIn_app (goodIn_of _ (by decide +kernel)) ggX5_pattern_X2_shortestPattern
theorem dX5_pattern_0 : decode cX5_pattern 0 = .ok (.aload_n 0, 1) := by decide +kernel
theorem dX5_pattern_1 : decode cX5_pattern 1 = .ok (.getfield 10, 3) := by decide +kernel
theorem dX5_pattern_4 : decode cX5_pattern 4 = .ok (.getfield 47, 3) := by decide +kernel
theorem dX5_pattern_7 : decode cX5_pattern 7 = .ok (.invokevirtual 163, 3) := by decide +kernel
theorem dX5_pattern_10 : decode cX5_pattern 10 = .ok (.ireturn, 1) := by decide +kernel
set_option maxRecDepth 20000 in
theorem ggX5_hole_X2_has : GoodIn wsX5_hole wsX2_has := goodIn_r _ [7, 8, 9, 10, 11, 51, 52, 53, 54, 55] (by decide +kernel) (by decide +kernel)
set_option maxRecDepth 20000 in
theorem gX5_hole_X2_has : GoodIn wsX5_hole (wsV RX5 51 RX2 yX2_has wsX2_has) := goodIn_app (goodIn_of _ (by decide +kernel)) ggX5_hole_X2_has
set_option maxRecDepth 20000 in
theorem ggX5_hole_X2_isEaten : GoodIn wsX5_hole wsX2_isEaten := goodIn_r _ [15, 16, 17, 10, 18, 51, 52, 53, 54, 55] (by decide +kernel) (by decide +kernel)
set_option maxRecDepth 20000 in
theorem gX5_hole_X2_isEaten : GoodIn wsX5_hole (wsV RX5 166 RX2 yX2_isEaten wsX2_isEaten) := goodIn_app (goodIn_of _ (by decide +kernel)) ggX5_hole_X2_isEaten
set_option maxRecDepth 20000 in
theorem ggX5_hole_X2_coloursOfHole : GoodIn wsX5_hole wsX2_coloursOfHole := goodIn_r _ [22, 8, 23, 24, 25, 26, 6, 27, 28, 29, 30, 31, 32, 33, 34, 35, 36, 13, 14, 15, 16, 17, 10, 18, 37, 38, 51, 52, 53, 54, 55] (by decide +kernel) (by decide +kernel)
set_option maxRecDepth 20000 in
theorem gX5_hole_X2_coloursOfHole : GoodIn wsX5_hole (wsV RX5 169 RX2 yX2_coloursOfHole wsX2_coloursOfHole) := goodIn_app (goodIn_of _ (by decide +kernel)) ggX5_hole_X2_coloursOfHole
theorem dX5_hole_0 : decode cX5_hole 0 = .ok (.aload_n 0, 1) := by decide +kernel
theorem dX5_hole_1 : decode cX5_hole 1 = .ok (.getfield 10, 3) := by decide +kernel
theorem dX5_hole_4 : decode cX5_hole 4 = .ok (.getfield 47, 3) := by decide +kernel
theorem dX5_hole_7 : decode cX5_hole 7 = .ok (.iload_n 1, 1) := by decide +kernel
theorem dX5_hole_8 : decode cX5_hole 8 = .ok (.invokevirtual 51, 3) := by decide +kernel
theorem dX5_hole_11 : decode cX5_hole 11 = .ok (.ifCond .ne 5, 3) := by decide +kernel
theorem dX5_hole_14 : decode cX5_hole 14 = .ok (.iconst (-1), 1) := by decide +kernel
theorem dX5_hole_15 : decode cX5_hole 15 = .ok (.ireturn, 1) := by decide +kernel
theorem dX5_hole_16 : decode cX5_hole 16 = .ok (.aload_n 0, 1) := by decide +kernel
theorem dX5_hole_17 : decode cX5_hole 17 = .ok (.getfield 10, 3) := by decide +kernel
theorem dX5_hole_20 : decode cX5_hole 20 = .ok (.getfield 47, 3) := by decide +kernel
theorem dX5_hole_23 : decode cX5_hole 23 = .ok (.iload_n 1, 1) := by decide +kernel
theorem dX5_hole_24 : decode cX5_hole 24 = .ok (.invokevirtual 166, 3) := by decide +kernel
theorem dX5_hole_27 : decode cX5_hole 27 = .ok (.ifCond .ne 6, 3) := by decide +kernel
theorem dX5_hole_30 : decode cX5_hole 30 = .ok (.bipush (-3), 2) := by decide +kernel
theorem dX5_hole_32 : decode cX5_hole 32 = .ok (.ireturn, 1) := by decide +kernel
theorem dX5_hole_33 : decode cX5_hole 33 = .ok (.aload_n 0, 1) := by decide +kernel
theorem dX5_hole_34 : decode cX5_hole 34 = .ok (.getfield 10, 3) := by decide +kernel
theorem dX5_hole_37 : decode cX5_hole 37 = .ok (.getfield 47, 3) := by decide +kernel
theorem dX5_hole_40 : decode cX5_hole 40 = .ok (.iload_n 1, 1) := by decide +kernel
theorem dX5_hole_41 : decode cX5_hole 41 = .ok (.invokevirtual 169, 3) := by decide +kernel
theorem dX5_hole_44 : decode cX5_hole 44 = .ok (.ireturn, 1) := by decide +kernel
set_option maxRecDepth 20000 in
theorem ggX5_rip_X5_isBelow : GoodIn wsX5_rip wsX5_isBelow := goodIn_r _ [8] (by decide +kernel) (by decide +kernel)
set_option maxRecDepth 20000 in
theorem gX5_rip_X5_isBelow : GoodIn wsX5_rip (va_wsS RX5 57 yX5_isBelow wsX5_isBelow) := goodIn_app (goodIn_of _ (by decide +kernel)) ggX5_rip_X5_isBelow
set_option maxRecDepth 20000 in
theorem ggX5_rip_X5_isIn : GoodIn wsX5_rip wsX5_isIn := goodIn_r _ [11] (by decide +kernel) (by decide +kernel)
set_option maxRecDepth 20000 in
theorem gX5_rip_X5_isIn : GoodIn wsX5_rip (va_wsS RX5 175 yX5_isIn wsX5_isIn) := goodIn_app (goodIn_of _ (by decide +kernel)) ggX5_rip_X5_isIn
set_option maxRecDepth 20000 in
theorem ggX5_rip_X5_imageAt : GoodIn wsX5_rip wsX5_imageAt := goodIn_r _ [15, 16, 17, 34, 35, 36, 37, 38, 39, 40, 41] (by decide +kernel) (by decide +kernel)
set_option maxRecDepth 20000 in
theorem gX5_rip_X5_imageAt : GoodIn wsX5_rip (wsV RX5 178 RX5 yX5_imageAt wsX5_imageAt) := goodIn_app (goodIn_of _ (by decide +kernel)) ggX5_rip_X5_imageAt
set_option maxRecDepth 20000 in
theorem ggX5_rip_X5_longestShared : GoodIn wsX5_rip wsX5_longestShared := goodIn_r _ [21, 4, 22, 23, 24, 25, 26, 27, 28, 29, 7, 30, 31, 32, 33, 46, 47, 48, 49, 50, 34, 35, 36, 37, 38, 39, 40, 41] (by decide +kernel) (by decide +kernel)
set_option maxRecDepth 20000 in
theorem gX5_rip_X5_longestShared : GoodIn wsX5_rip (wsV RX5 182 RX5 yX5_longestShared wsX5_longestShared) := goodIn_app (goodIn_of _ (by decide +kernel)) ggX5_rip_X5_longestShared
theorem dX5_rip_0 : decode cX5_rip 0 = .ok (.iload_n 1, 1) := by decide +kernel
theorem dX5_rip_1 : decode cX5_rip 1 = .ok (.iconst 2, 1) := by decide +kernel
theorem dX5_rip_2 : decode cX5_rip 2 = .ok (.invokestatic 57, 3) := by decide +kernel
theorem dX5_rip_5 : decode cX5_rip 5 = .ok (.ifCond .ne 6, 3) := by decide +kernel
theorem dX5_rip_8 : decode cX5_rip 8 = .ok (.bipush (-2), 2) := by decide +kernel
theorem dX5_rip_10 : decode cX5_rip 10 = .ok (.ireturn, 1) := by decide +kernel
theorem dX5_rip_11 : decode cX5_rip 11 = .ok (.aload_n 0, 1) := by decide +kernel
theorem dX5_rip_12 : decode cX5_rip 12 = .ok (.getfield 172, 3) := by decide +kernel
theorem dX5_rip_15 : decode cX5_rip 15 = .ok (.iload_n 1, 1) := by decide +kernel
theorem dX5_rip_16 : decode cX5_rip 16 = .ok (.invokestatic 175, 3) := by decide +kernel
theorem dX5_rip_19 : decode cX5_rip 19 = .ok (.ifCond .ne 6, 3) := by decide +kernel
theorem dX5_rip_22 : decode cX5_rip 22 = .ok (.bipush (-3), 2) := by decide +kernel
theorem dX5_rip_24 : decode cX5_rip 24 = .ok (.ireturn, 1) := by decide +kernel
theorem dX5_rip_25 : decode cX5_rip 25 = .ok (.aload_n 0, 1) := by decide +kernel
theorem dX5_rip_26 : decode cX5_rip 26 = .ok (.getfield 10, 3) := by decide +kernel
theorem dX5_rip_29 : decode cX5_rip 29 = .ok (.getfield 47, 3) := by decide +kernel
theorem dX5_rip_32 : decode cX5_rip 32 = .ok (.astore_n 2, 1) := by decide +kernel
theorem dX5_rip_33 : decode cX5_rip 33 = .ok (.aload_n 0, 1) := by decide +kernel
theorem dX5_rip_34 : decode cX5_rip 34 = .ok (.iload_n 1, 1) := by decide +kernel
theorem dX5_rip_35 : decode cX5_rip 35 = .ok (.invokevirtual 178, 3) := by decide +kernel
theorem dX5_rip_38 : decode cX5_rip 38 = .ok (.getfield 47, 3) := by decide +kernel
theorem dX5_rip_41 : decode cX5_rip 41 = .ok (.astore_n 3, 1) := by decide +kernel
theorem dX5_rip_42 : decode cX5_rip 42 = .ok (.aload_n 2, 1) := by decide +kernel
theorem dX5_rip_43 : decode cX5_rip 43 = .ok (.getfield 69, 3) := by decide +kernel
theorem dX5_rip_46 : decode cX5_rip 46 = .ok (.aload_n 3, 1) := by decide +kernel
theorem dX5_rip_47 : decode cX5_rip 47 = .ok (.getfield 69, 3) := by decide +kernel
theorem dX5_rip_50 : decode cX5_rip 50 = .ok (.iadd, 1) := by decide +kernel
theorem dX5_rip_51 : decode cX5_rip 51 = .ok (.iconst 2, 1) := by decide +kernel
theorem dX5_rip_52 : decode cX5_rip 52 = .ok (.aload_n 0, 1) := by decide +kernel
theorem dX5_rip_53 : decode cX5_rip 53 = .ok (.aload_n 2, 1) := by decide +kernel
theorem dX5_rip_54 : decode cX5_rip 54 = .ok (.aload_n 3, 1) := by decide +kernel
theorem dX5_rip_55 : decode cX5_rip 55 = .ok (.invokevirtual 182, 3) := by decide +kernel
theorem dX5_rip_58 : decode cX5_rip 58 = .ok (.imul, 1) := by decide +kernel
theorem dX5_rip_59 : decode cX5_rip 59 = .ok (.isub, 1) := by decide +kernel
theorem dX5_rip_60 : decode cX5_rip 60 = .ok (.ireturn, 1) := by decide +kernel
set_option maxRecDepth 20000 in
theorem ggX5_longestShared_X5_put : GoodIn wsX5_longestShared wsX5_put := goodIn_r _ [11] (by decide +kernel) (by decide +kernel)
set_option maxRecDepth 20000 in
theorem gX5_longestShared_X5_put : GoodIn wsX5_longestShared (va_wsS RX5 83 yX5_put wsX5_put) := goodIn_app (goodIn_of _ (by decide +kernel)) ggX5_longestShared_X5_put
set_option maxRecDepth 20000 in
theorem ggX5_longestShared_X5_at : GoodIn wsX5_longestShared wsX5_at := goodIn_r _ [14] (by decide +kernel) (by decide +kernel)
set_option maxRecDepth 20000 in
theorem gX5_longestShared_X5_at : GoodIn wsX5_longestShared (va_wsS RX5 186 yX5_at wsX5_at) := goodIn_app (goodIn_of _ (by decide +kernel)) ggX5_longestShared_X5_at
theorem dX5_longestShared_0 : decode cX5_longestShared 0 = .ok (.iconst 0, 1) := by decide +kernel
theorem dX5_longestShared_1 : decode cX5_longestShared 1 = .ok (.istore_n 3, 1) := by decide +kernel
theorem dX5_longestShared_2 : decode cX5_longestShared 2 = .ok (.iload_n 3, 1) := by decide +kernel
theorem dX5_longestShared_3 : decode cX5_longestShared 3 = .ok (.aload_n 2, 1) := by decide +kernel
theorem dX5_longestShared_4 : decode cX5_longestShared 4 = .ok (.getfield 69, 3) := by decide +kernel
theorem dX5_longestShared_7 : decode cX5_longestShared 7 = .ok (.if_icmp .gt 18, 3) := by decide +kernel
theorem dX5_longestShared_10 : decode cX5_longestShared 10 = .ok (.aload_n 0, 1) := by decide +kernel
theorem dX5_longestShared_11 : decode cX5_longestShared 11 = .ok (.getfield 43, 3) := by decide +kernel
theorem dX5_longestShared_14 : decode cX5_longestShared 14 = .ok (.iload_n 3, 1) := by decide +kernel
theorem dX5_longestShared_15 : decode cX5_longestShared 15 = .ok (.iconst 0, 1) := by decide +kernel
theorem dX5_longestShared_16 : decode cX5_longestShared 16 = .ok (.invokestatic 83, 3) := by decide +kernel
theorem dX5_longestShared_19 : decode cX5_longestShared 19 = .ok (.iinc 3 1, 3) := by decide +kernel
theorem dX5_longestShared_22 : decode cX5_longestShared 22 = .ok (.goto (-20), 3) := by decide +kernel
theorem dX5_longestShared_25 : decode cX5_longestShared 25 = .ok (.iconst 0, 1) := by decide +kernel
theorem dX5_longestShared_26 : decode cX5_longestShared 26 = .ok (.istore_n 3, 1) := by decide +kernel
theorem dX5_longestShared_27 : decode cX5_longestShared 27 = .ok (.iload_n 3, 1) := by decide +kernel
theorem dX5_longestShared_28 : decode cX5_longestShared 28 = .ok (.aload_n 1, 1) := by decide +kernel
theorem dX5_longestShared_29 : decode cX5_longestShared 29 = .ok (.getfield 69, 3) := by decide +kernel
theorem dX5_longestShared_32 : decode cX5_longestShared 32 = .ok (.if_icmp .ge 107, 3) := by decide +kernel
theorem dX5_longestShared_35 : decode cX5_longestShared 35 = .ok (.iconst 0, 1) := by decide +kernel
theorem dX5_longestShared_36 : decode cX5_longestShared 36 = .ok (.istore 4, 2) := by decide +kernel
theorem dX5_longestShared_38 : decode cX5_longestShared 38 = .ok (.iconst 0, 1) := by decide +kernel
theorem dX5_longestShared_39 : decode cX5_longestShared 39 = .ok (.istore 5, 2) := by decide +kernel
theorem dX5_longestShared_41 : decode cX5_longestShared 41 = .ok (.iload 5, 2) := by decide +kernel
theorem dX5_longestShared_43 : decode cX5_longestShared 43 = .ok (.aload_n 2, 1) := by decide +kernel
theorem dX5_longestShared_44 : decode cX5_longestShared 44 = .ok (.getfield 69, 3) := by decide +kernel
theorem dX5_longestShared_47 : decode cX5_longestShared 47 = .ok (.if_icmp .ge 86, 3) := by decide +kernel
theorem dX5_longestShared_50 : decode cX5_longestShared 50 = .ok (.aload_n 0, 1) := by decide +kernel
theorem dX5_longestShared_51 : decode cX5_longestShared 51 = .ok (.getfield 43, 3) := by decide +kernel
theorem dX5_longestShared_54 : decode cX5_longestShared 54 = .ok (.iload 5, 2) := by decide +kernel
theorem dX5_longestShared_56 : decode cX5_longestShared 56 = .ok (.iconst 1, 1) := by decide +kernel
theorem dX5_longestShared_57 : decode cX5_longestShared 57 = .ok (.iadd, 1) := by decide +kernel
theorem dX5_longestShared_58 : decode cX5_longestShared 58 = .ok (.invokestatic 186, 3) := by decide +kernel
theorem dX5_longestShared_61 : decode cX5_longestShared 61 = .ok (.istore 6, 2) := by decide +kernel
theorem dX5_longestShared_63 : decode cX5_longestShared 63 = .ok (.aload_n 1, 1) := by decide +kernel
theorem dX5_longestShared_64 : decode cX5_longestShared 64 = .ok (.getfield 190, 3) := by decide +kernel
theorem dX5_longestShared_67 : decode cX5_longestShared 67 = .ok (.iload_n 3, 1) := by decide +kernel
theorem dX5_longestShared_68 : decode cX5_longestShared 68 = .ok (.invokestatic 186, 3) := by decide +kernel
theorem dX5_longestShared_71 : decode cX5_longestShared 71 = .ok (.aload_n 2, 1) := by decide +kernel
theorem dX5_longestShared_72 : decode cX5_longestShared 72 = .ok (.getfield 190, 3) := by decide +kernel
theorem dX5_longestShared_75 : decode cX5_longestShared 75 = .ok (.iload 5, 2) := by decide +kernel
theorem dX5_longestShared_77 : decode cX5_longestShared 77 = .ok (.invokestatic 186, 3) := by decide +kernel
theorem dX5_longestShared_80 : decode cX5_longestShared 80 = .ok (.if_icmp .ne 10, 3) := by decide +kernel
theorem dX5_longestShared_83 : decode cX5_longestShared 83 = .ok (.iload 4, 2) := by decide +kernel
theorem dX5_longestShared_85 : decode cX5_longestShared 85 = .ok (.iconst 1, 1) := by decide +kernel
theorem dX5_longestShared_86 : decode cX5_longestShared 86 = .ok (.iadd, 1) := by decide +kernel
theorem dX5_longestShared_87 : decode cX5_longestShared 87 = .ok (.goto 4, 3) := by decide +kernel
theorem dX5_longestShared_90 : decode cX5_longestShared 90 = .ok (.iconst 0, 1) := by decide +kernel
theorem dX5_longestShared_91 : decode cX5_longestShared 91 = .ok (.istore 7, 2) := by decide +kernel
theorem dX5_longestShared_93 : decode cX5_longestShared 93 = .ok (.aload_n 0, 1) := by decide +kernel
theorem dX5_longestShared_94 : decode cX5_longestShared 94 = .ok (.getfield 43, 3) := by decide +kernel
theorem dX5_longestShared_97 : decode cX5_longestShared 97 = .ok (.iload 5, 2) := by decide +kernel
theorem dX5_longestShared_99 : decode cX5_longestShared 99 = .ok (.iconst 1, 1) := by decide +kernel
theorem dX5_longestShared_100 : decode cX5_longestShared 100 = .ok (.iadd, 1) := by decide +kernel
theorem dX5_longestShared_101 : decode cX5_longestShared 101 = .ok (.iload 7, 2) := by decide +kernel
theorem dX5_longestShared_103 : decode cX5_longestShared 103 = .ok (.iload 6, 2) := by decide +kernel
theorem dX5_longestShared_105 : decode cX5_longestShared 105 = .ok (.aload_n 0, 1) := by decide +kernel
theorem dX5_longestShared_106 : decode cX5_longestShared 106 = .ok (.getfield 43, 3) := by decide +kernel
theorem dX5_longestShared_109 : decode cX5_longestShared 109 = .ok (.iload 5, 2) := by decide +kernel
theorem dX5_longestShared_111 : decode cX5_longestShared 111 = .ok (.invokestatic 186, 3) := by decide +kernel
theorem dX5_longestShared_114 : decode cX5_longestShared 114 = .ok (.invokestatic 193, 3) := by decide +kernel
theorem dX5_longestShared_117 : decode cX5_longestShared 117 = .ok (.invokestatic 193, 3) := by decide +kernel
theorem dX5_longestShared_120 : decode cX5_longestShared 120 = .ok (.invokestatic 83, 3) := by decide +kernel
theorem dX5_longestShared_123 : decode cX5_longestShared 123 = .ok (.iload 6, 2) := by decide +kernel
theorem dX5_longestShared_125 : decode cX5_longestShared 125 = .ok (.istore 4, 2) := by decide +kernel
theorem dX5_longestShared_127 : decode cX5_longestShared 127 = .ok (.iinc 5 1, 3) := by decide +kernel
theorem dX5_longestShared_130 : decode cX5_longestShared 130 = .ok (.goto (-89), 3) := by decide +kernel
theorem dX5_longestShared_133 : decode cX5_longestShared 133 = .ok (.iinc 3 1, 3) := by decide +kernel
theorem dX5_longestShared_136 : decode cX5_longestShared 136 = .ok (.goto (-109), 3) := by decide +kernel
theorem dX5_longestShared_139 : decode cX5_longestShared 139 = .ok (.aload_n 0, 1) := by decide +kernel
theorem dX5_longestShared_140 : decode cX5_longestShared 140 = .ok (.getfield 43, 3) := by decide +kernel
theorem dX5_longestShared_143 : decode cX5_longestShared 143 = .ok (.aload_n 2, 1) := by decide +kernel
theorem dX5_longestShared_144 : decode cX5_longestShared 144 = .ok (.getfield 69, 3) := by decide +kernel
theorem dX5_longestShared_147 : decode cX5_longestShared 147 = .ok (.invokestatic 186, 3) := by decide +kernel
theorem dX5_longestShared_150 : decode cX5_longestShared 150 = .ok (.ireturn, 1) := by decide +kernel
set_option maxRecDepth 20000 in
theorem ggX5_hold_X5_isBelow : GoodIn wsX5_hold wsX5_isBelow := goodIn_r _ [4] (by decide +kernel) (by decide +kernel)
set_option maxRecDepth 20000 in
theorem gX5_hold_X5_isBelow : GoodIn wsX5_hold (va_wsS RX5 57 yX5_isBelow wsX5_isBelow) := goodIn_app (goodIn_of _ (by decide +kernel)) ggX5_hold_X5_isBelow
set_option maxRecDepth 20000 in
theorem ggX5_hold_X5_leastBurden : GoodIn wsX5_hold wsX5_leastBurden := goodIn_r _ [8, 9, 10, 11, 12, 13, 14, 15, 16, 17, 18, 3, 19, 20, 21, 22, 23, 29, 30, 31, 32, 33, 34, 35, 36, 37, 38, 39, 40, 41, 42, 43, 44, 45] (by decide +kernel) (by decide +kernel)
set_option maxRecDepth 20000 in
theorem gX5_hold_X5_leastBurden : GoodIn wsX5_hold (wsV RX5 198 RX5 yX5_leastBurden wsX5_leastBurden) := goodIn_app (goodIn_of _ (by decide +kernel)) ggX5_hold_X5_leastBurden
set_option maxRecDepth 20000 in
theorem ggX5_hold_X5_fewestOfFirst : GoodIn wsX5_hold wsX5_fewestOfFirst := goodIn_r _ [27, 9, 10, 28, 20, 21, 22, 14, 23, 16, 17, 18, 3, 19, 29, 30, 31, 32, 33, 34, 35, 36, 37, 38, 39, 40, 41, 42, 43, 44, 45] (by decide +kernel) (by decide +kernel)
set_option maxRecDepth 20000 in
theorem gX5_hold_X5_fewestOfFirst : GoodIn wsX5_hold (wsV RX5 201 RX5 yX5_fewestOfFirst wsX5_fewestOfFirst) := goodIn_app (goodIn_of _ (by decide +kernel)) ggX5_hold_X5_fewestOfFirst
theorem dX5_hold_0 : decode cX5_hold 0 = .ok (.iload_n 1, 1) := by decide +kernel
theorem dX5_hold_1 : decode cX5_hold 1 = .ok (.iconst 1, 1) := by decide +kernel
theorem dX5_hold_2 : decode cX5_hold 2 = .ok (.if_icmp .lt 17, 3) := by decide +kernel
theorem dX5_hold_5 : decode cX5_hold 5 = .ok (.iload_n 1, 1) := by decide +kernel
theorem dX5_hold_6 : decode cX5_hold 6 = .ok (.bipush 9, 2) := by decide +kernel
theorem dX5_hold_8 : decode cX5_hold 8 = .ok (.if_icmp .gt 11, 3) := by decide +kernel
theorem dX5_hold_11 : decode cX5_hold 11 = .ok (.iload_n 2, 1) := by decide +kernel
theorem dX5_hold_12 : decode cX5_hold 12 = .ok (.iconst 2, 1) := by decide +kernel
theorem dX5_hold_13 : decode cX5_hold 13 = .ok (.invokestatic 57, 3) := by decide +kernel
theorem dX5_hold_16 : decode cX5_hold 16 = .ok (.ifCond .ne 6, 3) := by decide +kernel
theorem dX5_hold_19 : decode cX5_hold 19 = .ok (.bipush (-2), 2) := by decide +kernel
theorem dX5_hold_21 : decode cX5_hold 21 = .ok (.ireturn, 1) := by decide +kernel
theorem dX5_hold_22 : decode cX5_hold 22 = .ok (.aload_n 0, 1) := by decide +kernel
theorem dX5_hold_23 : decode cX5_hold 23 = .ok (.iload_n 1, 1) := by decide +kernel
theorem dX5_hold_24 : decode cX5_hold 24 = .ok (.invokevirtual 198, 3) := by decide +kernel
theorem dX5_hold_27 : decode cX5_hold 27 = .ok (.istore_n 3, 1) := by decide +kernel
theorem dX5_hold_28 : decode cX5_hold 28 = .ok (.iload_n 2, 1) := by decide +kernel
theorem dX5_hold_29 : decode cX5_hold 29 = .ok (.ifCond .ne 7, 3) := by decide +kernel
theorem dX5_hold_32 : decode cX5_hold 32 = .ok (.iload_n 3, 1) := by decide +kernel
theorem dX5_hold_33 : decode cX5_hold 33 = .ok (.goto 9, 3) := by decide +kernel
theorem dX5_hold_36 : decode cX5_hold 36 = .ok (.aload_n 0, 1) := by decide +kernel
theorem dX5_hold_37 : decode cX5_hold 37 = .ok (.iload_n 1, 1) := by decide +kernel
theorem dX5_hold_38 : decode cX5_hold 38 = .ok (.iload_n 3, 1) := by decide +kernel
theorem dX5_hold_39 : decode cX5_hold 39 = .ok (.invokevirtual 201, 3) := by decide +kernel
theorem dX5_hold_42 : decode cX5_hold 42 = .ok (.ireturn, 1) := by decide +kernel
set_option maxRecDepth 20000 in
theorem ggX5_leastBurden_X2_tightnessFrom : GoodIn wsX5_leastBurden wsX2_tightnessFrom := goodIn_r _ [7, 8, 9, 10, 11, 12, 29, 30, 31, 32, 33] (by decide +kernel) (by decide +kernel)
set_option maxRecDepth 20000 in
theorem gX5_leastBurden_X2_tightnessFrom : GoodIn wsX5_leastBurden (wsV RX5 204 RX2 yX2_tightnessFrom wsX2_tightnessFrom) := goodIn_app (goodIn_of _ (by decide +kernel)) ggX5_leastBurden_X2_tightnessFrom
set_option maxRecDepth 20000 in
theorem ggX5_leastBurden_X2_stretchesFrom : GoodIn wsX5_leastBurden wsX2_stretchesFrom := goodIn_r _ [16, 8, 9, 10, 11, 12, 29, 30, 31, 32, 33] (by decide +kernel) (by decide +kernel)
set_option maxRecDepth 20000 in
theorem gX5_leastBurden_X2_stretchesFrom : GoodIn wsX5_leastBurden (wsV RX5 207 RX2 yX2_stretchesFrom wsX2_stretchesFrom) := goodIn_app (goodIn_of _ (by decide +kernel)) ggX5_leastBurden_X2_stretchesFrom
theorem dX5_leastBurden_0 : decode cX5_leastBurden 0 = .ok (.aload_n 0, 1) := by decide +kernel
theorem dX5_leastBurden_1 : decode cX5_leastBurden 1 = .ok (.getfield 10, 3) := by decide +kernel
theorem dX5_leastBurden_4 : decode cX5_leastBurden 4 = .ok (.getfield 47, 3) := by decide +kernel
theorem dX5_leastBurden_7 : decode cX5_leastBurden 7 = .ok (.iconst 0, 1) := by decide +kernel
theorem dX5_leastBurden_8 : decode cX5_leastBurden 8 = .ok (.invokevirtual 204, 3) := by decide +kernel
theorem dX5_leastBurden_11 : decode cX5_leastBurden 11 = .ok (.istore_n 2, 1) := by decide +kernel
theorem dX5_leastBurden_12 : decode cX5_leastBurden 12 = .ok (.iconst 0, 1) := by decide +kernel
theorem dX5_leastBurden_13 : decode cX5_leastBurden 13 = .ok (.istore_n 3, 1) := by decide +kernel
theorem dX5_leastBurden_14 : decode cX5_leastBurden 14 = .ok (.iload_n 3, 1) := by decide +kernel
theorem dX5_leastBurden_15 : decode cX5_leastBurden 15 = .ok (.iload_n 2, 1) := by decide +kernel
theorem dX5_leastBurden_16 : decode cX5_leastBurden 16 = .ok (.if_icmp .ge 27, 3) := by decide +kernel
theorem dX5_leastBurden_19 : decode cX5_leastBurden 19 = .ok (.aload_n 0, 1) := by decide +kernel
theorem dX5_leastBurden_20 : decode cX5_leastBurden 20 = .ok (.getfield 10, 3) := by decide +kernel
theorem dX5_leastBurden_23 : decode cX5_leastBurden 23 = .ok (.getfield 47, 3) := by decide +kernel
theorem dX5_leastBurden_26 : decode cX5_leastBurden 26 = .ok (.iconst 0, 1) := by decide +kernel
theorem dX5_leastBurden_27 : decode cX5_leastBurden 27 = .ok (.iload_n 3, 1) := by decide +kernel
theorem dX5_leastBurden_28 : decode cX5_leastBurden 28 = .ok (.invokevirtual 207, 3) := by decide +kernel
theorem dX5_leastBurden_31 : decode cX5_leastBurden 31 = .ok (.iload_n 1, 1) := by decide +kernel
theorem dX5_leastBurden_32 : decode cX5_leastBurden 32 = .ok (.if_icmp .gt 5, 3) := by decide +kernel
theorem dX5_leastBurden_35 : decode cX5_leastBurden 35 = .ok (.iload_n 3, 1) := by decide +kernel
theorem dX5_leastBurden_36 : decode cX5_leastBurden 36 = .ok (.ireturn, 1) := by decide +kernel
theorem dX5_leastBurden_37 : decode cX5_leastBurden 37 = .ok (.iinc 3 1, 3) := by decide +kernel
theorem dX5_leastBurden_40 : decode cX5_leastBurden 40 = .ok (.goto (-26), 3) := by decide +kernel
theorem dX5_leastBurden_43 : decode cX5_leastBurden 43 = .ok (.iload_n 2, 1) := by decide +kernel
theorem dX5_leastBurden_44 : decode cX5_leastBurden 44 = .ok (.ireturn, 1) := by decide +kernel
set_option maxRecDepth 20000 in
theorem ggX5_fewestOfFirst_X2_stretchesFrom : GoodIn wsX5_fewestOfFirst wsX2_stretchesFrom := goodIn_r _ [8, 9, 10, 11, 12, 13, 26, 27, 28, 29, 30] (by decide +kernel) (by decide +kernel)
set_option maxRecDepth 20000 in
theorem gX5_fewestOfFirst_X2_stretchesFrom : GoodIn wsX5_fewestOfFirst (wsV RX5 207 RX2 yX2_stretchesFrom wsX2_stretchesFrom) := goodIn_app (goodIn_of _ (by decide +kernel)) ggX5_fewestOfFirst_X2_stretchesFrom
theorem dX5_fewestOfFirst_0 : decode cX5_fewestOfFirst 0 = .ok (.iconst 0, 1) := by decide +kernel
theorem dX5_fewestOfFirst_1 : decode cX5_fewestOfFirst 1 = .ok (.istore_n 3, 1) := by decide +kernel
theorem dX5_fewestOfFirst_2 : decode cX5_fewestOfFirst 2 = .ok (.iload_n 3, 1) := by decide +kernel
theorem dX5_fewestOfFirst_3 : decode cX5_fewestOfFirst 3 = .ok (.aload_n 0, 1) := by decide +kernel
theorem dX5_fewestOfFirst_4 : decode cX5_fewestOfFirst 4 = .ok (.getfield 10, 3) := by decide +kernel
theorem dX5_fewestOfFirst_7 : decode cX5_fewestOfFirst 7 = .ok (.getfield 47, 3) := by decide +kernel
theorem dX5_fewestOfFirst_10 : decode cX5_fewestOfFirst 10 = .ok (.getfield 69, 3) := by decide +kernel
theorem dX5_fewestOfFirst_13 : decode cX5_fewestOfFirst 13 = .ok (.if_icmp .ge 29, 3) := by decide +kernel
theorem dX5_fewestOfFirst_16 : decode cX5_fewestOfFirst 16 = .ok (.aload_n 0, 1) := by decide +kernel
theorem dX5_fewestOfFirst_17 : decode cX5_fewestOfFirst 17 = .ok (.getfield 10, 3) := by decide +kernel
theorem dX5_fewestOfFirst_20 : decode cX5_fewestOfFirst 20 = .ok (.getfield 47, 3) := by decide +kernel
theorem dX5_fewestOfFirst_23 : decode cX5_fewestOfFirst 23 = .ok (.iload_n 3, 1) := by decide +kernel
theorem dX5_fewestOfFirst_24 : decode cX5_fewestOfFirst 24 = .ok (.iload_n 2, 1) := by decide +kernel
theorem dX5_fewestOfFirst_25 : decode cX5_fewestOfFirst 25 = .ok (.invokevirtual 207, 3) := by decide +kernel
theorem dX5_fewestOfFirst_28 : decode cX5_fewestOfFirst 28 = .ok (.iload_n 1, 1) := by decide +kernel
theorem dX5_fewestOfFirst_29 : decode cX5_fewestOfFirst 29 = .ok (.iconst 1, 1) := by decide +kernel
theorem dX5_fewestOfFirst_30 : decode cX5_fewestOfFirst 30 = .ok (.isub, 1) := by decide +kernel
theorem dX5_fewestOfFirst_31 : decode cX5_fewestOfFirst 31 = .ok (.if_icmp .gt 5, 3) := by decide +kernel
theorem dX5_fewestOfFirst_34 : decode cX5_fewestOfFirst 34 = .ok (.iload_n 3, 1) := by decide +kernel
theorem dX5_fewestOfFirst_35 : decode cX5_fewestOfFirst 35 = .ok (.ireturn, 1) := by decide +kernel
theorem dX5_fewestOfFirst_36 : decode cX5_fewestOfFirst 36 = .ok (.iinc 3 1, 3) := by decide +kernel
theorem dX5_fewestOfFirst_39 : decode cX5_fewestOfFirst 39 = .ok (.goto (-37), 3) := by decide +kernel
theorem dX5_fewestOfFirst_42 : decode cX5_fewestOfFirst 42 = .ok (.aload_n 0, 1) := by decide +kernel
theorem dX5_fewestOfFirst_43 : decode cX5_fewestOfFirst 43 = .ok (.getfield 10, 3) := by decide +kernel
theorem dX5_fewestOfFirst_46 : decode cX5_fewestOfFirst 46 = .ok (.getfield 47, 3) := by decide +kernel
theorem dX5_fewestOfFirst_49 : decode cX5_fewestOfFirst 49 = .ok (.getfield 69, 3) := by decide +kernel
theorem dX5_fewestOfFirst_52 : decode cX5_fewestOfFirst 52 = .ok (.ireturn, 1) := by decide +kernel
set_option maxRecDepth 20000 in
theorem ggX5_hands_X0_count : GoodIn wsX5_hands wsX0_count := goodIn_r _ [9, 10, 11, 12, 13, 14, 15, 16, 17, 18, 19, 20, 21, 8, 22, 23, 24, 25, 26, 27, 28, 29, 30, 31, 32, 33, 34, 35, 36, 37, 38, 39, 40, 53, 54, 55, 56, 57, 58, 59, 60, 61, 62] (by decide +kernel) (by decide +kernel)
set_option maxRecDepth 20000 in
theorem gX5_hands_X0_count : GoodIn wsX5_hands (wsV RX5 210 RX0 yX0_count wsX0_count) := goodIn_app (goodIn_of _ (by decide +kernel)) ggX5_hands_X0_count
set_option maxRecDepth 20000 in
theorem ggX5_hands_X0_fewest : GoodIn wsX5_hands wsX0_fewest := goodIn_r _ [44, 13, 23, 24, 25, 26, 14, 15, 16, 62] (by decide +kernel) (by decide +kernel)
set_option maxRecDepth 20000 in
theorem gX5_hands_X0_fewest : GoodIn wsX5_hands (wsV RX5 214 RX0 yX0_fewest wsX0_fewest) := goodIn_app (goodIn_of _ (by decide +kernel)) ggX5_hands_X0_fewest
theorem dX5_hands_0 : decode cX5_hands 0 = .ok (.aload_n 0, 1) := by decide +kernel
theorem dX5_hands_1 : decode cX5_hands 1 = .ok (.getfield 39, 3) := by decide +kernel
theorem dX5_hands_4 : decode cX5_hands 4 = .ok (.aload_n 0, 1) := by decide +kernel
theorem dX5_hands_5 : decode cX5_hands 5 = .ok (.getfield 10, 3) := by decide +kernel
theorem dX5_hands_8 : decode cX5_hands 8 = .ok (.invokevirtual 210, 3) := by decide +kernel
theorem dX5_hands_11 : decode cX5_hands 11 = .ok (.aload_n 0, 1) := by decide +kernel
theorem dX5_hands_12 : decode cX5_hands 12 = .ok (.getfield 39, 3) := by decide +kernel
theorem dX5_hands_15 : decode cX5_hands 15 = .ok (.aload_n 0, 1) := by decide +kernel
theorem dX5_hands_16 : decode cX5_hands 16 = .ok (.getfield 10, 3) := by decide +kernel
theorem dX5_hands_19 : decode cX5_hands 19 = .ok (.getfield 47, 3) := by decide +kernel
theorem dX5_hands_22 : decode cX5_hands 22 = .ok (.getfield 69, 3) := by decide +kernel
theorem dX5_hands_25 : decode cX5_hands 25 = .ok (.invokevirtual 214, 3) := by decide +kernel
theorem dX5_hands_28 : decode cX5_hands 28 = .ok (.ireturn, 1) := by decide +kernel
set_option maxRecDepth 20000 in
theorem ggX5_who_X2_has : GoodIn wsX5_who wsX2_has := goodIn_r _ [9, 10, 11, 12, 13, 73, 74, 75, 76, 77] (by decide +kernel) (by decide +kernel)
set_option maxRecDepth 20000 in
theorem gX5_who_X2_has : GoodIn wsX5_who (wsV RX5 51 RX2 yX2_has wsX2_has) := goodIn_app (goodIn_of _ (by decide +kernel)) ggX5_who_X2_has
set_option maxRecDepth 20000 in
theorem ggX5_who_X0_count : GoodIn wsX5_who wsX0_count := goodIn_r _ [18, 19, 20, 21, 22, 23, 12, 24, 25, 26, 27, 28, 29, 17, 30, 31, 32, 33, 34, 35, 36, 37, 38, 39, 40, 41, 42, 43, 44, 45, 46, 47, 48, 69, 70, 71, 72, 73, 74, 75, 76, 77, 78] (by decide +kernel) (by decide +kernel)
set_option maxRecDepth 20000 in
theorem gX5_who_X0_count : GoodIn wsX5_who (wsV RX5 210 RX0 yX0_count wsX0_count) := goodIn_app (goodIn_of _ (by decide +kernel)) ggX5_who_X0_count
set_option maxRecDepth 20000 in
theorem ggX5_who_X0_fewest : GoodIn wsX5_who wsX0_fewest := goodIn_r _ [52, 22, 31, 32, 33, 34, 23, 12, 24, 78] (by decide +kernel) (by decide +kernel)
set_option maxRecDepth 20000 in
theorem gX5_who_X0_fewest : GoodIn wsX5_who (wsV RX5 214 RX0 yX0_fewest wsX0_fewest) := goodIn_app (goodIn_of _ (by decide +kernel)) ggX5_who_X0_fewest
set_option maxRecDepth 20000 in
theorem ggX5_who_X0_knitterOf : GoodIn wsX5_who wsX0_knitterOf := goodIn_r _ [56, 22, 23, 12, 24, 57, 58, 59, 17, 60, 35, 36, 37, 38, 78] (by decide +kernel) (by decide +kernel)
set_option maxRecDepth 20000 in
theorem gX5_who_X0_knitterOf : GoodIn wsX5_who (wsV RX5 217 RX0 yX0_knitterOf wsX0_knitterOf) := goodIn_app (goodIn_of _ (by decide +kernel)) ggX5_who_X0_knitterOf
theorem dX5_who_0 : decode cX5_who 0 = .ok (.aload_n 0, 1) := by decide +kernel
theorem dX5_who_1 : decode cX5_who 1 = .ok (.getfield 10, 3) := by decide +kernel
theorem dX5_who_4 : decode cX5_who 4 = .ok (.getfield 47, 3) := by decide +kernel
theorem dX5_who_7 : decode cX5_who 7 = .ok (.iload_n 1, 1) := by decide +kernel
theorem dX5_who_8 : decode cX5_who 8 = .ok (.invokevirtual 51, 3) := by decide +kernel
theorem dX5_who_11 : decode cX5_who 11 = .ok (.ifCond .ne 5, 3) := by decide +kernel
theorem dX5_who_14 : decode cX5_who 14 = .ok (.iconst (-1), 1) := by decide +kernel
theorem dX5_who_15 : decode cX5_who 15 = .ok (.ireturn, 1) := by decide +kernel
theorem dX5_who_16 : decode cX5_who 16 = .ok (.aload_n 0, 1) := by decide +kernel
theorem dX5_who_17 : decode cX5_who 17 = .ok (.getfield 39, 3) := by decide +kernel
theorem dX5_who_20 : decode cX5_who 20 = .ok (.aload_n 0, 1) := by decide +kernel
theorem dX5_who_21 : decode cX5_who 21 = .ok (.getfield 10, 3) := by decide +kernel
theorem dX5_who_24 : decode cX5_who 24 = .ok (.invokevirtual 210, 3) := by decide +kernel
theorem dX5_who_27 : decode cX5_who 27 = .ok (.aload_n 0, 1) := by decide +kernel
theorem dX5_who_28 : decode cX5_who 28 = .ok (.getfield 39, 3) := by decide +kernel
theorem dX5_who_31 : decode cX5_who 31 = .ok (.aload_n 0, 1) := by decide +kernel
theorem dX5_who_32 : decode cX5_who 32 = .ok (.getfield 10, 3) := by decide +kernel
theorem dX5_who_35 : decode cX5_who 35 = .ok (.getfield 47, 3) := by decide +kernel
theorem dX5_who_38 : decode cX5_who 38 = .ok (.getfield 69, 3) := by decide +kernel
theorem dX5_who_41 : decode cX5_who 41 = .ok (.invokevirtual 214, 3) := by decide +kernel
theorem dX5_who_44 : decode cX5_who 44 = .ok (.bipush (-6), 2) := by decide +kernel
theorem dX5_who_46 : decode cX5_who 46 = .ok (.if_icmp .ne 6, 3) := by decide +kernel
theorem dX5_who_49 : decode cX5_who 49 = .ok (.bipush (-6), 2) := by decide +kernel
theorem dX5_who_51 : decode cX5_who 51 = .ok (.ireturn, 1) := by decide +kernel
theorem dX5_who_52 : decode cX5_who 52 = .ok (.aload_n 0, 1) := by decide +kernel
theorem dX5_who_53 : decode cX5_who 53 = .ok (.getfield 39, 3) := by decide +kernel
theorem dX5_who_56 : decode cX5_who 56 = .ok (.iload_n 1, 1) := by decide +kernel
theorem dX5_who_57 : decode cX5_who 57 = .ok (.invokevirtual 217, 3) := by decide +kernel
theorem dX5_who_60 : decode cX5_who 60 = .ok (.ireturn, 1) := by decide +kernel
set_option maxRecDepth 20000 in
theorem ggX5_seen_X5_isBelow : GoodIn wsX5_seen wsX5_isBelow := goodIn_r _ [7] (by decide +kernel) (by decide +kernel)
set_option maxRecDepth 20000 in
theorem gX5_seen_X5_isBelow : GoodIn wsX5_seen (va_wsS RX5 57 yX5_isBelow wsX5_isBelow) := goodIn_app (goodIn_of _ (by decide +kernel)) ggX5_seen_X5_isBelow
set_option maxRecDepth 20000 in
theorem ggX5_seen_X5_near : GoodIn wsX5_seen wsX5_near := goodIn_r _ [10] (by decide +kernel) (by decide +kernel)
set_option maxRecDepth 20000 in
theorem gX5_seen_X5_near : GoodIn wsX5_seen (va_wsS RX5 226 yX5_near wsX5_near) := goodIn_app (goodIn_of _ (by decide +kernel)) ggX5_seen_X5_near
theorem dX5_seen_0 : decode cX5_seen 0 = .ok (.iload_n 1, 1) := by decide +kernel
theorem dX5_seen_1 : decode cX5_seen 1 = .ok (.bipush 10, 2) := by decide +kernel
theorem dX5_seen_3 : decode cX5_seen 3 = .ok (.invokestatic 57, 3) := by decide +kernel
theorem dX5_seen_6 : decode cX5_seen 6 = .ok (.ifCond .ne 6, 3) := by decide +kernel
theorem dX5_seen_9 : decode cX5_seen 9 = .ok (.bipush (-2), 2) := by decide +kernel
theorem dX5_seen_11 : decode cX5_seen 11 = .ok (.ireturn, 1) := by decide +kernel
theorem dX5_seen_12 : decode cX5_seen 12 = .ok (.aload_n 0, 1) := by decide +kernel
theorem dX5_seen_13 : decode cX5_seen 13 = .ok (.getfield 10, 3) := by decide +kernel
theorem dX5_seen_16 : decode cX5_seen 16 = .ok (.getfield 220, 3) := by decide +kernel
theorem dX5_seen_19 : decode cX5_seen 19 = .ok (.bipush 8, 2) := by decide +kernel
theorem dX5_seen_21 : decode cX5_seen 21 = .ok (.if_icmp .lt 6, 3) := by decide +kernel
theorem dX5_seen_24 : decode cX5_seen 24 = .ok (.bipush (-4), 2) := by decide +kernel
theorem dX5_seen_26 : decode cX5_seen 26 = .ok (.ireturn, 1) := by decide +kernel
theorem dX5_seen_27 : decode cX5_seen 27 = .ok (.aload_n 0, 1) := by decide +kernel
theorem dX5_seen_28 : decode cX5_seen 28 = .ok (.getfield 10, 3) := by decide +kernel
theorem dX5_seen_31 : decode cX5_seen 31 = .ok (.dup, 1) := by decide +kernel
theorem dX5_seen_32 : decode cX5_seen 32 = .ok (.getfield 223, 3) := by decide +kernel
theorem dX5_seen_35 : decode cX5_seen 35 = .ok (.iload_n 2, 1) := by decide +kernel
theorem dX5_seen_36 : decode cX5_seen 36 = .ok (.ifCond .eq 10, 3) := by decide +kernel
theorem dX5_seen_39 : decode cX5_seen 39 = .ok (.iload_n 1, 1) := by decide +kernel
theorem dX5_seen_40 : decode cX5_seen 40 = .ok (.invokestatic 226, 3) := by decide +kernel
theorem dX5_seen_43 : decode cX5_seen 43 = .ok (.goto 9, 3) := by decide +kernel
theorem dX5_seen_46 : decode cX5_seen 46 = .ok (.iload_n 1, 1) := by decide +kernel
theorem dX5_seen_47 : decode cX5_seen 47 = .ok (.invokestatic 226, 3) := by decide +kernel
theorem dX5_seen_50 : decode cX5_seen 50 = .ok (.iconst (-1), 1) := by decide +kernel
theorem dX5_seen_51 : decode cX5_seen 51 = .ok (.ixor, 1) := by decide +kernel
theorem dX5_seen_52 : decode cX5_seen 52 = .ok (.iand, 1) := by decide +kernel
theorem dX5_seen_53 : decode cX5_seen 53 = .ok (.putfield 223, 3) := by decide +kernel
theorem dX5_seen_56 : decode cX5_seen 56 = .ok (.aload_n 0, 1) := by decide +kernel
theorem dX5_seen_57 : decode cX5_seen 57 = .ok (.getfield 10, 3) := by decide +kernel
theorem dX5_seen_60 : decode cX5_seen 60 = .ok (.dup, 1) := by decide +kernel
theorem dX5_seen_61 : decode cX5_seen 61 = .ok (.getfield 220, 3) := by decide +kernel
theorem dX5_seen_64 : decode cX5_seen 64 = .ok (.iconst 1, 1) := by decide +kernel
theorem dX5_seen_65 : decode cX5_seen 65 = .ok (.iadd, 1) := by decide +kernel
theorem dX5_seen_66 : decode cX5_seen 66 = .ok (.putfield 220, 3) := by decide +kernel
theorem dX5_seen_69 : decode cX5_seen 69 = .ok (.aload_n 0, 1) := by decide +kernel
theorem dX5_seen_70 : decode cX5_seen 70 = .ok (.getfield 10, 3) := by decide +kernel
theorem dX5_seen_73 : decode cX5_seen 73 = .ok (.getfield 220, 3) := by decide +kernel
theorem dX5_seen_76 : decode cX5_seen 76 = .ok (.ireturn, 1) := by decide +kernel
set_option maxRecDepth 20000 in
theorem ggX5_forget_X3_forgetSights : GoodIn wsX5_forget wsX3_forgetSights := goodIn_r _ [7, 8, 9, 18, 19, 20, 21] (by decide +kernel) (by decide +kernel)
set_option maxRecDepth 20000 in
theorem gX5_forget_X3_forgetSights : GoodIn wsX5_forget (wsV RX5 229 RX3 yX3_forgetSights wsX3_forgetSights) := goodIn_app (goodIn_of _ (by decide +kernel)) ggX5_forget_X3_forgetSights
theorem dX5_forget_0 : decode cX5_forget 0 = .ok (.aload_n 0, 1) := by decide +kernel
theorem dX5_forget_1 : decode cX5_forget 1 = .ok (.getfield 10, 3) := by decide +kernel
theorem dX5_forget_4 : decode cX5_forget 4 = .ok (.getfield 220, 3) := by decide +kernel
theorem dX5_forget_7 : decode cX5_forget 7 = .ok (.istore_n 1, 1) := by decide +kernel
theorem dX5_forget_8 : decode cX5_forget 8 = .ok (.aload_n 0, 1) := by decide +kernel
theorem dX5_forget_9 : decode cX5_forget 9 = .ok (.getfield 10, 3) := by decide +kernel
theorem dX5_forget_12 : decode cX5_forget 12 = .ok (.invokevirtual 229, 3) := by decide +kernel
theorem dX5_forget_15 : decode cX5_forget 15 = .ok (.iload_n 1, 1) := by decide +kernel
theorem dX5_forget_16 : decode cX5_forget 16 = .ok (.ireturn, 1) := by decide +kernel
theorem dX5_tights_0 : decode cX5_tights 0 = .ok (.aload_n 0, 1) := by decide +kernel
theorem dX5_tights_1 : decode cX5_tights 1 = .ok (.getfield 10, 3) := by decide +kernel
theorem dX5_tights_4 : decode cX5_tights 4 = .ok (.getfield 223, 3) := by decide +kernel
theorem dX5_tights_7 : decode cX5_tights 7 = .ok (.ireturn, 1) := by decide +kernel
set_option maxRecDepth 20000 in
theorem ggX5_next_X5_isBelow : GoodIn wsX5_next wsX5_isBelow := goodIn_r _ [6] (by decide +kernel) (by decide +kernel)
set_option maxRecDepth 20000 in
theorem gX5_next_X5_isBelow : GoodIn wsX5_next (va_wsS RX5 57 yX5_isBelow wsX5_isBelow) := goodIn_app (goodIn_of _ (by decide +kernel)) ggX5_next_X5_isBelow
set_option maxRecDepth 20000 in
theorem ggX5_next_X5_mostLeftBy : GoodIn wsX5_next wsX5_mostLeftBy := goodIn_r _ [10, 1, 2, 11, 12, 13, 14, 15, 16, 5, 17, 18, 19, 20, 21, 22, 23, 24, 25, 26, 27, 28, 29, 30, 31, 32, 33, 34, 35, 36] (by decide +kernel) (by decide +kernel)
set_option maxRecDepth 20000 in
theorem gX5_next_X5_mostLeftBy : GoodIn wsX5_next (wsV RX5 232 RX5 yX5_mostLeftBy wsX5_mostLeftBy) := goodIn_app (goodIn_of _ (by decide +kernel)) ggX5_next_X5_mostLeftBy
theorem dX5_next_0 : decode cX5_next 0 = .ok (.iload_n 1, 1) := by decide +kernel
theorem dX5_next_1 : decode cX5_next 1 = .ok (.iconst 2, 1) := by decide +kernel
theorem dX5_next_2 : decode cX5_next 2 = .ok (.invokestatic 57, 3) := by decide +kernel
theorem dX5_next_5 : decode cX5_next 5 = .ok (.ifCond .ne 6, 3) := by decide +kernel
theorem dX5_next_8 : decode cX5_next 8 = .ok (.bipush (-2), 2) := by decide +kernel
theorem dX5_next_10 : decode cX5_next 10 = .ok (.ireturn, 1) := by decide +kernel
theorem dX5_next_11 : decode cX5_next 11 = .ok (.aload_n 0, 1) := by decide +kernel
theorem dX5_next_12 : decode cX5_next 12 = .ok (.getfield 10, 3) := by decide +kernel
theorem dX5_next_15 : decode cX5_next 15 = .ok (.getfield 223, 3) := by decide +kernel
theorem dX5_next_18 : decode cX5_next 18 = .ok (.ifCond .ne 6, 3) := by decide +kernel
theorem dX5_next_21 : decode cX5_next 21 = .ok (.bipush (-6), 2) := by decide +kernel
theorem dX5_next_23 : decode cX5_next 23 = .ok (.ireturn, 1) := by decide +kernel
theorem dX5_next_24 : decode cX5_next 24 = .ok (.iconst 0, 1) := by decide +kernel
theorem dX5_next_25 : decode cX5_next 25 = .ok (.istore_n 2, 1) := by decide +kernel
theorem dX5_next_26 : decode cX5_next 26 = .ok (.iconst 1, 1) := by decide +kernel
theorem dX5_next_27 : decode cX5_next 27 = .ok (.istore_n 3, 1) := by decide +kernel
theorem dX5_next_28 : decode cX5_next 28 = .ok (.iload_n 3, 1) := by decide +kernel
theorem dX5_next_29 : decode cX5_next 29 = .ok (.bipush 10, 2) := by decide +kernel
theorem dX5_next_31 : decode cX5_next 31 = .ok (.if_icmp .ge 24, 3) := by decide +kernel
theorem dX5_next_34 : decode cX5_next 34 = .ok (.aload_n 0, 1) := by decide +kernel
theorem dX5_next_35 : decode cX5_next 35 = .ok (.iload_n 3, 1) := by decide +kernel
theorem dX5_next_36 : decode cX5_next 36 = .ok (.invokevirtual 232, 3) := by decide +kernel
theorem dX5_next_39 : decode cX5_next 39 = .ok (.aload_n 0, 1) := by decide +kernel
theorem dX5_next_40 : decode cX5_next 40 = .ok (.iload_n 2, 1) := by decide +kernel
theorem dX5_next_41 : decode cX5_next 41 = .ok (.invokevirtual 232, 3) := by decide +kernel
theorem dX5_next_44 : decode cX5_next 44 = .ok (.if_icmp .ge 5, 3) := by decide +kernel
theorem dX5_next_47 : decode cX5_next 47 = .ok (.iload_n 3, 1) := by decide +kernel
theorem dX5_next_48 : decode cX5_next 48 = .ok (.istore_n 2, 1) := by decide +kernel
theorem dX5_next_49 : decode cX5_next 49 = .ok (.iinc 3 1, 3) := by decide +kernel
theorem dX5_next_52 : decode cX5_next 52 = .ok (.goto (-24), 3) := by decide +kernel
theorem dX5_next_55 : decode cX5_next 55 = .ok (.iload_n 1, 1) := by decide +kernel
theorem dX5_next_56 : decode cX5_next 56 = .ok (.ifCond .ne 7, 3) := by decide +kernel
theorem dX5_next_59 : decode cX5_next 59 = .ok (.iload_n 2, 1) := by decide +kernel
theorem dX5_next_60 : decode cX5_next 60 = .ok (.goto 8, 3) := by decide +kernel
theorem dX5_next_63 : decode cX5_next 63 = .ok (.aload_n 0, 1) := by decide +kernel
theorem dX5_next_64 : decode cX5_next 64 = .ok (.iload_n 2, 1) := by decide +kernel
theorem dX5_next_65 : decode cX5_next 65 = .ok (.invokevirtual 232, 3) := by decide +kernel
theorem dX5_next_68 : decode cX5_next 68 = .ok (.ireturn, 1) := by decide +kernel
set_option maxRecDepth 20000 in
theorem ggX5_mostLeftBy_X5_near : GoodIn wsX5_mostLeftBy wsX5_near := goodIn_r _ [10] (by decide +kernel) (by decide +kernel)
set_option maxRecDepth 20000 in
theorem gX5_mostLeftBy_X5_near : GoodIn wsX5_mostLeftBy (va_wsS RX5 226 yX5_near wsX5_near) := goodIn_app (goodIn_of _ (by decide +kernel)) ggX5_mostLeftBy_X5_near
set_option maxRecDepth 20000 in
theorem ggX5_mostLeftBy_J6_bitCount_0f7a4 : GoodIn wsX5_mostLeftBy wsJ6_bitCount_0f7a4 := goodIn_r _ [14, 15, 16, 17] (by decide +kernel) (by decide +kernel)
set_option maxRecDepth 20000 in
theorem gX5_mostLeftBy_J6_bitCount_0f7a4 : GoodIn wsX5_mostLeftBy (va_wsS RX5 149 yJ6_bitCount_0f7a4 wsJ6_bitCount_0f7a4) := goodIn_app (goodIn_of _ (by decide +kernel)) ggX5_mostLeftBy_J6_bitCount_0f7a4
theorem dX5_mostLeftBy_0 : decode cX5_mostLeftBy 0 = .ok (.aload_n 0, 1) := by decide +kernel
theorem dX5_mostLeftBy_1 : decode cX5_mostLeftBy 1 = .ok (.getfield 10, 3) := by decide +kernel
theorem dX5_mostLeftBy_4 : decode cX5_mostLeftBy 4 = .ok (.getfield 223, 3) := by decide +kernel
theorem dX5_mostLeftBy_7 : decode cX5_mostLeftBy 7 = .ok (.iload_n 1, 1) := by decide +kernel
theorem dX5_mostLeftBy_8 : decode cX5_mostLeftBy 8 = .ok (.invokestatic 226, 3) := by decide +kernel
theorem dX5_mostLeftBy_11 : decode cX5_mostLeftBy 11 = .ok (.iand, 1) := by decide +kernel
theorem dX5_mostLeftBy_12 : decode cX5_mostLeftBy 12 = .ok (.invokestatic 149, 3) := by decide +kernel
theorem dX5_mostLeftBy_15 : decode cX5_mostLeftBy 15 = .ok (.istore_n 2, 1) := by decide +kernel
theorem dX5_mostLeftBy_16 : decode cX5_mostLeftBy 16 = .ok (.aload_n 0, 1) := by decide +kernel
theorem dX5_mostLeftBy_17 : decode cX5_mostLeftBy 17 = .ok (.getfield 10, 3) := by decide +kernel
theorem dX5_mostLeftBy_20 : decode cX5_mostLeftBy 20 = .ok (.getfield 223, 3) := by decide +kernel
theorem dX5_mostLeftBy_23 : decode cX5_mostLeftBy 23 = .ok (.iload_n 1, 1) := by decide +kernel
theorem dX5_mostLeftBy_24 : decode cX5_mostLeftBy 24 = .ok (.invokestatic 226, 3) := by decide +kernel
theorem dX5_mostLeftBy_27 : decode cX5_mostLeftBy 27 = .ok (.iconst (-1), 1) := by decide +kernel
theorem dX5_mostLeftBy_28 : decode cX5_mostLeftBy 28 = .ok (.ixor, 1) := by decide +kernel
theorem dX5_mostLeftBy_29 : decode cX5_mostLeftBy 29 = .ok (.iand, 1) := by decide +kernel
theorem dX5_mostLeftBy_30 : decode cX5_mostLeftBy 30 = .ok (.invokestatic 149, 3) := by decide +kernel
theorem dX5_mostLeftBy_33 : decode cX5_mostLeftBy 33 = .ok (.istore_n 3, 1) := by decide +kernel
theorem dX5_mostLeftBy_34 : decode cX5_mostLeftBy 34 = .ok (.iload_n 2, 1) := by decide +kernel
theorem dX5_mostLeftBy_35 : decode cX5_mostLeftBy 35 = .ok (.iload_n 3, 1) := by decide +kernel
theorem dX5_mostLeftBy_36 : decode cX5_mostLeftBy 36 = .ok (.invokestatic 193, 3) := by decide +kernel
theorem dX5_mostLeftBy_39 : decode cX5_mostLeftBy 39 = .ok (.ireturn, 1) := by decide +kernel
set_option maxRecDepth 20000 in
theorem ggX5_moths_X2_hasAll : GoodIn wsX5_moths wsX2_hasAll := goodIn_r _ [11, 12, 51, 52, 53, 54, 55] (by decide +kernel) (by decide +kernel)
set_option maxRecDepth 20000 in
theorem gX5_moths_X2_hasAll : GoodIn wsX5_moths (wsV RX5 154 RX2 yX2_hasAll wsX2_hasAll) := goodIn_app (goodIn_of _ (by decide +kernel)) ggX5_moths_X2_hasAll
set_option maxRecDepth 20000 in
theorem ggX5_moths_X5_isBelow : GoodIn wsX5_moths wsX5_isBelow := goodIn_r _ [16] (by decide +kernel) (by decide +kernel)
set_option maxRecDepth 20000 in
theorem gX5_moths_X5_isBelow : GoodIn wsX5_moths (va_wsS RX5 57 yX5_isBelow wsX5_isBelow) := goodIn_app (goodIn_of _ (by decide +kernel)) ggX5_moths_X5_isBelow
set_option maxRecDepth 20000 in
theorem ggX5_moths_X2_withAnchors : GoodIn wsX5_moths wsX2_withAnchors := goodIn_r _ [20, 12, 21, 22, 15, 23, 24, 25, 51, 52, 53, 54, 55] (by decide +kernel) (by decide +kernel)
set_option maxRecDepth 20000 in
theorem gX5_moths_X2_withAnchors : GoodIn wsX5_moths (wsV RX5 157 RX2 yX2_withAnchors wsX2_withAnchors) := goodIn_app (goodIn_of _ (by decide +kernel)) ggX5_moths_X2_withAnchors
set_option maxRecDepth 20000 in
theorem ggX5_moths_J6_bitCount_0f7a4 : GoodIn wsX5_moths wsJ6_bitCount_0f7a4 := goodIn_r _ [29, 30, 31, 32] (by decide +kernel) (by decide +kernel)
set_option maxRecDepth 20000 in
theorem gX5_moths_J6_bitCount_0f7a4 : GoodIn wsX5_moths (va_wsS RX5 149 yJ6_bitCount_0f7a4 wsJ6_bitCount_0f7a4) := goodIn_app (goodIn_of _ (by decide +kernel)) ggX5_moths_J6_bitCount_0f7a4
set_option maxRecDepth 20000 in
theorem ggX5_moths_X5_termOfTenths : GoodIn wsX5_moths wsX5_termOfTenths := goodIn_r _ [35] (by decide +kernel) (by decide +kernel)
set_option maxRecDepth 20000 in
theorem gX5_moths_X5_termOfTenths : GoodIn wsX5_moths (va_wsS RX5 241 yX5_termOfTenths wsX5_termOfTenths) := goodIn_app (goodIn_of _ (by decide +kernel)) ggX5_moths_X5_termOfTenths
set_option maxRecDepth 20000 in
theorem ggX5_moths_X5_power : GoodIn wsX5_moths wsX5_power := goodIn_r _ [38] (by decide +kernel) (by decide +kernel)
set_option maxRecDepth 20000 in
theorem gX5_moths_X5_power : GoodIn wsX5_moths (va_wsS RX5 244 yX5_power wsX5_power) := goodIn_app (goodIn_of _ (by decide +kernel)) ggX5_moths_X5_power
theorem dX5_moths_0 : decode cX5_moths 0 = .ok (.aload_n 0, 1) := by decide +kernel
theorem dX5_moths_1 : decode cX5_moths 1 = .ok (.getfield 10, 3) := by decide +kernel
theorem dX5_moths_4 : decode cX5_moths 4 = .ok (.getfield 47, 3) := by decide +kernel
theorem dX5_moths_7 : decode cX5_moths 7 = .ok (.astore 4, 2) := by decide +kernel
theorem dX5_moths_9 : decode cX5_moths 9 = .ok (.aload 4, 2) := by decide +kernel
theorem dX5_moths_11 : decode cX5_moths 11 = .ok (.iload_n 1, 1) := by decide +kernel
theorem dX5_moths_12 : decode cX5_moths 12 = .ok (.invokevirtual 154, 3) := by decide +kernel
theorem dX5_moths_15 : decode cX5_moths 15 = .ok (.ifCond .ne 7, 3) := by decide +kernel
theorem dX5_moths_18 : decode cX5_moths 18 = .ok (.ldc2_w 235, 3) := by decide +kernel
theorem dX5_moths_21 : decode cX5_moths 21 = .ok (.lreturn, 1) := by decide +kernel
theorem dX5_moths_22 : decode cX5_moths 22 = .ok (.iload_n 2, 1) := by decide +kernel
theorem dX5_moths_23 : decode cX5_moths 23 = .ok (.ifCond .lt 17, 3) := by decide +kernel
theorem dX5_moths_26 : decode cX5_moths 26 = .ok (.iload_n 2, 1) := by decide +kernel
theorem dX5_moths_27 : decode cX5_moths 27 = .ok (.bipush 10, 2) := by decide +kernel
theorem dX5_moths_29 : decode cX5_moths 29 = .ok (.if_icmp .gt 11, 3) := by decide +kernel
theorem dX5_moths_32 : decode cX5_moths 32 = .ok (.iload_n 3, 1) := by decide +kernel
theorem dX5_moths_33 : decode cX5_moths 33 = .ok (.iconst 2, 1) := by decide +kernel
theorem dX5_moths_34 : decode cX5_moths 34 = .ok (.invokestatic 57, 3) := by decide +kernel
theorem dX5_moths_37 : decode cX5_moths 37 = .ok (.ifCond .ne 7, 3) := by decide +kernel
theorem dX5_moths_40 : decode cX5_moths 40 = .ok (.ldc2_w 237, 3) := by decide +kernel
theorem dX5_moths_43 : decode cX5_moths 43 = .ok (.lreturn, 1) := by decide +kernel
theorem dX5_moths_44 : decode cX5_moths 44 = .ok (.aload 4, 2) := by decide +kernel
theorem dX5_moths_46 : decode cX5_moths 46 = .ok (.iload_n 1, 1) := by decide +kernel
theorem dX5_moths_47 : decode cX5_moths 47 = .ok (.invokevirtual 157, 3) := by decide +kernel
theorem dX5_moths_50 : decode cX5_moths 50 = .ok (.istore 5, 2) := by decide +kernel
theorem dX5_moths_52 : decode cX5_moths 52 = .ok (.iload 5, 2) := by decide +kernel
theorem dX5_moths_54 : decode cX5_moths 54 = .ok (.invokestatic 149, 3) := by decide +kernel
theorem dX5_moths_57 : decode cX5_moths 57 = .ok (.istore 6, 2) := by decide +kernel
theorem dX5_moths_59 : decode cX5_moths 59 = .ok (.iload 6, 2) := by decide +kernel
theorem dX5_moths_61 : decode cX5_moths 61 = .ok (.bipush 18, 2) := by decide +kernel
theorem dX5_moths_63 : decode cX5_moths 63 = .ok (.if_icmp .le 7, 3) := by decide +kernel
theorem dX5_moths_66 : decode cX5_moths 66 = .ok (.ldc2_w 239, 3) := by decide +kernel
theorem dX5_moths_69 : decode cX5_moths 69 = .ok (.lreturn, 1) := by decide +kernel
theorem dX5_moths_70 : decode cX5_moths 70 = .ok (.iload 5, 2) := by decide +kernel
theorem dX5_moths_72 : decode cX5_moths 72 = .ok (.aload 4, 2) := by decide +kernel
theorem dX5_moths_74 : decode cX5_moths 74 = .ok (.getfield 114, 3) := by decide +kernel
theorem dX5_moths_77 : decode cX5_moths 77 = .ok (.iand, 1) := by decide +kernel
theorem dX5_moths_78 : decode cX5_moths 78 = .ok (.ifCond .eq 13, 3) := by decide +kernel
theorem dX5_moths_81 : decode cX5_moths 81 = .ok (.iload_n 3, 1) := by decide +kernel
theorem dX5_moths_82 : decode cX5_moths 82 = .ok (.ifCond .ne 7, 3) := by decide +kernel
theorem dX5_moths_85 : decode cX5_moths 85 = .ok (.lconst 0, 1) := by decide +kernel
theorem dX5_moths_86 : decode cX5_moths 86 = .ok (.goto 4, 3) := by decide +kernel
theorem dX5_moths_89 : decode cX5_moths 89 = .ok (.lconst 1, 1) := by decide +kernel
theorem dX5_moths_90 : decode cX5_moths 90 = .ok (.lreturn, 1) := by decide +kernel
theorem dX5_moths_91 : decode cX5_moths 91 = .ok (.bipush 10, 2) := by decide +kernel
theorem dX5_moths_93 : decode cX5_moths 93 = .ok (.iload_n 2, 1) := by decide +kernel
theorem dX5_moths_94 : decode cX5_moths 94 = .ok (.isub, 1) := by decide +kernel
theorem dX5_moths_95 : decode cX5_moths 95 = .ok (.iload_n 3, 1) := by decide +kernel
theorem dX5_moths_96 : decode cX5_moths 96 = .ok (.invokestatic 241, 3) := by decide +kernel
theorem dX5_moths_99 : decode cX5_moths 99 = .ok (.i2l, 1) := by decide +kernel
theorem dX5_moths_100 : decode cX5_moths 100 = .ok (.iload 6, 2) := by decide +kernel
theorem dX5_moths_102 : decode cX5_moths 102 = .ok (.invokestatic 244, 3) := by decide +kernel
theorem dX5_moths_105 : decode cX5_moths 105 = .ok (.lreturn, 1) := by decide +kernel
set_option maxRecDepth 20000 in
theorem ggX5_year_X5_isBelow : GoodIn wsX5_year wsX5_isBelow := goodIn_r _ [12] (by decide +kernel) (by decide +kernel)
set_option maxRecDepth 20000 in
theorem gX5_year_X5_isBelow : GoodIn wsX5_year (va_wsS RX5 57 yX5_isBelow wsX5_isBelow) := goodIn_app (goodIn_of _ (by decide +kernel)) ggX5_year_X5_isBelow
set_option maxRecDepth 20000 in
theorem ggX5_year_X4_begin : GoodIn wsX5_year wsX4_begin := goodIn_r _ [17, 18, 19, 20, 21, 22, 23, 24, 25, 26, 27, 28, 29, 30, 31, 32, 33, 11, 34, 35, 36, 136, 137, 138, 139, 140, 141, 142, 143, 144, 145] (by decide +kernel) (by decide +kernel)
set_option maxRecDepth 20000 in
theorem gX5_year_X4_begin : GoodIn wsX5_year (wsV RX5 127 RX4 yX4_begin wsX4_begin) := goodIn_app (goodIn_of _ (by decide +kernel)) ggX5_year_X4_begin
set_option maxRecDepth 20000 in
theorem ggX5_year_X5_tryDrawn : GoodIn wsX5_year wsX5_tryDrawn := goodIn_r _ [40, 41, 42, 43, 44, 1, 2, 45, 46, 47, 48, 49, 50, 33, 11, 34, 51, 52, 53, 16, 54, 20, 19, 18, 55, 56, 57, 58, 59, 60, 61, 26, 62, 28, 63, 64, 65, 66, 10, 12, 67, 68, 69, 70, 29, 71, 72, 73, 74, 75, 76, 30, 31, 32, 77, 78, 79, 80, 35, 36, 81, 82, 83, 84, 85, 86, 87, 88, 89, 90, 91, 92, 93, 94, 95, 21, 96, 97, 98, 22, 99, 100, 101, 102, 103, 104, 105, 106, 107, 108, 109, 110, 111, 112, 113, 114, 115, 116, 117, 118, 124, 125, 126, 127, 128, 129, 130, 131, 132, 133, 134, 135, 136, 137, 138, 139, 140, 141, 142, 143, 144, 145] (by decide +kernel) (by decide +kernel)
set_option maxRecDepth 20000 in
theorem gX5_year_X5_tryDrawn : GoodIn wsX5_year (wsV RX5 249 RX5 yX5_tryDrawn wsX5_tryDrawn) := goodIn_app (goodIn_of _ (by decide +kernel)) ggX5_year_X5_tryDrawn
set_option maxRecDepth 20000 in
theorem ggX5_year_X2_looseOnes : GoodIn wsX5_year wsX2_looseOnes := goodIn_r _ [122, 28, 29, 32, 33, 11, 34, 71, 72, 141, 142, 143, 144, 145] (by decide +kernel) (by decide +kernel)
set_option maxRecDepth 20000 in
theorem gX5_year_X2_looseOnes : GoodIn wsX5_year (wsV RX5 117 RX2 yX2_looseOnes wsX2_looseOnes) := goodIn_app (goodIn_of _ (by decide +kernel)) ggX5_year_X2_looseOnes
set_option maxRecDepth 20000 in
theorem ggX5_year_J6_bitCount_0f7a4 : GoodIn wsX5_year wsJ6_bitCount_0f7a4 := goodIn_r _ [87, 88, 89, 90] (by decide +kernel) (by decide +kernel)
set_option maxRecDepth 20000 in
theorem gX5_year_J6_bitCount_0f7a4 : GoodIn wsX5_year (va_wsS RX5 149 yJ6_bitCount_0f7a4 wsJ6_bitCount_0f7a4) := goodIn_app (goodIn_of _ (by decide +kernel)) ggX5_year_J6_bitCount_0f7a4
theorem dX5_year_0 : decode cX5_year 0 = .ok (.iload_n 1, 1) := by decide +kernel
theorem dX5_year_1 : decode cX5_year 1 = .ok (.sipush 10000, 3) := by decide +kernel
theorem dX5_year_4 : decode cX5_year 4 = .ok (.invokestatic 57, 3) := by decide +kernel
theorem dX5_year_7 : decode cX5_year 7 = .ok (.ifCond .eq 22, 3) := by decide +kernel
theorem dX5_year_10 : decode cX5_year 10 = .ok (.iload_n 2, 1) := by decide +kernel
theorem dX5_year_11 : decode cX5_year 11 = .ok (.iconst 1, 1) := by decide +kernel
theorem dX5_year_12 : decode cX5_year 12 = .ok (.if_icmp .lt 17, 3) := by decide +kernel
theorem dX5_year_15 : decode cX5_year 15 = .ok (.iload_n 2, 1) := by decide +kernel
theorem dX5_year_16 : decode cX5_year 16 = .ok (.bipush 99, 2) := by decide +kernel
theorem dX5_year_18 : decode cX5_year 18 = .ok (.if_icmp .gt 11, 3) := by decide +kernel
theorem dX5_year_21 : decode cX5_year 21 = .ok (.iload_n 3, 1) := by decide +kernel
theorem dX5_year_22 : decode cX5_year 22 = .ok (.iconst 3, 1) := by decide +kernel
theorem dX5_year_23 : decode cX5_year 23 = .ok (.invokestatic 57, 3) := by decide +kernel
theorem dX5_year_26 : decode cX5_year 26 = .ok (.ifCond .ne 6, 3) := by decide +kernel
theorem dX5_year_29 : decode cX5_year 29 = .ok (.bipush (-2), 2) := by decide +kernel
theorem dX5_year_31 : decode cX5_year 31 = .ok (.ireturn, 1) := by decide +kernel
theorem dX5_year_32 : decode cX5_year 32 = .ok (.aload_n 0, 1) := by decide +kernel
theorem dX5_year_33 : decode cX5_year 33 = .ok (.getfield 32, 3) := by decide +kernel
theorem dX5_year_36 : decode cX5_year 36 = .ok (.aload_n 0, 1) := by decide +kernel
theorem dX5_year_37 : decode cX5_year 37 = .ok (.getfield 10, 3) := by decide +kernel
theorem dX5_year_40 : decode cX5_year 40 = .ok (.getfield 47, 3) := by decide +kernel
theorem dX5_year_43 : decode cX5_year 43 = .ok (.invokevirtual 127, 3) := by decide +kernel
theorem dX5_year_46 : decode cX5_year 46 = .ok (.iload_n 1, 1) := by decide +kernel
theorem dX5_year_47 : decode cX5_year 47 = .ok (.istore 4, 2) := by decide +kernel
theorem dX5_year_49 : decode cX5_year 49 = .ok (.iconst 0, 1) := by decide +kernel
theorem dX5_year_50 : decode cX5_year 50 = .ok (.istore 5, 2) := by decide +kernel
theorem dX5_year_52 : decode cX5_year 52 = .ok (.iload 5, 2) := by decide +kernel
theorem dX5_year_54 : decode cX5_year 54 = .ok (.iload_n 2, 1) := by decide +kernel
theorem dX5_year_55 : decode cX5_year 55 = .ok (.if_icmp .ge 28, 3) := by decide +kernel
theorem dX5_year_58 : decode cX5_year 58 = .ok (.bipush 75, 2) := by decide +kernel
theorem dX5_year_60 : decode cX5_year 60 = .ok (.iload 4, 2) := by decide +kernel
theorem dX5_year_62 : decode cX5_year 62 = .ok (.imul, 1) := by decide +kernel
theorem dX5_year_63 : decode cX5_year 63 = .ok (.bipush 74, 2) := by decide +kernel
theorem dX5_year_65 : decode cX5_year 65 = .ok (.iadd, 1) := by decide +kernel
theorem dX5_year_66 : decode cX5_year 66 = .ok (.ldc 248, 2) := by decide +kernel
theorem dX5_year_68 : decode cX5_year 68 = .ok (.irem, 1) := by decide +kernel
theorem dX5_year_69 : decode cX5_year 69 = .ok (.istore 4, 2) := by decide +kernel
theorem dX5_year_71 : decode cX5_year 71 = .ok (.aload_n 0, 1) := by decide +kernel
theorem dX5_year_72 : decode cX5_year 72 = .ok (.iload 4, 2) := by decide +kernel
theorem dX5_year_74 : decode cX5_year 74 = .ok (.invokevirtual 249, 3) := by decide +kernel
theorem dX5_year_77 : decode cX5_year 77 = .ok (.iinc 5 1, 3) := by decide +kernel
theorem dX5_year_80 : decode cX5_year 80 = .ok (.goto (-28), 3) := by decide +kernel
theorem dX5_year_83 : decode cX5_year 83 = .ok (.iload_n 3, 1) := by decide +kernel
theorem dX5_year_84 : decode cX5_year 84 = .ok (.lookupswitch 64 #[(0, 28), (1, 39)], 28) := by decide +kernel
theorem dX5_year_112 : decode cX5_year 112 = .ok (.aload_n 0, 1) := by decide +kernel
theorem dX5_year_113 : decode cX5_year 113 = .ok (.getfield 32, 3) := by decide +kernel
theorem dX5_year_116 : decode cX5_year 116 = .ok (.getfield 109, 3) := by decide +kernel
theorem dX5_year_119 : decode cX5_year 119 = .ok (.getfield 69, 3) := by decide +kernel
theorem dX5_year_122 : decode cX5_year 122 = .ok (.ireturn, 1) := by decide +kernel
theorem dX5_year_123 : decode cX5_year 123 = .ok (.aload_n 0, 1) := by decide +kernel
theorem dX5_year_124 : decode cX5_year 124 = .ok (.getfield 32, 3) := by decide +kernel
theorem dX5_year_127 : decode cX5_year 127 = .ok (.getfield 109, 3) := by decide +kernel
theorem dX5_year_130 : decode cX5_year 130 = .ok (.getfield 114, 3) := by decide +kernel
theorem dX5_year_133 : decode cX5_year 133 = .ok (.aload_n 0, 1) := by decide +kernel
theorem dX5_year_134 : decode cX5_year 134 = .ok (.getfield 32, 3) := by decide +kernel
theorem dX5_year_137 : decode cX5_year 137 = .ok (.getfield 109, 3) := by decide +kernel
theorem dX5_year_140 : decode cX5_year 140 = .ok (.invokevirtual 117, 3) := by decide +kernel
theorem dX5_year_143 : decode cX5_year 143 = .ok (.ior, 1) := by decide +kernel
theorem dX5_year_144 : decode cX5_year 144 = .ok (.invokestatic 149, 3) := by decide +kernel
theorem dX5_year_147 : decode cX5_year 147 = .ok (.ireturn, 1) := by decide +kernel
theorem dX5_year_148 : decode cX5_year 148 = .ok (.aload_n 0, 1) := by decide +kernel
theorem dX5_year_149 : decode cX5_year 149 = .ok (.getfield 32, 3) := by decide +kernel
theorem dX5_year_152 : decode cX5_year 152 = .ok (.getfield 252, 3) := by decide +kernel
theorem dX5_year_155 : decode cX5_year 155 = .ok (.ireturn, 1) := by decide +kernel
set_option maxRecDepth 20000 in
theorem ggX5_tryDrawn_X3_tightnessOf : GoodIn wsX5_tryDrawn wsX3_tightnessOf := goodIn_r _ [11, 12, 13, 14, 15, 108, 109, 110, 111] (by decide +kernel) (by decide +kernel)
set_option maxRecDepth 20000 in
theorem gX5_tryDrawn_X3_tightnessOf : GoodIn wsX5_tryDrawn (wsV RX5 76 RX3 yX3_tightnessOf wsX3_tightnessOf) := goodIn_app (goodIn_of _ (by decide +kernel)) ggX5_tryDrawn_X3_tightnessOf
set_option maxRecDepth 20000 in
theorem ggX5_tryDrawn_X4_act : GoodIn wsX5_tryDrawn wsX4_act := goodIn_r _ [20, 21, 22, 23, 24, 25, 26, 19, 27, 28, 29, 30, 31, 32, 33, 34, 35, 36, 37, 38, 14, 39, 40, 41, 42, 43, 44, 45, 46, 47, 48, 49, 50, 51, 52, 53, 54, 55, 56, 57, 13, 15, 58, 59, 60, 61, 62, 63, 64, 65, 66, 67, 68, 69, 70, 71, 72, 73, 74, 75, 76, 77, 3, 78, 79, 80, 81, 82, 83, 84, 85, 86, 87, 88, 89, 90, 91, 92, 93, 94, 95, 96, 97, 98, 99, 112, 113, 114, 115, 116, 117, 118, 119, 120, 121] (by decide +kernel) (by decide +kernel)
set_option maxRecDepth 20000 in
theorem gX5_tryDrawn_X4_act : GoodIn wsX5_tryDrawn (wsV RX5 142 RX4 yX4_act wsX4_act) := goodIn_app (goodIn_of _ (by decide +kernel)) ggX5_tryDrawn_X4_act
theorem dX5_tryDrawn_0 : decode cX5_tryDrawn 0 = .ok (.iload_n 1, 1) := by decide +kernel
theorem dX5_tryDrawn_1 : decode cX5_tryDrawn 1 = .ok (.bipush 8, 2) := by decide +kernel
theorem dX5_tryDrawn_3 : decode cX5_tryDrawn 3 = .ok (.irem, 1) := by decide +kernel
theorem dX5_tryDrawn_4 : decode cX5_tryDrawn 4 = .ok (.iconst 3, 1) := by decide +kernel
theorem dX5_tryDrawn_5 : decode cX5_tryDrawn 5 = .ok (.invokestatic 255, 3) := by decide +kernel
theorem dX5_tryDrawn_8 : decode cX5_tryDrawn 8 = .ok (.istore_n 2, 1) := by decide +kernel
theorem dX5_tryDrawn_9 : decode cX5_tryDrawn 9 = .ok (.iload_n 2, 1) := by decide +kernel
theorem dX5_tryDrawn_10 : decode cX5_tryDrawn 10 = .ok (.iconst 3, 1) := by decide +kernel
theorem dX5_tryDrawn_11 : decode cX5_tryDrawn 11 = .ok (.if_icmp .ne 10, 3) := by decide +kernel
theorem dX5_tryDrawn_14 : decode cX5_tryDrawn 14 = .ok (.iload_n 1, 1) := by decide +kernel
theorem dX5_tryDrawn_15 : decode cX5_tryDrawn 15 = .ok (.bipush 8, 2) := by decide +kernel
theorem dX5_tryDrawn_17 : decode cX5_tryDrawn 17 = .ok (.idiv, 1) := by decide +kernel
theorem dX5_tryDrawn_18 : decode cX5_tryDrawn 18 = .ok (.goto 8, 3) := by decide +kernel
theorem dX5_tryDrawn_21 : decode cX5_tryDrawn 21 = .ok (.iload_n 1, 1) := by decide +kernel
theorem dX5_tryDrawn_22 : decode cX5_tryDrawn 22 = .ok (.sipush 192, 3) := by decide +kernel
theorem dX5_tryDrawn_25 : decode cX5_tryDrawn 25 = .ok (.idiv, 1) := by decide +kernel
theorem dX5_tryDrawn_26 : decode cX5_tryDrawn 26 = .ok (.iconst 4, 1) := by decide +kernel
theorem dX5_tryDrawn_27 : decode cX5_tryDrawn 27 = .ok (.irem, 1) := by decide +kernel
theorem dX5_tryDrawn_28 : decode cX5_tryDrawn 28 = .ok (.istore_n 3, 1) := by decide +kernel
theorem dX5_tryDrawn_29 : decode cX5_tryDrawn 29 = .ok (.aload_n 0, 1) := by decide +kernel
theorem dX5_tryDrawn_30 : decode cX5_tryDrawn 30 = .ok (.getfield 32, 3) := by decide +kernel
theorem dX5_tryDrawn_33 : decode cX5_tryDrawn 33 = .ok (.iload_n 2, 1) := by decide +kernel
theorem dX5_tryDrawn_34 : decode cX5_tryDrawn 34 = .ok (.iload_n 1, 1) := by decide +kernel
theorem dX5_tryDrawn_35 : decode cX5_tryDrawn 35 = .ok (.bipush 8, 2) := by decide +kernel
theorem dX5_tryDrawn_37 : decode cX5_tryDrawn 37 = .ok (.idiv, 1) := by decide +kernel
theorem dX5_tryDrawn_38 : decode cX5_tryDrawn 38 = .ok (.bipush 24, 2) := by decide +kernel
theorem dX5_tryDrawn_40 : decode cX5_tryDrawn 40 = .ok (.irem, 1) := by decide +kernel
theorem dX5_tryDrawn_41 : decode cX5_tryDrawn 41 = .ok (.iload_n 1, 1) := by decide +kernel
theorem dX5_tryDrawn_42 : decode cX5_tryDrawn 42 = .ok (.bipush 32, 2) := by decide +kernel
theorem dX5_tryDrawn_44 : decode cX5_tryDrawn 44 = .ok (.idiv, 1) := by decide +kernel
theorem dX5_tryDrawn_45 : decode cX5_tryDrawn 45 = .ok (.iconst 4, 1) := by decide +kernel
theorem dX5_tryDrawn_46 : decode cX5_tryDrawn 46 = .ok (.irem, 1) := by decide +kernel
theorem dX5_tryDrawn_47 : decode cX5_tryDrawn 47 = .ok (.aload_n 0, 1) := by decide +kernel
theorem dX5_tryDrawn_48 : decode cX5_tryDrawn 48 = .ok (.getfield 10, 3) := by decide +kernel
theorem dX5_tryDrawn_51 : decode cX5_tryDrawn 51 = .ok (.iload_n 3, 1) := by decide +kernel
theorem dX5_tryDrawn_52 : decode cX5_tryDrawn 52 = .ok (.invokevirtual 76, 3) := by decide +kernel
theorem dX5_tryDrawn_55 : decode cX5_tryDrawn 55 = .ok (.invokevirtual 142, 3) := by decide +kernel
theorem dX5_tryDrawn_58 : decode cX5_tryDrawn 58 = .ok (.pop, 1) := by decide +kernel
theorem dX5_tryDrawn_59 : decode cX5_tryDrawn 59 = .ok (.return_, 1) := by decide +kernel
set_option maxRecDepth 20000 in
theorem ggX5_image_X5_isBelow : GoodIn wsX5_image wsX5_isBelow := goodIn_r _ [6] (by decide +kernel) (by decide +kernel)
set_option maxRecDepth 20000 in
theorem gX5_image_X5_isBelow : GoodIn wsX5_image (va_wsS RX5 57 yX5_isBelow wsX5_isBelow) := goodIn_app (goodIn_of _ (by decide +kernel)) ggX5_image_X5_isBelow
set_option maxRecDepth 20000 in
theorem ggX5_image_X5_imageAt : GoodIn wsX5_image wsX5_imageAt := goodIn_r _ [10, 11, 12, 40, 41, 42, 43, 44, 45, 46, 47] (by decide +kernel) (by decide +kernel)
set_option maxRecDepth 20000 in
theorem gX5_image_X5_imageAt : GoodIn wsX5_image (wsV RX5 178 RX5 yX5_imageAt wsX5_imageAt) := goodIn_app (goodIn_of _ (by decide +kernel)) ggX5_image_X5_imageAt
set_option maxRecDepth 20000 in
theorem ggX5_image_X3_copy : GoodIn wsX5_image wsX3_copy := goodIn_r _ [17, 18, 19, 20, 21, 22, 23, 24, 25, 26, 27, 28, 29, 30, 31, 32, 5, 33, 34, 35, 36, 37, 38, 16, 39, 48, 49, 50, 51, 52, 53, 54, 55, 56] (by decide +kernel) (by decide +kernel)
set_option maxRecDepth 20000 in
theorem gX5_image_X3_copy : GoodIn wsX5_image (wsV RX5 258 RX3 yX3_copy wsX3_copy) := goodIn_app (goodIn_of _ (by decide +kernel)) ggX5_image_X3_copy
theorem dX5_image_0 : decode cX5_image 0 = .ok (.iload_n 1, 1) := by decide +kernel
theorem dX5_image_1 : decode cX5_image 1 = .ok (.iconst 2, 1) := by decide +kernel
theorem dX5_image_2 : decode cX5_image 2 = .ok (.invokestatic 57, 3) := by decide +kernel
theorem dX5_image_5 : decode cX5_image 5 = .ok (.ifCond .ne 6, 3) := by decide +kernel
theorem dX5_image_8 : decode cX5_image 8 = .ok (.bipush (-2), 2) := by decide +kernel
theorem dX5_image_10 : decode cX5_image 10 = .ok (.ireturn, 1) := by decide +kernel
theorem dX5_image_11 : decode cX5_image 11 = .ok (.aload_n 0, 1) := by decide +kernel
theorem dX5_image_12 : decode cX5_image 12 = .ok (.iload_n 1, 1) := by decide +kernel
theorem dX5_image_13 : decode cX5_image 13 = .ok (.invokevirtual 178, 3) := by decide +kernel
theorem dX5_image_16 : decode cX5_image 16 = .ok (.aload_n 0, 1) := by decide +kernel
theorem dX5_image_17 : decode cX5_image 17 = .ok (.getfield 10, 3) := by decide +kernel
theorem dX5_image_20 : decode cX5_image 20 = .ok (.invokevirtual 258, 3) := by decide +kernel
theorem dX5_image_23 : decode cX5_image 23 = .ok (.aload_n 0, 1) := by decide +kernel
theorem dX5_image_24 : decode cX5_image 24 = .ok (.dup, 1) := by decide +kernel
theorem dX5_image_25 : decode cX5_image 25 = .ok (.getfield 172, 3) := by decide +kernel
theorem dX5_image_28 : decode cX5_image 28 = .ok (.iconst 1, 1) := by decide +kernel
theorem dX5_image_29 : decode cX5_image 29 = .ok (.iload_n 1, 1) := by decide +kernel
theorem dX5_image_30 : decode cX5_image 30 = .ok (.ishl, 1) := by decide +kernel
theorem dX5_image_31 : decode cX5_image 31 = .ok (.ior, 1) := by decide +kernel
theorem dX5_image_32 : decode cX5_image 32 = .ok (.putfield 172, 3) := by decide +kernel
theorem dX5_image_35 : decode cX5_image 35 = .ok (.iconst 1, 1) := by decide +kernel
theorem dX5_image_36 : decode cX5_image 36 = .ok (.ireturn, 1) := by decide +kernel
set_option maxRecDepth 20000 in
theorem ggX5_restore_X5_isBelow : GoodIn wsX5_restore wsX5_isBelow := goodIn_r _ [6] (by decide +kernel) (by decide +kernel)
set_option maxRecDepth 20000 in
theorem gX5_restore_X5_isBelow : GoodIn wsX5_restore (va_wsS RX5 57 yX5_isBelow wsX5_isBelow) := goodIn_app (goodIn_of _ (by decide +kernel)) ggX5_restore_X5_isBelow
set_option maxRecDepth 20000 in
theorem ggX5_restore_X5_isIn : GoodIn wsX5_restore wsX5_isIn := goodIn_r _ [9] (by decide +kernel) (by decide +kernel)
set_option maxRecDepth 20000 in
theorem gX5_restore_X5_isIn : GoodIn wsX5_restore (va_wsS RX5 175 yX5_isIn wsX5_isIn) := goodIn_app (goodIn_of _ (by decide +kernel)) ggX5_restore_X5_isIn
set_option maxRecDepth 20000 in
theorem ggX5_restore_X5_imageAt : GoodIn wsX5_restore wsX5_imageAt := goodIn_r _ [13, 14, 15, 43, 44, 45, 46, 47, 48, 49, 50] (by decide +kernel) (by decide +kernel)
set_option maxRecDepth 20000 in
theorem gX5_restore_X5_imageAt : GoodIn wsX5_restore (wsV RX5 178 RX5 yX5_imageAt wsX5_imageAt) := goodIn_app (goodIn_of _ (by decide +kernel)) ggX5_restore_X5_imageAt
set_option maxRecDepth 20000 in
theorem ggX5_restore_X3_copy : GoodIn wsX5_restore wsX3_copy := goodIn_r _ [20, 21, 22, 23, 24, 25, 26, 27, 28, 29, 30, 31, 32, 33, 34, 35, 5, 36, 37, 38, 39, 40, 41, 19, 42, 51, 52, 53, 54, 55, 56, 57, 58, 59] (by decide +kernel) (by decide +kernel)
set_option maxRecDepth 20000 in
theorem gX5_restore_X3_copy : GoodIn wsX5_restore (wsV RX5 258 RX3 yX3_copy wsX3_copy) := goodIn_app (goodIn_of _ (by decide +kernel)) ggX5_restore_X3_copy
theorem dX5_restore_0 : decode cX5_restore 0 = .ok (.iload_n 1, 1) := by decide +kernel
theorem dX5_restore_1 : decode cX5_restore 1 = .ok (.iconst 2, 1) := by decide +kernel
theorem dX5_restore_2 : decode cX5_restore 2 = .ok (.invokestatic 57, 3) := by decide +kernel
theorem dX5_restore_5 : decode cX5_restore 5 = .ok (.ifCond .ne 6, 3) := by decide +kernel
theorem dX5_restore_8 : decode cX5_restore 8 = .ok (.bipush (-2), 2) := by decide +kernel
theorem dX5_restore_10 : decode cX5_restore 10 = .ok (.ireturn, 1) := by decide +kernel
theorem dX5_restore_11 : decode cX5_restore 11 = .ok (.aload_n 0, 1) := by decide +kernel
theorem dX5_restore_12 : decode cX5_restore 12 = .ok (.getfield 172, 3) := by decide +kernel
theorem dX5_restore_15 : decode cX5_restore 15 = .ok (.iload_n 1, 1) := by decide +kernel
theorem dX5_restore_16 : decode cX5_restore 16 = .ok (.invokestatic 175, 3) := by decide +kernel
theorem dX5_restore_19 : decode cX5_restore 19 = .ok (.ifCond .ne 6, 3) := by decide +kernel
theorem dX5_restore_22 : decode cX5_restore 22 = .ok (.bipush (-3), 2) := by decide +kernel
theorem dX5_restore_24 : decode cX5_restore 24 = .ok (.ireturn, 1) := by decide +kernel
theorem dX5_restore_25 : decode cX5_restore 25 = .ok (.aload_n 0, 1) := by decide +kernel
theorem dX5_restore_26 : decode cX5_restore 26 = .ok (.getfield 10, 3) := by decide +kernel
theorem dX5_restore_29 : decode cX5_restore 29 = .ok (.aload_n 0, 1) := by decide +kernel
theorem dX5_restore_30 : decode cX5_restore 30 = .ok (.iload_n 1, 1) := by decide +kernel
theorem dX5_restore_31 : decode cX5_restore 31 = .ok (.invokevirtual 178, 3) := by decide +kernel
theorem dX5_restore_34 : decode cX5_restore 34 = .ok (.invokevirtual 258, 3) := by decide +kernel
theorem dX5_restore_37 : decode cX5_restore 37 = .ok (.iconst 1, 1) := by decide +kernel
theorem dX5_restore_38 : decode cX5_restore 38 = .ok (.ireturn, 1) := by decide +kernel
theorem dX5_imageAt_0 : decode cX5_imageAt 0 = .ok (.iload_n 1, 1) := by decide +kernel
theorem dX5_imageAt_1 : decode cX5_imageAt 1 = .ok (.ifCond .ne 10, 3) := by decide +kernel
theorem dX5_imageAt_4 : decode cX5_imageAt 4 = .ok (.aload_n 0, 1) := by decide +kernel
theorem dX5_imageAt_5 : decode cX5_imageAt 5 = .ok (.getfield 16, 3) := by decide +kernel
theorem dX5_imageAt_8 : decode cX5_imageAt 8 = .ok (.goto 7, 3) := by decide +kernel
theorem dX5_imageAt_11 : decode cX5_imageAt 11 = .ok (.aload_n 0, 1) := by decide +kernel
theorem dX5_imageAt_12 : decode cX5_imageAt 12 = .ok (.getfield 19, 3) := by decide +kernel
theorem dX5_imageAt_15 : decode cX5_imageAt 15 = .ok (.areturn, 1) := by decide +kernel
set_option maxRecDepth 20000 in
theorem ggX5_told_X5_toldOfStitch : GoodIn wsX5_told wsX5_toldOfStitch := goodIn_r _ [12, 1, 4, 13, 14, 15, 16, 17, 18, 19, 11, 20, 21, 22, 23, 24, 25, 26, 27, 28, 29, 30, 44, 45, 46, 47, 48, 49, 50, 51, 54, 55, 56, 57, 58, 59, 60, 61, 62] (by decide +kernel) (by decide +kernel)
set_option maxRecDepth 20000 in
theorem gX5_told_X5_toldOfStitch : GoodIn wsX5_told (wsV RX5 260 RX5 yX5_toldOfStitch wsX5_toldOfStitch) := goodIn_app (goodIn_of _ (by decide +kernel)) ggX5_told_X5_toldOfStitch
set_option maxRecDepth 20000 in
theorem ggX5_told_X5_isBelow : GoodIn wsX5_told wsX5_isBelow := goodIn_r _ [20] (by decide +kernel) (by decide +kernel)
set_option maxRecDepth 20000 in
theorem gX5_told_X5_isBelow : GoodIn wsX5_told (va_wsS RX5 57 yX5_isBelow wsX5_isBelow) := goodIn_app (goodIn_of _ (by decide +kernel)) ggX5_told_X5_isBelow
set_option maxRecDepth 20000 in
theorem ggX5_told_X3_tightnessOf : GoodIn wsX5_told wsX3_tightnessOf := goodIn_r _ [35, 36, 29, 11, 30, 54, 55, 56, 57] (by decide +kernel) (by decide +kernel)
set_option maxRecDepth 20000 in
theorem gX5_told_X3_tightnessOf : GoodIn wsX5_told (wsV RX5 76 RX3 yX3_tightnessOf wsX3_tightnessOf) := goodIn_app (goodIn_of _ (by decide +kernel)) ggX5_told_X3_tightnessOf
set_option maxRecDepth 20000 in
theorem ggX5_told_X2_looseOnes : GoodIn wsX5_told wsX2_looseOnes := goodIn_r _ [40, 18, 41, 28, 29, 11, 30, 42, 43, 58, 59, 60, 61, 62] (by decide +kernel) (by decide +kernel)
set_option maxRecDepth 20000 in
theorem gX5_told_X2_looseOnes : GoodIn wsX5_told (wsV RX5 117 RX2 yX2_looseOnes wsX2_looseOnes) := goodIn_app (goodIn_of _ (by decide +kernel)) ggX5_told_X2_looseOnes
theorem dX5_told_0 : decode cX5_told 0 = .ok (.iload_n 1, 1) := by decide +kernel
theorem dX5_told_1 : decode cX5_told 1 = .ok (.bipush 100, 2) := by decide +kernel
theorem dX5_told_3 : decode cX5_told 3 = .ok (.if_icmp .lt 18, 3) := by decide +kernel
theorem dX5_told_6 : decode cX5_told 6 = .ok (.aload_n 0, 1) := by decide +kernel
theorem dX5_told_7 : decode cX5_told 7 = .ok (.iload_n 1, 1) := by decide +kernel
theorem dX5_told_8 : decode cX5_told 8 = .ok (.bipush 100, 2) := by decide +kernel
theorem dX5_told_10 : decode cX5_told 10 = .ok (.idiv, 1) := by decide +kernel
theorem dX5_told_11 : decode cX5_told 11 = .ok (.iconst 1, 1) := by decide +kernel
theorem dX5_told_12 : decode cX5_told 12 = .ok (.isub, 1) := by decide +kernel
theorem dX5_told_13 : decode cX5_told 13 = .ok (.iload_n 1, 1) := by decide +kernel
theorem dX5_told_14 : decode cX5_told 14 = .ok (.bipush 100, 2) := by decide +kernel
theorem dX5_told_16 : decode cX5_told 16 = .ok (.irem, 1) := by decide +kernel
theorem dX5_told_17 : decode cX5_told 17 = .ok (.invokevirtual 260, 3) := by decide +kernel
theorem dX5_told_20 : decode cX5_told 20 = .ok (.ireturn, 1) := by decide +kernel
theorem dX5_told_21 : decode cX5_told 21 = .ok (.iload_n 1, 1) := by decide +kernel
theorem dX5_told_22 : decode cX5_told 22 = .ok (.bipush 10, 2) := by decide +kernel
theorem dX5_told_24 : decode cX5_told 24 = .ok (.isub, 1) := by decide +kernel
theorem dX5_told_25 : decode cX5_told 25 = .ok (.iconst 4, 1) := by decide +kernel
theorem dX5_told_26 : decode cX5_told 26 = .ok (.invokestatic 57, 3) := by decide +kernel
theorem dX5_told_29 : decode cX5_told 29 = .ok (.ifCond .eq 15, 3) := by decide +kernel
theorem dX5_told_32 : decode cX5_told 32 = .ok (.aload_n 0, 1) := by decide +kernel
theorem dX5_told_33 : decode cX5_told 33 = .ok (.getfield 10, 3) := by decide +kernel
theorem dX5_told_36 : decode cX5_told 36 = .ok (.iload_n 1, 1) := by decide +kernel
theorem dX5_told_37 : decode cX5_told 37 = .ok (.bipush 10, 2) := by decide +kernel
theorem dX5_told_39 : decode cX5_told 39 = .ok (.isub, 1) := by decide +kernel
theorem dX5_told_40 : decode cX5_told 40 = .ok (.invokevirtual 76, 3) := by decide +kernel
theorem dX5_told_43 : decode cX5_told 43 = .ok (.ireturn, 1) := by decide +kernel
theorem dX5_told_44 : decode cX5_told 44 = .ok (.iload_n 1, 1) := by decide +kernel
theorem dX5_told_45 : decode cX5_told 45 = .ok (.tableswitch 84 0 4 #[35, 43, 54, 65, 73], 35) := by decide +kernel
theorem dX5_told_80 : decode cX5_told 80 = .ok (.aload_n 0, 1) := by decide +kernel
theorem dX5_told_81 : decode cX5_told 81 = .ok (.getfield 25, 3) := by decide +kernel
theorem dX5_told_84 : decode cX5_told 84 = .ok (.getfield 87, 3) := by decide +kernel
theorem dX5_told_87 : decode cX5_told 87 = .ok (.ireturn, 1) := by decide +kernel
theorem dX5_told_88 : decode cX5_told 88 = .ok (.aload_n 0, 1) := by decide +kernel
theorem dX5_told_89 : decode cX5_told 89 = .ok (.getfield 10, 3) := by decide +kernel
theorem dX5_told_92 : decode cX5_told 92 = .ok (.getfield 47, 3) := by decide +kernel
theorem dX5_told_95 : decode cX5_told 95 = .ok (.getfield 69, 3) := by decide +kernel
theorem dX5_told_98 : decode cX5_told 98 = .ok (.ireturn, 1) := by decide +kernel
theorem dX5_told_99 : decode cX5_told 99 = .ok (.aload_n 0, 1) := by decide +kernel
theorem dX5_told_100 : decode cX5_told 100 = .ok (.getfield 10, 3) := by decide +kernel
theorem dX5_told_103 : decode cX5_told 103 = .ok (.getfield 47, 3) := by decide +kernel
theorem dX5_told_106 : decode cX5_told 106 = .ok (.getfield 114, 3) := by decide +kernel
theorem dX5_told_109 : decode cX5_told 109 = .ok (.ireturn, 1) := by decide +kernel
theorem dX5_told_110 : decode cX5_told 110 = .ok (.aload_n 0, 1) := by decide +kernel
theorem dX5_told_111 : decode cX5_told 111 = .ok (.getfield 10, 3) := by decide +kernel
theorem dX5_told_114 : decode cX5_told 114 = .ok (.getfield 220, 3) := by decide +kernel
theorem dX5_told_117 : decode cX5_told 117 = .ok (.ireturn, 1) := by decide +kernel
theorem dX5_told_118 : decode cX5_told 118 = .ok (.aload_n 0, 1) := by decide +kernel
theorem dX5_told_119 : decode cX5_told 119 = .ok (.getfield 10, 3) := by decide +kernel
theorem dX5_told_122 : decode cX5_told 122 = .ok (.getfield 47, 3) := by decide +kernel
theorem dX5_told_125 : decode cX5_told 125 = .ok (.invokevirtual 117, 3) := by decide +kernel
theorem dX5_told_128 : decode cX5_told 128 = .ok (.ireturn, 1) := by decide +kernel
theorem dX5_told_129 : decode cX5_told 129 = .ok (.bipush (-2), 2) := by decide +kernel
theorem dX5_told_131 : decode cX5_told 131 = .ok (.ireturn, 1) := by decide +kernel
set_option maxRecDepth 20000 in
theorem ggX5_toldOfStitch_X2_has : GoodIn wsX5_toldOfStitch wsX2_has := goodIn_r _ [7, 8, 9, 10, 11, 34, 35, 36, 37, 38] (by decide +kernel) (by decide +kernel)
set_option maxRecDepth 20000 in
theorem gX5_toldOfStitch_X2_has : GoodIn wsX5_toldOfStitch (wsV RX5 51 RX2 yX2_has wsX2_has) := goodIn_app (goodIn_of _ (by decide +kernel)) ggX5_toldOfStitch_X2_has
set_option maxRecDepth 20000 in
theorem ggX5_toldOfStitch_X5_isBelow : GoodIn wsX5_toldOfStitch wsX5_isBelow := goodIn_r _ [11] (by decide +kernel) (by decide +kernel)
set_option maxRecDepth 20000 in
theorem gX5_toldOfStitch_X5_isBelow : GoodIn wsX5_toldOfStitch (va_wsS RX5 57 yX5_isBelow wsX5_isBelow) := goodIn_app (goodIn_of _ (by decide +kernel)) ggX5_toldOfStitch_X5_isBelow
set_option maxRecDepth 20000 in
theorem ggX5_toldOfStitch_X2_trait : GoodIn wsX5_toldOfStitch wsX2_trait := goodIn_r _ [16, 17, 18, 19, 20, 10, 21, 34, 35, 36, 37, 38] (by decide +kernel) (by decide +kernel)
set_option maxRecDepth 20000 in
theorem gX5_toldOfStitch_X2_trait : GoodIn wsX5_toldOfStitch (wsV RX5 123 RX2 yX2_trait wsX2_trait) := goodIn_app (goodIn_of _ (by decide +kernel)) ggX5_toldOfStitch_X2_trait
theorem dX5_toldOfStitch_0 : decode cX5_toldOfStitch 0 = .ok (.aload_n 0, 1) := by decide +kernel
theorem dX5_toldOfStitch_1 : decode cX5_toldOfStitch 1 = .ok (.getfield 10, 3) := by decide +kernel
theorem dX5_toldOfStitch_4 : decode cX5_toldOfStitch 4 = .ok (.getfield 47, 3) := by decide +kernel
theorem dX5_toldOfStitch_7 : decode cX5_toldOfStitch 7 = .ok (.iload_n 1, 1) := by decide +kernel
theorem dX5_toldOfStitch_8 : decode cX5_toldOfStitch 8 = .ok (.invokevirtual 51, 3) := by decide +kernel
theorem dX5_toldOfStitch_11 : decode cX5_toldOfStitch 11 = .ok (.ifCond .eq 11, 3) := by decide +kernel
theorem dX5_toldOfStitch_14 : decode cX5_toldOfStitch 14 = .ok (.iload_n 2, 1) := by decide +kernel
theorem dX5_toldOfStitch_15 : decode cX5_toldOfStitch 15 = .ok (.iconst 3, 1) := by decide +kernel
theorem dX5_toldOfStitch_16 : decode cX5_toldOfStitch 16 = .ok (.invokestatic 57, 3) := by decide +kernel
theorem dX5_toldOfStitch_19 : decode cX5_toldOfStitch 19 = .ok (.ifCond .ne 6, 3) := by decide +kernel
theorem dX5_toldOfStitch_22 : decode cX5_toldOfStitch 22 = .ok (.bipush (-2), 2) := by decide +kernel
theorem dX5_toldOfStitch_24 : decode cX5_toldOfStitch 24 = .ok (.ireturn, 1) := by decide +kernel
theorem dX5_toldOfStitch_25 : decode cX5_toldOfStitch 25 = .ok (.aload_n 0, 1) := by decide +kernel
theorem dX5_toldOfStitch_26 : decode cX5_toldOfStitch 26 = .ok (.getfield 10, 3) := by decide +kernel
theorem dX5_toldOfStitch_29 : decode cX5_toldOfStitch 29 = .ok (.getfield 47, 3) := by decide +kernel
theorem dX5_toldOfStitch_32 : decode cX5_toldOfStitch 32 = .ok (.iload_n 1, 1) := by decide +kernel
theorem dX5_toldOfStitch_33 : decode cX5_toldOfStitch 33 = .ok (.iload_n 2, 1) := by decide +kernel
theorem dX5_toldOfStitch_34 : decode cX5_toldOfStitch 34 = .ok (.invokevirtual 123, 3) := by decide +kernel
theorem dX5_toldOfStitch_37 : decode cX5_toldOfStitch 37 = .ok (.ireturn, 1) := by decide +kernel
theorem dX5_isBelow_0 : decode cX5_isBelow 0 = .ok (.iload_n 0, 1) := by decide +kernel
theorem dX5_isBelow_1 : decode cX5_isBelow 1 = .ok (.ifCond .lt 12, 3) := by decide +kernel
theorem dX5_isBelow_4 : decode cX5_isBelow 4 = .ok (.iload_n 0, 1) := by decide +kernel
theorem dX5_isBelow_5 : decode cX5_isBelow 5 = .ok (.iload_n 1, 1) := by decide +kernel
theorem dX5_isBelow_6 : decode cX5_isBelow 6 = .ok (.if_icmp .ge 7, 3) := by decide +kernel
theorem dX5_isBelow_9 : decode cX5_isBelow 9 = .ok (.iconst 1, 1) := by decide +kernel
theorem dX5_isBelow_10 : decode cX5_isBelow 10 = .ok (.goto 4, 3) := by decide +kernel
theorem dX5_isBelow_13 : decode cX5_isBelow 13 = .ok (.iconst 0, 1) := by decide +kernel
theorem dX5_isBelow_14 : decode cX5_isBelow 14 = .ok (.ireturn, 1) := by decide +kernel
theorem dX5_isIn_0 : decode cX5_isIn 0 = .ok (.iload_n 1, 1) := by decide +kernel
theorem dX5_isIn_1 : decode cX5_isIn 1 = .ok (.ifCond .lt 21, 3) := by decide +kernel
theorem dX5_isIn_4 : decode cX5_isIn 4 = .ok (.iload_n 1, 1) := by decide +kernel
theorem dX5_isIn_5 : decode cX5_isIn 5 = .ok (.bipush 32, 2) := by decide +kernel
theorem dX5_isIn_7 : decode cX5_isIn 7 = .ok (.if_icmp .ge 15, 3) := by decide +kernel
theorem dX5_isIn_10 : decode cX5_isIn 10 = .ok (.iload_n 0, 1) := by decide +kernel
theorem dX5_isIn_11 : decode cX5_isIn 11 = .ok (.iconst 1, 1) := by decide +kernel
theorem dX5_isIn_12 : decode cX5_isIn 12 = .ok (.iload_n 1, 1) := by decide +kernel
theorem dX5_isIn_13 : decode cX5_isIn 13 = .ok (.ishl, 1) := by decide +kernel
theorem dX5_isIn_14 : decode cX5_isIn 14 = .ok (.iand, 1) := by decide +kernel
theorem dX5_isIn_15 : decode cX5_isIn 15 = .ok (.ifCond .eq 7, 3) := by decide +kernel
theorem dX5_isIn_18 : decode cX5_isIn 18 = .ok (.iconst 1, 1) := by decide +kernel
theorem dX5_isIn_19 : decode cX5_isIn 19 = .ok (.goto 4, 3) := by decide +kernel
theorem dX5_isIn_22 : decode cX5_isIn 22 = .ok (.iconst 0, 1) := by decide +kernel
theorem dX5_isIn_23 : decode cX5_isIn 23 = .ok (.ireturn, 1) := by decide +kernel
theorem dX5_at_0 : decode cX5_at 0 = .ok (.iload_n 1, 1) := by decide +kernel
theorem dX5_at_1 : decode cX5_at 1 = .ok (.ifCond .lt 15, 3) := by decide +kernel
theorem dX5_at_4 : decode cX5_at 4 = .ok (.iload_n 1, 1) := by decide +kernel
theorem dX5_at_5 : decode cX5_at 5 = .ok (.aload_n 0, 1) := by decide +kernel
theorem dX5_at_6 : decode cX5_at 6 = .ok (.arraylength, 1) := by decide +kernel
theorem dX5_at_7 : decode cX5_at 7 = .ok (.if_icmp .ge 9, 3) := by decide +kernel
theorem dX5_at_10 : decode cX5_at 10 = .ok (.aload_n 0, 1) := by decide +kernel
theorem dX5_at_11 : decode cX5_at 11 = .ok (.iload_n 1, 1) := by decide +kernel
theorem dX5_at_12 : decode cX5_at 12 = .ok (.iaload, 1) := by decide +kernel
theorem dX5_at_13 : decode cX5_at 13 = .ok (.goto 4, 3) := by decide +kernel
theorem dX5_at_16 : decode cX5_at 16 = .ok (.iconst 0, 1) := by decide +kernel
theorem dX5_at_17 : decode cX5_at 17 = .ok (.ireturn, 1) := by decide +kernel
theorem dX5_put_0 : decode cX5_put 0 = .ok (.iload_n 1, 1) := by decide +kernel
theorem dX5_put_1 : decode cX5_put 1 = .ok (.ifCond .lt 13, 3) := by decide +kernel
theorem dX5_put_4 : decode cX5_put 4 = .ok (.iload_n 1, 1) := by decide +kernel
theorem dX5_put_5 : decode cX5_put 5 = .ok (.aload_n 0, 1) := by decide +kernel
theorem dX5_put_6 : decode cX5_put 6 = .ok (.arraylength, 1) := by decide +kernel
theorem dX5_put_7 : decode cX5_put 7 = .ok (.if_icmp .ge 7, 3) := by decide +kernel
theorem dX5_put_10 : decode cX5_put 10 = .ok (.aload_n 0, 1) := by decide +kernel
theorem dX5_put_11 : decode cX5_put 11 = .ok (.iload_n 1, 1) := by decide +kernel
theorem dX5_put_12 : decode cX5_put 12 = .ok (.iload_n 2, 1) := by decide +kernel
theorem dX5_put_13 : decode cX5_put 13 = .ok (.iastore, 1) := by decide +kernel
theorem dX5_put_14 : decode cX5_put 14 = .ok (.return_, 1) := by decide +kernel
theorem dX5_near_0 : decode cX5_near 0 = .ok (.bipush 7, 2) := by decide +kernel
theorem dX5_near_2 : decode cX5_near 2 = .ok (.iload_n 0, 1) := by decide +kernel
theorem dX5_near_3 : decode cX5_near 3 = .ok (.ishl, 1) := by decide +kernel
theorem dX5_near_4 : decode cX5_near 4 = .ok (.iconst 1, 1) := by decide +kernel
theorem dX5_near_5 : decode cX5_near 5 = .ok (.ishr, 1) := by decide +kernel
theorem dX5_near_6 : decode cX5_near 6 = .ok (.sipush 1023, 3) := by decide +kernel
theorem dX5_near_9 : decode cX5_near 9 = .ok (.iand, 1) := by decide +kernel
theorem dX5_near_10 : decode cX5_near 10 = .ok (.ireturn, 1) := by decide +kernel
theorem dX5_termOfTenths_0 : decode cX5_termOfTenths 0 = .ok (.iload_n 0, 1) := by decide +kernel
theorem dX5_termOfTenths_1 : decode cX5_termOfTenths 1 = .ok (.istore_n 2, 1) := by decide +kernel
theorem dX5_termOfTenths_2 : decode cX5_termOfTenths 2 = .ok (.bipush 10, 2) := by decide +kernel
theorem dX5_termOfTenths_4 : decode cX5_termOfTenths 4 = .ok (.istore_n 3, 1) := by decide +kernel
theorem dX5_termOfTenths_5 : decode cX5_termOfTenths 5 = .ok (.bipush 10, 2) := by decide +kernel
theorem dX5_termOfTenths_7 : decode cX5_termOfTenths 7 = .ok (.istore 4, 2) := by decide +kernel
theorem dX5_termOfTenths_9 : decode cX5_termOfTenths 9 = .ok (.iload 4, 2) := by decide +kernel
theorem dX5_termOfTenths_11 : decode cX5_termOfTenths 11 = .ok (.iconst 1, 1) := by decide +kernel
theorem dX5_termOfTenths_12 : decode cX5_termOfTenths 12 = .ok (.if_icmp .le 33, 3) := by decide +kernel
theorem dX5_termOfTenths_15 : decode cX5_termOfTenths 15 = .ok (.iload_n 2, 1) := by decide +kernel
theorem dX5_termOfTenths_16 : decode cX5_termOfTenths 16 = .ok (.iload 4, 2) := by decide +kernel
theorem dX5_termOfTenths_18 : decode cX5_termOfTenths 18 = .ok (.irem, 1) := by decide +kernel
theorem dX5_termOfTenths_19 : decode cX5_termOfTenths 19 = .ok (.ifCond .ne 20, 3) := by decide +kernel
theorem dX5_termOfTenths_22 : decode cX5_termOfTenths 22 = .ok (.iload_n 3, 1) := by decide +kernel
theorem dX5_termOfTenths_23 : decode cX5_termOfTenths 23 = .ok (.iload 4, 2) := by decide +kernel
theorem dX5_termOfTenths_25 : decode cX5_termOfTenths 25 = .ok (.irem, 1) := by decide +kernel
theorem dX5_termOfTenths_26 : decode cX5_termOfTenths 26 = .ok (.ifCond .ne 13, 3) := by decide +kernel
theorem dX5_termOfTenths_29 : decode cX5_termOfTenths 29 = .ok (.iload_n 2, 1) := by decide +kernel
theorem dX5_termOfTenths_30 : decode cX5_termOfTenths 30 = .ok (.iload 4, 2) := by decide +kernel
theorem dX5_termOfTenths_32 : decode cX5_termOfTenths 32 = .ok (.idiv, 1) := by decide +kernel
theorem dX5_termOfTenths_33 : decode cX5_termOfTenths 33 = .ok (.istore_n 2, 1) := by decide +kernel
theorem dX5_termOfTenths_34 : decode cX5_termOfTenths 34 = .ok (.iload_n 3, 1) := by decide +kernel
theorem dX5_termOfTenths_35 : decode cX5_termOfTenths 35 = .ok (.iload 4, 2) := by decide +kernel
theorem dX5_termOfTenths_37 : decode cX5_termOfTenths 37 = .ok (.idiv, 1) := by decide +kernel
theorem dX5_termOfTenths_38 : decode cX5_termOfTenths 38 = .ok (.istore_n 3, 1) := by decide +kernel
theorem dX5_termOfTenths_39 : decode cX5_termOfTenths 39 = .ok (.iinc 4 (-1), 3) := by decide +kernel
theorem dX5_termOfTenths_42 : decode cX5_termOfTenths 42 = .ok (.goto (-33), 3) := by decide +kernel
theorem dX5_termOfTenths_45 : decode cX5_termOfTenths 45 = .ok (.iload_n 1, 1) := by decide +kernel
theorem dX5_termOfTenths_46 : decode cX5_termOfTenths 46 = .ok (.ifCond .ne 7, 3) := by decide +kernel
theorem dX5_termOfTenths_49 : decode cX5_termOfTenths 49 = .ok (.iload_n 2, 1) := by decide +kernel
theorem dX5_termOfTenths_50 : decode cX5_termOfTenths 50 = .ok (.goto 4, 3) := by decide +kernel
theorem dX5_termOfTenths_53 : decode cX5_termOfTenths 53 = .ok (.iload_n 3, 1) := by decide +kernel
theorem dX5_termOfTenths_54 : decode cX5_termOfTenths 54 = .ok (.ireturn, 1) := by decide +kernel
theorem dX5_power_0 : decode cX5_power 0 = .ok (.lconst 1, 1) := by decide +kernel
theorem dX5_power_1 : decode cX5_power 1 = .ok (.lstore_n 3, 1) := by decide +kernel
theorem dX5_power_2 : decode cX5_power 2 = .ok (.iconst 0, 1) := by decide +kernel
theorem dX5_power_3 : decode cX5_power 3 = .ok (.istore 5, 2) := by decide +kernel
theorem dX5_power_5 : decode cX5_power 5 = .ok (.iload 5, 2) := by decide +kernel
theorem dX5_power_7 : decode cX5_power 7 = .ok (.iload_n 2, 1) := by decide +kernel
theorem dX5_power_8 : decode cX5_power 8 = .ok (.if_icmp .ge 13, 3) := by decide +kernel
theorem dX5_power_11 : decode cX5_power 11 = .ok (.lload_n 3, 1) := by decide +kernel
theorem dX5_power_12 : decode cX5_power 12 = .ok (.lload_n 0, 1) := by decide +kernel
theorem dX5_power_13 : decode cX5_power 13 = .ok (.lmul, 1) := by decide +kernel
theorem dX5_power_14 : decode cX5_power 14 = .ok (.lstore_n 3, 1) := by decide +kernel
theorem dX5_power_15 : decode cX5_power 15 = .ok (.iinc 5 1, 3) := by decide +kernel
theorem dX5_power_18 : decode cX5_power 18 = .ok (.goto (-13), 3) := by decide +kernel
theorem dX5_power_21 : decode cX5_power 21 = .ok (.lload_n 3, 1) := by decide +kernel
theorem dX5_power_22 : decode cX5_power 22 = .ok (.lreturn, 1) := by decide +kernel
end
section
theorem dX6_init_0 : decode cX6_init 0 = .ok (.aload_n 0, 1) := by decide +kernel
theorem dX6_init_1 : decode cX6_init 1 = .ok (.invokespecial 1, 3) := by decide +kernel
theorem dX6_init_4 : decode cX6_init 4 = .ok (.aload_n 0, 1) := by decide +kernel
theorem dX6_init_5 : decode cX6_init 5 = .ok (.bipush 97, 2) := by decide +kernel
theorem dX6_init_7 : decode cX6_init 7 = .ok (.newarray .int, 2) := by decide +kernel
theorem dX6_init_9 : decode cX6_init 9 = .ok (.putfield 7, 3) := by decide +kernel
theorem dX6_init_12 : decode cX6_init 12 = .ok (.aload_n 0, 1) := by decide +kernel
theorem dX6_init_13 : decode cX6_init 13 = .ok (.bipush 97, 2) := by decide +kernel
theorem dX6_init_15 : decode cX6_init 15 = .ok (.newarray .int, 2) := by decide +kernel
theorem dX6_init_17 : decode cX6_init 17 = .ok (.putfield 13, 3) := by decide +kernel
theorem dX6_init_20 : decode cX6_init 20 = .ok (.aload_n 0, 1) := by decide +kernel
theorem dX6_init_21 : decode cX6_init 21 = .ok (.iconst 4, 1) := by decide +kernel
theorem dX6_init_22 : decode cX6_init 22 = .ok (.newarray .int, 2) := by decide +kernel
theorem dX6_init_24 : decode cX6_init 24 = .ok (.putfield 16, 3) := by decide +kernel
theorem dX6_init_27 : decode cX6_init 27 = .ok (.aload_n 0, 1) := by decide +kernel
theorem dX6_init_28 : decode cX6_init 28 = .ok (.bipush 16, 2) := by decide +kernel
theorem dX6_init_30 : decode cX6_init 30 = .ok (.newarray .int, 2) := by decide +kernel
theorem dX6_init_32 : decode cX6_init 32 = .ok (.putfield 19, 3) := by decide +kernel
theorem dX6_init_35 : decode cX6_init 35 = .ok (.aload_n 0, 1) := by decide +kernel
theorem dX6_init_36 : decode cX6_init 36 = .ok (.bipush 60, 2) := by decide +kernel
theorem dX6_init_38 : decode cX6_init 38 = .ok (.newarray .int, 2) := by decide +kernel
theorem dX6_init_40 : decode cX6_init 40 = .ok (.putfield 22, 3) := by decide +kernel
theorem dX6_init_43 : decode cX6_init 43 = .ok (.aload_n 0, 1) := by decide +kernel
theorem dX6_init_44 : decode cX6_init 44 = .ok (.bipush 24, 2) := by decide +kernel
theorem dX6_init_46 : decode cX6_init 46 = .ok (.newarray .int, 2) := by decide +kernel
theorem dX6_init_48 : decode cX6_init 48 = .ok (.putfield 25, 3) := by decide +kernel
theorem dX6_init_51 : decode cX6_init 51 = .ok (.aload_n 0, 1) := by decide +kernel
theorem dX6_init_52 : decode cX6_init 52 = .ok (.sipush 300, 3) := by decide +kernel
theorem dX6_init_55 : decode cX6_init 55 = .ok (.newarray .int, 2) := by decide +kernel
theorem dX6_init_57 : decode cX6_init 57 = .ok (.putfield 28, 3) := by decide +kernel
theorem dX6_init_60 : decode cX6_init 60 = .ok (.aload_n 0, 1) := by decide +kernel
theorem dX6_init_61 : decode cX6_init 61 = .ok (.iconst 2, 1) := by decide +kernel
theorem dX6_init_62 : decode cX6_init 62 = .ok (.newarray .boolean, 2) := by decide +kernel
theorem dX6_init_64 : decode cX6_init 64 = .ok (.putfield 31, 3) := by decide +kernel
theorem dX6_init_67 : decode cX6_init 67 = .ok (.aload_n 0, 1) := by decide +kernel
theorem dX6_init_68 : decode cX6_init 68 = .ok (.sipush 625, 3) := by decide +kernel
theorem dX6_init_71 : decode cX6_init 71 = .ok (.newarray .int, 2) := by decide +kernel
theorem dX6_init_73 : decode cX6_init 73 = .ok (.putfield 35, 3) := by decide +kernel
theorem dX6_init_76 : decode cX6_init 76 = .ok (.aload_n 0, 1) := by decide +kernel
theorem dX6_init_77 : decode cX6_init 77 = .ok (.bipush 100, 2) := by decide +kernel
theorem dX6_init_79 : decode cX6_init 79 = .ok (.newarray .int, 2) := by decide +kernel
theorem dX6_init_81 : decode cX6_init 81 = .ok (.putfield 38, 3) := by decide +kernel
theorem dX6_init_84 : decode cX6_init 84 = .ok (.iconst 0, 1) := by decide +kernel
theorem dX6_init_85 : decode cX6_init 85 = .ok (.istore_n 1, 1) := by decide +kernel
theorem dX6_init_86 : decode cX6_init 86 = .ok (.iload_n 1, 1) := by decide +kernel
theorem dX6_init_87 : decode cX6_init 87 = .ok (.iconst 4, 1) := by decide +kernel
theorem dX6_init_88 : decode cX6_init 88 = .ok (.if_icmp .ge 16, 3) := by decide +kernel
theorem dX6_init_91 : decode cX6_init 91 = .ok (.aload_n 0, 1) := by decide +kernel
theorem dX6_init_92 : decode cX6_init 92 = .ok (.getfield 16, 3) := by decide +kernel
theorem dX6_init_95 : decode cX6_init 95 = .ok (.iload_n 1, 1) := by decide +kernel
theorem dX6_init_96 : decode cX6_init 96 = .ok (.iconst 5, 1) := by decide +kernel
theorem dX6_init_97 : decode cX6_init 97 = .ok (.iastore, 1) := by decide +kernel
theorem dX6_init_98 : decode cX6_init 98 = .ok (.iinc 1 1, 3) := by decide +kernel
theorem dX6_init_101 : decode cX6_init 101 = .ok (.goto (-15), 3) := by decide +kernel
theorem dX6_init_104 : decode cX6_init 104 = .ok (.return_, 1) := by decide +kernel
theorem dX6_in_0 : decode cX6_in 0 = .ok (.iload_n 0, 1) := by decide +kernel
theorem dX6_in_1 : decode cX6_in 1 = .ok (.iload_n 1, 1) := by decide +kernel
theorem dX6_in_2 : decode cX6_in 2 = .ok (.if_icmp .lt 12, 3) := by decide +kernel
theorem dX6_in_5 : decode cX6_in 5 = .ok (.iload_n 0, 1) := by decide +kernel
theorem dX6_in_6 : decode cX6_in 6 = .ok (.iload_n 2, 1) := by decide +kernel
theorem dX6_in_7 : decode cX6_in 7 = .ok (.if_icmp .gt 7, 3) := by decide +kernel
theorem dX6_in_10 : decode cX6_in 10 = .ok (.iconst 1, 1) := by decide +kernel
theorem dX6_in_11 : decode cX6_in 11 = .ok (.goto 4, 3) := by decide +kernel
theorem dX6_in_14 : decode cX6_in 14 = .ok (.iconst 0, 1) := by decide +kernel
theorem dX6_in_15 : decode cX6_in 15 = .ok (.ireturn, 1) := by decide +kernel
theorem dX6_has_0 : decode cX6_has 0 = .ok (.iload_n 0, 1) := by decide +kernel
theorem dX6_has_1 : decode cX6_has 1 = .ok (.iload_n 1, 1) := by decide +kernel
theorem dX6_has_2 : decode cX6_has 2 = .ok (.ishr, 1) := by decide +kernel
theorem dX6_has_3 : decode cX6_has 3 = .ok (.iconst 1, 1) := by decide +kernel
theorem dX6_has_4 : decode cX6_has 4 = .ok (.iand, 1) := by decide +kernel
theorem dX6_has_5 : decode cX6_has 5 = .ok (.iconst 1, 1) := by decide +kernel
theorem dX6_has_6 : decode cX6_has 6 = .ok (.if_icmp .ne 7, 3) := by decide +kernel
theorem dX6_has_9 : decode cX6_has 9 = .ok (.iconst 1, 1) := by decide +kernel
theorem dX6_has_10 : decode cX6_has 10 = .ok (.goto 4, 3) := by decide +kernel
theorem dX6_has_13 : decode cX6_has 13 = .ok (.iconst 0, 1) := by decide +kernel
theorem dX6_has_14 : decode cX6_has 14 = .ok (.ireturn, 1) := by decide +kernel
theorem dX6_bits_0 : decode cX6_bits 0 = .ok (.iconst 0, 1) := by decide +kernel
theorem dX6_bits_1 : decode cX6_bits 1 = .ok (.istore_n 1, 1) := by decide +kernel
theorem dX6_bits_2 : decode cX6_bits 2 = .ok (.iconst 0, 1) := by decide +kernel
theorem dX6_bits_3 : decode cX6_bits 3 = .ok (.istore_n 2, 1) := by decide +kernel
theorem dX6_bits_4 : decode cX6_bits 4 = .ok (.iload_n 2, 1) := by decide +kernel
theorem dX6_bits_5 : decode cX6_bits 5 = .ok (.bipush 24, 2) := by decide +kernel
theorem dX6_bits_7 : decode cX6_bits 7 = .ok (.if_icmp .ge 17, 3) := by decide +kernel
theorem dX6_bits_10 : decode cX6_bits 10 = .ok (.iload_n 1, 1) := by decide +kernel
theorem dX6_bits_11 : decode cX6_bits 11 = .ok (.iload_n 0, 1) := by decide +kernel
theorem dX6_bits_12 : decode cX6_bits 12 = .ok (.iload_n 2, 1) := by decide +kernel
theorem dX6_bits_13 : decode cX6_bits 13 = .ok (.ishr, 1) := by decide +kernel
theorem dX6_bits_14 : decode cX6_bits 14 = .ok (.iconst 1, 1) := by decide +kernel
theorem dX6_bits_15 : decode cX6_bits 15 = .ok (.iand, 1) := by decide +kernel
theorem dX6_bits_16 : decode cX6_bits 16 = .ok (.iadd, 1) := by decide +kernel
theorem dX6_bits_17 : decode cX6_bits 17 = .ok (.istore_n 1, 1) := by decide +kernel
theorem dX6_bits_18 : decode cX6_bits 18 = .ok (.iinc 2 1, 3) := by decide +kernel
theorem dX6_bits_21 : decode cX6_bits 21 = .ok (.goto (-17), 3) := by decide +kernel
theorem dX6_bits_24 : decode cX6_bits 24 = .ok (.iload_n 1, 1) := by decide +kernel
theorem dX6_bits_25 : decode cX6_bits 25 = .ok (.ireturn, 1) := by decide +kernel
set_option maxRecDepth 20000 in
theorem ggX6_isKnitter_X6_in : GoodIn wsX6_isKnitter wsX6_in := goodIn_r _ [4] (by decide +kernel) (by decide +kernel)
set_option maxRecDepth 20000 in
theorem gX6_isKnitter_X6_in : GoodIn wsX6_isKnitter (va_wsS RX6 41 yX6_in wsX6_in) := goodIn_app (goodIn_of _ (by decide +kernel)) ggX6_isKnitter_X6_in
theorem dX6_isKnitter_0 : decode cX6_isKnitter 0 = .ok (.iload_n 0, 1) := by decide +kernel
theorem dX6_isKnitter_1 : decode cX6_isKnitter 1 = .ok (.iconst 0, 1) := by decide +kernel
theorem dX6_isKnitter_2 : decode cX6_isKnitter 2 = .ok (.iconst 3, 1) := by decide +kernel
theorem dX6_isKnitter_3 : decode cX6_isKnitter 3 = .ok (.invokestatic 41, 3) := by decide +kernel
theorem dX6_isKnitter_6 : decode cX6_isKnitter 6 = .ok (.ireturn, 1) := by decide +kernel
set_option maxRecDepth 20000 in
theorem ggX6_isStitch_X6_in : GoodIn wsX6_isStitch wsX6_in := goodIn_r _ [5] (by decide +kernel) (by decide +kernel)
set_option maxRecDepth 20000 in
theorem gX6_isStitch_X6_in : GoodIn wsX6_isStitch (va_wsS RX6 41 yX6_in wsX6_in) := goodIn_app (goodIn_of _ (by decide +kernel)) ggX6_isStitch_X6_in
theorem dX6_isStitch_0 : decode cX6_isStitch 0 = .ok (.iload_n 1, 1) := by decide +kernel
theorem dX6_isStitch_1 : decode cX6_isStitch 1 = .ok (.iconst 0, 1) := by decide +kernel
theorem dX6_isStitch_2 : decode cX6_isStitch 2 = .ok (.aload_n 0, 1) := by decide +kernel
theorem dX6_isStitch_3 : decode cX6_isStitch 3 = .ok (.getfield 7, 3) := by decide +kernel
theorem dX6_isStitch_6 : decode cX6_isStitch 6 = .ok (.bipush 96, 2) := by decide +kernel
theorem dX6_isStitch_8 : decode cX6_isStitch 8 = .ok (.iaload, 1) := by decide +kernel
theorem dX6_isStitch_9 : decode cX6_isStitch 9 = .ok (.iconst 1, 1) := by decide +kernel
theorem dX6_isStitch_10 : decode cX6_isStitch 10 = .ok (.isub, 1) := by decide +kernel
theorem dX6_isStitch_11 : decode cX6_isStitch 11 = .ok (.invokestatic 41, 3) := by decide +kernel
theorem dX6_isStitch_14 : decode cX6_isStitch 14 = .ok (.ireturn, 1) := by decide +kernel
set_option maxRecDepth 20000 in
theorem ggX6_stitch_X6_isStitch : GoodIn wsX6_stitch wsX6_isStitch := goodIn_r _ [6, 1, 7, 8, 5, 9, 10, 11, 12, 13, 14, 15, 16, 17, 18, 19, 20, 21, 22, 23, 24] (by decide +kernel) (by decide +kernel)
set_option maxRecDepth 20000 in
theorem gX6_stitch_X6_isStitch : GoodIn wsX6_stitch (wsV RX6 45 RX6 yX6_isStitch wsX6_isStitch) := goodIn_app (goodIn_of _ (by decide +kernel)) ggX6_stitch_X6_isStitch
set_option maxRecDepth 20000 in
theorem ggX6_stitch_X6_in : GoodIn wsX6_stitch wsX6_in := goodIn_r _ [9] (by decide +kernel) (by decide +kernel)
set_option maxRecDepth 20000 in
theorem gX6_stitch_X6_in : GoodIn wsX6_stitch (va_wsS RX6 41 yX6_in wsX6_in) := goodIn_app (goodIn_of _ (by decide +kernel)) ggX6_stitch_X6_in
theorem dX6_stitch_0 : decode cX6_stitch 0 = .ok (.iload_n 3, 1) := by decide +kernel
theorem dX6_stitch_1 : decode cX6_stitch 1 = .ok (.iconst (-1), 1) := by decide +kernel
theorem dX6_stitch_2 : decode cX6_stitch 2 = .ok (.if_icmp .eq 13, 3) := by decide +kernel
theorem dX6_stitch_5 : decode cX6_stitch 5 = .ok (.aload_n 0, 1) := by decide +kernel
theorem dX6_stitch_6 : decode cX6_stitch 6 = .ok (.iload_n 3, 1) := by decide +kernel
theorem dX6_stitch_7 : decode cX6_stitch 7 = .ok (.invokevirtual 45, 3) := by decide +kernel
theorem dX6_stitch_10 : decode cX6_stitch 10 = .ok (.ifCond .ne 5, 3) := by decide +kernel
theorem dX6_stitch_13 : decode cX6_stitch 13 = .ok (.iconst (-1), 1) := by decide +kernel
theorem dX6_stitch_14 : decode cX6_stitch 14 = .ok (.ireturn, 1) := by decide +kernel
theorem dX6_stitch_15 : decode cX6_stitch 15 = .ok (.iload_n 1, 1) := by decide +kernel
theorem dX6_stitch_16 : decode cX6_stitch 16 = .ok (.iconst 0, 1) := by decide +kernel
theorem dX6_stitch_17 : decode cX6_stitch 17 = .ok (.iconst 3, 1) := by decide +kernel
theorem dX6_stitch_18 : decode cX6_stitch 18 = .ok (.invokestatic 41, 3) := by decide +kernel
theorem dX6_stitch_21 : decode cX6_stitch 21 = .ok (.ifCond .eq 13, 3) := by decide +kernel
theorem dX6_stitch_24 : decode cX6_stitch 24 = .ok (.iload_n 2, 1) := by decide +kernel
theorem dX6_stitch_25 : decode cX6_stitch 25 = .ok (.iconst 0, 1) := by decide +kernel
theorem dX6_stitch_26 : decode cX6_stitch 26 = .ok (.bipush 9, 2) := by decide +kernel
theorem dX6_stitch_28 : decode cX6_stitch 28 = .ok (.invokestatic 41, 3) := by decide +kernel
theorem dX6_stitch_31 : decode cX6_stitch 31 = .ok (.ifCond .ne 6, 3) := by decide +kernel
theorem dX6_stitch_34 : decode cX6_stitch 34 = .ok (.bipush (-2), 2) := by decide +kernel
theorem dX6_stitch_36 : decode cX6_stitch 36 = .ok (.ireturn, 1) := by decide +kernel
theorem dX6_stitch_37 : decode cX6_stitch 37 = .ok (.aload_n 0, 1) := by decide +kernel
theorem dX6_stitch_38 : decode cX6_stitch 38 = .ok (.getfield 7, 3) := by decide +kernel
theorem dX6_stitch_41 : decode cX6_stitch 41 = .ok (.bipush 96, 2) := by decide +kernel
theorem dX6_stitch_43 : decode cX6_stitch 43 = .ok (.iaload, 1) := by decide +kernel
theorem dX6_stitch_44 : decode cX6_stitch 44 = .ok (.istore 4, 2) := by decide +kernel
theorem dX6_stitch_46 : decode cX6_stitch 46 = .ok (.iload 4, 2) := by decide +kernel
theorem dX6_stitch_48 : decode cX6_stitch 48 = .ok (.bipush 24, 2) := by decide +kernel
theorem dX6_stitch_50 : decode cX6_stitch 50 = .ok (.if_icmp .ne 6, 3) := by decide +kernel
theorem dX6_stitch_53 : decode cX6_stitch 53 = .ok (.bipush (-4), 2) := by decide +kernel
theorem dX6_stitch_55 : decode cX6_stitch 55 = .ok (.ireturn, 1) := by decide +kernel
theorem dX6_stitch_56 : decode cX6_stitch 56 = .ok (.aload_n 0, 1) := by decide +kernel
theorem dX6_stitch_57 : decode cX6_stitch 57 = .ok (.getfield 7, 3) := by decide +kernel
theorem dX6_stitch_60 : decode cX6_stitch 60 = .ok (.iload 4, 2) := by decide +kernel
theorem dX6_stitch_62 : decode cX6_stitch 62 = .ok (.iload_n 1, 1) := by decide +kernel
theorem dX6_stitch_63 : decode cX6_stitch 63 = .ok (.iastore, 1) := by decide +kernel
theorem dX6_stitch_64 : decode cX6_stitch 64 = .ok (.aload_n 0, 1) := by decide +kernel
theorem dX6_stitch_65 : decode cX6_stitch 65 = .ok (.getfield 7, 3) := by decide +kernel
theorem dX6_stitch_68 : decode cX6_stitch 68 = .ok (.bipush 24, 2) := by decide +kernel
theorem dX6_stitch_70 : decode cX6_stitch 70 = .ok (.iload 4, 2) := by decide +kernel
theorem dX6_stitch_72 : decode cX6_stitch 72 = .ok (.iadd, 1) := by decide +kernel
theorem dX6_stitch_73 : decode cX6_stitch 73 = .ok (.iload_n 2, 1) := by decide +kernel
theorem dX6_stitch_74 : decode cX6_stitch 74 = .ok (.iastore, 1) := by decide +kernel
theorem dX6_stitch_75 : decode cX6_stitch 75 = .ok (.aload_n 0, 1) := by decide +kernel
theorem dX6_stitch_76 : decode cX6_stitch 76 = .ok (.getfield 7, 3) := by decide +kernel
theorem dX6_stitch_79 : decode cX6_stitch 79 = .ok (.bipush 48, 2) := by decide +kernel
theorem dX6_stitch_81 : decode cX6_stitch 81 = .ok (.iload 4, 2) := by decide +kernel
theorem dX6_stitch_83 : decode cX6_stitch 83 = .ok (.iadd, 1) := by decide +kernel
theorem dX6_stitch_84 : decode cX6_stitch 84 = .ok (.iload_n 3, 1) := by decide +kernel
theorem dX6_stitch_85 : decode cX6_stitch 85 = .ok (.ifCond .ge 8, 3) := by decide +kernel
theorem dX6_stitch_88 : decode cX6_stitch 88 = .ok (.bipush (-6), 2) := by decide +kernel
theorem dX6_stitch_90 : decode cX6_stitch 90 = .ok (.goto 4, 3) := by decide +kernel
theorem dX6_stitch_93 : decode cX6_stitch 93 = .ok (.iload_n 3, 1) := by decide +kernel
theorem dX6_stitch_94 : decode cX6_stitch 94 = .ok (.iastore, 1) := by decide +kernel
theorem dX6_stitch_95 : decode cX6_stitch 95 = .ok (.aload_n 0, 1) := by decide +kernel
theorem dX6_stitch_96 : decode cX6_stitch 96 = .ok (.getfield 7, 3) := by decide +kernel
theorem dX6_stitch_99 : decode cX6_stitch 99 = .ok (.bipush 72, 2) := by decide +kernel
theorem dX6_stitch_101 : decode cX6_stitch 101 = .ok (.iload 4, 2) := by decide +kernel
theorem dX6_stitch_103 : decode cX6_stitch 103 = .ok (.iadd, 1) := by decide +kernel
theorem dX6_stitch_104 : decode cX6_stitch 104 = .ok (.iconst 0, 1) := by decide +kernel
theorem dX6_stitch_105 : decode cX6_stitch 105 = .ok (.iastore, 1) := by decide +kernel
theorem dX6_stitch_106 : decode cX6_stitch 106 = .ok (.aload_n 0, 1) := by decide +kernel
theorem dX6_stitch_107 : decode cX6_stitch 107 = .ok (.getfield 7, 3) := by decide +kernel
theorem dX6_stitch_110 : decode cX6_stitch 110 = .ok (.bipush 96, 2) := by decide +kernel
theorem dX6_stitch_112 : decode cX6_stitch 112 = .ok (.iload 4, 2) := by decide +kernel
theorem dX6_stitch_114 : decode cX6_stitch 114 = .ok (.iconst 1, 1) := by decide +kernel
theorem dX6_stitch_115 : decode cX6_stitch 115 = .ok (.iadd, 1) := by decide +kernel
theorem dX6_stitch_116 : decode cX6_stitch 116 = .ok (.iastore, 1) := by decide +kernel
theorem dX6_stitch_117 : decode cX6_stitch 117 = .ok (.iload 4, 2) := by decide +kernel
theorem dX6_stitch_119 : decode cX6_stitch 119 = .ok (.iconst 1, 1) := by decide +kernel
theorem dX6_stitch_120 : decode cX6_stitch 120 = .ok (.iadd, 1) := by decide +kernel
theorem dX6_stitch_121 : decode cX6_stitch 121 = .ok (.ireturn, 1) := by decide +kernel
theorem dX6_cast_0 : decode cX6_cast 0 = .ok (.aload_n 0, 1) := by decide +kernel
theorem dX6_cast_1 : decode cX6_cast 1 = .ok (.getfield 7, 3) := by decide +kernel
theorem dX6_cast_4 : decode cX6_cast 4 = .ok (.bipush 96, 2) := by decide +kernel
theorem dX6_cast_6 : decode cX6_cast 6 = .ok (.iaload, 1) := by decide +kernel
theorem dX6_cast_7 : decode cX6_cast 7 = .ok (.istore_n 1, 1) := by decide +kernel
theorem dX6_cast_8 : decode cX6_cast 8 = .ok (.aload_n 0, 1) := by decide +kernel
theorem dX6_cast_9 : decode cX6_cast 9 = .ok (.getfield 7, 3) := by decide +kernel
theorem dX6_cast_12 : decode cX6_cast 12 = .ok (.bipush 96, 2) := by decide +kernel
theorem dX6_cast_14 : decode cX6_cast 14 = .ok (.iconst 0, 1) := by decide +kernel
theorem dX6_cast_15 : decode cX6_cast 15 = .ok (.iastore, 1) := by decide +kernel
theorem dX6_cast_16 : decode cX6_cast 16 = .ok (.iload_n 1, 1) := by decide +kernel
theorem dX6_cast_17 : decode cX6_cast 17 = .ok (.ireturn, 1) := by decide +kernel
set_option maxRecDepth 20000 in
theorem ggX6_knitter_X6_isKnitter : GoodIn wsX6_knitter wsX6_isKnitter := goodIn_r _ [5, 6, 7, 4, 8] (by decide +kernel) (by decide +kernel)
set_option maxRecDepth 20000 in
theorem gX6_knitter_X6_isKnitter : GoodIn wsX6_knitter (va_wsS RX6 49 yX6_isKnitter wsX6_isKnitter) := goodIn_app (goodIn_of _ (by decide +kernel)) ggX6_knitter_X6_isKnitter
set_option maxRecDepth 20000 in
theorem ggX6_knitter_X6_in : GoodIn wsX6_knitter wsX6_in := goodIn_r _ [8] (by decide +kernel) (by decide +kernel)
set_option maxRecDepth 20000 in
theorem gX6_knitter_X6_in : GoodIn wsX6_knitter (va_wsS RX6 41 yX6_in wsX6_in) := goodIn_app (goodIn_of _ (by decide +kernel)) ggX6_knitter_X6_in
theorem dX6_knitter_0 : decode cX6_knitter 0 = .ok (.iload_n 1, 1) := by decide +kernel
theorem dX6_knitter_1 : decode cX6_knitter 1 = .ok (.invokestatic 49, 3) := by decide +kernel
theorem dX6_knitter_4 : decode cX6_knitter 4 = .ok (.ifCond .ne 5, 3) := by decide +kernel
theorem dX6_knitter_7 : decode cX6_knitter 7 = .ok (.iconst (-1), 1) := by decide +kernel
theorem dX6_knitter_8 : decode cX6_knitter 8 = .ok (.ireturn, 1) := by decide +kernel
theorem dX6_knitter_9 : decode cX6_knitter 9 = .ok (.iload_n 2, 1) := by decide +kernel
theorem dX6_knitter_10 : decode cX6_knitter 10 = .ok (.iconst 0, 1) := by decide +kernel
theorem dX6_knitter_11 : decode cX6_knitter 11 = .ok (.bipush 9, 2) := by decide +kernel
theorem dX6_knitter_13 : decode cX6_knitter 13 = .ok (.invokestatic 41, 3) := by decide +kernel
theorem dX6_knitter_16 : decode cX6_knitter 16 = .ok (.ifCond .ne 6, 3) := by decide +kernel
theorem dX6_knitter_19 : decode cX6_knitter 19 = .ok (.bipush (-2), 2) := by decide +kernel
theorem dX6_knitter_21 : decode cX6_knitter 21 = .ok (.ireturn, 1) := by decide +kernel
theorem dX6_knitter_22 : decode cX6_knitter 22 = .ok (.aload_n 0, 1) := by decide +kernel
theorem dX6_knitter_23 : decode cX6_knitter 23 = .ok (.getfield 16, 3) := by decide +kernel
theorem dX6_knitter_26 : decode cX6_knitter 26 = .ok (.iload_n 1, 1) := by decide +kernel
theorem dX6_knitter_27 : decode cX6_knitter 27 = .ok (.iaload, 1) := by decide +kernel
theorem dX6_knitter_28 : decode cX6_knitter 28 = .ok (.istore_n 3, 1) := by decide +kernel
theorem dX6_knitter_29 : decode cX6_knitter 29 = .ok (.aload_n 0, 1) := by decide +kernel
theorem dX6_knitter_30 : decode cX6_knitter 30 = .ok (.getfield 16, 3) := by decide +kernel
theorem dX6_knitter_33 : decode cX6_knitter 33 = .ok (.iload_n 1, 1) := by decide +kernel
theorem dX6_knitter_34 : decode cX6_knitter 34 = .ok (.iload_n 2, 1) := by decide +kernel
theorem dX6_knitter_35 : decode cX6_knitter 35 = .ok (.iastore, 1) := by decide +kernel
theorem dX6_knitter_36 : decode cX6_knitter 36 = .ok (.iload_n 3, 1) := by decide +kernel
theorem dX6_knitter_37 : decode cX6_knitter 37 = .ok (.ireturn, 1) := by decide +kernel
set_option maxRecDepth 20000 in
theorem ggX6_say_X6_in : GoodIn wsX6_say wsX6_in := goodIn_r _ [6] (by decide +kernel) (by decide +kernel)
set_option maxRecDepth 20000 in
theorem gX6_say_X6_in : GoodIn wsX6_say (va_wsS RX6 41 yX6_in wsX6_in) := goodIn_app (goodIn_of _ (by decide +kernel)) ggX6_say_X6_in
theorem dX6_say_0 : decode cX6_say 0 = .ok (.iload_n 1, 1) := by decide +kernel
theorem dX6_say_1 : decode cX6_say 1 = .ok (.bipush 33, 2) := by decide +kernel
theorem dX6_say_3 : decode cX6_say 3 = .ok (.bipush 126, 2) := by decide +kernel
theorem dX6_say_5 : decode cX6_say 5 = .ok (.invokestatic 41, 3) := by decide +kernel
theorem dX6_say_8 : decode cX6_say 8 = .ok (.ifCond .ne 6, 3) := by decide +kernel
theorem dX6_say_11 : decode cX6_say 11 = .ok (.bipush (-2), 2) := by decide +kernel
theorem dX6_say_13 : decode cX6_say 13 = .ok (.ireturn, 1) := by decide +kernel
theorem dX6_say_14 : decode cX6_say 14 = .ok (.aload_n 0, 1) := by decide +kernel
theorem dX6_say_15 : decode cX6_say 15 = .ok (.getfield 52, 3) := by decide +kernel
theorem dX6_say_18 : decode cX6_say 18 = .ok (.bipush 60, 2) := by decide +kernel
theorem dX6_say_20 : decode cX6_say 20 = .ok (.if_icmp .ne 6, 3) := by decide +kernel
theorem dX6_say_23 : decode cX6_say 23 = .ok (.bipush (-4), 2) := by decide +kernel
theorem dX6_say_25 : decode cX6_say 25 = .ok (.ireturn, 1) := by decide +kernel
theorem dX6_say_26 : decode cX6_say 26 = .ok (.aload_n 0, 1) := by decide +kernel
theorem dX6_say_27 : decode cX6_say 27 = .ok (.getfield 22, 3) := by decide +kernel
theorem dX6_say_30 : decode cX6_say 30 = .ok (.aload_n 0, 1) := by decide +kernel
theorem dX6_say_31 : decode cX6_say 31 = .ok (.getfield 52, 3) := by decide +kernel
theorem dX6_say_34 : decode cX6_say 34 = .ok (.iload_n 1, 1) := by decide +kernel
theorem dX6_say_35 : decode cX6_say 35 = .ok (.iastore, 1) := by decide +kernel
theorem dX6_say_36 : decode cX6_say 36 = .ok (.aload_n 0, 1) := by decide +kernel
theorem dX6_say_37 : decode cX6_say 37 = .ok (.dup, 1) := by decide +kernel
theorem dX6_say_38 : decode cX6_say 38 = .ok (.getfield 52, 3) := by decide +kernel
theorem dX6_say_41 : decode cX6_say 41 = .ok (.iconst 1, 1) := by decide +kernel
theorem dX6_say_42 : decode cX6_say 42 = .ok (.iadd, 1) := by decide +kernel
theorem dX6_say_43 : decode cX6_say 43 = .ok (.putfield 52, 3) := by decide +kernel
theorem dX6_say_46 : decode cX6_say 46 = .ok (.aload_n 0, 1) := by decide +kernel
theorem dX6_say_47 : decode cX6_say 47 = .ok (.getfield 52, 3) := by decide +kernel
theorem dX6_say_50 : decode cX6_say 50 = .ok (.ireturn, 1) := by decide +kernel
theorem dX6_wipe_0 : decode cX6_wipe 0 = .ok (.aload_n 0, 1) := by decide +kernel
theorem dX6_wipe_1 : decode cX6_wipe 1 = .ok (.getfield 52, 3) := by decide +kernel
theorem dX6_wipe_4 : decode cX6_wipe 4 = .ok (.istore_n 1, 1) := by decide +kernel
theorem dX6_wipe_5 : decode cX6_wipe 5 = .ok (.aload_n 0, 1) := by decide +kernel
theorem dX6_wipe_6 : decode cX6_wipe 6 = .ok (.iconst 0, 1) := by decide +kernel
theorem dX6_wipe_7 : decode cX6_wipe 7 = .ok (.putfield 52, 3) := by decide +kernel
theorem dX6_wipe_10 : decode cX6_wipe 10 = .ok (.iload_n 1, 1) := by decide +kernel
theorem dX6_wipe_11 : decode cX6_wipe 11 = .ok (.ireturn, 1) := by decide +kernel
set_option maxRecDepth 20000 in
theorem ggX6_isHand_X6_in : GoodIn wsX6_isHand wsX6_in := goodIn_r _ [4] (by decide +kernel) (by decide +kernel)
set_option maxRecDepth 20000 in
theorem gX6_isHand_X6_in : GoodIn wsX6_isHand (va_wsS RX6 41 yX6_in wsX6_in) := goodIn_app (goodIn_of _ (by decide +kernel)) ggX6_isHand_X6_in
theorem dX6_isHand_0 : decode cX6_isHand 0 = .ok (.iload_n 0, 1) := by decide +kernel
theorem dX6_isHand_1 : decode cX6_isHand 1 = .ok (.bipush 97, 2) := by decide +kernel
theorem dX6_isHand_3 : decode cX6_isHand 3 = .ok (.bipush 100, 2) := by decide +kernel
theorem dX6_isHand_5 : decode cX6_isHand 5 = .ok (.invokestatic 41, 3) := by decide +kernel
theorem dX6_isHand_8 : decode cX6_isHand 8 = .ok (.ireturn, 1) := by decide +kernel
set_option maxRecDepth 20000 in
theorem ggX6_isLetter_X6_in : GoodIn wsX6_isLetter wsX6_in := goodIn_r _ [4] (by decide +kernel) (by decide +kernel)
set_option maxRecDepth 20000 in
theorem gX6_isLetter_X6_in : GoodIn wsX6_isLetter (va_wsS RX6 41 yX6_in wsX6_in) := goodIn_app (goodIn_of _ (by decide +kernel)) ggX6_isLetter_X6_in
theorem dX6_isLetter_0 : decode cX6_isLetter 0 = .ok (.iload_n 0, 1) := by decide +kernel
theorem dX6_isLetter_1 : decode cX6_isLetter 1 = .ok (.bipush 65, 2) := by decide +kernel
theorem dX6_isLetter_3 : decode cX6_isLetter 3 = .ok (.bipush 88, 2) := by decide +kernel
theorem dX6_isLetter_5 : decode cX6_isLetter 5 = .ok (.invokestatic 41, 3) := by decide +kernel
theorem dX6_isLetter_8 : decode cX6_isLetter 8 = .ok (.ireturn, 1) := by decide +kernel
set_option maxRecDepth 20000 in
theorem ggX6_faultOf_X6_isHand : GoodIn wsX6_faultOf wsX6_isHand := goodIn_r _ [6, 7, 8, 5, 9] (by decide +kernel) (by decide +kernel)
set_option maxRecDepth 20000 in
theorem gX6_faultOf_X6_isHand : GoodIn wsX6_faultOf (va_wsS RX6 56 yX6_isHand wsX6_isHand) := goodIn_app (goodIn_of _ (by decide +kernel)) ggX6_faultOf_X6_isHand
set_option maxRecDepth 20000 in
theorem ggX6_faultOf_X6_in : GoodIn wsX6_faultOf wsX6_in := goodIn_r _ [9] (by decide +kernel) (by decide +kernel)
set_option maxRecDepth 20000 in
theorem gX6_faultOf_X6_in : GoodIn wsX6_faultOf (va_wsS RX6 41 yX6_in wsX6_in) := goodIn_app (goodIn_of _ (by decide +kernel)) ggX6_faultOf_X6_in
set_option maxRecDepth 20000 in
theorem ggX6_faultOf_X6_isLetter : GoodIn wsX6_faultOf wsX6_isLetter := goodIn_r _ [12, 7, 8, 5, 9] (by decide +kernel) (by decide +kernel)
set_option maxRecDepth 20000 in
theorem gX6_faultOf_X6_isLetter : GoodIn wsX6_faultOf (va_wsS RX6 59 yX6_isLetter wsX6_isLetter) := goodIn_app (goodIn_of _ (by decide +kernel)) ggX6_faultOf_X6_isLetter
theorem dX6_faultOf_0 : decode cX6_faultOf 0 = .ok (.iconst 0, 1) := by decide +kernel
theorem dX6_faultOf_1 : decode cX6_faultOf 1 = .ok (.istore_n 1, 1) := by decide +kernel
theorem dX6_faultOf_2 : decode cX6_faultOf 2 = .ok (.iconst 0, 1) := by decide +kernel
theorem dX6_faultOf_3 : decode cX6_faultOf 3 = .ok (.istore_n 2, 1) := by decide +kernel
theorem dX6_faultOf_4 : decode cX6_faultOf 4 = .ok (.iload_n 2, 1) := by decide +kernel
theorem dX6_faultOf_5 : decode cX6_faultOf 5 = .ok (.aload_n 0, 1) := by decide +kernel
theorem dX6_faultOf_6 : decode cX6_faultOf 6 = .ok (.getfield 52, 3) := by decide +kernel
theorem dX6_faultOf_9 : decode cX6_faultOf 9 = .ok (.if_icmp .ge 142, 3) := by decide +kernel
theorem dX6_faultOf_12 : decode cX6_faultOf 12 = .ok (.aload_n 0, 1) := by decide +kernel
theorem dX6_faultOf_13 : decode cX6_faultOf 13 = .ok (.getfield 22, 3) := by decide +kernel
theorem dX6_faultOf_16 : decode cX6_faultOf 16 = .ok (.iload_n 2, 1) := by decide +kernel
theorem dX6_faultOf_17 : decode cX6_faultOf 17 = .ok (.iaload, 1) := by decide +kernel
theorem dX6_faultOf_18 : decode cX6_faultOf 18 = .ok (.istore_n 3, 1) := by decide +kernel
theorem dX6_faultOf_19 : decode cX6_faultOf 19 = .ok (.iconst 0, 1) := by decide +kernel
theorem dX6_faultOf_20 : decode cX6_faultOf 20 = .ok (.istore 5, 2) := by decide +kernel
theorem dX6_faultOf_22 : decode cX6_faultOf 22 = .ok (.iload_n 1, 1) := by decide +kernel
theorem dX6_faultOf_23 : decode cX6_faultOf 23 = .ok (.ifCond .ne 62, 3) := by decide +kernel
theorem dX6_faultOf_26 : decode cX6_faultOf 26 = .ok (.iload_n 3, 1) := by decide +kernel
theorem dX6_faultOf_27 : decode cX6_faultOf 27 = .ok (.invokestatic 56, 3) := by decide +kernel
theorem dX6_faultOf_30 : decode cX6_faultOf 30 = .ok (.ifCond .ne 21, 3) := by decide +kernel
theorem dX6_faultOf_33 : decode cX6_faultOf 33 = .ok (.iload_n 3, 1) := by decide +kernel
theorem dX6_faultOf_34 : decode cX6_faultOf 34 = .ok (.bipush 45, 2) := by decide +kernel
theorem dX6_faultOf_36 : decode cX6_faultOf 36 = .ok (.if_icmp .eq 15, 3) := by decide +kernel
theorem dX6_faultOf_39 : decode cX6_faultOf 39 = .ok (.iload_n 3, 1) := by decide +kernel
theorem dX6_faultOf_40 : decode cX6_faultOf 40 = .ok (.bipush 42, 2) := by decide +kernel
theorem dX6_faultOf_42 : decode cX6_faultOf 42 = .ok (.if_icmp .eq 9, 3) := by decide +kernel
theorem dX6_faultOf_45 : decode cX6_faultOf 45 = .ok (.iload_n 3, 1) := by decide +kernel
theorem dX6_faultOf_46 : decode cX6_faultOf 46 = .ok (.bipush 43, 2) := by decide +kernel
theorem dX6_faultOf_48 : decode cX6_faultOf 48 = .ok (.if_icmp .ne 7, 3) := by decide +kernel
theorem dX6_faultOf_51 : decode cX6_faultOf 51 = .ok (.iconst 1, 1) := by decide +kernel
theorem dX6_faultOf_52 : decode cX6_faultOf 52 = .ok (.goto 4, 3) := by decide +kernel
theorem dX6_faultOf_55 : decode cX6_faultOf 55 = .ok (.iconst 0, 1) := by decide +kernel
theorem dX6_faultOf_56 : decode cX6_faultOf 56 = .ok (.istore 4, 2) := by decide +kernel
theorem dX6_faultOf_58 : decode cX6_faultOf 58 = .ok (.iload_n 3, 1) := by decide +kernel
theorem dX6_faultOf_59 : decode cX6_faultOf 59 = .ok (.invokestatic 56, 3) := by decide +kernel
theorem dX6_faultOf_62 : decode cX6_faultOf 62 = .ok (.ifCond .eq 7, 3) := by decide +kernel
theorem dX6_faultOf_65 : decode cX6_faultOf 65 = .ok (.iconst 1, 1) := by decide +kernel
theorem dX6_faultOf_66 : decode cX6_faultOf 66 = .ok (.goto 14, 3) := by decide +kernel
theorem dX6_faultOf_69 : decode cX6_faultOf 69 = .ok (.iload_n 3, 1) := by decide +kernel
theorem dX6_faultOf_70 : decode cX6_faultOf 70 = .ok (.bipush 43, 2) := by decide +kernel
theorem dX6_faultOf_72 : decode cX6_faultOf 72 = .ok (.if_icmp .ne 7, 3) := by decide +kernel
theorem dX6_faultOf_75 : decode cX6_faultOf 75 = .ok (.iconst 3, 1) := by decide +kernel
theorem dX6_faultOf_76 : decode cX6_faultOf 76 = .ok (.goto 4, 3) := by decide +kernel
theorem dX6_faultOf_79 : decode cX6_faultOf 79 = .ok (.iconst 2, 1) := by decide +kernel
theorem dX6_faultOf_80 : decode cX6_faultOf 80 = .ok (.istore 5, 2) := by decide +kernel
theorem dX6_faultOf_82 : decode cX6_faultOf 82 = .ok (.goto 53, 3) := by decide +kernel
theorem dX6_faultOf_85 : decode cX6_faultOf 85 = .ok (.iload_n 1, 1) := by decide +kernel
theorem dX6_faultOf_86 : decode cX6_faultOf 86 = .ok (.iconst 1, 1) := by decide +kernel
theorem dX6_faultOf_87 : decode cX6_faultOf 87 = .ok (.if_icmp .ne 16, 3) := by decide +kernel
theorem dX6_faultOf_90 : decode cX6_faultOf 90 = .ok (.iload_n 3, 1) := by decide +kernel
theorem dX6_faultOf_91 : decode cX6_faultOf 91 = .ok (.bipush 48, 2) := by decide +kernel
theorem dX6_faultOf_93 : decode cX6_faultOf 93 = .ok (.bipush 51, 2) := by decide +kernel
theorem dX6_faultOf_95 : decode cX6_faultOf 95 = .ok (.invokestatic 41, 3) := by decide +kernel
theorem dX6_faultOf_98 : decode cX6_faultOf 98 = .ok (.istore 4, 2) := by decide +kernel
theorem dX6_faultOf_100 : decode cX6_faultOf 100 = .ok (.goto 35, 3) := by decide +kernel
theorem dX6_faultOf_103 : decode cX6_faultOf 103 = .ok (.iload_n 1, 1) := by decide +kernel
theorem dX6_faultOf_104 : decode cX6_faultOf 104 = .ok (.iconst 4, 1) := by decide +kernel
theorem dX6_faultOf_105 : decode cX6_faultOf 105 = .ok (.if_icmp .ne 12, 3) := by decide +kernel
theorem dX6_faultOf_108 : decode cX6_faultOf 108 = .ok (.iload_n 3, 1) := by decide +kernel
theorem dX6_faultOf_109 : decode cX6_faultOf 109 = .ok (.invokestatic 56, 3) := by decide +kernel
theorem dX6_faultOf_112 : decode cX6_faultOf 112 = .ok (.istore 4, 2) := by decide +kernel
theorem dX6_faultOf_114 : decode cX6_faultOf 114 = .ok (.goto 21, 3) := by decide +kernel
theorem dX6_faultOf_117 : decode cX6_faultOf 117 = .ok (.iload_n 3, 1) := by decide +kernel
theorem dX6_faultOf_118 : decode cX6_faultOf 118 = .ok (.invokestatic 59, 3) := by decide +kernel
theorem dX6_faultOf_121 : decode cX6_faultOf 121 = .ok (.istore 4, 2) := by decide +kernel
theorem dX6_faultOf_123 : decode cX6_faultOf 123 = .ok (.iload_n 1, 1) := by decide +kernel
theorem dX6_faultOf_124 : decode cX6_faultOf 124 = .ok (.iconst 3, 1) := by decide +kernel
theorem dX6_faultOf_125 : decode cX6_faultOf 125 = .ok (.if_icmp .ne 7, 3) := by decide +kernel
theorem dX6_faultOf_128 : decode cX6_faultOf 128 = .ok (.iconst 4, 1) := by decide +kernel
theorem dX6_faultOf_129 : decode cX6_faultOf 129 = .ok (.goto 4, 3) := by decide +kernel
theorem dX6_faultOf_132 : decode cX6_faultOf 132 = .ok (.iconst 0, 1) := by decide +kernel
theorem dX6_faultOf_133 : decode cX6_faultOf 133 = .ok (.istore 5, 2) := by decide +kernel
theorem dX6_faultOf_135 : decode cX6_faultOf 135 = .ok (.iload 4, 2) := by decide +kernel
theorem dX6_faultOf_137 : decode cX6_faultOf 137 = .ok (.ifCond .ne 5, 3) := by decide +kernel
theorem dX6_faultOf_140 : decode cX6_faultOf 140 = .ok (.iload_n 2, 1) := by decide +kernel
theorem dX6_faultOf_141 : decode cX6_faultOf 141 = .ok (.ireturn, 1) := by decide +kernel
theorem dX6_faultOf_142 : decode cX6_faultOf 142 = .ok (.iload 5, 2) := by decide +kernel
theorem dX6_faultOf_144 : decode cX6_faultOf 144 = .ok (.istore_n 1, 1) := by decide +kernel
theorem dX6_faultOf_145 : decode cX6_faultOf 145 = .ok (.iinc 2 1, 3) := by decide +kernel
theorem dX6_faultOf_148 : decode cX6_faultOf 148 = .ok (.goto (-144), 3) := by decide +kernel
theorem dX6_faultOf_151 : decode cX6_faultOf 151 = .ok (.iload_n 1, 1) := by decide +kernel
theorem dX6_faultOf_152 : decode cX6_faultOf 152 = .ok (.ifCond .ne 8, 3) := by decide +kernel
theorem dX6_faultOf_155 : decode cX6_faultOf 155 = .ok (.bipush (-6), 2) := by decide +kernel
theorem dX6_faultOf_157 : decode cX6_faultOf 157 = .ok (.goto 7, 3) := by decide +kernel
theorem dX6_faultOf_160 : decode cX6_faultOf 160 = .ok (.aload_n 0, 1) := by decide +kernel
theorem dX6_faultOf_161 : decode cX6_faultOf 161 = .ok (.getfield 52, 3) := by decide +kernel
theorem dX6_faultOf_164 : decode cX6_faultOf 164 = .ok (.ireturn, 1) := by decide +kernel
set_option maxRecDepth 20000 in
theorem ggX6_fault_X6_faultOf : GoodIn wsX6_fault wsX6_faultOf := goodIn_r _ [5, 6, 7, 8, 9, 4, 10, 11, 12, 13, 14, 15, 16, 17, 18, 19, 20, 21, 22, 23, 24, 25, 26, 27, 28, 29, 30, 31] (by decide +kernel) (by decide +kernel)
set_option maxRecDepth 20000 in
theorem gX6_fault_X6_faultOf : GoodIn wsX6_fault (wsV RX6 62 RX6 yX6_faultOf wsX6_faultOf) := goodIn_app (goodIn_of _ (by decide +kernel)) ggX6_fault_X6_faultOf
theorem dX6_fault_0 : decode cX6_fault 0 = .ok (.aload_n 0, 1) := by decide +kernel
theorem dX6_fault_1 : decode cX6_fault 1 = .ok (.invokevirtual 62, 3) := by decide +kernel
theorem dX6_fault_4 : decode cX6_fault 4 = .ok (.ireturn, 1) := by decide +kernel
theorem dX6_asNow_0 : decode cX6_asNow 0 = .ok (.iconst 0, 1) := by decide +kernel
theorem dX6_asNow_1 : decode cX6_asNow 1 = .ok (.istore_n 1, 1) := by decide +kernel
theorem dX6_asNow_2 : decode cX6_asNow 2 = .ok (.iload_n 1, 1) := by decide +kernel
theorem dX6_asNow_3 : decode cX6_asNow 3 = .ok (.bipush 97, 2) := by decide +kernel
theorem dX6_asNow_5 : decode cX6_asNow 5 = .ok (.if_icmp .ge 21, 3) := by decide +kernel
theorem dX6_asNow_8 : decode cX6_asNow 8 = .ok (.aload_n 0, 1) := by decide +kernel
theorem dX6_asNow_9 : decode cX6_asNow 9 = .ok (.getfield 13, 3) := by decide +kernel
theorem dX6_asNow_12 : decode cX6_asNow 12 = .ok (.iload_n 1, 1) := by decide +kernel
theorem dX6_asNow_13 : decode cX6_asNow 13 = .ok (.aload_n 0, 1) := by decide +kernel
theorem dX6_asNow_14 : decode cX6_asNow 14 = .ok (.getfield 7, 3) := by decide +kernel
theorem dX6_asNow_17 : decode cX6_asNow 17 = .ok (.iload_n 1, 1) := by decide +kernel
theorem dX6_asNow_18 : decode cX6_asNow 18 = .ok (.iaload, 1) := by decide +kernel
theorem dX6_asNow_19 : decode cX6_asNow 19 = .ok (.iastore, 1) := by decide +kernel
theorem dX6_asNow_20 : decode cX6_asNow 20 = .ok (.iinc 1 1, 3) := by decide +kernel
theorem dX6_asNow_23 : decode cX6_asNow 23 = .ok (.goto (-21), 3) := by decide +kernel
theorem dX6_asNow_26 : decode cX6_asNow 26 = .ok (.aload_n 0, 1) := by decide +kernel
theorem dX6_asNow_27 : decode cX6_asNow 27 = .ok (.iconst 0, 1) := by decide +kernel
theorem dX6_asNow_28 : decode cX6_asNow 28 = .ok (.putfield 66, 3) := by decide +kernel
theorem dX6_asNow_31 : decode cX6_asNow 31 = .ok (.return_, 1) := by decide +kernel
set_option maxRecDepth 20000 in
theorem ggX6_threadOf_X6_has : GoodIn wsX6_threadOf wsX6_has := goodIn_r _ [5] (by decide +kernel) (by decide +kernel)
set_option maxRecDepth 20000 in
theorem gX6_threadOf_X6_has : GoodIn wsX6_threadOf (va_wsS RX6 69 yX6_has wsX6_has) := goodIn_app (goodIn_of _ (by decide +kernel)) ggX6_threadOf_X6_has
theorem dX6_threadOf_0 : decode cX6_threadOf 0 = .ok (.iconst 1, 1) := by decide +kernel
theorem dX6_threadOf_1 : decode cX6_threadOf 1 = .ok (.iload_n 1, 1) := by decide +kernel
theorem dX6_threadOf_2 : decode cX6_threadOf 2 = .ok (.ishl, 1) := by decide +kernel
theorem dX6_threadOf_3 : decode cX6_threadOf 3 = .ok (.istore_n 2, 1) := by decide +kernel
theorem dX6_threadOf_4 : decode cX6_threadOf 4 = .ok (.iload_n 1, 1) := by decide +kernel
theorem dX6_threadOf_5 : decode cX6_threadOf 5 = .ok (.iconst 1, 1) := by decide +kernel
theorem dX6_threadOf_6 : decode cX6_threadOf 6 = .ok (.iadd, 1) := by decide +kernel
theorem dX6_threadOf_7 : decode cX6_threadOf 7 = .ok (.istore_n 3, 1) := by decide +kernel
theorem dX6_threadOf_8 : decode cX6_threadOf 8 = .ok (.iload_n 3, 1) := by decide +kernel
theorem dX6_threadOf_9 : decode cX6_threadOf 9 = .ok (.aload_n 0, 1) := by decide +kernel
theorem dX6_threadOf_10 : decode cX6_threadOf 10 = .ok (.getfield 13, 3) := by decide +kernel
theorem dX6_threadOf_13 : decode cX6_threadOf 13 = .ok (.bipush 96, 2) := by decide +kernel
theorem dX6_threadOf_15 : decode cX6_threadOf 15 = .ok (.iaload, 1) := by decide +kernel
theorem dX6_threadOf_16 : decode cX6_threadOf 16 = .ok (.if_icmp .ge 44, 3) := by decide +kernel
theorem dX6_threadOf_19 : decode cX6_threadOf 19 = .ok (.aload_n 0, 1) := by decide +kernel
theorem dX6_threadOf_20 : decode cX6_threadOf 20 = .ok (.getfield 13, 3) := by decide +kernel
theorem dX6_threadOf_23 : decode cX6_threadOf 23 = .ok (.bipush 48, 2) := by decide +kernel
theorem dX6_threadOf_25 : decode cX6_threadOf 25 = .ok (.iload_n 3, 1) := by decide +kernel
theorem dX6_threadOf_26 : decode cX6_threadOf 26 = .ok (.iadd, 1) := by decide +kernel
theorem dX6_threadOf_27 : decode cX6_threadOf 27 = .ok (.iaload, 1) := by decide +kernel
theorem dX6_threadOf_28 : decode cX6_threadOf 28 = .ok (.istore 4, 2) := by decide +kernel
theorem dX6_threadOf_30 : decode cX6_threadOf 30 = .ok (.iload_n 2, 1) := by decide +kernel
theorem dX6_threadOf_31 : decode cX6_threadOf 31 = .ok (.iload 4, 2) := by decide +kernel
theorem dX6_threadOf_33 : decode cX6_threadOf 33 = .ok (.ifCond .lt 18, 3) := by decide +kernel
theorem dX6_threadOf_36 : decode cX6_threadOf 36 = .ok (.iload_n 2, 1) := by decide +kernel
theorem dX6_threadOf_37 : decode cX6_threadOf 37 = .ok (.iload 4, 2) := by decide +kernel
theorem dX6_threadOf_39 : decode cX6_threadOf 39 = .ok (.invokestatic 69, 3) := by decide +kernel
theorem dX6_threadOf_42 : decode cX6_threadOf 42 = .ok (.ifCond .eq 9, 3) := by decide +kernel
theorem dX6_threadOf_45 : decode cX6_threadOf 45 = .ok (.iconst 1, 1) := by decide +kernel
theorem dX6_threadOf_46 : decode cX6_threadOf 46 = .ok (.iload_n 3, 1) := by decide +kernel
theorem dX6_threadOf_47 : decode cX6_threadOf 47 = .ok (.ishl, 1) := by decide +kernel
theorem dX6_threadOf_48 : decode cX6_threadOf 48 = .ok (.goto 4, 3) := by decide +kernel
theorem dX6_threadOf_51 : decode cX6_threadOf 51 = .ok (.iconst 0, 1) := by decide +kernel
theorem dX6_threadOf_52 : decode cX6_threadOf 52 = .ok (.ior, 1) := by decide +kernel
theorem dX6_threadOf_53 : decode cX6_threadOf 53 = .ok (.istore_n 2, 1) := by decide +kernel
theorem dX6_threadOf_54 : decode cX6_threadOf 54 = .ok (.iinc 3 1, 3) := by decide +kernel
theorem dX6_threadOf_57 : decode cX6_threadOf 57 = .ok (.goto (-49), 3) := by decide +kernel
theorem dX6_threadOf_60 : decode cX6_threadOf 60 = .ok (.iload_n 2, 1) := by decide +kernel
theorem dX6_threadOf_61 : decode cX6_threadOf 61 = .ok (.ireturn, 1) := by decide +kernel
set_option maxRecDepth 20000 in
theorem ggX6_takeOut_X6_has : GoodIn wsX6_takeOut wsX6_has := goodIn_r _ [6] (by decide +kernel) (by decide +kernel)
set_option maxRecDepth 20000 in
theorem gX6_takeOut_X6_has : GoodIn wsX6_takeOut (va_wsS RX6 69 yX6_has wsX6_has) := goodIn_app (goodIn_of _ (by decide +kernel)) ggX6_takeOut_X6_has
theorem dX6_takeOut_0 : decode cX6_takeOut 0 = .ok (.iconst 0, 1) := by decide +kernel
theorem dX6_takeOut_1 : decode cX6_takeOut 1 = .ok (.istore_n 2, 1) := by decide +kernel
theorem dX6_takeOut_2 : decode cX6_takeOut 2 = .ok (.iconst 0, 1) := by decide +kernel
theorem dX6_takeOut_3 : decode cX6_takeOut 3 = .ok (.istore_n 3, 1) := by decide +kernel
theorem dX6_takeOut_4 : decode cX6_takeOut 4 = .ok (.iload_n 3, 1) := by decide +kernel
theorem dX6_takeOut_5 : decode cX6_takeOut 5 = .ok (.aload_n 0, 1) := by decide +kernel
theorem dX6_takeOut_6 : decode cX6_takeOut 6 = .ok (.getfield 13, 3) := by decide +kernel
theorem dX6_takeOut_9 : decode cX6_takeOut 9 = .ok (.bipush 96, 2) := by decide +kernel
theorem dX6_takeOut_11 : decode cX6_takeOut 11 = .ok (.iaload, 1) := by decide +kernel
theorem dX6_takeOut_12 : decode cX6_takeOut 12 = .ok (.if_icmp .ge 112, 3) := by decide +kernel
theorem dX6_takeOut_15 : decode cX6_takeOut 15 = .ok (.aload_n 0, 1) := by decide +kernel
theorem dX6_takeOut_16 : decode cX6_takeOut 16 = .ok (.getfield 25, 3) := by decide +kernel
theorem dX6_takeOut_19 : decode cX6_takeOut 19 = .ok (.iload_n 3, 1) := by decide +kernel
theorem dX6_takeOut_20 : decode cX6_takeOut 20 = .ok (.iload_n 2, 1) := by decide +kernel
theorem dX6_takeOut_21 : decode cX6_takeOut 21 = .ok (.iastore, 1) := by decide +kernel
theorem dX6_takeOut_22 : decode cX6_takeOut 22 = .ok (.iload_n 1, 1) := by decide +kernel
theorem dX6_takeOut_23 : decode cX6_takeOut 23 = .ok (.iload_n 3, 1) := by decide +kernel
theorem dX6_takeOut_24 : decode cX6_takeOut 24 = .ok (.invokestatic 69, 3) := by decide +kernel
theorem dX6_takeOut_27 : decode cX6_takeOut 27 = .ok (.ifCond .ne 91, 3) := by decide +kernel
theorem dX6_takeOut_30 : decode cX6_takeOut 30 = .ok (.aload_n 0, 1) := by decide +kernel
theorem dX6_takeOut_31 : decode cX6_takeOut 31 = .ok (.getfield 13, 3) := by decide +kernel
theorem dX6_takeOut_34 : decode cX6_takeOut 34 = .ok (.bipush 48, 2) := by decide +kernel
theorem dX6_takeOut_36 : decode cX6_takeOut 36 = .ok (.iload_n 3, 1) := by decide +kernel
theorem dX6_takeOut_37 : decode cX6_takeOut 37 = .ok (.iadd, 1) := by decide +kernel
theorem dX6_takeOut_38 : decode cX6_takeOut 38 = .ok (.iaload, 1) := by decide +kernel
theorem dX6_takeOut_39 : decode cX6_takeOut 39 = .ok (.istore 4, 2) := by decide +kernel
theorem dX6_takeOut_41 : decode cX6_takeOut 41 = .ok (.aload_n 0, 1) := by decide +kernel
theorem dX6_takeOut_42 : decode cX6_takeOut 42 = .ok (.getfield 13, 3) := by decide +kernel
theorem dX6_takeOut_45 : decode cX6_takeOut 45 = .ok (.iload_n 2, 1) := by decide +kernel
theorem dX6_takeOut_46 : decode cX6_takeOut 46 = .ok (.aload_n 0, 1) := by decide +kernel
theorem dX6_takeOut_47 : decode cX6_takeOut 47 = .ok (.getfield 13, 3) := by decide +kernel
theorem dX6_takeOut_50 : decode cX6_takeOut 50 = .ok (.iload_n 3, 1) := by decide +kernel
theorem dX6_takeOut_51 : decode cX6_takeOut 51 = .ok (.iaload, 1) := by decide +kernel
theorem dX6_takeOut_52 : decode cX6_takeOut 52 = .ok (.iastore, 1) := by decide +kernel
theorem dX6_takeOut_53 : decode cX6_takeOut 53 = .ok (.aload_n 0, 1) := by decide +kernel
theorem dX6_takeOut_54 : decode cX6_takeOut 54 = .ok (.getfield 13, 3) := by decide +kernel
theorem dX6_takeOut_57 : decode cX6_takeOut 57 = .ok (.bipush 24, 2) := by decide +kernel
theorem dX6_takeOut_59 : decode cX6_takeOut 59 = .ok (.iload_n 2, 1) := by decide +kernel
theorem dX6_takeOut_60 : decode cX6_takeOut 60 = .ok (.iadd, 1) := by decide +kernel
theorem dX6_takeOut_61 : decode cX6_takeOut 61 = .ok (.aload_n 0, 1) := by decide +kernel
theorem dX6_takeOut_62 : decode cX6_takeOut 62 = .ok (.getfield 13, 3) := by decide +kernel
theorem dX6_takeOut_65 : decode cX6_takeOut 65 = .ok (.bipush 24, 2) := by decide +kernel
theorem dX6_takeOut_67 : decode cX6_takeOut 67 = .ok (.iload_n 3, 1) := by decide +kernel
theorem dX6_takeOut_68 : decode cX6_takeOut 68 = .ok (.iadd, 1) := by decide +kernel
theorem dX6_takeOut_69 : decode cX6_takeOut 69 = .ok (.iaload, 1) := by decide +kernel
theorem dX6_takeOut_70 : decode cX6_takeOut 70 = .ok (.iastore, 1) := by decide +kernel
theorem dX6_takeOut_71 : decode cX6_takeOut 71 = .ok (.aload_n 0, 1) := by decide +kernel
theorem dX6_takeOut_72 : decode cX6_takeOut 72 = .ok (.getfield 13, 3) := by decide +kernel
theorem dX6_takeOut_75 : decode cX6_takeOut 75 = .ok (.bipush 48, 2) := by decide +kernel
theorem dX6_takeOut_77 : decode cX6_takeOut 77 = .ok (.iload_n 2, 1) := by decide +kernel
theorem dX6_takeOut_78 : decode cX6_takeOut 78 = .ok (.iadd, 1) := by decide +kernel
theorem dX6_takeOut_79 : decode cX6_takeOut 79 = .ok (.iload 4, 2) := by decide +kernel
theorem dX6_takeOut_81 : decode cX6_takeOut 81 = .ok (.ifCond .ge 8, 3) := by decide +kernel
theorem dX6_takeOut_84 : decode cX6_takeOut 84 = .ok (.bipush (-6), 2) := by decide +kernel
theorem dX6_takeOut_86 : decode cX6_takeOut 86 = .ok (.goto 10, 3) := by decide +kernel
theorem dX6_takeOut_89 : decode cX6_takeOut 89 = .ok (.aload_n 0, 1) := by decide +kernel
theorem dX6_takeOut_90 : decode cX6_takeOut 90 = .ok (.getfield 25, 3) := by decide +kernel
theorem dX6_takeOut_93 : decode cX6_takeOut 93 = .ok (.iload 4, 2) := by decide +kernel
theorem dX6_takeOut_95 : decode cX6_takeOut 95 = .ok (.iaload, 1) := by decide +kernel
theorem dX6_takeOut_96 : decode cX6_takeOut 96 = .ok (.iastore, 1) := by decide +kernel
theorem dX6_takeOut_97 : decode cX6_takeOut 97 = .ok (.aload_n 0, 1) := by decide +kernel
theorem dX6_takeOut_98 : decode cX6_takeOut 98 = .ok (.getfield 13, 3) := by decide +kernel
theorem dX6_takeOut_101 : decode cX6_takeOut 101 = .ok (.bipush 72, 2) := by decide +kernel
theorem dX6_takeOut_103 : decode cX6_takeOut 103 = .ok (.iload_n 2, 1) := by decide +kernel
theorem dX6_takeOut_104 : decode cX6_takeOut 104 = .ok (.iadd, 1) := by decide +kernel
theorem dX6_takeOut_105 : decode cX6_takeOut 105 = .ok (.aload_n 0, 1) := by decide +kernel
theorem dX6_takeOut_106 : decode cX6_takeOut 106 = .ok (.getfield 13, 3) := by decide +kernel
theorem dX6_takeOut_109 : decode cX6_takeOut 109 = .ok (.bipush 72, 2) := by decide +kernel
theorem dX6_takeOut_111 : decode cX6_takeOut 111 = .ok (.iload_n 3, 1) := by decide +kernel
theorem dX6_takeOut_112 : decode cX6_takeOut 112 = .ok (.iadd, 1) := by decide +kernel
theorem dX6_takeOut_113 : decode cX6_takeOut 113 = .ok (.iaload, 1) := by decide +kernel
theorem dX6_takeOut_114 : decode cX6_takeOut 114 = .ok (.iastore, 1) := by decide +kernel
theorem dX6_takeOut_115 : decode cX6_takeOut 115 = .ok (.iinc 2 1, 3) := by decide +kernel
theorem dX6_takeOut_118 : decode cX6_takeOut 118 = .ok (.iinc 3 1, 3) := by decide +kernel
theorem dX6_takeOut_121 : decode cX6_takeOut 121 = .ok (.goto (-117), 3) := by decide +kernel
theorem dX6_takeOut_124 : decode cX6_takeOut 124 = .ok (.aload_n 0, 1) := by decide +kernel
theorem dX6_takeOut_125 : decode cX6_takeOut 125 = .ok (.getfield 13, 3) := by decide +kernel
theorem dX6_takeOut_128 : decode cX6_takeOut 128 = .ok (.bipush 96, 2) := by decide +kernel
theorem dX6_takeOut_130 : decode cX6_takeOut 130 = .ok (.iload_n 2, 1) := by decide +kernel
theorem dX6_takeOut_131 : decode cX6_takeOut 131 = .ok (.iastore, 1) := by decide +kernel
theorem dX6_takeOut_132 : decode cX6_takeOut 132 = .ok (.return_, 1) := by decide +kernel
theorem dX6_knit_0 : decode cX6_knit 0 = .ok (.aload_n 0, 1) := by decide +kernel
theorem dX6_knit_1 : decode cX6_knit 1 = .ok (.getfield 13, 3) := by decide +kernel
theorem dX6_knit_4 : decode cX6_knit 4 = .ok (.bipush 96, 2) := by decide +kernel
theorem dX6_knit_6 : decode cX6_knit 6 = .ok (.iaload, 1) := by decide +kernel
theorem dX6_knit_7 : decode cX6_knit 7 = .ok (.istore_n 3, 1) := by decide +kernel
theorem dX6_knit_8 : decode cX6_knit 8 = .ok (.iload_n 3, 1) := by decide +kernel
theorem dX6_knit_9 : decode cX6_knit 9 = .ok (.bipush 24, 2) := by decide +kernel
theorem dX6_knit_11 : decode cX6_knit 11 = .ok (.if_icmp .ne 5, 3) := by decide +kernel
theorem dX6_knit_14 : decode cX6_knit 14 = .ok (.iconst 2, 1) := by decide +kernel
theorem dX6_knit_15 : decode cX6_knit 15 = .ok (.ireturn, 1) := by decide +kernel
theorem dX6_knit_16 : decode cX6_knit 16 = .ok (.bipush (-6), 2) := by decide +kernel
theorem dX6_knit_18 : decode cX6_knit 18 = .ok (.istore 4, 2) := by decide +kernel
theorem dX6_knit_20 : decode cX6_knit 20 = .ok (.iconst 0, 1) := by decide +kernel
theorem dX6_knit_21 : decode cX6_knit 21 = .ok (.istore 5, 2) := by decide +kernel
theorem dX6_knit_23 : decode cX6_knit 23 = .ok (.iload 5, 2) := by decide +kernel
theorem dX6_knit_25 : decode cX6_knit 25 = .ok (.iload_n 3, 1) := by decide +kernel
theorem dX6_knit_26 : decode cX6_knit 26 = .ok (.if_icmp .ge 42, 3) := by decide +kernel
theorem dX6_knit_29 : decode cX6_knit 29 = .ok (.aload_n 0, 1) := by decide +kernel
theorem dX6_knit_30 : decode cX6_knit 30 = .ok (.getfield 13, 3) := by decide +kernel
theorem dX6_knit_33 : decode cX6_knit 33 = .ok (.iload 5, 2) := by decide +kernel
theorem dX6_knit_35 : decode cX6_knit 35 = .ok (.iaload, 1) := by decide +kernel
theorem dX6_knit_36 : decode cX6_knit 36 = .ok (.iload_n 2, 1) := by decide +kernel
theorem dX6_knit_37 : decode cX6_knit 37 = .ok (.if_icmp .ne 21, 3) := by decide +kernel
theorem dX6_knit_40 : decode cX6_knit 40 = .ok (.aload_n 0, 1) := by decide +kernel
theorem dX6_knit_41 : decode cX6_knit 41 = .ok (.getfield 13, 3) := by decide +kernel
theorem dX6_knit_44 : decode cX6_knit 44 = .ok (.bipush 72, 2) := by decide +kernel
theorem dX6_knit_46 : decode cX6_knit 46 = .ok (.iload 5, 2) := by decide +kernel
theorem dX6_knit_48 : decode cX6_knit 48 = .ok (.iadd, 1) := by decide +kernel
theorem dX6_knit_49 : decode cX6_knit 49 = .ok (.iaload, 1) := by decide +kernel
theorem dX6_knit_50 : decode cX6_knit 50 = .ok (.ifCond .ne 8, 3) := by decide +kernel
theorem dX6_knit_53 : decode cX6_knit 53 = .ok (.iload 5, 2) := by decide +kernel
theorem dX6_knit_55 : decode cX6_knit 55 = .ok (.goto 5, 3) := by decide +kernel
theorem dX6_knit_58 : decode cX6_knit 58 = .ok (.iload 4, 2) := by decide +kernel
theorem dX6_knit_60 : decode cX6_knit 60 = .ok (.istore 4, 2) := by decide +kernel
theorem dX6_knit_62 : decode cX6_knit 62 = .ok (.iinc 5 1, 3) := by decide +kernel
theorem dX6_knit_65 : decode cX6_knit 65 = .ok (.goto (-42), 3) := by decide +kernel
theorem dX6_knit_68 : decode cX6_knit 68 = .ok (.aload_n 0, 1) := by decide +kernel
theorem dX6_knit_69 : decode cX6_knit 69 = .ok (.getfield 13, 3) := by decide +kernel
theorem dX6_knit_72 : decode cX6_knit 72 = .ok (.iload_n 3, 1) := by decide +kernel
theorem dX6_knit_73 : decode cX6_knit 73 = .ok (.iload_n 2, 1) := by decide +kernel
theorem dX6_knit_74 : decode cX6_knit 74 = .ok (.iastore, 1) := by decide +kernel
theorem dX6_knit_75 : decode cX6_knit 75 = .ok (.aload_n 0, 1) := by decide +kernel
theorem dX6_knit_76 : decode cX6_knit 76 = .ok (.getfield 13, 3) := by decide +kernel
theorem dX6_knit_79 : decode cX6_knit 79 = .ok (.bipush 24, 2) := by decide +kernel
theorem dX6_knit_81 : decode cX6_knit 81 = .ok (.iload_n 3, 1) := by decide +kernel
theorem dX6_knit_82 : decode cX6_knit 82 = .ok (.iadd, 1) := by decide +kernel
theorem dX6_knit_83 : decode cX6_knit 83 = .ok (.aload_n 0, 1) := by decide +kernel
theorem dX6_knit_84 : decode cX6_knit 84 = .ok (.getfield 16, 3) := by decide +kernel
theorem dX6_knit_87 : decode cX6_knit 87 = .ok (.iload_n 1, 1) := by decide +kernel
theorem dX6_knit_88 : decode cX6_knit 88 = .ok (.iaload, 1) := by decide +kernel
theorem dX6_knit_89 : decode cX6_knit 89 = .ok (.iastore, 1) := by decide +kernel
theorem dX6_knit_90 : decode cX6_knit 90 = .ok (.aload_n 0, 1) := by decide +kernel
theorem dX6_knit_91 : decode cX6_knit 91 = .ok (.getfield 13, 3) := by decide +kernel
theorem dX6_knit_94 : decode cX6_knit 94 = .ok (.bipush 48, 2) := by decide +kernel
theorem dX6_knit_96 : decode cX6_knit 96 = .ok (.iload_n 3, 1) := by decide +kernel
theorem dX6_knit_97 : decode cX6_knit 97 = .ok (.iadd, 1) := by decide +kernel
theorem dX6_knit_98 : decode cX6_knit 98 = .ok (.iload 4, 2) := by decide +kernel
theorem dX6_knit_100 : decode cX6_knit 100 = .ok (.iastore, 1) := by decide +kernel
theorem dX6_knit_101 : decode cX6_knit 101 = .ok (.aload_n 0, 1) := by decide +kernel
theorem dX6_knit_102 : decode cX6_knit 102 = .ok (.getfield 13, 3) := by decide +kernel
theorem dX6_knit_105 : decode cX6_knit 105 = .ok (.bipush 72, 2) := by decide +kernel
theorem dX6_knit_107 : decode cX6_knit 107 = .ok (.iload_n 3, 1) := by decide +kernel
theorem dX6_knit_108 : decode cX6_knit 108 = .ok (.iadd, 1) := by decide +kernel
theorem dX6_knit_109 : decode cX6_knit 109 = .ok (.iconst 0, 1) := by decide +kernel
theorem dX6_knit_110 : decode cX6_knit 110 = .ok (.iastore, 1) := by decide +kernel
theorem dX6_knit_111 : decode cX6_knit 111 = .ok (.aload_n 0, 1) := by decide +kernel
theorem dX6_knit_112 : decode cX6_knit 112 = .ok (.getfield 13, 3) := by decide +kernel
theorem dX6_knit_115 : decode cX6_knit 115 = .ok (.bipush 96, 2) := by decide +kernel
theorem dX6_knit_117 : decode cX6_knit 117 = .ok (.iload_n 3, 1) := by decide +kernel
theorem dX6_knit_118 : decode cX6_knit 118 = .ok (.iconst 1, 1) := by decide +kernel
theorem dX6_knit_119 : decode cX6_knit 119 = .ok (.iadd, 1) := by decide +kernel
theorem dX6_knit_120 : decode cX6_knit 120 = .ok (.iastore, 1) := by decide +kernel
theorem dX6_knit_121 : decode cX6_knit 121 = .ok (.iconst 0, 1) := by decide +kernel
theorem dX6_knit_122 : decode cX6_knit 122 = .ok (.ireturn, 1) := by decide +kernel
set_option maxRecDepth 20000 in
theorem ggX6_pullOut_X6_threadOf : GoodIn wsX6_pullOut wsX6_threadOf := goodIn_r _ [6, 1, 7, 8, 5, 9, 18, 19, 20, 21, 22, 23, 24, 25, 26, 27, 28, 29, 30, 31, 32] (by decide +kernel) (by decide +kernel)
set_option maxRecDepth 20000 in
theorem gX6_pullOut_X6_threadOf : GoodIn wsX6_pullOut (wsV RX6 73 RX6 yX6_threadOf wsX6_threadOf) := goodIn_app (goodIn_of _ (by decide +kernel)) ggX6_pullOut_X6_threadOf
set_option maxRecDepth 20000 in
theorem ggX6_pullOut_X6_takeOut : GoodIn wsX6_pullOut wsX6_takeOut := goodIn_r _ [13, 1, 14, 7, 8, 5, 9, 18, 19, 20, 21, 22, 23, 24, 25, 26, 27, 28, 29, 30, 31, 32] (by decide +kernel) (by decide +kernel)
set_option maxRecDepth 20000 in
theorem gX6_pullOut_X6_takeOut : GoodIn wsX6_pullOut (wsV RX6 77 RX6 yX6_takeOut wsX6_takeOut) := goodIn_app (goodIn_of _ (by decide +kernel)) ggX6_pullOut_X6_takeOut
set_option maxRecDepth 20000 in
theorem ggX6_pullOut_X6_bits : GoodIn wsX6_pullOut wsX6_bits := goodIn_r _ [17] (by decide +kernel) (by decide +kernel)
set_option maxRecDepth 20000 in
theorem gX6_pullOut_X6_bits : GoodIn wsX6_pullOut (va_wsS RX6 81 yX6_bits wsX6_bits) := goodIn_app (goodIn_of _ (by decide +kernel)) ggX6_pullOut_X6_bits
theorem dX6_pullOut_0 : decode cX6_pullOut 0 = .ok (.iload_n 1, 1) := by decide +kernel
theorem dX6_pullOut_1 : decode cX6_pullOut 1 = .ok (.aload_n 0, 1) := by decide +kernel
theorem dX6_pullOut_2 : decode cX6_pullOut 2 = .ok (.getfield 13, 3) := by decide +kernel
theorem dX6_pullOut_5 : decode cX6_pullOut 5 = .ok (.bipush 96, 2) := by decide +kernel
theorem dX6_pullOut_7 : decode cX6_pullOut 7 = .ok (.iaload, 1) := by decide +kernel
theorem dX6_pullOut_8 : decode cX6_pullOut 8 = .ok (.if_icmp .lt 5, 3) := by decide +kernel
theorem dX6_pullOut_11 : decode cX6_pullOut 11 = .ok (.iconst (-1), 1) := by decide +kernel
theorem dX6_pullOut_12 : decode cX6_pullOut 12 = .ok (.ireturn, 1) := by decide +kernel
theorem dX6_pullOut_13 : decode cX6_pullOut 13 = .ok (.aload_n 0, 1) := by decide +kernel
theorem dX6_pullOut_14 : decode cX6_pullOut 14 = .ok (.iload_n 1, 1) := by decide +kernel
theorem dX6_pullOut_15 : decode cX6_pullOut 15 = .ok (.invokevirtual 73, 3) := by decide +kernel
theorem dX6_pullOut_18 : decode cX6_pullOut 18 = .ok (.istore_n 2, 1) := by decide +kernel
theorem dX6_pullOut_19 : decode cX6_pullOut 19 = .ok (.aload_n 0, 1) := by decide +kernel
theorem dX6_pullOut_20 : decode cX6_pullOut 20 = .ok (.iload_n 2, 1) := by decide +kernel
theorem dX6_pullOut_21 : decode cX6_pullOut 21 = .ok (.invokevirtual 77, 3) := by decide +kernel
theorem dX6_pullOut_24 : decode cX6_pullOut 24 = .ok (.iload_n 2, 1) := by decide +kernel
theorem dX6_pullOut_25 : decode cX6_pullOut 25 = .ok (.invokestatic 81, 3) := by decide +kernel
theorem dX6_pullOut_28 : decode cX6_pullOut 28 = .ok (.ireturn, 1) := by decide +kernel
theorem dX6_eat_0 : decode cX6_eat 0 = .ok (.iload_n 1, 1) := by decide +kernel
theorem dX6_eat_1 : decode cX6_eat 1 = .ok (.aload_n 0, 1) := by decide +kernel
theorem dX6_eat_2 : decode cX6_eat 2 = .ok (.getfield 13, 3) := by decide +kernel
theorem dX6_eat_5 : decode cX6_eat 5 = .ok (.bipush 96, 2) := by decide +kernel
theorem dX6_eat_7 : decode cX6_eat 7 = .ok (.iaload, 1) := by decide +kernel
theorem dX6_eat_8 : decode cX6_eat 8 = .ok (.if_icmp .lt 5, 3) := by decide +kernel
theorem dX6_eat_11 : decode cX6_eat 11 = .ok (.iconst 1, 1) := by decide +kernel
theorem dX6_eat_12 : decode cX6_eat 12 = .ok (.ireturn, 1) := by decide +kernel
theorem dX6_eat_13 : decode cX6_eat 13 = .ok (.aload_n 0, 1) := by decide +kernel
theorem dX6_eat_14 : decode cX6_eat 14 = .ok (.getfield 13, 3) := by decide +kernel
theorem dX6_eat_17 : decode cX6_eat 17 = .ok (.bipush 72, 2) := by decide +kernel
theorem dX6_eat_19 : decode cX6_eat 19 = .ok (.iload_n 1, 1) := by decide +kernel
theorem dX6_eat_20 : decode cX6_eat 20 = .ok (.iadd, 1) := by decide +kernel
theorem dX6_eat_21 : decode cX6_eat 21 = .ok (.iaload, 1) := by decide +kernel
theorem dX6_eat_22 : decode cX6_eat 22 = .ok (.iconst 1, 1) := by decide +kernel
theorem dX6_eat_23 : decode cX6_eat 23 = .ok (.if_icmp .ne 5, 3) := by decide +kernel
theorem dX6_eat_26 : decode cX6_eat 26 = .ok (.iconst 3, 1) := by decide +kernel
theorem dX6_eat_27 : decode cX6_eat 27 = .ok (.ireturn, 1) := by decide +kernel
theorem dX6_eat_28 : decode cX6_eat 28 = .ok (.aload_n 0, 1) := by decide +kernel
theorem dX6_eat_29 : decode cX6_eat 29 = .ok (.getfield 13, 3) := by decide +kernel
theorem dX6_eat_32 : decode cX6_eat 32 = .ok (.bipush 72, 2) := by decide +kernel
theorem dX6_eat_34 : decode cX6_eat 34 = .ok (.iload_n 1, 1) := by decide +kernel
theorem dX6_eat_35 : decode cX6_eat 35 = .ok (.iadd, 1) := by decide +kernel
theorem dX6_eat_36 : decode cX6_eat 36 = .ok (.iconst 1, 1) := by decide +kernel
theorem dX6_eat_37 : decode cX6_eat 37 = .ok (.iastore, 1) := by decide +kernel
theorem dX6_eat_38 : decode cX6_eat 38 = .ok (.iconst 0, 1) := by decide +kernel
theorem dX6_eat_39 : decode cX6_eat 39 = .ok (.ireturn, 1) := by decide +kernel
theorem dX6_mend_0 : decode cX6_mend 0 = .ok (.iload_n 1, 1) := by decide +kernel
theorem dX6_mend_1 : decode cX6_mend 1 = .ok (.aload_n 0, 1) := by decide +kernel
theorem dX6_mend_2 : decode cX6_mend 2 = .ok (.getfield 13, 3) := by decide +kernel
theorem dX6_mend_5 : decode cX6_mend 5 = .ok (.bipush 96, 2) := by decide +kernel
theorem dX6_mend_7 : decode cX6_mend 7 = .ok (.iaload, 1) := by decide +kernel
theorem dX6_mend_8 : decode cX6_mend 8 = .ok (.if_icmp .lt 5, 3) := by decide +kernel
theorem dX6_mend_11 : decode cX6_mend 11 = .ok (.iconst 1, 1) := by decide +kernel
theorem dX6_mend_12 : decode cX6_mend 12 = .ok (.ireturn, 1) := by decide +kernel
theorem dX6_mend_13 : decode cX6_mend 13 = .ok (.aload_n 0, 1) := by decide +kernel
theorem dX6_mend_14 : decode cX6_mend 14 = .ok (.getfield 13, 3) := by decide +kernel
theorem dX6_mend_17 : decode cX6_mend 17 = .ok (.bipush 72, 2) := by decide +kernel
theorem dX6_mend_19 : decode cX6_mend 19 = .ok (.iload_n 1, 1) := by decide +kernel
theorem dX6_mend_20 : decode cX6_mend 20 = .ok (.iadd, 1) := by decide +kernel
theorem dX6_mend_21 : decode cX6_mend 21 = .ok (.iaload, 1) := by decide +kernel
theorem dX6_mend_22 : decode cX6_mend 22 = .ok (.ifCond .ne 5, 3) := by decide +kernel
theorem dX6_mend_25 : decode cX6_mend 25 = .ok (.iconst 3, 1) := by decide +kernel
theorem dX6_mend_26 : decode cX6_mend 26 = .ok (.ireturn, 1) := by decide +kernel
theorem dX6_mend_27 : decode cX6_mend 27 = .ok (.aload_n 0, 1) := by decide +kernel
theorem dX6_mend_28 : decode cX6_mend 28 = .ok (.getfield 13, 3) := by decide +kernel
theorem dX6_mend_31 : decode cX6_mend 31 = .ok (.bipush 72, 2) := by decide +kernel
theorem dX6_mend_33 : decode cX6_mend 33 = .ok (.iload_n 1, 1) := by decide +kernel
theorem dX6_mend_34 : decode cX6_mend 34 = .ok (.iadd, 1) := by decide +kernel
theorem dX6_mend_35 : decode cX6_mend 35 = .ok (.iconst 0, 1) := by decide +kernel
theorem dX6_mend_36 : decode cX6_mend 36 = .ok (.iastore, 1) := by decide +kernel
theorem dX6_mend_37 : decode cX6_mend 37 = .ok (.aload_n 0, 1) := by decide +kernel
theorem dX6_mend_38 : decode cX6_mend 38 = .ok (.getfield 13, 3) := by decide +kernel
theorem dX6_mend_41 : decode cX6_mend 41 = .ok (.bipush 24, 2) := by decide +kernel
theorem dX6_mend_43 : decode cX6_mend 43 = .ok (.iload_n 1, 1) := by decide +kernel
theorem dX6_mend_44 : decode cX6_mend 44 = .ok (.iadd, 1) := by decide +kernel
theorem dX6_mend_45 : decode cX6_mend 45 = .ok (.aload_n 0, 1) := by decide +kernel
theorem dX6_mend_46 : decode cX6_mend 46 = .ok (.getfield 16, 3) := by decide +kernel
theorem dX6_mend_49 : decode cX6_mend 49 = .ok (.iload_n 2, 1) := by decide +kernel
theorem dX6_mend_50 : decode cX6_mend 50 = .ok (.iaload, 1) := by decide +kernel
theorem dX6_mend_51 : decode cX6_mend 51 = .ok (.iastore, 1) := by decide +kernel
theorem dX6_mend_52 : decode cX6_mend 52 = .ok (.iconst 0, 1) := by decide +kernel
theorem dX6_mend_53 : decode cX6_mend 53 = .ok (.ireturn, 1) := by decide +kernel
set_option maxRecDepth 20000 in
theorem ggX6_goWeeks_X6_asNow : GoodIn wsX6_goWeeks wsX6_asNow := goodIn_r _ [10, 11, 12, 5, 51, 52, 53, 54, 55, 56, 57, 58, 59, 60, 61, 62, 63, 64, 65] (by decide +kernel) (by decide +kernel)
set_option maxRecDepth 20000 in
theorem gX6_goWeeks_X6_asNow : GoodIn wsX6_goWeeks (wsV RX6 84 RX6 yX6_asNow wsX6_asNow) := goodIn_app (goodIn_of _ (by decide +kernel)) ggX6_goWeeks_X6_asNow
set_option maxRecDepth 20000 in
theorem ggX6_goWeeks_X6_isHand : GoodIn wsX6_goWeeks wsX6_isHand := goodIn_r _ [15, 16, 17, 9, 18] (by decide +kernel) (by decide +kernel)
set_option maxRecDepth 20000 in
theorem gX6_goWeeks_X6_isHand : GoodIn wsX6_goWeeks (va_wsS RX6 56 yX6_isHand wsX6_isHand) := goodIn_app (goodIn_of _ (by decide +kernel)) ggX6_goWeeks_X6_isHand
set_option maxRecDepth 20000 in
theorem ggX6_goWeeks_X6_knit : GoodIn wsX6_goWeeks wsX6_knit := goodIn_r _ [22, 11, 23, 51, 52, 53, 54, 55, 56, 57, 58, 59, 60, 61, 62, 63, 64, 65] (by decide +kernel) (by decide +kernel)
set_option maxRecDepth 20000 in
theorem gX6_goWeeks_X6_knit : GoodIn wsX6_goWeeks (wsV RX6 90 RX6 yX6_knit wsX6_knit) := goodIn_app (goodIn_of _ (by decide +kernel)) ggX6_goWeeks_X6_knit
set_option maxRecDepth 20000 in
theorem ggX6_goWeeks_X6_pullOut : GoodIn wsX6_goWeeks wsX6_pullOut := goodIn_r _ [27, 11, 28, 29, 30, 9, 31, 32, 33, 34, 35, 36, 37, 38, 39, 40, 41, 42, 51, 52, 53, 54, 55, 56, 57, 58, 59, 60, 61, 62, 63, 64, 65] (by decide +kernel) (by decide +kernel)
set_option maxRecDepth 20000 in
theorem gX6_goWeeks_X6_pullOut : GoodIn wsX6_goWeeks (wsV RX6 97 RX6 yX6_pullOut wsX6_pullOut) := goodIn_app (goodIn_of _ (by decide +kernel)) ggX6_goWeeks_X6_pullOut
set_option maxRecDepth 20000 in
theorem ggX6_goWeeks_X6_eat : GoodIn wsX6_goWeeks wsX6_eat := goodIn_r _ [46, 11, 51, 52, 53, 54, 55, 56, 57, 58, 59, 60, 61, 62, 63, 64, 65] (by decide +kernel) (by decide +kernel)
set_option maxRecDepth 20000 in
theorem gX6_goWeeks_X6_eat : GoodIn wsX6_goWeeks (wsV RX6 100 RX6 yX6_eat wsX6_eat) := goodIn_app (goodIn_of _ (by decide +kernel)) ggX6_goWeeks_X6_eat
set_option maxRecDepth 20000 in
theorem ggX6_goWeeks_X6_mend : GoodIn wsX6_goWeeks wsX6_mend := goodIn_r _ [50, 11, 23, 51, 52, 53, 54, 55, 56, 57, 58, 59, 60, 61, 62, 63, 64, 65] (by decide +kernel) (by decide +kernel)
set_option maxRecDepth 20000 in
theorem gX6_goWeeks_X6_mend : GoodIn wsX6_goWeeks (wsV RX6 103 RX6 yX6_mend wsX6_mend) := goodIn_app (goodIn_of _ (by decide +kernel)) ggX6_goWeeks_X6_mend
theorem dX6_goWeeks_0 : decode cX6_goWeeks 0 = .ok (.aload_n 0, 1) := by decide +kernel
theorem dX6_goWeeks_1 : decode cX6_goWeeks 1 = .ok (.invokevirtual 84, 3) := by decide +kernel
theorem dX6_goWeeks_4 : decode cX6_goWeeks 4 = .ok (.aload_n 0, 1) := by decide +kernel
theorem dX6_goWeeks_5 : decode cX6_goWeeks 5 = .ok (.iconst 0, 1) := by decide +kernel
theorem dX6_goWeeks_6 : decode cX6_goWeeks 6 = .ok (.putfield 87, 3) := by decide +kernel
theorem dX6_goWeeks_9 : decode cX6_goWeeks 9 = .ok (.iconst 0, 1) := by decide +kernel
theorem dX6_goWeeks_10 : decode cX6_goWeeks 10 = .ok (.istore_n 1, 1) := by decide +kernel
theorem dX6_goWeeks_11 : decode cX6_goWeeks 11 = .ok (.iload_n 1, 1) := by decide +kernel
theorem dX6_goWeeks_12 : decode cX6_goWeeks 12 = .ok (.aload_n 0, 1) := by decide +kernel
theorem dX6_goWeeks_13 : decode cX6_goWeeks 13 = .ok (.getfield 52, 3) := by decide +kernel
theorem dX6_goWeeks_16 : decode cX6_goWeeks 16 = .ok (.if_icmp .ge 181, 3) := by decide +kernel
theorem dX6_goWeeks_19 : decode cX6_goWeeks 19 = .ok (.aload_n 0, 1) := by decide +kernel
theorem dX6_goWeeks_20 : decode cX6_goWeeks 20 = .ok (.getfield 22, 3) := by decide +kernel
theorem dX6_goWeeks_23 : decode cX6_goWeeks 23 = .ok (.iload_n 1, 1) := by decide +kernel
theorem dX6_goWeeks_24 : decode cX6_goWeeks 24 = .ok (.iaload, 1) := by decide +kernel
theorem dX6_goWeeks_25 : decode cX6_goWeeks 25 = .ok (.istore_n 2, 1) := by decide +kernel
theorem dX6_goWeeks_26 : decode cX6_goWeeks 26 = .ok (.aload_n 0, 1) := by decide +kernel
theorem dX6_goWeeks_27 : decode cX6_goWeeks 27 = .ok (.getfield 22, 3) := by decide +kernel
theorem dX6_goWeeks_30 : decode cX6_goWeeks 30 = .ok (.iload_n 1, 1) := by decide +kernel
theorem dX6_goWeeks_31 : decode cX6_goWeeks 31 = .ok (.iconst 1, 1) := by decide +kernel
theorem dX6_goWeeks_32 : decode cX6_goWeeks 32 = .ok (.iadd, 1) := by decide +kernel
theorem dX6_goWeeks_33 : decode cX6_goWeeks 33 = .ok (.iaload, 1) := by decide +kernel
theorem dX6_goWeeks_34 : decode cX6_goWeeks 34 = .ok (.istore_n 3, 1) := by decide +kernel
theorem dX6_goWeeks_35 : decode cX6_goWeeks 35 = .ok (.iload_n 2, 1) := by decide +kernel
theorem dX6_goWeeks_36 : decode cX6_goWeeks 36 = .ok (.invokestatic 56, 3) := by decide +kernel
theorem dX6_goWeeks_39 : decode cX6_goWeeks 39 = .ok (.ifCond .eq 25, 3) := by decide +kernel
theorem dX6_goWeeks_42 : decode cX6_goWeeks 42 = .ok (.aload_n 0, 1) := by decide +kernel
theorem dX6_goWeeks_43 : decode cX6_goWeeks 43 = .ok (.aload_n 0, 1) := by decide +kernel
theorem dX6_goWeeks_44 : decode cX6_goWeeks 44 = .ok (.iload_n 2, 1) := by decide +kernel
theorem dX6_goWeeks_45 : decode cX6_goWeeks 45 = .ok (.bipush 97, 2) := by decide +kernel
theorem dX6_goWeeks_47 : decode cX6_goWeeks 47 = .ok (.isub, 1) := by decide +kernel
theorem dX6_goWeeks_48 : decode cX6_goWeeks 48 = .ok (.iload_n 3, 1) := by decide +kernel
theorem dX6_goWeeks_49 : decode cX6_goWeeks 49 = .ok (.bipush 48, 2) := by decide +kernel
theorem dX6_goWeeks_51 : decode cX6_goWeeks 51 = .ok (.isub, 1) := by decide +kernel
theorem dX6_goWeeks_52 : decode cX6_goWeeks 52 = .ok (.invokevirtual 90, 3) := by decide +kernel
theorem dX6_goWeeks_55 : decode cX6_goWeeks 55 = .ok (.putfield 94, 3) := by decide +kernel
theorem dX6_goWeeks_58 : decode cX6_goWeeks 58 = .ok (.iinc 1 2, 3) := by decide +kernel
theorem dX6_goWeeks_61 : decode cX6_goWeeks 61 = .ok (.goto 111, 3) := by decide +kernel
theorem dX6_goWeeks_64 : decode cX6_goWeeks 64 = .ok (.iload_n 2, 1) := by decide +kernel
theorem dX6_goWeeks_65 : decode cX6_goWeeks 65 = .ok (.bipush 45, 2) := by decide +kernel
theorem dX6_goWeeks_67 : decode cX6_goWeeks 67 = .ok (.if_icmp .ne 55, 3) := by decide +kernel
theorem dX6_goWeeks_70 : decode cX6_goWeeks 70 = .ok (.aload_n 0, 1) := by decide +kernel
theorem dX6_goWeeks_71 : decode cX6_goWeeks 71 = .ok (.iload_n 3, 1) := by decide +kernel
theorem dX6_goWeeks_72 : decode cX6_goWeeks 72 = .ok (.bipush 65, 2) := by decide +kernel
theorem dX6_goWeeks_74 : decode cX6_goWeeks 74 = .ok (.isub, 1) := by decide +kernel
theorem dX6_goWeeks_75 : decode cX6_goWeeks 75 = .ok (.invokevirtual 97, 3) := by decide +kernel
theorem dX6_goWeeks_78 : decode cX6_goWeeks 78 = .ok (.istore 4, 2) := by decide +kernel
theorem dX6_goWeeks_80 : decode cX6_goWeeks 80 = .ok (.aload_n 0, 1) := by decide +kernel
theorem dX6_goWeeks_81 : decode cX6_goWeeks 81 = .ok (.iload 4, 2) := by decide +kernel
theorem dX6_goWeeks_83 : decode cX6_goWeeks 83 = .ok (.ifCond .ge 7, 3) := by decide +kernel
theorem dX6_goWeeks_86 : decode cX6_goWeeks 86 = .ok (.iconst 1, 1) := by decide +kernel
theorem dX6_goWeeks_87 : decode cX6_goWeeks 87 = .ok (.goto 4, 3) := by decide +kernel
theorem dX6_goWeeks_90 : decode cX6_goWeeks 90 = .ok (.iconst 0, 1) := by decide +kernel
theorem dX6_goWeeks_91 : decode cX6_goWeeks 91 = .ok (.putfield 94, 3) := by decide +kernel
theorem dX6_goWeeks_94 : decode cX6_goWeeks 94 = .ok (.aload_n 0, 1) := by decide +kernel
theorem dX6_goWeeks_95 : decode cX6_goWeeks 95 = .ok (.iload 4, 2) := by decide +kernel
theorem dX6_goWeeks_97 : decode cX6_goWeeks 97 = .ok (.aload_n 0, 1) := by decide +kernel
theorem dX6_goWeeks_98 : decode cX6_goWeeks 98 = .ok (.getfield 66, 3) := by decide +kernel
theorem dX6_goWeeks_101 : decode cX6_goWeeks 101 = .ok (.if_icmp .le 8, 3) := by decide +kernel
theorem dX6_goWeeks_104 : decode cX6_goWeeks 104 = .ok (.iload 4, 2) := by decide +kernel
theorem dX6_goWeeks_106 : decode cX6_goWeeks 106 = .ok (.goto 7, 3) := by decide +kernel
theorem dX6_goWeeks_109 : decode cX6_goWeeks 109 = .ok (.aload_n 0, 1) := by decide +kernel
theorem dX6_goWeeks_110 : decode cX6_goWeeks 110 = .ok (.getfield 66, 3) := by decide +kernel
theorem dX6_goWeeks_113 : decode cX6_goWeeks 113 = .ok (.putfield 66, 3) := by decide +kernel
theorem dX6_goWeeks_116 : decode cX6_goWeeks 116 = .ok (.iinc 1 2, 3) := by decide +kernel
theorem dX6_goWeeks_119 : decode cX6_goWeeks 119 = .ok (.goto 53, 3) := by decide +kernel
theorem dX6_goWeeks_122 : decode cX6_goWeeks 122 = .ok (.iload_n 2, 1) := by decide +kernel
theorem dX6_goWeeks_123 : decode cX6_goWeeks 123 = .ok (.bipush 42, 2) := by decide +kernel
theorem dX6_goWeeks_125 : decode cX6_goWeeks 125 = .ok (.if_icmp .ne 21, 3) := by decide +kernel
theorem dX6_goWeeks_128 : decode cX6_goWeeks 128 = .ok (.aload_n 0, 1) := by decide +kernel
theorem dX6_goWeeks_129 : decode cX6_goWeeks 129 = .ok (.aload_n 0, 1) := by decide +kernel
theorem dX6_goWeeks_130 : decode cX6_goWeeks 130 = .ok (.iload_n 3, 1) := by decide +kernel
theorem dX6_goWeeks_131 : decode cX6_goWeeks 131 = .ok (.bipush 65, 2) := by decide +kernel
theorem dX6_goWeeks_133 : decode cX6_goWeeks 133 = .ok (.isub, 1) := by decide +kernel
theorem dX6_goWeeks_134 : decode cX6_goWeeks 134 = .ok (.invokevirtual 100, 3) := by decide +kernel
theorem dX6_goWeeks_137 : decode cX6_goWeeks 137 = .ok (.putfield 94, 3) := by decide +kernel
theorem dX6_goWeeks_140 : decode cX6_goWeeks 140 = .ok (.iinc 1 2, 3) := by decide +kernel
theorem dX6_goWeeks_143 : decode cX6_goWeeks 143 = .ok (.goto 29, 3) := by decide +kernel
theorem dX6_goWeeks_146 : decode cX6_goWeeks 146 = .ok (.aload_n 0, 1) := by decide +kernel
theorem dX6_goWeeks_147 : decode cX6_goWeeks 147 = .ok (.aload_n 0, 1) := by decide +kernel
theorem dX6_goWeeks_148 : decode cX6_goWeeks 148 = .ok (.iload_n 3, 1) := by decide +kernel
theorem dX6_goWeeks_149 : decode cX6_goWeeks 149 = .ok (.bipush 65, 2) := by decide +kernel
theorem dX6_goWeeks_151 : decode cX6_goWeeks 151 = .ok (.isub, 1) := by decide +kernel
theorem dX6_goWeeks_152 : decode cX6_goWeeks 152 = .ok (.aload_n 0, 1) := by decide +kernel
theorem dX6_goWeeks_153 : decode cX6_goWeeks 153 = .ok (.getfield 22, 3) := by decide +kernel
theorem dX6_goWeeks_156 : decode cX6_goWeeks 156 = .ok (.iload_n 1, 1) := by decide +kernel
theorem dX6_goWeeks_157 : decode cX6_goWeeks 157 = .ok (.iconst 2, 1) := by decide +kernel
theorem dX6_goWeeks_158 : decode cX6_goWeeks 158 = .ok (.iadd, 1) := by decide +kernel
theorem dX6_goWeeks_159 : decode cX6_goWeeks 159 = .ok (.iaload, 1) := by decide +kernel
theorem dX6_goWeeks_160 : decode cX6_goWeeks 160 = .ok (.bipush 97, 2) := by decide +kernel
theorem dX6_goWeeks_162 : decode cX6_goWeeks 162 = .ok (.isub, 1) := by decide +kernel
theorem dX6_goWeeks_163 : decode cX6_goWeeks 163 = .ok (.invokevirtual 103, 3) := by decide +kernel
theorem dX6_goWeeks_166 : decode cX6_goWeeks 166 = .ok (.putfield 94, 3) := by decide +kernel
theorem dX6_goWeeks_169 : decode cX6_goWeeks 169 = .ok (.iinc 1 3, 3) := by decide +kernel
theorem dX6_goWeeks_172 : decode cX6_goWeeks 172 = .ok (.aload_n 0, 1) := by decide +kernel
theorem dX6_goWeeks_173 : decode cX6_goWeeks 173 = .ok (.getfield 94, 3) := by decide +kernel
theorem dX6_goWeeks_176 : decode cX6_goWeeks 176 = .ok (.ifCond .le 8, 3) := by decide +kernel
theorem dX6_goWeeks_179 : decode cX6_goWeeks 179 = .ok (.aload_n 0, 1) := by decide +kernel
theorem dX6_goWeeks_180 : decode cX6_goWeeks 180 = .ok (.getfield 87, 3) := by decide +kernel
theorem dX6_goWeeks_183 : decode cX6_goWeeks 183 = .ok (.ireturn, 1) := by decide +kernel
theorem dX6_goWeeks_184 : decode cX6_goWeeks 184 = .ok (.aload_n 0, 1) := by decide +kernel
theorem dX6_goWeeks_185 : decode cX6_goWeeks 185 = .ok (.dup, 1) := by decide +kernel
theorem dX6_goWeeks_186 : decode cX6_goWeeks 186 = .ok (.getfield 87, 3) := by decide +kernel
theorem dX6_goWeeks_189 : decode cX6_goWeeks 189 = .ok (.iconst 1, 1) := by decide +kernel
theorem dX6_goWeeks_190 : decode cX6_goWeeks 190 = .ok (.iadd, 1) := by decide +kernel
theorem dX6_goWeeks_191 : decode cX6_goWeeks 191 = .ok (.putfield 87, 3) := by decide +kernel
theorem dX6_goWeeks_194 : decode cX6_goWeeks 194 = .ok (.goto (-183), 3) := by decide +kernel
theorem dX6_goWeeks_197 : decode cX6_goWeeks 197 = .ok (.bipush (-6), 2) := by decide +kernel
theorem dX6_goWeeks_199 : decode cX6_goWeeks 199 = .ok (.ireturn, 1) := by decide +kernel
set_option maxRecDepth 20000 in
theorem ggX6_judge_X6_in : GoodIn wsX6_judge wsX6_in := goodIn_r _ [5] (by decide +kernel) (by decide +kernel)
set_option maxRecDepth 20000 in
theorem gX6_judge_X6_in : GoodIn wsX6_judge (va_wsS RX6 41 yX6_in wsX6_in) := goodIn_app (goodIn_of _ (by decide +kernel)) ggX6_judge_X6_in
set_option maxRecDepth 20000 in
theorem ggX6_judge_X6_faultOf : GoodIn wsX6_judge wsX6_faultOf := goodIn_r _ [9, 10, 11, 12, 13, 4, 14, 2, 3, 5, 15, 16, 17, 62, 63, 64, 65, 66, 67, 68, 69, 70, 71, 72, 73, 74, 75, 76] (by decide +kernel) (by decide +kernel)
set_option maxRecDepth 20000 in
theorem gX6_judge_X6_faultOf : GoodIn wsX6_judge (wsV RX6 62 RX6 yX6_faultOf wsX6_faultOf) := goodIn_app (goodIn_of _ (by decide +kernel)) ggX6_judge_X6_faultOf
set_option maxRecDepth 20000 in
theorem ggX6_judge_X6_goWeeks : GoodIn wsX6_judge wsX6_goWeeks := goodIn_r _ [21, 22, 10, 11, 1, 23, 24, 25, 26, 4, 27, 28, 29, 12, 13, 14, 2, 3, 5, 30, 31, 32, 33, 34, 35, 36, 37, 38, 39, 40, 41, 42, 43, 44, 45, 46, 47, 48, 49, 50, 51, 52, 53, 54, 55, 56, 57, 58, 59, 60, 61, 62, 63, 64, 65, 66, 67, 68, 69, 70, 71, 72, 73, 74, 75, 76] (by decide +kernel) (by decide +kernel)
set_option maxRecDepth 20000 in
theorem gX6_judge_X6_goWeeks : GoodIn wsX6_judge (wsV RX6 106 RX6 yX6_goWeeks wsX6_goWeeks) := goodIn_app (goodIn_of _ (by decide +kernel)) ggX6_judge_X6_goWeeks
theorem dX6_judge_0 : decode cX6_judge 0 = .ok (.iload_n 1, 1) := by decide +kernel
theorem dX6_judge_1 : decode cX6_judge 1 = .ok (.iconst 0, 1) := by decide +kernel
theorem dX6_judge_2 : decode cX6_judge 2 = .ok (.iconst 1, 1) := by decide +kernel
theorem dX6_judge_3 : decode cX6_judge 3 = .ok (.invokestatic 41, 3) := by decide +kernel
theorem dX6_judge_6 : decode cX6_judge 6 = .ok (.ifCond .ne 6, 3) := by decide +kernel
theorem dX6_judge_9 : decode cX6_judge 9 = .ok (.bipush (-2), 2) := by decide +kernel
theorem dX6_judge_11 : decode cX6_judge 11 = .ok (.ireturn, 1) := by decide +kernel
theorem dX6_judge_12 : decode cX6_judge 12 = .ok (.aload_n 0, 1) := by decide +kernel
theorem dX6_judge_13 : decode cX6_judge 13 = .ok (.invokevirtual 62, 3) := by decide +kernel
theorem dX6_judge_16 : decode cX6_judge 16 = .ok (.ifCond .lt 6, 3) := by decide +kernel
theorem dX6_judge_19 : decode cX6_judge 19 = .ok (.bipush (-5), 2) := by decide +kernel
theorem dX6_judge_21 : decode cX6_judge 21 = .ok (.ireturn, 1) := by decide +kernel
theorem dX6_judge_22 : decode cX6_judge 22 = .ok (.aload_n 0, 1) := by decide +kernel
theorem dX6_judge_23 : decode cX6_judge 23 = .ok (.invokevirtual 106, 3) := by decide +kernel
theorem dX6_judge_26 : decode cX6_judge 26 = .ok (.istore_n 2, 1) := by decide +kernel
theorem dX6_judge_27 : decode cX6_judge 27 = .ok (.iload_n 2, 1) := by decide +kernel
theorem dX6_judge_28 : decode cX6_judge 28 = .ok (.ifCond .lt 7, 3) := by decide +kernel
theorem dX6_judge_31 : decode cX6_judge 31 = .ok (.iload_n 1, 1) := by decide +kernel
theorem dX6_judge_32 : decode cX6_judge 32 = .ok (.ifCond .ne 7, 3) := by decide +kernel
theorem dX6_judge_35 : decode cX6_judge 35 = .ok (.iload_n 2, 1) := by decide +kernel
theorem dX6_judge_36 : decode cX6_judge 36 = .ok (.goto 7, 3) := by decide +kernel
theorem dX6_judge_39 : decode cX6_judge 39 = .ok (.aload_n 0, 1) := by decide +kernel
theorem dX6_judge_40 : decode cX6_judge 40 = .ok (.getfield 94, 3) := by decide +kernel
theorem dX6_judge_43 : decode cX6_judge 43 = .ok (.ireturn, 1) := by decide +kernel
set_option maxRecDepth 20000 in
theorem ggX6_barOfWeeks_X6_faultOf : GoodIn wsX6_barOfWeeks wsX6_faultOf := goodIn_r _ [5, 6, 7, 8, 9, 4, 10, 11, 12, 13, 14, 15, 16, 62, 63, 64, 65, 66, 67, 68, 69, 70, 71, 72, 73, 74, 75, 76] (by decide +kernel) (by decide +kernel)
set_option maxRecDepth 20000 in
theorem gX6_barOfWeeks_X6_faultOf : GoodIn wsX6_barOfWeeks (wsV RX6 62 RX6 yX6_faultOf wsX6_faultOf) := goodIn_app (goodIn_of _ (by decide +kernel)) ggX6_barOfWeeks_X6_faultOf
set_option maxRecDepth 20000 in
theorem ggX6_barOfWeeks_X6_goWeeks : GoodIn wsX6_barOfWeeks wsX6_goWeeks := goodIn_r _ [20, 21, 6, 7, 22, 23, 24, 25, 26, 4, 27, 28, 29, 8, 9, 10, 11, 12, 13, 30, 31, 32, 33, 34, 35, 36, 37, 38, 39, 40, 41, 42, 43, 44, 45, 46, 47, 48, 49, 50, 51, 52, 53, 54, 55, 56, 57, 58, 59, 60, 61, 62, 63, 64, 65, 66, 67, 68, 69, 70, 71, 72, 73, 74, 75, 76] (by decide +kernel) (by decide +kernel)
set_option maxRecDepth 20000 in
theorem gX6_barOfWeeks_X6_goWeeks : GoodIn wsX6_barOfWeeks (wsV RX6 106 RX6 yX6_goWeeks wsX6_goWeeks) := goodIn_app (goodIn_of _ (by decide +kernel)) ggX6_barOfWeeks_X6_goWeeks
theorem dX6_barOfWeeks_0 : decode cX6_barOfWeeks 0 = .ok (.aload_n 0, 1) := by decide +kernel
theorem dX6_barOfWeeks_1 : decode cX6_barOfWeeks 1 = .ok (.invokevirtual 62, 3) := by decide +kernel
theorem dX6_barOfWeeks_4 : decode cX6_barOfWeeks 4 = .ok (.ifCond .ge 10, 3) := by decide +kernel
theorem dX6_barOfWeeks_7 : decode cX6_barOfWeeks 7 = .ok (.aload_n 0, 1) := by decide +kernel
theorem dX6_barOfWeeks_8 : decode cX6_barOfWeeks 8 = .ok (.invokevirtual 106, 3) := by decide +kernel
theorem dX6_barOfWeeks_11 : decode cX6_barOfWeeks 11 = .ok (.ifCond .lt 8, 3) := by decide +kernel
theorem dX6_barOfWeeks_14 : decode cX6_barOfWeeks 14 = .ok (.bipush (-5), 2) := by decide +kernel
theorem dX6_barOfWeeks_16 : decode cX6_barOfWeeks 16 = .ok (.goto 4, 3) := by decide +kernel
theorem dX6_barOfWeeks_19 : decode cX6_barOfWeeks 19 = .ok (.iconst 0, 1) := by decide +kernel
theorem dX6_barOfWeeks_20 : decode cX6_barOfWeeks 20 = .ok (.ireturn, 1) := by decide +kernel
set_option maxRecDepth 20000 in
theorem ggX6_done_X6_barOfWeeks : GoodIn wsX6_done wsX6_barOfWeeks := goodIn_r _ [9, 10, 11, 12, 8, 13, 3, 14, 15, 16, 17, 18, 19, 20, 21, 22, 23, 24, 25, 26, 27, 4, 28, 29, 30, 31, 32, 33, 2, 1, 34, 35, 36, 37, 38, 39, 40, 41, 42, 43, 44, 45, 46, 47, 48, 49, 50, 51, 52, 53, 54, 55, 56, 57, 58, 59, 60, 61, 62, 63, 64, 65, 66, 67, 68, 69, 70, 71, 72, 73, 74, 75, 76, 77, 78, 79, 80] (by decide +kernel) (by decide +kernel)
set_option maxRecDepth 20000 in
theorem gX6_done_X6_barOfWeeks : GoodIn wsX6_done (wsV RX6 109 RX6 yX6_barOfWeeks wsX6_barOfWeeks) := goodIn_app (goodIn_of _ (by decide +kernel)) ggX6_done_X6_barOfWeeks
theorem dX6_done_0 : decode cX6_done 0 = .ok (.aload_n 0, 1) := by decide +kernel
theorem dX6_done_1 : decode cX6_done 1 = .ok (.invokevirtual 109, 3) := by decide +kernel
theorem dX6_done_4 : decode cX6_done 4 = .ok (.ifCond .ge 6, 3) := by decide +kernel
theorem dX6_done_7 : decode cX6_done 7 = .ok (.bipush (-5), 2) := by decide +kernel
theorem dX6_done_9 : decode cX6_done 9 = .ok (.ireturn, 1) := by decide +kernel
theorem dX6_done_10 : decode cX6_done 10 = .ok (.iconst 0, 1) := by decide +kernel
theorem dX6_done_11 : decode cX6_done 11 = .ok (.istore_n 1, 1) := by decide +kernel
theorem dX6_done_12 : decode cX6_done 12 = .ok (.iload_n 1, 1) := by decide +kernel
theorem dX6_done_13 : decode cX6_done 13 = .ok (.bipush 97, 2) := by decide +kernel
theorem dX6_done_15 : decode cX6_done 15 = .ok (.if_icmp .ge 21, 3) := by decide +kernel
theorem dX6_done_18 : decode cX6_done 18 = .ok (.aload_n 0, 1) := by decide +kernel
theorem dX6_done_19 : decode cX6_done 19 = .ok (.getfield 7, 3) := by decide +kernel
theorem dX6_done_22 : decode cX6_done 22 = .ok (.iload_n 1, 1) := by decide +kernel
theorem dX6_done_23 : decode cX6_done 23 = .ok (.aload_n 0, 1) := by decide +kernel
theorem dX6_done_24 : decode cX6_done 24 = .ok (.getfield 13, 3) := by decide +kernel
theorem dX6_done_27 : decode cX6_done 27 = .ok (.iload_n 1, 1) := by decide +kernel
theorem dX6_done_28 : decode cX6_done 28 = .ok (.iaload, 1) := by decide +kernel
theorem dX6_done_29 : decode cX6_done 29 = .ok (.iastore, 1) := by decide +kernel
theorem dX6_done_30 : decode cX6_done 30 = .ok (.iinc 1 1, 3) := by decide +kernel
theorem dX6_done_33 : decode cX6_done 33 = .ok (.goto (-21), 3) := by decide +kernel
theorem dX6_done_36 : decode cX6_done 36 = .ok (.aload_n 0, 1) := by decide +kernel
theorem dX6_done_37 : decode cX6_done 37 = .ok (.iconst 0, 1) := by decide +kernel
theorem dX6_done_38 : decode cX6_done 38 = .ok (.putfield 52, 3) := by decide +kernel
theorem dX6_done_41 : decode cX6_done 41 = .ok (.aload_n 0, 1) := by decide +kernel
theorem dX6_done_42 : decode cX6_done 42 = .ok (.getfield 87, 3) := by decide +kernel
theorem dX6_done_45 : decode cX6_done 45 = .ok (.ireturn, 1) := by decide +kernel
theorem dX6_eatenSet_0 : decode cX6_eatenSet 0 = .ok (.iconst 0, 1) := by decide +kernel
theorem dX6_eatenSet_1 : decode cX6_eatenSet 1 = .ok (.istore_n 1, 1) := by decide +kernel
theorem dX6_eatenSet_2 : decode cX6_eatenSet 2 = .ok (.iconst 0, 1) := by decide +kernel
theorem dX6_eatenSet_3 : decode cX6_eatenSet 3 = .ok (.istore_n 2, 1) := by decide +kernel
theorem dX6_eatenSet_4 : decode cX6_eatenSet 4 = .ok (.iload_n 2, 1) := by decide +kernel
theorem dX6_eatenSet_5 : decode cX6_eatenSet 5 = .ok (.aload_n 0, 1) := by decide +kernel
theorem dX6_eatenSet_6 : decode cX6_eatenSet 6 = .ok (.getfield 13, 3) := by decide +kernel
theorem dX6_eatenSet_9 : decode cX6_eatenSet 9 = .ok (.bipush 96, 2) := by decide +kernel
theorem dX6_eatenSet_11 : decode cX6_eatenSet 11 = .ok (.iaload, 1) := by decide +kernel
theorem dX6_eatenSet_12 : decode cX6_eatenSet 12 = .ok (.if_icmp .ge 32, 3) := by decide +kernel
theorem dX6_eatenSet_15 : decode cX6_eatenSet 15 = .ok (.iload_n 1, 1) := by decide +kernel
theorem dX6_eatenSet_16 : decode cX6_eatenSet 16 = .ok (.aload_n 0, 1) := by decide +kernel
theorem dX6_eatenSet_17 : decode cX6_eatenSet 17 = .ok (.getfield 13, 3) := by decide +kernel
theorem dX6_eatenSet_20 : decode cX6_eatenSet 20 = .ok (.bipush 72, 2) := by decide +kernel
theorem dX6_eatenSet_22 : decode cX6_eatenSet 22 = .ok (.iload_n 2, 1) := by decide +kernel
theorem dX6_eatenSet_23 : decode cX6_eatenSet 23 = .ok (.iadd, 1) := by decide +kernel
theorem dX6_eatenSet_24 : decode cX6_eatenSet 24 = .ok (.iaload, 1) := by decide +kernel
theorem dX6_eatenSet_25 : decode cX6_eatenSet 25 = .ok (.iconst 1, 1) := by decide +kernel
theorem dX6_eatenSet_26 : decode cX6_eatenSet 26 = .ok (.if_icmp .ne 9, 3) := by decide +kernel
theorem dX6_eatenSet_29 : decode cX6_eatenSet 29 = .ok (.iconst 1, 1) := by decide +kernel
theorem dX6_eatenSet_30 : decode cX6_eatenSet 30 = .ok (.iload_n 2, 1) := by decide +kernel
theorem dX6_eatenSet_31 : decode cX6_eatenSet 31 = .ok (.ishl, 1) := by decide +kernel
theorem dX6_eatenSet_32 : decode cX6_eatenSet 32 = .ok (.goto 4, 3) := by decide +kernel
theorem dX6_eatenSet_35 : decode cX6_eatenSet 35 = .ok (.iconst 0, 1) := by decide +kernel
theorem dX6_eatenSet_36 : decode cX6_eatenSet 36 = .ok (.ior, 1) := by decide +kernel
theorem dX6_eatenSet_37 : decode cX6_eatenSet 37 = .ok (.istore_n 1, 1) := by decide +kernel
theorem dX6_eatenSet_38 : decode cX6_eatenSet 38 = .ok (.iinc 2 1, 3) := by decide +kernel
theorem dX6_eatenSet_41 : decode cX6_eatenSet 41 = .ok (.goto (-37), 3) := by decide +kernel
theorem dX6_eatenSet_44 : decode cX6_eatenSet 44 = .ok (.iload_n 1, 1) := by decide +kernel
theorem dX6_eatenSet_45 : decode cX6_eatenSet 45 = .ok (.ireturn, 1) := by decide +kernel
set_option maxRecDepth 20000 in
theorem ggX6_looseSet_X6_eatenSet : GoodIn wsX6_looseSet wsX6_eatenSet := goodIn_r _ [6, 1, 10, 11, 12, 13, 14, 15, 16, 17, 18, 19, 20, 21, 22, 23, 24] (by decide +kernel) (by decide +kernel)
set_option maxRecDepth 20000 in
theorem gX6_looseSet_X6_eatenSet : GoodIn wsX6_looseSet (wsV RX6 112 RX6 yX6_eatenSet wsX6_eatenSet) := goodIn_app (goodIn_of _ (by decide +kernel)) ggX6_looseSet_X6_eatenSet
set_option maxRecDepth 20000 in
theorem ggX6_looseSet_X6_has : GoodIn wsX6_looseSet wsX6_has := goodIn_r _ [9] (by decide +kernel) (by decide +kernel)
set_option maxRecDepth 20000 in
theorem gX6_looseSet_X6_has : GoodIn wsX6_looseSet (va_wsS RX6 69 yX6_has wsX6_has) := goodIn_app (goodIn_of _ (by decide +kernel)) ggX6_looseSet_X6_has
theorem dX6_looseSet_0 : decode cX6_looseSet 0 = .ok (.aload_n 0, 1) := by decide +kernel
theorem dX6_looseSet_1 : decode cX6_looseSet 1 = .ok (.invokevirtual 112, 3) := by decide +kernel
theorem dX6_looseSet_4 : decode cX6_looseSet 4 = .ok (.istore_n 1, 1) := by decide +kernel
theorem dX6_looseSet_5 : decode cX6_looseSet 5 = .ok (.iconst 0, 1) := by decide +kernel
theorem dX6_looseSet_6 : decode cX6_looseSet 6 = .ok (.istore_n 2, 1) := by decide +kernel
theorem dX6_looseSet_7 : decode cX6_looseSet 7 = .ok (.iconst 0, 1) := by decide +kernel
theorem dX6_looseSet_8 : decode cX6_looseSet 8 = .ok (.istore_n 3, 1) := by decide +kernel
theorem dX6_looseSet_9 : decode cX6_looseSet 9 = .ok (.iload_n 3, 1) := by decide +kernel
theorem dX6_looseSet_10 : decode cX6_looseSet 10 = .ok (.aload_n 0, 1) := by decide +kernel
theorem dX6_looseSet_11 : decode cX6_looseSet 11 = .ok (.getfield 13, 3) := by decide +kernel
theorem dX6_looseSet_14 : decode cX6_looseSet 14 = .ok (.bipush 96, 2) := by decide +kernel
theorem dX6_looseSet_16 : decode cX6_looseSet 16 = .ok (.iaload, 1) := by decide +kernel
theorem dX6_looseSet_17 : decode cX6_looseSet 17 = .ok (.if_icmp .ge 46, 3) := by decide +kernel
theorem dX6_looseSet_20 : decode cX6_looseSet 20 = .ok (.aload_n 0, 1) := by decide +kernel
theorem dX6_looseSet_21 : decode cX6_looseSet 21 = .ok (.getfield 13, 3) := by decide +kernel
theorem dX6_looseSet_24 : decode cX6_looseSet 24 = .ok (.bipush 48, 2) := by decide +kernel
theorem dX6_looseSet_26 : decode cX6_looseSet 26 = .ok (.iload_n 3, 1) := by decide +kernel
theorem dX6_looseSet_27 : decode cX6_looseSet 27 = .ok (.iadd, 1) := by decide +kernel
theorem dX6_looseSet_28 : decode cX6_looseSet 28 = .ok (.iaload, 1) := by decide +kernel
theorem dX6_looseSet_29 : decode cX6_looseSet 29 = .ok (.istore 4, 2) := by decide +kernel
theorem dX6_looseSet_31 : decode cX6_looseSet 31 = .ok (.iload_n 2, 1) := by decide +kernel
theorem dX6_looseSet_32 : decode cX6_looseSet 32 = .ok (.iload 4, 2) := by decide +kernel
theorem dX6_looseSet_34 : decode cX6_looseSet 34 = .ok (.ifCond .lt 20, 3) := by decide +kernel
theorem dX6_looseSet_37 : decode cX6_looseSet 37 = .ok (.iload_n 1, 1) := by decide +kernel
theorem dX6_looseSet_38 : decode cX6_looseSet 38 = .ok (.iload_n 2, 1) := by decide +kernel
theorem dX6_looseSet_39 : decode cX6_looseSet 39 = .ok (.ior, 1) := by decide +kernel
theorem dX6_looseSet_40 : decode cX6_looseSet 40 = .ok (.iload 4, 2) := by decide +kernel
theorem dX6_looseSet_42 : decode cX6_looseSet 42 = .ok (.invokestatic 69, 3) := by decide +kernel
theorem dX6_looseSet_45 : decode cX6_looseSet 45 = .ok (.ifCond .eq 9, 3) := by decide +kernel
theorem dX6_looseSet_48 : decode cX6_looseSet 48 = .ok (.iconst 1, 1) := by decide +kernel
theorem dX6_looseSet_49 : decode cX6_looseSet 49 = .ok (.iload_n 3, 1) := by decide +kernel
theorem dX6_looseSet_50 : decode cX6_looseSet 50 = .ok (.ishl, 1) := by decide +kernel
theorem dX6_looseSet_51 : decode cX6_looseSet 51 = .ok (.goto 4, 3) := by decide +kernel
theorem dX6_looseSet_54 : decode cX6_looseSet 54 = .ok (.iconst 0, 1) := by decide +kernel
theorem dX6_looseSet_55 : decode cX6_looseSet 55 = .ok (.ior, 1) := by decide +kernel
theorem dX6_looseSet_56 : decode cX6_looseSet 56 = .ok (.istore_n 2, 1) := by decide +kernel
theorem dX6_looseSet_57 : decode cX6_looseSet 57 = .ok (.iinc 3 1, 3) := by decide +kernel
theorem dX6_looseSet_60 : decode cX6_looseSet 60 = .ok (.goto (-51), 3) := by decide +kernel
theorem dX6_looseSet_63 : decode cX6_looseSet 63 = .ok (.iload_n 2, 1) := by decide +kernel
theorem dX6_looseSet_64 : decode cX6_looseSet 64 = .ok (.ireturn, 1) := by decide +kernel
set_option maxRecDepth 20000 in
theorem ggX6_behind_X6_in : GoodIn wsX6_behind wsX6_in := goodIn_r _ [6] (by decide +kernel) (by decide +kernel)
set_option maxRecDepth 20000 in
theorem gX6_behind_X6_in : GoodIn wsX6_behind (va_wsS RX6 41 yX6_in wsX6_in) := goodIn_app (goodIn_of _ (by decide +kernel)) ggX6_behind_X6_in
set_option maxRecDepth 20000 in
theorem ggX6_behind_X6_barOfWeeks : GoodIn wsX6_behind wsX6_barOfWeeks := goodIn_r _ [10, 11, 12, 13, 5, 14, 15, 16, 17, 18, 19, 3, 4, 6, 20, 21, 22, 23, 24, 25, 26, 27, 28, 2, 29, 30, 31, 32, 1, 33, 34, 35, 36, 37, 38, 39, 40, 41, 42, 43, 44, 45, 46, 47, 48, 49, 50, 51, 52, 53, 54, 55, 56, 57, 58, 59, 60, 61, 62, 63, 64, 65, 74, 75, 76, 77, 78, 79, 80, 81, 82, 83, 84, 85, 86, 87, 88] (by decide +kernel) (by decide +kernel)
set_option maxRecDepth 20000 in
theorem gX6_behind_X6_barOfWeeks : GoodIn wsX6_behind (wsV RX6 109 RX6 yX6_barOfWeeks wsX6_barOfWeeks) := goodIn_app (goodIn_of _ (by decide +kernel)) ggX6_behind_X6_barOfWeeks
set_option maxRecDepth 20000 in
theorem ggX6_behind_X6_eatenSet : GoodIn wsX6_behind wsX6_eatenSet := goodIn_r _ [69, 1, 74, 75, 76, 77, 78, 79, 80, 81, 82, 83, 84, 85, 86, 87, 88] (by decide +kernel) (by decide +kernel)
set_option maxRecDepth 20000 in
theorem gX6_behind_X6_eatenSet : GoodIn wsX6_behind (wsV RX6 112 RX6 yX6_eatenSet wsX6_eatenSet) := goodIn_app (goodIn_of _ (by decide +kernel)) ggX6_behind_X6_eatenSet
set_option maxRecDepth 20000 in
theorem ggX6_behind_X6_looseSet : GoodIn wsX6_behind wsX6_looseSet := goodIn_r _ [73, 1, 66, 67, 68, 5, 69, 47, 48, 49, 74, 75, 76, 77, 78, 79, 80, 81, 82, 83, 84, 85, 86, 87, 88] (by decide +kernel) (by decide +kernel)
set_option maxRecDepth 20000 in
theorem gX6_behind_X6_looseSet : GoodIn wsX6_behind (wsV RX6 115 RX6 yX6_looseSet wsX6_looseSet) := goodIn_app (goodIn_of _ (by decide +kernel)) ggX6_behind_X6_looseSet
theorem dX6_behind_0 : decode cX6_behind 0 = .ok (.iload_n 1, 1) := by decide +kernel
theorem dX6_behind_1 : decode cX6_behind 1 = .ok (.iconst 0, 1) := by decide +kernel
theorem dX6_behind_2 : decode cX6_behind 2 = .ok (.iconst 3, 1) := by decide +kernel
theorem dX6_behind_3 : decode cX6_behind 3 = .ok (.invokestatic 41, 3) := by decide +kernel
theorem dX6_behind_6 : decode cX6_behind 6 = .ok (.ifCond .ne 6, 3) := by decide +kernel
theorem dX6_behind_9 : decode cX6_behind 9 = .ok (.bipush (-2), 2) := by decide +kernel
theorem dX6_behind_11 : decode cX6_behind 11 = .ok (.ireturn, 1) := by decide +kernel
theorem dX6_behind_12 : decode cX6_behind 12 = .ok (.aload_n 0, 1) := by decide +kernel
theorem dX6_behind_13 : decode cX6_behind 13 = .ok (.invokevirtual 109, 3) := by decide +kernel
theorem dX6_behind_16 : decode cX6_behind 16 = .ok (.ifCond .ge 6, 3) := by decide +kernel
theorem dX6_behind_19 : decode cX6_behind 19 = .ok (.bipush (-5), 2) := by decide +kernel
theorem dX6_behind_21 : decode cX6_behind 21 = .ok (.ireturn, 1) := by decide +kernel
theorem dX6_behind_22 : decode cX6_behind 22 = .ok (.iload_n 1, 1) := by decide +kernel
theorem dX6_behind_23 : decode cX6_behind 23 = .ok (.ifCond .ne 13, 3) := by decide +kernel
theorem dX6_behind_26 : decode cX6_behind 26 = .ok (.aload_n 0, 1) := by decide +kernel
theorem dX6_behind_27 : decode cX6_behind 27 = .ok (.getfield 13, 3) := by decide +kernel
theorem dX6_behind_30 : decode cX6_behind 30 = .ok (.bipush 96, 2) := by decide +kernel
theorem dX6_behind_32 : decode cX6_behind 32 = .ok (.iaload, 1) := by decide +kernel
theorem dX6_behind_33 : decode cX6_behind 33 = .ok (.goto 31, 3) := by decide +kernel
theorem dX6_behind_36 : decode cX6_behind 36 = .ok (.iload_n 1, 1) := by decide +kernel
theorem dX6_behind_37 : decode cX6_behind 37 = .ok (.iconst 1, 1) := by decide +kernel
theorem dX6_behind_38 : decode cX6_behind 38 = .ok (.if_icmp .ne 10, 3) := by decide +kernel
theorem dX6_behind_41 : decode cX6_behind 41 = .ok (.aload_n 0, 1) := by decide +kernel
theorem dX6_behind_42 : decode cX6_behind 42 = .ok (.invokevirtual 112, 3) := by decide +kernel
theorem dX6_behind_45 : decode cX6_behind 45 = .ok (.goto 19, 3) := by decide +kernel
theorem dX6_behind_48 : decode cX6_behind 48 = .ok (.iload_n 1, 1) := by decide +kernel
theorem dX6_behind_49 : decode cX6_behind 49 = .ok (.iconst 2, 1) := by decide +kernel
theorem dX6_behind_50 : decode cX6_behind 50 = .ok (.if_icmp .ne 10, 3) := by decide +kernel
theorem dX6_behind_53 : decode cX6_behind 53 = .ok (.aload_n 0, 1) := by decide +kernel
theorem dX6_behind_54 : decode cX6_behind 54 = .ok (.invokevirtual 115, 3) := by decide +kernel
theorem dX6_behind_57 : decode cX6_behind 57 = .ok (.goto 7, 3) := by decide +kernel
theorem dX6_behind_60 : decode cX6_behind 60 = .ok (.aload_n 0, 1) := by decide +kernel
theorem dX6_behind_61 : decode cX6_behind 61 = .ok (.getfield 66, 3) := by decide +kernel
theorem dX6_behind_64 : decode cX6_behind 64 = .ok (.ireturn, 1) := by decide +kernel
set_option maxRecDepth 20000 in
theorem ggX6_of_X6_in : GoodIn wsX6_of wsX6_in := goodIn_r _ [5] (by decide +kernel) (by decide +kernel)
set_option maxRecDepth 20000 in
theorem gX6_of_X6_in : GoodIn wsX6_of (va_wsS RX6 41 yX6_in wsX6_in) := goodIn_app (goodIn_of _ (by decide +kernel)) ggX6_of_X6_in
set_option maxRecDepth 20000 in
theorem ggX6_of_X6_barOfWeeks : GoodIn wsX6_of wsX6_barOfWeeks := goodIn_r _ [9, 10, 11, 12, 4, 13, 14, 15, 16, 17, 18, 2, 3, 5, 19, 20, 21, 22, 23, 24, 25, 26, 27, 28, 29, 30, 31, 32, 1, 33, 34, 35, 36, 37, 38, 39, 40, 41, 42, 43, 44, 45, 46, 47, 48, 49, 50, 51, 52, 53, 54, 55, 56, 57, 58, 59, 60, 61, 62, 63, 64, 65, 66, 67, 68, 69, 70, 71, 72, 73, 74, 75, 76, 77, 78, 79, 80] (by decide +kernel) (by decide +kernel)
set_option maxRecDepth 20000 in
theorem gX6_of_X6_barOfWeeks : GoodIn wsX6_of (wsV RX6 109 RX6 yX6_barOfWeeks wsX6_barOfWeeks) := goodIn_app (goodIn_of _ (by decide +kernel)) ggX6_of_X6_barOfWeeks
theorem dX6_of_0 : decode cX6_of 0 = .ok (.iload_n 2, 1) := by decide +kernel
theorem dX6_of_1 : decode cX6_of 1 = .ok (.iconst 0, 1) := by decide +kernel
theorem dX6_of_2 : decode cX6_of 2 = .ok (.iconst 2, 1) := by decide +kernel
theorem dX6_of_3 : decode cX6_of 3 = .ok (.invokestatic 41, 3) := by decide +kernel
theorem dX6_of_6 : decode cX6_of 6 = .ok (.ifCond .ne 6, 3) := by decide +kernel
theorem dX6_of_9 : decode cX6_of 9 = .ok (.bipush (-2), 2) := by decide +kernel
theorem dX6_of_11 : decode cX6_of 11 = .ok (.ireturn, 1) := by decide +kernel
theorem dX6_of_12 : decode cX6_of 12 = .ok (.aload_n 0, 1) := by decide +kernel
theorem dX6_of_13 : decode cX6_of 13 = .ok (.invokevirtual 109, 3) := by decide +kernel
theorem dX6_of_16 : decode cX6_of 16 = .ok (.ifCond .ge 6, 3) := by decide +kernel
theorem dX6_of_19 : decode cX6_of 19 = .ok (.bipush (-5), 2) := by decide +kernel
theorem dX6_of_21 : decode cX6_of 21 = .ok (.ireturn, 1) := by decide +kernel
theorem dX6_of_22 : decode cX6_of 22 = .ok (.iload_n 1, 1) := by decide +kernel
theorem dX6_of_23 : decode cX6_of 23 = .ok (.iconst 0, 1) := by decide +kernel
theorem dX6_of_24 : decode cX6_of 24 = .ok (.aload_n 0, 1) := by decide +kernel
theorem dX6_of_25 : decode cX6_of 25 = .ok (.getfield 13, 3) := by decide +kernel
theorem dX6_of_28 : decode cX6_of 28 = .ok (.bipush 96, 2) := by decide +kernel
theorem dX6_of_30 : decode cX6_of 30 = .ok (.iaload, 1) := by decide +kernel
theorem dX6_of_31 : decode cX6_of 31 = .ok (.iconst 1, 1) := by decide +kernel
theorem dX6_of_32 : decode cX6_of 32 = .ok (.isub, 1) := by decide +kernel
theorem dX6_of_33 : decode cX6_of 33 = .ok (.invokestatic 41, 3) := by decide +kernel
theorem dX6_of_36 : decode cX6_of 36 = .ok (.ifCond .eq 17, 3) := by decide +kernel
theorem dX6_of_39 : decode cX6_of 39 = .ok (.aload_n 0, 1) := by decide +kernel
theorem dX6_of_40 : decode cX6_of 40 = .ok (.getfield 13, 3) := by decide +kernel
theorem dX6_of_43 : decode cX6_of 43 = .ok (.bipush 24, 2) := by decide +kernel
theorem dX6_of_45 : decode cX6_of 45 = .ok (.iload_n 2, 1) := by decide +kernel
theorem dX6_of_46 : decode cX6_of 46 = .ok (.imul, 1) := by decide +kernel
theorem dX6_of_47 : decode cX6_of 47 = .ok (.iload_n 1, 1) := by decide +kernel
theorem dX6_of_48 : decode cX6_of 48 = .ok (.iadd, 1) := by decide +kernel
theorem dX6_of_49 : decode cX6_of 49 = .ok (.iaload, 1) := by decide +kernel
theorem dX6_of_50 : decode cX6_of 50 = .ok (.goto 4, 3) := by decide +kernel
theorem dX6_of_53 : decode cX6_of 53 = .ok (.iconst (-1), 1) := by decide +kernel
theorem dX6_of_54 : decode cX6_of 54 = .ok (.ireturn, 1) := by decide +kernel
set_option maxRecDepth 20000 in
theorem ggX6_pull_X6_isStitch : GoodIn wsX6_pull wsX6_isStitch := goodIn_r _ [5, 6, 7, 8, 4, 9, 26, 27, 28, 29, 30, 31, 32, 33, 34, 35, 36, 37, 38, 39, 40] (by decide +kernel) (by decide +kernel)
set_option maxRecDepth 20000 in
theorem gX6_pull_X6_isStitch : GoodIn wsX6_pull (wsV RX6 45 RX6 yX6_isStitch wsX6_isStitch) := goodIn_app (goodIn_of _ (by decide +kernel)) ggX6_pull_X6_isStitch
set_option maxRecDepth 20000 in
theorem ggX6_pull_X6_asNow : GoodIn wsX6_pull wsX6_asNow := goodIn_r _ [13, 14, 6, 15, 26, 27, 28, 29, 30, 31, 32, 33, 34, 35, 36, 37, 38, 39, 40] (by decide +kernel) (by decide +kernel)
set_option maxRecDepth 20000 in
theorem gX6_pull_X6_asNow : GoodIn wsX6_pull (wsV RX6 84 RX6 yX6_asNow wsX6_asNow) := goodIn_app (goodIn_of _ (by decide +kernel)) ggX6_pull_X6_asNow
set_option maxRecDepth 20000 in
theorem ggX6_pull_X6_threadOf : GoodIn wsX6_pull wsX6_threadOf := goodIn_r _ [19, 14, 20, 21, 4, 22, 26, 27, 28, 29, 30, 31, 32, 33, 34, 35, 36, 37, 38, 39, 40] (by decide +kernel) (by decide +kernel)
set_option maxRecDepth 20000 in
theorem gX6_pull_X6_threadOf : GoodIn wsX6_pull (wsV RX6 73 RX6 yX6_threadOf wsX6_threadOf) := goodIn_app (goodIn_of _ (by decide +kernel)) ggX6_pull_X6_threadOf
set_option maxRecDepth 20000 in
theorem ggX6_pull_X6_bits : GoodIn wsX6_pull wsX6_bits := goodIn_r _ [25] (by decide +kernel) (by decide +kernel)
set_option maxRecDepth 20000 in
theorem gX6_pull_X6_bits : GoodIn wsX6_pull (va_wsS RX6 81 yX6_bits wsX6_bits) := goodIn_app (goodIn_of _ (by decide +kernel)) ggX6_pull_X6_bits
theorem dX6_pull_0 : decode cX6_pull 0 = .ok (.aload_n 0, 1) := by decide +kernel
theorem dX6_pull_1 : decode cX6_pull 1 = .ok (.iload_n 1, 1) := by decide +kernel
theorem dX6_pull_2 : decode cX6_pull 2 = .ok (.invokevirtual 45, 3) := by decide +kernel
theorem dX6_pull_5 : decode cX6_pull 5 = .ok (.ifCond .ne 5, 3) := by decide +kernel
theorem dX6_pull_8 : decode cX6_pull 8 = .ok (.iconst (-1), 1) := by decide +kernel
theorem dX6_pull_9 : decode cX6_pull 9 = .ok (.ireturn, 1) := by decide +kernel
theorem dX6_pull_10 : decode cX6_pull 10 = .ok (.aload_n 0, 1) := by decide +kernel
theorem dX6_pull_11 : decode cX6_pull 11 = .ok (.invokevirtual 84, 3) := by decide +kernel
theorem dX6_pull_14 : decode cX6_pull 14 = .ok (.aload_n 0, 1) := by decide +kernel
theorem dX6_pull_15 : decode cX6_pull 15 = .ok (.iload_n 1, 1) := by decide +kernel
theorem dX6_pull_16 : decode cX6_pull 16 = .ok (.invokevirtual 73, 3) := by decide +kernel
theorem dX6_pull_19 : decode cX6_pull 19 = .ok (.invokestatic 81, 3) := by decide +kernel
theorem dX6_pull_22 : decode cX6_pull 22 = .ok (.ireturn, 1) := by decide +kernel
set_option maxRecDepth 20000 in
theorem ggX6_pulls_X6_in : GoodIn wsX6_pulls wsX6_in := goodIn_r _ [6] (by decide +kernel) (by decide +kernel)
set_option maxRecDepth 20000 in
theorem gX6_pulls_X6_in : GoodIn wsX6_pulls (va_wsS RX6 41 yX6_in wsX6_in) := goodIn_app (goodIn_of _ (by decide +kernel)) ggX6_pulls_X6_in
set_option maxRecDepth 20000 in
theorem ggX6_pulls_X6_asNow : GoodIn wsX6_pulls wsX6_asNow := goodIn_r _ [10, 2, 1, 11, 22, 23, 24, 25, 26, 27, 28, 29, 30, 31, 32, 33, 34, 35, 36] (by decide +kernel) (by decide +kernel)
set_option maxRecDepth 20000 in
theorem gX6_pulls_X6_asNow : GoodIn wsX6_pulls (wsV RX6 84 RX6 yX6_asNow wsX6_asNow) := goodIn_app (goodIn_of _ (by decide +kernel)) ggX6_pulls_X6_asNow
set_option maxRecDepth 20000 in
theorem ggX6_pulls_X6_has : GoodIn wsX6_pulls wsX6_has := goodIn_r _ [14] (by decide +kernel) (by decide +kernel)
set_option maxRecDepth 20000 in
theorem gX6_pulls_X6_has : GoodIn wsX6_pulls (va_wsS RX6 69 yX6_has wsX6_has) := goodIn_app (goodIn_of _ (by decide +kernel)) ggX6_pulls_X6_has
set_option maxRecDepth 20000 in
theorem ggX6_pulls_X6_threadOf : GoodIn wsX6_pulls wsX6_threadOf := goodIn_r _ [18, 2, 12, 13, 5, 14, 22, 23, 24, 25, 26, 27, 28, 29, 30, 31, 32, 33, 34, 35, 36] (by decide +kernel) (by decide +kernel)
set_option maxRecDepth 20000 in
theorem gX6_pulls_X6_threadOf : GoodIn wsX6_pulls (wsV RX6 73 RX6 yX6_threadOf wsX6_threadOf) := goodIn_app (goodIn_of _ (by decide +kernel)) ggX6_pulls_X6_threadOf
set_option maxRecDepth 20000 in
theorem ggX6_pulls_X6_bits : GoodIn wsX6_pulls wsX6_bits := goodIn_r _ [21] (by decide +kernel) (by decide +kernel)
set_option maxRecDepth 20000 in
theorem gX6_pulls_X6_bits : GoodIn wsX6_pulls (va_wsS RX6 81 yX6_bits wsX6_bits) := goodIn_app (goodIn_of _ (by decide +kernel)) ggX6_pulls_X6_bits
theorem dX6_pulls_0 : decode cX6_pulls 0 = .ok (.iconst 1, 1) := by decide +kernel
theorem dX6_pulls_1 : decode cX6_pulls 1 = .ok (.aload_n 0, 1) := by decide +kernel
theorem dX6_pulls_2 : decode cX6_pulls 2 = .ok (.getfield 7, 3) := by decide +kernel
theorem dX6_pulls_5 : decode cX6_pulls 5 = .ok (.bipush 96, 2) := by decide +kernel
theorem dX6_pulls_7 : decode cX6_pulls 7 = .ok (.iaload, 1) := by decide +kernel
theorem dX6_pulls_8 : decode cX6_pulls 8 = .ok (.ishl, 1) := by decide +kernel
theorem dX6_pulls_9 : decode cX6_pulls 9 = .ok (.iconst 1, 1) := by decide +kernel
theorem dX6_pulls_10 : decode cX6_pulls 10 = .ok (.isub, 1) := by decide +kernel
theorem dX6_pulls_11 : decode cX6_pulls 11 = .ok (.istore 4, 2) := by decide +kernel
theorem dX6_pulls_13 : decode cX6_pulls 13 = .ok (.iload_n 1, 1) := by decide +kernel
theorem dX6_pulls_14 : decode cX6_pulls 14 = .ok (.iload 4, 2) := by decide +kernel
theorem dX6_pulls_16 : decode cX6_pulls 16 = .ok (.iconst (-1), 1) := by decide +kernel
theorem dX6_pulls_17 : decode cX6_pulls 17 = .ok (.ixor, 1) := by decide +kernel
theorem dX6_pulls_18 : decode cX6_pulls 18 = .ok (.iand, 1) := by decide +kernel
theorem dX6_pulls_19 : decode cX6_pulls 19 = .ok (.ifCond .ne 12, 3) := by decide +kernel
theorem dX6_pulls_22 : decode cX6_pulls 22 = .ok (.iload_n 2, 1) := by decide +kernel
theorem dX6_pulls_23 : decode cX6_pulls 23 = .ok (.iload 4, 2) := by decide +kernel
theorem dX6_pulls_25 : decode cX6_pulls 25 = .ok (.iconst (-1), 1) := by decide +kernel
theorem dX6_pulls_26 : decode cX6_pulls 26 = .ok (.ixor, 1) := by decide +kernel
theorem dX6_pulls_27 : decode cX6_pulls 27 = .ok (.iand, 1) := by decide +kernel
theorem dX6_pulls_28 : decode cX6_pulls 28 = .ok (.ifCond .eq 5, 3) := by decide +kernel
theorem dX6_pulls_31 : decode cX6_pulls 31 = .ok (.iconst (-1), 1) := by decide +kernel
theorem dX6_pulls_32 : decode cX6_pulls 32 = .ok (.ireturn, 1) := by decide +kernel
theorem dX6_pulls_33 : decode cX6_pulls 33 = .ok (.iload_n 3, 1) := by decide +kernel
theorem dX6_pulls_34 : decode cX6_pulls 34 = .ok (.iconst 0, 1) := by decide +kernel
theorem dX6_pulls_35 : decode cX6_pulls 35 = .ok (.iconst 1, 1) := by decide +kernel
theorem dX6_pulls_36 : decode cX6_pulls 36 = .ok (.invokestatic 41, 3) := by decide +kernel
theorem dX6_pulls_39 : decode cX6_pulls 39 = .ok (.ifCond .ne 6, 3) := by decide +kernel
theorem dX6_pulls_42 : decode cX6_pulls 42 = .ok (.bipush (-2), 2) := by decide +kernel
theorem dX6_pulls_44 : decode cX6_pulls 44 = .ok (.ireturn, 1) := by decide +kernel
theorem dX6_pulls_45 : decode cX6_pulls 45 = .ok (.aload_n 0, 1) := by decide +kernel
theorem dX6_pulls_46 : decode cX6_pulls 46 = .ok (.invokevirtual 84, 3) := by decide +kernel
theorem dX6_pulls_49 : decode cX6_pulls 49 = .ok (.iconst 0, 1) := by decide +kernel
theorem dX6_pulls_50 : decode cX6_pulls 50 = .ok (.istore 5, 2) := by decide +kernel
theorem dX6_pulls_52 : decode cX6_pulls 52 = .ok (.iconst 0, 1) := by decide +kernel
theorem dX6_pulls_53 : decode cX6_pulls 53 = .ok (.istore 6, 2) := by decide +kernel
theorem dX6_pulls_55 : decode cX6_pulls 55 = .ok (.iload 6, 2) := by decide +kernel
theorem dX6_pulls_57 : decode cX6_pulls 57 = .ok (.aload_n 0, 1) := by decide +kernel
theorem dX6_pulls_58 : decode cX6_pulls 58 = .ok (.getfield 13, 3) := by decide +kernel
theorem dX6_pulls_61 : decode cX6_pulls 61 = .ok (.bipush 96, 2) := by decide +kernel
theorem dX6_pulls_63 : decode cX6_pulls 63 = .ok (.iaload, 1) := by decide +kernel
theorem dX6_pulls_64 : decode cX6_pulls 64 = .ok (.if_icmp .ge 83, 3) := by decide +kernel
theorem dX6_pulls_67 : decode cX6_pulls 67 = .ok (.iload_n 1, 1) := by decide +kernel
theorem dX6_pulls_68 : decode cX6_pulls 68 = .ok (.iload 6, 2) := by decide +kernel
theorem dX6_pulls_70 : decode cX6_pulls 70 = .ok (.invokestatic 69, 3) := by decide +kernel
theorem dX6_pulls_73 : decode cX6_pulls 73 = .ok (.ifCond .eq 68, 3) := by decide +kernel
theorem dX6_pulls_76 : decode cX6_pulls 76 = .ok (.bipush (-6), 2) := by decide +kernel
theorem dX6_pulls_78 : decode cX6_pulls 78 = .ok (.istore 7, 2) := by decide +kernel
theorem dX6_pulls_80 : decode cX6_pulls 80 = .ok (.iload 6, 2) := by decide +kernel
theorem dX6_pulls_82 : decode cX6_pulls 82 = .ok (.istore 8, 2) := by decide +kernel
theorem dX6_pulls_84 : decode cX6_pulls 84 = .ok (.iload 8, 2) := by decide +kernel
theorem dX6_pulls_86 : decode cX6_pulls 86 = .ok (.ifCond .lt 38, 3) := by decide +kernel
theorem dX6_pulls_89 : decode cX6_pulls 89 = .ok (.aload_n 0, 1) := by decide +kernel
theorem dX6_pulls_90 : decode cX6_pulls 90 = .ok (.iload 8, 2) := by decide +kernel
theorem dX6_pulls_92 : decode cX6_pulls 92 = .ok (.invokevirtual 73, 3) := by decide +kernel
theorem dX6_pulls_95 : decode cX6_pulls 95 = .ok (.iload_n 2, 1) := by decide +kernel
theorem dX6_pulls_96 : decode cX6_pulls 96 = .ok (.iand, 1) := by decide +kernel
theorem dX6_pulls_97 : decode cX6_pulls 97 = .ok (.ifCond .ne 8, 3) := by decide +kernel
theorem dX6_pulls_100 : decode cX6_pulls 100 = .ok (.iload 8, 2) := by decide +kernel
theorem dX6_pulls_102 : decode cX6_pulls 102 = .ok (.goto 5, 3) := by decide +kernel
theorem dX6_pulls_105 : decode cX6_pulls 105 = .ok (.iload 7, 2) := by decide +kernel
theorem dX6_pulls_107 : decode cX6_pulls 107 = .ok (.istore 7, 2) := by decide +kernel
theorem dX6_pulls_109 : decode cX6_pulls 109 = .ok (.aload_n 0, 1) := by decide +kernel
theorem dX6_pulls_110 : decode cX6_pulls 110 = .ok (.getfield 13, 3) := by decide +kernel
theorem dX6_pulls_113 : decode cX6_pulls 113 = .ok (.bipush 48, 2) := by decide +kernel
theorem dX6_pulls_115 : decode cX6_pulls 115 = .ok (.iload 8, 2) := by decide +kernel
theorem dX6_pulls_117 : decode cX6_pulls 117 = .ok (.iadd, 1) := by decide +kernel
theorem dX6_pulls_118 : decode cX6_pulls 118 = .ok (.iaload, 1) := by decide +kernel
theorem dX6_pulls_119 : decode cX6_pulls 119 = .ok (.istore 8, 2) := by decide +kernel
theorem dX6_pulls_121 : decode cX6_pulls 121 = .ok (.goto (-37), 3) := by decide +kernel
theorem dX6_pulls_124 : decode cX6_pulls 124 = .ok (.iload 7, 2) := by decide +kernel
theorem dX6_pulls_126 : decode cX6_pulls 126 = .ok (.ifCond .ge 6, 3) := by decide +kernel
theorem dX6_pulls_129 : decode cX6_pulls 129 = .ok (.bipush (-6), 2) := by decide +kernel
theorem dX6_pulls_131 : decode cX6_pulls 131 = .ok (.ireturn, 1) := by decide +kernel
theorem dX6_pulls_132 : decode cX6_pulls 132 = .ok (.iload 5, 2) := by decide +kernel
theorem dX6_pulls_134 : decode cX6_pulls 134 = .ok (.iconst 1, 1) := by decide +kernel
theorem dX6_pulls_135 : decode cX6_pulls 135 = .ok (.iload 7, 2) := by decide +kernel
theorem dX6_pulls_137 : decode cX6_pulls 137 = .ok (.ishl, 1) := by decide +kernel
theorem dX6_pulls_138 : decode cX6_pulls 138 = .ok (.ior, 1) := by decide +kernel
theorem dX6_pulls_139 : decode cX6_pulls 139 = .ok (.istore 5, 2) := by decide +kernel
theorem dX6_pulls_141 : decode cX6_pulls 141 = .ok (.iinc 6 1, 3) := by decide +kernel
theorem dX6_pulls_144 : decode cX6_pulls 144 = .ok (.goto (-89), 3) := by decide +kernel
theorem dX6_pulls_147 : decode cX6_pulls 147 = .ok (.iload_n 3, 1) := by decide +kernel
theorem dX6_pulls_148 : decode cX6_pulls 148 = .ok (.iconst 1, 1) := by decide +kernel
theorem dX6_pulls_149 : decode cX6_pulls 149 = .ok (.if_icmp .ne 8, 3) := by decide +kernel
theorem dX6_pulls_152 : decode cX6_pulls 152 = .ok (.iload 5, 2) := by decide +kernel
theorem dX6_pulls_154 : decode cX6_pulls 154 = .ok (.goto 8, 3) := by decide +kernel
theorem dX6_pulls_157 : decode cX6_pulls 157 = .ok (.iload 5, 2) := by decide +kernel
theorem dX6_pulls_159 : decode cX6_pulls 159 = .ok (.invokestatic 81, 3) := by decide +kernel
theorem dX6_pulls_162 : decode cX6_pulls 162 = .ok (.ireturn, 1) := by decide +kernel
theorem dX6_patternOf_0 : decode cX6_patternOf 0 = .ok (.aload_n 0, 1) := by decide +kernel
theorem dX6_patternOf_1 : decode cX6_patternOf 1 = .ok (.getfield 7, 3) := by decide +kernel
theorem dX6_patternOf_4 : decode cX6_patternOf 4 = .ok (.bipush 96, 2) := by decide +kernel
theorem dX6_patternOf_6 : decode cX6_patternOf 6 = .ok (.iaload, 1) := by decide +kernel
theorem dX6_patternOf_7 : decode cX6_patternOf 7 = .ok (.ifCond .ne 5, 3) := by decide +kernel
theorem dX6_patternOf_10 : decode cX6_patternOf 10 = .ok (.iconst 0, 1) := by decide +kernel
theorem dX6_patternOf_11 : decode cX6_patternOf 11 = .ok (.ireturn, 1) := by decide +kernel
theorem dX6_patternOf_12 : decode cX6_patternOf 12 = .ok (.iconst 0, 1) := by decide +kernel
theorem dX6_patternOf_13 : decode cX6_patternOf 13 = .ok (.istore_n 1, 1) := by decide +kernel
theorem dX6_patternOf_14 : decode cX6_patternOf 14 = .ok (.iconst 0, 1) := by decide +kernel
theorem dX6_patternOf_15 : decode cX6_patternOf 15 = .ok (.istore_n 2, 1) := by decide +kernel
theorem dX6_patternOf_16 : decode cX6_patternOf 16 = .ok (.iload_n 2, 1) := by decide +kernel
theorem dX6_patternOf_17 : decode cX6_patternOf 17 = .ok (.ifCond .ne 109, 3) := by decide +kernel
theorem dX6_patternOf_20 : decode cX6_patternOf 20 = .ok (.iinc 1 1, 3) := by decide +kernel
theorem dX6_patternOf_23 : decode cX6_patternOf 23 = .ok (.iconst 1, 1) := by decide +kernel
theorem dX6_patternOf_24 : decode cX6_patternOf 24 = .ok (.istore_n 2, 1) := by decide +kernel
theorem dX6_patternOf_25 : decode cX6_patternOf 25 = .ok (.iconst 0, 1) := by decide +kernel
theorem dX6_patternOf_26 : decode cX6_patternOf 26 = .ok (.istore_n 3, 1) := by decide +kernel
theorem dX6_patternOf_27 : decode cX6_patternOf 27 = .ok (.iload_n 3, 1) := by decide +kernel
theorem dX6_patternOf_28 : decode cX6_patternOf 28 = .ok (.aload_n 0, 1) := by decide +kernel
theorem dX6_patternOf_29 : decode cX6_patternOf 29 = .ok (.getfield 7, 3) := by decide +kernel
theorem dX6_patternOf_32 : decode cX6_patternOf 32 = .ok (.bipush 96, 2) := by decide +kernel
theorem dX6_patternOf_34 : decode cX6_patternOf 34 = .ok (.iaload, 1) := by decide +kernel
theorem dX6_patternOf_35 : decode cX6_patternOf 35 = .ok (.if_icmp .ge 88, 3) := by decide +kernel
theorem dX6_patternOf_38 : decode cX6_patternOf 38 = .ok (.iload_n 3, 1) := by decide +kernel
theorem dX6_patternOf_39 : decode cX6_patternOf 39 = .ok (.iload_n 1, 1) := by decide +kernel
theorem dX6_patternOf_40 : decode cX6_patternOf 40 = .ok (.iadd, 1) := by decide +kernel
theorem dX6_patternOf_41 : decode cX6_patternOf 41 = .ok (.istore 4, 2) := by decide +kernel
theorem dX6_patternOf_43 : decode cX6_patternOf 43 = .ok (.iload 4, 2) := by decide +kernel
theorem dX6_patternOf_45 : decode cX6_patternOf 45 = .ok (.aload_n 0, 1) := by decide +kernel
theorem dX6_patternOf_46 : decode cX6_patternOf 46 = .ok (.getfield 7, 3) := by decide +kernel
theorem dX6_patternOf_49 : decode cX6_patternOf 49 = .ok (.bipush 96, 2) := by decide +kernel
theorem dX6_patternOf_51 : decode cX6_patternOf 51 = .ok (.iaload, 1) := by decide +kernel
theorem dX6_patternOf_52 : decode cX6_patternOf 52 = .ok (.if_icmp .ge 65, 3) := by decide +kernel
theorem dX6_patternOf_55 : decode cX6_patternOf 55 = .ok (.iload_n 2, 1) := by decide +kernel
theorem dX6_patternOf_56 : decode cX6_patternOf 56 = .ok (.ifCond .eq 50, 3) := by decide +kernel
theorem dX6_patternOf_59 : decode cX6_patternOf 59 = .ok (.aload_n 0, 1) := by decide +kernel
theorem dX6_patternOf_60 : decode cX6_patternOf 60 = .ok (.getfield 7, 3) := by decide +kernel
theorem dX6_patternOf_63 : decode cX6_patternOf 63 = .ok (.bipush 72, 2) := by decide +kernel
theorem dX6_patternOf_65 : decode cX6_patternOf 65 = .ok (.iload_n 3, 1) := by decide +kernel
theorem dX6_patternOf_66 : decode cX6_patternOf 66 = .ok (.iadd, 1) := by decide +kernel
theorem dX6_patternOf_67 : decode cX6_patternOf 67 = .ok (.iaload, 1) := by decide +kernel
theorem dX6_patternOf_68 : decode cX6_patternOf 68 = .ok (.iconst 1, 1) := by decide +kernel
theorem dX6_patternOf_69 : decode cX6_patternOf 69 = .ok (.if_icmp .eq 33, 3) := by decide +kernel
theorem dX6_patternOf_72 : decode cX6_patternOf 72 = .ok (.aload_n 0, 1) := by decide +kernel
theorem dX6_patternOf_73 : decode cX6_patternOf 73 = .ok (.getfield 7, 3) := by decide +kernel
theorem dX6_patternOf_76 : decode cX6_patternOf 76 = .ok (.bipush 72, 2) := by decide +kernel
theorem dX6_patternOf_78 : decode cX6_patternOf 78 = .ok (.iload 4, 2) := by decide +kernel
theorem dX6_patternOf_80 : decode cX6_patternOf 80 = .ok (.iadd, 1) := by decide +kernel
theorem dX6_patternOf_81 : decode cX6_patternOf 81 = .ok (.iaload, 1) := by decide +kernel
theorem dX6_patternOf_82 : decode cX6_patternOf 82 = .ok (.iconst 1, 1) := by decide +kernel
theorem dX6_patternOf_83 : decode cX6_patternOf 83 = .ok (.if_icmp .eq 19, 3) := by decide +kernel
theorem dX6_patternOf_86 : decode cX6_patternOf 86 = .ok (.aload_n 0, 1) := by decide +kernel
theorem dX6_patternOf_87 : decode cX6_patternOf 87 = .ok (.getfield 7, 3) := by decide +kernel
theorem dX6_patternOf_90 : decode cX6_patternOf 90 = .ok (.iload_n 3, 1) := by decide +kernel
theorem dX6_patternOf_91 : decode cX6_patternOf 91 = .ok (.iaload, 1) := by decide +kernel
theorem dX6_patternOf_92 : decode cX6_patternOf 92 = .ok (.aload_n 0, 1) := by decide +kernel
theorem dX6_patternOf_93 : decode cX6_patternOf 93 = .ok (.getfield 7, 3) := by decide +kernel
theorem dX6_patternOf_96 : decode cX6_patternOf 96 = .ok (.iload 4, 2) := by decide +kernel
theorem dX6_patternOf_98 : decode cX6_patternOf 98 = .ok (.iaload, 1) := by decide +kernel
theorem dX6_patternOf_99 : decode cX6_patternOf 99 = .ok (.if_icmp .ne 7, 3) := by decide +kernel
theorem dX6_patternOf_102 : decode cX6_patternOf 102 = .ok (.iconst 1, 1) := by decide +kernel
theorem dX6_patternOf_103 : decode cX6_patternOf 103 = .ok (.goto 4, 3) := by decide +kernel
theorem dX6_patternOf_106 : decode cX6_patternOf 106 = .ok (.iconst 0, 1) := by decide +kernel
theorem dX6_patternOf_107 : decode cX6_patternOf 107 = .ok (.istore_n 2, 1) := by decide +kernel
theorem dX6_patternOf_108 : decode cX6_patternOf 108 = .ok (.iload 4, 2) := by decide +kernel
theorem dX6_patternOf_110 : decode cX6_patternOf 110 = .ok (.iload_n 1, 1) := by decide +kernel
theorem dX6_patternOf_111 : decode cX6_patternOf 111 = .ok (.iadd, 1) := by decide +kernel
theorem dX6_patternOf_112 : decode cX6_patternOf 112 = .ok (.istore 4, 2) := by decide +kernel
theorem dX6_patternOf_114 : decode cX6_patternOf 114 = .ok (.goto (-71), 3) := by decide +kernel
theorem dX6_patternOf_117 : decode cX6_patternOf 117 = .ok (.iinc 3 1, 3) := by decide +kernel
theorem dX6_patternOf_120 : decode cX6_patternOf 120 = .ok (.goto (-93), 3) := by decide +kernel
theorem dX6_patternOf_123 : decode cX6_patternOf 123 = .ok (.goto (-107), 3) := by decide +kernel
theorem dX6_patternOf_126 : decode cX6_patternOf 126 = .ok (.iload_n 1, 1) := by decide +kernel
theorem dX6_patternOf_127 : decode cX6_patternOf 127 = .ok (.ireturn, 1) := by decide +kernel
set_option maxRecDepth 20000 in
theorem ggX6_pattern_X6_patternOf : GoodIn wsX6_pattern wsX6_patternOf := goodIn_r _ [5, 6, 7, 8, 9, 10, 11, 12, 13, 14, 15, 16, 17, 18, 19, 20, 21] (by decide +kernel) (by decide +kernel)
set_option maxRecDepth 20000 in
theorem gX6_pattern_X6_patternOf : GoodIn wsX6_pattern (wsV RX6 118 RX6 yX6_patternOf wsX6_patternOf) := goodIn_app (goodIn_of _ (by decide +kernel)) ggX6_pattern_X6_patternOf
theorem dX6_pattern_0 : decode cX6_pattern 0 = .ok (.aload_n 0, 1) := by decide +kernel
theorem dX6_pattern_1 : decode cX6_pattern 1 = .ok (.invokevirtual 118, 3) := by decide +kernel
theorem dX6_pattern_4 : decode cX6_pattern 4 = .ok (.ireturn, 1) := by decide +kernel
set_option maxRecDepth 20000 in
theorem ggX6_hole_X6_isStitch : GoodIn wsX6_hole wsX6_isStitch := goodIn_r _ [6, 1, 7, 8, 5, 9, 14, 15, 16, 17, 18, 19, 20, 21, 22, 23, 24, 25, 26, 27, 28] (by decide +kernel) (by decide +kernel)
set_option maxRecDepth 20000 in
theorem gX6_hole_X6_isStitch : GoodIn wsX6_hole (wsV RX6 45 RX6 yX6_isStitch wsX6_isStitch) := goodIn_app (goodIn_of _ (by decide +kernel)) ggX6_hole_X6_isStitch
set_option maxRecDepth 20000 in
theorem ggX6_hole_X6_patternOf : GoodIn wsX6_hole wsX6_patternOf := goodIn_r _ [13, 1, 14, 15, 16, 17, 18, 19, 20, 21, 22, 23, 24, 25, 26, 27, 28] (by decide +kernel) (by decide +kernel)
set_option maxRecDepth 20000 in
theorem gX6_hole_X6_patternOf : GoodIn wsX6_hole (wsV RX6 118 RX6 yX6_patternOf wsX6_patternOf) := goodIn_app (goodIn_of _ (by decide +kernel)) ggX6_hole_X6_patternOf
theorem dX6_hole_0 : decode cX6_hole 0 = .ok (.aload_n 0, 1) := by decide +kernel
theorem dX6_hole_1 : decode cX6_hole 1 = .ok (.iload_n 1, 1) := by decide +kernel
theorem dX6_hole_2 : decode cX6_hole 2 = .ok (.invokevirtual 45, 3) := by decide +kernel
theorem dX6_hole_5 : decode cX6_hole 5 = .ok (.ifCond .ne 5, 3) := by decide +kernel
theorem dX6_hole_8 : decode cX6_hole 8 = .ok (.iconst (-1), 1) := by decide +kernel
theorem dX6_hole_9 : decode cX6_hole 9 = .ok (.ireturn, 1) := by decide +kernel
theorem dX6_hole_10 : decode cX6_hole 10 = .ok (.aload_n 0, 1) := by decide +kernel
theorem dX6_hole_11 : decode cX6_hole 11 = .ok (.getfield 7, 3) := by decide +kernel
theorem dX6_hole_14 : decode cX6_hole 14 = .ok (.bipush 72, 2) := by decide +kernel
theorem dX6_hole_16 : decode cX6_hole 16 = .ok (.iload_n 1, 1) := by decide +kernel
theorem dX6_hole_17 : decode cX6_hole 17 = .ok (.iadd, 1) := by decide +kernel
theorem dX6_hole_18 : decode cX6_hole 18 = .ok (.iaload, 1) := by decide +kernel
theorem dX6_hole_19 : decode cX6_hole 19 = .ok (.ifCond .ne 6, 3) := by decide +kernel
theorem dX6_hole_22 : decode cX6_hole 22 = .ok (.bipush (-3), 2) := by decide +kernel
theorem dX6_hole_24 : decode cX6_hole 24 = .ok (.ireturn, 1) := by decide +kernel
theorem dX6_hole_25 : decode cX6_hole 25 = .ok (.aload_n 0, 1) := by decide +kernel
theorem dX6_hole_26 : decode cX6_hole 26 = .ok (.invokevirtual 118, 3) := by decide +kernel
theorem dX6_hole_29 : decode cX6_hole 29 = .ok (.istore_n 2, 1) := by decide +kernel
theorem dX6_hole_30 : decode cX6_hole 30 = .ok (.iconst 0, 1) := by decide +kernel
theorem dX6_hole_31 : decode cX6_hole 31 = .ok (.istore_n 3, 1) := by decide +kernel
theorem dX6_hole_32 : decode cX6_hole 32 = .ok (.iload_n 1, 1) := by decide +kernel
theorem dX6_hole_33 : decode cX6_hole 33 = .ok (.iload_n 2, 1) := by decide +kernel
theorem dX6_hole_34 : decode cX6_hole 34 = .ok (.irem, 1) := by decide +kernel
theorem dX6_hole_35 : decode cX6_hole 35 = .ok (.istore 4, 2) := by decide +kernel
theorem dX6_hole_37 : decode cX6_hole 37 = .ok (.iload 4, 2) := by decide +kernel
theorem dX6_hole_39 : decode cX6_hole 39 = .ok (.aload_n 0, 1) := by decide +kernel
theorem dX6_hole_40 : decode cX6_hole 40 = .ok (.getfield 7, 3) := by decide +kernel
theorem dX6_hole_43 : decode cX6_hole 43 = .ok (.bipush 96, 2) := by decide +kernel
theorem dX6_hole_45 : decode cX6_hole 45 = .ok (.iaload, 1) := by decide +kernel
theorem dX6_hole_46 : decode cX6_hole 46 = .ok (.if_icmp .ge 41, 3) := by decide +kernel
theorem dX6_hole_49 : decode cX6_hole 49 = .ok (.iload_n 3, 1) := by decide +kernel
theorem dX6_hole_50 : decode cX6_hole 50 = .ok (.aload_n 0, 1) := by decide +kernel
theorem dX6_hole_51 : decode cX6_hole 51 = .ok (.getfield 7, 3) := by decide +kernel
theorem dX6_hole_54 : decode cX6_hole 54 = .ok (.bipush 72, 2) := by decide +kernel
theorem dX6_hole_56 : decode cX6_hole 56 = .ok (.iload 4, 2) := by decide +kernel
theorem dX6_hole_58 : decode cX6_hole 58 = .ok (.iadd, 1) := by decide +kernel
theorem dX6_hole_59 : decode cX6_hole 59 = .ok (.iaload, 1) := by decide +kernel
theorem dX6_hole_60 : decode cX6_hole 60 = .ok (.ifCond .ne 15, 3) := by decide +kernel
theorem dX6_hole_63 : decode cX6_hole 63 = .ok (.iconst 1, 1) := by decide +kernel
theorem dX6_hole_64 : decode cX6_hole 64 = .ok (.aload_n 0, 1) := by decide +kernel
theorem dX6_hole_65 : decode cX6_hole 65 = .ok (.getfield 7, 3) := by decide +kernel
theorem dX6_hole_68 : decode cX6_hole 68 = .ok (.iload 4, 2) := by decide +kernel
theorem dX6_hole_70 : decode cX6_hole 70 = .ok (.iaload, 1) := by decide +kernel
theorem dX6_hole_71 : decode cX6_hole 71 = .ok (.ishl, 1) := by decide +kernel
theorem dX6_hole_72 : decode cX6_hole 72 = .ok (.goto 4, 3) := by decide +kernel
theorem dX6_hole_75 : decode cX6_hole 75 = .ok (.iconst 0, 1) := by decide +kernel
theorem dX6_hole_76 : decode cX6_hole 76 = .ok (.ior, 1) := by decide +kernel
theorem dX6_hole_77 : decode cX6_hole 77 = .ok (.istore_n 3, 1) := by decide +kernel
theorem dX6_hole_78 : decode cX6_hole 78 = .ok (.iload 4, 2) := by decide +kernel
theorem dX6_hole_80 : decode cX6_hole 80 = .ok (.iload_n 2, 1) := by decide +kernel
theorem dX6_hole_81 : decode cX6_hole 81 = .ok (.iadd, 1) := by decide +kernel
theorem dX6_hole_82 : decode cX6_hole 82 = .ok (.istore 4, 2) := by decide +kernel
theorem dX6_hole_84 : decode cX6_hole 84 = .ok (.goto (-47), 3) := by decide +kernel
theorem dX6_hole_87 : decode cX6_hole 87 = .ok (.iload_n 3, 1) := by decide +kernel
theorem dX6_hole_88 : decode cX6_hole 88 = .ok (.ifCond .ne 8, 3) := by decide +kernel
theorem dX6_hole_91 : decode cX6_hole 91 = .ok (.bipush 15, 2) := by decide +kernel
theorem dX6_hole_93 : decode cX6_hole 93 = .ok (.goto 4, 3) := by decide +kernel
theorem dX6_hole_96 : decode cX6_hole 96 = .ok (.iload_n 3, 1) := by decide +kernel
theorem dX6_hole_97 : decode cX6_hole 97 = .ok (.ireturn, 1) := by decide +kernel
set_option maxRecDepth 20000 in
theorem ggX6_rip_X6_in : GoodIn wsX6_rip wsX6_in := goodIn_r _ [8] (by decide +kernel) (by decide +kernel)
set_option maxRecDepth 20000 in
theorem gX6_rip_X6_in : GoodIn wsX6_rip (va_wsS RX6 41 yX6_in wsX6_in) := goodIn_app (goodIn_of _ (by decide +kernel)) ggX6_rip_X6_in
theorem dX6_rip_0 : decode cX6_rip 0 = .ok (.iload_n 1, 1) := by decide +kernel
theorem dX6_rip_1 : decode cX6_rip 1 = .ok (.iconst 0, 1) := by decide +kernel
theorem dX6_rip_2 : decode cX6_rip 2 = .ok (.iconst 1, 1) := by decide +kernel
theorem dX6_rip_3 : decode cX6_rip 3 = .ok (.invokestatic 41, 3) := by decide +kernel
theorem dX6_rip_6 : decode cX6_rip 6 = .ok (.ifCond .ne 6, 3) := by decide +kernel
theorem dX6_rip_9 : decode cX6_rip 9 = .ok (.bipush (-2), 2) := by decide +kernel
theorem dX6_rip_11 : decode cX6_rip 11 = .ok (.ireturn, 1) := by decide +kernel
theorem dX6_rip_12 : decode cX6_rip 12 = .ok (.aload_n 0, 1) := by decide +kernel
theorem dX6_rip_13 : decode cX6_rip 13 = .ok (.getfield 31, 3) := by decide +kernel
theorem dX6_rip_16 : decode cX6_rip 16 = .ok (.iload_n 1, 1) := by decide +kernel
theorem dX6_rip_17 : decode cX6_rip 17 = .ok (.baload, 1) := by decide +kernel
theorem dX6_rip_18 : decode cX6_rip 18 = .ok (.ifCond .ne 6, 3) := by decide +kernel
theorem dX6_rip_21 : decode cX6_rip 21 = .ok (.bipush (-3), 2) := by decide +kernel
theorem dX6_rip_23 : decode cX6_rip 23 = .ok (.ireturn, 1) := by decide +kernel
theorem dX6_rip_24 : decode cX6_rip 24 = .ok (.aload_n 0, 1) := by decide +kernel
theorem dX6_rip_25 : decode cX6_rip 25 = .ok (.getfield 28, 3) := by decide +kernel
theorem dX6_rip_28 : decode cX6_rip 28 = .ok (.sipush 150, 3) := by decide +kernel
theorem dX6_rip_31 : decode cX6_rip 31 = .ok (.iload_n 1, 1) := by decide +kernel
theorem dX6_rip_32 : decode cX6_rip 32 = .ok (.imul, 1) := by decide +kernel
theorem dX6_rip_33 : decode cX6_rip 33 = .ok (.bipush 96, 2) := by decide +kernel
theorem dX6_rip_35 : decode cX6_rip 35 = .ok (.iadd, 1) := by decide +kernel
theorem dX6_rip_36 : decode cX6_rip 36 = .ok (.iaload, 1) := by decide +kernel
theorem dX6_rip_37 : decode cX6_rip 37 = .ok (.istore_n 2, 1) := by decide +kernel
theorem dX6_rip_38 : decode cX6_rip 38 = .ok (.iconst 0, 1) := by decide +kernel
theorem dX6_rip_39 : decode cX6_rip 39 = .ok (.istore_n 3, 1) := by decide +kernel
theorem dX6_rip_40 : decode cX6_rip 40 = .ok (.iload_n 3, 1) := by decide +kernel
theorem dX6_rip_41 : decode cX6_rip 41 = .ok (.aload_n 0, 1) := by decide +kernel
theorem dX6_rip_42 : decode cX6_rip 42 = .ok (.getfield 7, 3) := by decide +kernel
theorem dX6_rip_45 : decode cX6_rip 45 = .ok (.bipush 96, 2) := by decide +kernel
theorem dX6_rip_47 : decode cX6_rip 47 = .ok (.iaload, 1) := by decide +kernel
theorem dX6_rip_48 : decode cX6_rip 48 = .ok (.if_icmp .gt 164, 3) := by decide +kernel
theorem dX6_rip_51 : decode cX6_rip 51 = .ok (.iconst 0, 1) := by decide +kernel
theorem dX6_rip_52 : decode cX6_rip 52 = .ok (.istore 4, 2) := by decide +kernel
theorem dX6_rip_54 : decode cX6_rip 54 = .ok (.iload 4, 2) := by decide +kernel
theorem dX6_rip_56 : decode cX6_rip 56 = .ok (.iload_n 2, 1) := by decide +kernel
theorem dX6_rip_57 : decode cX6_rip 57 = .ok (.if_icmp .gt 149, 3) := by decide +kernel
theorem dX6_rip_60 : decode cX6_rip 60 = .ok (.iconst 0, 1) := by decide +kernel
theorem dX6_rip_61 : decode cX6_rip 61 = .ok (.istore 5, 2) := by decide +kernel
theorem dX6_rip_63 : decode cX6_rip 63 = .ok (.iload_n 3, 1) := by decide +kernel
theorem dX6_rip_64 : decode cX6_rip 64 = .ok (.ifCond .le 122, 3) := by decide +kernel
theorem dX6_rip_67 : decode cX6_rip 67 = .ok (.iload 4, 2) := by decide +kernel
theorem dX6_rip_69 : decode cX6_rip 69 = .ok (.ifCond .le 117, 3) := by decide +kernel
theorem dX6_rip_72 : decode cX6_rip 72 = .ok (.aload_n 0, 1) := by decide +kernel
theorem dX6_rip_73 : decode cX6_rip 73 = .ok (.getfield 35, 3) := by decide +kernel
theorem dX6_rip_76 : decode cX6_rip 76 = .ok (.bipush 25, 2) := by decide +kernel
theorem dX6_rip_78 : decode cX6_rip 78 = .ok (.iload_n 3, 1) := by decide +kernel
theorem dX6_rip_79 : decode cX6_rip 79 = .ok (.iconst 1, 1) := by decide +kernel
theorem dX6_rip_80 : decode cX6_rip 80 = .ok (.isub, 1) := by decide +kernel
theorem dX6_rip_81 : decode cX6_rip 81 = .ok (.imul, 1) := by decide +kernel
theorem dX6_rip_82 : decode cX6_rip 82 = .ok (.iload 4, 2) := by decide +kernel
theorem dX6_rip_84 : decode cX6_rip 84 = .ok (.iadd, 1) := by decide +kernel
theorem dX6_rip_85 : decode cX6_rip 85 = .ok (.iaload, 1) := by decide +kernel
theorem dX6_rip_86 : decode cX6_rip 86 = .ok (.istore 6, 2) := by decide +kernel
theorem dX6_rip_88 : decode cX6_rip 88 = .ok (.aload_n 0, 1) := by decide +kernel
theorem dX6_rip_89 : decode cX6_rip 89 = .ok (.getfield 35, 3) := by decide +kernel
theorem dX6_rip_92 : decode cX6_rip 92 = .ok (.bipush 25, 2) := by decide +kernel
theorem dX6_rip_94 : decode cX6_rip 94 = .ok (.iload_n 3, 1) := by decide +kernel
theorem dX6_rip_95 : decode cX6_rip 95 = .ok (.imul, 1) := by decide +kernel
theorem dX6_rip_96 : decode cX6_rip 96 = .ok (.iload 4, 2) := by decide +kernel
theorem dX6_rip_98 : decode cX6_rip 98 = .ok (.iadd, 1) := by decide +kernel
theorem dX6_rip_99 : decode cX6_rip 99 = .ok (.iconst 1, 1) := by decide +kernel
theorem dX6_rip_100 : decode cX6_rip 100 = .ok (.isub, 1) := by decide +kernel
theorem dX6_rip_101 : decode cX6_rip 101 = .ok (.iaload, 1) := by decide +kernel
theorem dX6_rip_102 : decode cX6_rip 102 = .ok (.istore 7, 2) := by decide +kernel
theorem dX6_rip_104 : decode cX6_rip 104 = .ok (.aload_n 0, 1) := by decide +kernel
theorem dX6_rip_105 : decode cX6_rip 105 = .ok (.getfield 35, 3) := by decide +kernel
theorem dX6_rip_108 : decode cX6_rip 108 = .ok (.bipush 25, 2) := by decide +kernel
theorem dX6_rip_110 : decode cX6_rip 110 = .ok (.iload_n 3, 1) := by decide +kernel
theorem dX6_rip_111 : decode cX6_rip 111 = .ok (.iconst 1, 1) := by decide +kernel
theorem dX6_rip_112 : decode cX6_rip 112 = .ok (.isub, 1) := by decide +kernel
theorem dX6_rip_113 : decode cX6_rip 113 = .ok (.imul, 1) := by decide +kernel
theorem dX6_rip_114 : decode cX6_rip 114 = .ok (.iload 4, 2) := by decide +kernel
theorem dX6_rip_116 : decode cX6_rip 116 = .ok (.iadd, 1) := by decide +kernel
theorem dX6_rip_117 : decode cX6_rip 117 = .ok (.iconst 1, 1) := by decide +kernel
theorem dX6_rip_118 : decode cX6_rip 118 = .ok (.isub, 1) := by decide +kernel
theorem dX6_rip_119 : decode cX6_rip 119 = .ok (.iaload, 1) := by decide +kernel
theorem dX6_rip_120 : decode cX6_rip 120 = .ok (.aload_n 0, 1) := by decide +kernel
theorem dX6_rip_121 : decode cX6_rip 121 = .ok (.getfield 7, 3) := by decide +kernel
theorem dX6_rip_124 : decode cX6_rip 124 = .ok (.iload_n 3, 1) := by decide +kernel
theorem dX6_rip_125 : decode cX6_rip 125 = .ok (.iconst 1, 1) := by decide +kernel
theorem dX6_rip_126 : decode cX6_rip 126 = .ok (.isub, 1) := by decide +kernel
theorem dX6_rip_127 : decode cX6_rip 127 = .ok (.iaload, 1) := by decide +kernel
theorem dX6_rip_128 : decode cX6_rip 128 = .ok (.aload_n 0, 1) := by decide +kernel
theorem dX6_rip_129 : decode cX6_rip 129 = .ok (.getfield 28, 3) := by decide +kernel
theorem dX6_rip_132 : decode cX6_rip 132 = .ok (.sipush 150, 3) := by decide +kernel
theorem dX6_rip_135 : decode cX6_rip 135 = .ok (.iload_n 1, 1) := by decide +kernel
theorem dX6_rip_136 : decode cX6_rip 136 = .ok (.imul, 1) := by decide +kernel
theorem dX6_rip_137 : decode cX6_rip 137 = .ok (.iload 4, 2) := by decide +kernel
theorem dX6_rip_139 : decode cX6_rip 139 = .ok (.iadd, 1) := by decide +kernel
theorem dX6_rip_140 : decode cX6_rip 140 = .ok (.iconst 1, 1) := by decide +kernel
theorem dX6_rip_141 : decode cX6_rip 141 = .ok (.isub, 1) := by decide +kernel
theorem dX6_rip_142 : decode cX6_rip 142 = .ok (.iaload, 1) := by decide +kernel
theorem dX6_rip_143 : decode cX6_rip 143 = .ok (.if_icmp .ne 7, 3) := by decide +kernel
theorem dX6_rip_146 : decode cX6_rip 146 = .ok (.iconst 1, 1) := by decide +kernel
theorem dX6_rip_147 : decode cX6_rip 147 = .ok (.goto 4, 3) := by decide +kernel
theorem dX6_rip_150 : decode cX6_rip 150 = .ok (.iconst 0, 1) := by decide +kernel
theorem dX6_rip_151 : decode cX6_rip 151 = .ok (.iadd, 1) := by decide +kernel
theorem dX6_rip_152 : decode cX6_rip 152 = .ok (.istore 8, 2) := by decide +kernel
theorem dX6_rip_154 : decode cX6_rip 154 = .ok (.iload 6, 2) := by decide +kernel
theorem dX6_rip_156 : decode cX6_rip 156 = .ok (.iload 7, 2) := by decide +kernel
theorem dX6_rip_158 : decode cX6_rip 158 = .ok (.if_icmp .le 8, 3) := by decide +kernel
theorem dX6_rip_161 : decode cX6_rip 161 = .ok (.iload 6, 2) := by decide +kernel
theorem dX6_rip_163 : decode cX6_rip 163 = .ok (.goto 5, 3) := by decide +kernel
theorem dX6_rip_166 : decode cX6_rip 166 = .ok (.iload 7, 2) := by decide +kernel
theorem dX6_rip_168 : decode cX6_rip 168 = .ok (.istore 5, 2) := by decide +kernel
theorem dX6_rip_170 : decode cX6_rip 170 = .ok (.iload 8, 2) := by decide +kernel
theorem dX6_rip_172 : decode cX6_rip 172 = .ok (.iload 5, 2) := by decide +kernel
theorem dX6_rip_174 : decode cX6_rip 174 = .ok (.if_icmp .le 8, 3) := by decide +kernel
theorem dX6_rip_177 : decode cX6_rip 177 = .ok (.iload 8, 2) := by decide +kernel
theorem dX6_rip_179 : decode cX6_rip 179 = .ok (.goto 5, 3) := by decide +kernel
theorem dX6_rip_182 : decode cX6_rip 182 = .ok (.iload 5, 2) := by decide +kernel
theorem dX6_rip_184 : decode cX6_rip 184 = .ok (.istore 5, 2) := by decide +kernel
theorem dX6_rip_186 : decode cX6_rip 186 = .ok (.aload_n 0, 1) := by decide +kernel
theorem dX6_rip_187 : decode cX6_rip 187 = .ok (.getfield 35, 3) := by decide +kernel
theorem dX6_rip_190 : decode cX6_rip 190 = .ok (.bipush 25, 2) := by decide +kernel
theorem dX6_rip_192 : decode cX6_rip 192 = .ok (.iload_n 3, 1) := by decide +kernel
theorem dX6_rip_193 : decode cX6_rip 193 = .ok (.imul, 1) := by decide +kernel
theorem dX6_rip_194 : decode cX6_rip 194 = .ok (.iload 4, 2) := by decide +kernel
theorem dX6_rip_196 : decode cX6_rip 196 = .ok (.iadd, 1) := by decide +kernel
theorem dX6_rip_197 : decode cX6_rip 197 = .ok (.iload 5, 2) := by decide +kernel
theorem dX6_rip_199 : decode cX6_rip 199 = .ok (.iastore, 1) := by decide +kernel
theorem dX6_rip_200 : decode cX6_rip 200 = .ok (.iinc 4 1, 3) := by decide +kernel
theorem dX6_rip_203 : decode cX6_rip 203 = .ok (.goto (-149), 3) := by decide +kernel
theorem dX6_rip_206 : decode cX6_rip 206 = .ok (.iinc 3 1, 3) := by decide +kernel
theorem dX6_rip_209 : decode cX6_rip 209 = .ok (.goto (-169), 3) := by decide +kernel
theorem dX6_rip_212 : decode cX6_rip 212 = .ok (.aload_n 0, 1) := by decide +kernel
theorem dX6_rip_213 : decode cX6_rip 213 = .ok (.getfield 7, 3) := by decide +kernel
theorem dX6_rip_216 : decode cX6_rip 216 = .ok (.bipush 96, 2) := by decide +kernel
theorem dX6_rip_218 : decode cX6_rip 218 = .ok (.iaload, 1) := by decide +kernel
theorem dX6_rip_219 : decode cX6_rip 219 = .ok (.iload_n 2, 1) := by decide +kernel
theorem dX6_rip_220 : decode cX6_rip 220 = .ok (.iadd, 1) := by decide +kernel
theorem dX6_rip_221 : decode cX6_rip 221 = .ok (.iconst 2, 1) := by decide +kernel
theorem dX6_rip_222 : decode cX6_rip 222 = .ok (.aload_n 0, 1) := by decide +kernel
theorem dX6_rip_223 : decode cX6_rip 223 = .ok (.getfield 35, 3) := by decide +kernel
theorem dX6_rip_226 : decode cX6_rip 226 = .ok (.bipush 25, 2) := by decide +kernel
theorem dX6_rip_228 : decode cX6_rip 228 = .ok (.aload_n 0, 1) := by decide +kernel
theorem dX6_rip_229 : decode cX6_rip 229 = .ok (.getfield 7, 3) := by decide +kernel
theorem dX6_rip_232 : decode cX6_rip 232 = .ok (.bipush 96, 2) := by decide +kernel
theorem dX6_rip_234 : decode cX6_rip 234 = .ok (.iaload, 1) := by decide +kernel
theorem dX6_rip_235 : decode cX6_rip 235 = .ok (.imul, 1) := by decide +kernel
theorem dX6_rip_236 : decode cX6_rip 236 = .ok (.iload_n 2, 1) := by decide +kernel
theorem dX6_rip_237 : decode cX6_rip 237 = .ok (.iadd, 1) := by decide +kernel
theorem dX6_rip_238 : decode cX6_rip 238 = .ok (.iaload, 1) := by decide +kernel
theorem dX6_rip_239 : decode cX6_rip 239 = .ok (.imul, 1) := by decide +kernel
theorem dX6_rip_240 : decode cX6_rip 240 = .ok (.isub, 1) := by decide +kernel
theorem dX6_rip_241 : decode cX6_rip 241 = .ok (.ireturn, 1) := by decide +kernel
theorem dX6_stretches_0 : decode cX6_stretches 0 = .ok (.iconst 0, 1) := by decide +kernel
theorem dX6_stretches_1 : decode cX6_stretches 1 = .ok (.istore_n 3, 1) := by decide +kernel
theorem dX6_stretches_2 : decode cX6_stretches 2 = .ok (.iconst 0, 1) := by decide +kernel
theorem dX6_stretches_3 : decode cX6_stretches 3 = .ok (.istore 4, 2) := by decide +kernel
theorem dX6_stretches_5 : decode cX6_stretches 5 = .ok (.iconst 0, 1) := by decide +kernel
theorem dX6_stretches_6 : decode cX6_stretches 6 = .ok (.istore 5, 2) := by decide +kernel
theorem dX6_stretches_8 : decode cX6_stretches 8 = .ok (.iload_n 1, 1) := by decide +kernel
theorem dX6_stretches_9 : decode cX6_stretches 9 = .ok (.istore 6, 2) := by decide +kernel
theorem dX6_stretches_11 : decode cX6_stretches 11 = .ok (.iload 6, 2) := by decide +kernel
theorem dX6_stretches_13 : decode cX6_stretches 13 = .ok (.aload_n 0, 1) := by decide +kernel
theorem dX6_stretches_14 : decode cX6_stretches 14 = .ok (.getfield 7, 3) := by decide +kernel
theorem dX6_stretches_17 : decode cX6_stretches 17 = .ok (.bipush 96, 2) := by decide +kernel
theorem dX6_stretches_19 : decode cX6_stretches 19 = .ok (.iaload, 1) := by decide +kernel
theorem dX6_stretches_20 : decode cX6_stretches 20 = .ok (.if_icmp .ge 60, 3) := by decide +kernel
theorem dX6_stretches_23 : decode cX6_stretches 23 = .ok (.aload_n 0, 1) := by decide +kernel
theorem dX6_stretches_24 : decode cX6_stretches 24 = .ok (.getfield 7, 3) := by decide +kernel
theorem dX6_stretches_27 : decode cX6_stretches 27 = .ok (.bipush 24, 2) := by decide +kernel
theorem dX6_stretches_29 : decode cX6_stretches 29 = .ok (.iload 6, 2) := by decide +kernel
theorem dX6_stretches_31 : decode cX6_stretches 31 = .ok (.iadd, 1) := by decide +kernel
theorem dX6_stretches_32 : decode cX6_stretches 32 = .ok (.iaload, 1) := by decide +kernel
theorem dX6_stretches_33 : decode cX6_stretches 33 = .ok (.istore 7, 2) := by decide +kernel
theorem dX6_stretches_35 : decode cX6_stretches 35 = .ok (.iload 7, 2) := by decide +kernel
theorem dX6_stretches_37 : decode cX6_stretches 37 = .ok (.iload_n 2, 1) := by decide +kernel
theorem dX6_stretches_38 : decode cX6_stretches 38 = .ok (.if_icmp .le 6, 3) := by decide +kernel
theorem dX6_stretches_41 : decode cX6_stretches 41 = .ok (.ldc 121, 2) := by decide +kernel
theorem dX6_stretches_43 : decode cX6_stretches 43 = .ok (.ireturn, 1) := by decide +kernel
theorem dX6_stretches_44 : decode cX6_stretches 44 = .ok (.iload 5, 2) := by decide +kernel
theorem dX6_stretches_46 : decode cX6_stretches 46 = .ok (.ifCond .eq 12, 3) := by decide +kernel
theorem dX6_stretches_49 : decode cX6_stretches 49 = .ok (.iload 4, 2) := by decide +kernel
theorem dX6_stretches_51 : decode cX6_stretches 51 = .ok (.iload 7, 2) := by decide +kernel
theorem dX6_stretches_53 : decode cX6_stretches 53 = .ok (.iadd, 1) := by decide +kernel
theorem dX6_stretches_54 : decode cX6_stretches 54 = .ok (.iload_n 2, 1) := by decide +kernel
theorem dX6_stretches_55 : decode cX6_stretches 55 = .ok (.if_icmp .le 12, 3) := by decide +kernel
theorem dX6_stretches_58 : decode cX6_stretches 58 = .ok (.iinc 3 1, 3) := by decide +kernel
theorem dX6_stretches_61 : decode cX6_stretches 61 = .ok (.iconst 0, 1) := by decide +kernel
theorem dX6_stretches_62 : decode cX6_stretches 62 = .ok (.istore 4, 2) := by decide +kernel
theorem dX6_stretches_64 : decode cX6_stretches 64 = .ok (.iconst 1, 1) := by decide +kernel
theorem dX6_stretches_65 : decode cX6_stretches 65 = .ok (.istore 5, 2) := by decide +kernel
theorem dX6_stretches_67 : decode cX6_stretches 67 = .ok (.iload 4, 2) := by decide +kernel
theorem dX6_stretches_69 : decode cX6_stretches 69 = .ok (.iload 7, 2) := by decide +kernel
theorem dX6_stretches_71 : decode cX6_stretches 71 = .ok (.iadd, 1) := by decide +kernel
theorem dX6_stretches_72 : decode cX6_stretches 72 = .ok (.istore 4, 2) := by decide +kernel
theorem dX6_stretches_74 : decode cX6_stretches 74 = .ok (.iinc 6 1, 3) := by decide +kernel
theorem dX6_stretches_77 : decode cX6_stretches 77 = .ok (.goto (-66), 3) := by decide +kernel
theorem dX6_stretches_80 : decode cX6_stretches 80 = .ok (.iload_n 3, 1) := by decide +kernel
theorem dX6_stretches_81 : decode cX6_stretches 81 = .ok (.ireturn, 1) := by decide +kernel
set_option maxRecDepth 20000 in
theorem ggX6_hold_X6_in : GoodIn wsX6_hold wsX6_in := goodIn_r _ [4] (by decide +kernel) (by decide +kernel)
set_option maxRecDepth 20000 in
theorem gX6_hold_X6_in : GoodIn wsX6_hold (va_wsS RX6 41 yX6_in wsX6_in) := goodIn_app (goodIn_of _ (by decide +kernel)) ggX6_hold_X6_in
set_option maxRecDepth 20000 in
theorem ggX6_hold_X6_stretches : GoodIn wsX6_hold wsX6_stretches := goodIn_r _ [8, 9, 10, 11, 12, 13, 14, 15, 16, 17, 18, 19, 20, 21, 22, 23, 24, 25] (by decide +kernel) (by decide +kernel)
set_option maxRecDepth 20000 in
theorem gX6_hold_X6_stretches : GoodIn wsX6_hold (wsV RX6 122 RX6 yX6_stretches wsX6_stretches) := goodIn_app (goodIn_of _ (by decide +kernel)) ggX6_hold_X6_stretches
theorem dX6_hold_0 : decode cX6_hold 0 = .ok (.iload_n 1, 1) := by decide +kernel
theorem dX6_hold_1 : decode cX6_hold 1 = .ok (.iconst 1, 1) := by decide +kernel
theorem dX6_hold_2 : decode cX6_hold 2 = .ok (.bipush 9, 2) := by decide +kernel
theorem dX6_hold_4 : decode cX6_hold 4 = .ok (.invokestatic 41, 3) := by decide +kernel
theorem dX6_hold_7 : decode cX6_hold 7 = .ok (.ifCond .eq 12, 3) := by decide +kernel
theorem dX6_hold_10 : decode cX6_hold 10 = .ok (.iload_n 2, 1) := by decide +kernel
theorem dX6_hold_11 : decode cX6_hold 11 = .ok (.iconst 0, 1) := by decide +kernel
theorem dX6_hold_12 : decode cX6_hold 12 = .ok (.iconst 1, 1) := by decide +kernel
theorem dX6_hold_13 : decode cX6_hold 13 = .ok (.invokestatic 41, 3) := by decide +kernel
theorem dX6_hold_16 : decode cX6_hold 16 = .ok (.ifCond .ne 6, 3) := by decide +kernel
theorem dX6_hold_19 : decode cX6_hold 19 = .ok (.bipush (-2), 2) := by decide +kernel
theorem dX6_hold_21 : decode cX6_hold 21 = .ok (.ireturn, 1) := by decide +kernel
theorem dX6_hold_22 : decode cX6_hold 22 = .ok (.iconst 0, 1) := by decide +kernel
theorem dX6_hold_23 : decode cX6_hold 23 = .ok (.istore_n 3, 1) := by decide +kernel
theorem dX6_hold_24 : decode cX6_hold 24 = .ok (.aload_n 0, 1) := by decide +kernel
theorem dX6_hold_25 : decode cX6_hold 25 = .ok (.iconst 0, 1) := by decide +kernel
theorem dX6_hold_26 : decode cX6_hold 26 = .ok (.iload_n 3, 1) := by decide +kernel
theorem dX6_hold_27 : decode cX6_hold 27 = .ok (.invokevirtual 122, 3) := by decide +kernel
theorem dX6_hold_30 : decode cX6_hold 30 = .ok (.iload_n 1, 1) := by decide +kernel
theorem dX6_hold_31 : decode cX6_hold 31 = .ok (.if_icmp .le 9, 3) := by decide +kernel
theorem dX6_hold_34 : decode cX6_hold 34 = .ok (.iinc 3 1, 3) := by decide +kernel
theorem dX6_hold_37 : decode cX6_hold 37 = .ok (.goto (-13), 3) := by decide +kernel
theorem dX6_hold_40 : decode cX6_hold 40 = .ok (.iload_n 2, 1) := by decide +kernel
theorem dX6_hold_41 : decode cX6_hold 41 = .ok (.ifCond .ne 5, 3) := by decide +kernel
theorem dX6_hold_44 : decode cX6_hold 44 = .ok (.iload_n 3, 1) := by decide +kernel
theorem dX6_hold_45 : decode cX6_hold 45 = .ok (.ireturn, 1) := by decide +kernel
theorem dX6_hold_46 : decode cX6_hold 46 = .ok (.iconst 0, 1) := by decide +kernel
theorem dX6_hold_47 : decode cX6_hold 47 = .ok (.istore 4, 2) := by decide +kernel
theorem dX6_hold_49 : decode cX6_hold 49 = .ok (.aload_n 0, 1) := by decide +kernel
theorem dX6_hold_50 : decode cX6_hold 50 = .ok (.iload 4, 2) := by decide +kernel
theorem dX6_hold_52 : decode cX6_hold 52 = .ok (.iload_n 3, 1) := by decide +kernel
theorem dX6_hold_53 : decode cX6_hold 53 = .ok (.invokevirtual 122, 3) := by decide +kernel
theorem dX6_hold_56 : decode cX6_hold 56 = .ok (.iload_n 1, 1) := by decide +kernel
theorem dX6_hold_57 : decode cX6_hold 57 = .ok (.iconst 1, 1) := by decide +kernel
theorem dX6_hold_58 : decode cX6_hold 58 = .ok (.isub, 1) := by decide +kernel
theorem dX6_hold_59 : decode cX6_hold 59 = .ok (.if_icmp .le 9, 3) := by decide +kernel
theorem dX6_hold_62 : decode cX6_hold 62 = .ok (.iinc 4 1, 3) := by decide +kernel
theorem dX6_hold_65 : decode cX6_hold 65 = .ok (.goto (-16), 3) := by decide +kernel
theorem dX6_hold_68 : decode cX6_hold 68 = .ok (.iload 4, 2) := by decide +kernel
theorem dX6_hold_70 : decode cX6_hold 70 = .ok (.ireturn, 1) := by decide +kernel
set_option maxRecDepth 20000 in
theorem ggX6_mayKnit_X6_in : GoodIn wsX6_mayKnit wsX6_in := goodIn_r _ [6] (by decide +kernel) (by decide +kernel)
set_option maxRecDepth 20000 in
theorem gX6_mayKnit_X6_in : GoodIn wsX6_mayKnit (va_wsS RX6 41 yX6_in wsX6_in) := goodIn_app (goodIn_of _ (by decide +kernel)) ggX6_mayKnit_X6_in
theorem dX6_mayKnit_0 : decode cX6_mayKnit 0 = .ok (.aload_n 0, 1) := by decide +kernel
theorem dX6_mayKnit_1 : decode cX6_mayKnit 1 = .ok (.getfield 7, 3) := by decide +kernel
theorem dX6_mayKnit_4 : decode cX6_mayKnit 4 = .ok (.bipush 24, 2) := by decide +kernel
theorem dX6_mayKnit_6 : decode cX6_mayKnit 6 = .ok (.iload_n 2, 1) := by decide +kernel
theorem dX6_mayKnit_7 : decode cX6_mayKnit 7 = .ok (.iadd, 1) := by decide +kernel
theorem dX6_mayKnit_8 : decode cX6_mayKnit 8 = .ok (.iaload, 1) := by decide +kernel
theorem dX6_mayKnit_9 : decode cX6_mayKnit 9 = .ok (.aload_n 0, 1) := by decide +kernel
theorem dX6_mayKnit_10 : decode cX6_mayKnit 10 = .ok (.getfield 16, 3) := by decide +kernel
theorem dX6_mayKnit_13 : decode cX6_mayKnit 13 = .ok (.iload_n 1, 1) := by decide +kernel
theorem dX6_mayKnit_14 : decode cX6_mayKnit 14 = .ok (.iaload, 1) := by decide +kernel
theorem dX6_mayKnit_15 : decode cX6_mayKnit 15 = .ok (.isub, 1) := by decide +kernel
theorem dX6_mayKnit_16 : decode cX6_mayKnit 16 = .ok (.iconst (-1), 1) := by decide +kernel
theorem dX6_mayKnit_17 : decode cX6_mayKnit 17 = .ok (.iconst 1, 1) := by decide +kernel
theorem dX6_mayKnit_18 : decode cX6_mayKnit 18 = .ok (.invokestatic 41, 3) := by decide +kernel
theorem dX6_mayKnit_21 : decode cX6_mayKnit 21 = .ok (.ireturn, 1) := by decide +kernel
set_option maxRecDepth 20000 in
theorem ggX6_layHands_X6_mayKnit : GoodIn wsX6_layHands wsX6_mayKnit := goodIn_r _ [8, 1, 9, 10, 11, 7, 12, 13, 14, 15, 16, 17, 18, 19, 20, 21, 22, 23, 24, 25, 26, 27] (by decide +kernel) (by decide +kernel)
set_option maxRecDepth 20000 in
theorem gX6_layHands_X6_mayKnit : GoodIn wsX6_layHands (wsV RX6 125 RX6 yX6_mayKnit wsX6_mayKnit) := goodIn_app (goodIn_of _ (by decide +kernel)) ggX6_layHands_X6_mayKnit
theorem dX6_layHands_0 : decode cX6_layHands 0 = .ok (.aload_n 0, 1) := by decide +kernel
theorem dX6_layHands_1 : decode cX6_layHands 1 = .ok (.getfield 7, 3) := by decide +kernel
theorem dX6_layHands_4 : decode cX6_layHands 4 = .ok (.bipush 96, 2) := by decide +kernel
theorem dX6_layHands_6 : decode cX6_layHands 6 = .ok (.iaload, 1) := by decide +kernel
theorem dX6_layHands_7 : decode cX6_layHands 7 = .ok (.iconst 1, 1) := by decide +kernel
theorem dX6_layHands_8 : decode cX6_layHands 8 = .ok (.isub, 1) := by decide +kernel
theorem dX6_layHands_9 : decode cX6_layHands 9 = .ok (.istore_n 1, 1) := by decide +kernel
theorem dX6_layHands_10 : decode cX6_layHands 10 = .ok (.iload_n 1, 1) := by decide +kernel
theorem dX6_layHands_11 : decode cX6_layHands 11 = .ok (.ifCond .lt 135, 3) := by decide +kernel
theorem dX6_layHands_14 : decode cX6_layHands 14 = .ok (.iconst 0, 1) := by decide +kernel
theorem dX6_layHands_15 : decode cX6_layHands 15 = .ok (.istore_n 2, 1) := by decide +kernel
theorem dX6_layHands_16 : decode cX6_layHands 16 = .ok (.iload_n 2, 1) := by decide +kernel
theorem dX6_layHands_17 : decode cX6_layHands 17 = .ok (.iconst 4, 1) := by decide +kernel
theorem dX6_layHands_18 : decode cX6_layHands 18 = .ok (.if_icmp .ge 122, 3) := by decide +kernel
theorem dX6_layHands_21 : decode cX6_layHands 21 = .ok (.iload_n 1, 1) := by decide +kernel
theorem dX6_layHands_22 : decode cX6_layHands 22 = .ok (.aload_n 0, 1) := by decide +kernel
theorem dX6_layHands_23 : decode cX6_layHands 23 = .ok (.getfield 7, 3) := by decide +kernel
theorem dX6_layHands_26 : decode cX6_layHands 26 = .ok (.bipush 96, 2) := by decide +kernel
theorem dX6_layHands_28 : decode cX6_layHands 28 = .ok (.iaload, 1) := by decide +kernel
theorem dX6_layHands_29 : decode cX6_layHands 29 = .ok (.iconst 1, 1) := by decide +kernel
theorem dX6_layHands_30 : decode cX6_layHands 30 = .ok (.isub, 1) := by decide +kernel
theorem dX6_layHands_31 : decode cX6_layHands 31 = .ok (.if_icmp .ne 7, 3) := by decide +kernel
theorem dX6_layHands_34 : decode cX6_layHands 34 = .ok (.iconst 0, 1) := by decide +kernel
theorem dX6_layHands_35 : decode cX6_layHands 35 = .ok (.goto 5, 3) := by decide +kernel
theorem dX6_layHands_38 : decode cX6_layHands 38 = .ok (.ldc 121, 2) := by decide +kernel
theorem dX6_layHands_40 : decode cX6_layHands 40 = .ok (.istore_n 3, 1) := by decide +kernel
theorem dX6_layHands_41 : decode cX6_layHands 41 = .ok (.iconst 0, 1) := by decide +kernel
theorem dX6_layHands_42 : decode cX6_layHands 42 = .ok (.istore 4, 2) := by decide +kernel
theorem dX6_layHands_44 : decode cX6_layHands 44 = .ok (.iload 4, 2) := by decide +kernel
theorem dX6_layHands_46 : decode cX6_layHands 46 = .ok (.iconst 4, 1) := by decide +kernel
theorem dX6_layHands_47 : decode cX6_layHands 47 = .ok (.if_icmp .ge 62, 3) := by decide +kernel
theorem dX6_layHands_50 : decode cX6_layHands 50 = .ok (.iload_n 1, 1) := by decide +kernel
theorem dX6_layHands_51 : decode cX6_layHands 51 = .ok (.aload_n 0, 1) := by decide +kernel
theorem dX6_layHands_52 : decode cX6_layHands 52 = .ok (.getfield 7, 3) := by decide +kernel
theorem dX6_layHands_55 : decode cX6_layHands 55 = .ok (.bipush 96, 2) := by decide +kernel
theorem dX6_layHands_57 : decode cX6_layHands 57 = .ok (.iaload, 1) := by decide +kernel
theorem dX6_layHands_58 : decode cX6_layHands 58 = .ok (.iconst 1, 1) := by decide +kernel
theorem dX6_layHands_59 : decode cX6_layHands 59 = .ok (.isub, 1) := by decide +kernel
theorem dX6_layHands_60 : decode cX6_layHands 60 = .ok (.if_icmp .ge 49, 3) := by decide +kernel
theorem dX6_layHands_63 : decode cX6_layHands 63 = .ok (.aload_n 0, 1) := by decide +kernel
theorem dX6_layHands_64 : decode cX6_layHands 64 = .ok (.getfield 38, 3) := by decide +kernel
theorem dX6_layHands_67 : decode cX6_layHands 67 = .ok (.iconst 4, 1) := by decide +kernel
theorem dX6_layHands_68 : decode cX6_layHands 68 = .ok (.iload_n 1, 1) := by decide +kernel
theorem dX6_layHands_69 : decode cX6_layHands 69 = .ok (.imul, 1) := by decide +kernel
theorem dX6_layHands_70 : decode cX6_layHands 70 = .ok (.iconst 4, 1) := by decide +kernel
theorem dX6_layHands_71 : decode cX6_layHands 71 = .ok (.iadd, 1) := by decide +kernel
theorem dX6_layHands_72 : decode cX6_layHands 72 = .ok (.iload 4, 2) := by decide +kernel
theorem dX6_layHands_74 : decode cX6_layHands 74 = .ok (.iadd, 1) := by decide +kernel
theorem dX6_layHands_75 : decode cX6_layHands 75 = .ok (.iaload, 1) := by decide +kernel
theorem dX6_layHands_76 : decode cX6_layHands 76 = .ok (.iload 4, 2) := by decide +kernel
theorem dX6_layHands_78 : decode cX6_layHands 78 = .ok (.iload_n 2, 1) := by decide +kernel
theorem dX6_layHands_79 : decode cX6_layHands 79 = .ok (.if_icmp .ne 7, 3) := by decide +kernel
theorem dX6_layHands_82 : decode cX6_layHands 82 = .ok (.iconst 0, 1) := by decide +kernel
theorem dX6_layHands_83 : decode cX6_layHands 83 = .ok (.goto 4, 3) := by decide +kernel
theorem dX6_layHands_86 : decode cX6_layHands 86 = .ok (.iconst 1, 1) := by decide +kernel
theorem dX6_layHands_87 : decode cX6_layHands 87 = .ok (.iadd, 1) := by decide +kernel
theorem dX6_layHands_88 : decode cX6_layHands 88 = .ok (.istore 5, 2) := by decide +kernel
theorem dX6_layHands_90 : decode cX6_layHands 90 = .ok (.iload 5, 2) := by decide +kernel
theorem dX6_layHands_92 : decode cX6_layHands 92 = .ok (.iload_n 3, 1) := by decide +kernel
theorem dX6_layHands_93 : decode cX6_layHands 93 = .ok (.if_icmp .ge 8, 3) := by decide +kernel
theorem dX6_layHands_96 : decode cX6_layHands 96 = .ok (.iload 5, 2) := by decide +kernel
theorem dX6_layHands_98 : decode cX6_layHands 98 = .ok (.goto 4, 3) := by decide +kernel
theorem dX6_layHands_101 : decode cX6_layHands 101 = .ok (.iload_n 3, 1) := by decide +kernel
theorem dX6_layHands_102 : decode cX6_layHands 102 = .ok (.istore_n 3, 1) := by decide +kernel
theorem dX6_layHands_103 : decode cX6_layHands 103 = .ok (.iinc 4 1, 3) := by decide +kernel
theorem dX6_layHands_106 : decode cX6_layHands 106 = .ok (.goto (-62), 3) := by decide +kernel
theorem dX6_layHands_109 : decode cX6_layHands 109 = .ok (.aload_n 0, 1) := by decide +kernel
theorem dX6_layHands_110 : decode cX6_layHands 110 = .ok (.getfield 38, 3) := by decide +kernel
theorem dX6_layHands_113 : decode cX6_layHands 113 = .ok (.iconst 4, 1) := by decide +kernel
theorem dX6_layHands_114 : decode cX6_layHands 114 = .ok (.iload_n 1, 1) := by decide +kernel
theorem dX6_layHands_115 : decode cX6_layHands 115 = .ok (.imul, 1) := by decide +kernel
theorem dX6_layHands_116 : decode cX6_layHands 116 = .ok (.iload_n 2, 1) := by decide +kernel
theorem dX6_layHands_117 : decode cX6_layHands 117 = .ok (.iadd, 1) := by decide +kernel
theorem dX6_layHands_118 : decode cX6_layHands 118 = .ok (.aload_n 0, 1) := by decide +kernel
theorem dX6_layHands_119 : decode cX6_layHands 119 = .ok (.iload_n 2, 1) := by decide +kernel
theorem dX6_layHands_120 : decode cX6_layHands 120 = .ok (.iload_n 1, 1) := by decide +kernel
theorem dX6_layHands_121 : decode cX6_layHands 121 = .ok (.invokevirtual 125, 3) := by decide +kernel
theorem dX6_layHands_124 : decode cX6_layHands 124 = .ok (.ifCond .eq 7, 3) := by decide +kernel
theorem dX6_layHands_127 : decode cX6_layHands 127 = .ok (.iload_n 3, 1) := by decide +kernel
theorem dX6_layHands_128 : decode cX6_layHands 128 = .ok (.goto 5, 3) := by decide +kernel
theorem dX6_layHands_131 : decode cX6_layHands 131 = .ok (.ldc 121, 2) := by decide +kernel
theorem dX6_layHands_133 : decode cX6_layHands 133 = .ok (.iastore, 1) := by decide +kernel
theorem dX6_layHands_134 : decode cX6_layHands 134 = .ok (.iinc 2 1, 3) := by decide +kernel
theorem dX6_layHands_137 : decode cX6_layHands 137 = .ok (.goto (-121), 3) := by decide +kernel
theorem dX6_layHands_140 : decode cX6_layHands 140 = .ok (.iinc 1 (-1), 3) := by decide +kernel
theorem dX6_layHands_143 : decode cX6_layHands 143 = .ok (.goto (-133), 3) := by decide +kernel
theorem dX6_layHands_146 : decode cX6_layHands 146 = .ok (.return_, 1) := by decide +kernel
theorem dX6_fewest_0 : decode cX6_fewest 0 = .ok (.ldc 121, 2) := by decide +kernel
theorem dX6_fewest_2 : decode cX6_fewest 2 = .ok (.istore_n 2, 1) := by decide +kernel
theorem dX6_fewest_3 : decode cX6_fewest 3 = .ok (.iconst 0, 1) := by decide +kernel
theorem dX6_fewest_4 : decode cX6_fewest 4 = .ok (.istore_n 3, 1) := by decide +kernel
theorem dX6_fewest_5 : decode cX6_fewest 5 = .ok (.iload_n 3, 1) := by decide +kernel
theorem dX6_fewest_6 : decode cX6_fewest 6 = .ok (.iconst 4, 1) := by decide +kernel
theorem dX6_fewest_7 : decode cX6_fewest 7 = .ok (.if_icmp .ge 38, 3) := by decide +kernel
theorem dX6_fewest_10 : decode cX6_fewest 10 = .ok (.aload_n 0, 1) := by decide +kernel
theorem dX6_fewest_11 : decode cX6_fewest 11 = .ok (.getfield 38, 3) := by decide +kernel
theorem dX6_fewest_14 : decode cX6_fewest 14 = .ok (.iconst 4, 1) := by decide +kernel
theorem dX6_fewest_15 : decode cX6_fewest 15 = .ok (.iload_n 1, 1) := by decide +kernel
theorem dX6_fewest_16 : decode cX6_fewest 16 = .ok (.imul, 1) := by decide +kernel
theorem dX6_fewest_17 : decode cX6_fewest 17 = .ok (.iload_n 3, 1) := by decide +kernel
theorem dX6_fewest_18 : decode cX6_fewest 18 = .ok (.iadd, 1) := by decide +kernel
theorem dX6_fewest_19 : decode cX6_fewest 19 = .ok (.iaload, 1) := by decide +kernel
theorem dX6_fewest_20 : decode cX6_fewest 20 = .ok (.iload_n 2, 1) := by decide +kernel
theorem dX6_fewest_21 : decode cX6_fewest 21 = .ok (.if_icmp .ge 16, 3) := by decide +kernel
theorem dX6_fewest_24 : decode cX6_fewest 24 = .ok (.aload_n 0, 1) := by decide +kernel
theorem dX6_fewest_25 : decode cX6_fewest 25 = .ok (.getfield 38, 3) := by decide +kernel
theorem dX6_fewest_28 : decode cX6_fewest 28 = .ok (.iconst 4, 1) := by decide +kernel
theorem dX6_fewest_29 : decode cX6_fewest 29 = .ok (.iload_n 1, 1) := by decide +kernel
theorem dX6_fewest_30 : decode cX6_fewest 30 = .ok (.imul, 1) := by decide +kernel
theorem dX6_fewest_31 : decode cX6_fewest 31 = .ok (.iload_n 3, 1) := by decide +kernel
theorem dX6_fewest_32 : decode cX6_fewest 32 = .ok (.iadd, 1) := by decide +kernel
theorem dX6_fewest_33 : decode cX6_fewest 33 = .ok (.iaload, 1) := by decide +kernel
theorem dX6_fewest_34 : decode cX6_fewest 34 = .ok (.goto 4, 3) := by decide +kernel
theorem dX6_fewest_37 : decode cX6_fewest 37 = .ok (.iload_n 2, 1) := by decide +kernel
theorem dX6_fewest_38 : decode cX6_fewest 38 = .ok (.istore_n 2, 1) := by decide +kernel
theorem dX6_fewest_39 : decode cX6_fewest 39 = .ok (.iinc 3 1, 3) := by decide +kernel
theorem dX6_fewest_42 : decode cX6_fewest 42 = .ok (.goto (-37), 3) := by decide +kernel
theorem dX6_fewest_45 : decode cX6_fewest 45 = .ok (.iload_n 2, 1) := by decide +kernel
theorem dX6_fewest_46 : decode cX6_fewest 46 = .ok (.ireturn, 1) := by decide +kernel
set_option maxRecDepth 20000 in
theorem ggX6_hands_X6_layHands : GoodIn wsX6_hands wsX6_layHands := goodIn_r _ [7, 1, 2, 8, 9, 10, 11, 6, 12, 13, 14, 15, 16, 21, 22, 23, 24, 25, 26, 27, 28, 29, 30, 31, 32, 33, 34, 35] (by decide +kernel) (by decide +kernel)
set_option maxRecDepth 20000 in
theorem gX6_hands_X6_layHands : GoodIn wsX6_hands (wsV RX6 128 RX6 yX6_layHands wsX6_layHands) := goodIn_app (goodIn_of _ (by decide +kernel)) ggX6_hands_X6_layHands
set_option maxRecDepth 20000 in
theorem ggX6_hands_X6_fewest : GoodIn wsX6_hands wsX6_fewest := goodIn_r _ [20, 2, 8, 21, 22, 23, 24, 25, 26, 27, 28, 29, 30, 31, 32, 33, 34, 35] (by decide +kernel) (by decide +kernel)
set_option maxRecDepth 20000 in
theorem gX6_hands_X6_fewest : GoodIn wsX6_hands (wsV RX6 131 RX6 yX6_fewest wsX6_fewest) := goodIn_app (goodIn_of _ (by decide +kernel)) ggX6_hands_X6_fewest
theorem dX6_hands_0 : decode cX6_hands 0 = .ok (.aload_n 0, 1) := by decide +kernel
theorem dX6_hands_1 : decode cX6_hands 1 = .ok (.getfield 7, 3) := by decide +kernel
theorem dX6_hands_4 : decode cX6_hands 4 = .ok (.bipush 96, 2) := by decide +kernel
theorem dX6_hands_6 : decode cX6_hands 6 = .ok (.iaload, 1) := by decide +kernel
theorem dX6_hands_7 : decode cX6_hands 7 = .ok (.ifCond .ne 5, 3) := by decide +kernel
theorem dX6_hands_10 : decode cX6_hands 10 = .ok (.iconst 0, 1) := by decide +kernel
theorem dX6_hands_11 : decode cX6_hands 11 = .ok (.ireturn, 1) := by decide +kernel
theorem dX6_hands_12 : decode cX6_hands 12 = .ok (.aload_n 0, 1) := by decide +kernel
theorem dX6_hands_13 : decode cX6_hands 13 = .ok (.invokevirtual 128, 3) := by decide +kernel
theorem dX6_hands_16 : decode cX6_hands 16 = .ok (.aload_n 0, 1) := by decide +kernel
theorem dX6_hands_17 : decode cX6_hands 17 = .ok (.iconst 0, 1) := by decide +kernel
theorem dX6_hands_18 : decode cX6_hands 18 = .ok (.invokevirtual 131, 3) := by decide +kernel
theorem dX6_hands_21 : decode cX6_hands 21 = .ok (.ldc 121, 2) := by decide +kernel
theorem dX6_hands_23 : decode cX6_hands 23 = .ok (.if_icmp .ge 11, 3) := by decide +kernel
theorem dX6_hands_26 : decode cX6_hands 26 = .ok (.aload_n 0, 1) := by decide +kernel
theorem dX6_hands_27 : decode cX6_hands 27 = .ok (.iconst 0, 1) := by decide +kernel
theorem dX6_hands_28 : decode cX6_hands 28 = .ok (.invokevirtual 131, 3) := by decide +kernel
theorem dX6_hands_31 : decode cX6_hands 31 = .ok (.goto 5, 3) := by decide +kernel
theorem dX6_hands_34 : decode cX6_hands 34 = .ok (.bipush (-6), 2) := by decide +kernel
theorem dX6_hands_36 : decode cX6_hands 36 = .ok (.ireturn, 1) := by decide +kernel
set_option maxRecDepth 20000 in
theorem ggX6_who_X6_isStitch : GoodIn wsX6_who wsX6_isStitch := goodIn_r _ [7, 8, 9, 10, 6, 11, 25, 26, 27, 28, 29, 30, 31, 32, 33, 34, 35, 36, 37, 38, 39] (by decide +kernel) (by decide +kernel)
set_option maxRecDepth 20000 in
theorem gX6_who_X6_isStitch : GoodIn wsX6_who (wsV RX6 45 RX6 yX6_isStitch wsX6_isStitch) := goodIn_app (goodIn_of _ (by decide +kernel)) ggX6_who_X6_isStitch
set_option maxRecDepth 20000 in
theorem ggX6_who_X6_layHands : GoodIn wsX6_who wsX6_layHands := goodIn_r _ [15, 8, 1, 2, 16, 17, 18, 6, 19, 20, 9, 10, 11, 25, 26, 27, 28, 29, 30, 31, 32, 33, 34, 35, 36, 37, 38, 39] (by decide +kernel) (by decide +kernel)
set_option maxRecDepth 20000 in
theorem gX6_who_X6_layHands : GoodIn wsX6_who (wsV RX6 128 RX6 yX6_layHands wsX6_layHands) := goodIn_app (goodIn_of _ (by decide +kernel)) ggX6_who_X6_layHands
set_option maxRecDepth 20000 in
theorem ggX6_who_X6_fewest : GoodIn wsX6_who wsX6_fewest := goodIn_r _ [24, 1, 2, 25, 26, 27, 28, 29, 30, 31, 32, 33, 34, 35, 36, 37, 38, 39] (by decide +kernel) (by decide +kernel)
set_option maxRecDepth 20000 in
theorem gX6_who_X6_fewest : GoodIn wsX6_who (wsV RX6 131 RX6 yX6_fewest wsX6_fewest) := goodIn_app (goodIn_of _ (by decide +kernel)) ggX6_who_X6_fewest
theorem dX6_who_0 : decode cX6_who 0 = .ok (.aload_n 0, 1) := by decide +kernel
theorem dX6_who_1 : decode cX6_who 1 = .ok (.iload_n 1, 1) := by decide +kernel
theorem dX6_who_2 : decode cX6_who 2 = .ok (.invokevirtual 45, 3) := by decide +kernel
theorem dX6_who_5 : decode cX6_who 5 = .ok (.ifCond .ne 5, 3) := by decide +kernel
theorem dX6_who_8 : decode cX6_who 8 = .ok (.iconst (-1), 1) := by decide +kernel
theorem dX6_who_9 : decode cX6_who 9 = .ok (.ireturn, 1) := by decide +kernel
theorem dX6_who_10 : decode cX6_who 10 = .ok (.aload_n 0, 1) := by decide +kernel
theorem dX6_who_11 : decode cX6_who 11 = .ok (.invokevirtual 128, 3) := by decide +kernel
theorem dX6_who_14 : decode cX6_who 14 = .ok (.aload_n 0, 1) := by decide +kernel
theorem dX6_who_15 : decode cX6_who 15 = .ok (.iconst 0, 1) := by decide +kernel
theorem dX6_who_16 : decode cX6_who 16 = .ok (.invokevirtual 131, 3) := by decide +kernel
theorem dX6_who_19 : decode cX6_who 19 = .ok (.ldc 121, 2) := by decide +kernel
theorem dX6_who_21 : decode cX6_who 21 = .ok (.if_icmp .lt 6, 3) := by decide +kernel
theorem dX6_who_24 : decode cX6_who 24 = .ok (.bipush (-6), 2) := by decide +kernel
theorem dX6_who_26 : decode cX6_who 26 = .ok (.ireturn, 1) := by decide +kernel
theorem dX6_who_27 : decode cX6_who 27 = .ok (.aload_n 0, 1) := by decide +kernel
theorem dX6_who_28 : decode cX6_who 28 = .ok (.iconst 0, 1) := by decide +kernel
theorem dX6_who_29 : decode cX6_who 29 = .ok (.invokevirtual 131, 3) := by decide +kernel
theorem dX6_who_32 : decode cX6_who 32 = .ok (.istore_n 2, 1) := by decide +kernel
theorem dX6_who_33 : decode cX6_who 33 = .ok (.bipush (-6), 2) := by decide +kernel
theorem dX6_who_35 : decode cX6_who 35 = .ok (.istore_n 3, 1) := by decide +kernel
theorem dX6_who_36 : decode cX6_who 36 = .ok (.iconst 0, 1) := by decide +kernel
theorem dX6_who_37 : decode cX6_who 37 = .ok (.istore 4, 2) := by decide +kernel
theorem dX6_who_39 : decode cX6_who 39 = .ok (.iload 4, 2) := by decide +kernel
theorem dX6_who_41 : decode cX6_who 41 = .ok (.iload_n 1, 1) := by decide +kernel
theorem dX6_who_42 : decode cX6_who 42 = .ok (.if_icmp .gt 93, 3) := by decide +kernel
theorem dX6_who_45 : decode cX6_who 45 = .ok (.bipush (-6), 2) := by decide +kernel
theorem dX6_who_47 : decode cX6_who 47 = .ok (.istore 5, 2) := by decide +kernel
theorem dX6_who_49 : decode cX6_who 49 = .ok (.iconst 3, 1) := by decide +kernel
theorem dX6_who_50 : decode cX6_who 50 = .ok (.istore 6, 2) := by decide +kernel
theorem dX6_who_52 : decode cX6_who 52 = .ok (.iload 6, 2) := by decide +kernel
theorem dX6_who_54 : decode cX6_who 54 = .ok (.ifCond .lt 54, 3) := by decide +kernel
theorem dX6_who_57 : decode cX6_who 57 = .ok (.iload_n 3, 1) := by decide +kernel
theorem dX6_who_58 : decode cX6_who 58 = .ok (.ifCond .lt 13, 3) := by decide +kernel
theorem dX6_who_61 : decode cX6_who 61 = .ok (.iload_n 3, 1) := by decide +kernel
theorem dX6_who_62 : decode cX6_who 62 = .ok (.iload 6, 2) := by decide +kernel
theorem dX6_who_64 : decode cX6_who 64 = .ok (.if_icmp .eq 7, 3) := by decide +kernel
theorem dX6_who_67 : decode cX6_who 67 = .ok (.iconst 1, 1) := by decide +kernel
theorem dX6_who_68 : decode cX6_who 68 = .ok (.goto 4, 3) := by decide +kernel
theorem dX6_who_71 : decode cX6_who 71 = .ok (.iconst 0, 1) := by decide +kernel
theorem dX6_who_72 : decode cX6_who 72 = .ok (.istore 7, 2) := by decide +kernel
theorem dX6_who_74 : decode cX6_who 74 = .ok (.aload_n 0, 1) := by decide +kernel
theorem dX6_who_75 : decode cX6_who 75 = .ok (.getfield 38, 3) := by decide +kernel
theorem dX6_who_78 : decode cX6_who 78 = .ok (.iconst 4, 1) := by decide +kernel
theorem dX6_who_79 : decode cX6_who 79 = .ok (.iload 4, 2) := by decide +kernel
theorem dX6_who_81 : decode cX6_who 81 = .ok (.imul, 1) := by decide +kernel
theorem dX6_who_82 : decode cX6_who 82 = .ok (.iload 6, 2) := by decide +kernel
theorem dX6_who_84 : decode cX6_who 84 = .ok (.iadd, 1) := by decide +kernel
theorem dX6_who_85 : decode cX6_who 85 = .ok (.iaload, 1) := by decide +kernel
theorem dX6_who_86 : decode cX6_who 86 = .ok (.iload 7, 2) := by decide +kernel
theorem dX6_who_88 : decode cX6_who 88 = .ok (.iadd, 1) := by decide +kernel
theorem dX6_who_89 : decode cX6_who 89 = .ok (.iload_n 2, 1) := by decide +kernel
theorem dX6_who_90 : decode cX6_who 90 = .ok (.if_icmp .ne 8, 3) := by decide +kernel
theorem dX6_who_93 : decode cX6_who 93 = .ok (.iload 6, 2) := by decide +kernel
theorem dX6_who_95 : decode cX6_who 95 = .ok (.goto 5, 3) := by decide +kernel
theorem dX6_who_98 : decode cX6_who 98 = .ok (.iload 5, 2) := by decide +kernel
theorem dX6_who_100 : decode cX6_who 100 = .ok (.istore 5, 2) := by decide +kernel
theorem dX6_who_102 : decode cX6_who 102 = .ok (.iinc 6 (-1), 3) := by decide +kernel
theorem dX6_who_105 : decode cX6_who 105 = .ok (.goto (-53), 3) := by decide +kernel
theorem dX6_who_108 : decode cX6_who 108 = .ok (.iload_n 2, 1) := by decide +kernel
theorem dX6_who_109 : decode cX6_who 109 = .ok (.iload_n 3, 1) := by decide +kernel
theorem dX6_who_110 : decode cX6_who 110 = .ok (.ifCond .lt 13, 3) := by decide +kernel
theorem dX6_who_113 : decode cX6_who 113 = .ok (.iload_n 3, 1) := by decide +kernel
theorem dX6_who_114 : decode cX6_who 114 = .ok (.iload 5, 2) := by decide +kernel
theorem dX6_who_116 : decode cX6_who 116 = .ok (.if_icmp .eq 7, 3) := by decide +kernel
theorem dX6_who_119 : decode cX6_who 119 = .ok (.iconst 1, 1) := by decide +kernel
theorem dX6_who_120 : decode cX6_who 120 = .ok (.goto 4, 3) := by decide +kernel
theorem dX6_who_123 : decode cX6_who 123 = .ok (.iconst 0, 1) := by decide +kernel
theorem dX6_who_124 : decode cX6_who 124 = .ok (.isub, 1) := by decide +kernel
theorem dX6_who_125 : decode cX6_who 125 = .ok (.istore_n 2, 1) := by decide +kernel
theorem dX6_who_126 : decode cX6_who 126 = .ok (.iload 5, 2) := by decide +kernel
theorem dX6_who_128 : decode cX6_who 128 = .ok (.istore_n 3, 1) := by decide +kernel
theorem dX6_who_129 : decode cX6_who 129 = .ok (.iinc 4 1, 3) := by decide +kernel
theorem dX6_who_132 : decode cX6_who 132 = .ok (.goto (-93), 3) := by decide +kernel
theorem dX6_who_135 : decode cX6_who 135 = .ok (.iload_n 3, 1) := by decide +kernel
theorem dX6_who_136 : decode cX6_who 136 = .ok (.ireturn, 1) := by decide +kernel
set_option maxRecDepth 20000 in
theorem ggX6_seen_X6_in : GoodIn wsX6_seen wsX6_in := goodIn_r _ [6] (by decide +kernel) (by decide +kernel)
set_option maxRecDepth 20000 in
theorem gX6_seen_X6_in : GoodIn wsX6_seen (va_wsS RX6 41 yX6_in wsX6_in) := goodIn_app (goodIn_of _ (by decide +kernel)) ggX6_seen_X6_in
theorem dX6_seen_0 : decode cX6_seen 0 = .ok (.iload_n 1, 1) := by decide +kernel
theorem dX6_seen_1 : decode cX6_seen 1 = .ok (.iconst 0, 1) := by decide +kernel
theorem dX6_seen_2 : decode cX6_seen 2 = .ok (.bipush 9, 2) := by decide +kernel
theorem dX6_seen_4 : decode cX6_seen 4 = .ok (.invokestatic 41, 3) := by decide +kernel
theorem dX6_seen_7 : decode cX6_seen 7 = .ok (.ifCond .ne 6, 3) := by decide +kernel
theorem dX6_seen_10 : decode cX6_seen 10 = .ok (.bipush (-2), 2) := by decide +kernel
theorem dX6_seen_12 : decode cX6_seen 12 = .ok (.ireturn, 1) := by decide +kernel
theorem dX6_seen_13 : decode cX6_seen 13 = .ok (.aload_n 0, 1) := by decide +kernel
theorem dX6_seen_14 : decode cX6_seen 14 = .ok (.getfield 134, 3) := by decide +kernel
theorem dX6_seen_17 : decode cX6_seen 17 = .ok (.bipush 8, 2) := by decide +kernel
theorem dX6_seen_19 : decode cX6_seen 19 = .ok (.if_icmp .ne 6, 3) := by decide +kernel
theorem dX6_seen_22 : decode cX6_seen 22 = .ok (.bipush (-4), 2) := by decide +kernel
theorem dX6_seen_24 : decode cX6_seen 24 = .ok (.ireturn, 1) := by decide +kernel
theorem dX6_seen_25 : decode cX6_seen 25 = .ok (.aload_n 0, 1) := by decide +kernel
theorem dX6_seen_26 : decode cX6_seen 26 = .ok (.getfield 19, 3) := by decide +kernel
theorem dX6_seen_29 : decode cX6_seen 29 = .ok (.iconst 2, 1) := by decide +kernel
theorem dX6_seen_30 : decode cX6_seen 30 = .ok (.aload_n 0, 1) := by decide +kernel
theorem dX6_seen_31 : decode cX6_seen 31 = .ok (.getfield 134, 3) := by decide +kernel
theorem dX6_seen_34 : decode cX6_seen 34 = .ok (.imul, 1) := by decide +kernel
theorem dX6_seen_35 : decode cX6_seen 35 = .ok (.iload_n 1, 1) := by decide +kernel
theorem dX6_seen_36 : decode cX6_seen 36 = .ok (.iastore, 1) := by decide +kernel
theorem dX6_seen_37 : decode cX6_seen 37 = .ok (.aload_n 0, 1) := by decide +kernel
theorem dX6_seen_38 : decode cX6_seen 38 = .ok (.getfield 19, 3) := by decide +kernel
theorem dX6_seen_41 : decode cX6_seen 41 = .ok (.iconst 2, 1) := by decide +kernel
theorem dX6_seen_42 : decode cX6_seen 42 = .ok (.aload_n 0, 1) := by decide +kernel
theorem dX6_seen_43 : decode cX6_seen 43 = .ok (.getfield 134, 3) := by decide +kernel
theorem dX6_seen_46 : decode cX6_seen 46 = .ok (.imul, 1) := by decide +kernel
theorem dX6_seen_47 : decode cX6_seen 47 = .ok (.iconst 1, 1) := by decide +kernel
theorem dX6_seen_48 : decode cX6_seen 48 = .ok (.iadd, 1) := by decide +kernel
theorem dX6_seen_49 : decode cX6_seen 49 = .ok (.iload_n 2, 1) := by decide +kernel
theorem dX6_seen_50 : decode cX6_seen 50 = .ok (.ifCond .eq 7, 3) := by decide +kernel
theorem dX6_seen_53 : decode cX6_seen 53 = .ok (.iconst 1, 1) := by decide +kernel
theorem dX6_seen_54 : decode cX6_seen 54 = .ok (.goto 4, 3) := by decide +kernel
theorem dX6_seen_57 : decode cX6_seen 57 = .ok (.iconst 0, 1) := by decide +kernel
theorem dX6_seen_58 : decode cX6_seen 58 = .ok (.iastore, 1) := by decide +kernel
theorem dX6_seen_59 : decode cX6_seen 59 = .ok (.aload_n 0, 1) := by decide +kernel
theorem dX6_seen_60 : decode cX6_seen 60 = .ok (.dup, 1) := by decide +kernel
theorem dX6_seen_61 : decode cX6_seen 61 = .ok (.getfield 134, 3) := by decide +kernel
theorem dX6_seen_64 : decode cX6_seen 64 = .ok (.iconst 1, 1) := by decide +kernel
theorem dX6_seen_65 : decode cX6_seen 65 = .ok (.iadd, 1) := by decide +kernel
theorem dX6_seen_66 : decode cX6_seen 66 = .ok (.putfield 134, 3) := by decide +kernel
theorem dX6_seen_69 : decode cX6_seen 69 = .ok (.aload_n 0, 1) := by decide +kernel
theorem dX6_seen_70 : decode cX6_seen 70 = .ok (.getfield 134, 3) := by decide +kernel
theorem dX6_seen_73 : decode cX6_seen 73 = .ok (.ireturn, 1) := by decide +kernel
theorem dX6_forget_0 : decode cX6_forget 0 = .ok (.aload_n 0, 1) := by decide +kernel
theorem dX6_forget_1 : decode cX6_forget 1 = .ok (.getfield 134, 3) := by decide +kernel
theorem dX6_forget_4 : decode cX6_forget 4 = .ok (.istore_n 1, 1) := by decide +kernel
theorem dX6_forget_5 : decode cX6_forget 5 = .ok (.aload_n 0, 1) := by decide +kernel
theorem dX6_forget_6 : decode cX6_forget 6 = .ok (.iconst 0, 1) := by decide +kernel
theorem dX6_forget_7 : decode cX6_forget 7 = .ok (.putfield 134, 3) := by decide +kernel
theorem dX6_forget_10 : decode cX6_forget 10 = .ok (.iload_n 1, 1) := by decide +kernel
theorem dX6_forget_11 : decode cX6_forget 11 = .ok (.ireturn, 1) := by decide +kernel
set_option maxRecDepth 20000 in
theorem ggX6_tightSet_X6_in : GoodIn wsX6_tightSet wsX6_in := goodIn_r _ [6] (by decide +kernel) (by decide +kernel)
set_option maxRecDepth 20000 in
theorem gX6_tightSet_X6_in : GoodIn wsX6_tightSet (va_wsS RX6 41 yX6_in wsX6_in) := goodIn_app (goodIn_of _ (by decide +kernel)) ggX6_tightSet_X6_in
theorem dX6_tightSet_0 : decode cX6_tightSet 0 = .ok (.iconst 0, 1) := by decide +kernel
theorem dX6_tightSet_1 : decode cX6_tightSet 1 = .ok (.istore_n 1, 1) := by decide +kernel
theorem dX6_tightSet_2 : decode cX6_tightSet 2 = .ok (.iconst 0, 1) := by decide +kernel
theorem dX6_tightSet_3 : decode cX6_tightSet 3 = .ok (.istore_n 2, 1) := by decide +kernel
theorem dX6_tightSet_4 : decode cX6_tightSet 4 = .ok (.iload_n 2, 1) := by decide +kernel
theorem dX6_tightSet_5 : decode cX6_tightSet 5 = .ok (.bipush 10, 2) := by decide +kernel
theorem dX6_tightSet_7 : decode cX6_tightSet 7 = .ok (.if_icmp .ge 92, 3) := by decide +kernel
theorem dX6_tightSet_10 : decode cX6_tightSet 10 = .ok (.iconst 1, 1) := by decide +kernel
theorem dX6_tightSet_11 : decode cX6_tightSet 11 = .ok (.istore_n 3, 1) := by decide +kernel
theorem dX6_tightSet_12 : decode cX6_tightSet 12 = .ok (.iconst 0, 1) := by decide +kernel
theorem dX6_tightSet_13 : decode cX6_tightSet 13 = .ok (.istore 4, 2) := by decide +kernel
theorem dX6_tightSet_15 : decode cX6_tightSet 15 = .ok (.iload 4, 2) := by decide +kernel
theorem dX6_tightSet_17 : decode cX6_tightSet 17 = .ok (.aload_n 0, 1) := by decide +kernel
theorem dX6_tightSet_18 : decode cX6_tightSet 18 = .ok (.getfield 134, 3) := by decide +kernel
theorem dX6_tightSet_21 : decode cX6_tightSet 21 = .ok (.if_icmp .ge 58, 3) := by decide +kernel
theorem dX6_tightSet_24 : decode cX6_tightSet 24 = .ok (.iload_n 3, 1) := by decide +kernel
theorem dX6_tightSet_25 : decode cX6_tightSet 25 = .ok (.ifCond .eq 46, 3) := by decide +kernel
theorem dX6_tightSet_28 : decode cX6_tightSet 28 = .ok (.iload_n 2, 1) := by decide +kernel
theorem dX6_tightSet_29 : decode cX6_tightSet 29 = .ok (.aload_n 0, 1) := by decide +kernel
theorem dX6_tightSet_30 : decode cX6_tightSet 30 = .ok (.getfield 19, 3) := by decide +kernel
theorem dX6_tightSet_33 : decode cX6_tightSet 33 = .ok (.iconst 2, 1) := by decide +kernel
theorem dX6_tightSet_34 : decode cX6_tightSet 34 = .ok (.iload 4, 2) := by decide +kernel
theorem dX6_tightSet_36 : decode cX6_tightSet 36 = .ok (.imul, 1) := by decide +kernel
theorem dX6_tightSet_37 : decode cX6_tightSet 37 = .ok (.iaload, 1) := by decide +kernel
theorem dX6_tightSet_38 : decode cX6_tightSet 38 = .ok (.isub, 1) := by decide +kernel
theorem dX6_tightSet_39 : decode cX6_tightSet 39 = .ok (.iconst (-1), 1) := by decide +kernel
theorem dX6_tightSet_40 : decode cX6_tightSet 40 = .ok (.iconst 1, 1) := by decide +kernel
theorem dX6_tightSet_41 : decode cX6_tightSet 41 = .ok (.invokestatic 41, 3) := by decide +kernel
theorem dX6_tightSet_44 : decode cX6_tightSet 44 = .ok (.aload_n 0, 1) := by decide +kernel
theorem dX6_tightSet_45 : decode cX6_tightSet 45 = .ok (.getfield 19, 3) := by decide +kernel
theorem dX6_tightSet_48 : decode cX6_tightSet 48 = .ok (.iconst 2, 1) := by decide +kernel
theorem dX6_tightSet_49 : decode cX6_tightSet 49 = .ok (.iload 4, 2) := by decide +kernel
theorem dX6_tightSet_51 : decode cX6_tightSet 51 = .ok (.imul, 1) := by decide +kernel
theorem dX6_tightSet_52 : decode cX6_tightSet 52 = .ok (.iconst 1, 1) := by decide +kernel
theorem dX6_tightSet_53 : decode cX6_tightSet 53 = .ok (.iadd, 1) := by decide +kernel
theorem dX6_tightSet_54 : decode cX6_tightSet 54 = .ok (.iaload, 1) := by decide +kernel
theorem dX6_tightSet_55 : decode cX6_tightSet 55 = .ok (.iconst 1, 1) := by decide +kernel
theorem dX6_tightSet_56 : decode cX6_tightSet 56 = .ok (.if_icmp .ne 7, 3) := by decide +kernel
theorem dX6_tightSet_59 : decode cX6_tightSet 59 = .ok (.iconst 1, 1) := by decide +kernel
theorem dX6_tightSet_60 : decode cX6_tightSet 60 = .ok (.goto 4, 3) := by decide +kernel
theorem dX6_tightSet_63 : decode cX6_tightSet 63 = .ok (.iconst 0, 1) := by decide +kernel
theorem dX6_tightSet_64 : decode cX6_tightSet 64 = .ok (.if_icmp .ne 7, 3) := by decide +kernel
theorem dX6_tightSet_67 : decode cX6_tightSet 67 = .ok (.iconst 1, 1) := by decide +kernel
theorem dX6_tightSet_68 : decode cX6_tightSet 68 = .ok (.goto 4, 3) := by decide +kernel
theorem dX6_tightSet_71 : decode cX6_tightSet 71 = .ok (.iconst 0, 1) := by decide +kernel
theorem dX6_tightSet_72 : decode cX6_tightSet 72 = .ok (.istore_n 3, 1) := by decide +kernel
theorem dX6_tightSet_73 : decode cX6_tightSet 73 = .ok (.iinc 4 1, 3) := by decide +kernel
theorem dX6_tightSet_76 : decode cX6_tightSet 76 = .ok (.goto (-61), 3) := by decide +kernel
theorem dX6_tightSet_79 : decode cX6_tightSet 79 = .ok (.iload_n 1, 1) := by decide +kernel
theorem dX6_tightSet_80 : decode cX6_tightSet 80 = .ok (.iload_n 3, 1) := by decide +kernel
theorem dX6_tightSet_81 : decode cX6_tightSet 81 = .ok (.ifCond .eq 9, 3) := by decide +kernel
theorem dX6_tightSet_84 : decode cX6_tightSet 84 = .ok (.iconst 1, 1) := by decide +kernel
theorem dX6_tightSet_85 : decode cX6_tightSet 85 = .ok (.iload_n 2, 1) := by decide +kernel
theorem dX6_tightSet_86 : decode cX6_tightSet 86 = .ok (.ishl, 1) := by decide +kernel
theorem dX6_tightSet_87 : decode cX6_tightSet 87 = .ok (.goto 4, 3) := by decide +kernel
theorem dX6_tightSet_90 : decode cX6_tightSet 90 = .ok (.iconst 0, 1) := by decide +kernel
theorem dX6_tightSet_91 : decode cX6_tightSet 91 = .ok (.ior, 1) := by decide +kernel
theorem dX6_tightSet_92 : decode cX6_tightSet 92 = .ok (.istore_n 1, 1) := by decide +kernel
theorem dX6_tightSet_93 : decode cX6_tightSet 93 = .ok (.iinc 2 1, 3) := by decide +kernel
theorem dX6_tightSet_96 : decode cX6_tightSet 96 = .ok (.goto (-92), 3) := by decide +kernel
theorem dX6_tightSet_99 : decode cX6_tightSet 99 = .ok (.iload_n 1, 1) := by decide +kernel
theorem dX6_tightSet_100 : decode cX6_tightSet 100 = .ok (.ireturn, 1) := by decide +kernel
set_option maxRecDepth 20000 in
theorem ggX6_tights_X6_tightSet : GoodIn wsX6_tights wsX6_tightSet := goodIn_r _ [5, 6, 7, 8, 9, 4, 10, 11, 12, 13, 14, 15, 16, 17, 18, 19, 20, 21, 22, 23, 24, 25] (by decide +kernel) (by decide +kernel)
set_option maxRecDepth 20000 in
theorem gX6_tights_X6_tightSet : GoodIn wsX6_tights (wsV RX6 137 RX6 yX6_tightSet wsX6_tightSet) := goodIn_app (goodIn_of _ (by decide +kernel)) ggX6_tights_X6_tightSet
theorem dX6_tights_0 : decode cX6_tights 0 = .ok (.aload_n 0, 1) := by decide +kernel
theorem dX6_tights_1 : decode cX6_tights 1 = .ok (.invokevirtual 137, 3) := by decide +kernel
theorem dX6_tights_4 : decode cX6_tights 4 = .ok (.ireturn, 1) := by decide +kernel
set_option maxRecDepth 20000 in
theorem ggX6_next_X6_in : GoodIn wsX6_next wsX6_in := goodIn_r _ [5] (by decide +kernel) (by decide +kernel)
set_option maxRecDepth 20000 in
theorem gX6_next_X6_in : GoodIn wsX6_next (va_wsS RX6 41 yX6_in wsX6_in) := goodIn_app (goodIn_of _ (by decide +kernel)) ggX6_next_X6_in
set_option maxRecDepth 20000 in
theorem ggX6_next_X6_tightSet : GoodIn wsX6_next wsX6_tightSet := goodIn_r _ [9, 10, 11, 2, 3, 4, 5, 18, 19, 20, 21, 22, 23, 24, 25, 26, 27, 28, 29, 30, 31, 32] (by decide +kernel) (by decide +kernel)
set_option maxRecDepth 20000 in
theorem gX6_next_X6_tightSet : GoodIn wsX6_next (wsV RX6 137 RX6 yX6_tightSet wsX6_tightSet) := goodIn_app (goodIn_of _ (by decide +kernel)) ggX6_next_X6_tightSet
set_option maxRecDepth 20000 in
theorem ggX6_next_X6_has : GoodIn wsX6_next wsX6_has := goodIn_r _ [14] (by decide +kernel) (by decide +kernel)
set_option maxRecDepth 20000 in
theorem gX6_next_X6_has : GoodIn wsX6_next (va_wsS RX6 69 yX6_has wsX6_has) := goodIn_app (goodIn_of _ (by decide +kernel)) ggX6_next_X6_has
set_option maxRecDepth 20000 in
theorem ggX6_next_X6_bits : GoodIn wsX6_next wsX6_bits := goodIn_r _ [17] (by decide +kernel) (by decide +kernel)
set_option maxRecDepth 20000 in
theorem gX6_next_X6_bits : GoodIn wsX6_next (va_wsS RX6 81 yX6_bits wsX6_bits) := goodIn_app (goodIn_of _ (by decide +kernel)) ggX6_next_X6_bits
theorem dX6_next_0 : decode cX6_next 0 = .ok (.iload_n 1, 1) := by decide +kernel
theorem dX6_next_1 : decode cX6_next 1 = .ok (.iconst 0, 1) := by decide +kernel
theorem dX6_next_2 : decode cX6_next 2 = .ok (.iconst 1, 1) := by decide +kernel
theorem dX6_next_3 : decode cX6_next 3 = .ok (.invokestatic 41, 3) := by decide +kernel
theorem dX6_next_6 : decode cX6_next 6 = .ok (.ifCond .ne 6, 3) := by decide +kernel
theorem dX6_next_9 : decode cX6_next 9 = .ok (.bipush (-2), 2) := by decide +kernel
theorem dX6_next_11 : decode cX6_next 11 = .ok (.ireturn, 1) := by decide +kernel
theorem dX6_next_12 : decode cX6_next 12 = .ok (.aload_n 0, 1) := by decide +kernel
theorem dX6_next_13 : decode cX6_next 13 = .ok (.invokevirtual 137, 3) := by decide +kernel
theorem dX6_next_16 : decode cX6_next 16 = .ok (.istore_n 2, 1) := by decide +kernel
theorem dX6_next_17 : decode cX6_next 17 = .ok (.bipush (-6), 2) := by decide +kernel
theorem dX6_next_19 : decode cX6_next 19 = .ok (.istore_n 3, 1) := by decide +kernel
theorem dX6_next_20 : decode cX6_next 20 = .ok (.ldc 121, 2) := by decide +kernel
theorem dX6_next_22 : decode cX6_next 22 = .ok (.istore 4, 2) := by decide +kernel
theorem dX6_next_24 : decode cX6_next 24 = .ok (.iconst 0, 1) := by decide +kernel
theorem dX6_next_25 : decode cX6_next 25 = .ok (.istore 5, 2) := by decide +kernel
theorem dX6_next_27 : decode cX6_next 27 = .ok (.iload 5, 2) := by decide +kernel
theorem dX6_next_29 : decode cX6_next 29 = .ok (.bipush 10, 2) := by decide +kernel
theorem dX6_next_31 : decode cX6_next 31 = .ok (.if_icmp .ge 120, 3) := by decide +kernel
theorem dX6_next_34 : decode cX6_next 34 = .ok (.iload_n 2, 1) := by decide +kernel
theorem dX6_next_35 : decode cX6_next 35 = .ok (.ifCond .eq 116, 3) := by decide +kernel
theorem dX6_next_38 : decode cX6_next 38 = .ok (.iconst 0, 1) := by decide +kernel
theorem dX6_next_39 : decode cX6_next 39 = .ok (.istore 6, 2) := by decide +kernel
theorem dX6_next_41 : decode cX6_next 41 = .ok (.iconst 0, 1) := by decide +kernel
theorem dX6_next_42 : decode cX6_next 42 = .ok (.istore 7, 2) := by decide +kernel
theorem dX6_next_44 : decode cX6_next 44 = .ok (.iload 7, 2) := by decide +kernel
theorem dX6_next_46 : decode cX6_next 46 = .ok (.bipush 10, 2) := by decide +kernel
theorem dX6_next_48 : decode cX6_next 48 = .ok (.if_icmp .ge 41, 3) := by decide +kernel
theorem dX6_next_51 : decode cX6_next 51 = .ok (.iload 6, 2) := by decide +kernel
theorem dX6_next_53 : decode cX6_next 53 = .ok (.iload_n 2, 1) := by decide +kernel
theorem dX6_next_54 : decode cX6_next 54 = .ok (.iload 7, 2) := by decide +kernel
theorem dX6_next_56 : decode cX6_next 56 = .ok (.invokestatic 69, 3) := by decide +kernel
theorem dX6_next_59 : decode cX6_next 59 = .ok (.ifCond .eq 20, 3) := by decide +kernel
theorem dX6_next_62 : decode cX6_next 62 = .ok (.iload 7, 2) := by decide +kernel
theorem dX6_next_64 : decode cX6_next 64 = .ok (.iload 5, 2) := by decide +kernel
theorem dX6_next_66 : decode cX6_next 66 = .ok (.isub, 1) := by decide +kernel
theorem dX6_next_67 : decode cX6_next 67 = .ok (.iconst (-1), 1) := by decide +kernel
theorem dX6_next_68 : decode cX6_next 68 = .ok (.iconst 1, 1) := by decide +kernel
theorem dX6_next_69 : decode cX6_next 69 = .ok (.invokestatic 41, 3) := by decide +kernel
theorem dX6_next_72 : decode cX6_next 72 = .ok (.ifCond .eq 7, 3) := by decide +kernel
theorem dX6_next_75 : decode cX6_next 75 = .ok (.iconst 1, 1) := by decide +kernel
theorem dX6_next_76 : decode cX6_next 76 = .ok (.goto 4, 3) := by decide +kernel
theorem dX6_next_79 : decode cX6_next 79 = .ok (.iconst 0, 1) := by decide +kernel
theorem dX6_next_80 : decode cX6_next 80 = .ok (.iadd, 1) := by decide +kernel
theorem dX6_next_81 : decode cX6_next 81 = .ok (.istore 6, 2) := by decide +kernel
theorem dX6_next_83 : decode cX6_next 83 = .ok (.iinc 7 1, 3) := by decide +kernel
theorem dX6_next_86 : decode cX6_next 86 = .ok (.goto (-42), 3) := by decide +kernel
theorem dX6_next_89 : decode cX6_next 89 = .ok (.iload 6, 2) := by decide +kernel
theorem dX6_next_91 : decode cX6_next 91 = .ok (.iload_n 2, 1) := by decide +kernel
theorem dX6_next_92 : decode cX6_next 92 = .ok (.invokestatic 81, 3) := by decide +kernel
theorem dX6_next_95 : decode cX6_next 95 = .ok (.iload 6, 2) := by decide +kernel
theorem dX6_next_97 : decode cX6_next 97 = .ok (.isub, 1) := by decide +kernel
theorem dX6_next_98 : decode cX6_next 98 = .ok (.if_icmp .le 8, 3) := by decide +kernel
theorem dX6_next_101 : decode cX6_next 101 = .ok (.iload 6, 2) := by decide +kernel
theorem dX6_next_103 : decode cX6_next 103 = .ok (.goto 10, 3) := by decide +kernel
theorem dX6_next_106 : decode cX6_next 106 = .ok (.iload_n 2, 1) := by decide +kernel
theorem dX6_next_107 : decode cX6_next 107 = .ok (.invokestatic 81, 3) := by decide +kernel
theorem dX6_next_110 : decode cX6_next 110 = .ok (.iload 6, 2) := by decide +kernel
theorem dX6_next_112 : decode cX6_next 112 = .ok (.isub, 1) := by decide +kernel
theorem dX6_next_113 : decode cX6_next 113 = .ok (.istore 7, 2) := by decide +kernel
theorem dX6_next_115 : decode cX6_next 115 = .ok (.iload 7, 2) := by decide +kernel
theorem dX6_next_117 : decode cX6_next 117 = .ok (.iload 4, 2) := by decide +kernel
theorem dX6_next_119 : decode cX6_next 119 = .ok (.if_icmp .ge 8, 3) := by decide +kernel
theorem dX6_next_122 : decode cX6_next 122 = .ok (.iload 5, 2) := by decide +kernel
theorem dX6_next_124 : decode cX6_next 124 = .ok (.goto 4, 3) := by decide +kernel
theorem dX6_next_127 : decode cX6_next 127 = .ok (.iload_n 3, 1) := by decide +kernel
theorem dX6_next_128 : decode cX6_next 128 = .ok (.istore_n 3, 1) := by decide +kernel
theorem dX6_next_129 : decode cX6_next 129 = .ok (.iload 7, 2) := by decide +kernel
theorem dX6_next_131 : decode cX6_next 131 = .ok (.iload 4, 2) := by decide +kernel
theorem dX6_next_133 : decode cX6_next 133 = .ok (.if_icmp .ge 8, 3) := by decide +kernel
theorem dX6_next_136 : decode cX6_next 136 = .ok (.iload 7, 2) := by decide +kernel
theorem dX6_next_138 : decode cX6_next 138 = .ok (.goto 5, 3) := by decide +kernel
theorem dX6_next_141 : decode cX6_next 141 = .ok (.iload 4, 2) := by decide +kernel
theorem dX6_next_143 : decode cX6_next 143 = .ok (.istore 4, 2) := by decide +kernel
theorem dX6_next_145 : decode cX6_next 145 = .ok (.iinc 5 1, 3) := by decide +kernel
theorem dX6_next_148 : decode cX6_next 148 = .ok (.goto (-121), 3) := by decide +kernel
theorem dX6_next_151 : decode cX6_next 151 = .ok (.iload_n 3, 1) := by decide +kernel
theorem dX6_next_152 : decode cX6_next 152 = .ok (.ifCond .lt 7, 3) := by decide +kernel
theorem dX6_next_155 : decode cX6_next 155 = .ok (.iload_n 1, 1) := by decide +kernel
theorem dX6_next_156 : decode cX6_next 156 = .ok (.ifCond .ne 7, 3) := by decide +kernel
theorem dX6_next_159 : decode cX6_next 159 = .ok (.iload_n 3, 1) := by decide +kernel
theorem dX6_next_160 : decode cX6_next 160 = .ok (.goto 5, 3) := by decide +kernel
theorem dX6_next_163 : decode cX6_next 163 = .ok (.iload 4, 2) := by decide +kernel
theorem dX6_next_165 : decode cX6_next 165 = .ok (.ireturn, 1) := by decide +kernel
theorem dX6_power_0 : decode cX6_power 0 = .ok (.lconst 1, 1) := by decide +kernel
theorem dX6_power_1 : decode cX6_power 1 = .ok (.lstore_n 3, 1) := by decide +kernel
theorem dX6_power_2 : decode cX6_power 2 = .ok (.iconst 0, 1) := by decide +kernel
theorem dX6_power_3 : decode cX6_power 3 = .ok (.istore 5, 2) := by decide +kernel
theorem dX6_power_5 : decode cX6_power 5 = .ok (.iload 5, 2) := by decide +kernel
theorem dX6_power_7 : decode cX6_power 7 = .ok (.iload_n 2, 1) := by decide +kernel
theorem dX6_power_8 : decode cX6_power 8 = .ok (.if_icmp .ge 13, 3) := by decide +kernel
theorem dX6_power_11 : decode cX6_power 11 = .ok (.lload_n 3, 1) := by decide +kernel
theorem dX6_power_12 : decode cX6_power 12 = .ok (.lload_n 0, 1) := by decide +kernel
theorem dX6_power_13 : decode cX6_power 13 = .ok (.lmul, 1) := by decide +kernel
theorem dX6_power_14 : decode cX6_power 14 = .ok (.lstore_n 3, 1) := by decide +kernel
theorem dX6_power_15 : decode cX6_power 15 = .ok (.iinc 5 1, 3) := by decide +kernel
theorem dX6_power_18 : decode cX6_power 18 = .ok (.goto (-13), 3) := by decide +kernel
theorem dX6_power_21 : decode cX6_power 21 = .ok (.lload_n 3, 1) := by decide +kernel
theorem dX6_power_22 : decode cX6_power 22 = .ok (.lreturn, 1) := by decide +kernel
set_option maxRecDepth 20000 in
theorem ggX6_moths_X6_in : GoodIn wsX6_moths wsX6_in := goodIn_r _ [9] (by decide +kernel) (by decide +kernel)
set_option maxRecDepth 20000 in
theorem gX6_moths_X6_in : GoodIn wsX6_moths (va_wsS RX6 41 yX6_in wsX6_in) := goodIn_app (goodIn_of _ (by decide +kernel)) ggX6_moths_X6_in
set_option maxRecDepth 20000 in
theorem ggX6_moths_X6_has : GoodIn wsX6_moths wsX6_has := goodIn_r _ [12] (by decide +kernel) (by decide +kernel)
set_option maxRecDepth 20000 in
theorem gX6_moths_X6_has : GoodIn wsX6_moths (va_wsS RX6 69 yX6_has wsX6_has) := goodIn_app (goodIn_of _ (by decide +kernel)) ggX6_moths_X6_has
set_option maxRecDepth 20000 in
theorem ggX6_moths_X6_bits : GoodIn wsX6_moths wsX6_bits := goodIn_r _ [15] (by decide +kernel) (by decide +kernel)
set_option maxRecDepth 20000 in
theorem gX6_moths_X6_bits : GoodIn wsX6_moths (va_wsS RX6 81 yX6_bits wsX6_bits) := goodIn_app (goodIn_of _ (by decide +kernel)) ggX6_moths_X6_bits
set_option maxRecDepth 20000 in
theorem ggX6_moths_X6_power : GoodIn wsX6_moths wsX6_power := goodIn_r _ [18] (by decide +kernel) (by decide +kernel)
set_option maxRecDepth 20000 in
theorem gX6_moths_X6_power : GoodIn wsX6_moths (va_wsS RX6 148 yX6_power wsX6_power) := goodIn_app (goodIn_of _ (by decide +kernel)) ggX6_moths_X6_power
theorem dX6_moths_0 : decode cX6_moths 0 = .ok (.iload_n 1, 1) := by decide +kernel
theorem dX6_moths_1 : decode cX6_moths 1 = .ok (.iconst 1, 1) := by decide +kernel
theorem dX6_moths_2 : decode cX6_moths 2 = .ok (.aload_n 0, 1) := by decide +kernel
theorem dX6_moths_3 : decode cX6_moths 3 = .ok (.getfield 7, 3) := by decide +kernel
theorem dX6_moths_6 : decode cX6_moths 6 = .ok (.bipush 96, 2) := by decide +kernel
theorem dX6_moths_8 : decode cX6_moths 8 = .ok (.iaload, 1) := by decide +kernel
theorem dX6_moths_9 : decode cX6_moths 9 = .ok (.ishl, 1) := by decide +kernel
theorem dX6_moths_10 : decode cX6_moths 10 = .ok (.iconst 1, 1) := by decide +kernel
theorem dX6_moths_11 : decode cX6_moths 11 = .ok (.isub, 1) := by decide +kernel
theorem dX6_moths_12 : decode cX6_moths 12 = .ok (.iconst (-1), 1) := by decide +kernel
theorem dX6_moths_13 : decode cX6_moths 13 = .ok (.ixor, 1) := by decide +kernel
theorem dX6_moths_14 : decode cX6_moths 14 = .ok (.iand, 1) := by decide +kernel
theorem dX6_moths_15 : decode cX6_moths 15 = .ok (.ifCond .eq 7, 3) := by decide +kernel
theorem dX6_moths_18 : decode cX6_moths 18 = .ok (.ldc2_w 140, 3) := by decide +kernel
theorem dX6_moths_21 : decode cX6_moths 21 = .ok (.lreturn, 1) := by decide +kernel
theorem dX6_moths_22 : decode cX6_moths 22 = .ok (.iload_n 2, 1) := by decide +kernel
theorem dX6_moths_23 : decode cX6_moths 23 = .ok (.iconst 0, 1) := by decide +kernel
theorem dX6_moths_24 : decode cX6_moths 24 = .ok (.bipush 10, 2) := by decide +kernel
theorem dX6_moths_26 : decode cX6_moths 26 = .ok (.invokestatic 41, 3) := by decide +kernel
theorem dX6_moths_29 : decode cX6_moths 29 = .ok (.ifCond .eq 12, 3) := by decide +kernel
theorem dX6_moths_32 : decode cX6_moths 32 = .ok (.iload_n 3, 1) := by decide +kernel
theorem dX6_moths_33 : decode cX6_moths 33 = .ok (.iconst 0, 1) := by decide +kernel
theorem dX6_moths_34 : decode cX6_moths 34 = .ok (.iconst 1, 1) := by decide +kernel
theorem dX6_moths_35 : decode cX6_moths 35 = .ok (.invokestatic 41, 3) := by decide +kernel
theorem dX6_moths_38 : decode cX6_moths 38 = .ok (.ifCond .ne 7, 3) := by decide +kernel
theorem dX6_moths_41 : decode cX6_moths 41 = .ok (.ldc2_w 142, 3) := by decide +kernel
theorem dX6_moths_44 : decode cX6_moths 44 = .ok (.lreturn, 1) := by decide +kernel
theorem dX6_moths_45 : decode cX6_moths 45 = .ok (.iload_n 1, 1) := by decide +kernel
theorem dX6_moths_46 : decode cX6_moths 46 = .ok (.istore 4, 2) := by decide +kernel
theorem dX6_moths_48 : decode cX6_moths 48 = .ok (.iconst 0, 1) := by decide +kernel
theorem dX6_moths_49 : decode cX6_moths 49 = .ok (.istore 5, 2) := by decide +kernel
theorem dX6_moths_51 : decode cX6_moths 51 = .ok (.aload_n 0, 1) := by decide +kernel
theorem dX6_moths_52 : decode cX6_moths 52 = .ok (.getfield 7, 3) := by decide +kernel
theorem dX6_moths_55 : decode cX6_moths 55 = .ok (.bipush 96, 2) := by decide +kernel
theorem dX6_moths_57 : decode cX6_moths 57 = .ok (.iaload, 1) := by decide +kernel
theorem dX6_moths_58 : decode cX6_moths 58 = .ok (.iconst 1, 1) := by decide +kernel
theorem dX6_moths_59 : decode cX6_moths 59 = .ok (.isub, 1) := by decide +kernel
theorem dX6_moths_60 : decode cX6_moths 60 = .ok (.istore 6, 2) := by decide +kernel
theorem dX6_moths_62 : decode cX6_moths 62 = .ok (.iload 6, 2) := by decide +kernel
theorem dX6_moths_64 : decode cX6_moths 64 = .ok (.ifCond .lt 79, 3) := by decide +kernel
theorem dX6_moths_67 : decode cX6_moths 67 = .ok (.iload 4, 2) := by decide +kernel
theorem dX6_moths_69 : decode cX6_moths 69 = .ok (.iload 6, 2) := by decide +kernel
theorem dX6_moths_71 : decode cX6_moths 71 = .ok (.invokestatic 69, 3) := by decide +kernel
theorem dX6_moths_74 : decode cX6_moths 74 = .ok (.ifCond .eq 63, 3) := by decide +kernel
theorem dX6_moths_77 : decode cX6_moths 77 = .ok (.iload 4, 2) := by decide +kernel
theorem dX6_moths_79 : decode cX6_moths 79 = .ok (.aload_n 0, 1) := by decide +kernel
theorem dX6_moths_80 : decode cX6_moths 80 = .ok (.getfield 7, 3) := by decide +kernel
theorem dX6_moths_83 : decode cX6_moths 83 = .ok (.bipush 48, 2) := by decide +kernel
theorem dX6_moths_85 : decode cX6_moths 85 = .ok (.iload 6, 2) := by decide +kernel
theorem dX6_moths_87 : decode cX6_moths 87 = .ok (.iadd, 1) := by decide +kernel
theorem dX6_moths_88 : decode cX6_moths 88 = .ok (.iaload, 1) := by decide +kernel
theorem dX6_moths_89 : decode cX6_moths 89 = .ok (.ifCond .lt 18, 3) := by decide +kernel
theorem dX6_moths_92 : decode cX6_moths 92 = .ok (.iconst 1, 1) := by decide +kernel
theorem dX6_moths_93 : decode cX6_moths 93 = .ok (.aload_n 0, 1) := by decide +kernel
theorem dX6_moths_94 : decode cX6_moths 94 = .ok (.getfield 7, 3) := by decide +kernel
theorem dX6_moths_97 : decode cX6_moths 97 = .ok (.bipush 48, 2) := by decide +kernel
theorem dX6_moths_99 : decode cX6_moths 99 = .ok (.iload 6, 2) := by decide +kernel
theorem dX6_moths_101 : decode cX6_moths 101 = .ok (.iadd, 1) := by decide +kernel
theorem dX6_moths_102 : decode cX6_moths 102 = .ok (.iaload, 1) := by decide +kernel
theorem dX6_moths_103 : decode cX6_moths 103 = .ok (.ishl, 1) := by decide +kernel
theorem dX6_moths_104 : decode cX6_moths 104 = .ok (.goto 4, 3) := by decide +kernel
theorem dX6_moths_107 : decode cX6_moths 107 = .ok (.iconst 0, 1) := by decide +kernel
theorem dX6_moths_108 : decode cX6_moths 108 = .ok (.ior, 1) := by decide +kernel
theorem dX6_moths_109 : decode cX6_moths 109 = .ok (.istore 4, 2) := by decide +kernel
theorem dX6_moths_111 : decode cX6_moths 111 = .ok (.iload 5, 2) := by decide +kernel
theorem dX6_moths_113 : decode cX6_moths 113 = .ok (.ifCond .ne 17, 3) := by decide +kernel
theorem dX6_moths_116 : decode cX6_moths 116 = .ok (.aload_n 0, 1) := by decide +kernel
theorem dX6_moths_117 : decode cX6_moths 117 = .ok (.getfield 7, 3) := by decide +kernel
theorem dX6_moths_120 : decode cX6_moths 120 = .ok (.bipush 72, 2) := by decide +kernel
theorem dX6_moths_122 : decode cX6_moths 122 = .ok (.iload 6, 2) := by decide +kernel
theorem dX6_moths_124 : decode cX6_moths 124 = .ok (.iadd, 1) := by decide +kernel
theorem dX6_moths_125 : decode cX6_moths 125 = .ok (.iaload, 1) := by decide +kernel
theorem dX6_moths_126 : decode cX6_moths 126 = .ok (.iconst 1, 1) := by decide +kernel
theorem dX6_moths_127 : decode cX6_moths 127 = .ok (.if_icmp .ne 7, 3) := by decide +kernel
theorem dX6_moths_130 : decode cX6_moths 130 = .ok (.iconst 1, 1) := by decide +kernel
theorem dX6_moths_131 : decode cX6_moths 131 = .ok (.goto 4, 3) := by decide +kernel
theorem dX6_moths_134 : decode cX6_moths 134 = .ok (.iconst 0, 1) := by decide +kernel
theorem dX6_moths_135 : decode cX6_moths 135 = .ok (.istore 5, 2) := by decide +kernel
theorem dX6_moths_137 : decode cX6_moths 137 = .ok (.iinc 6 (-1), 3) := by decide +kernel
theorem dX6_moths_140 : decode cX6_moths 140 = .ok (.goto (-78), 3) := by decide +kernel
theorem dX6_moths_143 : decode cX6_moths 143 = .ok (.iload 4, 2) := by decide +kernel
theorem dX6_moths_145 : decode cX6_moths 145 = .ok (.invokestatic 81, 3) := by decide +kernel
theorem dX6_moths_148 : decode cX6_moths 148 = .ok (.bipush 18, 2) := by decide +kernel
theorem dX6_moths_150 : decode cX6_moths 150 = .ok (.if_icmp .le 7, 3) := by decide +kernel
theorem dX6_moths_153 : decode cX6_moths 153 = .ok (.ldc2_w 144, 3) := by decide +kernel
theorem dX6_moths_156 : decode cX6_moths 156 = .ok (.lreturn, 1) := by decide +kernel
theorem dX6_moths_157 : decode cX6_moths 157 = .ok (.iload 5, 2) := by decide +kernel
theorem dX6_moths_159 : decode cX6_moths 159 = .ok (.ifCond .eq 7, 3) := by decide +kernel
theorem dX6_moths_162 : decode cX6_moths 162 = .ok (.lconst 0, 1) := by decide +kernel
theorem dX6_moths_163 : decode cX6_moths 163 = .ok (.goto 17, 3) := by decide +kernel
theorem dX6_moths_166 : decode cX6_moths 166 = .ok (.ldc2_w 146, 3) := by decide +kernel
theorem dX6_moths_169 : decode cX6_moths 169 = .ok (.iload_n 2, 1) := by decide +kernel
theorem dX6_moths_170 : decode cX6_moths 170 = .ok (.i2l, 1) := by decide +kernel
theorem dX6_moths_171 : decode cX6_moths 171 = .ok (.lsub, 1) := by decide +kernel
theorem dX6_moths_172 : decode cX6_moths 172 = .ok (.iload 4, 2) := by decide +kernel
theorem dX6_moths_174 : decode cX6_moths 174 = .ok (.invokestatic 81, 3) := by decide +kernel
theorem dX6_moths_177 : decode cX6_moths 177 = .ok (.invokestatic 148, 3) := by decide +kernel
theorem dX6_moths_180 : decode cX6_moths 180 = .ok (.lstore 6, 2) := by decide +kernel
theorem dX6_moths_182 : decode cX6_moths 182 = .ok (.ldc2_w 146, 3) := by decide +kernel
theorem dX6_moths_185 : decode cX6_moths 185 = .ok (.iload 4, 2) := by decide +kernel
theorem dX6_moths_187 : decode cX6_moths 187 = .ok (.invokestatic 81, 3) := by decide +kernel
theorem dX6_moths_190 : decode cX6_moths 190 = .ok (.invokestatic 148, 3) := by decide +kernel
theorem dX6_moths_193 : decode cX6_moths 193 = .ok (.lstore 8, 2) := by decide +kernel
theorem dX6_moths_195 : decode cX6_moths 195 = .ok (.lload 6, 2) := by decide +kernel
theorem dX6_moths_197 : decode cX6_moths 197 = .ok (.lstore 10, 2) := by decide +kernel
theorem dX6_moths_199 : decode cX6_moths 199 = .ok (.lload 8, 2) := by decide +kernel
theorem dX6_moths_201 : decode cX6_moths 201 = .ok (.lstore 12, 2) := by decide +kernel
theorem dX6_moths_203 : decode cX6_moths 203 = .ok (.lload 12, 2) := by decide +kernel
theorem dX6_moths_205 : decode cX6_moths 205 = .ok (.lconst 0, 1) := by decide +kernel
theorem dX6_moths_206 : decode cX6_moths 206 = .ok (.lcmp, 1) := by decide +kernel
theorem dX6_moths_207 : decode cX6_moths 207 = .ok (.ifCond .eq 21, 3) := by decide +kernel
theorem dX6_moths_210 : decode cX6_moths 210 = .ok (.lload 10, 2) := by decide +kernel
theorem dX6_moths_212 : decode cX6_moths 212 = .ok (.lload 12, 2) := by decide +kernel
theorem dX6_moths_214 : decode cX6_moths 214 = .ok (.lrem, 1) := by decide +kernel
theorem dX6_moths_215 : decode cX6_moths 215 = .ok (.lstore 14, 2) := by decide +kernel
theorem dX6_moths_217 : decode cX6_moths 217 = .ok (.lload 12, 2) := by decide +kernel
theorem dX6_moths_219 : decode cX6_moths 219 = .ok (.lstore 10, 2) := by decide +kernel
theorem dX6_moths_221 : decode cX6_moths 221 = .ok (.lload 14, 2) := by decide +kernel
theorem dX6_moths_223 : decode cX6_moths 223 = .ok (.lstore 12, 2) := by decide +kernel
theorem dX6_moths_225 : decode cX6_moths 225 = .ok (.goto (-22), 3) := by decide +kernel
theorem dX6_moths_228 : decode cX6_moths 228 = .ok (.iload_n 3, 1) := by decide +kernel
theorem dX6_moths_229 : decode cX6_moths 229 = .ok (.ifCond .ne 11, 3) := by decide +kernel
theorem dX6_moths_232 : decode cX6_moths 232 = .ok (.lload 6, 2) := by decide +kernel
theorem dX6_moths_234 : decode cX6_moths 234 = .ok (.lload 10, 2) := by decide +kernel
theorem dX6_moths_236 : decode cX6_moths 236 = .ok (.ldiv, 1) := by decide +kernel
theorem dX6_moths_237 : decode cX6_moths 237 = .ok (.goto 8, 3) := by decide +kernel
theorem dX6_moths_240 : decode cX6_moths 240 = .ok (.lload 8, 2) := by decide +kernel
theorem dX6_moths_242 : decode cX6_moths 242 = .ok (.lload 10, 2) := by decide +kernel
theorem dX6_moths_244 : decode cX6_moths 244 = .ok (.ldiv, 1) := by decide +kernel
theorem dX6_moths_245 : decode cX6_moths 245 = .ok (.lreturn, 1) := by decide +kernel
set_option maxRecDepth 20000 in
theorem ggX6_year_X6_in : GoodIn wsX6_year wsX6_in := goodIn_r _ [6] (by decide +kernel) (by decide +kernel)
set_option maxRecDepth 20000 in
theorem gX6_year_X6_in : GoodIn wsX6_year (va_wsS RX6 41 yX6_in wsX6_in) := goodIn_app (goodIn_of _ (by decide +kernel)) ggX6_year_X6_in
set_option maxRecDepth 20000 in
theorem ggX6_year_X6_asNow : GoodIn wsX6_year wsX6_asNow := goodIn_r _ [10, 2, 11, 12, 53, 54, 55, 56, 57, 58, 59, 60, 61, 62, 63, 64, 65, 66, 67] (by decide +kernel) (by decide +kernel)
set_option maxRecDepth 20000 in
theorem gX6_year_X6_asNow : GoodIn wsX6_year (wsV RX6 84 RX6 yX6_asNow wsX6_asNow) := goodIn_app (goodIn_of _ (by decide +kernel)) ggX6_year_X6_asNow
set_option maxRecDepth 20000 in
theorem ggX6_year_X6_pullOut : GoodIn wsX6_year wsX6_pullOut := goodIn_r _ [16, 2, 17, 18, 19, 5, 20, 21, 22, 23, 24, 25, 26, 27, 28, 29, 30, 31, 53, 54, 55, 56, 57, 58, 59, 60, 61, 62, 63, 64, 65, 66, 67] (by decide +kernel) (by decide +kernel)
set_option maxRecDepth 20000 in
theorem gX6_year_X6_pullOut : GoodIn wsX6_year (wsV RX6 97 RX6 yX6_pullOut wsX6_pullOut) := goodIn_app (goodIn_of _ (by decide +kernel)) ggX6_year_X6_pullOut
set_option maxRecDepth 20000 in
theorem ggX6_year_X6_eat : GoodIn wsX6_year wsX6_eat := goodIn_r _ [35, 2, 53, 54, 55, 56, 57, 58, 59, 60, 61, 62, 63, 64, 65, 66, 67] (by decide +kernel) (by decide +kernel)
set_option maxRecDepth 20000 in
theorem gX6_year_X6_eat : GoodIn wsX6_year (wsV RX6 100 RX6 yX6_eat wsX6_eat) := goodIn_app (goodIn_of _ (by decide +kernel)) ggX6_year_X6_eat
set_option maxRecDepth 20000 in
theorem ggX6_year_X6_mend : GoodIn wsX6_year wsX6_mend := goodIn_r _ [39, 2, 40, 53, 54, 55, 56, 57, 58, 59, 60, 61, 62, 63, 64, 65, 66, 67] (by decide +kernel) (by decide +kernel)
set_option maxRecDepth 20000 in
theorem gX6_year_X6_mend : GoodIn wsX6_year (wsV RX6 103 RX6 yX6_mend wsX6_mend) := goodIn_app (goodIn_of _ (by decide +kernel)) ggX6_year_X6_mend
set_option maxRecDepth 20000 in
theorem ggX6_year_X6_knit : GoodIn wsX6_year wsX6_knit := goodIn_r _ [44, 2, 40, 53, 54, 55, 56, 57, 58, 59, 60, 61, 62, 63, 64, 65, 66, 67] (by decide +kernel) (by decide +kernel)
set_option maxRecDepth 20000 in
theorem gX6_year_X6_knit : GoodIn wsX6_year (wsV RX6 90 RX6 yX6_knit wsX6_knit) := goodIn_app (goodIn_of _ (by decide +kernel)) ggX6_year_X6_knit
set_option maxRecDepth 20000 in
theorem ggX6_year_X6_eatenSet : GoodIn wsX6_year wsX6_eatenSet := goodIn_r _ [48, 2, 53, 54, 55, 56, 57, 58, 59, 60, 61, 62, 63, 64, 65, 66, 67] (by decide +kernel) (by decide +kernel)
set_option maxRecDepth 20000 in
theorem gX6_year_X6_eatenSet : GoodIn wsX6_year (wsV RX6 112 RX6 yX6_eatenSet wsX6_eatenSet) := goodIn_app (goodIn_of _ (by decide +kernel)) ggX6_year_X6_eatenSet
set_option maxRecDepth 20000 in
theorem ggX6_year_X6_looseSet : GoodIn wsX6_year wsX6_looseSet := goodIn_r _ [52, 2, 45, 46, 47, 5, 48, 21, 22, 23, 53, 54, 55, 56, 57, 58, 59, 60, 61, 62, 63, 64, 65, 66, 67] (by decide +kernel) (by decide +kernel)
set_option maxRecDepth 20000 in
theorem gX6_year_X6_looseSet : GoodIn wsX6_year (wsV RX6 115 RX6 yX6_looseSet wsX6_looseSet) := goodIn_app (goodIn_of _ (by decide +kernel)) ggX6_year_X6_looseSet
set_option maxRecDepth 20000 in
theorem ggX6_year_X6_bits : GoodIn wsX6_year wsX6_bits := goodIn_r _ [31] (by decide +kernel) (by decide +kernel)
set_option maxRecDepth 20000 in
theorem gX6_year_X6_bits : GoodIn wsX6_year (va_wsS RX6 81 yX6_bits wsX6_bits) := goodIn_app (goodIn_of _ (by decide +kernel)) ggX6_year_X6_bits
theorem dX6_year_0 : decode cX6_year 0 = .ok (.iload_n 1, 1) := by decide +kernel
theorem dX6_year_1 : decode cX6_year 1 = .ok (.iconst 0, 1) := by decide +kernel
theorem dX6_year_2 : decode cX6_year 2 = .ok (.sipush 9999, 3) := by decide +kernel
theorem dX6_year_5 : decode cX6_year 5 = .ok (.invokestatic 41, 3) := by decide +kernel
theorem dX6_year_8 : decode cX6_year 8 = .ok (.ifCond .eq 22, 3) := by decide +kernel
theorem dX6_year_11 : decode cX6_year 11 = .ok (.iload_n 2, 1) := by decide +kernel
theorem dX6_year_12 : decode cX6_year 12 = .ok (.iconst 1, 1) := by decide +kernel
theorem dX6_year_13 : decode cX6_year 13 = .ok (.bipush 99, 2) := by decide +kernel
theorem dX6_year_15 : decode cX6_year 15 = .ok (.invokestatic 41, 3) := by decide +kernel
theorem dX6_year_18 : decode cX6_year 18 = .ok (.ifCond .eq 12, 3) := by decide +kernel
theorem dX6_year_21 : decode cX6_year 21 = .ok (.iload_n 3, 1) := by decide +kernel
theorem dX6_year_22 : decode cX6_year 22 = .ok (.iconst 0, 1) := by decide +kernel
theorem dX6_year_23 : decode cX6_year 23 = .ok (.iconst 2, 1) := by decide +kernel
theorem dX6_year_24 : decode cX6_year 24 = .ok (.invokestatic 41, 3) := by decide +kernel
theorem dX6_year_27 : decode cX6_year 27 = .ok (.ifCond .ne 6, 3) := by decide +kernel
theorem dX6_year_30 : decode cX6_year 30 = .ok (.bipush (-2), 2) := by decide +kernel
theorem dX6_year_32 : decode cX6_year 32 = .ok (.ireturn, 1) := by decide +kernel
theorem dX6_year_33 : decode cX6_year 33 = .ok (.aload_n 0, 1) := by decide +kernel
theorem dX6_year_34 : decode cX6_year 34 = .ok (.invokevirtual 84, 3) := by decide +kernel
theorem dX6_year_37 : decode cX6_year 37 = .ok (.iload_n 1, 1) := by decide +kernel
theorem dX6_year_38 : decode cX6_year 38 = .ok (.istore 4, 2) := by decide +kernel
theorem dX6_year_40 : decode cX6_year 40 = .ok (.iconst 0, 1) := by decide +kernel
theorem dX6_year_41 : decode cX6_year 41 = .ok (.istore 5, 2) := by decide +kernel
theorem dX6_year_43 : decode cX6_year 43 = .ok (.iconst 0, 1) := by decide +kernel
theorem dX6_year_44 : decode cX6_year 44 = .ok (.istore 6, 2) := by decide +kernel
theorem dX6_year_46 : decode cX6_year 46 = .ok (.iload 6, 2) := by decide +kernel
theorem dX6_year_48 : decode cX6_year 48 = .ok (.iload_n 2, 1) := by decide +kernel
theorem dX6_year_49 : decode cX6_year 49 = .ok (.if_icmp .ge 130, 3) := by decide +kernel
theorem dX6_year_52 : decode cX6_year 52 = .ok (.bipush 75, 2) := by decide +kernel
theorem dX6_year_54 : decode cX6_year 54 = .ok (.iload 4, 2) := by decide +kernel
theorem dX6_year_56 : decode cX6_year 56 = .ok (.imul, 1) := by decide +kernel
theorem dX6_year_57 : decode cX6_year 57 = .ok (.bipush 74, 2) := by decide +kernel
theorem dX6_year_59 : decode cX6_year 59 = .ok (.iadd, 1) := by decide +kernel
theorem dX6_year_60 : decode cX6_year 60 = .ok (.ldc 152, 2) := by decide +kernel
theorem dX6_year_62 : decode cX6_year 62 = .ok (.irem, 1) := by decide +kernel
theorem dX6_year_63 : decode cX6_year 63 = .ok (.istore 4, 2) := by decide +kernel
theorem dX6_year_65 : decode cX6_year 65 = .ok (.iload 4, 2) := by decide +kernel
theorem dX6_year_67 : decode cX6_year 67 = .ok (.bipush 8, 2) := by decide +kernel
theorem dX6_year_69 : decode cX6_year 69 = .ok (.irem, 1) := by decide +kernel
theorem dX6_year_70 : decode cX6_year 70 = .ok (.istore 7, 2) := by decide +kernel
theorem dX6_year_72 : decode cX6_year 72 = .ok (.iload 4, 2) := by decide +kernel
theorem dX6_year_74 : decode cX6_year 74 = .ok (.bipush 8, 2) := by decide +kernel
theorem dX6_year_76 : decode cX6_year 76 = .ok (.idiv, 1) := by decide +kernel
theorem dX6_year_77 : decode cX6_year 77 = .ok (.bipush 24, 2) := by decide +kernel
theorem dX6_year_79 : decode cX6_year 79 = .ok (.irem, 1) := by decide +kernel
theorem dX6_year_80 : decode cX6_year 80 = .ok (.istore 8, 2) := by decide +kernel
theorem dX6_year_82 : decode cX6_year 82 = .ok (.iload 7, 2) := by decide +kernel
theorem dX6_year_84 : decode cX6_year 84 = .ok (.ifCond .ne 30, 3) := by decide +kernel
theorem dX6_year_87 : decode cX6_year 87 = .ok (.aload_n 0, 1) := by decide +kernel
theorem dX6_year_88 : decode cX6_year 88 = .ok (.iload 8, 2) := by decide +kernel
theorem dX6_year_90 : decode cX6_year 90 = .ok (.invokevirtual 97, 3) := by decide +kernel
theorem dX6_year_93 : decode cX6_year 93 = .ok (.istore 9, 2) := by decide +kernel
theorem dX6_year_95 : decode cX6_year 95 = .ok (.iload 5, 2) := by decide +kernel
theorem dX6_year_97 : decode cX6_year 97 = .ok (.iload 9, 2) := by decide +kernel
theorem dX6_year_99 : decode cX6_year 99 = .ok (.ifCond .ge 7, 3) := by decide +kernel
theorem dX6_year_102 : decode cX6_year 102 = .ok (.iconst 0, 1) := by decide +kernel
theorem dX6_year_103 : decode cX6_year 103 = .ok (.goto 5, 3) := by decide +kernel
theorem dX6_year_106 : decode cX6_year 106 = .ok (.iload 9, 2) := by decide +kernel
theorem dX6_year_108 : decode cX6_year 108 = .ok (.iadd, 1) := by decide +kernel
theorem dX6_year_109 : decode cX6_year 109 = .ok (.istore 5, 2) := by decide +kernel
theorem dX6_year_111 : decode cX6_year 111 = .ok (.goto 62, 3) := by decide +kernel
theorem dX6_year_114 : decode cX6_year 114 = .ok (.iload 7, 2) := by decide +kernel
theorem dX6_year_116 : decode cX6_year 116 = .ok (.iconst 1, 1) := by decide +kernel
theorem dX6_year_117 : decode cX6_year 117 = .ok (.if_icmp .ne 13, 3) := by decide +kernel
theorem dX6_year_120 : decode cX6_year 120 = .ok (.aload_n 0, 1) := by decide +kernel
theorem dX6_year_121 : decode cX6_year 121 = .ok (.iload 8, 2) := by decide +kernel
theorem dX6_year_123 : decode cX6_year 123 = .ok (.invokevirtual 100, 3) := by decide +kernel
theorem dX6_year_126 : decode cX6_year 126 = .ok (.pop, 1) := by decide +kernel
theorem dX6_year_127 : decode cX6_year 127 = .ok (.goto 46, 3) := by decide +kernel
theorem dX6_year_130 : decode cX6_year 130 = .ok (.iload 7, 2) := by decide +kernel
theorem dX6_year_132 : decode cX6_year 132 = .ok (.iconst 2, 1) := by decide +kernel
theorem dX6_year_133 : decode cX6_year 133 = .ok (.if_icmp .ne 21, 3) := by decide +kernel
theorem dX6_year_136 : decode cX6_year 136 = .ok (.aload_n 0, 1) := by decide +kernel
theorem dX6_year_137 : decode cX6_year 137 = .ok (.iload 8, 2) := by decide +kernel
theorem dX6_year_139 : decode cX6_year 139 = .ok (.iload 4, 2) := by decide +kernel
theorem dX6_year_141 : decode cX6_year 141 = .ok (.sipush 192, 3) := by decide +kernel
theorem dX6_year_144 : decode cX6_year 144 = .ok (.idiv, 1) := by decide +kernel
theorem dX6_year_145 : decode cX6_year 145 = .ok (.iconst 4, 1) := by decide +kernel
theorem dX6_year_146 : decode cX6_year 146 = .ok (.irem, 1) := by decide +kernel
theorem dX6_year_147 : decode cX6_year 147 = .ok (.invokevirtual 103, 3) := by decide +kernel
theorem dX6_year_150 : decode cX6_year 150 = .ok (.pop, 1) := by decide +kernel
theorem dX6_year_151 : decode cX6_year 151 = .ok (.goto 22, 3) := by decide +kernel
theorem dX6_year_154 : decode cX6_year 154 = .ok (.aload_n 0, 1) := by decide +kernel
theorem dX6_year_155 : decode cX6_year 155 = .ok (.iload 4, 2) := by decide +kernel
theorem dX6_year_157 : decode cX6_year 157 = .ok (.bipush 8, 2) := by decide +kernel
theorem dX6_year_159 : decode cX6_year 159 = .ok (.idiv, 1) := by decide +kernel
theorem dX6_year_160 : decode cX6_year 160 = .ok (.iconst 4, 1) := by decide +kernel
theorem dX6_year_161 : decode cX6_year 161 = .ok (.irem, 1) := by decide +kernel
theorem dX6_year_162 : decode cX6_year 162 = .ok (.iload 4, 2) := by decide +kernel
theorem dX6_year_164 : decode cX6_year 164 = .ok (.bipush 32, 2) := by decide +kernel
theorem dX6_year_166 : decode cX6_year 166 = .ok (.idiv, 1) := by decide +kernel
theorem dX6_year_167 : decode cX6_year 167 = .ok (.iconst 4, 1) := by decide +kernel
theorem dX6_year_168 : decode cX6_year 168 = .ok (.irem, 1) := by decide +kernel
theorem dX6_year_169 : decode cX6_year 169 = .ok (.invokevirtual 90, 3) := by decide +kernel
theorem dX6_year_172 : decode cX6_year 172 = .ok (.pop, 1) := by decide +kernel
theorem dX6_year_173 : decode cX6_year 173 = .ok (.iinc 6 1, 3) := by decide +kernel
theorem dX6_year_176 : decode cX6_year 176 = .ok (.goto (-130), 3) := by decide +kernel
theorem dX6_year_179 : decode cX6_year 179 = .ok (.iload_n 3, 1) := by decide +kernel
theorem dX6_year_180 : decode cX6_year 180 = .ok (.ifCond .ne 13, 3) := by decide +kernel
theorem dX6_year_183 : decode cX6_year 183 = .ok (.aload_n 0, 1) := by decide +kernel
theorem dX6_year_184 : decode cX6_year 184 = .ok (.getfield 13, 3) := by decide +kernel
theorem dX6_year_187 : decode cX6_year 187 = .ok (.bipush 96, 2) := by decide +kernel
theorem dX6_year_189 : decode cX6_year 189 = .ok (.iaload, 1) := by decide +kernel
theorem dX6_year_190 : decode cX6_year 190 = .ok (.goto 25, 3) := by decide +kernel
theorem dX6_year_193 : decode cX6_year 193 = .ok (.iload_n 3, 1) := by decide +kernel
theorem dX6_year_194 : decode cX6_year 194 = .ok (.iconst 1, 1) := by decide +kernel
theorem dX6_year_195 : decode cX6_year 195 = .ok (.if_icmp .ne 18, 3) := by decide +kernel
theorem dX6_year_198 : decode cX6_year 198 = .ok (.aload_n 0, 1) := by decide +kernel
theorem dX6_year_199 : decode cX6_year 199 = .ok (.invokevirtual 112, 3) := by decide +kernel
theorem dX6_year_202 : decode cX6_year 202 = .ok (.aload_n 0, 1) := by decide +kernel
theorem dX6_year_203 : decode cX6_year 203 = .ok (.invokevirtual 115, 3) := by decide +kernel
theorem dX6_year_206 : decode cX6_year 206 = .ok (.ior, 1) := by decide +kernel
theorem dX6_year_207 : decode cX6_year 207 = .ok (.invokestatic 81, 3) := by decide +kernel
theorem dX6_year_210 : decode cX6_year 210 = .ok (.goto 5, 3) := by decide +kernel
theorem dX6_year_213 : decode cX6_year 213 = .ok (.iload 5, 2) := by decide +kernel
theorem dX6_year_215 : decode cX6_year 215 = .ok (.ireturn, 1) := by decide +kernel
set_option maxRecDepth 20000 in
theorem ggX6_image_X6_in : GoodIn wsX6_image wsX6_in := goodIn_r _ [10] (by decide +kernel) (by decide +kernel)
set_option maxRecDepth 20000 in
theorem gX6_image_X6_in : GoodIn wsX6_image (va_wsS RX6 41 yX6_in wsX6_in) := goodIn_app (goodIn_of _ (by decide +kernel)) ggX6_image_X6_in
theorem dX6_image_0 : decode cX6_image 0 = .ok (.iload_n 1, 1) := by decide +kernel
theorem dX6_image_1 : decode cX6_image 1 = .ok (.iconst 0, 1) := by decide +kernel
theorem dX6_image_2 : decode cX6_image 2 = .ok (.iconst 1, 1) := by decide +kernel
theorem dX6_image_3 : decode cX6_image 3 = .ok (.invokestatic 41, 3) := by decide +kernel
theorem dX6_image_6 : decode cX6_image 6 = .ok (.ifCond .ne 6, 3) := by decide +kernel
theorem dX6_image_9 : decode cX6_image 9 = .ok (.bipush (-2), 2) := by decide +kernel
theorem dX6_image_11 : decode cX6_image 11 = .ok (.ireturn, 1) := by decide +kernel
theorem dX6_image_12 : decode cX6_image 12 = .ok (.sipush 150, 3) := by decide +kernel
theorem dX6_image_15 : decode cX6_image 15 = .ok (.iload_n 1, 1) := by decide +kernel
theorem dX6_image_16 : decode cX6_image 16 = .ok (.imul, 1) := by decide +kernel
theorem dX6_image_17 : decode cX6_image 17 = .ok (.istore_n 2, 1) := by decide +kernel
theorem dX6_image_18 : decode cX6_image 18 = .ok (.iconst 0, 1) := by decide +kernel
theorem dX6_image_19 : decode cX6_image 19 = .ok (.istore_n 3, 1) := by decide +kernel
theorem dX6_image_20 : decode cX6_image 20 = .ok (.iload_n 3, 1) := by decide +kernel
theorem dX6_image_21 : decode cX6_image 21 = .ok (.bipush 97, 2) := by decide +kernel
theorem dX6_image_23 : decode cX6_image 23 = .ok (.if_icmp .ge 23, 3) := by decide +kernel
theorem dX6_image_26 : decode cX6_image 26 = .ok (.aload_n 0, 1) := by decide +kernel
theorem dX6_image_27 : decode cX6_image 27 = .ok (.getfield 28, 3) := by decide +kernel
theorem dX6_image_30 : decode cX6_image 30 = .ok (.iload_n 2, 1) := by decide +kernel
theorem dX6_image_31 : decode cX6_image 31 = .ok (.iload_n 3, 1) := by decide +kernel
theorem dX6_image_32 : decode cX6_image 32 = .ok (.iadd, 1) := by decide +kernel
theorem dX6_image_33 : decode cX6_image 33 = .ok (.aload_n 0, 1) := by decide +kernel
theorem dX6_image_34 : decode cX6_image 34 = .ok (.getfield 7, 3) := by decide +kernel
theorem dX6_image_37 : decode cX6_image 37 = .ok (.iload_n 3, 1) := by decide +kernel
theorem dX6_image_38 : decode cX6_image 38 = .ok (.iaload, 1) := by decide +kernel
theorem dX6_image_39 : decode cX6_image 39 = .ok (.iastore, 1) := by decide +kernel
theorem dX6_image_40 : decode cX6_image 40 = .ok (.iinc 3 1, 3) := by decide +kernel
theorem dX6_image_43 : decode cX6_image 43 = .ok (.goto (-23), 3) := by decide +kernel
theorem dX6_image_46 : decode cX6_image 46 = .ok (.iconst 0, 1) := by decide +kernel
theorem dX6_image_47 : decode cX6_image 47 = .ok (.istore_n 3, 1) := by decide +kernel
theorem dX6_image_48 : decode cX6_image 48 = .ok (.iload_n 3, 1) := by decide +kernel
theorem dX6_image_49 : decode cX6_image 49 = .ok (.iconst 4, 1) := by decide +kernel
theorem dX6_image_50 : decode cX6_image 50 = .ok (.if_icmp .ge 26, 3) := by decide +kernel
theorem dX6_image_53 : decode cX6_image 53 = .ok (.aload_n 0, 1) := by decide +kernel
theorem dX6_image_54 : decode cX6_image 54 = .ok (.getfield 28, 3) := by decide +kernel
theorem dX6_image_57 : decode cX6_image 57 = .ok (.iload_n 2, 1) := by decide +kernel
theorem dX6_image_58 : decode cX6_image 58 = .ok (.bipush 100, 2) := by decide +kernel
theorem dX6_image_60 : decode cX6_image 60 = .ok (.iadd, 1) := by decide +kernel
theorem dX6_image_61 : decode cX6_image 61 = .ok (.iload_n 3, 1) := by decide +kernel
theorem dX6_image_62 : decode cX6_image 62 = .ok (.iadd, 1) := by decide +kernel
theorem dX6_image_63 : decode cX6_image 63 = .ok (.aload_n 0, 1) := by decide +kernel
theorem dX6_image_64 : decode cX6_image 64 = .ok (.getfield 16, 3) := by decide +kernel
theorem dX6_image_67 : decode cX6_image 67 = .ok (.iload_n 3, 1) := by decide +kernel
theorem dX6_image_68 : decode cX6_image 68 = .ok (.iaload, 1) := by decide +kernel
theorem dX6_image_69 : decode cX6_image 69 = .ok (.iastore, 1) := by decide +kernel
theorem dX6_image_70 : decode cX6_image 70 = .ok (.iinc 3 1, 3) := by decide +kernel
theorem dX6_image_73 : decode cX6_image 73 = .ok (.goto (-25), 3) := by decide +kernel
theorem dX6_image_76 : decode cX6_image 76 = .ok (.iconst 0, 1) := by decide +kernel
theorem dX6_image_77 : decode cX6_image 77 = .ok (.istore_n 3, 1) := by decide +kernel
theorem dX6_image_78 : decode cX6_image 78 = .ok (.iload_n 3, 1) := by decide +kernel
theorem dX6_image_79 : decode cX6_image 79 = .ok (.bipush 16, 2) := by decide +kernel
theorem dX6_image_81 : decode cX6_image 81 = .ok (.if_icmp .ge 26, 3) := by decide +kernel
theorem dX6_image_84 : decode cX6_image 84 = .ok (.aload_n 0, 1) := by decide +kernel
theorem dX6_image_85 : decode cX6_image 85 = .ok (.getfield 28, 3) := by decide +kernel
theorem dX6_image_88 : decode cX6_image 88 = .ok (.iload_n 2, 1) := by decide +kernel
theorem dX6_image_89 : decode cX6_image 89 = .ok (.bipush 110, 2) := by decide +kernel
theorem dX6_image_91 : decode cX6_image 91 = .ok (.iadd, 1) := by decide +kernel
theorem dX6_image_92 : decode cX6_image 92 = .ok (.iload_n 3, 1) := by decide +kernel
theorem dX6_image_93 : decode cX6_image 93 = .ok (.iadd, 1) := by decide +kernel
theorem dX6_image_94 : decode cX6_image 94 = .ok (.aload_n 0, 1) := by decide +kernel
theorem dX6_image_95 : decode cX6_image 95 = .ok (.getfield 19, 3) := by decide +kernel
theorem dX6_image_98 : decode cX6_image 98 = .ok (.iload_n 3, 1) := by decide +kernel
theorem dX6_image_99 : decode cX6_image 99 = .ok (.iaload, 1) := by decide +kernel
theorem dX6_image_100 : decode cX6_image 100 = .ok (.iastore, 1) := by decide +kernel
theorem dX6_image_101 : decode cX6_image 101 = .ok (.iinc 3 1, 3) := by decide +kernel
theorem dX6_image_104 : decode cX6_image 104 = .ok (.goto (-26), 3) := by decide +kernel
theorem dX6_image_107 : decode cX6_image 107 = .ok (.aload_n 0, 1) := by decide +kernel
theorem dX6_image_108 : decode cX6_image 108 = .ok (.getfield 28, 3) := by decide +kernel
theorem dX6_image_111 : decode cX6_image 111 = .ok (.iload_n 2, 1) := by decide +kernel
theorem dX6_image_112 : decode cX6_image 112 = .ok (.sipush 130, 3) := by decide +kernel
theorem dX6_image_115 : decode cX6_image 115 = .ok (.iadd, 1) := by decide +kernel
theorem dX6_image_116 : decode cX6_image 116 = .ok (.aload_n 0, 1) := by decide +kernel
theorem dX6_image_117 : decode cX6_image 117 = .ok (.getfield 134, 3) := by decide +kernel
theorem dX6_image_120 : decode cX6_image 120 = .ok (.iastore, 1) := by decide +kernel
theorem dX6_image_121 : decode cX6_image 121 = .ok (.aload_n 0, 1) := by decide +kernel
theorem dX6_image_122 : decode cX6_image 122 = .ok (.getfield 31, 3) := by decide +kernel
theorem dX6_image_125 : decode cX6_image 125 = .ok (.iload_n 1, 1) := by decide +kernel
theorem dX6_image_126 : decode cX6_image 126 = .ok (.iconst 1, 1) := by decide +kernel
theorem dX6_image_127 : decode cX6_image 127 = .ok (.bastore, 1) := by decide +kernel
theorem dX6_image_128 : decode cX6_image 128 = .ok (.iconst 1, 1) := by decide +kernel
theorem dX6_image_129 : decode cX6_image 129 = .ok (.ireturn, 1) := by decide +kernel
set_option maxRecDepth 20000 in
theorem ggX6_restore_X6_in : GoodIn wsX6_restore wsX6_in := goodIn_r _ [10] (by decide +kernel) (by decide +kernel)
set_option maxRecDepth 20000 in
theorem gX6_restore_X6_in : GoodIn wsX6_restore (va_wsS RX6 41 yX6_in wsX6_in) := goodIn_app (goodIn_of _ (by decide +kernel)) ggX6_restore_X6_in
theorem dX6_restore_0 : decode cX6_restore 0 = .ok (.iload_n 1, 1) := by decide +kernel
theorem dX6_restore_1 : decode cX6_restore 1 = .ok (.iconst 0, 1) := by decide +kernel
theorem dX6_restore_2 : decode cX6_restore 2 = .ok (.iconst 1, 1) := by decide +kernel
theorem dX6_restore_3 : decode cX6_restore 3 = .ok (.invokestatic 41, 3) := by decide +kernel
theorem dX6_restore_6 : decode cX6_restore 6 = .ok (.ifCond .ne 6, 3) := by decide +kernel
theorem dX6_restore_9 : decode cX6_restore 9 = .ok (.bipush (-2), 2) := by decide +kernel
theorem dX6_restore_11 : decode cX6_restore 11 = .ok (.ireturn, 1) := by decide +kernel
theorem dX6_restore_12 : decode cX6_restore 12 = .ok (.aload_n 0, 1) := by decide +kernel
theorem dX6_restore_13 : decode cX6_restore 13 = .ok (.getfield 31, 3) := by decide +kernel
theorem dX6_restore_16 : decode cX6_restore 16 = .ok (.iload_n 1, 1) := by decide +kernel
theorem dX6_restore_17 : decode cX6_restore 17 = .ok (.baload, 1) := by decide +kernel
theorem dX6_restore_18 : decode cX6_restore 18 = .ok (.ifCond .ne 6, 3) := by decide +kernel
theorem dX6_restore_21 : decode cX6_restore 21 = .ok (.bipush (-3), 2) := by decide +kernel
theorem dX6_restore_23 : decode cX6_restore 23 = .ok (.ireturn, 1) := by decide +kernel
theorem dX6_restore_24 : decode cX6_restore 24 = .ok (.sipush 150, 3) := by decide +kernel
theorem dX6_restore_27 : decode cX6_restore 27 = .ok (.iload_n 1, 1) := by decide +kernel
theorem dX6_restore_28 : decode cX6_restore 28 = .ok (.imul, 1) := by decide +kernel
theorem dX6_restore_29 : decode cX6_restore 29 = .ok (.istore_n 2, 1) := by decide +kernel
theorem dX6_restore_30 : decode cX6_restore 30 = .ok (.iconst 0, 1) := by decide +kernel
theorem dX6_restore_31 : decode cX6_restore 31 = .ok (.istore_n 3, 1) := by decide +kernel
theorem dX6_restore_32 : decode cX6_restore 32 = .ok (.iload_n 3, 1) := by decide +kernel
theorem dX6_restore_33 : decode cX6_restore 33 = .ok (.bipush 97, 2) := by decide +kernel
theorem dX6_restore_35 : decode cX6_restore 35 = .ok (.if_icmp .ge 23, 3) := by decide +kernel
theorem dX6_restore_38 : decode cX6_restore 38 = .ok (.aload_n 0, 1) := by decide +kernel
theorem dX6_restore_39 : decode cX6_restore 39 = .ok (.getfield 7, 3) := by decide +kernel
theorem dX6_restore_42 : decode cX6_restore 42 = .ok (.iload_n 3, 1) := by decide +kernel
theorem dX6_restore_43 : decode cX6_restore 43 = .ok (.aload_n 0, 1) := by decide +kernel
theorem dX6_restore_44 : decode cX6_restore 44 = .ok (.getfield 28, 3) := by decide +kernel
theorem dX6_restore_47 : decode cX6_restore 47 = .ok (.iload_n 2, 1) := by decide +kernel
theorem dX6_restore_48 : decode cX6_restore 48 = .ok (.iload_n 3, 1) := by decide +kernel
theorem dX6_restore_49 : decode cX6_restore 49 = .ok (.iadd, 1) := by decide +kernel
theorem dX6_restore_50 : decode cX6_restore 50 = .ok (.iaload, 1) := by decide +kernel
theorem dX6_restore_51 : decode cX6_restore 51 = .ok (.iastore, 1) := by decide +kernel
theorem dX6_restore_52 : decode cX6_restore 52 = .ok (.iinc 3 1, 3) := by decide +kernel
theorem dX6_restore_55 : decode cX6_restore 55 = .ok (.goto (-23), 3) := by decide +kernel
theorem dX6_restore_58 : decode cX6_restore 58 = .ok (.iconst 0, 1) := by decide +kernel
theorem dX6_restore_59 : decode cX6_restore 59 = .ok (.istore_n 3, 1) := by decide +kernel
theorem dX6_restore_60 : decode cX6_restore 60 = .ok (.iload_n 3, 1) := by decide +kernel
theorem dX6_restore_61 : decode cX6_restore 61 = .ok (.iconst 4, 1) := by decide +kernel
theorem dX6_restore_62 : decode cX6_restore 62 = .ok (.if_icmp .ge 26, 3) := by decide +kernel
theorem dX6_restore_65 : decode cX6_restore 65 = .ok (.aload_n 0, 1) := by decide +kernel
theorem dX6_restore_66 : decode cX6_restore 66 = .ok (.getfield 16, 3) := by decide +kernel
theorem dX6_restore_69 : decode cX6_restore 69 = .ok (.iload_n 3, 1) := by decide +kernel
theorem dX6_restore_70 : decode cX6_restore 70 = .ok (.aload_n 0, 1) := by decide +kernel
theorem dX6_restore_71 : decode cX6_restore 71 = .ok (.getfield 28, 3) := by decide +kernel
theorem dX6_restore_74 : decode cX6_restore 74 = .ok (.iload_n 2, 1) := by decide +kernel
theorem dX6_restore_75 : decode cX6_restore 75 = .ok (.bipush 100, 2) := by decide +kernel
theorem dX6_restore_77 : decode cX6_restore 77 = .ok (.iadd, 1) := by decide +kernel
theorem dX6_restore_78 : decode cX6_restore 78 = .ok (.iload_n 3, 1) := by decide +kernel
theorem dX6_restore_79 : decode cX6_restore 79 = .ok (.iadd, 1) := by decide +kernel
theorem dX6_restore_80 : decode cX6_restore 80 = .ok (.iaload, 1) := by decide +kernel
theorem dX6_restore_81 : decode cX6_restore 81 = .ok (.iastore, 1) := by decide +kernel
theorem dX6_restore_82 : decode cX6_restore 82 = .ok (.iinc 3 1, 3) := by decide +kernel
theorem dX6_restore_85 : decode cX6_restore 85 = .ok (.goto (-25), 3) := by decide +kernel
theorem dX6_restore_88 : decode cX6_restore 88 = .ok (.iconst 0, 1) := by decide +kernel
theorem dX6_restore_89 : decode cX6_restore 89 = .ok (.istore_n 3, 1) := by decide +kernel
theorem dX6_restore_90 : decode cX6_restore 90 = .ok (.iload_n 3, 1) := by decide +kernel
theorem dX6_restore_91 : decode cX6_restore 91 = .ok (.bipush 16, 2) := by decide +kernel
theorem dX6_restore_93 : decode cX6_restore 93 = .ok (.if_icmp .ge 26, 3) := by decide +kernel
theorem dX6_restore_96 : decode cX6_restore 96 = .ok (.aload_n 0, 1) := by decide +kernel
theorem dX6_restore_97 : decode cX6_restore 97 = .ok (.getfield 19, 3) := by decide +kernel
theorem dX6_restore_100 : decode cX6_restore 100 = .ok (.iload_n 3, 1) := by decide +kernel
theorem dX6_restore_101 : decode cX6_restore 101 = .ok (.aload_n 0, 1) := by decide +kernel
theorem dX6_restore_102 : decode cX6_restore 102 = .ok (.getfield 28, 3) := by decide +kernel
theorem dX6_restore_105 : decode cX6_restore 105 = .ok (.iload_n 2, 1) := by decide +kernel
theorem dX6_restore_106 : decode cX6_restore 106 = .ok (.bipush 110, 2) := by decide +kernel
theorem dX6_restore_108 : decode cX6_restore 108 = .ok (.iadd, 1) := by decide +kernel
theorem dX6_restore_109 : decode cX6_restore 109 = .ok (.iload_n 3, 1) := by decide +kernel
theorem dX6_restore_110 : decode cX6_restore 110 = .ok (.iadd, 1) := by decide +kernel
theorem dX6_restore_111 : decode cX6_restore 111 = .ok (.iaload, 1) := by decide +kernel
theorem dX6_restore_112 : decode cX6_restore 112 = .ok (.iastore, 1) := by decide +kernel
theorem dX6_restore_113 : decode cX6_restore 113 = .ok (.iinc 3 1, 3) := by decide +kernel
theorem dX6_restore_116 : decode cX6_restore 116 = .ok (.goto (-26), 3) := by decide +kernel
theorem dX6_restore_119 : decode cX6_restore 119 = .ok (.aload_n 0, 1) := by decide +kernel
theorem dX6_restore_120 : decode cX6_restore 120 = .ok (.aload_n 0, 1) := by decide +kernel
theorem dX6_restore_121 : decode cX6_restore 121 = .ok (.getfield 28, 3) := by decide +kernel
theorem dX6_restore_124 : decode cX6_restore 124 = .ok (.iload_n 2, 1) := by decide +kernel
theorem dX6_restore_125 : decode cX6_restore 125 = .ok (.sipush 130, 3) := by decide +kernel
theorem dX6_restore_128 : decode cX6_restore 128 = .ok (.iadd, 1) := by decide +kernel
theorem dX6_restore_129 : decode cX6_restore 129 = .ok (.iaload, 1) := by decide +kernel
theorem dX6_restore_130 : decode cX6_restore 130 = .ok (.putfield 134, 3) := by decide +kernel
theorem dX6_restore_133 : decode cX6_restore 133 = .ok (.iconst 1, 1) := by decide +kernel
theorem dX6_restore_134 : decode cX6_restore 134 = .ok (.ireturn, 1) := by decide +kernel
set_option maxRecDepth 20000 in
theorem ggX6_told_X6_isStitch : GoodIn wsX6_told wsX6_isStitch := goodIn_r _ [9, 1, 10, 11, 8, 12, 33, 34, 35, 36, 37, 38, 39, 40, 41, 42, 43, 44, 45, 46, 47] (by decide +kernel) (by decide +kernel)
set_option maxRecDepth 20000 in
theorem gX6_told_X6_isStitch : GoodIn wsX6_told (wsV RX6 45 RX6 yX6_isStitch wsX6_isStitch) := goodIn_app (goodIn_of _ (by decide +kernel)) ggX6_told_X6_isStitch
set_option maxRecDepth 20000 in
theorem ggX6_told_X6_isKnitter : GoodIn wsX6_told wsX6_isKnitter := goodIn_r _ [15, 10, 11, 8, 12] (by decide +kernel) (by decide +kernel)
set_option maxRecDepth 20000 in
theorem gX6_told_X6_isKnitter : GoodIn wsX6_told (va_wsS RX6 49 yX6_isKnitter wsX6_isKnitter) := goodIn_app (goodIn_of _ (by decide +kernel)) ggX6_told_X6_isKnitter
set_option maxRecDepth 20000 in
theorem ggX6_told_X6_asNow : GoodIn wsX6_told wsX6_asNow := goodIn_r _ [19, 20, 1, 21, 33, 34, 35, 36, 37, 38, 39, 40, 41, 42, 43, 44, 45, 46, 47] (by decide +kernel) (by decide +kernel)
set_option maxRecDepth 20000 in
theorem gX6_told_X6_asNow : GoodIn wsX6_told (wsV RX6 84 RX6 yX6_asNow wsX6_asNow) := goodIn_app (goodIn_of _ (by decide +kernel)) ggX6_told_X6_asNow
set_option maxRecDepth 20000 in
theorem ggX6_told_X6_eatenSet : GoodIn wsX6_told wsX6_eatenSet := goodIn_r _ [25, 20, 33, 34, 35, 36, 37, 38, 39, 40, 41, 42, 43, 44, 45, 46, 47] (by decide +kernel) (by decide +kernel)
set_option maxRecDepth 20000 in
theorem gX6_told_X6_eatenSet : GoodIn wsX6_told (wsV RX6 112 RX6 yX6_eatenSet wsX6_eatenSet) := goodIn_app (goodIn_of _ (by decide +kernel)) ggX6_told_X6_eatenSet
set_option maxRecDepth 20000 in
theorem ggX6_told_X6_looseSet : GoodIn wsX6_told wsX6_looseSet := goodIn_r _ [29, 20, 22, 23, 24, 8, 25, 30, 31, 32, 33, 34, 35, 36, 37, 38, 39, 40, 41, 42, 43, 44, 45, 46, 47] (by decide +kernel) (by decide +kernel)
set_option maxRecDepth 20000 in
theorem gX6_told_X6_looseSet : GoodIn wsX6_told (wsV RX6 115 RX6 yX6_looseSet wsX6_looseSet) := goodIn_app (goodIn_of _ (by decide +kernel)) ggX6_told_X6_looseSet
theorem dX6_told_0 : decode cX6_told 0 = .ok (.iload_n 1, 1) := by decide +kernel
theorem dX6_told_1 : decode cX6_told 1 = .ok (.bipush 100, 2) := by decide +kernel
theorem dX6_told_3 : decode cX6_told 3 = .ok (.if_icmp .lt 46, 3) := by decide +kernel
theorem dX6_told_6 : decode cX6_told 6 = .ok (.iload_n 1, 1) := by decide +kernel
theorem dX6_told_7 : decode cX6_told 7 = .ok (.bipush 100, 2) := by decide +kernel
theorem dX6_told_9 : decode cX6_told 9 = .ok (.idiv, 1) := by decide +kernel
theorem dX6_told_10 : decode cX6_told 10 = .ok (.iconst 1, 1) := by decide +kernel
theorem dX6_told_11 : decode cX6_told 11 = .ok (.isub, 1) := by decide +kernel
theorem dX6_told_12 : decode cX6_told 12 = .ok (.istore_n 2, 1) := by decide +kernel
theorem dX6_told_13 : decode cX6_told 13 = .ok (.aload_n 0, 1) := by decide +kernel
theorem dX6_told_14 : decode cX6_told 14 = .ok (.iload_n 2, 1) := by decide +kernel
theorem dX6_told_15 : decode cX6_told 15 = .ok (.invokevirtual 45, 3) := by decide +kernel
theorem dX6_told_18 : decode cX6_told 18 = .ok (.ifCond .eq 28, 3) := by decide +kernel
theorem dX6_told_21 : decode cX6_told 21 = .ok (.iload_n 1, 1) := by decide +kernel
theorem dX6_told_22 : decode cX6_told 22 = .ok (.bipush 100, 2) := by decide +kernel
theorem dX6_told_24 : decode cX6_told 24 = .ok (.irem, 1) := by decide +kernel
theorem dX6_told_25 : decode cX6_told 25 = .ok (.iconst 3, 1) := by decide +kernel
theorem dX6_told_26 : decode cX6_told 26 = .ok (.if_icmp .ge 20, 3) := by decide +kernel
theorem dX6_told_29 : decode cX6_told 29 = .ok (.aload_n 0, 1) := by decide +kernel
theorem dX6_told_30 : decode cX6_told 30 = .ok (.getfield 7, 3) := by decide +kernel
theorem dX6_told_33 : decode cX6_told 33 = .ok (.bipush 24, 2) := by decide +kernel
theorem dX6_told_35 : decode cX6_told 35 = .ok (.iload_n 1, 1) := by decide +kernel
theorem dX6_told_36 : decode cX6_told 36 = .ok (.bipush 100, 2) := by decide +kernel
theorem dX6_told_38 : decode cX6_told 38 = .ok (.irem, 1) := by decide +kernel
theorem dX6_told_39 : decode cX6_told 39 = .ok (.imul, 1) := by decide +kernel
theorem dX6_told_40 : decode cX6_told 40 = .ok (.iload_n 2, 1) := by decide +kernel
theorem dX6_told_41 : decode cX6_told 41 = .ok (.iadd, 1) := by decide +kernel
theorem dX6_told_42 : decode cX6_told 42 = .ok (.iaload, 1) := by decide +kernel
theorem dX6_told_43 : decode cX6_told 43 = .ok (.goto 5, 3) := by decide +kernel
theorem dX6_told_46 : decode cX6_told 46 = .ok (.bipush (-2), 2) := by decide +kernel
theorem dX6_told_48 : decode cX6_told 48 = .ok (.ireturn, 1) := by decide +kernel
theorem dX6_told_49 : decode cX6_told 49 = .ok (.iload_n 1, 1) := by decide +kernel
theorem dX6_told_50 : decode cX6_told 50 = .ok (.bipush 10, 2) := by decide +kernel
theorem dX6_told_52 : decode cX6_told 52 = .ok (.if_icmp .lt 28, 3) := by decide +kernel
theorem dX6_told_55 : decode cX6_told 55 = .ok (.iload_n 1, 1) := by decide +kernel
theorem dX6_told_56 : decode cX6_told 56 = .ok (.bipush 10, 2) := by decide +kernel
theorem dX6_told_58 : decode cX6_told 58 = .ok (.isub, 1) := by decide +kernel
theorem dX6_told_59 : decode cX6_told 59 = .ok (.invokestatic 49, 3) := by decide +kernel
theorem dX6_told_62 : decode cX6_told 62 = .ok (.ifCond .eq 15, 3) := by decide +kernel
theorem dX6_told_65 : decode cX6_told 65 = .ok (.aload_n 0, 1) := by decide +kernel
theorem dX6_told_66 : decode cX6_told 66 = .ok (.getfield 16, 3) := by decide +kernel
theorem dX6_told_69 : decode cX6_told 69 = .ok (.iload_n 1, 1) := by decide +kernel
theorem dX6_told_70 : decode cX6_told 70 = .ok (.bipush 10, 2) := by decide +kernel
theorem dX6_told_72 : decode cX6_told 72 = .ok (.isub, 1) := by decide +kernel
theorem dX6_told_73 : decode cX6_told 73 = .ok (.iaload, 1) := by decide +kernel
theorem dX6_told_74 : decode cX6_told 74 = .ok (.goto 5, 3) := by decide +kernel
theorem dX6_told_77 : decode cX6_told 77 = .ok (.bipush (-2), 2) := by decide +kernel
theorem dX6_told_79 : decode cX6_told 79 = .ok (.ireturn, 1) := by decide +kernel
theorem dX6_told_80 : decode cX6_told 80 = .ok (.aload_n 0, 1) := by decide +kernel
theorem dX6_told_81 : decode cX6_told 81 = .ok (.invokevirtual 84, 3) := by decide +kernel
theorem dX6_told_84 : decode cX6_told 84 = .ok (.iload_n 1, 1) := by decide +kernel
theorem dX6_told_85 : decode cX6_told 85 = .ok (.tableswitch 54 0 3 #[31, 36, 44, 49], 31) := by decide +kernel
theorem dX6_told_116 : decode cX6_told 116 = .ok (.aload_n 0, 1) := by decide +kernel
theorem dX6_told_117 : decode cX6_told 117 = .ok (.getfield 52, 3) := by decide +kernel
theorem dX6_told_120 : decode cX6_told 120 = .ok (.ireturn, 1) := by decide +kernel
theorem dX6_told_121 : decode cX6_told 121 = .ok (.aload_n 0, 1) := by decide +kernel
theorem dX6_told_122 : decode cX6_told 122 = .ok (.getfield 7, 3) := by decide +kernel
theorem dX6_told_125 : decode cX6_told 125 = .ok (.bipush 96, 2) := by decide +kernel
theorem dX6_told_127 : decode cX6_told 127 = .ok (.iaload, 1) := by decide +kernel
theorem dX6_told_128 : decode cX6_told 128 = .ok (.ireturn, 1) := by decide +kernel
theorem dX6_told_129 : decode cX6_told 129 = .ok (.aload_n 0, 1) := by decide +kernel
theorem dX6_told_130 : decode cX6_told 130 = .ok (.invokevirtual 112, 3) := by decide +kernel
theorem dX6_told_133 : decode cX6_told 133 = .ok (.ireturn, 1) := by decide +kernel
theorem dX6_told_134 : decode cX6_told 134 = .ok (.aload_n 0, 1) := by decide +kernel
theorem dX6_told_135 : decode cX6_told 135 = .ok (.getfield 134, 3) := by decide +kernel
theorem dX6_told_138 : decode cX6_told 138 = .ok (.ireturn, 1) := by decide +kernel
theorem dX6_told_139 : decode cX6_told 139 = .ok (.iload_n 1, 1) := by decide +kernel
theorem dX6_told_140 : decode cX6_told 140 = .ok (.iconst 4, 1) := by decide +kernel
theorem dX6_told_141 : decode cX6_told 141 = .ok (.if_icmp .ne 10, 3) := by decide +kernel
theorem dX6_told_144 : decode cX6_told 144 = .ok (.aload_n 0, 1) := by decide +kernel
theorem dX6_told_145 : decode cX6_told 145 = .ok (.invokevirtual 115, 3) := by decide +kernel
theorem dX6_told_148 : decode cX6_told 148 = .ok (.goto 5, 3) := by decide +kernel
theorem dX6_told_151 : decode cX6_told 151 = .ok (.bipush (-2), 2) := by decide +kernel
theorem dX6_told_153 : decode cX6_told 153 = .ok (.ireturn, 1) := by decide +kernel
end
section
theorem dJ6_bitCount_0f7a4_0 : decode cJ6_bitCount_0f7a4 0 = .ok (.iload_n 0, 1) := by decide +kernel
theorem dJ6_bitCount_0f7a4_1 : decode cJ6_bitCount_0f7a4 1 = .ok (.iload_n 0, 1) := by decide +kernel
theorem dJ6_bitCount_0f7a4_2 : decode cJ6_bitCount_0f7a4 2 = .ok (.iconst 1, 1) := by decide +kernel
theorem dJ6_bitCount_0f7a4_3 : decode cJ6_bitCount_0f7a4 3 = .ok (.iushr, 1) := by decide +kernel
theorem dJ6_bitCount_0f7a4_4 : decode cJ6_bitCount_0f7a4 4 = .ok (.ldc_w 265, 3) := by decide +kernel
theorem dJ6_bitCount_0f7a4_7 : decode cJ6_bitCount_0f7a4 7 = .ok (.iand, 1) := by decide +kernel
theorem dJ6_bitCount_0f7a4_8 : decode cJ6_bitCount_0f7a4 8 = .ok (.isub, 1) := by decide +kernel
theorem dJ6_bitCount_0f7a4_9 : decode cJ6_bitCount_0f7a4 9 = .ok (.istore_n 0, 1) := by decide +kernel
theorem dJ6_bitCount_0f7a4_10 : decode cJ6_bitCount_0f7a4 10 = .ok (.iload_n 0, 1) := by decide +kernel
theorem dJ6_bitCount_0f7a4_11 : decode cJ6_bitCount_0f7a4 11 = .ok (.ldc_w 266, 3) := by decide +kernel
theorem dJ6_bitCount_0f7a4_14 : decode cJ6_bitCount_0f7a4 14 = .ok (.iand, 1) := by decide +kernel
theorem dJ6_bitCount_0f7a4_15 : decode cJ6_bitCount_0f7a4 15 = .ok (.iload_n 0, 1) := by decide +kernel
theorem dJ6_bitCount_0f7a4_16 : decode cJ6_bitCount_0f7a4 16 = .ok (.iconst 2, 1) := by decide +kernel
theorem dJ6_bitCount_0f7a4_17 : decode cJ6_bitCount_0f7a4 17 = .ok (.iushr, 1) := by decide +kernel
theorem dJ6_bitCount_0f7a4_18 : decode cJ6_bitCount_0f7a4 18 = .ok (.ldc_w 266, 3) := by decide +kernel
theorem dJ6_bitCount_0f7a4_21 : decode cJ6_bitCount_0f7a4 21 = .ok (.iand, 1) := by decide +kernel
theorem dJ6_bitCount_0f7a4_22 : decode cJ6_bitCount_0f7a4 22 = .ok (.iadd, 1) := by decide +kernel
theorem dJ6_bitCount_0f7a4_23 : decode cJ6_bitCount_0f7a4 23 = .ok (.istore_n 0, 1) := by decide +kernel
theorem dJ6_bitCount_0f7a4_24 : decode cJ6_bitCount_0f7a4 24 = .ok (.iload_n 0, 1) := by decide +kernel
theorem dJ6_bitCount_0f7a4_25 : decode cJ6_bitCount_0f7a4 25 = .ok (.iload_n 0, 1) := by decide +kernel
theorem dJ6_bitCount_0f7a4_26 : decode cJ6_bitCount_0f7a4 26 = .ok (.iconst 4, 1) := by decide +kernel
theorem dJ6_bitCount_0f7a4_27 : decode cJ6_bitCount_0f7a4 27 = .ok (.iushr, 1) := by decide +kernel
theorem dJ6_bitCount_0f7a4_28 : decode cJ6_bitCount_0f7a4 28 = .ok (.iadd, 1) := by decide +kernel
theorem dJ6_bitCount_0f7a4_29 : decode cJ6_bitCount_0f7a4 29 = .ok (.ldc_w 267, 3) := by decide +kernel
theorem dJ6_bitCount_0f7a4_32 : decode cJ6_bitCount_0f7a4 32 = .ok (.iand, 1) := by decide +kernel
theorem dJ6_bitCount_0f7a4_33 : decode cJ6_bitCount_0f7a4 33 = .ok (.istore_n 0, 1) := by decide +kernel
theorem dJ6_bitCount_0f7a4_34 : decode cJ6_bitCount_0f7a4 34 = .ok (.iload_n 0, 1) := by decide +kernel
theorem dJ6_bitCount_0f7a4_35 : decode cJ6_bitCount_0f7a4 35 = .ok (.iload_n 0, 1) := by decide +kernel
theorem dJ6_bitCount_0f7a4_36 : decode cJ6_bitCount_0f7a4 36 = .ok (.bipush 8, 2) := by decide +kernel
theorem dJ6_bitCount_0f7a4_38 : decode cJ6_bitCount_0f7a4 38 = .ok (.iushr, 1) := by decide +kernel
theorem dJ6_bitCount_0f7a4_39 : decode cJ6_bitCount_0f7a4 39 = .ok (.iadd, 1) := by decide +kernel
theorem dJ6_bitCount_0f7a4_40 : decode cJ6_bitCount_0f7a4 40 = .ok (.istore_n 0, 1) := by decide +kernel
theorem dJ6_bitCount_0f7a4_41 : decode cJ6_bitCount_0f7a4 41 = .ok (.iload_n 0, 1) := by decide +kernel
theorem dJ6_bitCount_0f7a4_42 : decode cJ6_bitCount_0f7a4 42 = .ok (.iload_n 0, 1) := by decide +kernel
theorem dJ6_bitCount_0f7a4_43 : decode cJ6_bitCount_0f7a4 43 = .ok (.bipush 16, 2) := by decide +kernel
theorem dJ6_bitCount_0f7a4_45 : decode cJ6_bitCount_0f7a4 45 = .ok (.iushr, 1) := by decide +kernel
theorem dJ6_bitCount_0f7a4_46 : decode cJ6_bitCount_0f7a4 46 = .ok (.iadd, 1) := by decide +kernel
theorem dJ6_bitCount_0f7a4_47 : decode cJ6_bitCount_0f7a4 47 = .ok (.istore_n 0, 1) := by decide +kernel
theorem dJ6_bitCount_0f7a4_48 : decode cJ6_bitCount_0f7a4 48 = .ok (.iload_n 0, 1) := by decide +kernel
theorem dJ6_bitCount_0f7a4_49 : decode cJ6_bitCount_0f7a4 49 = .ok (.bipush 63, 2) := by decide +kernel
theorem dJ6_bitCount_0f7a4_51 : decode cJ6_bitCount_0f7a4 51 = .ok (.iand, 1) := by decide +kernel
theorem dJ6_bitCount_0f7a4_52 : decode cJ6_bitCount_0f7a4 52 = .ok (.ireturn, 1) := by decide +kernel
theorem dJ9_max_7cf53_0 : decode cJ9_max_7cf53 0 = .ok (.iload_n 0, 1) := by decide +kernel
theorem dJ9_max_7cf53_1 : decode cJ9_max_7cf53 1 = .ok (.iload_n 1, 1) := by decide +kernel
theorem dJ9_max_7cf53_2 : decode cJ9_max_7cf53 2 = .ok (.if_icmp .lt 7, 3) := by decide +kernel
theorem dJ9_max_7cf53_5 : decode cJ9_max_7cf53 5 = .ok (.iload_n 0, 1) := by decide +kernel
theorem dJ9_max_7cf53_6 : decode cJ9_max_7cf53 6 = .ok (.goto 4, 3) := by decide +kernel
theorem dJ9_max_7cf53_9 : decode cJ9_max_7cf53 9 = .ok (.iload_n 1, 1) := by decide +kernel
theorem dJ9_max_7cf53_10 : decode cJ9_max_7cf53 10 = .ok (.ireturn, 1) := by decide +kernel
theorem dJ9_min_7cf53_0 : decode cJ9_min_7cf53 0 = .ok (.iload_n 0, 1) := by decide +kernel
theorem dJ9_min_7cf53_1 : decode cJ9_min_7cf53 1 = .ok (.iload_n 1, 1) := by decide +kernel
theorem dJ9_min_7cf53_2 : decode cJ9_min_7cf53 2 = .ok (.if_icmp .gt 7, 3) := by decide +kernel
theorem dJ9_min_7cf53_5 : decode cJ9_min_7cf53 5 = .ok (.iload_n 0, 1) := by decide +kernel
theorem dJ9_min_7cf53_6 : decode cJ9_min_7cf53 6 = .ok (.goto 4, 3) := by decide +kernel
theorem dJ9_min_7cf53_9 : decode cJ9_min_7cf53 9 = .ok (.iload_n 1, 1) := by decide +kernel
theorem dJ9_min_7cf53_10 : decode cJ9_min_7cf53 10 = .ok (.ireturn, 1) := by decide +kernel
set_option maxRecDepth 20000 in
theorem ggL_law_X5_init : GoodIn wsL_law wsX5_init := goodIn_r _ [8, 9, 10, 11, 12, 13, 14, 15, 16, 17, 18, 19, 20, 21, 22, 23, 24, 25, 26, 27, 28, 29, 30, 31, 32, 33, 34, 35, 36, 37, 38, 39, 40, 41, 42, 43, 44, 45, 46, 47, 48, 49, 50, 51, 52, 53, 54, 55, 56, 57, 58, 59, 722, 723, 724, 725, 699, 700, 701, 702, 703, 704, 705, 706, 726, 727, 728, 729, 730, 731, 732, 733, 734, 735, 736, 737, 738] (by decide +kernel) (by decide +kernel)
set_option maxRecDepth 20000 in
theorem gL_law_X5_init : GoodIn wsL_law (wsX5_init) := ggL_law_X5_init
set_option maxRecDepth 20000 in
theorem ggL_law_X6_init : GoodIn wsL_law wsX6_init := goodIn_r _ [62, 63, 10, 11, 30, 64, 65, 66, 67, 68, 69, 70, 71, 72, 73, 74, 707, 708, 709, 710, 711, 712, 713, 714, 715, 716, 717, 718, 719, 720, 721] (by decide +kernel) (by decide +kernel)
set_option maxRecDepth 20000 in
theorem gL_law_X6_init : GoodIn wsL_law (wsX6_init) := ggL_law_X6_init
set_option maxRecDepth 20000 in
theorem ggL_law_X5_stitch : GoodIn wsL_law wsX5_stitch := goodIn_r _ [78, 15, 79, 80, 81, 82, 83, 37, 84, 85, 86, 2, 87, 88, 89, 90, 91, 92, 93, 94, 95, 96, 44, 45, 46, 97, 98, 699, 700, 701, 702, 703, 704, 705, 706, 722, 723, 724, 725, 734, 735, 736, 737, 738] (by decide +kernel) (by decide +kernel)
set_option maxRecDepth 20000 in
theorem gL_law_X5_stitch : GoodIn wsL_law (wsV RL 13 RX5 yX5_stitch wsX5_stitch) := goodIn_app (goodIn_of _ (by decide +kernel)) ggL_law_X5_stitch
set_option maxRecDepth 20000 in
theorem ggL_law_X6_stitch : GoodIn wsL_law wsX6_stitch := goodIn_r _ [102, 64, 103, 104, 105, 5, 106, 107, 108, 109, 707, 708, 709, 710, 711, 712, 713, 714, 715, 716, 717, 718, 719, 720, 721] (by decide +kernel) (by decide +kernel)
set_option maxRecDepth 20000 in
theorem gL_law_X6_stitch : GoodIn wsL_law (wsV RL 17 RX6 yX6_stitch wsX6_stitch) := goodIn_app (goodIn_of _ (by decide +kernel)) ggL_law_X6_stitch
set_option maxRecDepth 20000 in
theorem ggL_law_X5_cast : GoodIn wsL_law wsX5_cast := goodIn_r _ [113, 15, 79, 80, 114, 115, 116, 37, 117, 85, 118, 699, 700, 701, 702, 703, 704, 705, 706, 722, 723, 724, 725, 734, 735, 736, 737, 738] (by decide +kernel) (by decide +kernel)
set_option maxRecDepth 20000 in
theorem gL_law_X5_cast : GoodIn wsL_law (wsV RL 18 RX5 yX5_cast wsX5_cast) := goodIn_app (goodIn_of _ (by decide +kernel)) ggL_law_X5_cast
set_option maxRecDepth 20000 in
theorem ggL_law_X6_cast : GoodIn wsL_law wsX6_cast := goodIn_r _ [122, 64, 707, 708, 709, 710, 711, 712, 713, 714, 715, 716, 717, 718, 719, 720, 721] (by decide +kernel) (by decide +kernel)
set_option maxRecDepth 20000 in
theorem gL_law_X6_cast : GoodIn wsL_law (wsV RL 22 RX6 yX6_cast wsX6_cast) := goodIn_app (goodIn_of _ (by decide +kernel)) ggL_law_X6_cast
set_option maxRecDepth 20000 in
theorem ggL_law_X5_knitter : GoodIn wsL_law wsX5_knitter := goodIn_r _ [126, 15, 127, 88, 86, 2, 87, 128, 129, 130, 14, 131, 39, 132, 133, 134, 97, 98, 699, 700, 701, 702, 703, 704, 705, 706, 722, 723, 724, 725] (by decide +kernel) (by decide +kernel)
set_option maxRecDepth 20000 in
theorem gL_law_X5_knitter : GoodIn wsL_law (wsV RL 23 RX5 yX5_knitter wsX5_knitter) := goodIn_app (goodIn_of _ (by decide +kernel)) ggL_law_X5_knitter
set_option maxRecDepth 20000 in
theorem ggL_law_X6_knitter : GoodIn wsL_law wsX6_knitter := goodIn_r _ [138, 66, 139, 140, 5, 141, 107, 108, 109, 707, 708, 709, 710, 711, 712, 713, 714, 715, 716, 717, 718, 719, 720, 721] (by decide +kernel) (by decide +kernel)
set_option maxRecDepth 20000 in
theorem gL_law_X6_knitter : GoodIn wsL_law (wsV RL 27 RX6 yX6_knitter wsX6_knitter) := goodIn_app (goodIn_of _ (by decide +kernel)) ggL_law_X6_knitter
set_option maxRecDepth 20000 in
theorem ggL_law_X5_say : GoodIn wsL_law wsX5_say := goodIn_r _ [145, 21, 146, 147, 148, 149, 20, 150, 50, 151, 97, 2, 98, 699, 700, 701, 702, 703, 704, 705, 706, 726, 727] (by decide +kernel) (by decide +kernel)
set_option maxRecDepth 20000 in
theorem gL_law_X5_say : GoodIn wsL_law (wsV RL 28 RX5 yX5_say wsX5_say) := goodIn_app (goodIn_of _ (by decide +kernel)) ggL_law_X5_say
set_option maxRecDepth 20000 in
theorem ggL_law_X6_say : GoodIn wsL_law wsX6_say := goodIn_r _ [155, 156, 68, 107, 108, 5, 109, 707, 708, 709, 710, 711, 712, 713, 714, 715, 716, 717, 718, 719, 720, 721] (by decide +kernel) (by decide +kernel)
set_option maxRecDepth 20000 in
theorem gL_law_X6_say : GoodIn wsL_law (wsV RL 32 RX6 yX6_say wsX6_say) := goodIn_app (goodIn_of _ (by decide +kernel)) ggL_law_X6_say
set_option maxRecDepth 20000 in
theorem ggL_law_X5_wipe : GoodIn wsL_law wsX5_wipe := goodIn_r _ [160, 21, 146, 699, 700, 701, 702, 703, 704, 705, 706, 726, 727] (by decide +kernel) (by decide +kernel)
set_option maxRecDepth 20000 in
theorem gL_law_X5_wipe : GoodIn wsL_law (wsV RL 33 RX5 yX5_wipe wsX5_wipe) := goodIn_app (goodIn_of _ (by decide +kernel)) ggL_law_X5_wipe
set_option maxRecDepth 20000 in
theorem ggL_law_X6_wipe : GoodIn wsL_law wsX6_wipe := goodIn_r _ [164, 156, 707, 708, 709, 710, 711, 712, 713, 714, 715, 716, 717, 718, 719, 720, 721] (by decide +kernel) (by decide +kernel)
set_option maxRecDepth 20000 in
theorem gL_law_X6_wipe : GoodIn wsL_law (wsV RL 36 RX6 yX6_wipe wsX6_wipe) := goodIn_app (goodIn_of _ (by decide +kernel)) ggL_law_X6_wipe
set_option maxRecDepth 20000 in
theorem ggL_law_X5_fault : GoodIn wsL_law wsX5_fault := goodIn_r _ [168, 21, 169, 170, 171, 20, 172, 151, 173, 174, 175, 176, 177, 178, 179, 180, 50, 132, 2, 133, 86, 87, 181, 182, 183, 184, 185, 186, 187, 188, 189, 190, 191, 192, 193, 194, 195, 699, 700, 701, 702, 703, 704, 705, 706, 726, 727] (by decide +kernel) (by decide +kernel)
set_option maxRecDepth 20000 in
theorem gL_law_X5_fault : GoodIn wsL_law (wsV RL 37 RX5 yX5_fault wsX5_fault) := goodIn_app (goodIn_of _ (by decide +kernel)) ggL_law_X5_fault
set_option maxRecDepth 20000 in
theorem ggL_law_X6_fault : GoodIn wsL_law wsX6_fault := goodIn_r _ [199, 200, 201, 202, 5, 203, 156, 68, 204, 205, 206, 107, 108, 109, 207, 208, 209, 707, 708, 709, 710, 711, 712, 713, 714, 715, 716, 717, 718, 719, 720, 721] (by decide +kernel) (by decide +kernel)
set_option maxRecDepth 20000 in
theorem gL_law_X6_fault : GoodIn wsL_law (wsV RL 40 RX6 yX6_fault wsX6_fault) := goodIn_app (goodIn_of _ (by decide +kernel)) ggL_law_X6_fault
set_option maxRecDepth 20000 in
theorem ggL_law_X5_judge : GoodIn wsL_law wsX5_judge := goodIn_r _ [213, 21, 25, 214, 215, 88, 86, 2, 87, 169, 170, 171, 20, 172, 151, 173, 174, 175, 176, 177, 178, 179, 180, 50, 132, 133, 181, 182, 183, 184, 185, 186, 187, 188, 189, 190, 191, 192, 193, 194, 195, 216, 217, 218, 219, 15, 79, 146, 220, 221, 222, 24, 223, 55, 224, 225, 226, 227, 228, 229, 230, 37, 231, 85, 118, 44, 45, 46, 97, 98, 232, 233, 234, 235, 128, 129, 130, 14, 131, 39, 236, 237, 238, 239, 240, 241, 242, 243, 244, 90, 91, 92, 245, 82, 83, 84, 246, 247, 248, 249, 250, 251, 252, 253, 254, 255, 256, 257, 258, 259, 260, 261, 262, 263, 264, 265, 266, 267, 268, 269, 270, 271, 272, 273, 274, 275, 276, 277, 278, 279, 280, 281, 282, 283, 284, 285, 286, 287, 288, 289, 290, 291, 292, 293, 294, 295, 94, 95, 96, 699, 700, 701, 702, 703, 704, 705, 706, 728, 729, 730, 731, 732, 726, 727, 722, 723, 724, 725, 734, 735, 736, 737, 738] (by decide +kernel) (by decide +kernel)
set_option maxRecDepth 20000 in
theorem gL_law_X5_judge : GoodIn wsL_law (wsV RL 41 RX5 yX5_judge wsX5_judge) := goodIn_app (goodIn_of _ (by decide +kernel)) ggL_law_X5_judge
set_option maxRecDepth 20000 in
theorem ggL_law_X6_judge : GoodIn wsL_law wsX6_judge := goodIn_r _ [299, 300, 107, 108, 5, 109, 200, 201, 202, 203, 156, 68, 204, 205, 206, 207, 208, 209, 301, 302, 303, 304, 305, 306, 307, 308, 309, 310, 65, 64, 311, 312, 313, 314, 66, 315, 316, 317, 318, 319, 320, 321, 322, 323, 324, 325, 326, 327, 328, 329, 69, 330, 331, 332, 333, 334, 335, 336, 337, 338, 339, 340, 707, 708, 709, 710, 711, 712, 713, 714, 715, 716, 717, 718, 719, 720, 721] (by decide +kernel) (by decide +kernel)
set_option maxRecDepth 20000 in
theorem gL_law_X6_judge : GoodIn wsL_law (wsV RL 44 RX6 yX6_judge wsX6_judge) := goodIn_app (goodIn_of _ (by decide +kernel)) ggL_law_X6_judge
set_option maxRecDepth 20000 in
theorem ggL_law_X5_done : GoodIn wsL_law wsX5_done := goodIn_r _ [344, 15, 79, 25, 345, 21, 146, 214, 346, 347, 348, 2, 349, 169, 170, 171, 20, 172, 151, 173, 174, 175, 176, 177, 178, 179, 180, 50, 132, 133, 86, 87, 181, 182, 183, 184, 185, 186, 187, 188, 189, 190, 191, 192, 193, 194, 195, 216, 217, 218, 219, 220, 221, 222, 24, 223, 55, 224, 225, 226, 227, 228, 229, 230, 37, 231, 85, 118, 44, 45, 46, 97, 98, 232, 233, 234, 235, 128, 129, 130, 14, 131, 39, 236, 237, 238, 239, 240, 241, 242, 243, 244, 90, 91, 92, 245, 82, 83, 84, 246, 247, 248, 249, 250, 251, 252, 253, 254, 255, 256, 257, 258, 259, 260, 261, 262, 263, 264, 265, 266, 267, 268, 269, 270, 271, 272, 273, 274, 275, 276, 277, 278, 279, 280, 281, 282, 283, 284, 285, 286, 287, 288, 289, 290, 291, 292, 293, 294, 295, 94, 95, 96, 350, 699, 700, 701, 702, 703, 704, 705, 706, 722, 723, 724, 725, 728, 729, 730, 731, 732, 726, 727, 734, 735, 736, 737, 738] (by decide +kernel) (by decide +kernel)
set_option maxRecDepth 20000 in
theorem gL_law_X5_done : GoodIn wsL_law (wsV RL 45 RX5 yX5_done wsX5_done) := goodIn_app (goodIn_of _ (by decide +kernel)) ggL_law_X5_done
set_option maxRecDepth 20000 in
theorem ggL_law_X6_done : GoodIn wsL_law wsX6_done := goodIn_r _ [354, 64, 65, 156, 305, 355, 356, 357, 5, 358, 200, 201, 202, 203, 68, 204, 205, 206, 107, 108, 109, 207, 208, 209, 301, 302, 303, 304, 300, 306, 307, 308, 309, 310, 311, 312, 313, 314, 66, 315, 316, 317, 318, 319, 320, 321, 322, 323, 324, 325, 326, 327, 328, 329, 69, 330, 331, 332, 333, 334, 335, 336, 337, 338, 339, 340, 707, 708, 709, 710, 711, 712, 713, 714, 715, 716, 717, 718, 719, 720, 721] (by decide +kernel) (by decide +kernel)
set_option maxRecDepth 20000 in
theorem gL_law_X6_done : GoodIn wsL_law (wsV RL 48 RX6 yX6_done wsX6_done) := goodIn_app (goodIn_of _ (by decide +kernel)) ggL_law_X6_done
set_option maxRecDepth 20000 in
theorem ggL_law_X5_behind : GoodIn wsL_law wsX5_behind := goodIn_r _ [362, 25, 345, 80, 363, 364, 88, 86, 2, 87, 346, 347, 348, 349, 21, 169, 170, 171, 20, 172, 151, 173, 174, 175, 176, 177, 178, 179, 180, 50, 132, 133, 181, 182, 183, 184, 185, 186, 187, 188, 189, 190, 191, 192, 193, 194, 195, 216, 217, 218, 219, 15, 79, 146, 220, 221, 222, 24, 223, 55, 224, 225, 226, 227, 228, 229, 230, 37, 231, 85, 118, 44, 45, 46, 97, 98, 232, 233, 234, 235, 128, 129, 130, 14, 131, 39, 236, 237, 238, 239, 240, 241, 242, 243, 244, 90, 91, 92, 245, 82, 83, 84, 246, 247, 248, 249, 250, 251, 252, 253, 254, 255, 256, 257, 258, 259, 260, 261, 262, 263, 264, 265, 266, 267, 268, 269, 270, 271, 272, 273, 274, 275, 276, 277, 278, 279, 280, 281, 282, 283, 284, 285, 286, 287, 288, 289, 290, 291, 292, 293, 294, 295, 94, 95, 96, 365, 366, 367, 368, 699, 700, 701, 702, 703, 704, 705, 706, 728, 729, 730, 731, 732, 734, 735, 736, 737, 738, 726, 727, 722, 723, 724, 725] (by decide +kernel) (by decide +kernel)
set_option maxRecDepth 20000 in
theorem gL_law_X5_behind : GoodIn wsL_law (wsV RL 49 RX5 yX5_behind wsX5_behind) := goodIn_app (goodIn_of _ (by decide +kernel)) ggL_law_X5_behind
set_option maxRecDepth 20000 in
theorem ggL_law_X6_behind : GoodIn wsL_law wsX6_behind := goodIn_r _ [372, 65, 306, 107, 108, 5, 109, 355, 356, 357, 358, 200, 201, 202, 203, 156, 68, 204, 205, 206, 207, 208, 209, 301, 302, 303, 304, 305, 300, 307, 308, 309, 310, 64, 311, 312, 313, 314, 66, 315, 316, 317, 318, 319, 320, 321, 322, 323, 324, 325, 326, 327, 328, 329, 69, 330, 331, 332, 333, 334, 335, 336, 337, 338, 339, 340, 373, 374, 375, 376, 377, 378, 379, 380, 707, 708, 709, 710, 711, 712, 713, 714, 715, 716, 717, 718, 719, 720, 721] (by decide +kernel) (by decide +kernel)
set_option maxRecDepth 20000 in
theorem gL_law_X6_behind : GoodIn wsL_law (wsV RL 52 RX6 yX6_behind wsX6_behind) := goodIn_app (goodIn_of _ (by decide +kernel)) ggL_law_X6_behind
set_option maxRecDepth 20000 in
theorem ggL_law_X5_of : GoodIn wsL_law wsX5_of := goodIn_r _ [384, 25, 345, 88, 86, 2, 87, 346, 347, 348, 349, 21, 169, 170, 171, 20, 172, 151, 173, 174, 175, 176, 177, 178, 179, 180, 50, 132, 133, 181, 182, 183, 184, 185, 186, 187, 188, 189, 190, 191, 192, 193, 194, 195, 216, 217, 218, 219, 15, 79, 146, 220, 221, 222, 24, 223, 55, 224, 225, 226, 227, 228, 229, 230, 37, 231, 85, 118, 44, 45, 46, 97, 98, 232, 233, 234, 235, 128, 129, 130, 14, 131, 39, 236, 237, 238, 239, 240, 241, 242, 243, 244, 90, 91, 92, 245, 82, 83, 84, 246, 247, 248, 249, 250, 251, 252, 253, 254, 255, 256, 257, 258, 259, 260, 261, 262, 263, 264, 265, 266, 267, 268, 269, 270, 271, 272, 273, 274, 275, 276, 277, 278, 279, 280, 281, 282, 283, 284, 285, 286, 287, 288, 289, 290, 291, 292, 293, 294, 295, 94, 95, 96, 81, 385, 386, 387, 388, 699, 700, 701, 702, 703, 704, 705, 706, 728, 729, 730, 731, 732, 726, 727, 722, 723, 724, 725, 734, 735, 736, 737, 738] (by decide +kernel) (by decide +kernel)
set_option maxRecDepth 20000 in
theorem gL_law_X5_of : GoodIn wsL_law (wsV RL 53 RX5 yX5_of wsX5_of) := goodIn_app (goodIn_of _ (by decide +kernel)) ggL_law_X5_of
set_option maxRecDepth 20000 in
theorem ggL_law_X6_of : GoodIn wsL_law wsX6_of := goodIn_r _ [392, 65, 107, 108, 5, 109, 355, 356, 357, 358, 200, 201, 202, 203, 156, 68, 204, 205, 206, 207, 208, 209, 301, 302, 303, 304, 305, 300, 306, 307, 308, 309, 310, 64, 311, 312, 313, 314, 66, 315, 316, 317, 318, 319, 320, 321, 322, 323, 324, 325, 326, 327, 328, 329, 69, 330, 331, 332, 333, 334, 335, 336, 337, 338, 339, 340, 707, 708, 709, 710, 711, 712, 713, 714, 715, 716, 717, 718, 719, 720, 721] (by decide +kernel) (by decide +kernel)
set_option maxRecDepth 20000 in
theorem gL_law_X6_of : GoodIn wsL_law (wsV RL 56 RX6 yX6_of wsX6_of) := goodIn_app (goodIn_of _ (by decide +kernel)) ggL_law_X6_of
set_option maxRecDepth 20000 in
theorem ggL_law_X5_pull : GoodIn wsL_law wsX5_pull := goodIn_r _ [396, 15, 79, 81, 82, 83, 37, 84, 85, 86, 2, 87, 397, 257, 258, 259, 46, 132, 133, 250, 251, 398, 264, 265, 266, 267, 268, 269, 699, 700, 701, 702, 703, 704, 705, 706, 722, 723, 724, 725, 734, 735, 736, 737, 738] (by decide +kernel) (by decide +kernel)
set_option maxRecDepth 20000 in
theorem gL_law_X5_pull : GoodIn wsL_law (wsV RL 57 RX5 yX5_pull wsX5_pull) := goodIn_app (goodIn_of _ (by decide +kernel)) ggL_law_X5_pull
set_option maxRecDepth 20000 in
theorem ggL_law_X6_pull : GoodIn wsL_law wsX6_pull := goodIn_r _ [402, 103, 104, 105, 5, 106, 64, 107, 108, 109, 307, 308, 309, 310, 65, 306, 319, 320, 321, 322, 323, 324, 325, 330, 331, 332, 707, 708, 709, 710, 711, 712, 713, 714, 715, 716, 717, 718, 719, 720, 721] (by decide +kernel) (by decide +kernel)
set_option maxRecDepth 20000 in
theorem gL_law_X6_pull : GoodIn wsL_law (wsV RL 60 RX6 yX6_pull wsX6_pull) := goodIn_app (goodIn_of _ (by decide +kernel)) ggL_law_X6_pull
set_option maxRecDepth 20000 in
theorem ggL_law_X5_pulls : GoodIn wsL_law wsX5_pulls := goodIn_r _ [406, 15, 79, 407, 408, 409, 37, 410, 85, 88, 86, 2, 87, 411, 412, 413, 414, 46, 132, 133, 250, 251, 415, 416, 417, 418, 419, 420, 421, 422, 398, 264, 265, 266, 267, 268, 269, 699, 700, 701, 702, 703, 704, 705, 706, 722, 723, 724, 725, 734, 735, 736, 737, 738] (by decide +kernel) (by decide +kernel)
set_option maxRecDepth 20000 in
theorem gL_law_X5_pulls : GoodIn wsL_law (wsV RL 61 RX5 yX5_pulls wsX5_pulls) := goodIn_app (goodIn_of _ (by decide +kernel)) ggL_law_X5_pulls
set_option maxRecDepth 20000 in
theorem ggL_law_X6_pulls : GoodIn wsL_law wsX6_pulls := goodIn_r _ [426, 64, 65, 107, 108, 5, 109, 307, 308, 309, 310, 306, 323, 324, 325, 319, 320, 321, 322, 330, 331, 332, 707, 708, 709, 710, 711, 712, 713, 714, 715, 716, 717, 718, 719, 720, 721] (by decide +kernel) (by decide +kernel)
set_option maxRecDepth 20000 in
theorem gL_law_X6_pulls : GoodIn wsL_law (wsV RL 64 RX6 yX6_pulls wsX6_pulls) := goodIn_app (goodIn_of _ (by decide +kernel)) ggL_law_X6_pulls
set_option maxRecDepth 20000 in
theorem ggL_law_X5_pattern : GoodIn wsL_law wsX5_pattern := goodIn_r _ [430, 15, 79, 431, 432, 433, 37, 434, 85, 435, 436, 437, 438, 44, 439, 440, 441, 442, 270, 247, 248, 249, 118, 250, 2, 251, 132, 133, 699, 700, 701, 702, 703, 704, 705, 706, 722, 723, 724, 725, 734, 735, 736, 737, 738] (by decide +kernel) (by decide +kernel)
set_option maxRecDepth 20000 in
theorem gL_law_X5_pattern : GoodIn wsL_law (wsV RL 65 RX5 yX5_pattern wsX5_pattern) := goodIn_app (goodIn_of _ (by decide +kernel)) ggL_law_X5_pattern
set_option maxRecDepth 20000 in
theorem ggL_law_X6_pattern : GoodIn wsL_law wsX6_pattern := goodIn_r _ [446, 447, 448, 449, 5, 450, 64, 707, 708, 709, 710, 711, 712, 713, 714, 715, 716, 717, 718, 719, 720, 721] (by decide +kernel) (by decide +kernel)
set_option maxRecDepth 20000 in
theorem gL_law_X6_pattern : GoodIn wsL_law (wsV RL 68 RX6 yX6_pattern wsX6_pattern) := goodIn_app (goodIn_of _ (by decide +kernel)) ggL_law_X6_pattern
set_option maxRecDepth 20000 in
theorem ggL_law_X5_hole : GoodIn wsL_law wsX5_hole := goodIn_r _ [454, 15, 79, 81, 82, 83, 37, 84, 85, 86, 2, 87, 455, 247, 248, 249, 118, 250, 251, 456, 457, 458, 459, 44, 460, 432, 433, 434, 435, 436, 437, 438, 439, 440, 441, 442, 270, 132, 133, 699, 700, 701, 702, 703, 704, 705, 706, 722, 723, 724, 725, 734, 735, 736, 737, 738] (by decide +kernel) (by decide +kernel)
set_option maxRecDepth 20000 in
theorem gL_law_X5_hole : GoodIn wsL_law (wsV RL 69 RX5 yX5_hole wsX5_hole) := goodIn_app (goodIn_of _ (by decide +kernel)) ggL_law_X5_hole
set_option maxRecDepth 20000 in
theorem ggL_law_X6_hole : GoodIn wsL_law wsX6_hole := goodIn_r _ [464, 64, 103, 104, 105, 5, 106, 107, 108, 109, 447, 448, 449, 450, 707, 708, 709, 710, 711, 712, 713, 714, 715, 716, 717, 718, 719, 720, 721] (by decide +kernel) (by decide +kernel)
set_option maxRecDepth 20000 in
theorem gL_law_X6_hole : GoodIn wsL_law (wsV RL 72 RX6 yX6_hole wsX6_hole) := goodIn_app (goodIn_of _ (by decide +kernel)) ggL_law_X6_hole
set_option maxRecDepth 20000 in
theorem ggL_law_X5_rip : GoodIn wsL_law wsX5_rip := goodIn_r _ [468, 469, 15, 79, 80, 88, 86, 2, 87, 470, 250, 251, 471, 472, 473, 474, 16, 17, 475, 476, 477, 478, 31, 479, 480, 276, 277, 278, 134, 97, 98, 481, 132, 133, 699, 700, 701, 702, 703, 704, 705, 706, 722, 723, 724, 725, 734, 735, 736, 737, 738] (by decide +kernel) (by decide +kernel)
set_option maxRecDepth 20000 in
theorem gL_law_X5_rip : GoodIn wsL_law (wsV RL 73 RX5 yX5_rip wsX5_rip) := goodIn_app (goodIn_of _ (by decide +kernel)) ggL_law_X5_rip
set_option maxRecDepth 20000 in
theorem ggL_law_X6_rip : GoodIn wsL_law wsX6_rip := goodIn_r _ [485, 72, 70, 64, 73, 107, 108, 5, 109, 707, 708, 709, 710, 711, 712, 713, 714, 715, 716, 717, 718, 719, 720, 721] (by decide +kernel) (by decide +kernel)
set_option maxRecDepth 20000 in
theorem gL_law_X6_rip : GoodIn wsL_law (wsV RL 76 RX6 yX6_rip wsX6_rip) := goodIn_app (goodIn_of _ (by decide +kernel)) ggL_law_X6_rip
set_option maxRecDepth 20000 in
theorem ggL_law_X5_hold : GoodIn wsL_law wsX5_hold := goodIn_r _ [489, 88, 86, 2, 87, 490, 491, 492, 493, 15, 79, 494, 495, 496, 37, 497, 85, 45, 132, 133, 498, 499, 500, 501, 502, 503, 504, 505, 80, 699, 700, 701, 702, 703, 704, 705, 706, 722, 723, 724, 725, 734, 735, 736, 737, 738] (by decide +kernel) (by decide +kernel)
set_option maxRecDepth 20000 in
theorem gL_law_X5_hold : GoodIn wsL_law (wsV RL 77 RX5 yX5_hold wsX5_hold) := goodIn_app (goodIn_of _ (by decide +kernel)) ggL_law_X5_hold
set_option maxRecDepth 20000 in
theorem ggL_law_X6_hold : GoodIn wsL_law wsX6_hold := goodIn_r _ [509, 107, 108, 5, 109, 510, 511, 512, 513, 64, 514, 707, 708, 709, 710, 711, 712, 713, 714, 715, 716, 717, 718, 719, 720, 721] (by decide +kernel) (by decide +kernel)
set_option maxRecDepth 20000 in
theorem gL_law_X6_hold : GoodIn wsL_law (wsV RL 80 RX6 yX6_hold wsX6_hold) := goodIn_app (goodIn_of _ (by decide +kernel)) ggL_law_X6_hold
set_option maxRecDepth 20000 in
theorem ggL_law_X5_hands : GoodIn wsL_law wsX5_hands := goodIn_r _ [518, 29, 15, 79, 80, 519, 520, 521, 28, 522, 523, 524, 525, 59, 132, 2, 133, 526, 527, 528, 529, 530, 531, 532, 533, 277, 534, 535, 536, 537, 538, 539, 129, 130, 14, 131, 39, 250, 251, 97, 98, 540, 541, 542, 543, 699, 700, 701, 702, 703, 704, 705, 706, 722, 723, 724, 725, 734, 735, 736, 737, 738, 733] (by decide +kernel) (by decide +kernel)
set_option maxRecDepth 20000 in
theorem gL_law_X5_hands : GoodIn wsL_law (wsV RL 81 RX5 yX5_hands wsX5_hands) := goodIn_app (goodIn_of _ (by decide +kernel)) ggL_law_X5_hands
set_option maxRecDepth 20000 in
theorem ggL_law_X6_hands : GoodIn wsL_law wsX6_hands := goodIn_r _ [547, 64, 514, 548, 549, 550, 5, 551, 74, 552, 553, 554, 555, 66, 107, 108, 109, 556, 557, 558, 559, 707, 708, 709, 710, 711, 712, 713, 714, 715, 716, 717, 718, 719, 720, 721] (by decide +kernel) (by decide +kernel)
set_option maxRecDepth 20000 in
theorem gL_law_X6_hands : GoodIn wsL_law (wsV RL 84 RX6 yX6_hands wsX6_hands) := goodIn_app (goodIn_of _ (by decide +kernel)) ggL_law_X6_hands
set_option maxRecDepth 20000 in
theorem ggL_law_X5_who : GoodIn wsL_law wsX5_who := goodIn_r _ [563, 15, 79, 29, 80, 81, 82, 83, 37, 84, 85, 86, 2, 87, 519, 520, 521, 28, 522, 523, 524, 525, 59, 132, 133, 526, 527, 528, 529, 530, 531, 532, 533, 277, 534, 535, 536, 537, 538, 539, 129, 130, 14, 131, 39, 250, 251, 97, 98, 540, 541, 542, 543, 564, 565, 566, 567, 568, 569, 570, 571, 699, 700, 701, 702, 703, 704, 705, 706, 722, 723, 724, 725, 734, 735, 736, 737, 738, 733] (by decide +kernel) (by decide +kernel)
set_option maxRecDepth 20000 in
theorem gL_law_X5_who : GoodIn wsL_law (wsV RL 85 RX5 yX5_who wsX5_who) := goodIn_app (goodIn_of _ (by decide +kernel)) ggL_law_X5_who
set_option maxRecDepth 20000 in
theorem ggL_law_X6_who : GoodIn wsL_law wsX6_who := goodIn_r _ [575, 514, 74, 103, 104, 105, 5, 106, 64, 107, 108, 109, 548, 549, 550, 551, 552, 553, 554, 555, 66, 556, 557, 558, 559, 707, 708, 709, 710, 711, 712, 713, 714, 715, 716, 717, 718, 719, 720, 721] (by decide +kernel) (by decide +kernel)
set_option maxRecDepth 20000 in
theorem gL_law_X6_who : GoodIn wsL_law (wsV RL 88 RX6 yX6_who wsX6_who) := goodIn_app (goodIn_of _ (by decide +kernel)) ggL_law_X6_who
set_option maxRecDepth 20000 in
theorem ggL_law_X5_seen : GoodIn wsL_law wsX5_seen := goodIn_r _ [579, 15, 580, 581, 88, 86, 2, 87, 582, 526, 527, 699, 700, 701, 702, 703, 704, 705, 706, 722, 723, 724, 725] (by decide +kernel) (by decide +kernel)
set_option maxRecDepth 20000 in
theorem gL_law_X5_seen : GoodIn wsL_law (wsV RL 89 RX5 yX5_seen wsX5_seen) := goodIn_app (goodIn_of _ (by decide +kernel)) ggL_law_X5_seen
set_option maxRecDepth 20000 in
theorem ggL_law_X6_seen : GoodIn wsL_law wsX6_seen := goodIn_r _ [586, 587, 67, 107, 108, 5, 109, 707, 708, 709, 710, 711, 712, 713, 714, 715, 716, 717, 718, 719, 720, 721] (by decide +kernel) (by decide +kernel)
set_option maxRecDepth 20000 in
theorem gL_law_X6_seen : GoodIn wsL_law (wsV RL 93 RX6 yX6_seen wsX6_seen) := goodIn_app (goodIn_of _ (by decide +kernel)) ggL_law_X6_seen
set_option maxRecDepth 20000 in
theorem ggL_law_X5_forget : GoodIn wsL_law wsX5_forget := goodIn_r _ [591, 15, 580, 592, 593, 594, 14, 595, 596, 40, 699, 700, 701, 702, 703, 704, 705, 706, 722, 723, 724, 725] (by decide +kernel) (by decide +kernel)
set_option maxRecDepth 20000 in
theorem gL_law_X5_forget : GoodIn wsL_law (wsV RL 94 RX5 yX5_forget wsX5_forget) := goodIn_app (goodIn_of _ (by decide +kernel)) ggL_law_X5_forget
set_option maxRecDepth 20000 in
theorem ggL_law_X6_forget : GoodIn wsL_law wsX6_forget := goodIn_r _ [600, 587, 707, 708, 709, 710, 711, 712, 713, 714, 715, 716, 717, 718, 719, 720, 721] (by decide +kernel) (by decide +kernel)
set_option maxRecDepth 20000 in
theorem gL_law_X6_forget : GoodIn wsL_law (wsV RL 97 RX6 yX6_forget wsX6_forget) := goodIn_app (goodIn_of _ (by decide +kernel)) ggL_law_X6_forget
set_option maxRecDepth 20000 in
theorem ggL_law_X5_tights : GoodIn wsL_law wsX5_tights := goodIn_r _ [604, 15, 581, 699, 700, 701, 702, 703, 704, 705, 706, 722, 723, 724, 725] (by decide +kernel) (by decide +kernel)
set_option maxRecDepth 20000 in
theorem gL_law_X5_tights : GoodIn wsL_law (wsV RL 98 RX5 yX5_tights wsX5_tights) := goodIn_app (goodIn_of _ (by decide +kernel)) ggL_law_X5_tights
set_option maxRecDepth 20000 in
theorem ggL_law_X6_tights : GoodIn wsL_law wsX6_tights := goodIn_r _ [608, 609, 610, 611, 5, 612, 587, 67, 107, 108, 109, 707, 708, 709, 710, 711, 712, 713, 714, 715, 716, 717, 718, 719, 720, 721] (by decide +kernel) (by decide +kernel)
set_option maxRecDepth 20000 in
theorem gL_law_X6_tights : GoodIn wsL_law (wsV RL 101 RX6 yX6_tights wsX6_tights) := goodIn_app (goodIn_of _ (by decide +kernel)) ggL_law_X6_tights
set_option maxRecDepth 20000 in
theorem ggL_law_X5_next : GoodIn wsL_law wsX5_next := goodIn_r _ [616, 15, 581, 88, 86, 2, 87, 617, 618, 619, 620, 480, 276, 277, 278, 582, 526, 527, 398, 264, 265, 266, 267, 268, 269, 699, 700, 701, 702, 703, 704, 705, 706, 722, 723, 724, 725] (by decide +kernel) (by decide +kernel)
set_option maxRecDepth 20000 in
theorem gL_law_X5_next : GoodIn wsL_law (wsV RL 102 RX5 yX5_next wsX5_next) := goodIn_app (goodIn_of _ (by decide +kernel)) ggL_law_X5_next
set_option maxRecDepth 20000 in
theorem ggL_law_X6_next : GoodIn wsL_law wsX6_next := goodIn_r _ [624, 514, 107, 108, 5, 109, 609, 610, 611, 612, 587, 67, 323, 324, 325, 330, 331, 332, 707, 708, 709, 710, 711, 712, 713, 714, 715, 716, 717, 718, 719, 720, 721] (by decide +kernel) (by decide +kernel)
set_option maxRecDepth 20000 in
theorem gL_law_X6_next : GoodIn wsL_law (wsV RL 105 RX6 yX6_next wsX6_next) := goodIn_app (goodIn_of _ (by decide +kernel)) ggL_law_X6_next
set_option maxRecDepth 20000 in
theorem ggL_law_X5_moths : GoodIn wsL_law wsX5_moths := goodIn_r _ [628, 15, 79, 629, 630, 631, 363, 407, 408, 409, 37, 410, 85, 88, 86, 2, 87, 411, 412, 413, 414, 46, 132, 133, 250, 251, 398, 264, 265, 266, 267, 268, 269, 632, 633, 634, 635, 636, 637, 699, 700, 701, 702, 703, 704, 705, 706, 722, 723, 724, 725, 734, 735, 736, 737, 738] (by decide +kernel) (by decide +kernel)
set_option maxRecDepth 20000 in
theorem gL_law_X5_moths : GoodIn wsL_law (wsV RL 106 RX5 yX5_moths wsX5_moths) := goodIn_app (goodIn_of _ (by decide +kernel)) ggL_law_X5_moths
set_option maxRecDepth 20000 in
theorem ggL_law_X6_moths : GoodIn wsL_law wsX6_moths := goodIn_r _ [641, 64, 642, 643, 644, 645, 107, 108, 5, 109, 323, 324, 325, 330, 331, 332, 646, 647, 648, 707, 708, 709, 710, 711, 712, 713, 714, 715, 716, 717, 718, 719, 720, 721] (by decide +kernel) (by decide +kernel)
set_option maxRecDepth 20000 in
theorem gL_law_X6_moths : GoodIn wsL_law (wsV RL 110 RX6 yX6_moths wsX6_moths) := goodIn_app (goodIn_of _ (by decide +kernel)) ggL_law_X6_moths
set_option maxRecDepth 20000 in
theorem ggL_law_X5_year : GoodIn wsL_law wsX5_year := goodIn_r _ [652, 25, 15, 79, 653, 345, 80, 363, 654, 88, 86, 2, 87, 220, 221, 222, 24, 223, 55, 224, 225, 226, 227, 228, 229, 230, 37, 231, 85, 118, 44, 45, 46, 132, 133, 97, 98, 655, 656, 657, 658, 659, 533, 277, 534, 128, 129, 130, 14, 131, 39, 236, 237, 238, 239, 240, 241, 242, 243, 244, 90, 91, 92, 245, 82, 83, 84, 246, 247, 248, 249, 250, 251, 252, 253, 254, 255, 256, 257, 258, 259, 260, 261, 262, 263, 264, 265, 266, 267, 268, 269, 270, 271, 272, 273, 274, 275, 276, 278, 279, 280, 281, 282, 283, 284, 285, 286, 287, 288, 289, 290, 291, 292, 293, 294, 295, 94, 95, 96, 365, 366, 367, 368, 398, 699, 700, 701, 702, 703, 704, 705, 706, 722, 723, 724, 725, 728, 729, 730, 731, 732, 734, 735, 736, 737, 738] (by decide +kernel) (by decide +kernel)
set_option maxRecDepth 20000 in
theorem gL_law_X5_year : GoodIn wsL_law (wsV RL 111 RX5 yX5_year wsX5_year) := goodIn_app (goodIn_of _ (by decide +kernel)) ggL_law_X5_year
set_option maxRecDepth 20000 in
theorem ggL_law_X6_year : GoodIn wsL_law wsX6_year := goodIn_r _ [663, 664, 65, 107, 108, 5, 109, 307, 308, 309, 310, 64, 306, 315, 316, 317, 318, 319, 320, 321, 322, 323, 324, 325, 326, 327, 328, 329, 69, 330, 331, 332, 333, 334, 335, 336, 337, 338, 339, 340, 66, 311, 312, 313, 314, 373, 374, 375, 376, 377, 378, 379, 380, 707, 708, 709, 710, 711, 712, 713, 714, 715, 716, 717, 718, 719, 720, 721] (by decide +kernel) (by decide +kernel)
set_option maxRecDepth 20000 in
theorem gL_law_X6_year : GoodIn wsL_law (wsV RL 114 RX6 yX6_year wsX6_year) := goodIn_app (goodIn_of _ (by decide +kernel)) ggL_law_X6_year
set_option maxRecDepth 20000 in
theorem ggL_law_X5_image : GoodIn wsL_law wsX5_image := goodIn_r _ [668, 15, 469, 88, 86, 2, 87, 471, 472, 473, 474, 16, 17, 669, 670, 671, 14, 672, 38, 39, 596, 40, 673, 229, 230, 37, 231, 85, 118, 44, 45, 46, 132, 133, 97, 98, 674, 129, 130, 131, 699, 700, 701, 702, 703, 704, 705, 706, 722, 723, 724, 725, 734, 735, 736, 737, 738] (by decide +kernel) (by decide +kernel)
set_option maxRecDepth 20000 in
theorem gL_law_X5_image : GoodIn wsL_law (wsV RL 115 RX5 yX5_image wsX5_image) := goodIn_app (goodIn_of _ (by decide +kernel)) ggL_law_X5_image
set_option maxRecDepth 20000 in
theorem ggL_law_X6_image : GoodIn wsL_law wsX6_image := goodIn_r _ [678, 70, 64, 66, 67, 587, 72, 107, 108, 5, 109, 707, 708, 709, 710, 711, 712, 713, 714, 715, 716, 717, 718, 719, 720, 721] (by decide +kernel) (by decide +kernel)
set_option maxRecDepth 20000 in
theorem gL_law_X6_image : GoodIn wsL_law (wsV RL 118 RX6 yX6_image wsX6_image) := goodIn_app (goodIn_of _ (by decide +kernel)) ggL_law_X6_image
set_option maxRecDepth 20000 in
theorem ggL_law_X5_restore : GoodIn wsL_law wsX5_restore := goodIn_r _ [682, 469, 15, 88, 86, 2, 87, 470, 250, 251, 471, 472, 473, 474, 16, 17, 669, 670, 671, 14, 672, 38, 39, 596, 40, 673, 229, 230, 37, 231, 85, 118, 44, 45, 46, 132, 133, 97, 98, 674, 129, 130, 131, 699, 700, 701, 702, 703, 704, 705, 706, 722, 723, 724, 725, 734, 735, 736, 737, 738] (by decide +kernel) (by decide +kernel)
set_option maxRecDepth 20000 in
theorem gL_law_X5_restore : GoodIn wsL_law (wsV RL 119 RX5 yX5_restore wsX5_restore) := goodIn_app (goodIn_of _ (by decide +kernel)) ggL_law_X5_restore
set_option maxRecDepth 20000 in
theorem ggL_law_X6_restore : GoodIn wsL_law wsX6_restore := goodIn_r _ [686, 72, 64, 70, 66, 67, 587, 107, 108, 5, 109, 707, 708, 709, 710, 711, 712, 713, 714, 715, 716, 717, 718, 719, 720, 721] (by decide +kernel) (by decide +kernel)
set_option maxRecDepth 20000 in
theorem gL_law_X6_restore : GoodIn wsL_law (wsV RL 122 RX6 yX6_restore wsX6_restore) := goodIn_app (goodIn_of _ (by decide +kernel)) ggL_law_X6_restore
set_option maxRecDepth 20000 in
theorem ggL_law_X5_told : GoodIn wsL_law wsX5_told := goodIn_r _ [690, 15, 21, 146, 79, 80, 363, 580, 691, 692, 693, 2, 694, 81, 82, 83, 37, 84, 85, 86, 87, 88, 385, 386, 387, 388, 44, 45, 46, 132, 133, 128, 129, 130, 14, 131, 39, 365, 366, 367, 368, 118, 250, 251, 699, 700, 701, 702, 703, 704, 705, 706, 726, 727, 722, 723, 724, 725, 734, 735, 736, 737, 738] (by decide +kernel) (by decide +kernel)
set_option maxRecDepth 20000 in
theorem gL_law_X5_told : GoodIn wsL_law (wsV RL 123 RX5 yX5_told wsX5_told) := goodIn_app (goodIn_of _ (by decide +kernel)) ggL_law_X5_told
set_option maxRecDepth 20000 in
theorem ggL_law_X6_told : GoodIn wsL_law wsX6_told := goodIn_r _ [698, 64, 66, 156, 587, 103, 104, 105, 5, 106, 107, 108, 109, 139, 140, 141, 307, 308, 309, 310, 65, 306, 373, 374, 375, 376, 377, 378, 379, 380, 323, 324, 325, 707, 708, 709, 710, 711, 712, 713, 714, 715, 716, 717, 718, 719, 720, 721] (by decide +kernel) (by decide +kernel)
set_option maxRecDepth 20000 in
theorem gL_law_X6_told : GoodIn wsL_law (wsV RL 126 RX6 yX6_told wsX6_told) := goodIn_app (goodIn_of _ (by decide +kernel)) ggL_law_X6_told
theorem dL_law_0 : decode cL_law 0 = .ok (.new 7, 3) := by decide +kernel
theorem dL_law_3 : decode cL_law 3 = .ok (.dup, 1) := by decide +kernel
theorem dL_law_4 : decode cL_law 4 = .ok (.invokespecial 9, 3) := by decide +kernel
theorem dL_law_7 : decode cL_law 7 = .ok (.astore_n 1, 1) := by decide +kernel
theorem dL_law_8 : decode cL_law 8 = .ok (.new 10, 3) := by decide +kernel
theorem dL_law_11 : decode cL_law 11 = .ok (.dup, 1) := by decide +kernel
theorem dL_law_12 : decode cL_law 12 = .ok (.invokespecial 12, 3) := by decide +kernel
theorem dL_law_15 : decode cL_law 15 = .ok (.astore_n 2, 1) := by decide +kernel
theorem dL_law_16 : decode cL_law 16 = .ok (.iconst 0, 1) := by decide +kernel
theorem dL_law_17 : decode cL_law 17 = .ok (.istore_n 3, 1) := by decide +kernel
theorem dL_law_18 : decode cL_law 18 = .ok (.iload_n 3, 1) := by decide +kernel
theorem dL_law_19 : decode cL_law 19 = .ok (.aload_n 0, 1) := by decide +kernel
theorem dL_law_20 : decode cL_law 20 = .ok (.arraylength, 1) := by decide +kernel
theorem dL_law_21 : decode cL_law 21 = .ok (.iconst 4, 1) := by decide +kernel
theorem dL_law_22 : decode cL_law 22 = .ok (.isub, 1) := by decide +kernel
theorem dL_law_23 : decode cL_law 23 = .ok (.if_icmp .gt 817, 3) := by decide +kernel
theorem dL_law_26 : decode cL_law 26 = .ok (.aload_n 0, 1) := by decide +kernel
theorem dL_law_27 : decode cL_law 27 = .ok (.iload_n 3, 1) := by decide +kernel
theorem dL_law_28 : decode cL_law 28 = .ok (.iaload, 1) := by decide +kernel
theorem dL_law_29 : decode cL_law 29 = .ok (.bipush 31, 2) := by decide +kernel
theorem dL_law_31 : decode cL_law 31 = .ok (.iand, 1) := by decide +kernel
theorem dL_law_32 : decode cL_law 32 = .ok (.tableswitch 802 0 26 #[124, 167, 180, 213, 236, 249, 262, 285, 298, 321, 354, 377, 420, 433, 456, 479, 512, 525, 548, 597, 610, 623, 646, 690, 733, 756, 779], 124) := by decide +kernel
theorem dL_law_156 : decode cL_law 156 = .ok (.aload_n 1, 1) := by decide +kernel
theorem dL_law_157 : decode cL_law 157 = .ok (.aload_n 0, 1) := by decide +kernel
theorem dL_law_158 : decode cL_law 158 = .ok (.iload_n 3, 1) := by decide +kernel
theorem dL_law_159 : decode cL_law 159 = .ok (.iconst 1, 1) := by decide +kernel
theorem dL_law_160 : decode cL_law 160 = .ok (.iadd, 1) := by decide +kernel
theorem dL_law_161 : decode cL_law 161 = .ok (.iaload, 1) := by decide +kernel
theorem dL_law_162 : decode cL_law 162 = .ok (.aload_n 0, 1) := by decide +kernel
theorem dL_law_163 : decode cL_law 163 = .ok (.iload_n 3, 1) := by decide +kernel
theorem dL_law_164 : decode cL_law 164 = .ok (.iconst 2, 1) := by decide +kernel
theorem dL_law_165 : decode cL_law 165 = .ok (.iadd, 1) := by decide +kernel
theorem dL_law_166 : decode cL_law 166 = .ok (.iaload, 1) := by decide +kernel
theorem dL_law_167 : decode cL_law 167 = .ok (.aload_n 0, 1) := by decide +kernel
theorem dL_law_168 : decode cL_law 168 = .ok (.iload_n 3, 1) := by decide +kernel
theorem dL_law_169 : decode cL_law 169 = .ok (.iconst 3, 1) := by decide +kernel
theorem dL_law_170 : decode cL_law 170 = .ok (.iadd, 1) := by decide +kernel
theorem dL_law_171 : decode cL_law 171 = .ok (.iaload, 1) := by decide +kernel
theorem dL_law_172 : decode cL_law 172 = .ok (.invokevirtual 13, 3) := by decide +kernel
theorem dL_law_175 : decode cL_law 175 = .ok (.aload_n 2, 1) := by decide +kernel
theorem dL_law_176 : decode cL_law 176 = .ok (.aload_n 0, 1) := by decide +kernel
theorem dL_law_177 : decode cL_law 177 = .ok (.iload_n 3, 1) := by decide +kernel
theorem dL_law_178 : decode cL_law 178 = .ok (.iconst 1, 1) := by decide +kernel
theorem dL_law_179 : decode cL_law 179 = .ok (.iadd, 1) := by decide +kernel
theorem dL_law_180 : decode cL_law 180 = .ok (.iaload, 1) := by decide +kernel
theorem dL_law_181 : decode cL_law 181 = .ok (.aload_n 0, 1) := by decide +kernel
theorem dL_law_182 : decode cL_law 182 = .ok (.iload_n 3, 1) := by decide +kernel
theorem dL_law_183 : decode cL_law 183 = .ok (.iconst 2, 1) := by decide +kernel
theorem dL_law_184 : decode cL_law 184 = .ok (.iadd, 1) := by decide +kernel
theorem dL_law_185 : decode cL_law 185 = .ok (.iaload, 1) := by decide +kernel
theorem dL_law_186 : decode cL_law 186 = .ok (.aload_n 0, 1) := by decide +kernel
theorem dL_law_187 : decode cL_law 187 = .ok (.iload_n 3, 1) := by decide +kernel
theorem dL_law_188 : decode cL_law 188 = .ok (.iconst 3, 1) := by decide +kernel
theorem dL_law_189 : decode cL_law 189 = .ok (.iadd, 1) := by decide +kernel
theorem dL_law_190 : decode cL_law 190 = .ok (.iaload, 1) := by decide +kernel
theorem dL_law_191 : decode cL_law 191 = .ok (.invokevirtual 17, 3) := by decide +kernel
theorem dL_law_194 : decode cL_law 194 = .ok (.if_icmp .eq 640, 3) := by decide +kernel
theorem dL_law_197 : decode cL_law 197 = .ok (.iconst 0, 1) := by decide +kernel
theorem dL_law_198 : decode cL_law 198 = .ok (.ireturn, 1) := by decide +kernel
theorem dL_law_199 : decode cL_law 199 = .ok (.aload_n 1, 1) := by decide +kernel
theorem dL_law_200 : decode cL_law 200 = .ok (.invokevirtual 18, 3) := by decide +kernel
theorem dL_law_203 : decode cL_law 203 = .ok (.aload_n 2, 1) := by decide +kernel
theorem dL_law_204 : decode cL_law 204 = .ok (.invokevirtual 22, 3) := by decide +kernel
theorem dL_law_207 : decode cL_law 207 = .ok (.if_icmp .eq 627, 3) := by decide +kernel
theorem dL_law_210 : decode cL_law 210 = .ok (.iconst 0, 1) := by decide +kernel
theorem dL_law_211 : decode cL_law 211 = .ok (.ireturn, 1) := by decide +kernel
theorem dL_law_212 : decode cL_law 212 = .ok (.aload_n 1, 1) := by decide +kernel
theorem dL_law_213 : decode cL_law 213 = .ok (.aload_n 0, 1) := by decide +kernel
theorem dL_law_214 : decode cL_law 214 = .ok (.iload_n 3, 1) := by decide +kernel
theorem dL_law_215 : decode cL_law 215 = .ok (.iconst 1, 1) := by decide +kernel
theorem dL_law_216 : decode cL_law 216 = .ok (.iadd, 1) := by decide +kernel
theorem dL_law_217 : decode cL_law 217 = .ok (.iaload, 1) := by decide +kernel
theorem dL_law_218 : decode cL_law 218 = .ok (.aload_n 0, 1) := by decide +kernel
theorem dL_law_219 : decode cL_law 219 = .ok (.iload_n 3, 1) := by decide +kernel
theorem dL_law_220 : decode cL_law 220 = .ok (.iconst 2, 1) := by decide +kernel
theorem dL_law_221 : decode cL_law 221 = .ok (.iadd, 1) := by decide +kernel
theorem dL_law_222 : decode cL_law 222 = .ok (.iaload, 1) := by decide +kernel
theorem dL_law_223 : decode cL_law 223 = .ok (.invokevirtual 23, 3) := by decide +kernel
theorem dL_law_226 : decode cL_law 226 = .ok (.aload_n 2, 1) := by decide +kernel
theorem dL_law_227 : decode cL_law 227 = .ok (.aload_n 0, 1) := by decide +kernel
theorem dL_law_228 : decode cL_law 228 = .ok (.iload_n 3, 1) := by decide +kernel
theorem dL_law_229 : decode cL_law 229 = .ok (.iconst 1, 1) := by decide +kernel
theorem dL_law_230 : decode cL_law 230 = .ok (.iadd, 1) := by decide +kernel
theorem dL_law_231 : decode cL_law 231 = .ok (.iaload, 1) := by decide +kernel
theorem dL_law_232 : decode cL_law 232 = .ok (.aload_n 0, 1) := by decide +kernel
theorem dL_law_233 : decode cL_law 233 = .ok (.iload_n 3, 1) := by decide +kernel
theorem dL_law_234 : decode cL_law 234 = .ok (.iconst 2, 1) := by decide +kernel
theorem dL_law_235 : decode cL_law 235 = .ok (.iadd, 1) := by decide +kernel
theorem dL_law_236 : decode cL_law 236 = .ok (.iaload, 1) := by decide +kernel
theorem dL_law_237 : decode cL_law 237 = .ok (.invokevirtual 27, 3) := by decide +kernel
theorem dL_law_240 : decode cL_law 240 = .ok (.if_icmp .eq 594, 3) := by decide +kernel
theorem dL_law_243 : decode cL_law 243 = .ok (.iconst 0, 1) := by decide +kernel
theorem dL_law_244 : decode cL_law 244 = .ok (.ireturn, 1) := by decide +kernel
theorem dL_law_245 : decode cL_law 245 = .ok (.aload_n 1, 1) := by decide +kernel
theorem dL_law_246 : decode cL_law 246 = .ok (.aload_n 0, 1) := by decide +kernel
theorem dL_law_247 : decode cL_law 247 = .ok (.iload_n 3, 1) := by decide +kernel
theorem dL_law_248 : decode cL_law 248 = .ok (.iconst 1, 1) := by decide +kernel
theorem dL_law_249 : decode cL_law 249 = .ok (.iadd, 1) := by decide +kernel
theorem dL_law_250 : decode cL_law 250 = .ok (.iaload, 1) := by decide +kernel
theorem dL_law_251 : decode cL_law 251 = .ok (.invokevirtual 28, 3) := by decide +kernel
theorem dL_law_254 : decode cL_law 254 = .ok (.aload_n 2, 1) := by decide +kernel
theorem dL_law_255 : decode cL_law 255 = .ok (.aload_n 0, 1) := by decide +kernel
theorem dL_law_256 : decode cL_law 256 = .ok (.iload_n 3, 1) := by decide +kernel
theorem dL_law_257 : decode cL_law 257 = .ok (.iconst 1, 1) := by decide +kernel
theorem dL_law_258 : decode cL_law 258 = .ok (.iadd, 1) := by decide +kernel
theorem dL_law_259 : decode cL_law 259 = .ok (.iaload, 1) := by decide +kernel
theorem dL_law_260 : decode cL_law 260 = .ok (.invokevirtual 32, 3) := by decide +kernel
theorem dL_law_263 : decode cL_law 263 = .ok (.if_icmp .eq 571, 3) := by decide +kernel
theorem dL_law_266 : decode cL_law 266 = .ok (.iconst 0, 1) := by decide +kernel
theorem dL_law_267 : decode cL_law 267 = .ok (.ireturn, 1) := by decide +kernel
theorem dL_law_268 : decode cL_law 268 = .ok (.aload_n 1, 1) := by decide +kernel
theorem dL_law_269 : decode cL_law 269 = .ok (.invokevirtual 33, 3) := by decide +kernel
theorem dL_law_272 : decode cL_law 272 = .ok (.aload_n 2, 1) := by decide +kernel
theorem dL_law_273 : decode cL_law 273 = .ok (.invokevirtual 36, 3) := by decide +kernel
theorem dL_law_276 : decode cL_law 276 = .ok (.if_icmp .eq 558, 3) := by decide +kernel
theorem dL_law_279 : decode cL_law 279 = .ok (.iconst 0, 1) := by decide +kernel
theorem dL_law_280 : decode cL_law 280 = .ok (.ireturn, 1) := by decide +kernel
theorem dL_law_281 : decode cL_law 281 = .ok (.aload_n 1, 1) := by decide +kernel
theorem dL_law_282 : decode cL_law 282 = .ok (.invokevirtual 37, 3) := by decide +kernel
theorem dL_law_285 : decode cL_law 285 = .ok (.aload_n 2, 1) := by decide +kernel
theorem dL_law_286 : decode cL_law 286 = .ok (.invokevirtual 40, 3) := by decide +kernel
theorem dL_law_289 : decode cL_law 289 = .ok (.if_icmp .eq 545, 3) := by decide +kernel
theorem dL_law_292 : decode cL_law 292 = .ok (.iconst 0, 1) := by decide +kernel
theorem dL_law_293 : decode cL_law 293 = .ok (.ireturn, 1) := by decide +kernel
theorem dL_law_294 : decode cL_law 294 = .ok (.aload_n 1, 1) := by decide +kernel
theorem dL_law_295 : decode cL_law 295 = .ok (.aload_n 0, 1) := by decide +kernel
theorem dL_law_296 : decode cL_law 296 = .ok (.iload_n 3, 1) := by decide +kernel
theorem dL_law_297 : decode cL_law 297 = .ok (.iconst 1, 1) := by decide +kernel
theorem dL_law_298 : decode cL_law 298 = .ok (.iadd, 1) := by decide +kernel
theorem dL_law_299 : decode cL_law 299 = .ok (.iaload, 1) := by decide +kernel
theorem dL_law_300 : decode cL_law 300 = .ok (.invokevirtual 41, 3) := by decide +kernel
theorem dL_law_303 : decode cL_law 303 = .ok (.aload_n 2, 1) := by decide +kernel
theorem dL_law_304 : decode cL_law 304 = .ok (.aload_n 0, 1) := by decide +kernel
theorem dL_law_305 : decode cL_law 305 = .ok (.iload_n 3, 1) := by decide +kernel
theorem dL_law_306 : decode cL_law 306 = .ok (.iconst 1, 1) := by decide +kernel
theorem dL_law_307 : decode cL_law 307 = .ok (.iadd, 1) := by decide +kernel
theorem dL_law_308 : decode cL_law 308 = .ok (.iaload, 1) := by decide +kernel
theorem dL_law_309 : decode cL_law 309 = .ok (.invokevirtual 44, 3) := by decide +kernel
theorem dL_law_312 : decode cL_law 312 = .ok (.if_icmp .eq 522, 3) := by decide +kernel
theorem dL_law_315 : decode cL_law 315 = .ok (.iconst 0, 1) := by decide +kernel
theorem dL_law_316 : decode cL_law 316 = .ok (.ireturn, 1) := by decide +kernel
theorem dL_law_317 : decode cL_law 317 = .ok (.aload_n 1, 1) := by decide +kernel
theorem dL_law_318 : decode cL_law 318 = .ok (.invokevirtual 45, 3) := by decide +kernel
theorem dL_law_321 : decode cL_law 321 = .ok (.aload_n 2, 1) := by decide +kernel
theorem dL_law_322 : decode cL_law 322 = .ok (.invokevirtual 48, 3) := by decide +kernel
theorem dL_law_325 : decode cL_law 325 = .ok (.if_icmp .eq 509, 3) := by decide +kernel
theorem dL_law_328 : decode cL_law 328 = .ok (.iconst 0, 1) := by decide +kernel
theorem dL_law_329 : decode cL_law 329 = .ok (.ireturn, 1) := by decide +kernel
theorem dL_law_330 : decode cL_law 330 = .ok (.aload_n 1, 1) := by decide +kernel
theorem dL_law_331 : decode cL_law 331 = .ok (.aload_n 0, 1) := by decide +kernel
theorem dL_law_332 : decode cL_law 332 = .ok (.iload_n 3, 1) := by decide +kernel
theorem dL_law_333 : decode cL_law 333 = .ok (.iconst 1, 1) := by decide +kernel
theorem dL_law_334 : decode cL_law 334 = .ok (.iadd, 1) := by decide +kernel
theorem dL_law_335 : decode cL_law 335 = .ok (.iaload, 1) := by decide +kernel
theorem dL_law_336 : decode cL_law 336 = .ok (.invokevirtual 49, 3) := by decide +kernel
theorem dL_law_339 : decode cL_law 339 = .ok (.aload_n 2, 1) := by decide +kernel
theorem dL_law_340 : decode cL_law 340 = .ok (.aload_n 0, 1) := by decide +kernel
theorem dL_law_341 : decode cL_law 341 = .ok (.iload_n 3, 1) := by decide +kernel
theorem dL_law_342 : decode cL_law 342 = .ok (.iconst 1, 1) := by decide +kernel
theorem dL_law_343 : decode cL_law 343 = .ok (.iadd, 1) := by decide +kernel
theorem dL_law_344 : decode cL_law 344 = .ok (.iaload, 1) := by decide +kernel
theorem dL_law_345 : decode cL_law 345 = .ok (.invokevirtual 52, 3) := by decide +kernel
theorem dL_law_348 : decode cL_law 348 = .ok (.if_icmp .eq 486, 3) := by decide +kernel
theorem dL_law_351 : decode cL_law 351 = .ok (.iconst 0, 1) := by decide +kernel
theorem dL_law_352 : decode cL_law 352 = .ok (.ireturn, 1) := by decide +kernel
theorem dL_law_353 : decode cL_law 353 = .ok (.aload_n 1, 1) := by decide +kernel
theorem dL_law_354 : decode cL_law 354 = .ok (.aload_n 0, 1) := by decide +kernel
theorem dL_law_355 : decode cL_law 355 = .ok (.iload_n 3, 1) := by decide +kernel
theorem dL_law_356 : decode cL_law 356 = .ok (.iconst 1, 1) := by decide +kernel
theorem dL_law_357 : decode cL_law 357 = .ok (.iadd, 1) := by decide +kernel
theorem dL_law_358 : decode cL_law 358 = .ok (.iaload, 1) := by decide +kernel
theorem dL_law_359 : decode cL_law 359 = .ok (.aload_n 0, 1) := by decide +kernel
theorem dL_law_360 : decode cL_law 360 = .ok (.iload_n 3, 1) := by decide +kernel
theorem dL_law_361 : decode cL_law 361 = .ok (.iconst 2, 1) := by decide +kernel
theorem dL_law_362 : decode cL_law 362 = .ok (.iadd, 1) := by decide +kernel
theorem dL_law_363 : decode cL_law 363 = .ok (.iaload, 1) := by decide +kernel
theorem dL_law_364 : decode cL_law 364 = .ok (.invokevirtual 53, 3) := by decide +kernel
theorem dL_law_367 : decode cL_law 367 = .ok (.aload_n 2, 1) := by decide +kernel
theorem dL_law_368 : decode cL_law 368 = .ok (.aload_n 0, 1) := by decide +kernel
theorem dL_law_369 : decode cL_law 369 = .ok (.iload_n 3, 1) := by decide +kernel
theorem dL_law_370 : decode cL_law 370 = .ok (.iconst 1, 1) := by decide +kernel
theorem dL_law_371 : decode cL_law 371 = .ok (.iadd, 1) := by decide +kernel
theorem dL_law_372 : decode cL_law 372 = .ok (.iaload, 1) := by decide +kernel
theorem dL_law_373 : decode cL_law 373 = .ok (.aload_n 0, 1) := by decide +kernel
theorem dL_law_374 : decode cL_law 374 = .ok (.iload_n 3, 1) := by decide +kernel
theorem dL_law_375 : decode cL_law 375 = .ok (.iconst 2, 1) := by decide +kernel
theorem dL_law_376 : decode cL_law 376 = .ok (.iadd, 1) := by decide +kernel
theorem dL_law_377 : decode cL_law 377 = .ok (.iaload, 1) := by decide +kernel
theorem dL_law_378 : decode cL_law 378 = .ok (.invokevirtual 56, 3) := by decide +kernel
theorem dL_law_381 : decode cL_law 381 = .ok (.if_icmp .eq 453, 3) := by decide +kernel
theorem dL_law_384 : decode cL_law 384 = .ok (.iconst 0, 1) := by decide +kernel
theorem dL_law_385 : decode cL_law 385 = .ok (.ireturn, 1) := by decide +kernel
theorem dL_law_386 : decode cL_law 386 = .ok (.aload_n 1, 1) := by decide +kernel
theorem dL_law_387 : decode cL_law 387 = .ok (.aload_n 0, 1) := by decide +kernel
theorem dL_law_388 : decode cL_law 388 = .ok (.iload_n 3, 1) := by decide +kernel
theorem dL_law_389 : decode cL_law 389 = .ok (.iconst 1, 1) := by decide +kernel
theorem dL_law_390 : decode cL_law 390 = .ok (.iadd, 1) := by decide +kernel
theorem dL_law_391 : decode cL_law 391 = .ok (.iaload, 1) := by decide +kernel
theorem dL_law_392 : decode cL_law 392 = .ok (.invokevirtual 57, 3) := by decide +kernel
theorem dL_law_395 : decode cL_law 395 = .ok (.aload_n 2, 1) := by decide +kernel
theorem dL_law_396 : decode cL_law 396 = .ok (.aload_n 0, 1) := by decide +kernel
theorem dL_law_397 : decode cL_law 397 = .ok (.iload_n 3, 1) := by decide +kernel
theorem dL_law_398 : decode cL_law 398 = .ok (.iconst 1, 1) := by decide +kernel
theorem dL_law_399 : decode cL_law 399 = .ok (.iadd, 1) := by decide +kernel
theorem dL_law_400 : decode cL_law 400 = .ok (.iaload, 1) := by decide +kernel
theorem dL_law_401 : decode cL_law 401 = .ok (.invokevirtual 60, 3) := by decide +kernel
theorem dL_law_404 : decode cL_law 404 = .ok (.if_icmp .eq 430, 3) := by decide +kernel
theorem dL_law_407 : decode cL_law 407 = .ok (.iconst 0, 1) := by decide +kernel
theorem dL_law_408 : decode cL_law 408 = .ok (.ireturn, 1) := by decide +kernel
theorem dL_law_409 : decode cL_law 409 = .ok (.aload_n 1, 1) := by decide +kernel
theorem dL_law_410 : decode cL_law 410 = .ok (.aload_n 0, 1) := by decide +kernel
theorem dL_law_411 : decode cL_law 411 = .ok (.iload_n 3, 1) := by decide +kernel
theorem dL_law_412 : decode cL_law 412 = .ok (.iconst 1, 1) := by decide +kernel
theorem dL_law_413 : decode cL_law 413 = .ok (.iadd, 1) := by decide +kernel
theorem dL_law_414 : decode cL_law 414 = .ok (.iaload, 1) := by decide +kernel
theorem dL_law_415 : decode cL_law 415 = .ok (.aload_n 0, 1) := by decide +kernel
theorem dL_law_416 : decode cL_law 416 = .ok (.iload_n 3, 1) := by decide +kernel
theorem dL_law_417 : decode cL_law 417 = .ok (.iconst 2, 1) := by decide +kernel
theorem dL_law_418 : decode cL_law 418 = .ok (.iadd, 1) := by decide +kernel
theorem dL_law_419 : decode cL_law 419 = .ok (.iaload, 1) := by decide +kernel
theorem dL_law_420 : decode cL_law 420 = .ok (.aload_n 0, 1) := by decide +kernel
theorem dL_law_421 : decode cL_law 421 = .ok (.iload_n 3, 1) := by decide +kernel
theorem dL_law_422 : decode cL_law 422 = .ok (.iconst 3, 1) := by decide +kernel
theorem dL_law_423 : decode cL_law 423 = .ok (.iadd, 1) := by decide +kernel
theorem dL_law_424 : decode cL_law 424 = .ok (.iaload, 1) := by decide +kernel
theorem dL_law_425 : decode cL_law 425 = .ok (.invokevirtual 61, 3) := by decide +kernel
theorem dL_law_428 : decode cL_law 428 = .ok (.aload_n 2, 1) := by decide +kernel
theorem dL_law_429 : decode cL_law 429 = .ok (.aload_n 0, 1) := by decide +kernel
theorem dL_law_430 : decode cL_law 430 = .ok (.iload_n 3, 1) := by decide +kernel
theorem dL_law_431 : decode cL_law 431 = .ok (.iconst 1, 1) := by decide +kernel
theorem dL_law_432 : decode cL_law 432 = .ok (.iadd, 1) := by decide +kernel
theorem dL_law_433 : decode cL_law 433 = .ok (.iaload, 1) := by decide +kernel
theorem dL_law_434 : decode cL_law 434 = .ok (.aload_n 0, 1) := by decide +kernel
theorem dL_law_435 : decode cL_law 435 = .ok (.iload_n 3, 1) := by decide +kernel
theorem dL_law_436 : decode cL_law 436 = .ok (.iconst 2, 1) := by decide +kernel
theorem dL_law_437 : decode cL_law 437 = .ok (.iadd, 1) := by decide +kernel
theorem dL_law_438 : decode cL_law 438 = .ok (.iaload, 1) := by decide +kernel
theorem dL_law_439 : decode cL_law 439 = .ok (.aload_n 0, 1) := by decide +kernel
theorem dL_law_440 : decode cL_law 440 = .ok (.iload_n 3, 1) := by decide +kernel
theorem dL_law_441 : decode cL_law 441 = .ok (.iconst 3, 1) := by decide +kernel
theorem dL_law_442 : decode cL_law 442 = .ok (.iadd, 1) := by decide +kernel
theorem dL_law_443 : decode cL_law 443 = .ok (.iaload, 1) := by decide +kernel
theorem dL_law_444 : decode cL_law 444 = .ok (.invokevirtual 64, 3) := by decide +kernel
theorem dL_law_447 : decode cL_law 447 = .ok (.if_icmp .eq 387, 3) := by decide +kernel
theorem dL_law_450 : decode cL_law 450 = .ok (.iconst 0, 1) := by decide +kernel
theorem dL_law_451 : decode cL_law 451 = .ok (.ireturn, 1) := by decide +kernel
theorem dL_law_452 : decode cL_law 452 = .ok (.aload_n 1, 1) := by decide +kernel
theorem dL_law_453 : decode cL_law 453 = .ok (.invokevirtual 65, 3) := by decide +kernel
theorem dL_law_456 : decode cL_law 456 = .ok (.aload_n 2, 1) := by decide +kernel
theorem dL_law_457 : decode cL_law 457 = .ok (.invokevirtual 68, 3) := by decide +kernel
theorem dL_law_460 : decode cL_law 460 = .ok (.if_icmp .eq 374, 3) := by decide +kernel
theorem dL_law_463 : decode cL_law 463 = .ok (.iconst 0, 1) := by decide +kernel
theorem dL_law_464 : decode cL_law 464 = .ok (.ireturn, 1) := by decide +kernel
theorem dL_law_465 : decode cL_law 465 = .ok (.aload_n 1, 1) := by decide +kernel
theorem dL_law_466 : decode cL_law 466 = .ok (.aload_n 0, 1) := by decide +kernel
theorem dL_law_467 : decode cL_law 467 = .ok (.iload_n 3, 1) := by decide +kernel
theorem dL_law_468 : decode cL_law 468 = .ok (.iconst 1, 1) := by decide +kernel
theorem dL_law_469 : decode cL_law 469 = .ok (.iadd, 1) := by decide +kernel
theorem dL_law_470 : decode cL_law 470 = .ok (.iaload, 1) := by decide +kernel
theorem dL_law_471 : decode cL_law 471 = .ok (.invokevirtual 69, 3) := by decide +kernel
theorem dL_law_474 : decode cL_law 474 = .ok (.aload_n 2, 1) := by decide +kernel
theorem dL_law_475 : decode cL_law 475 = .ok (.aload_n 0, 1) := by decide +kernel
theorem dL_law_476 : decode cL_law 476 = .ok (.iload_n 3, 1) := by decide +kernel
theorem dL_law_477 : decode cL_law 477 = .ok (.iconst 1, 1) := by decide +kernel
theorem dL_law_478 : decode cL_law 478 = .ok (.iadd, 1) := by decide +kernel
theorem dL_law_479 : decode cL_law 479 = .ok (.iaload, 1) := by decide +kernel
theorem dL_law_480 : decode cL_law 480 = .ok (.invokevirtual 72, 3) := by decide +kernel
theorem dL_law_483 : decode cL_law 483 = .ok (.if_icmp .eq 351, 3) := by decide +kernel
theorem dL_law_486 : decode cL_law 486 = .ok (.iconst 0, 1) := by decide +kernel
theorem dL_law_487 : decode cL_law 487 = .ok (.ireturn, 1) := by decide +kernel
theorem dL_law_488 : decode cL_law 488 = .ok (.aload_n 1, 1) := by decide +kernel
theorem dL_law_489 : decode cL_law 489 = .ok (.aload_n 0, 1) := by decide +kernel
theorem dL_law_490 : decode cL_law 490 = .ok (.iload_n 3, 1) := by decide +kernel
theorem dL_law_491 : decode cL_law 491 = .ok (.iconst 1, 1) := by decide +kernel
theorem dL_law_492 : decode cL_law 492 = .ok (.iadd, 1) := by decide +kernel
theorem dL_law_493 : decode cL_law 493 = .ok (.iaload, 1) := by decide +kernel
theorem dL_law_494 : decode cL_law 494 = .ok (.invokevirtual 73, 3) := by decide +kernel
theorem dL_law_497 : decode cL_law 497 = .ok (.aload_n 2, 1) := by decide +kernel
theorem dL_law_498 : decode cL_law 498 = .ok (.aload_n 0, 1) := by decide +kernel
theorem dL_law_499 : decode cL_law 499 = .ok (.iload_n 3, 1) := by decide +kernel
theorem dL_law_500 : decode cL_law 500 = .ok (.iconst 1, 1) := by decide +kernel
theorem dL_law_501 : decode cL_law 501 = .ok (.iadd, 1) := by decide +kernel
theorem dL_law_502 : decode cL_law 502 = .ok (.iaload, 1) := by decide +kernel
theorem dL_law_503 : decode cL_law 503 = .ok (.invokevirtual 76, 3) := by decide +kernel
theorem dL_law_506 : decode cL_law 506 = .ok (.if_icmp .eq 328, 3) := by decide +kernel
theorem dL_law_509 : decode cL_law 509 = .ok (.iconst 0, 1) := by decide +kernel
theorem dL_law_510 : decode cL_law 510 = .ok (.ireturn, 1) := by decide +kernel
theorem dL_law_511 : decode cL_law 511 = .ok (.aload_n 1, 1) := by decide +kernel
theorem dL_law_512 : decode cL_law 512 = .ok (.aload_n 0, 1) := by decide +kernel
theorem dL_law_513 : decode cL_law 513 = .ok (.iload_n 3, 1) := by decide +kernel
theorem dL_law_514 : decode cL_law 514 = .ok (.iconst 1, 1) := by decide +kernel
theorem dL_law_515 : decode cL_law 515 = .ok (.iadd, 1) := by decide +kernel
theorem dL_law_516 : decode cL_law 516 = .ok (.iaload, 1) := by decide +kernel
theorem dL_law_517 : decode cL_law 517 = .ok (.aload_n 0, 1) := by decide +kernel
theorem dL_law_518 : decode cL_law 518 = .ok (.iload_n 3, 1) := by decide +kernel
theorem dL_law_519 : decode cL_law 519 = .ok (.iconst 2, 1) := by decide +kernel
theorem dL_law_520 : decode cL_law 520 = .ok (.iadd, 1) := by decide +kernel
theorem dL_law_521 : decode cL_law 521 = .ok (.iaload, 1) := by decide +kernel
theorem dL_law_522 : decode cL_law 522 = .ok (.invokevirtual 77, 3) := by decide +kernel
theorem dL_law_525 : decode cL_law 525 = .ok (.aload_n 2, 1) := by decide +kernel
theorem dL_law_526 : decode cL_law 526 = .ok (.aload_n 0, 1) := by decide +kernel
theorem dL_law_527 : decode cL_law 527 = .ok (.iload_n 3, 1) := by decide +kernel
theorem dL_law_528 : decode cL_law 528 = .ok (.iconst 1, 1) := by decide +kernel
theorem dL_law_529 : decode cL_law 529 = .ok (.iadd, 1) := by decide +kernel
theorem dL_law_530 : decode cL_law 530 = .ok (.iaload, 1) := by decide +kernel
theorem dL_law_531 : decode cL_law 531 = .ok (.aload_n 0, 1) := by decide +kernel
theorem dL_law_532 : decode cL_law 532 = .ok (.iload_n 3, 1) := by decide +kernel
theorem dL_law_533 : decode cL_law 533 = .ok (.iconst 2, 1) := by decide +kernel
theorem dL_law_534 : decode cL_law 534 = .ok (.iadd, 1) := by decide +kernel
theorem dL_law_535 : decode cL_law 535 = .ok (.iaload, 1) := by decide +kernel
theorem dL_law_536 : decode cL_law 536 = .ok (.invokevirtual 80, 3) := by decide +kernel
theorem dL_law_539 : decode cL_law 539 = .ok (.if_icmp .eq 295, 3) := by decide +kernel
theorem dL_law_542 : decode cL_law 542 = .ok (.iconst 0, 1) := by decide +kernel
theorem dL_law_543 : decode cL_law 543 = .ok (.ireturn, 1) := by decide +kernel
theorem dL_law_544 : decode cL_law 544 = .ok (.aload_n 1, 1) := by decide +kernel
theorem dL_law_545 : decode cL_law 545 = .ok (.invokevirtual 81, 3) := by decide +kernel
theorem dL_law_548 : decode cL_law 548 = .ok (.aload_n 2, 1) := by decide +kernel
theorem dL_law_549 : decode cL_law 549 = .ok (.invokevirtual 84, 3) := by decide +kernel
theorem dL_law_552 : decode cL_law 552 = .ok (.if_icmp .eq 282, 3) := by decide +kernel
theorem dL_law_555 : decode cL_law 555 = .ok (.iconst 0, 1) := by decide +kernel
theorem dL_law_556 : decode cL_law 556 = .ok (.ireturn, 1) := by decide +kernel
theorem dL_law_557 : decode cL_law 557 = .ok (.aload_n 1, 1) := by decide +kernel
theorem dL_law_558 : decode cL_law 558 = .ok (.aload_n 0, 1) := by decide +kernel
theorem dL_law_559 : decode cL_law 559 = .ok (.iload_n 3, 1) := by decide +kernel
theorem dL_law_560 : decode cL_law 560 = .ok (.iconst 1, 1) := by decide +kernel
theorem dL_law_561 : decode cL_law 561 = .ok (.iadd, 1) := by decide +kernel
theorem dL_law_562 : decode cL_law 562 = .ok (.iaload, 1) := by decide +kernel
theorem dL_law_563 : decode cL_law 563 = .ok (.invokevirtual 85, 3) := by decide +kernel
theorem dL_law_566 : decode cL_law 566 = .ok (.aload_n 2, 1) := by decide +kernel
theorem dL_law_567 : decode cL_law 567 = .ok (.aload_n 0, 1) := by decide +kernel
theorem dL_law_568 : decode cL_law 568 = .ok (.iload_n 3, 1) := by decide +kernel
theorem dL_law_569 : decode cL_law 569 = .ok (.iconst 1, 1) := by decide +kernel
theorem dL_law_570 : decode cL_law 570 = .ok (.iadd, 1) := by decide +kernel
theorem dL_law_571 : decode cL_law 571 = .ok (.iaload, 1) := by decide +kernel
theorem dL_law_572 : decode cL_law 572 = .ok (.invokevirtual 88, 3) := by decide +kernel
theorem dL_law_575 : decode cL_law 575 = .ok (.if_icmp .eq 259, 3) := by decide +kernel
theorem dL_law_578 : decode cL_law 578 = .ok (.iconst 0, 1) := by decide +kernel
theorem dL_law_579 : decode cL_law 579 = .ok (.ireturn, 1) := by decide +kernel
theorem dL_law_580 : decode cL_law 580 = .ok (.aload_n 1, 1) := by decide +kernel
theorem dL_law_581 : decode cL_law 581 = .ok (.aload_n 0, 1) := by decide +kernel
theorem dL_law_582 : decode cL_law 582 = .ok (.iload_n 3, 1) := by decide +kernel
theorem dL_law_583 : decode cL_law 583 = .ok (.iconst 1, 1) := by decide +kernel
theorem dL_law_584 : decode cL_law 584 = .ok (.iadd, 1) := by decide +kernel
theorem dL_law_585 : decode cL_law 585 = .ok (.iaload, 1) := by decide +kernel
theorem dL_law_586 : decode cL_law 586 = .ok (.aload_n 0, 1) := by decide +kernel
theorem dL_law_587 : decode cL_law 587 = .ok (.iload_n 3, 1) := by decide +kernel
theorem dL_law_588 : decode cL_law 588 = .ok (.iconst 2, 1) := by decide +kernel
theorem dL_law_589 : decode cL_law 589 = .ok (.iadd, 1) := by decide +kernel
theorem dL_law_590 : decode cL_law 590 = .ok (.iaload, 1) := by decide +kernel
theorem dL_law_591 : decode cL_law 591 = .ok (.ifCond .eq 7, 3) := by decide +kernel
theorem dL_law_594 : decode cL_law 594 = .ok (.iconst 1, 1) := by decide +kernel
theorem dL_law_595 : decode cL_law 595 = .ok (.goto 4, 3) := by decide +kernel
theorem dL_law_598 : decode cL_law 598 = .ok (.iconst 0, 1) := by decide +kernel
theorem dL_law_599 : decode cL_law 599 = .ok (.invokevirtual 89, 3) := by decide +kernel
theorem dL_law_602 : decode cL_law 602 = .ok (.aload_n 2, 1) := by decide +kernel
theorem dL_law_603 : decode cL_law 603 = .ok (.aload_n 0, 1) := by decide +kernel
theorem dL_law_604 : decode cL_law 604 = .ok (.iload_n 3, 1) := by decide +kernel
theorem dL_law_605 : decode cL_law 605 = .ok (.iconst 1, 1) := by decide +kernel
theorem dL_law_606 : decode cL_law 606 = .ok (.iadd, 1) := by decide +kernel
theorem dL_law_607 : decode cL_law 607 = .ok (.iaload, 1) := by decide +kernel
theorem dL_law_608 : decode cL_law 608 = .ok (.aload_n 0, 1) := by decide +kernel
theorem dL_law_609 : decode cL_law 609 = .ok (.iload_n 3, 1) := by decide +kernel
theorem dL_law_610 : decode cL_law 610 = .ok (.iconst 2, 1) := by decide +kernel
theorem dL_law_611 : decode cL_law 611 = .ok (.iadd, 1) := by decide +kernel
theorem dL_law_612 : decode cL_law 612 = .ok (.iaload, 1) := by decide +kernel
theorem dL_law_613 : decode cL_law 613 = .ok (.ifCond .eq 7, 3) := by decide +kernel
theorem dL_law_616 : decode cL_law 616 = .ok (.iconst 1, 1) := by decide +kernel
theorem dL_law_617 : decode cL_law 617 = .ok (.goto 4, 3) := by decide +kernel
theorem dL_law_620 : decode cL_law 620 = .ok (.iconst 0, 1) := by decide +kernel
theorem dL_law_621 : decode cL_law 621 = .ok (.invokevirtual 93, 3) := by decide +kernel
theorem dL_law_624 : decode cL_law 624 = .ok (.if_icmp .eq 210, 3) := by decide +kernel
theorem dL_law_627 : decode cL_law 627 = .ok (.iconst 0, 1) := by decide +kernel
theorem dL_law_628 : decode cL_law 628 = .ok (.ireturn, 1) := by decide +kernel
theorem dL_law_629 : decode cL_law 629 = .ok (.aload_n 1, 1) := by decide +kernel
theorem dL_law_630 : decode cL_law 630 = .ok (.invokevirtual 94, 3) := by decide +kernel
theorem dL_law_633 : decode cL_law 633 = .ok (.aload_n 2, 1) := by decide +kernel
theorem dL_law_634 : decode cL_law 634 = .ok (.invokevirtual 97, 3) := by decide +kernel
theorem dL_law_637 : decode cL_law 637 = .ok (.if_icmp .eq 197, 3) := by decide +kernel
theorem dL_law_640 : decode cL_law 640 = .ok (.iconst 0, 1) := by decide +kernel
theorem dL_law_641 : decode cL_law 641 = .ok (.ireturn, 1) := by decide +kernel
theorem dL_law_642 : decode cL_law 642 = .ok (.aload_n 1, 1) := by decide +kernel
theorem dL_law_643 : decode cL_law 643 = .ok (.invokevirtual 98, 3) := by decide +kernel
theorem dL_law_646 : decode cL_law 646 = .ok (.aload_n 2, 1) := by decide +kernel
theorem dL_law_647 : decode cL_law 647 = .ok (.invokevirtual 101, 3) := by decide +kernel
theorem dL_law_650 : decode cL_law 650 = .ok (.if_icmp .eq 184, 3) := by decide +kernel
theorem dL_law_653 : decode cL_law 653 = .ok (.iconst 0, 1) := by decide +kernel
theorem dL_law_654 : decode cL_law 654 = .ok (.ireturn, 1) := by decide +kernel
theorem dL_law_655 : decode cL_law 655 = .ok (.aload_n 1, 1) := by decide +kernel
theorem dL_law_656 : decode cL_law 656 = .ok (.aload_n 0, 1) := by decide +kernel
theorem dL_law_657 : decode cL_law 657 = .ok (.iload_n 3, 1) := by decide +kernel
theorem dL_law_658 : decode cL_law 658 = .ok (.iconst 1, 1) := by decide +kernel
theorem dL_law_659 : decode cL_law 659 = .ok (.iadd, 1) := by decide +kernel
theorem dL_law_660 : decode cL_law 660 = .ok (.iaload, 1) := by decide +kernel
theorem dL_law_661 : decode cL_law 661 = .ok (.invokevirtual 102, 3) := by decide +kernel
theorem dL_law_664 : decode cL_law 664 = .ok (.aload_n 2, 1) := by decide +kernel
theorem dL_law_665 : decode cL_law 665 = .ok (.aload_n 0, 1) := by decide +kernel
theorem dL_law_666 : decode cL_law 666 = .ok (.iload_n 3, 1) := by decide +kernel
theorem dL_law_667 : decode cL_law 667 = .ok (.iconst 1, 1) := by decide +kernel
theorem dL_law_668 : decode cL_law 668 = .ok (.iadd, 1) := by decide +kernel
theorem dL_law_669 : decode cL_law 669 = .ok (.iaload, 1) := by decide +kernel
theorem dL_law_670 : decode cL_law 670 = .ok (.invokevirtual 105, 3) := by decide +kernel
theorem dL_law_673 : decode cL_law 673 = .ok (.if_icmp .eq 161, 3) := by decide +kernel
theorem dL_law_676 : decode cL_law 676 = .ok (.iconst 0, 1) := by decide +kernel
theorem dL_law_677 : decode cL_law 677 = .ok (.ireturn, 1) := by decide +kernel
theorem dL_law_678 : decode cL_law 678 = .ok (.aload_n 1, 1) := by decide +kernel
theorem dL_law_679 : decode cL_law 679 = .ok (.aload_n 0, 1) := by decide +kernel
theorem dL_law_680 : decode cL_law 680 = .ok (.iload_n 3, 1) := by decide +kernel
theorem dL_law_681 : decode cL_law 681 = .ok (.iconst 1, 1) := by decide +kernel
theorem dL_law_682 : decode cL_law 682 = .ok (.iadd, 1) := by decide +kernel
theorem dL_law_683 : decode cL_law 683 = .ok (.iaload, 1) := by decide +kernel
theorem dL_law_684 : decode cL_law 684 = .ok (.aload_n 0, 1) := by decide +kernel
theorem dL_law_685 : decode cL_law 685 = .ok (.iload_n 3, 1) := by decide +kernel
theorem dL_law_686 : decode cL_law 686 = .ok (.iconst 2, 1) := by decide +kernel
theorem dL_law_687 : decode cL_law 687 = .ok (.iadd, 1) := by decide +kernel
theorem dL_law_688 : decode cL_law 688 = .ok (.iaload, 1) := by decide +kernel
theorem dL_law_689 : decode cL_law 689 = .ok (.aload_n 0, 1) := by decide +kernel
theorem dL_law_690 : decode cL_law 690 = .ok (.iload_n 3, 1) := by decide +kernel
theorem dL_law_691 : decode cL_law 691 = .ok (.iconst 3, 1) := by decide +kernel
theorem dL_law_692 : decode cL_law 692 = .ok (.iadd, 1) := by decide +kernel
theorem dL_law_693 : decode cL_law 693 = .ok (.iaload, 1) := by decide +kernel
theorem dL_law_694 : decode cL_law 694 = .ok (.invokevirtual 106, 3) := by decide +kernel
theorem dL_law_697 : decode cL_law 697 = .ok (.aload_n 2, 1) := by decide +kernel
theorem dL_law_698 : decode cL_law 698 = .ok (.aload_n 0, 1) := by decide +kernel
theorem dL_law_699 : decode cL_law 699 = .ok (.iload_n 3, 1) := by decide +kernel
theorem dL_law_700 : decode cL_law 700 = .ok (.iconst 1, 1) := by decide +kernel
theorem dL_law_701 : decode cL_law 701 = .ok (.iadd, 1) := by decide +kernel
theorem dL_law_702 : decode cL_law 702 = .ok (.iaload, 1) := by decide +kernel
theorem dL_law_703 : decode cL_law 703 = .ok (.aload_n 0, 1) := by decide +kernel
theorem dL_law_704 : decode cL_law 704 = .ok (.iload_n 3, 1) := by decide +kernel
theorem dL_law_705 : decode cL_law 705 = .ok (.iconst 2, 1) := by decide +kernel
theorem dL_law_706 : decode cL_law 706 = .ok (.iadd, 1) := by decide +kernel
theorem dL_law_707 : decode cL_law 707 = .ok (.iaload, 1) := by decide +kernel
theorem dL_law_708 : decode cL_law 708 = .ok (.aload_n 0, 1) := by decide +kernel
theorem dL_law_709 : decode cL_law 709 = .ok (.iload_n 3, 1) := by decide +kernel
theorem dL_law_710 : decode cL_law 710 = .ok (.iconst 3, 1) := by decide +kernel
theorem dL_law_711 : decode cL_law 711 = .ok (.iadd, 1) := by decide +kernel
theorem dL_law_712 : decode cL_law 712 = .ok (.iaload, 1) := by decide +kernel
theorem dL_law_713 : decode cL_law 713 = .ok (.invokevirtual 110, 3) := by decide +kernel
theorem dL_law_716 : decode cL_law 716 = .ok (.lcmp, 1) := by decide +kernel
theorem dL_law_717 : decode cL_law 717 = .ok (.ifCond .eq 117, 3) := by decide +kernel
theorem dL_law_720 : decode cL_law 720 = .ok (.iconst 0, 1) := by decide +kernel
theorem dL_law_721 : decode cL_law 721 = .ok (.ireturn, 1) := by decide +kernel
theorem dL_law_722 : decode cL_law 722 = .ok (.aload_n 1, 1) := by decide +kernel
theorem dL_law_723 : decode cL_law 723 = .ok (.aload_n 0, 1) := by decide +kernel
theorem dL_law_724 : decode cL_law 724 = .ok (.iload_n 3, 1) := by decide +kernel
theorem dL_law_725 : decode cL_law 725 = .ok (.iconst 1, 1) := by decide +kernel
theorem dL_law_726 : decode cL_law 726 = .ok (.iadd, 1) := by decide +kernel
theorem dL_law_727 : decode cL_law 727 = .ok (.iaload, 1) := by decide +kernel
theorem dL_law_728 : decode cL_law 728 = .ok (.aload_n 0, 1) := by decide +kernel
theorem dL_law_729 : decode cL_law 729 = .ok (.iload_n 3, 1) := by decide +kernel
theorem dL_law_730 : decode cL_law 730 = .ok (.iconst 2, 1) := by decide +kernel
theorem dL_law_731 : decode cL_law 731 = .ok (.iadd, 1) := by decide +kernel
theorem dL_law_732 : decode cL_law 732 = .ok (.iaload, 1) := by decide +kernel
theorem dL_law_733 : decode cL_law 733 = .ok (.aload_n 0, 1) := by decide +kernel
theorem dL_law_734 : decode cL_law 734 = .ok (.iload_n 3, 1) := by decide +kernel
theorem dL_law_735 : decode cL_law 735 = .ok (.iconst 3, 1) := by decide +kernel
theorem dL_law_736 : decode cL_law 736 = .ok (.iadd, 1) := by decide +kernel
theorem dL_law_737 : decode cL_law 737 = .ok (.iaload, 1) := by decide +kernel
theorem dL_law_738 : decode cL_law 738 = .ok (.invokevirtual 111, 3) := by decide +kernel
theorem dL_law_741 : decode cL_law 741 = .ok (.aload_n 2, 1) := by decide +kernel
theorem dL_law_742 : decode cL_law 742 = .ok (.aload_n 0, 1) := by decide +kernel
theorem dL_law_743 : decode cL_law 743 = .ok (.iload_n 3, 1) := by decide +kernel
theorem dL_law_744 : decode cL_law 744 = .ok (.iconst 1, 1) := by decide +kernel
theorem dL_law_745 : decode cL_law 745 = .ok (.iadd, 1) := by decide +kernel
theorem dL_law_746 : decode cL_law 746 = .ok (.iaload, 1) := by decide +kernel
theorem dL_law_747 : decode cL_law 747 = .ok (.aload_n 0, 1) := by decide +kernel
theorem dL_law_748 : decode cL_law 748 = .ok (.iload_n 3, 1) := by decide +kernel
theorem dL_law_749 : decode cL_law 749 = .ok (.iconst 2, 1) := by decide +kernel
theorem dL_law_750 : decode cL_law 750 = .ok (.iadd, 1) := by decide +kernel
theorem dL_law_751 : decode cL_law 751 = .ok (.iaload, 1) := by decide +kernel
theorem dL_law_752 : decode cL_law 752 = .ok (.aload_n 0, 1) := by decide +kernel
theorem dL_law_753 : decode cL_law 753 = .ok (.iload_n 3, 1) := by decide +kernel
theorem dL_law_754 : decode cL_law 754 = .ok (.iconst 3, 1) := by decide +kernel
theorem dL_law_755 : decode cL_law 755 = .ok (.iadd, 1) := by decide +kernel
theorem dL_law_756 : decode cL_law 756 = .ok (.iaload, 1) := by decide +kernel
theorem dL_law_757 : decode cL_law 757 = .ok (.invokevirtual 114, 3) := by decide +kernel
theorem dL_law_760 : decode cL_law 760 = .ok (.if_icmp .eq 74, 3) := by decide +kernel
theorem dL_law_763 : decode cL_law 763 = .ok (.iconst 0, 1) := by decide +kernel
theorem dL_law_764 : decode cL_law 764 = .ok (.ireturn, 1) := by decide +kernel
theorem dL_law_765 : decode cL_law 765 = .ok (.aload_n 1, 1) := by decide +kernel
theorem dL_law_766 : decode cL_law 766 = .ok (.aload_n 0, 1) := by decide +kernel
theorem dL_law_767 : decode cL_law 767 = .ok (.iload_n 3, 1) := by decide +kernel
theorem dL_law_768 : decode cL_law 768 = .ok (.iconst 1, 1) := by decide +kernel
theorem dL_law_769 : decode cL_law 769 = .ok (.iadd, 1) := by decide +kernel
theorem dL_law_770 : decode cL_law 770 = .ok (.iaload, 1) := by decide +kernel
theorem dL_law_771 : decode cL_law 771 = .ok (.invokevirtual 115, 3) := by decide +kernel
theorem dL_law_774 : decode cL_law 774 = .ok (.aload_n 2, 1) := by decide +kernel
theorem dL_law_775 : decode cL_law 775 = .ok (.aload_n 0, 1) := by decide +kernel
theorem dL_law_776 : decode cL_law 776 = .ok (.iload_n 3, 1) := by decide +kernel
theorem dL_law_777 : decode cL_law 777 = .ok (.iconst 1, 1) := by decide +kernel
theorem dL_law_778 : decode cL_law 778 = .ok (.iadd, 1) := by decide +kernel
theorem dL_law_779 : decode cL_law 779 = .ok (.iaload, 1) := by decide +kernel
theorem dL_law_780 : decode cL_law 780 = .ok (.invokevirtual 118, 3) := by decide +kernel
theorem dL_law_783 : decode cL_law 783 = .ok (.if_icmp .eq 51, 3) := by decide +kernel
theorem dL_law_786 : decode cL_law 786 = .ok (.iconst 0, 1) := by decide +kernel
theorem dL_law_787 : decode cL_law 787 = .ok (.ireturn, 1) := by decide +kernel
theorem dL_law_788 : decode cL_law 788 = .ok (.aload_n 1, 1) := by decide +kernel
theorem dL_law_789 : decode cL_law 789 = .ok (.aload_n 0, 1) := by decide +kernel
theorem dL_law_790 : decode cL_law 790 = .ok (.iload_n 3, 1) := by decide +kernel
theorem dL_law_791 : decode cL_law 791 = .ok (.iconst 1, 1) := by decide +kernel
theorem dL_law_792 : decode cL_law 792 = .ok (.iadd, 1) := by decide +kernel
theorem dL_law_793 : decode cL_law 793 = .ok (.iaload, 1) := by decide +kernel
theorem dL_law_794 : decode cL_law 794 = .ok (.invokevirtual 119, 3) := by decide +kernel
theorem dL_law_797 : decode cL_law 797 = .ok (.aload_n 2, 1) := by decide +kernel
theorem dL_law_798 : decode cL_law 798 = .ok (.aload_n 0, 1) := by decide +kernel
theorem dL_law_799 : decode cL_law 799 = .ok (.iload_n 3, 1) := by decide +kernel
theorem dL_law_800 : decode cL_law 800 = .ok (.iconst 1, 1) := by decide +kernel
theorem dL_law_801 : decode cL_law 801 = .ok (.iadd, 1) := by decide +kernel
theorem dL_law_802 : decode cL_law 802 = .ok (.iaload, 1) := by decide +kernel
theorem dL_law_803 : decode cL_law 803 = .ok (.invokevirtual 122, 3) := by decide +kernel
theorem dL_law_806 : decode cL_law 806 = .ok (.if_icmp .eq 28, 3) := by decide +kernel
theorem dL_law_809 : decode cL_law 809 = .ok (.iconst 0, 1) := by decide +kernel
theorem dL_law_810 : decode cL_law 810 = .ok (.ireturn, 1) := by decide +kernel
theorem dL_law_811 : decode cL_law 811 = .ok (.aload_n 1, 1) := by decide +kernel
theorem dL_law_812 : decode cL_law 812 = .ok (.aload_n 0, 1) := by decide +kernel
theorem dL_law_813 : decode cL_law 813 = .ok (.iload_n 3, 1) := by decide +kernel
theorem dL_law_814 : decode cL_law 814 = .ok (.iconst 1, 1) := by decide +kernel
theorem dL_law_815 : decode cL_law 815 = .ok (.iadd, 1) := by decide +kernel
theorem dL_law_816 : decode cL_law 816 = .ok (.iaload, 1) := by decide +kernel
theorem dL_law_817 : decode cL_law 817 = .ok (.invokevirtual 123, 3) := by decide +kernel
theorem dL_law_820 : decode cL_law 820 = .ok (.aload_n 2, 1) := by decide +kernel
theorem dL_law_821 : decode cL_law 821 = .ok (.aload_n 0, 1) := by decide +kernel
theorem dL_law_822 : decode cL_law 822 = .ok (.iload_n 3, 1) := by decide +kernel
theorem dL_law_823 : decode cL_law 823 = .ok (.iconst 1, 1) := by decide +kernel
theorem dL_law_824 : decode cL_law 824 = .ok (.iadd, 1) := by decide +kernel
theorem dL_law_825 : decode cL_law 825 = .ok (.iaload, 1) := by decide +kernel
theorem dL_law_826 : decode cL_law 826 = .ok (.invokevirtual 126, 3) := by decide +kernel
theorem dL_law_829 : decode cL_law 829 = .ok (.if_icmp .eq 5, 3) := by decide +kernel
theorem dL_law_832 : decode cL_law 832 = .ok (.iconst 0, 1) := by decide +kernel
theorem dL_law_833 : decode cL_law 833 = .ok (.ireturn, 1) := by decide +kernel
theorem dL_law_834 : decode cL_law 834 = .ok (.iinc 3 4, 3) := by decide +kernel
theorem dL_law_837 : decode cL_law 837 = .ok (.goto (-819), 3) := by decide +kernel
theorem dL_law_840 : decode cL_law 840 = .ok (.iconst 1, 1) := by decide +kernel
theorem dL_law_841 : decode cL_law 841 = .ok (.ireturn, 1) := by decide +kernel
end
section
theorem zz_last : True := trivial
end
