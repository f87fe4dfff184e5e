section
-- ===== PART A: goes FIRST, ahead of the names: the tables' words, and 'selects' of the private methods out of them =====
/-- a private method of a class that the tables say can be made, by its rows of tables_1 -/
def lw_okq (q : MethodName × Nat) : Prop := (q.1.cls ≠ "java/lang/invoke/MethodHandle" ∧ q.1.cls ≠ "java/lang/invoke/VarHandle") ∧ Cond.instantiable q.1.cls q.2 ∈ tables_1 ∧ Cond.privateMethod q.1 ∈ tables_1 ∧ Cond.instanceMethod q.1 ∈ tables_1
theorem lw_p0 : lw_okq (⟨"MilkRound$Street", "houseOf", "(C)LMilkRound$House;"⟩, 8) := ⟨⟨by decide +kernel, by decide +kernel⟩, List.mem_of_getElem? (i := 45) (by decide +kernel), List.mem_of_getElem? (i := 371) (by decide +kernel), List.mem_of_getElem? (i := 372) (by decide +kernel)⟩
theorem lw_p1 : lw_okq (⟨"MilkRound", "toldOfHouse", "(II)I"⟩, 12) := ⟨⟨by decide +kernel, by decide +kernel⟩, List.mem_of_getElem? (i := 21) (by decide +kernel), List.mem_of_getElem? (i := 391) (by decide +kernel), List.mem_of_getElem? (i := 392) (by decide +kernel)⟩
theorem lw_p2 : lw_okq (⟨"MilkRound", "walkAsItIs", "()V"⟩, 12) := ⟨⟨by decide +kernel, by decide +kernel⟩, List.mem_of_getElem? (i := 21) (by decide +kernel), List.mem_of_getElem? (i := 395) (by decide +kernel), List.mem_of_getElem? (i := 396) (by decide +kernel)⟩
theorem lw_p3 : lw_okq (⟨"MilkRound$Walk", "isAhead", "(II)Z"⟩, 3) := ⟨⟨by decide +kernel, by decide +kernel⟩, List.mem_of_getElem? (i := 162) (by decide +kernel), List.mem_of_getElem? (i := 482) (by decide +kernel), List.mem_of_getElem? (i := 483) (by decide +kernel)⟩
theorem lw_p4 : lw_okq (⟨"MilkRound", "longestHarmless", "(I)I"⟩, 12) := ⟨⟨by decide +kernel, by decide +kernel⟩, List.mem_of_getElem? (i := 21) (by decide +kernel), List.mem_of_getElem? (i := 486) (by decide +kernel), List.mem_of_getElem? (i := 487) (by decide +kernel)⟩
theorem lw_p5 : lw_okq (⟨"MilkRound", "hasNoRound", "()Z"⟩, 12) := ⟨⟨by decide +kernel, by decide +kernel⟩, List.mem_of_getElem? (i := 21) (by decide +kernel), List.mem_of_getElem? (i := 537) (by decide +kernel), List.mem_of_getElem? (i := 538) (by decide +kernel)⟩
theorem lw_p6 : lw_okq (⟨"MilkRound", "findBestOrder", "()I"⟩, 12) := ⟨⟨by decide +kernel, by decide +kernel⟩, List.mem_of_getElem? (i := 21) (by decide +kernel), List.mem_of_getElem? (i := 558) (by decide +kernel), List.mem_of_getElem? (i := 559) (by decide +kernel)⟩
theorem lw_p7 : lw_okq (⟨"MilkRound", "howManySets", "()I"⟩, 12) := ⟨⟨by decide +kernel, by decide +kernel⟩, List.mem_of_getElem? (i := 21) (by decide +kernel), List.mem_of_getElem? (i := 581) (by decide +kernel), List.mem_of_getElem? (i := 582) (by decide +kernel)⟩
theorem lw_p8 : lw_okq (⟨"MilkRound", "canHaveBeen", "(I)Z"⟩, 12) := ⟨⟨by decide +kernel, by decide +kernel⟩, List.mem_of_getElem? (i := 21) (by decide +kernel), List.mem_of_getElem? (i := 585) (by decide +kernel), List.mem_of_getElem? (i := 586) (by decide +kernel)⟩
theorem lw_p9 : lw_okq (⟨"MilkRound", "leastSet", "()I"⟩, 12) := ⟨⟨by decide +kernel, by decide +kernel⟩, List.mem_of_getElem? (i := 21) (by decide +kernel), List.mem_of_getElem? (i := 589) (by decide +kernel), List.mem_of_getElem? (i := 590) (by decide +kernel)⟩
theorem lw_p10 : lw_okq (⟨"MilkRound", "houseToAsk", "()I"⟩, 12) := ⟨⟨by decide +kernel, by decide +kernel⟩, List.mem_of_getElem? (i := 21) (by decide +kernel), List.mem_of_getElem? (i := 597) (by decide +kernel), List.mem_of_getElem? (i := 598) (by decide +kernel)⟩
theorem lw_p11 : lw_okq (⟨"MilkRound", "drawTrialLengths", "(I)I"⟩, 12) := ⟨⟨by decide +kernel, by decide +kernel⟩, List.mem_of_getElem? (i := 21) (by decide +kernel), List.mem_of_getElem? (i := 618) (by decide +kernel), List.mem_of_getElem? (i := 619) (by decide +kernel)⟩
theorem lw_p12 : lw_okq (⟨"MilkRound", "toldOfAll", "(I)I"⟩, 12) := ⟨⟨by decide +kernel, by decide +kernel⟩, List.mem_of_getElem? (i := 21) (by decide +kernel), List.mem_of_getElem? (i := 644) (by decide +kernel), List.mem_of_getElem? (i := 645) (by decide +kernel)⟩
theorem lw_p13 : lw_okq (⟨"MilkRoundModel", "read", "()I"⟩, 36) := ⟨⟨by decide +kernel, by decide +kernel⟩, List.mem_of_getElem? (i := 654) (by decide +kernel), List.mem_of_getElem? (i := 784) (by decide +kernel), List.mem_of_getElem? (i := 785) (by decide +kernel)⟩
theorem lw_p14 : lw_okq (⟨"MilkRoundModel", "figure", "(I)I"⟩, 36) := ⟨⟨by decide +kernel, by decide +kernel⟩, List.mem_of_getElem? (i := 654) (by decide +kernel), List.mem_of_getElem? (i := 791) (by decide +kernel), List.mem_of_getElem? (i := 792) (by decide +kernel)⟩
theorem lw_p15 : lw_okq (⟨"MilkRoundModel", "isHouse", "(I)Z"⟩, 36) := ⟨⟨by decide +kernel, by decide +kernel⟩, List.mem_of_getElem? (i := 654) (by decide +kernel), List.mem_of_getElem? (i := 803) (by decide +kernel), List.mem_of_getElem? (i := 804) (by decide +kernel)⟩
def lw_privs_1 : List (MethodName × Nat) := [(⟨"MilkRound$Street", "houseOf", "(C)LMilkRound$House;"⟩, 8), (⟨"MilkRound", "toldOfHouse", "(II)I"⟩, 12), (⟨"MilkRound", "walkAsItIs", "()V"⟩, 12), (⟨"MilkRound$Walk", "isAhead", "(II)Z"⟩, 3), (⟨"MilkRound", "longestHarmless", "(I)I"⟩, 12), (⟨"MilkRound", "hasNoRound", "()Z"⟩, 12), (⟨"MilkRound", "findBestOrder", "()I"⟩, 12), (⟨"MilkRound", "howManySets", "()I"⟩, 12), (⟨"MilkRound", "canHaveBeen", "(I)Z"⟩, 12), (⟨"MilkRound", "leastSet", "()I"⟩, 12), (⟨"MilkRound", "houseToAsk", "()I"⟩, 12), (⟨"MilkRound", "drawTrialLengths", "(I)I"⟩, 12), (⟨"MilkRound", "toldOfAll", "(I)I"⟩, 12), (⟨"MilkRoundModel", "read", "()I"⟩, 36), (⟨"MilkRoundModel", "figure", "(I)I"⟩, 36), (⟨"MilkRoundModel", "isHouse", "(I)Z"⟩, 36)]
theorem lw_r1 : ∀ q ∈ lw_privs_1, lw_okq q := List.forall_mem_cons.mpr ⟨lw_p0, List.forall_mem_cons.mpr ⟨lw_p1, List.forall_mem_cons.mpr ⟨lw_p2, List.forall_mem_cons.mpr ⟨lw_p3, List.forall_mem_cons.mpr ⟨lw_p4, List.forall_mem_cons.mpr ⟨lw_p5, List.forall_mem_cons.mpr ⟨lw_p6, List.forall_mem_cons.mpr ⟨lw_p7, List.forall_mem_cons.mpr ⟨lw_p8, List.forall_mem_cons.mpr ⟨lw_p9, List.forall_mem_cons.mpr ⟨lw_p10, List.forall_mem_cons.mpr ⟨lw_p11, List.forall_mem_cons.mpr ⟨lw_p12, List.forall_mem_cons.mpr ⟨lw_p13, List.forall_mem_cons.mpr ⟨lw_p14, List.forall_mem_cons.mpr ⟨lw_p15, fun _ h => absurd h List.not_mem_nil⟩⟩⟩⟩⟩⟩⟩⟩⟩⟩⟩⟩⟩⟩⟩⟩
theorem lw_p16 : lw_okq (⟨"MilkRoundModel", "houseNow", "(II)I"⟩, 36) := ⟨⟨by decide +kernel, by decide +kernel⟩, List.mem_of_getElem? (i := 654) (by decide +kernel), List.mem_of_getElem? (i := 807) (by decide +kernel), List.mem_of_getElem? (i := 808) (by decide +kernel)⟩
theorem lw_p17 : lw_okq (⟨"MilkRoundModel", "go", "()V"⟩, 36) := ⟨⟨by decide +kernel, by decide +kernel⟩, List.mem_of_getElem? (i := 654) (by decide +kernel), List.mem_of_getElem? (i := 811) (by decide +kernel), List.mem_of_getElem? (i := 812) (by decide +kernel)⟩
theorem lw_p18 : lw_okq (⟨"MilkRoundModel", "reads", "(I)I"⟩, 36) := ⟨⟨by decide +kernel, by decide +kernel⟩, List.mem_of_getElem? (i := 654) (by decide +kernel), List.mem_of_getElem? (i := 815) (by decide +kernel), List.mem_of_getElem? (i := 816) (by decide +kernel)⟩
theorem lw_p19 : lw_okq (⟨"MilkRoundModel", "readsAll", "(I)I"⟩, 36) := ⟨⟨by decide +kernel, by decide +kernel⟩, List.mem_of_getElem? (i := 654) (by decide +kernel), List.mem_of_getElem? (i := 822) (by decide +kernel), List.mem_of_getElem? (i := 823) (by decide +kernel)⟩
theorem lw_p20 : lw_okq (⟨"MilkRoundModel", "placeOf", "(I)I"⟩, 36) := ⟨⟨by decide +kernel, by decide +kernel⟩, List.mem_of_getElem? (i := 654) (by decide +kernel), List.mem_of_getElem? (i := 826) (by decide +kernel), List.mem_of_getElem? (i := 827) (by decide +kernel)⟩
theorem lw_p21 : lw_okq (⟨"MilkRoundModel", "isSour", "(I)Z"⟩, 36) := ⟨⟨by decide +kernel, by decide +kernel⟩, List.mem_of_getElem? (i := 654) (by decide +kernel), List.mem_of_getElem? (i := 830) (by decide +kernel), List.mem_of_getElem? (i := 831) (by decide +kernel)⟩
theorem lw_p22 : lw_okq (⟨"MilkRoundModel", "hears", "(I)Z"⟩, 36) := ⟨⟨by decide +kernel, by decide +kernel⟩, List.mem_of_getElem? (i := 654) (by decide +kernel), List.mem_of_getElem? (i := 834) (by decide +kernel), List.mem_of_getElem? (i := 835) (by decide +kernel)⟩
theorem lw_p23 : lw_okq (⟨"MilkRoundModel", "isAhead", "(II)Z"⟩, 36) := ⟨⟨by decide +kernel, by decide +kernel⟩, List.mem_of_getElem? (i := 654) (by decide +kernel), List.mem_of_getElem? (i := 838) (by decide +kernel), List.mem_of_getElem? (i := 839) (by decide +kernel)⟩
theorem lw_p24 : lw_okq (⟨"MilkRoundModel", "mostOf", "(I)I"⟩, 36) := ⟨⟨by decide +kernel, by decide +kernel⟩, List.mem_of_getElem? (i := 654) (by decide +kernel), List.mem_of_getElem? (i := 842) (by decide +kernel), List.mem_of_getElem? (i := 843) (by decide +kernel)⟩
theorem lw_p25 : lw_okq (⟨"MilkRoundModel", "wrongNow", "()I"⟩, 36) := ⟨⟨by decide +kernel, by decide +kernel⟩, List.mem_of_getElem? (i := 654) (by decide +kernel), List.mem_of_getElem? (i := 846) (by decide +kernel), List.mem_of_getElem? (i := 847) (by decide +kernel)⟩
theorem lw_p26 : lw_okq (⟨"MilkRoundModel", "sourNow", "()I"⟩, 36) := ⟨⟨by decide +kernel, by decide +kernel⟩, List.mem_of_getElem? (i := 654) (by decide +kernel), List.mem_of_getElem? (i := 850) (by decide +kernel), List.mem_of_getElem? (i := 851) (by decide +kernel)⟩
theorem lw_p27 : lw_okq (⟨"MilkRoundModel", "hearNow", "()I"⟩, 36) := ⟨⟨by decide +kernel, by decide +kernel⟩, List.mem_of_getElem? (i := 654) (by decide +kernel), List.mem_of_getElem? (i := 854) (by decide +kernel), List.mem_of_getElem? (i := 855) (by decide +kernel)⟩
theorem lw_p28 : lw_okq (⟨"MilkRoundModel", "bestNow", "(I)I"⟩, 36) := ⟨⟨by decide +kernel, by decide +kernel⟩, List.mem_of_getElem? (i := 654) (by decide +kernel), List.mem_of_getElem? (i := 882) (by decide +kernel), List.mem_of_getElem? (i := 883) (by decide +kernel)⟩
theorem lw_p29 : lw_okq (⟨"MilkRoundModel", "nextOrder", "()Z"⟩, 36) := ⟨⟨by decide +kernel, by decide +kernel⟩, List.mem_of_getElem? (i := 654) (by decide +kernel), List.mem_of_getElem? (i := 887) (by decide +kernel), List.mem_of_getElem? (i := 888) (by decide +kernel)⟩
theorem lw_p30 : lw_okq (⟨"MilkRoundModel", "change", "(II)V"⟩, 36) := ⟨⟨by decide +kernel, by decide +kernel⟩, List.mem_of_getElem? (i := 654) (by decide +kernel), List.mem_of_getElem? (i := 891) (by decide +kernel), List.mem_of_getElem? (i := 892) (by decide +kernel)⟩
theorem lw_p31 : lw_okq (⟨"MilkRoundModel", "setsNow", "(I)I"⟩, 36) := ⟨⟨by decide +kernel, by decide +kernel⟩, List.mem_of_getElem? (i := 654) (by decide +kernel), List.mem_of_getElem? (i := 907) (by decide +kernel), List.mem_of_getElem? (i := 908) (by decide +kernel)⟩
def lw_privs_2 : List (MethodName × Nat) := [(⟨"MilkRoundModel", "houseNow", "(II)I"⟩, 36), (⟨"MilkRoundModel", "go", "()V"⟩, 36), (⟨"MilkRoundModel", "reads", "(I)I"⟩, 36), (⟨"MilkRoundModel", "readsAll", "(I)I"⟩, 36), (⟨"MilkRoundModel", "placeOf", "(I)I"⟩, 36), (⟨"MilkRoundModel", "isSour", "(I)Z"⟩, 36), (⟨"MilkRoundModel", "hears", "(I)Z"⟩, 36), (⟨"MilkRoundModel", "isAhead", "(II)Z"⟩, 36), (⟨"MilkRoundModel", "mostOf", "(I)I"⟩, 36), (⟨"MilkRoundModel", "wrongNow", "()I"⟩, 36), (⟨"MilkRoundModel", "sourNow", "()I"⟩, 36), (⟨"MilkRoundModel", "hearNow", "()I"⟩, 36), (⟨"MilkRoundModel", "bestNow", "(I)I"⟩, 36), (⟨"MilkRoundModel", "nextOrder", "()Z"⟩, 36), (⟨"MilkRoundModel", "change", "(II)V"⟩, 36), (⟨"MilkRoundModel", "setsNow", "(I)I"⟩, 36)]
theorem lw_r2 : ∀ q ∈ lw_privs_2, lw_okq q := List.forall_mem_cons.mpr ⟨lw_p16, List.forall_mem_cons.mpr ⟨lw_p17, List.forall_mem_cons.mpr ⟨lw_p18, List.forall_mem_cons.mpr ⟨lw_p19, List.forall_mem_cons.mpr ⟨lw_p20, List.forall_mem_cons.mpr ⟨lw_p21, List.forall_mem_cons.mpr ⟨lw_p22, List.forall_mem_cons.mpr ⟨lw_p23, List.forall_mem_cons.mpr ⟨lw_p24, List.forall_mem_cons.mpr ⟨lw_p25, List.forall_mem_cons.mpr ⟨lw_p26, List.forall_mem_cons.mpr ⟨lw_p27, List.forall_mem_cons.mpr ⟨lw_p28, List.forall_mem_cons.mpr ⟨lw_p29, List.forall_mem_cons.mpr ⟨lw_p30, List.forall_mem_cons.mpr ⟨lw_p31, fun _ h => absurd h List.not_mem_nil⟩⟩⟩⟩⟩⟩⟩⟩⟩⟩⟩⟩⟩⟩⟩⟩
theorem lw_p32 : lw_okq (⟨"MilkRoundModel", "isKnown", "(I)Z"⟩, 36) := ⟨⟨by decide +kernel, by decide +kernel⟩, List.mem_of_getElem? (i := 654) (by decide +kernel), List.mem_of_getElem? (i := 911) (by decide +kernel), List.mem_of_getElem? (i := 912) (by decide +kernel)⟩
theorem lw_p33 : lw_okq (⟨"MilkRoundModel", "askNow", "()I"⟩, 36) := ⟨⟨by decide +kernel, by decide +kernel⟩, List.mem_of_getElem? (i := 654) (by decide +kernel), List.mem_of_getElem? (i := 919) (by decide +kernel), List.mem_of_getElem? (i := 920) (by decide +kernel)⟩
theorem lw_p34 : lw_okq (⟨"MilkRoundModel", "worstOf", "(I)I"⟩, 36) := ⟨⟨by decide +kernel, by decide +kernel⟩, List.mem_of_getElem? (i := 654) (by decide +kernel), List.mem_of_getElem? (i := 923) (by decide +kernel), List.mem_of_getElem? (i := 924) (by decide +kernel)⟩
theorem lw_p35 : lw_okq (⟨"MilkRoundModel", "weeksNow", "(III)I"⟩, 36) := ⟨⟨by decide +kernel, by decide +kernel⟩, List.mem_of_getElem? (i := 654) (by decide +kernel), List.mem_of_getElem? (i := 931) (by decide +kernel), List.mem_of_getElem? (i := 932) (by decide +kernel)⟩
theorem lw_p36 : lw_okq (⟨"MilkRoundModel", "draw", "(I)I"⟩, 36) := ⟨⟨by decide +kernel, by decide +kernel⟩, List.mem_of_getElem? (i := 654) (by decide +kernel), List.mem_of_getElem? (i := 935) (by decide +kernel), List.mem_of_getElem? (i := 936) (by decide +kernel)⟩
theorem lw_p37 : lw_okq (⟨"MilkRoundModel", "howMany", "(I)I"⟩, 36) := ⟨⟨by decide +kernel, by decide +kernel⟩, List.mem_of_getElem? (i := 654) (by decide +kernel), List.mem_of_getElem? (i := 955) (by decide +kernel), List.mem_of_getElem? (i := 956) (by decide +kernel)⟩
theorem lw_p38 : lw_okq (⟨"MilkRoundModel", "wayAll", "()I"⟩, 36) := ⟨⟨by decide +kernel, by decide +kernel⟩, List.mem_of_getElem? (i := 654) (by decide +kernel), List.mem_of_getElem? (i := 959) (by decide +kernel), List.mem_of_getElem? (i := 960) (by decide +kernel)⟩
theorem lw_p39 : lw_okq (⟨"MilkRoundModel", "mix", "(J)V"⟩, 36) := ⟨⟨by decide +kernel, by decide +kernel⟩, List.mem_of_getElem? (i := 654) (by decide +kernel), List.mem_of_getElem? (i := 968) (by decide +kernel), List.mem_of_getElem? (i := 969) (by decide +kernel)⟩
def lw_privs_3 : List (MethodName × Nat) := [(⟨"MilkRoundModel", "isKnown", "(I)Z"⟩, 36), (⟨"MilkRoundModel", "askNow", "()I"⟩, 36), (⟨"MilkRoundModel", "worstOf", "(I)I"⟩, 36), (⟨"MilkRoundModel", "weeksNow", "(III)I"⟩, 36), (⟨"MilkRoundModel", "draw", "(I)I"⟩, 36), (⟨"MilkRoundModel", "howMany", "(I)I"⟩, 36), (⟨"MilkRoundModel", "wayAll", "()I"⟩, 36), (⟨"MilkRoundModel", "mix", "(J)V"⟩, 36)]
theorem lw_r3 : ∀ q ∈ lw_privs_3, lw_okq q := List.forall_mem_cons.mpr ⟨lw_p32, List.forall_mem_cons.mpr ⟨lw_p33, List.forall_mem_cons.mpr ⟨lw_p34, List.forall_mem_cons.mpr ⟨lw_p35, List.forall_mem_cons.mpr ⟨lw_p36, List.forall_mem_cons.mpr ⟨lw_p37, List.forall_mem_cons.mpr ⟨lw_p38, List.forall_mem_cons.mpr ⟨lw_p39, fun _ h => absurd h List.not_mem_nil⟩⟩⟩⟩⟩⟩⟩⟩
def lw_privs : List (MethodName × Nat) := lw_privs_1 ++ (lw_privs_2 ++ (lw_privs_3))
def lw_tbl : List Cond := k2_sels lw_privs ++ tables_1
theorem lw_privs_ok : ∀ q ∈ lw_privs, lw_okq q := by
  show ∀ q ∈ lw_privs_1 ++ (lw_privs_2 ++ (lw_privs_3)), lw_okq q
  exact List.forall_mem_append.mpr ⟨lw_r1, List.forall_mem_append.mpr ⟨lw_r2, lw_r3⟩⟩
end
section
/-! ===== BEGIN words of one list among another's, by their places ===== -/
theorem goodIn_r {big : List Cond} (ws : List Cond) (ps : List Nat) (hp : ws = ps.filterMap (fun i => big[i]?)) (h : ws.all goodWord = true) : GoodIn big ws := by
  intro w hw
  have h1 := List.all_eq_true.mp h w hw
  rw [hp] at hw
  obtain ⟨i, -, hi⟩ := List.mem_filterMap.mp hw
  have hm : w ∈ big := by first | exact List.mem_of_getElem? hi | exact List.getElem?_mem hi
  exact ⟨hm, good_of_word h1⟩
theorem goodIn_app {big a b : List Cond} (ha : GoodIn big a) (hb : GoodIn big b) : GoodIn big (a ++ b) := fun w h => (List.mem_append.mp h).elim (ha w) (hb w)
theorem goodIn_ca {big a b : List Cond} {c : Cond} (ha : GoodIn big (c :: a)) (hb : GoodIn big b) : GoodIn big (c :: (a ++ b)) := fun w h => (List.mem_cons.mp h).elim (fun e => ha w (List.mem_cons.mpr (Or.inl e))) (fun h => (List.mem_append.mp h).elim (fun h => ha w (List.mem_cons.mpr (Or.inr h))) (hb w))
theorem goodIn_sub {big ws : List Cond} (hm : ∀ w ∈ ws, w ∈ big) (h : ws.all goodWord = true) : GoodIn big ws := fun w hw => ⟨hm w hw, good_of_word (List.all_eq_true.mp h w hw)⟩
/-! ===== END ===== -/

/-- the word for arrays over arrays, as it is used below -/
def va_AOA (ty : FieldType) (U : State) : Prop := (Cond.arrayOver (.array ty)).before #[] U = true
theorem va_AOA.use {ty : FieldType} {A : Array Value} {U : State} (h : va_AOA ty U) : (Cond.arrayOver (.array ty)).before A U = true := h
/-! ===== BEGIN new T[n][m]: the outer array a place, the inner ones among the pooled ===== -/
/-- f, but v at every address of l -/
def vr_up {α : Type} (f : Nat → α) (l : List Nat) (v : α) : Nat → α := fun a => if a ∈ l then v else f a
theorem vr_up_in {α : Type} {f : Nat → α} {l : List Nat} {v : α} {a : Nat} (h : a ∈ l) : vr_up f l v a = v := if_pos h
theorem vr_up_ne {α : Type} {f : Nat → α} {l : List Nat} {v : α} {a : Nat} (h : a ∉ l) : vr_up f l v a = f a := if_neg h
theorem vr_rows {L l : List Nat} {f : Nat → va_E} {e : va_E} (h : ∀ a, a ∈ l → a ∉ L) : va_pl L f ++ l.map (fun a => (a, e)) = va_pl (L ++ l) (vr_up f l e) := by
  unfold va_pl
  rw [List.map_append]
  congr 1
  · apply List.map_congr_left
    intro a ha
    rw [vr_up_ne (fun q => h a q ha)]
  · apply List.map_congr_left
    intro a ha
    rw [vr_up_in ha]
theorem vr_lay {X rows : va_W} {x : Nat × va_E} {pl : va_W} {D : va_G} {cl : List vw_C} {H : Heap} (hP : va_P D cl (((X ++ pl) ++ [x]) ++ rows) H) : va_P D cl ((X ++ [x]) ++ (pl ++ rows)) H := by
  rw [List.append_assoc (X ++ pl)] at hP
  have h := va_P.swap hP
  rw [← List.append_assoc X] at h
  have h2 := va_P.swap h
  rw [List.append_assoc (X ++ [x])] at h2
  exact h2
theorem vr_layD {X rows : va_W} {x : Nat × va_E} {pl : va_W} {A : Nat → Prop} (hD : va_D A (((X ++ pl) ++ [x]) ++ rows)) : va_D A ((X ++ [x]) ++ (pl ++ rows)) := by
  rw [List.append_assoc (X ++ pl)] at hD
  have h := va_D.swap hD
  rw [← List.append_assoc X] at h
  have h2 := va_D.swap h
  rw [List.append_assoc (X ++ [x])] at h2
  exact h2
theorem vr_outer (c : ClassId) (N h0 : Nat) : ∀ i : Nat, Jvm.Free.Multi.outerC c N h0 i = arrV c N (fun j => va_rf (if j < i then some (h0 + 1 + j) else none))
  | 0 => by
    show ({ cls := c, slots := Array.replicate N .null, vm := .none } : Cell) = _
    rw [arrV_new]
    refine congrArg (arrV c N) (funext fun j => ?_)
    simp [va_rf]
  | i + 1 => by
    show (Jvm.Free.Multi.outerC c N h0 i).setSlot i (.ref (h0 + 1 + i)) = _
    rw [vr_outer c N h0 i, arrV_store]
    refine congrArg (arrV c N) (funext fun j => ?_)
    by_cases e : j = i
    · subst e
      simp [updV, va_rf]
    · by_cases h : j < i
      · simp [updV, e, h, Nat.lt_succ_of_lt h]
      · simp [updV, e, h, show ¬ j < i + 1 by omega]
section VGM
variable {p : Program} {l : Launch} {e : Env} {R : Room} {s : State} {m : MethodId} {args : Array Value} {below : List Frame} {meth : Method} {c : Code} {H : Heap} {locs : List Loc} {cells slots : Nat} {Q : State → Prop}
variable {cc : ByteArray} {pc : Nat} {ls : Array Slot} {rest : List Value} {D : va_G} {cl : List vw_C} {A : Nat → Prop} {a : Nat} {tys : List (ClassId × FieldType)} {ws : va_W} {H0 : Heap}
theorem va_mna {X : va_W} {L : List Nat} {f : Nat → va_E} {cc : ByteArray} (hexec : p.tables.exec = Jvm.exec) (hb : c.code = cc) {own : String} {index : Nat} {ty : FieldType} {cy : ClassId} (hown : s.vm.findClass own = some m.cls) (hclink : (Cond.classLink own index ("[" ++ (FieldType.array ty).toString)).before args s = true) (hover : va_AOA ty s) (harr : (Cond.arrayClass ty).before args s = true) (hcy : s.vm.findClass (FieldType.array ty).toString = some cy)
    (hK : va_K D cl tys s) (hP : va_P D cl (X ++ va_pl L f) H) (hD : va_D A (X ++ va_pl L f)) (hS : va_S A H0 H locs) (hA : ∀ q, H0.size ≤ q → A q) {n k : Int32} {N' K' : Nat} {z : vp_A} (hn : ¬ n < 0) (hk : ¬ k < 0) (hN : n.toNatClampNeg = N') (hM : k.toNatClampNeg = K')
    (hb1 : N' * 4 ≤ 536870912) (hb2 : K' * componentBytes ty ≤ 536870912) (hb3 : K' ≤ 536870912) (hdf : fits ty (defaultValue ty) = true) (hdd : (defaultValue ty).isDefault = true) (hcells : cells + (1 + N') ≤ R.cells) (hslots : slots + (N' + N' * K') ≤ R.slots) (hz : ∀ c : ClassId, Jvm.Free.Multi.innerC c K' (defaultValue ty) = vp_cell c z) (hdg : decode cc pc = .ok (.multianewarray index 2, 4))
    (kk : ∀ (q : Nat) (r : Nat → Nat) (cA : ClassId) (H1 : Heap), (∀ i j : Nat, i < N' → j < N' → r i = r j → i = j) → (∀ i : Nat, i < N' → r i ∉ L) → va_K D cl (tys ++ [(cA, .array ty)]) s →
      va_P D cl ((X ++ [(q, .inl (cA, N', .inr (.inr (.inr (.inr (fun i => if i < N' then some (r i) else none))))))]) ++ va_pl (L ++ (List.range N').map r) (vr_up f ((List.range N').map r) (.inl (cy, z)))) H1 → va_D A ((X ++ [(q, .inl (cA, N', .inr (.inr (.inr (.inr (fun i => if i < N' then some (r i) else none))))))]) ++ va_pl (L ++ (List.range N').map r) (vr_up f ((List.range N').map r) (.inl (cy, z)))) → va_S A H0 H1 locs →
      W p l e R s m args below meth c H1 locs (cells + 1 + N') (slots + N' + N' * K') Q (F0 m (pc + 4) ls (.ref q :: rest))) : W p l e R s m args below meth c H locs cells slots Q (F0 m pc ls (.int k :: .int n :: rest)) := by
  subst hN
  subst hM
  intro T hT Xs
  obtain ⟨vm₁, cA, comp, -, fA, fC, hO, -, X', step⟩ := Xs.multianewarray2F hexec hown hclink (va_AOA.use hover) harr (g := F0 m pc ls (.int k :: .int n :: rest)) rfl (by rw [hb]; exact hdg) rfl hn hk hb1 hb2 hb3 hdf hdd hcells hslots
  have ec : some cy = some comp := hcy.symm.trans fC
  cases ec
  generalize hF : Jvm.Free.Multi.fill (T.setVm vm₁) cA cy n.toNatClampNeg k.toNatClampNeg (defaultValue ty) n.toNatClampNeg = F at X' step
  have hTh : (T.setVm vm₁).heap = H := hT
  obtain ⟨f1, f2, -, -⟩ := Jvm.Free.Multi.fill_facts (T.setVm vm₁) cA cy n.toNatClampNeg k.toNatClampNeg (defaultValue ty) n.toNatClampNeg
  rw [hF, hTh] at f1 f2
  have hold : ∀ x : Nat, x < H.size → F.heap[x]? = H[x]? := fun x hx => by
    have := Jvm.Free.Multi.fill_old (T.setVm vm₁) cA cy n.toNatClampNeg k.toNatClampNeg (defaultValue ty) (a := x) (by rw [hTh]; exact hx) n.toNatClampNeg
    rw [hF, hTh] at this
    exact this
  have hrow : ∀ j : Nat, j < n.toNatClampNeg → F.heap[H.size + 1 + j]? = some (vp_cell cy z) := fun j hj => by
    have := Jvm.Free.Multi.fill_inner (T.setVm vm₁) cA cy n.toNatClampNeg k.toNatClampNeg (defaultValue ty) n.toNatClampNeg j hj
    rw [hF, hTh, hz] at this
    exact this
  have hout : Jvm.Free.Multi.outerC cA n.toNatClampNeg H.size n.toNatClampNeg = vp_cell cA (n.toNatClampNeg, .inr (.inr (.inr (.inr (fun i => if i < n.toNatClampNeg then some (H.size + 1 + i) else none))))) := by
    rw [vp_cell_q]
    exact vr_outer cA n.toNatClampNeg H.size n.toNatClampNeg
  rw [hout] at f2
  have hlt : ∀ a, a ∈ L → a < H.size := fun a ha => by
    obtain ⟨k9, hk9⟩ := va_pl_get (X := X) (f := f) ha
    exact (hP k9 _ hk9).lt
  have hnl : ∀ i : Nat, i < n.toNatClampNeg → H.size + 1 + i ∉ L := fun i _ h => by
    have := hlt _ h
    omega
  have hnm : ∀ a, a ∈ (List.range n.toNatClampNeg).map (fun i => H.size + 1 + i) → a ∉ L := fun a ha h => by
    obtain ⟨i, -, rfl⟩ := List.mem_map.mp ha
    have := hlt _ h
    omega
  have hP0 : va_P D cl (X ++ va_pl L f) F.heap := hP.kept (fun k9 x hx => hold x.1 ((hP k9 x hx).lt))
  have hP1 : va_P D cl ((X ++ va_pl L f) ++ [(H.size, .inl (cA, n.toNatClampNeg, .inr (.inr (.inr (.inr (fun i => if i < n.toNatClampNeg then some (H.size + 1 + i) else none))))))]) F.heap := hP0.app (fun k9 x hx => by
    have h0 : k9 < 1 := (List.getElem?_eq_some_iff.mp hx).1
    rw [show k9 = 0 by omega] at hx
    cases hx
    exact f2)
  have hP2 : va_P D cl (((X ++ va_pl L f) ++ [(H.size, .inl (cA, n.toNatClampNeg, .inr (.inr (.inr (.inr (fun i => if i < n.toNatClampNeg then some (H.size + 1 + i) else none))))))]) ++ ((List.range n.toNatClampNeg).map (fun i => H.size + 1 + i)).map (fun a => (a, .inl (cy, z)))) F.heap := hP1.app (fun k9 x hx => by
    obtain ⟨a, ha, rfl⟩ := List.mem_map.mp (List.mem_of_getElem? hx)
    obtain ⟨i, hi, rfl⟩ := List.mem_map.mp ha
    exact hrow i (List.mem_range.mp hi))
  have hD2 : va_D A (((X ++ va_pl L f) ++ [(H.size, .inl (cA, n.toNatClampNeg, .inr (.inr (.inr (.inr (fun i => if i < n.toNatClampNeg then some (H.size + 1 + i) else none))))))]) ++ ((List.range n.toNatClampNeg).map (fun i => H.size + 1 + i)).map (fun a => (a, .inl (cy, z)))) := by
    have hD1 := hD.push (e := .inl (cA, n.toNatClampNeg, .inr (.inr (.inr (.inr (fun i => if i < n.toNatClampNeg then some (H.size + 1 + i) else none)))))) hP rfl (hA _ hS.1)
    generalize hW1 : (X ++ va_pl L f) ++ [(H.size, .inl (cA, n.toNatClampNeg, .inr (.inr (.inr (.inr (fun i => if i < n.toNatClampNeg then some (H.size + 1 + i) else none))))))] = W1 at hD1 hP1 ⊢
    have hle : ∀ (k9 : Nat) (x : Nat × va_E), W1[k9]? = some x → x.1 ≤ H.size := fun k9 x hx => by
      rw [← hW1] at hx
      by_cases hl : k9 < (X ++ va_pl L f).length
      · rw [List.getElem?_append_left hl] at hx
        exact Nat.le_of_lt ((hP k9 x hx).lt)
      · rw [List.getElem?_append_right (by omega)] at hx
        have h0 : k9 - (X ++ va_pl L f).length < 1 := (List.getElem?_eq_some_iff.mp hx).1
        rw [show k9 - (X ++ va_pl L f).length = 0 by omega] at hx
        cases hx
        exact Nat.le_refl _
    have hr : ∀ (k9 : Nat) (x : Nat × va_E), (((List.range n.toNatClampNeg).map (fun i => H.size + 1 + i)).map (fun a => ((a, .inl (cy, z)) : Nat × va_E)))[k9]? = some x → x.1 = H.size + 1 + k9 := fun k9 x hx => by
      rw [List.getElem?_map, List.getElem?_map] at hx
      by_cases h9 : k9 < n.toNatClampNeg
      · rw [List.getElem?_range h9] at hx
        cases hx
        rfl
      · have hn0 : (List.range n.toNatClampNeg)[k9]? = none := List.getElem?_eq_none (by rw [List.length_range]; omega)
        rw [hn0] at hx
        cases hx
    refine ⟨fun i j x y hi hj hxy => ?_, fun k9 x hx => ?_⟩
    · by_cases h1 : i < W1.length <;> by_cases h2 : j < W1.length
      · rw [List.getElem?_append_left h1] at hi
        rw [List.getElem?_append_left h2] at hj
        exact hD1.1 i j x y hi hj hxy
      · rw [List.getElem?_append_left h1] at hi
        rw [List.getElem?_append_right (by omega)] at hj
        have := hle _ _ hi
        have := hr _ _ hj
        omega
      · rw [List.getElem?_append_right (by omega)] at hi
        rw [List.getElem?_append_left h2] at hj
        have := hle _ _ hj
        have := hr _ _ hi
        omega
      · rw [List.getElem?_append_right (by omega)] at hi hj
        have := hr _ _ hi
        have := hr _ _ hj
        omega
    · by_cases h1 : k9 < W1.length
      · rw [List.getElem?_append_left h1] at hx
        exact hD1.2 k9 x hx
      · rw [List.getElem?_append_right (by omega)] at hx
        have := hr _ _ hx
        exact hA _ (by have := hS.1; omega)
  have hAr : ArrOfT s cA (.array ty) := fun N9 z9 => by
    obtain ⟨-, k9, hk9, cm9, hkk9⟩ := (hO 0 0 0).1
    exact ⟨(fun q hq => by cases hq), k9, hk9, cm9, hkk9⟩
  have hK2 : va_K D cl (tys ++ [(cA, .array ty)]) s := ⟨hK.1, fun k9 x hx => by
    by_cases hl : k9 < tys.length
    · rw [List.getElem?_append_left hl] at hx
      exact hK.2 k9 x hx
    · rw [List.getElem?_append_right (by omega)] at hx
      have h0 : k9 - tys.length < 1 := (List.getElem?_eq_some_iff.mp hx).1
      rw [show k9 - tys.length = 0 by omega] at hx
      cases hx
      exact ⟨hAr, fA⟩⟩
  obtain ⟨t, a1, b1⟩ := kk H.size (fun i => H.size + 1 + i) cA F.heap (fun i j _ _ h => by have h9 : H.size + 1 + i = H.size + 1 + j := h; omega) hnl hK2 (by rw [← vr_rows hnm]; exact vr_lay hP2) (by rw [← vr_rows hnm]; exact vr_layD hD2) ⟨by rw [f1]; have := hS.1; omega, fun x h1 h2 => (hold x (Nat.lt_of_lt_of_le h1 hS.1)).trans (hS.2.1 x h1 h2), hS.2.2⟩ F rfl X'
  refine ⟨t, step t ?_, b1⟩
  have e : T.heap.size = H.size := by rw [hT]
  rw [e]
  exact a1
end VGM
/-! ===== END ===== -/
end
section
/-! ===== BEGIN printed: names, fields, word lists, decode rows ===== -/
noncomputable def RX0 : String := "MilkRound$Alone"
noncomputable def TX0 : u_T := fun k => match k with
  | _ => ("", "", "", false)
noncomputable def tyX0 : Nat → FieldType := fun k => match k with
  | _ => .int
noncomputable abbrev wsX00 : List Cond := u_ws RX0 TX0 0
theorem nmX0 : ∀ a, a < 0 → ∀ b, b < 0 → a ≠ b → (TX0 a).2.1 ≠ (TX0 b).2.1 := by decide +kernel
theorem tyX0_ok : ∀ k, k < 0 → parseFieldDescriptor (TX0 k).2.2.1 = some (tyX0 k) := by decide +kernel
noncomputable abbrev cX0_init : ByteArray := prog_2_method_1_code
noncomputable def yX0_init : MethodName := ⟨RX0, "<init>", "()V"⟩
noncomputable abbrev cX0_kind : ByteArray := prog_2_method_2_code
noncomputable def yX0_kind : MethodName := ⟨RX0, "kind", "()I"⟩
noncomputable abbrev cX0_minutesFor : ByteArray := prog_2_method_3_code
noncomputable def yX0_minutesFor : MethodName := ⟨RX0, "minutesFor", "(I)I"⟩
noncomputable abbrev cX0_timesKeep : ByteArray := prog_2_method_4_code
noncomputable def yX0_timesKeep : MethodName := ⟨RX0, "timesKeep", "()I"⟩
noncomputable abbrev cX0_listens : ByteArray := prog_2_method_5_code
noncomputable def yX0_listens : MethodName := ⟨RX0, "listens", "()Z"⟩
noncomputable def RX1 : String := "MilkRound$Bad"
noncomputable def TX1 : u_T := fun k => match k with
  | _ => ("", "", "", false)
noncomputable def tyX1 : Nat → FieldType := fun k => match k with
  | _ => .int
noncomputable abbrev wsX10 : List Cond := u_ws RX1 TX1 0
theorem nmX1 : ∀ a, a < 0 → ∀ b, b < 0 → a ≠ b → (TX1 a).2.1 ≠ (TX1 b).2.1 := by decide +kernel
theorem tyX1_ok : ∀ k, k < 0 → parseFieldDescriptor (TX1 k).2.2.1 = some (tyX1 k) := by decide +kernel
noncomputable abbrev cX1_init : ByteArray := prog_3_method_1_code
noncomputable def yX1_init : MethodName := ⟨RX1, "<init>", "()V"⟩
noncomputable abbrev cX1_kind : ByteArray := prog_3_method_2_code
noncomputable def yX1_kind : MethodName := ⟨RX1, "kind", "()I"⟩
noncomputable abbrev cX1_minutesFor : ByteArray := prog_3_method_3_code
noncomputable def yX1_minutesFor : MethodName := ⟨RX1, "minutesFor", "(I)I"⟩
noncomputable abbrev cX1_lengthBehindDay : ByteArray := prog_3_method_4_code
noncomputable def yX1_lengthBehindDay : MethodName := ⟨RX1, "lengthBehindDay", "(I)I"⟩
noncomputable def RX2 : String := "MilkRound$Course"
noncomputable def TX2 : u_T := fun k => match k with
  | 0 => ("MilkRound$Course", "lengths", "[I", true)
  | 1 => ("MilkRound$Course", "order", "[I", true)
  | 2 => ("MilkRound$Course", "knownHouses", "[I", true)
  | 3 => ("MilkRound$Course", "knownMinutes", "[I", true)
  | 4 => ("MilkRound$Course", "knownSize", "I", false)
  | 5 => ("MilkRound$Course", "leftOut", "I", false)
  | 6 => ("MilkRound$Course", "days", "I", false)
  | 7 => ("MilkRound$Course", "soured", "I", false)
  | _ => ("MilkRound$Course", "heard", "I", false)
noncomputable def tyX2 : Nat → FieldType := fun k => match k with
  | 0 => .array .int
  | 1 => .array .int
  | 2 => .array .int
  | 3 => .array .int
  | 4 => .int
  | 5 => .int
  | 6 => .int
  | 7 => .int
  | _ => .int
noncomputable abbrev wsX20 : List Cond := u_ws RX2 TX2 9
theorem nmX2 : ∀ a, a < 9 → ∀ b, b < 9 → a ≠ b → (TX2 a).2.1 ≠ (TX2 b).2.1 := by decide +kernel
theorem tyX2_ok : ∀ k, k < 9 → parseFieldDescriptor (TX2 k).2.2.1 = some (tyX2 k) := by decide +kernel
noncomputable abbrev cX2_init : ByteArray := prog_4_method_1_code
noncomputable def yX2_init : MethodName := ⟨RX2, "<init>", "()V"⟩
noncomputable abbrev cX2_begin : ByteArray := prog_4_method_2_code
noncomputable def yX2_begin : MethodName := ⟨RX2, "begin", "(LMilkRound$Page;I)V"⟩
noncomputable abbrev cX2_copyFrom : ByteArray := prog_4_method_3_code
noncomputable def yX2_copyFrom : MethodName := ⟨RX2, "copyFrom", "(LMilkRound$Course;)V"⟩
noncomputable abbrev cX2_placeOf : ByteArray := prog_4_method_4_code
noncomputable def yX2_placeOf : MethodName := ⟨RX2, "placeOf", "(I)I"⟩
noncomputable abbrev cX2_learn : ByteArray := prog_4_method_5_code
noncomputable def yX2_learn : MethodName := ⟨RX2, "learn", "(II)Z"⟩
noncomputable def RX3 : String := "MilkRound$House"
noncomputable def TX3 : u_T := fun k => match k with
  | _ => ("", "", "", false)
noncomputable def tyX3 : Nat → FieldType := fun k => match k with
  | _ => .int
noncomputable abbrev wsX30 : List Cond := u_ws RX3 TX3 0
theorem nmX3 : ∀ a, a < 0 → ∀ b, b < 0 → a ≠ b → (TX3 a).2.1 ≠ (TX3 b).2.1 := by decide +kernel
theorem tyX3_ok : ∀ k, k < 0 → parseFieldDescriptor (TX3 k).2.2.1 = some (tyX3 k) := by decide +kernel
noncomputable abbrev cX3_init : ByteArray := prog_5_method_1_code
noncomputable def yX3_init : MethodName := ⟨RX3, "<init>", "()V"⟩
noncomputable abbrev cX3_kind : ByteArray := prog_5_method_2_code
noncomputable def yX3_kind : MethodName := ⟨RX3, "kind", "()I"⟩
noncomputable abbrev cX3_minutesFor : ByteArray := prog_5_method_3_code
noncomputable def yX3_minutesFor : MethodName := ⟨RX3, "minutesFor", "(I)I"⟩
noncomputable abbrev cX3_timesKeep : ByteArray := prog_5_method_4_code
noncomputable def yX3_timesKeep : MethodName := ⟨RX3, "timesKeep", "()I"⟩
noncomputable abbrev cX3_listens : ByteArray := prog_5_method_5_code
noncomputable def yX3_listens : MethodName := ⟨RX3, "listens", "()Z"⟩
noncomputable abbrev cX3_lengthBehindDay : ByteArray := prog_5_method_6_code
noncomputable def yX3_lengthBehindDay : MethodName := ⟨RX3, "lengthBehindDay", "(I)I"⟩
noncomputable def RX4 : String := "MilkRound$Page"
noncomputable def TX4 : u_T := fun k => match k with
  | 0 => ("MilkRound$Page", "signs", "[C", true)
  | _ => ("MilkRound$Page", "size", "I", false)
noncomputable def tyX4 : Nat → FieldType := fun k => match k with
  | 0 => .array .char
  | _ => .int
noncomputable abbrev wsX40 : List Cond := u_ws RX4 TX4 2
theorem nmX4 : ∀ a, a < 2 → ∀ b, b < 2 → a ≠ b → (TX4 a).2.1 ≠ (TX4 b).2.1 := by decide +kernel
theorem tyX4_ok : ∀ k, k < 2 → parseFieldDescriptor (TX4 k).2.2.1 = some (tyX4 k) := by decide +kernel
noncomputable abbrev cX4_init : ByteArray := prog_6_method_1_code
noncomputable def yX4_init : MethodName := ⟨RX4, "<init>", "()V"⟩
noncomputable abbrev cX4_add : ByteArray := prog_6_method_2_code
noncomputable def yX4_add : MethodName := ⟨RX4, "add", "(C)Z"⟩
noncomputable abbrev cX4_firstFault : ByteArray := prog_6_method_3_code
noncomputable def yX4_firstFault : MethodName := ⟨RX4, "firstFault", "()I"⟩
noncomputable abbrev cX4_isWhole : ByteArray := prog_6_method_4_code
noncomputable def yX4_isWhole : MethodName := ⟨RX4, "isWhole", "()Z"⟩
noncomputable abbrev cX4_houses : ByteArray := prog_6_method_5_code
noncomputable def yX4_houses : MethodName := ⟨RX4, "houses", "()I"⟩
noncomputable abbrev cX4_kindSignAt : ByteArray := prog_6_method_6_code
noncomputable def yX4_kindSignAt : MethodName := ⟨RX4, "kindSignAt", "(I)C"⟩
noncomputable abbrev cX4_lengthAt : ByteArray := prog_6_method_7_code
noncomputable def yX4_lengthAt : MethodName := ⟨RX4, "lengthAt", "(I)I"⟩
noncomputable abbrev cX4_keepAtEnd : ByteArray := prog_6_method_8_code
noncomputable def yX4_keepAtEnd : MethodName := ⟨RX4, "keepAtEnd", "()I"⟩
noncomputable abbrev cX4_fits : ByteArray := prog_6_method_9_code
noncomputable def yX4_fits : MethodName := ⟨RX4, "fits", "(ICZ)Z"⟩
noncomputable abbrev cX4_isMarkBehind : ByteArray := prog_6_method_10_code
noncomputable def yX4_isMarkBehind : MethodName := ⟨RX4, "isMarkBehind", "(IC)Z"⟩
noncomputable def RX5 : String := "MilkRound$Sea"
noncomputable def TX5 : u_T := fun k => match k with
  | _ => ("", "", "", false)
noncomputable def tyX5 : Nat → FieldType := fun k => match k with
  | _ => .int
noncomputable abbrev wsX50 : List Cond := u_ws RX5 TX5 0
theorem nmX5 : ∀ a, a < 0 → ∀ b, b < 0 → a ≠ b → (TX5 a).2.1 ≠ (TX5 b).2.1 := by decide +kernel
theorem tyX5_ok : ∀ k, k < 0 → parseFieldDescriptor (TX5 k).2.2.1 = some (tyX5 k) := by decide +kernel
noncomputable abbrev cX5_init : ByteArray := prog_7_method_1_code
noncomputable def yX5_init : MethodName := ⟨RX5, "<init>", "()V"⟩
noncomputable abbrev cX5_kind : ByteArray := prog_7_method_2_code
noncomputable def yX5_kind : MethodName := ⟨RX5, "kind", "()I"⟩
noncomputable abbrev cX5_minutesFor : ByteArray := prog_7_method_3_code
noncomputable def yX5_minutesFor : MethodName := ⟨RX5, "minutesFor", "(I)I"⟩
noncomputable def RX6 : String := "MilkRound$Street"
noncomputable def TX6 : u_T := fun k => match k with
  | 0 => ("MilkRound$Street", "plain", "LMilkRound$House;", true)
  | 1 => ("MilkRound$Street", "sea", "LMilkRound$House;", true)
  | 2 => ("MilkRound$Street", "alone", "LMilkRound$House;", true)
  | 3 => ("MilkRound$Street", "bad", "LMilkRound$House;", true)
  | 4 => ("MilkRound$Street", "war", "LMilkRound$House;", true)
  | 5 => ("MilkRound$Street", "houses", "[LMilkRound$House;", true)
  | 6 => ("MilkRound$Street", "size", "I", false)
  | _ => ("MilkRound$Street", "keep", "I", false)
noncomputable def tyX6 : Nat → FieldType := fun k => match k with
  | 0 => .object "MilkRound$House"
  | 1 => .object "MilkRound$House"
  | 2 => .object "MilkRound$House"
  | 3 => .object "MilkRound$House"
  | 4 => .object "MilkRound$House"
  | 5 => .array (.object "MilkRound$House")
  | 6 => .int
  | _ => .int
noncomputable abbrev wsX60 : List Cond := u_ws RX6 TX6 8
theorem nmX6 : ∀ a, a < 8 → ∀ b, b < 8 → a ≠ b → (TX6 a).2.1 ≠ (TX6 b).2.1 := by decide +kernel
theorem tyX6_ok : ∀ k, k < 8 → parseFieldDescriptor (TX6 k).2.2.1 = some (tyX6 k) := by decide +kernel
noncomputable abbrev cX6_init : ByteArray := prog_8_method_1_code
noncomputable def yX6_init : MethodName := ⟨RX6, "<init>", "()V"⟩
noncomputable abbrev cX6_settle : ByteArray := prog_8_method_2_code
noncomputable def yX6_settle : MethodName := ⟨RX6, "settle", "(LMilkRound$Page;)V"⟩
noncomputable abbrev cX6_houseOf : ByteArray := prog_8_method_3_code
noncomputable def yX6_houseOf : MethodName := ⟨RX6, "houseOf", "(C)LMilkRound$House;"⟩
noncomputable abbrev cX6_has : ByteArray := prog_8_method_4_code
noncomputable def yX6_has : MethodName := ⟨RX6, "has", "(I)Z"⟩
noncomputable abbrev cX6_reading : ByteArray := prog_8_method_5_code
noncomputable def yX6_reading : MethodName := ⟨RX6, "reading", "(III)I"⟩
noncomputable def RX7 : String := "MilkRound$Tally"
noncomputable def TX7 : u_T := fun k => match k with
  | 0 => ("MilkRound$Tally", "left", "[[I", true)
  | _ => ("MilkRound$Tally", "worst", "[I", true)
noncomputable def tyX7 : Nat → FieldType := fun k => match k with
  | 0 => .array (.array .int)
  | _ => .array .int
noncomputable abbrev wsX70 : List Cond := u_ws RX7 TX7 2
theorem nmX7 : ∀ a, a < 2 → ∀ b, b < 2 → a ≠ b → (TX7 a).2.1 ≠ (TX7 b).2.1 := by decide +kernel
theorem tyX7_ok : ∀ k, k < 2 → parseFieldDescriptor (TX7 k).2.2.1 = some (tyX7 k) := by decide +kernel
noncomputable abbrev cX7_init : ByteArray := prog_9_method_1_code
noncomputable def yX7_init : MethodName := ⟨RX7, "<init>", "()V"⟩
noncomputable abbrev cX7_clear : ByteArray := prog_9_method_2_code
noncomputable def yX7_clear : MethodName := ⟨RX7, "clear", "()V"⟩
noncomputable abbrev cX7_add : ByteArray := prog_9_method_3_code
noncomputable def yX7_add : MethodName := ⟨RX7, "add", "([II)V"⟩
noncomputable abbrev cX7_houseOfLeastWorst : ByteArray := prog_9_method_4_code
noncomputable def yX7_houseOfLeastWorst : MethodName := ⟨RX7, "houseOfLeastWorst", "(I)I"⟩
noncomputable def RX8 : String := "MilkRound$Walk"
noncomputable def TX8 : u_T := fun k => match k with
  | 0 => ("MilkRound$Walk", "street", "LMilkRound$Street;", true)
  | 1 => ("MilkRound$Walk", "came", "[I", true)
  | _ => ("MilkRound$Walk", "minutesOfAll", "I", false)
noncomputable def tyX8 : Nat → FieldType := fun k => match k with
  | 0 => .object "MilkRound$Street"
  | 1 => .array .int
  | _ => .int
noncomputable abbrev wsX80 : List Cond := u_ws RX8 TX8 3
theorem nmX8 : ∀ a, a < 3 → ∀ b, b < 3 → a ≠ b → (TX8 a).2.1 ≠ (TX8 b).2.1 := by decide +kernel
theorem tyX8_ok : ∀ k, k < 3 → parseFieldDescriptor (TX8 k).2.2.1 = some (tyX8 k) := by decide +kernel
noncomputable abbrev cX8_init : ByteArray := prog_10_method_1_code
noncomputable def yX8_init : MethodName := ⟨RX8, "<init>", "(LMilkRound$Street;)V"⟩
noncomputable abbrev cX8_go : ByteArray := prog_10_method_2_code
noncomputable def yX8_go : MethodName := ⟨RX8, "go", "([I[II)V"⟩
noncomputable abbrev cX8_isSour : ByteArray := prog_10_method_3_code
noncomputable def yX8_isSour : MethodName := ⟨RX8, "isSour", "(I)Z"⟩
noncomputable abbrev cX8_hears : ByteArray := prog_10_method_4_code
noncomputable def yX8_hears : MethodName := ⟨RX8, "hears", "(I)Z"⟩
noncomputable abbrev cX8_isAhead : ByteArray := prog_10_method_5_code
noncomputable def yX8_isAhead : MethodName := ⟨RX8, "isAhead", "(II)Z"⟩
noncomputable abbrev cX8_sourHouses : ByteArray := prog_10_method_6_code
noncomputable def yX8_sourHouses : MethodName := ⟨RX8, "sourHouses", "()I"⟩
noncomputable abbrev cX8_hearingHouses : ByteArray := prog_10_method_7_code
noncomputable def yX8_hearingHouses : MethodName := ⟨RX8, "hearingHouses", "()I"⟩
noncomputable abbrev cX8_wrongs : ByteArray := prog_10_method_8_code
noncomputable def yX8_wrongs : MethodName := ⟨RX8, "wrongs", "()I"⟩
noncomputable def RX9 : String := "MilkRound$War"
noncomputable def TX9 : u_T := fun k => match k with
  | _ => ("", "", "", false)
noncomputable def tyX9 : Nat → FieldType := fun k => match k with
  | _ => .int
noncomputable abbrev wsX90 : List Cond := u_ws RX9 TX9 0
theorem nmX9 : ∀ a, a < 0 → ∀ b, b < 0 → a ≠ b → (TX9 a).2.1 ≠ (TX9 b).2.1 := by decide +kernel
theorem tyX9_ok : ∀ k, k < 0 → parseFieldDescriptor (TX9 k).2.2.1 = some (tyX9 k) := by decide +kernel
noncomputable abbrev cX9_init : ByteArray := prog_11_method_1_code
noncomputable def yX9_init : MethodName := ⟨RX9, "<init>", "()V"⟩
noncomputable abbrev cX9_kind : ByteArray := prog_11_method_2_code
noncomputable def yX9_kind : MethodName := ⟨RX9, "kind", "()I"⟩
noncomputable abbrev cX9_minutesFor : ByteArray := prog_11_method_3_code
noncomputable def yX9_minutesFor : MethodName := ⟨RX9, "minutesFor", "(I)I"⟩
noncomputable def RX10 : String := "MilkRound"
noncomputable def TX10 : u_T := fun k => match k with
  | 0 => ("MilkRound", "page", "LMilkRound$Page;", true)
  | 1 => ("MilkRound", "street", "LMilkRound$Street;", true)
  | 2 => ("MilkRound", "now", "LMilkRound$Course;", true)
  | 3 => ("MilkRound", "kept", "LMilkRound$Course;", true)
  | 4 => ("MilkRound", "walk", "LMilkRound$Walk;", true)
  | 5 => ("MilkRound", "trialLengths", "[I", true)
  | 6 => ("MilkRound", "trialOrder", "[I", true)
  | 7 => ("MilkRound", "bestOrder", "[I", true)
  | 8 => ("MilkRound", "tally", "LMilkRound$Tally;", true)
  | 9 => ("MilkRound", "hasImage", "Z", false)
  | 10 => ("MilkRound", "roundsRead", "I", false)
  | _ => ("MilkRound", "searches", "I", false)
noncomputable def tyX10 : Nat → FieldType := fun k => match k with
  | 0 => .object "MilkRound$Page"
  | 1 => .object "MilkRound$Street"
  | 2 => .object "MilkRound$Course"
  | 3 => .object "MilkRound$Course"
  | 4 => .object "MilkRound$Walk"
  | 5 => .array .int
  | 6 => .array .int
  | 7 => .array .int
  | 8 => .object "MilkRound$Tally"
  | 9 => .boolean
  | 10 => .int
  | _ => .int
noncomputable abbrev wsX100 : List Cond := u_ws RX10 TX10 12
theorem nmX10 : ∀ a, a < 12 → ∀ b, b < 12 → a ≠ b → (TX10 a).2.1 ≠ (TX10 b).2.1 := by decide +kernel
theorem tyX10_ok : ∀ k, k < 12 → parseFieldDescriptor (TX10 k).2.2.1 = some (tyX10 k) := by decide +kernel
noncomputable abbrev cX10_init : ByteArray := prog_1_method_1_code
noncomputable def yX10_init : MethodName := ⟨RX10, "<init>", "()V"⟩
noncomputable abbrev cX10_letter : ByteArray := prog_1_method_2_code
noncomputable def yX10_letter : MethodName := ⟨RX10, "letter", "(I)I"⟩
noncomputable abbrev cX10_blank : ByteArray := prog_1_method_3_code
noncomputable def yX10_blank : MethodName := ⟨RX10, "blank", "()I"⟩
noncomputable abbrev cX10_fault : ByteArray := prog_1_method_4_code
noncomputable def yX10_fault : MethodName := ⟨RX10, "fault", "()I"⟩
noncomputable abbrev cX10_round : ByteArray := prog_1_method_5_code
noncomputable def yX10_round : MethodName := ⟨RX10, "round", "()I"⟩
noncomputable abbrev cX10_about : ByteArray := prog_1_method_6_code
noncomputable def yX10_about : MethodName := ⟨RX10, "about", "(II)I"⟩
noncomputable abbrev cX10_as : ByteArray := prog_1_method_7_code
noncomputable def yX10_as : MethodName := ⟨RX10, "as", "(II)I"⟩
noncomputable abbrev cX10_letters : ByteArray := prog_1_method_8_code
noncomputable def yX10_letters : MethodName := ⟨RX10, "letters", "(II)I"⟩
noncomputable abbrev cX10_leave : ByteArray := prog_1_method_9_code
noncomputable def yX10_leave : MethodName := ⟨RX10, "leave", "(IZ)I"⟩
noncomputable abbrev cX10_swap : ByteArray := prog_1_method_10_code
noncomputable def yX10_swap : MethodName := ⟨RX10, "swap", "(II)I"⟩
noncomputable abbrev cX10_day : ByteArray := prog_1_method_11_code
noncomputable def yX10_day : MethodName := ⟨RX10, "day", "()I"⟩
noncomputable abbrev cX10_best : ByteArray := prog_1_method_12_code
noncomputable def yX10_best : MethodName := ⟨RX10, "best", "(I)I"⟩
noncomputable abbrev cX10_known : ByteArray := prog_1_method_13_code
noncomputable def yX10_known : MethodName := ⟨RX10, "known", "(II)I"⟩
noncomputable abbrev cX10_forget : ByteArray := prog_1_method_14_code
noncomputable def yX10_forget : MethodName := ⟨RX10, "forget", "()I"⟩
noncomputable abbrev cX10_sets : ByteArray := prog_1_method_15_code
noncomputable def yX10_sets : MethodName := ⟨RX10, "sets", "(I)I"⟩
noncomputable abbrev cX10_ask : ByteArray := prog_1_method_16_code
noncomputable def yX10_ask : MethodName := ⟨RX10, "ask", "()I"⟩
noncomputable abbrev cX10_weeks : ByteArray := prog_1_method_17_code
noncomputable def yX10_weeks : MethodName := ⟨RX10, "weeks", "(III)I"⟩
noncomputable abbrev cX10_image : ByteArray := prog_1_method_18_code
noncomputable def yX10_image : MethodName := ⟨RX10, "image", "()I"⟩
noncomputable abbrev cX10_restore : ByteArray := prog_1_method_19_code
noncomputable def yX10_restore : MethodName := ⟨RX10, "restore", "()I"⟩
noncomputable abbrev cX10_count : ByteArray := prog_1_method_20_code
noncomputable def yX10_count : MethodName := ⟨RX10, "count", "(I)I"⟩
noncomputable abbrev cX10_digest : ByteArray := prog_1_method_21_code
noncomputable def yX10_digest : MethodName := ⟨RX10, "digest", "()J"⟩
noncomputable abbrev cX10_hasNoRound : ByteArray := prog_1_method_22_code
noncomputable def yX10_hasNoRound : MethodName := ⟨RX10, "hasNoRound", "()Z"⟩
noncomputable abbrev cX10_walkAsItIs : ByteArray := prog_1_method_23_code
noncomputable def yX10_walkAsItIs : MethodName := ⟨RX10, "walkAsItIs", "()V"⟩
noncomputable abbrev cX10_toldOfHouse : ByteArray := prog_1_method_24_code
noncomputable def yX10_toldOfHouse : MethodName := ⟨RX10, "toldOfHouse", "(II)I"⟩
noncomputable abbrev cX10_toldOfAll : ByteArray := prog_1_method_25_code
noncomputable def yX10_toldOfAll : MethodName := ⟨RX10, "toldOfAll", "(I)I"⟩
noncomputable abbrev cX10_isOfKind : ByteArray := prog_1_method_26_code
noncomputable def yX10_isOfKind : MethodName := ⟨RX10, "isOfKind", "(LMilkRound$House;I)Z"⟩
noncomputable abbrev cX10_longestHarmless : ByteArray := prog_1_method_27_code
noncomputable def yX10_longestHarmless : MethodName := ⟨RX10, "longestHarmless", "(I)I"⟩
noncomputable abbrev cX10_findBestOrder : ByteArray := prog_1_method_28_code
noncomputable def yX10_findBestOrder : MethodName := ⟨RX10, "findBestOrder", "()I"⟩
noncomputable abbrev cX10_advance : ByteArray := prog_1_method_29_code
noncomputable def yX10_advance : MethodName := ⟨RX10, "advance", "([II)Z"⟩
noncomputable abbrev cX10_exchange : ByteArray := prog_1_method_30_code
noncomputable def yX10_exchange : MethodName := ⟨RX10, "exchange", "([III)V"⟩
noncomputable abbrev cX10_bitOf : ByteArray := prog_1_method_31_code
noncomputable def yX10_bitOf : MethodName := ⟨RX10, "bitOf", "(II)I"⟩
noncomputable abbrev cX10_canHaveBeen : ByteArray := prog_1_method_32_code
noncomputable def yX10_canHaveBeen : MethodName := ⟨RX10, "canHaveBeen", "(I)Z"⟩
noncomputable abbrev cX10_howManySets : ByteArray := prog_1_method_33_code
noncomputable def yX10_howManySets : MethodName := ⟨RX10, "howManySets", "()I"⟩
noncomputable abbrev cX10_leastSet : ByteArray := prog_1_method_34_code
noncomputable def yX10_leastSet : MethodName := ⟨RX10, "leastSet", "()I"⟩
noncomputable abbrev cX10_houseToAsk : ByteArray := prog_1_method_35_code
noncomputable def yX10_houseToAsk : MethodName := ⟨RX10, "houseToAsk", "()I"⟩
noncomputable abbrev cX10_drawTrialLengths : ByteArray := prog_1_method_36_code
noncomputable def yX10_drawTrialLengths : MethodName := ⟨RX10, "drawTrialLengths", "(I)I"⟩
noncomputable def RX11 : String := "MilkRoundModel"
noncomputable def TX11 : u_T := fun k => match k with
  | 0 => ("MilkRoundModel", "rounds", "I", false)
  | 1 => ("MilkRoundModel", "houses", "I", false)
  | 2 => ("MilkRoundModel", "kindOf", "[I", true)
  | 3 => ("MilkRoundModel", "longOf", "[I", true)
  | 4 => ("MilkRoundModel", "orderAt", "[I", true)
  | 5 => ("MilkRoundModel", "leftOut", "I", false)
  | 6 => ("MilkRoundModel", "keep", "I", false)
  | 7 => ("MilkRoundModel", "days", "I", false)
  | 8 => ("MilkRoundModel", "soured", "I", false)
  | 9 => ("MilkRoundModel", "overheard", "I", false)
  | 10 => ("MilkRoundModel", "known", "I", false)
  | 11 => ("MilkRoundModel", "knownHouse", "[I", true)
  | 12 => ("MilkRoundModel", "knownMinutes", "[I", true)
  | 13 => ("MilkRoundModel", "asks", "I", false)
  | 14 => ("MilkRoundModel", "pageLength", "I", false)
  | 15 => ("MilkRoundModel", "page", "[B", true)
  | 16 => ("MilkRoundModel", "isWhole", "Z", false)
  | 17 => ("MilkRoundModel", "newMany", "I", false)
  | 18 => ("MilkRoundModel", "comesAt", "[I", true)
  | 19 => ("MilkRoundModel", "savedOrder", "[I", true)
  | 20 => ("MilkRoundModel", "bestOrder", "[I", true)
  | 21 => ("MilkRoundModel", "comesBy", "[I", true)
  | 22 => ("MilkRoundModel", "seedNow", "J", false)
  | 23 => ("MilkRoundModel", "savedLong", "[I", true)
  | 24 => ("MilkRoundModel", "isKept", "Z", false)
  | 25 => ("MilkRoundModel", "keptRound", "I", false)
  | 26 => ("MilkRoundModel", "keptLeft", "I", false)
  | 27 => ("MilkRoundModel", "keptDays", "I", false)
  | 28 => ("MilkRoundModel", "keptSoured", "I", false)
  | 29 => ("MilkRoundModel", "keptOverheard", "I", false)
  | 30 => ("MilkRoundModel", "keptKnown", "I", false)
  | 31 => ("MilkRoundModel", "keptLong", "[I", true)
  | 32 => ("MilkRoundModel", "keptOrder", "[I", true)
  | 33 => ("MilkRoundModel", "keptHouse", "[I", true)
  | 34 => ("MilkRoundModel", "keptMinutes", "[I", true)
  | _ => ("MilkRoundModel", "h", "J", false)
noncomputable def tyX11 : Nat → FieldType := fun k => match k with
  | 0 => .int
  | 1 => .int
  | 2 => .array .int
  | 3 => .array .int
  | 4 => .array .int
  | 5 => .int
  | 6 => .int
  | 7 => .int
  | 8 => .int
  | 9 => .int
  | 10 => .int
  | 11 => .array .int
  | 12 => .array .int
  | 13 => .int
  | 14 => .int
  | 15 => .array .byte
  | 16 => .boolean
  | 17 => .int
  | 18 => .array .int
  | 19 => .array .int
  | 20 => .array .int
  | 21 => .array .int
  | 22 => .long
  | 23 => .array .int
  | 24 => .boolean
  | 25 => .int
  | 26 => .int
  | 27 => .int
  | 28 => .int
  | 29 => .int
  | 30 => .int
  | 31 => .array .int
  | 32 => .array .int
  | 33 => .array .int
  | 34 => .array .int
  | _ => .long
noncomputable abbrev wsX110 : List Cond := u_ws RX11 TX11 36
theorem nmX11 : ∀ a, a < 36 → ∀ b, b < 36 → a ≠ b → (TX11 a).2.1 ≠ (TX11 b).2.1 := by decide +kernel
theorem tyX11_ok : ∀ k, k < 36 → parseFieldDescriptor (TX11 k).2.2.1 = some (tyX11 k) := by decide +kernel
noncomputable abbrev cX11_init : ByteArray := prog_13_method_1_code
noncomputable def yX11_init : MethodName := ⟨RX11, "<init>", "()V"⟩
noncomputable abbrev cX11_within : ByteArray := prog_13_method_3_code
noncomputable def yX11_within : MethodName := ⟨RX11, "within", "(III)Z"⟩
noncomputable abbrev cX11_isIn : ByteArray := prog_13_method_4_code
noncomputable def yX11_isIn : MethodName := ⟨RX11, "isIn", "(II)Z"⟩
noncomputable abbrev cX11_letter : ByteArray := prog_13_method_5_code
noncomputable def yX11_letter : MethodName := ⟨RX11, "letter", "(I)I"⟩
noncomputable abbrev cX11_blank : ByteArray := prog_13_method_6_code
noncomputable def yX11_blank : MethodName := ⟨RX11, "blank", "()I"⟩
noncomputable abbrev cX11_kindBy : ByteArray := prog_13_method_7_code
noncomputable def yX11_kindBy : MethodName := ⟨RX11, "kindBy", "(I)I"⟩
noncomputable abbrev cX11_figure : ByteArray := prog_13_method_8_code
noncomputable def yX11_figure : MethodName := ⟨RX11, "figure", "(I)I"⟩
noncomputable abbrev cX11_read : ByteArray := prog_13_method_9_code
noncomputable def yX11_read : MethodName := ⟨RX11, "read", "()I"⟩
noncomputable abbrev cX11_fault : ByteArray := prog_13_method_10_code
noncomputable def yX11_fault : MethodName := ⟨RX11, "fault", "()I"⟩
noncomputable abbrev cX11_round : ByteArray := prog_13_method_11_code
noncomputable def yX11_round : MethodName := ⟨RX11, "round", "()I"⟩
noncomputable abbrev cX11_isHouse : ByteArray := prog_13_method_12_code
noncomputable def yX11_isHouse : MethodName := ⟨RX11, "isHouse", "(I)Z"⟩
noncomputable abbrev cX11_readsAll : ByteArray := prog_13_method_13_code
noncomputable def yX11_readsAll : MethodName := ⟨RX11, "readsAll", "(I)I"⟩
noncomputable abbrev cX11_reads : ByteArray := prog_13_method_14_code
noncomputable def yX11_reads : MethodName := ⟨RX11, "reads", "(I)I"⟩
noncomputable abbrev cX11_go : ByteArray := prog_13_method_15_code
noncomputable def yX11_go : MethodName := ⟨RX11, "go", "()V"⟩
noncomputable abbrev cX11_isSour : ByteArray := prog_13_method_16_code
noncomputable def yX11_isSour : MethodName := ⟨RX11, "isSour", "(I)Z"⟩
noncomputable abbrev cX11_isAhead : ByteArray := prog_13_method_17_code
noncomputable def yX11_isAhead : MethodName := ⟨RX11, "isAhead", "(II)Z"⟩
noncomputable abbrev cX11_hears : ByteArray := prog_13_method_18_code
noncomputable def yX11_hears : MethodName := ⟨RX11, "hears", "(I)Z"⟩
noncomputable abbrev cX11_sourNow : ByteArray := prog_13_method_19_code
noncomputable def yX11_sourNow : MethodName := ⟨RX11, "sourNow", "()I"⟩
noncomputable abbrev cX11_hearNow : ByteArray := prog_13_method_20_code
noncomputable def yX11_hearNow : MethodName := ⟨RX11, "hearNow", "()I"⟩
noncomputable abbrev cX11_wrongNow : ByteArray := prog_13_method_21_code
noncomputable def yX11_wrongNow : MethodName := ⟨RX11, "wrongNow", "()I"⟩
noncomputable abbrev cX11_placeOf : ByteArray := prog_13_method_22_code
noncomputable def yX11_placeOf : MethodName := ⟨RX11, "placeOf", "(I)I"⟩
noncomputable abbrev cX11_mostOf : ByteArray := prog_13_method_23_code
noncomputable def yX11_mostOf : MethodName := ⟨RX11, "mostOf", "(I)I"⟩
noncomputable abbrev cX11_houseNow : ByteArray := prog_13_method_24_code
noncomputable def yX11_houseNow : MethodName := ⟨RX11, "houseNow", "(II)I"⟩
noncomputable abbrev cX11_about : ByteArray := prog_13_method_25_code
noncomputable def yX11_about : MethodName := ⟨RX11, "about", "(II)I"⟩
noncomputable abbrev cX11_as : ByteArray := prog_13_method_26_code
noncomputable def yX11_as : MethodName := ⟨RX11, "as", "(II)I"⟩
noncomputable abbrev cX11_letters : ByteArray := prog_13_method_27_code
noncomputable def yX11_letters : MethodName := ⟨RX11, "letters", "(II)I"⟩
noncomputable abbrev cX11_leave : ByteArray := prog_13_method_28_code
noncomputable def yX11_leave : MethodName := ⟨RX11, "leave", "(IZ)I"⟩
noncomputable abbrev cX11_swap : ByteArray := prog_13_method_29_code
noncomputable def yX11_swap : MethodName := ⟨RX11, "swap", "(II)I"⟩
noncomputable abbrev cX11_day : ByteArray := prog_13_method_30_code
noncomputable def yX11_day : MethodName := ⟨RX11, "day", "()I"⟩
noncomputable abbrev cX11_nextOrder : ByteArray := prog_13_method_31_code
noncomputable def yX11_nextOrder : MethodName := ⟨RX11, "nextOrder", "()Z"⟩
noncomputable abbrev cX11_change : ByteArray := prog_13_method_32_code
noncomputable def yX11_change : MethodName := ⟨RX11, "change", "(II)V"⟩
noncomputable abbrev cX11_bestNow : ByteArray := prog_13_method_33_code
noncomputable def yX11_bestNow : MethodName := ⟨RX11, "bestNow", "(I)I"⟩
noncomputable abbrev cX11_best : ByteArray := prog_13_method_34_code
noncomputable def yX11_best : MethodName := ⟨RX11, "best", "(I)I"⟩
noncomputable abbrev cX11_known : ByteArray := prog_13_method_35_code
noncomputable def yX11_known : MethodName := ⟨RX11, "known", "(II)I"⟩
noncomputable abbrev cX11_forget : ByteArray := prog_13_method_36_code
noncomputable def yX11_forget : MethodName := ⟨RX11, "forget", "()I"⟩
noncomputable abbrev cX11_isKnown : ByteArray := prog_13_method_37_code
noncomputable def yX11_isKnown : MethodName := ⟨RX11, "isKnown", "(I)Z"⟩
noncomputable abbrev cX11_setsNow : ByteArray := prog_13_method_38_code
noncomputable def yX11_setsNow : MethodName := ⟨RX11, "setsNow", "(I)I"⟩
noncomputable abbrev cX11_sets : ByteArray := prog_13_method_39_code
noncomputable def yX11_sets : MethodName := ⟨RX11, "sets", "(I)I"⟩
noncomputable abbrev cX11_worstOf : ByteArray := prog_13_method_40_code
noncomputable def yX11_worstOf : MethodName := ⟨RX11, "worstOf", "(I)I"⟩
noncomputable abbrev cX11_askNow : ByteArray := prog_13_method_41_code
noncomputable def yX11_askNow : MethodName := ⟨RX11, "askNow", "()I"⟩
noncomputable abbrev cX11_ask : ByteArray := prog_13_method_42_code
noncomputable def yX11_ask : MethodName := ⟨RX11, "ask", "()I"⟩
noncomputable abbrev cX11_draw : ByteArray := prog_13_method_43_code
noncomputable def yX11_draw : MethodName := ⟨RX11, "draw", "(I)I"⟩
noncomputable abbrev cX11_weeksNow : ByteArray := prog_13_method_44_code
noncomputable def yX11_weeksNow : MethodName := ⟨RX11, "weeksNow", "(III)I"⟩
noncomputable abbrev cX11_weeks : ByteArray := prog_13_method_45_code
noncomputable def yX11_weeks : MethodName := ⟨RX11, "weeks", "(III)I"⟩
noncomputable abbrev cX11_image : ByteArray := prog_13_method_46_code
noncomputable def yX11_image : MethodName := ⟨RX11, "image", "()I"⟩
noncomputable abbrev cX11_restore : ByteArray := prog_13_method_47_code
noncomputable def yX11_restore : MethodName := ⟨RX11, "restore", "()I"⟩
noncomputable abbrev cX11_wayAll : ByteArray := prog_13_method_48_code
noncomputable def yX11_wayAll : MethodName := ⟨RX11, "wayAll", "()I"⟩
noncomputable abbrev cX11_howMany : ByteArray := prog_13_method_49_code
noncomputable def yX11_howMany : MethodName := ⟨RX11, "howMany", "(I)I"⟩
noncomputable abbrev cX11_count : ByteArray := prog_13_method_50_code
noncomputable def yX11_count : MethodName := ⟨RX11, "count", "(I)I"⟩
noncomputable abbrev cX11_mix : ByteArray := prog_13_method_51_code
noncomputable def yX11_mix : MethodName := ⟨RX11, "mix", "(J)V"⟩
noncomputable abbrev cX11_digest : ByteArray := prog_13_method_52_code
noncomputable def yX11_digest : MethodName := ⟨RX11, "digest", "()J"⟩
noncomputable def RJ11 : String := "java/lang/Character"
noncomputable def TJ11 : u_T := fun k => match k with
  | _ => ("", "", "", false)
noncomputable def tyJ11 : Nat → FieldType := fun k => match k with
  | _ => .int
noncomputable abbrev wsJ110 : List Cond := u_ws RJ11 TJ11 0
theorem nmJ11 : ∀ a, a < 0 → ∀ b, b < 0 → a ≠ b → (TJ11 a).2.1 ≠ (TJ11 b).2.1 := by decide +kernel
theorem tyJ11_ok : ∀ k, k < 0 → parseFieldDescriptor (TJ11 k).2.2.1 = some (tyJ11 k) := by decide +kernel
noncomputable abbrev cJ11_isValidCodePoint_9a6ad : ByteArray := prog_14_method_11_code
noncomputable def yJ11_isValidCodePoint_9a6ad : MethodName := ⟨RJ11, "isValidCodePoint", "(I)Z"⟩
noncomputable abbrev cJ11_highSurrogate_5068e : ByteArray := prog_14_method_28_code
noncomputable def yJ11_highSurrogate_5068e : MethodName := ⟨RJ11, "highSurrogate", "(I)C"⟩
noncomputable abbrev cJ11_lowSurrogate_5068e : ByteArray := prog_14_method_29_code
noncomputable def yJ11_lowSurrogate_5068e : MethodName := ⟨RJ11, "lowSurrogate", "(I)C"⟩
noncomputable def RJ9 : String := "java/lang/Math"
noncomputable def TJ9 : u_T := fun k => match k with
  | _ => ("", "", "", false)
noncomputable def tyJ9 : Nat → FieldType := fun k => match k with
  | _ => .int
noncomputable abbrev wsJ90 : List Cond := u_ws RJ9 TJ9 0
theorem nmJ9 : ∀ a, a < 0 → ∀ b, b < 0 → a ≠ b → (TJ9 a).2.1 ≠ (TJ9 b).2.1 := by decide +kernel
theorem tyJ9_ok : ∀ k, k < 0 → parseFieldDescriptor (TJ9 k).2.2.1 = some (tyJ9 k) := by decide +kernel
noncomputable abbrev cJ9_max_7cf53 : ByteArray := prog_15_method_65_code
noncomputable def yJ9_max_7cf53 : MethodName := ⟨RJ9, "max", "(II)I"⟩
noncomputable abbrev cJ9_min_7cf53 : ByteArray := prog_15_method_69_code
noncomputable def yJ9_min_7cf53 : MethodName := ⟨RJ9, "min", "(II)I"⟩
noncomputable def RJ0 : String := "java/lang/String"
noncomputable def TJ0 : u_T := fun k => match k with
  | _ => ("", "", "", false)
noncomputable def tyJ0 : Nat → FieldType := fun k => match k with
  | _ => .int
noncomputable abbrev wsJ00 : List Cond := u_ws RJ0 TJ0 0
theorem nmJ0 : ∀ a, a < 0 → ∀ b, b < 0 → a ≠ b → (TJ0 a).2.1 ≠ (TJ0 b).2.1 := by decide +kernel
theorem tyJ0_ok : ∀ k, k < 0 → parseFieldDescriptor (TJ0 k).2.2.1 = some (tyJ0 k) := by decide +kernel
noncomputable abbrev cJ0_length_8abf5 : ByteArray := prog_16_method_54_code
noncomputable def yJ0_length_8abf5 : MethodName := ⟨RJ0, "length", "()I"⟩
noncomputable abbrev cJ0_indexOf_0f7a4 : ByteArray := prog_16_method_79_code
noncomputable def yJ0_indexOf_0f7a4 : MethodName := ⟨RJ0, "indexOf", "(I)I"⟩
noncomputable abbrev cJ0_indexOf_7cf53 : ByteArray := prog_16_method_80_code
noncomputable def yJ0_indexOf_7cf53 : MethodName := ⟨RJ0, "indexOf", "(II)I"⟩
noncomputable abbrev cJ0_coder_7d493 : ByteArray := prog_16_method_152_code
noncomputable def yJ0_coder_7d493 : MethodName := ⟨RJ0, "coder", "()B"⟩
noncomputable abbrev cJ0_isLatin1_aae02 : ByteArray := prog_16_method_154_code
noncomputable def yJ0_isLatin1_aae02 : MethodName := ⟨RJ0, "isLatin1", "()Z"⟩
noncomputable abbrev cJ0_checkBoundsBeginEnd_23922 : ByteArray := prog_16_method_158_code
noncomputable def yJ0_checkBoundsBeginEnd_23922 : MethodName := ⟨RJ0, "checkBoundsBeginEnd", "(III)V"⟩
noncomputable def RJ1 : String := "java/lang/StringLatin1"
noncomputable def TJ1 : u_T := fun k => match k with
  | _ => ("", "", "", false)
noncomputable def tyJ1 : Nat → FieldType := fun k => match k with
  | _ => .int
noncomputable abbrev wsJ10 : List Cond := u_ws RJ1 TJ1 0
theorem nmJ1 : ∀ a, a < 0 → ∀ b, b < 0 → a ≠ b → (TJ1 a).2.1 ≠ (TJ1 b).2.1 := by decide +kernel
theorem tyJ1_ok : ∀ k, k < 0 → parseFieldDescriptor (TJ1 k).2.2.1 = some (tyJ1 k) := by decide +kernel
noncomputable abbrev cJ1_canEncode_9a6ad : ByteArray := prog_17_method_4_code
noncomputable def yJ1_canEncode_9a6ad : MethodName := ⟨RJ1, "canEncode", "(I)Z"⟩
noncomputable abbrev cJ1_indexOf_4cfef : ByteArray := prog_17_method_22_code
noncomputable def yJ1_indexOf_4cfef : MethodName := ⟨RJ1, "indexOf", "([BIII)I"⟩
noncomputable abbrev cJ1_indexOfChar_4cfef : ByteArray := prog_17_method_23_code
noncomputable def yJ1_indexOfChar_4cfef : MethodName := ⟨RJ1, "indexOfChar", "([BIII)I"⟩
noncomputable def RJ2 : String := "java/lang/StringUTF16"
noncomputable def TJ2 : u_T := fun k => match k with
  | _ => ("", "", "", false)
noncomputable def tyJ2 : Nat → FieldType := fun k => match k with
  | _ => .int
noncomputable abbrev wsJ20 : List Cond := u_ws RJ2 TJ2 0
theorem nmJ2 : ∀ a, a < 0 → ∀ b, b < 0 → a ≠ b → (TJ2 a).2.1 ≠ (TJ2 b).2.1 := by decide +kernel
theorem tyJ2_ok : ∀ k, k < 0 → parseFieldDescriptor (TJ2 k).2.2.1 = some (tyJ2 k) := by decide +kernel
noncomputable abbrev cJ2_getChar_3b067 : ByteArray := prog_18_method_5_code
noncomputable def yJ2_getChar_3b067 : MethodName := ⟨RJ2, "getChar", "([BI)C"⟩
noncomputable abbrev cJ2_length_9d52b : ByteArray := prog_18_method_6_code
noncomputable def yJ2_length_9d52b : MethodName := ⟨RJ2, "length", "([B)I"⟩
noncomputable abbrev cJ2_indexOf_4cfef : ByteArray := prog_18_method_40_code
noncomputable def yJ2_indexOf_4cfef : MethodName := ⟨RJ2, "indexOf", "([BIII)I"⟩
noncomputable abbrev cJ2_indexOfChar_4cfef : ByteArray := prog_18_method_47_code
noncomputable def yJ2_indexOfChar_4cfef : MethodName := ⟨RJ2, "indexOfChar", "([BIII)I"⟩
noncomputable abbrev cJ2_indexOfCharUnsafe_4cfef : ByteArray := prog_18_method_48_code
noncomputable def yJ2_indexOfCharUnsafe_4cfef : MethodName := ⟨RJ2, "indexOfCharUnsafe", "([BIII)I"⟩
noncomputable abbrev cJ2_indexOfSupplementary_4cfef : ByteArray := prog_18_method_49_code
noncomputable def yJ2_indexOfSupplementary_4cfef : MethodName := ⟨RJ2, "indexOfSupplementary", "([BIII)I"⟩
noncomputable abbrev cJ2_checkBoundsBeginEnd_d044e : ByteArray := prog_18_method_93_code
noncomputable def yJ2_checkBoundsBeginEnd_d044e : MethodName := ⟨RJ2, "checkBoundsBeginEnd", "(II[B)V"⟩
noncomputable def RJ10 : String := "java/lang/System"
noncomputable def TJ10 : u_T := fun k => match k with
  | _ => ("", "", "", false)
noncomputable def tyJ10 : Nat → FieldType := fun k => match k with
  | _ => .int
noncomputable abbrev wsJ100 : List Cond := u_ws RJ10 TJ10 0
theorem nmJ10 : ∀ a, a < 0 → ∀ b, b < 0 → a ≠ b → (TJ10 a).2.1 ≠ (TJ10 b).2.1 := by decide +kernel
theorem tyJ10_ok : ∀ k, k < 0 → parseFieldDescriptor (TJ10 k).2.2.1 = some (tyJ10 k) := by decide +kernel
noncomputable def RJ3 : String := "jdk/internal/util/Preconditions"
noncomputable def TJ3 : u_T := fun k => match k with
  | _ => ("", "", "", false)
noncomputable def tyJ3 : Nat → FieldType := fun k => match k with
  | _ => .int
noncomputable abbrev wsJ30 : List Cond := u_ws RJ3 TJ3 0
theorem nmJ3 : ∀ a, a < 0 → ∀ b, b < 0 → a ≠ b → (TJ3 a).2.1 ≠ (TJ3 b).2.1 := by decide +kernel
theorem tyJ3_ok : ∀ k, k < 0 → parseFieldDescriptor (TJ3 k).2.2.1 = some (tyJ3 k) := by decide +kernel
noncomputable abbrev cJ3_checkFromToIndex_8c36e : ByteArray := prog_20_method_12_code
noncomputable def yJ3_checkFromToIndex_8c36e : MethodName := ⟨RJ3, "checkFromToIndex", "(IIILjava/util/function/BiFunction;)I"⟩
noncomputable def RL : String := "MilkRoundLaw"
noncomputable abbrev cL_law : ByteArray := code
noncomputable def yL_law : MethodName := ⟨RL, "law", "([I)Z"⟩
noncomputable def wsX3_init : List Cond := .code yX3_init cX3_init 1 none :: ([.methodLink RX3 1 objectInit, .instanceMethod objectInit, .code objectInit ⟨#[0xb1]⟩ 1 none])
noncomputable def wsX0_init : List Cond := .code yX0_init cX0_init 1 none :: ([.instanceMethod yX3_init, .initialized RX3, .code yX3_init cX3_init 1 none, .methodLink RX3 1 objectInit, .instanceMethod objectInit, .code objectInit ⟨#[0xb1]⟩ 1 none])
noncomputable def wsX0_kind : List Cond := .code yX0_kind cX0_kind 1 (some .int) :: ([])
noncomputable def wsX0_minutesFor : List Cond := .code yX0_minutesFor cX0_minutesFor 2 (some .int) :: ([])
noncomputable def wsX0_timesKeep : List Cond := .code yX0_timesKeep cX0_timesKeep 1 (some .int) :: ([])
noncomputable def wsX0_listens : List Cond := .code yX0_listens cX0_listens 1 (some .boolean) :: ([])
noncomputable def wsX1_init : List Cond := .code yX1_init cX1_init 1 none :: ([.instanceMethod yX3_init, .initialized RX3, .code yX3_init cX3_init 1 none, .methodLink RX3 1 objectInit, .instanceMethod objectInit, .code objectInit ⟨#[0xb1]⟩ 1 none])
noncomputable def wsX1_kind : List Cond := .code yX1_kind cX1_kind 1 (some .int) :: ([])
noncomputable def wsX1_minutesFor : List Cond := .code yX1_minutesFor cX1_minutesFor 2 (some .int) :: ([])
noncomputable def wsX1_lengthBehindDay : List Cond := .code yX1_lengthBehindDay cX1_lengthBehindDay 2 (some .int) :: ([])
noncomputable def wsX2_init : List Cond := .code yX2_init cX2_init 1 none :: ([.methodLink RX2 3 objectInit, .instanceMethod objectInit, .code objectInit ⟨#[0xb1]⟩ 1 none, .arrayClass .int, .fieldLink RX2 9 "MilkRound$Course" "lengths" "[I", .fieldLink RX2 15 "MilkRound$Course" "order" "[I", .fieldLink RX2 18 "MilkRound$Course" "knownHouses" "[I", .fieldLink RX2 21 "MilkRound$Course" "knownMinutes" "[I", .fieldLink RX2 24 "MilkRound$Course" "knownSize" "I", .fieldLink RX2 28 "MilkRound$Course" "leftOut" "I", .fieldLink RX2 31 "MilkRound$Course" "days" "I", .fieldLink RX2 34 "MilkRound$Course" "soured" "I", .fieldLink RX2 37 "MilkRound$Course" "heard" "I"] ++ wsX20)
noncomputable def wsX4_lengthAt : List Cond := .code yX4_lengthAt cX4_lengthAt 2 (some .int) :: ([.fieldLink RX4 11 "MilkRound$Page" "signs" "[C"] ++ wsX40)
noncomputable def wsX2_begin : List Cond := .code yX2_begin cX2_begin 4 none :: ([.fieldLink RX2 9 "MilkRound$Course" "lengths" "[I", .fieldLink RX2 15 "MilkRound$Course" "order" "[I", .fieldLink RX2 24 "MilkRound$Course" "knownSize" "I", .fieldLink RX2 28 "MilkRound$Course" "leftOut" "I", .fieldLink RX2 31 "MilkRound$Course" "days" "I", .fieldLink RX2 34 "MilkRound$Course" "soured" "I", .fieldLink RX2 37 "MilkRound$Course" "heard" "I", .methodLink RX2 40 yX4_lengthAt, .instanceMethod yX4_lengthAt, .selects RX4 yX4_lengthAt yX4_lengthAt, .initialized RX4, .code yX4_lengthAt cX4_lengthAt 2 (some .int), .fieldLink RX4 11 "MilkRound$Page" "signs" "[C"] ++ wsX20 ++ wsX40)
noncomputable def wsX2_copyFrom : List Cond := .code yX2_copyFrom cX2_copyFrom 2 none :: ([.fieldLink RX2 9 "MilkRound$Course" "lengths" "[I", .methodLink RX2 46 arraycopyName, .native arraycopyName, .static arraycopyName, .initialized "java/lang/System", .fieldLink RX2 15 "MilkRound$Course" "order" "[I", .fieldLink RX2 18 "MilkRound$Course" "knownHouses" "[I", .fieldLink RX2 21 "MilkRound$Course" "knownMinutes" "[I", .fieldLink RX2 24 "MilkRound$Course" "knownSize" "I", .fieldLink RX2 28 "MilkRound$Course" "leftOut" "I", .fieldLink RX2 31 "MilkRound$Course" "days" "I", .fieldLink RX2 34 "MilkRound$Course" "soured" "I", .fieldLink RX2 37 "MilkRound$Course" "heard" "I"] ++ wsX20)
noncomputable def wsX2_placeOf : List Cond := .code yX2_placeOf cX2_placeOf 3 (some .int) :: ([.fieldLink RX2 15 "MilkRound$Course" "order" "[I"] ++ wsX20)
noncomputable def wsX2_learn : List Cond := .code yX2_learn cX2_learn 3 (some .boolean) :: ([.fieldLink RX2 24 "MilkRound$Course" "knownSize" "I", .fieldLink RX2 18 "MilkRound$Course" "knownHouses" "[I", .fieldLink RX2 21 "MilkRound$Course" "knownMinutes" "[I"] ++ wsX20)
noncomputable def wsX3_kind : List Cond := .code yX3_kind cX3_kind 1 (some .int) :: ([])
noncomputable def wsX3_minutesFor : List Cond := .code yX3_minutesFor cX3_minutesFor 2 (some .int) :: ([])
noncomputable def wsX3_timesKeep : List Cond := .code yX3_timesKeep cX3_timesKeep 1 (some .int) :: ([])
noncomputable def wsX3_listens : List Cond := .code yX3_listens cX3_listens 1 (some .boolean) :: ([])
noncomputable def wsX3_lengthBehindDay : List Cond := .code yX3_lengthBehindDay cX3_lengthBehindDay 2 (some .int) :: ([])
noncomputable def wsX4_init : List Cond := .code yX4_init cX4_init 1 none :: ([.methodLink RX4 3 objectInit, .instanceMethod objectInit, .code objectInit ⟨#[0xb1]⟩ 1 none, .arrayClass .char, .fieldLink RX4 11 "MilkRound$Page" "signs" "[C", .fieldLink RX4 15 "MilkRound$Page" "size" "I"] ++ wsX40)
noncomputable def wsX4_add : List Cond := .code yX4_add cX4_add 2 (some .boolean) :: ([.fieldLink RX4 15 "MilkRound$Page" "size" "I", .fieldLink RX4 11 "MilkRound$Page" "signs" "[C"] ++ wsX40)
noncomputable def wsJ0_isLatin1_aae02 : List Cond := .code yJ0_isLatin1_aae02 cJ0_isLatin1_aae02 1 (some .boolean) :: ([.fieldLink RJ0 38 "java/lang/String" "COMPACT_STRINGS" "Z", .fieldLink RJ0 15 "java/lang/String" "coder" "B"])
noncomputable def wsJ0_coder_7d493 : List Cond := .code yJ0_coder_7d493 cJ0_coder_7d493 1 (some .byte) :: ([.fieldLink RJ0 38 "java/lang/String" "COMPACT_STRINGS" "Z", .fieldLink RJ0 15 "java/lang/String" "coder" "B"])
noncomputable def wsJ0_length_8abf5 : List Cond := .code yJ0_length_8abf5 cJ0_length_8abf5 1 (some .int) :: ([.fieldLink RJ0 9 "java/lang/String" "value" "[B", .methodLink RJ0 335 yJ0_coder_7d493, .instanceMethod yJ0_coder_7d493, .selects RJ0 yJ0_coder_7d493 yJ0_coder_7d493, .initialized RJ0, .code yJ0_coder_7d493 cJ0_coder_7d493 1 (some .byte), .fieldLink RJ0 38 "java/lang/String" "COMPACT_STRINGS" "Z", .fieldLink RJ0 15 "java/lang/String" "coder" "B"])
noncomputable def wsJ1_canEncode_9a6ad : List Cond := .code yJ1_canEncode_9a6ad cJ1_canEncode_9a6ad 1 (some .boolean) :: ([])
noncomputable def wsJ1_indexOfChar_4cfef : List Cond := .code yJ1_indexOfChar_4cfef cJ1_indexOfChar_4cfef 6 (some .int) :: ([])
noncomputable def wsJ1_indexOf_4cfef : List Cond := .code yJ1_indexOf_4cfef cJ1_indexOf_4cfef 4 (some .int) :: ([.methodLink RJ1 92 Lib.Math.max.name, .static Lib.Math.max.name, .initialized "java/lang/Math", .code Lib.Math.max.name Lib.Math.max.code 2 (some .int), .methodLink RJ1 38 Lib.Math.min.name, .static Lib.Math.min.name, .code Lib.Math.min.name Lib.Math.min.code 2 (some .int), .methodLink RJ1 88 yJ1_canEncode_9a6ad, .static yJ1_canEncode_9a6ad, .initialized RJ1, .code yJ1_canEncode_9a6ad cJ1_canEncode_9a6ad 1 (some .boolean), .methodLink RJ1 95 yJ1_indexOfChar_4cfef, .static yJ1_indexOfChar_4cfef, .code yJ1_indexOfChar_4cfef cJ1_indexOfChar_4cfef 6 (some .int)])
noncomputable def wsJ2_length_9d52b : List Cond := .code yJ2_length_9d52b cJ2_length_9d52b 1 (some .int) :: ([])
noncomputable def wsJ3_checkFromToIndex_8c36e : List Cond := .code yJ3_checkFromToIndex_8c36e cJ3_checkFromToIndex_8c36e 4 (some .int) :: ([])
noncomputable def wsJ0_checkBoundsBeginEnd_23922 : List Cond := .code yJ0_checkBoundsBeginEnd_23922 cJ0_checkBoundsBeginEnd_23922 3 none :: ([.fieldLink RJ0 1053 "jdk/internal/util/Preconditions" "SIOOBE_FORMATTER" "Ljava/util/function/BiFunction;", .methodLink RJ0 1062 yJ3_checkFromToIndex_8c36e, .static yJ3_checkFromToIndex_8c36e, .initialized RJ3, .code yJ3_checkFromToIndex_8c36e cJ3_checkFromToIndex_8c36e 4 (some .int)])
noncomputable def wsJ2_checkBoundsBeginEnd_d044e : List Cond := .code yJ2_checkBoundsBeginEnd_d044e cJ2_checkBoundsBeginEnd_d044e 3 none :: ([.methodLink RJ2 48 yJ2_length_9d52b, .static yJ2_length_9d52b, .initialized RJ2, .code yJ2_length_9d52b cJ2_length_9d52b 1 (some .int), .methodLink RJ2 241 yJ0_checkBoundsBeginEnd_23922, .static yJ0_checkBoundsBeginEnd_23922, .initialized RJ0, .code yJ0_checkBoundsBeginEnd_23922 cJ0_checkBoundsBeginEnd_23922 3 none, .fieldLink RJ0 1053 "jdk/internal/util/Preconditions" "SIOOBE_FORMATTER" "Ljava/util/function/BiFunction;", .methodLink RJ0 1062 yJ3_checkFromToIndex_8c36e, .static yJ3_checkFromToIndex_8c36e, .initialized RJ3, .code yJ3_checkFromToIndex_8c36e cJ3_checkFromToIndex_8c36e 4 (some .int)])
noncomputable def wsJ2_getChar_3b067 : List Cond := .code yJ2_getChar_3b067 cJ2_getChar_3b067 2 (some .char) :: ([.fieldLink RJ2 44 "java/lang/StringUTF16" "$assertionsDisabled" "Z", .fieldLink RJ2 59 "java/lang/StringUTF16" "HI_BYTE_SHIFT" "I", .fieldLink RJ2 63 "java/lang/StringUTF16" "LO_BYTE_SHIFT" "I", .methodLink RJ2 48 yJ2_length_9d52b, .static yJ2_length_9d52b, .initialized RJ2, .code yJ2_length_9d52b cJ2_length_9d52b 1 (some .int)])
noncomputable def wsJ2_indexOfCharUnsafe_4cfef : List Cond := .code yJ2_indexOfCharUnsafe_4cfef cJ2_indexOfCharUnsafe_4cfef 5 (some .int) :: ([.methodLink RJ2 71 yJ2_getChar_3b067, .static yJ2_getChar_3b067, .initialized RJ2, .code yJ2_getChar_3b067 cJ2_getChar_3b067 2 (some .char), .fieldLink RJ2 44 "java/lang/StringUTF16" "$assertionsDisabled" "Z", .fieldLink RJ2 59 "java/lang/StringUTF16" "HI_BYTE_SHIFT" "I", .fieldLink RJ2 63 "java/lang/StringUTF16" "LO_BYTE_SHIFT" "I", .methodLink RJ2 48 yJ2_length_9d52b, .static yJ2_length_9d52b, .code yJ2_length_9d52b cJ2_length_9d52b 1 (some .int)])
noncomputable def wsJ2_indexOfChar_4cfef_r1 : List Cond := [Cond.methodLink RJ2 96 yJ2_checkBoundsBeginEnd_d044e, Cond.static yJ2_checkBoundsBeginEnd_d044e, Cond.initialized RJ2, Cond.code yJ2_checkBoundsBeginEnd_d044e cJ2_checkBoundsBeginEnd_d044e 3 none, Cond.methodLink RJ2 48 yJ2_length_9d52b, Cond.static yJ2_length_9d52b, Cond.code yJ2_length_9d52b cJ2_length_9d52b 1 (some .int), Cond.methodLink RJ2 241 yJ0_checkBoundsBeginEnd_23922, Cond.static yJ0_checkBoundsBeginEnd_23922, Cond.initialized RJ0, Cond.code yJ0_checkBoundsBeginEnd_23922 cJ0_checkBoundsBeginEnd_23922 3 none, Cond.fieldLink RJ0 1053 "jdk/internal/util/Preconditions" "SIOOBE_FORMATTER" "Ljava/util/function/BiFunction;", Cond.methodLink RJ0 1062 yJ3_checkFromToIndex_8c36e, Cond.static yJ3_checkFromToIndex_8c36e, Cond.initialized RJ3, Cond.code yJ3_checkFromToIndex_8c36e cJ3_checkFromToIndex_8c36e 4 (some .int), Cond.methodLink RJ2 244 yJ2_indexOfCharUnsafe_4cfef, Cond.static yJ2_indexOfCharUnsafe_4cfef, Cond.code yJ2_indexOfCharUnsafe_4cfef cJ2_indexOfCharUnsafe_4cfef 5 (some .int), Cond.methodLink RJ2 71 yJ2_getChar_3b067, Cond.static yJ2_getChar_3b067, Cond.code yJ2_getChar_3b067 cJ2_getChar_3b067 2 (some .char), Cond.fieldLink RJ2 44 "java/lang/StringUTF16" "$assertionsDisabled" "Z", Cond.fieldLink RJ2 59 "java/lang/StringUTF16" "HI_BYTE_SHIFT" "I"]
noncomputable def wsJ2_indexOfChar_4cfef_r2 : List Cond := [Cond.fieldLink RJ2 63 "java/lang/StringUTF16" "LO_BYTE_SHIFT" "I"]
noncomputable def wsJ2_indexOfChar_4cfef : List Cond := .code yJ2_indexOfChar_4cfef cJ2_indexOfChar_4cfef 4 (some .int) :: ((wsJ2_indexOfChar_4cfef_r1 ++ wsJ2_indexOfChar_4cfef_r2))
noncomputable def wsJ11_isValidCodePoint_9a6ad : List Cond := .code yJ11_isValidCodePoint_9a6ad cJ11_isValidCodePoint_9a6ad 2 (some .boolean) :: ([])
noncomputable def wsJ11_highSurrogate_5068e : List Cond := .code yJ11_highSurrogate_5068e cJ11_highSurrogate_5068e 1 (some .char) :: ([.constant RJ11 110 (55232)])
noncomputable def wsJ11_lowSurrogate_5068e : List Cond := .code yJ11_lowSurrogate_5068e cJ11_lowSurrogate_5068e 1 (some .char) :: ([.constant RJ11 76 (56320)])
noncomputable def wsJ2_indexOfSupplementary_4cfef_r1 : List Cond := [Cond.methodLink RJ2 164 yJ11_isValidCodePoint_9a6ad, Cond.static yJ11_isValidCodePoint_9a6ad, Cond.initialized RJ11, Cond.code yJ11_isValidCodePoint_9a6ad cJ11_isValidCodePoint_9a6ad 2 (some .boolean), Cond.methodLink RJ2 157 yJ11_highSurrogate_5068e, Cond.static yJ11_highSurrogate_5068e, Cond.code yJ11_highSurrogate_5068e cJ11_highSurrogate_5068e 1 (some .char), Cond.constant RJ11 110 (55232), Cond.methodLink RJ2 161 yJ11_lowSurrogate_5068e, Cond.static yJ11_lowSurrogate_5068e, Cond.code yJ11_lowSurrogate_5068e cJ11_lowSurrogate_5068e 1 (some .char), Cond.constant RJ11 76 (56320), Cond.methodLink RJ2 96 yJ2_checkBoundsBeginEnd_d044e, Cond.static yJ2_checkBoundsBeginEnd_d044e, Cond.initialized RJ2, Cond.code yJ2_checkBoundsBeginEnd_d044e cJ2_checkBoundsBeginEnd_d044e 3 none, Cond.methodLink RJ2 48 yJ2_length_9d52b, Cond.static yJ2_length_9d52b, Cond.code yJ2_length_9d52b cJ2_length_9d52b 1 (some .int), Cond.methodLink RJ2 241 yJ0_checkBoundsBeginEnd_23922, Cond.static yJ0_checkBoundsBeginEnd_23922, Cond.initialized RJ0, Cond.code yJ0_checkBoundsBeginEnd_23922 cJ0_checkBoundsBeginEnd_23922 3 none, Cond.fieldLink RJ0 1053 "jdk/internal/util/Preconditions" "SIOOBE_FORMATTER" "Ljava/util/function/BiFunction;"]
noncomputable def wsJ2_indexOfSupplementary_4cfef_r2 : List Cond := [Cond.methodLink RJ0 1062 yJ3_checkFromToIndex_8c36e, Cond.static yJ3_checkFromToIndex_8c36e, Cond.initialized RJ3, Cond.code yJ3_checkFromToIndex_8c36e cJ3_checkFromToIndex_8c36e 4 (some .int), Cond.methodLink RJ2 71 yJ2_getChar_3b067, Cond.static yJ2_getChar_3b067, Cond.code yJ2_getChar_3b067 cJ2_getChar_3b067 2 (some .char), Cond.fieldLink RJ2 44 "java/lang/StringUTF16" "$assertionsDisabled" "Z", Cond.fieldLink RJ2 59 "java/lang/StringUTF16" "HI_BYTE_SHIFT" "I", Cond.fieldLink RJ2 63 "java/lang/StringUTF16" "LO_BYTE_SHIFT" "I"]
noncomputable def wsJ2_indexOfSupplementary_4cfef : List Cond := .code yJ2_indexOfSupplementary_4cfef cJ2_indexOfSupplementary_4cfef 7 (some .int) :: ((wsJ2_indexOfSupplementary_4cfef_r1 ++ wsJ2_indexOfSupplementary_4cfef_r2))
noncomputable def wsJ2_indexOf_4cfef_r1 : List Cond := [Cond.methodLink RJ2 224 Lib.Math.max.name, Cond.static Lib.Math.max.name, Cond.initialized "java/lang/Math", Cond.code Lib.Math.max.name Lib.Math.max.code 2 (some .int), Cond.methodLink RJ2 183 Lib.Math.min.name, Cond.static Lib.Math.min.name, Cond.code Lib.Math.min.name Lib.Math.min.code 2 (some .int), Cond.constant RJ2 227 (65536), Cond.methodLink RJ2 228 yJ2_indexOfChar_4cfef, Cond.static yJ2_indexOfChar_4cfef, Cond.initialized RJ2, Cond.code yJ2_indexOfChar_4cfef cJ2_indexOfChar_4cfef 4 (some .int), Cond.methodLink RJ2 96 yJ2_checkBoundsBeginEnd_d044e, Cond.static yJ2_checkBoundsBeginEnd_d044e, Cond.code yJ2_checkBoundsBeginEnd_d044e cJ2_checkBoundsBeginEnd_d044e 3 none, Cond.methodLink RJ2 48 yJ2_length_9d52b, Cond.static yJ2_length_9d52b, Cond.code yJ2_length_9d52b cJ2_length_9d52b 1 (some .int), Cond.methodLink RJ2 241 yJ0_checkBoundsBeginEnd_23922, Cond.static yJ0_checkBoundsBeginEnd_23922, Cond.initialized RJ0, Cond.code yJ0_checkBoundsBeginEnd_23922 cJ0_checkBoundsBeginEnd_23922 3 none, Cond.fieldLink RJ0 1053 "jdk/internal/util/Preconditions" "SIOOBE_FORMATTER" "Ljava/util/function/BiFunction;", Cond.methodLink RJ0 1062 yJ3_checkFromToIndex_8c36e]
noncomputable def wsJ2_indexOf_4cfef_r2 : List Cond := [Cond.static yJ3_checkFromToIndex_8c36e, Cond.initialized RJ3, Cond.code yJ3_checkFromToIndex_8c36e cJ3_checkFromToIndex_8c36e 4 (some .int), Cond.methodLink RJ2 244 yJ2_indexOfCharUnsafe_4cfef, Cond.static yJ2_indexOfCharUnsafe_4cfef, Cond.code yJ2_indexOfCharUnsafe_4cfef cJ2_indexOfCharUnsafe_4cfef 5 (some .int), Cond.methodLink RJ2 71 yJ2_getChar_3b067, Cond.static yJ2_getChar_3b067, Cond.code yJ2_getChar_3b067 cJ2_getChar_3b067 2 (some .char), Cond.fieldLink RJ2 44 "java/lang/StringUTF16" "$assertionsDisabled" "Z", Cond.fieldLink RJ2 59 "java/lang/StringUTF16" "HI_BYTE_SHIFT" "I", Cond.fieldLink RJ2 63 "java/lang/StringUTF16" "LO_BYTE_SHIFT" "I", Cond.methodLink RJ2 232 yJ2_indexOfSupplementary_4cfef, Cond.static yJ2_indexOfSupplementary_4cfef, Cond.code yJ2_indexOfSupplementary_4cfef cJ2_indexOfSupplementary_4cfef 7 (some .int), Cond.methodLink RJ2 164 yJ11_isValidCodePoint_9a6ad, Cond.static yJ11_isValidCodePoint_9a6ad, Cond.initialized RJ11, Cond.code yJ11_isValidCodePoint_9a6ad cJ11_isValidCodePoint_9a6ad 2 (some .boolean), Cond.methodLink RJ2 157 yJ11_highSurrogate_5068e, Cond.static yJ11_highSurrogate_5068e, Cond.code yJ11_highSurrogate_5068e cJ11_highSurrogate_5068e 1 (some .char), Cond.constant RJ11 110 (55232), Cond.methodLink RJ2 161 yJ11_lowSurrogate_5068e]
noncomputable def wsJ2_indexOf_4cfef_r3 : List Cond := [Cond.static yJ11_lowSurrogate_5068e, Cond.code yJ11_lowSurrogate_5068e cJ11_lowSurrogate_5068e 1 (some .char), Cond.constant RJ11 76 (56320)]
noncomputable def wsJ2_indexOf_4cfef : List Cond := .code yJ2_indexOf_4cfef cJ2_indexOf_4cfef 4 (some .int) :: ((wsJ2_indexOf_4cfef_r1 ++ (wsJ2_indexOf_4cfef_r2 ++ wsJ2_indexOf_4cfef_r3)))
noncomputable def wsJ0_indexOf_7cf53_r1 : List Cond := [Cond.fieldLink RJ0 9 "java/lang/String" "value" "[B", Cond.methodLink RJ0 492 yJ0_isLatin1_aae02, Cond.instanceMethod yJ0_isLatin1_aae02, Cond.selects RJ0 yJ0_isLatin1_aae02 yJ0_isLatin1_aae02, Cond.initialized RJ0, Cond.code yJ0_isLatin1_aae02 cJ0_isLatin1_aae02 1 (some .boolean), Cond.fieldLink RJ0 38 "java/lang/String" "COMPACT_STRINGS" "Z", Cond.fieldLink RJ0 15 "java/lang/String" "coder" "B", Cond.methodLink RJ0 505 yJ0_length_8abf5, Cond.instanceMethod yJ0_length_8abf5, Cond.selects RJ0 yJ0_length_8abf5 yJ0_length_8abf5, Cond.code yJ0_length_8abf5 cJ0_length_8abf5 1 (some .int), Cond.methodLink RJ0 335 yJ0_coder_7d493, Cond.instanceMethod yJ0_coder_7d493, Cond.selects RJ0 yJ0_coder_7d493 yJ0_coder_7d493, Cond.code yJ0_coder_7d493 cJ0_coder_7d493 1 (some .byte), Cond.methodLink RJ0 637 yJ1_indexOf_4cfef, Cond.static yJ1_indexOf_4cfef, Cond.initialized RJ1, Cond.code yJ1_indexOf_4cfef cJ1_indexOf_4cfef 4 (some .int), Cond.methodLink RJ1 92 Lib.Math.max.name, Cond.static Lib.Math.max.name, Cond.initialized "java/lang/Math", Cond.code Lib.Math.max.name Lib.Math.max.code 2 (some .int)]
noncomputable def wsJ0_indexOf_7cf53_r2 : List Cond := [Cond.methodLink RJ1 38 Lib.Math.min.name, Cond.static Lib.Math.min.name, Cond.code Lib.Math.min.name Lib.Math.min.code 2 (some .int), Cond.methodLink RJ1 88 yJ1_canEncode_9a6ad, Cond.static yJ1_canEncode_9a6ad, Cond.code yJ1_canEncode_9a6ad cJ1_canEncode_9a6ad 1 (some .boolean), Cond.methodLink RJ1 95 yJ1_indexOfChar_4cfef, Cond.static yJ1_indexOfChar_4cfef, Cond.code yJ1_indexOfChar_4cfef cJ1_indexOfChar_4cfef 6 (some .int), Cond.methodLink RJ0 640 yJ2_indexOf_4cfef, Cond.static yJ2_indexOf_4cfef, Cond.initialized RJ2, Cond.code yJ2_indexOf_4cfef cJ2_indexOf_4cfef 4 (some .int), Cond.methodLink RJ2 224 Lib.Math.max.name, Cond.methodLink RJ2 183 Lib.Math.min.name, Cond.constant RJ2 227 (65536), Cond.methodLink RJ2 228 yJ2_indexOfChar_4cfef, Cond.static yJ2_indexOfChar_4cfef, Cond.code yJ2_indexOfChar_4cfef cJ2_indexOfChar_4cfef 4 (some .int), Cond.methodLink RJ2 96 yJ2_checkBoundsBeginEnd_d044e, Cond.static yJ2_checkBoundsBeginEnd_d044e, Cond.code yJ2_checkBoundsBeginEnd_d044e cJ2_checkBoundsBeginEnd_d044e 3 none, Cond.methodLink RJ2 48 yJ2_length_9d52b, Cond.static yJ2_length_9d52b]
noncomputable def wsJ0_indexOf_7cf53_r3 : List Cond := [Cond.code yJ2_length_9d52b cJ2_length_9d52b 1 (some .int), Cond.methodLink RJ2 241 yJ0_checkBoundsBeginEnd_23922, Cond.static yJ0_checkBoundsBeginEnd_23922, Cond.code yJ0_checkBoundsBeginEnd_23922 cJ0_checkBoundsBeginEnd_23922 3 none, Cond.fieldLink RJ0 1053 "jdk/internal/util/Preconditions" "SIOOBE_FORMATTER" "Ljava/util/function/BiFunction;", Cond.methodLink RJ0 1062 yJ3_checkFromToIndex_8c36e, Cond.static yJ3_checkFromToIndex_8c36e, Cond.initialized RJ3, Cond.code yJ3_checkFromToIndex_8c36e cJ3_checkFromToIndex_8c36e 4 (some .int), Cond.methodLink RJ2 244 yJ2_indexOfCharUnsafe_4cfef, Cond.static yJ2_indexOfCharUnsafe_4cfef, Cond.code yJ2_indexOfCharUnsafe_4cfef cJ2_indexOfCharUnsafe_4cfef 5 (some .int), Cond.methodLink RJ2 71 yJ2_getChar_3b067, Cond.static yJ2_getChar_3b067, Cond.code yJ2_getChar_3b067 cJ2_getChar_3b067 2 (some .char), Cond.fieldLink RJ2 44 "java/lang/StringUTF16" "$assertionsDisabled" "Z", Cond.fieldLink RJ2 59 "java/lang/StringUTF16" "HI_BYTE_SHIFT" "I", Cond.fieldLink RJ2 63 "java/lang/StringUTF16" "LO_BYTE_SHIFT" "I", Cond.methodLink RJ2 232 yJ2_indexOfSupplementary_4cfef, Cond.static yJ2_indexOfSupplementary_4cfef, Cond.code yJ2_indexOfSupplementary_4cfef cJ2_indexOfSupplementary_4cfef 7 (some .int), Cond.methodLink RJ2 164 yJ11_isValidCodePoint_9a6ad, Cond.static yJ11_isValidCodePoint_9a6ad, Cond.initialized RJ11]
noncomputable def wsJ0_indexOf_7cf53_r4 : List Cond := [Cond.code yJ11_isValidCodePoint_9a6ad cJ11_isValidCodePoint_9a6ad 2 (some .boolean), Cond.methodLink RJ2 157 yJ11_highSurrogate_5068e, Cond.static yJ11_highSurrogate_5068e, Cond.code yJ11_highSurrogate_5068e cJ11_highSurrogate_5068e 1 (some .char), Cond.constant RJ11 110 (55232), Cond.methodLink RJ2 161 yJ11_lowSurrogate_5068e, Cond.static yJ11_lowSurrogate_5068e, Cond.code yJ11_lowSurrogate_5068e cJ11_lowSurrogate_5068e 1 (some .char), Cond.constant RJ11 76 (56320)]
noncomputable def wsJ0_indexOf_7cf53 : List Cond := .code yJ0_indexOf_7cf53 cJ0_indexOf_7cf53 3 (some .int) :: ((wsJ0_indexOf_7cf53_r1 ++ (wsJ0_indexOf_7cf53_r2 ++ (wsJ0_indexOf_7cf53_r3 ++ wsJ0_indexOf_7cf53_r4))))
noncomputable def wsJ0_indexOf_0f7a4_r1 : List Cond := [Cond.methodLink RJ0 633 yJ0_indexOf_7cf53, Cond.instanceMethod yJ0_indexOf_7cf53, Cond.selects RJ0 yJ0_indexOf_7cf53 yJ0_indexOf_7cf53, Cond.initialized RJ0, Cond.code yJ0_indexOf_7cf53 cJ0_indexOf_7cf53 3 (some .int), Cond.fieldLink RJ0 9 "java/lang/String" "value" "[B", Cond.methodLink RJ0 492 yJ0_isLatin1_aae02, Cond.instanceMethod yJ0_isLatin1_aae02, Cond.selects RJ0 yJ0_isLatin1_aae02 yJ0_isLatin1_aae02, Cond.code yJ0_isLatin1_aae02 cJ0_isLatin1_aae02 1 (some .boolean), Cond.fieldLink RJ0 38 "java/lang/String" "COMPACT_STRINGS" "Z", Cond.fieldLink RJ0 15 "java/lang/String" "coder" "B", Cond.methodLink RJ0 505 yJ0_length_8abf5, Cond.instanceMethod yJ0_length_8abf5, Cond.selects RJ0 yJ0_length_8abf5 yJ0_length_8abf5, Cond.code yJ0_length_8abf5 cJ0_length_8abf5 1 (some .int), Cond.methodLink RJ0 335 yJ0_coder_7d493, Cond.instanceMethod yJ0_coder_7d493, Cond.selects RJ0 yJ0_coder_7d493 yJ0_coder_7d493, Cond.code yJ0_coder_7d493 cJ0_coder_7d493 1 (some .byte), Cond.methodLink RJ0 637 yJ1_indexOf_4cfef, Cond.static yJ1_indexOf_4cfef, Cond.initialized RJ1, Cond.code yJ1_indexOf_4cfef cJ1_indexOf_4cfef 4 (some .int)]
noncomputable def wsJ0_indexOf_0f7a4_r2 : List Cond := [Cond.methodLink RJ1 92 Lib.Math.max.name, Cond.static Lib.Math.max.name, Cond.initialized "java/lang/Math", Cond.code Lib.Math.max.name Lib.Math.max.code 2 (some .int), Cond.methodLink RJ1 38 Lib.Math.min.name, Cond.static Lib.Math.min.name, Cond.code Lib.Math.min.name Lib.Math.min.code 2 (some .int), Cond.methodLink RJ1 88 yJ1_canEncode_9a6ad, Cond.static yJ1_canEncode_9a6ad, Cond.code yJ1_canEncode_9a6ad cJ1_canEncode_9a6ad 1 (some .boolean), Cond.methodLink RJ1 95 yJ1_indexOfChar_4cfef, Cond.static yJ1_indexOfChar_4cfef, Cond.code yJ1_indexOfChar_4cfef cJ1_indexOfChar_4cfef 6 (some .int), Cond.methodLink RJ0 640 yJ2_indexOf_4cfef, Cond.static yJ2_indexOf_4cfef, Cond.initialized RJ2, Cond.code yJ2_indexOf_4cfef cJ2_indexOf_4cfef 4 (some .int), Cond.methodLink RJ2 224 Lib.Math.max.name, Cond.methodLink RJ2 183 Lib.Math.min.name, Cond.constant RJ2 227 (65536), Cond.methodLink RJ2 228 yJ2_indexOfChar_4cfef, Cond.static yJ2_indexOfChar_4cfef, Cond.code yJ2_indexOfChar_4cfef cJ2_indexOfChar_4cfef 4 (some .int), Cond.methodLink RJ2 96 yJ2_checkBoundsBeginEnd_d044e]
noncomputable def wsJ0_indexOf_0f7a4_r3 : List Cond := [Cond.static yJ2_checkBoundsBeginEnd_d044e, Cond.code yJ2_checkBoundsBeginEnd_d044e cJ2_checkBoundsBeginEnd_d044e 3 none, Cond.methodLink RJ2 48 yJ2_length_9d52b, Cond.static yJ2_length_9d52b, Cond.code yJ2_length_9d52b cJ2_length_9d52b 1 (some .int), Cond.methodLink RJ2 241 yJ0_checkBoundsBeginEnd_23922, Cond.static yJ0_checkBoundsBeginEnd_23922, Cond.code yJ0_checkBoundsBeginEnd_23922 cJ0_checkBoundsBeginEnd_23922 3 none, Cond.fieldLink RJ0 1053 "jdk/internal/util/Preconditions" "SIOOBE_FORMATTER" "Ljava/util/function/BiFunction;", Cond.methodLink RJ0 1062 yJ3_checkFromToIndex_8c36e, Cond.static yJ3_checkFromToIndex_8c36e, Cond.initialized RJ3, Cond.code yJ3_checkFromToIndex_8c36e cJ3_checkFromToIndex_8c36e 4 (some .int), Cond.methodLink RJ2 244 yJ2_indexOfCharUnsafe_4cfef, Cond.static yJ2_indexOfCharUnsafe_4cfef, Cond.code yJ2_indexOfCharUnsafe_4cfef cJ2_indexOfCharUnsafe_4cfef 5 (some .int), Cond.methodLink RJ2 71 yJ2_getChar_3b067, Cond.static yJ2_getChar_3b067, Cond.code yJ2_getChar_3b067 cJ2_getChar_3b067 2 (some .char), Cond.fieldLink RJ2 44 "java/lang/StringUTF16" "$assertionsDisabled" "Z", Cond.fieldLink RJ2 59 "java/lang/StringUTF16" "HI_BYTE_SHIFT" "I", Cond.fieldLink RJ2 63 "java/lang/StringUTF16" "LO_BYTE_SHIFT" "I", Cond.methodLink RJ2 232 yJ2_indexOfSupplementary_4cfef, Cond.static yJ2_indexOfSupplementary_4cfef]
noncomputable def wsJ0_indexOf_0f7a4_r4 : List Cond := [Cond.code yJ2_indexOfSupplementary_4cfef cJ2_indexOfSupplementary_4cfef 7 (some .int), Cond.methodLink RJ2 164 yJ11_isValidCodePoint_9a6ad, Cond.static yJ11_isValidCodePoint_9a6ad, Cond.initialized RJ11, Cond.code yJ11_isValidCodePoint_9a6ad cJ11_isValidCodePoint_9a6ad 2 (some .boolean), Cond.methodLink RJ2 157 yJ11_highSurrogate_5068e, Cond.static yJ11_highSurrogate_5068e, Cond.code yJ11_highSurrogate_5068e cJ11_highSurrogate_5068e 1 (some .char), Cond.constant RJ11 110 (55232), Cond.methodLink RJ2 161 yJ11_lowSurrogate_5068e, Cond.static yJ11_lowSurrogate_5068e, Cond.code yJ11_lowSurrogate_5068e cJ11_lowSurrogate_5068e 1 (some .char), Cond.constant RJ11 76 (56320)]
noncomputable def wsJ0_indexOf_0f7a4 : List Cond := .code yJ0_indexOf_0f7a4 cJ0_indexOf_0f7a4 2 (some .int) :: ((wsJ0_indexOf_0f7a4_r1 ++ (wsJ0_indexOf_0f7a4_r2 ++ (wsJ0_indexOf_0f7a4_r3 ++ wsJ0_indexOf_0f7a4_r4))))
noncomputable def wsX4_isMarkBehind : List Cond := .code yX4_isMarkBehind cX4_isMarkBehind 2 (some .boolean) :: ([])
noncomputable def wsX4_fits_r1 : List Cond := [Cond.methodLink RX4 29 yJ0_indexOf_0f7a4, Cond.instanceMethod yJ0_indexOf_0f7a4, Cond.selects RJ0 yJ0_indexOf_0f7a4 yJ0_indexOf_0f7a4, Cond.initialized RJ0, Cond.code yJ0_indexOf_0f7a4 cJ0_indexOf_0f7a4 2 (some .int), Cond.methodLink RJ0 633 yJ0_indexOf_7cf53, Cond.instanceMethod yJ0_indexOf_7cf53, Cond.selects RJ0 yJ0_indexOf_7cf53 yJ0_indexOf_7cf53, Cond.code yJ0_indexOf_7cf53 cJ0_indexOf_7cf53 3 (some .int), Cond.fieldLink RJ0 9 "java/lang/String" "value" "[B", Cond.methodLink RJ0 492 yJ0_isLatin1_aae02, Cond.instanceMethod yJ0_isLatin1_aae02, Cond.selects RJ0 yJ0_isLatin1_aae02 yJ0_isLatin1_aae02, Cond.code yJ0_isLatin1_aae02 cJ0_isLatin1_aae02 1 (some .boolean), Cond.fieldLink RJ0 38 "java/lang/String" "COMPACT_STRINGS" "Z", Cond.fieldLink RJ0 15 "java/lang/String" "coder" "B", Cond.methodLink RJ0 505 yJ0_length_8abf5, Cond.instanceMethod yJ0_length_8abf5, Cond.selects RJ0 yJ0_length_8abf5 yJ0_length_8abf5, Cond.code yJ0_length_8abf5 cJ0_length_8abf5 1 (some .int), Cond.methodLink RJ0 335 yJ0_coder_7d493, Cond.instanceMethod yJ0_coder_7d493, Cond.selects RJ0 yJ0_coder_7d493 yJ0_coder_7d493, Cond.code yJ0_coder_7d493 cJ0_coder_7d493 1 (some .byte)]
noncomputable def wsX4_fits_r2 : List Cond := [Cond.methodLink RJ0 637 yJ1_indexOf_4cfef, Cond.static yJ1_indexOf_4cfef, Cond.initialized RJ1, Cond.code yJ1_indexOf_4cfef cJ1_indexOf_4cfef 4 (some .int), Cond.methodLink RJ1 92 Lib.Math.max.name, Cond.static Lib.Math.max.name, Cond.initialized "java/lang/Math", Cond.code Lib.Math.max.name Lib.Math.max.code 2 (some .int), Cond.methodLink RJ1 38 Lib.Math.min.name, Cond.static Lib.Math.min.name, Cond.code Lib.Math.min.name Lib.Math.min.code 2 (some .int), Cond.methodLink RJ1 88 yJ1_canEncode_9a6ad, Cond.static yJ1_canEncode_9a6ad, Cond.code yJ1_canEncode_9a6ad cJ1_canEncode_9a6ad 1 (some .boolean), Cond.methodLink RJ1 95 yJ1_indexOfChar_4cfef, Cond.static yJ1_indexOfChar_4cfef, Cond.code yJ1_indexOfChar_4cfef cJ1_indexOfChar_4cfef 6 (some .int), Cond.methodLink RJ0 640 yJ2_indexOf_4cfef, Cond.static yJ2_indexOf_4cfef, Cond.initialized RJ2, Cond.code yJ2_indexOf_4cfef cJ2_indexOf_4cfef 4 (some .int), Cond.methodLink RJ2 224 Lib.Math.max.name, Cond.methodLink RJ2 183 Lib.Math.min.name, Cond.constant RJ2 227 (65536)]
noncomputable def wsX4_fits_r3 : List Cond := [Cond.methodLink RJ2 228 yJ2_indexOfChar_4cfef, Cond.static yJ2_indexOfChar_4cfef, Cond.code yJ2_indexOfChar_4cfef cJ2_indexOfChar_4cfef 4 (some .int), Cond.methodLink RJ2 96 yJ2_checkBoundsBeginEnd_d044e, Cond.static yJ2_checkBoundsBeginEnd_d044e, Cond.code yJ2_checkBoundsBeginEnd_d044e cJ2_checkBoundsBeginEnd_d044e 3 none, Cond.methodLink RJ2 48 yJ2_length_9d52b, Cond.static yJ2_length_9d52b, Cond.code yJ2_length_9d52b cJ2_length_9d52b 1 (some .int), Cond.methodLink RJ2 241 yJ0_checkBoundsBeginEnd_23922, Cond.static yJ0_checkBoundsBeginEnd_23922, Cond.code yJ0_checkBoundsBeginEnd_23922 cJ0_checkBoundsBeginEnd_23922 3 none, Cond.fieldLink RJ0 1053 "jdk/internal/util/Preconditions" "SIOOBE_FORMATTER" "Ljava/util/function/BiFunction;", Cond.methodLink RJ0 1062 yJ3_checkFromToIndex_8c36e, Cond.static yJ3_checkFromToIndex_8c36e, Cond.initialized RJ3, Cond.code yJ3_checkFromToIndex_8c36e cJ3_checkFromToIndex_8c36e 4 (some .int), Cond.methodLink RJ2 244 yJ2_indexOfCharUnsafe_4cfef, Cond.static yJ2_indexOfCharUnsafe_4cfef, Cond.code yJ2_indexOfCharUnsafe_4cfef cJ2_indexOfCharUnsafe_4cfef 5 (some .int), Cond.methodLink RJ2 71 yJ2_getChar_3b067, Cond.static yJ2_getChar_3b067, Cond.code yJ2_getChar_3b067 cJ2_getChar_3b067 2 (some .char), Cond.fieldLink RJ2 44 "java/lang/StringUTF16" "$assertionsDisabled" "Z"]
noncomputable def wsX4_fits_r4 : List Cond := [Cond.fieldLink RJ2 59 "java/lang/StringUTF16" "HI_BYTE_SHIFT" "I", Cond.fieldLink RJ2 63 "java/lang/StringUTF16" "LO_BYTE_SHIFT" "I", Cond.methodLink RJ2 232 yJ2_indexOfSupplementary_4cfef, Cond.static yJ2_indexOfSupplementary_4cfef, Cond.code yJ2_indexOfSupplementary_4cfef cJ2_indexOfSupplementary_4cfef 7 (some .int), Cond.methodLink RJ2 164 yJ11_isValidCodePoint_9a6ad, Cond.static yJ11_isValidCodePoint_9a6ad, Cond.initialized RJ11, Cond.code yJ11_isValidCodePoint_9a6ad cJ11_isValidCodePoint_9a6ad 2 (some .boolean), Cond.methodLink RJ2 157 yJ11_highSurrogate_5068e, Cond.static yJ11_highSurrogate_5068e, Cond.code yJ11_highSurrogate_5068e cJ11_highSurrogate_5068e 1 (some .char), Cond.constant RJ11 110 (55232), Cond.methodLink RJ2 161 yJ11_lowSurrogate_5068e, Cond.static yJ11_lowSurrogate_5068e, Cond.code yJ11_lowSurrogate_5068e cJ11_lowSurrogate_5068e 1 (some .char), Cond.constant RJ11 76 (56320), Cond.methodLink RX4 35 yX4_isMarkBehind, Cond.static yX4_isMarkBehind, Cond.initialized RX4, Cond.code yX4_isMarkBehind cX4_isMarkBehind 2 (some .boolean)]
noncomputable def wsX4_fits : List Cond := .code yX4_fits cX4_fits 4 (some .boolean) :: ((wsX4_fits_r1 ++ (wsX4_fits_r2 ++ (wsX4_fits_r3 ++ wsX4_fits_r4))))
noncomputable def wsX4_firstFault_r1 : List Cond := [Cond.fieldLink RX4 15 "MilkRound$Page" "size" "I", Cond.fieldLink RX4 11 "MilkRound$Page" "signs" "[C", Cond.methodLink RX4 19 yX4_fits, Cond.static yX4_fits, Cond.initialized RX4, Cond.code yX4_fits cX4_fits 4 (some .boolean), Cond.methodLink RX4 29 yJ0_indexOf_0f7a4, Cond.instanceMethod yJ0_indexOf_0f7a4, Cond.selects RJ0 yJ0_indexOf_0f7a4 yJ0_indexOf_0f7a4, Cond.initialized RJ0, Cond.code yJ0_indexOf_0f7a4 cJ0_indexOf_0f7a4 2 (some .int), Cond.methodLink RJ0 633 yJ0_indexOf_7cf53, Cond.instanceMethod yJ0_indexOf_7cf53, Cond.selects RJ0 yJ0_indexOf_7cf53 yJ0_indexOf_7cf53, Cond.code yJ0_indexOf_7cf53 cJ0_indexOf_7cf53 3 (some .int), Cond.fieldLink RJ0 9 "java/lang/String" "value" "[B", Cond.methodLink RJ0 492 yJ0_isLatin1_aae02, Cond.instanceMethod yJ0_isLatin1_aae02, Cond.selects RJ0 yJ0_isLatin1_aae02 yJ0_isLatin1_aae02, Cond.code yJ0_isLatin1_aae02 cJ0_isLatin1_aae02 1 (some .boolean), Cond.fieldLink RJ0 38 "java/lang/String" "COMPACT_STRINGS" "Z", Cond.fieldLink RJ0 15 "java/lang/String" "coder" "B", Cond.methodLink RJ0 505 yJ0_length_8abf5, Cond.instanceMethod yJ0_length_8abf5]
noncomputable def wsX4_firstFault_r2 : List Cond := [Cond.selects RJ0 yJ0_length_8abf5 yJ0_length_8abf5, Cond.code yJ0_length_8abf5 cJ0_length_8abf5 1 (some .int), Cond.methodLink RJ0 335 yJ0_coder_7d493, Cond.instanceMethod yJ0_coder_7d493, Cond.selects RJ0 yJ0_coder_7d493 yJ0_coder_7d493, Cond.code yJ0_coder_7d493 cJ0_coder_7d493 1 (some .byte), Cond.methodLink RJ0 637 yJ1_indexOf_4cfef, Cond.static yJ1_indexOf_4cfef, Cond.initialized RJ1, Cond.code yJ1_indexOf_4cfef cJ1_indexOf_4cfef 4 (some .int), Cond.methodLink RJ1 92 Lib.Math.max.name, Cond.static Lib.Math.max.name, Cond.initialized "java/lang/Math", Cond.code Lib.Math.max.name Lib.Math.max.code 2 (some .int), Cond.methodLink RJ1 38 Lib.Math.min.name, Cond.static Lib.Math.min.name, Cond.code Lib.Math.min.name Lib.Math.min.code 2 (some .int), Cond.methodLink RJ1 88 yJ1_canEncode_9a6ad, Cond.static yJ1_canEncode_9a6ad, Cond.code yJ1_canEncode_9a6ad cJ1_canEncode_9a6ad 1 (some .boolean), Cond.methodLink RJ1 95 yJ1_indexOfChar_4cfef, Cond.static yJ1_indexOfChar_4cfef, Cond.code yJ1_indexOfChar_4cfef cJ1_indexOfChar_4cfef 6 (some .int), Cond.methodLink RJ0 640 yJ2_indexOf_4cfef]
noncomputable def wsX4_firstFault_r3 : List Cond := [Cond.static yJ2_indexOf_4cfef, Cond.initialized RJ2, Cond.code yJ2_indexOf_4cfef cJ2_indexOf_4cfef 4 (some .int), Cond.methodLink RJ2 224 Lib.Math.max.name, Cond.methodLink RJ2 183 Lib.Math.min.name, Cond.constant RJ2 227 (65536), Cond.methodLink RJ2 228 yJ2_indexOfChar_4cfef, Cond.static yJ2_indexOfChar_4cfef, Cond.code yJ2_indexOfChar_4cfef cJ2_indexOfChar_4cfef 4 (some .int), Cond.methodLink RJ2 96 yJ2_checkBoundsBeginEnd_d044e, Cond.static yJ2_checkBoundsBeginEnd_d044e, Cond.code yJ2_checkBoundsBeginEnd_d044e cJ2_checkBoundsBeginEnd_d044e 3 none, Cond.methodLink RJ2 48 yJ2_length_9d52b, Cond.static yJ2_length_9d52b, Cond.code yJ2_length_9d52b cJ2_length_9d52b 1 (some .int), Cond.methodLink RJ2 241 yJ0_checkBoundsBeginEnd_23922, Cond.static yJ0_checkBoundsBeginEnd_23922, Cond.code yJ0_checkBoundsBeginEnd_23922 cJ0_checkBoundsBeginEnd_23922 3 none, Cond.fieldLink RJ0 1053 "jdk/internal/util/Preconditions" "SIOOBE_FORMATTER" "Ljava/util/function/BiFunction;", Cond.methodLink RJ0 1062 yJ3_checkFromToIndex_8c36e, Cond.static yJ3_checkFromToIndex_8c36e, Cond.initialized RJ3, Cond.code yJ3_checkFromToIndex_8c36e cJ3_checkFromToIndex_8c36e 4 (some .int), Cond.methodLink RJ2 244 yJ2_indexOfCharUnsafe_4cfef]
noncomputable def wsX4_firstFault_r4 : List Cond := [Cond.static yJ2_indexOfCharUnsafe_4cfef, Cond.code yJ2_indexOfCharUnsafe_4cfef cJ2_indexOfCharUnsafe_4cfef 5 (some .int), Cond.methodLink RJ2 71 yJ2_getChar_3b067, Cond.static yJ2_getChar_3b067, Cond.code yJ2_getChar_3b067 cJ2_getChar_3b067 2 (some .char), Cond.fieldLink RJ2 44 "java/lang/StringUTF16" "$assertionsDisabled" "Z", Cond.fieldLink RJ2 59 "java/lang/StringUTF16" "HI_BYTE_SHIFT" "I", Cond.fieldLink RJ2 63 "java/lang/StringUTF16" "LO_BYTE_SHIFT" "I", Cond.methodLink RJ2 232 yJ2_indexOfSupplementary_4cfef, Cond.static yJ2_indexOfSupplementary_4cfef, Cond.code yJ2_indexOfSupplementary_4cfef cJ2_indexOfSupplementary_4cfef 7 (some .int), Cond.methodLink RJ2 164 yJ11_isValidCodePoint_9a6ad, Cond.static yJ11_isValidCodePoint_9a6ad, Cond.initialized RJ11, Cond.code yJ11_isValidCodePoint_9a6ad cJ11_isValidCodePoint_9a6ad 2 (some .boolean), Cond.methodLink RJ2 157 yJ11_highSurrogate_5068e, Cond.static yJ11_highSurrogate_5068e, Cond.code yJ11_highSurrogate_5068e cJ11_highSurrogate_5068e 1 (some .char), Cond.constant RJ11 110 (55232), Cond.methodLink RJ2 161 yJ11_lowSurrogate_5068e, Cond.static yJ11_lowSurrogate_5068e, Cond.code yJ11_lowSurrogate_5068e cJ11_lowSurrogate_5068e 1 (some .char), Cond.constant RJ11 76 (56320), Cond.methodLink RX4 35 yX4_isMarkBehind]
noncomputable def wsX4_firstFault_r5 : List Cond := [Cond.static yX4_isMarkBehind, Cond.code yX4_isMarkBehind cX4_isMarkBehind 2 (some .boolean)]
noncomputable def wsX4_firstFault : List Cond := .code yX4_firstFault cX4_firstFault 3 (some .int) :: ((wsX4_firstFault_r1 ++ (wsX4_firstFault_r2 ++ (wsX4_firstFault_r3 ++ (wsX4_firstFault_r4 ++ wsX4_firstFault_r5)))) ++ wsX40)
noncomputable def wsX4_isWhole_r1 : List Cond := [Cond.fieldLink RX4 15 "MilkRound$Page" "size" "I", Cond.fieldLink RX4 11 "MilkRound$Page" "signs" "[C", Cond.methodLink RX4 23 yX4_firstFault, Cond.instanceMethod yX4_firstFault, Cond.selects RX4 yX4_firstFault yX4_firstFault, Cond.initialized RX4, Cond.code yX4_firstFault cX4_firstFault 3 (some .int), Cond.methodLink RX4 19 yX4_fits, Cond.static yX4_fits, Cond.code yX4_fits cX4_fits 4 (some .boolean), Cond.methodLink RX4 29 yJ0_indexOf_0f7a4, Cond.instanceMethod yJ0_indexOf_0f7a4, Cond.selects RJ0 yJ0_indexOf_0f7a4 yJ0_indexOf_0f7a4, Cond.initialized RJ0, Cond.code yJ0_indexOf_0f7a4 cJ0_indexOf_0f7a4 2 (some .int), Cond.methodLink RJ0 633 yJ0_indexOf_7cf53, Cond.instanceMethod yJ0_indexOf_7cf53, Cond.selects RJ0 yJ0_indexOf_7cf53 yJ0_indexOf_7cf53, Cond.code yJ0_indexOf_7cf53 cJ0_indexOf_7cf53 3 (some .int), Cond.fieldLink RJ0 9 "java/lang/String" "value" "[B", Cond.methodLink RJ0 492 yJ0_isLatin1_aae02, Cond.instanceMethod yJ0_isLatin1_aae02, Cond.selects RJ0 yJ0_isLatin1_aae02 yJ0_isLatin1_aae02, Cond.code yJ0_isLatin1_aae02 cJ0_isLatin1_aae02 1 (some .boolean)]
noncomputable def wsX4_isWhole_r2 : List Cond := [Cond.fieldLink RJ0 38 "java/lang/String" "COMPACT_STRINGS" "Z", Cond.fieldLink RJ0 15 "java/lang/String" "coder" "B", Cond.methodLink RJ0 505 yJ0_length_8abf5, Cond.instanceMethod yJ0_length_8abf5, Cond.selects RJ0 yJ0_length_8abf5 yJ0_length_8abf5, Cond.code yJ0_length_8abf5 cJ0_length_8abf5 1 (some .int), Cond.methodLink RJ0 335 yJ0_coder_7d493, Cond.instanceMethod yJ0_coder_7d493, Cond.selects RJ0 yJ0_coder_7d493 yJ0_coder_7d493, Cond.code yJ0_coder_7d493 cJ0_coder_7d493 1 (some .byte), Cond.methodLink RJ0 637 yJ1_indexOf_4cfef, Cond.static yJ1_indexOf_4cfef, Cond.initialized RJ1, Cond.code yJ1_indexOf_4cfef cJ1_indexOf_4cfef 4 (some .int), Cond.methodLink RJ1 92 Lib.Math.max.name, Cond.static Lib.Math.max.name, Cond.initialized "java/lang/Math", Cond.code Lib.Math.max.name Lib.Math.max.code 2 (some .int), Cond.methodLink RJ1 38 Lib.Math.min.name, Cond.static Lib.Math.min.name, Cond.code Lib.Math.min.name Lib.Math.min.code 2 (some .int), Cond.methodLink RJ1 88 yJ1_canEncode_9a6ad, Cond.static yJ1_canEncode_9a6ad, Cond.code yJ1_canEncode_9a6ad cJ1_canEncode_9a6ad 1 (some .boolean)]
noncomputable def wsX4_isWhole_r3 : List Cond := [Cond.methodLink RJ1 95 yJ1_indexOfChar_4cfef, Cond.static yJ1_indexOfChar_4cfef, Cond.code yJ1_indexOfChar_4cfef cJ1_indexOfChar_4cfef 6 (some .int), Cond.methodLink RJ0 640 yJ2_indexOf_4cfef, Cond.static yJ2_indexOf_4cfef, Cond.initialized RJ2, Cond.code yJ2_indexOf_4cfef cJ2_indexOf_4cfef 4 (some .int), Cond.methodLink RJ2 224 Lib.Math.max.name, Cond.methodLink RJ2 183 Lib.Math.min.name, Cond.constant RJ2 227 (65536), Cond.methodLink RJ2 228 yJ2_indexOfChar_4cfef, Cond.static yJ2_indexOfChar_4cfef, Cond.code yJ2_indexOfChar_4cfef cJ2_indexOfChar_4cfef 4 (some .int), Cond.methodLink RJ2 96 yJ2_checkBoundsBeginEnd_d044e, Cond.static yJ2_checkBoundsBeginEnd_d044e, Cond.code yJ2_checkBoundsBeginEnd_d044e cJ2_checkBoundsBeginEnd_d044e 3 none, Cond.methodLink RJ2 48 yJ2_length_9d52b, Cond.static yJ2_length_9d52b, Cond.code yJ2_length_9d52b cJ2_length_9d52b 1 (some .int), Cond.methodLink RJ2 241 yJ0_checkBoundsBeginEnd_23922, Cond.static yJ0_checkBoundsBeginEnd_23922, Cond.code yJ0_checkBoundsBeginEnd_23922 cJ0_checkBoundsBeginEnd_23922 3 none, Cond.fieldLink RJ0 1053 "jdk/internal/util/Preconditions" "SIOOBE_FORMATTER" "Ljava/util/function/BiFunction;", Cond.methodLink RJ0 1062 yJ3_checkFromToIndex_8c36e]
noncomputable def wsX4_isWhole_r4 : List Cond := [Cond.static yJ3_checkFromToIndex_8c36e, Cond.initialized RJ3, Cond.code yJ3_checkFromToIndex_8c36e cJ3_checkFromToIndex_8c36e 4 (some .int), Cond.methodLink RJ2 244 yJ2_indexOfCharUnsafe_4cfef, Cond.static yJ2_indexOfCharUnsafe_4cfef, Cond.code yJ2_indexOfCharUnsafe_4cfef cJ2_indexOfCharUnsafe_4cfef 5 (some .int), Cond.methodLink RJ2 71 yJ2_getChar_3b067, Cond.static yJ2_getChar_3b067, Cond.code yJ2_getChar_3b067 cJ2_getChar_3b067 2 (some .char), Cond.fieldLink RJ2 44 "java/lang/StringUTF16" "$assertionsDisabled" "Z", Cond.fieldLink RJ2 59 "java/lang/StringUTF16" "HI_BYTE_SHIFT" "I", Cond.fieldLink RJ2 63 "java/lang/StringUTF16" "LO_BYTE_SHIFT" "I", Cond.methodLink RJ2 232 yJ2_indexOfSupplementary_4cfef, Cond.static yJ2_indexOfSupplementary_4cfef, Cond.code yJ2_indexOfSupplementary_4cfef cJ2_indexOfSupplementary_4cfef 7 (some .int), Cond.methodLink RJ2 164 yJ11_isValidCodePoint_9a6ad, Cond.static yJ11_isValidCodePoint_9a6ad, Cond.initialized RJ11, Cond.code yJ11_isValidCodePoint_9a6ad cJ11_isValidCodePoint_9a6ad 2 (some .boolean), Cond.methodLink RJ2 157 yJ11_highSurrogate_5068e, Cond.static yJ11_highSurrogate_5068e, Cond.code yJ11_highSurrogate_5068e cJ11_highSurrogate_5068e 1 (some .char), Cond.constant RJ11 110 (55232), Cond.methodLink RJ2 161 yJ11_lowSurrogate_5068e]
noncomputable def wsX4_isWhole_r5 : List Cond := [Cond.static yJ11_lowSurrogate_5068e, Cond.code yJ11_lowSurrogate_5068e cJ11_lowSurrogate_5068e 1 (some .char), Cond.constant RJ11 76 (56320), Cond.methodLink RX4 35 yX4_isMarkBehind, Cond.static yX4_isMarkBehind, Cond.code yX4_isMarkBehind cX4_isMarkBehind 2 (some .boolean)]
noncomputable def wsX4_isWhole : List Cond := .code yX4_isWhole cX4_isWhole 1 (some .boolean) :: ((wsX4_isWhole_r1 ++ (wsX4_isWhole_r2 ++ (wsX4_isWhole_r3 ++ (wsX4_isWhole_r4 ++ wsX4_isWhole_r5)))) ++ wsX40)
noncomputable def wsX4_houses : List Cond := .code yX4_houses cX4_houses 1 (some .int) :: ([.fieldLink RX4 15 "MilkRound$Page" "size" "I"] ++ wsX40)
noncomputable def wsX4_kindSignAt : List Cond := .code yX4_kindSignAt cX4_kindSignAt 2 (some .char) :: ([.fieldLink RX4 11 "MilkRound$Page" "signs" "[C"] ++ wsX40)
noncomputable def wsX4_keepAtEnd : List Cond := .code yX4_keepAtEnd cX4_keepAtEnd 1 (some .int) :: ([.fieldLink RX4 11 "MilkRound$Page" "signs" "[C", .fieldLink RX4 15 "MilkRound$Page" "size" "I"] ++ wsX40)
noncomputable def wsX5_init : List Cond := .code yX5_init cX5_init 1 none :: ([.instanceMethod yX3_init, .initialized RX3, .code yX3_init cX3_init 1 none, .methodLink RX3 1 objectInit, .instanceMethod objectInit, .code objectInit ⟨#[0xb1]⟩ 1 none])
noncomputable def wsX5_kind : List Cond := .code yX5_kind cX5_kind 1 (some .int) :: ([])
noncomputable def wsX5_minutesFor : List Cond := .code yX5_minutesFor cX5_minutesFor 2 (some .int) :: ([])
noncomputable def wsX9_init : List Cond := .code yX9_init cX9_init 1 none :: ([.instanceMethod yX5_init, .initialized RX5, .code yX5_init cX5_init 1 none, .instanceMethod yX3_init, .initialized RX3, .code yX3_init cX3_init 1 none, .methodLink RX3 1 objectInit, .instanceMethod objectInit, .code objectInit ⟨#[0xb1]⟩ 1 none])
noncomputable def wsX6_init_r1 : List Cond := [Cond.methodLink RX6 1 objectInit, Cond.instanceMethod objectInit, Cond.code objectInit ⟨#[0xb1]⟩ 1 none, Cond.classLink RX6 7 RX3, Cond.instantiable RX3 0, Cond.initialized RX3, Cond.fieldLink RX6 10 "MilkRound$Street" "plain" "LMilkRound$House;", Cond.classLink RX6 16 RX5, Cond.instantiable RX5 0, Cond.initialized RX5, Cond.fieldLink RX6 19 "MilkRound$Street" "sea" "LMilkRound$House;", Cond.classLink RX6 22 RX0, Cond.instantiable RX0 0, Cond.initialized RX0, Cond.fieldLink RX6 25 "MilkRound$Street" "alone" "LMilkRound$House;", Cond.classLink RX6 28 RX1, Cond.instantiable RX1 0, Cond.initialized RX1, Cond.fieldLink RX6 31 "MilkRound$Street" "bad" "LMilkRound$House;", Cond.classLink RX6 34 RX9, Cond.instantiable RX9 0, Cond.initialized RX9, Cond.fieldLink RX6 37 "MilkRound$Street" "war" "LMilkRound$House;", Cond.fieldLink RX6 40 "MilkRound$Street" "houses" "[LMilkRound$House;"]
noncomputable def wsX6_init_r2 : List Cond := [Cond.fieldLink RX6 44 "MilkRound$Street" "size" "I", Cond.fieldLink RX6 48 "MilkRound$Street" "keep" "I", Cond.instanceMethod yX3_init, Cond.code yX3_init cX3_init 1 none, Cond.methodLink RX3 1 objectInit, Cond.instanceMethod yX5_init, Cond.code yX5_init cX5_init 1 none, Cond.instanceMethod yX0_init, Cond.code yX0_init cX0_init 1 none, Cond.instanceMethod yX1_init, Cond.code yX1_init cX1_init 1 none, Cond.instanceMethod yX9_init, Cond.code yX9_init cX9_init 1 none]
noncomputable def wsX6_init : List Cond := .code yX6_init cX6_init 1 none :: ((wsX6_init_r1 ++ wsX6_init_r2) ++ wsX30 ++ wsX60 ++ wsX50 ++ wsX00 ++ wsX10 ++ wsX90)
noncomputable def wsX6_houseOf : List Cond := .code yX6_houseOf cX6_houseOf 2 (some (.object "MilkRound$House")) :: ([.fieldLink RX6 19 "MilkRound$Street" "sea" "LMilkRound$House;", .fieldLink RX6 25 "MilkRound$Street" "alone" "LMilkRound$House;", .fieldLink RX6 31 "MilkRound$Street" "bad" "LMilkRound$House;", .fieldLink RX6 37 "MilkRound$Street" "war" "LMilkRound$House;", .fieldLink RX6 10 "MilkRound$Street" "plain" "LMilkRound$House;"] ++ wsX60)
noncomputable def wsX6_settle_r1 : List Cond := [Cond.fieldLink RX6 44 "MilkRound$Street" "size" "I", Cond.fieldLink RX6 48 "MilkRound$Street" "keep" "I", Cond.fieldLink RX6 40 "MilkRound$Street" "houses" "[LMilkRound$House;", Cond.methodLink RX6 51 yX4_houses, Cond.instanceMethod yX4_houses, Cond.selects RX4 yX4_houses yX4_houses, Cond.initialized RX4, Cond.code yX4_houses cX4_houses 1 (some .int), Cond.fieldLink RX4 15 "MilkRound$Page" "size" "I", Cond.methodLink RX6 56 yX4_keepAtEnd, Cond.instanceMethod yX4_keepAtEnd, Cond.selects RX4 yX4_keepAtEnd yX4_keepAtEnd, Cond.code yX4_keepAtEnd cX4_keepAtEnd 1 (some .int), Cond.fieldLink RX4 11 "MilkRound$Page" "signs" "[C", Cond.methodLink RX6 59 yX4_kindSignAt, Cond.instanceMethod yX4_kindSignAt, Cond.selects RX4 yX4_kindSignAt yX4_kindSignAt, Cond.code yX4_kindSignAt cX4_kindSignAt 2 (some .char), Cond.methodLink RX6 63 yX6_houseOf, Cond.instanceMethod yX6_houseOf, Cond.selects RX6 yX6_houseOf yX6_houseOf, Cond.initialized RX6, Cond.code yX6_houseOf cX6_houseOf 2 (some (.object "MilkRound$House")), Cond.fieldLink RX6 19 "MilkRound$Street" "sea" "LMilkRound$House;"]
noncomputable def wsX6_settle_r2 : List Cond := [Cond.fieldLink RX6 25 "MilkRound$Street" "alone" "LMilkRound$House;", Cond.fieldLink RX6 31 "MilkRound$Street" "bad" "LMilkRound$House;", Cond.fieldLink RX6 37 "MilkRound$Street" "war" "LMilkRound$House;", Cond.fieldLink RX6 10 "MilkRound$Street" "plain" "LMilkRound$House;"]
noncomputable def wsX6_settle : List Cond := .code yX6_settle cX6_settle 3 none :: ((wsX6_settle_r1 ++ wsX6_settle_r2) ++ wsX60 ++ wsX40)
noncomputable def wsX6_has : List Cond := .code yX6_has cX6_has 2 (some .boolean) :: ([.fieldLink RX6 44 "MilkRound$Street" "size" "I"] ++ wsX60)
noncomputable def wsX9_minutesFor : List Cond := .code yX9_minutesFor cX9_minutesFor 2 (some .int) :: ([.methodLink RX9 7 yX5_minutesFor, .sameMethod "MilkRound$Sea" "MilkRound$Sea" "minutesFor" "(I)I", .superclass RX9 RX5, .instanceMethod yX5_minutesFor, .initialized RX5, .code yX5_minutesFor cX5_minutesFor 2 (some .int)])
noncomputable def wsX10_bitOf : List Cond := .code yX10_bitOf cX10_bitOf 2 (some .int) :: ([])
noncomputable def wsX6_reading_r1 : List Cond := [Cond.fieldLink RX6 40 "MilkRound$Street" "houses" "[LMilkRound$House;", Cond.methodLink RX6 67 ⟨"MilkRound$House", "minutesFor", "(I)I"⟩, Cond.sameMethod "MilkRound$House" "MilkRound$House" "minutesFor" "(I)I", Cond.instanceMethod ⟨"MilkRound$House", "minutesFor", "(I)I"⟩, Cond.selects RX0 ⟨"MilkRound$House", "minutesFor", "(I)I"⟩ yX0_minutesFor, Cond.instanceMethod yX0_minutesFor, Cond.initialized RX0, Cond.code yX0_minutesFor cX0_minutesFor 2 (some .int), Cond.code yX3_minutesFor cX3_minutesFor 2 (some .int), Cond.selects RX1 ⟨"MilkRound$House", "minutesFor", "(I)I"⟩ yX1_minutesFor, Cond.instanceMethod yX1_minutesFor, Cond.initialized RX1, Cond.code yX1_minutesFor cX1_minutesFor 2 (some .int), Cond.methodLink RX6 67 yX3_minutesFor, Cond.instanceMethod yX3_minutesFor, Cond.selects RX3 yX3_minutesFor yX3_minutesFor, Cond.initialized RX3, Cond.selects RX5 ⟨"MilkRound$House", "minutesFor", "(I)I"⟩ yX5_minutesFor, Cond.instanceMethod yX5_minutesFor, Cond.initialized RX5, Cond.code yX5_minutesFor cX5_minutesFor 2 (some .int), Cond.selects RX9 ⟨"MilkRound$House", "minutesFor", "(I)I"⟩ yX9_minutesFor, Cond.instanceMethod yX9_minutesFor, Cond.initialized RX9]
noncomputable def wsX6_reading_r2 : List Cond := [Cond.code yX9_minutesFor cX9_minutesFor 2 (some .int), Cond.methodLink RX9 7 yX5_minutesFor, Cond.sameMethod "MilkRound$Sea" "MilkRound$Sea" "minutesFor" "(I)I", Cond.superclass RX9 RX5, Cond.static yX10_bitOf, Cond.initialized RX10, Cond.code yX10_bitOf cX10_bitOf 2 (some .int)]
noncomputable def wsX6_reading : List Cond := .code yX6_reading cX6_reading 5 (some .int) :: ((wsX6_reading_r1 ++ wsX6_reading_r2) ++ wsX60)
noncomputable def wsX7_init : List Cond := .code yX7_init cX7_init 1 none :: ([.methodLink RX7 3 objectInit, .instanceMethod objectInit, .code objectInit ⟨#[0xb1]⟩ 1 none, .classLink RX7 9 "[[I", .arrayClass .int, .fieldLink RX7 11 "MilkRound$Tally" "left" "[[I", .fieldLink RX7 16 "MilkRound$Tally" "worst" "[I"] ++ wsX70)
noncomputable def wsX7_clear : List Cond := .code yX7_clear cX7_clear 3 none :: ([.fieldLink RX7 16 "MilkRound$Tally" "worst" "[I", .fieldLink RX7 11 "MilkRound$Tally" "left" "[[I"] ++ wsX70)
noncomputable def wsX7_add : List Cond := .code yX7_add cX7_add 5 none :: ([.fieldLink RX7 11 "MilkRound$Tally" "left" "[[I", .fieldLink RX7 16 "MilkRound$Tally" "worst" "[I", .methodLink RX7 20 Lib.Math.max.name, .static Lib.Math.max.name, .initialized "java/lang/Math", .code Lib.Math.max.name Lib.Math.max.code 2 (some .int)] ++ wsX70)
noncomputable def wsX7_houseOfLeastWorst : List Cond := .code yX7_houseOfLeastWorst cX7_houseOfLeastWorst 4 (some .int) :: ([.fieldLink RX7 16 "MilkRound$Tally" "worst" "[I"] ++ wsX70)
noncomputable def wsX8_init : List Cond := .code yX8_init cX8_init 2 none :: ([.methodLink RX8 3 objectInit, .instanceMethod objectInit, .code objectInit ⟨#[0xb1]⟩ 1 none, .arrayClass .int, .fieldLink RX8 9 "MilkRound$Walk" "came" "[I", .fieldLink RX8 15 "MilkRound$Walk" "minutesOfAll" "I", .fieldLink RX8 19 "MilkRound$Walk" "street" "LMilkRound$Street;"] ++ wsX80)
noncomputable def wsX8_go_r1 : List Cond := [Cond.fieldLink RX8 19 "MilkRound$Walk" "street" "LMilkRound$Street;", Cond.fieldLink RX8 23 "MilkRound$Street" "size" "I", Cond.fieldLink RX8 9 "MilkRound$Walk" "came" "[I", Cond.fieldLink RX8 15 "MilkRound$Walk" "minutesOfAll" "I", Cond.methodLink RX8 28 yX6_has, Cond.instanceMethod yX6_has, Cond.selects RX6 yX6_has yX6_has, Cond.initialized RX6, Cond.code yX6_has cX6_has 2 (some .boolean), Cond.fieldLink RX6 44 "MilkRound$Street" "size" "I", Cond.methodLink RX8 32 yX6_reading, Cond.instanceMethod yX6_reading, Cond.selects RX6 yX6_reading yX6_reading, Cond.code yX6_reading cX6_reading 5 (some .int), Cond.fieldLink RX6 40 "MilkRound$Street" "houses" "[LMilkRound$House;", Cond.methodLink RX6 67 ⟨"MilkRound$House", "minutesFor", "(I)I"⟩, Cond.sameMethod "MilkRound$House" "MilkRound$House" "minutesFor" "(I)I", Cond.instanceMethod ⟨"MilkRound$House", "minutesFor", "(I)I"⟩, Cond.selects RX0 ⟨"MilkRound$House", "minutesFor", "(I)I"⟩ yX0_minutesFor, Cond.instanceMethod yX0_minutesFor, Cond.initialized RX0, Cond.code yX0_minutesFor cX0_minutesFor 2 (some .int), Cond.code yX3_minutesFor cX3_minutesFor 2 (some .int), Cond.selects RX1 ⟨"MilkRound$House", "minutesFor", "(I)I"⟩ yX1_minutesFor]
noncomputable def wsX8_go_r2 : List Cond := [Cond.instanceMethod yX1_minutesFor, Cond.initialized RX1, Cond.code yX1_minutesFor cX1_minutesFor 2 (some .int), Cond.methodLink RX6 67 yX3_minutesFor, Cond.instanceMethod yX3_minutesFor, Cond.selects RX3 yX3_minutesFor yX3_minutesFor, Cond.initialized RX3, Cond.selects RX5 ⟨"MilkRound$House", "minutesFor", "(I)I"⟩ yX5_minutesFor, Cond.instanceMethod yX5_minutesFor, Cond.initialized RX5, Cond.code yX5_minutesFor cX5_minutesFor 2 (some .int), Cond.selects RX9 ⟨"MilkRound$House", "minutesFor", "(I)I"⟩ yX9_minutesFor, Cond.instanceMethod yX9_minutesFor, Cond.initialized RX9, Cond.code yX9_minutesFor cX9_minutesFor 2 (some .int), Cond.methodLink RX9 7 yX5_minutesFor, Cond.sameMethod "MilkRound$Sea" "MilkRound$Sea" "minutesFor" "(I)I", Cond.superclass RX9 RX5, Cond.static yX10_bitOf, Cond.initialized RX10, Cond.code yX10_bitOf cX10_bitOf 2 (some .int)]
noncomputable def wsX8_go : List Cond := .code yX8_go cX8_go 7 none :: ((wsX8_go_r1 ++ wsX8_go_r2) ++ wsX80 ++ wsX60)
noncomputable def wsX8_isSour : List Cond := .code yX8_isSour cX8_isSour 2 (some .boolean) :: ([.fieldLink RX8 9 "MilkRound$Walk" "came" "[I", .fieldLink RX8 19 "MilkRound$Walk" "street" "LMilkRound$Street;", .fieldLink RX8 36 "MilkRound$Street" "houses" "[LMilkRound$House;", .fieldLink RX8 46 "MilkRound$Street" "keep" "I", .methodLink RX8 40 ⟨"MilkRound$House", "timesKeep", "()I"⟩, .sameMethod "MilkRound$House" "MilkRound$House" "timesKeep" "()I", .instanceMethod ⟨"MilkRound$House", "timesKeep", "()I"⟩, .selects RX0 ⟨"MilkRound$House", "timesKeep", "()I"⟩ yX0_timesKeep, .instanceMethod yX0_timesKeep, .initialized RX0, .code yX0_timesKeep cX0_timesKeep 1 (some .int), .code yX3_timesKeep cX3_timesKeep 1 (some .int), .selects RX1 ⟨"MilkRound$House", "timesKeep", "()I"⟩ yX3_timesKeep, .instanceMethod yX3_timesKeep, .initialized RX3, .methodLink RX8 40 yX3_timesKeep, .selects RX3 yX3_timesKeep yX3_timesKeep, .selects RX5 ⟨"MilkRound$House", "timesKeep", "()I"⟩ yX3_timesKeep, .selects RX9 ⟨"MilkRound$House", "timesKeep", "()I"⟩ yX3_timesKeep] ++ wsX80 ++ wsX60)
noncomputable def wsX8_isAhead : List Cond := .code yX8_isAhead cX8_isAhead 3 (some .boolean) :: ([.fieldLink RX8 19 "MilkRound$Walk" "street" "LMilkRound$Street;", .fieldLink RX8 23 "MilkRound$Street" "size" "I", .fieldLink RX8 9 "MilkRound$Walk" "came" "[I"] ++ wsX80 ++ wsX60)
noncomputable def wsX8_hears : List Cond := .code yX8_hears cX8_hears 2 (some .boolean) :: ([.fieldLink RX8 19 "MilkRound$Walk" "street" "LMilkRound$Street;", .fieldLink RX8 36 "MilkRound$Street" "houses" "[LMilkRound$House;", .methodLink RX8 49 ⟨"MilkRound$House", "listens", "()Z"⟩, .sameMethod "MilkRound$House" "MilkRound$House" "listens" "()Z", .instanceMethod ⟨"MilkRound$House", "listens", "()Z"⟩, .selects RX0 ⟨"MilkRound$House", "listens", "()Z"⟩ yX0_listens, .instanceMethod yX0_listens, .initialized RX0, .code yX0_listens cX0_listens 1 (some .boolean), .code yX3_listens cX3_listens 1 (some .boolean), .selects RX1 ⟨"MilkRound$House", "listens", "()Z"⟩ yX3_listens, .instanceMethod yX3_listens, .initialized RX3, .methodLink RX8 49 yX3_listens, .selects RX3 yX3_listens yX3_listens, .selects RX5 ⟨"MilkRound$House", "listens", "()Z"⟩ yX3_listens, .selects RX9 ⟨"MilkRound$House", "listens", "()Z"⟩ yX3_listens, .methodLink RX8 53 yX8_isAhead, .instanceMethod yX8_isAhead, .selects RX8 yX8_isAhead yX8_isAhead, .initialized RX8, .code yX8_isAhead cX8_isAhead 3 (some .boolean), .fieldLink RX8 23 "MilkRound$Street" "size" "I", .fieldLink RX8 9 "MilkRound$Walk" "came" "[I"] ++ wsX80 ++ wsX60)
noncomputable def wsX8_sourHouses_r1 : List Cond := [Cond.fieldLink RX8 19 "MilkRound$Walk" "street" "LMilkRound$Street;", Cond.fieldLink RX8 23 "MilkRound$Street" "size" "I", Cond.methodLink RX8 57 yX8_isSour, Cond.instanceMethod yX8_isSour, Cond.selects RX8 yX8_isSour yX8_isSour, Cond.initialized RX8, Cond.code yX8_isSour cX8_isSour 2 (some .boolean), Cond.fieldLink RX8 9 "MilkRound$Walk" "came" "[I", Cond.fieldLink RX8 36 "MilkRound$Street" "houses" "[LMilkRound$House;", Cond.fieldLink RX8 46 "MilkRound$Street" "keep" "I", Cond.methodLink RX8 40 ⟨"MilkRound$House", "timesKeep", "()I"⟩, Cond.sameMethod "MilkRound$House" "MilkRound$House" "timesKeep" "()I", Cond.instanceMethod ⟨"MilkRound$House", "timesKeep", "()I"⟩, Cond.selects RX0 ⟨"MilkRound$House", "timesKeep", "()I"⟩ yX0_timesKeep, Cond.instanceMethod yX0_timesKeep, Cond.initialized RX0, Cond.code yX0_timesKeep cX0_timesKeep 1 (some .int), Cond.code yX3_timesKeep cX3_timesKeep 1 (some .int), Cond.selects RX1 ⟨"MilkRound$House", "timesKeep", "()I"⟩ yX3_timesKeep, Cond.instanceMethod yX3_timesKeep, Cond.initialized RX3, Cond.methodLink RX8 40 yX3_timesKeep, Cond.selects RX3 yX3_timesKeep yX3_timesKeep, Cond.selects RX5 ⟨"MilkRound$House", "timesKeep", "()I"⟩ yX3_timesKeep]
noncomputable def wsX8_sourHouses_r2 : List Cond := [Cond.selects RX9 ⟨"MilkRound$House", "timesKeep", "()I"⟩ yX3_timesKeep]
noncomputable def wsX8_sourHouses : List Cond := .code yX8_sourHouses cX8_sourHouses 3 (some .int) :: ((wsX8_sourHouses_r1 ++ wsX8_sourHouses_r2) ++ wsX80 ++ wsX60)
noncomputable def wsX8_hearingHouses_r1 : List Cond := [Cond.fieldLink RX8 19 "MilkRound$Walk" "street" "LMilkRound$Street;", Cond.fieldLink RX8 23 "MilkRound$Street" "size" "I", Cond.methodLink RX8 60 yX8_hears, Cond.instanceMethod yX8_hears, Cond.selects RX8 yX8_hears yX8_hears, Cond.initialized RX8, Cond.code yX8_hears cX8_hears 2 (some .boolean), Cond.fieldLink RX8 36 "MilkRound$Street" "houses" "[LMilkRound$House;", Cond.methodLink RX8 49 ⟨"MilkRound$House", "listens", "()Z"⟩, Cond.sameMethod "MilkRound$House" "MilkRound$House" "listens" "()Z", Cond.instanceMethod ⟨"MilkRound$House", "listens", "()Z"⟩, Cond.selects RX0 ⟨"MilkRound$House", "listens", "()Z"⟩ yX0_listens, Cond.instanceMethod yX0_listens, Cond.initialized RX0, Cond.code yX0_listens cX0_listens 1 (some .boolean), Cond.code yX3_listens cX3_listens 1 (some .boolean), Cond.selects RX1 ⟨"MilkRound$House", "listens", "()Z"⟩ yX3_listens, Cond.instanceMethod yX3_listens, Cond.initialized RX3, Cond.methodLink RX8 49 yX3_listens, Cond.selects RX3 yX3_listens yX3_listens, Cond.selects RX5 ⟨"MilkRound$House", "listens", "()Z"⟩ yX3_listens, Cond.selects RX9 ⟨"MilkRound$House", "listens", "()Z"⟩ yX3_listens, Cond.methodLink RX8 53 yX8_isAhead]
noncomputable def wsX8_hearingHouses_r2 : List Cond := [Cond.instanceMethod yX8_isAhead, Cond.selects RX8 yX8_isAhead yX8_isAhead, Cond.code yX8_isAhead cX8_isAhead 3 (some .boolean), Cond.fieldLink RX8 9 "MilkRound$Walk" "came" "[I"]
noncomputable def wsX8_hearingHouses : List Cond := .code yX8_hearingHouses cX8_hearingHouses 3 (some .int) :: ((wsX8_hearingHouses_r1 ++ wsX8_hearingHouses_r2) ++ wsX80 ++ wsX60)
noncomputable def wsX8_wrongs_r1 : List Cond := [Cond.methodLink RX8 63 yX8_sourHouses, Cond.instanceMethod yX8_sourHouses, Cond.selects RX8 yX8_sourHouses yX8_sourHouses, Cond.initialized RX8, Cond.code yX8_sourHouses cX8_sourHouses 3 (some .int), Cond.fieldLink RX8 19 "MilkRound$Walk" "street" "LMilkRound$Street;", Cond.fieldLink RX8 23 "MilkRound$Street" "size" "I", Cond.methodLink RX8 57 yX8_isSour, Cond.instanceMethod yX8_isSour, Cond.selects RX8 yX8_isSour yX8_isSour, Cond.code yX8_isSour cX8_isSour 2 (some .boolean), Cond.fieldLink RX8 9 "MilkRound$Walk" "came" "[I", Cond.fieldLink RX8 36 "MilkRound$Street" "houses" "[LMilkRound$House;", Cond.fieldLink RX8 46 "MilkRound$Street" "keep" "I", Cond.methodLink RX8 40 ⟨"MilkRound$House", "timesKeep", "()I"⟩, Cond.sameMethod "MilkRound$House" "MilkRound$House" "timesKeep" "()I", Cond.instanceMethod ⟨"MilkRound$House", "timesKeep", "()I"⟩, Cond.selects RX0 ⟨"MilkRound$House", "timesKeep", "()I"⟩ yX0_timesKeep, Cond.instanceMethod yX0_timesKeep, Cond.initialized RX0, Cond.code yX0_timesKeep cX0_timesKeep 1 (some .int), Cond.code yX3_timesKeep cX3_timesKeep 1 (some .int), Cond.selects RX1 ⟨"MilkRound$House", "timesKeep", "()I"⟩ yX3_timesKeep, Cond.instanceMethod yX3_timesKeep]
noncomputable def wsX8_wrongs_r2 : List Cond := [Cond.initialized RX3, Cond.methodLink RX8 40 yX3_timesKeep, Cond.selects RX3 yX3_timesKeep yX3_timesKeep, Cond.selects RX5 ⟨"MilkRound$House", "timesKeep", "()I"⟩ yX3_timesKeep, Cond.selects RX9 ⟨"MilkRound$House", "timesKeep", "()I"⟩ yX3_timesKeep, Cond.methodLink RX8 66 yX8_hearingHouses, Cond.instanceMethod yX8_hearingHouses, Cond.selects RX8 yX8_hearingHouses yX8_hearingHouses, Cond.code yX8_hearingHouses cX8_hearingHouses 3 (some .int), Cond.methodLink RX8 60 yX8_hears, Cond.instanceMethod yX8_hears, Cond.selects RX8 yX8_hears yX8_hears, Cond.code yX8_hears cX8_hears 2 (some .boolean), Cond.methodLink RX8 49 ⟨"MilkRound$House", "listens", "()Z"⟩, Cond.sameMethod "MilkRound$House" "MilkRound$House" "listens" "()Z", Cond.instanceMethod ⟨"MilkRound$House", "listens", "()Z"⟩, Cond.selects RX0 ⟨"MilkRound$House", "listens", "()Z"⟩ yX0_listens, Cond.instanceMethod yX0_listens, Cond.code yX0_listens cX0_listens 1 (some .boolean), Cond.code yX3_listens cX3_listens 1 (some .boolean), Cond.selects RX1 ⟨"MilkRound$House", "listens", "()Z"⟩ yX3_listens, Cond.instanceMethod yX3_listens, Cond.methodLink RX8 49 yX3_listens, Cond.selects RX3 yX3_listens yX3_listens]
noncomputable def wsX8_wrongs_r3 : List Cond := [Cond.selects RX5 ⟨"MilkRound$House", "listens", "()Z"⟩ yX3_listens, Cond.selects RX9 ⟨"MilkRound$House", "listens", "()Z"⟩ yX3_listens, Cond.methodLink RX8 53 yX8_isAhead, Cond.instanceMethod yX8_isAhead, Cond.selects RX8 yX8_isAhead yX8_isAhead, Cond.code yX8_isAhead cX8_isAhead 3 (some .boolean)]
noncomputable def wsX8_wrongs : List Cond := .code yX8_wrongs cX8_wrongs 1 (some .int) :: ((wsX8_wrongs_r1 ++ (wsX8_wrongs_r2 ++ wsX8_wrongs_r3)) ++ wsX80 ++ wsX60)
noncomputable def wsX9_kind : List Cond := .code yX9_kind cX9_kind 1 (some .int) :: ([])
noncomputable def wsX10_init_r1 : List Cond := [Cond.methodLink RX10 1 objectInit, Cond.instanceMethod objectInit, Cond.code objectInit ⟨#[0xb1]⟩ 1 none, Cond.classLink RX10 7 RX4, Cond.instantiable RX4 2, Cond.initialized RX4, Cond.fieldLink RX10 10 "MilkRound" "page" "LMilkRound$Page;", Cond.classLink RX10 16 RX6, Cond.instantiable RX6 8, Cond.initialized RX6, Cond.fieldLink RX10 19 "MilkRound" "street" "LMilkRound$Street;", Cond.classLink RX10 23 RX2, Cond.instantiable RX2 9, Cond.initialized RX2, Cond.fieldLink RX10 26 "MilkRound" "now" "LMilkRound$Course;", Cond.fieldLink RX10 30 "MilkRound" "kept" "LMilkRound$Course;", Cond.classLink RX10 33 RX8, Cond.instantiable RX8 3, Cond.initialized RX8, Cond.fieldLink RX10 38 "MilkRound" "walk" "LMilkRound$Walk;", Cond.arrayClass .int, Cond.fieldLink RX10 42 "MilkRound" "trialLengths" "[I", Cond.fieldLink RX10 46 "MilkRound" "trialOrder" "[I", Cond.fieldLink RX10 49 "MilkRound" "bestOrder" "[I"]
noncomputable def wsX10_init_r2 : List Cond := [Cond.classLink RX10 52 RX7, Cond.instantiable RX7 2, Cond.initialized RX7, Cond.fieldLink RX10 55 "MilkRound" "tally" "LMilkRound$Tally;", Cond.fieldLink RX10 59 "MilkRound" "hasImage" "Z", Cond.fieldLink RX10 63 "MilkRound" "roundsRead" "I", Cond.fieldLink RX10 67 "MilkRound" "searches" "I", Cond.instanceMethod yX4_init, Cond.code yX4_init cX4_init 1 none, Cond.methodLink RX4 3 objectInit, Cond.arrayClass .char, Cond.fieldLink RX4 11 "MilkRound$Page" "signs" "[C", Cond.fieldLink RX4 15 "MilkRound$Page" "size" "I", Cond.instanceMethod yX6_init, Cond.code yX6_init cX6_init 1 none, Cond.methodLink RX6 1 objectInit, Cond.classLink RX6 7 RX3, Cond.instantiable RX3 0, Cond.initialized RX3, Cond.fieldLink RX6 10 "MilkRound$Street" "plain" "LMilkRound$House;", Cond.classLink RX6 16 RX5, Cond.instantiable RX5 0, Cond.initialized RX5, Cond.fieldLink RX6 19 "MilkRound$Street" "sea" "LMilkRound$House;"]
noncomputable def wsX10_init_r3 : List Cond := [Cond.classLink RX6 22 RX0, Cond.instantiable RX0 0, Cond.initialized RX0, Cond.fieldLink RX6 25 "MilkRound$Street" "alone" "LMilkRound$House;", Cond.classLink RX6 28 RX1, Cond.instantiable RX1 0, Cond.initialized RX1, Cond.fieldLink RX6 31 "MilkRound$Street" "bad" "LMilkRound$House;", Cond.classLink RX6 34 RX9, Cond.instantiable RX9 0, Cond.initialized RX9, Cond.fieldLink RX6 37 "MilkRound$Street" "war" "LMilkRound$House;", Cond.fieldLink RX6 40 "MilkRound$Street" "houses" "[LMilkRound$House;", Cond.fieldLink RX6 44 "MilkRound$Street" "size" "I", Cond.fieldLink RX6 48 "MilkRound$Street" "keep" "I", Cond.instanceMethod yX3_init, Cond.code yX3_init cX3_init 1 none, Cond.methodLink RX3 1 objectInit, Cond.instanceMethod yX5_init, Cond.code yX5_init cX5_init 1 none, Cond.instanceMethod yX0_init, Cond.code yX0_init cX0_init 1 none, Cond.instanceMethod yX1_init, Cond.code yX1_init cX1_init 1 none]
noncomputable def wsX10_init_r4 : List Cond := [Cond.instanceMethod yX9_init, Cond.code yX9_init cX9_init 1 none, Cond.instanceMethod yX2_init, Cond.code yX2_init cX2_init 1 none, Cond.methodLink RX2 3 objectInit, Cond.fieldLink RX2 9 "MilkRound$Course" "lengths" "[I", Cond.fieldLink RX2 15 "MilkRound$Course" "order" "[I", Cond.fieldLink RX2 18 "MilkRound$Course" "knownHouses" "[I", Cond.fieldLink RX2 21 "MilkRound$Course" "knownMinutes" "[I", Cond.fieldLink RX2 24 "MilkRound$Course" "knownSize" "I", Cond.fieldLink RX2 28 "MilkRound$Course" "leftOut" "I", Cond.fieldLink RX2 31 "MilkRound$Course" "days" "I", Cond.fieldLink RX2 34 "MilkRound$Course" "soured" "I", Cond.fieldLink RX2 37 "MilkRound$Course" "heard" "I", Cond.methodLink RX10 35 yX8_init, Cond.instanceMethod yX8_init, Cond.code yX8_init cX8_init 2 none, Cond.methodLink RX8 3 objectInit, Cond.fieldLink RX8 9 "MilkRound$Walk" "came" "[I", Cond.fieldLink RX8 15 "MilkRound$Walk" "minutesOfAll" "I", Cond.fieldLink RX8 19 "MilkRound$Walk" "street" "LMilkRound$Street;", Cond.instanceMethod yX7_init, Cond.code yX7_init cX7_init 1 none, Cond.methodLink RX7 3 objectInit]
noncomputable def wsX10_init_r5 : List Cond := [Cond.classLink RX7 9 "[[I", Cond.fieldLink RX7 11 "MilkRound$Tally" "left" "[[I", Cond.fieldLink RX7 16 "MilkRound$Tally" "worst" "[I"]
noncomputable def wsX10_init : List Cond := .code yX10_init cX10_init 1 none :: ((wsX10_init_r1 ++ (wsX10_init_r2 ++ (wsX10_init_r3 ++ (wsX10_init_r4 ++ wsX10_init_r5)))) ++ wsX40 ++ wsX100 ++ wsX60 ++ wsX20 ++ wsX80 ++ wsX70 ++ wsX30 ++ wsX50 ++ wsX00 ++ wsX10 ++ wsX90)
noncomputable def wsX10_letter : List Cond := .code yX10_letter cX10_letter 2 (some .int) :: ([.fieldLink RX10 10 "MilkRound" "page" "LMilkRound$Page;", .fieldLink RX10 74 "MilkRound$Page" "size" "I", .methodLink RX10 70 yX4_add, .instanceMethod yX4_add, .selects RX4 yX4_add yX4_add, .initialized RX4, .code yX4_add cX4_add 2 (some .boolean), .fieldLink RX4 15 "MilkRound$Page" "size" "I", .fieldLink RX4 11 "MilkRound$Page" "signs" "[C"] ++ wsX100 ++ wsX40)
noncomputable def wsX10_blank : List Cond := .code yX10_blank cX10_blank 2 (some .int) :: ([.fieldLink RX10 10 "MilkRound" "page" "LMilkRound$Page;", .fieldLink RX10 74 "MilkRound$Page" "size" "I"] ++ wsX100 ++ wsX40)
noncomputable def wsX10_fault_r1 : List Cond := [Cond.fieldLink RX10 10 "MilkRound" "page" "LMilkRound$Page;", Cond.methodLink RX10 77 yX4_firstFault, Cond.instanceMethod yX4_firstFault, Cond.selects RX4 yX4_firstFault yX4_firstFault, Cond.initialized RX4, Cond.code yX4_firstFault cX4_firstFault 3 (some .int), Cond.fieldLink RX4 15 "MilkRound$Page" "size" "I", Cond.fieldLink RX4 11 "MilkRound$Page" "signs" "[C", Cond.methodLink RX4 19 yX4_fits, Cond.static yX4_fits, Cond.code yX4_fits cX4_fits 4 (some .boolean), Cond.methodLink RX4 29 yJ0_indexOf_0f7a4, Cond.instanceMethod yJ0_indexOf_0f7a4, Cond.selects RJ0 yJ0_indexOf_0f7a4 yJ0_indexOf_0f7a4, Cond.initialized RJ0, Cond.code yJ0_indexOf_0f7a4 cJ0_indexOf_0f7a4 2 (some .int), Cond.methodLink RJ0 633 yJ0_indexOf_7cf53, Cond.instanceMethod yJ0_indexOf_7cf53, Cond.selects RJ0 yJ0_indexOf_7cf53 yJ0_indexOf_7cf53, Cond.code yJ0_indexOf_7cf53 cJ0_indexOf_7cf53 3 (some .int), Cond.fieldLink RJ0 9 "java/lang/String" "value" "[B", Cond.methodLink RJ0 492 yJ0_isLatin1_aae02, Cond.instanceMethod yJ0_isLatin1_aae02, Cond.selects RJ0 yJ0_isLatin1_aae02 yJ0_isLatin1_aae02]
noncomputable def wsX10_fault_r2 : List Cond := [Cond.code yJ0_isLatin1_aae02 cJ0_isLatin1_aae02 1 (some .boolean), Cond.fieldLink RJ0 38 "java/lang/String" "COMPACT_STRINGS" "Z", Cond.fieldLink RJ0 15 "java/lang/String" "coder" "B", Cond.methodLink RJ0 505 yJ0_length_8abf5, Cond.instanceMethod yJ0_length_8abf5, Cond.selects RJ0 yJ0_length_8abf5 yJ0_length_8abf5, Cond.code yJ0_length_8abf5 cJ0_length_8abf5 1 (some .int), Cond.methodLink RJ0 335 yJ0_coder_7d493, Cond.instanceMethod yJ0_coder_7d493, Cond.selects RJ0 yJ0_coder_7d493 yJ0_coder_7d493, Cond.code yJ0_coder_7d493 cJ0_coder_7d493 1 (some .byte), Cond.methodLink RJ0 637 yJ1_indexOf_4cfef, Cond.static yJ1_indexOf_4cfef, Cond.initialized RJ1, Cond.code yJ1_indexOf_4cfef cJ1_indexOf_4cfef 4 (some .int), Cond.methodLink RJ1 92 Lib.Math.max.name, Cond.static Lib.Math.max.name, Cond.initialized "java/lang/Math", Cond.code Lib.Math.max.name Lib.Math.max.code 2 (some .int), Cond.methodLink RJ1 38 Lib.Math.min.name, Cond.static Lib.Math.min.name, Cond.code Lib.Math.min.name Lib.Math.min.code 2 (some .int), Cond.methodLink RJ1 88 yJ1_canEncode_9a6ad, Cond.static yJ1_canEncode_9a6ad]
noncomputable def wsX10_fault_r3 : List Cond := [Cond.code yJ1_canEncode_9a6ad cJ1_canEncode_9a6ad 1 (some .boolean), Cond.methodLink RJ1 95 yJ1_indexOfChar_4cfef, Cond.static yJ1_indexOfChar_4cfef, Cond.code yJ1_indexOfChar_4cfef cJ1_indexOfChar_4cfef 6 (some .int), Cond.methodLink RJ0 640 yJ2_indexOf_4cfef, Cond.static yJ2_indexOf_4cfef, Cond.initialized RJ2, Cond.code yJ2_indexOf_4cfef cJ2_indexOf_4cfef 4 (some .int), Cond.methodLink RJ2 224 Lib.Math.max.name, Cond.methodLink RJ2 183 Lib.Math.min.name, Cond.constant RJ2 227 (65536), Cond.methodLink RJ2 228 yJ2_indexOfChar_4cfef, Cond.static yJ2_indexOfChar_4cfef, Cond.code yJ2_indexOfChar_4cfef cJ2_indexOfChar_4cfef 4 (some .int), Cond.methodLink RJ2 96 yJ2_checkBoundsBeginEnd_d044e, Cond.static yJ2_checkBoundsBeginEnd_d044e, Cond.code yJ2_checkBoundsBeginEnd_d044e cJ2_checkBoundsBeginEnd_d044e 3 none, Cond.methodLink RJ2 48 yJ2_length_9d52b, Cond.static yJ2_length_9d52b, Cond.code yJ2_length_9d52b cJ2_length_9d52b 1 (some .int), Cond.methodLink RJ2 241 yJ0_checkBoundsBeginEnd_23922, Cond.static yJ0_checkBoundsBeginEnd_23922, Cond.code yJ0_checkBoundsBeginEnd_23922 cJ0_checkBoundsBeginEnd_23922 3 none, Cond.fieldLink RJ0 1053 "jdk/internal/util/Preconditions" "SIOOBE_FORMATTER" "Ljava/util/function/BiFunction;"]
noncomputable def wsX10_fault_r4 : List Cond := [Cond.methodLink RJ0 1062 yJ3_checkFromToIndex_8c36e, Cond.static yJ3_checkFromToIndex_8c36e, Cond.initialized RJ3, Cond.code yJ3_checkFromToIndex_8c36e cJ3_checkFromToIndex_8c36e 4 (some .int), Cond.methodLink RJ2 244 yJ2_indexOfCharUnsafe_4cfef, Cond.static yJ2_indexOfCharUnsafe_4cfef, Cond.code yJ2_indexOfCharUnsafe_4cfef cJ2_indexOfCharUnsafe_4cfef 5 (some .int), Cond.methodLink RJ2 71 yJ2_getChar_3b067, Cond.static yJ2_getChar_3b067, Cond.code yJ2_getChar_3b067 cJ2_getChar_3b067 2 (some .char), Cond.fieldLink RJ2 44 "java/lang/StringUTF16" "$assertionsDisabled" "Z", Cond.fieldLink RJ2 59 "java/lang/StringUTF16" "HI_BYTE_SHIFT" "I", Cond.fieldLink RJ2 63 "java/lang/StringUTF16" "LO_BYTE_SHIFT" "I", Cond.methodLink RJ2 232 yJ2_indexOfSupplementary_4cfef, Cond.static yJ2_indexOfSupplementary_4cfef, Cond.code yJ2_indexOfSupplementary_4cfef cJ2_indexOfSupplementary_4cfef 7 (some .int), Cond.methodLink RJ2 164 yJ11_isValidCodePoint_9a6ad, Cond.static yJ11_isValidCodePoint_9a6ad, Cond.initialized RJ11, Cond.code yJ11_isValidCodePoint_9a6ad cJ11_isValidCodePoint_9a6ad 2 (some .boolean), Cond.methodLink RJ2 157 yJ11_highSurrogate_5068e, Cond.static yJ11_highSurrogate_5068e, Cond.code yJ11_highSurrogate_5068e cJ11_highSurrogate_5068e 1 (some .char), Cond.constant RJ11 110 (55232)]
noncomputable def wsX10_fault_r5 : List Cond := [Cond.methodLink RJ2 161 yJ11_lowSurrogate_5068e, Cond.static yJ11_lowSurrogate_5068e, Cond.code yJ11_lowSurrogate_5068e cJ11_lowSurrogate_5068e 1 (some .char), Cond.constant RJ11 76 (56320), Cond.methodLink RX4 35 yX4_isMarkBehind, Cond.static yX4_isMarkBehind, Cond.code yX4_isMarkBehind cX4_isMarkBehind 2 (some .boolean)]
noncomputable def wsX10_fault : List Cond := .code yX10_fault cX10_fault 1 (some .int) :: ((wsX10_fault_r1 ++ (wsX10_fault_r2 ++ (wsX10_fault_r3 ++ (wsX10_fault_r4 ++ wsX10_fault_r5)))) ++ wsX100 ++ wsX40)
noncomputable def wsX10_round_r1 : List Cond := [Cond.fieldLink RX10 10 "MilkRound" "page" "LMilkRound$Page;", Cond.fieldLink RX10 19 "MilkRound" "street" "LMilkRound$Street;", Cond.fieldLink RX10 26 "MilkRound" "now" "LMilkRound$Course;", Cond.fieldLink RX10 89 "MilkRound$Street" "size" "I", Cond.fieldLink RX10 74 "MilkRound$Page" "size" "I", Cond.fieldLink RX10 59 "MilkRound" "hasImage" "Z", Cond.fieldLink RX10 63 "MilkRound" "roundsRead" "I", Cond.methodLink RX10 81 yX4_isWhole, Cond.instanceMethod yX4_isWhole, Cond.selects RX4 yX4_isWhole yX4_isWhole, Cond.initialized RX4, Cond.code yX4_isWhole cX4_isWhole 1 (some .boolean), Cond.fieldLink RX4 15 "MilkRound$Page" "size" "I", Cond.fieldLink RX4 11 "MilkRound$Page" "signs" "[C", Cond.methodLink RX4 23 yX4_firstFault, Cond.instanceMethod yX4_firstFault, Cond.selects RX4 yX4_firstFault yX4_firstFault, Cond.code yX4_firstFault cX4_firstFault 3 (some .int), Cond.methodLink RX4 19 yX4_fits, Cond.static yX4_fits, Cond.code yX4_fits cX4_fits 4 (some .boolean), Cond.methodLink RX4 29 yJ0_indexOf_0f7a4, Cond.instanceMethod yJ0_indexOf_0f7a4, Cond.selects RJ0 yJ0_indexOf_0f7a4 yJ0_indexOf_0f7a4]
noncomputable def wsX10_round_r2 : List Cond := [Cond.initialized RJ0, Cond.code yJ0_indexOf_0f7a4 cJ0_indexOf_0f7a4 2 (some .int), Cond.methodLink RJ0 633 yJ0_indexOf_7cf53, Cond.instanceMethod yJ0_indexOf_7cf53, Cond.selects RJ0 yJ0_indexOf_7cf53 yJ0_indexOf_7cf53, Cond.code yJ0_indexOf_7cf53 cJ0_indexOf_7cf53 3 (some .int), Cond.fieldLink RJ0 9 "java/lang/String" "value" "[B", Cond.methodLink RJ0 492 yJ0_isLatin1_aae02, Cond.instanceMethod yJ0_isLatin1_aae02, Cond.selects RJ0 yJ0_isLatin1_aae02 yJ0_isLatin1_aae02, Cond.code yJ0_isLatin1_aae02 cJ0_isLatin1_aae02 1 (some .boolean), Cond.fieldLink RJ0 38 "java/lang/String" "COMPACT_STRINGS" "Z", Cond.fieldLink RJ0 15 "java/lang/String" "coder" "B", Cond.methodLink RJ0 505 yJ0_length_8abf5, Cond.instanceMethod yJ0_length_8abf5, Cond.selects RJ0 yJ0_length_8abf5 yJ0_length_8abf5, Cond.code yJ0_length_8abf5 cJ0_length_8abf5 1 (some .int), Cond.methodLink RJ0 335 yJ0_coder_7d493, Cond.instanceMethod yJ0_coder_7d493, Cond.selects RJ0 yJ0_coder_7d493 yJ0_coder_7d493, Cond.code yJ0_coder_7d493 cJ0_coder_7d493 1 (some .byte), Cond.methodLink RJ0 637 yJ1_indexOf_4cfef, Cond.static yJ1_indexOf_4cfef, Cond.initialized RJ1]
noncomputable def wsX10_round_r3 : List Cond := [Cond.code yJ1_indexOf_4cfef cJ1_indexOf_4cfef 4 (some .int), Cond.methodLink RJ1 92 Lib.Math.max.name, Cond.static Lib.Math.max.name, Cond.initialized "java/lang/Math", Cond.code Lib.Math.max.name Lib.Math.max.code 2 (some .int), Cond.methodLink RJ1 38 Lib.Math.min.name, Cond.static Lib.Math.min.name, Cond.code Lib.Math.min.name Lib.Math.min.code 2 (some .int), Cond.methodLink RJ1 88 yJ1_canEncode_9a6ad, Cond.static yJ1_canEncode_9a6ad, Cond.code yJ1_canEncode_9a6ad cJ1_canEncode_9a6ad 1 (some .boolean), Cond.methodLink RJ1 95 yJ1_indexOfChar_4cfef, Cond.static yJ1_indexOfChar_4cfef, Cond.code yJ1_indexOfChar_4cfef cJ1_indexOfChar_4cfef 6 (some .int), Cond.methodLink RJ0 640 yJ2_indexOf_4cfef, Cond.static yJ2_indexOf_4cfef, Cond.initialized RJ2, Cond.code yJ2_indexOf_4cfef cJ2_indexOf_4cfef 4 (some .int), Cond.methodLink RJ2 224 Lib.Math.max.name, Cond.methodLink RJ2 183 Lib.Math.min.name, Cond.constant RJ2 227 (65536), Cond.methodLink RJ2 228 yJ2_indexOfChar_4cfef, Cond.static yJ2_indexOfChar_4cfef, Cond.code yJ2_indexOfChar_4cfef cJ2_indexOfChar_4cfef 4 (some .int)]
noncomputable def wsX10_round_r4 : List Cond := [Cond.methodLink RJ2 96 yJ2_checkBoundsBeginEnd_d044e, Cond.static yJ2_checkBoundsBeginEnd_d044e, Cond.code yJ2_checkBoundsBeginEnd_d044e cJ2_checkBoundsBeginEnd_d044e 3 none, Cond.methodLink RJ2 48 yJ2_length_9d52b, Cond.static yJ2_length_9d52b, Cond.code yJ2_length_9d52b cJ2_length_9d52b 1 (some .int), Cond.methodLink RJ2 241 yJ0_checkBoundsBeginEnd_23922, Cond.static yJ0_checkBoundsBeginEnd_23922, Cond.code yJ0_checkBoundsBeginEnd_23922 cJ0_checkBoundsBeginEnd_23922 3 none, Cond.fieldLink RJ0 1053 "jdk/internal/util/Preconditions" "SIOOBE_FORMATTER" "Ljava/util/function/BiFunction;", Cond.methodLink RJ0 1062 yJ3_checkFromToIndex_8c36e, Cond.static yJ3_checkFromToIndex_8c36e, Cond.initialized RJ3, Cond.code yJ3_checkFromToIndex_8c36e cJ3_checkFromToIndex_8c36e 4 (some .int), Cond.methodLink RJ2 244 yJ2_indexOfCharUnsafe_4cfef, Cond.static yJ2_indexOfCharUnsafe_4cfef, Cond.code yJ2_indexOfCharUnsafe_4cfef cJ2_indexOfCharUnsafe_4cfef 5 (some .int), Cond.methodLink RJ2 71 yJ2_getChar_3b067, Cond.static yJ2_getChar_3b067, Cond.code yJ2_getChar_3b067 cJ2_getChar_3b067 2 (some .char), Cond.fieldLink RJ2 44 "java/lang/StringUTF16" "$assertionsDisabled" "Z", Cond.fieldLink RJ2 59 "java/lang/StringUTF16" "HI_BYTE_SHIFT" "I", Cond.fieldLink RJ2 63 "java/lang/StringUTF16" "LO_BYTE_SHIFT" "I", Cond.methodLink RJ2 232 yJ2_indexOfSupplementary_4cfef]
noncomputable def wsX10_round_r5 : List Cond := [Cond.static yJ2_indexOfSupplementary_4cfef, Cond.code yJ2_indexOfSupplementary_4cfef cJ2_indexOfSupplementary_4cfef 7 (some .int), Cond.methodLink RJ2 164 yJ11_isValidCodePoint_9a6ad, Cond.static yJ11_isValidCodePoint_9a6ad, Cond.initialized RJ11, Cond.code yJ11_isValidCodePoint_9a6ad cJ11_isValidCodePoint_9a6ad 2 (some .boolean), Cond.methodLink RJ2 157 yJ11_highSurrogate_5068e, Cond.static yJ11_highSurrogate_5068e, Cond.code yJ11_highSurrogate_5068e cJ11_highSurrogate_5068e 1 (some .char), Cond.constant RJ11 110 (55232), Cond.methodLink RJ2 161 yJ11_lowSurrogate_5068e, Cond.static yJ11_lowSurrogate_5068e, Cond.code yJ11_lowSurrogate_5068e cJ11_lowSurrogate_5068e 1 (some .char), Cond.constant RJ11 76 (56320), Cond.methodLink RX4 35 yX4_isMarkBehind, Cond.static yX4_isMarkBehind, Cond.code yX4_isMarkBehind cX4_isMarkBehind 2 (some .boolean), Cond.methodLink RX10 85 yX6_settle, Cond.instanceMethod yX6_settle, Cond.selects RX6 yX6_settle yX6_settle, Cond.initialized RX6, Cond.code yX6_settle cX6_settle 3 none, Cond.fieldLink RX6 44 "MilkRound$Street" "size" "I", Cond.fieldLink RX6 48 "MilkRound$Street" "keep" "I"]
noncomputable def wsX10_round_r6 : List Cond := [Cond.fieldLink RX6 40 "MilkRound$Street" "houses" "[LMilkRound$House;", Cond.methodLink RX6 51 yX4_houses, Cond.instanceMethod yX4_houses, Cond.selects RX4 yX4_houses yX4_houses, Cond.code yX4_houses cX4_houses 1 (some .int), Cond.methodLink RX6 56 yX4_keepAtEnd, Cond.instanceMethod yX4_keepAtEnd, Cond.selects RX4 yX4_keepAtEnd yX4_keepAtEnd, Cond.code yX4_keepAtEnd cX4_keepAtEnd 1 (some .int), Cond.methodLink RX6 59 yX4_kindSignAt, Cond.instanceMethod yX4_kindSignAt, Cond.selects RX4 yX4_kindSignAt yX4_kindSignAt, Cond.code yX4_kindSignAt cX4_kindSignAt 2 (some .char), Cond.methodLink RX6 63 yX6_houseOf, Cond.instanceMethod yX6_houseOf, Cond.selects RX6 yX6_houseOf yX6_houseOf, Cond.code yX6_houseOf cX6_houseOf 2 (some (.object "MilkRound$House")), Cond.fieldLink RX6 19 "MilkRound$Street" "sea" "LMilkRound$House;", Cond.fieldLink RX6 25 "MilkRound$Street" "alone" "LMilkRound$House;", Cond.fieldLink RX6 31 "MilkRound$Street" "bad" "LMilkRound$House;", Cond.fieldLink RX6 37 "MilkRound$Street" "war" "LMilkRound$House;", Cond.fieldLink RX6 10 "MilkRound$Street" "plain" "LMilkRound$House;", Cond.methodLink RX10 90 yX2_begin, Cond.instanceMethod yX2_begin]
noncomputable def wsX10_round_r7 : List Cond := [Cond.selects RX2 yX2_begin yX2_begin, Cond.initialized RX2, Cond.code yX2_begin cX2_begin 4 none, Cond.fieldLink RX2 9 "MilkRound$Course" "lengths" "[I", Cond.fieldLink RX2 15 "MilkRound$Course" "order" "[I", Cond.fieldLink RX2 24 "MilkRound$Course" "knownSize" "I", Cond.fieldLink RX2 28 "MilkRound$Course" "leftOut" "I", Cond.fieldLink RX2 31 "MilkRound$Course" "days" "I", Cond.fieldLink RX2 34 "MilkRound$Course" "soured" "I", Cond.fieldLink RX2 37 "MilkRound$Course" "heard" "I", Cond.methodLink RX2 40 yX4_lengthAt, Cond.instanceMethod yX4_lengthAt, Cond.selects RX4 yX4_lengthAt yX4_lengthAt, Cond.code yX4_lengthAt cX4_lengthAt 2 (some .int)]
noncomputable def wsX10_round : List Cond := .code yX10_round cX10_round 1 (some .int) :: ((wsX10_round_r1 ++ (wsX10_round_r2 ++ (wsX10_round_r3 ++ (wsX10_round_r4 ++ (wsX10_round_r5 ++ (wsX10_round_r6 ++ wsX10_round_r7)))))) ++ wsX100 ++ wsX60 ++ wsX40 ++ wsX20)
noncomputable def wsX10_walkAsItIs_r1 : List Cond := [Cond.fieldLink RX10 38 "MilkRound" "walk" "LMilkRound$Walk;", Cond.fieldLink RX10 26 "MilkRound" "now" "LMilkRound$Course;", Cond.fieldLink RX10 110 "MilkRound$Course" "lengths" "[I", Cond.fieldLink RX10 123 "MilkRound$Course" "order" "[I", Cond.fieldLink RX10 113 "MilkRound$Course" "leftOut" "I", Cond.methodLink RX10 178 yX8_go, Cond.instanceMethod yX8_go, Cond.selects RX8 yX8_go yX8_go, Cond.initialized RX8, Cond.code yX8_go cX8_go 7 none, Cond.fieldLink RX8 19 "MilkRound$Walk" "street" "LMilkRound$Street;", Cond.fieldLink RX8 23 "MilkRound$Street" "size" "I", Cond.fieldLink RX8 9 "MilkRound$Walk" "came" "[I", Cond.fieldLink RX8 15 "MilkRound$Walk" "minutesOfAll" "I", Cond.methodLink RX8 28 yX6_has, Cond.instanceMethod yX6_has, Cond.selects RX6 yX6_has yX6_has, Cond.initialized RX6, Cond.code yX6_has cX6_has 2 (some .boolean), Cond.fieldLink RX6 44 "MilkRound$Street" "size" "I", Cond.methodLink RX8 32 yX6_reading, Cond.instanceMethod yX6_reading, Cond.selects RX6 yX6_reading yX6_reading, Cond.code yX6_reading cX6_reading 5 (some .int)]
noncomputable def wsX10_walkAsItIs_r2 : List Cond := [Cond.fieldLink RX6 40 "MilkRound$Street" "houses" "[LMilkRound$House;", Cond.methodLink RX6 67 ⟨"MilkRound$House", "minutesFor", "(I)I"⟩, Cond.sameMethod "MilkRound$House" "MilkRound$House" "minutesFor" "(I)I", Cond.instanceMethod ⟨"MilkRound$House", "minutesFor", "(I)I"⟩, Cond.selects RX0 ⟨"MilkRound$House", "minutesFor", "(I)I"⟩ yX0_minutesFor, Cond.instanceMethod yX0_minutesFor, Cond.initialized RX0, Cond.code yX0_minutesFor cX0_minutesFor 2 (some .int), Cond.code yX3_minutesFor cX3_minutesFor 2 (some .int), Cond.selects RX1 ⟨"MilkRound$House", "minutesFor", "(I)I"⟩ yX1_minutesFor, Cond.instanceMethod yX1_minutesFor, Cond.initialized RX1, Cond.code yX1_minutesFor cX1_minutesFor 2 (some .int), Cond.methodLink RX6 67 yX3_minutesFor, Cond.instanceMethod yX3_minutesFor, Cond.selects RX3 yX3_minutesFor yX3_minutesFor, Cond.initialized RX3, Cond.selects RX5 ⟨"MilkRound$House", "minutesFor", "(I)I"⟩ yX5_minutesFor, Cond.instanceMethod yX5_minutesFor, Cond.initialized RX5, Cond.code yX5_minutesFor cX5_minutesFor 2 (some .int), Cond.selects RX9 ⟨"MilkRound$House", "minutesFor", "(I)I"⟩ yX9_minutesFor, Cond.instanceMethod yX9_minutesFor, Cond.initialized RX9]
noncomputable def wsX10_walkAsItIs_r3 : List Cond := [Cond.code yX9_minutesFor cX9_minutesFor 2 (some .int), Cond.methodLink RX9 7 yX5_minutesFor, Cond.sameMethod "MilkRound$Sea" "MilkRound$Sea" "minutesFor" "(I)I", Cond.superclass RX9 RX5, Cond.static yX10_bitOf, Cond.initialized RX10, Cond.code yX10_bitOf cX10_bitOf 2 (some .int)]
noncomputable def wsX10_walkAsItIs : List Cond := .code yX10_walkAsItIs cX10_walkAsItIs 1 none :: ((wsX10_walkAsItIs_r1 ++ (wsX10_walkAsItIs_r2 ++ wsX10_walkAsItIs_r3)) ++ wsX100 ++ wsX20 ++ wsX80 ++ wsX60)
noncomputable def wsX10_longestHarmless_r1 : List Cond := [Cond.fieldLink RX10 26 "MilkRound" "now" "LMilkRound$Course;", Cond.fieldLink RX10 110 "MilkRound$Course" "lengths" "[I", Cond.fieldLink RX10 42 "MilkRound" "trialLengths" "[I", Cond.methodLink RX10 230 arraycopyName, Cond.native arraycopyName, Cond.static arraycopyName, Cond.initialized "java/lang/System", Cond.fieldLink RX10 38 "MilkRound" "walk" "LMilkRound$Walk;", Cond.fieldLink RX10 123 "MilkRound$Course" "order" "[I", Cond.fieldLink RX10 113 "MilkRound$Course" "leftOut" "I", Cond.methodLink RX10 178 yX8_go, Cond.instanceMethod yX8_go, Cond.selects RX8 yX8_go yX8_go, Cond.initialized RX8, Cond.code yX8_go cX8_go 7 none, Cond.fieldLink RX8 19 "MilkRound$Walk" "street" "LMilkRound$Street;", Cond.fieldLink RX8 23 "MilkRound$Street" "size" "I", Cond.fieldLink RX8 9 "MilkRound$Walk" "came" "[I", Cond.fieldLink RX8 15 "MilkRound$Walk" "minutesOfAll" "I", Cond.methodLink RX8 28 yX6_has, Cond.instanceMethod yX6_has, Cond.selects RX6 yX6_has yX6_has, Cond.initialized RX6, Cond.code yX6_has cX6_has 2 (some .boolean)]
noncomputable def wsX10_longestHarmless_r2 : List Cond := [Cond.fieldLink RX6 44 "MilkRound$Street" "size" "I", Cond.methodLink RX8 32 yX6_reading, Cond.instanceMethod yX6_reading, Cond.selects RX6 yX6_reading yX6_reading, Cond.code yX6_reading cX6_reading 5 (some .int), Cond.fieldLink RX6 40 "MilkRound$Street" "houses" "[LMilkRound$House;", Cond.methodLink RX6 67 ⟨"MilkRound$House", "minutesFor", "(I)I"⟩, Cond.sameMethod "MilkRound$House" "MilkRound$House" "minutesFor" "(I)I", Cond.instanceMethod ⟨"MilkRound$House", "minutesFor", "(I)I"⟩, Cond.selects RX0 ⟨"MilkRound$House", "minutesFor", "(I)I"⟩ yX0_minutesFor, Cond.instanceMethod yX0_minutesFor, Cond.initialized RX0, Cond.code yX0_minutesFor cX0_minutesFor 2 (some .int), Cond.code yX3_minutesFor cX3_minutesFor 2 (some .int), Cond.selects RX1 ⟨"MilkRound$House", "minutesFor", "(I)I"⟩ yX1_minutesFor, Cond.instanceMethod yX1_minutesFor, Cond.initialized RX1, Cond.code yX1_minutesFor cX1_minutesFor 2 (some .int), Cond.methodLink RX6 67 yX3_minutesFor, Cond.instanceMethod yX3_minutesFor, Cond.selects RX3 yX3_minutesFor yX3_minutesFor, Cond.initialized RX3, Cond.selects RX5 ⟨"MilkRound$House", "minutesFor", "(I)I"⟩ yX5_minutesFor, Cond.instanceMethod yX5_minutesFor]
noncomputable def wsX10_longestHarmless_r3 : List Cond := [Cond.initialized RX5, Cond.code yX5_minutesFor cX5_minutesFor 2 (some .int), Cond.selects RX9 ⟨"MilkRound$House", "minutesFor", "(I)I"⟩ yX9_minutesFor, Cond.instanceMethod yX9_minutesFor, Cond.initialized RX9, Cond.code yX9_minutesFor cX9_minutesFor 2 (some .int), Cond.methodLink RX9 7 yX5_minutesFor, Cond.sameMethod "MilkRound$Sea" "MilkRound$Sea" "minutesFor" "(I)I", Cond.superclass RX9 RX5, Cond.static yX10_bitOf, Cond.initialized RX10, Cond.code yX10_bitOf cX10_bitOf 2 (some .int), Cond.methodLink RX10 236 yX8_wrongs, Cond.instanceMethod yX8_wrongs, Cond.selects RX8 yX8_wrongs yX8_wrongs, Cond.code yX8_wrongs cX8_wrongs 1 (some .int), Cond.methodLink RX8 63 yX8_sourHouses, Cond.instanceMethod yX8_sourHouses, Cond.selects RX8 yX8_sourHouses yX8_sourHouses, Cond.code yX8_sourHouses cX8_sourHouses 3 (some .int), Cond.methodLink RX8 57 yX8_isSour, Cond.instanceMethod yX8_isSour, Cond.selects RX8 yX8_isSour yX8_isSour, Cond.code yX8_isSour cX8_isSour 2 (some .boolean)]
noncomputable def wsX10_longestHarmless_r4 : List Cond := [Cond.fieldLink RX8 36 "MilkRound$Street" "houses" "[LMilkRound$House;", Cond.fieldLink RX8 46 "MilkRound$Street" "keep" "I", Cond.methodLink RX8 40 ⟨"MilkRound$House", "timesKeep", "()I"⟩, Cond.sameMethod "MilkRound$House" "MilkRound$House" "timesKeep" "()I", Cond.instanceMethod ⟨"MilkRound$House", "timesKeep", "()I"⟩, Cond.selects RX0 ⟨"MilkRound$House", "timesKeep", "()I"⟩ yX0_timesKeep, Cond.instanceMethod yX0_timesKeep, Cond.code yX0_timesKeep cX0_timesKeep 1 (some .int), Cond.code yX3_timesKeep cX3_timesKeep 1 (some .int), Cond.selects RX1 ⟨"MilkRound$House", "timesKeep", "()I"⟩ yX3_timesKeep, Cond.instanceMethod yX3_timesKeep, Cond.methodLink RX8 40 yX3_timesKeep, Cond.selects RX3 yX3_timesKeep yX3_timesKeep, Cond.selects RX5 ⟨"MilkRound$House", "timesKeep", "()I"⟩ yX3_timesKeep, Cond.selects RX9 ⟨"MilkRound$House", "timesKeep", "()I"⟩ yX3_timesKeep, Cond.methodLink RX8 66 yX8_hearingHouses, Cond.instanceMethod yX8_hearingHouses, Cond.selects RX8 yX8_hearingHouses yX8_hearingHouses, Cond.code yX8_hearingHouses cX8_hearingHouses 3 (some .int), Cond.methodLink RX8 60 yX8_hears, Cond.instanceMethod yX8_hears, Cond.selects RX8 yX8_hears yX8_hears, Cond.code yX8_hears cX8_hears 2 (some .boolean), Cond.methodLink RX8 49 ⟨"MilkRound$House", "listens", "()Z"⟩]
noncomputable def wsX10_longestHarmless_r5 : List Cond := [Cond.sameMethod "MilkRound$House" "MilkRound$House" "listens" "()Z", Cond.instanceMethod ⟨"MilkRound$House", "listens", "()Z"⟩, Cond.selects RX0 ⟨"MilkRound$House", "listens", "()Z"⟩ yX0_listens, Cond.instanceMethod yX0_listens, Cond.code yX0_listens cX0_listens 1 (some .boolean), Cond.code yX3_listens cX3_listens 1 (some .boolean), Cond.selects RX1 ⟨"MilkRound$House", "listens", "()Z"⟩ yX3_listens, Cond.instanceMethod yX3_listens, Cond.methodLink RX8 49 yX3_listens, Cond.selects RX3 yX3_listens yX3_listens, Cond.selects RX5 ⟨"MilkRound$House", "listens", "()Z"⟩ yX3_listens, Cond.selects RX9 ⟨"MilkRound$House", "listens", "()Z"⟩ yX3_listens, Cond.methodLink RX8 53 yX8_isAhead, Cond.instanceMethod yX8_isAhead, Cond.selects RX8 yX8_isAhead yX8_isAhead, Cond.code yX8_isAhead cX8_isAhead 3 (some .boolean)]
noncomputable def wsX10_longestHarmless : List Cond := .code yX10_longestHarmless cX10_longestHarmless 4 (some .int) :: ((wsX10_longestHarmless_r1 ++ (wsX10_longestHarmless_r2 ++ (wsX10_longestHarmless_r3 ++ (wsX10_longestHarmless_r4 ++ wsX10_longestHarmless_r5)))) ++ wsX100 ++ wsX20 ++ wsX80 ++ wsX60)
noncomputable def wsX10_toldOfHouse_r1 : List Cond := [Cond.fieldLink RX10 19 "MilkRound" "street" "LMilkRound$Street;", Cond.fieldLink RX10 102 "MilkRound$Street" "houses" "[LMilkRound$House;", Cond.fieldLink RX10 26 "MilkRound" "now" "LMilkRound$Course;", Cond.fieldLink RX10 110 "MilkRound$Course" "lengths" "[I", Cond.fieldLink RX10 113 "MilkRound$Course" "leftOut" "I", Cond.fieldLink RX10 38 "MilkRound" "walk" "LMilkRound$Walk;", Cond.fieldLink RX10 204 "MilkRound$Walk" "came" "[I", Cond.methodLink RX10 133 yX10_walkAsItIs, Cond.instanceMethod yX10_walkAsItIs, Cond.selects RX10 yX10_walkAsItIs yX10_walkAsItIs, Cond.initialized RX10, Cond.code yX10_walkAsItIs cX10_walkAsItIs 1 none, Cond.fieldLink RX10 123 "MilkRound$Course" "order" "[I", Cond.methodLink RX10 178 yX8_go, Cond.instanceMethod yX8_go, Cond.selects RX8 yX8_go yX8_go, Cond.initialized RX8, Cond.code yX8_go cX8_go 7 none, Cond.fieldLink RX8 19 "MilkRound$Walk" "street" "LMilkRound$Street;", Cond.fieldLink RX8 23 "MilkRound$Street" "size" "I", Cond.fieldLink RX8 9 "MilkRound$Walk" "came" "[I", Cond.fieldLink RX8 15 "MilkRound$Walk" "minutesOfAll" "I", Cond.methodLink RX8 28 yX6_has, Cond.instanceMethod yX6_has]
noncomputable def wsX10_toldOfHouse_r2 : List Cond := [Cond.selects RX6 yX6_has yX6_has, Cond.initialized RX6, Cond.code yX6_has cX6_has 2 (some .boolean), Cond.fieldLink RX6 44 "MilkRound$Street" "size" "I", Cond.methodLink RX8 32 yX6_reading, Cond.instanceMethod yX6_reading, Cond.selects RX6 yX6_reading yX6_reading, Cond.code yX6_reading cX6_reading 5 (some .int), Cond.fieldLink RX6 40 "MilkRound$Street" "houses" "[LMilkRound$House;", Cond.methodLink RX6 67 ⟨"MilkRound$House", "minutesFor", "(I)I"⟩, Cond.sameMethod "MilkRound$House" "MilkRound$House" "minutesFor" "(I)I", Cond.instanceMethod ⟨"MilkRound$House", "minutesFor", "(I)I"⟩, Cond.selects RX0 ⟨"MilkRound$House", "minutesFor", "(I)I"⟩ yX0_minutesFor, Cond.instanceMethod yX0_minutesFor, Cond.initialized RX0, Cond.code yX0_minutesFor cX0_minutesFor 2 (some .int), Cond.code yX3_minutesFor cX3_minutesFor 2 (some .int), Cond.selects RX1 ⟨"MilkRound$House", "minutesFor", "(I)I"⟩ yX1_minutesFor, Cond.instanceMethod yX1_minutesFor, Cond.initialized RX1, Cond.code yX1_minutesFor cX1_minutesFor 2 (some .int), Cond.methodLink RX6 67 yX3_minutesFor, Cond.instanceMethod yX3_minutesFor, Cond.selects RX3 yX3_minutesFor yX3_minutesFor]
noncomputable def wsX10_toldOfHouse_r3 : List Cond := [Cond.initialized RX3, Cond.selects RX5 ⟨"MilkRound$House", "minutesFor", "(I)I"⟩ yX5_minutesFor, Cond.instanceMethod yX5_minutesFor, Cond.initialized RX5, Cond.code yX5_minutesFor cX5_minutesFor 2 (some .int), Cond.selects RX9 ⟨"MilkRound$House", "minutesFor", "(I)I"⟩ yX9_minutesFor, Cond.instanceMethod yX9_minutesFor, Cond.initialized RX9, Cond.code yX9_minutesFor cX9_minutesFor 2 (some .int), Cond.methodLink RX9 7 yX5_minutesFor, Cond.sameMethod "MilkRound$Sea" "MilkRound$Sea" "minutesFor" "(I)I", Cond.superclass RX9 RX5, Cond.static yX10_bitOf, Cond.code yX10_bitOf cX10_bitOf 2 (some .int), Cond.methodLink RX10 197 ⟨"MilkRound$House", "kind", "()I"⟩, Cond.sameMethod "MilkRound$House" "MilkRound$House" "kind" "()I", Cond.instanceMethod ⟨"MilkRound$House", "kind", "()I"⟩, Cond.selects RX0 ⟨"MilkRound$House", "kind", "()I"⟩ yX0_kind, Cond.instanceMethod yX0_kind, Cond.code yX0_kind cX0_kind 1 (some .int), Cond.code yX3_kind cX3_kind 1 (some .int), Cond.selects RX1 ⟨"MilkRound$House", "kind", "()I"⟩ yX1_kind, Cond.instanceMethod yX1_kind, Cond.code yX1_kind cX1_kind 1 (some .int)]
noncomputable def wsX10_toldOfHouse_r4 : List Cond := [Cond.methodLink RX10 197 yX3_kind, Cond.instanceMethod yX3_kind, Cond.selects RX3 yX3_kind yX3_kind, Cond.selects RX5 ⟨"MilkRound$House", "kind", "()I"⟩ yX5_kind, Cond.instanceMethod yX5_kind, Cond.code yX5_kind cX5_kind 1 (some .int), Cond.selects RX9 ⟨"MilkRound$House", "kind", "()I"⟩ yX9_kind, Cond.instanceMethod yX9_kind, Cond.code yX9_kind cX9_kind 1 (some .int), Cond.methodLink RX10 116 yX10_bitOf, Cond.methodLink RX10 200 yX6_reading, Cond.methodLink RX10 119 yX2_placeOf, Cond.instanceMethod yX2_placeOf, Cond.selects RX2 yX2_placeOf yX2_placeOf, Cond.initialized RX2, Cond.code yX2_placeOf cX2_placeOf 3 (some .int), Cond.fieldLink RX2 15 "MilkRound$Course" "order" "[I", Cond.methodLink RX10 207 yX8_isSour, Cond.instanceMethod yX8_isSour, Cond.selects RX8 yX8_isSour yX8_isSour, Cond.code yX8_isSour cX8_isSour 2 (some .boolean), Cond.fieldLink RX8 36 "MilkRound$Street" "houses" "[LMilkRound$House;", Cond.fieldLink RX8 46 "MilkRound$Street" "keep" "I", Cond.methodLink RX8 40 ⟨"MilkRound$House", "timesKeep", "()I"⟩]
noncomputable def wsX10_toldOfHouse_r5 : List Cond := [Cond.sameMethod "MilkRound$House" "MilkRound$House" "timesKeep" "()I", Cond.instanceMethod ⟨"MilkRound$House", "timesKeep", "()I"⟩, Cond.selects RX0 ⟨"MilkRound$House", "timesKeep", "()I"⟩ yX0_timesKeep, Cond.instanceMethod yX0_timesKeep, Cond.code yX0_timesKeep cX0_timesKeep 1 (some .int), Cond.code yX3_timesKeep cX3_timesKeep 1 (some .int), Cond.selects RX1 ⟨"MilkRound$House", "timesKeep", "()I"⟩ yX3_timesKeep, Cond.instanceMethod yX3_timesKeep, Cond.methodLink RX8 40 yX3_timesKeep, Cond.selects RX3 yX3_timesKeep yX3_timesKeep, Cond.selects RX5 ⟨"MilkRound$House", "timesKeep", "()I"⟩ yX3_timesKeep, Cond.selects RX9 ⟨"MilkRound$House", "timesKeep", "()I"⟩ yX3_timesKeep, Cond.methodLink RX10 210 yX8_hears, Cond.instanceMethod yX8_hears, Cond.selects RX8 yX8_hears yX8_hears, Cond.code yX8_hears cX8_hears 2 (some .boolean), Cond.methodLink RX8 49 ⟨"MilkRound$House", "listens", "()Z"⟩, Cond.sameMethod "MilkRound$House" "MilkRound$House" "listens" "()Z", Cond.instanceMethod ⟨"MilkRound$House", "listens", "()Z"⟩, Cond.selects RX0 ⟨"MilkRound$House", "listens", "()Z"⟩ yX0_listens, Cond.instanceMethod yX0_listens, Cond.code yX0_listens cX0_listens 1 (some .boolean), Cond.code yX3_listens cX3_listens 1 (some .boolean), Cond.selects RX1 ⟨"MilkRound$House", "listens", "()Z"⟩ yX3_listens]
noncomputable def wsX10_toldOfHouse_r6 : List Cond := [Cond.instanceMethod yX3_listens, Cond.methodLink RX8 49 yX3_listens, Cond.selects RX3 yX3_listens yX3_listens, Cond.selects RX5 ⟨"MilkRound$House", "listens", "()Z"⟩ yX3_listens, Cond.selects RX9 ⟨"MilkRound$House", "listens", "()Z"⟩ yX3_listens, Cond.methodLink RX8 53 yX8_isAhead, Cond.instanceMethod yX8_isAhead, Cond.selects RX8 yX8_isAhead yX8_isAhead, Cond.code yX8_isAhead cX8_isAhead 3 (some .boolean), Cond.methodLink RX10 213 yX10_longestHarmless, Cond.instanceMethod yX10_longestHarmless, Cond.selects RX10 yX10_longestHarmless yX10_longestHarmless, Cond.code yX10_longestHarmless cX10_longestHarmless 4 (some .int), Cond.fieldLink RX10 42 "MilkRound" "trialLengths" "[I", Cond.methodLink RX10 230 arraycopyName, Cond.native arraycopyName, Cond.static arraycopyName, Cond.initialized "java/lang/System", Cond.methodLink RX10 236 yX8_wrongs, Cond.instanceMethod yX8_wrongs, Cond.selects RX8 yX8_wrongs yX8_wrongs, Cond.code yX8_wrongs cX8_wrongs 1 (some .int), Cond.methodLink RX8 63 yX8_sourHouses, Cond.instanceMethod yX8_sourHouses]
noncomputable def wsX10_toldOfHouse_r7 : List Cond := [Cond.selects RX8 yX8_sourHouses yX8_sourHouses, Cond.code yX8_sourHouses cX8_sourHouses 3 (some .int), Cond.methodLink RX8 57 yX8_isSour, Cond.methodLink RX8 66 yX8_hearingHouses, Cond.instanceMethod yX8_hearingHouses, Cond.selects RX8 yX8_hearingHouses yX8_hearingHouses, Cond.code yX8_hearingHouses cX8_hearingHouses 3 (some .int), Cond.methodLink RX8 60 yX8_hears]
noncomputable def wsX10_toldOfHouse : List Cond := .code yX10_toldOfHouse cX10_toldOfHouse 3 (some .int) :: ((wsX10_toldOfHouse_r1 ++ (wsX10_toldOfHouse_r2 ++ (wsX10_toldOfHouse_r3 ++ (wsX10_toldOfHouse_r4 ++ (wsX10_toldOfHouse_r5 ++ (wsX10_toldOfHouse_r6 ++ wsX10_toldOfHouse_r7)))))) ++ wsX100 ++ wsX60 ++ wsX20 ++ wsX80)
noncomputable def wsX10_about_r1 : List Cond := [Cond.fieldLink RX10 19 "MilkRound" "street" "LMilkRound$Street;", Cond.methodLink RX10 94 yX6_has, Cond.instanceMethod yX6_has, Cond.selects RX6 yX6_has yX6_has, Cond.initialized RX6, Cond.code yX6_has cX6_has 2 (some .boolean), Cond.fieldLink RX6 44 "MilkRound$Street" "size" "I", Cond.methodLink RX10 98 yX10_toldOfHouse, Cond.instanceMethod yX10_toldOfHouse, Cond.selects RX10 yX10_toldOfHouse yX10_toldOfHouse, Cond.initialized RX10, Cond.code yX10_toldOfHouse cX10_toldOfHouse 3 (some .int), Cond.fieldLink RX10 102 "MilkRound$Street" "houses" "[LMilkRound$House;", Cond.fieldLink RX10 26 "MilkRound" "now" "LMilkRound$Course;", Cond.fieldLink RX10 110 "MilkRound$Course" "lengths" "[I", Cond.fieldLink RX10 113 "MilkRound$Course" "leftOut" "I", Cond.fieldLink RX10 38 "MilkRound" "walk" "LMilkRound$Walk;", Cond.fieldLink RX10 204 "MilkRound$Walk" "came" "[I", Cond.methodLink RX10 133 yX10_walkAsItIs, Cond.instanceMethod yX10_walkAsItIs, Cond.selects RX10 yX10_walkAsItIs yX10_walkAsItIs, Cond.code yX10_walkAsItIs cX10_walkAsItIs 1 none, Cond.fieldLink RX10 123 "MilkRound$Course" "order" "[I", Cond.methodLink RX10 178 yX8_go]
noncomputable def wsX10_about_r2 : List Cond := [Cond.instanceMethod yX8_go, Cond.selects RX8 yX8_go yX8_go, Cond.initialized RX8, Cond.code yX8_go cX8_go 7 none, Cond.fieldLink RX8 19 "MilkRound$Walk" "street" "LMilkRound$Street;", Cond.fieldLink RX8 23 "MilkRound$Street" "size" "I", Cond.fieldLink RX8 9 "MilkRound$Walk" "came" "[I", Cond.fieldLink RX8 15 "MilkRound$Walk" "minutesOfAll" "I", Cond.methodLink RX8 28 yX6_has, Cond.methodLink RX8 32 yX6_reading, Cond.instanceMethod yX6_reading, Cond.selects RX6 yX6_reading yX6_reading, Cond.code yX6_reading cX6_reading 5 (some .int), Cond.fieldLink RX6 40 "MilkRound$Street" "houses" "[LMilkRound$House;", Cond.methodLink RX6 67 ⟨"MilkRound$House", "minutesFor", "(I)I"⟩, Cond.sameMethod "MilkRound$House" "MilkRound$House" "minutesFor" "(I)I", Cond.instanceMethod ⟨"MilkRound$House", "minutesFor", "(I)I"⟩, Cond.selects RX0 ⟨"MilkRound$House", "minutesFor", "(I)I"⟩ yX0_minutesFor, Cond.instanceMethod yX0_minutesFor, Cond.initialized RX0, Cond.code yX0_minutesFor cX0_minutesFor 2 (some .int), Cond.code yX3_minutesFor cX3_minutesFor 2 (some .int), Cond.selects RX1 ⟨"MilkRound$House", "minutesFor", "(I)I"⟩ yX1_minutesFor, Cond.instanceMethod yX1_minutesFor]
noncomputable def wsX10_about_r3 : List Cond := [Cond.initialized RX1, Cond.code yX1_minutesFor cX1_minutesFor 2 (some .int), Cond.methodLink RX6 67 yX3_minutesFor, Cond.instanceMethod yX3_minutesFor, Cond.selects RX3 yX3_minutesFor yX3_minutesFor, Cond.initialized RX3, Cond.selects RX5 ⟨"MilkRound$House", "minutesFor", "(I)I"⟩ yX5_minutesFor, Cond.instanceMethod yX5_minutesFor, Cond.initialized RX5, Cond.code yX5_minutesFor cX5_minutesFor 2 (some .int), Cond.selects RX9 ⟨"MilkRound$House", "minutesFor", "(I)I"⟩ yX9_minutesFor, Cond.instanceMethod yX9_minutesFor, Cond.initialized RX9, Cond.code yX9_minutesFor cX9_minutesFor 2 (some .int), Cond.methodLink RX9 7 yX5_minutesFor, Cond.sameMethod "MilkRound$Sea" "MilkRound$Sea" "minutesFor" "(I)I", Cond.superclass RX9 RX5, Cond.static yX10_bitOf, Cond.code yX10_bitOf cX10_bitOf 2 (some .int), Cond.methodLink RX10 197 ⟨"MilkRound$House", "kind", "()I"⟩, Cond.sameMethod "MilkRound$House" "MilkRound$House" "kind" "()I", Cond.instanceMethod ⟨"MilkRound$House", "kind", "()I"⟩, Cond.selects RX0 ⟨"MilkRound$House", "kind", "()I"⟩ yX0_kind, Cond.instanceMethod yX0_kind]
noncomputable def wsX10_about_r4 : List Cond := [Cond.code yX0_kind cX0_kind 1 (some .int), Cond.code yX3_kind cX3_kind 1 (some .int), Cond.selects RX1 ⟨"MilkRound$House", "kind", "()I"⟩ yX1_kind, Cond.instanceMethod yX1_kind, Cond.code yX1_kind cX1_kind 1 (some .int), Cond.methodLink RX10 197 yX3_kind, Cond.instanceMethod yX3_kind, Cond.selects RX3 yX3_kind yX3_kind, Cond.selects RX5 ⟨"MilkRound$House", "kind", "()I"⟩ yX5_kind, Cond.instanceMethod yX5_kind, Cond.code yX5_kind cX5_kind 1 (some .int), Cond.selects RX9 ⟨"MilkRound$House", "kind", "()I"⟩ yX9_kind, Cond.instanceMethod yX9_kind, Cond.code yX9_kind cX9_kind 1 (some .int), Cond.methodLink RX10 116 yX10_bitOf, Cond.methodLink RX10 200 yX6_reading, Cond.methodLink RX10 119 yX2_placeOf, Cond.instanceMethod yX2_placeOf, Cond.selects RX2 yX2_placeOf yX2_placeOf, Cond.initialized RX2, Cond.code yX2_placeOf cX2_placeOf 3 (some .int), Cond.fieldLink RX2 15 "MilkRound$Course" "order" "[I", Cond.methodLink RX10 207 yX8_isSour, Cond.instanceMethod yX8_isSour]
noncomputable def wsX10_about_r5 : List Cond := [Cond.selects RX8 yX8_isSour yX8_isSour, Cond.code yX8_isSour cX8_isSour 2 (some .boolean), Cond.fieldLink RX8 36 "MilkRound$Street" "houses" "[LMilkRound$House;", Cond.fieldLink RX8 46 "MilkRound$Street" "keep" "I", Cond.methodLink RX8 40 ⟨"MilkRound$House", "timesKeep", "()I"⟩, Cond.sameMethod "MilkRound$House" "MilkRound$House" "timesKeep" "()I", Cond.instanceMethod ⟨"MilkRound$House", "timesKeep", "()I"⟩, Cond.selects RX0 ⟨"MilkRound$House", "timesKeep", "()I"⟩ yX0_timesKeep, Cond.instanceMethod yX0_timesKeep, Cond.code yX0_timesKeep cX0_timesKeep 1 (some .int), Cond.code yX3_timesKeep cX3_timesKeep 1 (some .int), Cond.selects RX1 ⟨"MilkRound$House", "timesKeep", "()I"⟩ yX3_timesKeep, Cond.instanceMethod yX3_timesKeep, Cond.methodLink RX8 40 yX3_timesKeep, Cond.selects RX3 yX3_timesKeep yX3_timesKeep, Cond.selects RX5 ⟨"MilkRound$House", "timesKeep", "()I"⟩ yX3_timesKeep, Cond.selects RX9 ⟨"MilkRound$House", "timesKeep", "()I"⟩ yX3_timesKeep, Cond.methodLink RX10 210 yX8_hears, Cond.instanceMethod yX8_hears, Cond.selects RX8 yX8_hears yX8_hears, Cond.code yX8_hears cX8_hears 2 (some .boolean), Cond.methodLink RX8 49 ⟨"MilkRound$House", "listens", "()Z"⟩, Cond.sameMethod "MilkRound$House" "MilkRound$House" "listens" "()Z", Cond.instanceMethod ⟨"MilkRound$House", "listens", "()Z"⟩]
noncomputable def wsX10_about_r6 : List Cond := [Cond.selects RX0 ⟨"MilkRound$House", "listens", "()Z"⟩ yX0_listens, Cond.instanceMethod yX0_listens, Cond.code yX0_listens cX0_listens 1 (some .boolean), Cond.code yX3_listens cX3_listens 1 (some .boolean), Cond.selects RX1 ⟨"MilkRound$House", "listens", "()Z"⟩ yX3_listens, Cond.instanceMethod yX3_listens, Cond.methodLink RX8 49 yX3_listens, Cond.selects RX3 yX3_listens yX3_listens, Cond.selects RX5 ⟨"MilkRound$House", "listens", "()Z"⟩ yX3_listens, Cond.selects RX9 ⟨"MilkRound$House", "listens", "()Z"⟩ yX3_listens, Cond.methodLink RX8 53 yX8_isAhead, Cond.instanceMethod yX8_isAhead, Cond.selects RX8 yX8_isAhead yX8_isAhead, Cond.code yX8_isAhead cX8_isAhead 3 (some .boolean), Cond.methodLink RX10 213 yX10_longestHarmless, Cond.instanceMethod yX10_longestHarmless, Cond.selects RX10 yX10_longestHarmless yX10_longestHarmless, Cond.code yX10_longestHarmless cX10_longestHarmless 4 (some .int), Cond.fieldLink RX10 42 "MilkRound" "trialLengths" "[I", Cond.methodLink RX10 230 arraycopyName, Cond.native arraycopyName, Cond.static arraycopyName, Cond.initialized "java/lang/System", Cond.methodLink RX10 236 yX8_wrongs]
noncomputable def wsX10_about_r7 : List Cond := [Cond.instanceMethod yX8_wrongs, Cond.selects RX8 yX8_wrongs yX8_wrongs, Cond.code yX8_wrongs cX8_wrongs 1 (some .int), Cond.methodLink RX8 63 yX8_sourHouses, Cond.instanceMethod yX8_sourHouses, Cond.selects RX8 yX8_sourHouses yX8_sourHouses, Cond.code yX8_sourHouses cX8_sourHouses 3 (some .int), Cond.methodLink RX8 57 yX8_isSour, Cond.methodLink RX8 66 yX8_hearingHouses, Cond.instanceMethod yX8_hearingHouses, Cond.selects RX8 yX8_hearingHouses yX8_hearingHouses, Cond.code yX8_hearingHouses cX8_hearingHouses 3 (some .int), Cond.methodLink RX8 60 yX8_hears]
noncomputable def wsX10_about : List Cond := .code yX10_about cX10_about 3 (some .int) :: ((wsX10_about_r1 ++ (wsX10_about_r2 ++ (wsX10_about_r3 ++ (wsX10_about_r4 ++ (wsX10_about_r5 ++ (wsX10_about_r6 ++ wsX10_about_r7)))))) ++ wsX100 ++ wsX60 ++ wsX20 ++ wsX80)
noncomputable def wsX10_isOfKind : List Cond := .code yX10_isOfKind cX10_isOfKind 2 (some .boolean) :: ([.classLink RX10 222 "MilkRound$Sea", .classLink RX10 224 "MilkRound$Alone", .classLink RX10 226 "MilkRound$Bad", .classLink RX10 228 "MilkRound$War"])
noncomputable def wsX10_as : List Cond := .code yX10_as cX10_as 3 (some .int) :: ([.fieldLink RX10 19 "MilkRound" "street" "LMilkRound$Street;", .fieldLink RX10 102 "MilkRound$Street" "houses" "[LMilkRound$House;", .methodLink RX10 94 yX6_has, .instanceMethod yX6_has, .selects RX6 yX6_has yX6_has, .initialized RX6, .code yX6_has cX6_has 2 (some .boolean), .fieldLink RX6 44 "MilkRound$Street" "size" "I", .methodLink RX10 106 yX10_isOfKind, .static yX10_isOfKind, .initialized RX10, .code yX10_isOfKind cX10_isOfKind 2 (some .boolean), .classLink RX10 222 "MilkRound$Sea", .classLink RX10 224 "MilkRound$Alone", .classLink RX10 226 "MilkRound$Bad", .classLink RX10 228 "MilkRound$War"] ++ wsX100 ++ wsX60)
noncomputable def wsX10_letters : List Cond := .code yX10_letters cX10_letters 4 (some .int) :: ([.fieldLink RX10 19 "MilkRound" "street" "LMilkRound$Street;", .fieldLink RX10 26 "MilkRound" "now" "LMilkRound$Course;", .fieldLink RX10 110 "MilkRound$Course" "lengths" "[I", .methodLink RX10 94 yX6_has, .instanceMethod yX6_has, .selects RX6 yX6_has yX6_has, .initialized RX6, .code yX6_has cX6_has 2 (some .boolean), .fieldLink RX6 44 "MilkRound$Street" "size" "I"] ++ wsX100 ++ wsX20 ++ wsX60)
noncomputable def wsX10_leave : List Cond := .code yX10_leave cX10_leave 4 (some .int) :: ([.fieldLink RX10 19 "MilkRound" "street" "LMilkRound$Street;", .fieldLink RX10 26 "MilkRound" "now" "LMilkRound$Course;", .fieldLink RX10 113 "MilkRound$Course" "leftOut" "I", .methodLink RX10 94 yX6_has, .instanceMethod yX6_has, .selects RX6 yX6_has yX6_has, .initialized RX6, .code yX6_has cX6_has 2 (some .boolean), .fieldLink RX6 44 "MilkRound$Street" "size" "I", .methodLink RX10 116 yX10_bitOf, .static yX10_bitOf, .initialized RX10, .code yX10_bitOf cX10_bitOf 2 (some .int)] ++ wsX100 ++ wsX20 ++ wsX60)
noncomputable def wsX10_exchange : List Cond := .code yX10_exchange cX10_exchange 4 none :: ([])
noncomputable def wsX10_swap : List Cond := .code yX10_swap cX10_swap 4 (some .int) :: ([.fieldLink RX10 19 "MilkRound" "street" "LMilkRound$Street;", .fieldLink RX10 26 "MilkRound" "now" "LMilkRound$Course;", .fieldLink RX10 123 "MilkRound$Course" "order" "[I", .methodLink RX10 94 yX6_has, .instanceMethod yX6_has, .selects RX6 yX6_has yX6_has, .initialized RX6, .code yX6_has cX6_has 2 (some .boolean), .fieldLink RX6 44 "MilkRound$Street" "size" "I", .methodLink RX10 119 yX2_placeOf, .instanceMethod yX2_placeOf, .selects RX2 yX2_placeOf yX2_placeOf, .initialized RX2, .code yX2_placeOf cX2_placeOf 3 (some .int), .fieldLink RX2 15 "MilkRound$Course" "order" "[I", .methodLink RX10 126 yX10_exchange, .static yX10_exchange, .initialized RX10, .code yX10_exchange cX10_exchange 4 none] ++ wsX100 ++ wsX20 ++ wsX60)
noncomputable def wsX10_hasNoRound : List Cond := .code yX10_hasNoRound cX10_hasNoRound 1 (some .boolean) :: ([.fieldLink RX10 19 "MilkRound" "street" "LMilkRound$Street;", .fieldLink RX10 89 "MilkRound$Street" "size" "I"] ++ wsX100 ++ wsX60)
noncomputable def wsX10_day_r1 : List Cond := [Cond.fieldLink RX10 38 "MilkRound" "walk" "LMilkRound$Walk;", Cond.fieldLink RX10 26 "MilkRound" "now" "LMilkRound$Course;", Cond.fieldLink RX10 142 "MilkRound$Course" "days" "I", Cond.fieldLink RX10 145 "MilkRound$Course" "soured" "I", Cond.fieldLink RX10 148 "MilkRound$Course" "heard" "I", Cond.fieldLink RX10 19 "MilkRound" "street" "LMilkRound$Street;", Cond.fieldLink RX10 89 "MilkRound$Street" "size" "I", Cond.fieldLink RX10 110 "MilkRound$Course" "lengths" "[I", Cond.fieldLink RX10 102 "MilkRound$Street" "houses" "[LMilkRound$House;", Cond.methodLink RX10 130 yX10_hasNoRound, Cond.instanceMethod yX10_hasNoRound, Cond.selects RX10 yX10_hasNoRound yX10_hasNoRound, Cond.initialized RX10, Cond.code yX10_hasNoRound cX10_hasNoRound 1 (some .boolean), Cond.methodLink RX10 133 yX10_walkAsItIs, Cond.instanceMethod yX10_walkAsItIs, Cond.selects RX10 yX10_walkAsItIs yX10_walkAsItIs, Cond.code yX10_walkAsItIs cX10_walkAsItIs 1 none, Cond.fieldLink RX10 123 "MilkRound$Course" "order" "[I", Cond.fieldLink RX10 113 "MilkRound$Course" "leftOut" "I", Cond.methodLink RX10 178 yX8_go, Cond.instanceMethod yX8_go, Cond.selects RX8 yX8_go yX8_go, Cond.initialized RX8]
noncomputable def wsX10_day_r2 : List Cond := [Cond.code yX8_go cX8_go 7 none, Cond.fieldLink RX8 19 "MilkRound$Walk" "street" "LMilkRound$Street;", Cond.fieldLink RX8 23 "MilkRound$Street" "size" "I", Cond.fieldLink RX8 9 "MilkRound$Walk" "came" "[I", Cond.fieldLink RX8 15 "MilkRound$Walk" "minutesOfAll" "I", Cond.methodLink RX8 28 yX6_has, Cond.instanceMethod yX6_has, Cond.selects RX6 yX6_has yX6_has, Cond.initialized RX6, Cond.code yX6_has cX6_has 2 (some .boolean), Cond.fieldLink RX6 44 "MilkRound$Street" "size" "I", Cond.methodLink RX8 32 yX6_reading, Cond.instanceMethod yX6_reading, Cond.selects RX6 yX6_reading yX6_reading, Cond.code yX6_reading cX6_reading 5 (some .int), Cond.fieldLink RX6 40 "MilkRound$Street" "houses" "[LMilkRound$House;", Cond.methodLink RX6 67 ⟨"MilkRound$House", "minutesFor", "(I)I"⟩, Cond.sameMethod "MilkRound$House" "MilkRound$House" "minutesFor" "(I)I", Cond.instanceMethod ⟨"MilkRound$House", "minutesFor", "(I)I"⟩, Cond.selects RX0 ⟨"MilkRound$House", "minutesFor", "(I)I"⟩ yX0_minutesFor, Cond.instanceMethod yX0_minutesFor, Cond.initialized RX0, Cond.code yX0_minutesFor cX0_minutesFor 2 (some .int), Cond.code yX3_minutesFor cX3_minutesFor 2 (some .int)]
noncomputable def wsX10_day_r3 : List Cond := [Cond.selects RX1 ⟨"MilkRound$House", "minutesFor", "(I)I"⟩ yX1_minutesFor, Cond.instanceMethod yX1_minutesFor, Cond.initialized RX1, Cond.code yX1_minutesFor cX1_minutesFor 2 (some .int), Cond.methodLink RX6 67 yX3_minutesFor, Cond.instanceMethod yX3_minutesFor, Cond.selects RX3 yX3_minutesFor yX3_minutesFor, Cond.initialized RX3, Cond.selects RX5 ⟨"MilkRound$House", "minutesFor", "(I)I"⟩ yX5_minutesFor, Cond.instanceMethod yX5_minutesFor, Cond.initialized RX5, Cond.code yX5_minutesFor cX5_minutesFor 2 (some .int), Cond.selects RX9 ⟨"MilkRound$House", "minutesFor", "(I)I"⟩ yX9_minutesFor, Cond.instanceMethod yX9_minutesFor, Cond.initialized RX9, Cond.code yX9_minutesFor cX9_minutesFor 2 (some .int), Cond.methodLink RX9 7 yX5_minutesFor, Cond.sameMethod "MilkRound$Sea" "MilkRound$Sea" "minutesFor" "(I)I", Cond.superclass RX9 RX5, Cond.static yX10_bitOf, Cond.code yX10_bitOf cX10_bitOf 2 (some .int), Cond.methodLink RX10 136 yX8_sourHouses, Cond.instanceMethod yX8_sourHouses, Cond.selects RX8 yX8_sourHouses yX8_sourHouses]
noncomputable def wsX10_day_r4 : List Cond := [Cond.code yX8_sourHouses cX8_sourHouses 3 (some .int), Cond.methodLink RX8 57 yX8_isSour, Cond.instanceMethod yX8_isSour, Cond.selects RX8 yX8_isSour yX8_isSour, Cond.code yX8_isSour cX8_isSour 2 (some .boolean), Cond.fieldLink RX8 36 "MilkRound$Street" "houses" "[LMilkRound$House;", Cond.fieldLink RX8 46 "MilkRound$Street" "keep" "I", Cond.methodLink RX8 40 ⟨"MilkRound$House", "timesKeep", "()I"⟩, Cond.sameMethod "MilkRound$House" "MilkRound$House" "timesKeep" "()I", Cond.instanceMethod ⟨"MilkRound$House", "timesKeep", "()I"⟩, Cond.selects RX0 ⟨"MilkRound$House", "timesKeep", "()I"⟩ yX0_timesKeep, Cond.instanceMethod yX0_timesKeep, Cond.code yX0_timesKeep cX0_timesKeep 1 (some .int), Cond.code yX3_timesKeep cX3_timesKeep 1 (some .int), Cond.selects RX1 ⟨"MilkRound$House", "timesKeep", "()I"⟩ yX3_timesKeep, Cond.instanceMethod yX3_timesKeep, Cond.methodLink RX8 40 yX3_timesKeep, Cond.selects RX3 yX3_timesKeep yX3_timesKeep, Cond.selects RX5 ⟨"MilkRound$House", "timesKeep", "()I"⟩ yX3_timesKeep, Cond.selects RX9 ⟨"MilkRound$House", "timesKeep", "()I"⟩ yX3_timesKeep, Cond.methodLink RX10 139 yX8_hearingHouses, Cond.instanceMethod yX8_hearingHouses, Cond.selects RX8 yX8_hearingHouses yX8_hearingHouses, Cond.code yX8_hearingHouses cX8_hearingHouses 3 (some .int)]
noncomputable def wsX10_day_r5 : List Cond := [Cond.methodLink RX8 60 yX8_hears, Cond.instanceMethod yX8_hears, Cond.selects RX8 yX8_hears yX8_hears, Cond.code yX8_hears cX8_hears 2 (some .boolean), Cond.methodLink RX8 49 ⟨"MilkRound$House", "listens", "()Z"⟩, Cond.sameMethod "MilkRound$House" "MilkRound$House" "listens" "()Z", Cond.instanceMethod ⟨"MilkRound$House", "listens", "()Z"⟩, Cond.selects RX0 ⟨"MilkRound$House", "listens", "()Z"⟩ yX0_listens, Cond.instanceMethod yX0_listens, Cond.code yX0_listens cX0_listens 1 (some .boolean), Cond.code yX3_listens cX3_listens 1 (some .boolean), Cond.selects RX1 ⟨"MilkRound$House", "listens", "()Z"⟩ yX3_listens, Cond.instanceMethod yX3_listens, Cond.methodLink RX8 49 yX3_listens, Cond.selects RX3 yX3_listens yX3_listens, Cond.selects RX5 ⟨"MilkRound$House", "listens", "()Z"⟩ yX3_listens, Cond.selects RX9 ⟨"MilkRound$House", "listens", "()Z"⟩ yX3_listens, Cond.methodLink RX8 53 yX8_isAhead, Cond.instanceMethod yX8_isAhead, Cond.selects RX8 yX8_isAhead yX8_isAhead, Cond.code yX8_isAhead cX8_isAhead 3 (some .boolean), Cond.methodLink RX10 151 ⟨"MilkRound$House", "lengthBehindDay", "(I)I"⟩, Cond.sameMethod "MilkRound$House" "MilkRound$House" "lengthBehindDay" "(I)I", Cond.selects RX0 ⟨"MilkRound$House", "lengthBehindDay", "(I)I"⟩ yX3_lengthBehindDay]
noncomputable def wsX10_day_r6 : List Cond := [Cond.instanceMethod yX3_lengthBehindDay, Cond.code yX3_lengthBehindDay cX3_lengthBehindDay 2 (some .int), Cond.instanceMethod ⟨"MilkRound$House", "lengthBehindDay", "(I)I"⟩, Cond.selects RX1 ⟨"MilkRound$House", "lengthBehindDay", "(I)I"⟩ yX1_lengthBehindDay, Cond.instanceMethod yX1_lengthBehindDay, Cond.code yX1_lengthBehindDay cX1_lengthBehindDay 2 (some .int), Cond.methodLink RX10 151 yX3_lengthBehindDay, Cond.selects RX3 yX3_lengthBehindDay yX3_lengthBehindDay, Cond.selects RX5 ⟨"MilkRound$House", "lengthBehindDay", "(I)I"⟩ yX3_lengthBehindDay, Cond.selects RX9 ⟨"MilkRound$House", "lengthBehindDay", "(I)I"⟩ yX3_lengthBehindDay]
noncomputable def wsX10_day : List Cond := .code yX10_day cX10_day 4 (some .int) :: ((wsX10_day_r1 ++ (wsX10_day_r2 ++ (wsX10_day_r3 ++ (wsX10_day_r4 ++ (wsX10_day_r5 ++ wsX10_day_r6))))) ++ wsX100 ++ wsX20 ++ wsX60 ++ wsX80)
noncomputable def wsX10_advance : List Cond := .code yX10_advance cX10_advance 6 (some .boolean) :: ([.methodLink RX10 126 yX10_exchange, .static yX10_exchange, .initialized RX10, .code yX10_exchange cX10_exchange 4 none])
noncomputable def wsX10_findBestOrder_r1 : List Cond := [Cond.fieldLink RX10 46 "MilkRound" "trialOrder" "[I", Cond.fieldLink RX10 38 "MilkRound" "walk" "LMilkRound$Walk;", Cond.fieldLink RX10 26 "MilkRound" "now" "LMilkRound$Course;", Cond.fieldLink RX10 110 "MilkRound$Course" "lengths" "[I", Cond.fieldLink RX10 113 "MilkRound$Course" "leftOut" "I", Cond.fieldLink RX10 49 "MilkRound" "bestOrder" "[I", Cond.methodLink RX10 230 arraycopyName, Cond.native arraycopyName, Cond.static arraycopyName, Cond.initialized "java/lang/System", Cond.fieldLink RX10 19 "MilkRound" "street" "LMilkRound$Street;", Cond.fieldLink RX10 89 "MilkRound$Street" "size" "I", Cond.methodLink RX10 178 yX8_go, Cond.instanceMethod yX8_go, Cond.selects RX8 yX8_go yX8_go, Cond.initialized RX8, Cond.code yX8_go cX8_go 7 none, Cond.fieldLink RX8 19 "MilkRound$Walk" "street" "LMilkRound$Street;", Cond.fieldLink RX8 23 "MilkRound$Street" "size" "I", Cond.fieldLink RX8 9 "MilkRound$Walk" "came" "[I", Cond.fieldLink RX8 15 "MilkRound$Walk" "minutesOfAll" "I", Cond.methodLink RX8 28 yX6_has, Cond.instanceMethod yX6_has, Cond.selects RX6 yX6_has yX6_has]
noncomputable def wsX10_findBestOrder_r2 : List Cond := [Cond.initialized RX6, Cond.code yX6_has cX6_has 2 (some .boolean), Cond.fieldLink RX6 44 "MilkRound$Street" "size" "I", Cond.methodLink RX8 32 yX6_reading, Cond.instanceMethod yX6_reading, Cond.selects RX6 yX6_reading yX6_reading, Cond.code yX6_reading cX6_reading 5 (some .int), Cond.fieldLink RX6 40 "MilkRound$Street" "houses" "[LMilkRound$House;", Cond.methodLink RX6 67 ⟨"MilkRound$House", "minutesFor", "(I)I"⟩, Cond.sameMethod "MilkRound$House" "MilkRound$House" "minutesFor" "(I)I", Cond.instanceMethod ⟨"MilkRound$House", "minutesFor", "(I)I"⟩, Cond.selects RX0 ⟨"MilkRound$House", "minutesFor", "(I)I"⟩ yX0_minutesFor, Cond.instanceMethod yX0_minutesFor, Cond.initialized RX0, Cond.code yX0_minutesFor cX0_minutesFor 2 (some .int), Cond.code yX3_minutesFor cX3_minutesFor 2 (some .int), Cond.selects RX1 ⟨"MilkRound$House", "minutesFor", "(I)I"⟩ yX1_minutesFor, Cond.instanceMethod yX1_minutesFor, Cond.initialized RX1, Cond.code yX1_minutesFor cX1_minutesFor 2 (some .int), Cond.methodLink RX6 67 yX3_minutesFor, Cond.instanceMethod yX3_minutesFor, Cond.selects RX3 yX3_minutesFor yX3_minutesFor, Cond.initialized RX3]
noncomputable def wsX10_findBestOrder_r3 : List Cond := [Cond.selects RX5 ⟨"MilkRound$House", "minutesFor", "(I)I"⟩ yX5_minutesFor, Cond.instanceMethod yX5_minutesFor, Cond.initialized RX5, Cond.code yX5_minutesFor cX5_minutesFor 2 (some .int), Cond.selects RX9 ⟨"MilkRound$House", "minutesFor", "(I)I"⟩ yX9_minutesFor, Cond.instanceMethod yX9_minutesFor, Cond.initialized RX9, Cond.code yX9_minutesFor cX9_minutesFor 2 (some .int), Cond.methodLink RX9 7 yX5_minutesFor, Cond.sameMethod "MilkRound$Sea" "MilkRound$Sea" "minutesFor" "(I)I", Cond.superclass RX9 RX5, Cond.static yX10_bitOf, Cond.initialized RX10, Cond.code yX10_bitOf cX10_bitOf 2 (some .int), Cond.methodLink RX10 236 yX8_wrongs, Cond.instanceMethod yX8_wrongs, Cond.selects RX8 yX8_wrongs yX8_wrongs, Cond.code yX8_wrongs cX8_wrongs 1 (some .int), Cond.methodLink RX8 63 yX8_sourHouses, Cond.instanceMethod yX8_sourHouses, Cond.selects RX8 yX8_sourHouses yX8_sourHouses, Cond.code yX8_sourHouses cX8_sourHouses 3 (some .int), Cond.methodLink RX8 57 yX8_isSour, Cond.instanceMethod yX8_isSour]
noncomputable def wsX10_findBestOrder_r4 : List Cond := [Cond.selects RX8 yX8_isSour yX8_isSour, Cond.code yX8_isSour cX8_isSour 2 (some .boolean), Cond.fieldLink RX8 36 "MilkRound$Street" "houses" "[LMilkRound$House;", Cond.fieldLink RX8 46 "MilkRound$Street" "keep" "I", Cond.methodLink RX8 40 ⟨"MilkRound$House", "timesKeep", "()I"⟩, Cond.sameMethod "MilkRound$House" "MilkRound$House" "timesKeep" "()I", Cond.instanceMethod ⟨"MilkRound$House", "timesKeep", "()I"⟩, Cond.selects RX0 ⟨"MilkRound$House", "timesKeep", "()I"⟩ yX0_timesKeep, Cond.instanceMethod yX0_timesKeep, Cond.code yX0_timesKeep cX0_timesKeep 1 (some .int), Cond.code yX3_timesKeep cX3_timesKeep 1 (some .int), Cond.selects RX1 ⟨"MilkRound$House", "timesKeep", "()I"⟩ yX3_timesKeep, Cond.instanceMethod yX3_timesKeep, Cond.methodLink RX8 40 yX3_timesKeep, Cond.selects RX3 yX3_timesKeep yX3_timesKeep, Cond.selects RX5 ⟨"MilkRound$House", "timesKeep", "()I"⟩ yX3_timesKeep, Cond.selects RX9 ⟨"MilkRound$House", "timesKeep", "()I"⟩ yX3_timesKeep, Cond.methodLink RX8 66 yX8_hearingHouses, Cond.instanceMethod yX8_hearingHouses, Cond.selects RX8 yX8_hearingHouses yX8_hearingHouses, Cond.code yX8_hearingHouses cX8_hearingHouses 3 (some .int), Cond.methodLink RX8 60 yX8_hears, Cond.instanceMethod yX8_hears, Cond.selects RX8 yX8_hears yX8_hears]
noncomputable def wsX10_findBestOrder_r5 : List Cond := [Cond.code yX8_hears cX8_hears 2 (some .boolean), Cond.methodLink RX8 49 ⟨"MilkRound$House", "listens", "()Z"⟩, Cond.sameMethod "MilkRound$House" "MilkRound$House" "listens" "()Z", Cond.instanceMethod ⟨"MilkRound$House", "listens", "()Z"⟩, Cond.selects RX0 ⟨"MilkRound$House", "listens", "()Z"⟩ yX0_listens, Cond.instanceMethod yX0_listens, Cond.code yX0_listens cX0_listens 1 (some .boolean), Cond.code yX3_listens cX3_listens 1 (some .boolean), Cond.selects RX1 ⟨"MilkRound$House", "listens", "()Z"⟩ yX3_listens, Cond.instanceMethod yX3_listens, Cond.methodLink RX8 49 yX3_listens, Cond.selects RX3 yX3_listens yX3_listens, Cond.selects RX5 ⟨"MilkRound$House", "listens", "()Z"⟩ yX3_listens, Cond.selects RX9 ⟨"MilkRound$House", "listens", "()Z"⟩ yX3_listens, Cond.methodLink RX8 53 yX8_isAhead, Cond.instanceMethod yX8_isAhead, Cond.selects RX8 yX8_isAhead yX8_isAhead, Cond.code yX8_isAhead cX8_isAhead 3 (some .boolean), Cond.methodLink RX10 239 yX10_advance, Cond.static yX10_advance, Cond.code yX10_advance cX10_advance 6 (some .boolean), Cond.methodLink RX10 126 yX10_exchange, Cond.static yX10_exchange, Cond.code yX10_exchange cX10_exchange 4 none]
noncomputable def wsX10_findBestOrder : List Cond := .code yX10_findBestOrder cX10_findBestOrder 5 (some .int) :: ((wsX10_findBestOrder_r1 ++ (wsX10_findBestOrder_r2 ++ (wsX10_findBestOrder_r3 ++ (wsX10_findBestOrder_r4 ++ wsX10_findBestOrder_r5)))) ++ wsX100 ++ wsX20 ++ wsX60 ++ wsX80)
noncomputable def wsX10_best_r1 : List Cond := [Cond.fieldLink RX10 67 "MilkRound" "searches" "I", Cond.fieldLink RX10 19 "MilkRound" "street" "LMilkRound$Street;", Cond.fieldLink RX10 89 "MilkRound$Street" "size" "I", Cond.fieldLink RX10 49 "MilkRound" "bestOrder" "[I", Cond.methodLink RX10 130 yX10_hasNoRound, Cond.instanceMethod yX10_hasNoRound, Cond.selects RX10 yX10_hasNoRound yX10_hasNoRound, Cond.initialized RX10, Cond.code yX10_hasNoRound cX10_hasNoRound 1 (some .boolean), Cond.methodLink RX10 156 yX10_findBestOrder, Cond.instanceMethod yX10_findBestOrder, Cond.selects RX10 yX10_findBestOrder yX10_findBestOrder, Cond.code yX10_findBestOrder cX10_findBestOrder 5 (some .int), Cond.fieldLink RX10 46 "MilkRound" "trialOrder" "[I", Cond.fieldLink RX10 38 "MilkRound" "walk" "LMilkRound$Walk;", Cond.fieldLink RX10 26 "MilkRound" "now" "LMilkRound$Course;", Cond.fieldLink RX10 110 "MilkRound$Course" "lengths" "[I", Cond.fieldLink RX10 113 "MilkRound$Course" "leftOut" "I", Cond.methodLink RX10 230 arraycopyName, Cond.native arraycopyName, Cond.static arraycopyName, Cond.initialized "java/lang/System", Cond.methodLink RX10 178 yX8_go, Cond.instanceMethod yX8_go]
noncomputable def wsX10_best_r2 : List Cond := [Cond.selects RX8 yX8_go yX8_go, Cond.initialized RX8, Cond.code yX8_go cX8_go 7 none, Cond.fieldLink RX8 19 "MilkRound$Walk" "street" "LMilkRound$Street;", Cond.fieldLink RX8 23 "MilkRound$Street" "size" "I", Cond.fieldLink RX8 9 "MilkRound$Walk" "came" "[I", Cond.fieldLink RX8 15 "MilkRound$Walk" "minutesOfAll" "I", Cond.methodLink RX8 28 yX6_has, Cond.instanceMethod yX6_has, Cond.selects RX6 yX6_has yX6_has, Cond.initialized RX6, Cond.code yX6_has cX6_has 2 (some .boolean), Cond.fieldLink RX6 44 "MilkRound$Street" "size" "I", Cond.methodLink RX8 32 yX6_reading, Cond.instanceMethod yX6_reading, Cond.selects RX6 yX6_reading yX6_reading, Cond.code yX6_reading cX6_reading 5 (some .int), Cond.fieldLink RX6 40 "MilkRound$Street" "houses" "[LMilkRound$House;", Cond.methodLink RX6 67 ⟨"MilkRound$House", "minutesFor", "(I)I"⟩, Cond.sameMethod "MilkRound$House" "MilkRound$House" "minutesFor" "(I)I", Cond.instanceMethod ⟨"MilkRound$House", "minutesFor", "(I)I"⟩, Cond.selects RX0 ⟨"MilkRound$House", "minutesFor", "(I)I"⟩ yX0_minutesFor, Cond.instanceMethod yX0_minutesFor, Cond.initialized RX0]
noncomputable def wsX10_best_r3 : List Cond := [Cond.code yX0_minutesFor cX0_minutesFor 2 (some .int), Cond.code yX3_minutesFor cX3_minutesFor 2 (some .int), Cond.selects RX1 ⟨"MilkRound$House", "minutesFor", "(I)I"⟩ yX1_minutesFor, Cond.instanceMethod yX1_minutesFor, Cond.initialized RX1, Cond.code yX1_minutesFor cX1_minutesFor 2 (some .int), Cond.methodLink RX6 67 yX3_minutesFor, Cond.instanceMethod yX3_minutesFor, Cond.selects RX3 yX3_minutesFor yX3_minutesFor, Cond.initialized RX3, Cond.selects RX5 ⟨"MilkRound$House", "minutesFor", "(I)I"⟩ yX5_minutesFor, Cond.instanceMethod yX5_minutesFor, Cond.initialized RX5, Cond.code yX5_minutesFor cX5_minutesFor 2 (some .int), Cond.selects RX9 ⟨"MilkRound$House", "minutesFor", "(I)I"⟩ yX9_minutesFor, Cond.instanceMethod yX9_minutesFor, Cond.initialized RX9, Cond.code yX9_minutesFor cX9_minutesFor 2 (some .int), Cond.methodLink RX9 7 yX5_minutesFor, Cond.sameMethod "MilkRound$Sea" "MilkRound$Sea" "minutesFor" "(I)I", Cond.superclass RX9 RX5, Cond.static yX10_bitOf, Cond.code yX10_bitOf cX10_bitOf 2 (some .int), Cond.methodLink RX10 236 yX8_wrongs]
noncomputable def wsX10_best_r4 : List Cond := [Cond.instanceMethod yX8_wrongs, Cond.selects RX8 yX8_wrongs yX8_wrongs, Cond.code yX8_wrongs cX8_wrongs 1 (some .int), Cond.methodLink RX8 63 yX8_sourHouses, Cond.instanceMethod yX8_sourHouses, Cond.selects RX8 yX8_sourHouses yX8_sourHouses, Cond.code yX8_sourHouses cX8_sourHouses 3 (some .int), Cond.methodLink RX8 57 yX8_isSour, Cond.instanceMethod yX8_isSour, Cond.selects RX8 yX8_isSour yX8_isSour, Cond.code yX8_isSour cX8_isSour 2 (some .boolean), Cond.fieldLink RX8 36 "MilkRound$Street" "houses" "[LMilkRound$House;", Cond.fieldLink RX8 46 "MilkRound$Street" "keep" "I", Cond.methodLink RX8 40 ⟨"MilkRound$House", "timesKeep", "()I"⟩, Cond.sameMethod "MilkRound$House" "MilkRound$House" "timesKeep" "()I", Cond.instanceMethod ⟨"MilkRound$House", "timesKeep", "()I"⟩, Cond.selects RX0 ⟨"MilkRound$House", "timesKeep", "()I"⟩ yX0_timesKeep, Cond.instanceMethod yX0_timesKeep, Cond.code yX0_timesKeep cX0_timesKeep 1 (some .int), Cond.code yX3_timesKeep cX3_timesKeep 1 (some .int), Cond.selects RX1 ⟨"MilkRound$House", "timesKeep", "()I"⟩ yX3_timesKeep, Cond.instanceMethod yX3_timesKeep, Cond.methodLink RX8 40 yX3_timesKeep, Cond.selects RX3 yX3_timesKeep yX3_timesKeep]
noncomputable def wsX10_best_r5 : List Cond := [Cond.selects RX5 ⟨"MilkRound$House", "timesKeep", "()I"⟩ yX3_timesKeep, Cond.selects RX9 ⟨"MilkRound$House", "timesKeep", "()I"⟩ yX3_timesKeep, Cond.methodLink RX8 66 yX8_hearingHouses, Cond.instanceMethod yX8_hearingHouses, Cond.selects RX8 yX8_hearingHouses yX8_hearingHouses, Cond.code yX8_hearingHouses cX8_hearingHouses 3 (some .int), Cond.methodLink RX8 60 yX8_hears, Cond.instanceMethod yX8_hears, Cond.selects RX8 yX8_hears yX8_hears, Cond.code yX8_hears cX8_hears 2 (some .boolean), Cond.methodLink RX8 49 ⟨"MilkRound$House", "listens", "()Z"⟩, Cond.sameMethod "MilkRound$House" "MilkRound$House" "listens" "()Z", Cond.instanceMethod ⟨"MilkRound$House", "listens", "()Z"⟩, Cond.selects RX0 ⟨"MilkRound$House", "listens", "()Z"⟩ yX0_listens, Cond.instanceMethod yX0_listens, Cond.code yX0_listens cX0_listens 1 (some .boolean), Cond.code yX3_listens cX3_listens 1 (some .boolean), Cond.selects RX1 ⟨"MilkRound$House", "listens", "()Z"⟩ yX3_listens, Cond.instanceMethod yX3_listens, Cond.methodLink RX8 49 yX3_listens, Cond.selects RX3 yX3_listens yX3_listens, Cond.selects RX5 ⟨"MilkRound$House", "listens", "()Z"⟩ yX3_listens, Cond.selects RX9 ⟨"MilkRound$House", "listens", "()Z"⟩ yX3_listens, Cond.methodLink RX8 53 yX8_isAhead]
noncomputable def wsX10_best_r6 : List Cond := [Cond.instanceMethod yX8_isAhead, Cond.selects RX8 yX8_isAhead yX8_isAhead, Cond.code yX8_isAhead cX8_isAhead 3 (some .boolean), Cond.methodLink RX10 239 yX10_advance, Cond.static yX10_advance, Cond.code yX10_advance cX10_advance 6 (some .boolean), Cond.methodLink RX10 126 yX10_exchange, Cond.static yX10_exchange, Cond.code yX10_exchange cX10_exchange 4 none]
noncomputable def wsX10_best : List Cond := .code yX10_best cX10_best 5 (some .int) :: ((wsX10_best_r1 ++ (wsX10_best_r2 ++ (wsX10_best_r3 ++ (wsX10_best_r4 ++ (wsX10_best_r5 ++ wsX10_best_r6))))) ++ wsX100 ++ wsX60 ++ wsX20 ++ wsX80)
noncomputable def wsX10_known : List Cond := .code yX10_known cX10_known 3 (some .int) :: ([.fieldLink RX10 19 "MilkRound" "street" "LMilkRound$Street;", .fieldLink RX10 26 "MilkRound" "now" "LMilkRound$Course;", .fieldLink RX10 163 "MilkRound$Course" "knownSize" "I", .methodLink RX10 94 yX6_has, .instanceMethod yX6_has, .selects RX6 yX6_has yX6_has, .initialized RX6, .code yX6_has cX6_has 2 (some .boolean), .fieldLink RX6 44 "MilkRound$Street" "size" "I", .methodLink RX10 159 yX2_learn, .instanceMethod yX2_learn, .selects RX2 yX2_learn yX2_learn, .initialized RX2, .code yX2_learn cX2_learn 3 (some .boolean), .fieldLink RX2 24 "MilkRound$Course" "knownSize" "I", .fieldLink RX2 18 "MilkRound$Course" "knownHouses" "[I", .fieldLink RX2 21 "MilkRound$Course" "knownMinutes" "[I"] ++ wsX100 ++ wsX20 ++ wsX60)
noncomputable def wsX10_forget : List Cond := .code yX10_forget cX10_forget 2 (some .int) :: ([.fieldLink RX10 26 "MilkRound" "now" "LMilkRound$Course;", .fieldLink RX10 163 "MilkRound$Course" "knownSize" "I"] ++ wsX100 ++ wsX20)
noncomputable def wsX10_canHaveBeen_r1 : List Cond := [Cond.fieldLink RX10 38 "MilkRound" "walk" "LMilkRound$Walk;", Cond.fieldLink RX10 26 "MilkRound" "now" "LMilkRound$Course;", Cond.fieldLink RX10 110 "MilkRound$Course" "lengths" "[I", Cond.fieldLink RX10 123 "MilkRound$Course" "order" "[I", Cond.fieldLink RX10 163 "MilkRound$Course" "knownSize" "I", Cond.fieldLink RX10 243 "MilkRound$Course" "knownHouses" "[I", Cond.fieldLink RX10 19 "MilkRound" "street" "LMilkRound$Street;", Cond.fieldLink RX10 204 "MilkRound$Walk" "came" "[I", Cond.fieldLink RX10 246 "MilkRound$Course" "knownMinutes" "[I", Cond.methodLink RX10 178 yX8_go, Cond.instanceMethod yX8_go, Cond.selects RX8 yX8_go yX8_go, Cond.initialized RX8, Cond.code yX8_go cX8_go 7 none, Cond.fieldLink RX8 19 "MilkRound$Walk" "street" "LMilkRound$Street;", Cond.fieldLink RX8 23 "MilkRound$Street" "size" "I", Cond.fieldLink RX8 9 "MilkRound$Walk" "came" "[I", Cond.fieldLink RX8 15 "MilkRound$Walk" "minutesOfAll" "I", Cond.methodLink RX8 28 yX6_has, Cond.instanceMethod yX6_has, Cond.selects RX6 yX6_has yX6_has, Cond.initialized RX6, Cond.code yX6_has cX6_has 2 (some .boolean), Cond.fieldLink RX6 44 "MilkRound$Street" "size" "I"]
noncomputable def wsX10_canHaveBeen_r2 : List Cond := [Cond.methodLink RX8 32 yX6_reading, Cond.instanceMethod yX6_reading, Cond.selects RX6 yX6_reading yX6_reading, Cond.code yX6_reading cX6_reading 5 (some .int), Cond.fieldLink RX6 40 "MilkRound$Street" "houses" "[LMilkRound$House;", Cond.methodLink RX6 67 ⟨"MilkRound$House", "minutesFor", "(I)I"⟩, Cond.sameMethod "MilkRound$House" "MilkRound$House" "minutesFor" "(I)I", Cond.instanceMethod ⟨"MilkRound$House", "minutesFor", "(I)I"⟩, Cond.selects RX0 ⟨"MilkRound$House", "minutesFor", "(I)I"⟩ yX0_minutesFor, Cond.instanceMethod yX0_minutesFor, Cond.initialized RX0, Cond.code yX0_minutesFor cX0_minutesFor 2 (some .int), Cond.code yX3_minutesFor cX3_minutesFor 2 (some .int), Cond.selects RX1 ⟨"MilkRound$House", "minutesFor", "(I)I"⟩ yX1_minutesFor, Cond.instanceMethod yX1_minutesFor, Cond.initialized RX1, Cond.code yX1_minutesFor cX1_minutesFor 2 (some .int), Cond.methodLink RX6 67 yX3_minutesFor, Cond.instanceMethod yX3_minutesFor, Cond.selects RX3 yX3_minutesFor yX3_minutesFor, Cond.initialized RX3, Cond.selects RX5 ⟨"MilkRound$House", "minutesFor", "(I)I"⟩ yX5_minutesFor, Cond.instanceMethod yX5_minutesFor, Cond.initialized RX5]
noncomputable def wsX10_canHaveBeen_r3 : List Cond := [Cond.code yX5_minutesFor cX5_minutesFor 2 (some .int), Cond.selects RX9 ⟨"MilkRound$House", "minutesFor", "(I)I"⟩ yX9_minutesFor, Cond.instanceMethod yX9_minutesFor, Cond.initialized RX9, Cond.code yX9_minutesFor cX9_minutesFor 2 (some .int), Cond.methodLink RX9 7 yX5_minutesFor, Cond.sameMethod "MilkRound$Sea" "MilkRound$Sea" "minutesFor" "(I)I", Cond.superclass RX9 RX5, Cond.static yX10_bitOf, Cond.initialized RX10, Cond.code yX10_bitOf cX10_bitOf 2 (some .int), Cond.methodLink RX10 94 yX6_has]
noncomputable def wsX10_canHaveBeen : List Cond := .code yX10_canHaveBeen cX10_canHaveBeen 4 (some .boolean) :: ((wsX10_canHaveBeen_r1 ++ (wsX10_canHaveBeen_r2 ++ wsX10_canHaveBeen_r3)) ++ wsX100 ++ wsX20 ++ wsX80 ++ wsX60)
noncomputable def wsX10_howManySets_r1 : List Cond := [Cond.fieldLink RX10 19 "MilkRound" "street" "LMilkRound$Street;", Cond.fieldLink RX10 89 "MilkRound$Street" "size" "I", Cond.methodLink RX10 249 yX10_canHaveBeen, Cond.instanceMethod yX10_canHaveBeen, Cond.selects RX10 yX10_canHaveBeen yX10_canHaveBeen, Cond.initialized RX10, Cond.code yX10_canHaveBeen cX10_canHaveBeen 4 (some .boolean), Cond.fieldLink RX10 38 "MilkRound" "walk" "LMilkRound$Walk;", Cond.fieldLink RX10 26 "MilkRound" "now" "LMilkRound$Course;", Cond.fieldLink RX10 110 "MilkRound$Course" "lengths" "[I", Cond.fieldLink RX10 123 "MilkRound$Course" "order" "[I", Cond.fieldLink RX10 163 "MilkRound$Course" "knownSize" "I", Cond.fieldLink RX10 243 "MilkRound$Course" "knownHouses" "[I", Cond.fieldLink RX10 204 "MilkRound$Walk" "came" "[I", Cond.fieldLink RX10 246 "MilkRound$Course" "knownMinutes" "[I", Cond.methodLink RX10 178 yX8_go, Cond.instanceMethod yX8_go, Cond.selects RX8 yX8_go yX8_go, Cond.initialized RX8, Cond.code yX8_go cX8_go 7 none, Cond.fieldLink RX8 19 "MilkRound$Walk" "street" "LMilkRound$Street;", Cond.fieldLink RX8 23 "MilkRound$Street" "size" "I", Cond.fieldLink RX8 9 "MilkRound$Walk" "came" "[I", Cond.fieldLink RX8 15 "MilkRound$Walk" "minutesOfAll" "I"]
noncomputable def wsX10_howManySets_r2 : List Cond := [Cond.methodLink RX8 28 yX6_has, Cond.instanceMethod yX6_has, Cond.selects RX6 yX6_has yX6_has, Cond.initialized RX6, Cond.code yX6_has cX6_has 2 (some .boolean), Cond.fieldLink RX6 44 "MilkRound$Street" "size" "I", Cond.methodLink RX8 32 yX6_reading, Cond.instanceMethod yX6_reading, Cond.selects RX6 yX6_reading yX6_reading, Cond.code yX6_reading cX6_reading 5 (some .int), Cond.fieldLink RX6 40 "MilkRound$Street" "houses" "[LMilkRound$House;", Cond.methodLink RX6 67 ⟨"MilkRound$House", "minutesFor", "(I)I"⟩, Cond.sameMethod "MilkRound$House" "MilkRound$House" "minutesFor" "(I)I", Cond.instanceMethod ⟨"MilkRound$House", "minutesFor", "(I)I"⟩, Cond.selects RX0 ⟨"MilkRound$House", "minutesFor", "(I)I"⟩ yX0_minutesFor, Cond.instanceMethod yX0_minutesFor, Cond.initialized RX0, Cond.code yX0_minutesFor cX0_minutesFor 2 (some .int), Cond.code yX3_minutesFor cX3_minutesFor 2 (some .int), Cond.selects RX1 ⟨"MilkRound$House", "minutesFor", "(I)I"⟩ yX1_minutesFor, Cond.instanceMethod yX1_minutesFor, Cond.initialized RX1, Cond.code yX1_minutesFor cX1_minutesFor 2 (some .int), Cond.methodLink RX6 67 yX3_minutesFor]
noncomputable def wsX10_howManySets_r3 : List Cond := [Cond.instanceMethod yX3_minutesFor, Cond.selects RX3 yX3_minutesFor yX3_minutesFor, Cond.initialized RX3, Cond.selects RX5 ⟨"MilkRound$House", "minutesFor", "(I)I"⟩ yX5_minutesFor, Cond.instanceMethod yX5_minutesFor, Cond.initialized RX5, Cond.code yX5_minutesFor cX5_minutesFor 2 (some .int), Cond.selects RX9 ⟨"MilkRound$House", "minutesFor", "(I)I"⟩ yX9_minutesFor, Cond.instanceMethod yX9_minutesFor, Cond.initialized RX9, Cond.code yX9_minutesFor cX9_minutesFor 2 (some .int), Cond.methodLink RX9 7 yX5_minutesFor, Cond.sameMethod "MilkRound$Sea" "MilkRound$Sea" "minutesFor" "(I)I", Cond.superclass RX9 RX5, Cond.static yX10_bitOf, Cond.code yX10_bitOf cX10_bitOf 2 (some .int), Cond.methodLink RX10 94 yX6_has]
noncomputable def wsX10_howManySets : List Cond := .code yX10_howManySets cX10_howManySets 3 (some .int) :: ((wsX10_howManySets_r1 ++ (wsX10_howManySets_r2 ++ wsX10_howManySets_r3)) ++ wsX100 ++ wsX60 ++ wsX20 ++ wsX80)
noncomputable def wsX10_leastSet_r1 : List Cond := [Cond.fieldLink RX10 19 "MilkRound" "street" "LMilkRound$Street;", Cond.fieldLink RX10 89 "MilkRound$Street" "size" "I", Cond.methodLink RX10 249 yX10_canHaveBeen, Cond.instanceMethod yX10_canHaveBeen, Cond.selects RX10 yX10_canHaveBeen yX10_canHaveBeen, Cond.initialized RX10, Cond.code yX10_canHaveBeen cX10_canHaveBeen 4 (some .boolean), Cond.fieldLink RX10 38 "MilkRound" "walk" "LMilkRound$Walk;", Cond.fieldLink RX10 26 "MilkRound" "now" "LMilkRound$Course;", Cond.fieldLink RX10 110 "MilkRound$Course" "lengths" "[I", Cond.fieldLink RX10 123 "MilkRound$Course" "order" "[I", Cond.fieldLink RX10 163 "MilkRound$Course" "knownSize" "I", Cond.fieldLink RX10 243 "MilkRound$Course" "knownHouses" "[I", Cond.fieldLink RX10 204 "MilkRound$Walk" "came" "[I", Cond.fieldLink RX10 246 "MilkRound$Course" "knownMinutes" "[I", Cond.methodLink RX10 178 yX8_go, Cond.instanceMethod yX8_go, Cond.selects RX8 yX8_go yX8_go, Cond.initialized RX8, Cond.code yX8_go cX8_go 7 none, Cond.fieldLink RX8 19 "MilkRound$Walk" "street" "LMilkRound$Street;", Cond.fieldLink RX8 23 "MilkRound$Street" "size" "I", Cond.fieldLink RX8 9 "MilkRound$Walk" "came" "[I", Cond.fieldLink RX8 15 "MilkRound$Walk" "minutesOfAll" "I"]
noncomputable def wsX10_leastSet_r2 : List Cond := [Cond.methodLink RX8 28 yX6_has, Cond.instanceMethod yX6_has, Cond.selects RX6 yX6_has yX6_has, Cond.initialized RX6, Cond.code yX6_has cX6_has 2 (some .boolean), Cond.fieldLink RX6 44 "MilkRound$Street" "size" "I", Cond.methodLink RX8 32 yX6_reading, Cond.instanceMethod yX6_reading, Cond.selects RX6 yX6_reading yX6_reading, Cond.code yX6_reading cX6_reading 5 (some .int), Cond.fieldLink RX6 40 "MilkRound$Street" "houses" "[LMilkRound$House;", Cond.methodLink RX6 67 ⟨"MilkRound$House", "minutesFor", "(I)I"⟩, Cond.sameMethod "MilkRound$House" "MilkRound$House" "minutesFor" "(I)I", Cond.instanceMethod ⟨"MilkRound$House", "minutesFor", "(I)I"⟩, Cond.selects RX0 ⟨"MilkRound$House", "minutesFor", "(I)I"⟩ yX0_minutesFor, Cond.instanceMethod yX0_minutesFor, Cond.initialized RX0, Cond.code yX0_minutesFor cX0_minutesFor 2 (some .int), Cond.code yX3_minutesFor cX3_minutesFor 2 (some .int), Cond.selects RX1 ⟨"MilkRound$House", "minutesFor", "(I)I"⟩ yX1_minutesFor, Cond.instanceMethod yX1_minutesFor, Cond.initialized RX1, Cond.code yX1_minutesFor cX1_minutesFor 2 (some .int), Cond.methodLink RX6 67 yX3_minutesFor]
noncomputable def wsX10_leastSet_r3 : List Cond := [Cond.instanceMethod yX3_minutesFor, Cond.selects RX3 yX3_minutesFor yX3_minutesFor, Cond.initialized RX3, Cond.selects RX5 ⟨"MilkRound$House", "minutesFor", "(I)I"⟩ yX5_minutesFor, Cond.instanceMethod yX5_minutesFor, Cond.initialized RX5, Cond.code yX5_minutesFor cX5_minutesFor 2 (some .int), Cond.selects RX9 ⟨"MilkRound$House", "minutesFor", "(I)I"⟩ yX9_minutesFor, Cond.instanceMethod yX9_minutesFor, Cond.initialized RX9, Cond.code yX9_minutesFor cX9_minutesFor 2 (some .int), Cond.methodLink RX9 7 yX5_minutesFor, Cond.sameMethod "MilkRound$Sea" "MilkRound$Sea" "minutesFor" "(I)I", Cond.superclass RX9 RX5, Cond.static yX10_bitOf, Cond.code yX10_bitOf cX10_bitOf 2 (some .int), Cond.methodLink RX10 94 yX6_has]
noncomputable def wsX10_leastSet : List Cond := .code yX10_leastSet cX10_leastSet 2 (some .int) :: ((wsX10_leastSet_r1 ++ (wsX10_leastSet_r2 ++ wsX10_leastSet_r3)) ++ wsX100 ++ wsX60 ++ wsX20 ++ wsX80)
noncomputable def wsX10_sets_r1 : List Cond := [Cond.methodLink RX10 130 yX10_hasNoRound, Cond.instanceMethod yX10_hasNoRound, Cond.selects RX10 yX10_hasNoRound yX10_hasNoRound, Cond.initialized RX10, Cond.code yX10_hasNoRound cX10_hasNoRound 1 (some .boolean), Cond.fieldLink RX10 19 "MilkRound" "street" "LMilkRound$Street;", Cond.fieldLink RX10 89 "MilkRound$Street" "size" "I", Cond.methodLink RX10 166 yX10_howManySets, Cond.instanceMethod yX10_howManySets, Cond.selects RX10 yX10_howManySets yX10_howManySets, Cond.code yX10_howManySets cX10_howManySets 3 (some .int), Cond.methodLink RX10 249 yX10_canHaveBeen, Cond.instanceMethod yX10_canHaveBeen, Cond.selects RX10 yX10_canHaveBeen yX10_canHaveBeen, Cond.code yX10_canHaveBeen cX10_canHaveBeen 4 (some .boolean), Cond.fieldLink RX10 38 "MilkRound" "walk" "LMilkRound$Walk;", Cond.fieldLink RX10 26 "MilkRound" "now" "LMilkRound$Course;", Cond.fieldLink RX10 110 "MilkRound$Course" "lengths" "[I", Cond.fieldLink RX10 123 "MilkRound$Course" "order" "[I", Cond.fieldLink RX10 163 "MilkRound$Course" "knownSize" "I", Cond.fieldLink RX10 243 "MilkRound$Course" "knownHouses" "[I", Cond.fieldLink RX10 204 "MilkRound$Walk" "came" "[I", Cond.fieldLink RX10 246 "MilkRound$Course" "knownMinutes" "[I", Cond.methodLink RX10 178 yX8_go]
noncomputable def wsX10_sets_r2 : List Cond := [Cond.instanceMethod yX8_go, Cond.selects RX8 yX8_go yX8_go, Cond.initialized RX8, Cond.code yX8_go cX8_go 7 none, Cond.fieldLink RX8 19 "MilkRound$Walk" "street" "LMilkRound$Street;", Cond.fieldLink RX8 23 "MilkRound$Street" "size" "I", Cond.fieldLink RX8 9 "MilkRound$Walk" "came" "[I", Cond.fieldLink RX8 15 "MilkRound$Walk" "minutesOfAll" "I", Cond.methodLink RX8 28 yX6_has, Cond.instanceMethod yX6_has, Cond.selects RX6 yX6_has yX6_has, Cond.initialized RX6, Cond.code yX6_has cX6_has 2 (some .boolean), Cond.fieldLink RX6 44 "MilkRound$Street" "size" "I", Cond.methodLink RX8 32 yX6_reading, Cond.instanceMethod yX6_reading, Cond.selects RX6 yX6_reading yX6_reading, Cond.code yX6_reading cX6_reading 5 (some .int), Cond.fieldLink RX6 40 "MilkRound$Street" "houses" "[LMilkRound$House;", Cond.methodLink RX6 67 ⟨"MilkRound$House", "minutesFor", "(I)I"⟩, Cond.sameMethod "MilkRound$House" "MilkRound$House" "minutesFor" "(I)I", Cond.instanceMethod ⟨"MilkRound$House", "minutesFor", "(I)I"⟩, Cond.selects RX0 ⟨"MilkRound$House", "minutesFor", "(I)I"⟩ yX0_minutesFor, Cond.instanceMethod yX0_minutesFor]
noncomputable def wsX10_sets_r3 : List Cond := [Cond.initialized RX0, Cond.code yX0_minutesFor cX0_minutesFor 2 (some .int), Cond.code yX3_minutesFor cX3_minutesFor 2 (some .int), Cond.selects RX1 ⟨"MilkRound$House", "minutesFor", "(I)I"⟩ yX1_minutesFor, Cond.instanceMethod yX1_minutesFor, Cond.initialized RX1, Cond.code yX1_minutesFor cX1_minutesFor 2 (some .int), Cond.methodLink RX6 67 yX3_minutesFor, Cond.instanceMethod yX3_minutesFor, Cond.selects RX3 yX3_minutesFor yX3_minutesFor, Cond.initialized RX3, Cond.selects RX5 ⟨"MilkRound$House", "minutesFor", "(I)I"⟩ yX5_minutesFor, Cond.instanceMethod yX5_minutesFor, Cond.initialized RX5, Cond.code yX5_minutesFor cX5_minutesFor 2 (some .int), Cond.selects RX9 ⟨"MilkRound$House", "minutesFor", "(I)I"⟩ yX9_minutesFor, Cond.instanceMethod yX9_minutesFor, Cond.initialized RX9, Cond.code yX9_minutesFor cX9_minutesFor 2 (some .int), Cond.methodLink RX9 7 yX5_minutesFor, Cond.sameMethod "MilkRound$Sea" "MilkRound$Sea" "minutesFor" "(I)I", Cond.superclass RX9 RX5, Cond.static yX10_bitOf, Cond.code yX10_bitOf cX10_bitOf 2 (some .int)]
noncomputable def wsX10_sets_r4 : List Cond := [Cond.methodLink RX10 94 yX6_has, Cond.methodLink RX10 169 yX10_leastSet, Cond.instanceMethod yX10_leastSet, Cond.selects RX10 yX10_leastSet yX10_leastSet, Cond.code yX10_leastSet cX10_leastSet 2 (some .int)]
noncomputable def wsX10_sets : List Cond := .code yX10_sets cX10_sets 2 (some .int) :: ((wsX10_sets_r1 ++ (wsX10_sets_r2 ++ (wsX10_sets_r3 ++ wsX10_sets_r4))) ++ wsX100 ++ wsX60 ++ wsX20 ++ wsX80)
noncomputable def wsX10_houseToAsk_r1 : List Cond := [Cond.fieldLink RX10 55 "MilkRound" "tally" "LMilkRound$Tally;", Cond.fieldLink RX10 19 "MilkRound" "street" "LMilkRound$Street;", Cond.fieldLink RX10 89 "MilkRound$Street" "size" "I", Cond.fieldLink RX10 38 "MilkRound" "walk" "LMilkRound$Walk;", Cond.fieldLink RX10 204 "MilkRound$Walk" "came" "[I", Cond.methodLink RX10 252 yX7_clear, Cond.instanceMethod yX7_clear, Cond.selects RX7 yX7_clear yX7_clear, Cond.initialized RX7, Cond.code yX7_clear cX7_clear 3 none, Cond.fieldLink RX7 16 "MilkRound$Tally" "worst" "[I", Cond.fieldLink RX7 11 "MilkRound$Tally" "left" "[[I", Cond.methodLink RX10 249 yX10_canHaveBeen, Cond.instanceMethod yX10_canHaveBeen, Cond.selects RX10 yX10_canHaveBeen yX10_canHaveBeen, Cond.initialized RX10, Cond.code yX10_canHaveBeen cX10_canHaveBeen 4 (some .boolean), Cond.fieldLink RX10 26 "MilkRound" "now" "LMilkRound$Course;", Cond.fieldLink RX10 110 "MilkRound$Course" "lengths" "[I", Cond.fieldLink RX10 123 "MilkRound$Course" "order" "[I", Cond.fieldLink RX10 163 "MilkRound$Course" "knownSize" "I", Cond.fieldLink RX10 243 "MilkRound$Course" "knownHouses" "[I", Cond.fieldLink RX10 246 "MilkRound$Course" "knownMinutes" "[I", Cond.methodLink RX10 178 yX8_go]
noncomputable def wsX10_houseToAsk_r2 : List Cond := [Cond.instanceMethod yX8_go, Cond.selects RX8 yX8_go yX8_go, Cond.initialized RX8, Cond.code yX8_go cX8_go 7 none, Cond.fieldLink RX8 19 "MilkRound$Walk" "street" "LMilkRound$Street;", Cond.fieldLink RX8 23 "MilkRound$Street" "size" "I", Cond.fieldLink RX8 9 "MilkRound$Walk" "came" "[I", Cond.fieldLink RX8 15 "MilkRound$Walk" "minutesOfAll" "I", Cond.methodLink RX8 28 yX6_has, Cond.instanceMethod yX6_has, Cond.selects RX6 yX6_has yX6_has, Cond.initialized RX6, Cond.code yX6_has cX6_has 2 (some .boolean), Cond.fieldLink RX6 44 "MilkRound$Street" "size" "I", Cond.methodLink RX8 32 yX6_reading, Cond.instanceMethod yX6_reading, Cond.selects RX6 yX6_reading yX6_reading, Cond.code yX6_reading cX6_reading 5 (some .int), Cond.fieldLink RX6 40 "MilkRound$Street" "houses" "[LMilkRound$House;", Cond.methodLink RX6 67 ⟨"MilkRound$House", "minutesFor", "(I)I"⟩, Cond.sameMethod "MilkRound$House" "MilkRound$House" "minutesFor" "(I)I", Cond.instanceMethod ⟨"MilkRound$House", "minutesFor", "(I)I"⟩, Cond.selects RX0 ⟨"MilkRound$House", "minutesFor", "(I)I"⟩ yX0_minutesFor, Cond.instanceMethod yX0_minutesFor]
noncomputable def wsX10_houseToAsk_r3 : List Cond := [Cond.initialized RX0, Cond.code yX0_minutesFor cX0_minutesFor 2 (some .int), Cond.code yX3_minutesFor cX3_minutesFor 2 (some .int), Cond.selects RX1 ⟨"MilkRound$House", "minutesFor", "(I)I"⟩ yX1_minutesFor, Cond.instanceMethod yX1_minutesFor, Cond.initialized RX1, Cond.code yX1_minutesFor cX1_minutesFor 2 (some .int), Cond.methodLink RX6 67 yX3_minutesFor, Cond.instanceMethod yX3_minutesFor, Cond.selects RX3 yX3_minutesFor yX3_minutesFor, Cond.initialized RX3, Cond.selects RX5 ⟨"MilkRound$House", "minutesFor", "(I)I"⟩ yX5_minutesFor, Cond.instanceMethod yX5_minutesFor, Cond.initialized RX5, Cond.code yX5_minutesFor cX5_minutesFor 2 (some .int), Cond.selects RX9 ⟨"MilkRound$House", "minutesFor", "(I)I"⟩ yX9_minutesFor, Cond.instanceMethod yX9_minutesFor, Cond.initialized RX9, Cond.code yX9_minutesFor cX9_minutesFor 2 (some .int), Cond.methodLink RX9 7 yX5_minutesFor, Cond.sameMethod "MilkRound$Sea" "MilkRound$Sea" "minutesFor" "(I)I", Cond.superclass RX9 RX5, Cond.static yX10_bitOf, Cond.code yX10_bitOf cX10_bitOf 2 (some .int)]
noncomputable def wsX10_houseToAsk_r4 : List Cond := [Cond.methodLink RX10 94 yX6_has, Cond.methodLink RX10 255 yX7_add, Cond.instanceMethod yX7_add, Cond.selects RX7 yX7_add yX7_add, Cond.code yX7_add cX7_add 5 none, Cond.methodLink RX7 20 Lib.Math.max.name, Cond.static Lib.Math.max.name, Cond.initialized "java/lang/Math", Cond.code Lib.Math.max.name Lib.Math.max.code 2 (some .int), Cond.methodLink RX10 258 yX7_houseOfLeastWorst, Cond.instanceMethod yX7_houseOfLeastWorst, Cond.selects RX7 yX7_houseOfLeastWorst yX7_houseOfLeastWorst, Cond.code yX7_houseOfLeastWorst cX7_houseOfLeastWorst 4 (some .int)]
noncomputable def wsX10_houseToAsk : List Cond := .code yX10_houseToAsk cX10_houseToAsk 3 (some .int) :: ((wsX10_houseToAsk_r1 ++ (wsX10_houseToAsk_r2 ++ (wsX10_houseToAsk_r3 ++ wsX10_houseToAsk_r4))) ++ wsX100 ++ wsX60 ++ wsX80 ++ wsX70 ++ wsX20)
noncomputable def wsX10_ask_r1 : List Cond := [Cond.methodLink RX10 130 yX10_hasNoRound, Cond.instanceMethod yX10_hasNoRound, Cond.selects RX10 yX10_hasNoRound yX10_hasNoRound, Cond.initialized RX10, Cond.code yX10_hasNoRound cX10_hasNoRound 1 (some .boolean), Cond.fieldLink RX10 19 "MilkRound" "street" "LMilkRound$Street;", Cond.fieldLink RX10 89 "MilkRound$Street" "size" "I", Cond.methodLink RX10 172 yX10_houseToAsk, Cond.instanceMethod yX10_houseToAsk, Cond.selects RX10 yX10_houseToAsk yX10_houseToAsk, Cond.code yX10_houseToAsk cX10_houseToAsk 3 (some .int), Cond.fieldLink RX10 55 "MilkRound" "tally" "LMilkRound$Tally;", Cond.fieldLink RX10 38 "MilkRound" "walk" "LMilkRound$Walk;", Cond.fieldLink RX10 204 "MilkRound$Walk" "came" "[I", Cond.methodLink RX10 252 yX7_clear, Cond.instanceMethod yX7_clear, Cond.selects RX7 yX7_clear yX7_clear, Cond.initialized RX7, Cond.code yX7_clear cX7_clear 3 none, Cond.fieldLink RX7 16 "MilkRound$Tally" "worst" "[I", Cond.fieldLink RX7 11 "MilkRound$Tally" "left" "[[I", Cond.methodLink RX10 249 yX10_canHaveBeen, Cond.instanceMethod yX10_canHaveBeen, Cond.selects RX10 yX10_canHaveBeen yX10_canHaveBeen]
noncomputable def wsX10_ask_r2 : List Cond := [Cond.code yX10_canHaveBeen cX10_canHaveBeen 4 (some .boolean), Cond.fieldLink RX10 26 "MilkRound" "now" "LMilkRound$Course;", Cond.fieldLink RX10 110 "MilkRound$Course" "lengths" "[I", Cond.fieldLink RX10 123 "MilkRound$Course" "order" "[I", Cond.fieldLink RX10 163 "MilkRound$Course" "knownSize" "I", Cond.fieldLink RX10 243 "MilkRound$Course" "knownHouses" "[I", Cond.fieldLink RX10 246 "MilkRound$Course" "knownMinutes" "[I", Cond.methodLink RX10 178 yX8_go, Cond.instanceMethod yX8_go, Cond.selects RX8 yX8_go yX8_go, Cond.initialized RX8, Cond.code yX8_go cX8_go 7 none, Cond.fieldLink RX8 19 "MilkRound$Walk" "street" "LMilkRound$Street;", Cond.fieldLink RX8 23 "MilkRound$Street" "size" "I", Cond.fieldLink RX8 9 "MilkRound$Walk" "came" "[I", Cond.fieldLink RX8 15 "MilkRound$Walk" "minutesOfAll" "I", Cond.methodLink RX8 28 yX6_has, Cond.instanceMethod yX6_has, Cond.selects RX6 yX6_has yX6_has, Cond.initialized RX6, Cond.code yX6_has cX6_has 2 (some .boolean), Cond.fieldLink RX6 44 "MilkRound$Street" "size" "I", Cond.methodLink RX8 32 yX6_reading, Cond.instanceMethod yX6_reading]
noncomputable def wsX10_ask_r3 : List Cond := [Cond.selects RX6 yX6_reading yX6_reading, Cond.code yX6_reading cX6_reading 5 (some .int), Cond.fieldLink RX6 40 "MilkRound$Street" "houses" "[LMilkRound$House;", Cond.methodLink RX6 67 ⟨"MilkRound$House", "minutesFor", "(I)I"⟩, Cond.sameMethod "MilkRound$House" "MilkRound$House" "minutesFor" "(I)I", Cond.instanceMethod ⟨"MilkRound$House", "minutesFor", "(I)I"⟩, Cond.selects RX0 ⟨"MilkRound$House", "minutesFor", "(I)I"⟩ yX0_minutesFor, Cond.instanceMethod yX0_minutesFor, Cond.initialized RX0, Cond.code yX0_minutesFor cX0_minutesFor 2 (some .int), Cond.code yX3_minutesFor cX3_minutesFor 2 (some .int), Cond.selects RX1 ⟨"MilkRound$House", "minutesFor", "(I)I"⟩ yX1_minutesFor, Cond.instanceMethod yX1_minutesFor, Cond.initialized RX1, Cond.code yX1_minutesFor cX1_minutesFor 2 (some .int), Cond.methodLink RX6 67 yX3_minutesFor, Cond.instanceMethod yX3_minutesFor, Cond.selects RX3 yX3_minutesFor yX3_minutesFor, Cond.initialized RX3, Cond.selects RX5 ⟨"MilkRound$House", "minutesFor", "(I)I"⟩ yX5_minutesFor, Cond.instanceMethod yX5_minutesFor, Cond.initialized RX5, Cond.code yX5_minutesFor cX5_minutesFor 2 (some .int), Cond.selects RX9 ⟨"MilkRound$House", "minutesFor", "(I)I"⟩ yX9_minutesFor]
noncomputable def wsX10_ask_r4 : List Cond := [Cond.instanceMethod yX9_minutesFor, Cond.initialized RX9, Cond.code yX9_minutesFor cX9_minutesFor 2 (some .int), Cond.methodLink RX9 7 yX5_minutesFor, Cond.sameMethod "MilkRound$Sea" "MilkRound$Sea" "minutesFor" "(I)I", Cond.superclass RX9 RX5, Cond.static yX10_bitOf, Cond.code yX10_bitOf cX10_bitOf 2 (some .int), Cond.methodLink RX10 94 yX6_has, Cond.methodLink RX10 255 yX7_add, Cond.instanceMethod yX7_add, Cond.selects RX7 yX7_add yX7_add, Cond.code yX7_add cX7_add 5 none, Cond.methodLink RX7 20 Lib.Math.max.name, Cond.static Lib.Math.max.name, Cond.initialized "java/lang/Math", Cond.code Lib.Math.max.name Lib.Math.max.code 2 (some .int), Cond.methodLink RX10 258 yX7_houseOfLeastWorst, Cond.instanceMethod yX7_houseOfLeastWorst, Cond.selects RX7 yX7_houseOfLeastWorst yX7_houseOfLeastWorst, Cond.code yX7_houseOfLeastWorst cX7_houseOfLeastWorst 4 (some .int)]
noncomputable def wsX10_ask : List Cond := .code yX10_ask cX10_ask 1 (some .int) :: ((wsX10_ask_r1 ++ (wsX10_ask_r2 ++ (wsX10_ask_r3 ++ wsX10_ask_r4))) ++ wsX100 ++ wsX60 ++ wsX80 ++ wsX70 ++ wsX20)
noncomputable def wsX10_drawTrialLengths : List Cond := .code yX10_drawTrialLengths cX10_drawTrialLengths 5 (some .int) :: ([.fieldLink RX10 19 "MilkRound" "street" "LMilkRound$Street;", .fieldLink RX10 89 "MilkRound$Street" "size" "I", .constantLong RX10 261 (1103515245), .constantLong RX10 263 (12345), .constantLong RX10 265 (2147483648), .fieldLink RX10 42 "MilkRound" "trialLengths" "[I", .constantLong RX10 267 (65536), .constantLong RX10 269 (10)] ++ wsX100 ++ wsX60)
noncomputable def wsX10_weeks_r1 : List Cond := [Cond.fieldLink RX10 38 "MilkRound" "walk" "LMilkRound$Walk;", Cond.fieldLink RX10 42 "MilkRound" "trialLengths" "[I", Cond.fieldLink RX10 26 "MilkRound" "now" "LMilkRound$Course;", Cond.fieldLink RX10 123 "MilkRound$Course" "order" "[I", Cond.fieldLink RX10 113 "MilkRound$Course" "leftOut" "I", Cond.methodLink RX10 130 yX10_hasNoRound, Cond.instanceMethod yX10_hasNoRound, Cond.selects RX10 yX10_hasNoRound yX10_hasNoRound, Cond.initialized RX10, Cond.code yX10_hasNoRound cX10_hasNoRound 1 (some .boolean), Cond.fieldLink RX10 19 "MilkRound" "street" "LMilkRound$Street;", Cond.fieldLink RX10 89 "MilkRound$Street" "size" "I", Cond.methodLink RX10 175 yX10_drawTrialLengths, Cond.instanceMethod yX10_drawTrialLengths, Cond.selects RX10 yX10_drawTrialLengths yX10_drawTrialLengths, Cond.code yX10_drawTrialLengths cX10_drawTrialLengths 5 (some .int), Cond.constantLong RX10 261 (1103515245), Cond.constantLong RX10 263 (12345), Cond.constantLong RX10 265 (2147483648), Cond.constantLong RX10 267 (65536), Cond.constantLong RX10 269 (10), Cond.methodLink RX10 178 yX8_go, Cond.instanceMethod yX8_go, Cond.selects RX8 yX8_go yX8_go]
noncomputable def wsX10_weeks_r2 : List Cond := [Cond.initialized RX8, Cond.code yX8_go cX8_go 7 none, Cond.fieldLink RX8 19 "MilkRound$Walk" "street" "LMilkRound$Street;", Cond.fieldLink RX8 23 "MilkRound$Street" "size" "I", Cond.fieldLink RX8 9 "MilkRound$Walk" "came" "[I", Cond.fieldLink RX8 15 "MilkRound$Walk" "minutesOfAll" "I", Cond.methodLink RX8 28 yX6_has, Cond.instanceMethod yX6_has, Cond.selects RX6 yX6_has yX6_has, Cond.initialized RX6, Cond.code yX6_has cX6_has 2 (some .boolean), Cond.fieldLink RX6 44 "MilkRound$Street" "size" "I", Cond.methodLink RX8 32 yX6_reading, Cond.instanceMethod yX6_reading, Cond.selects RX6 yX6_reading yX6_reading, Cond.code yX6_reading cX6_reading 5 (some .int), Cond.fieldLink RX6 40 "MilkRound$Street" "houses" "[LMilkRound$House;", Cond.methodLink RX6 67 ⟨"MilkRound$House", "minutesFor", "(I)I"⟩, Cond.sameMethod "MilkRound$House" "MilkRound$House" "minutesFor" "(I)I", Cond.instanceMethod ⟨"MilkRound$House", "minutesFor", "(I)I"⟩, Cond.selects RX0 ⟨"MilkRound$House", "minutesFor", "(I)I"⟩ yX0_minutesFor, Cond.instanceMethod yX0_minutesFor, Cond.initialized RX0, Cond.code yX0_minutesFor cX0_minutesFor 2 (some .int)]
noncomputable def wsX10_weeks_r3 : List Cond := [Cond.code yX3_minutesFor cX3_minutesFor 2 (some .int), Cond.selects RX1 ⟨"MilkRound$House", "minutesFor", "(I)I"⟩ yX1_minutesFor, Cond.instanceMethod yX1_minutesFor, Cond.initialized RX1, Cond.code yX1_minutesFor cX1_minutesFor 2 (some .int), Cond.methodLink RX6 67 yX3_minutesFor, Cond.instanceMethod yX3_minutesFor, Cond.selects RX3 yX3_minutesFor yX3_minutesFor, Cond.initialized RX3, Cond.selects RX5 ⟨"MilkRound$House", "minutesFor", "(I)I"⟩ yX5_minutesFor, Cond.instanceMethod yX5_minutesFor, Cond.initialized RX5, Cond.code yX5_minutesFor cX5_minutesFor 2 (some .int), Cond.selects RX9 ⟨"MilkRound$House", "minutesFor", "(I)I"⟩ yX9_minutesFor, Cond.instanceMethod yX9_minutesFor, Cond.initialized RX9, Cond.code yX9_minutesFor cX9_minutesFor 2 (some .int), Cond.methodLink RX9 7 yX5_minutesFor, Cond.sameMethod "MilkRound$Sea" "MilkRound$Sea" "minutesFor" "(I)I", Cond.superclass RX9 RX5, Cond.static yX10_bitOf, Cond.code yX10_bitOf cX10_bitOf 2 (some .int), Cond.methodLink RX10 136 yX8_sourHouses, Cond.instanceMethod yX8_sourHouses]
noncomputable def wsX10_weeks_r4 : List Cond := [Cond.selects RX8 yX8_sourHouses yX8_sourHouses, Cond.code yX8_sourHouses cX8_sourHouses 3 (some .int), Cond.methodLink RX8 57 yX8_isSour, Cond.instanceMethod yX8_isSour, Cond.selects RX8 yX8_isSour yX8_isSour, Cond.code yX8_isSour cX8_isSour 2 (some .boolean), Cond.fieldLink RX8 36 "MilkRound$Street" "houses" "[LMilkRound$House;", Cond.fieldLink RX8 46 "MilkRound$Street" "keep" "I", Cond.methodLink RX8 40 ⟨"MilkRound$House", "timesKeep", "()I"⟩, Cond.sameMethod "MilkRound$House" "MilkRound$House" "timesKeep" "()I", Cond.instanceMethod ⟨"MilkRound$House", "timesKeep", "()I"⟩, Cond.selects RX0 ⟨"MilkRound$House", "timesKeep", "()I"⟩ yX0_timesKeep, Cond.instanceMethod yX0_timesKeep, Cond.code yX0_timesKeep cX0_timesKeep 1 (some .int), Cond.code yX3_timesKeep cX3_timesKeep 1 (some .int), Cond.selects RX1 ⟨"MilkRound$House", "timesKeep", "()I"⟩ yX3_timesKeep, Cond.instanceMethod yX3_timesKeep, Cond.methodLink RX8 40 yX3_timesKeep, Cond.selects RX3 yX3_timesKeep yX3_timesKeep, Cond.selects RX5 ⟨"MilkRound$House", "timesKeep", "()I"⟩ yX3_timesKeep, Cond.selects RX9 ⟨"MilkRound$House", "timesKeep", "()I"⟩ yX3_timesKeep, Cond.methodLink RX10 139 yX8_hearingHouses, Cond.instanceMethod yX8_hearingHouses, Cond.selects RX8 yX8_hearingHouses yX8_hearingHouses]
noncomputable def wsX10_weeks_r5 : List Cond := [Cond.code yX8_hearingHouses cX8_hearingHouses 3 (some .int), Cond.methodLink RX8 60 yX8_hears, Cond.instanceMethod yX8_hears, Cond.selects RX8 yX8_hears yX8_hears, Cond.code yX8_hears cX8_hears 2 (some .boolean), Cond.methodLink RX8 49 ⟨"MilkRound$House", "listens", "()Z"⟩, Cond.sameMethod "MilkRound$House" "MilkRound$House" "listens" "()Z", Cond.instanceMethod ⟨"MilkRound$House", "listens", "()Z"⟩, Cond.selects RX0 ⟨"MilkRound$House", "listens", "()Z"⟩ yX0_listens, Cond.instanceMethod yX0_listens, Cond.code yX0_listens cX0_listens 1 (some .boolean), Cond.code yX3_listens cX3_listens 1 (some .boolean), Cond.selects RX1 ⟨"MilkRound$House", "listens", "()Z"⟩ yX3_listens, Cond.instanceMethod yX3_listens, Cond.methodLink RX8 49 yX3_listens, Cond.selects RX3 yX3_listens yX3_listens, Cond.selects RX5 ⟨"MilkRound$House", "listens", "()Z"⟩ yX3_listens, Cond.selects RX9 ⟨"MilkRound$House", "listens", "()Z"⟩ yX3_listens, Cond.methodLink RX8 53 yX8_isAhead, Cond.instanceMethod yX8_isAhead, Cond.selects RX8 yX8_isAhead yX8_isAhead, Cond.code yX8_isAhead cX8_isAhead 3 (some .boolean)]
noncomputable def wsX10_weeks : List Cond := .code yX10_weeks cX10_weeks 8 (some .int) :: ((wsX10_weeks_r1 ++ (wsX10_weeks_r2 ++ (wsX10_weeks_r3 ++ (wsX10_weeks_r4 ++ wsX10_weeks_r5)))) ++ wsX100 ++ wsX20 ++ wsX60 ++ wsX80)
noncomputable def wsX10_image_r1 : List Cond := [Cond.fieldLink RX10 30 "MilkRound" "kept" "LMilkRound$Course;", Cond.fieldLink RX10 26 "MilkRound" "now" "LMilkRound$Course;", Cond.fieldLink RX10 59 "MilkRound" "hasImage" "Z", Cond.fieldLink RX10 142 "MilkRound$Course" "days" "I", Cond.methodLink RX10 130 yX10_hasNoRound, Cond.instanceMethod yX10_hasNoRound, Cond.selects RX10 yX10_hasNoRound yX10_hasNoRound, Cond.initialized RX10, Cond.code yX10_hasNoRound cX10_hasNoRound 1 (some .boolean), Cond.fieldLink RX10 19 "MilkRound" "street" "LMilkRound$Street;", Cond.fieldLink RX10 89 "MilkRound$Street" "size" "I", Cond.methodLink RX10 182 yX2_copyFrom, Cond.instanceMethod yX2_copyFrom, Cond.selects RX2 yX2_copyFrom yX2_copyFrom, Cond.initialized RX2, Cond.code yX2_copyFrom cX2_copyFrom 2 none, Cond.fieldLink RX2 9 "MilkRound$Course" "lengths" "[I", Cond.methodLink RX2 46 arraycopyName, Cond.native arraycopyName, Cond.static arraycopyName, Cond.initialized "java/lang/System", Cond.fieldLink RX2 15 "MilkRound$Course" "order" "[I", Cond.fieldLink RX2 18 "MilkRound$Course" "knownHouses" "[I", Cond.fieldLink RX2 21 "MilkRound$Course" "knownMinutes" "[I"]
noncomputable def wsX10_image_r2 : List Cond := [Cond.fieldLink RX2 24 "MilkRound$Course" "knownSize" "I", Cond.fieldLink RX2 28 "MilkRound$Course" "leftOut" "I", Cond.fieldLink RX2 31 "MilkRound$Course" "days" "I", Cond.fieldLink RX2 34 "MilkRound$Course" "soured" "I", Cond.fieldLink RX2 37 "MilkRound$Course" "heard" "I"]
noncomputable def wsX10_image : List Cond := .code yX10_image cX10_image 1 (some .int) :: ((wsX10_image_r1 ++ wsX10_image_r2) ++ wsX100 ++ wsX20 ++ wsX60)
noncomputable def wsX10_restore : List Cond := .code yX10_restore cX10_restore 1 (some .int) :: ([.fieldLink RX10 59 "MilkRound" "hasImage" "Z", .fieldLink RX10 26 "MilkRound" "now" "LMilkRound$Course;", .fieldLink RX10 30 "MilkRound" "kept" "LMilkRound$Course;", .fieldLink RX10 142 "MilkRound$Course" "days" "I", .methodLink RX10 182 yX2_copyFrom, .instanceMethod yX2_copyFrom, .selects RX2 yX2_copyFrom yX2_copyFrom, .initialized RX2, .code yX2_copyFrom cX2_copyFrom 2 none, .fieldLink RX2 9 "MilkRound$Course" "lengths" "[I", .methodLink RX2 46 arraycopyName, .native arraycopyName, .static arraycopyName, .initialized "java/lang/System", .fieldLink RX2 15 "MilkRound$Course" "order" "[I", .fieldLink RX2 18 "MilkRound$Course" "knownHouses" "[I", .fieldLink RX2 21 "MilkRound$Course" "knownMinutes" "[I", .fieldLink RX2 24 "MilkRound$Course" "knownSize" "I", .fieldLink RX2 28 "MilkRound$Course" "leftOut" "I", .fieldLink RX2 31 "MilkRound$Course" "days" "I", .fieldLink RX2 34 "MilkRound$Course" "soured" "I", .fieldLink RX2 37 "MilkRound$Course" "heard" "I"] ++ wsX100 ++ wsX20)
noncomputable def wsX10_toldOfAll_r1 : List Cond := [Cond.fieldLink RX10 19 "MilkRound" "street" "LMilkRound$Street;", Cond.fieldLink RX10 89 "MilkRound$Street" "size" "I", Cond.fieldLink RX10 216 "MilkRound$Street" "keep" "I", Cond.fieldLink RX10 26 "MilkRound" "now" "LMilkRound$Course;", Cond.fieldLink RX10 142 "MilkRound$Course" "days" "I", Cond.fieldLink RX10 145 "MilkRound$Course" "soured" "I", Cond.fieldLink RX10 148 "MilkRound$Course" "heard" "I", Cond.fieldLink RX10 38 "MilkRound" "walk" "LMilkRound$Walk;", Cond.fieldLink RX10 219 "MilkRound$Walk" "minutesOfAll" "I", Cond.fieldLink RX10 163 "MilkRound$Course" "knownSize" "I", Cond.fieldLink RX10 10 "MilkRound" "page" "LMilkRound$Page;", Cond.fieldLink RX10 74 "MilkRound$Page" "size" "I", Cond.fieldLink RX10 63 "MilkRound" "roundsRead" "I", Cond.fieldLink RX10 67 "MilkRound" "searches" "I", Cond.methodLink RX10 133 yX10_walkAsItIs, Cond.instanceMethod yX10_walkAsItIs, Cond.selects RX10 yX10_walkAsItIs yX10_walkAsItIs, Cond.initialized RX10, Cond.code yX10_walkAsItIs cX10_walkAsItIs 1 none, Cond.fieldLink RX10 110 "MilkRound$Course" "lengths" "[I", Cond.fieldLink RX10 123 "MilkRound$Course" "order" "[I", Cond.fieldLink RX10 113 "MilkRound$Course" "leftOut" "I", Cond.methodLink RX10 178 yX8_go, Cond.instanceMethod yX8_go]
noncomputable def wsX10_toldOfAll_r2 : List Cond := [Cond.selects RX8 yX8_go yX8_go, Cond.initialized RX8, Cond.code yX8_go cX8_go 7 none, Cond.fieldLink RX8 19 "MilkRound$Walk" "street" "LMilkRound$Street;", Cond.fieldLink RX8 23 "MilkRound$Street" "size" "I", Cond.fieldLink RX8 9 "MilkRound$Walk" "came" "[I", Cond.fieldLink RX8 15 "MilkRound$Walk" "minutesOfAll" "I", Cond.methodLink RX8 28 yX6_has, Cond.instanceMethod yX6_has, Cond.selects RX6 yX6_has yX6_has, Cond.initialized RX6, Cond.code yX6_has cX6_has 2 (some .boolean), Cond.fieldLink RX6 44 "MilkRound$Street" "size" "I", Cond.methodLink RX8 32 yX6_reading, Cond.instanceMethod yX6_reading, Cond.selects RX6 yX6_reading yX6_reading, Cond.code yX6_reading cX6_reading 5 (some .int), Cond.fieldLink RX6 40 "MilkRound$Street" "houses" "[LMilkRound$House;", Cond.methodLink RX6 67 ⟨"MilkRound$House", "minutesFor", "(I)I"⟩, Cond.sameMethod "MilkRound$House" "MilkRound$House" "minutesFor" "(I)I", Cond.instanceMethod ⟨"MilkRound$House", "minutesFor", "(I)I"⟩, Cond.selects RX0 ⟨"MilkRound$House", "minutesFor", "(I)I"⟩ yX0_minutesFor, Cond.instanceMethod yX0_minutesFor, Cond.initialized RX0]
noncomputable def wsX10_toldOfAll_r3 : List Cond := [Cond.code yX0_minutesFor cX0_minutesFor 2 (some .int), Cond.code yX3_minutesFor cX3_minutesFor 2 (some .int), Cond.selects RX1 ⟨"MilkRound$House", "minutesFor", "(I)I"⟩ yX1_minutesFor, Cond.instanceMethod yX1_minutesFor, Cond.initialized RX1, Cond.code yX1_minutesFor cX1_minutesFor 2 (some .int), Cond.methodLink RX6 67 yX3_minutesFor, Cond.instanceMethod yX3_minutesFor, Cond.selects RX3 yX3_minutesFor yX3_minutesFor, Cond.initialized RX3, Cond.selects RX5 ⟨"MilkRound$House", "minutesFor", "(I)I"⟩ yX5_minutesFor, Cond.instanceMethod yX5_minutesFor, Cond.initialized RX5, Cond.code yX5_minutesFor cX5_minutesFor 2 (some .int), Cond.selects RX9 ⟨"MilkRound$House", "minutesFor", "(I)I"⟩ yX9_minutesFor, Cond.instanceMethod yX9_minutesFor, Cond.initialized RX9, Cond.code yX9_minutesFor cX9_minutesFor 2 (some .int), Cond.methodLink RX9 7 yX5_minutesFor, Cond.sameMethod "MilkRound$Sea" "MilkRound$Sea" "minutesFor" "(I)I", Cond.superclass RX9 RX5, Cond.static yX10_bitOf, Cond.code yX10_bitOf cX10_bitOf 2 (some .int), Cond.methodLink RX10 136 yX8_sourHouses]
noncomputable def wsX10_toldOfAll_r4 : List Cond := [Cond.instanceMethod yX8_sourHouses, Cond.selects RX8 yX8_sourHouses yX8_sourHouses, Cond.code yX8_sourHouses cX8_sourHouses 3 (some .int), Cond.methodLink RX8 57 yX8_isSour, Cond.instanceMethod yX8_isSour, Cond.selects RX8 yX8_isSour yX8_isSour, Cond.code yX8_isSour cX8_isSour 2 (some .boolean), Cond.fieldLink RX8 36 "MilkRound$Street" "houses" "[LMilkRound$House;", Cond.fieldLink RX8 46 "MilkRound$Street" "keep" "I", Cond.methodLink RX8 40 ⟨"MilkRound$House", "timesKeep", "()I"⟩, Cond.sameMethod "MilkRound$House" "MilkRound$House" "timesKeep" "()I", Cond.instanceMethod ⟨"MilkRound$House", "timesKeep", "()I"⟩, Cond.selects RX0 ⟨"MilkRound$House", "timesKeep", "()I"⟩ yX0_timesKeep, Cond.instanceMethod yX0_timesKeep, Cond.code yX0_timesKeep cX0_timesKeep 1 (some .int), Cond.code yX3_timesKeep cX3_timesKeep 1 (some .int), Cond.selects RX1 ⟨"MilkRound$House", "timesKeep", "()I"⟩ yX3_timesKeep, Cond.instanceMethod yX3_timesKeep, Cond.methodLink RX8 40 yX3_timesKeep, Cond.selects RX3 yX3_timesKeep yX3_timesKeep, Cond.selects RX5 ⟨"MilkRound$House", "timesKeep", "()I"⟩ yX3_timesKeep, Cond.selects RX9 ⟨"MilkRound$House", "timesKeep", "()I"⟩ yX3_timesKeep, Cond.methodLink RX10 139 yX8_hearingHouses, Cond.instanceMethod yX8_hearingHouses]
noncomputable def wsX10_toldOfAll_r5 : List Cond := [Cond.selects RX8 yX8_hearingHouses yX8_hearingHouses, Cond.code yX8_hearingHouses cX8_hearingHouses 3 (some .int), Cond.methodLink RX8 60 yX8_hears, Cond.instanceMethod yX8_hears, Cond.selects RX8 yX8_hears yX8_hears, Cond.code yX8_hears cX8_hears 2 (some .boolean), Cond.methodLink RX8 49 ⟨"MilkRound$House", "listens", "()Z"⟩, Cond.sameMethod "MilkRound$House" "MilkRound$House" "listens" "()Z", Cond.instanceMethod ⟨"MilkRound$House", "listens", "()Z"⟩, Cond.selects RX0 ⟨"MilkRound$House", "listens", "()Z"⟩ yX0_listens, Cond.instanceMethod yX0_listens, Cond.code yX0_listens cX0_listens 1 (some .boolean), Cond.code yX3_listens cX3_listens 1 (some .boolean), Cond.selects RX1 ⟨"MilkRound$House", "listens", "()Z"⟩ yX3_listens, Cond.instanceMethod yX3_listens, Cond.methodLink RX8 49 yX3_listens, Cond.selects RX3 yX3_listens yX3_listens, Cond.selects RX5 ⟨"MilkRound$House", "listens", "()Z"⟩ yX3_listens, Cond.selects RX9 ⟨"MilkRound$House", "listens", "()Z"⟩ yX3_listens, Cond.methodLink RX8 53 yX8_isAhead, Cond.instanceMethod yX8_isAhead, Cond.selects RX8 yX8_isAhead yX8_isAhead, Cond.code yX8_isAhead cX8_isAhead 3 (some .boolean)]
noncomputable def wsX10_toldOfAll : List Cond := .code yX10_toldOfAll cX10_toldOfAll 2 (some .int) :: ((wsX10_toldOfAll_r1 ++ (wsX10_toldOfAll_r2 ++ (wsX10_toldOfAll_r3 ++ (wsX10_toldOfAll_r4 ++ wsX10_toldOfAll_r5)))) ++ wsX100 ++ wsX60 ++ wsX20 ++ wsX80 ++ wsX40)
noncomputable def wsX10_count_r1 : List Cond := [Cond.methodLink RX10 186 yX10_toldOfAll, Cond.instanceMethod yX10_toldOfAll, Cond.selects RX10 yX10_toldOfAll yX10_toldOfAll, Cond.initialized RX10, Cond.code yX10_toldOfAll cX10_toldOfAll 2 (some .int), Cond.fieldLink RX10 19 "MilkRound" "street" "LMilkRound$Street;", Cond.fieldLink RX10 89 "MilkRound$Street" "size" "I", Cond.fieldLink RX10 216 "MilkRound$Street" "keep" "I", Cond.fieldLink RX10 26 "MilkRound" "now" "LMilkRound$Course;", Cond.fieldLink RX10 142 "MilkRound$Course" "days" "I", Cond.fieldLink RX10 145 "MilkRound$Course" "soured" "I", Cond.fieldLink RX10 148 "MilkRound$Course" "heard" "I", Cond.fieldLink RX10 38 "MilkRound" "walk" "LMilkRound$Walk;", Cond.fieldLink RX10 219 "MilkRound$Walk" "minutesOfAll" "I", Cond.fieldLink RX10 163 "MilkRound$Course" "knownSize" "I", Cond.fieldLink RX10 10 "MilkRound" "page" "LMilkRound$Page;", Cond.fieldLink RX10 74 "MilkRound$Page" "size" "I", Cond.fieldLink RX10 63 "MilkRound" "roundsRead" "I", Cond.fieldLink RX10 67 "MilkRound" "searches" "I", Cond.methodLink RX10 133 yX10_walkAsItIs, Cond.instanceMethod yX10_walkAsItIs, Cond.selects RX10 yX10_walkAsItIs yX10_walkAsItIs, Cond.code yX10_walkAsItIs cX10_walkAsItIs 1 none, Cond.fieldLink RX10 110 "MilkRound$Course" "lengths" "[I"]
noncomputable def wsX10_count_r2 : List Cond := [Cond.fieldLink RX10 123 "MilkRound$Course" "order" "[I", Cond.fieldLink RX10 113 "MilkRound$Course" "leftOut" "I", Cond.methodLink RX10 178 yX8_go, Cond.instanceMethod yX8_go, Cond.selects RX8 yX8_go yX8_go, Cond.initialized RX8, Cond.code yX8_go cX8_go 7 none, Cond.fieldLink RX8 19 "MilkRound$Walk" "street" "LMilkRound$Street;", Cond.fieldLink RX8 23 "MilkRound$Street" "size" "I", Cond.fieldLink RX8 9 "MilkRound$Walk" "came" "[I", Cond.fieldLink RX8 15 "MilkRound$Walk" "minutesOfAll" "I", Cond.methodLink RX8 28 yX6_has, Cond.instanceMethod yX6_has, Cond.selects RX6 yX6_has yX6_has, Cond.initialized RX6, Cond.code yX6_has cX6_has 2 (some .boolean), Cond.fieldLink RX6 44 "MilkRound$Street" "size" "I", Cond.methodLink RX8 32 yX6_reading, Cond.instanceMethod yX6_reading, Cond.selects RX6 yX6_reading yX6_reading, Cond.code yX6_reading cX6_reading 5 (some .int), Cond.fieldLink RX6 40 "MilkRound$Street" "houses" "[LMilkRound$House;", Cond.methodLink RX6 67 ⟨"MilkRound$House", "minutesFor", "(I)I"⟩, Cond.sameMethod "MilkRound$House" "MilkRound$House" "minutesFor" "(I)I"]
noncomputable def wsX10_count_r3 : List Cond := [Cond.instanceMethod ⟨"MilkRound$House", "minutesFor", "(I)I"⟩, Cond.selects RX0 ⟨"MilkRound$House", "minutesFor", "(I)I"⟩ yX0_minutesFor, Cond.instanceMethod yX0_minutesFor, Cond.initialized RX0, Cond.code yX0_minutesFor cX0_minutesFor 2 (some .int), Cond.code yX3_minutesFor cX3_minutesFor 2 (some .int), Cond.selects RX1 ⟨"MilkRound$House", "minutesFor", "(I)I"⟩ yX1_minutesFor, Cond.instanceMethod yX1_minutesFor, Cond.initialized RX1, Cond.code yX1_minutesFor cX1_minutesFor 2 (some .int), Cond.methodLink RX6 67 yX3_minutesFor, Cond.instanceMethod yX3_minutesFor, Cond.selects RX3 yX3_minutesFor yX3_minutesFor, Cond.initialized RX3, Cond.selects RX5 ⟨"MilkRound$House", "minutesFor", "(I)I"⟩ yX5_minutesFor, Cond.instanceMethod yX5_minutesFor, Cond.initialized RX5, Cond.code yX5_minutesFor cX5_minutesFor 2 (some .int), Cond.selects RX9 ⟨"MilkRound$House", "minutesFor", "(I)I"⟩ yX9_minutesFor, Cond.instanceMethod yX9_minutesFor, Cond.initialized RX9, Cond.code yX9_minutesFor cX9_minutesFor 2 (some .int), Cond.methodLink RX9 7 yX5_minutesFor, Cond.sameMethod "MilkRound$Sea" "MilkRound$Sea" "minutesFor" "(I)I"]
noncomputable def wsX10_count_r4 : List Cond := [Cond.superclass RX9 RX5, Cond.static yX10_bitOf, Cond.code yX10_bitOf cX10_bitOf 2 (some .int), Cond.methodLink RX10 136 yX8_sourHouses, Cond.instanceMethod yX8_sourHouses, Cond.selects RX8 yX8_sourHouses yX8_sourHouses, Cond.code yX8_sourHouses cX8_sourHouses 3 (some .int), Cond.methodLink RX8 57 yX8_isSour, Cond.instanceMethod yX8_isSour, Cond.selects RX8 yX8_isSour yX8_isSour, Cond.code yX8_isSour cX8_isSour 2 (some .boolean), Cond.fieldLink RX8 36 "MilkRound$Street" "houses" "[LMilkRound$House;", Cond.fieldLink RX8 46 "MilkRound$Street" "keep" "I", Cond.methodLink RX8 40 ⟨"MilkRound$House", "timesKeep", "()I"⟩, Cond.sameMethod "MilkRound$House" "MilkRound$House" "timesKeep" "()I", Cond.instanceMethod ⟨"MilkRound$House", "timesKeep", "()I"⟩, Cond.selects RX0 ⟨"MilkRound$House", "timesKeep", "()I"⟩ yX0_timesKeep, Cond.instanceMethod yX0_timesKeep, Cond.code yX0_timesKeep cX0_timesKeep 1 (some .int), Cond.code yX3_timesKeep cX3_timesKeep 1 (some .int), Cond.selects RX1 ⟨"MilkRound$House", "timesKeep", "()I"⟩ yX3_timesKeep, Cond.instanceMethod yX3_timesKeep, Cond.methodLink RX8 40 yX3_timesKeep, Cond.selects RX3 yX3_timesKeep yX3_timesKeep]
noncomputable def wsX10_count_r5 : List Cond := [Cond.selects RX5 ⟨"MilkRound$House", "timesKeep", "()I"⟩ yX3_timesKeep, Cond.selects RX9 ⟨"MilkRound$House", "timesKeep", "()I"⟩ yX3_timesKeep, Cond.methodLink RX10 139 yX8_hearingHouses, Cond.instanceMethod yX8_hearingHouses, Cond.selects RX8 yX8_hearingHouses yX8_hearingHouses, Cond.code yX8_hearingHouses cX8_hearingHouses 3 (some .int), Cond.methodLink RX8 60 yX8_hears, Cond.instanceMethod yX8_hears, Cond.selects RX8 yX8_hears yX8_hears, Cond.code yX8_hears cX8_hears 2 (some .boolean), Cond.methodLink RX8 49 ⟨"MilkRound$House", "listens", "()Z"⟩, Cond.sameMethod "MilkRound$House" "MilkRound$House" "listens" "()Z", Cond.instanceMethod ⟨"MilkRound$House", "listens", "()Z"⟩, Cond.selects RX0 ⟨"MilkRound$House", "listens", "()Z"⟩ yX0_listens, Cond.instanceMethod yX0_listens, Cond.code yX0_listens cX0_listens 1 (some .boolean), Cond.code yX3_listens cX3_listens 1 (some .boolean), Cond.selects RX1 ⟨"MilkRound$House", "listens", "()Z"⟩ yX3_listens, Cond.instanceMethod yX3_listens, Cond.methodLink RX8 49 yX3_listens, Cond.selects RX3 yX3_listens yX3_listens, Cond.selects RX5 ⟨"MilkRound$House", "listens", "()Z"⟩ yX3_listens, Cond.selects RX9 ⟨"MilkRound$House", "listens", "()Z"⟩ yX3_listens, Cond.methodLink RX8 53 yX8_isAhead]
noncomputable def wsX10_count_r6 : List Cond := [Cond.instanceMethod yX8_isAhead, Cond.selects RX8 yX8_isAhead yX8_isAhead, Cond.code yX8_isAhead cX8_isAhead 3 (some .boolean)]
noncomputable def wsX10_count : List Cond := .code yX10_count cX10_count 2 (some .int) :: ((wsX10_count_r1 ++ (wsX10_count_r2 ++ (wsX10_count_r3 ++ (wsX10_count_r4 ++ (wsX10_count_r5 ++ wsX10_count_r6))))) ++ wsX100 ++ wsX60 ++ wsX20 ++ wsX80 ++ wsX40)
noncomputable def wsX10_digest_r1 : List Cond := [Cond.constantLong RX10 189 (1087), Cond.fieldLink RX10 19 "MilkRound" "street" "LMilkRound$Street;", Cond.fieldLink RX10 89 "MilkRound$Street" "size" "I", Cond.constantLong RX10 191 (31), Cond.fieldLink RX10 10 "MilkRound" "page" "LMilkRound$Page;", Cond.fieldLink RX10 74 "MilkRound$Page" "size" "I", Cond.fieldLink RX10 193 "MilkRound$Page" "signs" "[C", Cond.methodLink RX10 98 yX10_toldOfHouse, Cond.instanceMethod yX10_toldOfHouse, Cond.selects RX10 yX10_toldOfHouse yX10_toldOfHouse, Cond.initialized RX10, Cond.code yX10_toldOfHouse cX10_toldOfHouse 3 (some .int), Cond.fieldLink RX10 102 "MilkRound$Street" "houses" "[LMilkRound$House;", Cond.fieldLink RX10 26 "MilkRound" "now" "LMilkRound$Course;", Cond.fieldLink RX10 110 "MilkRound$Course" "lengths" "[I", Cond.fieldLink RX10 113 "MilkRound$Course" "leftOut" "I", Cond.fieldLink RX10 38 "MilkRound" "walk" "LMilkRound$Walk;", Cond.fieldLink RX10 204 "MilkRound$Walk" "came" "[I", Cond.methodLink RX10 133 yX10_walkAsItIs, Cond.instanceMethod yX10_walkAsItIs, Cond.selects RX10 yX10_walkAsItIs yX10_walkAsItIs, Cond.code yX10_walkAsItIs cX10_walkAsItIs 1 none, Cond.fieldLink RX10 123 "MilkRound$Course" "order" "[I", Cond.methodLink RX10 178 yX8_go]
noncomputable def wsX10_digest_r2 : List Cond := [Cond.instanceMethod yX8_go, Cond.selects RX8 yX8_go yX8_go, Cond.initialized RX8, Cond.code yX8_go cX8_go 7 none, Cond.fieldLink RX8 19 "MilkRound$Walk" "street" "LMilkRound$Street;", Cond.fieldLink RX8 23 "MilkRound$Street" "size" "I", Cond.fieldLink RX8 9 "MilkRound$Walk" "came" "[I", Cond.fieldLink RX8 15 "MilkRound$Walk" "minutesOfAll" "I", Cond.methodLink RX8 28 yX6_has, Cond.instanceMethod yX6_has, Cond.selects RX6 yX6_has yX6_has, Cond.initialized RX6, Cond.code yX6_has cX6_has 2 (some .boolean), Cond.fieldLink RX6 44 "MilkRound$Street" "size" "I", Cond.methodLink RX8 32 yX6_reading, Cond.instanceMethod yX6_reading, Cond.selects RX6 yX6_reading yX6_reading, Cond.code yX6_reading cX6_reading 5 (some .int), Cond.fieldLink RX6 40 "MilkRound$Street" "houses" "[LMilkRound$House;", Cond.methodLink RX6 67 ⟨"MilkRound$House", "minutesFor", "(I)I"⟩, Cond.sameMethod "MilkRound$House" "MilkRound$House" "minutesFor" "(I)I", Cond.instanceMethod ⟨"MilkRound$House", "minutesFor", "(I)I"⟩, Cond.selects RX0 ⟨"MilkRound$House", "minutesFor", "(I)I"⟩ yX0_minutesFor, Cond.instanceMethod yX0_minutesFor]
noncomputable def wsX10_digest_r3 : List Cond := [Cond.initialized RX0, Cond.code yX0_minutesFor cX0_minutesFor 2 (some .int), Cond.code yX3_minutesFor cX3_minutesFor 2 (some .int), Cond.selects RX1 ⟨"MilkRound$House", "minutesFor", "(I)I"⟩ yX1_minutesFor, Cond.instanceMethod yX1_minutesFor, Cond.initialized RX1, Cond.code yX1_minutesFor cX1_minutesFor 2 (some .int), Cond.methodLink RX6 67 yX3_minutesFor, Cond.instanceMethod yX3_minutesFor, Cond.selects RX3 yX3_minutesFor yX3_minutesFor, Cond.initialized RX3, Cond.selects RX5 ⟨"MilkRound$House", "minutesFor", "(I)I"⟩ yX5_minutesFor, Cond.instanceMethod yX5_minutesFor, Cond.initialized RX5, Cond.code yX5_minutesFor cX5_minutesFor 2 (some .int), Cond.selects RX9 ⟨"MilkRound$House", "minutesFor", "(I)I"⟩ yX9_minutesFor, Cond.instanceMethod yX9_minutesFor, Cond.initialized RX9, Cond.code yX9_minutesFor cX9_minutesFor 2 (some .int), Cond.methodLink RX9 7 yX5_minutesFor, Cond.sameMethod "MilkRound$Sea" "MilkRound$Sea" "minutesFor" "(I)I", Cond.superclass RX9 RX5, Cond.static yX10_bitOf, Cond.code yX10_bitOf cX10_bitOf 2 (some .int)]
noncomputable def wsX10_digest_r4 : List Cond := [Cond.methodLink RX10 197 ⟨"MilkRound$House", "kind", "()I"⟩, Cond.sameMethod "MilkRound$House" "MilkRound$House" "kind" "()I", Cond.instanceMethod ⟨"MilkRound$House", "kind", "()I"⟩, Cond.selects RX0 ⟨"MilkRound$House", "kind", "()I"⟩ yX0_kind, Cond.instanceMethod yX0_kind, Cond.code yX0_kind cX0_kind 1 (some .int), Cond.code yX3_kind cX3_kind 1 (some .int), Cond.selects RX1 ⟨"MilkRound$House", "kind", "()I"⟩ yX1_kind, Cond.instanceMethod yX1_kind, Cond.code yX1_kind cX1_kind 1 (some .int), Cond.methodLink RX10 197 yX3_kind, Cond.instanceMethod yX3_kind, Cond.selects RX3 yX3_kind yX3_kind, Cond.selects RX5 ⟨"MilkRound$House", "kind", "()I"⟩ yX5_kind, Cond.instanceMethod yX5_kind, Cond.code yX5_kind cX5_kind 1 (some .int), Cond.selects RX9 ⟨"MilkRound$House", "kind", "()I"⟩ yX9_kind, Cond.instanceMethod yX9_kind, Cond.code yX9_kind cX9_kind 1 (some .int), Cond.methodLink RX10 116 yX10_bitOf, Cond.methodLink RX10 200 yX6_reading, Cond.methodLink RX10 119 yX2_placeOf, Cond.instanceMethod yX2_placeOf, Cond.selects RX2 yX2_placeOf yX2_placeOf]
noncomputable def wsX10_digest_r5 : List Cond := [Cond.initialized RX2, Cond.code yX2_placeOf cX2_placeOf 3 (some .int), Cond.fieldLink RX2 15 "MilkRound$Course" "order" "[I", Cond.methodLink RX10 207 yX8_isSour, Cond.instanceMethod yX8_isSour, Cond.selects RX8 yX8_isSour yX8_isSour, Cond.code yX8_isSour cX8_isSour 2 (some .boolean), Cond.fieldLink RX8 36 "MilkRound$Street" "houses" "[LMilkRound$House;", Cond.fieldLink RX8 46 "MilkRound$Street" "keep" "I", Cond.methodLink RX8 40 ⟨"MilkRound$House", "timesKeep", "()I"⟩, Cond.sameMethod "MilkRound$House" "MilkRound$House" "timesKeep" "()I", Cond.instanceMethod ⟨"MilkRound$House", "timesKeep", "()I"⟩, Cond.selects RX0 ⟨"MilkRound$House", "timesKeep", "()I"⟩ yX0_timesKeep, Cond.instanceMethod yX0_timesKeep, Cond.code yX0_timesKeep cX0_timesKeep 1 (some .int), Cond.code yX3_timesKeep cX3_timesKeep 1 (some .int), Cond.selects RX1 ⟨"MilkRound$House", "timesKeep", "()I"⟩ yX3_timesKeep, Cond.instanceMethod yX3_timesKeep, Cond.methodLink RX8 40 yX3_timesKeep, Cond.selects RX3 yX3_timesKeep yX3_timesKeep, Cond.selects RX5 ⟨"MilkRound$House", "timesKeep", "()I"⟩ yX3_timesKeep, Cond.selects RX9 ⟨"MilkRound$House", "timesKeep", "()I"⟩ yX3_timesKeep, Cond.methodLink RX10 210 yX8_hears, Cond.instanceMethod yX8_hears]
noncomputable def wsX10_digest_r6 : List Cond := [Cond.selects RX8 yX8_hears yX8_hears, Cond.code yX8_hears cX8_hears 2 (some .boolean), Cond.methodLink RX8 49 ⟨"MilkRound$House", "listens", "()Z"⟩, Cond.sameMethod "MilkRound$House" "MilkRound$House" "listens" "()Z", Cond.instanceMethod ⟨"MilkRound$House", "listens", "()Z"⟩, Cond.selects RX0 ⟨"MilkRound$House", "listens", "()Z"⟩ yX0_listens, Cond.instanceMethod yX0_listens, Cond.code yX0_listens cX0_listens 1 (some .boolean), Cond.code yX3_listens cX3_listens 1 (some .boolean), Cond.selects RX1 ⟨"MilkRound$House", "listens", "()Z"⟩ yX3_listens, Cond.instanceMethod yX3_listens, Cond.methodLink RX8 49 yX3_listens, Cond.selects RX3 yX3_listens yX3_listens, Cond.selects RX5 ⟨"MilkRound$House", "listens", "()Z"⟩ yX3_listens, Cond.selects RX9 ⟨"MilkRound$House", "listens", "()Z"⟩ yX3_listens, Cond.methodLink RX8 53 yX8_isAhead, Cond.instanceMethod yX8_isAhead, Cond.selects RX8 yX8_isAhead yX8_isAhead, Cond.code yX8_isAhead cX8_isAhead 3 (some .boolean), Cond.methodLink RX10 213 yX10_longestHarmless, Cond.instanceMethod yX10_longestHarmless, Cond.selects RX10 yX10_longestHarmless yX10_longestHarmless, Cond.code yX10_longestHarmless cX10_longestHarmless 4 (some .int), Cond.fieldLink RX10 42 "MilkRound" "trialLengths" "[I"]
noncomputable def wsX10_digest_r7 : List Cond := [Cond.methodLink RX10 230 arraycopyName, Cond.native arraycopyName, Cond.static arraycopyName, Cond.initialized "java/lang/System", Cond.methodLink RX10 236 yX8_wrongs, Cond.instanceMethod yX8_wrongs, Cond.selects RX8 yX8_wrongs yX8_wrongs, Cond.code yX8_wrongs cX8_wrongs 1 (some .int), Cond.methodLink RX8 63 yX8_sourHouses, Cond.instanceMethod yX8_sourHouses, Cond.selects RX8 yX8_sourHouses yX8_sourHouses, Cond.code yX8_sourHouses cX8_sourHouses 3 (some .int), Cond.methodLink RX8 57 yX8_isSour, Cond.methodLink RX8 66 yX8_hearingHouses, Cond.instanceMethod yX8_hearingHouses, Cond.selects RX8 yX8_hearingHouses yX8_hearingHouses, Cond.code yX8_hearingHouses cX8_hearingHouses 3 (some .int), Cond.methodLink RX8 60 yX8_hears, Cond.methodLink RX10 130 yX10_hasNoRound, Cond.instanceMethod yX10_hasNoRound, Cond.selects RX10 yX10_hasNoRound yX10_hasNoRound, Cond.code yX10_hasNoRound cX10_hasNoRound 1 (some .boolean), Cond.methodLink RX10 166 yX10_howManySets, Cond.instanceMethod yX10_howManySets]
noncomputable def wsX10_digest_r8 : List Cond := [Cond.selects RX10 yX10_howManySets yX10_howManySets, Cond.code yX10_howManySets cX10_howManySets 3 (some .int), Cond.methodLink RX10 249 yX10_canHaveBeen, Cond.instanceMethod yX10_canHaveBeen, Cond.selects RX10 yX10_canHaveBeen yX10_canHaveBeen, Cond.code yX10_canHaveBeen cX10_canHaveBeen 4 (some .boolean), Cond.fieldLink RX10 163 "MilkRound$Course" "knownSize" "I", Cond.fieldLink RX10 243 "MilkRound$Course" "knownHouses" "[I", Cond.fieldLink RX10 246 "MilkRound$Course" "knownMinutes" "[I", Cond.methodLink RX10 94 yX6_has, Cond.methodLink RX10 169 yX10_leastSet, Cond.instanceMethod yX10_leastSet, Cond.selects RX10 yX10_leastSet yX10_leastSet, Cond.code yX10_leastSet cX10_leastSet 2 (some .int), Cond.methodLink RX10 172 yX10_houseToAsk, Cond.instanceMethod yX10_houseToAsk, Cond.selects RX10 yX10_houseToAsk yX10_houseToAsk, Cond.code yX10_houseToAsk cX10_houseToAsk 3 (some .int), Cond.fieldLink RX10 55 "MilkRound" "tally" "LMilkRound$Tally;", Cond.methodLink RX10 252 yX7_clear, Cond.instanceMethod yX7_clear, Cond.selects RX7 yX7_clear yX7_clear, Cond.initialized RX7, Cond.code yX7_clear cX7_clear 3 none]
noncomputable def wsX10_digest_r9 : List Cond := [Cond.fieldLink RX7 16 "MilkRound$Tally" "worst" "[I", Cond.fieldLink RX7 11 "MilkRound$Tally" "left" "[[I", Cond.methodLink RX10 255 yX7_add, Cond.instanceMethod yX7_add, Cond.selects RX7 yX7_add yX7_add, Cond.code yX7_add cX7_add 5 none, Cond.methodLink RX7 20 Lib.Math.max.name, Cond.static Lib.Math.max.name, Cond.initialized "java/lang/Math", Cond.code Lib.Math.max.name Lib.Math.max.code 2 (some .int), Cond.methodLink RX10 258 yX7_houseOfLeastWorst, Cond.instanceMethod yX7_houseOfLeastWorst, Cond.selects RX7 yX7_houseOfLeastWorst yX7_houseOfLeastWorst, Cond.code yX7_houseOfLeastWorst cX7_houseOfLeastWorst 4 (some .int), Cond.methodLink RX10 186 yX10_toldOfAll, Cond.instanceMethod yX10_toldOfAll, Cond.selects RX10 yX10_toldOfAll yX10_toldOfAll, Cond.code yX10_toldOfAll cX10_toldOfAll 2 (some .int), Cond.fieldLink RX10 216 "MilkRound$Street" "keep" "I", Cond.fieldLink RX10 142 "MilkRound$Course" "days" "I", Cond.fieldLink RX10 145 "MilkRound$Course" "soured" "I", Cond.fieldLink RX10 148 "MilkRound$Course" "heard" "I", Cond.fieldLink RX10 219 "MilkRound$Walk" "minutesOfAll" "I", Cond.fieldLink RX10 63 "MilkRound" "roundsRead" "I"]
noncomputable def wsX10_digest_r10 : List Cond := [Cond.fieldLink RX10 67 "MilkRound" "searches" "I", Cond.methodLink RX10 136 yX8_sourHouses, Cond.methodLink RX10 139 yX8_hearingHouses]
noncomputable def wsX10_digest : List Cond := .code yX10_digest cX10_digest 5 (some .long) :: ((wsX10_digest_r1 ++ (wsX10_digest_r2 ++ (wsX10_digest_r3 ++ (wsX10_digest_r4 ++ (wsX10_digest_r5 ++ (wsX10_digest_r6 ++ (wsX10_digest_r7 ++ (wsX10_digest_r8 ++ (wsX10_digest_r9 ++ wsX10_digest_r10))))))))) ++ wsX100 ++ wsX60 ++ wsX40 ++ wsX20 ++ wsX80 ++ wsX70)
noncomputable def wsX11_init : List Cond := .code yX11_init cX11_init 1 none :: ([.methodLink RX11 1 objectInit, .instanceMethod objectInit, .code objectInit ⟨#[0xb1]⟩ 1 none, .arrayClass .int, .fieldLink RX11 7 "MilkRoundModel" "kindOf" "[I", .fieldLink RX11 13 "MilkRoundModel" "longOf" "[I", .fieldLink RX11 16 "MilkRoundModel" "orderAt" "[I", .fieldLink RX11 19 "MilkRoundModel" "knownHouse" "[I", .fieldLink RX11 22 "MilkRoundModel" "knownMinutes" "[I", .arrayClass .byte, .fieldLink RX11 25 "MilkRoundModel" "page" "[B", .fieldLink RX11 29 "MilkRoundModel" "comesAt" "[I", .fieldLink RX11 32 "MilkRoundModel" "savedOrder" "[I", .fieldLink RX11 35 "MilkRoundModel" "bestOrder" "[I", .fieldLink RX11 38 "MilkRoundModel" "comesBy" "[I", .fieldLink RX11 41 "MilkRoundModel" "savedLong" "[I", .fieldLink RX11 44 "MilkRoundModel" "keptLong" "[I", .fieldLink RX11 47 "MilkRoundModel" "keptOrder" "[I", .fieldLink RX11 50 "MilkRoundModel" "keptHouse" "[I", .fieldLink RX11 53 "MilkRoundModel" "keptMinutes" "[I"] ++ wsX110)
noncomputable def wsX11_within : List Cond := .code yX11_within cX11_within 3 (some .boolean) :: ([])
noncomputable def wsX11_isIn : List Cond := .code yX11_isIn cX11_isIn 2 (some .boolean) :: ([])
noncomputable def wsX11_letter : List Cond := .code yX11_letter cX11_letter 2 (some .int) :: ([.fieldLink RX11 60 "MilkRoundModel" "pageLength" "I", .fieldLink RX11 25 "MilkRoundModel" "page" "[B", .methodLink RX11 56 yX11_within, .static yX11_within, .initialized RX11, .code yX11_within cX11_within 3 (some .boolean)] ++ wsX110)
noncomputable def wsX11_blank : List Cond := .code yX11_blank cX11_blank 2 (some .int) :: ([.fieldLink RX11 60 "MilkRoundModel" "pageLength" "I"] ++ wsX110)
noncomputable def wsX11_kindBy : List Cond := .code yX11_kindBy cX11_kindBy 1 (some .int) :: ([])
noncomputable def wsX11_figure : List Cond := .code yX11_figure cX11_figure 2 (some .int) :: ([.fieldLink RX11 60 "MilkRoundModel" "pageLength" "I", .fieldLink RX11 25 "MilkRoundModel" "page" "[B"] ++ wsX110)
noncomputable def wsX11_read : List Cond := .code yX11_read cX11_read 2 (some .int) :: ([.fieldLink RX11 64 "MilkRoundModel" "isWhole" "Z", .fieldLink RX11 68 "MilkRoundModel" "newMany" "I", .fieldLink RX11 60 "MilkRoundModel" "pageLength" "I", .fieldLink RX11 25 "MilkRoundModel" "page" "[B", .methodLink RX11 71 yX11_kindBy, .static yX11_kindBy, .initialized RX11, .code yX11_kindBy cX11_kindBy 1 (some .int), .methodLink RX11 75 yX11_figure, .instanceMethod yX11_figure, .selects RX11 yX11_figure yX11_figure, .code yX11_figure cX11_figure 2 (some .int), .methodLink RX11 56 yX11_within, .static yX11_within, .code yX11_within cX11_within 3 (some .boolean)] ++ wsX110)
noncomputable def wsX11_fault : List Cond := .code yX11_fault cX11_fault 1 (some .int) :: ([.methodLink RX11 78 yX11_read, .instanceMethod yX11_read, .selects RX11 yX11_read yX11_read, .initialized RX11, .code yX11_read cX11_read 2 (some .int), .fieldLink RX11 64 "MilkRoundModel" "isWhole" "Z", .fieldLink RX11 68 "MilkRoundModel" "newMany" "I", .fieldLink RX11 60 "MilkRoundModel" "pageLength" "I", .fieldLink RX11 25 "MilkRoundModel" "page" "[B", .methodLink RX11 71 yX11_kindBy, .static yX11_kindBy, .code yX11_kindBy cX11_kindBy 1 (some .int), .methodLink RX11 75 yX11_figure, .instanceMethod yX11_figure, .selects RX11 yX11_figure yX11_figure, .code yX11_figure cX11_figure 2 (some .int), .methodLink RX11 56 yX11_within, .static yX11_within, .code yX11_within cX11_within 3 (some .boolean)] ++ wsX110)
noncomputable def wsX11_round_r1 : List Cond := [Cond.fieldLink RX11 64 "MilkRoundModel" "isWhole" "Z", Cond.fieldLink RX11 68 "MilkRoundModel" "newMany" "I", Cond.fieldLink RX11 82 "MilkRoundModel" "houses" "I", Cond.fieldLink RX11 7 "MilkRoundModel" "kindOf" "[I", Cond.fieldLink RX11 25 "MilkRoundModel" "page" "[B", Cond.fieldLink RX11 13 "MilkRoundModel" "longOf" "[I", Cond.fieldLink RX11 16 "MilkRoundModel" "orderAt" "[I", Cond.fieldLink RX11 85 "MilkRoundModel" "keep" "I", Cond.fieldLink RX11 88 "MilkRoundModel" "rounds" "I", Cond.fieldLink RX11 91 "MilkRoundModel" "leftOut" "I", Cond.fieldLink RX11 94 "MilkRoundModel" "days" "I", Cond.fieldLink RX11 97 "MilkRoundModel" "soured" "I", Cond.fieldLink RX11 100 "MilkRoundModel" "overheard" "I", Cond.fieldLink RX11 103 "MilkRoundModel" "known" "I", Cond.fieldLink RX11 60 "MilkRoundModel" "pageLength" "I", Cond.methodLink RX11 78 yX11_read, Cond.instanceMethod yX11_read, Cond.selects RX11 yX11_read yX11_read, Cond.initialized RX11, Cond.code yX11_read cX11_read 2 (some .int), Cond.methodLink RX11 71 yX11_kindBy, Cond.static yX11_kindBy, Cond.code yX11_kindBy cX11_kindBy 1 (some .int), Cond.methodLink RX11 75 yX11_figure]
noncomputable def wsX11_round_r2 : List Cond := [Cond.instanceMethod yX11_figure, Cond.selects RX11 yX11_figure yX11_figure, Cond.code yX11_figure cX11_figure 2 (some .int), Cond.methodLink RX11 56 yX11_within, Cond.static yX11_within, Cond.code yX11_within cX11_within 3 (some .boolean)]
noncomputable def wsX11_round : List Cond := .code yX11_round cX11_round 3 (some .int) :: ((wsX11_round_r1 ++ wsX11_round_r2) ++ wsX110)
noncomputable def wsX11_isHouse : List Cond := .code yX11_isHouse cX11_isHouse 2 (some .boolean) :: ([.fieldLink RX11 82 "MilkRoundModel" "houses" "I", .methodLink RX11 56 yX11_within, .static yX11_within, .initialized RX11, .code yX11_within cX11_within 3 (some .boolean)] ++ wsX110)
noncomputable def wsX11_readsAll : List Cond := .code yX11_readsAll cX11_readsAll 3 (some .int) :: ([.fieldLink RX11 13 "MilkRoundModel" "longOf" "[I", .fieldLink RX11 7 "MilkRoundModel" "kindOf" "[I"] ++ wsX110)
noncomputable def wsX11_reads : List Cond := .code yX11_reads cX11_reads 2 (some .int) :: ([.fieldLink RX11 91 "MilkRoundModel" "leftOut" "I", .methodLink RX11 106 yX11_isIn, .static yX11_isIn, .initialized RX11, .code yX11_isIn cX11_isIn 2 (some .boolean), .methodLink RX11 110 yX11_readsAll, .instanceMethod yX11_readsAll, .selects RX11 yX11_readsAll yX11_readsAll, .code yX11_readsAll cX11_readsAll 3 (some .int), .fieldLink RX11 13 "MilkRoundModel" "longOf" "[I", .fieldLink RX11 7 "MilkRoundModel" "kindOf" "[I"] ++ wsX110)
noncomputable def wsX11_go : List Cond := .code yX11_go cX11_go 3 none :: ([.fieldLink RX11 82 "MilkRoundModel" "houses" "I", .fieldLink RX11 16 "MilkRoundModel" "orderAt" "[I", .fieldLink RX11 29 "MilkRoundModel" "comesAt" "[I", .methodLink RX11 113 yX11_reads, .instanceMethod yX11_reads, .selects RX11 yX11_reads yX11_reads, .initialized RX11, .code yX11_reads cX11_reads 2 (some .int), .fieldLink RX11 91 "MilkRoundModel" "leftOut" "I", .methodLink RX11 106 yX11_isIn, .static yX11_isIn, .code yX11_isIn cX11_isIn 2 (some .boolean), .methodLink RX11 110 yX11_readsAll, .instanceMethod yX11_readsAll, .selects RX11 yX11_readsAll yX11_readsAll, .code yX11_readsAll cX11_readsAll 3 (some .int), .fieldLink RX11 13 "MilkRoundModel" "longOf" "[I", .fieldLink RX11 7 "MilkRoundModel" "kindOf" "[I"] ++ wsX110)
noncomputable def wsX11_isSour : List Cond := .code yX11_isSour cX11_isSour 2 (some .boolean) :: ([.fieldLink RX11 29 "MilkRoundModel" "comesAt" "[I", .fieldLink RX11 7 "MilkRoundModel" "kindOf" "[I", .fieldLink RX11 85 "MilkRoundModel" "keep" "I"] ++ wsX110)
noncomputable def wsX11_isAhead : List Cond := .code yX11_isAhead cX11_isAhead 3 (some .boolean) :: ([.fieldLink RX11 29 "MilkRoundModel" "comesAt" "[I", .methodLink RX11 116 yX11_isHouse, .instanceMethod yX11_isHouse, .selects RX11 yX11_isHouse yX11_isHouse, .initialized RX11, .code yX11_isHouse cX11_isHouse 2 (some .boolean), .fieldLink RX11 82 "MilkRoundModel" "houses" "I", .methodLink RX11 56 yX11_within, .static yX11_within, .code yX11_within cX11_within 3 (some .boolean)] ++ wsX110)
noncomputable def wsX11_hears : List Cond := .code yX11_hears cX11_hears 2 (some .boolean) :: ([.fieldLink RX11 7 "MilkRoundModel" "kindOf" "[I", .methodLink RX11 120 yX11_isAhead, .instanceMethod yX11_isAhead, .selects RX11 yX11_isAhead yX11_isAhead, .initialized RX11, .code yX11_isAhead cX11_isAhead 3 (some .boolean), .fieldLink RX11 29 "MilkRoundModel" "comesAt" "[I", .methodLink RX11 116 yX11_isHouse, .instanceMethod yX11_isHouse, .selects RX11 yX11_isHouse yX11_isHouse, .code yX11_isHouse cX11_isHouse 2 (some .boolean), .fieldLink RX11 82 "MilkRoundModel" "houses" "I", .methodLink RX11 56 yX11_within, .static yX11_within, .code yX11_within cX11_within 3 (some .boolean)] ++ wsX110)
noncomputable def wsX11_sourNow_r1 : List Cond := [Cond.fieldLink RX11 82 "MilkRoundModel" "houses" "I", Cond.methodLink RX11 123 yX11_go, Cond.instanceMethod yX11_go, Cond.selects RX11 yX11_go yX11_go, Cond.initialized RX11, Cond.code yX11_go cX11_go 3 none, Cond.fieldLink RX11 16 "MilkRoundModel" "orderAt" "[I", Cond.fieldLink RX11 29 "MilkRoundModel" "comesAt" "[I", Cond.methodLink RX11 113 yX11_reads, Cond.instanceMethod yX11_reads, Cond.selects RX11 yX11_reads yX11_reads, Cond.code yX11_reads cX11_reads 2 (some .int), Cond.fieldLink RX11 91 "MilkRoundModel" "leftOut" "I", Cond.methodLink RX11 106 yX11_isIn, Cond.static yX11_isIn, Cond.code yX11_isIn cX11_isIn 2 (some .boolean), Cond.methodLink RX11 110 yX11_readsAll, Cond.instanceMethod yX11_readsAll, Cond.selects RX11 yX11_readsAll yX11_readsAll, Cond.code yX11_readsAll cX11_readsAll 3 (some .int), Cond.fieldLink RX11 13 "MilkRoundModel" "longOf" "[I", Cond.fieldLink RX11 7 "MilkRoundModel" "kindOf" "[I", Cond.methodLink RX11 126 yX11_isSour, Cond.instanceMethod yX11_isSour]
noncomputable def wsX11_sourNow_r2 : List Cond := [Cond.selects RX11 yX11_isSour yX11_isSour, Cond.code yX11_isSour cX11_isSour 2 (some .boolean), Cond.fieldLink RX11 85 "MilkRoundModel" "keep" "I"]
noncomputable def wsX11_sourNow : List Cond := .code yX11_sourNow cX11_sourNow 3 (some .int) :: ((wsX11_sourNow_r1 ++ wsX11_sourNow_r2) ++ wsX110)
noncomputable def wsX11_hearNow_r1 : List Cond := [Cond.fieldLink RX11 82 "MilkRoundModel" "houses" "I", Cond.methodLink RX11 123 yX11_go, Cond.instanceMethod yX11_go, Cond.selects RX11 yX11_go yX11_go, Cond.initialized RX11, Cond.code yX11_go cX11_go 3 none, Cond.fieldLink RX11 16 "MilkRoundModel" "orderAt" "[I", Cond.fieldLink RX11 29 "MilkRoundModel" "comesAt" "[I", Cond.methodLink RX11 113 yX11_reads, Cond.instanceMethod yX11_reads, Cond.selects RX11 yX11_reads yX11_reads, Cond.code yX11_reads cX11_reads 2 (some .int), Cond.fieldLink RX11 91 "MilkRoundModel" "leftOut" "I", Cond.methodLink RX11 106 yX11_isIn, Cond.static yX11_isIn, Cond.code yX11_isIn cX11_isIn 2 (some .boolean), Cond.methodLink RX11 110 yX11_readsAll, Cond.instanceMethod yX11_readsAll, Cond.selects RX11 yX11_readsAll yX11_readsAll, Cond.code yX11_readsAll cX11_readsAll 3 (some .int), Cond.fieldLink RX11 13 "MilkRoundModel" "longOf" "[I", Cond.fieldLink RX11 7 "MilkRoundModel" "kindOf" "[I", Cond.methodLink RX11 129 yX11_hears, Cond.instanceMethod yX11_hears]
noncomputable def wsX11_hearNow_r2 : List Cond := [Cond.selects RX11 yX11_hears yX11_hears, Cond.code yX11_hears cX11_hears 2 (some .boolean), Cond.methodLink RX11 120 yX11_isAhead, Cond.instanceMethod yX11_isAhead, Cond.selects RX11 yX11_isAhead yX11_isAhead, Cond.code yX11_isAhead cX11_isAhead 3 (some .boolean), Cond.methodLink RX11 116 yX11_isHouse, Cond.instanceMethod yX11_isHouse, Cond.selects RX11 yX11_isHouse yX11_isHouse, Cond.code yX11_isHouse cX11_isHouse 2 (some .boolean), Cond.methodLink RX11 56 yX11_within, Cond.static yX11_within, Cond.code yX11_within cX11_within 3 (some .boolean)]
noncomputable def wsX11_hearNow : List Cond := .code yX11_hearNow cX11_hearNow 3 (some .int) :: ((wsX11_hearNow_r1 ++ wsX11_hearNow_r2) ++ wsX110)
noncomputable def wsX11_wrongNow_r1 : List Cond := [Cond.methodLink RX11 132 yX11_sourNow, Cond.instanceMethod yX11_sourNow, Cond.selects RX11 yX11_sourNow yX11_sourNow, Cond.initialized RX11, Cond.code yX11_sourNow cX11_sourNow 3 (some .int), Cond.fieldLink RX11 82 "MilkRoundModel" "houses" "I", Cond.methodLink RX11 123 yX11_go, Cond.instanceMethod yX11_go, Cond.selects RX11 yX11_go yX11_go, Cond.code yX11_go cX11_go 3 none, Cond.fieldLink RX11 16 "MilkRoundModel" "orderAt" "[I", Cond.fieldLink RX11 29 "MilkRoundModel" "comesAt" "[I", Cond.methodLink RX11 113 yX11_reads, Cond.instanceMethod yX11_reads, Cond.selects RX11 yX11_reads yX11_reads, Cond.code yX11_reads cX11_reads 2 (some .int), Cond.fieldLink RX11 91 "MilkRoundModel" "leftOut" "I", Cond.methodLink RX11 106 yX11_isIn, Cond.static yX11_isIn, Cond.code yX11_isIn cX11_isIn 2 (some .boolean), Cond.methodLink RX11 110 yX11_readsAll, Cond.instanceMethod yX11_readsAll, Cond.selects RX11 yX11_readsAll yX11_readsAll, Cond.code yX11_readsAll cX11_readsAll 3 (some .int)]
noncomputable def wsX11_wrongNow_r2 : List Cond := [Cond.fieldLink RX11 13 "MilkRoundModel" "longOf" "[I", Cond.fieldLink RX11 7 "MilkRoundModel" "kindOf" "[I", Cond.methodLink RX11 126 yX11_isSour, Cond.instanceMethod yX11_isSour, Cond.selects RX11 yX11_isSour yX11_isSour, Cond.code yX11_isSour cX11_isSour 2 (some .boolean), Cond.fieldLink RX11 85 "MilkRoundModel" "keep" "I", Cond.methodLink RX11 135 yX11_hearNow, Cond.instanceMethod yX11_hearNow, Cond.selects RX11 yX11_hearNow yX11_hearNow, Cond.code yX11_hearNow cX11_hearNow 3 (some .int), Cond.methodLink RX11 129 yX11_hears, Cond.instanceMethod yX11_hears, Cond.selects RX11 yX11_hears yX11_hears, Cond.code yX11_hears cX11_hears 2 (some .boolean), Cond.methodLink RX11 120 yX11_isAhead, Cond.instanceMethod yX11_isAhead, Cond.selects RX11 yX11_isAhead yX11_isAhead, Cond.code yX11_isAhead cX11_isAhead 3 (some .boolean), Cond.methodLink RX11 116 yX11_isHouse, Cond.instanceMethod yX11_isHouse, Cond.selects RX11 yX11_isHouse yX11_isHouse, Cond.code yX11_isHouse cX11_isHouse 2 (some .boolean), Cond.methodLink RX11 56 yX11_within]
noncomputable def wsX11_wrongNow_r3 : List Cond := [Cond.static yX11_within, Cond.code yX11_within cX11_within 3 (some .boolean)]
noncomputable def wsX11_wrongNow : List Cond := .code yX11_wrongNow cX11_wrongNow 1 (some .int) :: ((wsX11_wrongNow_r1 ++ (wsX11_wrongNow_r2 ++ wsX11_wrongNow_r3)) ++ wsX110)
noncomputable def wsX11_placeOf : List Cond := .code yX11_placeOf cX11_placeOf 4 (some .int) :: ([.fieldLink RX11 82 "MilkRoundModel" "houses" "I", .fieldLink RX11 16 "MilkRoundModel" "orderAt" "[I"] ++ wsX110)
noncomputable def wsX11_mostOf_r1 : List Cond := [Cond.fieldLink RX11 13 "MilkRoundModel" "longOf" "[I", Cond.methodLink RX11 138 yX11_wrongNow, Cond.instanceMethod yX11_wrongNow, Cond.selects RX11 yX11_wrongNow yX11_wrongNow, Cond.initialized RX11, Cond.code yX11_wrongNow cX11_wrongNow 1 (some .int), Cond.methodLink RX11 132 yX11_sourNow, Cond.instanceMethod yX11_sourNow, Cond.selects RX11 yX11_sourNow yX11_sourNow, Cond.code yX11_sourNow cX11_sourNow 3 (some .int), Cond.fieldLink RX11 82 "MilkRoundModel" "houses" "I", Cond.methodLink RX11 123 yX11_go, Cond.instanceMethod yX11_go, Cond.selects RX11 yX11_go yX11_go, Cond.code yX11_go cX11_go 3 none, Cond.fieldLink RX11 16 "MilkRoundModel" "orderAt" "[I", Cond.fieldLink RX11 29 "MilkRoundModel" "comesAt" "[I", Cond.methodLink RX11 113 yX11_reads, Cond.instanceMethod yX11_reads, Cond.selects RX11 yX11_reads yX11_reads, Cond.code yX11_reads cX11_reads 2 (some .int), Cond.fieldLink RX11 91 "MilkRoundModel" "leftOut" "I", Cond.methodLink RX11 106 yX11_isIn, Cond.static yX11_isIn]
noncomputable def wsX11_mostOf_r2 : List Cond := [Cond.code yX11_isIn cX11_isIn 2 (some .boolean), Cond.methodLink RX11 110 yX11_readsAll, Cond.instanceMethod yX11_readsAll, Cond.selects RX11 yX11_readsAll yX11_readsAll, Cond.code yX11_readsAll cX11_readsAll 3 (some .int), Cond.fieldLink RX11 7 "MilkRoundModel" "kindOf" "[I", Cond.methodLink RX11 126 yX11_isSour, Cond.instanceMethod yX11_isSour, Cond.selects RX11 yX11_isSour yX11_isSour, Cond.code yX11_isSour cX11_isSour 2 (some .boolean), Cond.fieldLink RX11 85 "MilkRoundModel" "keep" "I", Cond.methodLink RX11 135 yX11_hearNow, Cond.instanceMethod yX11_hearNow, Cond.selects RX11 yX11_hearNow yX11_hearNow, Cond.code yX11_hearNow cX11_hearNow 3 (some .int), Cond.methodLink RX11 129 yX11_hears, Cond.instanceMethod yX11_hears, Cond.selects RX11 yX11_hears yX11_hears, Cond.code yX11_hears cX11_hears 2 (some .boolean), Cond.methodLink RX11 120 yX11_isAhead, Cond.instanceMethod yX11_isAhead, Cond.selects RX11 yX11_isAhead yX11_isAhead, Cond.code yX11_isAhead cX11_isAhead 3 (some .boolean), Cond.methodLink RX11 116 yX11_isHouse]
noncomputable def wsX11_mostOf_r3 : List Cond := [Cond.instanceMethod yX11_isHouse, Cond.selects RX11 yX11_isHouse yX11_isHouse, Cond.code yX11_isHouse cX11_isHouse 2 (some .boolean), Cond.methodLink RX11 56 yX11_within, Cond.static yX11_within, Cond.code yX11_within cX11_within 3 (some .boolean)]
noncomputable def wsX11_mostOf : List Cond := .code yX11_mostOf cX11_mostOf 6 (some .int) :: ((wsX11_mostOf_r1 ++ (wsX11_mostOf_r2 ++ wsX11_mostOf_r3)) ++ wsX110)
noncomputable def wsX11_houseNow_r1 : List Cond := [Cond.fieldLink RX11 7 "MilkRoundModel" "kindOf" "[I", Cond.fieldLink RX11 13 "MilkRoundModel" "longOf" "[I", Cond.fieldLink RX11 91 "MilkRoundModel" "leftOut" "I", Cond.fieldLink RX11 29 "MilkRoundModel" "comesAt" "[I", Cond.methodLink RX11 123 yX11_go, Cond.instanceMethod yX11_go, Cond.selects RX11 yX11_go yX11_go, Cond.initialized RX11, Cond.code yX11_go cX11_go 3 none, Cond.fieldLink RX11 82 "MilkRoundModel" "houses" "I", Cond.fieldLink RX11 16 "MilkRoundModel" "orderAt" "[I", Cond.methodLink RX11 113 yX11_reads, Cond.instanceMethod yX11_reads, Cond.selects RX11 yX11_reads yX11_reads, Cond.code yX11_reads cX11_reads 2 (some .int), Cond.methodLink RX11 106 yX11_isIn, Cond.static yX11_isIn, Cond.code yX11_isIn cX11_isIn 2 (some .boolean), Cond.methodLink RX11 110 yX11_readsAll, Cond.instanceMethod yX11_readsAll, Cond.selects RX11 yX11_readsAll yX11_readsAll, Cond.code yX11_readsAll cX11_readsAll 3 (some .int), Cond.methodLink RX11 141 yX11_placeOf, Cond.instanceMethod yX11_placeOf]
noncomputable def wsX11_houseNow_r2 : List Cond := [Cond.selects RX11 yX11_placeOf yX11_placeOf, Cond.code yX11_placeOf cX11_placeOf 4 (some .int), Cond.methodLink RX11 126 yX11_isSour, Cond.instanceMethod yX11_isSour, Cond.selects RX11 yX11_isSour yX11_isSour, Cond.code yX11_isSour cX11_isSour 2 (some .boolean), Cond.fieldLink RX11 85 "MilkRoundModel" "keep" "I", Cond.methodLink RX11 129 yX11_hears, Cond.instanceMethod yX11_hears, Cond.selects RX11 yX11_hears yX11_hears, Cond.code yX11_hears cX11_hears 2 (some .boolean), Cond.methodLink RX11 120 yX11_isAhead, Cond.instanceMethod yX11_isAhead, Cond.selects RX11 yX11_isAhead yX11_isAhead, Cond.code yX11_isAhead cX11_isAhead 3 (some .boolean), Cond.methodLink RX11 116 yX11_isHouse, Cond.instanceMethod yX11_isHouse, Cond.selects RX11 yX11_isHouse yX11_isHouse, Cond.code yX11_isHouse cX11_isHouse 2 (some .boolean), Cond.methodLink RX11 56 yX11_within, Cond.static yX11_within, Cond.code yX11_within cX11_within 3 (some .boolean), Cond.methodLink RX11 144 yX11_mostOf, Cond.instanceMethod yX11_mostOf]
noncomputable def wsX11_houseNow_r3 : List Cond := [Cond.selects RX11 yX11_mostOf yX11_mostOf, Cond.code yX11_mostOf cX11_mostOf 6 (some .int), Cond.methodLink RX11 138 yX11_wrongNow, Cond.instanceMethod yX11_wrongNow, Cond.selects RX11 yX11_wrongNow yX11_wrongNow, Cond.code yX11_wrongNow cX11_wrongNow 1 (some .int), Cond.methodLink RX11 132 yX11_sourNow, Cond.instanceMethod yX11_sourNow, Cond.selects RX11 yX11_sourNow yX11_sourNow, Cond.code yX11_sourNow cX11_sourNow 3 (some .int), Cond.methodLink RX11 135 yX11_hearNow, Cond.instanceMethod yX11_hearNow, Cond.selects RX11 yX11_hearNow yX11_hearNow, Cond.code yX11_hearNow cX11_hearNow 3 (some .int)]
noncomputable def wsX11_houseNow : List Cond := .code yX11_houseNow cX11_houseNow 3 (some .int) :: ((wsX11_houseNow_r1 ++ (wsX11_houseNow_r2 ++ wsX11_houseNow_r3)) ++ wsX110)
noncomputable def wsX11_about_r1 : List Cond := [Cond.methodLink RX11 116 yX11_isHouse, Cond.instanceMethod yX11_isHouse, Cond.selects RX11 yX11_isHouse yX11_isHouse, Cond.initialized RX11, Cond.code yX11_isHouse cX11_isHouse 2 (some .boolean), Cond.fieldLink RX11 82 "MilkRoundModel" "houses" "I", Cond.methodLink RX11 56 yX11_within, Cond.static yX11_within, Cond.code yX11_within cX11_within 3 (some .boolean), Cond.methodLink RX11 147 yX11_houseNow, Cond.instanceMethod yX11_houseNow, Cond.selects RX11 yX11_houseNow yX11_houseNow, Cond.code yX11_houseNow cX11_houseNow 3 (some .int), Cond.fieldLink RX11 7 "MilkRoundModel" "kindOf" "[I", Cond.fieldLink RX11 13 "MilkRoundModel" "longOf" "[I", Cond.fieldLink RX11 91 "MilkRoundModel" "leftOut" "I", Cond.fieldLink RX11 29 "MilkRoundModel" "comesAt" "[I", Cond.methodLink RX11 123 yX11_go, Cond.instanceMethod yX11_go, Cond.selects RX11 yX11_go yX11_go, Cond.code yX11_go cX11_go 3 none, Cond.fieldLink RX11 16 "MilkRoundModel" "orderAt" "[I", Cond.methodLink RX11 113 yX11_reads, Cond.instanceMethod yX11_reads]
noncomputable def wsX11_about_r2 : List Cond := [Cond.selects RX11 yX11_reads yX11_reads, Cond.code yX11_reads cX11_reads 2 (some .int), Cond.methodLink RX11 106 yX11_isIn, Cond.static yX11_isIn, Cond.code yX11_isIn cX11_isIn 2 (some .boolean), Cond.methodLink RX11 110 yX11_readsAll, Cond.instanceMethod yX11_readsAll, Cond.selects RX11 yX11_readsAll yX11_readsAll, Cond.code yX11_readsAll cX11_readsAll 3 (some .int), Cond.methodLink RX11 141 yX11_placeOf, Cond.instanceMethod yX11_placeOf, Cond.selects RX11 yX11_placeOf yX11_placeOf, Cond.code yX11_placeOf cX11_placeOf 4 (some .int), Cond.methodLink RX11 126 yX11_isSour, Cond.instanceMethod yX11_isSour, Cond.selects RX11 yX11_isSour yX11_isSour, Cond.code yX11_isSour cX11_isSour 2 (some .boolean), Cond.fieldLink RX11 85 "MilkRoundModel" "keep" "I", Cond.methodLink RX11 129 yX11_hears, Cond.instanceMethod yX11_hears, Cond.selects RX11 yX11_hears yX11_hears, Cond.code yX11_hears cX11_hears 2 (some .boolean), Cond.methodLink RX11 120 yX11_isAhead, Cond.instanceMethod yX11_isAhead]
noncomputable def wsX11_about_r3 : List Cond := [Cond.selects RX11 yX11_isAhead yX11_isAhead, Cond.code yX11_isAhead cX11_isAhead 3 (some .boolean), Cond.methodLink RX11 144 yX11_mostOf, Cond.instanceMethod yX11_mostOf, Cond.selects RX11 yX11_mostOf yX11_mostOf, Cond.code yX11_mostOf cX11_mostOf 6 (some .int), Cond.methodLink RX11 138 yX11_wrongNow, Cond.instanceMethod yX11_wrongNow, Cond.selects RX11 yX11_wrongNow yX11_wrongNow, Cond.code yX11_wrongNow cX11_wrongNow 1 (some .int), Cond.methodLink RX11 132 yX11_sourNow, Cond.instanceMethod yX11_sourNow, Cond.selects RX11 yX11_sourNow yX11_sourNow, Cond.code yX11_sourNow cX11_sourNow 3 (some .int), Cond.methodLink RX11 135 yX11_hearNow, Cond.instanceMethod yX11_hearNow, Cond.selects RX11 yX11_hearNow yX11_hearNow, Cond.code yX11_hearNow cX11_hearNow 3 (some .int)]
noncomputable def wsX11_about : List Cond := .code yX11_about cX11_about 3 (some .int) :: ((wsX11_about_r1 ++ (wsX11_about_r2 ++ wsX11_about_r3)) ++ wsX110)
noncomputable def wsX11_as : List Cond := .code yX11_as cX11_as 4 (some .int) :: ([.fieldLink RX11 7 "MilkRoundModel" "kindOf" "[I", .methodLink RX11 116 yX11_isHouse, .instanceMethod yX11_isHouse, .selects RX11 yX11_isHouse yX11_isHouse, .initialized RX11, .code yX11_isHouse cX11_isHouse 2 (some .boolean), .fieldLink RX11 82 "MilkRoundModel" "houses" "I", .methodLink RX11 56 yX11_within, .static yX11_within, .code yX11_within cX11_within 3 (some .boolean)] ++ wsX110)
noncomputable def wsX11_letters : List Cond := .code yX11_letters cX11_letters 4 (some .int) :: ([.fieldLink RX11 13 "MilkRoundModel" "longOf" "[I", .methodLink RX11 116 yX11_isHouse, .instanceMethod yX11_isHouse, .selects RX11 yX11_isHouse yX11_isHouse, .initialized RX11, .code yX11_isHouse cX11_isHouse 2 (some .boolean), .fieldLink RX11 82 "MilkRoundModel" "houses" "I", .methodLink RX11 56 yX11_within, .static yX11_within, .code yX11_within cX11_within 3 (some .boolean)] ++ wsX110)
noncomputable def wsX11_leave : List Cond := .code yX11_leave cX11_leave 4 (some .int) :: ([.fieldLink RX11 91 "MilkRoundModel" "leftOut" "I", .methodLink RX11 116 yX11_isHouse, .instanceMethod yX11_isHouse, .selects RX11 yX11_isHouse yX11_isHouse, .initialized RX11, .code yX11_isHouse cX11_isHouse 2 (some .boolean), .fieldLink RX11 82 "MilkRoundModel" "houses" "I", .methodLink RX11 56 yX11_within, .static yX11_within, .code yX11_within cX11_within 3 (some .boolean)] ++ wsX110)
noncomputable def wsX11_swap : List Cond := .code yX11_swap cX11_swap 5 (some .int) :: ([.fieldLink RX11 16 "MilkRoundModel" "orderAt" "[I", .methodLink RX11 116 yX11_isHouse, .instanceMethod yX11_isHouse, .selects RX11 yX11_isHouse yX11_isHouse, .initialized RX11, .code yX11_isHouse cX11_isHouse 2 (some .boolean), .fieldLink RX11 82 "MilkRoundModel" "houses" "I", .methodLink RX11 56 yX11_within, .static yX11_within, .code yX11_within cX11_within 3 (some .boolean), .methodLink RX11 141 yX11_placeOf, .instanceMethod yX11_placeOf, .selects RX11 yX11_placeOf yX11_placeOf, .code yX11_placeOf cX11_placeOf 4 (some .int)] ++ wsX110)
noncomputable def wsX11_day_r1 : List Cond := [Cond.fieldLink RX11 82 "MilkRoundModel" "houses" "I", Cond.fieldLink RX11 97 "MilkRoundModel" "soured" "I", Cond.fieldLink RX11 100 "MilkRoundModel" "overheard" "I", Cond.fieldLink RX11 13 "MilkRoundModel" "longOf" "[I", Cond.fieldLink RX11 7 "MilkRoundModel" "kindOf" "[I", Cond.fieldLink RX11 94 "MilkRoundModel" "days" "I", Cond.methodLink RX11 132 yX11_sourNow, Cond.instanceMethod yX11_sourNow, Cond.selects RX11 yX11_sourNow yX11_sourNow, Cond.initialized RX11, Cond.code yX11_sourNow cX11_sourNow 3 (some .int), Cond.methodLink RX11 123 yX11_go, Cond.instanceMethod yX11_go, Cond.selects RX11 yX11_go yX11_go, Cond.code yX11_go cX11_go 3 none, Cond.fieldLink RX11 16 "MilkRoundModel" "orderAt" "[I", Cond.fieldLink RX11 29 "MilkRoundModel" "comesAt" "[I", Cond.methodLink RX11 113 yX11_reads, Cond.instanceMethod yX11_reads, Cond.selects RX11 yX11_reads yX11_reads, Cond.code yX11_reads cX11_reads 2 (some .int), Cond.fieldLink RX11 91 "MilkRoundModel" "leftOut" "I", Cond.methodLink RX11 106 yX11_isIn, Cond.static yX11_isIn]
noncomputable def wsX11_day_r2 : List Cond := [Cond.code yX11_isIn cX11_isIn 2 (some .boolean), Cond.methodLink RX11 110 yX11_readsAll, Cond.instanceMethod yX11_readsAll, Cond.selects RX11 yX11_readsAll yX11_readsAll, Cond.code yX11_readsAll cX11_readsAll 3 (some .int), Cond.methodLink RX11 126 yX11_isSour, Cond.instanceMethod yX11_isSour, Cond.selects RX11 yX11_isSour yX11_isSour, Cond.code yX11_isSour cX11_isSour 2 (some .boolean), Cond.fieldLink RX11 85 "MilkRoundModel" "keep" "I", Cond.methodLink RX11 135 yX11_hearNow, Cond.instanceMethod yX11_hearNow, Cond.selects RX11 yX11_hearNow yX11_hearNow, Cond.code yX11_hearNow cX11_hearNow 3 (some .int), Cond.methodLink RX11 129 yX11_hears, Cond.instanceMethod yX11_hears, Cond.selects RX11 yX11_hears yX11_hears, Cond.code yX11_hears cX11_hears 2 (some .boolean), Cond.methodLink RX11 120 yX11_isAhead, Cond.instanceMethod yX11_isAhead, Cond.selects RX11 yX11_isAhead yX11_isAhead, Cond.code yX11_isAhead cX11_isAhead 3 (some .boolean), Cond.methodLink RX11 116 yX11_isHouse, Cond.instanceMethod yX11_isHouse]
noncomputable def wsX11_day_r3 : List Cond := [Cond.selects RX11 yX11_isHouse yX11_isHouse, Cond.code yX11_isHouse cX11_isHouse 2 (some .boolean), Cond.methodLink RX11 56 yX11_within, Cond.static yX11_within, Cond.code yX11_within cX11_within 3 (some .boolean)]
noncomputable def wsX11_day : List Cond := .code yX11_day cX11_day 4 (some .int) :: ((wsX11_day_r1 ++ (wsX11_day_r2 ++ wsX11_day_r3)) ++ wsX110)
noncomputable def wsX11_change : List Cond := .code yX11_change cX11_change 4 none :: ([.fieldLink RX11 16 "MilkRoundModel" "orderAt" "[I"] ++ wsX110)
noncomputable def wsX11_nextOrder : List Cond := .code yX11_nextOrder cX11_nextOrder 5 (some .boolean) :: ([.fieldLink RX11 82 "MilkRoundModel" "houses" "I", .fieldLink RX11 16 "MilkRoundModel" "orderAt" "[I", .methodLink RX11 151 yX11_change, .instanceMethod yX11_change, .selects RX11 yX11_change yX11_change, .initialized RX11, .code yX11_change cX11_change 4 none] ++ wsX110)
noncomputable def wsX11_bestNow_r1 : List Cond := [Cond.fieldLink RX11 32 "MilkRoundModel" "savedOrder" "[I", Cond.fieldLink RX11 16 "MilkRoundModel" "orderAt" "[I", Cond.fieldLink RX11 82 "MilkRoundModel" "houses" "I", Cond.constant RX11 155 (268435456), Cond.fieldLink RX11 35 "MilkRoundModel" "bestOrder" "[I", Cond.methodLink RX11 138 yX11_wrongNow, Cond.instanceMethod yX11_wrongNow, Cond.selects RX11 yX11_wrongNow yX11_wrongNow, Cond.initialized RX11, Cond.code yX11_wrongNow cX11_wrongNow 1 (some .int), Cond.methodLink RX11 132 yX11_sourNow, Cond.instanceMethod yX11_sourNow, Cond.selects RX11 yX11_sourNow yX11_sourNow, Cond.code yX11_sourNow cX11_sourNow 3 (some .int), Cond.methodLink RX11 123 yX11_go, Cond.instanceMethod yX11_go, Cond.selects RX11 yX11_go yX11_go, Cond.code yX11_go cX11_go 3 none, Cond.fieldLink RX11 29 "MilkRoundModel" "comesAt" "[I", Cond.methodLink RX11 113 yX11_reads, Cond.instanceMethod yX11_reads, Cond.selects RX11 yX11_reads yX11_reads, Cond.code yX11_reads cX11_reads 2 (some .int), Cond.fieldLink RX11 91 "MilkRoundModel" "leftOut" "I"]
noncomputable def wsX11_bestNow_r2 : List Cond := [Cond.methodLink RX11 106 yX11_isIn, Cond.static yX11_isIn, Cond.code yX11_isIn cX11_isIn 2 (some .boolean), Cond.methodLink RX11 110 yX11_readsAll, Cond.instanceMethod yX11_readsAll, Cond.selects RX11 yX11_readsAll yX11_readsAll, Cond.code yX11_readsAll cX11_readsAll 3 (some .int), Cond.fieldLink RX11 13 "MilkRoundModel" "longOf" "[I", Cond.fieldLink RX11 7 "MilkRoundModel" "kindOf" "[I", Cond.methodLink RX11 126 yX11_isSour, Cond.instanceMethod yX11_isSour, Cond.selects RX11 yX11_isSour yX11_isSour, Cond.code yX11_isSour cX11_isSour 2 (some .boolean), Cond.fieldLink RX11 85 "MilkRoundModel" "keep" "I", Cond.methodLink RX11 135 yX11_hearNow, Cond.instanceMethod yX11_hearNow, Cond.selects RX11 yX11_hearNow yX11_hearNow, Cond.code yX11_hearNow cX11_hearNow 3 (some .int), Cond.methodLink RX11 129 yX11_hears, Cond.instanceMethod yX11_hears, Cond.selects RX11 yX11_hears yX11_hears, Cond.code yX11_hears cX11_hears 2 (some .boolean), Cond.methodLink RX11 120 yX11_isAhead, Cond.instanceMethod yX11_isAhead]
noncomputable def wsX11_bestNow_r3 : List Cond := [Cond.selects RX11 yX11_isAhead yX11_isAhead, Cond.code yX11_isAhead cX11_isAhead 3 (some .boolean), Cond.methodLink RX11 116 yX11_isHouse, Cond.instanceMethod yX11_isHouse, Cond.selects RX11 yX11_isHouse yX11_isHouse, Cond.code yX11_isHouse cX11_isHouse 2 (some .boolean), Cond.methodLink RX11 56 yX11_within, Cond.static yX11_within, Cond.code yX11_within cX11_within 3 (some .boolean), Cond.methodLink RX11 156 yX11_nextOrder, Cond.instanceMethod yX11_nextOrder, Cond.selects RX11 yX11_nextOrder yX11_nextOrder, Cond.code yX11_nextOrder cX11_nextOrder 5 (some .boolean), Cond.methodLink RX11 151 yX11_change, Cond.instanceMethod yX11_change, Cond.selects RX11 yX11_change yX11_change, Cond.code yX11_change cX11_change 4 none]
noncomputable def wsX11_bestNow : List Cond := .code yX11_bestNow cX11_bestNow 6 (some .int) :: ((wsX11_bestNow_r1 ++ (wsX11_bestNow_r2 ++ wsX11_bestNow_r3)) ++ wsX110)
noncomputable def wsX11_best_r1 : List Cond := [Cond.fieldLink RX11 82 "MilkRoundModel" "houses" "I", Cond.fieldLink RX11 160 "MilkRoundModel" "asks" "I", Cond.methodLink RX11 56 yX11_within, Cond.static yX11_within, Cond.initialized RX11, Cond.code yX11_within cX11_within 3 (some .boolean), Cond.methodLink RX11 163 yX11_bestNow, Cond.instanceMethod yX11_bestNow, Cond.selects RX11 yX11_bestNow yX11_bestNow, Cond.code yX11_bestNow cX11_bestNow 6 (some .int), Cond.fieldLink RX11 32 "MilkRoundModel" "savedOrder" "[I", Cond.fieldLink RX11 16 "MilkRoundModel" "orderAt" "[I", Cond.constant RX11 155 (268435456), Cond.fieldLink RX11 35 "MilkRoundModel" "bestOrder" "[I", Cond.methodLink RX11 138 yX11_wrongNow, Cond.instanceMethod yX11_wrongNow, Cond.selects RX11 yX11_wrongNow yX11_wrongNow, Cond.code yX11_wrongNow cX11_wrongNow 1 (some .int), Cond.methodLink RX11 132 yX11_sourNow, Cond.instanceMethod yX11_sourNow, Cond.selects RX11 yX11_sourNow yX11_sourNow, Cond.code yX11_sourNow cX11_sourNow 3 (some .int), Cond.methodLink RX11 123 yX11_go, Cond.instanceMethod yX11_go]
noncomputable def wsX11_best_r2 : List Cond := [Cond.selects RX11 yX11_go yX11_go, Cond.code yX11_go cX11_go 3 none, Cond.fieldLink RX11 29 "MilkRoundModel" "comesAt" "[I", Cond.methodLink RX11 113 yX11_reads, Cond.instanceMethod yX11_reads, Cond.selects RX11 yX11_reads yX11_reads, Cond.code yX11_reads cX11_reads 2 (some .int), Cond.fieldLink RX11 91 "MilkRoundModel" "leftOut" "I", Cond.methodLink RX11 106 yX11_isIn, Cond.static yX11_isIn, Cond.code yX11_isIn cX11_isIn 2 (some .boolean), Cond.methodLink RX11 110 yX11_readsAll, Cond.instanceMethod yX11_readsAll, Cond.selects RX11 yX11_readsAll yX11_readsAll, Cond.code yX11_readsAll cX11_readsAll 3 (some .int), Cond.fieldLink RX11 13 "MilkRoundModel" "longOf" "[I", Cond.fieldLink RX11 7 "MilkRoundModel" "kindOf" "[I", Cond.methodLink RX11 126 yX11_isSour, Cond.instanceMethod yX11_isSour, Cond.selects RX11 yX11_isSour yX11_isSour, Cond.code yX11_isSour cX11_isSour 2 (some .boolean), Cond.fieldLink RX11 85 "MilkRoundModel" "keep" "I", Cond.methodLink RX11 135 yX11_hearNow, Cond.instanceMethod yX11_hearNow]
noncomputable def wsX11_best_r3 : List Cond := [Cond.selects RX11 yX11_hearNow yX11_hearNow, Cond.code yX11_hearNow cX11_hearNow 3 (some .int), Cond.methodLink RX11 129 yX11_hears, Cond.instanceMethod yX11_hears, Cond.selects RX11 yX11_hears yX11_hears, Cond.code yX11_hears cX11_hears 2 (some .boolean), Cond.methodLink RX11 120 yX11_isAhead, Cond.instanceMethod yX11_isAhead, Cond.selects RX11 yX11_isAhead yX11_isAhead, Cond.code yX11_isAhead cX11_isAhead 3 (some .boolean), Cond.methodLink RX11 116 yX11_isHouse, Cond.instanceMethod yX11_isHouse, Cond.selects RX11 yX11_isHouse yX11_isHouse, Cond.code yX11_isHouse cX11_isHouse 2 (some .boolean), Cond.methodLink RX11 156 yX11_nextOrder, Cond.instanceMethod yX11_nextOrder, Cond.selects RX11 yX11_nextOrder yX11_nextOrder, Cond.code yX11_nextOrder cX11_nextOrder 5 (some .boolean), Cond.methodLink RX11 151 yX11_change, Cond.instanceMethod yX11_change, Cond.selects RX11 yX11_change yX11_change, Cond.code yX11_change cX11_change 4 none]
noncomputable def wsX11_best : List Cond := .code yX11_best cX11_best 2 (some .int) :: ((wsX11_best_r1 ++ (wsX11_best_r2 ++ wsX11_best_r3)) ++ wsX110)
noncomputable def wsX11_known : List Cond := .code yX11_known cX11_known 3 (some .int) :: ([.fieldLink RX11 103 "MilkRoundModel" "known" "I", .fieldLink RX11 19 "MilkRoundModel" "knownHouse" "[I", .fieldLink RX11 22 "MilkRoundModel" "knownMinutes" "[I", .methodLink RX11 116 yX11_isHouse, .instanceMethod yX11_isHouse, .selects RX11 yX11_isHouse yX11_isHouse, .initialized RX11, .code yX11_isHouse cX11_isHouse 2 (some .boolean), .fieldLink RX11 82 "MilkRoundModel" "houses" "I", .methodLink RX11 56 yX11_within, .static yX11_within, .code yX11_within cX11_within 3 (some .boolean)] ++ wsX110)
noncomputable def wsX11_forget : List Cond := .code yX11_forget cX11_forget 2 (some .int) :: ([.fieldLink RX11 103 "MilkRoundModel" "known" "I"] ++ wsX110)
noncomputable def wsX11_isKnown_r1 : List Cond := [Cond.fieldLink RX11 91 "MilkRoundModel" "leftOut" "I", Cond.fieldLink RX11 103 "MilkRoundModel" "known" "I", Cond.fieldLink RX11 29 "MilkRoundModel" "comesAt" "[I", Cond.fieldLink RX11 19 "MilkRoundModel" "knownHouse" "[I", Cond.fieldLink RX11 22 "MilkRoundModel" "knownMinutes" "[I", Cond.methodLink RX11 123 yX11_go, Cond.instanceMethod yX11_go, Cond.selects RX11 yX11_go yX11_go, Cond.initialized RX11, Cond.code yX11_go cX11_go 3 none, Cond.fieldLink RX11 82 "MilkRoundModel" "houses" "I", Cond.fieldLink RX11 16 "MilkRoundModel" "orderAt" "[I", Cond.methodLink RX11 113 yX11_reads, Cond.instanceMethod yX11_reads, Cond.selects RX11 yX11_reads yX11_reads, Cond.code yX11_reads cX11_reads 2 (some .int), Cond.methodLink RX11 106 yX11_isIn, Cond.static yX11_isIn, Cond.code yX11_isIn cX11_isIn 2 (some .boolean), Cond.methodLink RX11 110 yX11_readsAll, Cond.instanceMethod yX11_readsAll, Cond.selects RX11 yX11_readsAll yX11_readsAll, Cond.code yX11_readsAll cX11_readsAll 3 (some .int), Cond.fieldLink RX11 13 "MilkRoundModel" "longOf" "[I"]
noncomputable def wsX11_isKnown_r2 : List Cond := [Cond.fieldLink RX11 7 "MilkRoundModel" "kindOf" "[I"]
noncomputable def wsX11_isKnown : List Cond := .code yX11_isKnown cX11_isKnown 5 (some .boolean) :: ((wsX11_isKnown_r1 ++ wsX11_isKnown_r2) ++ wsX110)
noncomputable def wsX11_setsNow_r1 : List Cond := [Cond.fieldLink RX11 82 "MilkRoundModel" "houses" "I", Cond.methodLink RX11 166 yX11_isKnown, Cond.instanceMethod yX11_isKnown, Cond.selects RX11 yX11_isKnown yX11_isKnown, Cond.initialized RX11, Cond.code yX11_isKnown cX11_isKnown 5 (some .boolean), Cond.fieldLink RX11 91 "MilkRoundModel" "leftOut" "I", Cond.fieldLink RX11 103 "MilkRoundModel" "known" "I", Cond.fieldLink RX11 29 "MilkRoundModel" "comesAt" "[I", Cond.fieldLink RX11 19 "MilkRoundModel" "knownHouse" "[I", Cond.fieldLink RX11 22 "MilkRoundModel" "knownMinutes" "[I", Cond.methodLink RX11 123 yX11_go, Cond.instanceMethod yX11_go, Cond.selects RX11 yX11_go yX11_go, Cond.code yX11_go cX11_go 3 none, Cond.fieldLink RX11 16 "MilkRoundModel" "orderAt" "[I", Cond.methodLink RX11 113 yX11_reads, Cond.instanceMethod yX11_reads, Cond.selects RX11 yX11_reads yX11_reads, Cond.code yX11_reads cX11_reads 2 (some .int), Cond.methodLink RX11 106 yX11_isIn, Cond.static yX11_isIn, Cond.code yX11_isIn cX11_isIn 2 (some .boolean), Cond.methodLink RX11 110 yX11_readsAll]
noncomputable def wsX11_setsNow_r2 : List Cond := [Cond.instanceMethod yX11_readsAll, Cond.selects RX11 yX11_readsAll yX11_readsAll, Cond.code yX11_readsAll cX11_readsAll 3 (some .int), Cond.fieldLink RX11 13 "MilkRoundModel" "longOf" "[I", Cond.fieldLink RX11 7 "MilkRoundModel" "kindOf" "[I"]
noncomputable def wsX11_setsNow : List Cond := .code yX11_setsNow cX11_setsNow 6 (some .int) :: ((wsX11_setsNow_r1 ++ wsX11_setsNow_r2) ++ wsX110)
noncomputable def wsX11_sets_r1 : List Cond := [Cond.fieldLink RX11 82 "MilkRoundModel" "houses" "I", Cond.methodLink RX11 56 yX11_within, Cond.static yX11_within, Cond.initialized RX11, Cond.code yX11_within cX11_within 3 (some .boolean), Cond.methodLink RX11 169 yX11_setsNow, Cond.instanceMethod yX11_setsNow, Cond.selects RX11 yX11_setsNow yX11_setsNow, Cond.code yX11_setsNow cX11_setsNow 6 (some .int), Cond.methodLink RX11 166 yX11_isKnown, Cond.instanceMethod yX11_isKnown, Cond.selects RX11 yX11_isKnown yX11_isKnown, Cond.code yX11_isKnown cX11_isKnown 5 (some .boolean), Cond.fieldLink RX11 91 "MilkRoundModel" "leftOut" "I", Cond.fieldLink RX11 103 "MilkRoundModel" "known" "I", Cond.fieldLink RX11 29 "MilkRoundModel" "comesAt" "[I", Cond.fieldLink RX11 19 "MilkRoundModel" "knownHouse" "[I", Cond.fieldLink RX11 22 "MilkRoundModel" "knownMinutes" "[I", Cond.methodLink RX11 123 yX11_go, Cond.instanceMethod yX11_go, Cond.selects RX11 yX11_go yX11_go, Cond.code yX11_go cX11_go 3 none, Cond.fieldLink RX11 16 "MilkRoundModel" "orderAt" "[I", Cond.methodLink RX11 113 yX11_reads]
noncomputable def wsX11_sets_r2 : List Cond := [Cond.instanceMethod yX11_reads, Cond.selects RX11 yX11_reads yX11_reads, Cond.code yX11_reads cX11_reads 2 (some .int), Cond.methodLink RX11 106 yX11_isIn, Cond.static yX11_isIn, Cond.code yX11_isIn cX11_isIn 2 (some .boolean), Cond.methodLink RX11 110 yX11_readsAll, Cond.instanceMethod yX11_readsAll, Cond.selects RX11 yX11_readsAll yX11_readsAll, Cond.code yX11_readsAll cX11_readsAll 3 (some .int), Cond.fieldLink RX11 13 "MilkRoundModel" "longOf" "[I", Cond.fieldLink RX11 7 "MilkRoundModel" "kindOf" "[I"]
noncomputable def wsX11_sets : List Cond := .code yX11_sets cX11_sets 2 (some .int) :: ((wsX11_sets_r1 ++ wsX11_sets_r2) ++ wsX110)
noncomputable def wsX11_worstOf_r1 : List Cond := [Cond.fieldLink RX11 38 "MilkRoundModel" "comesBy" "[I", Cond.fieldLink RX11 82 "MilkRoundModel" "houses" "I", Cond.fieldLink RX11 29 "MilkRoundModel" "comesAt" "[I", Cond.methodLink RX11 166 yX11_isKnown, Cond.instanceMethod yX11_isKnown, Cond.selects RX11 yX11_isKnown yX11_isKnown, Cond.initialized RX11, Cond.code yX11_isKnown cX11_isKnown 5 (some .boolean), Cond.fieldLink RX11 91 "MilkRoundModel" "leftOut" "I", Cond.fieldLink RX11 103 "MilkRoundModel" "known" "I", Cond.fieldLink RX11 19 "MilkRoundModel" "knownHouse" "[I", Cond.fieldLink RX11 22 "MilkRoundModel" "knownMinutes" "[I", Cond.methodLink RX11 123 yX11_go, Cond.instanceMethod yX11_go, Cond.selects RX11 yX11_go yX11_go, Cond.code yX11_go cX11_go 3 none, Cond.fieldLink RX11 16 "MilkRoundModel" "orderAt" "[I", Cond.methodLink RX11 113 yX11_reads, Cond.instanceMethod yX11_reads, Cond.selects RX11 yX11_reads yX11_reads, Cond.code yX11_reads cX11_reads 2 (some .int), Cond.methodLink RX11 106 yX11_isIn, Cond.static yX11_isIn, Cond.code yX11_isIn cX11_isIn 2 (some .boolean)]
noncomputable def wsX11_worstOf_r2 : List Cond := [Cond.methodLink RX11 110 yX11_readsAll, Cond.instanceMethod yX11_readsAll, Cond.selects RX11 yX11_readsAll yX11_readsAll, Cond.code yX11_readsAll cX11_readsAll 3 (some .int), Cond.fieldLink RX11 13 "MilkRoundModel" "longOf" "[I", Cond.fieldLink RX11 7 "MilkRoundModel" "kindOf" "[I"]
noncomputable def wsX11_worstOf : List Cond := .code yX11_worstOf cX11_worstOf 4 (some .int) :: ((wsX11_worstOf_r1 ++ wsX11_worstOf_r2) ++ wsX110)
noncomputable def wsX11_askNow_r1 : List Cond := [Cond.constant RX11 155 (268435456), Cond.fieldLink RX11 82 "MilkRoundModel" "houses" "I", Cond.methodLink RX11 169 yX11_setsNow, Cond.instanceMethod yX11_setsNow, Cond.selects RX11 yX11_setsNow yX11_setsNow, Cond.initialized RX11, Cond.code yX11_setsNow cX11_setsNow 6 (some .int), Cond.methodLink RX11 166 yX11_isKnown, Cond.instanceMethod yX11_isKnown, Cond.selects RX11 yX11_isKnown yX11_isKnown, Cond.code yX11_isKnown cX11_isKnown 5 (some .boolean), Cond.fieldLink RX11 91 "MilkRoundModel" "leftOut" "I", Cond.fieldLink RX11 103 "MilkRoundModel" "known" "I", Cond.fieldLink RX11 29 "MilkRoundModel" "comesAt" "[I", Cond.fieldLink RX11 19 "MilkRoundModel" "knownHouse" "[I", Cond.fieldLink RX11 22 "MilkRoundModel" "knownMinutes" "[I", Cond.methodLink RX11 123 yX11_go, Cond.instanceMethod yX11_go, Cond.selects RX11 yX11_go yX11_go, Cond.code yX11_go cX11_go 3 none, Cond.fieldLink RX11 16 "MilkRoundModel" "orderAt" "[I", Cond.methodLink RX11 113 yX11_reads, Cond.instanceMethod yX11_reads, Cond.selects RX11 yX11_reads yX11_reads]
noncomputable def wsX11_askNow_r2 : List Cond := [Cond.code yX11_reads cX11_reads 2 (some .int), Cond.methodLink RX11 106 yX11_isIn, Cond.static yX11_isIn, Cond.code yX11_isIn cX11_isIn 2 (some .boolean), Cond.methodLink RX11 110 yX11_readsAll, Cond.instanceMethod yX11_readsAll, Cond.selects RX11 yX11_readsAll yX11_readsAll, Cond.code yX11_readsAll cX11_readsAll 3 (some .int), Cond.fieldLink RX11 13 "MilkRoundModel" "longOf" "[I", Cond.fieldLink RX11 7 "MilkRoundModel" "kindOf" "[I", Cond.methodLink RX11 172 yX11_worstOf, Cond.instanceMethod yX11_worstOf, Cond.selects RX11 yX11_worstOf yX11_worstOf, Cond.code yX11_worstOf cX11_worstOf 4 (some .int), Cond.fieldLink RX11 38 "MilkRoundModel" "comesBy" "[I"]
noncomputable def wsX11_askNow : List Cond := .code yX11_askNow cX11_askNow 5 (some .int) :: ((wsX11_askNow_r1 ++ wsX11_askNow_r2) ++ wsX110)
noncomputable def wsX11_ask_r1 : List Cond := [Cond.fieldLink RX11 82 "MilkRoundModel" "houses" "I", Cond.methodLink RX11 175 yX11_askNow, Cond.instanceMethod yX11_askNow, Cond.selects RX11 yX11_askNow yX11_askNow, Cond.initialized RX11, Cond.code yX11_askNow cX11_askNow 5 (some .int), Cond.constant RX11 155 (268435456), Cond.methodLink RX11 169 yX11_setsNow, Cond.instanceMethod yX11_setsNow, Cond.selects RX11 yX11_setsNow yX11_setsNow, Cond.code yX11_setsNow cX11_setsNow 6 (some .int), Cond.methodLink RX11 166 yX11_isKnown, Cond.instanceMethod yX11_isKnown, Cond.selects RX11 yX11_isKnown yX11_isKnown, Cond.code yX11_isKnown cX11_isKnown 5 (some .boolean), Cond.fieldLink RX11 91 "MilkRoundModel" "leftOut" "I", Cond.fieldLink RX11 103 "MilkRoundModel" "known" "I", Cond.fieldLink RX11 29 "MilkRoundModel" "comesAt" "[I", Cond.fieldLink RX11 19 "MilkRoundModel" "knownHouse" "[I", Cond.fieldLink RX11 22 "MilkRoundModel" "knownMinutes" "[I", Cond.methodLink RX11 123 yX11_go, Cond.instanceMethod yX11_go, Cond.selects RX11 yX11_go yX11_go, Cond.code yX11_go cX11_go 3 none]
noncomputable def wsX11_ask_r2 : List Cond := [Cond.fieldLink RX11 16 "MilkRoundModel" "orderAt" "[I", Cond.methodLink RX11 113 yX11_reads, Cond.instanceMethod yX11_reads, Cond.selects RX11 yX11_reads yX11_reads, Cond.code yX11_reads cX11_reads 2 (some .int), Cond.methodLink RX11 106 yX11_isIn, Cond.static yX11_isIn, Cond.code yX11_isIn cX11_isIn 2 (some .boolean), Cond.methodLink RX11 110 yX11_readsAll, Cond.instanceMethod yX11_readsAll, Cond.selects RX11 yX11_readsAll yX11_readsAll, Cond.code yX11_readsAll cX11_readsAll 3 (some .int), Cond.fieldLink RX11 13 "MilkRoundModel" "longOf" "[I", Cond.fieldLink RX11 7 "MilkRoundModel" "kindOf" "[I", Cond.methodLink RX11 172 yX11_worstOf, Cond.instanceMethod yX11_worstOf, Cond.selects RX11 yX11_worstOf yX11_worstOf, Cond.code yX11_worstOf cX11_worstOf 4 (some .int), Cond.fieldLink RX11 38 "MilkRoundModel" "comesBy" "[I"]
noncomputable def wsX11_ask : List Cond := .code yX11_ask cX11_ask 1 (some .int) :: ((wsX11_ask_r1 ++ wsX11_ask_r2) ++ wsX110)
noncomputable def wsX11_draw : List Cond := .code yX11_draw cX11_draw 2 (some .int) :: ([.constantLong RX11 178 (1103515245), .fieldLink RX11 180 "MilkRoundModel" "seedNow" "J", .constantLong RX11 184 (12345), .constantLong RX11 186 (2147483647), .constantLong RX11 188 (65536)] ++ wsX110)
noncomputable def wsX11_weeksNow_r1 : List Cond := [Cond.fieldLink RX11 41 "MilkRoundModel" "savedLong" "[I", Cond.fieldLink RX11 13 "MilkRoundModel" "longOf" "[I", Cond.fieldLink RX11 180 "MilkRoundModel" "seedNow" "J", Cond.fieldLink RX11 82 "MilkRoundModel" "houses" "I", Cond.methodLink RX11 190 yX11_draw, Cond.instanceMethod yX11_draw, Cond.selects RX11 yX11_draw yX11_draw, Cond.initialized RX11, Cond.code yX11_draw cX11_draw 2 (some .int), Cond.constantLong RX11 178 (1103515245), Cond.constantLong RX11 184 (12345), Cond.constantLong RX11 186 (2147483647), Cond.constantLong RX11 188 (65536), Cond.methodLink RX11 132 yX11_sourNow, Cond.instanceMethod yX11_sourNow, Cond.selects RX11 yX11_sourNow yX11_sourNow, Cond.code yX11_sourNow cX11_sourNow 3 (some .int), Cond.methodLink RX11 123 yX11_go, Cond.instanceMethod yX11_go, Cond.selects RX11 yX11_go yX11_go, Cond.code yX11_go cX11_go 3 none, Cond.fieldLink RX11 16 "MilkRoundModel" "orderAt" "[I", Cond.fieldLink RX11 29 "MilkRoundModel" "comesAt" "[I", Cond.methodLink RX11 113 yX11_reads]
noncomputable def wsX11_weeksNow_r2 : List Cond := [Cond.instanceMethod yX11_reads, Cond.selects RX11 yX11_reads yX11_reads, Cond.code yX11_reads cX11_reads 2 (some .int), Cond.fieldLink RX11 91 "MilkRoundModel" "leftOut" "I", Cond.methodLink RX11 106 yX11_isIn, Cond.static yX11_isIn, Cond.code yX11_isIn cX11_isIn 2 (some .boolean), Cond.methodLink RX11 110 yX11_readsAll, Cond.instanceMethod yX11_readsAll, Cond.selects RX11 yX11_readsAll yX11_readsAll, Cond.code yX11_readsAll cX11_readsAll 3 (some .int), Cond.fieldLink RX11 7 "MilkRoundModel" "kindOf" "[I", Cond.methodLink RX11 126 yX11_isSour, Cond.instanceMethod yX11_isSour, Cond.selects RX11 yX11_isSour yX11_isSour, Cond.code yX11_isSour cX11_isSour 2 (some .boolean), Cond.fieldLink RX11 85 "MilkRoundModel" "keep" "I", Cond.methodLink RX11 135 yX11_hearNow, Cond.instanceMethod yX11_hearNow, Cond.selects RX11 yX11_hearNow yX11_hearNow, Cond.code yX11_hearNow cX11_hearNow 3 (some .int), Cond.methodLink RX11 129 yX11_hears, Cond.instanceMethod yX11_hears, Cond.selects RX11 yX11_hears yX11_hears]
noncomputable def wsX11_weeksNow_r3 : List Cond := [Cond.code yX11_hears cX11_hears 2 (some .boolean), Cond.methodLink RX11 120 yX11_isAhead, Cond.instanceMethod yX11_isAhead, Cond.selects RX11 yX11_isAhead yX11_isAhead, Cond.code yX11_isAhead cX11_isAhead 3 (some .boolean), Cond.methodLink RX11 116 yX11_isHouse, Cond.instanceMethod yX11_isHouse, Cond.selects RX11 yX11_isHouse yX11_isHouse, Cond.code yX11_isHouse cX11_isHouse 2 (some .boolean), Cond.methodLink RX11 56 yX11_within, Cond.static yX11_within, Cond.code yX11_within cX11_within 3 (some .boolean)]
noncomputable def wsX11_weeksNow : List Cond := .code yX11_weeksNow cX11_weeksNow 8 (some .int) :: ((wsX11_weeksNow_r1 ++ (wsX11_weeksNow_r2 ++ wsX11_weeksNow_r3)) ++ wsX110)
noncomputable def wsX11_weeks_r1 : List Cond := [Cond.fieldLink RX11 82 "MilkRoundModel" "houses" "I", Cond.methodLink RX11 56 yX11_within, Cond.static yX11_within, Cond.initialized RX11, Cond.code yX11_within cX11_within 3 (some .boolean), Cond.methodLink RX11 193 yX11_weeksNow, Cond.instanceMethod yX11_weeksNow, Cond.selects RX11 yX11_weeksNow yX11_weeksNow, Cond.code yX11_weeksNow cX11_weeksNow 8 (some .int), Cond.fieldLink RX11 41 "MilkRoundModel" "savedLong" "[I", Cond.fieldLink RX11 13 "MilkRoundModel" "longOf" "[I", Cond.fieldLink RX11 180 "MilkRoundModel" "seedNow" "J", Cond.methodLink RX11 190 yX11_draw, Cond.instanceMethod yX11_draw, Cond.selects RX11 yX11_draw yX11_draw, Cond.code yX11_draw cX11_draw 2 (some .int), Cond.constantLong RX11 178 (1103515245), Cond.constantLong RX11 184 (12345), Cond.constantLong RX11 186 (2147483647), Cond.constantLong RX11 188 (65536), Cond.methodLink RX11 132 yX11_sourNow, Cond.instanceMethod yX11_sourNow, Cond.selects RX11 yX11_sourNow yX11_sourNow, Cond.code yX11_sourNow cX11_sourNow 3 (some .int)]
noncomputable def wsX11_weeks_r2 : List Cond := [Cond.methodLink RX11 123 yX11_go, Cond.instanceMethod yX11_go, Cond.selects RX11 yX11_go yX11_go, Cond.code yX11_go cX11_go 3 none, Cond.fieldLink RX11 16 "MilkRoundModel" "orderAt" "[I", Cond.fieldLink RX11 29 "MilkRoundModel" "comesAt" "[I", Cond.methodLink RX11 113 yX11_reads, Cond.instanceMethod yX11_reads, Cond.selects RX11 yX11_reads yX11_reads, Cond.code yX11_reads cX11_reads 2 (some .int), Cond.fieldLink RX11 91 "MilkRoundModel" "leftOut" "I", Cond.methodLink RX11 106 yX11_isIn, Cond.static yX11_isIn, Cond.code yX11_isIn cX11_isIn 2 (some .boolean), Cond.methodLink RX11 110 yX11_readsAll, Cond.instanceMethod yX11_readsAll, Cond.selects RX11 yX11_readsAll yX11_readsAll, Cond.code yX11_readsAll cX11_readsAll 3 (some .int), Cond.fieldLink RX11 7 "MilkRoundModel" "kindOf" "[I", Cond.methodLink RX11 126 yX11_isSour, Cond.instanceMethod yX11_isSour, Cond.selects RX11 yX11_isSour yX11_isSour, Cond.code yX11_isSour cX11_isSour 2 (some .boolean), Cond.fieldLink RX11 85 "MilkRoundModel" "keep" "I"]
noncomputable def wsX11_weeks_r3 : List Cond := [Cond.methodLink RX11 135 yX11_hearNow, Cond.instanceMethod yX11_hearNow, Cond.selects RX11 yX11_hearNow yX11_hearNow, Cond.code yX11_hearNow cX11_hearNow 3 (some .int), Cond.methodLink RX11 129 yX11_hears, Cond.instanceMethod yX11_hears, Cond.selects RX11 yX11_hears yX11_hears, Cond.code yX11_hears cX11_hears 2 (some .boolean), Cond.methodLink RX11 120 yX11_isAhead, Cond.instanceMethod yX11_isAhead, Cond.selects RX11 yX11_isAhead yX11_isAhead, Cond.code yX11_isAhead cX11_isAhead 3 (some .boolean), Cond.methodLink RX11 116 yX11_isHouse, Cond.instanceMethod yX11_isHouse, Cond.selects RX11 yX11_isHouse yX11_isHouse, Cond.code yX11_isHouse cX11_isHouse 2 (some .boolean)]
noncomputable def wsX11_weeks : List Cond := .code yX11_weeks cX11_weeks 4 (some .int) :: ((wsX11_weeks_r1 ++ (wsX11_weeks_r2 ++ wsX11_weeks_r3)) ++ wsX110)
noncomputable def wsX11_image : List Cond := .code yX11_image cX11_image 2 (some .int) :: ([.fieldLink RX11 82 "MilkRoundModel" "houses" "I", .fieldLink RX11 197 "MilkRoundModel" "isKept" "Z", .fieldLink RX11 88 "MilkRoundModel" "rounds" "I", .fieldLink RX11 200 "MilkRoundModel" "keptRound" "I", .fieldLink RX11 91 "MilkRoundModel" "leftOut" "I", .fieldLink RX11 203 "MilkRoundModel" "keptLeft" "I", .fieldLink RX11 94 "MilkRoundModel" "days" "I", .fieldLink RX11 206 "MilkRoundModel" "keptDays" "I", .fieldLink RX11 97 "MilkRoundModel" "soured" "I", .fieldLink RX11 209 "MilkRoundModel" "keptSoured" "I", .fieldLink RX11 100 "MilkRoundModel" "overheard" "I", .fieldLink RX11 212 "MilkRoundModel" "keptOverheard" "I", .fieldLink RX11 103 "MilkRoundModel" "known" "I", .fieldLink RX11 215 "MilkRoundModel" "keptKnown" "I", .fieldLink RX11 44 "MilkRoundModel" "keptLong" "[I", .fieldLink RX11 13 "MilkRoundModel" "longOf" "[I", .fieldLink RX11 47 "MilkRoundModel" "keptOrder" "[I", .fieldLink RX11 16 "MilkRoundModel" "orderAt" "[I", .fieldLink RX11 50 "MilkRoundModel" "keptHouse" "[I", .fieldLink RX11 19 "MilkRoundModel" "knownHouse" "[I", .fieldLink RX11 53 "MilkRoundModel" "keptMinutes" "[I", .fieldLink RX11 22 "MilkRoundModel" "knownMinutes" "[I"] ++ wsX110)
noncomputable def wsX11_restore : List Cond := .code yX11_restore cX11_restore 2 (some .int) :: ([.fieldLink RX11 197 "MilkRoundModel" "isKept" "Z", .fieldLink RX11 200 "MilkRoundModel" "keptRound" "I", .fieldLink RX11 88 "MilkRoundModel" "rounds" "I", .fieldLink RX11 203 "MilkRoundModel" "keptLeft" "I", .fieldLink RX11 91 "MilkRoundModel" "leftOut" "I", .fieldLink RX11 206 "MilkRoundModel" "keptDays" "I", .fieldLink RX11 94 "MilkRoundModel" "days" "I", .fieldLink RX11 209 "MilkRoundModel" "keptSoured" "I", .fieldLink RX11 97 "MilkRoundModel" "soured" "I", .fieldLink RX11 212 "MilkRoundModel" "keptOverheard" "I", .fieldLink RX11 100 "MilkRoundModel" "overheard" "I", .fieldLink RX11 215 "MilkRoundModel" "keptKnown" "I", .fieldLink RX11 103 "MilkRoundModel" "known" "I", .fieldLink RX11 13 "MilkRoundModel" "longOf" "[I", .fieldLink RX11 44 "MilkRoundModel" "keptLong" "[I", .fieldLink RX11 16 "MilkRoundModel" "orderAt" "[I", .fieldLink RX11 47 "MilkRoundModel" "keptOrder" "[I", .fieldLink RX11 19 "MilkRoundModel" "knownHouse" "[I", .fieldLink RX11 50 "MilkRoundModel" "keptHouse" "[I", .fieldLink RX11 22 "MilkRoundModel" "knownMinutes" "[I", .fieldLink RX11 53 "MilkRoundModel" "keptMinutes" "[I"] ++ wsX110)
noncomputable def wsX11_wayAll : List Cond := .code yX11_wayAll cX11_wayAll 3 (some .int) :: ([.fieldLink RX11 82 "MilkRoundModel" "houses" "I", .methodLink RX11 113 yX11_reads, .instanceMethod yX11_reads, .selects RX11 yX11_reads yX11_reads, .initialized RX11, .code yX11_reads cX11_reads 2 (some .int), .fieldLink RX11 91 "MilkRoundModel" "leftOut" "I", .methodLink RX11 106 yX11_isIn, .static yX11_isIn, .code yX11_isIn cX11_isIn 2 (some .boolean), .methodLink RX11 110 yX11_readsAll, .instanceMethod yX11_readsAll, .selects RX11 yX11_readsAll yX11_readsAll, .code yX11_readsAll cX11_readsAll 3 (some .int), .fieldLink RX11 13 "MilkRoundModel" "longOf" "[I", .fieldLink RX11 7 "MilkRoundModel" "kindOf" "[I"] ++ wsX110)
noncomputable def wsX11_howMany_r1 : List Cond := [Cond.fieldLink RX11 82 "MilkRoundModel" "houses" "I", Cond.fieldLink RX11 85 "MilkRoundModel" "keep" "I", Cond.fieldLink RX11 94 "MilkRoundModel" "days" "I", Cond.fieldLink RX11 97 "MilkRoundModel" "soured" "I", Cond.fieldLink RX11 100 "MilkRoundModel" "overheard" "I", Cond.fieldLink RX11 103 "MilkRoundModel" "known" "I", Cond.fieldLink RX11 60 "MilkRoundModel" "pageLength" "I", Cond.fieldLink RX11 88 "MilkRoundModel" "rounds" "I", Cond.fieldLink RX11 160 "MilkRoundModel" "asks" "I", Cond.methodLink RX11 132 yX11_sourNow, Cond.instanceMethod yX11_sourNow, Cond.selects RX11 yX11_sourNow yX11_sourNow, Cond.initialized RX11, Cond.code yX11_sourNow cX11_sourNow 3 (some .int), Cond.methodLink RX11 123 yX11_go, Cond.instanceMethod yX11_go, Cond.selects RX11 yX11_go yX11_go, Cond.code yX11_go cX11_go 3 none, Cond.fieldLink RX11 16 "MilkRoundModel" "orderAt" "[I", Cond.fieldLink RX11 29 "MilkRoundModel" "comesAt" "[I", Cond.methodLink RX11 113 yX11_reads, Cond.instanceMethod yX11_reads, Cond.selects RX11 yX11_reads yX11_reads, Cond.code yX11_reads cX11_reads 2 (some .int)]
noncomputable def wsX11_howMany_r2 : List Cond := [Cond.fieldLink RX11 91 "MilkRoundModel" "leftOut" "I", Cond.methodLink RX11 106 yX11_isIn, Cond.static yX11_isIn, Cond.code yX11_isIn cX11_isIn 2 (some .boolean), Cond.methodLink RX11 110 yX11_readsAll, Cond.instanceMethod yX11_readsAll, Cond.selects RX11 yX11_readsAll yX11_readsAll, Cond.code yX11_readsAll cX11_readsAll 3 (some .int), Cond.fieldLink RX11 13 "MilkRoundModel" "longOf" "[I", Cond.fieldLink RX11 7 "MilkRoundModel" "kindOf" "[I", Cond.methodLink RX11 126 yX11_isSour, Cond.instanceMethod yX11_isSour, Cond.selects RX11 yX11_isSour yX11_isSour, Cond.code yX11_isSour cX11_isSour 2 (some .boolean), Cond.methodLink RX11 135 yX11_hearNow, Cond.instanceMethod yX11_hearNow, Cond.selects RX11 yX11_hearNow yX11_hearNow, Cond.code yX11_hearNow cX11_hearNow 3 (some .int), Cond.methodLink RX11 129 yX11_hears, Cond.instanceMethod yX11_hears, Cond.selects RX11 yX11_hears yX11_hears, Cond.code yX11_hears cX11_hears 2 (some .boolean), Cond.methodLink RX11 120 yX11_isAhead, Cond.instanceMethod yX11_isAhead]
noncomputable def wsX11_howMany_r3 : List Cond := [Cond.selects RX11 yX11_isAhead yX11_isAhead, Cond.code yX11_isAhead cX11_isAhead 3 (some .boolean), Cond.methodLink RX11 116 yX11_isHouse, Cond.instanceMethod yX11_isHouse, Cond.selects RX11 yX11_isHouse yX11_isHouse, Cond.code yX11_isHouse cX11_isHouse 2 (some .boolean), Cond.methodLink RX11 56 yX11_within, Cond.static yX11_within, Cond.code yX11_within cX11_within 3 (some .boolean), Cond.methodLink RX11 218 yX11_wayAll, Cond.instanceMethod yX11_wayAll, Cond.selects RX11 yX11_wayAll yX11_wayAll, Cond.code yX11_wayAll cX11_wayAll 3 (some .int)]
noncomputable def wsX11_howMany : List Cond := .code yX11_howMany cX11_howMany 2 (some .int) :: ((wsX11_howMany_r1 ++ (wsX11_howMany_r2 ++ wsX11_howMany_r3)) ++ wsX110)
noncomputable def wsX11_count_r1 : List Cond := [Cond.methodLink RX11 221 yX11_howMany, Cond.instanceMethod yX11_howMany, Cond.selects RX11 yX11_howMany yX11_howMany, Cond.initialized RX11, Cond.code yX11_howMany cX11_howMany 2 (some .int), Cond.fieldLink RX11 82 "MilkRoundModel" "houses" "I", Cond.fieldLink RX11 85 "MilkRoundModel" "keep" "I", Cond.fieldLink RX11 94 "MilkRoundModel" "days" "I", Cond.fieldLink RX11 97 "MilkRoundModel" "soured" "I", Cond.fieldLink RX11 100 "MilkRoundModel" "overheard" "I", Cond.fieldLink RX11 103 "MilkRoundModel" "known" "I", Cond.fieldLink RX11 60 "MilkRoundModel" "pageLength" "I", Cond.fieldLink RX11 88 "MilkRoundModel" "rounds" "I", Cond.fieldLink RX11 160 "MilkRoundModel" "asks" "I", Cond.methodLink RX11 132 yX11_sourNow, Cond.instanceMethod yX11_sourNow, Cond.selects RX11 yX11_sourNow yX11_sourNow, Cond.code yX11_sourNow cX11_sourNow 3 (some .int), Cond.methodLink RX11 123 yX11_go, Cond.instanceMethod yX11_go, Cond.selects RX11 yX11_go yX11_go, Cond.code yX11_go cX11_go 3 none, Cond.fieldLink RX11 16 "MilkRoundModel" "orderAt" "[I", Cond.fieldLink RX11 29 "MilkRoundModel" "comesAt" "[I"]
noncomputable def wsX11_count_r2 : List Cond := [Cond.methodLink RX11 113 yX11_reads, Cond.instanceMethod yX11_reads, Cond.selects RX11 yX11_reads yX11_reads, Cond.code yX11_reads cX11_reads 2 (some .int), Cond.fieldLink RX11 91 "MilkRoundModel" "leftOut" "I", Cond.methodLink RX11 106 yX11_isIn, Cond.static yX11_isIn, Cond.code yX11_isIn cX11_isIn 2 (some .boolean), Cond.methodLink RX11 110 yX11_readsAll, Cond.instanceMethod yX11_readsAll, Cond.selects RX11 yX11_readsAll yX11_readsAll, Cond.code yX11_readsAll cX11_readsAll 3 (some .int), Cond.fieldLink RX11 13 "MilkRoundModel" "longOf" "[I", Cond.fieldLink RX11 7 "MilkRoundModel" "kindOf" "[I", Cond.methodLink RX11 126 yX11_isSour, Cond.instanceMethod yX11_isSour, Cond.selects RX11 yX11_isSour yX11_isSour, Cond.code yX11_isSour cX11_isSour 2 (some .boolean), Cond.methodLink RX11 135 yX11_hearNow, Cond.instanceMethod yX11_hearNow, Cond.selects RX11 yX11_hearNow yX11_hearNow, Cond.code yX11_hearNow cX11_hearNow 3 (some .int), Cond.methodLink RX11 129 yX11_hears, Cond.instanceMethod yX11_hears]
noncomputable def wsX11_count_r3 : List Cond := [Cond.selects RX11 yX11_hears yX11_hears, Cond.code yX11_hears cX11_hears 2 (some .boolean), Cond.methodLink RX11 120 yX11_isAhead, Cond.instanceMethod yX11_isAhead, Cond.selects RX11 yX11_isAhead yX11_isAhead, Cond.code yX11_isAhead cX11_isAhead 3 (some .boolean), Cond.methodLink RX11 116 yX11_isHouse, Cond.instanceMethod yX11_isHouse, Cond.selects RX11 yX11_isHouse yX11_isHouse, Cond.code yX11_isHouse cX11_isHouse 2 (some .boolean), Cond.methodLink RX11 56 yX11_within, Cond.static yX11_within, Cond.code yX11_within cX11_within 3 (some .boolean), Cond.methodLink RX11 218 yX11_wayAll, Cond.instanceMethod yX11_wayAll, Cond.selects RX11 yX11_wayAll yX11_wayAll, Cond.code yX11_wayAll cX11_wayAll 3 (some .int)]
noncomputable def wsX11_count : List Cond := .code yX11_count cX11_count 2 (some .int) :: ((wsX11_count_r1 ++ (wsX11_count_r2 ++ wsX11_count_r3)) ++ wsX110)
noncomputable def wsX11_mix : List Cond := .code yX11_mix cX11_mix 3 none :: ([.constantLong RX11 224 (31), .fieldLink RX11 226 "MilkRoundModel" "h" "J"] ++ wsX110)
noncomputable def wsX11_digest_r1 : List Cond := [Cond.constantLong RX11 229 (1087), Cond.fieldLink RX11 226 "MilkRoundModel" "h" "J", Cond.fieldLink RX11 82 "MilkRoundModel" "houses" "I", Cond.fieldLink RX11 60 "MilkRoundModel" "pageLength" "I", Cond.fieldLink RX11 25 "MilkRoundModel" "page" "[B", Cond.methodLink RX11 147 yX11_houseNow, Cond.instanceMethod yX11_houseNow, Cond.selects RX11 yX11_houseNow yX11_houseNow, Cond.initialized RX11, Cond.code yX11_houseNow cX11_houseNow 3 (some .int), Cond.fieldLink RX11 7 "MilkRoundModel" "kindOf" "[I", Cond.fieldLink RX11 13 "MilkRoundModel" "longOf" "[I", Cond.fieldLink RX11 91 "MilkRoundModel" "leftOut" "I", Cond.fieldLink RX11 29 "MilkRoundModel" "comesAt" "[I", Cond.methodLink RX11 123 yX11_go, Cond.instanceMethod yX11_go, Cond.selects RX11 yX11_go yX11_go, Cond.code yX11_go cX11_go 3 none, Cond.fieldLink RX11 16 "MilkRoundModel" "orderAt" "[I", Cond.methodLink RX11 113 yX11_reads, Cond.instanceMethod yX11_reads, Cond.selects RX11 yX11_reads yX11_reads, Cond.code yX11_reads cX11_reads 2 (some .int), Cond.methodLink RX11 106 yX11_isIn]
noncomputable def wsX11_digest_r2 : List Cond := [Cond.static yX11_isIn, Cond.code yX11_isIn cX11_isIn 2 (some .boolean), Cond.methodLink RX11 110 yX11_readsAll, Cond.instanceMethod yX11_readsAll, Cond.selects RX11 yX11_readsAll yX11_readsAll, Cond.code yX11_readsAll cX11_readsAll 3 (some .int), Cond.methodLink RX11 141 yX11_placeOf, Cond.instanceMethod yX11_placeOf, Cond.selects RX11 yX11_placeOf yX11_placeOf, Cond.code yX11_placeOf cX11_placeOf 4 (some .int), Cond.methodLink RX11 126 yX11_isSour, Cond.instanceMethod yX11_isSour, Cond.selects RX11 yX11_isSour yX11_isSour, Cond.code yX11_isSour cX11_isSour 2 (some .boolean), Cond.fieldLink RX11 85 "MilkRoundModel" "keep" "I", Cond.methodLink RX11 129 yX11_hears, Cond.instanceMethod yX11_hears, Cond.selects RX11 yX11_hears yX11_hears, Cond.code yX11_hears cX11_hears 2 (some .boolean), Cond.methodLink RX11 120 yX11_isAhead, Cond.instanceMethod yX11_isAhead, Cond.selects RX11 yX11_isAhead yX11_isAhead, Cond.code yX11_isAhead cX11_isAhead 3 (some .boolean), Cond.methodLink RX11 116 yX11_isHouse]
noncomputable def wsX11_digest_r3 : List Cond := [Cond.instanceMethod yX11_isHouse, Cond.selects RX11 yX11_isHouse yX11_isHouse, Cond.code yX11_isHouse cX11_isHouse 2 (some .boolean), Cond.methodLink RX11 56 yX11_within, Cond.static yX11_within, Cond.code yX11_within cX11_within 3 (some .boolean), Cond.methodLink RX11 144 yX11_mostOf, Cond.instanceMethod yX11_mostOf, Cond.selects RX11 yX11_mostOf yX11_mostOf, Cond.code yX11_mostOf cX11_mostOf 6 (some .int), Cond.methodLink RX11 138 yX11_wrongNow, Cond.instanceMethod yX11_wrongNow, Cond.selects RX11 yX11_wrongNow yX11_wrongNow, Cond.code yX11_wrongNow cX11_wrongNow 1 (some .int), Cond.methodLink RX11 132 yX11_sourNow, Cond.instanceMethod yX11_sourNow, Cond.selects RX11 yX11_sourNow yX11_sourNow, Cond.code yX11_sourNow cX11_sourNow 3 (some .int), Cond.methodLink RX11 135 yX11_hearNow, Cond.instanceMethod yX11_hearNow, Cond.selects RX11 yX11_hearNow yX11_hearNow, Cond.code yX11_hearNow cX11_hearNow 3 (some .int), Cond.methodLink RX11 231 yX11_mix, Cond.instanceMethod yX11_mix]
noncomputable def wsX11_digest_r4 : List Cond := [Cond.selects RX11 yX11_mix yX11_mix, Cond.code yX11_mix cX11_mix 3 none, Cond.constantLong RX11 224 (31), Cond.methodLink RX11 169 yX11_setsNow, Cond.instanceMethod yX11_setsNow, Cond.selects RX11 yX11_setsNow yX11_setsNow, Cond.code yX11_setsNow cX11_setsNow 6 (some .int), Cond.methodLink RX11 166 yX11_isKnown, Cond.instanceMethod yX11_isKnown, Cond.selects RX11 yX11_isKnown yX11_isKnown, Cond.code yX11_isKnown cX11_isKnown 5 (some .boolean), Cond.fieldLink RX11 103 "MilkRoundModel" "known" "I", Cond.fieldLink RX11 19 "MilkRoundModel" "knownHouse" "[I", Cond.fieldLink RX11 22 "MilkRoundModel" "knownMinutes" "[I", Cond.methodLink RX11 175 yX11_askNow, Cond.instanceMethod yX11_askNow, Cond.selects RX11 yX11_askNow yX11_askNow, Cond.code yX11_askNow cX11_askNow 5 (some .int), Cond.constant RX11 155 (268435456), Cond.methodLink RX11 172 yX11_worstOf, Cond.instanceMethod yX11_worstOf, Cond.selects RX11 yX11_worstOf yX11_worstOf, Cond.code yX11_worstOf cX11_worstOf 4 (some .int), Cond.fieldLink RX11 38 "MilkRoundModel" "comesBy" "[I"]
noncomputable def wsX11_digest_r5 : List Cond := [Cond.methodLink RX11 221 yX11_howMany, Cond.instanceMethod yX11_howMany, Cond.selects RX11 yX11_howMany yX11_howMany, Cond.code yX11_howMany cX11_howMany 2 (some .int), Cond.fieldLink RX11 94 "MilkRoundModel" "days" "I", Cond.fieldLink RX11 97 "MilkRoundModel" "soured" "I", Cond.fieldLink RX11 100 "MilkRoundModel" "overheard" "I", Cond.fieldLink RX11 88 "MilkRoundModel" "rounds" "I", Cond.fieldLink RX11 160 "MilkRoundModel" "asks" "I", Cond.methodLink RX11 218 yX11_wayAll, Cond.instanceMethod yX11_wayAll, Cond.selects RX11 yX11_wayAll yX11_wayAll, Cond.code yX11_wayAll cX11_wayAll 3 (some .int)]
noncomputable def wsX11_digest : List Cond := .code yX11_digest cX11_digest 3 (some .long) :: ((wsX11_digest_r1 ++ (wsX11_digest_r2 ++ (wsX11_digest_r3 ++ (wsX11_digest_r4 ++ wsX11_digest_r5)))) ++ wsX110)
noncomputable def wsJ9_max_7cf53 : List Cond := .code yJ9_max_7cf53 cJ9_max_7cf53 2 (some .int) :: ([])
noncomputable def wsJ9_min_7cf53 : List Cond := .code yJ9_min_7cf53 cJ9_min_7cf53 2 (some .int) :: ([])
noncomputable def wsL_law_r1 : List Cond := [Cond.classLink RL 7 RX10, Cond.instantiable RX10 12, Cond.initialized RX10, Cond.classLink RL 10 RX11, Cond.instantiable RX11 36, Cond.initialized RX11, Cond.methodLink RL 9 yX10_init, Cond.instanceMethod yX10_init, Cond.code yX10_init cX10_init 1 none, Cond.methodLink RX10 1 objectInit, Cond.instanceMethod objectInit, Cond.code objectInit ⟨#[0xb1]⟩ 1 none, Cond.classLink RX10 7 RX4, Cond.instantiable RX4 2, Cond.initialized RX4, Cond.fieldLink RX10 10 "MilkRound" "page" "LMilkRound$Page;", Cond.classLink RX10 16 RX6, Cond.instantiable RX6 8, Cond.initialized RX6, Cond.fieldLink RX10 19 "MilkRound" "street" "LMilkRound$Street;", Cond.classLink RX10 23 RX2, Cond.instantiable RX2 9, Cond.initialized RX2, Cond.fieldLink RX10 26 "MilkRound" "now" "LMilkRound$Course;"]
noncomputable def wsL_law_r2 : List Cond := [Cond.fieldLink RX10 30 "MilkRound" "kept" "LMilkRound$Course;", Cond.classLink RX10 33 RX8, Cond.instantiable RX8 3, Cond.initialized RX8, Cond.fieldLink RX10 38 "MilkRound" "walk" "LMilkRound$Walk;", Cond.arrayClass .int, Cond.fieldLink RX10 42 "MilkRound" "trialLengths" "[I", Cond.fieldLink RX10 46 "MilkRound" "trialOrder" "[I", Cond.fieldLink RX10 49 "MilkRound" "bestOrder" "[I", Cond.classLink RX10 52 RX7, Cond.instantiable RX7 2, Cond.initialized RX7, Cond.fieldLink RX10 55 "MilkRound" "tally" "LMilkRound$Tally;", Cond.fieldLink RX10 59 "MilkRound" "hasImage" "Z", Cond.fieldLink RX10 63 "MilkRound" "roundsRead" "I", Cond.fieldLink RX10 67 "MilkRound" "searches" "I", Cond.instanceMethod yX4_init, Cond.code yX4_init cX4_init 1 none, Cond.methodLink RX4 3 objectInit, Cond.arrayClass .char, Cond.fieldLink RX4 11 "MilkRound$Page" "signs" "[C", Cond.fieldLink RX4 15 "MilkRound$Page" "size" "I", Cond.instanceMethod yX6_init, Cond.code yX6_init cX6_init 1 none]
noncomputable def wsL_law_r3 : List Cond := [Cond.methodLink RX6 1 objectInit, Cond.classLink RX6 7 RX3, Cond.instantiable RX3 0, Cond.initialized RX3, Cond.fieldLink RX6 10 "MilkRound$Street" "plain" "LMilkRound$House;", Cond.classLink RX6 16 RX5, Cond.instantiable RX5 0, Cond.initialized RX5, Cond.fieldLink RX6 19 "MilkRound$Street" "sea" "LMilkRound$House;", Cond.classLink RX6 22 RX0, Cond.instantiable RX0 0, Cond.initialized RX0, Cond.fieldLink RX6 25 "MilkRound$Street" "alone" "LMilkRound$House;", Cond.classLink RX6 28 RX1, Cond.instantiable RX1 0, Cond.initialized RX1, Cond.fieldLink RX6 31 "MilkRound$Street" "bad" "LMilkRound$House;", Cond.classLink RX6 34 RX9, Cond.instantiable RX9 0, Cond.initialized RX9, Cond.fieldLink RX6 37 "MilkRound$Street" "war" "LMilkRound$House;", Cond.fieldLink RX6 40 "MilkRound$Street" "houses" "[LMilkRound$House;", Cond.fieldLink RX6 44 "MilkRound$Street" "size" "I", Cond.fieldLink RX6 48 "MilkRound$Street" "keep" "I"]
noncomputable def wsL_law_r4 : List Cond := [Cond.instanceMethod yX3_init, Cond.code yX3_init cX3_init 1 none, Cond.methodLink RX3 1 objectInit, Cond.instanceMethod yX5_init, Cond.code yX5_init cX5_init 1 none, Cond.instanceMethod yX0_init, Cond.code yX0_init cX0_init 1 none, Cond.instanceMethod yX1_init, Cond.code yX1_init cX1_init 1 none, Cond.instanceMethod yX9_init, Cond.code yX9_init cX9_init 1 none, Cond.instanceMethod yX2_init, Cond.code yX2_init cX2_init 1 none, Cond.methodLink RX2 3 objectInit, Cond.fieldLink RX2 9 "MilkRound$Course" "lengths" "[I", Cond.fieldLink RX2 15 "MilkRound$Course" "order" "[I", Cond.fieldLink RX2 18 "MilkRound$Course" "knownHouses" "[I", Cond.fieldLink RX2 21 "MilkRound$Course" "knownMinutes" "[I", Cond.fieldLink RX2 24 "MilkRound$Course" "knownSize" "I", Cond.fieldLink RX2 28 "MilkRound$Course" "leftOut" "I", Cond.fieldLink RX2 31 "MilkRound$Course" "days" "I", Cond.fieldLink RX2 34 "MilkRound$Course" "soured" "I", Cond.fieldLink RX2 37 "MilkRound$Course" "heard" "I", Cond.methodLink RX10 35 yX8_init]
noncomputable def wsL_law_r5 : List Cond := [Cond.instanceMethod yX8_init, Cond.code yX8_init cX8_init 2 none, Cond.methodLink RX8 3 objectInit, Cond.fieldLink RX8 9 "MilkRound$Walk" "came" "[I", Cond.fieldLink RX8 15 "MilkRound$Walk" "minutesOfAll" "I", Cond.fieldLink RX8 19 "MilkRound$Walk" "street" "LMilkRound$Street;", Cond.instanceMethod yX7_init, Cond.code yX7_init cX7_init 1 none, Cond.methodLink RX7 3 objectInit, Cond.classLink RX7 9 "[[I", Cond.fieldLink RX7 11 "MilkRound$Tally" "left" "[[I", Cond.fieldLink RX7 16 "MilkRound$Tally" "worst" "[I", Cond.methodLink RL 12 yX11_init, Cond.instanceMethod yX11_init, Cond.code yX11_init cX11_init 1 none, Cond.methodLink RX11 1 objectInit, Cond.fieldLink RX11 7 "MilkRoundModel" "kindOf" "[I", Cond.fieldLink RX11 13 "MilkRoundModel" "longOf" "[I", Cond.fieldLink RX11 16 "MilkRoundModel" "orderAt" "[I", Cond.fieldLink RX11 19 "MilkRoundModel" "knownHouse" "[I", Cond.fieldLink RX11 22 "MilkRoundModel" "knownMinutes" "[I", Cond.arrayClass .byte, Cond.fieldLink RX11 25 "MilkRoundModel" "page" "[B", Cond.fieldLink RX11 29 "MilkRoundModel" "comesAt" "[I"]
noncomputable def wsL_law_r6 : List Cond := [Cond.fieldLink RX11 32 "MilkRoundModel" "savedOrder" "[I", Cond.fieldLink RX11 35 "MilkRoundModel" "bestOrder" "[I", Cond.fieldLink RX11 38 "MilkRoundModel" "comesBy" "[I", Cond.fieldLink RX11 41 "MilkRoundModel" "savedLong" "[I", Cond.fieldLink RX11 44 "MilkRoundModel" "keptLong" "[I", Cond.fieldLink RX11 47 "MilkRoundModel" "keptOrder" "[I", Cond.fieldLink RX11 50 "MilkRoundModel" "keptHouse" "[I", Cond.fieldLink RX11 53 "MilkRoundModel" "keptMinutes" "[I", Cond.methodLink RL 13 yX10_letter, Cond.instanceMethod yX10_letter, Cond.selects RX10 yX10_letter yX10_letter, Cond.code yX10_letter cX10_letter 2 (some .int), Cond.fieldLink RX10 74 "MilkRound$Page" "size" "I", Cond.methodLink RX10 70 yX4_add, Cond.instanceMethod yX4_add, Cond.selects RX4 yX4_add yX4_add, Cond.code yX4_add cX4_add 2 (some .boolean), Cond.methodLink RL 17 yX11_letter, Cond.instanceMethod yX11_letter, Cond.selects RX11 yX11_letter yX11_letter, Cond.code yX11_letter cX11_letter 2 (some .int), Cond.fieldLink RX11 60 "MilkRoundModel" "pageLength" "I", Cond.methodLink RX11 56 yX11_within, Cond.static yX11_within]
noncomputable def wsL_law_r7 : List Cond := [Cond.code yX11_within cX11_within 3 (some .boolean), Cond.methodLink RL 18 yX10_blank, Cond.instanceMethod yX10_blank, Cond.selects RX10 yX10_blank yX10_blank, Cond.code yX10_blank cX10_blank 2 (some .int), Cond.methodLink RL 22 yX11_blank, Cond.instanceMethod yX11_blank, Cond.selects RX11 yX11_blank yX11_blank, Cond.code yX11_blank cX11_blank 2 (some .int), Cond.methodLink RL 23 yX10_fault, Cond.instanceMethod yX10_fault, Cond.selects RX10 yX10_fault yX10_fault, Cond.code yX10_fault cX10_fault 1 (some .int), Cond.methodLink RX10 77 yX4_firstFault, Cond.instanceMethod yX4_firstFault, Cond.selects RX4 yX4_firstFault yX4_firstFault, Cond.code yX4_firstFault cX4_firstFault 3 (some .int), Cond.methodLink RX4 19 yX4_fits, Cond.static yX4_fits, Cond.code yX4_fits cX4_fits 4 (some .boolean), Cond.methodLink RX4 29 yJ0_indexOf_0f7a4, Cond.instanceMethod yJ0_indexOf_0f7a4, Cond.selects RJ0 yJ0_indexOf_0f7a4 yJ0_indexOf_0f7a4, Cond.initialized RJ0]
noncomputable def wsL_law_r8 : List Cond := [Cond.code yJ0_indexOf_0f7a4 cJ0_indexOf_0f7a4 2 (some .int), Cond.methodLink RJ0 633 yJ0_indexOf_7cf53, Cond.instanceMethod yJ0_indexOf_7cf53, Cond.selects RJ0 yJ0_indexOf_7cf53 yJ0_indexOf_7cf53, Cond.code yJ0_indexOf_7cf53 cJ0_indexOf_7cf53 3 (some .int), Cond.fieldLink RJ0 9 "java/lang/String" "value" "[B", Cond.methodLink RJ0 492 yJ0_isLatin1_aae02, Cond.instanceMethod yJ0_isLatin1_aae02, Cond.selects RJ0 yJ0_isLatin1_aae02 yJ0_isLatin1_aae02, Cond.code yJ0_isLatin1_aae02 cJ0_isLatin1_aae02 1 (some .boolean), Cond.fieldLink RJ0 38 "java/lang/String" "COMPACT_STRINGS" "Z", Cond.fieldLink RJ0 15 "java/lang/String" "coder" "B", Cond.methodLink RJ0 505 yJ0_length_8abf5, Cond.instanceMethod yJ0_length_8abf5, Cond.selects RJ0 yJ0_length_8abf5 yJ0_length_8abf5, Cond.code yJ0_length_8abf5 cJ0_length_8abf5 1 (some .int), Cond.methodLink RJ0 335 yJ0_coder_7d493, Cond.instanceMethod yJ0_coder_7d493, Cond.selects RJ0 yJ0_coder_7d493 yJ0_coder_7d493, Cond.code yJ0_coder_7d493 cJ0_coder_7d493 1 (some .byte), Cond.methodLink RJ0 637 yJ1_indexOf_4cfef, Cond.static yJ1_indexOf_4cfef, Cond.initialized RJ1, Cond.code yJ1_indexOf_4cfef cJ1_indexOf_4cfef 4 (some .int)]
noncomputable def wsL_law_r9 : List Cond := [Cond.methodLink RJ1 92 Lib.Math.max.name, Cond.static Lib.Math.max.name, Cond.initialized "java/lang/Math", Cond.code Lib.Math.max.name Lib.Math.max.code 2 (some .int), Cond.methodLink RJ1 38 Lib.Math.min.name, Cond.static Lib.Math.min.name, Cond.code Lib.Math.min.name Lib.Math.min.code 2 (some .int), Cond.methodLink RJ1 88 yJ1_canEncode_9a6ad, Cond.static yJ1_canEncode_9a6ad, Cond.code yJ1_canEncode_9a6ad cJ1_canEncode_9a6ad 1 (some .boolean), Cond.methodLink RJ1 95 yJ1_indexOfChar_4cfef, Cond.static yJ1_indexOfChar_4cfef, Cond.code yJ1_indexOfChar_4cfef cJ1_indexOfChar_4cfef 6 (some .int), Cond.methodLink RJ0 640 yJ2_indexOf_4cfef, Cond.static yJ2_indexOf_4cfef, Cond.initialized RJ2, Cond.code yJ2_indexOf_4cfef cJ2_indexOf_4cfef 4 (some .int), Cond.methodLink RJ2 224 Lib.Math.max.name, Cond.methodLink RJ2 183 Lib.Math.min.name, Cond.constant RJ2 227 (65536), Cond.methodLink RJ2 228 yJ2_indexOfChar_4cfef, Cond.static yJ2_indexOfChar_4cfef, Cond.code yJ2_indexOfChar_4cfef cJ2_indexOfChar_4cfef 4 (some .int), Cond.methodLink RJ2 96 yJ2_checkBoundsBeginEnd_d044e]
noncomputable def wsL_law_r10 : List Cond := [Cond.static yJ2_checkBoundsBeginEnd_d044e, Cond.code yJ2_checkBoundsBeginEnd_d044e cJ2_checkBoundsBeginEnd_d044e 3 none, Cond.methodLink RJ2 48 yJ2_length_9d52b, Cond.static yJ2_length_9d52b, Cond.code yJ2_length_9d52b cJ2_length_9d52b 1 (some .int), Cond.methodLink RJ2 241 yJ0_checkBoundsBeginEnd_23922, Cond.static yJ0_checkBoundsBeginEnd_23922, Cond.code yJ0_checkBoundsBeginEnd_23922 cJ0_checkBoundsBeginEnd_23922 3 none, Cond.fieldLink RJ0 1053 "jdk/internal/util/Preconditions" "SIOOBE_FORMATTER" "Ljava/util/function/BiFunction;", Cond.methodLink RJ0 1062 yJ3_checkFromToIndex_8c36e, Cond.static yJ3_checkFromToIndex_8c36e, Cond.initialized RJ3, Cond.code yJ3_checkFromToIndex_8c36e cJ3_checkFromToIndex_8c36e 4 (some .int), Cond.methodLink RJ2 244 yJ2_indexOfCharUnsafe_4cfef, Cond.static yJ2_indexOfCharUnsafe_4cfef, Cond.code yJ2_indexOfCharUnsafe_4cfef cJ2_indexOfCharUnsafe_4cfef 5 (some .int), Cond.methodLink RJ2 71 yJ2_getChar_3b067, Cond.static yJ2_getChar_3b067, Cond.code yJ2_getChar_3b067 cJ2_getChar_3b067 2 (some .char), Cond.fieldLink RJ2 44 "java/lang/StringUTF16" "$assertionsDisabled" "Z", Cond.fieldLink RJ2 59 "java/lang/StringUTF16" "HI_BYTE_SHIFT" "I", Cond.fieldLink RJ2 63 "java/lang/StringUTF16" "LO_BYTE_SHIFT" "I", Cond.methodLink RJ2 232 yJ2_indexOfSupplementary_4cfef, Cond.static yJ2_indexOfSupplementary_4cfef]
noncomputable def wsL_law_r11 : List Cond := [Cond.code yJ2_indexOfSupplementary_4cfef cJ2_indexOfSupplementary_4cfef 7 (some .int), Cond.methodLink RJ2 164 yJ11_isValidCodePoint_9a6ad, Cond.static yJ11_isValidCodePoint_9a6ad, Cond.initialized RJ11, Cond.code yJ11_isValidCodePoint_9a6ad cJ11_isValidCodePoint_9a6ad 2 (some .boolean), Cond.methodLink RJ2 157 yJ11_highSurrogate_5068e, Cond.static yJ11_highSurrogate_5068e, Cond.code yJ11_highSurrogate_5068e cJ11_highSurrogate_5068e 1 (some .char), Cond.constant RJ11 110 (55232), Cond.methodLink RJ2 161 yJ11_lowSurrogate_5068e, Cond.static yJ11_lowSurrogate_5068e, Cond.code yJ11_lowSurrogate_5068e cJ11_lowSurrogate_5068e 1 (some .char), Cond.constant RJ11 76 (56320), Cond.methodLink RX4 35 yX4_isMarkBehind, Cond.static yX4_isMarkBehind, Cond.code yX4_isMarkBehind cX4_isMarkBehind 2 (some .boolean), Cond.methodLink RL 26 yX11_fault, Cond.instanceMethod yX11_fault, Cond.selects RX11 yX11_fault yX11_fault, Cond.code yX11_fault cX11_fault 1 (some .int), Cond.methodLink RX11 78 yX11_read, Cond.instanceMethod yX11_read, Cond.selects RX11 yX11_read yX11_read, Cond.code yX11_read cX11_read 2 (some .int)]
noncomputable def wsL_law_r12 : List Cond := [Cond.fieldLink RX11 64 "MilkRoundModel" "isWhole" "Z", Cond.fieldLink RX11 68 "MilkRoundModel" "newMany" "I", Cond.methodLink RX11 71 yX11_kindBy, Cond.static yX11_kindBy, Cond.code yX11_kindBy cX11_kindBy 1 (some .int), Cond.methodLink RX11 75 yX11_figure, Cond.instanceMethod yX11_figure, Cond.selects RX11 yX11_figure yX11_figure, Cond.code yX11_figure cX11_figure 2 (some .int), Cond.methodLink RL 27 yX10_round, Cond.instanceMethod yX10_round, Cond.selects RX10 yX10_round yX10_round, Cond.code yX10_round cX10_round 1 (some .int), Cond.fieldLink RX10 89 "MilkRound$Street" "size" "I", Cond.methodLink RX10 81 yX4_isWhole, Cond.instanceMethod yX4_isWhole, Cond.selects RX4 yX4_isWhole yX4_isWhole, Cond.code yX4_isWhole cX4_isWhole 1 (some .boolean), Cond.methodLink RX4 23 yX4_firstFault, Cond.methodLink RX10 85 yX6_settle, Cond.instanceMethod yX6_settle, Cond.selects RX6 yX6_settle yX6_settle, Cond.code yX6_settle cX6_settle 3 none, Cond.methodLink RX6 51 yX4_houses]
noncomputable def wsL_law_r13 : List Cond := [Cond.instanceMethod yX4_houses, Cond.selects RX4 yX4_houses yX4_houses, Cond.code yX4_houses cX4_houses 1 (some .int), Cond.methodLink RX6 56 yX4_keepAtEnd, Cond.instanceMethod yX4_keepAtEnd, Cond.selects RX4 yX4_keepAtEnd yX4_keepAtEnd, Cond.code yX4_keepAtEnd cX4_keepAtEnd 1 (some .int), Cond.methodLink RX6 59 yX4_kindSignAt, Cond.instanceMethod yX4_kindSignAt, Cond.selects RX4 yX4_kindSignAt yX4_kindSignAt, Cond.code yX4_kindSignAt cX4_kindSignAt 2 (some .char), Cond.methodLink RX6 63 yX6_houseOf, Cond.instanceMethod yX6_houseOf, Cond.selects RX6 yX6_houseOf yX6_houseOf, Cond.code yX6_houseOf cX6_houseOf 2 (some (.object "MilkRound$House")), Cond.methodLink RX10 90 yX2_begin, Cond.instanceMethod yX2_begin, Cond.selects RX2 yX2_begin yX2_begin, Cond.code yX2_begin cX2_begin 4 none, Cond.methodLink RX2 40 yX4_lengthAt, Cond.instanceMethod yX4_lengthAt, Cond.selects RX4 yX4_lengthAt yX4_lengthAt, Cond.code yX4_lengthAt cX4_lengthAt 2 (some .int), Cond.methodLink RL 30 yX11_round]
noncomputable def wsL_law_r14 : List Cond := [Cond.instanceMethod yX11_round, Cond.selects RX11 yX11_round yX11_round, Cond.code yX11_round cX11_round 3 (some .int), Cond.fieldLink RX11 82 "MilkRoundModel" "houses" "I", Cond.fieldLink RX11 85 "MilkRoundModel" "keep" "I", Cond.fieldLink RX11 88 "MilkRoundModel" "rounds" "I", Cond.fieldLink RX11 91 "MilkRoundModel" "leftOut" "I", Cond.fieldLink RX11 94 "MilkRoundModel" "days" "I", Cond.fieldLink RX11 97 "MilkRoundModel" "soured" "I", Cond.fieldLink RX11 100 "MilkRoundModel" "overheard" "I", Cond.fieldLink RX11 103 "MilkRoundModel" "known" "I", Cond.methodLink RL 31 yX10_about, Cond.instanceMethod yX10_about, Cond.selects RX10 yX10_about yX10_about, Cond.code yX10_about cX10_about 3 (some .int), Cond.methodLink RX10 94 yX6_has, Cond.instanceMethod yX6_has, Cond.selects RX6 yX6_has yX6_has, Cond.code yX6_has cX6_has 2 (some .boolean), Cond.methodLink RX10 98 yX10_toldOfHouse, Cond.instanceMethod yX10_toldOfHouse, Cond.selects RX10 yX10_toldOfHouse yX10_toldOfHouse, Cond.code yX10_toldOfHouse cX10_toldOfHouse 3 (some .int), Cond.fieldLink RX10 102 "MilkRound$Street" "houses" "[LMilkRound$House;"]
noncomputable def wsL_law_r15 : List Cond := [Cond.fieldLink RX10 110 "MilkRound$Course" "lengths" "[I", Cond.fieldLink RX10 113 "MilkRound$Course" "leftOut" "I", Cond.fieldLink RX10 204 "MilkRound$Walk" "came" "[I", Cond.methodLink RX10 133 yX10_walkAsItIs, Cond.instanceMethod yX10_walkAsItIs, Cond.selects RX10 yX10_walkAsItIs yX10_walkAsItIs, Cond.code yX10_walkAsItIs cX10_walkAsItIs 1 none, Cond.fieldLink RX10 123 "MilkRound$Course" "order" "[I", Cond.methodLink RX10 178 yX8_go, Cond.instanceMethod yX8_go, Cond.selects RX8 yX8_go yX8_go, Cond.code yX8_go cX8_go 7 none, Cond.fieldLink RX8 23 "MilkRound$Street" "size" "I", Cond.methodLink RX8 28 yX6_has, Cond.methodLink RX8 32 yX6_reading, Cond.instanceMethod yX6_reading, Cond.selects RX6 yX6_reading yX6_reading, Cond.code yX6_reading cX6_reading 5 (some .int), Cond.methodLink RX6 67 ⟨"MilkRound$House", "minutesFor", "(I)I"⟩, Cond.sameMethod "MilkRound$House" "MilkRound$House" "minutesFor" "(I)I", Cond.instanceMethod ⟨"MilkRound$House", "minutesFor", "(I)I"⟩, Cond.selects RX0 ⟨"MilkRound$House", "minutesFor", "(I)I"⟩ yX0_minutesFor, Cond.instanceMethod yX0_minutesFor, Cond.code yX0_minutesFor cX0_minutesFor 2 (some .int)]
noncomputable def wsL_law_r16 : List Cond := [Cond.code yX3_minutesFor cX3_minutesFor 2 (some .int), Cond.selects RX1 ⟨"MilkRound$House", "minutesFor", "(I)I"⟩ yX1_minutesFor, Cond.instanceMethod yX1_minutesFor, Cond.code yX1_minutesFor cX1_minutesFor 2 (some .int), Cond.methodLink RX6 67 yX3_minutesFor, Cond.instanceMethod yX3_minutesFor, Cond.selects RX3 yX3_minutesFor yX3_minutesFor, Cond.selects RX5 ⟨"MilkRound$House", "minutesFor", "(I)I"⟩ yX5_minutesFor, Cond.instanceMethod yX5_minutesFor, Cond.code yX5_minutesFor cX5_minutesFor 2 (some .int), Cond.selects RX9 ⟨"MilkRound$House", "minutesFor", "(I)I"⟩ yX9_minutesFor, Cond.instanceMethod yX9_minutesFor, Cond.code yX9_minutesFor cX9_minutesFor 2 (some .int), Cond.methodLink RX9 7 yX5_minutesFor, Cond.sameMethod "MilkRound$Sea" "MilkRound$Sea" "minutesFor" "(I)I", Cond.superclass RX9 RX5, Cond.static yX10_bitOf, Cond.code yX10_bitOf cX10_bitOf 2 (some .int), Cond.methodLink RX10 197 ⟨"MilkRound$House", "kind", "()I"⟩, Cond.sameMethod "MilkRound$House" "MilkRound$House" "kind" "()I", Cond.instanceMethod ⟨"MilkRound$House", "kind", "()I"⟩, Cond.selects RX0 ⟨"MilkRound$House", "kind", "()I"⟩ yX0_kind, Cond.instanceMethod yX0_kind, Cond.code yX0_kind cX0_kind 1 (some .int)]
noncomputable def wsL_law_r17 : List Cond := [Cond.code yX3_kind cX3_kind 1 (some .int), Cond.selects RX1 ⟨"MilkRound$House", "kind", "()I"⟩ yX1_kind, Cond.instanceMethod yX1_kind, Cond.code yX1_kind cX1_kind 1 (some .int), Cond.methodLink RX10 197 yX3_kind, Cond.instanceMethod yX3_kind, Cond.selects RX3 yX3_kind yX3_kind, Cond.selects RX5 ⟨"MilkRound$House", "kind", "()I"⟩ yX5_kind, Cond.instanceMethod yX5_kind, Cond.code yX5_kind cX5_kind 1 (some .int), Cond.selects RX9 ⟨"MilkRound$House", "kind", "()I"⟩ yX9_kind, Cond.instanceMethod yX9_kind, Cond.code yX9_kind cX9_kind 1 (some .int), Cond.methodLink RX10 116 yX10_bitOf, Cond.methodLink RX10 200 yX6_reading, Cond.methodLink RX10 119 yX2_placeOf, Cond.instanceMethod yX2_placeOf, Cond.selects RX2 yX2_placeOf yX2_placeOf, Cond.code yX2_placeOf cX2_placeOf 3 (some .int), Cond.methodLink RX10 207 yX8_isSour, Cond.instanceMethod yX8_isSour, Cond.selects RX8 yX8_isSour yX8_isSour, Cond.code yX8_isSour cX8_isSour 2 (some .boolean), Cond.fieldLink RX8 36 "MilkRound$Street" "houses" "[LMilkRound$House;"]
noncomputable def wsL_law_r18 : List Cond := [Cond.fieldLink RX8 46 "MilkRound$Street" "keep" "I", Cond.methodLink RX8 40 ⟨"MilkRound$House", "timesKeep", "()I"⟩, Cond.sameMethod "MilkRound$House" "MilkRound$House" "timesKeep" "()I", Cond.instanceMethod ⟨"MilkRound$House", "timesKeep", "()I"⟩, Cond.selects RX0 ⟨"MilkRound$House", "timesKeep", "()I"⟩ yX0_timesKeep, Cond.instanceMethod yX0_timesKeep, Cond.code yX0_timesKeep cX0_timesKeep 1 (some .int), Cond.code yX3_timesKeep cX3_timesKeep 1 (some .int), Cond.selects RX1 ⟨"MilkRound$House", "timesKeep", "()I"⟩ yX3_timesKeep, Cond.instanceMethod yX3_timesKeep, Cond.methodLink RX8 40 yX3_timesKeep, Cond.selects RX3 yX3_timesKeep yX3_timesKeep, Cond.selects RX5 ⟨"MilkRound$House", "timesKeep", "()I"⟩ yX3_timesKeep, Cond.selects RX9 ⟨"MilkRound$House", "timesKeep", "()I"⟩ yX3_timesKeep, Cond.methodLink RX10 210 yX8_hears, Cond.instanceMethod yX8_hears, Cond.selects RX8 yX8_hears yX8_hears, Cond.code yX8_hears cX8_hears 2 (some .boolean), Cond.methodLink RX8 49 ⟨"MilkRound$House", "listens", "()Z"⟩, Cond.sameMethod "MilkRound$House" "MilkRound$House" "listens" "()Z", Cond.instanceMethod ⟨"MilkRound$House", "listens", "()Z"⟩, Cond.selects RX0 ⟨"MilkRound$House", "listens", "()Z"⟩ yX0_listens, Cond.instanceMethod yX0_listens, Cond.code yX0_listens cX0_listens 1 (some .boolean)]
noncomputable def wsL_law_r19 : List Cond := [Cond.code yX3_listens cX3_listens 1 (some .boolean), Cond.selects RX1 ⟨"MilkRound$House", "listens", "()Z"⟩ yX3_listens, Cond.instanceMethod yX3_listens, Cond.methodLink RX8 49 yX3_listens, Cond.selects RX3 yX3_listens yX3_listens, Cond.selects RX5 ⟨"MilkRound$House", "listens", "()Z"⟩ yX3_listens, Cond.selects RX9 ⟨"MilkRound$House", "listens", "()Z"⟩ yX3_listens, Cond.methodLink RX8 53 yX8_isAhead, Cond.instanceMethod yX8_isAhead, Cond.selects RX8 yX8_isAhead yX8_isAhead, Cond.code yX8_isAhead cX8_isAhead 3 (some .boolean), Cond.methodLink RX10 213 yX10_longestHarmless, Cond.instanceMethod yX10_longestHarmless, Cond.selects RX10 yX10_longestHarmless yX10_longestHarmless, Cond.code yX10_longestHarmless cX10_longestHarmless 4 (some .int), Cond.methodLink RX10 230 arraycopyName, Cond.native arraycopyName, Cond.static arraycopyName, Cond.initialized "java/lang/System", Cond.methodLink RX10 236 yX8_wrongs, Cond.instanceMethod yX8_wrongs, Cond.selects RX8 yX8_wrongs yX8_wrongs, Cond.code yX8_wrongs cX8_wrongs 1 (some .int), Cond.methodLink RX8 63 yX8_sourHouses]
noncomputable def wsL_law_r20 : List Cond := [Cond.instanceMethod yX8_sourHouses, Cond.selects RX8 yX8_sourHouses yX8_sourHouses, Cond.code yX8_sourHouses cX8_sourHouses 3 (some .int), Cond.methodLink RX8 57 yX8_isSour, Cond.methodLink RX8 66 yX8_hearingHouses, Cond.instanceMethod yX8_hearingHouses, Cond.selects RX8 yX8_hearingHouses yX8_hearingHouses, Cond.code yX8_hearingHouses cX8_hearingHouses 3 (some .int), Cond.methodLink RX8 60 yX8_hears, Cond.methodLink RL 35 yX11_about, Cond.instanceMethod yX11_about, Cond.selects RX11 yX11_about yX11_about, Cond.code yX11_about cX11_about 3 (some .int), Cond.methodLink RX11 116 yX11_isHouse, Cond.instanceMethod yX11_isHouse, Cond.selects RX11 yX11_isHouse yX11_isHouse, Cond.code yX11_isHouse cX11_isHouse 2 (some .boolean), Cond.methodLink RX11 147 yX11_houseNow, Cond.instanceMethod yX11_houseNow, Cond.selects RX11 yX11_houseNow yX11_houseNow, Cond.code yX11_houseNow cX11_houseNow 3 (some .int), Cond.methodLink RX11 123 yX11_go, Cond.instanceMethod yX11_go, Cond.selects RX11 yX11_go yX11_go]
noncomputable def wsL_law_r21 : List Cond := [Cond.code yX11_go cX11_go 3 none, Cond.methodLink RX11 113 yX11_reads, Cond.instanceMethod yX11_reads, Cond.selects RX11 yX11_reads yX11_reads, Cond.code yX11_reads cX11_reads 2 (some .int), Cond.methodLink RX11 106 yX11_isIn, Cond.static yX11_isIn, Cond.code yX11_isIn cX11_isIn 2 (some .boolean), Cond.methodLink RX11 110 yX11_readsAll, Cond.instanceMethod yX11_readsAll, Cond.selects RX11 yX11_readsAll yX11_readsAll, Cond.code yX11_readsAll cX11_readsAll 3 (some .int), Cond.methodLink RX11 141 yX11_placeOf, Cond.instanceMethod yX11_placeOf, Cond.selects RX11 yX11_placeOf yX11_placeOf, Cond.code yX11_placeOf cX11_placeOf 4 (some .int), Cond.methodLink RX11 126 yX11_isSour, Cond.instanceMethod yX11_isSour, Cond.selects RX11 yX11_isSour yX11_isSour, Cond.code yX11_isSour cX11_isSour 2 (some .boolean), Cond.methodLink RX11 129 yX11_hears, Cond.instanceMethod yX11_hears, Cond.selects RX11 yX11_hears yX11_hears, Cond.code yX11_hears cX11_hears 2 (some .boolean)]
noncomputable def wsL_law_r22 : List Cond := [Cond.methodLink RX11 120 yX11_isAhead, Cond.instanceMethod yX11_isAhead, Cond.selects RX11 yX11_isAhead yX11_isAhead, Cond.code yX11_isAhead cX11_isAhead 3 (some .boolean), Cond.methodLink RX11 144 yX11_mostOf, Cond.instanceMethod yX11_mostOf, Cond.selects RX11 yX11_mostOf yX11_mostOf, Cond.code yX11_mostOf cX11_mostOf 6 (some .int), Cond.methodLink RX11 138 yX11_wrongNow, Cond.instanceMethod yX11_wrongNow, Cond.selects RX11 yX11_wrongNow yX11_wrongNow, Cond.code yX11_wrongNow cX11_wrongNow 1 (some .int), Cond.methodLink RX11 132 yX11_sourNow, Cond.instanceMethod yX11_sourNow, Cond.selects RX11 yX11_sourNow yX11_sourNow, Cond.code yX11_sourNow cX11_sourNow 3 (some .int), Cond.methodLink RX11 135 yX11_hearNow, Cond.instanceMethod yX11_hearNow, Cond.selects RX11 yX11_hearNow yX11_hearNow, Cond.code yX11_hearNow cX11_hearNow 3 (some .int), Cond.methodLink RL 36 yX10_as, Cond.instanceMethod yX10_as, Cond.selects RX10 yX10_as yX10_as, Cond.code yX10_as cX10_as 3 (some .int)]
noncomputable def wsL_law_r23 : List Cond := [Cond.methodLink RX10 106 yX10_isOfKind, Cond.static yX10_isOfKind, Cond.code yX10_isOfKind cX10_isOfKind 2 (some .boolean), Cond.classLink RX10 222 "MilkRound$Sea", Cond.classLink RX10 224 "MilkRound$Alone", Cond.classLink RX10 226 "MilkRound$Bad", Cond.classLink RX10 228 "MilkRound$War", Cond.methodLink RL 39 yX11_as, Cond.instanceMethod yX11_as, Cond.selects RX11 yX11_as yX11_as, Cond.code yX11_as cX11_as 4 (some .int), Cond.methodLink RL 40 yX10_letters, Cond.instanceMethod yX10_letters, Cond.selects RX10 yX10_letters yX10_letters, Cond.code yX10_letters cX10_letters 4 (some .int), Cond.methodLink RL 43 yX11_letters, Cond.instanceMethod yX11_letters, Cond.selects RX11 yX11_letters yX11_letters, Cond.code yX11_letters cX11_letters 4 (some .int), Cond.methodLink RL 44 yX10_leave, Cond.instanceMethod yX10_leave, Cond.selects RX10 yX10_leave yX10_leave, Cond.code yX10_leave cX10_leave 4 (some .int), Cond.methodLink RL 48 yX11_leave]
noncomputable def wsL_law_r24 : List Cond := [Cond.instanceMethod yX11_leave, Cond.selects RX11 yX11_leave yX11_leave, Cond.code yX11_leave cX11_leave 4 (some .int), Cond.methodLink RL 49 yX10_swap, Cond.instanceMethod yX10_swap, Cond.selects RX10 yX10_swap yX10_swap, Cond.code yX10_swap cX10_swap 4 (some .int), Cond.methodLink RX10 126 yX10_exchange, Cond.static yX10_exchange, Cond.code yX10_exchange cX10_exchange 4 none, Cond.methodLink RL 52 yX11_swap, Cond.instanceMethod yX11_swap, Cond.selects RX11 yX11_swap yX11_swap, Cond.code yX11_swap cX11_swap 5 (some .int), Cond.methodLink RL 53 yX10_day, Cond.instanceMethod yX10_day, Cond.selects RX10 yX10_day yX10_day, Cond.code yX10_day cX10_day 4 (some .int), Cond.fieldLink RX10 142 "MilkRound$Course" "days" "I", Cond.fieldLink RX10 145 "MilkRound$Course" "soured" "I", Cond.fieldLink RX10 148 "MilkRound$Course" "heard" "I", Cond.methodLink RX10 130 yX10_hasNoRound, Cond.instanceMethod yX10_hasNoRound, Cond.selects RX10 yX10_hasNoRound yX10_hasNoRound]
noncomputable def wsL_law_r25 : List Cond := [Cond.code yX10_hasNoRound cX10_hasNoRound 1 (some .boolean), Cond.methodLink RX10 136 yX8_sourHouses, Cond.methodLink RX10 139 yX8_hearingHouses, Cond.methodLink RX10 151 ⟨"MilkRound$House", "lengthBehindDay", "(I)I"⟩, Cond.sameMethod "MilkRound$House" "MilkRound$House" "lengthBehindDay" "(I)I", Cond.selects RX0 ⟨"MilkRound$House", "lengthBehindDay", "(I)I"⟩ yX3_lengthBehindDay, Cond.instanceMethod yX3_lengthBehindDay, Cond.code yX3_lengthBehindDay cX3_lengthBehindDay 2 (some .int), Cond.instanceMethod ⟨"MilkRound$House", "lengthBehindDay", "(I)I"⟩, Cond.selects RX1 ⟨"MilkRound$House", "lengthBehindDay", "(I)I"⟩ yX1_lengthBehindDay, Cond.instanceMethod yX1_lengthBehindDay, Cond.code yX1_lengthBehindDay cX1_lengthBehindDay 2 (some .int), Cond.methodLink RX10 151 yX3_lengthBehindDay, Cond.selects RX3 yX3_lengthBehindDay yX3_lengthBehindDay, Cond.selects RX5 ⟨"MilkRound$House", "lengthBehindDay", "(I)I"⟩ yX3_lengthBehindDay, Cond.selects RX9 ⟨"MilkRound$House", "lengthBehindDay", "(I)I"⟩ yX3_lengthBehindDay, Cond.methodLink RL 56 yX11_day, Cond.instanceMethod yX11_day, Cond.selects RX11 yX11_day yX11_day, Cond.code yX11_day cX11_day 4 (some .int), Cond.methodLink RL 57 yX10_best, Cond.instanceMethod yX10_best, Cond.selects RX10 yX10_best yX10_best, Cond.code yX10_best cX10_best 5 (some .int)]
noncomputable def wsL_law_r26 : List Cond := [Cond.methodLink RX10 156 yX10_findBestOrder, Cond.instanceMethod yX10_findBestOrder, Cond.selects RX10 yX10_findBestOrder yX10_findBestOrder, Cond.code yX10_findBestOrder cX10_findBestOrder 5 (some .int), Cond.methodLink RX10 239 yX10_advance, Cond.static yX10_advance, Cond.code yX10_advance cX10_advance 6 (some .boolean), Cond.methodLink RL 60 yX11_best, Cond.instanceMethod yX11_best, Cond.selects RX11 yX11_best yX11_best, Cond.code yX11_best cX11_best 2 (some .int), Cond.fieldLink RX11 160 "MilkRoundModel" "asks" "I", Cond.methodLink RX11 163 yX11_bestNow, Cond.instanceMethod yX11_bestNow, Cond.selects RX11 yX11_bestNow yX11_bestNow, Cond.code yX11_bestNow cX11_bestNow 6 (some .int), Cond.constant RX11 155 (268435456), Cond.methodLink RX11 156 yX11_nextOrder, Cond.instanceMethod yX11_nextOrder, Cond.selects RX11 yX11_nextOrder yX11_nextOrder, Cond.code yX11_nextOrder cX11_nextOrder 5 (some .boolean), Cond.methodLink RX11 151 yX11_change, Cond.instanceMethod yX11_change, Cond.selects RX11 yX11_change yX11_change]
noncomputable def wsL_law_r27 : List Cond := [Cond.code yX11_change cX11_change 4 none, Cond.methodLink RL 61 yX10_known, Cond.instanceMethod yX10_known, Cond.selects RX10 yX10_known yX10_known, Cond.code yX10_known cX10_known 3 (some .int), Cond.fieldLink RX10 163 "MilkRound$Course" "knownSize" "I", Cond.methodLink RX10 159 yX2_learn, Cond.instanceMethod yX2_learn, Cond.selects RX2 yX2_learn yX2_learn, Cond.code yX2_learn cX2_learn 3 (some .boolean), Cond.methodLink RL 64 yX11_known, Cond.instanceMethod yX11_known, Cond.selects RX11 yX11_known yX11_known, Cond.code yX11_known cX11_known 3 (some .int), Cond.methodLink RL 65 yX10_forget, Cond.instanceMethod yX10_forget, Cond.selects RX10 yX10_forget yX10_forget, Cond.code yX10_forget cX10_forget 2 (some .int), Cond.methodLink RL 68 yX11_forget, Cond.instanceMethod yX11_forget, Cond.selects RX11 yX11_forget yX11_forget, Cond.code yX11_forget cX11_forget 2 (some .int), Cond.methodLink RL 69 yX10_sets, Cond.instanceMethod yX10_sets]
noncomputable def wsL_law_r28 : List Cond := [Cond.selects RX10 yX10_sets yX10_sets, Cond.code yX10_sets cX10_sets 2 (some .int), Cond.methodLink RX10 166 yX10_howManySets, Cond.instanceMethod yX10_howManySets, Cond.selects RX10 yX10_howManySets yX10_howManySets, Cond.code yX10_howManySets cX10_howManySets 3 (some .int), Cond.methodLink RX10 249 yX10_canHaveBeen, Cond.instanceMethod yX10_canHaveBeen, Cond.selects RX10 yX10_canHaveBeen yX10_canHaveBeen, Cond.code yX10_canHaveBeen cX10_canHaveBeen 4 (some .boolean), Cond.fieldLink RX10 243 "MilkRound$Course" "knownHouses" "[I", Cond.fieldLink RX10 246 "MilkRound$Course" "knownMinutes" "[I", Cond.methodLink RX10 169 yX10_leastSet, Cond.instanceMethod yX10_leastSet, Cond.selects RX10 yX10_leastSet yX10_leastSet, Cond.code yX10_leastSet cX10_leastSet 2 (some .int), Cond.methodLink RL 72 yX11_sets, Cond.instanceMethod yX11_sets, Cond.selects RX11 yX11_sets yX11_sets, Cond.code yX11_sets cX11_sets 2 (some .int), Cond.methodLink RX11 169 yX11_setsNow, Cond.instanceMethod yX11_setsNow, Cond.selects RX11 yX11_setsNow yX11_setsNow, Cond.code yX11_setsNow cX11_setsNow 6 (some .int)]
noncomputable def wsL_law_r29 : List Cond := [Cond.methodLink RX11 166 yX11_isKnown, Cond.instanceMethod yX11_isKnown, Cond.selects RX11 yX11_isKnown yX11_isKnown, Cond.code yX11_isKnown cX11_isKnown 5 (some .boolean), Cond.methodLink RL 73 yX10_ask, Cond.instanceMethod yX10_ask, Cond.selects RX10 yX10_ask yX10_ask, Cond.code yX10_ask cX10_ask 1 (some .int), Cond.methodLink RX10 172 yX10_houseToAsk, Cond.instanceMethod yX10_houseToAsk, Cond.selects RX10 yX10_houseToAsk yX10_houseToAsk, Cond.code yX10_houseToAsk cX10_houseToAsk 3 (some .int), Cond.methodLink RX10 252 yX7_clear, Cond.instanceMethod yX7_clear, Cond.selects RX7 yX7_clear yX7_clear, Cond.code yX7_clear cX7_clear 3 none, Cond.methodLink RX10 255 yX7_add, Cond.instanceMethod yX7_add, Cond.selects RX7 yX7_add yX7_add, Cond.code yX7_add cX7_add 5 none, Cond.methodLink RX7 20 Lib.Math.max.name, Cond.methodLink RX10 258 yX7_houseOfLeastWorst, Cond.instanceMethod yX7_houseOfLeastWorst, Cond.selects RX7 yX7_houseOfLeastWorst yX7_houseOfLeastWorst]
noncomputable def wsL_law_r30 : List Cond := [Cond.code yX7_houseOfLeastWorst cX7_houseOfLeastWorst 4 (some .int), Cond.methodLink RL 76 yX11_ask, Cond.instanceMethod yX11_ask, Cond.selects RX11 yX11_ask yX11_ask, Cond.code yX11_ask cX11_ask 1 (some .int), Cond.methodLink RX11 175 yX11_askNow, Cond.instanceMethod yX11_askNow, Cond.selects RX11 yX11_askNow yX11_askNow, Cond.code yX11_askNow cX11_askNow 5 (some .int), Cond.methodLink RX11 172 yX11_worstOf, Cond.instanceMethod yX11_worstOf, Cond.selects RX11 yX11_worstOf yX11_worstOf, Cond.code yX11_worstOf cX11_worstOf 4 (some .int), Cond.methodLink RL 77 yX10_weeks, Cond.instanceMethod yX10_weeks, Cond.selects RX10 yX10_weeks yX10_weeks, Cond.code yX10_weeks cX10_weeks 8 (some .int), Cond.methodLink RX10 175 yX10_drawTrialLengths, Cond.instanceMethod yX10_drawTrialLengths, Cond.selects RX10 yX10_drawTrialLengths yX10_drawTrialLengths, Cond.code yX10_drawTrialLengths cX10_drawTrialLengths 5 (some .int), Cond.constantLong RX10 261 (1103515245), Cond.constantLong RX10 263 (12345), Cond.constantLong RX10 265 (2147483648)]
noncomputable def wsL_law_r31 : List Cond := [Cond.constantLong RX10 267 (65536), Cond.constantLong RX10 269 (10), Cond.methodLink RL 81 yX11_weeks, Cond.instanceMethod yX11_weeks, Cond.selects RX11 yX11_weeks yX11_weeks, Cond.code yX11_weeks cX11_weeks 4 (some .int), Cond.methodLink RX11 193 yX11_weeksNow, Cond.instanceMethod yX11_weeksNow, Cond.selects RX11 yX11_weeksNow yX11_weeksNow, Cond.code yX11_weeksNow cX11_weeksNow 8 (some .int), Cond.fieldLink RX11 180 "MilkRoundModel" "seedNow" "J", Cond.methodLink RX11 190 yX11_draw, Cond.instanceMethod yX11_draw, Cond.selects RX11 yX11_draw yX11_draw, Cond.code yX11_draw cX11_draw 2 (some .int), Cond.constantLong RX11 178 (1103515245), Cond.constantLong RX11 184 (12345), Cond.constantLong RX11 186 (2147483647), Cond.constantLong RX11 188 (65536), Cond.methodLink RL 82 yX10_image, Cond.instanceMethod yX10_image, Cond.selects RX10 yX10_image yX10_image, Cond.code yX10_image cX10_image 1 (some .int), Cond.methodLink RX10 182 yX2_copyFrom]
noncomputable def wsL_law_r32 : List Cond := [Cond.instanceMethod yX2_copyFrom, Cond.selects RX2 yX2_copyFrom yX2_copyFrom, Cond.code yX2_copyFrom cX2_copyFrom 2 none, Cond.methodLink RX2 46 arraycopyName, Cond.methodLink RL 85 yX11_image, Cond.instanceMethod yX11_image, Cond.selects RX11 yX11_image yX11_image, Cond.code yX11_image cX11_image 2 (some .int), Cond.fieldLink RX11 197 "MilkRoundModel" "isKept" "Z", Cond.fieldLink RX11 200 "MilkRoundModel" "keptRound" "I", Cond.fieldLink RX11 203 "MilkRoundModel" "keptLeft" "I", Cond.fieldLink RX11 206 "MilkRoundModel" "keptDays" "I", Cond.fieldLink RX11 209 "MilkRoundModel" "keptSoured" "I", Cond.fieldLink RX11 212 "MilkRoundModel" "keptOverheard" "I", Cond.fieldLink RX11 215 "MilkRoundModel" "keptKnown" "I", Cond.methodLink RL 86 yX10_restore, Cond.instanceMethod yX10_restore, Cond.selects RX10 yX10_restore yX10_restore, Cond.code yX10_restore cX10_restore 1 (some .int), Cond.methodLink RL 89 yX11_restore, Cond.instanceMethod yX11_restore, Cond.selects RX11 yX11_restore yX11_restore, Cond.code yX11_restore cX11_restore 2 (some .int), Cond.methodLink RL 90 yX10_count]
noncomputable def wsL_law_r33 : List Cond := [Cond.instanceMethod yX10_count, Cond.selects RX10 yX10_count yX10_count, Cond.code yX10_count cX10_count 2 (some .int), Cond.methodLink RX10 186 yX10_toldOfAll, Cond.instanceMethod yX10_toldOfAll, Cond.selects RX10 yX10_toldOfAll yX10_toldOfAll, Cond.code yX10_toldOfAll cX10_toldOfAll 2 (some .int), Cond.fieldLink RX10 216 "MilkRound$Street" "keep" "I", Cond.fieldLink RX10 219 "MilkRound$Walk" "minutesOfAll" "I", Cond.methodLink RL 93 yX11_count, Cond.instanceMethod yX11_count, Cond.selects RX11 yX11_count yX11_count, Cond.code yX11_count cX11_count 2 (some .int), Cond.methodLink RX11 221 yX11_howMany, Cond.instanceMethod yX11_howMany, Cond.selects RX11 yX11_howMany yX11_howMany, Cond.code yX11_howMany cX11_howMany 2 (some .int), Cond.methodLink RX11 218 yX11_wayAll, Cond.instanceMethod yX11_wayAll, Cond.selects RX11 yX11_wayAll yX11_wayAll, Cond.code yX11_wayAll cX11_wayAll 3 (some .int), Cond.methodLink RL 94 yX10_digest, Cond.instanceMethod yX10_digest, Cond.selects RX10 yX10_digest yX10_digest]
noncomputable def wsL_law_r34 : List Cond := [Cond.code yX10_digest cX10_digest 5 (some .long), Cond.constantLong RX10 189 (1087), Cond.constantLong RX10 191 (31), Cond.fieldLink RX10 193 "MilkRound$Page" "signs" "[C", Cond.methodLink RL 98 yX11_digest, Cond.instanceMethod yX11_digest, Cond.selects RX11 yX11_digest yX11_digest, Cond.code yX11_digest cX11_digest 3 (some .long), Cond.constantLong RX11 229 (1087), Cond.fieldLink RX11 226 "MilkRoundModel" "h" "J", Cond.methodLink RX11 231 yX11_mix, Cond.instanceMethod yX11_mix, Cond.selects RX11 yX11_mix yX11_mix, Cond.code yX11_mix cX11_mix 3 none, Cond.constantLong RX11 224 (31)]
noncomputable def wsL_law : List Cond := (wsL_law_r1 ++ (wsL_law_r2 ++ (wsL_law_r3 ++ (wsL_law_r4 ++ (wsL_law_r5 ++ (wsL_law_r6 ++ (wsL_law_r7 ++ (wsL_law_r8 ++ (wsL_law_r9 ++ (wsL_law_r10 ++ (wsL_law_r11 ++ (wsL_law_r12 ++ (wsL_law_r13 ++ (wsL_law_r14 ++ (wsL_law_r15 ++ (wsL_law_r16 ++ (wsL_law_r17 ++ (wsL_law_r18 ++ (wsL_law_r19 ++ (wsL_law_r20 ++ (wsL_law_r21 ++ (wsL_law_r22 ++ (wsL_law_r23 ++ (wsL_law_r24 ++ (wsL_law_r25 ++ (wsL_law_r26 ++ (wsL_law_r27 ++ (wsL_law_r28 ++ (wsL_law_r29 ++ (wsL_law_r30 ++ (wsL_law_r31 ++ (wsL_law_r32 ++ (wsL_law_r33 ++ wsL_law_r34))))))))))))))))))))))))))))))))) ++ wsX100 ++ wsX110 ++ wsX40 ++ wsX60 ++ wsX20 ++ wsX80 ++ wsX70 ++ wsX30 ++ wsX50 ++ wsX00 ++ wsX10 ++ wsX90 ++ ([] : List Cond)
noncomputable abbrev vwCl : List vw_C := [(RX0, TX0, 0), (RX1, TX1, 0), (RX2, TX2, 9), (RX3, TX3, 0), (RX4, TX4, 2), (RX5, TX5, 0), (RX6, TX6, 8), (RX7, TX7, 2), (RX8, TX8, 3), (RX9, TX9, 0), (RX10, TX10, 12), (RX11, TX11, 36)]
end
section
theorem dX11_init_0 : decode cX11_init 0 = .ok (.aload_n 0, 1) := by decide +kernel
theorem dX11_init_1 : decode cX11_init 1 = .ok (.invokespecial 1, 3) := by decide +kernel
theorem dX11_init_4 : decode cX11_init 4 = .ok (.aload_n 0, 1) := by decide +kernel
theorem dX11_init_5 : decode cX11_init 5 = .ok (.bipush 6, 2) := by decide +kernel
theorem dX11_init_7 : decode cX11_init 7 = .ok (.newarray .int, 2) := by decide +kernel
theorem dX11_init_9 : decode cX11_init 9 = .ok (.putfield 7, 3) := by decide +kernel
theorem dX11_init_12 : decode cX11_init 12 = .ok (.aload_n 0, 1) := by decide +kernel
theorem dX11_init_13 : decode cX11_init 13 = .ok (.bipush 6, 2) := by decide +kernel
theorem dX11_init_15 : decode cX11_init 15 = .ok (.newarray .int, 2) := by decide +kernel
theorem dX11_init_17 : decode cX11_init 17 = .ok (.putfield 13, 3) := by decide +kernel
theorem dX11_init_20 : decode cX11_init 20 = .ok (.aload_n 0, 1) := by decide +kernel
theorem dX11_init_21 : decode cX11_init 21 = .ok (.bipush 6, 2) := by decide +kernel
theorem dX11_init_23 : decode cX11_init 23 = .ok (.newarray .int, 2) := by decide +kernel
theorem dX11_init_25 : decode cX11_init 25 = .ok (.putfield 16, 3) := by decide +kernel
theorem dX11_init_28 : decode cX11_init 28 = .ok (.aload_n 0, 1) := by decide +kernel
theorem dX11_init_29 : decode cX11_init 29 = .ok (.bipush 6, 2) := by decide +kernel
theorem dX11_init_31 : decode cX11_init 31 = .ok (.newarray .int, 2) := by decide +kernel
theorem dX11_init_33 : decode cX11_init 33 = .ok (.putfield 19, 3) := by decide +kernel
theorem dX11_init_36 : decode cX11_init 36 = .ok (.aload_n 0, 1) := by decide +kernel
theorem dX11_init_37 : decode cX11_init 37 = .ok (.bipush 6, 2) := by decide +kernel
theorem dX11_init_39 : decode cX11_init 39 = .ok (.newarray .int, 2) := by decide +kernel
theorem dX11_init_41 : decode cX11_init 41 = .ok (.putfield 22, 3) := by decide +kernel
theorem dX11_init_44 : decode cX11_init 44 = .ok (.aload_n 0, 1) := by decide +kernel
theorem dX11_init_45 : decode cX11_init 45 = .ok (.bipush 21, 2) := by decide +kernel
theorem dX11_init_47 : decode cX11_init 47 = .ok (.newarray .byte, 2) := by decide +kernel
theorem dX11_init_49 : decode cX11_init 49 = .ok (.putfield 25, 3) := by decide +kernel
theorem dX11_init_52 : decode cX11_init 52 = .ok (.aload_n 0, 1) := by decide +kernel
theorem dX11_init_53 : decode cX11_init 53 = .ok (.bipush 6, 2) := by decide +kernel
theorem dX11_init_55 : decode cX11_init 55 = .ok (.newarray .int, 2) := by decide +kernel
theorem dX11_init_57 : decode cX11_init 57 = .ok (.putfield 29, 3) := by decide +kernel
theorem dX11_init_60 : decode cX11_init 60 = .ok (.aload_n 0, 1) := by decide +kernel
theorem dX11_init_61 : decode cX11_init 61 = .ok (.bipush 6, 2) := by decide +kernel
theorem dX11_init_63 : decode cX11_init 63 = .ok (.newarray .int, 2) := by decide +kernel
theorem dX11_init_65 : decode cX11_init 65 = .ok (.putfield 32, 3) := by decide +kernel
theorem dX11_init_68 : decode cX11_init 68 = .ok (.aload_n 0, 1) := by decide +kernel
theorem dX11_init_69 : decode cX11_init 69 = .ok (.bipush 6, 2) := by decide +kernel
theorem dX11_init_71 : decode cX11_init 71 = .ok (.newarray .int, 2) := by decide +kernel
theorem dX11_init_73 : decode cX11_init 73 = .ok (.putfield 35, 3) := by decide +kernel
theorem dX11_init_76 : decode cX11_init 76 = .ok (.aload_n 0, 1) := by decide +kernel
theorem dX11_init_77 : decode cX11_init 77 = .ok (.sipush 151, 3) := by decide +kernel
theorem dX11_init_80 : decode cX11_init 80 = .ok (.newarray .int, 2) := by decide +kernel
theorem dX11_init_82 : decode cX11_init 82 = .ok (.putfield 38, 3) := by decide +kernel
theorem dX11_init_85 : decode cX11_init 85 = .ok (.aload_n 0, 1) := by decide +kernel
theorem dX11_init_86 : decode cX11_init 86 = .ok (.bipush 6, 2) := by decide +kernel
theorem dX11_init_88 : decode cX11_init 88 = .ok (.newarray .int, 2) := by decide +kernel
theorem dX11_init_90 : decode cX11_init 90 = .ok (.putfield 41, 3) := by decide +kernel
theorem dX11_init_93 : decode cX11_init 93 = .ok (.aload_n 0, 1) := by decide +kernel
theorem dX11_init_94 : decode cX11_init 94 = .ok (.bipush 6, 2) := by decide +kernel
theorem dX11_init_96 : decode cX11_init 96 = .ok (.newarray .int, 2) := by decide +kernel
theorem dX11_init_98 : decode cX11_init 98 = .ok (.putfield 44, 3) := by decide +kernel
theorem dX11_init_101 : decode cX11_init 101 = .ok (.aload_n 0, 1) := by decide +kernel
theorem dX11_init_102 : decode cX11_init 102 = .ok (.bipush 6, 2) := by decide +kernel
theorem dX11_init_104 : decode cX11_init 104 = .ok (.newarray .int, 2) := by decide +kernel
theorem dX11_init_106 : decode cX11_init 106 = .ok (.putfield 47, 3) := by decide +kernel
theorem dX11_init_109 : decode cX11_init 109 = .ok (.aload_n 0, 1) := by decide +kernel
theorem dX11_init_110 : decode cX11_init 110 = .ok (.bipush 6, 2) := by decide +kernel
theorem dX11_init_112 : decode cX11_init 112 = .ok (.newarray .int, 2) := by decide +kernel
theorem dX11_init_114 : decode cX11_init 114 = .ok (.putfield 50, 3) := by decide +kernel
theorem dX11_init_117 : decode cX11_init 117 = .ok (.aload_n 0, 1) := by decide +kernel
theorem dX11_init_118 : decode cX11_init 118 = .ok (.bipush 6, 2) := by decide +kernel
theorem dX11_init_120 : decode cX11_init 120 = .ok (.newarray .int, 2) := by decide +kernel
theorem dX11_init_122 : decode cX11_init 122 = .ok (.putfield 53, 3) := by decide +kernel
theorem dX11_init_125 : decode cX11_init 125 = .ok (.return_, 1) := by decide +kernel
theorem dX11_within_0 : decode cX11_within 0 = .ok (.iload_n 0, 1) := by decide +kernel
theorem dX11_within_1 : decode cX11_within 1 = .ok (.iload_n 1, 1) := by decide +kernel
theorem dX11_within_2 : decode cX11_within 2 = .ok (.if_icmp .lt 12, 3) := by decide +kernel
theorem dX11_within_5 : decode cX11_within 5 = .ok (.iload_n 0, 1) := by decide +kernel
theorem dX11_within_6 : decode cX11_within 6 = .ok (.iload_n 2, 1) := by decide +kernel
theorem dX11_within_7 : decode cX11_within 7 = .ok (.if_icmp .gt 7, 3) := by decide +kernel
theorem dX11_within_10 : decode cX11_within 10 = .ok (.iconst 1, 1) := by decide +kernel
theorem dX11_within_11 : decode cX11_within 11 = .ok (.goto 4, 3) := by decide +kernel
theorem dX11_within_14 : decode cX11_within 14 = .ok (.iconst 0, 1) := by decide +kernel
theorem dX11_within_15 : decode cX11_within 15 = .ok (.ireturn, 1) := by decide +kernel
theorem dX11_isIn_0 : decode cX11_isIn 0 = .ok (.iload_n 0, 1) := by decide +kernel
theorem dX11_isIn_1 : decode cX11_isIn 1 = .ok (.iload_n 1, 1) := by decide +kernel
theorem dX11_isIn_2 : decode cX11_isIn 2 = .ok (.ishr, 1) := by decide +kernel
theorem dX11_isIn_3 : decode cX11_isIn 3 = .ok (.iconst 1, 1) := by decide +kernel
theorem dX11_isIn_4 : decode cX11_isIn 4 = .ok (.iand, 1) := by decide +kernel
theorem dX11_isIn_5 : decode cX11_isIn 5 = .ok (.iconst 1, 1) := by decide +kernel
theorem dX11_isIn_6 : decode cX11_isIn 6 = .ok (.if_icmp .ne 7, 3) := by decide +kernel
theorem dX11_isIn_9 : decode cX11_isIn 9 = .ok (.iconst 1, 1) := by decide +kernel
theorem dX11_isIn_10 : decode cX11_isIn 10 = .ok (.goto 4, 3) := by decide +kernel
theorem dX11_isIn_13 : decode cX11_isIn 13 = .ok (.iconst 0, 1) := by decide +kernel
theorem dX11_isIn_14 : decode cX11_isIn 14 = .ok (.ireturn, 1) := by decide +kernel
set_option maxRecDepth 20000 in
theorem ggX11_letter_X11_within : GoodIn wsX11_letter wsX11_within := goodIn_r _ [6] (by decide +kernel) (by decide +kernel)
set_option maxRecDepth 20000 in
theorem gX11_letter_X11_within : GoodIn wsX11_letter (va_wsS RX11 56 yX11_within wsX11_within) := goodIn_app (goodIn_of _ (by decide +kernel)) ggX11_letter_X11_within
theorem dX11_letter_0 : decode cX11_letter 0 = .ok (.iload_n 1, 1) := by decide +kernel
theorem dX11_letter_1 : decode cX11_letter 1 = .ok (.bipush 32, 2) := by decide +kernel
theorem dX11_letter_3 : decode cX11_letter 3 = .ok (.bipush 126, 2) := by decide +kernel
theorem dX11_letter_5 : decode cX11_letter 5 = .ok (.invokestatic 56, 3) := by decide +kernel
theorem dX11_letter_8 : decode cX11_letter 8 = .ok (.ifCond .ne 6, 3) := by decide +kernel
theorem dX11_letter_11 : decode cX11_letter 11 = .ok (.bipush (-102), 2) := by decide +kernel
theorem dX11_letter_13 : decode cX11_letter 13 = .ok (.ireturn, 1) := by decide +kernel
theorem dX11_letter_14 : decode cX11_letter 14 = .ok (.aload_n 0, 1) := by decide +kernel
theorem dX11_letter_15 : decode cX11_letter 15 = .ok (.getfield 60, 3) := by decide +kernel
theorem dX11_letter_18 : decode cX11_letter 18 = .ok (.bipush 21, 2) := by decide +kernel
theorem dX11_letter_20 : decode cX11_letter 20 = .ok (.if_icmp .ne 6, 3) := by decide +kernel
theorem dX11_letter_23 : decode cX11_letter 23 = .ok (.bipush (-104), 2) := by decide +kernel
theorem dX11_letter_25 : decode cX11_letter 25 = .ok (.ireturn, 1) := by decide +kernel
theorem dX11_letter_26 : decode cX11_letter 26 = .ok (.aload_n 0, 1) := by decide +kernel
theorem dX11_letter_27 : decode cX11_letter 27 = .ok (.getfield 25, 3) := by decide +kernel
theorem dX11_letter_30 : decode cX11_letter 30 = .ok (.aload_n 0, 1) := by decide +kernel
theorem dX11_letter_31 : decode cX11_letter 31 = .ok (.getfield 60, 3) := by decide +kernel
theorem dX11_letter_34 : decode cX11_letter 34 = .ok (.iload_n 1, 1) := by decide +kernel
theorem dX11_letter_35 : decode cX11_letter 35 = .ok (.i2b, 1) := by decide +kernel
theorem dX11_letter_36 : decode cX11_letter 36 = .ok (.bastore, 1) := by decide +kernel
theorem dX11_letter_37 : decode cX11_letter 37 = .ok (.aload_n 0, 1) := by decide +kernel
theorem dX11_letter_38 : decode cX11_letter 38 = .ok (.dup, 1) := by decide +kernel
theorem dX11_letter_39 : decode cX11_letter 39 = .ok (.getfield 60, 3) := by decide +kernel
theorem dX11_letter_42 : decode cX11_letter 42 = .ok (.iconst 1, 1) := by decide +kernel
theorem dX11_letter_43 : decode cX11_letter 43 = .ok (.iadd, 1) := by decide +kernel
theorem dX11_letter_44 : decode cX11_letter 44 = .ok (.putfield 60, 3) := by decide +kernel
theorem dX11_letter_47 : decode cX11_letter 47 = .ok (.aload_n 0, 1) := by decide +kernel
theorem dX11_letter_48 : decode cX11_letter 48 = .ok (.getfield 60, 3) := by decide +kernel
theorem dX11_letter_51 : decode cX11_letter 51 = .ok (.ireturn, 1) := by decide +kernel
theorem dX11_blank_0 : decode cX11_blank 0 = .ok (.aload_n 0, 1) := by decide +kernel
theorem dX11_blank_1 : decode cX11_blank 1 = .ok (.getfield 60, 3) := by decide +kernel
theorem dX11_blank_4 : decode cX11_blank 4 = .ok (.istore_n 1, 1) := by decide +kernel
theorem dX11_blank_5 : decode cX11_blank 5 = .ok (.aload_n 0, 1) := by decide +kernel
theorem dX11_blank_6 : decode cX11_blank 6 = .ok (.iconst 0, 1) := by decide +kernel
theorem dX11_blank_7 : decode cX11_blank 7 = .ok (.putfield 60, 3) := by decide +kernel
theorem dX11_blank_10 : decode cX11_blank 10 = .ok (.iload_n 1, 1) := by decide +kernel
theorem dX11_blank_11 : decode cX11_blank 11 = .ok (.ireturn, 1) := by decide +kernel
theorem dX11_kindBy_0 : decode cX11_kindBy 0 = .ok (.iload_n 0, 1) := by decide +kernel
theorem dX11_kindBy_1 : decode cX11_kindBy 1 = .ok (.lookupswitch 61 #[(97, 55), (98, 57), (104, 51), (115, 53), (119, 59)], 51) := by decide +kernel
theorem dX11_kindBy_52 : decode cX11_kindBy 52 = .ok (.iconst 0, 1) := by decide +kernel
theorem dX11_kindBy_53 : decode cX11_kindBy 53 = .ok (.ireturn, 1) := by decide +kernel
theorem dX11_kindBy_54 : decode cX11_kindBy 54 = .ok (.iconst 1, 1) := by decide +kernel
theorem dX11_kindBy_55 : decode cX11_kindBy 55 = .ok (.ireturn, 1) := by decide +kernel
theorem dX11_kindBy_56 : decode cX11_kindBy 56 = .ok (.iconst 2, 1) := by decide +kernel
theorem dX11_kindBy_57 : decode cX11_kindBy 57 = .ok (.ireturn, 1) := by decide +kernel
theorem dX11_kindBy_58 : decode cX11_kindBy 58 = .ok (.iconst 3, 1) := by decide +kernel
theorem dX11_kindBy_59 : decode cX11_kindBy 59 = .ok (.ireturn, 1) := by decide +kernel
theorem dX11_kindBy_60 : decode cX11_kindBy 60 = .ok (.iconst 4, 1) := by decide +kernel
theorem dX11_kindBy_61 : decode cX11_kindBy 61 = .ok (.ireturn, 1) := by decide +kernel
theorem dX11_kindBy_62 : decode cX11_kindBy 62 = .ok (.iconst (-1), 1) := by decide +kernel
theorem dX11_kindBy_63 : decode cX11_kindBy 63 = .ok (.ireturn, 1) := by decide +kernel
theorem dX11_figure_0 : decode cX11_figure 0 = .ok (.iload_n 1, 1) := by decide +kernel
theorem dX11_figure_1 : decode cX11_figure 1 = .ok (.aload_n 0, 1) := by decide +kernel
theorem dX11_figure_2 : decode cX11_figure 2 = .ok (.getfield 60, 3) := by decide +kernel
theorem dX11_figure_5 : decode cX11_figure 5 = .ok (.if_icmp .ge 15, 3) := by decide +kernel
theorem dX11_figure_8 : decode cX11_figure 8 = .ok (.aload_n 0, 1) := by decide +kernel
theorem dX11_figure_9 : decode cX11_figure 9 = .ok (.getfield 25, 3) := by decide +kernel
theorem dX11_figure_12 : decode cX11_figure 12 = .ok (.iload_n 1, 1) := by decide +kernel
theorem dX11_figure_13 : decode cX11_figure 13 = .ok (.baload, 1) := by decide +kernel
theorem dX11_figure_14 : decode cX11_figure 14 = .ok (.bipush 48, 2) := by decide +kernel
theorem dX11_figure_16 : decode cX11_figure 16 = .ok (.isub, 1) := by decide +kernel
theorem dX11_figure_17 : decode cX11_figure 17 = .ok (.goto 4, 3) := by decide +kernel
theorem dX11_figure_20 : decode cX11_figure 20 = .ok (.iconst (-1), 1) := by decide +kernel
theorem dX11_figure_21 : decode cX11_figure 21 = .ok (.ireturn, 1) := by decide +kernel
set_option maxRecDepth 20000 in
theorem ggX11_read_X11_kindBy : GoodIn wsX11_read wsX11_kindBy := goodIn_r _ [8] (by decide +kernel) (by decide +kernel)
set_option maxRecDepth 20000 in
theorem gX11_read_X11_kindBy : GoodIn wsX11_read (va_wsS RX11 71 yX11_kindBy wsX11_kindBy) := goodIn_app (goodIn_of _ (by decide +kernel)) ggX11_read_X11_kindBy
set_option maxRecDepth 20000 in
theorem ggX11_read_X11_figure : GoodIn wsX11_read wsX11_figure := goodIn_r _ [12, 3, 4, 16, 17, 18, 19, 20, 21, 22, 23, 24, 25, 26, 27, 28, 29, 30, 31, 32, 33, 34, 35, 36, 37, 38, 39, 40, 41, 42, 43, 44, 45, 46, 47, 48, 49, 50, 51] (by decide +kernel) (by decide +kernel)
set_option maxRecDepth 20000 in
theorem gX11_read_X11_figure : GoodIn wsX11_read (wsV RX11 75 RX11 yX11_figure wsX11_figure) := goodIn_app (goodIn_of _ (by decide +kernel)) ggX11_read_X11_figure
set_option maxRecDepth 20000 in
theorem ggX11_read_X11_within : GoodIn wsX11_read wsX11_within := goodIn_r _ [15] (by decide +kernel) (by decide +kernel)
set_option maxRecDepth 20000 in
theorem gX11_read_X11_within : GoodIn wsX11_read (va_wsS RX11 56 yX11_within wsX11_within) := goodIn_app (goodIn_of _ (by decide +kernel)) ggX11_read_X11_within
theorem dX11_read_0 : decode cX11_read 0 = .ok (.aload_n 0, 1) := by decide +kernel
theorem dX11_read_1 : decode cX11_read 1 = .ok (.iconst 0, 1) := by decide +kernel
theorem dX11_read_2 : decode cX11_read 2 = .ok (.putfield 64, 3) := by decide +kernel
theorem dX11_read_5 : decode cX11_read 5 = .ok (.aload_n 0, 1) := by decide +kernel
theorem dX11_read_6 : decode cX11_read 6 = .ok (.iconst 0, 1) := by decide +kernel
theorem dX11_read_7 : decode cX11_read 7 = .ok (.putfield 68, 3) := by decide +kernel
theorem dX11_read_10 : decode cX11_read 10 = .ok (.iconst 0, 1) := by decide +kernel
theorem dX11_read_11 : decode cX11_read 11 = .ok (.istore_n 1, 1) := by decide +kernel
theorem dX11_read_12 : decode cX11_read 12 = .ok (.aload_n 0, 1) := by decide +kernel
theorem dX11_read_13 : decode cX11_read 13 = .ok (.getfield 68, 3) := by decide +kernel
theorem dX11_read_16 : decode cX11_read 16 = .ok (.bipush 6, 2) := by decide +kernel
theorem dX11_read_18 : decode cX11_read 18 = .ok (.if_icmp .ge 183, 3) := by decide +kernel
theorem dX11_read_21 : decode cX11_read 21 = .ok (.iload_n 1, 1) := by decide +kernel
theorem dX11_read_22 : decode cX11_read 22 = .ok (.aload_n 0, 1) := by decide +kernel
theorem dX11_read_23 : decode cX11_read 23 = .ok (.getfield 60, 3) := by decide +kernel
theorem dX11_read_26 : decode cX11_read 26 = .ok (.if_icmp .eq 16, 3) := by decide +kernel
theorem dX11_read_29 : decode cX11_read 29 = .ok (.aload_n 0, 1) := by decide +kernel
theorem dX11_read_30 : decode cX11_read 30 = .ok (.getfield 25, 3) := by decide +kernel
theorem dX11_read_33 : decode cX11_read 33 = .ok (.iload_n 1, 1) := by decide +kernel
theorem dX11_read_34 : decode cX11_read 34 = .ok (.baload, 1) := by decide +kernel
theorem dX11_read_35 : decode cX11_read 35 = .ok (.invokestatic 71, 3) := by decide +kernel
theorem dX11_read_38 : decode cX11_read 38 = .ok (.iconst (-1), 1) := by decide +kernel
theorem dX11_read_39 : decode cX11_read 39 = .ok (.if_icmp .ne 5, 3) := by decide +kernel
theorem dX11_read_42 : decode cX11_read 42 = .ok (.iload_n 1, 1) := by decide +kernel
theorem dX11_read_43 : decode cX11_read 43 = .ok (.ireturn, 1) := by decide +kernel
theorem dX11_read_44 : decode cX11_read 44 = .ok (.aload_n 0, 1) := by decide +kernel
theorem dX11_read_45 : decode cX11_read 45 = .ok (.iload_n 1, 1) := by decide +kernel
theorem dX11_read_46 : decode cX11_read 46 = .ok (.iconst 1, 1) := by decide +kernel
theorem dX11_read_47 : decode cX11_read 47 = .ok (.iadd, 1) := by decide +kernel
theorem dX11_read_48 : decode cX11_read 48 = .ok (.invokevirtual 75, 3) := by decide +kernel
theorem dX11_read_51 : decode cX11_read 51 = .ok (.iconst 0, 1) := by decide +kernel
theorem dX11_read_52 : decode cX11_read 52 = .ok (.bipush 9, 2) := by decide +kernel
theorem dX11_read_54 : decode cX11_read 54 = .ok (.invokestatic 56, 3) := by decide +kernel
theorem dX11_read_57 : decode cX11_read 57 = .ok (.ifCond .ne 7, 3) := by decide +kernel
theorem dX11_read_60 : decode cX11_read 60 = .ok (.iload_n 1, 1) := by decide +kernel
theorem dX11_read_61 : decode cX11_read 61 = .ok (.iconst 1, 1) := by decide +kernel
theorem dX11_read_62 : decode cX11_read 62 = .ok (.iadd, 1) := by decide +kernel
theorem dX11_read_63 : decode cX11_read 63 = .ok (.ireturn, 1) := by decide +kernel
theorem dX11_read_64 : decode cX11_read 64 = .ok (.aload_n 0, 1) := by decide +kernel
theorem dX11_read_65 : decode cX11_read 65 = .ok (.dup, 1) := by decide +kernel
theorem dX11_read_66 : decode cX11_read 66 = .ok (.getfield 68, 3) := by decide +kernel
theorem dX11_read_69 : decode cX11_read 69 = .ok (.iconst 1, 1) := by decide +kernel
theorem dX11_read_70 : decode cX11_read 70 = .ok (.iadd, 1) := by decide +kernel
theorem dX11_read_71 : decode cX11_read 71 = .ok (.putfield 68, 3) := by decide +kernel
theorem dX11_read_74 : decode cX11_read 74 = .ok (.iinc 1 2, 3) := by decide +kernel
theorem dX11_read_77 : decode cX11_read 77 = .ok (.iload_n 1, 1) := by decide +kernel
theorem dX11_read_78 : decode cX11_read 78 = .ok (.aload_n 0, 1) := by decide +kernel
theorem dX11_read_79 : decode cX11_read 79 = .ok (.getfield 60, 3) := by decide +kernel
theorem dX11_read_82 : decode cX11_read 82 = .ok (.if_icmp .ge 83, 3) := by decide +kernel
theorem dX11_read_85 : decode cX11_read 85 = .ok (.aload_n 0, 1) := by decide +kernel
theorem dX11_read_86 : decode cX11_read 86 = .ok (.getfield 25, 3) := by decide +kernel
theorem dX11_read_89 : decode cX11_read 89 = .ok (.iload_n 1, 1) := by decide +kernel
theorem dX11_read_90 : decode cX11_read 90 = .ok (.baload, 1) := by decide +kernel
theorem dX11_read_91 : decode cX11_read 91 = .ok (.bipush 59, 2) := by decide +kernel
theorem dX11_read_93 : decode cX11_read 93 = .ok (.if_icmp .ne 72, 3) := by decide +kernel
theorem dX11_read_96 : decode cX11_read 96 = .ok (.aload_n 0, 1) := by decide +kernel
theorem dX11_read_97 : decode cX11_read 97 = .ok (.getfield 68, 3) := by decide +kernel
theorem dX11_read_100 : decode cX11_read 100 = .ok (.iconst 1, 1) := by decide +kernel
theorem dX11_read_101 : decode cX11_read 101 = .ok (.if_icmp .le 64, 3) := by decide +kernel
theorem dX11_read_104 : decode cX11_read 104 = .ok (.aload_n 0, 1) := by decide +kernel
theorem dX11_read_105 : decode cX11_read 105 = .ok (.aload_n 0, 1) := by decide +kernel
theorem dX11_read_106 : decode cX11_read 106 = .ok (.iload_n 1, 1) := by decide +kernel
theorem dX11_read_107 : decode cX11_read 107 = .ok (.iconst 1, 1) := by decide +kernel
theorem dX11_read_108 : decode cX11_read 108 = .ok (.iadd, 1) := by decide +kernel
theorem dX11_read_109 : decode cX11_read 109 = .ok (.invokevirtual 75, 3) := by decide +kernel
theorem dX11_read_112 : decode cX11_read 112 = .ok (.iconst 1, 1) := by decide +kernel
theorem dX11_read_113 : decode cX11_read 113 = .ok (.bipush 9, 2) := by decide +kernel
theorem dX11_read_115 : decode cX11_read 115 = .ok (.invokestatic 56, 3) := by decide +kernel
theorem dX11_read_118 : decode cX11_read 118 = .ok (.ifCond .eq 17, 3) := by decide +kernel
theorem dX11_read_121 : decode cX11_read 121 = .ok (.iload_n 1, 1) := by decide +kernel
theorem dX11_read_122 : decode cX11_read 122 = .ok (.iconst 2, 1) := by decide +kernel
theorem dX11_read_123 : decode cX11_read 123 = .ok (.iadd, 1) := by decide +kernel
theorem dX11_read_124 : decode cX11_read 124 = .ok (.aload_n 0, 1) := by decide +kernel
theorem dX11_read_125 : decode cX11_read 125 = .ok (.getfield 60, 3) := by decide +kernel
theorem dX11_read_128 : decode cX11_read 128 = .ok (.if_icmp .ne 7, 3) := by decide +kernel
theorem dX11_read_131 : decode cX11_read 131 = .ok (.iconst 1, 1) := by decide +kernel
theorem dX11_read_132 : decode cX11_read 132 = .ok (.goto 4, 3) := by decide +kernel
theorem dX11_read_135 : decode cX11_read 135 = .ok (.iconst 0, 1) := by decide +kernel
theorem dX11_read_136 : decode cX11_read 136 = .ok (.putfield 64, 3) := by decide +kernel
theorem dX11_read_139 : decode cX11_read 139 = .ok (.aload_n 0, 1) := by decide +kernel
theorem dX11_read_140 : decode cX11_read 140 = .ok (.iload_n 1, 1) := by decide +kernel
theorem dX11_read_141 : decode cX11_read 141 = .ok (.iconst 1, 1) := by decide +kernel
theorem dX11_read_142 : decode cX11_read 142 = .ok (.iadd, 1) := by decide +kernel
theorem dX11_read_143 : decode cX11_read 143 = .ok (.invokevirtual 75, 3) := by decide +kernel
theorem dX11_read_146 : decode cX11_read 146 = .ok (.iconst 1, 1) := by decide +kernel
theorem dX11_read_147 : decode cX11_read 147 = .ok (.bipush 9, 2) := by decide +kernel
theorem dX11_read_149 : decode cX11_read 149 = .ok (.invokestatic 56, 3) := by decide +kernel
theorem dX11_read_152 : decode cX11_read 152 = .ok (.ifCond .eq 9, 3) := by decide +kernel
theorem dX11_read_155 : decode cX11_read 155 = .ok (.iload_n 1, 1) := by decide +kernel
theorem dX11_read_156 : decode cX11_read 156 = .ok (.iconst 2, 1) := by decide +kernel
theorem dX11_read_157 : decode cX11_read 157 = .ok (.iadd, 1) := by decide +kernel
theorem dX11_read_158 : decode cX11_read 158 = .ok (.goto 6, 3) := by decide +kernel
theorem dX11_read_161 : decode cX11_read 161 = .ok (.iload_n 1, 1) := by decide +kernel
theorem dX11_read_162 : decode cX11_read 162 = .ok (.iconst 1, 1) := by decide +kernel
theorem dX11_read_163 : decode cX11_read 163 = .ok (.iadd, 1) := by decide +kernel
theorem dX11_read_164 : decode cX11_read 164 = .ok (.ireturn, 1) := by decide +kernel
theorem dX11_read_165 : decode cX11_read 165 = .ok (.iload_n 1, 1) := by decide +kernel
theorem dX11_read_166 : decode cX11_read 166 = .ok (.aload_n 0, 1) := by decide +kernel
theorem dX11_read_167 : decode cX11_read 167 = .ok (.getfield 60, 3) := by decide +kernel
theorem dX11_read_170 : decode cX11_read 170 = .ok (.if_icmp .eq 23, 3) := by decide +kernel
theorem dX11_read_173 : decode cX11_read 173 = .ok (.aload_n 0, 1) := by decide +kernel
theorem dX11_read_174 : decode cX11_read 174 = .ok (.getfield 68, 3) := by decide +kernel
theorem dX11_read_177 : decode cX11_read 177 = .ok (.bipush 6, 2) := by decide +kernel
theorem dX11_read_179 : decode cX11_read 179 = .ok (.if_icmp .eq 14, 3) := by decide +kernel
theorem dX11_read_182 : decode cX11_read 182 = .ok (.aload_n 0, 1) := by decide +kernel
theorem dX11_read_183 : decode cX11_read 183 = .ok (.getfield 25, 3) := by decide +kernel
theorem dX11_read_186 : decode cX11_read 186 = .ok (.iload_n 1, 1) := by decide +kernel
theorem dX11_read_187 : decode cX11_read 187 = .ok (.baload, 1) := by decide +kernel
theorem dX11_read_188 : decode cX11_read 188 = .ok (.bipush 44, 2) := by decide +kernel
theorem dX11_read_190 : decode cX11_read 190 = .ok (.if_icmp .eq 5, 3) := by decide +kernel
theorem dX11_read_193 : decode cX11_read 193 = .ok (.iload_n 1, 1) := by decide +kernel
theorem dX11_read_194 : decode cX11_read 194 = .ok (.ireturn, 1) := by decide +kernel
theorem dX11_read_195 : decode cX11_read 195 = .ok (.iinc 1 1, 3) := by decide +kernel
theorem dX11_read_198 : decode cX11_read 198 = .ok (.goto (-186), 3) := by decide +kernel
theorem dX11_read_201 : decode cX11_read 201 = .ok (.iload_n 1, 1) := by decide +kernel
theorem dX11_read_202 : decode cX11_read 202 = .ok (.ireturn, 1) := by decide +kernel
set_option maxRecDepth 20000 in
theorem ggX11_fault_X11_read : GoodIn wsX11_fault wsX11_read := goodIn_r _ [5, 6, 7, 8, 9, 10, 11, 4, 12, 13, 14, 15, 16, 17, 18, 19, 20, 21, 22, 23, 24, 25, 26, 27, 28, 29, 30, 31, 32, 33, 34, 35, 36, 37, 38, 39, 40, 41, 42, 43, 44, 45, 46, 47, 48, 49, 50, 51, 52, 53, 54, 55] (by decide +kernel) (by decide +kernel)
set_option maxRecDepth 20000 in
theorem gX11_fault_X11_read : GoodIn wsX11_fault (wsV RX11 78 RX11 yX11_read wsX11_read) := goodIn_app (goodIn_of _ (by decide +kernel)) ggX11_fault_X11_read
theorem dX11_fault_0 : decode cX11_fault 0 = .ok (.aload_n 0, 1) := by decide +kernel
theorem dX11_fault_1 : decode cX11_fault 1 = .ok (.invokevirtual 78, 3) := by decide +kernel
theorem dX11_fault_4 : decode cX11_fault 4 = .ok (.ireturn, 1) := by decide +kernel
set_option maxRecDepth 20000 in
theorem ggX11_round_X11_read : GoodIn wsX11_round wsX11_read := goodIn_r _ [20, 1, 2, 15, 5, 21, 22, 19, 23, 24, 25, 26, 27, 28, 29, 30, 31, 32, 33, 34, 35, 36, 37, 38, 39, 40, 41, 42, 43, 44, 45, 46, 47, 48, 49, 50, 51, 52, 53, 54, 55, 56, 57, 58, 59, 60, 61, 62, 63, 64, 65, 66] (by decide +kernel) (by decide +kernel)
set_option maxRecDepth 20000 in
theorem gX11_round_X11_read : GoodIn wsX11_round (wsV RX11 78 RX11 yX11_read wsX11_read) := goodIn_app (goodIn_of _ (by decide +kernel)) ggX11_round_X11_read
set_option maxRecDepth 20000 in
theorem ggX11_round_X11_kindBy : GoodIn wsX11_round wsX11_kindBy := goodIn_r _ [23] (by decide +kernel) (by decide +kernel)
set_option maxRecDepth 20000 in
theorem gX11_round_X11_kindBy : GoodIn wsX11_round (va_wsS RX11 71 yX11_kindBy wsX11_kindBy) := goodIn_app (goodIn_of _ (by decide +kernel)) ggX11_round_X11_kindBy
theorem dX11_round_0 : decode cX11_round 0 = .ok (.aload_n 0, 1) := by decide +kernel
theorem dX11_round_1 : decode cX11_round 1 = .ok (.invokevirtual 78, 3) := by decide +kernel
theorem dX11_round_4 : decode cX11_round 4 = .ok (.istore_n 1, 1) := by decide +kernel
theorem dX11_round_5 : decode cX11_round 5 = .ok (.aload_n 0, 1) := by decide +kernel
theorem dX11_round_6 : decode cX11_round 6 = .ok (.getfield 64, 3) := by decide +kernel
theorem dX11_round_9 : decode cX11_round 9 = .ok (.ifCond .ne 6, 3) := by decide +kernel
theorem dX11_round_12 : decode cX11_round 12 = .ok (.bipush (-103), 2) := by decide +kernel
theorem dX11_round_14 : decode cX11_round 14 = .ok (.ireturn, 1) := by decide +kernel
theorem dX11_round_15 : decode cX11_round 15 = .ok (.aload_n 0, 1) := by decide +kernel
theorem dX11_round_16 : decode cX11_round 16 = .ok (.aload_n 0, 1) := by decide +kernel
theorem dX11_round_17 : decode cX11_round 17 = .ok (.getfield 68, 3) := by decide +kernel
theorem dX11_round_20 : decode cX11_round 20 = .ok (.putfield 82, 3) := by decide +kernel
theorem dX11_round_23 : decode cX11_round 23 = .ok (.iconst 0, 1) := by decide +kernel
theorem dX11_round_24 : decode cX11_round 24 = .ok (.istore_n 2, 1) := by decide +kernel
theorem dX11_round_25 : decode cX11_round 25 = .ok (.iload_n 2, 1) := by decide +kernel
theorem dX11_round_26 : decode cX11_round 26 = .ok (.aload_n 0, 1) := by decide +kernel
theorem dX11_round_27 : decode cX11_round 27 = .ok (.getfield 82, 3) := by decide +kernel
theorem dX11_round_30 : decode cX11_round 30 = .ok (.if_icmp .ge 52, 3) := by decide +kernel
theorem dX11_round_33 : decode cX11_round 33 = .ok (.aload_n 0, 1) := by decide +kernel
theorem dX11_round_34 : decode cX11_round 34 = .ok (.getfield 7, 3) := by decide +kernel
theorem dX11_round_37 : decode cX11_round 37 = .ok (.iload_n 2, 1) := by decide +kernel
theorem dX11_round_38 : decode cX11_round 38 = .ok (.aload_n 0, 1) := by decide +kernel
theorem dX11_round_39 : decode cX11_round 39 = .ok (.getfield 25, 3) := by decide +kernel
theorem dX11_round_42 : decode cX11_round 42 = .ok (.iconst 3, 1) := by decide +kernel
theorem dX11_round_43 : decode cX11_round 43 = .ok (.iload_n 2, 1) := by decide +kernel
theorem dX11_round_44 : decode cX11_round 44 = .ok (.imul, 1) := by decide +kernel
theorem dX11_round_45 : decode cX11_round 45 = .ok (.baload, 1) := by decide +kernel
theorem dX11_round_46 : decode cX11_round 46 = .ok (.invokestatic 71, 3) := by decide +kernel
theorem dX11_round_49 : decode cX11_round 49 = .ok (.iastore, 1) := by decide +kernel
theorem dX11_round_50 : decode cX11_round 50 = .ok (.aload_n 0, 1) := by decide +kernel
theorem dX11_round_51 : decode cX11_round 51 = .ok (.getfield 13, 3) := by decide +kernel
theorem dX11_round_54 : decode cX11_round 54 = .ok (.iload_n 2, 1) := by decide +kernel
theorem dX11_round_55 : decode cX11_round 55 = .ok (.aload_n 0, 1) := by decide +kernel
theorem dX11_round_56 : decode cX11_round 56 = .ok (.getfield 25, 3) := by decide +kernel
theorem dX11_round_59 : decode cX11_round 59 = .ok (.iconst 3, 1) := by decide +kernel
theorem dX11_round_60 : decode cX11_round 60 = .ok (.iload_n 2, 1) := by decide +kernel
theorem dX11_round_61 : decode cX11_round 61 = .ok (.imul, 1) := by decide +kernel
theorem dX11_round_62 : decode cX11_round 62 = .ok (.iconst 1, 1) := by decide +kernel
theorem dX11_round_63 : decode cX11_round 63 = .ok (.iadd, 1) := by decide +kernel
theorem dX11_round_64 : decode cX11_round 64 = .ok (.baload, 1) := by decide +kernel
theorem dX11_round_65 : decode cX11_round 65 = .ok (.bipush 48, 2) := by decide +kernel
theorem dX11_round_67 : decode cX11_round 67 = .ok (.isub, 1) := by decide +kernel
theorem dX11_round_68 : decode cX11_round 68 = .ok (.iastore, 1) := by decide +kernel
theorem dX11_round_69 : decode cX11_round 69 = .ok (.aload_n 0, 1) := by decide +kernel
theorem dX11_round_70 : decode cX11_round 70 = .ok (.getfield 16, 3) := by decide +kernel
theorem dX11_round_73 : decode cX11_round 73 = .ok (.iload_n 2, 1) := by decide +kernel
theorem dX11_round_74 : decode cX11_round 74 = .ok (.iload_n 2, 1) := by decide +kernel
theorem dX11_round_75 : decode cX11_round 75 = .ok (.iastore, 1) := by decide +kernel
theorem dX11_round_76 : decode cX11_round 76 = .ok (.iinc 2 1, 3) := by decide +kernel
theorem dX11_round_79 : decode cX11_round 79 = .ok (.goto (-54), 3) := by decide +kernel
theorem dX11_round_82 : decode cX11_round 82 = .ok (.aload_n 0, 1) := by decide +kernel
theorem dX11_round_83 : decode cX11_round 83 = .ok (.aload_n 0, 1) := by decide +kernel
theorem dX11_round_84 : decode cX11_round 84 = .ok (.getfield 25, 3) := by decide +kernel
theorem dX11_round_87 : decode cX11_round 87 = .ok (.iload_n 1, 1) := by decide +kernel
theorem dX11_round_88 : decode cX11_round 88 = .ok (.iconst 1, 1) := by decide +kernel
theorem dX11_round_89 : decode cX11_round 89 = .ok (.isub, 1) := by decide +kernel
theorem dX11_round_90 : decode cX11_round 90 = .ok (.baload, 1) := by decide +kernel
theorem dX11_round_91 : decode cX11_round 91 = .ok (.bipush 48, 2) := by decide +kernel
theorem dX11_round_93 : decode cX11_round 93 = .ok (.isub, 1) := by decide +kernel
theorem dX11_round_94 : decode cX11_round 94 = .ok (.putfield 85, 3) := by decide +kernel
theorem dX11_round_97 : decode cX11_round 97 = .ok (.aload_n 0, 1) := by decide +kernel
theorem dX11_round_98 : decode cX11_round 98 = .ok (.dup, 1) := by decide +kernel
theorem dX11_round_99 : decode cX11_round 99 = .ok (.getfield 88, 3) := by decide +kernel
theorem dX11_round_102 : decode cX11_round 102 = .ok (.iconst 1, 1) := by decide +kernel
theorem dX11_round_103 : decode cX11_round 103 = .ok (.iadd, 1) := by decide +kernel
theorem dX11_round_104 : decode cX11_round 104 = .ok (.putfield 88, 3) := by decide +kernel
theorem dX11_round_107 : decode cX11_round 107 = .ok (.aload_n 0, 1) := by decide +kernel
theorem dX11_round_108 : decode cX11_round 108 = .ok (.iconst 0, 1) := by decide +kernel
theorem dX11_round_109 : decode cX11_round 109 = .ok (.putfield 91, 3) := by decide +kernel
theorem dX11_round_112 : decode cX11_round 112 = .ok (.aload_n 0, 1) := by decide +kernel
theorem dX11_round_113 : decode cX11_round 113 = .ok (.iconst 0, 1) := by decide +kernel
theorem dX11_round_114 : decode cX11_round 114 = .ok (.putfield 94, 3) := by decide +kernel
theorem dX11_round_117 : decode cX11_round 117 = .ok (.aload_n 0, 1) := by decide +kernel
theorem dX11_round_118 : decode cX11_round 118 = .ok (.iconst 0, 1) := by decide +kernel
theorem dX11_round_119 : decode cX11_round 119 = .ok (.putfield 97, 3) := by decide +kernel
theorem dX11_round_122 : decode cX11_round 122 = .ok (.aload_n 0, 1) := by decide +kernel
theorem dX11_round_123 : decode cX11_round 123 = .ok (.iconst 0, 1) := by decide +kernel
theorem dX11_round_124 : decode cX11_round 124 = .ok (.putfield 100, 3) := by decide +kernel
theorem dX11_round_127 : decode cX11_round 127 = .ok (.aload_n 0, 1) := by decide +kernel
theorem dX11_round_128 : decode cX11_round 128 = .ok (.iconst 0, 1) := by decide +kernel
theorem dX11_round_129 : decode cX11_round 129 = .ok (.putfield 103, 3) := by decide +kernel
theorem dX11_round_132 : decode cX11_round 132 = .ok (.aload_n 0, 1) := by decide +kernel
theorem dX11_round_133 : decode cX11_round 133 = .ok (.iconst 0, 1) := by decide +kernel
theorem dX11_round_134 : decode cX11_round 134 = .ok (.putfield 60, 3) := by decide +kernel
theorem dX11_round_137 : decode cX11_round 137 = .ok (.aload_n 0, 1) := by decide +kernel
theorem dX11_round_138 : decode cX11_round 138 = .ok (.getfield 82, 3) := by decide +kernel
theorem dX11_round_141 : decode cX11_round 141 = .ok (.ireturn, 1) := by decide +kernel
set_option maxRecDepth 20000 in
theorem ggX11_isHouse_X11_within : GoodIn wsX11_isHouse wsX11_within := goodIn_r _ [5] (by decide +kernel) (by decide +kernel)
set_option maxRecDepth 20000 in
theorem gX11_isHouse_X11_within : GoodIn wsX11_isHouse (va_wsS RX11 56 yX11_within wsX11_within) := goodIn_app (goodIn_of _ (by decide +kernel)) ggX11_isHouse_X11_within
theorem dX11_isHouse_0 : decode cX11_isHouse 0 = .ok (.iload_n 1, 1) := by decide +kernel
theorem dX11_isHouse_1 : decode cX11_isHouse 1 = .ok (.iconst 0, 1) := by decide +kernel
theorem dX11_isHouse_2 : decode cX11_isHouse 2 = .ok (.aload_n 0, 1) := by decide +kernel
theorem dX11_isHouse_3 : decode cX11_isHouse 3 = .ok (.getfield 82, 3) := by decide +kernel
theorem dX11_isHouse_6 : decode cX11_isHouse 6 = .ok (.iconst 1, 1) := by decide +kernel
theorem dX11_isHouse_7 : decode cX11_isHouse 7 = .ok (.isub, 1) := by decide +kernel
theorem dX11_isHouse_8 : decode cX11_isHouse 8 = .ok (.invokestatic 56, 3) := by decide +kernel
theorem dX11_isHouse_11 : decode cX11_isHouse 11 = .ok (.ireturn, 1) := by decide +kernel
theorem dX11_readsAll_0 : decode cX11_readsAll 0 = .ok (.aload_n 0, 1) := by decide +kernel
theorem dX11_readsAll_1 : decode cX11_readsAll 1 = .ok (.getfield 13, 3) := by decide +kernel
theorem dX11_readsAll_4 : decode cX11_readsAll 4 = .ok (.iload_n 1, 1) := by decide +kernel
theorem dX11_readsAll_5 : decode cX11_readsAll 5 = .ok (.iaload, 1) := by decide +kernel
theorem dX11_readsAll_6 : decode cX11_readsAll 6 = .ok (.istore_n 2, 1) := by decide +kernel
theorem dX11_readsAll_7 : decode cX11_readsAll 7 = .ok (.aload_n 0, 1) := by decide +kernel
theorem dX11_readsAll_8 : decode cX11_readsAll 8 = .ok (.getfield 7, 3) := by decide +kernel
theorem dX11_readsAll_11 : decode cX11_readsAll 11 = .ok (.iload_n 1, 1) := by decide +kernel
theorem dX11_readsAll_12 : decode cX11_readsAll 12 = .ok (.iaload, 1) := by decide +kernel
theorem dX11_readsAll_13 : decode cX11_readsAll 13 = .ok (.tableswitch 51 1 4 #[31, 35, 39, 45], 31) := by decide +kernel
theorem dX11_readsAll_44 : decode cX11_readsAll 44 = .ok (.iconst 2, 1) := by decide +kernel
theorem dX11_readsAll_45 : decode cX11_readsAll 45 = .ok (.iload_n 2, 1) := by decide +kernel
theorem dX11_readsAll_46 : decode cX11_readsAll 46 = .ok (.imul, 1) := by decide +kernel
theorem dX11_readsAll_47 : decode cX11_readsAll 47 = .ok (.ireturn, 1) := by decide +kernel
theorem dX11_readsAll_48 : decode cX11_readsAll 48 = .ok (.iload_n 2, 1) := by decide +kernel
theorem dX11_readsAll_49 : decode cX11_readsAll 49 = .ok (.iconst 3, 1) := by decide +kernel
theorem dX11_readsAll_50 : decode cX11_readsAll 50 = .ok (.iadd, 1) := by decide +kernel
theorem dX11_readsAll_51 : decode cX11_readsAll 51 = .ok (.ireturn, 1) := by decide +kernel
theorem dX11_readsAll_52 : decode cX11_readsAll 52 = .ok (.iload_n 2, 1) := by decide +kernel
theorem dX11_readsAll_53 : decode cX11_readsAll 53 = .ok (.iconst 1, 1) := by decide +kernel
theorem dX11_readsAll_54 : decode cX11_readsAll 54 = .ok (.iadd, 1) := by decide +kernel
theorem dX11_readsAll_55 : decode cX11_readsAll 55 = .ok (.iconst 2, 1) := by decide +kernel
theorem dX11_readsAll_56 : decode cX11_readsAll 56 = .ok (.idiv, 1) := by decide +kernel
theorem dX11_readsAll_57 : decode cX11_readsAll 57 = .ok (.ireturn, 1) := by decide +kernel
theorem dX11_readsAll_58 : decode cX11_readsAll 58 = .ok (.iconst 2, 1) := by decide +kernel
theorem dX11_readsAll_59 : decode cX11_readsAll 59 = .ok (.iload_n 2, 1) := by decide +kernel
theorem dX11_readsAll_60 : decode cX11_readsAll 60 = .ok (.imul, 1) := by decide +kernel
theorem dX11_readsAll_61 : decode cX11_readsAll 61 = .ok (.iconst 2, 1) := by decide +kernel
theorem dX11_readsAll_62 : decode cX11_readsAll 62 = .ok (.iadd, 1) := by decide +kernel
theorem dX11_readsAll_63 : decode cX11_readsAll 63 = .ok (.ireturn, 1) := by decide +kernel
theorem dX11_readsAll_64 : decode cX11_readsAll 64 = .ok (.iload_n 2, 1) := by decide +kernel
theorem dX11_readsAll_65 : decode cX11_readsAll 65 = .ok (.ireturn, 1) := by decide +kernel
set_option maxRecDepth 20000 in
theorem ggX11_reads_X11_isIn : GoodIn wsX11_reads wsX11_isIn := goodIn_r _ [5] (by decide +kernel) (by decide +kernel)
set_option maxRecDepth 20000 in
theorem gX11_reads_X11_isIn : GoodIn wsX11_reads (va_wsS RX11 106 yX11_isIn wsX11_isIn) := goodIn_app (goodIn_of _ (by decide +kernel)) ggX11_reads_X11_isIn
set_option maxRecDepth 20000 in
theorem ggX11_reads_X11_readsAll : GoodIn wsX11_reads wsX11_readsAll := goodIn_r _ [9, 10, 11, 12, 13, 14, 15, 16, 17, 18, 19, 20, 21, 22, 23, 24, 25, 26, 27, 28, 29, 30, 31, 32, 33, 34, 35, 36, 37, 38, 39, 40, 41, 42, 43, 44, 45, 46, 47] (by decide +kernel) (by decide +kernel)
set_option maxRecDepth 20000 in
theorem gX11_reads_X11_readsAll : GoodIn wsX11_reads (wsV RX11 110 RX11 yX11_readsAll wsX11_readsAll) := goodIn_app (goodIn_of _ (by decide +kernel)) ggX11_reads_X11_readsAll
theorem dX11_reads_0 : decode cX11_reads 0 = .ok (.aload_n 0, 1) := by decide +kernel
theorem dX11_reads_1 : decode cX11_reads 1 = .ok (.getfield 91, 3) := by decide +kernel
theorem dX11_reads_4 : decode cX11_reads 4 = .ok (.iload_n 1, 1) := by decide +kernel
theorem dX11_reads_5 : decode cX11_reads 5 = .ok (.invokestatic 106, 3) := by decide +kernel
theorem dX11_reads_8 : decode cX11_reads 8 = .ok (.ifCond .eq 13, 3) := by decide +kernel
theorem dX11_reads_11 : decode cX11_reads 11 = .ok (.aload_n 0, 1) := by decide +kernel
theorem dX11_reads_12 : decode cX11_reads 12 = .ok (.iload_n 1, 1) := by decide +kernel
theorem dX11_reads_13 : decode cX11_reads 13 = .ok (.invokevirtual 110, 3) := by decide +kernel
theorem dX11_reads_16 : decode cX11_reads 16 = .ok (.iconst 2, 1) := by decide +kernel
theorem dX11_reads_17 : decode cX11_reads 17 = .ok (.idiv, 1) := by decide +kernel
theorem dX11_reads_18 : decode cX11_reads 18 = .ok (.goto 8, 3) := by decide +kernel
theorem dX11_reads_21 : decode cX11_reads 21 = .ok (.aload_n 0, 1) := by decide +kernel
theorem dX11_reads_22 : decode cX11_reads 22 = .ok (.iload_n 1, 1) := by decide +kernel
theorem dX11_reads_23 : decode cX11_reads 23 = .ok (.invokevirtual 110, 3) := by decide +kernel
theorem dX11_reads_26 : decode cX11_reads 26 = .ok (.ireturn, 1) := by decide +kernel
set_option maxRecDepth 20000 in
theorem ggX11_go_X11_reads : GoodIn wsX11_go wsX11_reads := goodIn_r _ [8, 9, 10, 11, 7, 12, 13, 14, 15, 16, 17, 18, 19, 20, 21, 22, 23, 24, 25, 26, 27, 28, 29, 30, 31, 32, 33, 34, 35, 36, 37, 38, 39, 40, 41, 42, 43, 44, 45, 46, 47, 48, 49, 50, 51, 52, 53, 54] (by decide +kernel) (by decide +kernel)
set_option maxRecDepth 20000 in
theorem gX11_go_X11_reads : GoodIn wsX11_go (wsV RX11 113 RX11 yX11_reads wsX11_reads) := goodIn_app (goodIn_of _ (by decide +kernel)) ggX11_go_X11_reads
theorem dX11_go_0 : decode cX11_go 0 = .ok (.iconst 0, 1) := by decide +kernel
theorem dX11_go_1 : decode cX11_go 1 = .ok (.istore_n 1, 1) := by decide +kernel
theorem dX11_go_2 : decode cX11_go 2 = .ok (.iconst 0, 1) := by decide +kernel
theorem dX11_go_3 : decode cX11_go 3 = .ok (.istore_n 2, 1) := by decide +kernel
theorem dX11_go_4 : decode cX11_go 4 = .ok (.iload_n 2, 1) := by decide +kernel
theorem dX11_go_5 : decode cX11_go 5 = .ok (.aload_n 0, 1) := by decide +kernel
theorem dX11_go_6 : decode cX11_go 6 = .ok (.getfield 82, 3) := by decide +kernel
theorem dX11_go_9 : decode cX11_go 9 = .ok (.if_icmp .ge 36, 3) := by decide +kernel
theorem dX11_go_12 : decode cX11_go 12 = .ok (.iload_n 1, 1) := by decide +kernel
theorem dX11_go_13 : decode cX11_go 13 = .ok (.iconst 1, 1) := by decide +kernel
theorem dX11_go_14 : decode cX11_go 14 = .ok (.aload_n 0, 1) := by decide +kernel
theorem dX11_go_15 : decode cX11_go 15 = .ok (.aload_n 0, 1) := by decide +kernel
theorem dX11_go_16 : decode cX11_go 16 = .ok (.getfield 16, 3) := by decide +kernel
theorem dX11_go_19 : decode cX11_go 19 = .ok (.iload_n 2, 1) := by decide +kernel
theorem dX11_go_20 : decode cX11_go 20 = .ok (.iaload, 1) := by decide +kernel
theorem dX11_go_21 : decode cX11_go 21 = .ok (.invokevirtual 113, 3) := by decide +kernel
theorem dX11_go_24 : decode cX11_go 24 = .ok (.iadd, 1) := by decide +kernel
theorem dX11_go_25 : decode cX11_go 25 = .ok (.iadd, 1) := by decide +kernel
theorem dX11_go_26 : decode cX11_go 26 = .ok (.istore_n 1, 1) := by decide +kernel
theorem dX11_go_27 : decode cX11_go 27 = .ok (.aload_n 0, 1) := by decide +kernel
theorem dX11_go_28 : decode cX11_go 28 = .ok (.getfield 29, 3) := by decide +kernel
theorem dX11_go_31 : decode cX11_go 31 = .ok (.aload_n 0, 1) := by decide +kernel
theorem dX11_go_32 : decode cX11_go 32 = .ok (.getfield 16, 3) := by decide +kernel
theorem dX11_go_35 : decode cX11_go 35 = .ok (.iload_n 2, 1) := by decide +kernel
theorem dX11_go_36 : decode cX11_go 36 = .ok (.iaload, 1) := by decide +kernel
theorem dX11_go_37 : decode cX11_go 37 = .ok (.iload_n 1, 1) := by decide +kernel
theorem dX11_go_38 : decode cX11_go 38 = .ok (.iastore, 1) := by decide +kernel
theorem dX11_go_39 : decode cX11_go 39 = .ok (.iinc 2 1, 3) := by decide +kernel
theorem dX11_go_42 : decode cX11_go 42 = .ok (.goto (-38), 3) := by decide +kernel
theorem dX11_go_45 : decode cX11_go 45 = .ok (.return_, 1) := by decide +kernel
theorem dX11_isSour_0 : decode cX11_isSour 0 = .ok (.aload_n 0, 1) := by decide +kernel
theorem dX11_isSour_1 : decode cX11_isSour 1 = .ok (.getfield 29, 3) := by decide +kernel
theorem dX11_isSour_4 : decode cX11_isSour 4 = .ok (.iload_n 1, 1) := by decide +kernel
theorem dX11_isSour_5 : decode cX11_isSour 5 = .ok (.iaload, 1) := by decide +kernel
theorem dX11_isSour_6 : decode cX11_isSour 6 = .ok (.aload_n 0, 1) := by decide +kernel
theorem dX11_isSour_7 : decode cX11_isSour 7 = .ok (.getfield 7, 3) := by decide +kernel
theorem dX11_isSour_10 : decode cX11_isSour 10 = .ok (.iload_n 1, 1) := by decide +kernel
theorem dX11_isSour_11 : decode cX11_isSour 11 = .ok (.iaload, 1) := by decide +kernel
theorem dX11_isSour_12 : decode cX11_isSour 12 = .ok (.iconst 2, 1) := by decide +kernel
theorem dX11_isSour_13 : decode cX11_isSour 13 = .ok (.if_icmp .ne 7, 3) := by decide +kernel
theorem dX11_isSour_16 : decode cX11_isSour 16 = .ok (.iconst 2, 1) := by decide +kernel
theorem dX11_isSour_17 : decode cX11_isSour 17 = .ok (.goto 4, 3) := by decide +kernel
theorem dX11_isSour_20 : decode cX11_isSour 20 = .ok (.iconst 4, 1) := by decide +kernel
theorem dX11_isSour_21 : decode cX11_isSour 21 = .ok (.aload_n 0, 1) := by decide +kernel
theorem dX11_isSour_22 : decode cX11_isSour 22 = .ok (.getfield 85, 3) := by decide +kernel
theorem dX11_isSour_25 : decode cX11_isSour 25 = .ok (.imul, 1) := by decide +kernel
theorem dX11_isSour_26 : decode cX11_isSour 26 = .ok (.if_icmp .le 7, 3) := by decide +kernel
theorem dX11_isSour_29 : decode cX11_isSour 29 = .ok (.iconst 1, 1) := by decide +kernel
theorem dX11_isSour_30 : decode cX11_isSour 30 = .ok (.goto 4, 3) := by decide +kernel
theorem dX11_isSour_33 : decode cX11_isSour 33 = .ok (.iconst 0, 1) := by decide +kernel
theorem dX11_isSour_34 : decode cX11_isSour 34 = .ok (.ireturn, 1) := by decide +kernel
set_option maxRecDepth 20000 in
theorem ggX11_isAhead_X11_isHouse : GoodIn wsX11_isAhead wsX11_isHouse := goodIn_r _ [6, 7, 8, 9, 5, 10, 11, 12, 13, 14, 15, 16, 17, 18, 19, 20, 21, 22, 23, 24, 25, 26, 27, 28, 29, 30, 31, 32, 33, 34, 35, 36, 37, 38, 39, 40, 41, 42, 43, 44, 45, 46] (by decide +kernel) (by decide +kernel)
set_option maxRecDepth 20000 in
theorem gX11_isAhead_X11_isHouse : GoodIn wsX11_isAhead (wsV RX11 116 RX11 yX11_isHouse wsX11_isHouse) := goodIn_app (goodIn_of _ (by decide +kernel)) ggX11_isAhead_X11_isHouse
theorem dX11_isAhead_0 : decode cX11_isAhead 0 = .ok (.aload_n 0, 1) := by decide +kernel
theorem dX11_isAhead_1 : decode cX11_isAhead 1 = .ok (.iload_n 1, 1) := by decide +kernel
theorem dX11_isAhead_2 : decode cX11_isAhead 2 = .ok (.invokevirtual 116, 3) := by decide +kernel
theorem dX11_isAhead_5 : decode cX11_isAhead 5 = .ok (.ifCond .eq 25, 3) := by decide +kernel
theorem dX11_isAhead_8 : decode cX11_isAhead 8 = .ok (.aload_n 0, 1) := by decide +kernel
theorem dX11_isAhead_9 : decode cX11_isAhead 9 = .ok (.getfield 29, 3) := by decide +kernel
theorem dX11_isAhead_12 : decode cX11_isAhead 12 = .ok (.iload_n 1, 1) := by decide +kernel
theorem dX11_isAhead_13 : decode cX11_isAhead 13 = .ok (.iaload, 1) := by decide +kernel
theorem dX11_isAhead_14 : decode cX11_isAhead 14 = .ok (.aload_n 0, 1) := by decide +kernel
theorem dX11_isAhead_15 : decode cX11_isAhead 15 = .ok (.getfield 29, 3) := by decide +kernel
theorem dX11_isAhead_18 : decode cX11_isAhead 18 = .ok (.iload_n 2, 1) := by decide +kernel
theorem dX11_isAhead_19 : decode cX11_isAhead 19 = .ok (.iaload, 1) := by decide +kernel
theorem dX11_isAhead_20 : decode cX11_isAhead 20 = .ok (.bipush 6, 2) := by decide +kernel
theorem dX11_isAhead_22 : decode cX11_isAhead 22 = .ok (.isub, 1) := by decide +kernel
theorem dX11_isAhead_23 : decode cX11_isAhead 23 = .ok (.if_icmp .gt 7, 3) := by decide +kernel
theorem dX11_isAhead_26 : decode cX11_isAhead 26 = .ok (.iconst 1, 1) := by decide +kernel
theorem dX11_isAhead_27 : decode cX11_isAhead 27 = .ok (.goto 4, 3) := by decide +kernel
theorem dX11_isAhead_30 : decode cX11_isAhead 30 = .ok (.iconst 0, 1) := by decide +kernel
theorem dX11_isAhead_31 : decode cX11_isAhead 31 = .ok (.ireturn, 1) := by decide +kernel
set_option maxRecDepth 20000 in
theorem ggX11_hears_X11_isAhead : GoodIn wsX11_hears wsX11_isAhead := goodIn_r _ [6, 7, 8, 9, 10, 5, 11, 12, 13, 14, 15, 16, 17, 18, 19, 20, 21, 22, 23, 24, 25, 26, 27, 28, 29, 30, 31, 32, 33, 34, 35, 36, 37, 38, 39, 40, 41, 42, 43, 44, 45, 46, 47, 48, 49, 50, 51] (by decide +kernel) (by decide +kernel)
set_option maxRecDepth 20000 in
theorem gX11_hears_X11_isAhead : GoodIn wsX11_hears (wsV RX11 120 RX11 yX11_isAhead wsX11_isAhead) := goodIn_app (goodIn_of _ (by decide +kernel)) ggX11_hears_X11_isAhead
theorem dX11_hears_0 : decode cX11_hears 0 = .ok (.aload_n 0, 1) := by decide +kernel
theorem dX11_hears_1 : decode cX11_hears 1 = .ok (.getfield 7, 3) := by decide +kernel
theorem dX11_hears_4 : decode cX11_hears 4 = .ok (.iload_n 1, 1) := by decide +kernel
theorem dX11_hears_5 : decode cX11_hears 5 = .ok (.iaload, 1) := by decide +kernel
theorem dX11_hears_6 : decode cX11_hears 6 = .ok (.iconst 2, 1) := by decide +kernel
theorem dX11_hears_7 : decode cX11_hears 7 = .ok (.if_icmp .eq 29, 3) := by decide +kernel
theorem dX11_hears_10 : decode cX11_hears 10 = .ok (.aload_n 0, 1) := by decide +kernel
theorem dX11_hears_11 : decode cX11_hears 11 = .ok (.iload_n 1, 1) := by decide +kernel
theorem dX11_hears_12 : decode cX11_hears 12 = .ok (.iconst 1, 1) := by decide +kernel
theorem dX11_hears_13 : decode cX11_hears 13 = .ok (.isub, 1) := by decide +kernel
theorem dX11_hears_14 : decode cX11_hears 14 = .ok (.iload_n 1, 1) := by decide +kernel
theorem dX11_hears_15 : decode cX11_hears 15 = .ok (.invokevirtual 120, 3) := by decide +kernel
theorem dX11_hears_18 : decode cX11_hears 18 = .ok (.ifCond .ne 14, 3) := by decide +kernel
theorem dX11_hears_21 : decode cX11_hears 21 = .ok (.aload_n 0, 1) := by decide +kernel
theorem dX11_hears_22 : decode cX11_hears 22 = .ok (.iload_n 1, 1) := by decide +kernel
theorem dX11_hears_23 : decode cX11_hears 23 = .ok (.iconst 1, 1) := by decide +kernel
theorem dX11_hears_24 : decode cX11_hears 24 = .ok (.iadd, 1) := by decide +kernel
theorem dX11_hears_25 : decode cX11_hears 25 = .ok (.iload_n 1, 1) := by decide +kernel
theorem dX11_hears_26 : decode cX11_hears 26 = .ok (.invokevirtual 120, 3) := by decide +kernel
theorem dX11_hears_29 : decode cX11_hears 29 = .ok (.ifCond .eq 7, 3) := by decide +kernel
theorem dX11_hears_32 : decode cX11_hears 32 = .ok (.iconst 1, 1) := by decide +kernel
theorem dX11_hears_33 : decode cX11_hears 33 = .ok (.goto 4, 3) := by decide +kernel
theorem dX11_hears_36 : decode cX11_hears 36 = .ok (.iconst 0, 1) := by decide +kernel
theorem dX11_hears_37 : decode cX11_hears 37 = .ok (.ireturn, 1) := by decide +kernel
set_option maxRecDepth 20000 in
theorem ggX11_sourNow_X11_go : GoodIn wsX11_sourNow wsX11_go := goodIn_r _ [6, 1, 7, 8, 9, 10, 11, 5, 12, 13, 14, 15, 16, 17, 18, 19, 20, 21, 22, 28, 29, 30, 31, 32, 33, 34, 35, 36, 37, 38, 39, 40, 41, 42, 43, 44, 45, 46, 47, 48, 49, 50, 51, 52, 53, 54, 55, 56, 57, 58, 59, 60, 61, 62, 63] (by decide +kernel) (by decide +kernel)
set_option maxRecDepth 20000 in
theorem gX11_sourNow_X11_go : GoodIn wsX11_sourNow (wsV RX11 123 RX11 yX11_go wsX11_go) := goodIn_app (goodIn_of _ (by decide +kernel)) ggX11_sourNow_X11_go
set_option maxRecDepth 20000 in
theorem ggX11_sourNow_X11_isSour : GoodIn wsX11_sourNow wsX11_isSour := goodIn_r _ [26, 8, 22, 27, 28, 29, 30, 31, 32, 33, 34, 35, 36, 37, 38, 39, 40, 41, 42, 43, 44, 45, 46, 47, 48, 49, 50, 51, 52, 53, 54, 55, 56, 57, 58, 59, 60, 61, 62, 63] (by decide +kernel) (by decide +kernel)
set_option maxRecDepth 20000 in
theorem gX11_sourNow_X11_isSour : GoodIn wsX11_sourNow (wsV RX11 126 RX11 yX11_isSour wsX11_isSour) := goodIn_app (goodIn_of _ (by decide +kernel)) ggX11_sourNow_X11_isSour
theorem dX11_sourNow_0 : decode cX11_sourNow 0 = .ok (.aload_n 0, 1) := by decide +kernel
theorem dX11_sourNow_1 : decode cX11_sourNow 1 = .ok (.invokevirtual 123, 3) := by decide +kernel
theorem dX11_sourNow_4 : decode cX11_sourNow 4 = .ok (.iconst 0, 1) := by decide +kernel
theorem dX11_sourNow_5 : decode cX11_sourNow 5 = .ok (.istore_n 1, 1) := by decide +kernel
theorem dX11_sourNow_6 : decode cX11_sourNow 6 = .ok (.iconst 0, 1) := by decide +kernel
theorem dX11_sourNow_7 : decode cX11_sourNow 7 = .ok (.istore_n 2, 1) := by decide +kernel
theorem dX11_sourNow_8 : decode cX11_sourNow 8 = .ok (.iload_n 2, 1) := by decide +kernel
theorem dX11_sourNow_9 : decode cX11_sourNow 9 = .ok (.aload_n 0, 1) := by decide +kernel
theorem dX11_sourNow_10 : decode cX11_sourNow 10 = .ok (.getfield 82, 3) := by decide +kernel
theorem dX11_sourNow_13 : decode cX11_sourNow 13 = .ok (.if_icmp .ge 25, 3) := by decide +kernel
theorem dX11_sourNow_16 : decode cX11_sourNow 16 = .ok (.iload_n 1, 1) := by decide +kernel
theorem dX11_sourNow_17 : decode cX11_sourNow 17 = .ok (.aload_n 0, 1) := by decide +kernel
theorem dX11_sourNow_18 : decode cX11_sourNow 18 = .ok (.iload_n 2, 1) := by decide +kernel
theorem dX11_sourNow_19 : decode cX11_sourNow 19 = .ok (.invokevirtual 126, 3) := by decide +kernel
theorem dX11_sourNow_22 : decode cX11_sourNow 22 = .ok (.ifCond .eq 7, 3) := by decide +kernel
theorem dX11_sourNow_25 : decode cX11_sourNow 25 = .ok (.iconst 1, 1) := by decide +kernel
theorem dX11_sourNow_26 : decode cX11_sourNow 26 = .ok (.goto 4, 3) := by decide +kernel
theorem dX11_sourNow_29 : decode cX11_sourNow 29 = .ok (.iconst 0, 1) := by decide +kernel
theorem dX11_sourNow_30 : decode cX11_sourNow 30 = .ok (.iadd, 1) := by decide +kernel
theorem dX11_sourNow_31 : decode cX11_sourNow 31 = .ok (.istore_n 1, 1) := by decide +kernel
theorem dX11_sourNow_32 : decode cX11_sourNow 32 = .ok (.iinc 2 1, 3) := by decide +kernel
theorem dX11_sourNow_35 : decode cX11_sourNow 35 = .ok (.goto (-27), 3) := by decide +kernel
theorem dX11_sourNow_38 : decode cX11_sourNow 38 = .ok (.iload_n 1, 1) := by decide +kernel
theorem dX11_sourNow_39 : decode cX11_sourNow 39 = .ok (.ireturn, 1) := by decide +kernel
set_option maxRecDepth 20000 in
theorem ggX11_hearNow_X11_go : GoodIn wsX11_hearNow wsX11_go := goodIn_r _ [6, 1, 7, 8, 9, 10, 11, 5, 12, 13, 14, 15, 16, 17, 18, 19, 20, 21, 22, 38, 39, 40, 41, 42, 43, 44, 45, 46, 47, 48, 49, 50, 51, 52, 53, 54, 55, 56, 57, 58, 59, 60, 61, 62, 63, 64, 65, 66, 67, 68, 69, 70, 71, 72, 73] (by decide +kernel) (by decide +kernel)
set_option maxRecDepth 20000 in
theorem gX11_hearNow_X11_go : GoodIn wsX11_hearNow (wsV RX11 123 RX11 yX11_go wsX11_go) := goodIn_app (goodIn_of _ (by decide +kernel)) ggX11_hearNow_X11_go
set_option maxRecDepth 20000 in
theorem ggX11_hearNow_X11_hears : GoodIn wsX11_hearNow wsX11_hears := goodIn_r _ [26, 22, 27, 28, 29, 5, 30, 8, 31, 32, 33, 34, 1, 35, 36, 37, 38, 39, 40, 41, 42, 43, 44, 45, 46, 47, 48, 49, 50, 51, 52, 53, 54, 55, 56, 57, 58, 59, 60, 61, 62, 63, 64, 65, 66, 67, 68, 69, 70, 71, 72, 73] (by decide +kernel) (by decide +kernel)
set_option maxRecDepth 20000 in
theorem gX11_hearNow_X11_hears : GoodIn wsX11_hearNow (wsV RX11 129 RX11 yX11_hears wsX11_hears) := goodIn_app (goodIn_of _ (by decide +kernel)) ggX11_hearNow_X11_hears
theorem dX11_hearNow_0 : decode cX11_hearNow 0 = .ok (.aload_n 0, 1) := by decide +kernel
theorem dX11_hearNow_1 : decode cX11_hearNow 1 = .ok (.invokevirtual 123, 3) := by decide +kernel
theorem dX11_hearNow_4 : decode cX11_hearNow 4 = .ok (.iconst 0, 1) := by decide +kernel
theorem dX11_hearNow_5 : decode cX11_hearNow 5 = .ok (.istore_n 1, 1) := by decide +kernel
theorem dX11_hearNow_6 : decode cX11_hearNow 6 = .ok (.iconst 0, 1) := by decide +kernel
theorem dX11_hearNow_7 : decode cX11_hearNow 7 = .ok (.istore_n 2, 1) := by decide +kernel
theorem dX11_hearNow_8 : decode cX11_hearNow 8 = .ok (.iload_n 2, 1) := by decide +kernel
theorem dX11_hearNow_9 : decode cX11_hearNow 9 = .ok (.aload_n 0, 1) := by decide +kernel
theorem dX11_hearNow_10 : decode cX11_hearNow 10 = .ok (.getfield 82, 3) := by decide +kernel
theorem dX11_hearNow_13 : decode cX11_hearNow 13 = .ok (.if_icmp .ge 25, 3) := by decide +kernel
theorem dX11_hearNow_16 : decode cX11_hearNow 16 = .ok (.iload_n 1, 1) := by decide +kernel
theorem dX11_hearNow_17 : decode cX11_hearNow 17 = .ok (.aload_n 0, 1) := by decide +kernel
theorem dX11_hearNow_18 : decode cX11_hearNow 18 = .ok (.iload_n 2, 1) := by decide +kernel
theorem dX11_hearNow_19 : decode cX11_hearNow 19 = .ok (.invokevirtual 129, 3) := by decide +kernel
theorem dX11_hearNow_22 : decode cX11_hearNow 22 = .ok (.ifCond .eq 7, 3) := by decide +kernel
theorem dX11_hearNow_25 : decode cX11_hearNow 25 = .ok (.iconst 1, 1) := by decide +kernel
theorem dX11_hearNow_26 : decode cX11_hearNow 26 = .ok (.goto 4, 3) := by decide +kernel
theorem dX11_hearNow_29 : decode cX11_hearNow 29 = .ok (.iconst 0, 1) := by decide +kernel
theorem dX11_hearNow_30 : decode cX11_hearNow 30 = .ok (.iadd, 1) := by decide +kernel
theorem dX11_hearNow_31 : decode cX11_hearNow 31 = .ok (.istore_n 1, 1) := by decide +kernel
theorem dX11_hearNow_32 : decode cX11_hearNow 32 = .ok (.iinc 2 1, 3) := by decide +kernel
theorem dX11_hearNow_35 : decode cX11_hearNow 35 = .ok (.goto (-27), 3) := by decide +kernel
theorem dX11_hearNow_38 : decode cX11_hearNow 38 = .ok (.iload_n 1, 1) := by decide +kernel
theorem dX11_hearNow_39 : decode cX11_hearNow 39 = .ok (.ireturn, 1) := by decide +kernel
set_option maxRecDepth 20000 in
theorem ggX11_wrongNow_X11_sourNow : GoodIn wsX11_wrongNow wsX11_sourNow := goodIn_r _ [5, 6, 7, 8, 9, 4, 10, 11, 12, 13, 14, 15, 16, 17, 18, 19, 20, 21, 22, 23, 24, 25, 26, 27, 28, 29, 30, 31, 51, 52, 53, 54, 55, 56, 57, 58, 59, 60, 61, 62, 63, 64, 65, 66, 67, 68, 69, 70, 71, 72, 73, 74, 75, 76, 77, 78, 79, 80, 81, 82, 83, 84, 85, 86] (by decide +kernel) (by decide +kernel)
set_option maxRecDepth 20000 in
theorem gX11_wrongNow_X11_sourNow : GoodIn wsX11_wrongNow (wsV RX11 132 RX11 yX11_sourNow wsX11_sourNow) := goodIn_app (goodIn_of _ (by decide +kernel)) ggX11_wrongNow_X11_sourNow
set_option maxRecDepth 20000 in
theorem ggX11_wrongNow_X11_hearNow : GoodIn wsX11_wrongNow wsX11_hearNow := goodIn_r _ [35, 6, 7, 8, 9, 4, 10, 11, 12, 13, 14, 15, 16, 17, 18, 19, 20, 21, 22, 23, 24, 25, 26, 36, 37, 38, 39, 40, 41, 42, 43, 44, 45, 46, 47, 48, 49, 50, 51, 52, 53, 54, 55, 56, 57, 58, 59, 60, 61, 62, 63, 64, 65, 66, 67, 68, 69, 70, 71, 72, 73, 74, 75, 76, 77, 78, 79, 80, 81, 82, 83, 84, 85, 86] (by decide +kernel) (by decide +kernel)
set_option maxRecDepth 20000 in
theorem gX11_wrongNow_X11_hearNow : GoodIn wsX11_wrongNow (wsV RX11 135 RX11 yX11_hearNow wsX11_hearNow) := goodIn_app (goodIn_of _ (by decide +kernel)) ggX11_wrongNow_X11_hearNow
theorem dX11_wrongNow_0 : decode cX11_wrongNow 0 = .ok (.aload_n 0, 1) := by decide +kernel
theorem dX11_wrongNow_1 : decode cX11_wrongNow 1 = .ok (.invokevirtual 132, 3) := by decide +kernel
theorem dX11_wrongNow_4 : decode cX11_wrongNow 4 = .ok (.aload_n 0, 1) := by decide +kernel
theorem dX11_wrongNow_5 : decode cX11_wrongNow 5 = .ok (.invokevirtual 135, 3) := by decide +kernel
theorem dX11_wrongNow_8 : decode cX11_wrongNow 8 = .ok (.iadd, 1) := by decide +kernel
theorem dX11_wrongNow_9 : decode cX11_wrongNow 9 = .ok (.ireturn, 1) := by decide +kernel
theorem dX11_placeOf_0 : decode cX11_placeOf 0 = .ok (.iconst (-1), 1) := by decide +kernel
theorem dX11_placeOf_1 : decode cX11_placeOf 1 = .ok (.istore_n 2, 1) := by decide +kernel
theorem dX11_placeOf_2 : decode cX11_placeOf 2 = .ok (.iconst 0, 1) := by decide +kernel
theorem dX11_placeOf_3 : decode cX11_placeOf 3 = .ok (.istore_n 3, 1) := by decide +kernel
theorem dX11_placeOf_4 : decode cX11_placeOf 4 = .ok (.iload_n 3, 1) := by decide +kernel
theorem dX11_placeOf_5 : decode cX11_placeOf 5 = .ok (.aload_n 0, 1) := by decide +kernel
theorem dX11_placeOf_6 : decode cX11_placeOf 6 = .ok (.getfield 82, 3) := by decide +kernel
theorem dX11_placeOf_9 : decode cX11_placeOf 9 = .ok (.if_icmp .ge 25, 3) := by decide +kernel
theorem dX11_placeOf_12 : decode cX11_placeOf 12 = .ok (.aload_n 0, 1) := by decide +kernel
theorem dX11_placeOf_13 : decode cX11_placeOf 13 = .ok (.getfield 16, 3) := by decide +kernel
theorem dX11_placeOf_16 : decode cX11_placeOf 16 = .ok (.iload_n 3, 1) := by decide +kernel
theorem dX11_placeOf_17 : decode cX11_placeOf 17 = .ok (.iaload, 1) := by decide +kernel
theorem dX11_placeOf_18 : decode cX11_placeOf 18 = .ok (.iload_n 1, 1) := by decide +kernel
theorem dX11_placeOf_19 : decode cX11_placeOf 19 = .ok (.if_icmp .ne 7, 3) := by decide +kernel
theorem dX11_placeOf_22 : decode cX11_placeOf 22 = .ok (.iload_n 3, 1) := by decide +kernel
theorem dX11_placeOf_23 : decode cX11_placeOf 23 = .ok (.goto 4, 3) := by decide +kernel
theorem dX11_placeOf_26 : decode cX11_placeOf 26 = .ok (.iload_n 2, 1) := by decide +kernel
theorem dX11_placeOf_27 : decode cX11_placeOf 27 = .ok (.istore_n 2, 1) := by decide +kernel
theorem dX11_placeOf_28 : decode cX11_placeOf 28 = .ok (.iinc 3 1, 3) := by decide +kernel
theorem dX11_placeOf_31 : decode cX11_placeOf 31 = .ok (.goto (-27), 3) := by decide +kernel
theorem dX11_placeOf_34 : decode cX11_placeOf 34 = .ok (.iload_n 2, 1) := by decide +kernel
theorem dX11_placeOf_35 : decode cX11_placeOf 35 = .ok (.ireturn, 1) := by decide +kernel
set_option maxRecDepth 20000 in
theorem ggX11_mostOf_X11_wrongNow : GoodIn wsX11_mostOf wsX11_wrongNow := goodIn_r _ [6, 7, 8, 9, 5, 10, 11, 12, 13, 14, 15, 16, 17, 18, 19, 20, 21, 22, 23, 24, 25, 26, 27, 28, 29, 1, 30, 31, 32, 33, 34, 35, 36, 37, 38, 39, 40, 41, 42, 43, 44, 45, 46, 47, 48, 49, 50, 51, 52, 53, 54, 55, 56, 57, 58, 59, 60, 61, 62, 63, 64, 65, 66, 67, 68, 69, 70, 71, 72, 73, 74, 75, 76, 77, 78, 79, 80, 81, 82, 83, 84, 85, 86, 87, 88, 89, 90] (by decide +kernel) (by decide +kernel)
set_option maxRecDepth 20000 in
theorem gX11_mostOf_X11_wrongNow : GoodIn wsX11_mostOf (wsV RX11 138 RX11 yX11_wrongNow wsX11_wrongNow) := goodIn_app (goodIn_of _ (by decide +kernel)) ggX11_mostOf_X11_wrongNow
theorem dX11_mostOf_0 : decode cX11_mostOf 0 = .ok (.aload_n 0, 1) := by decide +kernel
theorem dX11_mostOf_1 : decode cX11_mostOf 1 = .ok (.getfield 13, 3) := by decide +kernel
theorem dX11_mostOf_4 : decode cX11_mostOf 4 = .ok (.iload_n 1, 1) := by decide +kernel
theorem dX11_mostOf_5 : decode cX11_mostOf 5 = .ok (.iaload, 1) := by decide +kernel
theorem dX11_mostOf_6 : decode cX11_mostOf 6 = .ok (.istore_n 2, 1) := by decide +kernel
theorem dX11_mostOf_7 : decode cX11_mostOf 7 = .ok (.aload_n 0, 1) := by decide +kernel
theorem dX11_mostOf_8 : decode cX11_mostOf 8 = .ok (.getfield 13, 3) := by decide +kernel
theorem dX11_mostOf_11 : decode cX11_mostOf 11 = .ok (.iload_n 1, 1) := by decide +kernel
theorem dX11_mostOf_12 : decode cX11_mostOf 12 = .ok (.iconst 0, 1) := by decide +kernel
theorem dX11_mostOf_13 : decode cX11_mostOf 13 = .ok (.iastore, 1) := by decide +kernel
theorem dX11_mostOf_14 : decode cX11_mostOf 14 = .ok (.aload_n 0, 1) := by decide +kernel
theorem dX11_mostOf_15 : decode cX11_mostOf 15 = .ok (.invokevirtual 138, 3) := by decide +kernel
theorem dX11_mostOf_18 : decode cX11_mostOf 18 = .ok (.istore_n 3, 1) := by decide +kernel
theorem dX11_mostOf_19 : decode cX11_mostOf 19 = .ok (.iconst 0, 1) := by decide +kernel
theorem dX11_mostOf_20 : decode cX11_mostOf 20 = .ok (.istore 4, 2) := by decide +kernel
theorem dX11_mostOf_22 : decode cX11_mostOf 22 = .ok (.iconst 1, 1) := by decide +kernel
theorem dX11_mostOf_23 : decode cX11_mostOf 23 = .ok (.istore 5, 2) := by decide +kernel
theorem dX11_mostOf_25 : decode cX11_mostOf 25 = .ok (.iload 5, 2) := by decide +kernel
theorem dX11_mostOf_27 : decode cX11_mostOf 27 = .ok (.bipush 9, 2) := by decide +kernel
theorem dX11_mostOf_29 : decode cX11_mostOf 29 = .ok (.if_icmp .gt 34, 3) := by decide +kernel
theorem dX11_mostOf_32 : decode cX11_mostOf 32 = .ok (.aload_n 0, 1) := by decide +kernel
theorem dX11_mostOf_33 : decode cX11_mostOf 33 = .ok (.getfield 13, 3) := by decide +kernel
theorem dX11_mostOf_36 : decode cX11_mostOf 36 = .ok (.iload_n 1, 1) := by decide +kernel
theorem dX11_mostOf_37 : decode cX11_mostOf 37 = .ok (.iload 5, 2) := by decide +kernel
theorem dX11_mostOf_39 : decode cX11_mostOf 39 = .ok (.iastore, 1) := by decide +kernel
theorem dX11_mostOf_40 : decode cX11_mostOf 40 = .ok (.aload_n 0, 1) := by decide +kernel
theorem dX11_mostOf_41 : decode cX11_mostOf 41 = .ok (.invokevirtual 138, 3) := by decide +kernel
theorem dX11_mostOf_44 : decode cX11_mostOf 44 = .ok (.iload_n 3, 1) := by decide +kernel
theorem dX11_mostOf_45 : decode cX11_mostOf 45 = .ok (.if_icmp .gt 8, 3) := by decide +kernel
theorem dX11_mostOf_48 : decode cX11_mostOf 48 = .ok (.iload 5, 2) := by decide +kernel
theorem dX11_mostOf_50 : decode cX11_mostOf 50 = .ok (.goto 5, 3) := by decide +kernel
theorem dX11_mostOf_53 : decode cX11_mostOf 53 = .ok (.iload 4, 2) := by decide +kernel
theorem dX11_mostOf_55 : decode cX11_mostOf 55 = .ok (.istore 4, 2) := by decide +kernel
theorem dX11_mostOf_57 : decode cX11_mostOf 57 = .ok (.iinc 5 1, 3) := by decide +kernel
theorem dX11_mostOf_60 : decode cX11_mostOf 60 = .ok (.goto (-35), 3) := by decide +kernel
theorem dX11_mostOf_63 : decode cX11_mostOf 63 = .ok (.aload_n 0, 1) := by decide +kernel
theorem dX11_mostOf_64 : decode cX11_mostOf 64 = .ok (.getfield 13, 3) := by decide +kernel
theorem dX11_mostOf_67 : decode cX11_mostOf 67 = .ok (.iload_n 1, 1) := by decide +kernel
theorem dX11_mostOf_68 : decode cX11_mostOf 68 = .ok (.iload_n 2, 1) := by decide +kernel
theorem dX11_mostOf_69 : decode cX11_mostOf 69 = .ok (.iastore, 1) := by decide +kernel
theorem dX11_mostOf_70 : decode cX11_mostOf 70 = .ok (.iload 4, 2) := by decide +kernel
theorem dX11_mostOf_72 : decode cX11_mostOf 72 = .ok (.ireturn, 1) := by decide +kernel
set_option maxRecDepth 20000 in
theorem ggX11_houseNow_X11_go : GoodIn wsX11_houseNow wsX11_go := goodIn_r _ [9, 10, 11, 4, 12, 13, 14, 8, 15, 3, 16, 17, 18, 19, 20, 21, 22, 2, 1, 63, 64, 65, 66, 67, 68, 69, 70, 71, 72, 73, 74, 75, 76, 77, 78, 79, 80, 81, 82, 83, 84, 85, 86, 87, 88, 89, 90, 91, 92, 93, 94, 95, 96, 97, 98] (by decide +kernel) (by decide +kernel)
set_option maxRecDepth 20000 in
theorem gX11_houseNow_X11_go : GoodIn wsX11_houseNow (wsV RX11 123 RX11 yX11_go wsX11_go) := goodIn_app (goodIn_of _ (by decide +kernel)) ggX11_houseNow_X11_go
set_option maxRecDepth 20000 in
theorem ggX11_houseNow_X11_reads : GoodIn wsX11_houseNow wsX11_reads := goodIn_r _ [15, 3, 16, 17, 8, 18, 19, 20, 21, 22, 2, 1, 63, 64, 65, 66, 67, 68, 69, 70, 71, 72, 73, 74, 75, 76, 77, 78, 79, 80, 81, 82, 83, 84, 85, 86, 87, 88, 89, 90, 91, 92, 93, 94, 95, 96, 97, 98] (by decide +kernel) (by decide +kernel)
set_option maxRecDepth 20000 in
theorem gX11_houseNow_X11_reads : GoodIn wsX11_houseNow (wsV RX11 113 RX11 yX11_reads wsX11_reads) := goodIn_app (goodIn_of _ (by decide +kernel)) ggX11_houseNow_X11_reads
set_option maxRecDepth 20000 in
theorem ggX11_houseNow_X11_placeOf : GoodIn wsX11_houseNow wsX11_placeOf := goodIn_r _ [26, 10, 11, 63, 64, 65, 66, 67, 68, 69, 70, 71, 72, 73, 74, 75, 76, 77, 78, 79, 80, 81, 82, 83, 84, 85, 86, 87, 88, 89, 90, 91, 92, 93, 94, 95, 96, 97, 98] (by decide +kernel) (by decide +kernel)
set_option maxRecDepth 20000 in
theorem gX11_houseNow_X11_placeOf : GoodIn wsX11_houseNow (wsV RX11 141 RX11 yX11_placeOf wsX11_placeOf) := goodIn_app (goodIn_of _ (by decide +kernel)) ggX11_houseNow_X11_placeOf
set_option maxRecDepth 20000 in
theorem ggX11_houseNow_X11_isSour : GoodIn wsX11_houseNow wsX11_isSour := goodIn_r _ [30, 4, 1, 31, 63, 64, 65, 66, 67, 68, 69, 70, 71, 72, 73, 74, 75, 76, 77, 78, 79, 80, 81, 82, 83, 84, 85, 86, 87, 88, 89, 90, 91, 92, 93, 94, 95, 96, 97, 98] (by decide +kernel) (by decide +kernel)
set_option maxRecDepth 20000 in
theorem gX11_houseNow_X11_isSour : GoodIn wsX11_houseNow (wsV RX11 126 RX11 yX11_isSour wsX11_isSour) := goodIn_app (goodIn_of _ (by decide +kernel)) ggX11_houseNow_X11_isSour
set_option maxRecDepth 20000 in
theorem ggX11_houseNow_X11_hears : GoodIn wsX11_houseNow wsX11_hears := goodIn_r _ [35, 1, 36, 37, 38, 8, 39, 4, 40, 41, 42, 43, 10, 44, 45, 46, 63, 64, 65, 66, 67, 68, 69, 70, 71, 72, 73, 74, 75, 76, 77, 78, 79, 80, 81, 82, 83, 84, 85, 86, 87, 88, 89, 90, 91, 92, 93, 94, 95, 96, 97, 98] (by decide +kernel) (by decide +kernel)
set_option maxRecDepth 20000 in
theorem gX11_houseNow_X11_hears : GoodIn wsX11_houseNow (wsV RX11 129 RX11 yX11_hears wsX11_hears) := goodIn_app (goodIn_of _ (by decide +kernel)) ggX11_houseNow_X11_hears
set_option maxRecDepth 20000 in
theorem ggX11_houseNow_X11_mostOf : GoodIn wsX11_houseNow wsX11_mostOf := goodIn_r _ [50, 2, 51, 52, 53, 8, 54, 55, 56, 57, 58, 10, 5, 6, 7, 9, 11, 4, 12, 13, 14, 15, 3, 16, 17, 18, 19, 20, 21, 22, 1, 27, 28, 29, 30, 31, 59, 60, 61, 62, 32, 33, 34, 35, 36, 37, 38, 39, 40, 41, 42, 43, 44, 45, 46, 63, 64, 65, 66, 67, 68, 69, 70, 71, 72, 73, 74, 75, 76, 77, 78, 79, 80, 81, 82, 83, 84, 85, 86, 87, 88, 89, 90, 91, 92, 93, 94, 95, 96, 97, 98] (by decide +kernel) (by decide +kernel)
set_option maxRecDepth 20000 in
theorem gX11_houseNow_X11_mostOf : GoodIn wsX11_houseNow (wsV RX11 144 RX11 yX11_mostOf wsX11_mostOf) := goodIn_app (goodIn_of _ (by decide +kernel)) ggX11_houseNow_X11_mostOf
theorem dX11_houseNow_0 : decode cX11_houseNow 0 = .ok (.aload_n 0, 1) := by decide +kernel
theorem dX11_houseNow_1 : decode cX11_houseNow 1 = .ok (.invokevirtual 123, 3) := by decide +kernel
theorem dX11_houseNow_4 : decode cX11_houseNow 4 = .ok (.iload_n 2, 1) := by decide +kernel
theorem dX11_houseNow_5 : decode cX11_houseNow 5 = .ok (.tableswitch 117 0 7 #[47, 54, 61, 70, 76, 82, 89, 103], 47) := by decide +kernel
theorem dX11_houseNow_52 : decode cX11_houseNow 52 = .ok (.aload_n 0, 1) := by decide +kernel
theorem dX11_houseNow_53 : decode cX11_houseNow 53 = .ok (.getfield 7, 3) := by decide +kernel
theorem dX11_houseNow_56 : decode cX11_houseNow 56 = .ok (.iload_n 1, 1) := by decide +kernel
theorem dX11_houseNow_57 : decode cX11_houseNow 57 = .ok (.iaload, 1) := by decide +kernel
theorem dX11_houseNow_58 : decode cX11_houseNow 58 = .ok (.ireturn, 1) := by decide +kernel
theorem dX11_houseNow_59 : decode cX11_houseNow 59 = .ok (.aload_n 0, 1) := by decide +kernel
theorem dX11_houseNow_60 : decode cX11_houseNow 60 = .ok (.getfield 13, 3) := by decide +kernel
theorem dX11_houseNow_63 : decode cX11_houseNow 63 = .ok (.iload_n 1, 1) := by decide +kernel
theorem dX11_houseNow_64 : decode cX11_houseNow 64 = .ok (.iaload, 1) := by decide +kernel
theorem dX11_houseNow_65 : decode cX11_houseNow 65 = .ok (.ireturn, 1) := by decide +kernel
theorem dX11_houseNow_66 : decode cX11_houseNow 66 = .ok (.aload_n 0, 1) := by decide +kernel
theorem dX11_houseNow_67 : decode cX11_houseNow 67 = .ok (.getfield 91, 3) := by decide +kernel
theorem dX11_houseNow_70 : decode cX11_houseNow 70 = .ok (.iload_n 1, 1) := by decide +kernel
theorem dX11_houseNow_71 : decode cX11_houseNow 71 = .ok (.ishr, 1) := by decide +kernel
theorem dX11_houseNow_72 : decode cX11_houseNow 72 = .ok (.iconst 1, 1) := by decide +kernel
theorem dX11_houseNow_73 : decode cX11_houseNow 73 = .ok (.iand, 1) := by decide +kernel
theorem dX11_houseNow_74 : decode cX11_houseNow 74 = .ok (.ireturn, 1) := by decide +kernel
theorem dX11_houseNow_75 : decode cX11_houseNow 75 = .ok (.aload_n 0, 1) := by decide +kernel
theorem dX11_houseNow_76 : decode cX11_houseNow 76 = .ok (.iload_n 1, 1) := by decide +kernel
theorem dX11_houseNow_77 : decode cX11_houseNow 77 = .ok (.invokevirtual 113, 3) := by decide +kernel
theorem dX11_houseNow_80 : decode cX11_houseNow 80 = .ok (.ireturn, 1) := by decide +kernel
theorem dX11_houseNow_81 : decode cX11_houseNow 81 = .ok (.aload_n 0, 1) := by decide +kernel
theorem dX11_houseNow_82 : decode cX11_houseNow 82 = .ok (.iload_n 1, 1) := by decide +kernel
theorem dX11_houseNow_83 : decode cX11_houseNow 83 = .ok (.invokevirtual 141, 3) := by decide +kernel
theorem dX11_houseNow_86 : decode cX11_houseNow 86 = .ok (.ireturn, 1) := by decide +kernel
theorem dX11_houseNow_87 : decode cX11_houseNow 87 = .ok (.aload_n 0, 1) := by decide +kernel
theorem dX11_houseNow_88 : decode cX11_houseNow 88 = .ok (.getfield 29, 3) := by decide +kernel
theorem dX11_houseNow_91 : decode cX11_houseNow 91 = .ok (.iload_n 1, 1) := by decide +kernel
theorem dX11_houseNow_92 : decode cX11_houseNow 92 = .ok (.iaload, 1) := by decide +kernel
theorem dX11_houseNow_93 : decode cX11_houseNow 93 = .ok (.ireturn, 1) := by decide +kernel
theorem dX11_houseNow_94 : decode cX11_houseNow 94 = .ok (.aload_n 0, 1) := by decide +kernel
theorem dX11_houseNow_95 : decode cX11_houseNow 95 = .ok (.iload_n 1, 1) := by decide +kernel
theorem dX11_houseNow_96 : decode cX11_houseNow 96 = .ok (.invokevirtual 126, 3) := by decide +kernel
theorem dX11_houseNow_99 : decode cX11_houseNow 99 = .ok (.ifCond .eq 7, 3) := by decide +kernel
theorem dX11_houseNow_102 : decode cX11_houseNow 102 = .ok (.iconst 1, 1) := by decide +kernel
theorem dX11_houseNow_103 : decode cX11_houseNow 103 = .ok (.goto 4, 3) := by decide +kernel
theorem dX11_houseNow_106 : decode cX11_houseNow 106 = .ok (.iconst 0, 1) := by decide +kernel
theorem dX11_houseNow_107 : decode cX11_houseNow 107 = .ok (.ireturn, 1) := by decide +kernel
theorem dX11_houseNow_108 : decode cX11_houseNow 108 = .ok (.aload_n 0, 1) := by decide +kernel
theorem dX11_houseNow_109 : decode cX11_houseNow 109 = .ok (.iload_n 1, 1) := by decide +kernel
theorem dX11_houseNow_110 : decode cX11_houseNow 110 = .ok (.invokevirtual 129, 3) := by decide +kernel
theorem dX11_houseNow_113 : decode cX11_houseNow 113 = .ok (.ifCond .eq 7, 3) := by decide +kernel
theorem dX11_houseNow_116 : decode cX11_houseNow 116 = .ok (.iconst 1, 1) := by decide +kernel
theorem dX11_houseNow_117 : decode cX11_houseNow 117 = .ok (.goto 4, 3) := by decide +kernel
theorem dX11_houseNow_120 : decode cX11_houseNow 120 = .ok (.iconst 0, 1) := by decide +kernel
theorem dX11_houseNow_121 : decode cX11_houseNow 121 = .ok (.ireturn, 1) := by decide +kernel
theorem dX11_houseNow_122 : decode cX11_houseNow 122 = .ok (.aload_n 0, 1) := by decide +kernel
theorem dX11_houseNow_123 : decode cX11_houseNow 123 = .ok (.iload_n 1, 1) := by decide +kernel
theorem dX11_houseNow_124 : decode cX11_houseNow 124 = .ok (.invokevirtual 144, 3) := by decide +kernel
theorem dX11_houseNow_127 : decode cX11_houseNow 127 = .ok (.ireturn, 1) := by decide +kernel
set_option maxRecDepth 20000 in
theorem ggX11_about_X11_isHouse : GoodIn wsX11_about wsX11_isHouse := goodIn_r _ [5, 6, 7, 8, 4, 9, 67, 68, 69, 70, 71, 72, 73, 74, 75, 76, 77, 78, 79, 80, 81, 82, 83, 84, 85, 86, 87, 88, 89, 90, 91, 92, 93, 94, 95, 96, 97, 98, 99, 100, 101, 102] (by decide +kernel) (by decide +kernel)
set_option maxRecDepth 20000 in
theorem gX11_about_X11_isHouse : GoodIn wsX11_about (wsV RX11 116 RX11 yX11_isHouse wsX11_isHouse) := goodIn_app (goodIn_of _ (by decide +kernel)) ggX11_about_X11_isHouse
set_option maxRecDepth 20000 in
theorem ggX11_about_X11_within : GoodIn wsX11_about wsX11_within := goodIn_r _ [9] (by decide +kernel) (by decide +kernel)
set_option maxRecDepth 20000 in
theorem gX11_about_X11_within : GoodIn wsX11_about (va_wsS RX11 56 yX11_within wsX11_within) := goodIn_app (goodIn_of _ (by decide +kernel)) ggX11_about_X11_within
set_option maxRecDepth 20000 in
theorem ggX11_about_X11_houseNow : GoodIn wsX11_about wsX11_houseNow := goodIn_r _ [13, 14, 15, 16, 17, 18, 19, 20, 4, 21, 6, 22, 23, 24, 25, 26, 27, 28, 29, 30, 31, 32, 33, 34, 35, 36, 37, 38, 39, 40, 41, 42, 43, 44, 45, 46, 47, 48, 49, 50, 1, 2, 3, 5, 7, 8, 9, 51, 52, 53, 54, 55, 56, 57, 58, 59, 60, 61, 62, 63, 64, 65, 66, 67, 68, 69, 70, 71, 72, 73, 74, 75, 76, 77, 78, 79, 80, 81, 82, 83, 84, 85, 86, 87, 88, 89, 90, 91, 92, 93, 94, 95, 96, 97, 98, 99, 100, 101, 102] (by decide +kernel) (by decide +kernel)
set_option maxRecDepth 20000 in
theorem gX11_about_X11_houseNow : GoodIn wsX11_about (wsV RX11 147 RX11 yX11_houseNow wsX11_houseNow) := goodIn_app (goodIn_of _ (by decide +kernel)) ggX11_about_X11_houseNow
theorem dX11_about_0 : decode cX11_about 0 = .ok (.aload_n 0, 1) := by decide +kernel
theorem dX11_about_1 : decode cX11_about 1 = .ok (.iload_n 1, 1) := by decide +kernel
theorem dX11_about_2 : decode cX11_about 2 = .ok (.invokevirtual 116, 3) := by decide +kernel
theorem dX11_about_5 : decode cX11_about 5 = .ok (.ifCond .ne 8, 3) := by decide +kernel
theorem dX11_about_8 : decode cX11_about 8 = .ok (.bipush (-101), 2) := by decide +kernel
theorem dX11_about_10 : decode cX11_about 10 = .ok (.goto 24, 3) := by decide +kernel
theorem dX11_about_13 : decode cX11_about 13 = .ok (.iload_n 2, 1) := by decide +kernel
theorem dX11_about_14 : decode cX11_about 14 = .ok (.iconst 0, 1) := by decide +kernel
theorem dX11_about_15 : decode cX11_about 15 = .ok (.bipush 8, 2) := by decide +kernel
theorem dX11_about_17 : decode cX11_about 17 = .ok (.invokestatic 56, 3) := by decide +kernel
theorem dX11_about_20 : decode cX11_about 20 = .ok (.ifCond .eq 12, 3) := by decide +kernel
theorem dX11_about_23 : decode cX11_about 23 = .ok (.aload_n 0, 1) := by decide +kernel
theorem dX11_about_24 : decode cX11_about 24 = .ok (.iload_n 1, 1) := by decide +kernel
theorem dX11_about_25 : decode cX11_about 25 = .ok (.iload_n 2, 1) := by decide +kernel
theorem dX11_about_26 : decode cX11_about 26 = .ok (.invokevirtual 147, 3) := by decide +kernel
theorem dX11_about_29 : decode cX11_about 29 = .ok (.goto 5, 3) := by decide +kernel
theorem dX11_about_32 : decode cX11_about 32 = .ok (.bipush (-102), 2) := by decide +kernel
theorem dX11_about_34 : decode cX11_about 34 = .ok (.ireturn, 1) := by decide +kernel
set_option maxRecDepth 20000 in
theorem ggX11_as_X11_isHouse : GoodIn wsX11_as wsX11_isHouse := goodIn_r _ [6, 7, 8, 9, 5, 10, 11, 12, 13, 14, 15, 16, 17, 18, 19, 20, 21, 22, 23, 24, 25, 26, 27, 28, 29, 30, 31, 32, 33, 34, 35, 36, 37, 38, 39, 40, 41, 42, 43, 44, 45, 46] (by decide +kernel) (by decide +kernel)
set_option maxRecDepth 20000 in
theorem gX11_as_X11_isHouse : GoodIn wsX11_as (wsV RX11 116 RX11 yX11_isHouse wsX11_isHouse) := goodIn_app (goodIn_of _ (by decide +kernel)) ggX11_as_X11_isHouse
set_option maxRecDepth 20000 in
theorem ggX11_as_X11_within : GoodIn wsX11_as wsX11_within := goodIn_r _ [10] (by decide +kernel) (by decide +kernel)
set_option maxRecDepth 20000 in
theorem gX11_as_X11_within : GoodIn wsX11_as (va_wsS RX11 56 yX11_within wsX11_within) := goodIn_app (goodIn_of _ (by decide +kernel)) ggX11_as_X11_within
theorem dX11_as_0 : decode cX11_as 0 = .ok (.aload_n 0, 1) := by decide +kernel
theorem dX11_as_1 : decode cX11_as 1 = .ok (.iload_n 1, 1) := by decide +kernel
theorem dX11_as_2 : decode cX11_as 2 = .ok (.invokevirtual 116, 3) := by decide +kernel
theorem dX11_as_5 : decode cX11_as 5 = .ok (.ifCond .ne 6, 3) := by decide +kernel
theorem dX11_as_8 : decode cX11_as 8 = .ok (.bipush (-101), 2) := by decide +kernel
theorem dX11_as_10 : decode cX11_as 10 = .ok (.ireturn, 1) := by decide +kernel
theorem dX11_as_11 : decode cX11_as 11 = .ok (.iload_n 2, 1) := by decide +kernel
theorem dX11_as_12 : decode cX11_as 12 = .ok (.iconst 0, 1) := by decide +kernel
theorem dX11_as_13 : decode cX11_as 13 = .ok (.iconst 4, 1) := by decide +kernel
theorem dX11_as_14 : decode cX11_as 14 = .ok (.invokestatic 56, 3) := by decide +kernel
theorem dX11_as_17 : decode cX11_as 17 = .ok (.ifCond .ne 6, 3) := by decide +kernel
theorem dX11_as_20 : decode cX11_as 20 = .ok (.bipush (-102), 2) := by decide +kernel
theorem dX11_as_22 : decode cX11_as 22 = .ok (.ireturn, 1) := by decide +kernel
theorem dX11_as_23 : decode cX11_as 23 = .ok (.aload_n 0, 1) := by decide +kernel
theorem dX11_as_24 : decode cX11_as 24 = .ok (.getfield 7, 3) := by decide +kernel
theorem dX11_as_27 : decode cX11_as 27 = .ok (.iload_n 1, 1) := by decide +kernel
theorem dX11_as_28 : decode cX11_as 28 = .ok (.iaload, 1) := by decide +kernel
theorem dX11_as_29 : decode cX11_as 29 = .ok (.istore_n 3, 1) := by decide +kernel
theorem dX11_as_30 : decode cX11_as 30 = .ok (.iload_n 2, 1) := by decide +kernel
theorem dX11_as_31 : decode cX11_as 31 = .ok (.ifCond .eq 18, 3) := by decide +kernel
theorem dX11_as_34 : decode cX11_as 34 = .ok (.iload_n 3, 1) := by decide +kernel
theorem dX11_as_35 : decode cX11_as 35 = .ok (.iload_n 2, 1) := by decide +kernel
theorem dX11_as_36 : decode cX11_as 36 = .ok (.if_icmp .eq 13, 3) := by decide +kernel
theorem dX11_as_39 : decode cX11_as 39 = .ok (.iload_n 2, 1) := by decide +kernel
theorem dX11_as_40 : decode cX11_as 40 = .ok (.iconst 1, 1) := by decide +kernel
theorem dX11_as_41 : decode cX11_as 41 = .ok (.if_icmp .ne 12, 3) := by decide +kernel
theorem dX11_as_44 : decode cX11_as 44 = .ok (.iload_n 3, 1) := by decide +kernel
theorem dX11_as_45 : decode cX11_as 45 = .ok (.iconst 4, 1) := by decide +kernel
theorem dX11_as_46 : decode cX11_as 46 = .ok (.if_icmp .ne 7, 3) := by decide +kernel
theorem dX11_as_49 : decode cX11_as 49 = .ok (.iload_n 1, 1) := by decide +kernel
theorem dX11_as_50 : decode cX11_as 50 = .ok (.goto 4, 3) := by decide +kernel
theorem dX11_as_53 : decode cX11_as 53 = .ok (.iconst (-1), 1) := by decide +kernel
theorem dX11_as_54 : decode cX11_as 54 = .ok (.ireturn, 1) := by decide +kernel
set_option maxRecDepth 20000 in
theorem ggX11_letters_X11_isHouse : GoodIn wsX11_letters wsX11_isHouse := goodIn_r _ [6, 7, 8, 9, 5, 10, 11, 12, 13, 14, 15, 16, 17, 18, 19, 20, 21, 22, 23, 24, 25, 26, 27, 28, 29, 30, 31, 32, 33, 34, 35, 36, 37, 38, 39, 40, 41, 42, 43, 44, 45, 46] (by decide +kernel) (by decide +kernel)
set_option maxRecDepth 20000 in
theorem gX11_letters_X11_isHouse : GoodIn wsX11_letters (wsV RX11 116 RX11 yX11_isHouse wsX11_isHouse) := goodIn_app (goodIn_of _ (by decide +kernel)) ggX11_letters_X11_isHouse
set_option maxRecDepth 20000 in
theorem ggX11_letters_X11_within : GoodIn wsX11_letters wsX11_within := goodIn_r _ [10] (by decide +kernel) (by decide +kernel)
set_option maxRecDepth 20000 in
theorem gX11_letters_X11_within : GoodIn wsX11_letters (va_wsS RX11 56 yX11_within wsX11_within) := goodIn_app (goodIn_of _ (by decide +kernel)) ggX11_letters_X11_within
theorem dX11_letters_0 : decode cX11_letters 0 = .ok (.aload_n 0, 1) := by decide +kernel
theorem dX11_letters_1 : decode cX11_letters 1 = .ok (.iload_n 1, 1) := by decide +kernel
theorem dX11_letters_2 : decode cX11_letters 2 = .ok (.invokevirtual 116, 3) := by decide +kernel
theorem dX11_letters_5 : decode cX11_letters 5 = .ok (.ifCond .ne 6, 3) := by decide +kernel
theorem dX11_letters_8 : decode cX11_letters 8 = .ok (.bipush (-101), 2) := by decide +kernel
theorem dX11_letters_10 : decode cX11_letters 10 = .ok (.ireturn, 1) := by decide +kernel
theorem dX11_letters_11 : decode cX11_letters 11 = .ok (.iload_n 2, 1) := by decide +kernel
theorem dX11_letters_12 : decode cX11_letters 12 = .ok (.iconst 0, 1) := by decide +kernel
theorem dX11_letters_13 : decode cX11_letters 13 = .ok (.bipush 9, 2) := by decide +kernel
theorem dX11_letters_15 : decode cX11_letters 15 = .ok (.invokestatic 56, 3) := by decide +kernel
theorem dX11_letters_18 : decode cX11_letters 18 = .ok (.ifCond .ne 6, 3) := by decide +kernel
theorem dX11_letters_21 : decode cX11_letters 21 = .ok (.bipush (-102), 2) := by decide +kernel
theorem dX11_letters_23 : decode cX11_letters 23 = .ok (.ireturn, 1) := by decide +kernel
theorem dX11_letters_24 : decode cX11_letters 24 = .ok (.aload_n 0, 1) := by decide +kernel
theorem dX11_letters_25 : decode cX11_letters 25 = .ok (.getfield 13, 3) := by decide +kernel
theorem dX11_letters_28 : decode cX11_letters 28 = .ok (.iload_n 1, 1) := by decide +kernel
theorem dX11_letters_29 : decode cX11_letters 29 = .ok (.iaload, 1) := by decide +kernel
theorem dX11_letters_30 : decode cX11_letters 30 = .ok (.istore_n 3, 1) := by decide +kernel
theorem dX11_letters_31 : decode cX11_letters 31 = .ok (.aload_n 0, 1) := by decide +kernel
theorem dX11_letters_32 : decode cX11_letters 32 = .ok (.getfield 13, 3) := by decide +kernel
theorem dX11_letters_35 : decode cX11_letters 35 = .ok (.iload_n 1, 1) := by decide +kernel
theorem dX11_letters_36 : decode cX11_letters 36 = .ok (.iload_n 2, 1) := by decide +kernel
theorem dX11_letters_37 : decode cX11_letters 37 = .ok (.iastore, 1) := by decide +kernel
theorem dX11_letters_38 : decode cX11_letters 38 = .ok (.iload_n 3, 1) := by decide +kernel
theorem dX11_letters_39 : decode cX11_letters 39 = .ok (.ireturn, 1) := by decide +kernel
set_option maxRecDepth 20000 in
theorem ggX11_leave_X11_isHouse : GoodIn wsX11_leave wsX11_isHouse := goodIn_r _ [6, 7, 8, 9, 5, 10, 11, 12, 13, 14, 15, 16, 17, 18, 19, 20, 21, 22, 23, 24, 25, 26, 27, 28, 29, 30, 31, 32, 33, 34, 35, 36, 37, 38, 39, 40, 41, 42, 43, 44, 45, 46] (by decide +kernel) (by decide +kernel)
set_option maxRecDepth 20000 in
theorem gX11_leave_X11_isHouse : GoodIn wsX11_leave (wsV RX11 116 RX11 yX11_isHouse wsX11_isHouse) := goodIn_app (goodIn_of _ (by decide +kernel)) ggX11_leave_X11_isHouse
theorem dX11_leave_0 : decode cX11_leave 0 = .ok (.aload_n 0, 1) := by decide +kernel
theorem dX11_leave_1 : decode cX11_leave 1 = .ok (.iload_n 1, 1) := by decide +kernel
theorem dX11_leave_2 : decode cX11_leave 2 = .ok (.invokevirtual 116, 3) := by decide +kernel
theorem dX11_leave_5 : decode cX11_leave 5 = .ok (.ifCond .ne 6, 3) := by decide +kernel
theorem dX11_leave_8 : decode cX11_leave 8 = .ok (.bipush (-101), 2) := by decide +kernel
theorem dX11_leave_10 : decode cX11_leave 10 = .ok (.ireturn, 1) := by decide +kernel
theorem dX11_leave_11 : decode cX11_leave 11 = .ok (.aload_n 0, 1) := by decide +kernel
theorem dX11_leave_12 : decode cX11_leave 12 = .ok (.getfield 91, 3) := by decide +kernel
theorem dX11_leave_15 : decode cX11_leave 15 = .ok (.iload_n 1, 1) := by decide +kernel
theorem dX11_leave_16 : decode cX11_leave 16 = .ok (.ishr, 1) := by decide +kernel
theorem dX11_leave_17 : decode cX11_leave 17 = .ok (.iconst 1, 1) := by decide +kernel
theorem dX11_leave_18 : decode cX11_leave 18 = .ok (.iand, 1) := by decide +kernel
theorem dX11_leave_19 : decode cX11_leave 19 = .ok (.istore_n 3, 1) := by decide +kernel
theorem dX11_leave_20 : decode cX11_leave 20 = .ok (.aload_n 0, 1) := by decide +kernel
theorem dX11_leave_21 : decode cX11_leave 21 = .ok (.iload_n 2, 1) := by decide +kernel
theorem dX11_leave_22 : decode cX11_leave 22 = .ok (.ifCond .eq 14, 3) := by decide +kernel
theorem dX11_leave_25 : decode cX11_leave 25 = .ok (.aload_n 0, 1) := by decide +kernel
theorem dX11_leave_26 : decode cX11_leave 26 = .ok (.getfield 91, 3) := by decide +kernel
theorem dX11_leave_29 : decode cX11_leave 29 = .ok (.iconst 1, 1) := by decide +kernel
theorem dX11_leave_30 : decode cX11_leave 30 = .ok (.iload_n 1, 1) := by decide +kernel
theorem dX11_leave_31 : decode cX11_leave 31 = .ok (.ishl, 1) := by decide +kernel
theorem dX11_leave_32 : decode cX11_leave 32 = .ok (.ior, 1) := by decide +kernel
theorem dX11_leave_33 : decode cX11_leave 33 = .ok (.goto 13, 3) := by decide +kernel
theorem dX11_leave_36 : decode cX11_leave 36 = .ok (.aload_n 0, 1) := by decide +kernel
theorem dX11_leave_37 : decode cX11_leave 37 = .ok (.getfield 91, 3) := by decide +kernel
theorem dX11_leave_40 : decode cX11_leave 40 = .ok (.iconst 1, 1) := by decide +kernel
theorem dX11_leave_41 : decode cX11_leave 41 = .ok (.iload_n 1, 1) := by decide +kernel
theorem dX11_leave_42 : decode cX11_leave 42 = .ok (.ishl, 1) := by decide +kernel
theorem dX11_leave_43 : decode cX11_leave 43 = .ok (.iconst (-1), 1) := by decide +kernel
theorem dX11_leave_44 : decode cX11_leave 44 = .ok (.ixor, 1) := by decide +kernel
theorem dX11_leave_45 : decode cX11_leave 45 = .ok (.iand, 1) := by decide +kernel
theorem dX11_leave_46 : decode cX11_leave 46 = .ok (.putfield 91, 3) := by decide +kernel
theorem dX11_leave_49 : decode cX11_leave 49 = .ok (.iload_n 3, 1) := by decide +kernel
theorem dX11_leave_50 : decode cX11_leave 50 = .ok (.ireturn, 1) := by decide +kernel
set_option maxRecDepth 20000 in
theorem ggX11_swap_X11_isHouse : GoodIn wsX11_swap wsX11_isHouse := goodIn_r _ [6, 7, 8, 9, 5, 10, 15, 16, 17, 18, 19, 20, 21, 22, 23, 24, 25, 26, 27, 28, 29, 30, 31, 32, 33, 34, 35, 36, 37, 38, 39, 40, 41, 42, 43, 44, 45, 46, 47, 48, 49, 50] (by decide +kernel) (by decide +kernel)
set_option maxRecDepth 20000 in
theorem gX11_swap_X11_isHouse : GoodIn wsX11_swap (wsV RX11 116 RX11 yX11_isHouse wsX11_isHouse) := goodIn_app (goodIn_of _ (by decide +kernel)) ggX11_swap_X11_isHouse
set_option maxRecDepth 20000 in
theorem ggX11_swap_X11_placeOf : GoodIn wsX11_swap wsX11_placeOf := goodIn_r _ [14, 7, 1, 15, 16, 17, 18, 19, 20, 21, 22, 23, 24, 25, 26, 27, 28, 29, 30, 31, 32, 33, 34, 35, 36, 37, 38, 39, 40, 41, 42, 43, 44, 45, 46, 47, 48, 49, 50] (by decide +kernel) (by decide +kernel)
set_option maxRecDepth 20000 in
theorem gX11_swap_X11_placeOf : GoodIn wsX11_swap (wsV RX11 141 RX11 yX11_placeOf wsX11_placeOf) := goodIn_app (goodIn_of _ (by decide +kernel)) ggX11_swap_X11_placeOf
theorem dX11_swap_0 : decode cX11_swap 0 = .ok (.aload_n 0, 1) := by decide +kernel
theorem dX11_swap_1 : decode cX11_swap 1 = .ok (.iload_n 1, 1) := by decide +kernel
theorem dX11_swap_2 : decode cX11_swap 2 = .ok (.invokevirtual 116, 3) := by decide +kernel
theorem dX11_swap_5 : decode cX11_swap 5 = .ok (.ifCond .eq 11, 3) := by decide +kernel
theorem dX11_swap_8 : decode cX11_swap 8 = .ok (.aload_n 0, 1) := by decide +kernel
theorem dX11_swap_9 : decode cX11_swap 9 = .ok (.iload_n 2, 1) := by decide +kernel
theorem dX11_swap_10 : decode cX11_swap 10 = .ok (.invokevirtual 116, 3) := by decide +kernel
theorem dX11_swap_13 : decode cX11_swap 13 = .ok (.ifCond .ne 6, 3) := by decide +kernel
theorem dX11_swap_16 : decode cX11_swap 16 = .ok (.bipush (-101), 2) := by decide +kernel
theorem dX11_swap_18 : decode cX11_swap 18 = .ok (.ireturn, 1) := by decide +kernel
theorem dX11_swap_19 : decode cX11_swap 19 = .ok (.aload_n 0, 1) := by decide +kernel
theorem dX11_swap_20 : decode cX11_swap 20 = .ok (.iload_n 1, 1) := by decide +kernel
theorem dX11_swap_21 : decode cX11_swap 21 = .ok (.invokevirtual 141, 3) := by decide +kernel
theorem dX11_swap_24 : decode cX11_swap 24 = .ok (.istore_n 3, 1) := by decide +kernel
theorem dX11_swap_25 : decode cX11_swap 25 = .ok (.aload_n 0, 1) := by decide +kernel
theorem dX11_swap_26 : decode cX11_swap 26 = .ok (.iload_n 2, 1) := by decide +kernel
theorem dX11_swap_27 : decode cX11_swap 27 = .ok (.invokevirtual 141, 3) := by decide +kernel
theorem dX11_swap_30 : decode cX11_swap 30 = .ok (.istore 4, 2) := by decide +kernel
theorem dX11_swap_32 : decode cX11_swap 32 = .ok (.aload_n 0, 1) := by decide +kernel
theorem dX11_swap_33 : decode cX11_swap 33 = .ok (.getfield 16, 3) := by decide +kernel
theorem dX11_swap_36 : decode cX11_swap 36 = .ok (.iload_n 3, 1) := by decide +kernel
theorem dX11_swap_37 : decode cX11_swap 37 = .ok (.iload_n 2, 1) := by decide +kernel
theorem dX11_swap_38 : decode cX11_swap 38 = .ok (.iastore, 1) := by decide +kernel
theorem dX11_swap_39 : decode cX11_swap 39 = .ok (.aload_n 0, 1) := by decide +kernel
theorem dX11_swap_40 : decode cX11_swap 40 = .ok (.getfield 16, 3) := by decide +kernel
theorem dX11_swap_43 : decode cX11_swap 43 = .ok (.iload 4, 2) := by decide +kernel
theorem dX11_swap_45 : decode cX11_swap 45 = .ok (.iload_n 1, 1) := by decide +kernel
theorem dX11_swap_46 : decode cX11_swap 46 = .ok (.iastore, 1) := by decide +kernel
theorem dX11_swap_47 : decode cX11_swap 47 = .ok (.iload_n 3, 1) := by decide +kernel
theorem dX11_swap_48 : decode cX11_swap 48 = .ok (.ireturn, 1) := by decide +kernel
set_option maxRecDepth 20000 in
theorem ggX11_day_X11_sourNow : GoodIn wsX11_day wsX11_sourNow := goodIn_r _ [11, 1, 12, 13, 14, 10, 15, 16, 17, 18, 19, 20, 21, 22, 23, 24, 25, 26, 27, 28, 29, 4, 5, 30, 31, 32, 33, 34, 54, 55, 56, 57, 58, 59, 60, 61, 62, 63, 64, 65, 66, 67, 68, 69, 70, 71, 72, 73, 74, 75, 76, 77, 78, 79, 80, 81, 82, 83, 84, 85, 86, 87, 88, 89] (by decide +kernel) (by decide +kernel)
set_option maxRecDepth 20000 in
theorem gX11_day_X11_sourNow : GoodIn wsX11_day (wsV RX11 132 RX11 yX11_sourNow wsX11_sourNow) := goodIn_app (goodIn_of _ (by decide +kernel)) ggX11_day_X11_sourNow
set_option maxRecDepth 20000 in
theorem ggX11_day_X11_hearNow : GoodIn wsX11_day wsX11_hearNow := goodIn_r _ [38, 1, 12, 13, 14, 10, 15, 16, 17, 18, 19, 20, 21, 22, 23, 24, 25, 26, 27, 28, 29, 4, 5, 39, 40, 41, 42, 43, 44, 45, 46, 47, 48, 49, 50, 51, 52, 53, 54, 55, 56, 57, 58, 59, 60, 61, 62, 63, 64, 65, 66, 67, 68, 69, 70, 71, 72, 73, 74, 75, 76, 77, 78, 79, 80, 81, 82, 83, 84, 85, 86, 87, 88, 89] (by decide +kernel) (by decide +kernel)
set_option maxRecDepth 20000 in
theorem gX11_day_X11_hearNow : GoodIn wsX11_day (wsV RX11 135 RX11 yX11_hearNow wsX11_hearNow) := goodIn_app (goodIn_of _ (by decide +kernel)) ggX11_day_X11_hearNow
theorem dX11_day_0 : decode cX11_day 0 = .ok (.aload_n 0, 1) := by decide +kernel
theorem dX11_day_1 : decode cX11_day 1 = .ok (.getfield 82, 3) := by decide +kernel
theorem dX11_day_4 : decode cX11_day 4 = .ok (.ifCond .ne 6, 3) := by decide +kernel
theorem dX11_day_7 : decode cX11_day 7 = .ok (.bipush (-103), 2) := by decide +kernel
theorem dX11_day_9 : decode cX11_day 9 = .ok (.ireturn, 1) := by decide +kernel
theorem dX11_day_10 : decode cX11_day 10 = .ok (.aload_n 0, 1) := by decide +kernel
theorem dX11_day_11 : decode cX11_day 11 = .ok (.invokevirtual 132, 3) := by decide +kernel
theorem dX11_day_14 : decode cX11_day 14 = .ok (.istore_n 1, 1) := by decide +kernel
theorem dX11_day_15 : decode cX11_day 15 = .ok (.aload_n 0, 1) := by decide +kernel
theorem dX11_day_16 : decode cX11_day 16 = .ok (.invokevirtual 135, 3) := by decide +kernel
theorem dX11_day_19 : decode cX11_day 19 = .ok (.istore_n 2, 1) := by decide +kernel
theorem dX11_day_20 : decode cX11_day 20 = .ok (.aload_n 0, 1) := by decide +kernel
theorem dX11_day_21 : decode cX11_day 21 = .ok (.dup, 1) := by decide +kernel
theorem dX11_day_22 : decode cX11_day 22 = .ok (.getfield 97, 3) := by decide +kernel
theorem dX11_day_25 : decode cX11_day 25 = .ok (.iload_n 1, 1) := by decide +kernel
theorem dX11_day_26 : decode cX11_day 26 = .ok (.iadd, 1) := by decide +kernel
theorem dX11_day_27 : decode cX11_day 27 = .ok (.putfield 97, 3) := by decide +kernel
theorem dX11_day_30 : decode cX11_day 30 = .ok (.aload_n 0, 1) := by decide +kernel
theorem dX11_day_31 : decode cX11_day 31 = .ok (.dup, 1) := by decide +kernel
theorem dX11_day_32 : decode cX11_day 32 = .ok (.getfield 100, 3) := by decide +kernel
theorem dX11_day_35 : decode cX11_day 35 = .ok (.iload_n 2, 1) := by decide +kernel
theorem dX11_day_36 : decode cX11_day 36 = .ok (.iadd, 1) := by decide +kernel
theorem dX11_day_37 : decode cX11_day 37 = .ok (.putfield 100, 3) := by decide +kernel
theorem dX11_day_40 : decode cX11_day 40 = .ok (.iconst 0, 1) := by decide +kernel
theorem dX11_day_41 : decode cX11_day 41 = .ok (.istore_n 3, 1) := by decide +kernel
theorem dX11_day_42 : decode cX11_day 42 = .ok (.iload_n 3, 1) := by decide +kernel
theorem dX11_day_43 : decode cX11_day 43 = .ok (.aload_n 0, 1) := by decide +kernel
theorem dX11_day_44 : decode cX11_day 44 = .ok (.getfield 82, 3) := by decide +kernel
theorem dX11_day_47 : decode cX11_day 47 = .ok (.if_icmp .ge 37, 3) := by decide +kernel
theorem dX11_day_50 : decode cX11_day 50 = .ok (.aload_n 0, 1) := by decide +kernel
theorem dX11_day_51 : decode cX11_day 51 = .ok (.getfield 13, 3) := by decide +kernel
theorem dX11_day_54 : decode cX11_day 54 = .ok (.iload_n 3, 1) := by decide +kernel
theorem dX11_day_55 : decode cX11_day 55 = .ok (.aload_n 0, 1) := by decide +kernel
theorem dX11_day_56 : decode cX11_day 56 = .ok (.getfield 7, 3) := by decide +kernel
theorem dX11_day_59 : decode cX11_day 59 = .ok (.iload_n 3, 1) := by decide +kernel
theorem dX11_day_60 : decode cX11_day 60 = .ok (.iaload, 1) := by decide +kernel
theorem dX11_day_61 : decode cX11_day 61 = .ok (.iconst 3, 1) := by decide +kernel
theorem dX11_day_62 : decode cX11_day 62 = .ok (.if_icmp .ne 14, 3) := by decide +kernel
theorem dX11_day_65 : decode cX11_day 65 = .ok (.aload_n 0, 1) := by decide +kernel
theorem dX11_day_66 : decode cX11_day 66 = .ok (.getfield 13, 3) := by decide +kernel
theorem dX11_day_69 : decode cX11_day 69 = .ok (.iload_n 3, 1) := by decide +kernel
theorem dX11_day_70 : decode cX11_day 70 = .ok (.iaload, 1) := by decide +kernel
theorem dX11_day_71 : decode cX11_day 71 = .ok (.iconst 2, 1) := by decide +kernel
theorem dX11_day_72 : decode cX11_day 72 = .ok (.idiv, 1) := by decide +kernel
theorem dX11_day_73 : decode cX11_day 73 = .ok (.goto 4, 3) := by decide +kernel
theorem dX11_day_76 : decode cX11_day 76 = .ok (.iconst 0, 1) := by decide +kernel
theorem dX11_day_77 : decode cX11_day 77 = .ok (.iastore, 1) := by decide +kernel
theorem dX11_day_78 : decode cX11_day 78 = .ok (.iinc 3 1, 3) := by decide +kernel
theorem dX11_day_81 : decode cX11_day 81 = .ok (.goto (-39), 3) := by decide +kernel
theorem dX11_day_84 : decode cX11_day 84 = .ok (.aload_n 0, 1) := by decide +kernel
theorem dX11_day_85 : decode cX11_day 85 = .ok (.dup, 1) := by decide +kernel
theorem dX11_day_86 : decode cX11_day 86 = .ok (.getfield 94, 3) := by decide +kernel
theorem dX11_day_89 : decode cX11_day 89 = .ok (.iconst 1, 1) := by decide +kernel
theorem dX11_day_90 : decode cX11_day 90 = .ok (.iadd, 1) := by decide +kernel
theorem dX11_day_91 : decode cX11_day 91 = .ok (.putfield 94, 3) := by decide +kernel
theorem dX11_day_94 : decode cX11_day 94 = .ok (.iload_n 1, 1) := by decide +kernel
theorem dX11_day_95 : decode cX11_day 95 = .ok (.iload_n 2, 1) := by decide +kernel
theorem dX11_day_96 : decode cX11_day 96 = .ok (.iadd, 1) := by decide +kernel
theorem dX11_day_97 : decode cX11_day 97 = .ok (.ireturn, 1) := by decide +kernel
set_option maxRecDepth 20000 in
theorem ggX11_nextOrder_X11_change : GoodIn wsX11_nextOrder wsX11_change := goodIn_r _ [7, 2, 8, 9, 10, 11, 12, 13, 14, 15, 16, 17, 18, 19, 20, 21, 22, 23, 24, 25, 26, 27, 28, 29, 30, 31, 32, 33, 34, 35, 36, 37, 38, 39, 40, 41, 42, 43] (by decide +kernel) (by decide +kernel)
set_option maxRecDepth 20000 in
theorem gX11_nextOrder_X11_change : GoodIn wsX11_nextOrder (wsV RX11 151 RX11 yX11_change wsX11_change) := goodIn_app (goodIn_of _ (by decide +kernel)) ggX11_nextOrder_X11_change
theorem dX11_nextOrder_0 : decode cX11_nextOrder 0 = .ok (.aload_n 0, 1) := by decide +kernel
theorem dX11_nextOrder_1 : decode cX11_nextOrder 1 = .ok (.getfield 82, 3) := by decide +kernel
theorem dX11_nextOrder_4 : decode cX11_nextOrder 4 = .ok (.iconst 2, 1) := by decide +kernel
theorem dX11_nextOrder_5 : decode cX11_nextOrder 5 = .ok (.isub, 1) := by decide +kernel
theorem dX11_nextOrder_6 : decode cX11_nextOrder 6 = .ok (.istore_n 1, 1) := by decide +kernel
theorem dX11_nextOrder_7 : decode cX11_nextOrder 7 = .ok (.iload_n 1, 1) := by decide +kernel
theorem dX11_nextOrder_8 : decode cX11_nextOrder 8 = .ok (.ifCond .lt 26, 3) := by decide +kernel
theorem dX11_nextOrder_11 : decode cX11_nextOrder 11 = .ok (.aload_n 0, 1) := by decide +kernel
theorem dX11_nextOrder_12 : decode cX11_nextOrder 12 = .ok (.getfield 16, 3) := by decide +kernel
theorem dX11_nextOrder_15 : decode cX11_nextOrder 15 = .ok (.iload_n 1, 1) := by decide +kernel
theorem dX11_nextOrder_16 : decode cX11_nextOrder 16 = .ok (.iaload, 1) := by decide +kernel
theorem dX11_nextOrder_17 : decode cX11_nextOrder 17 = .ok (.aload_n 0, 1) := by decide +kernel
theorem dX11_nextOrder_18 : decode cX11_nextOrder 18 = .ok (.getfield 16, 3) := by decide +kernel
theorem dX11_nextOrder_21 : decode cX11_nextOrder 21 = .ok (.iload_n 1, 1) := by decide +kernel
theorem dX11_nextOrder_22 : decode cX11_nextOrder 22 = .ok (.iconst 1, 1) := by decide +kernel
theorem dX11_nextOrder_23 : decode cX11_nextOrder 23 = .ok (.iadd, 1) := by decide +kernel
theorem dX11_nextOrder_24 : decode cX11_nextOrder 24 = .ok (.iaload, 1) := by decide +kernel
theorem dX11_nextOrder_25 : decode cX11_nextOrder 25 = .ok (.if_icmp .le 9, 3) := by decide +kernel
theorem dX11_nextOrder_28 : decode cX11_nextOrder 28 = .ok (.iinc 1 (-1), 3) := by decide +kernel
theorem dX11_nextOrder_31 : decode cX11_nextOrder 31 = .ok (.goto (-24), 3) := by decide +kernel
theorem dX11_nextOrder_34 : decode cX11_nextOrder 34 = .ok (.iload_n 1, 1) := by decide +kernel
theorem dX11_nextOrder_35 : decode cX11_nextOrder 35 = .ok (.ifCond .ge 5, 3) := by decide +kernel
theorem dX11_nextOrder_38 : decode cX11_nextOrder 38 = .ok (.iconst 0, 1) := by decide +kernel
theorem dX11_nextOrder_39 : decode cX11_nextOrder 39 = .ok (.ireturn, 1) := by decide +kernel
theorem dX11_nextOrder_40 : decode cX11_nextOrder 40 = .ok (.aload_n 0, 1) := by decide +kernel
theorem dX11_nextOrder_41 : decode cX11_nextOrder 41 = .ok (.getfield 82, 3) := by decide +kernel
theorem dX11_nextOrder_44 : decode cX11_nextOrder 44 = .ok (.iconst 1, 1) := by decide +kernel
theorem dX11_nextOrder_45 : decode cX11_nextOrder 45 = .ok (.isub, 1) := by decide +kernel
theorem dX11_nextOrder_46 : decode cX11_nextOrder 46 = .ok (.istore_n 2, 1) := by decide +kernel
theorem dX11_nextOrder_47 : decode cX11_nextOrder 47 = .ok (.aload_n 0, 1) := by decide +kernel
theorem dX11_nextOrder_48 : decode cX11_nextOrder 48 = .ok (.getfield 16, 3) := by decide +kernel
theorem dX11_nextOrder_51 : decode cX11_nextOrder 51 = .ok (.iload_n 2, 1) := by decide +kernel
theorem dX11_nextOrder_52 : decode cX11_nextOrder 52 = .ok (.iaload, 1) := by decide +kernel
theorem dX11_nextOrder_53 : decode cX11_nextOrder 53 = .ok (.aload_n 0, 1) := by decide +kernel
theorem dX11_nextOrder_54 : decode cX11_nextOrder 54 = .ok (.getfield 16, 3) := by decide +kernel
theorem dX11_nextOrder_57 : decode cX11_nextOrder 57 = .ok (.iload_n 1, 1) := by decide +kernel
theorem dX11_nextOrder_58 : decode cX11_nextOrder 58 = .ok (.iaload, 1) := by decide +kernel
theorem dX11_nextOrder_59 : decode cX11_nextOrder 59 = .ok (.if_icmp .ge 9, 3) := by decide +kernel
theorem dX11_nextOrder_62 : decode cX11_nextOrder 62 = .ok (.iinc 2 (-1), 3) := by decide +kernel
theorem dX11_nextOrder_65 : decode cX11_nextOrder 65 = .ok (.goto (-18), 3) := by decide +kernel
theorem dX11_nextOrder_68 : decode cX11_nextOrder 68 = .ok (.aload_n 0, 1) := by decide +kernel
theorem dX11_nextOrder_69 : decode cX11_nextOrder 69 = .ok (.iload_n 1, 1) := by decide +kernel
theorem dX11_nextOrder_70 : decode cX11_nextOrder 70 = .ok (.iload_n 2, 1) := by decide +kernel
theorem dX11_nextOrder_71 : decode cX11_nextOrder 71 = .ok (.invokevirtual 151, 3) := by decide +kernel
theorem dX11_nextOrder_74 : decode cX11_nextOrder 74 = .ok (.iload_n 1, 1) := by decide +kernel
theorem dX11_nextOrder_75 : decode cX11_nextOrder 75 = .ok (.iconst 1, 1) := by decide +kernel
theorem dX11_nextOrder_76 : decode cX11_nextOrder 76 = .ok (.iadd, 1) := by decide +kernel
theorem dX11_nextOrder_77 : decode cX11_nextOrder 77 = .ok (.istore_n 3, 1) := by decide +kernel
theorem dX11_nextOrder_78 : decode cX11_nextOrder 78 = .ok (.aload_n 0, 1) := by decide +kernel
theorem dX11_nextOrder_79 : decode cX11_nextOrder 79 = .ok (.getfield 82, 3) := by decide +kernel
theorem dX11_nextOrder_82 : decode cX11_nextOrder 82 = .ok (.iconst 1, 1) := by decide +kernel
theorem dX11_nextOrder_83 : decode cX11_nextOrder 83 = .ok (.isub, 1) := by decide +kernel
theorem dX11_nextOrder_84 : decode cX11_nextOrder 84 = .ok (.istore 4, 2) := by decide +kernel
theorem dX11_nextOrder_86 : decode cX11_nextOrder 86 = .ok (.iload_n 3, 1) := by decide +kernel
theorem dX11_nextOrder_87 : decode cX11_nextOrder 87 = .ok (.iload 4, 2) := by decide +kernel
theorem dX11_nextOrder_89 : decode cX11_nextOrder 89 = .ok (.if_icmp .ge 19, 3) := by decide +kernel
theorem dX11_nextOrder_92 : decode cX11_nextOrder 92 = .ok (.aload_n 0, 1) := by decide +kernel
theorem dX11_nextOrder_93 : decode cX11_nextOrder 93 = .ok (.iload_n 3, 1) := by decide +kernel
theorem dX11_nextOrder_94 : decode cX11_nextOrder 94 = .ok (.iload 4, 2) := by decide +kernel
theorem dX11_nextOrder_96 : decode cX11_nextOrder 96 = .ok (.invokevirtual 151, 3) := by decide +kernel
theorem dX11_nextOrder_99 : decode cX11_nextOrder 99 = .ok (.iinc 3 1, 3) := by decide +kernel
theorem dX11_nextOrder_102 : decode cX11_nextOrder 102 = .ok (.iinc 4 (-1), 3) := by decide +kernel
theorem dX11_nextOrder_105 : decode cX11_nextOrder 105 = .ok (.goto (-19), 3) := by decide +kernel
theorem dX11_nextOrder_108 : decode cX11_nextOrder 108 = .ok (.iconst 1, 1) := by decide +kernel
theorem dX11_nextOrder_109 : decode cX11_nextOrder 109 = .ok (.ireturn, 1) := by decide +kernel
theorem dX11_change_0 : decode cX11_change 0 = .ok (.aload_n 0, 1) := by decide +kernel
theorem dX11_change_1 : decode cX11_change 1 = .ok (.getfield 16, 3) := by decide +kernel
theorem dX11_change_4 : decode cX11_change 4 = .ok (.iload_n 1, 1) := by decide +kernel
theorem dX11_change_5 : decode cX11_change 5 = .ok (.iaload, 1) := by decide +kernel
theorem dX11_change_6 : decode cX11_change 6 = .ok (.istore_n 3, 1) := by decide +kernel
theorem dX11_change_7 : decode cX11_change 7 = .ok (.aload_n 0, 1) := by decide +kernel
theorem dX11_change_8 : decode cX11_change 8 = .ok (.getfield 16, 3) := by decide +kernel
theorem dX11_change_11 : decode cX11_change 11 = .ok (.iload_n 1, 1) := by decide +kernel
theorem dX11_change_12 : decode cX11_change 12 = .ok (.aload_n 0, 1) := by decide +kernel
theorem dX11_change_13 : decode cX11_change 13 = .ok (.getfield 16, 3) := by decide +kernel
theorem dX11_change_16 : decode cX11_change 16 = .ok (.iload_n 2, 1) := by decide +kernel
theorem dX11_change_17 : decode cX11_change 17 = .ok (.iaload, 1) := by decide +kernel
theorem dX11_change_18 : decode cX11_change 18 = .ok (.iastore, 1) := by decide +kernel
theorem dX11_change_19 : decode cX11_change 19 = .ok (.aload_n 0, 1) := by decide +kernel
theorem dX11_change_20 : decode cX11_change 20 = .ok (.getfield 16, 3) := by decide +kernel
theorem dX11_change_23 : decode cX11_change 23 = .ok (.iload_n 2, 1) := by decide +kernel
theorem dX11_change_24 : decode cX11_change 24 = .ok (.iload_n 3, 1) := by decide +kernel
theorem dX11_change_25 : decode cX11_change 25 = .ok (.iastore, 1) := by decide +kernel
theorem dX11_change_26 : decode cX11_change 26 = .ok (.return_, 1) := by decide +kernel
set_option maxRecDepth 20000 in
theorem ggX11_bestNow_X11_wrongNow : GoodIn wsX11_bestNow wsX11_wrongNow := goodIn_r _ [10, 11, 12, 13, 9, 14, 3, 15, 16, 17, 18, 2, 19, 20, 21, 22, 23, 24, 25, 26, 27, 28, 29, 30, 31, 32, 33, 34, 35, 36, 37, 38, 39, 40, 41, 42, 43, 44, 45, 46, 47, 48, 49, 50, 51, 52, 53, 54, 55, 56, 57, 66, 67, 68, 69, 70, 71, 72, 73, 74, 75, 76, 77, 78, 79, 80, 81, 82, 83, 84, 85, 86, 87, 88, 89, 90, 91, 92, 93, 94, 95, 96, 97, 98, 99, 100, 101] (by decide +kernel) (by decide +kernel)
set_option maxRecDepth 20000 in
theorem gX11_bestNow_X11_wrongNow : GoodIn wsX11_bestNow (wsV RX11 138 RX11 yX11_wrongNow wsX11_wrongNow) := goodIn_app (goodIn_of _ (by decide +kernel)) ggX11_bestNow_X11_wrongNow
set_option maxRecDepth 20000 in
theorem ggX11_bestNow_X11_nextOrder : GoodIn wsX11_bestNow wsX11_nextOrder := goodIn_r _ [61, 3, 2, 62, 63, 64, 9, 65, 66, 67, 68, 69, 70, 71, 72, 73, 74, 75, 76, 77, 78, 79, 80, 81, 82, 83, 84, 85, 86, 87, 88, 89, 90, 91, 92, 93, 94, 95, 96, 97, 98, 99, 100, 101] (by decide +kernel) (by decide +kernel)
set_option maxRecDepth 20000 in
theorem gX11_bestNow_X11_nextOrder : GoodIn wsX11_bestNow (wsV RX11 156 RX11 yX11_nextOrder wsX11_nextOrder) := goodIn_app (goodIn_of _ (by decide +kernel)) ggX11_bestNow_X11_nextOrder
theorem dX11_bestNow_0 : decode cX11_bestNow 0 = .ok (.iconst 0, 1) := by decide +kernel
theorem dX11_bestNow_1 : decode cX11_bestNow 1 = .ok (.istore_n 2, 1) := by decide +kernel
theorem dX11_bestNow_2 : decode cX11_bestNow 2 = .ok (.iload_n 2, 1) := by decide +kernel
theorem dX11_bestNow_3 : decode cX11_bestNow 3 = .ok (.bipush 6, 2) := by decide +kernel
theorem dX11_bestNow_5 : decode cX11_bestNow 5 = .ok (.if_icmp .ge 21, 3) := by decide +kernel
theorem dX11_bestNow_8 : decode cX11_bestNow 8 = .ok (.aload_n 0, 1) := by decide +kernel
theorem dX11_bestNow_9 : decode cX11_bestNow 9 = .ok (.getfield 32, 3) := by decide +kernel
theorem dX11_bestNow_12 : decode cX11_bestNow 12 = .ok (.iload_n 2, 1) := by decide +kernel
theorem dX11_bestNow_13 : decode cX11_bestNow 13 = .ok (.aload_n 0, 1) := by decide +kernel
theorem dX11_bestNow_14 : decode cX11_bestNow 14 = .ok (.getfield 16, 3) := by decide +kernel
theorem dX11_bestNow_17 : decode cX11_bestNow 17 = .ok (.iload_n 2, 1) := by decide +kernel
theorem dX11_bestNow_18 : decode cX11_bestNow 18 = .ok (.iaload, 1) := by decide +kernel
theorem dX11_bestNow_19 : decode cX11_bestNow 19 = .ok (.iastore, 1) := by decide +kernel
theorem dX11_bestNow_20 : decode cX11_bestNow 20 = .ok (.iinc 2 1, 3) := by decide +kernel
theorem dX11_bestNow_23 : decode cX11_bestNow 23 = .ok (.goto (-21), 3) := by decide +kernel
theorem dX11_bestNow_26 : decode cX11_bestNow 26 = .ok (.iconst 0, 1) := by decide +kernel
theorem dX11_bestNow_27 : decode cX11_bestNow 27 = .ok (.istore_n 2, 1) := by decide +kernel
theorem dX11_bestNow_28 : decode cX11_bestNow 28 = .ok (.iload_n 2, 1) := by decide +kernel
theorem dX11_bestNow_29 : decode cX11_bestNow 29 = .ok (.aload_n 0, 1) := by decide +kernel
theorem dX11_bestNow_30 : decode cX11_bestNow 30 = .ok (.getfield 82, 3) := by decide +kernel
theorem dX11_bestNow_33 : decode cX11_bestNow 33 = .ok (.if_icmp .ge 16, 3) := by decide +kernel
theorem dX11_bestNow_36 : decode cX11_bestNow 36 = .ok (.aload_n 0, 1) := by decide +kernel
theorem dX11_bestNow_37 : decode cX11_bestNow 37 = .ok (.getfield 16, 3) := by decide +kernel
theorem dX11_bestNow_40 : decode cX11_bestNow 40 = .ok (.iload_n 2, 1) := by decide +kernel
theorem dX11_bestNow_41 : decode cX11_bestNow 41 = .ok (.iload_n 2, 1) := by decide +kernel
theorem dX11_bestNow_42 : decode cX11_bestNow 42 = .ok (.iastore, 1) := by decide +kernel
theorem dX11_bestNow_43 : decode cX11_bestNow 43 = .ok (.iinc 2 1, 3) := by decide +kernel
theorem dX11_bestNow_46 : decode cX11_bestNow 46 = .ok (.goto (-18), 3) := by decide +kernel
theorem dX11_bestNow_49 : decode cX11_bestNow 49 = .ok (.ldc 155, 2) := by decide +kernel
theorem dX11_bestNow_51 : decode cX11_bestNow 51 = .ok (.istore_n 2, 1) := by decide +kernel
theorem dX11_bestNow_52 : decode cX11_bestNow 52 = .ok (.iconst 1, 1) := by decide +kernel
theorem dX11_bestNow_53 : decode cX11_bestNow 53 = .ok (.istore_n 3, 1) := by decide +kernel
theorem dX11_bestNow_54 : decode cX11_bestNow 54 = .ok (.iload_n 3, 1) := by decide +kernel
theorem dX11_bestNow_55 : decode cX11_bestNow 55 = .ok (.ifCond .eq 58, 3) := by decide +kernel
theorem dX11_bestNow_58 : decode cX11_bestNow 58 = .ok (.aload_n 0, 1) := by decide +kernel
theorem dX11_bestNow_59 : decode cX11_bestNow 59 = .ok (.invokevirtual 138, 3) := by decide +kernel
theorem dX11_bestNow_62 : decode cX11_bestNow 62 = .ok (.istore 4, 2) := by decide +kernel
theorem dX11_bestNow_64 : decode cX11_bestNow 64 = .ok (.iload 4, 2) := by decide +kernel
theorem dX11_bestNow_66 : decode cX11_bestNow 66 = .ok (.iload_n 2, 1) := by decide +kernel
theorem dX11_bestNow_67 : decode cX11_bestNow 67 = .ok (.if_icmp .ge 38, 3) := by decide +kernel
theorem dX11_bestNow_70 : decode cX11_bestNow 70 = .ok (.iload 4, 2) := by decide +kernel
theorem dX11_bestNow_72 : decode cX11_bestNow 72 = .ok (.istore_n 2, 1) := by decide +kernel
theorem dX11_bestNow_73 : decode cX11_bestNow 73 = .ok (.iconst 0, 1) := by decide +kernel
theorem dX11_bestNow_74 : decode cX11_bestNow 74 = .ok (.istore 5, 2) := by decide +kernel
theorem dX11_bestNow_76 : decode cX11_bestNow 76 = .ok (.iload 5, 2) := by decide +kernel
theorem dX11_bestNow_78 : decode cX11_bestNow 78 = .ok (.aload_n 0, 1) := by decide +kernel
theorem dX11_bestNow_79 : decode cX11_bestNow 79 = .ok (.getfield 82, 3) := by decide +kernel
theorem dX11_bestNow_82 : decode cX11_bestNow 82 = .ok (.if_icmp .ge 23, 3) := by decide +kernel
theorem dX11_bestNow_85 : decode cX11_bestNow 85 = .ok (.aload_n 0, 1) := by decide +kernel
theorem dX11_bestNow_86 : decode cX11_bestNow 86 = .ok (.getfield 35, 3) := by decide +kernel
theorem dX11_bestNow_89 : decode cX11_bestNow 89 = .ok (.iload 5, 2) := by decide +kernel
theorem dX11_bestNow_91 : decode cX11_bestNow 91 = .ok (.aload_n 0, 1) := by decide +kernel
theorem dX11_bestNow_92 : decode cX11_bestNow 92 = .ok (.getfield 16, 3) := by decide +kernel
theorem dX11_bestNow_95 : decode cX11_bestNow 95 = .ok (.iload 5, 2) := by decide +kernel
theorem dX11_bestNow_97 : decode cX11_bestNow 97 = .ok (.iaload, 1) := by decide +kernel
theorem dX11_bestNow_98 : decode cX11_bestNow 98 = .ok (.iastore, 1) := by decide +kernel
theorem dX11_bestNow_99 : decode cX11_bestNow 99 = .ok (.iinc 5 1, 3) := by decide +kernel
theorem dX11_bestNow_102 : decode cX11_bestNow 102 = .ok (.goto (-26), 3) := by decide +kernel
theorem dX11_bestNow_105 : decode cX11_bestNow 105 = .ok (.aload_n 0, 1) := by decide +kernel
theorem dX11_bestNow_106 : decode cX11_bestNow 106 = .ok (.invokevirtual 156, 3) := by decide +kernel
theorem dX11_bestNow_109 : decode cX11_bestNow 109 = .ok (.istore_n 3, 1) := by decide +kernel
theorem dX11_bestNow_110 : decode cX11_bestNow 110 = .ok (.goto (-56), 3) := by decide +kernel
theorem dX11_bestNow_113 : decode cX11_bestNow 113 = .ok (.iconst 0, 1) := by decide +kernel
theorem dX11_bestNow_114 : decode cX11_bestNow 114 = .ok (.istore 4, 2) := by decide +kernel
theorem dX11_bestNow_116 : decode cX11_bestNow 116 = .ok (.iload 4, 2) := by decide +kernel
theorem dX11_bestNow_118 : decode cX11_bestNow 118 = .ok (.bipush 6, 2) := by decide +kernel
theorem dX11_bestNow_120 : decode cX11_bestNow 120 = .ok (.if_icmp .ge 23, 3) := by decide +kernel
theorem dX11_bestNow_123 : decode cX11_bestNow 123 = .ok (.aload_n 0, 1) := by decide +kernel
theorem dX11_bestNow_124 : decode cX11_bestNow 124 = .ok (.getfield 16, 3) := by decide +kernel
theorem dX11_bestNow_127 : decode cX11_bestNow 127 = .ok (.iload 4, 2) := by decide +kernel
theorem dX11_bestNow_129 : decode cX11_bestNow 129 = .ok (.aload_n 0, 1) := by decide +kernel
theorem dX11_bestNow_130 : decode cX11_bestNow 130 = .ok (.getfield 32, 3) := by decide +kernel
theorem dX11_bestNow_133 : decode cX11_bestNow 133 = .ok (.iload 4, 2) := by decide +kernel
theorem dX11_bestNow_135 : decode cX11_bestNow 135 = .ok (.iaload, 1) := by decide +kernel
theorem dX11_bestNow_136 : decode cX11_bestNow 136 = .ok (.iastore, 1) := by decide +kernel
theorem dX11_bestNow_137 : decode cX11_bestNow 137 = .ok (.iinc 4 1, 3) := by decide +kernel
theorem dX11_bestNow_140 : decode cX11_bestNow 140 = .ok (.goto (-24), 3) := by decide +kernel
theorem dX11_bestNow_143 : decode cX11_bestNow 143 = .ok (.iload_n 1, 1) := by decide +kernel
theorem dX11_bestNow_144 : decode cX11_bestNow 144 = .ok (.ifCond .ne 7, 3) := by decide +kernel
theorem dX11_bestNow_147 : decode cX11_bestNow 147 = .ok (.iload_n 2, 1) := by decide +kernel
theorem dX11_bestNow_148 : decode cX11_bestNow 148 = .ok (.goto 27, 3) := by decide +kernel
theorem dX11_bestNow_151 : decode cX11_bestNow 151 = .ok (.iload_n 1, 1) := by decide +kernel
theorem dX11_bestNow_152 : decode cX11_bestNow 152 = .ok (.bipush 10, 2) := by decide +kernel
theorem dX11_bestNow_154 : decode cX11_bestNow 154 = .ok (.isub, 1) := by decide +kernel
theorem dX11_bestNow_155 : decode cX11_bestNow 155 = .ok (.aload_n 0, 1) := by decide +kernel
theorem dX11_bestNow_156 : decode cX11_bestNow 156 = .ok (.getfield 82, 3) := by decide +kernel
theorem dX11_bestNow_159 : decode cX11_bestNow 159 = .ok (.if_icmp .ge 15, 3) := by decide +kernel
theorem dX11_bestNow_162 : decode cX11_bestNow 162 = .ok (.aload_n 0, 1) := by decide +kernel
theorem dX11_bestNow_163 : decode cX11_bestNow 163 = .ok (.getfield 35, 3) := by decide +kernel
theorem dX11_bestNow_166 : decode cX11_bestNow 166 = .ok (.iload_n 1, 1) := by decide +kernel
theorem dX11_bestNow_167 : decode cX11_bestNow 167 = .ok (.bipush 10, 2) := by decide +kernel
theorem dX11_bestNow_169 : decode cX11_bestNow 169 = .ok (.isub, 1) := by decide +kernel
theorem dX11_bestNow_170 : decode cX11_bestNow 170 = .ok (.iaload, 1) := by decide +kernel
theorem dX11_bestNow_171 : decode cX11_bestNow 171 = .ok (.goto 4, 3) := by decide +kernel
theorem dX11_bestNow_174 : decode cX11_bestNow 174 = .ok (.iconst (-1), 1) := by decide +kernel
theorem dX11_bestNow_175 : decode cX11_bestNow 175 = .ok (.ireturn, 1) := by decide +kernel
set_option maxRecDepth 20000 in
theorem ggX11_best_X11_within : GoodIn wsX11_best wsX11_within := goodIn_r _ [6] (by decide +kernel) (by decide +kernel)
set_option maxRecDepth 20000 in
theorem gX11_best_X11_within : GoodIn wsX11_best (va_wsS RX11 56 yX11_within wsX11_within) := goodIn_app (goodIn_of _ (by decide +kernel)) ggX11_best_X11_within
set_option maxRecDepth 20000 in
theorem ggX11_best_X11_bestNow : GoodIn wsX11_best wsX11_bestNow := goodIn_r _ [10, 11, 12, 1, 13, 14, 15, 16, 17, 5, 18, 19, 20, 21, 22, 23, 24, 25, 26, 27, 28, 29, 30, 31, 32, 33, 34, 35, 36, 37, 38, 39, 40, 41, 42, 43, 44, 45, 46, 47, 48, 49, 50, 51, 52, 53, 54, 55, 56, 57, 58, 59, 60, 61, 62, 3, 4, 6, 63, 64, 65, 66, 67, 68, 69, 70, 71, 72, 73, 74, 75, 76, 77, 78, 79, 80, 81, 82, 83, 84, 85, 86, 87, 88, 89, 90, 91, 92, 93, 94, 95, 96, 97, 98, 99, 100, 101, 102, 103, 104, 105, 106] (by decide +kernel) (by decide +kernel)
set_option maxRecDepth 20000 in
theorem gX11_best_X11_bestNow : GoodIn wsX11_best (wsV RX11 163 RX11 yX11_bestNow wsX11_bestNow) := goodIn_app (goodIn_of _ (by decide +kernel)) ggX11_best_X11_bestNow
theorem dX11_best_0 : decode cX11_best 0 = .ok (.iload_n 1, 1) := by decide +kernel
theorem dX11_best_1 : decode cX11_best 1 = .ok (.ifCond .eq 17, 3) := by decide +kernel
theorem dX11_best_4 : decode cX11_best 4 = .ok (.iload_n 1, 1) := by decide +kernel
theorem dX11_best_5 : decode cX11_best 5 = .ok (.bipush 10, 2) := by decide +kernel
theorem dX11_best_7 : decode cX11_best 7 = .ok (.bipush 15, 2) := by decide +kernel
theorem dX11_best_9 : decode cX11_best 9 = .ok (.invokestatic 56, 3) := by decide +kernel
theorem dX11_best_12 : decode cX11_best 12 = .ok (.ifCond .ne 6, 3) := by decide +kernel
theorem dX11_best_15 : decode cX11_best 15 = .ok (.bipush (-102), 2) := by decide +kernel
theorem dX11_best_17 : decode cX11_best 17 = .ok (.ireturn, 1) := by decide +kernel
theorem dX11_best_18 : decode cX11_best 18 = .ok (.aload_n 0, 1) := by decide +kernel
theorem dX11_best_19 : decode cX11_best 19 = .ok (.getfield 82, 3) := by decide +kernel
theorem dX11_best_22 : decode cX11_best 22 = .ok (.ifCond .eq 12, 3) := by decide +kernel
theorem dX11_best_25 : decode cX11_best 25 = .ok (.aload_n 0, 1) := by decide +kernel
theorem dX11_best_26 : decode cX11_best 26 = .ok (.getfield 160, 3) := by decide +kernel
theorem dX11_best_29 : decode cX11_best 29 = .ok (.bipush 30, 2) := by decide +kernel
theorem dX11_best_31 : decode cX11_best 31 = .ok (.if_icmp .ne 6, 3) := by decide +kernel
theorem dX11_best_34 : decode cX11_best 34 = .ok (.bipush (-103), 2) := by decide +kernel
theorem dX11_best_36 : decode cX11_best 36 = .ok (.ireturn, 1) := by decide +kernel
theorem dX11_best_37 : decode cX11_best 37 = .ok (.aload_n 0, 1) := by decide +kernel
theorem dX11_best_38 : decode cX11_best 38 = .ok (.dup, 1) := by decide +kernel
theorem dX11_best_39 : decode cX11_best 39 = .ok (.getfield 160, 3) := by decide +kernel
theorem dX11_best_42 : decode cX11_best 42 = .ok (.iconst 1, 1) := by decide +kernel
theorem dX11_best_43 : decode cX11_best 43 = .ok (.iadd, 1) := by decide +kernel
theorem dX11_best_44 : decode cX11_best 44 = .ok (.putfield 160, 3) := by decide +kernel
theorem dX11_best_47 : decode cX11_best 47 = .ok (.aload_n 0, 1) := by decide +kernel
theorem dX11_best_48 : decode cX11_best 48 = .ok (.iload_n 1, 1) := by decide +kernel
theorem dX11_best_49 : decode cX11_best 49 = .ok (.invokevirtual 163, 3) := by decide +kernel
theorem dX11_best_52 : decode cX11_best 52 = .ok (.ireturn, 1) := by decide +kernel
set_option maxRecDepth 20000 in
theorem ggX11_known_X11_isHouse : GoodIn wsX11_known wsX11_isHouse := goodIn_r _ [8, 9, 10, 11, 7, 12, 13, 14, 15, 16, 17, 18, 19, 20, 21, 22, 23, 24, 25, 26, 27, 28, 29, 30, 31, 32, 33, 34, 35, 36, 37, 38, 39, 40, 41, 42, 43, 44, 45, 46, 47, 48] (by decide +kernel) (by decide +kernel)
set_option maxRecDepth 20000 in
theorem gX11_known_X11_isHouse : GoodIn wsX11_known (wsV RX11 116 RX11 yX11_isHouse wsX11_isHouse) := goodIn_app (goodIn_of _ (by decide +kernel)) ggX11_known_X11_isHouse
set_option maxRecDepth 20000 in
theorem ggX11_known_X11_within : GoodIn wsX11_known wsX11_within := goodIn_r _ [12] (by decide +kernel) (by decide +kernel)
set_option maxRecDepth 20000 in
theorem gX11_known_X11_within : GoodIn wsX11_known (va_wsS RX11 56 yX11_within wsX11_within) := goodIn_app (goodIn_of _ (by decide +kernel)) ggX11_known_X11_within
theorem dX11_known_0 : decode cX11_known 0 = .ok (.aload_n 0, 1) := by decide +kernel
theorem dX11_known_1 : decode cX11_known 1 = .ok (.iload_n 1, 1) := by decide +kernel
theorem dX11_known_2 : decode cX11_known 2 = .ok (.invokevirtual 116, 3) := by decide +kernel
theorem dX11_known_5 : decode cX11_known 5 = .ok (.ifCond .ne 6, 3) := by decide +kernel
theorem dX11_known_8 : decode cX11_known 8 = .ok (.bipush (-101), 2) := by decide +kernel
theorem dX11_known_10 : decode cX11_known 10 = .ok (.ireturn, 1) := by decide +kernel
theorem dX11_known_11 : decode cX11_known 11 = .ok (.iload_n 2, 1) := by decide +kernel
theorem dX11_known_12 : decode cX11_known 12 = .ok (.iconst 1, 1) := by decide +kernel
theorem dX11_known_13 : decode cX11_known 13 = .ok (.sipush 150, 3) := by decide +kernel
theorem dX11_known_16 : decode cX11_known 16 = .ok (.invokestatic 56, 3) := by decide +kernel
theorem dX11_known_19 : decode cX11_known 19 = .ok (.ifCond .ne 6, 3) := by decide +kernel
theorem dX11_known_22 : decode cX11_known 22 = .ok (.bipush (-102), 2) := by decide +kernel
theorem dX11_known_24 : decode cX11_known 24 = .ok (.ireturn, 1) := by decide +kernel
theorem dX11_known_25 : decode cX11_known 25 = .ok (.aload_n 0, 1) := by decide +kernel
theorem dX11_known_26 : decode cX11_known 26 = .ok (.getfield 103, 3) := by decide +kernel
theorem dX11_known_29 : decode cX11_known 29 = .ok (.bipush 6, 2) := by decide +kernel
theorem dX11_known_31 : decode cX11_known 31 = .ok (.if_icmp .ne 6, 3) := by decide +kernel
theorem dX11_known_34 : decode cX11_known 34 = .ok (.bipush (-104), 2) := by decide +kernel
theorem dX11_known_36 : decode cX11_known 36 = .ok (.ireturn, 1) := by decide +kernel
theorem dX11_known_37 : decode cX11_known 37 = .ok (.aload_n 0, 1) := by decide +kernel
theorem dX11_known_38 : decode cX11_known 38 = .ok (.getfield 19, 3) := by decide +kernel
theorem dX11_known_41 : decode cX11_known 41 = .ok (.aload_n 0, 1) := by decide +kernel
theorem dX11_known_42 : decode cX11_known 42 = .ok (.getfield 103, 3) := by decide +kernel
theorem dX11_known_45 : decode cX11_known 45 = .ok (.iload_n 1, 1) := by decide +kernel
theorem dX11_known_46 : decode cX11_known 46 = .ok (.iastore, 1) := by decide +kernel
theorem dX11_known_47 : decode cX11_known 47 = .ok (.aload_n 0, 1) := by decide +kernel
theorem dX11_known_48 : decode cX11_known 48 = .ok (.getfield 22, 3) := by decide +kernel
theorem dX11_known_51 : decode cX11_known 51 = .ok (.aload_n 0, 1) := by decide +kernel
theorem dX11_known_52 : decode cX11_known 52 = .ok (.getfield 103, 3) := by decide +kernel
theorem dX11_known_55 : decode cX11_known 55 = .ok (.iload_n 2, 1) := by decide +kernel
theorem dX11_known_56 : decode cX11_known 56 = .ok (.iastore, 1) := by decide +kernel
theorem dX11_known_57 : decode cX11_known 57 = .ok (.aload_n 0, 1) := by decide +kernel
theorem dX11_known_58 : decode cX11_known 58 = .ok (.dup, 1) := by decide +kernel
theorem dX11_known_59 : decode cX11_known 59 = .ok (.getfield 103, 3) := by decide +kernel
theorem dX11_known_62 : decode cX11_known 62 = .ok (.iconst 1, 1) := by decide +kernel
theorem dX11_known_63 : decode cX11_known 63 = .ok (.iadd, 1) := by decide +kernel
theorem dX11_known_64 : decode cX11_known 64 = .ok (.putfield 103, 3) := by decide +kernel
theorem dX11_known_67 : decode cX11_known 67 = .ok (.aload_n 0, 1) := by decide +kernel
theorem dX11_known_68 : decode cX11_known 68 = .ok (.getfield 103, 3) := by decide +kernel
theorem dX11_known_71 : decode cX11_known 71 = .ok (.ireturn, 1) := by decide +kernel
theorem dX11_forget_0 : decode cX11_forget 0 = .ok (.aload_n 0, 1) := by decide +kernel
theorem dX11_forget_1 : decode cX11_forget 1 = .ok (.getfield 103, 3) := by decide +kernel
theorem dX11_forget_4 : decode cX11_forget 4 = .ok (.istore_n 1, 1) := by decide +kernel
theorem dX11_forget_5 : decode cX11_forget 5 = .ok (.aload_n 0, 1) := by decide +kernel
theorem dX11_forget_6 : decode cX11_forget 6 = .ok (.iconst 0, 1) := by decide +kernel
theorem dX11_forget_7 : decode cX11_forget 7 = .ok (.putfield 103, 3) := by decide +kernel
theorem dX11_forget_10 : decode cX11_forget 10 = .ok (.iload_n 1, 1) := by decide +kernel
theorem dX11_forget_11 : decode cX11_forget 11 = .ok (.ireturn, 1) := by decide +kernel
set_option maxRecDepth 20000 in
theorem ggX11_isKnown_X11_go : GoodIn wsX11_isKnown wsX11_go := goodIn_r _ [10, 11, 12, 3, 13, 14, 15, 9, 16, 1, 17, 18, 19, 20, 21, 22, 23, 24, 25, 26, 27, 28, 29, 30, 31, 32, 33, 34, 35, 36, 37, 38, 39, 40, 41, 42, 43, 44, 45, 46, 47, 48, 49, 50, 51, 52, 53, 54, 55, 56, 57, 58, 59, 60, 61] (by decide +kernel) (by decide +kernel)
set_option maxRecDepth 20000 in
theorem gX11_isKnown_X11_go : GoodIn wsX11_isKnown (wsV RX11 123 RX11 yX11_go wsX11_go) := goodIn_app (goodIn_of _ (by decide +kernel)) ggX11_isKnown_X11_go
theorem dX11_isKnown_0 : decode cX11_isKnown 0 = .ok (.aload_n 0, 1) := by decide +kernel
theorem dX11_isKnown_1 : decode cX11_isKnown 1 = .ok (.getfield 91, 3) := by decide +kernel
theorem dX11_isKnown_4 : decode cX11_isKnown 4 = .ok (.istore_n 2, 1) := by decide +kernel
theorem dX11_isKnown_5 : decode cX11_isKnown 5 = .ok (.aload_n 0, 1) := by decide +kernel
theorem dX11_isKnown_6 : decode cX11_isKnown 6 = .ok (.iload_n 1, 1) := by decide +kernel
theorem dX11_isKnown_7 : decode cX11_isKnown 7 = .ok (.putfield 91, 3) := by decide +kernel
theorem dX11_isKnown_10 : decode cX11_isKnown 10 = .ok (.aload_n 0, 1) := by decide +kernel
theorem dX11_isKnown_11 : decode cX11_isKnown 11 = .ok (.invokevirtual 123, 3) := by decide +kernel
theorem dX11_isKnown_14 : decode cX11_isKnown 14 = .ok (.aload_n 0, 1) := by decide +kernel
theorem dX11_isKnown_15 : decode cX11_isKnown 15 = .ok (.iload_n 2, 1) := by decide +kernel
theorem dX11_isKnown_16 : decode cX11_isKnown 16 = .ok (.putfield 91, 3) := by decide +kernel
theorem dX11_isKnown_19 : decode cX11_isKnown 19 = .ok (.iconst 1, 1) := by decide +kernel
theorem dX11_isKnown_20 : decode cX11_isKnown 20 = .ok (.istore_n 3, 1) := by decide +kernel
theorem dX11_isKnown_21 : decode cX11_isKnown 21 = .ok (.iconst 0, 1) := by decide +kernel
theorem dX11_isKnown_22 : decode cX11_isKnown 22 = .ok (.istore 4, 2) := by decide +kernel
theorem dX11_isKnown_24 : decode cX11_isKnown 24 = .ok (.iload 4, 2) := by decide +kernel
theorem dX11_isKnown_26 : decode cX11_isKnown 26 = .ok (.aload_n 0, 1) := by decide +kernel
theorem dX11_isKnown_27 : decode cX11_isKnown 27 = .ok (.getfield 103, 3) := by decide +kernel
theorem dX11_isKnown_30 : decode cX11_isKnown 30 = .ok (.if_icmp .ge 41, 3) := by decide +kernel
theorem dX11_isKnown_33 : decode cX11_isKnown 33 = .ok (.iload_n 3, 1) := by decide +kernel
theorem dX11_isKnown_34 : decode cX11_isKnown 34 = .ok (.ifCond .eq 29, 3) := by decide +kernel
theorem dX11_isKnown_37 : decode cX11_isKnown 37 = .ok (.aload_n 0, 1) := by decide +kernel
theorem dX11_isKnown_38 : decode cX11_isKnown 38 = .ok (.getfield 29, 3) := by decide +kernel
theorem dX11_isKnown_41 : decode cX11_isKnown 41 = .ok (.aload_n 0, 1) := by decide +kernel
theorem dX11_isKnown_42 : decode cX11_isKnown 42 = .ok (.getfield 19, 3) := by decide +kernel
theorem dX11_isKnown_45 : decode cX11_isKnown 45 = .ok (.iload 4, 2) := by decide +kernel
theorem dX11_isKnown_47 : decode cX11_isKnown 47 = .ok (.iaload, 1) := by decide +kernel
theorem dX11_isKnown_48 : decode cX11_isKnown 48 = .ok (.iaload, 1) := by decide +kernel
theorem dX11_isKnown_49 : decode cX11_isKnown 49 = .ok (.aload_n 0, 1) := by decide +kernel
theorem dX11_isKnown_50 : decode cX11_isKnown 50 = .ok (.getfield 22, 3) := by decide +kernel
theorem dX11_isKnown_53 : decode cX11_isKnown 53 = .ok (.iload 4, 2) := by decide +kernel
theorem dX11_isKnown_55 : decode cX11_isKnown 55 = .ok (.iaload, 1) := by decide +kernel
theorem dX11_isKnown_56 : decode cX11_isKnown 56 = .ok (.if_icmp .ne 7, 3) := by decide +kernel
theorem dX11_isKnown_59 : decode cX11_isKnown 59 = .ok (.iconst 1, 1) := by decide +kernel
theorem dX11_isKnown_60 : decode cX11_isKnown 60 = .ok (.goto 4, 3) := by decide +kernel
theorem dX11_isKnown_63 : decode cX11_isKnown 63 = .ok (.iconst 0, 1) := by decide +kernel
theorem dX11_isKnown_64 : decode cX11_isKnown 64 = .ok (.istore_n 3, 1) := by decide +kernel
theorem dX11_isKnown_65 : decode cX11_isKnown 65 = .ok (.iinc 4 1, 3) := by decide +kernel
theorem dX11_isKnown_68 : decode cX11_isKnown 68 = .ok (.goto (-44), 3) := by decide +kernel
theorem dX11_isKnown_71 : decode cX11_isKnown 71 = .ok (.iload_n 3, 1) := by decide +kernel
theorem dX11_isKnown_72 : decode cX11_isKnown 72 = .ok (.ireturn, 1) := by decide +kernel
set_option maxRecDepth 20000 in
theorem ggX11_setsNow_X11_isKnown : GoodIn wsX11_setsNow wsX11_isKnown := goodIn_r _ [6, 7, 8, 9, 10, 11, 12, 13, 14, 5, 15, 1, 16, 17, 18, 19, 20, 21, 22, 23, 24, 25, 26, 27, 28, 29, 30, 31, 32, 33, 34, 35, 36, 37, 38, 39, 40, 41, 42, 43, 44, 45, 46, 47, 48, 49, 50, 51, 52, 53, 54, 55, 56, 57, 58, 59, 60, 61, 62, 63, 64, 65] (by decide +kernel) (by decide +kernel)
set_option maxRecDepth 20000 in
theorem gX11_setsNow_X11_isKnown : GoodIn wsX11_setsNow (wsV RX11 166 RX11 yX11_isKnown wsX11_isKnown) := goodIn_app (goodIn_of _ (by decide +kernel)) ggX11_setsNow_X11_isKnown
theorem dX11_setsNow_0 : decode cX11_setsNow 0 = .ok (.iconst 0, 1) := by decide +kernel
theorem dX11_setsNow_1 : decode cX11_setsNow 1 = .ok (.istore_n 2, 1) := by decide +kernel
theorem dX11_setsNow_2 : decode cX11_setsNow 2 = .ok (.iconst (-1), 1) := by decide +kernel
theorem dX11_setsNow_3 : decode cX11_setsNow 3 = .ok (.istore_n 3, 1) := by decide +kernel
theorem dX11_setsNow_4 : decode cX11_setsNow 4 = .ok (.iconst 1, 1) := by decide +kernel
theorem dX11_setsNow_5 : decode cX11_setsNow 5 = .ok (.aload_n 0, 1) := by decide +kernel
theorem dX11_setsNow_6 : decode cX11_setsNow 6 = .ok (.getfield 82, 3) := by decide +kernel
theorem dX11_setsNow_9 : decode cX11_setsNow 9 = .ok (.ishl, 1) := by decide +kernel
theorem dX11_setsNow_10 : decode cX11_setsNow 10 = .ok (.iconst 1, 1) := by decide +kernel
theorem dX11_setsNow_11 : decode cX11_setsNow 11 = .ok (.isub, 1) := by decide +kernel
theorem dX11_setsNow_12 : decode cX11_setsNow 12 = .ok (.istore 4, 2) := by decide +kernel
theorem dX11_setsNow_14 : decode cX11_setsNow 14 = .ok (.iload 4, 2) := by decide +kernel
theorem dX11_setsNow_16 : decode cX11_setsNow 16 = .ok (.ifCond .lt 42, 3) := by decide +kernel
theorem dX11_setsNow_19 : decode cX11_setsNow 19 = .ok (.aload_n 0, 1) := by decide +kernel
theorem dX11_setsNow_20 : decode cX11_setsNow 20 = .ok (.iload 4, 2) := by decide +kernel
theorem dX11_setsNow_22 : decode cX11_setsNow 22 = .ok (.invokevirtual 166, 3) := by decide +kernel
theorem dX11_setsNow_25 : decode cX11_setsNow 25 = .ok (.istore 5, 2) := by decide +kernel
theorem dX11_setsNow_27 : decode cX11_setsNow 27 = .ok (.iload_n 2, 1) := by decide +kernel
theorem dX11_setsNow_28 : decode cX11_setsNow 28 = .ok (.iload 5, 2) := by decide +kernel
theorem dX11_setsNow_30 : decode cX11_setsNow 30 = .ok (.ifCond .eq 7, 3) := by decide +kernel
theorem dX11_setsNow_33 : decode cX11_setsNow 33 = .ok (.iconst 1, 1) := by decide +kernel
theorem dX11_setsNow_34 : decode cX11_setsNow 34 = .ok (.goto 4, 3) := by decide +kernel
theorem dX11_setsNow_37 : decode cX11_setsNow 37 = .ok (.iconst 0, 1) := by decide +kernel
theorem dX11_setsNow_38 : decode cX11_setsNow 38 = .ok (.iadd, 1) := by decide +kernel
theorem dX11_setsNow_39 : decode cX11_setsNow 39 = .ok (.istore_n 2, 1) := by decide +kernel
theorem dX11_setsNow_40 : decode cX11_setsNow 40 = .ok (.iload 5, 2) := by decide +kernel
theorem dX11_setsNow_42 : decode cX11_setsNow 42 = .ok (.ifCond .eq 8, 3) := by decide +kernel
theorem dX11_setsNow_45 : decode cX11_setsNow 45 = .ok (.iload 4, 2) := by decide +kernel
theorem dX11_setsNow_47 : decode cX11_setsNow 47 = .ok (.goto 4, 3) := by decide +kernel
theorem dX11_setsNow_50 : decode cX11_setsNow 50 = .ok (.iload_n 3, 1) := by decide +kernel
theorem dX11_setsNow_51 : decode cX11_setsNow 51 = .ok (.istore_n 3, 1) := by decide +kernel
theorem dX11_setsNow_52 : decode cX11_setsNow 52 = .ok (.iinc 4 (-1), 3) := by decide +kernel
theorem dX11_setsNow_55 : decode cX11_setsNow 55 = .ok (.goto (-41), 3) := by decide +kernel
theorem dX11_setsNow_58 : decode cX11_setsNow 58 = .ok (.iload_n 1, 1) := by decide +kernel
theorem dX11_setsNow_59 : decode cX11_setsNow 59 = .ok (.ifCond .ne 7, 3) := by decide +kernel
theorem dX11_setsNow_62 : decode cX11_setsNow 62 = .ok (.iload_n 2, 1) := by decide +kernel
theorem dX11_setsNow_63 : decode cX11_setsNow 63 = .ok (.goto 4, 3) := by decide +kernel
theorem dX11_setsNow_66 : decode cX11_setsNow 66 = .ok (.iload_n 3, 1) := by decide +kernel
theorem dX11_setsNow_67 : decode cX11_setsNow 67 = .ok (.ireturn, 1) := by decide +kernel
set_option maxRecDepth 20000 in
theorem ggX11_sets_X11_within : GoodIn wsX11_sets wsX11_within := goodIn_r _ [5] (by decide +kernel) (by decide +kernel)
set_option maxRecDepth 20000 in
theorem gX11_sets_X11_within : GoodIn wsX11_sets (va_wsS RX11 56 yX11_within wsX11_within) := goodIn_app (goodIn_of _ (by decide +kernel)) ggX11_sets_X11_within
set_option maxRecDepth 20000 in
theorem ggX11_sets_X11_setsNow : GoodIn wsX11_sets wsX11_setsNow := goodIn_r _ [9, 1, 10, 11, 12, 4, 13, 14, 15, 16, 17, 18, 19, 20, 21, 22, 23, 24, 25, 26, 27, 28, 29, 30, 31, 32, 33, 34, 35, 36, 37, 38, 39, 40, 41, 42, 43, 44, 45, 46, 47, 48, 49, 50, 51, 52, 53, 54, 55, 56, 57, 58, 59, 60, 61, 62, 63, 64, 65, 66, 67, 68, 69, 70, 71, 72] (by decide +kernel) (by decide +kernel)
set_option maxRecDepth 20000 in
theorem gX11_sets_X11_setsNow : GoodIn wsX11_sets (wsV RX11 169 RX11 yX11_setsNow wsX11_setsNow) := goodIn_app (goodIn_of _ (by decide +kernel)) ggX11_sets_X11_setsNow
theorem dX11_sets_0 : decode cX11_sets 0 = .ok (.iload_n 1, 1) := by decide +kernel
theorem dX11_sets_1 : decode cX11_sets 1 = .ok (.iconst 0, 1) := by decide +kernel
theorem dX11_sets_2 : decode cX11_sets 2 = .ok (.iconst 1, 1) := by decide +kernel
theorem dX11_sets_3 : decode cX11_sets 3 = .ok (.invokestatic 56, 3) := by decide +kernel
theorem dX11_sets_6 : decode cX11_sets 6 = .ok (.ifCond .ne 6, 3) := by decide +kernel
theorem dX11_sets_9 : decode cX11_sets 9 = .ok (.bipush (-102), 2) := by decide +kernel
theorem dX11_sets_11 : decode cX11_sets 11 = .ok (.ireturn, 1) := by decide +kernel
theorem dX11_sets_12 : decode cX11_sets 12 = .ok (.aload_n 0, 1) := by decide +kernel
theorem dX11_sets_13 : decode cX11_sets 13 = .ok (.getfield 82, 3) := by decide +kernel
theorem dX11_sets_16 : decode cX11_sets 16 = .ok (.ifCond .ne 8, 3) := by decide +kernel
theorem dX11_sets_19 : decode cX11_sets 19 = .ok (.bipush (-103), 2) := by decide +kernel
theorem dX11_sets_21 : decode cX11_sets 21 = .ok (.goto 8, 3) := by decide +kernel
theorem dX11_sets_24 : decode cX11_sets 24 = .ok (.aload_n 0, 1) := by decide +kernel
theorem dX11_sets_25 : decode cX11_sets 25 = .ok (.iload_n 1, 1) := by decide +kernel
theorem dX11_sets_26 : decode cX11_sets 26 = .ok (.invokevirtual 169, 3) := by decide +kernel
theorem dX11_sets_29 : decode cX11_sets 29 = .ok (.ireturn, 1) := by decide +kernel
set_option maxRecDepth 20000 in
theorem ggX11_worstOf_X11_isKnown : GoodIn wsX11_worstOf wsX11_isKnown := goodIn_r _ [8, 9, 10, 3, 11, 12, 13, 14, 15, 7, 16, 2, 17, 18, 19, 20, 21, 22, 23, 24, 25, 26, 27, 28, 29, 30, 31, 32, 33, 34, 35, 36, 37, 38, 39, 40, 41, 42, 43, 44, 45, 46, 47, 48, 49, 50, 51, 52, 53, 54, 55, 56, 57, 58, 59, 60, 61, 62, 63, 64, 65, 66] (by decide +kernel) (by decide +kernel)
set_option maxRecDepth 20000 in
theorem gX11_worstOf_X11_isKnown : GoodIn wsX11_worstOf (wsV RX11 166 RX11 yX11_isKnown wsX11_isKnown) := goodIn_app (goodIn_of _ (by decide +kernel)) ggX11_worstOf_X11_isKnown
theorem dX11_worstOf_0 : decode cX11_worstOf 0 = .ok (.iconst 0, 1) := by decide +kernel
theorem dX11_worstOf_1 : decode cX11_worstOf 1 = .ok (.istore_n 2, 1) := by decide +kernel
theorem dX11_worstOf_2 : decode cX11_worstOf 2 = .ok (.iload_n 2, 1) := by decide +kernel
theorem dX11_worstOf_3 : decode cX11_worstOf 3 = .ok (.sipush 150, 3) := by decide +kernel
theorem dX11_worstOf_6 : decode cX11_worstOf 6 = .ok (.if_icmp .gt 16, 3) := by decide +kernel
theorem dX11_worstOf_9 : decode cX11_worstOf 9 = .ok (.aload_n 0, 1) := by decide +kernel
theorem dX11_worstOf_10 : decode cX11_worstOf 10 = .ok (.getfield 38, 3) := by decide +kernel
theorem dX11_worstOf_13 : decode cX11_worstOf 13 = .ok (.iload_n 2, 1) := by decide +kernel
theorem dX11_worstOf_14 : decode cX11_worstOf 14 = .ok (.iconst 0, 1) := by decide +kernel
theorem dX11_worstOf_15 : decode cX11_worstOf 15 = .ok (.iastore, 1) := by decide +kernel
theorem dX11_worstOf_16 : decode cX11_worstOf 16 = .ok (.iinc 2 1, 3) := by decide +kernel
theorem dX11_worstOf_19 : decode cX11_worstOf 19 = .ok (.goto (-17), 3) := by decide +kernel
theorem dX11_worstOf_22 : decode cX11_worstOf 22 = .ok (.iconst 0, 1) := by decide +kernel
theorem dX11_worstOf_23 : decode cX11_worstOf 23 = .ok (.istore_n 2, 1) := by decide +kernel
theorem dX11_worstOf_24 : decode cX11_worstOf 24 = .ok (.iconst 0, 1) := by decide +kernel
theorem dX11_worstOf_25 : decode cX11_worstOf 25 = .ok (.istore_n 3, 1) := by decide +kernel
theorem dX11_worstOf_26 : decode cX11_worstOf 26 = .ok (.iload_n 3, 1) := by decide +kernel
theorem dX11_worstOf_27 : decode cX11_worstOf 27 = .ok (.iconst 1, 1) := by decide +kernel
theorem dX11_worstOf_28 : decode cX11_worstOf 28 = .ok (.aload_n 0, 1) := by decide +kernel
theorem dX11_worstOf_29 : decode cX11_worstOf 29 = .ok (.getfield 82, 3) := by decide +kernel
theorem dX11_worstOf_32 : decode cX11_worstOf 32 = .ok (.ishl, 1) := by decide +kernel
theorem dX11_worstOf_33 : decode cX11_worstOf 33 = .ok (.if_icmp .ge 63, 3) := by decide +kernel
theorem dX11_worstOf_36 : decode cX11_worstOf 36 = .ok (.aload_n 0, 1) := by decide +kernel
theorem dX11_worstOf_37 : decode cX11_worstOf 37 = .ok (.iload_n 3, 1) := by decide +kernel
theorem dX11_worstOf_38 : decode cX11_worstOf 38 = .ok (.invokevirtual 166, 3) := by decide +kernel
theorem dX11_worstOf_41 : decode cX11_worstOf 41 = .ok (.ifCond .eq 49, 3) := by decide +kernel
theorem dX11_worstOf_44 : decode cX11_worstOf 44 = .ok (.aload_n 0, 1) := by decide +kernel
theorem dX11_worstOf_45 : decode cX11_worstOf 45 = .ok (.getfield 38, 3) := by decide +kernel
theorem dX11_worstOf_48 : decode cX11_worstOf 48 = .ok (.aload_n 0, 1) := by decide +kernel
theorem dX11_worstOf_49 : decode cX11_worstOf 49 = .ok (.getfield 29, 3) := by decide +kernel
theorem dX11_worstOf_52 : decode cX11_worstOf 52 = .ok (.iload_n 1, 1) := by decide +kernel
theorem dX11_worstOf_53 : decode cX11_worstOf 53 = .ok (.iaload, 1) := by decide +kernel
theorem dX11_worstOf_54 : decode cX11_worstOf 54 = .ok (.dup2, 1) := by decide +kernel
theorem dX11_worstOf_55 : decode cX11_worstOf 55 = .ok (.iaload, 1) := by decide +kernel
theorem dX11_worstOf_56 : decode cX11_worstOf 56 = .ok (.iconst 1, 1) := by decide +kernel
theorem dX11_worstOf_57 : decode cX11_worstOf 57 = .ok (.iadd, 1) := by decide +kernel
theorem dX11_worstOf_58 : decode cX11_worstOf 58 = .ok (.iastore, 1) := by decide +kernel
theorem dX11_worstOf_59 : decode cX11_worstOf 59 = .ok (.aload_n 0, 1) := by decide +kernel
theorem dX11_worstOf_60 : decode cX11_worstOf 60 = .ok (.getfield 38, 3) := by decide +kernel
theorem dX11_worstOf_63 : decode cX11_worstOf 63 = .ok (.aload_n 0, 1) := by decide +kernel
theorem dX11_worstOf_64 : decode cX11_worstOf 64 = .ok (.getfield 29, 3) := by decide +kernel
theorem dX11_worstOf_67 : decode cX11_worstOf 67 = .ok (.iload_n 1, 1) := by decide +kernel
theorem dX11_worstOf_68 : decode cX11_worstOf 68 = .ok (.iaload, 1) := by decide +kernel
theorem dX11_worstOf_69 : decode cX11_worstOf 69 = .ok (.iaload, 1) := by decide +kernel
theorem dX11_worstOf_70 : decode cX11_worstOf 70 = .ok (.iload_n 2, 1) := by decide +kernel
theorem dX11_worstOf_71 : decode cX11_worstOf 71 = .ok (.if_icmp .le 17, 3) := by decide +kernel
theorem dX11_worstOf_74 : decode cX11_worstOf 74 = .ok (.aload_n 0, 1) := by decide +kernel
theorem dX11_worstOf_75 : decode cX11_worstOf 75 = .ok (.getfield 38, 3) := by decide +kernel
theorem dX11_worstOf_78 : decode cX11_worstOf 78 = .ok (.aload_n 0, 1) := by decide +kernel
theorem dX11_worstOf_79 : decode cX11_worstOf 79 = .ok (.getfield 29, 3) := by decide +kernel
theorem dX11_worstOf_82 : decode cX11_worstOf 82 = .ok (.iload_n 1, 1) := by decide +kernel
theorem dX11_worstOf_83 : decode cX11_worstOf 83 = .ok (.iaload, 1) := by decide +kernel
theorem dX11_worstOf_84 : decode cX11_worstOf 84 = .ok (.iaload, 1) := by decide +kernel
theorem dX11_worstOf_85 : decode cX11_worstOf 85 = .ok (.goto 4, 3) := by decide +kernel
theorem dX11_worstOf_88 : decode cX11_worstOf 88 = .ok (.iload_n 2, 1) := by decide +kernel
theorem dX11_worstOf_89 : decode cX11_worstOf 89 = .ok (.istore_n 2, 1) := by decide +kernel
theorem dX11_worstOf_90 : decode cX11_worstOf 90 = .ok (.iinc 3 1, 3) := by decide +kernel
theorem dX11_worstOf_93 : decode cX11_worstOf 93 = .ok (.goto (-67), 3) := by decide +kernel
theorem dX11_worstOf_96 : decode cX11_worstOf 96 = .ok (.iload_n 2, 1) := by decide +kernel
theorem dX11_worstOf_97 : decode cX11_worstOf 97 = .ok (.ireturn, 1) := by decide +kernel
set_option maxRecDepth 20000 in
theorem ggX11_askNow_X11_setsNow : GoodIn wsX11_askNow wsX11_setsNow := goodIn_r _ [7, 2, 8, 9, 10, 6, 11, 12, 13, 14, 15, 16, 17, 18, 19, 20, 21, 22, 23, 24, 25, 26, 27, 28, 29, 30, 31, 32, 33, 34, 40, 41, 42, 43, 44, 45, 46, 47, 48, 49, 50, 51, 52, 53, 54, 55, 56, 57, 58, 59, 60, 61, 62, 63, 64, 65, 66, 67, 68, 69, 70, 71, 72, 73, 74, 75] (by decide +kernel) (by decide +kernel)
set_option maxRecDepth 20000 in
theorem gX11_askNow_X11_setsNow : GoodIn wsX11_askNow (wsV RX11 169 RX11 yX11_setsNow wsX11_setsNow) := goodIn_app (goodIn_of _ (by decide +kernel)) ggX11_askNow_X11_setsNow
set_option maxRecDepth 20000 in
theorem ggX11_askNow_X11_worstOf : GoodIn wsX11_askNow wsX11_worstOf := goodIn_r _ [38, 39, 2, 14, 8, 9, 10, 6, 11, 12, 13, 15, 16, 17, 18, 19, 20, 21, 22, 23, 24, 25, 26, 27, 28, 29, 30, 31, 32, 33, 34, 40, 41, 42, 43, 44, 45, 46, 47, 48, 49, 50, 51, 52, 53, 54, 55, 56, 57, 58, 59, 60, 61, 62, 63, 64, 65, 66, 67, 68, 69, 70, 71, 72, 73, 74, 75] (by decide +kernel) (by decide +kernel)
set_option maxRecDepth 20000 in
theorem gX11_askNow_X11_worstOf : GoodIn wsX11_askNow (wsV RX11 172 RX11 yX11_worstOf wsX11_worstOf) := goodIn_app (goodIn_of _ (by decide +kernel)) ggX11_askNow_X11_worstOf
theorem dX11_askNow_0 : decode cX11_askNow 0 = .ok (.iconst (-1), 1) := by decide +kernel
theorem dX11_askNow_1 : decode cX11_askNow 1 = .ok (.istore_n 1, 1) := by decide +kernel
theorem dX11_askNow_2 : decode cX11_askNow 2 = .ok (.aload_n 0, 1) := by decide +kernel
theorem dX11_askNow_3 : decode cX11_askNow 3 = .ok (.iconst 0, 1) := by decide +kernel
theorem dX11_askNow_4 : decode cX11_askNow 4 = .ok (.invokevirtual 169, 3) := by decide +kernel
theorem dX11_askNow_7 : decode cX11_askNow 7 = .ok (.ifCond .ne 7, 3) := by decide +kernel
theorem dX11_askNow_10 : decode cX11_askNow 10 = .ok (.iconst 0, 1) := by decide +kernel
theorem dX11_askNow_11 : decode cX11_askNow 11 = .ok (.goto 5, 3) := by decide +kernel
theorem dX11_askNow_14 : decode cX11_askNow 14 = .ok (.ldc 155, 2) := by decide +kernel
theorem dX11_askNow_16 : decode cX11_askNow 16 = .ok (.istore_n 2, 1) := by decide +kernel
theorem dX11_askNow_17 : decode cX11_askNow 17 = .ok (.iconst 0, 1) := by decide +kernel
theorem dX11_askNow_18 : decode cX11_askNow 18 = .ok (.istore_n 3, 1) := by decide +kernel
theorem dX11_askNow_19 : decode cX11_askNow 19 = .ok (.iload_n 3, 1) := by decide +kernel
theorem dX11_askNow_20 : decode cX11_askNow 20 = .ok (.aload_n 0, 1) := by decide +kernel
theorem dX11_askNow_21 : decode cX11_askNow 21 = .ok (.getfield 82, 3) := by decide +kernel
theorem dX11_askNow_24 : decode cX11_askNow 24 = .ok (.if_icmp .ge 41, 3) := by decide +kernel
theorem dX11_askNow_27 : decode cX11_askNow 27 = .ok (.aload_n 0, 1) := by decide +kernel
theorem dX11_askNow_28 : decode cX11_askNow 28 = .ok (.iload_n 3, 1) := by decide +kernel
theorem dX11_askNow_29 : decode cX11_askNow 29 = .ok (.invokevirtual 172, 3) := by decide +kernel
theorem dX11_askNow_32 : decode cX11_askNow 32 = .ok (.istore 4, 2) := by decide +kernel
theorem dX11_askNow_34 : decode cX11_askNow 34 = .ok (.iload 4, 2) := by decide +kernel
theorem dX11_askNow_36 : decode cX11_askNow 36 = .ok (.iload_n 2, 1) := by decide +kernel
theorem dX11_askNow_37 : decode cX11_askNow 37 = .ok (.if_icmp .ge 7, 3) := by decide +kernel
theorem dX11_askNow_40 : decode cX11_askNow 40 = .ok (.iload_n 3, 1) := by decide +kernel
theorem dX11_askNow_41 : decode cX11_askNow 41 = .ok (.goto 4, 3) := by decide +kernel
theorem dX11_askNow_44 : decode cX11_askNow 44 = .ok (.iload_n 1, 1) := by decide +kernel
theorem dX11_askNow_45 : decode cX11_askNow 45 = .ok (.istore_n 1, 1) := by decide +kernel
theorem dX11_askNow_46 : decode cX11_askNow 46 = .ok (.iload 4, 2) := by decide +kernel
theorem dX11_askNow_48 : decode cX11_askNow 48 = .ok (.iload_n 2, 1) := by decide +kernel
theorem dX11_askNow_49 : decode cX11_askNow 49 = .ok (.if_icmp .ge 8, 3) := by decide +kernel
theorem dX11_askNow_52 : decode cX11_askNow 52 = .ok (.iload 4, 2) := by decide +kernel
theorem dX11_askNow_54 : decode cX11_askNow 54 = .ok (.goto 4, 3) := by decide +kernel
theorem dX11_askNow_57 : decode cX11_askNow 57 = .ok (.iload_n 2, 1) := by decide +kernel
theorem dX11_askNow_58 : decode cX11_askNow 58 = .ok (.istore_n 2, 1) := by decide +kernel
theorem dX11_askNow_59 : decode cX11_askNow 59 = .ok (.iinc 3 1, 3) := by decide +kernel
theorem dX11_askNow_62 : decode cX11_askNow 62 = .ok (.goto (-43), 3) := by decide +kernel
theorem dX11_askNow_65 : decode cX11_askNow 65 = .ok (.iload_n 1, 1) := by decide +kernel
theorem dX11_askNow_66 : decode cX11_askNow 66 = .ok (.ireturn, 1) := by decide +kernel
set_option maxRecDepth 20000 in
theorem ggX11_ask_X11_askNow : GoodIn wsX11_ask wsX11_askNow := goodIn_r _ [6, 7, 1, 8, 9, 10, 5, 11, 12, 13, 14, 15, 16, 17, 18, 19, 20, 21, 22, 23, 24, 25, 26, 27, 28, 29, 30, 31, 32, 33, 34, 35, 36, 37, 38, 39, 40, 41, 42, 43, 44, 45, 46, 47, 48, 49, 50, 51, 52, 53, 54, 55, 56, 57, 58, 59, 60, 61, 62, 63, 64, 65, 66, 67, 68, 69, 70, 71, 72, 73, 74, 75, 76, 77, 78, 79] (by decide +kernel) (by decide +kernel)
set_option maxRecDepth 20000 in
theorem gX11_ask_X11_askNow : GoodIn wsX11_ask (wsV RX11 175 RX11 yX11_askNow wsX11_askNow) := goodIn_app (goodIn_of _ (by decide +kernel)) ggX11_ask_X11_askNow
theorem dX11_ask_0 : decode cX11_ask 0 = .ok (.aload_n 0, 1) := by decide +kernel
theorem dX11_ask_1 : decode cX11_ask 1 = .ok (.getfield 82, 3) := by decide +kernel
theorem dX11_ask_4 : decode cX11_ask 4 = .ok (.ifCond .ne 8, 3) := by decide +kernel
theorem dX11_ask_7 : decode cX11_ask 7 = .ok (.bipush (-103), 2) := by decide +kernel
theorem dX11_ask_9 : decode cX11_ask 9 = .ok (.goto 7, 3) := by decide +kernel
theorem dX11_ask_12 : decode cX11_ask 12 = .ok (.aload_n 0, 1) := by decide +kernel
theorem dX11_ask_13 : decode cX11_ask 13 = .ok (.invokevirtual 175, 3) := by decide +kernel
theorem dX11_ask_16 : decode cX11_ask 16 = .ok (.ireturn, 1) := by decide +kernel
theorem dX11_draw_0 : decode cX11_draw 0 = .ok (.aload_n 0, 1) := by decide +kernel
theorem dX11_draw_1 : decode cX11_draw 1 = .ok (.ldc2_w 178, 3) := by decide +kernel
theorem dX11_draw_4 : decode cX11_draw 4 = .ok (.aload_n 0, 1) := by decide +kernel
theorem dX11_draw_5 : decode cX11_draw 5 = .ok (.getfield 180, 3) := by decide +kernel
theorem dX11_draw_8 : decode cX11_draw 8 = .ok (.lmul, 1) := by decide +kernel
theorem dX11_draw_9 : decode cX11_draw 9 = .ok (.ldc2_w 184, 3) := by decide +kernel
theorem dX11_draw_12 : decode cX11_draw 12 = .ok (.ladd, 1) := by decide +kernel
theorem dX11_draw_13 : decode cX11_draw 13 = .ok (.ldc2_w 186, 3) := by decide +kernel
theorem dX11_draw_16 : decode cX11_draw 16 = .ok (.land, 1) := by decide +kernel
theorem dX11_draw_17 : decode cX11_draw 17 = .ok (.putfield 180, 3) := by decide +kernel
theorem dX11_draw_20 : decode cX11_draw 20 = .ok (.aload_n 0, 1) := by decide +kernel
theorem dX11_draw_21 : decode cX11_draw 21 = .ok (.getfield 180, 3) := by decide +kernel
theorem dX11_draw_24 : decode cX11_draw 24 = .ok (.ldc2_w 188, 3) := by decide +kernel
theorem dX11_draw_27 : decode cX11_draw 27 = .ok (.ldiv, 1) := by decide +kernel
theorem dX11_draw_28 : decode cX11_draw 28 = .ok (.iload_n 1, 1) := by decide +kernel
theorem dX11_draw_29 : decode cX11_draw 29 = .ok (.i2l, 1) := by decide +kernel
theorem dX11_draw_30 : decode cX11_draw 30 = .ok (.lrem, 1) := by decide +kernel
theorem dX11_draw_31 : decode cX11_draw 31 = .ok (.l2i, 1) := by decide +kernel
theorem dX11_draw_32 : decode cX11_draw 32 = .ok (.ireturn, 1) := by decide +kernel
set_option maxRecDepth 20000 in
theorem ggX11_weeksNow_X11_draw : GoodIn wsX11_weeksNow wsX11_draw := goodIn_r _ [9, 10, 3, 11, 12, 13, 61, 62, 63, 64, 65, 66, 67, 68, 69, 70, 71, 72, 73, 74, 75, 76, 77, 78, 79, 80, 81, 82, 83, 84, 85, 86, 87, 88, 89, 90, 91, 92, 93, 94, 95, 96] (by decide +kernel) (by decide +kernel)
set_option maxRecDepth 20000 in
theorem gX11_weeksNow_X11_draw : GoodIn wsX11_weeksNow (wsV RX11 190 RX11 yX11_draw wsX11_draw) := goodIn_app (goodIn_of _ (by decide +kernel)) ggX11_weeksNow_X11_draw
set_option maxRecDepth 20000 in
theorem ggX11_weeksNow_X11_sourNow : GoodIn wsX11_weeksNow wsX11_sourNow := goodIn_r _ [17, 4, 18, 19, 20, 8, 21, 22, 23, 24, 25, 26, 27, 28, 29, 30, 31, 32, 33, 34, 35, 2, 36, 37, 38, 39, 40, 41, 61, 62, 63, 64, 65, 66, 67, 68, 69, 70, 71, 72, 73, 74, 75, 76, 77, 78, 79, 80, 81, 82, 83, 84, 85, 86, 87, 88, 89, 90, 91, 92, 93, 94, 95, 96] (by decide +kernel) (by decide +kernel)
set_option maxRecDepth 20000 in
theorem gX11_weeksNow_X11_sourNow : GoodIn wsX11_weeksNow (wsV RX11 132 RX11 yX11_sourNow wsX11_sourNow) := goodIn_app (goodIn_of _ (by decide +kernel)) ggX11_weeksNow_X11_sourNow
set_option maxRecDepth 20000 in
theorem ggX11_weeksNow_X11_hearNow : GoodIn wsX11_weeksNow wsX11_hearNow := goodIn_r _ [45, 4, 18, 19, 20, 8, 21, 22, 23, 24, 25, 26, 27, 28, 29, 30, 31, 32, 33, 34, 35, 2, 36, 46, 47, 48, 49, 50, 51, 52, 53, 54, 55, 56, 57, 58, 59, 60, 61, 62, 63, 64, 65, 66, 67, 68, 69, 70, 71, 72, 73, 74, 75, 76, 77, 78, 79, 80, 81, 82, 83, 84, 85, 86, 87, 88, 89, 90, 91, 92, 93, 94, 95, 96] (by decide +kernel) (by decide +kernel)
set_option maxRecDepth 20000 in
theorem gX11_weeksNow_X11_hearNow : GoodIn wsX11_weeksNow (wsV RX11 135 RX11 yX11_hearNow wsX11_hearNow) := goodIn_app (goodIn_of _ (by decide +kernel)) ggX11_weeksNow_X11_hearNow
theorem dX11_weeksNow_0 : decode cX11_weeksNow 0 = .ok (.iconst 0, 1) := by decide +kernel
theorem dX11_weeksNow_1 : decode cX11_weeksNow 1 = .ok (.istore 4, 2) := by decide +kernel
theorem dX11_weeksNow_3 : decode cX11_weeksNow 3 = .ok (.iload 4, 2) := by decide +kernel
theorem dX11_weeksNow_5 : decode cX11_weeksNow 5 = .ok (.bipush 6, 2) := by decide +kernel
theorem dX11_weeksNow_7 : decode cX11_weeksNow 7 = .ok (.if_icmp .ge 23, 3) := by decide +kernel
theorem dX11_weeksNow_10 : decode cX11_weeksNow 10 = .ok (.aload_n 0, 1) := by decide +kernel
theorem dX11_weeksNow_11 : decode cX11_weeksNow 11 = .ok (.getfield 41, 3) := by decide +kernel
theorem dX11_weeksNow_14 : decode cX11_weeksNow 14 = .ok (.iload 4, 2) := by decide +kernel
theorem dX11_weeksNow_16 : decode cX11_weeksNow 16 = .ok (.aload_n 0, 1) := by decide +kernel
theorem dX11_weeksNow_17 : decode cX11_weeksNow 17 = .ok (.getfield 13, 3) := by decide +kernel
theorem dX11_weeksNow_20 : decode cX11_weeksNow 20 = .ok (.iload 4, 2) := by decide +kernel
theorem dX11_weeksNow_22 : decode cX11_weeksNow 22 = .ok (.iaload, 1) := by decide +kernel
theorem dX11_weeksNow_23 : decode cX11_weeksNow 23 = .ok (.iastore, 1) := by decide +kernel
theorem dX11_weeksNow_24 : decode cX11_weeksNow 24 = .ok (.iinc 4 1, 3) := by decide +kernel
theorem dX11_weeksNow_27 : decode cX11_weeksNow 27 = .ok (.goto (-24), 3) := by decide +kernel
theorem dX11_weeksNow_30 : decode cX11_weeksNow 30 = .ok (.aload_n 0, 1) := by decide +kernel
theorem dX11_weeksNow_31 : decode cX11_weeksNow 31 = .ok (.iload_n 2, 1) := by decide +kernel
theorem dX11_weeksNow_32 : decode cX11_weeksNow 32 = .ok (.i2l, 1) := by decide +kernel
theorem dX11_weeksNow_33 : decode cX11_weeksNow 33 = .ok (.putfield 180, 3) := by decide +kernel
theorem dX11_weeksNow_36 : decode cX11_weeksNow 36 = .ok (.iconst 0, 1) := by decide +kernel
theorem dX11_weeksNow_37 : decode cX11_weeksNow 37 = .ok (.istore 4, 2) := by decide +kernel
theorem dX11_weeksNow_39 : decode cX11_weeksNow 39 = .ok (.iconst 0, 1) := by decide +kernel
theorem dX11_weeksNow_40 : decode cX11_weeksNow 40 = .ok (.istore 5, 2) := by decide +kernel
theorem dX11_weeksNow_42 : decode cX11_weeksNow 42 = .ok (.iconst 0, 1) := by decide +kernel
theorem dX11_weeksNow_43 : decode cX11_weeksNow 43 = .ok (.istore 6, 2) := by decide +kernel
theorem dX11_weeksNow_45 : decode cX11_weeksNow 45 = .ok (.iload 6, 2) := by decide +kernel
theorem dX11_weeksNow_47 : decode cX11_weeksNow 47 = .ok (.iload_n 1, 1) := by decide +kernel
theorem dX11_weeksNow_48 : decode cX11_weeksNow 48 = .ok (.if_icmp .ge 58, 3) := by decide +kernel
theorem dX11_weeksNow_51 : decode cX11_weeksNow 51 = .ok (.iconst 0, 1) := by decide +kernel
theorem dX11_weeksNow_52 : decode cX11_weeksNow 52 = .ok (.istore 7, 2) := by decide +kernel
theorem dX11_weeksNow_54 : decode cX11_weeksNow 54 = .ok (.iload 7, 2) := by decide +kernel
theorem dX11_weeksNow_56 : decode cX11_weeksNow 56 = .ok (.aload_n 0, 1) := by decide +kernel
theorem dX11_weeksNow_57 : decode cX11_weeksNow 57 = .ok (.getfield 82, 3) := by decide +kernel
theorem dX11_weeksNow_60 : decode cX11_weeksNow 60 = .ok (.if_icmp .ge 22, 3) := by decide +kernel
theorem dX11_weeksNow_63 : decode cX11_weeksNow 63 = .ok (.aload_n 0, 1) := by decide +kernel
theorem dX11_weeksNow_64 : decode cX11_weeksNow 64 = .ok (.getfield 13, 3) := by decide +kernel
theorem dX11_weeksNow_67 : decode cX11_weeksNow 67 = .ok (.iload 7, 2) := by decide +kernel
theorem dX11_weeksNow_69 : decode cX11_weeksNow 69 = .ok (.aload_n 0, 1) := by decide +kernel
theorem dX11_weeksNow_70 : decode cX11_weeksNow 70 = .ok (.bipush 10, 2) := by decide +kernel
theorem dX11_weeksNow_72 : decode cX11_weeksNow 72 = .ok (.invokevirtual 190, 3) := by decide +kernel
theorem dX11_weeksNow_75 : decode cX11_weeksNow 75 = .ok (.iastore, 1) := by decide +kernel
theorem dX11_weeksNow_76 : decode cX11_weeksNow 76 = .ok (.iinc 7 1, 3) := by decide +kernel
theorem dX11_weeksNow_79 : decode cX11_weeksNow 79 = .ok (.goto (-25), 3) := by decide +kernel
theorem dX11_weeksNow_82 : decode cX11_weeksNow 82 = .ok (.iload 4, 2) := by decide +kernel
theorem dX11_weeksNow_84 : decode cX11_weeksNow 84 = .ok (.aload_n 0, 1) := by decide +kernel
theorem dX11_weeksNow_85 : decode cX11_weeksNow 85 = .ok (.invokevirtual 132, 3) := by decide +kernel
theorem dX11_weeksNow_88 : decode cX11_weeksNow 88 = .ok (.iadd, 1) := by decide +kernel
theorem dX11_weeksNow_89 : decode cX11_weeksNow 89 = .ok (.istore 4, 2) := by decide +kernel
theorem dX11_weeksNow_91 : decode cX11_weeksNow 91 = .ok (.iload 5, 2) := by decide +kernel
theorem dX11_weeksNow_93 : decode cX11_weeksNow 93 = .ok (.aload_n 0, 1) := by decide +kernel
theorem dX11_weeksNow_94 : decode cX11_weeksNow 94 = .ok (.invokevirtual 135, 3) := by decide +kernel
theorem dX11_weeksNow_97 : decode cX11_weeksNow 97 = .ok (.iadd, 1) := by decide +kernel
theorem dX11_weeksNow_98 : decode cX11_weeksNow 98 = .ok (.istore 5, 2) := by decide +kernel
theorem dX11_weeksNow_100 : decode cX11_weeksNow 100 = .ok (.iinc 6 1, 3) := by decide +kernel
theorem dX11_weeksNow_103 : decode cX11_weeksNow 103 = .ok (.goto (-58), 3) := by decide +kernel
theorem dX11_weeksNow_106 : decode cX11_weeksNow 106 = .ok (.iconst 0, 1) := by decide +kernel
theorem dX11_weeksNow_107 : decode cX11_weeksNow 107 = .ok (.istore 6, 2) := by decide +kernel
theorem dX11_weeksNow_109 : decode cX11_weeksNow 109 = .ok (.iload 6, 2) := by decide +kernel
theorem dX11_weeksNow_111 : decode cX11_weeksNow 111 = .ok (.bipush 6, 2) := by decide +kernel
theorem dX11_weeksNow_113 : decode cX11_weeksNow 113 = .ok (.if_icmp .ge 23, 3) := by decide +kernel
theorem dX11_weeksNow_116 : decode cX11_weeksNow 116 = .ok (.aload_n 0, 1) := by decide +kernel
theorem dX11_weeksNow_117 : decode cX11_weeksNow 117 = .ok (.getfield 13, 3) := by decide +kernel
theorem dX11_weeksNow_120 : decode cX11_weeksNow 120 = .ok (.iload 6, 2) := by decide +kernel
theorem dX11_weeksNow_122 : decode cX11_weeksNow 122 = .ok (.aload_n 0, 1) := by decide +kernel
theorem dX11_weeksNow_123 : decode cX11_weeksNow 123 = .ok (.getfield 41, 3) := by decide +kernel
theorem dX11_weeksNow_126 : decode cX11_weeksNow 126 = .ok (.iload 6, 2) := by decide +kernel
theorem dX11_weeksNow_128 : decode cX11_weeksNow 128 = .ok (.iaload, 1) := by decide +kernel
theorem dX11_weeksNow_129 : decode cX11_weeksNow 129 = .ok (.iastore, 1) := by decide +kernel
theorem dX11_weeksNow_130 : decode cX11_weeksNow 130 = .ok (.iinc 6 1, 3) := by decide +kernel
theorem dX11_weeksNow_133 : decode cX11_weeksNow 133 = .ok (.goto (-24), 3) := by decide +kernel
theorem dX11_weeksNow_136 : decode cX11_weeksNow 136 = .ok (.iload_n 3, 1) := by decide +kernel
theorem dX11_weeksNow_137 : decode cX11_weeksNow 137 = .ok (.ifCond .ne 8, 3) := by decide +kernel
theorem dX11_weeksNow_140 : decode cX11_weeksNow 140 = .ok (.iload 4, 2) := by decide +kernel
theorem dX11_weeksNow_142 : decode cX11_weeksNow 142 = .ok (.goto 18, 3) := by decide +kernel
theorem dX11_weeksNow_145 : decode cX11_weeksNow 145 = .ok (.iload_n 3, 1) := by decide +kernel
theorem dX11_weeksNow_146 : decode cX11_weeksNow 146 = .ok (.iconst 1, 1) := by decide +kernel
theorem dX11_weeksNow_147 : decode cX11_weeksNow 147 = .ok (.if_icmp .ne 8, 3) := by decide +kernel
theorem dX11_weeksNow_150 : decode cX11_weeksNow 150 = .ok (.iload 5, 2) := by decide +kernel
theorem dX11_weeksNow_152 : decode cX11_weeksNow 152 = .ok (.goto 8, 3) := by decide +kernel
theorem dX11_weeksNow_155 : decode cX11_weeksNow 155 = .ok (.aload_n 0, 1) := by decide +kernel
theorem dX11_weeksNow_156 : decode cX11_weeksNow 156 = .ok (.getfield 180, 3) := by decide +kernel
theorem dX11_weeksNow_159 : decode cX11_weeksNow 159 = .ok (.l2i, 1) := by decide +kernel
theorem dX11_weeksNow_160 : decode cX11_weeksNow 160 = .ok (.ireturn, 1) := by decide +kernel
set_option maxRecDepth 20000 in
theorem ggX11_weeks_X11_within : GoodIn wsX11_weeks wsX11_within := goodIn_r _ [5] (by decide +kernel) (by decide +kernel)
set_option maxRecDepth 20000 in
theorem gX11_weeks_X11_within : GoodIn wsX11_weeks (va_wsS RX11 56 yX11_within wsX11_within) := goodIn_app (goodIn_of _ (by decide +kernel)) ggX11_weeks_X11_within
set_option maxRecDepth 20000 in
theorem ggX11_weeks_X11_weeksNow : GoodIn wsX11_weeks wsX11_weeksNow := goodIn_r _ [9, 10, 11, 12, 1, 13, 14, 15, 4, 16, 17, 18, 19, 20, 21, 22, 23, 24, 25, 26, 27, 28, 29, 30, 31, 32, 33, 34, 35, 36, 37, 38, 39, 40, 41, 42, 43, 44, 45, 46, 47, 48, 49, 50, 51, 52, 53, 54, 55, 56, 57, 58, 59, 60, 61, 62, 63, 64, 2, 3, 5, 65, 66, 67, 68, 69, 70, 71, 72, 73, 74, 75, 76, 77, 78, 79, 80, 81, 82, 83, 84, 85, 86, 87, 88, 89, 90, 91, 92, 93, 94, 95, 96, 97, 98, 99, 100] (by decide +kernel) (by decide +kernel)
set_option maxRecDepth 20000 in
theorem gX11_weeks_X11_weeksNow : GoodIn wsX11_weeks (wsV RX11 193 RX11 yX11_weeksNow wsX11_weeksNow) := goodIn_app (goodIn_of _ (by decide +kernel)) ggX11_weeks_X11_weeksNow
theorem dX11_weeks_0 : decode cX11_weeks 0 = .ok (.iload_n 1, 1) := by decide +kernel
theorem dX11_weeks_1 : decode cX11_weeks 1 = .ok (.iconst 1, 1) := by decide +kernel
theorem dX11_weeks_2 : decode cX11_weeks 2 = .ok (.bipush 60, 2) := by decide +kernel
theorem dX11_weeks_4 : decode cX11_weeks 4 = .ok (.invokestatic 56, 3) := by decide +kernel
theorem dX11_weeks_7 : decode cX11_weeks 7 = .ok (.ifCond .eq 16, 3) := by decide +kernel
theorem dX11_weeks_10 : decode cX11_weeks 10 = .ok (.iload_n 2, 1) := by decide +kernel
theorem dX11_weeks_11 : decode cX11_weeks 11 = .ok (.ifCond .lt 12, 3) := by decide +kernel
theorem dX11_weeks_14 : decode cX11_weeks 14 = .ok (.iload_n 3, 1) := by decide +kernel
theorem dX11_weeks_15 : decode cX11_weeks 15 = .ok (.iconst 0, 1) := by decide +kernel
theorem dX11_weeks_16 : decode cX11_weeks 16 = .ok (.iconst 2, 1) := by decide +kernel
theorem dX11_weeks_17 : decode cX11_weeks 17 = .ok (.invokestatic 56, 3) := by decide +kernel
theorem dX11_weeks_20 : decode cX11_weeks 20 = .ok (.ifCond .ne 6, 3) := by decide +kernel
theorem dX11_weeks_23 : decode cX11_weeks 23 = .ok (.bipush (-102), 2) := by decide +kernel
theorem dX11_weeks_25 : decode cX11_weeks 25 = .ok (.ireturn, 1) := by decide +kernel
theorem dX11_weeks_26 : decode cX11_weeks 26 = .ok (.aload_n 0, 1) := by decide +kernel
theorem dX11_weeks_27 : decode cX11_weeks 27 = .ok (.getfield 82, 3) := by decide +kernel
theorem dX11_weeks_30 : decode cX11_weeks 30 = .ok (.ifCond .ne 8, 3) := by decide +kernel
theorem dX11_weeks_33 : decode cX11_weeks 33 = .ok (.bipush (-103), 2) := by decide +kernel
theorem dX11_weeks_35 : decode cX11_weeks 35 = .ok (.goto 10, 3) := by decide +kernel
theorem dX11_weeks_38 : decode cX11_weeks 38 = .ok (.aload_n 0, 1) := by decide +kernel
theorem dX11_weeks_39 : decode cX11_weeks 39 = .ok (.iload_n 1, 1) := by decide +kernel
theorem dX11_weeks_40 : decode cX11_weeks 40 = .ok (.iload_n 2, 1) := by decide +kernel
theorem dX11_weeks_41 : decode cX11_weeks 41 = .ok (.iload_n 3, 1) := by decide +kernel
theorem dX11_weeks_42 : decode cX11_weeks 42 = .ok (.invokevirtual 193, 3) := by decide +kernel
theorem dX11_weeks_45 : decode cX11_weeks 45 = .ok (.ireturn, 1) := by decide +kernel
theorem dX11_image_0 : decode cX11_image 0 = .ok (.aload_n 0, 1) := by decide +kernel
theorem dX11_image_1 : decode cX11_image 1 = .ok (.getfield 82, 3) := by decide +kernel
theorem dX11_image_4 : decode cX11_image 4 = .ok (.ifCond .ne 6, 3) := by decide +kernel
theorem dX11_image_7 : decode cX11_image 7 = .ok (.bipush (-103), 2) := by decide +kernel
theorem dX11_image_9 : decode cX11_image 9 = .ok (.ireturn, 1) := by decide +kernel
theorem dX11_image_10 : decode cX11_image 10 = .ok (.aload_n 0, 1) := by decide +kernel
theorem dX11_image_11 : decode cX11_image 11 = .ok (.iconst 1, 1) := by decide +kernel
theorem dX11_image_12 : decode cX11_image 12 = .ok (.putfield 197, 3) := by decide +kernel
theorem dX11_image_15 : decode cX11_image 15 = .ok (.aload_n 0, 1) := by decide +kernel
theorem dX11_image_16 : decode cX11_image 16 = .ok (.aload_n 0, 1) := by decide +kernel
theorem dX11_image_17 : decode cX11_image 17 = .ok (.getfield 88, 3) := by decide +kernel
theorem dX11_image_20 : decode cX11_image 20 = .ok (.putfield 200, 3) := by decide +kernel
theorem dX11_image_23 : decode cX11_image 23 = .ok (.aload_n 0, 1) := by decide +kernel
theorem dX11_image_24 : decode cX11_image 24 = .ok (.aload_n 0, 1) := by decide +kernel
theorem dX11_image_25 : decode cX11_image 25 = .ok (.getfield 91, 3) := by decide +kernel
theorem dX11_image_28 : decode cX11_image 28 = .ok (.putfield 203, 3) := by decide +kernel
theorem dX11_image_31 : decode cX11_image 31 = .ok (.aload_n 0, 1) := by decide +kernel
theorem dX11_image_32 : decode cX11_image 32 = .ok (.aload_n 0, 1) := by decide +kernel
theorem dX11_image_33 : decode cX11_image 33 = .ok (.getfield 94, 3) := by decide +kernel
theorem dX11_image_36 : decode cX11_image 36 = .ok (.putfield 206, 3) := by decide +kernel
theorem dX11_image_39 : decode cX11_image 39 = .ok (.aload_n 0, 1) := by decide +kernel
theorem dX11_image_40 : decode cX11_image 40 = .ok (.aload_n 0, 1) := by decide +kernel
theorem dX11_image_41 : decode cX11_image 41 = .ok (.getfield 97, 3) := by decide +kernel
theorem dX11_image_44 : decode cX11_image 44 = .ok (.putfield 209, 3) := by decide +kernel
theorem dX11_image_47 : decode cX11_image 47 = .ok (.aload_n 0, 1) := by decide +kernel
theorem dX11_image_48 : decode cX11_image 48 = .ok (.aload_n 0, 1) := by decide +kernel
theorem dX11_image_49 : decode cX11_image 49 = .ok (.getfield 100, 3) := by decide +kernel
theorem dX11_image_52 : decode cX11_image 52 = .ok (.putfield 212, 3) := by decide +kernel
theorem dX11_image_55 : decode cX11_image 55 = .ok (.aload_n 0, 1) := by decide +kernel
theorem dX11_image_56 : decode cX11_image 56 = .ok (.aload_n 0, 1) := by decide +kernel
theorem dX11_image_57 : decode cX11_image 57 = .ok (.getfield 103, 3) := by decide +kernel
theorem dX11_image_60 : decode cX11_image 60 = .ok (.putfield 215, 3) := by decide +kernel
theorem dX11_image_63 : decode cX11_image 63 = .ok (.iconst 0, 1) := by decide +kernel
theorem dX11_image_64 : decode cX11_image 64 = .ok (.istore_n 1, 1) := by decide +kernel
theorem dX11_image_65 : decode cX11_image 65 = .ok (.iload_n 1, 1) := by decide +kernel
theorem dX11_image_66 : decode cX11_image 66 = .ok (.bipush 6, 2) := by decide +kernel
theorem dX11_image_68 : decode cX11_image 68 = .ok (.if_icmp .ge 57, 3) := by decide +kernel
theorem dX11_image_71 : decode cX11_image 71 = .ok (.aload_n 0, 1) := by decide +kernel
theorem dX11_image_72 : decode cX11_image 72 = .ok (.getfield 44, 3) := by decide +kernel
theorem dX11_image_75 : decode cX11_image 75 = .ok (.iload_n 1, 1) := by decide +kernel
theorem dX11_image_76 : decode cX11_image 76 = .ok (.aload_n 0, 1) := by decide +kernel
theorem dX11_image_77 : decode cX11_image 77 = .ok (.getfield 13, 3) := by decide +kernel
theorem dX11_image_80 : decode cX11_image 80 = .ok (.iload_n 1, 1) := by decide +kernel
theorem dX11_image_81 : decode cX11_image 81 = .ok (.iaload, 1) := by decide +kernel
theorem dX11_image_82 : decode cX11_image 82 = .ok (.iastore, 1) := by decide +kernel
theorem dX11_image_83 : decode cX11_image 83 = .ok (.aload_n 0, 1) := by decide +kernel
theorem dX11_image_84 : decode cX11_image 84 = .ok (.getfield 47, 3) := by decide +kernel
theorem dX11_image_87 : decode cX11_image 87 = .ok (.iload_n 1, 1) := by decide +kernel
theorem dX11_image_88 : decode cX11_image 88 = .ok (.aload_n 0, 1) := by decide +kernel
theorem dX11_image_89 : decode cX11_image 89 = .ok (.getfield 16, 3) := by decide +kernel
theorem dX11_image_92 : decode cX11_image 92 = .ok (.iload_n 1, 1) := by decide +kernel
theorem dX11_image_93 : decode cX11_image 93 = .ok (.iaload, 1) := by decide +kernel
theorem dX11_image_94 : decode cX11_image 94 = .ok (.iastore, 1) := by decide +kernel
theorem dX11_image_95 : decode cX11_image 95 = .ok (.aload_n 0, 1) := by decide +kernel
theorem dX11_image_96 : decode cX11_image 96 = .ok (.getfield 50, 3) := by decide +kernel
theorem dX11_image_99 : decode cX11_image 99 = .ok (.iload_n 1, 1) := by decide +kernel
theorem dX11_image_100 : decode cX11_image 100 = .ok (.aload_n 0, 1) := by decide +kernel
theorem dX11_image_101 : decode cX11_image 101 = .ok (.getfield 19, 3) := by decide +kernel
theorem dX11_image_104 : decode cX11_image 104 = .ok (.iload_n 1, 1) := by decide +kernel
theorem dX11_image_105 : decode cX11_image 105 = .ok (.iaload, 1) := by decide +kernel
theorem dX11_image_106 : decode cX11_image 106 = .ok (.iastore, 1) := by decide +kernel
theorem dX11_image_107 : decode cX11_image 107 = .ok (.aload_n 0, 1) := by decide +kernel
theorem dX11_image_108 : decode cX11_image 108 = .ok (.getfield 53, 3) := by decide +kernel
theorem dX11_image_111 : decode cX11_image 111 = .ok (.iload_n 1, 1) := by decide +kernel
theorem dX11_image_112 : decode cX11_image 112 = .ok (.aload_n 0, 1) := by decide +kernel
theorem dX11_image_113 : decode cX11_image 113 = .ok (.getfield 22, 3) := by decide +kernel
theorem dX11_image_116 : decode cX11_image 116 = .ok (.iload_n 1, 1) := by decide +kernel
theorem dX11_image_117 : decode cX11_image 117 = .ok (.iaload, 1) := by decide +kernel
theorem dX11_image_118 : decode cX11_image 118 = .ok (.iastore, 1) := by decide +kernel
theorem dX11_image_119 : decode cX11_image 119 = .ok (.iinc 1 1, 3) := by decide +kernel
theorem dX11_image_122 : decode cX11_image 122 = .ok (.goto (-57), 3) := by decide +kernel
theorem dX11_image_125 : decode cX11_image 125 = .ok (.aload_n 0, 1) := by decide +kernel
theorem dX11_image_126 : decode cX11_image 126 = .ok (.getfield 94, 3) := by decide +kernel
theorem dX11_image_129 : decode cX11_image 129 = .ok (.ireturn, 1) := by decide +kernel
theorem dX11_restore_0 : decode cX11_restore 0 = .ok (.aload_n 0, 1) := by decide +kernel
theorem dX11_restore_1 : decode cX11_restore 1 = .ok (.getfield 197, 3) := by decide +kernel
theorem dX11_restore_4 : decode cX11_restore 4 = .ok (.ifCond .eq 14, 3) := by decide +kernel
theorem dX11_restore_7 : decode cX11_restore 7 = .ok (.aload_n 0, 1) := by decide +kernel
theorem dX11_restore_8 : decode cX11_restore 8 = .ok (.getfield 200, 3) := by decide +kernel
theorem dX11_restore_11 : decode cX11_restore 11 = .ok (.aload_n 0, 1) := by decide +kernel
theorem dX11_restore_12 : decode cX11_restore 12 = .ok (.getfield 88, 3) := by decide +kernel
theorem dX11_restore_15 : decode cX11_restore 15 = .ok (.if_icmp .eq 6, 3) := by decide +kernel
theorem dX11_restore_18 : decode cX11_restore 18 = .ok (.bipush (-103), 2) := by decide +kernel
theorem dX11_restore_20 : decode cX11_restore 20 = .ok (.ireturn, 1) := by decide +kernel
theorem dX11_restore_21 : decode cX11_restore 21 = .ok (.aload_n 0, 1) := by decide +kernel
theorem dX11_restore_22 : decode cX11_restore 22 = .ok (.aload_n 0, 1) := by decide +kernel
theorem dX11_restore_23 : decode cX11_restore 23 = .ok (.getfield 203, 3) := by decide +kernel
theorem dX11_restore_26 : decode cX11_restore 26 = .ok (.putfield 91, 3) := by decide +kernel
theorem dX11_restore_29 : decode cX11_restore 29 = .ok (.aload_n 0, 1) := by decide +kernel
theorem dX11_restore_30 : decode cX11_restore 30 = .ok (.aload_n 0, 1) := by decide +kernel
theorem dX11_restore_31 : decode cX11_restore 31 = .ok (.getfield 206, 3) := by decide +kernel
theorem dX11_restore_34 : decode cX11_restore 34 = .ok (.putfield 94, 3) := by decide +kernel
theorem dX11_restore_37 : decode cX11_restore 37 = .ok (.aload_n 0, 1) := by decide +kernel
theorem dX11_restore_38 : decode cX11_restore 38 = .ok (.aload_n 0, 1) := by decide +kernel
theorem dX11_restore_39 : decode cX11_restore 39 = .ok (.getfield 209, 3) := by decide +kernel
theorem dX11_restore_42 : decode cX11_restore 42 = .ok (.putfield 97, 3) := by decide +kernel
theorem dX11_restore_45 : decode cX11_restore 45 = .ok (.aload_n 0, 1) := by decide +kernel
theorem dX11_restore_46 : decode cX11_restore 46 = .ok (.aload_n 0, 1) := by decide +kernel
theorem dX11_restore_47 : decode cX11_restore 47 = .ok (.getfield 212, 3) := by decide +kernel
theorem dX11_restore_50 : decode cX11_restore 50 = .ok (.putfield 100, 3) := by decide +kernel
theorem dX11_restore_53 : decode cX11_restore 53 = .ok (.aload_n 0, 1) := by decide +kernel
theorem dX11_restore_54 : decode cX11_restore 54 = .ok (.aload_n 0, 1) := by decide +kernel
theorem dX11_restore_55 : decode cX11_restore 55 = .ok (.getfield 215, 3) := by decide +kernel
theorem dX11_restore_58 : decode cX11_restore 58 = .ok (.putfield 103, 3) := by decide +kernel
theorem dX11_restore_61 : decode cX11_restore 61 = .ok (.iconst 0, 1) := by decide +kernel
theorem dX11_restore_62 : decode cX11_restore 62 = .ok (.istore_n 1, 1) := by decide +kernel
theorem dX11_restore_63 : decode cX11_restore 63 = .ok (.iload_n 1, 1) := by decide +kernel
theorem dX11_restore_64 : decode cX11_restore 64 = .ok (.bipush 6, 2) := by decide +kernel
theorem dX11_restore_66 : decode cX11_restore 66 = .ok (.if_icmp .ge 57, 3) := by decide +kernel
theorem dX11_restore_69 : decode cX11_restore 69 = .ok (.aload_n 0, 1) := by decide +kernel
theorem dX11_restore_70 : decode cX11_restore 70 = .ok (.getfield 13, 3) := by decide +kernel
theorem dX11_restore_73 : decode cX11_restore 73 = .ok (.iload_n 1, 1) := by decide +kernel
theorem dX11_restore_74 : decode cX11_restore 74 = .ok (.aload_n 0, 1) := by decide +kernel
theorem dX11_restore_75 : decode cX11_restore 75 = .ok (.getfield 44, 3) := by decide +kernel
theorem dX11_restore_78 : decode cX11_restore 78 = .ok (.iload_n 1, 1) := by decide +kernel
theorem dX11_restore_79 : decode cX11_restore 79 = .ok (.iaload, 1) := by decide +kernel
theorem dX11_restore_80 : decode cX11_restore 80 = .ok (.iastore, 1) := by decide +kernel
theorem dX11_restore_81 : decode cX11_restore 81 = .ok (.aload_n 0, 1) := by decide +kernel
theorem dX11_restore_82 : decode cX11_restore 82 = .ok (.getfield 16, 3) := by decide +kernel
theorem dX11_restore_85 : decode cX11_restore 85 = .ok (.iload_n 1, 1) := by decide +kernel
theorem dX11_restore_86 : decode cX11_restore 86 = .ok (.aload_n 0, 1) := by decide +kernel
theorem dX11_restore_87 : decode cX11_restore 87 = .ok (.getfield 47, 3) := by decide +kernel
theorem dX11_restore_90 : decode cX11_restore 90 = .ok (.iload_n 1, 1) := by decide +kernel
theorem dX11_restore_91 : decode cX11_restore 91 = .ok (.iaload, 1) := by decide +kernel
theorem dX11_restore_92 : decode cX11_restore 92 = .ok (.iastore, 1) := by decide +kernel
theorem dX11_restore_93 : decode cX11_restore 93 = .ok (.aload_n 0, 1) := by decide +kernel
theorem dX11_restore_94 : decode cX11_restore 94 = .ok (.getfield 19, 3) := by decide +kernel
theorem dX11_restore_97 : decode cX11_restore 97 = .ok (.iload_n 1, 1) := by decide +kernel
theorem dX11_restore_98 : decode cX11_restore 98 = .ok (.aload_n 0, 1) := by decide +kernel
theorem dX11_restore_99 : decode cX11_restore 99 = .ok (.getfield 50, 3) := by decide +kernel
theorem dX11_restore_102 : decode cX11_restore 102 = .ok (.iload_n 1, 1) := by decide +kernel
theorem dX11_restore_103 : decode cX11_restore 103 = .ok (.iaload, 1) := by decide +kernel
theorem dX11_restore_104 : decode cX11_restore 104 = .ok (.iastore, 1) := by decide +kernel
theorem dX11_restore_105 : decode cX11_restore 105 = .ok (.aload_n 0, 1) := by decide +kernel
theorem dX11_restore_106 : decode cX11_restore 106 = .ok (.getfield 22, 3) := by decide +kernel
theorem dX11_restore_109 : decode cX11_restore 109 = .ok (.iload_n 1, 1) := by decide +kernel
theorem dX11_restore_110 : decode cX11_restore 110 = .ok (.aload_n 0, 1) := by decide +kernel
theorem dX11_restore_111 : decode cX11_restore 111 = .ok (.getfield 53, 3) := by decide +kernel
theorem dX11_restore_114 : decode cX11_restore 114 = .ok (.iload_n 1, 1) := by decide +kernel
theorem dX11_restore_115 : decode cX11_restore 115 = .ok (.iaload, 1) := by decide +kernel
theorem dX11_restore_116 : decode cX11_restore 116 = .ok (.iastore, 1) := by decide +kernel
theorem dX11_restore_117 : decode cX11_restore 117 = .ok (.iinc 1 1, 3) := by decide +kernel
theorem dX11_restore_120 : decode cX11_restore 120 = .ok (.goto (-57), 3) := by decide +kernel
theorem dX11_restore_123 : decode cX11_restore 123 = .ok (.aload_n 0, 1) := by decide +kernel
theorem dX11_restore_124 : decode cX11_restore 124 = .ok (.getfield 94, 3) := by decide +kernel
theorem dX11_restore_127 : decode cX11_restore 127 = .ok (.ireturn, 1) := by decide +kernel
set_option maxRecDepth 20000 in
theorem ggX11_wayAll_X11_reads : GoodIn wsX11_wayAll wsX11_reads := goodIn_r _ [6, 7, 8, 9, 5, 10, 11, 12, 13, 14, 15, 16, 17, 18, 19, 20, 21, 22, 23, 24, 25, 26, 27, 28, 29, 30, 31, 32, 33, 34, 35, 36, 37, 38, 39, 40, 41, 42, 43, 44, 45, 46, 47, 48, 49, 50, 51, 52] (by decide +kernel) (by decide +kernel)
set_option maxRecDepth 20000 in
theorem gX11_wayAll_X11_reads : GoodIn wsX11_wayAll (wsV RX11 113 RX11 yX11_reads wsX11_reads) := goodIn_app (goodIn_of _ (by decide +kernel)) ggX11_wayAll_X11_reads
theorem dX11_wayAll_0 : decode cX11_wayAll 0 = .ok (.iconst 0, 1) := by decide +kernel
theorem dX11_wayAll_1 : decode cX11_wayAll 1 = .ok (.istore_n 1, 1) := by decide +kernel
theorem dX11_wayAll_2 : decode cX11_wayAll 2 = .ok (.iconst 0, 1) := by decide +kernel
theorem dX11_wayAll_3 : decode cX11_wayAll 3 = .ok (.istore_n 2, 1) := by decide +kernel
theorem dX11_wayAll_4 : decode cX11_wayAll 4 = .ok (.iload_n 2, 1) := by decide +kernel
theorem dX11_wayAll_5 : decode cX11_wayAll 5 = .ok (.aload_n 0, 1) := by decide +kernel
theorem dX11_wayAll_6 : decode cX11_wayAll 6 = .ok (.getfield 82, 3) := by decide +kernel
theorem dX11_wayAll_9 : decode cX11_wayAll 9 = .ok (.if_icmp .ge 19, 3) := by decide +kernel
theorem dX11_wayAll_12 : decode cX11_wayAll 12 = .ok (.iload_n 1, 1) := by decide +kernel
theorem dX11_wayAll_13 : decode cX11_wayAll 13 = .ok (.iconst 1, 1) := by decide +kernel
theorem dX11_wayAll_14 : decode cX11_wayAll 14 = .ok (.aload_n 0, 1) := by decide +kernel
theorem dX11_wayAll_15 : decode cX11_wayAll 15 = .ok (.iload_n 2, 1) := by decide +kernel
theorem dX11_wayAll_16 : decode cX11_wayAll 16 = .ok (.invokevirtual 113, 3) := by decide +kernel
theorem dX11_wayAll_19 : decode cX11_wayAll 19 = .ok (.iadd, 1) := by decide +kernel
theorem dX11_wayAll_20 : decode cX11_wayAll 20 = .ok (.iadd, 1) := by decide +kernel
theorem dX11_wayAll_21 : decode cX11_wayAll 21 = .ok (.istore_n 1, 1) := by decide +kernel
theorem dX11_wayAll_22 : decode cX11_wayAll 22 = .ok (.iinc 2 1, 3) := by decide +kernel
theorem dX11_wayAll_25 : decode cX11_wayAll 25 = .ok (.goto (-21), 3) := by decide +kernel
theorem dX11_wayAll_28 : decode cX11_wayAll 28 = .ok (.iload_n 1, 1) := by decide +kernel
theorem dX11_wayAll_29 : decode cX11_wayAll 29 = .ok (.ireturn, 1) := by decide +kernel
set_option maxRecDepth 20000 in
theorem ggX11_howMany_X11_sourNow : GoodIn wsX11_howMany wsX11_sourNow := goodIn_r _ [14, 1, 15, 16, 17, 13, 18, 19, 20, 21, 22, 23, 24, 25, 26, 27, 28, 29, 30, 31, 32, 33, 34, 35, 36, 37, 38, 2, 62, 63, 64, 65, 66, 67, 68, 69, 70, 71, 72, 73, 74, 75, 76, 77, 78, 79, 80, 81, 82, 83, 84, 85, 86, 87, 88, 89, 90, 91, 92, 93, 94, 95, 96, 97] (by decide +kernel) (by decide +kernel)
set_option maxRecDepth 20000 in
theorem gX11_howMany_X11_sourNow : GoodIn wsX11_howMany (wsV RX11 132 RX11 yX11_sourNow wsX11_sourNow) := goodIn_app (goodIn_of _ (by decide +kernel)) ggX11_howMany_X11_sourNow
set_option maxRecDepth 20000 in
theorem ggX11_howMany_X11_hearNow : GoodIn wsX11_howMany wsX11_hearNow := goodIn_r _ [42, 1, 15, 16, 17, 13, 18, 19, 20, 21, 22, 23, 24, 25, 26, 27, 28, 29, 30, 31, 32, 33, 34, 43, 44, 45, 46, 47, 48, 49, 50, 51, 52, 53, 54, 55, 56, 57, 62, 63, 64, 65, 66, 67, 68, 69, 70, 71, 72, 73, 74, 75, 76, 77, 78, 79, 80, 81, 82, 83, 84, 85, 86, 87, 88, 89, 90, 91, 92, 93, 94, 95, 96, 97] (by decide +kernel) (by decide +kernel)
set_option maxRecDepth 20000 in
theorem gX11_howMany_X11_hearNow : GoodIn wsX11_howMany (wsV RX11 135 RX11 yX11_hearNow wsX11_hearNow) := goodIn_app (goodIn_of _ (by decide +kernel)) ggX11_howMany_X11_hearNow
set_option maxRecDepth 20000 in
theorem ggX11_howMany_X11_wayAll : GoodIn wsX11_howMany wsX11_wayAll := goodIn_r _ [61, 1, 21, 22, 23, 13, 24, 25, 26, 27, 28, 29, 30, 31, 32, 33, 34, 62, 63, 64, 65, 66, 67, 68, 69, 70, 71, 72, 73, 74, 75, 76, 77, 78, 79, 80, 81, 82, 83, 84, 85, 86, 87, 88, 89, 90, 91, 92, 93, 94, 95, 96, 97] (by decide +kernel) (by decide +kernel)
set_option maxRecDepth 20000 in
theorem gX11_howMany_X11_wayAll : GoodIn wsX11_howMany (wsV RX11 218 RX11 yX11_wayAll wsX11_wayAll) := goodIn_app (goodIn_of _ (by decide +kernel)) ggX11_howMany_X11_wayAll
theorem dX11_howMany_0 : decode cX11_howMany 0 = .ok (.iload_n 1, 1) := by decide +kernel
theorem dX11_howMany_1 : decode cX11_howMany 1 = .ok (.tableswitch 123 0 11 #[63, 68, 73, 78, 83, 88, 93, 98, 103, 108, 113, 118], 63) := by decide +kernel
theorem dX11_howMany_64 : decode cX11_howMany 64 = .ok (.aload_n 0, 1) := by decide +kernel
theorem dX11_howMany_65 : decode cX11_howMany 65 = .ok (.getfield 82, 3) := by decide +kernel
theorem dX11_howMany_68 : decode cX11_howMany 68 = .ok (.ireturn, 1) := by decide +kernel
theorem dX11_howMany_69 : decode cX11_howMany 69 = .ok (.aload_n 0, 1) := by decide +kernel
theorem dX11_howMany_70 : decode cX11_howMany 70 = .ok (.getfield 85, 3) := by decide +kernel
theorem dX11_howMany_73 : decode cX11_howMany 73 = .ok (.ireturn, 1) := by decide +kernel
theorem dX11_howMany_74 : decode cX11_howMany 74 = .ok (.aload_n 0, 1) := by decide +kernel
theorem dX11_howMany_75 : decode cX11_howMany 75 = .ok (.getfield 94, 3) := by decide +kernel
theorem dX11_howMany_78 : decode cX11_howMany 78 = .ok (.ireturn, 1) := by decide +kernel
theorem dX11_howMany_79 : decode cX11_howMany 79 = .ok (.aload_n 0, 1) := by decide +kernel
theorem dX11_howMany_80 : decode cX11_howMany 80 = .ok (.getfield 97, 3) := by decide +kernel
theorem dX11_howMany_83 : decode cX11_howMany 83 = .ok (.ireturn, 1) := by decide +kernel
theorem dX11_howMany_84 : decode cX11_howMany 84 = .ok (.aload_n 0, 1) := by decide +kernel
theorem dX11_howMany_85 : decode cX11_howMany 85 = .ok (.getfield 100, 3) := by decide +kernel
theorem dX11_howMany_88 : decode cX11_howMany 88 = .ok (.ireturn, 1) := by decide +kernel
theorem dX11_howMany_89 : decode cX11_howMany 89 = .ok (.aload_n 0, 1) := by decide +kernel
theorem dX11_howMany_90 : decode cX11_howMany 90 = .ok (.invokevirtual 132, 3) := by decide +kernel
theorem dX11_howMany_93 : decode cX11_howMany 93 = .ok (.ireturn, 1) := by decide +kernel
theorem dX11_howMany_94 : decode cX11_howMany 94 = .ok (.aload_n 0, 1) := by decide +kernel
theorem dX11_howMany_95 : decode cX11_howMany 95 = .ok (.invokevirtual 135, 3) := by decide +kernel
theorem dX11_howMany_98 : decode cX11_howMany 98 = .ok (.ireturn, 1) := by decide +kernel
theorem dX11_howMany_99 : decode cX11_howMany 99 = .ok (.aload_n 0, 1) := by decide +kernel
theorem dX11_howMany_100 : decode cX11_howMany 100 = .ok (.invokevirtual 218, 3) := by decide +kernel
theorem dX11_howMany_103 : decode cX11_howMany 103 = .ok (.ireturn, 1) := by decide +kernel
theorem dX11_howMany_104 : decode cX11_howMany 104 = .ok (.aload_n 0, 1) := by decide +kernel
theorem dX11_howMany_105 : decode cX11_howMany 105 = .ok (.getfield 103, 3) := by decide +kernel
theorem dX11_howMany_108 : decode cX11_howMany 108 = .ok (.ireturn, 1) := by decide +kernel
theorem dX11_howMany_109 : decode cX11_howMany 109 = .ok (.aload_n 0, 1) := by decide +kernel
theorem dX11_howMany_110 : decode cX11_howMany 110 = .ok (.getfield 60, 3) := by decide +kernel
theorem dX11_howMany_113 : decode cX11_howMany 113 = .ok (.ireturn, 1) := by decide +kernel
theorem dX11_howMany_114 : decode cX11_howMany 114 = .ok (.aload_n 0, 1) := by decide +kernel
theorem dX11_howMany_115 : decode cX11_howMany 115 = .ok (.getfield 88, 3) := by decide +kernel
theorem dX11_howMany_118 : decode cX11_howMany 118 = .ok (.ireturn, 1) := by decide +kernel
theorem dX11_howMany_119 : decode cX11_howMany 119 = .ok (.aload_n 0, 1) := by decide +kernel
theorem dX11_howMany_120 : decode cX11_howMany 120 = .ok (.getfield 160, 3) := by decide +kernel
theorem dX11_howMany_123 : decode cX11_howMany 123 = .ok (.ireturn, 1) := by decide +kernel
theorem dX11_howMany_124 : decode cX11_howMany 124 = .ok (.bipush (-102), 2) := by decide +kernel
theorem dX11_howMany_126 : decode cX11_howMany 126 = .ok (.ireturn, 1) := by decide +kernel
set_option maxRecDepth 20000 in
theorem ggX11_count_X11_howMany : GoodIn wsX11_count wsX11_howMany := goodIn_r _ [5, 6, 7, 8, 9, 10, 11, 12, 13, 14, 15, 16, 17, 4, 18, 19, 20, 21, 22, 23, 24, 25, 26, 27, 28, 29, 30, 31, 32, 33, 34, 35, 36, 37, 38, 39, 40, 41, 42, 43, 44, 45, 46, 47, 48, 49, 50, 51, 52, 53, 54, 55, 56, 57, 58, 59, 60, 61, 62, 63, 64, 65, 66, 67, 68, 69, 70, 71, 72, 73, 74, 75, 76, 77, 78, 79, 80, 81, 82, 83, 84, 85, 86, 87, 88, 89, 90, 91, 92, 93, 94, 95, 96, 97, 98, 99, 100, 101] (by decide +kernel) (by decide +kernel)
set_option maxRecDepth 20000 in
theorem gX11_count_X11_howMany : GoodIn wsX11_count (wsV RX11 221 RX11 yX11_howMany wsX11_howMany) := goodIn_app (goodIn_of _ (by decide +kernel)) ggX11_count_X11_howMany
theorem dX11_count_0 : decode cX11_count 0 = .ok (.aload_n 0, 1) := by decide +kernel
theorem dX11_count_1 : decode cX11_count 1 = .ok (.iload_n 1, 1) := by decide +kernel
theorem dX11_count_2 : decode cX11_count 2 = .ok (.invokevirtual 221, 3) := by decide +kernel
theorem dX11_count_5 : decode cX11_count 5 = .ok (.ireturn, 1) := by decide +kernel
theorem dX11_mix_0 : decode cX11_mix 0 = .ok (.aload_n 0, 1) := by decide +kernel
theorem dX11_mix_1 : decode cX11_mix 1 = .ok (.ldc2_w 224, 3) := by decide +kernel
theorem dX11_mix_4 : decode cX11_mix 4 = .ok (.aload_n 0, 1) := by decide +kernel
theorem dX11_mix_5 : decode cX11_mix 5 = .ok (.getfield 226, 3) := by decide +kernel
theorem dX11_mix_8 : decode cX11_mix 8 = .ok (.lmul, 1) := by decide +kernel
theorem dX11_mix_9 : decode cX11_mix 9 = .ok (.lload_n 1, 1) := by decide +kernel
theorem dX11_mix_10 : decode cX11_mix 10 = .ok (.ladd, 1) := by decide +kernel
theorem dX11_mix_11 : decode cX11_mix 11 = .ok (.putfield 226, 3) := by decide +kernel
theorem dX11_mix_14 : decode cX11_mix 14 = .ok (.return_, 1) := by decide +kernel
set_option maxRecDepth 20000 in
theorem ggX11_digest_X11_houseNow : GoodIn wsX11_digest wsX11_houseNow := goodIn_r _ [10, 11, 12, 13, 14, 15, 16, 17, 9, 18, 3, 19, 20, 21, 22, 23, 24, 25, 26, 27, 28, 29, 30, 31, 32, 33, 34, 35, 36, 37, 38, 39, 40, 41, 42, 43, 44, 45, 46, 47, 48, 49, 50, 51, 52, 53, 54, 55, 56, 57, 58, 59, 60, 61, 62, 63, 64, 65, 66, 67, 68, 69, 70, 110, 111, 112, 113, 114, 115, 116, 117, 118, 119, 120, 121, 122, 123, 124, 125, 126, 127, 128, 129, 130, 131, 132, 133, 134, 135, 136, 137, 138, 139, 140, 141, 142, 143, 144, 145] (by decide +kernel) (by decide +kernel)
set_option maxRecDepth 20000 in
theorem gX11_digest_X11_houseNow : GoodIn wsX11_digest (wsV RX11 147 RX11 yX11_houseNow wsX11_houseNow) := goodIn_app (goodIn_of _ (by decide +kernel)) ggX11_digest_X11_houseNow
set_option maxRecDepth 20000 in
theorem ggX11_digest_X11_mix : GoodIn wsX11_digest wsX11_mix := goodIn_r _ [74, 75, 2, 110, 111, 112, 113, 114, 115, 116, 117, 118, 119, 120, 121, 122, 123, 124, 125, 126, 127, 128, 129, 130, 131, 132, 133, 134, 135, 136, 137, 138, 139, 140, 141, 142, 143, 144, 145] (by decide +kernel) (by decide +kernel)
set_option maxRecDepth 20000 in
theorem gX11_digest_X11_mix : GoodIn wsX11_digest (wsV RX11 231 RX11 yX11_mix wsX11_mix) := goodIn_app (goodIn_of _ (by decide +kernel)) ggX11_digest_X11_mix
set_option maxRecDepth 20000 in
theorem ggX11_digest_X11_setsNow : GoodIn wsX11_digest wsX11_setsNow := goodIn_r _ [79, 3, 80, 81, 82, 9, 83, 13, 84, 14, 85, 86, 15, 16, 17, 18, 19, 20, 21, 22, 23, 24, 25, 26, 27, 28, 29, 30, 12, 11, 110, 111, 112, 113, 114, 115, 116, 117, 118, 119, 120, 121, 122, 123, 124, 125, 126, 127, 128, 129, 130, 131, 132, 133, 134, 135, 136, 137, 138, 139, 140, 141, 142, 143, 144, 145] (by decide +kernel) (by decide +kernel)
set_option maxRecDepth 20000 in
theorem gX11_digest_X11_setsNow : GoodIn wsX11_digest (wsV RX11 169 RX11 yX11_setsNow wsX11_setsNow) := goodIn_app (goodIn_of _ (by decide +kernel)) ggX11_digest_X11_setsNow
set_option maxRecDepth 20000 in
theorem ggX11_digest_X11_askNow : GoodIn wsX11_digest wsX11_askNow := goodIn_r _ [90, 91, 3, 76, 77, 78, 9, 79, 80, 81, 82, 83, 13, 84, 14, 85, 86, 15, 16, 17, 18, 19, 20, 21, 22, 23, 24, 25, 26, 27, 28, 29, 30, 12, 11, 92, 93, 94, 95, 96, 110, 111, 112, 113, 114, 115, 116, 117, 118, 119, 120, 121, 122, 123, 124, 125, 126, 127, 128, 129, 130, 131, 132, 133, 134, 135, 136, 137, 138, 139, 140, 141, 142, 143, 144, 145] (by decide +kernel) (by decide +kernel)
set_option maxRecDepth 20000 in
theorem gX11_digest_X11_askNow : GoodIn wsX11_digest (wsV RX11 175 RX11 yX11_askNow wsX11_askNow) := goodIn_app (goodIn_of _ (by decide +kernel)) ggX11_digest_X11_askNow
set_option maxRecDepth 20000 in
theorem ggX11_digest_X11_howMany : GoodIn wsX11_digest wsX11_howMany := goodIn_r _ [100, 3, 39, 101, 102, 103, 84, 4, 104, 105, 63, 64, 65, 9, 66, 15, 16, 17, 18, 19, 14, 20, 21, 22, 23, 13, 24, 25, 26, 27, 28, 29, 30, 12, 11, 35, 36, 37, 38, 67, 68, 69, 70, 40, 41, 42, 43, 44, 45, 46, 47, 48, 49, 50, 51, 52, 53, 54, 106, 107, 108, 109, 110, 111, 112, 113, 114, 115, 116, 117, 118, 119, 120, 121, 122, 123, 124, 125, 126, 127, 128, 129, 130, 131, 132, 133, 134, 135, 136, 137, 138, 139, 140, 141, 142, 143, 144, 145] (by decide +kernel) (by decide +kernel)
set_option maxRecDepth 20000 in
theorem gX11_digest_X11_howMany : GoodIn wsX11_digest (wsV RX11 221 RX11 yX11_howMany wsX11_howMany) := goodIn_app (goodIn_of _ (by decide +kernel)) ggX11_digest_X11_howMany
theorem dX11_digest_0 : decode cX11_digest 0 = .ok (.aload_n 0, 1) := by decide +kernel
theorem dX11_digest_1 : decode cX11_digest 1 = .ok (.ldc2_w 229, 3) := by decide +kernel
theorem dX11_digest_4 : decode cX11_digest 4 = .ok (.putfield 226, 3) := by decide +kernel
theorem dX11_digest_7 : decode cX11_digest 7 = .ok (.iconst 0, 1) := by decide +kernel
theorem dX11_digest_8 : decode cX11_digest 8 = .ok (.istore_n 1, 1) := by decide +kernel
theorem dX11_digest_9 : decode cX11_digest 9 = .ok (.iload_n 1, 1) := by decide +kernel
theorem dX11_digest_10 : decode cX11_digest 10 = .ok (.aload_n 0, 1) := by decide +kernel
theorem dX11_digest_11 : decode cX11_digest 11 = .ok (.getfield 82, 3) := by decide +kernel
theorem dX11_digest_14 : decode cX11_digest 14 = .ok (.if_icmp .ge 34, 3) := by decide +kernel
theorem dX11_digest_17 : decode cX11_digest 17 = .ok (.iconst 0, 1) := by decide +kernel
theorem dX11_digest_18 : decode cX11_digest 18 = .ok (.istore_n 2, 1) := by decide +kernel
theorem dX11_digest_19 : decode cX11_digest 19 = .ok (.iload_n 2, 1) := by decide +kernel
theorem dX11_digest_20 : decode cX11_digest 20 = .ok (.bipush 9, 2) := by decide +kernel
theorem dX11_digest_22 : decode cX11_digest 22 = .ok (.if_icmp .ge 20, 3) := by decide +kernel
theorem dX11_digest_25 : decode cX11_digest 25 = .ok (.aload_n 0, 1) := by decide +kernel
theorem dX11_digest_26 : decode cX11_digest 26 = .ok (.aload_n 0, 1) := by decide +kernel
theorem dX11_digest_27 : decode cX11_digest 27 = .ok (.iload_n 1, 1) := by decide +kernel
theorem dX11_digest_28 : decode cX11_digest 28 = .ok (.iload_n 2, 1) := by decide +kernel
theorem dX11_digest_29 : decode cX11_digest 29 = .ok (.invokevirtual 147, 3) := by decide +kernel
theorem dX11_digest_32 : decode cX11_digest 32 = .ok (.i2l, 1) := by decide +kernel
theorem dX11_digest_33 : decode cX11_digest 33 = .ok (.invokevirtual 231, 3) := by decide +kernel
theorem dX11_digest_36 : decode cX11_digest 36 = .ok (.iinc 2 1, 3) := by decide +kernel
theorem dX11_digest_39 : decode cX11_digest 39 = .ok (.goto (-20), 3) := by decide +kernel
theorem dX11_digest_42 : decode cX11_digest 42 = .ok (.iinc 1 1, 3) := by decide +kernel
theorem dX11_digest_45 : decode cX11_digest 45 = .ok (.goto (-36), 3) := by decide +kernel
theorem dX11_digest_48 : decode cX11_digest 48 = .ok (.aload_n 0, 1) := by decide +kernel
theorem dX11_digest_49 : decode cX11_digest 49 = .ok (.getfield 82, 3) := by decide +kernel
theorem dX11_digest_52 : decode cX11_digest 52 = .ok (.ifCond .le 32, 3) := by decide +kernel
theorem dX11_digest_55 : decode cX11_digest 55 = .ok (.aload_n 0, 1) := by decide +kernel
theorem dX11_digest_56 : decode cX11_digest 56 = .ok (.aload_n 0, 1) := by decide +kernel
theorem dX11_digest_57 : decode cX11_digest 57 = .ok (.iconst 0, 1) := by decide +kernel
theorem dX11_digest_58 : decode cX11_digest 58 = .ok (.invokevirtual 169, 3) := by decide +kernel
theorem dX11_digest_61 : decode cX11_digest 61 = .ok (.i2l, 1) := by decide +kernel
theorem dX11_digest_62 : decode cX11_digest 62 = .ok (.invokevirtual 231, 3) := by decide +kernel
theorem dX11_digest_65 : decode cX11_digest 65 = .ok (.aload_n 0, 1) := by decide +kernel
theorem dX11_digest_66 : decode cX11_digest 66 = .ok (.aload_n 0, 1) := by decide +kernel
theorem dX11_digest_67 : decode cX11_digest 67 = .ok (.iconst 1, 1) := by decide +kernel
theorem dX11_digest_68 : decode cX11_digest 68 = .ok (.invokevirtual 169, 3) := by decide +kernel
theorem dX11_digest_71 : decode cX11_digest 71 = .ok (.i2l, 1) := by decide +kernel
theorem dX11_digest_72 : decode cX11_digest 72 = .ok (.invokevirtual 231, 3) := by decide +kernel
theorem dX11_digest_75 : decode cX11_digest 75 = .ok (.aload_n 0, 1) := by decide +kernel
theorem dX11_digest_76 : decode cX11_digest 76 = .ok (.aload_n 0, 1) := by decide +kernel
theorem dX11_digest_77 : decode cX11_digest 77 = .ok (.invokevirtual 175, 3) := by decide +kernel
theorem dX11_digest_80 : decode cX11_digest 80 = .ok (.i2l, 1) := by decide +kernel
theorem dX11_digest_81 : decode cX11_digest 81 = .ok (.invokevirtual 231, 3) := by decide +kernel
theorem dX11_digest_84 : decode cX11_digest 84 = .ok (.iconst 0, 1) := by decide +kernel
theorem dX11_digest_85 : decode cX11_digest 85 = .ok (.istore_n 1, 1) := by decide +kernel
theorem dX11_digest_86 : decode cX11_digest 86 = .ok (.iload_n 1, 1) := by decide +kernel
theorem dX11_digest_87 : decode cX11_digest 87 = .ok (.aload_n 0, 1) := by decide +kernel
theorem dX11_digest_88 : decode cX11_digest 88 = .ok (.getfield 60, 3) := by decide +kernel
theorem dX11_digest_91 : decode cX11_digest 91 = .ok (.if_icmp .ge 20, 3) := by decide +kernel
theorem dX11_digest_94 : decode cX11_digest 94 = .ok (.aload_n 0, 1) := by decide +kernel
theorem dX11_digest_95 : decode cX11_digest 95 = .ok (.aload_n 0, 1) := by decide +kernel
theorem dX11_digest_96 : decode cX11_digest 96 = .ok (.getfield 25, 3) := by decide +kernel
theorem dX11_digest_99 : decode cX11_digest 99 = .ok (.iload_n 1, 1) := by decide +kernel
theorem dX11_digest_100 : decode cX11_digest 100 = .ok (.baload, 1) := by decide +kernel
theorem dX11_digest_101 : decode cX11_digest 101 = .ok (.i2l, 1) := by decide +kernel
theorem dX11_digest_102 : decode cX11_digest 102 = .ok (.invokevirtual 231, 3) := by decide +kernel
theorem dX11_digest_105 : decode cX11_digest 105 = .ok (.iinc 1 1, 3) := by decide +kernel
theorem dX11_digest_108 : decode cX11_digest 108 = .ok (.goto (-22), 3) := by decide +kernel
theorem dX11_digest_111 : decode cX11_digest 111 = .ok (.iconst 0, 1) := by decide +kernel
theorem dX11_digest_112 : decode cX11_digest 112 = .ok (.istore_n 1, 1) := by decide +kernel
theorem dX11_digest_113 : decode cX11_digest 113 = .ok (.iload_n 1, 1) := by decide +kernel
theorem dX11_digest_114 : decode cX11_digest 114 = .ok (.bipush 12, 2) := by decide +kernel
theorem dX11_digest_116 : decode cX11_digest 116 = .ok (.if_icmp .ge 19, 3) := by decide +kernel
theorem dX11_digest_119 : decode cX11_digest 119 = .ok (.aload_n 0, 1) := by decide +kernel
theorem dX11_digest_120 : decode cX11_digest 120 = .ok (.aload_n 0, 1) := by decide +kernel
theorem dX11_digest_121 : decode cX11_digest 121 = .ok (.iload_n 1, 1) := by decide +kernel
theorem dX11_digest_122 : decode cX11_digest 122 = .ok (.invokevirtual 221, 3) := by decide +kernel
theorem dX11_digest_125 : decode cX11_digest 125 = .ok (.i2l, 1) := by decide +kernel
theorem dX11_digest_126 : decode cX11_digest 126 = .ok (.invokevirtual 231, 3) := by decide +kernel
theorem dX11_digest_129 : decode cX11_digest 129 = .ok (.iinc 1 1, 3) := by decide +kernel
theorem dX11_digest_132 : decode cX11_digest 132 = .ok (.goto (-19), 3) := by decide +kernel
theorem dX11_digest_135 : decode cX11_digest 135 = .ok (.aload_n 0, 1) := by decide +kernel
theorem dX11_digest_136 : decode cX11_digest 136 = .ok (.getfield 226, 3) := by decide +kernel
theorem dX11_digest_139 : decode cX11_digest 139 = .ok (.lreturn, 1) := by decide +kernel
end
section
/-- numbers as Nats: a row that changes one place -/
theorem mr_upI (g : Nat → Nat) (i x : Nat) : upd (fun j => nI (g j)) i (nI x) = fun j => nI (va_up g i x j) := by
  funext j
  by_cases h : j = i
  · subst h; simp [upd, va_up]
  · simp [upd, va_up, h]
theorem mr_cpyI (f g : Nat → Nat) (sp dp n : Nat) : va_cpy (fun j => nI (f j)) (fun j => nI (g j)) sp dp n = fun j => nI (va_cpy f g sp dp n j) := by
  funext j
  unfold va_cpy
  split <;> rfl
theorem mr_ge0 {x : Nat} (h : x < 2 ^ 31) : 0 ≤ nI x := nI_pos' h
section MRA
variable {p : Program} {l : Launch} {e : Env} {R : Room} {s : State} {m : MethodId} {args : Array Value} {below : List Frame} {meth : Method} {c : Code} {H : Heap} {locs : List Loc} {cells slots : Nat} {Q : State → Prop}
variable {cc : ByteArray} {pc : Nat} {ls : Array Slot} {rest : List Value} {D : va_G} {cl : List vw_C} {A : Nat → Prop} {a : Nat} {tys : List (ClassId × FieldType)} {ws : va_W} {H0 : Heap}
theorem n_top {x y : Int32} (h : x = y) (k : W p l e R s m args below meth c H locs cells slots Q (F0 m pc ls (.int y :: rest))) : W p l e R s m args below meth c H locs cells slots Q (F0 m pc ls (.int x :: rest)) := by rw [h]; exact k
theorem n_topl {x y : Int64} (h : x = y) (k : W p l e R s m args below meth c H locs cells slots Q (F0 m pc ls (.long y :: rest))) : W p l e R s m args below meth c H locs cells slots Q (F0 m pc ls (.long x :: rest)) := by rw [h]; exact k
theorem n_iadd (hx : p.tables.exec = Jvm.exec) (hb : c.code = cc) {x y : Nat}  (hdg : decode cc pc = .ok (.iadd, 1)) (k : W p l e R s m args below meth c H locs cells slots Q (F0 m (pc + 1) ls (.int (nI (x + y)) :: rest))) : W p l e R s m args below meth c H locs cells slots Q (F0 m pc ls (.int (nI y) :: .int (nI x) :: rest)) := lv_iadd hx hb hdg (by rw [nI_add]; exact k)
theorem n_isub (hx : p.tables.exec = Jvm.exec) (hb : c.code = cc) {x y : Nat} (h : y ≤ x) (hdg : decode cc pc = .ok (.isub, 1)) (k : W p l e R s m args below meth c H locs cells slots Q (F0 m (pc + 1) ls (.int (nI (x - y)) :: rest))) : W p l e R s m args below meth c H locs cells slots Q (F0 m pc ls (.int (nI y) :: .int (nI x) :: rest)) := lv_isub hx hb hdg (by rw [pk_sub h]; exact k)
theorem n_imul (hx : p.tables.exec = Jvm.exec) (hb : c.code = cc) {x y : Nat}  (hdg : decode cc pc = .ok (.imul, 1)) (k : W p l e R s m args below meth c H locs cells slots Q (F0 m (pc + 1) ls (.int (nI (x * y)) :: rest))) : W p l e R s m args below meth c H locs cells slots Q (F0 m pc ls (.int (nI y) :: .int (nI x) :: rest)) := lv_imul hx hb hdg (by rw [pk_mul]; exact k)
theorem n_idiv (hx : p.tables.exec = Jvm.exec) (hb : c.code = cc) {x y : Nat} (h0 : 0 < y) (h1 : x < 2 ^ 31) (h2 : y < 2 ^ 31) (hdg : decode cc pc = .ok (.idiv, 1)) (k : W p l e R s m args below meth c H locs cells slots Q (F0 m (pc + 1) ls (.int (nI (x / y)) :: rest))) : W p l e R s m args below meth c H locs cells slots Q (F0 m pc ls (.int (nI y) :: .int (nI x) :: rest)) := lv_idiv hx hb hdg (nI_ne0 h0 h2) (by rw [pk_div h1 h0 h2]; exact k)
theorem n_irem (hx : p.tables.exec = Jvm.exec) (hb : c.code = cc) {x y : Nat} (h0 : 0 < y) (h1 : x < 2 ^ 31) (h2 : y < 2 ^ 31) (hdg : decode cc pc = .ok (.irem, 1)) (k : W p l e R s m args below meth c H locs cells slots Q (F0 m (pc + 1) ls (.int (nI (x % y)) :: rest))) : W p l e R s m args below meth c H locs cells slots Q (F0 m pc ls (.int (nI y) :: .int (nI x) :: rest)) := lv_irem hx hb hdg (nI_ne0 h0 h2) (by rw [pk_rem h1 h0 h2]; exact k)
theorem n_icmp_eq (hx : p.tables.exec = Jvm.exec) (hb : c.code = cc) {x y : Nat} {off : Int} {tgt : Nat} (hdg : decode cc pc = .ok (.if_icmp .eq off, 3)) (ht : (pc : Int) + off = (tgt : Int)) (h1 : x < 2 ^ 31) (h2 : y < 2 ^ 31) (kt : x = y → W p l e R s m args below meth c H locs cells slots Q (F0 m tgt ls rest)) (kf : ¬ x = y → W p l e R s m args below meth c H locs cells slots Q (F0 m (pc + 3) ls rest)) : W p l e R s m args below meth c H locs cells slots Q (F0 m pc ls (.int (nI y) :: .int (nI x) :: rest)) := lv_icmp_eq hx hb hdg ht (fun h => kt ((nI_eq h1 h2).mp h)) (fun h => kf (fun q => h ((nI_eq h1 h2).mpr q)))
theorem n_icmp_ne (hx : p.tables.exec = Jvm.exec) (hb : c.code = cc) {x y : Nat} {off : Int} {tgt : Nat} (hdg : decode cc pc = .ok (.if_icmp .ne off, 3)) (ht : (pc : Int) + off = (tgt : Int)) (h1 : x < 2 ^ 31) (h2 : y < 2 ^ 31) (kt : ¬ x = y → W p l e R s m args below meth c H locs cells slots Q (F0 m tgt ls rest)) (kf : x = y → W p l e R s m args below meth c H locs cells slots Q (F0 m (pc + 3) ls rest)) : W p l e R s m args below meth c H locs cells slots Q (F0 m pc ls (.int (nI y) :: .int (nI x) :: rest)) := lv_icmp_ne hx hb hdg ht (fun h => kt (fun q => h ((nI_eq h1 h2).mpr q))) (fun h => kf ((nI_eq h1 h2).mp h))
theorem n_icmp_lt (hx : p.tables.exec = Jvm.exec) (hb : c.code = cc) {x y : Nat} {off : Int} {tgt : Nat} (hdg : decode cc pc = .ok (.if_icmp .lt off, 3)) (ht : (pc : Int) + off = (tgt : Int)) (h1 : x < 2 ^ 31) (h2 : y < 2 ^ 31) (kt : x < y → W p l e R s m args below meth c H locs cells slots Q (F0 m tgt ls rest)) (kf : ¬ x < y → W p l e R s m args below meth c H locs cells slots Q (F0 m (pc + 3) ls rest)) : W p l e R s m args below meth c H locs cells slots Q (F0 m pc ls (.int (nI y) :: .int (nI x) :: rest)) := lv_icmp_lt hx hb hdg ht (fun h => kt ((nI_ltI h1 h2).mp h)) (fun h => kf (fun q => h ((nI_ltI h1 h2).mpr q)))
theorem n_icmp_ge (hx : p.tables.exec = Jvm.exec) (hb : c.code = cc) {x y : Nat} {off : Int} {tgt : Nat} (hdg : decode cc pc = .ok (.if_icmp .ge off, 3)) (ht : (pc : Int) + off = (tgt : Int)) (h1 : x < 2 ^ 31) (h2 : y < 2 ^ 31) (kt : y ≤ x → W p l e R s m args below meth c H locs cells slots Q (F0 m tgt ls rest)) (kf : ¬ y ≤ x → W p l e R s m args below meth c H locs cells slots Q (F0 m (pc + 3) ls rest)) : W p l e R s m args below meth c H locs cells slots Q (F0 m pc ls (.int (nI y) :: .int (nI x) :: rest)) := lv_icmp_ge hx hb hdg ht (fun h => kt ((nI_leI h2 h1).mp h)) (fun h => kf (fun q => h ((nI_leI h2 h1).mpr q)))
theorem n_icmp_gt (hx : p.tables.exec = Jvm.exec) (hb : c.code = cc) {x y : Nat} {off : Int} {tgt : Nat} (hdg : decode cc pc = .ok (.if_icmp .gt off, 3)) (ht : (pc : Int) + off = (tgt : Int)) (h1 : x < 2 ^ 31) (h2 : y < 2 ^ 31) (kt : y < x → W p l e R s m args below meth c H locs cells slots Q (F0 m tgt ls rest)) (kf : ¬ y < x → W p l e R s m args below meth c H locs cells slots Q (F0 m (pc + 3) ls rest)) : W p l e R s m args below meth c H locs cells slots Q (F0 m pc ls (.int (nI y) :: .int (nI x) :: rest)) := lv_icmp_gt hx hb hdg ht (fun h => kt ((nI_ltI h2 h1).mp h)) (fun h => kf (fun q => h ((nI_ltI h2 h1).mpr q)))
theorem n_icmp_le (hx : p.tables.exec = Jvm.exec) (hb : c.code = cc) {x y : Nat} {off : Int} {tgt : Nat} (hdg : decode cc pc = .ok (.if_icmp .le off, 3)) (ht : (pc : Int) + off = (tgt : Int)) (h1 : x < 2 ^ 31) (h2 : y < 2 ^ 31) (kt : x ≤ y → W p l e R s m args below meth c H locs cells slots Q (F0 m tgt ls rest)) (kf : ¬ x ≤ y → W p l e R s m args below meth c H locs cells slots Q (F0 m (pc + 3) ls rest)) : W p l e R s m args below meth c H locs cells slots Q (F0 m pc ls (.int (nI y) :: .int (nI x) :: rest)) := lv_icmp_le hx hb hdg ht (fun h => kt ((nI_leI h1 h2).mp h)) (fun h => kf (fun q => h ((nI_leI h1 h2).mpr q)))
theorem mr_z (x : Nat) (h : x < 2 ^ 31) : nI x = 0 ↔ x = 0 := by rw [← nI_0]; exact nI_eq h (by decide)
theorem mr_lz (x : Nat) (h : x < 2 ^ 31) : nI x < 0 ↔ x < 0 := by rw [← nI_0]; exact nI_ltI h (by decide)
theorem mr_gz (x : Nat) (h : x < 2 ^ 31) : 0 < nI x ↔ 0 < x := by rw [← nI_0]; exact nI_ltI (by decide) h
theorem mr_lez (x : Nat) (h : x < 2 ^ 31) : nI x ≤ 0 ↔ x ≤ 0 := by rw [← nI_0]; exact nI_leI h (by decide)
theorem mr_gez (x : Nat) (h : x < 2 ^ 31) : 0 ≤ nI x ↔ 0 ≤ x := by rw [← nI_0]; exact nI_leI (by decide) h
theorem n_if_eq (hx : p.tables.exec = Jvm.exec) (hb : c.code = cc) {x : Nat} {off : Int} {tgt : Nat} (hdg : decode cc pc = .ok (.ifCond .eq off, 3)) (ht : (pc : Int) + off = (tgt : Int)) (h1 : x < 2 ^ 31) (kt : x = 0 → W p l e R s m args below meth c H locs cells slots Q (F0 m tgt ls rest)) (kf : ¬ x = 0 → W p l e R s m args below meth c H locs cells slots Q (F0 m (pc + 3) ls rest)) : W p l e R s m args below meth c H locs cells slots Q (F0 m pc ls (.int (nI x) :: rest)) := lv_if_eq hx hb hdg ht (fun h => kt ((mr_z x h1).mp h)) (fun h => kf (fun q => h ((mr_z x h1).mpr q)))
theorem n_if_lt (hx : p.tables.exec = Jvm.exec) (hb : c.code = cc) {x : Nat} {off : Int} {tgt : Nat} (hdg : decode cc pc = .ok (.ifCond .lt off, 3)) (ht : (pc : Int) + off = (tgt : Int)) (h1 : x < 2 ^ 31) (kt : x < 0 → W p l e R s m args below meth c H locs cells slots Q (F0 m tgt ls rest)) (kf : ¬ x < 0 → W p l e R s m args below meth c H locs cells slots Q (F0 m (pc + 3) ls rest)) : W p l e R s m args below meth c H locs cells slots Q (F0 m pc ls (.int (nI x) :: rest)) := lv_if_lt hx hb hdg ht (fun h => kt ((mr_lz x h1).mp h)) (fun h => kf (fun q => h ((mr_lz x h1).mpr q)))
theorem n_if_ge (hx : p.tables.exec = Jvm.exec) (hb : c.code = cc) {x : Nat} {off : Int} {tgt : Nat} (hdg : decode cc pc = .ok (.ifCond .ge off, 3)) (ht : (pc : Int) + off = (tgt : Int)) (h1 : x < 2 ^ 31) (kt : 0 ≤ x → W p l e R s m args below meth c H locs cells slots Q (F0 m tgt ls rest)) (kf : ¬ 0 ≤ x → W p l e R s m args below meth c H locs cells slots Q (F0 m (pc + 3) ls rest)) : W p l e R s m args below meth c H locs cells slots Q (F0 m pc ls (.int (nI x) :: rest)) := lv_if_ge hx hb hdg ht (fun h => kt ((mr_gez x h1).mp h)) (fun h => kf (fun q => h ((mr_gez x h1).mpr q)))
theorem n_if_gt (hx : p.tables.exec = Jvm.exec) (hb : c.code = cc) {x : Nat} {off : Int} {tgt : Nat} (hdg : decode cc pc = .ok (.ifCond .gt off, 3)) (ht : (pc : Int) + off = (tgt : Int)) (h1 : x < 2 ^ 31) (kt : 0 < x → W p l e R s m args below meth c H locs cells slots Q (F0 m tgt ls rest)) (kf : ¬ 0 < x → W p l e R s m args below meth c H locs cells slots Q (F0 m (pc + 3) ls rest)) : W p l e R s m args below meth c H locs cells slots Q (F0 m pc ls (.int (nI x) :: rest)) := lv_if_gt hx hb hdg ht (fun h => kt ((mr_gz x h1).mp h)) (fun h => kf (fun q => h ((mr_gz x h1).mpr q)))
theorem n_if_le (hx : p.tables.exec = Jvm.exec) (hb : c.code = cc) {x : Nat} {off : Int} {tgt : Nat} (hdg : decode cc pc = .ok (.ifCond .le off, 3)) (ht : (pc : Int) + off = (tgt : Int)) (h1 : x < 2 ^ 31) (kt : x ≤ 0 → W p l e R s m args below meth c H locs cells slots Q (F0 m tgt ls rest)) (kf : ¬ x ≤ 0 → W p l e R s m args below meth c H locs cells slots Q (F0 m (pc + 3) ls rest)) : W p l e R s m args below meth c H locs cells slots Q (F0 m pc ls (.int (nI x) :: rest)) := lv_if_le hx hb hdg ht (fun h => kt ((mr_lez x h1).mp h)) (fun h => kf (fun q => h ((mr_lez x h1).mpr q)))
theorem n_if_ne (hx : p.tables.exec = Jvm.exec) (hb : c.code = cc) {x : Nat} {off : Int} {tgt : Nat} (hdg : decode cc pc = .ok (.ifCond .ne off, 3)) (ht : (pc : Int) + off = (tgt : Int)) (h1 : x < 2 ^ 31) (kt : ¬ x = 0 → W p l e R s m args below meth c H locs cells slots Q (F0 m tgt ls rest)) (kf : x = 0 → W p l e R s m args below meth c H locs cells slots Q (F0 m (pc + 3) ls rest)) : W p l e R s m args below meth c H locs cells slots Q (F0 m pc ls (.int (nI x) :: rest)) := lv_if_ne hx hb hdg ht (fun h => kt (fun q => h ((mr_z x h1).mpr q))) (fun h => kf ((mr_z x h1).mp h))
theorem n_iald (hx : p.tables.exec = Jvm.exec) (hb : c.code = cc) (hK : va_K D cl tys s) (hP : va_P D cl ws H) (q0 t0 : Nat) {cA : ClassId} {N : Nat} {g : Nat → Nat} (ha : ws[q0]? = some (a, .inl (cA, N, .inl (fun j => nI (g j))))) (ht : tys[t0]? = some (cA, .int)) {i : Nat} (hi : i < N) (hN : N < 2 ^ 31) (hdg : decode cc pc = .ok (.iaload, 1)) (k : W p l e R s m args below meth c H locs cells slots Q (F0 m (pc + 1) ls (.int (nI (g i)) :: rest))) : W p l e R s m args below meth c H locs cells slots Q (F0 m pc ls (.int (nI i) :: .ref a :: rest)) := va_iald hx hb hK hP q0 t0 ha ht (vp_in_nI hi hN) hdg (by show W p l e R s m args below meth c H locs cells slots Q (F0 m (pc + 1) ls (.int (nI (g (nI i).toNatClampNeg)) :: rest)); rw [nI_clamp (Nat.lt_trans hi hN)]; exact k)
theorem n_cald (hx : p.tables.exec = Jvm.exec) (hb : c.code = cc) (hK : va_K D cl tys s) (hP : va_P D cl ws H) (q0 t0 : Nat) {cA : ClassId} {N : Nat} {g : Nat → Nat} (ha : ws[q0]? = some (a, .inl (cA, N, .inl (fun j => nI (g j))))) (ht : tys[t0]? = some (cA, .char)) {i : Nat} (hi : i < N) (hN : N < 2 ^ 31) (hdg : decode cc pc = .ok (.caload, 1)) (k : W p l e R s m args below meth c H locs cells slots Q (F0 m (pc + 1) ls (.int (nI (g i)) :: rest))) : W p l e R s m args below meth c H locs cells slots Q (F0 m pc ls (.int (nI i) :: .ref a :: rest)) := va_cald hx hb hK hP q0 t0 ha ht (vp_in_nI hi hN) hdg (by show W p l e R s m args below meth c H locs cells slots Q (F0 m (pc + 1) ls (.int (nI (g (nI i).toNatClampNeg)) :: rest)); rw [nI_clamp (Nat.lt_trans hi hN)]; exact k)
theorem n_bald (hx : p.tables.exec = Jvm.exec) (hb : c.code = cc) (hK : va_K D cl tys s) (hP : va_P D cl ws H) (q0 t0 : Nat) {cA : ClassId} {N : Nat} {g : Nat → Nat} (ha : ws[q0]? = some (a, .inl (cA, N, .inl (fun j => nI (g j))))) (ht : tys[t0]? = some (cA, .byte)) {i : Nat} (hi : i < N) (hN : N < 2 ^ 31) (hdg : decode cc pc = .ok (.baload, 1)) (k : W p l e R s m args below meth c H locs cells slots Q (F0 m (pc + 1) ls (.int (nI (g i)) :: rest))) : W p l e R s m args below meth c H locs cells slots Q (F0 m pc ls (.int (nI i) :: .ref a :: rest)) := va_bald hx hb hK hP q0 t0 ha ht (vp_in_nI hi hN) hdg (by show W p l e R s m args below meth c H locs cells slots Q (F0 m (pc + 1) ls (.int (nI (g (nI i).toNatClampNeg)) :: rest)); rw [nI_clamp (Nat.lt_trans hi hN)]; exact k)
theorem n_iast (hx : p.tables.exec = Jvm.exec) (hb : c.code = cc) (hK : va_K D cl tys s) (hP : va_P D cl ws H) (hD : va_D A ws) (hS : va_S A H0 H locs) (q0 t0 : Nat) {cA : ClassId} {N : Nat} {g : Nat → Nat} (ha : ws[q0]? = some (a, .inl (cA, N, .inl (fun j => nI (g j))))) (ht : tys[t0]? = some (cA, .int)) {i x : Nat} (hi : i < N) (hN : N < 2 ^ 31) (hdg : decode cc pc = .ok (.iastore, 1)) (k : ∀ (H1 : Heap) (locs1 : List Loc), va_P D cl (ws.set q0 (a, .inl (cA, N, .inl (fun j => nI (va_up g i x j))))) H1 → va_S A H0 H1 locs1 → W p l e R s m args below meth c H1 locs1 cells slots Q (F0 m (pc + 1) ls rest)) : W p l e R s m args below meth c H locs cells slots Q (F0 m pc ls (.int (nI x) :: .int (nI i) :: .ref a :: rest)) := va_iast hx hb hK hP hD hS q0 t0 ha ht (vp_in_nI hi hN) hdg (fun H1 locs1 h1 _ h3 => by rw [nI_clamp (Nat.lt_trans hi hN), mr_upI] at h1; exact k H1 locs1 h1 h3)
theorem mr_charN {x : Nat} (h : x < 128) : vp_nar .char (nI x) = nI x := by
  have h1 := (pk_charN (q := x) (by omega)).1
  unfold vp_nar; rw [h1]
theorem mr_byteN : ∀ x, x < 128 → vp_nar .byte (nI x) = nI x := by decide +kernel
theorem n_cast (hx : p.tables.exec = Jvm.exec) (hb : c.code = cc) (hK : va_K D cl tys s) (hP : va_P D cl ws H) (hD : va_D A ws) (hS : va_S A H0 H locs) (q0 t0 : Nat) {cA : ClassId} {N : Nat} {g : Nat → Nat} (ha : ws[q0]? = some (a, .inl (cA, N, .inl (fun j => nI (g j))))) (ht : tys[t0]? = some (cA, .char)) {i x : Nat} (hi : i < N) (hN : N < 2 ^ 31) (hx8 : x < 128) (hdg : decode cc pc = .ok (.castore, 1)) (k : ∀ (H1 : Heap) (locs1 : List Loc), va_P D cl (ws.set q0 (a, .inl (cA, N, .inl (fun j => nI (va_up g i x j))))) H1 → va_S A H0 H1 locs1 → W p l e R s m args below meth c H1 locs1 cells slots Q (F0 m (pc + 1) ls rest)) : W p l e R s m args below meth c H locs cells slots Q (F0 m pc ls (.int (nI x) :: .int (nI i) :: .ref a :: rest)) := va_cast hx hb hK hP hD hS q0 t0 ha ht (vp_in_nI hi hN) hdg (fun H1 locs1 h1 _ h3 => by rw [nI_clamp (Nat.lt_trans hi hN), mr_charN hx8, mr_upI] at h1; exact k H1 locs1 h1 h3)
theorem n_bast (hx : p.tables.exec = Jvm.exec) (hb : c.code = cc) (hK : va_K D cl tys s) (hP : va_P D cl ws H) (hD : va_D A ws) (hS : va_S A H0 H locs) (q0 t0 : Nat) {cA : ClassId} {N : Nat} {g : Nat → Nat} (ha : ws[q0]? = some (a, .inl (cA, N, .inl (fun j => nI (g j))))) (ht : tys[t0]? = some (cA, .byte)) {i x : Nat} (hi : i < N) (hN : N < 2 ^ 31) (hx8 : x < 128) (hdg : decode cc pc = .ok (.bastore, 1)) (k : ∀ (H1 : Heap) (locs1 : List Loc), va_P D cl (ws.set q0 (a, .inl (cA, N, .inl (fun j => nI (va_up g i x j))))) H1 → va_S A H0 H1 locs1 → W p l e R s m args below meth c H1 locs1 cells slots Q (F0 m (pc + 1) ls rest)) : W p l e R s m args below meth c H locs cells slots Q (F0 m pc ls (.int (nI x) :: .int (nI i) :: .ref a :: rest)) := va_bast hx hb hK hP hD hS q0 t0 ha ht (vp_in_nI hi hN) hdg (fun H1 locs1 h1 _ h3 => by rw [nI_clamp (Nat.lt_trans hi hN), mr_byteN x hx8, mr_upI] at h1; exact k H1 locs1 h1 h3)
end MRA
/-- a method's start: its values, its world, the tables, and what else it rests on -/
def c_P (D : va_G) (cl : List vw_C) (tys : List (ClassId × FieldType)) (N : State → Prop) (ws : va_W) (av : List Value) : Array Value → State → Prop := va_Pc av (fun U => va_P D cl ws U.heap ∧ va_K D cl tys U ∧ N U)
abbrev c_B {S : Type} (D : va_G) (cl : List vw_C) (tys : List (ClassId × FieldType)) (wf : S → va_W) : S → State → Prop := fun u t => va_P D cl (wf u) t.heap ∧ va_K D cl tys t
/-- what a method rests on goes on to hold: in a frame of its own, and behind what is written in A -/
def c_N (A : Nat → Prop) (N : State → Prop) : Prop := (∀ (U : State) (g : JFrame) (mk : MethodId) (a : Array Value), N U → N (U.calling g mk a)) ∧ ∀ (u U : State) (H : Heap) (locs : List Loc), U.heap = H → u.WarmedH U.vm → va_S A u.heap H locs → N u → N U
theorem c_N0 (A : Nat → Prop) : c_N A (fun _ => True) := ⟨fun _ _ _ _ _ => trivial, fun _ _ _ _ _ _ _ _ => trivial⟩
section MRB
variable {p : Program} {l : Launch} {e : Env} {R : Room} {s : State} {m : MethodId} {args : Array Value} {below : List Frame} {meth : Method} {c : Code} {H : Heap} {locs : List Loc} {cells slots : Nat} {Q : State → Prop}
variable {cc : ByteArray} {pc : Nat} {ls : Array Slot} {rest : List Value} {D : va_G} {cl : List vw_C} {A : Nat → Prop} {a : Nat} {tys : List (ClassId × FieldType)} {ws : va_W} {H0 : Heap}
theorem c_preV {N : State → Prop} {C : String} {b : Addr} {As : List Value} (hN : c_N A N) (hK : va_K D cl tys s) (hE : N s) (hS : va_S A s.heap H locs) (hP : va_P D cl ws H) (hr : ∃ cellB : Cell, H[b]? = some cellB ∧ cellB.vm.isStatics = false ∧ s.vm.findClass C = some cellB.cls) : PreV s H C b (c_P D cl tys N ws (.ref b :: As)) As := ⟨fun _ U g mk q => ⟨q.1, q.2.1, va_K.moved (u := U) (U := U.calling g mk _) (Vm.Alike.refl U.vm) q.2.2.1, hN.1 _ _ _ _ q.2.2.2⟩, hr, fun U hU hW => ⟨rfl, by rw [hU]; exact hP, va_K.moved hW.alike hK, hN.2 s U H locs hU hW hS hE⟩⟩
theorem c_preS {N : State → Prop} {As : List Value} (hN : c_N A N) (hK : va_K D cl tys s) (hE : N s) (hS : va_S A s.heap H locs) (hP : va_P D cl ws H) : PreS s H (c_P D cl tys N ws As) As := ⟨fun _ U g mk q => ⟨q.1, q.2.1, va_K.moved (u := U) (U := U.calling g mk _) (Vm.Alike.refl U.vm) q.2.2.1, hN.1 _ _ _ _ q.2.2.2⟩, fun U hU hW => ⟨rfl, by rw [hU]; exact hP, va_K.moved hW.alike hK, hN.2 s U H locs hU hW hS hE⟩⟩
theorem c_calli {S : Type} {post : Int32 → S → Prop} {wf : S → va_W} {st0 : List Value} {av : Array Value} {tysc : List (ClassId × FieldType)} (hr : va_Run p l e R s m args below meth c H locs cells slots 0 0 (F0 m pc ls st0) rest (va_Qi post (c_B D cl tysc wf) A av) A) (hS : va_S A H0 H locs) (k : ∀ (r : Int32) (u : S) (H1 : Heap) (locs1 : List Loc), post r u → va_P D cl (wf u) H1 → va_S A H0 H1 locs1 → W p l e R s m args below meth c H1 locs1 cells slots Q (F0 m (pc + 3) ls (.int r :: rest))) : W p l e R s m args below meth c H locs cells slots Q (F0 m pc ls st0) := va_calli hr hS (fun _ _ h => h) (fun _ h => h) (fun r u t H1 locs1 ht _ hp hB _ _ hS1 => k r u H1 locs1 hp (ht ▸ hB.1) hS1)
theorem c_calll {S : Type} {post : Int64 → S → Prop} {wf : S → va_W} {st0 : List Value} {av : Array Value} {tysc : List (ClassId × FieldType)} (hr : va_Run p l e R s m args below meth c H locs cells slots 0 0 (F0 m pc ls st0) rest (va_Ql post (c_B D cl tysc wf) A av) A) (hS : va_S A H0 H locs) (k : ∀ (r : Int64) (u : S) (H1 : Heap) (locs1 : List Loc), post r u → va_P D cl (wf u) H1 → va_S A H0 H1 locs1 → W p l e R s m args below meth c H1 locs1 cells slots Q (F0 m (pc + 3) ls (.long r :: rest))) : W p l e R s m args below meth c H locs cells slots Q (F0 m pc ls st0) := va_calll hr hS (fun _ _ h => h) (fun _ h => h) (fun r u t H1 locs1 ht _ hp hB _ _ hS1 => k r u H1 locs1 hp (ht ▸ hB.1) hS1)
theorem c_callv {S : Type} {post : S → Prop} {wf : S → va_W} {st0 : List Value} {av : Array Value} {tysc : List (ClassId × FieldType)} (hr : va_Run p l e R s m args below meth c H locs cells slots 0 0 (F0 m pc ls st0) rest (va_Qv post (c_B D cl tysc wf) A av) A) (hS : va_S A H0 H locs) (k : ∀ (u : S) (H1 : Heap) (locs1 : List Loc), post u → va_P D cl (wf u) H1 → va_S A H0 H1 locs1 → W p l e R s m args below meth c H1 locs1 cells slots Q (F0 m (pc + 3) ls rest)) : W p l e R s m args below meth c H locs cells slots Q (F0 m pc ls st0) := va_callv hr hS (fun _ _ h => h) (fun _ h => h) (fun u t H1 locs1 ht _ hp hB _ _ hS1 => k u H1 locs1 hp (ht ▸ hB.1) hS1)
theorem c_iret {S : Type} {post : Int32 → S → Prop} {wf : S → va_W} (hx : p.tables.exec = Jvm.exec) (hb : c.code = cc) (hr : meth.sig.returnType = some .int) (hlocks : meth.locks = false) (hK : va_K D cl tys s) (hS : va_S A s.heap H locs) (u : S) {v : Int32} (hP : va_P D cl (wf u) H) (hp : post v u) (hdg : decode cc pc = .ok (.ireturn, 1)) : W p l e R s m args below meth c H locs cells slots (MQ below (va_Qi post (c_B D cl tys wf) A) args s cells slots A) (F0 m pc ls [.int v]) := W.iret hx hb hr (fun t ht hW => ⟨⟨v, u, rfl, hp, by rw [ht]; exact hP, va_K.moved hW.alike hK⟩, hS.F ht⟩) hS.2.2 hdg
theorem c_zret {S : Type} {post : Int32 → S → Prop} {wf : S → va_W} (hx : p.tables.exec = Jvm.exec) (hb : c.code = cc) {ty : FieldType} (hr : meth.sig.returnType = some ty) (hlocks : meth.locks = false) (hK : va_K D cl tys s) (hS : va_S A s.heap H locs) (u : S) {v : Int32} (hn : narrow ty (.int v) = .int v) (hP : va_P D cl (wf u) H) (hp : post v u) (hdg : decode cc pc = .ok (.ireturn, 1)) : W p l e R s m args below meth c H locs cells slots (MQ below (va_Qi post (c_B D cl tys wf) A) args s cells slots A) (F0 m pc ls [.int v]) := W.zret hx hb hr hn (fun t ht hW => ⟨⟨v, u, rfl, hp, by rw [ht]; exact hP, va_K.moved hW.alike hK⟩, hS.F ht⟩) hS.2.2 hdg
theorem c_lret {S : Type} {post : Int64 → S → Prop} {wf : S → va_W} (hx : p.tables.exec = Jvm.exec) (hb : c.code = cc) (hr : meth.sig.returnType = some .long) (hlocks : meth.locks = false) (hK : va_K D cl tys s) (hS : va_S A s.heap H locs) (u : S) {v : Int64} (hP : va_P D cl (wf u) H) (hp : post v u) (hdg : decode cc pc = .ok (.lreturn, 1)) : W p l e R s m args below meth c H locs cells slots (MQ below (va_Ql post (c_B D cl tys wf) A) args s cells slots A) (F0 m pc ls [.long v]) := W.lret hx hb hr (fun t ht hW => ⟨⟨v, u, rfl, hp, by rw [ht]; exact hP, va_K.moved hW.alike hK⟩, hS.F ht⟩) hS.2.2 hdg
theorem c_vret {S : Type} {post : S → Prop} {wf : S → va_W} (hx : p.tables.exec = Jvm.exec) (hb : c.code = cc) (hr : meth.sig.returnType = none) (hlocks : meth.locks = false) (hK : va_K D cl tys s) (hS : va_S A s.heap H locs) (u : S) (hP : va_P D cl (wf u) H) (hp : post u) (hdg : decode cc pc = .ok (.return_, 1)) : W p l e R s m args below meth c H locs cells slots (MQ below (va_Qv post (c_B D cl tys wf) A) args s cells slots A) (F0 m pc ls []) := W.vret hx hb hr (fun t ht hW => ⟨⟨u, rfl, hp, by rw [ht]; exact hP, va_K.moved hW.alike hK⟩, hS.F ht⟩) hS.2.2 hdg
end MRB
end
section
def bI (b : Bool) : Int32 := bif b then 1 else 0
theorem bI_nar (b : Bool) : narrow .boolean (.int (bI b)) = .int (bI b) := by cases b <;> rfl
theorem bI_fit (b : Bool) : fits .boolean (.int (bI b)) = true := by cases b <;> rfl
theorem bI_1 {b : Bool} (h : b = true) : nI 1 = bI b := by rw [h]; rfl
theorem bI_0 {b : Bool} (h : b = false) : nI 0 = bI b := by rw [h]; rfl
theorem mr_inc (x : Nat) : nI x + Int32.ofInt 1 = nI (x + 1) := nI_1 x
theorem mr_inc2 (x : Nat) : nI x + Int32.ofInt 2 = nI (x + 2) := nI_add x 2
theorem mr_inc4 (x : Nat) : nI x + Int32.ofInt 4 = nI (x + 4) := nI_add x 4
theorem mr_dec {x : Nat} (h : 0 < x) : nI x + Int32.ofInt (-1) = nI (x - 1) := by
  obtain ⟨k, rfl⟩ : ∃ k, x = k + 1 := ⟨x - 1, by omega⟩
  exact pk_m1 k
theorem mr_decR (x : Nat) : nI x + Int32.ofInt (-1) = nI x - nI 1 := by rw [Int32.sub_eq_add_neg]; rfl
/-- the addresses of a world: apart, and of a kind -/
def ad_ok (A : Nat → Prop) (b : Nat → Nat) (N : Nat) : Prop := (∀ i j, i < N → j < N → b i = b j → i = j) ∧ ∀ i, i < N → A (b i)
theorem ad_at {b : Nat → Nat} {N k : Nat} {ws : va_W} {q : Nat × va_E} (hm : ws.map (fun q => q.1) = (List.range N).map b) (h : ws[k]? = some q) : k < N ∧ q.1 = b k := by
  have h1 : (ws.map (fun q => q.1))[k]? = some q.1 := by rw [List.getElem?_map, h]; rfl
  rw [hm, List.getElem?_map] at h1
  by_cases hk : k < N
  · rw [List.getElem?_range hk] at h1
    exact ⟨hk, (Option.some.inj h1).symm⟩
  · rw [List.getElem?_eq_none (by rw [List.length_range]; omega)] at h1
    cases h1
theorem ad_D {A : Nat → Prop} {b : Nat → Nat} {N : Nat} {ws : va_W} (h : ad_ok A b N) (hm : ws.map (fun q => q.1) = (List.range N).map b) : va_D A ws := by
  refine ⟨fun i j x z hi hj hxz => ?_, fun k q hk => ?_⟩
  · obtain ⟨h1, h2⟩ := ad_at hm hi
    obtain ⟨h3, h4⟩ := ad_at hm hj
    exact h.1 i j h1 h3 (by rw [← h2, ← h4, hxz])
  · obtain ⟨h1, h2⟩ := ad_at hm hk
    rw [h2]
    exact h.2 k h1
section MRC
variable {p : Program} {l : Launch} {e : Env} {R : Room} {s : State} {m : MethodId} {args : Array Value} {below : List Frame} {meth : Method} {c : Code} {H : Heap} {locs : List Loc} {cells slots : Nat} {Q : State → Prop}
variable {cc : ByteArray} {pc : Nat} {ls : Array Slot} {rest : List Value}
theorem n_bif_eq (hx : p.tables.exec = Jvm.exec) (hb : c.code = cc) {b : Bool} {off : Int} {tgt : Nat} (hdg : decode cc pc = .ok (.ifCond .eq off, 3)) (ht : (pc : Int) + off = (tgt : Int)) (kt : b = false → W p l e R s m args below meth c H locs cells slots Q (F0 m tgt ls rest)) (kf : b = true → W p l e R s m args below meth c H locs cells slots Q (F0 m (pc + 3) ls rest)) : W p l e R s m args below meth c H locs cells slots Q (F0 m pc ls (.int (bI b) :: rest)) := lv_if_eq hx hb hdg ht (fun h => kt (by cases b <;> first | rfl | exact absurd h (by decide))) (fun h => kf (by cases b <;> first | rfl | exact absurd rfl h))
theorem n_bif_ne (hx : p.tables.exec = Jvm.exec) (hb : c.code = cc) {b : Bool} {off : Int} {tgt : Nat} (hdg : decode cc pc = .ok (.ifCond .ne off, 3)) (ht : (pc : Int) + off = (tgt : Int)) (kt : b = true → W p l e R s m args below meth c H locs cells slots Q (F0 m tgt ls rest)) (kf : b = false → W p l e R s m args below meth c H locs cells slots Q (F0 m (pc + 3) ls rest)) : W p l e R s m args below meth c H locs cells slots Q (F0 m pc ls (.int (bI b) :: rest)) := lv_if_ne hx hb hdg ht (fun h => kt (by cases b <;> first | rfl | exact absurd rfl h)) (fun h => kf (by cases b <;> first | rfl | exact absurd h (by decide)))
end MRC
abbrev TY (y : Nat → ClassId) : List (ClassId × FieldType) := [(y 0, .int), (y 1, .byte), (y 2, .char), (y 3, .object "MilkRound$House"), (y 4, .array .int)]
def DW (y : Nat → ClassId) (b : Nat → Nat) (rn : Nat) (n : Nat) (lo : Int32) (kp : Nat) (dy : Int32) (so : Int32) (he : Int32) (kn : Nat) (ak : Nat) (pl : Nat) (iw : Bool) (nm : Nat) (sd : Int64) (ik : Bool) (kr : Nat) (lo2 : Int32) (dy2 : Int32) (so2 : Int32) (he2 : Int32) (kn2 : Nat) (dgv : Int64) (kd : Nat → Nat) (len : Nat → Nat) (ord : Nat → Nat) (kh : Nat → Nat) (km : Nat → Nat) (pg : Nat → Nat) (cm : Nat → Nat) (sav : Nat → Nat) (bo : Nat → Nat) (cb : Nat → Nat) (sl : Nat → Nat) (len2 : Nat → Nat) (ord2 : Nat → Nat) (kh2 : Nat → Nat) (km2 : Nat → Nat) : va_W := [(b 0, .inr (11, [.int (nI (rn)), .int (nI (n)), .ref (b 1), .ref (b 2), .ref (b 3), .int (lo), .int (nI (kp)), .int (dy), .int (so), .int (he), .int (nI (kn)), .ref (b 4), .ref (b 5), .int (nI (ak)), .int (nI (pl)), .ref (b 6), .int (bI (iw)), .int (nI (nm)), .ref (b 7), .ref (b 8), .ref (b 9), .ref (b 10), .long (sd), .ref (b 11), .int (bI (ik)), .int (nI (kr)), .int (lo2), .int (dy2), .int (so2), .int (he2), .int (nI (kn2)), .ref (b 12), .ref (b 13), .ref (b 14), .ref (b 15), .long (dgv)])),
  (b 1, .inl (y 0, 6, .inl (fun j => nI (kd j)))),
  (b 2, .inl (y 0, 6, .inl (fun j => nI (len j)))),
  (b 3, .inl (y 0, 6, .inl (fun j => nI (ord j)))),
  (b 4, .inl (y 0, 6, .inl (fun j => nI (kh j)))),
  (b 5, .inl (y 0, 6, .inl (fun j => nI (km j)))),
  (b 6, .inl (y 1, 21, .inl (fun j => nI (pg j)))),
  (b 7, .inl (y 0, 6, .inl (fun j => nI (cm j)))),
  (b 8, .inl (y 0, 6, .inl (fun j => nI (sav j)))),
  (b 9, .inl (y 0, 6, .inl (fun j => nI (bo j)))),
  (b 10, .inl (y 0, 151, .inl (fun j => nI (cb j)))),
  (b 11, .inl (y 0, 6, .inl (fun j => nI (sl j)))),
  (b 12, .inl (y 0, 6, .inl (fun j => nI (len2 j)))),
  (b 13, .inl (y 0, 6, .inl (fun j => nI (ord2 j)))),
  (b 14, .inl (y 0, 6, .inl (fun j => nI (kh2 j)))),
  (b 15, .inl (y 0, 6, .inl (fun j => nI (km2 j))))]
end
section
/-! pure words for what the round is -/
def bitL (lo : Int32) (h : Nat) : Int32 := (lo >>> (nI h &&& 31)) &&& nI 1
def inB (lo : Int32) (h : Nat) : Bool := decide (bitL lo h = nI 1)
def whl (k L : Nat) : Nat := if k = 1 then 2 * L else if k = 2 then L + 3 else if k = 3 then (L + 1) / 2 else if k = 4 then 2 * L + 2 else L
def rdm (kd len : Nat → Nat) (lo : Int32) (h : Nat) : Nat := bif inB lo h then whl (kd h) (len h) / 2 else whl (kd h) (len h)
def tmF (kd len : Nat → Nat) (lo : Int32) (ord : Nat → Nat) : Nat → Nat
  | 0 => 0
  | k + 1 => tmF kd len lo ord k + (1 + rdm kd len lo (ord k))
def gof (kd len : Nat → Nat) (lo : Int32) (ord f : Nat → Nat) : Nat → (Nat → Nat)
  | 0 => f
  | k + 1 => va_up (gof kd len lo ord f k) (ord k) (tmF kd len lo ord (k + 1))
def camF (kd len : Nat → Nat) (lo : Int32) (ord : Nat → Nat) (n : Nat) : Nat → Nat := gof kd len lo ord (fun _ => 0) n
def tkF (k : Nat) : Nat := if k = 2 then 2 else 4
def sourB (kd : Nat → Nat) (kp : Nat) (cm : Nat → Nat) (h : Nat) : Bool := decide (tkF (kd h) * kp < cm h)
def ahdB (n : Nat) (cm : Nat → Nat) (o h : Nat) : Bool := decide (o < n ∧ cm o + 6 ≤ cm h)
def hearB (n : Nat) (kd cm : Nat → Nat) (h : Nat) : Bool := decide (kd h ≠ 2) && ((decide (0 < h) && ahdB n cm (h - 1) h) || ahdB n cm (h + 1) h)
def ctB (p : Nat → Bool) : Nat → Nat
  | 0 => 0
  | k + 1 => ctB p k + (bif p k then 1 else 0)
def PermOn (n : Nat) (ord : Nat → Nat) : Prop := (∀ k, k < n → ord k < n) ∧ ∀ i j, i < n → j < n → ord i = ord j → i = j
def CamOk (kd len : Nat → Nat) (lo : Int32) (ord : Nat → Nat) (n : Nat) (f : Nat → Nat) : Prop := (∀ h, h < n → f h = camF kd len lo ord n h) ∧ ∀ j, f j ≤ 126
theorem whl_le {k L : Nat} (h : L ≤ 9) : whl k L ≤ 20 := by
  unfold whl
  split
  · omega
  · split
    · omega
    · split
      · omega
      · split <;> omega
theorem rdm_le {kd len : Nat → Nat} {lo : Int32} {h : Nat} (hl : ∀ j, len j ≤ 9) : rdm kd len lo h ≤ 20 := by
  have := whl_le (k := kd h) (hl h)
  unfold rdm
  cases inB lo h
  · exact this
  · show whl (kd h) (len h) / 2 ≤ 20
    omega
theorem tmF_le {kd len : Nat → Nat} {lo : Int32} {ord : Nat → Nat} (hl : ∀ j, len j ≤ 9) : ∀ k, tmF kd len lo ord k ≤ 21 * k
  | 0 => Nat.le_refl _
  | k + 1 => by
    have h1 := tmF_le (kd := kd) (lo := lo) (ord := ord) hl k
    have h2 := rdm_le (kd := kd) (lo := lo) (h := ord k) hl
    show tmF kd len lo ord k + (1 + rdm kd len lo (ord k)) ≤ 21 * (k + 1)
    omega
theorem gof_le {kd len : Nat → Nat} {lo : Int32} {ord f : Nat → Nat} (hl : ∀ j, len j ≤ 9) (hf : ∀ j, f j ≤ 126) : ∀ k, k ≤ 6 → ∀ j, gof kd len lo ord f k j ≤ 126
  | 0, _, j => hf j
  | k + 1, hk, j => by
    have h1 := gof_le (kd := kd) (lo := lo) (ord := ord) hl hf k (by omega) j
    have h2 := tmF_le (kd := kd) (lo := lo) (ord := ord) hl (k + 1)
    show va_up (gof kd len lo ord f k) (ord k) (tmF kd len lo ord (k + 1)) j ≤ 126
    unfold va_up
    split
    · omega
    · exact h1
theorem gof_at {kd len : Nat → Nat} {lo : Int32} {ord f : Nat → Nat} {n : Nat} (hp : PermOn n ord) : ∀ K, K ≤ n → ∀ k, k < K → gof kd len lo ord f K (ord k) = tmF kd len lo ord (k + 1)
  | 0, _, k, h => absurd h (Nat.not_lt_zero k)
  | K + 1, hK, k, h => by
    show va_up (gof kd len lo ord f K) (ord K) (tmF kd len lo ord (K + 1)) (ord k) = _
    unfold va_up
    by_cases e : k = K
    · subst e
      rw [if_pos rfl]
    · rw [if_neg (fun q => e (hp.2 k K (by omega) (by omega) q))]
      exact gof_at hp K (by omega) k (by omega)
theorem fb_holes : ∀ (m n : Nat) (f : Nat → Nat), (∀ i, i < n → f i < m) → (∀ i j, i < j → j < n → f i ≠ f j) → n ≤ m
  | 0, n, f, h, _ => by
    rcases Nat.eq_zero_or_pos n with q | q
    · omega
    · exact absurd (h 0 q) (Nat.not_lt_zero _)
  | m + 1, n, f, h, hd => by
    by_cases hx : ∃ i, i < n ∧ f i = m
    · obtain ⟨i, hi, hfi⟩ := hx
      have key := fb_holes m (n - 1) (fun k => if k < i then f k else f (k + 1)) (fun k hk => by
        show (if k < i then f k else f (k + 1)) < m
        split
        · rename_i q
          have h1 := h k (by omega)
          have h2 := hd k i q hi
          omega
        · rename_i q
          have h1 := h (k + 1) (by omega)
          have h2 := hd i (k + 1) (by omega) (by omega)
          omega) (fun a b hab hb => by
        show (if a < i then f a else f (a + 1)) ≠ (if b < i then f b else f (b + 1))
        split <;> split
        · exact hd a b hab (by omega)
        · exact hd a (b + 1) (by omega) (by omega)
        · omega
        · exact hd (a + 1) (b + 1) (by omega) (by omega))
      omega
    · have key := fb_holes m n f (fun k hk => by
        have h1 := h k hk
        have h2 : f k ≠ m := fun q => hx ⟨k, hk, q⟩
        omega) hd
      omega
theorem PermOn.onto {n : Nat} {ord : Nat → Nat} (hp : PermOn n ord) {h : Nat} (hh : h < n) : ∃ k, k < n ∧ ord k = h := by
  rcases Classical.em (∃ k, k < n ∧ ord k = h) with q | q
  · exact q
  · exfalso
    have key := fb_holes (n - 1) n (fun k => if ord k < h then ord k else ord k - 1) (fun k hk => by
      show (if ord k < h then ord k else ord k - 1) < n - 1
      have h1 := hp.1 k hk
      have h2 : ord k ≠ h := fun z => q ⟨k, hk, z⟩
      split <;> omega) (fun i j hij hj => by
      show (if ord i < h then ord i else ord i - 1) ≠ (if ord j < h then ord j else ord j - 1)
      have h1 : ord i ≠ ord j := fun z => absurd (hp.2 i j (by omega) hj z) (by omega)
      have h2 : ord i ≠ h := fun z => q ⟨i, by omega, z⟩
      have h3 : ord j ≠ h := fun z => q ⟨j, hj, z⟩
      split <;> split <;> omega)
    omega
theorem gof_cam {kd len : Nat → Nat} {lo : Int32} {ord f : Nat → Nat} {n : Nat} (hp : PermOn n ord) (hn : n ≤ 6) (hl : ∀ j, len j ≤ 9) (hf : ∀ j, f j ≤ 126) : CamOk kd len lo ord n (gof kd len lo ord f n) := by
  refine ⟨fun h hh => ?_, gof_le hl hf n hn⟩
  obtain ⟨k, hk, rfl⟩ := hp.onto hh
  unfold camF
  rw [gof_at hp n (Nat.le_refl n) k hk, gof_at hp n (Nat.le_refl n) k hk]
theorem sourB_cong {kd : Nat → Nat} {kp : Nat} {cm cm' : Nat → Nat} {h : Nat} (e : cm h = cm' h) : sourB kd kp cm h = sourB kd kp cm' h := by unfold sourB; rw [e]
theorem ahdB_cong {n : Nat} {cm cm' : Nat → Nat} {o h : Nat} (hh : h < n) (e : ∀ j, j < n → cm j = cm' j) : ahdB n cm o h = ahdB n cm' o h := by
  unfold ahdB
  rw [e h hh]
  by_cases q : o < n
  · rw [e o q]
  · simp [q]
theorem hearB_cong {n : Nat} {kd cm cm' : Nat → Nat} {h : Nat} (hh : h < n) (e : ∀ j, j < n → cm j = cm' j) : hearB n kd cm h = hearB n kd cm' h := by
  unfold hearB
  rw [ahdB_cong hh e, ahdB_cong hh e]
theorem ctB_cong {p q : Nat → Bool} : ∀ {n : Nat}, (∀ k, k < n → p k = q k) → ctB p n = ctB q n
  | 0, _ => rfl
  | n + 1, h => by
    show ctB p n + (bif p n then 1 else 0) = ctB q n + (bif q n then 1 else 0)
    rw [ctB_cong (fun k hk => h k (by omega)), h n (by omega)]
theorem ctB_le (p : Nat → Bool) : ∀ n, ctB p n ≤ n
  | 0 => Nat.le_refl _
  | n + 1 => by
    have h := ctB_le p n
    show ctB p n + (bif p n then 1 else 0) ≤ n + 1
    cases p n
    · show ctB p n + 0 ≤ n + 1
      omega
    · show ctB p n + 1 ≤ n + 1
      omega
theorem ctB_t {p : Nat → Bool} {n : Nat} (h : p n = true) : ctB p (n + 1) = ctB p n + 1 := by show ctB p n + (bif p n then 1 else 0) = _; rw [h]; rfl
theorem ctB_f {p : Nat → Bool} {n : Nat} (h : p n = false) : ctB p (n + 1) = ctB p n := by show ctB p n + (bif p n then 1 else 0) = _; rw [h]; rfl
/-- a number that names a house -/
def isH (h : Int32) (n : Nat) : Bool := decide (nI 0 ≤ h ∧ h < nI n)
theorem isH_nat {j n : Nat} (hj : j < 2 ^ 31) (hn : n < 2 ^ 31) : isH (nI j) n = decide (j < n) := by
  unfold isH
  have h1 : nI 0 ≤ nI j := by rw [nI_leI (by decide) hj]; omega
  simp [h1, nI_ltI hj hn]
theorem isH_of {h : Int32} {n : Nat} (hn : n < 2 ^ 31) (e : isH h n = true) : ∃ j : Nat, j < n ∧ h = nI j := by
  unfold isH at e
  have e := of_decide_eq_true e
  obtain ⟨j, hj, rfl⟩ := nI_of (x := h) (fun q => by
    have h0 : nI 0 ≤ h := e.1
    rw [nI_0] at h0
    exact absurd q (Int32.not_lt.mpr h0))
  exact ⟨j, (nI_ltI hj hn).mp e.2, rfl⟩
theorem sub_toInt {a c : Nat} (ha : a < 2 ^ 30) (hc : c < 2 ^ 30) : (nI a - nI c).toInt = (a : Int) - c := pk_sub_toInt ha hc
theorem le_subI {a c k : Nat} (ha : a < 2 ^ 30) (hc : c < 2 ^ 30) (hk : k < 2 ^ 30) : nI a ≤ nI c - nI k ↔ a + k ≤ c := by
  rw [Int32.le_iff_toInt_le, sub_toInt hc hk, nI_toInt (by omega)]
  omega
theorem isH_within {h : Int32} {n : Nat} (hn : n < 2 ^ 30) : decide (nI 0 ≤ h ∧ h ≤ nI n - nI 1) = isH h n := by
  unfold isH
  have e : h ≤ nI n - nI 1 ↔ h < nI n := by
    rw [Int32.le_iff_toInt_le, Int32.lt_iff_toInt_lt, sub_toInt hn (by decide), nI_toInt (by omega)]
    omega
  simp only [e]
theorem isH_neg1 {n : Nat} : isH (nI 0 - nI 1) n = false := by
  unfold isH
  exact decide_eq_false (fun q => absurd q.1 (by decide))
theorem tkF2 {k : Nat} (h : k = 2) : tkF k = 2 := by unfold tkF; rw [if_pos h]
theorem tkF4 {k : Nat} (h : ¬ k = 2) : tkF k = 4 := by unfold tkF; rw [if_neg h]
def ahI (n : Nat) (cm : Nat → Nat) (o : Int32) (h : Nat) : Bool := isH o n && decide (cm o.toNatClampNeg + 6 ≤ cm h)
theorem ahI_nat {n : Nat} {cm : Nat → Nat} {o h : Nat} (ho : o < 2 ^ 31) (hn : n < 2 ^ 31) : ahI n cm (nI o) h = ahdB n cm o h := by
  unfold ahI ahdB
  rw [isH_nat ho hn, nI_clamp ho]
  by_cases q : o < n <;> simp [q]
theorem ahI_pred {n : Nat} {cm : Nat → Nat} {h : Nat} (hh : h < 2 ^ 31) (hn : n < 2 ^ 31) : ahI n cm (nI h - nI 1) h = (decide (0 < h) && ahdB n cm (h - 1) h) := by
  rcases Nat.eq_zero_or_pos h with q | q
  · subst q
    unfold ahI
    rw [isH_neg1]
    rfl
  · rw [pk_sub (by omega), ahI_nat (by omega) hn]
    simp [q]
def scF (n kp : Nat) (kd len : Nat → Nat) (lo : Int32) (ord : Nat → Nat) : Nat := ctB (sourB kd kp (camF kd len lo ord n)) n
def hcF (n : Nat) (kd len : Nat → Nat) (lo : Int32) (ord : Nat → Nat) : Nat := ctB (hearB n kd (camF kd len lo ord n)) n
def wrg (n kp : Nat) (kd len : Nat → Nat) (lo : Int32) (ord : Nat → Nat) : Nat := scF n kp kd len lo ord + hcF n kd len lo ord
theorem wrg_le {n kp : Nat} {kd len : Nat → Nat} {lo : Int32} {ord : Nat → Nat} : wrg n kp kd len lo ord ≤ n + n := Nat.add_le_add (ctB_le _ n) (ctB_le _ n)
theorem pl_keep {kk k : Nat} {x z : Int32} (h : kk ≠ k) : (if kk < k then x else z) = if kk < k + 1 then x else z := by
  by_cases q : kk < k
  · rw [if_pos q, if_pos (by omega)]
  · rw [if_neg q, if_neg (by omega)]
end
section
/-! what the calls tell, in pure words -/
theorem up_le {f : Nat → Nat} {h x B : Nat} (hf : ∀ j, f j ≤ B) (hx : x ≤ B) : ∀ j, va_up f h x j ≤ B := by
  intro j
  unfold va_up
  split
  · exact hx
  · exact hf j
theorem up_self (f : Nat → Nat) (h : Nat) : va_up f h (f h) = f := by
  funext j
  unfold va_up
  split
  · rename_i q; rw [q]
  · rfl
theorem up_at (f : Nat → Nat) (h x : Nat) : va_up f h x h = x := by unfold va_up; rw [if_pos rfl]
theorem up_ne {f : Nat → Nat} {h x j : Nat} (q : j ≠ h) : va_up f h x j = f j := by unfold va_up; rw [if_neg q]
/-- the first m places by g, the others as they were -/
def mixF (m : Nat) (g f : Nat → Nat) : Nat → Nat := fun j => if j < m then g j else f j
theorem mixF_0 (g f : Nat → Nat) : mixF 0 g f = f := by funext j; unfold mixF; rw [if_neg (Nat.not_lt_zero _)]
theorem mixF_s (m : Nat) (g f : Nat → Nat) : va_up (mixF m g f) m (g m) = mixF (m + 1) g f := by
  funext j
  unfold va_up mixF
  by_cases q : j = m
  · subst q; rw [if_pos rfl, if_pos (by omega)]
  · rw [if_neg q]
    by_cases z : j < m
    · rw [if_pos z, if_pos (by omega)]
    · rw [if_neg z, if_neg (by omega)]
theorem mixF_in {m : Nat} {g f : Nat → Nat} {j : Nat} (h : j < m) : mixF m g f j = g j := by unfold mixF; rw [if_pos h]
theorem mixF_out {m : Nat} {g f : Nat → Nat} {j : Nat} (h : ¬ j < m) : mixF m g f j = f j := by unfold mixF; rw [if_neg h]
theorem mixF_le {m : Nat} {g f : Nat → Nat} {B : Nat} (hg : ∀ j, j < m → g j ≤ B) (hf : ∀ j, f j ≤ B) : ∀ j, mixF m g f j ≤ B := by
  intro j
  unfold mixF
  split
  · rename_i q; exact hg j q
  · exact hf j
def posF (ord : Nat → Nat) (h : Nat) : Nat → Nat
  | 0 => 0
  | k + 1 => if ord k = h then k else posF ord h k
theorem posF_to {n : Nat} {ord : Nat → Nat} {h kk : Nat} (hp : PermOn n ord) (hkk : kk < n) (hh : ord kk = h) : ∀ m, kk < m → m ≤ n → posF ord h m = kk
  | 0, q, _ => absurd q (Nat.not_lt_zero _)
  | m + 1, q, z => by
    show (if ord m = h then m else posF ord h m) = kk
    by_cases e : ord m = h
    · rw [if_pos e]
      exact hp.2 m kk (by omega) hkk (by rw [e, hh])
    · rw [if_neg e]
      have hne : kk ≠ m := fun w => e (by rw [← w]; exact hh)
      exact posF_to hp hkk hh m (by omega) (by omega)
theorem posF_eq {n : Nat} {ord : Nat → Nat} {h kk : Nat} (hp : PermOn n ord) (hkk : kk < n) (hh : ord kk = h) : posF ord h n = kk := posF_to hp hkk hh n hkk (Nat.le_refl n)
theorem posF_at {n : Nat} {ord : Nat → Nat} {h : Nat} (hp : PermOn n ord) (hh : h < n) : posF ord h n < n ∧ ord (posF ord h n) = h := by
  obtain ⟨k, hk, e⟩ := hp.onto hh
  rw [posF_eq hp hk e]
  exact ⟨hk, e⟩
def mostF (n kp : Nat) (kd len : Nat → Nat) (lo : Int32) (ord : Nat → Nat) (h : Nat) : Nat → Nat
  | 0 => 0
  | L + 1 => if wrg n kp kd (va_up len h (L + 1)) lo ord ≤ wrg n kp kd (va_up len h 0) lo ord then L + 1 else mostF n kp kd len lo ord h L
/-- what about() tells of a house -/
def hvF (n kp : Nat) (kd len : Nat → Nat) (lo : Int32) (ord : Nat → Nat) (h w : Nat) : Int32 :=
  if w = 0 then nI (kd h) else if w = 1 then nI (len h) else if w = 2 then bitL lo h else if w = 3 then nI (rdm kd len lo h)
  else if w = 4 then nI (posF ord h n) else if w = 5 then nI (camF kd len lo ord n h) else if w = 6 then bI (sourB kd kp (camF kd len lo ord n) h)
  else if w = 7 then bI (hearB n kd (camF kd len lo ord n) h) else nI (mostF n kp kd len lo ord h 9)
def inR (w : Int32) (m : Nat) : Bool := decide (nI 0 ≤ w ∧ w ≤ nI m)
theorem inR_of {w : Int32} {m : Nat} (hm : m < 2 ^ 31) (e : inR w m = true) : ∃ k : Nat, k ≤ m ∧ w = nI k := by
  unfold inR at e
  have e := of_decide_eq_true e
  obtain ⟨j, hj, rfl⟩ := nI_of (x := w) (fun q => by
    have h0 : nI 0 ≤ w := e.1
    rw [nI_0] at h0
    exact absurd q (Int32.not_lt.mpr h0))
  exact ⟨j, (nI_leI hj hm).mp e.2, rfl⟩
theorem inR_nat {k m : Nat} (hk : k < 2 ^ 31) (hm : m < 2 ^ 31) : inR (nI k) m = decide (k ≤ m) := by
  unfold inR
  have h1 : nI 0 ≤ nI k := by rw [nI_leI (by decide) hk]; omega
  simp [h1, nI_leI hk hm]
def rAbout (n kp : Nat) (kd len : Nat → Nat) (lo : Int32) (ord : Nat → Nat) (h w : Int32) : Int32 := bif isH h n then (bif inR w 8 then hvF n kp kd len lo ord h.toNatClampNeg w.toNatClampNeg else -102) else -101
def asOk (d k : Nat) : Bool := decide (k = 0 ∨ d = k ∨ (k = 1 ∧ d = 4))
def rAs (n : Nat) (kd : Nat → Nat) (h k : Int32) : Int32 := bif isH h n then (bif inR k 4 then (bif asOk (kd h.toNatClampNeg) k.toNatClampNeg then h else -1) else -102) else -101
def rLetters (n : Nat) (len : Nat → Nat) (h k : Int32) : Int32 := bif isH h n then (bif inR k 9 then nI (len h.toNatClampNeg) else -102) else -101
def sLetters (n : Nat) (len : Nat → Nat) (h k : Int32) : Nat → Nat := bif isH h n then (bif inR k 9 then va_up len h.toNatClampNeg k.toNatClampNeg else len) else len
def rLeave (n : Nat) (lo h : Int32) : Int32 := bif isH h n then bitL lo h.toNatClampNeg else -101
def sLeave (n : Nat) (lo h : Int32) (o : Bool) : Int32 := bif isH h n then (bif o then lo ||| (nI 1 <<< (h &&& 31)) else lo &&& ((nI 1 <<< (h &&& 31)) ^^^ -1)) else lo
def rSwap (n : Nat) (ord : Nat → Nat) (g h : Int32) : Int32 := bif (isH g n && isH h n) then nI (posF ord g.toNatClampNeg n) else -101
def sSwap (n : Nat) (ord : Nat → Nat) (g h : Int32) : Nat → Nat := bif (isH g n && isH h n) then va_up (va_up ord (posF ord g.toNatClampNeg n) h.toNatClampNeg) (posF ord h.toNatClampNeg n) g.toNatClampNeg else ord
def okC (code : Int32) : Bool := decide (nI 32 ≤ code ∧ code ≤ nI 126)
theorem okC_of {c : Int32} (e : okC c = true) : ∃ k : Nat, 32 ≤ k ∧ k ≤ 126 ∧ c = nI k := by
  unfold okC at e
  have e := of_decide_eq_true e
  obtain ⟨j, hj, rfl⟩ := nI_of (x := c) (fun q => by
    have h0 : nI 32 ≤ c := e.1
    have h1 : (nI 32 : Int32) < 0 := Int32.lt_of_le_of_lt h0 q
    exact absurd h1 (by decide))
  exact ⟨j, (nI_leI (by decide) hj).mp e.1, (nI_leI hj (by decide)).mp e.2, rfl⟩
def rLetter (pl : Nat) (c : Int32) : Int32 := bif okC c then (if pl = 21 then -104 else nI (pl + 1)) else -102
def plLetter (pl : Nat) (c : Int32) : Nat := bif okC c then (if pl = 21 then pl else pl + 1) else pl
def pgLetter (pl : Nat) (pg : Nat → Nat) (c : Int32) : Nat → Nat := bif okC c then (if pl = 21 then pg else va_up pg pl c.toNatClampNeg) else pg
/-- a day: letters behind it -/
def dayG (kd len : Nat → Nat) : Nat → Nat := fun j => if kd j = 3 then len j / 2 else 0
theorem dayG_t {kd len : Nat → Nat} {k : Nat} (h : kd k = 3) : dayG kd len k = len k / 2 := by unfold dayG; rw [if_pos h]
theorem dayG_f {kd len : Nat → Nat} {k : Nat} (h : ¬ kd k = 3) : dayG kd len k = 0 := by unfold dayG; rw [if_neg h]
def dayL (n : Nat) (kd len : Nat → Nat) : Nat → Nat := mixF n (dayG kd len) len
end
section
/-! what is known, sets, whom to ask, weeks, counts, the number of all -/
def inK (m : Int32) : Bool := decide (nI 1 ≤ m ∧ m ≤ nI 150)
theorem inK_of {m : Int32} (e : inK m = true) : ∃ k : Nat, 1 ≤ k ∧ k ≤ 150 ∧ m = nI k := by
  unfold inK at e
  have e := of_decide_eq_true e
  obtain ⟨j, hj, rfl⟩ := nI_of (x := m) (fun q => by
    have h0 : nI 1 ≤ m := e.1
    have h1 : (nI 1 : Int32) < 0 := Int32.lt_of_le_of_lt h0 q
    exact absurd h1 (by decide))
  exact ⟨j, (nI_leI (by decide) hj).mp e.1, (nI_leI hj (by decide)).mp e.2, rfl⟩
def rKnown (n kn : Nat) (h m : Int32) : Int32 := bif isH h n then (bif inK m then (if kn = 6 then -104 else nI (kn + 1)) else -102) else -101
def accK (n kn : Nat) (h m : Int32) : Bool := isH h n && (inK m && decide (¬ kn = 6))
def sKn (n kn : Nat) (h m : Int32) : Nat := bif accK n kn h m then kn + 1 else kn
def sKh (n kn : Nat) (kh : Nat → Nat) (h m : Int32) : Nat → Nat := bif accK n kn h m then va_up kh kn h.toNatClampNeg else kh
def sKm (n kn : Nat) (km : Nat → Nat) (h m : Int32) : Nat → Nat := bif accK n kn h m then va_up km kn m.toNatClampNeg else km
def allB (p : Nat → Bool) : Nat → Bool
  | 0 => true
  | k + 1 => allB p k && p k
def knP (n : Nat) (kd len ord kh km : Nat → Nat) (sx : Int32) (i : Nat) : Bool := decide (camF kd len sx ord n (kh i) = km i)
def knB (n : Nat) (kd len ord : Nat → Nat) (kn : Nat) (kh km : Nat → Nat) (sx : Int32) : Bool := allB (knP n kd len ord kh km sx) kn
def lsF (p : Nat → Bool) : Nat → Nat → Int32
  | _, 0 => -1
  | k, d + 1 => bif p k then nI k else lsF p (k + 1) d
def ctF (p : Nat → Bool) : Nat → Nat → Nat
  | _, 0 => 0
  | k, d + 1 => ctF p (k + 1) d + (bif p k then 1 else 0)
theorem ctF_B (p : Nat → Bool) : ∀ d k, ctB p k + ctF p k d = ctB p (k + d)
  | 0, _ => rfl
  | d + 1, k => by
    have h := ctF_B p d (k + 1)
    rw [show k + (d + 1) = k + 1 + d by omega, ← h]
    show ctB p k + (ctF p (k + 1) d + (bif p k then 1 else 0)) = (ctB p k + (bif p k then 1 else 0)) + ctF p (k + 1) d
    omega
theorem ctF_0 (p : Nat → Bool) (d : Nat) : ctF p 0 d = ctB p d := by
  have h := ctF_B p d 0
  rw [Nat.zero_add] at h
  rw [← h]
  show _ = 0 + _
  omega
theorem ctF_le (p : Nat → Bool) : ∀ d k, ctF p k d ≤ d
  | 0, _ => Nat.le_refl _
  | d + 1, k => by
    have h := ctF_le p d (k + 1)
    show ctF p (k + 1) d + (bif p k then 1 else 0) ≤ d + 1
    cases p k
    · show _ + 0 ≤ _
      omega
    · show _ + 1 ≤ _
      omega
theorem ctF_t {p : Nat → Bool} {k d : Nat} (h : p k = true) : ctF p k (d + 1) = ctF p (k + 1) d + 1 := by show _ + (bif p k then 1 else 0) = _; rw [h]; rfl
theorem ctF_f {p : Nat → Bool} {k d : Nat} (h : p k = false) : ctF p k (d + 1) = ctF p (k + 1) d := by show _ + (bif p k then 1 else 0) = _; rw [h]; rfl
theorem lsF_t {p : Nat → Bool} {k d : Nat} (h : p k = true) : lsF p k (d + 1) = nI k := by show (bif p k then nI k else _) = _; rw [h]; rfl
theorem lsF_f {p : Nat → Bool} {k d : Nat} (h : p k = false) : lsF p k (d + 1) = lsF p (k + 1) d := by show (bif p k then nI k else _) = _; rw [h]; rfl
theorem shl1 : ∀ n, n ≤ 6 → nI 1 <<< (nI n &&& 31) = nI (2 ^ n) := by decide +kernel
theorem pow_le6 : ∀ n, n ≤ 6 → 2 ^ n ≤ 64 := by decide +kernel
theorem pow_pos6 (n : Nat) : 0 < 2 ^ n := Nat.pow_pos (by decide)
/-- the sets that can have been -/
def okS (n : Nat) (kd len ord : Nat → Nat) (kn : Nat) (kh km : Nat → Nat) (st : Nat) : Bool := knB n kd len ord kn kh km (nI st)
def stsF (n : Nat) (kd len ord : Nat → Nat) (kn : Nat) (kh km : Nat → Nat) (w : Nat) : Int32 := if w = 0 then nI (ctB (okS n kd len ord kn kh km) (2 ^ n)) else lsF (okS n kd len ord kn kh km) 0 (2 ^ n)
def rSets (n : Nat) (kd len ord : Nat → Nat) (kn : Nat) (kh km : Nat → Nat) (w : Int32) : Int32 := bif inR w 1 then (if n = 0 then -103 else stsF n kd len ord kn kh km w.toNatClampNeg) else -102
/-- how many are left by an answer, and at worst -/
def wsL (p : Nat → Bool) (c : Nat → Nat) : Nat → (Nat → Nat)
  | 0 => fun _ => 0
  | k + 1 => bif p k then va_up (wsL p c k) (c k) (wsL p c k (c k) + 1) else wsL p c k
def wsW (p : Nat → Bool) (c : Nat → Nat) : Nat → Nat
  | 0 => 0
  | k + 1 => bif p k then (if wsW p c k < wsL p c k (c k) + 1 then wsL p c k (c k) + 1 else wsW p c k) else wsW p c k
theorem wsL_le (p : Nat → Bool) (c : Nat → Nat) : ∀ k m, wsL p c k m ≤ k
  | 0, _ => Nat.le_refl _
  | k + 1, m => by
    have h := wsL_le p c k m
    have h2 := wsL_le p c k (c k)
    show (bif p k then va_up (wsL p c k) (c k) (wsL p c k (c k) + 1) else wsL p c k) m ≤ k + 1
    cases p k
    · show wsL p c k m ≤ k + 1
      omega
    · show va_up (wsL p c k) (c k) (wsL p c k (c k) + 1) m ≤ k + 1
      unfold va_up
      split <;> omega
theorem wsW_le (p : Nat → Bool) (c : Nat → Nat) : ∀ k, wsW p c k ≤ k
  | 0 => Nat.le_refl _
  | k + 1 => by
    have h := wsW_le p c k
    have h2 := wsL_le p c k (c k)
    show (bif p k then (if wsW p c k < wsL p c k (c k) + 1 then wsL p c k (c k) + 1 else wsW p c k) else wsW p c k) ≤ k + 1
    cases p k
    · show wsW p c k ≤ k + 1
      omega
    · show (if wsW p c k < wsL p c k (c k) + 1 then wsL p c k (c k) + 1 else wsW p c k) ≤ k + 1
      split <;> omega
theorem wsL_t {p : Nat → Bool} {c : Nat → Nat} {k : Nat} (h : p k = true) : wsL p c (k + 1) = va_up (wsL p c k) (c k) (wsL p c k (c k) + 1) := by show (bif p k then _ else _) = _; rw [h]; rfl
theorem wsL_f {p : Nat → Bool} {c : Nat → Nat} {k : Nat} (h : p k = false) : wsL p c (k + 1) = wsL p c k := by show (bif p k then _ else _) = _; rw [h]; rfl
theorem wsW_t {p : Nat → Bool} {c : Nat → Nat} {k : Nat} (h : p k = true) : wsW p c (k + 1) = if wsW p c k < wsL p c k (c k) + 1 then wsL p c k (c k) + 1 else wsW p c k := by show (bif p k then _ else _) = _; rw [h]; rfl
theorem wsW_f {p : Nat → Bool} {c : Nat → Nat} {k : Nat} (h : p k = false) : wsW p c (k + 1) = wsW p c k := by show (bif p k then _ else _) = _; rw [h]; rfl
/-- the worst of a house -/
def wstF (n : Nat) (kd len ord : Nat → Nat) (kn : Nat) (kh km : Nat → Nat) (h : Nat) : Nat := wsW (okS n kd len ord kn kh km) (fun st => camF kd len (nI st) ord n h) (2 ^ n)
theorem wstF_le {n : Nat} {kd len ord : Nat → Nat} {kn : Nat} {kh km : Nat → Nat} {h : Nat} (hn : n ≤ 6) : wstF n kd len ord kn kh km h ≤ 64 := Nat.le_trans (wsW_le _ _ _) (pow_le6 n hn)
def amF (w : Nat → Nat) : Nat → Nat
  | 0 => 0
  | k + 1 => if w (k + 1) < w (amF w k) then k + 1 else amF w k
theorem amF_le (w : Nat → Nat) : ∀ k, amF w k ≤ k
  | 0 => Nat.le_refl _
  | k + 1 => by
    have h := amF_le w k
    show (if w (k + 1) < w (amF w k) then k + 1 else amF w k) ≤ k + 1
    split <;> omega
def askF (n : Nat) (kd len ord : Nat → Nat) (kn : Nat) (kh km : Nat → Nat) : Int32 := if ctB (okS n kd len ord kn kh km) (2 ^ n) = 0 then -1 else nI (amF (wstF n kd len ord kn kh km) (n - 1))
/-- the loop that looks for the least worst, at its head -/
def AskI (c : Nat) (w : Nat → Nat) (k : Nat) (x : Int32) (t : Nat) : Prop := (c = 0 → x = -1 ∧ t = 0) ∧ (c ≠ 0 → (k = 0 → x = -1 ∧ t = 268435456) ∧ (0 < k → x = nI (amF w (k - 1)) ∧ t = w (amF w (k - 1))))
theorem AskI_lt {c : Nat} {w : Nat → Nat} {k : Nat} {x : Int32} {t : Nat} (hw : ∀ h, w h ≤ 64) (h : AskI c w k x t) : t < 2 ^ 31 := by
  by_cases q : c = 0
  · rw [(h.1 q).2]; decide
  · rcases Nat.eq_zero_or_pos k with z | z
    · rw [((h.2 q).1 z).2]; decide
    · rw [((h.2 q).2 z).2]
      have := hw (amF w (k - 1))
      omega
theorem AskI_yes {c : Nat} {w : Nat → Nat} {k : Nat} {x : Int32} {t : Nat} (h : AskI c w k x t) (q : w k < t) : AskI c w (k + 1) (nI k) (w k) := by
  refine ⟨fun e => absurd q (by rw [(h.1 e).2]; exact Nat.not_lt_zero _), fun e => ⟨fun z => by omega, fun _ => ?_⟩⟩
  rw [Nat.add_sub_cancel]
  rcases Nat.eq_zero_or_pos k with z | z
  · subst z
    exact ⟨rfl, rfl⟩
  · obtain ⟨j, rfl⟩ : ∃ j, k = j + 1 := ⟨k - 1, by omega⟩
    have h2 := (h.2 e).2 z
    rw [Nat.add_sub_cancel] at h2
    have : amF w (j + 1) = j + 1 := by
      show (if w (j + 1) < w (amF w j) then j + 1 else amF w j) = j + 1
      rw [if_pos (by omega)]
    rw [this]
    exact ⟨rfl, rfl⟩
theorem AskI_no {c : Nat} {w : Nat → Nat} {k : Nat} {x : Int32} {t : Nat} (hw : ∀ h, w h ≤ 64) (h : AskI c w k x t) (q : ¬ w k < t) : AskI c w (k + 1) x t := by
  refine ⟨h.1, fun e => ⟨fun z => by omega, fun _ => ?_⟩⟩
  rw [Nat.add_sub_cancel]
  rcases Nat.eq_zero_or_pos k with z | z
  · have h2 := (h.2 e).1 z
    have := hw k
    omega
  · obtain ⟨j, rfl⟩ : ∃ j, k = j + 1 := ⟨k - 1, by omega⟩
    have h2 := (h.2 e).2 z
    rw [Nat.add_sub_cancel] at h2
    have : amF w (j + 1) = amF w j := by
      show (if w (j + 1) < w (amF w j) then j + 1 else amF w j) = amF w j
      rw [if_neg (by omega)]
    rw [this]
    exact h2
theorem AskI_end {n : Nat} {kd len ord : Nat → Nat} {kn : Nat} {kh km : Nat → Nat} {x : Int32} {t : Nat} (hn : 0 < n) (h : AskI (ctB (okS n kd len ord kn kh km) (2 ^ n)) (wstF n kd len ord kn kh km) n x t) : x = askF n kd len ord kn kh km := by
  unfold askF
  by_cases q : ctB (okS n kd len ord kn kh km) (2 ^ n) = 0
  · rw [if_pos q]; exact (h.1 q).1
  · rw [if_neg q]; exact ((h.2 q).2 hn).1
/-! weeks -/
def drF (x : Nat) : Nat := (1103515245 * x + 12345) % 2147483648
def dgF (s : Nat) : Nat := s / 65536 % 10
def itD : Nat → Nat → Nat
  | 0, x => x
  | k + 1, x => drF (itD k x)
def rowD (x : Nat) : Nat → Nat := fun h => dgF (itD (h + 1) x)
theorem drF_lt (x : Nat) : drF x < 2147483648 := Nat.mod_lt _ (by decide)
theorem dgF_le (s : Nat) : dgF s ≤ 9 := by
  have h : s / 65536 % 10 < 10 := Nat.mod_lt _ (by decide)
  show s / 65536 % 10 ≤ 9
  omega
theorem itD_lt {x : Nat} (hx : x < 2147483648) : ∀ k, itD k x < 2147483648
  | 0 => hx
  | k + 1 => drF_lt _
def sdF (n x : Nat) : Nat → Nat
  | 0 => x
  | k + 1 => itD n (sdF n x k)
theorem sdF_lt {n x : Nat} (hx : x < 2147483648) : ∀ k, sdF n x k < 2147483648
  | 0 => hx
  | k + 1 => itD_lt (sdF_lt hx k) n
def ssF (n kp : Nat) (kd : Nat → Nat) (lo : Int32) (ord : Nat → Nat) (x : Nat) : Nat → Nat
  | 0 => 0
  | k + 1 => ssF n kp kd lo ord x k + scF n kp kd (rowD (sdF n x k)) lo ord
def hsF (n : Nat) (kd : Nat → Nat) (lo : Int32) (ord : Nat → Nat) (x : Nat) : Nat → Nat
  | 0 => 0
  | k + 1 => hsF n kd lo ord x k + hcF n kd (rowD (sdF n x k)) lo ord
def wkF (n kp : Nat) (kd : Nat → Nat) (lo : Int32) (ord : Nat → Nat) (d x w : Nat) : Int32 := if w = 0 then nI (ssF n kp kd lo ord x d) else if w = 1 then nI (hsF n kd lo ord x d) else nI (sdF n x d)
def inD (d : Int32) : Bool := decide (nI 1 ≤ d ∧ d ≤ nI 60)
theorem inD_of {m : Int32} (e : inD m = true) : ∃ k : Nat, 1 ≤ k ∧ k ≤ 60 ∧ m = nI k := by
  unfold inD at e
  have e := of_decide_eq_true e
  obtain ⟨j, hj, rfl⟩ := nI_of (x := m) (fun q => by
    have h0 : nI 1 ≤ m := e.1
    have h1 : (nI 1 : Int32) < 0 := Int32.lt_of_le_of_lt h0 q
    exact absurd h1 (by decide))
  exact ⟨j, (nI_leI (by decide) hj).mp e.1, (nI_leI hj (by decide)).mp e.2, rfl⟩
def rWeeks (n kp : Nat) (kd : Nat → Nat) (lo : Int32) (ord : Nat → Nat) (d x w : Int32) : Int32 := bif (inD d && (decide (¬ x < 0) && inR w 2)) then (if n = 0 then -103 else wkF n kp kd lo ord d.toNatClampNeg x.toNatClampNeg w.toNatClampNeg) else -102
/-! only what is among the houses counts -/
theorem rdm_cong {kd len len' : Nat → Nat} {lo : Int32} {h : Nat} (e : len h = len' h) : rdm kd len lo h = rdm kd len' lo h := by unfold rdm; rw [e]
theorem tmF_cong {kd len len' : Nat → Nat} {lo : Int32} {ord : Nat → Nat} : ∀ {k : Nat}, (∀ i, i < k → len (ord i) = len' (ord i)) → tmF kd len lo ord k = tmF kd len' lo ord k
  | 0, _ => rfl
  | k + 1, h => by
    show tmF kd len lo ord k + (1 + rdm kd len lo (ord k)) = tmF kd len' lo ord k + (1 + rdm kd len' lo (ord k))
    rw [tmF_cong (fun i hi => h i (by omega)), rdm_cong (h k (by omega))]
theorem camF_cong {n : Nat} {kd len len' : Nat → Nat} {lo : Int32} {ord : Nat → Nat} (hp : PermOn n ord) (e : ∀ j, j < n → len j = len' j) : ∀ h, h < n → camF kd len lo ord n h = camF kd len' lo ord n h := by
  intro h hh
  obtain ⟨k, hk, rfl⟩ := hp.onto hh
  unfold camF
  rw [gof_at hp n (Nat.le_refl n) k hk, gof_at hp n (Nat.le_refl n) k hk, tmF_cong (fun i hi => e _ (hp.1 i (by omega)))]
theorem scF_cong {n kp : Nat} {kd len len' : Nat → Nat} {lo : Int32} {ord : Nat → Nat} (hp : PermOn n ord) (e : ∀ j, j < n → len j = len' j) : scF n kp kd len lo ord = scF n kp kd len' lo ord := ctB_cong (fun k hk => sourB_cong (camF_cong hp e k hk))
theorem hcF_cong {n : Nat} {kd len len' : Nat → Nat} {lo : Int32} {ord : Nat → Nat} (hp : PermOn n ord) (e : ∀ j, j < n → len j = len' j) : hcF n kd len lo ord = hcF n kd len' lo ord := ctB_cong (fun k hk => hearB_cong hk (camF_cong hp e))
/-! a sum by another order -/
def smF (f : Nat → Nat) : Nat → Nat
  | 0 => 0
  | k + 1 => smF f k + f k
theorem smF_add (f g : Nat → Nat) : ∀ n, smF (fun k => f k + g k) n = smF f n + smF g n
  | 0 => rfl
  | n + 1 => by
    have h := smF_add f g n
    show smF (fun k => f k + g k) n + (f n + g n) = (smF f n + f n) + (smF g n + g n)
    omega
theorem smF_cong {f g : Nat → Nat} : ∀ {n : Nat}, (∀ k, k < n → f k = g k) → smF f n = smF g n
  | 0, _ => rfl
  | n + 1, h => by
    show smF f n + f n = smF g n + g n
    rw [smF_cong (fun k hk => h k (by omega)), h n (by omega)]
theorem smF_zero {f : Nat → Nat} : ∀ {n : Nat}, (∀ k, k < n → f k = 0) → smF f n = 0
  | 0, _ => rfl
  | n + 1, h => by
    show smF f n + f n = 0
    rw [smF_zero (fun k hk => h k (by omega)), h n (by omega)]
theorem smF_one {f : Nat → Nat} {i : Nat} : ∀ {n : Nat}, i < n → (∀ k, k < n → k ≠ i → f k = 0) → smF f n = f i
  | 0, h, _ => absurd h (Nat.not_lt_zero _)
  | n + 1, h, hz => by
    show smF f n + f n = f i
    by_cases q : i = n
    · subst q
      rw [smF_zero (fun k hk => hz k (by omega) (by omega)), Nat.zero_add]
    · rw [smF_one (by omega) (fun k hk hki => hz k (by omega) hki), hz n (by omega) (fun z => q z.symm), Nat.add_zero]
theorem smF_swap (f : Nat → Nat → Nat) (m : Nat) : ∀ n, smF (fun i => smF (fun j => f i j) m) n = smF (fun j => smF (fun i => f i j) n) m
  | 0 => (smF_zero (fun _ _ => rfl)).symm
  | n + 1 => by
    show smF (fun i => smF (fun j => f i j) m) n + smF (fun j => f n j) m = _
    rw [smF_swap f m n, ← smF_add]
    exact smF_cong (fun _ _ => rfl)
theorem smF_perm {n : Nat} {ord : Nat → Nat} (hp : PermOn n ord) (f : Nat → Nat) : smF (fun k => f (ord k)) n = smF f n := by
  have h1 : smF (fun k => f (ord k)) n = smF (fun k => smF (fun h => if ord k = h then f h else 0) n) n := smF_cong (fun k hk => by
    rw [smF_one (i := ord k) (hp.1 k hk) (fun j _ hj => if_neg (fun q => hj q.symm)), if_pos rfl])
  have h2 : smF f n = smF (fun h => smF (fun k => if ord k = h then f h else 0) n) n := smF_cong (fun h hh => by
    obtain ⟨k, hk, e⟩ := hp.onto hh
    rw [smF_one (i := k) hk (fun j hj hjk => if_neg (fun q => hjk (hp.2 j k hj hk (by rw [q, e])))), if_pos e])
  rw [h1, h2, smF_swap]
theorem tmF_sum (kd len : Nat → Nat) (lo : Int32) (ord : Nat → Nat) : ∀ k, tmF kd len lo ord k = smF (fun i => 1 + rdm kd len lo (ord i)) k
  | 0 => rfl
  | k + 1 => by
    show tmF kd len lo ord k + (1 + rdm kd len lo (ord k)) = smF (fun i => 1 + rdm kd len lo (ord i)) k + (1 + rdm kd len lo (ord k))
    rw [tmF_sum kd len lo ord k]
theorem tmF_way {n : Nat} {kd len : Nat → Nat} {lo : Int32} {ord : Nat → Nat} (hp : PermOn n ord) : tmF kd len lo ord n = smF (fun h => 1 + rdm kd len lo h) n := by
  rw [tmF_sum]
  exact smF_perm hp (fun h => 1 + rdm kd len lo h)
/-! counts, the number of all -/
def cvF (n kp : Nat) (kd len : Nat → Nat) (lo : Int32) (ord : Nat → Nat) (dy so he : Int32) (kn pl rn ak w : Nat) : Int32 :=
  if w = 0 then nI n else if w = 1 then nI kp else if w = 2 then dy else if w = 3 then so else if w = 4 then he else if w = 5 then nI (scF n kp kd len lo ord) else if w = 6 then nI (hcF n kd len lo ord)
  else if w = 7 then nI (tmF kd len lo ord n) else if w = 8 then nI kn else if w = 9 then nI pl else if w = 10 then nI rn else nI ak
def rCount (n kp : Nat) (kd len : Nat → Nat) (lo : Int32) (ord : Nat → Nat) (dy so he : Int32) (kn pl rn ak : Nat) (w : Int32) : Int32 := bif inR w 11 then cvF n kp kd len lo ord dy so he kn pl rn ak w.toNatClampNeg else -102
def mxL (h v : Int64) : Int64 := 31 * h + v
def fdL (f : Nat → Int32) (h : Int64) : Nat → Int64
  | 0 => h
  | k + 1 => mxL (fdL f h k) (f k).toInt64
def fdH (g : Nat → Nat → Int32) (h : Int64) : Nat → Int64
  | 0 => h
  | e + 1 => fdL (g e) (fdH g h e) 9
def dgS (n : Nat) (kd len ord : Nat → Nat) (kn : Nat) (kh km : Nat → Nat) (h : Int64) : Int64 := if n = 0 then h else mxL (mxL (mxL h (stsF n kd len ord kn kh km 0).toInt64) (stsF n kd len ord kn kh km 1).toInt64) (askF n kd len ord kn kh km).toInt64
def rDigest (n kp : Nat) (kd len : Nat → Nat) (lo : Int32) (ord : Nat → Nat) (dy so he : Int32) (kn : Nat) (kh km : Nat → Nat) (pl rn ak : Nat) (pg : Nat → Nat) : Int64 :=
  fdL (cvF n kp kd len lo ord dy so he kn pl rn ak) (fdL (fun k => nI (pg k)) (dgS n kd len ord kn kh km (fdH (hvF n kp kd len lo ord) 1087 n)) pl) 12
end
section
/-! rows for weeks, counts, images -/
theorem fb_andL (a b : Nat) : lN a &&& lN b = lN (a &&& b) := by
  apply Int64.toBitVec_inj.1
  show BitVec.ofNat 64 a &&& BitVec.ofNat 64 b = BitVec.ofNat 64 (a &&& b)
  apply BitVec.eq_of_getLsbD_eq
  intro i hi
  simp [hi]
theorem fb_maskL (n k : Nat) : lN n &&& lN (2 ^ k - 1) = lN (n % 2 ^ k) := by rw [fb_andL, Nat.and_two_pow_sub_one_eq_mod]
theorem mr_and31 (x : Nat) : lN x &&& (2147483647 : Int64) = lN (x % 2147483648) := fb_maskL x 31
theorem mr_b8 : ∀ x, x < 128 → (nI x).toInt8.toInt32 = nI x := by decide +kernel
theorem mr_rem {a b : Nat} (ha : a < 2 ^ 63) (h0 : 0 < b) (hb : b < 2 ^ 63) : lN a - lN a / lN b * lN b = lN (a % b) := pk_lRem ha h0 hb
theorem mix_back {ln len sl : Nat → Nat} (h : ∀ j, ¬ j < 6 → ln j = len j) : mixF 6 (mixF 6 len sl) ln = len := by
  funext j
  by_cases q : j < 6
  · rw [mixF_in q, mixF_in q]
  · rw [mixF_out q, h j q]
theorem mix_back2 {f g o : Nat → Nat} (h : ∀ j, ¬ j < 6 → g j = f j) : mixF 6 (mixF 6 f o) g = f := mix_back h
theorem inR_out {w : Int32} {m : Nat} (hm : m < 2 ^ 31) (h : inR w m = false) : w.toInt < 0 ∨ (m : Int) < w.toInt := by
  unfold inR at h
  have h := of_decide_eq_false h
  rw [Int32.le_iff_toInt_le, Int32.le_iff_toInt_le, nI_toInt (by decide), nI_toInt hm] at h
  omega
def rsB (ik : Bool) (kr rn : Nat) : Bool := ik && decide (kr = rn)
end
section
/-! the page -/
def dgB (c : Nat) : Bool := decide (48 ≤ c ∧ c ≤ 57)
def dkB (c : Nat) : Bool := decide (49 ≤ c ∧ c ≤ 57)
def kdB (c : Nat) : Bool := decide (c = 104 ∨ c = 115 ∨ c = 97 ∨ c = 98 ∨ c = 119)
def mkB (hs c : Nat) : Bool := decide ((c = 44 ∧ hs < 6) ∨ (c = 59 ∧ 2 ≤ hs))
def ftB (k c : Nat) (cl : Bool) : Bool := if k % 3 = 0 then (bif cl then dkB c else kdB c) else if k % 3 = 1 then (dgB c && !cl) else mkB (k / 3 + 1) c
def ffR (pg : Nat → Nat) (cl : Bool) : Nat → Nat → Nat
  | 0, k => k
  | d + 1, k => bif ftB k (pg k) cl then ffR pg (cl || decide (pg k = 59)) d (k + 1) else k
def ffF (pg : Nat → Nat) (pl : Nat) : Nat := ffR pg false pl 0
def whlB (pg : Nat → Nat) (pl : Nat) : Bool := decide (2 ≤ pl ∧ pg (pl - 2) = 59 ∧ ffF pg pl = pl)
theorem ffR_ok {pg : Nat → Nat} {cl : Bool} {d k : Nat} (h : ftB k (pg k) cl = true) : ffR pg cl (d + 1) k = ffR pg (cl || decide (pg k = 59)) d (k + 1) := by show (bif ftB k (pg k) cl then _ else _) = _; rw [h]; rfl
theorem ffR_no {pg : Nat → Nat} {cl : Bool} {d k : Nat} (h : ftB k (pg k) cl = false) : ffR pg cl (d + 1) k = k := by show (bif ftB k (pg k) cl then _ else _) = _; rw [h]; rfl
theorem ffR_le {pg : Nat → Nat} : ∀ (d : Nat) (cl : Bool) (k : Nat), ffR pg cl d k ≤ k + d
  | 0, _, _ => Nat.le_refl _
  | d + 1, cl, k => by
    show (bif ftB k (pg k) cl then ffR pg (cl || decide (pg k = 59)) d (k + 1) else k) ≤ k + (d + 1)
    have h := ffR_le (pg := pg) d (cl || decide (pg k = 59)) (k + 1)
    cases ftB k (pg k) cl
    · show k ≤ _
      omega
    · show ffR pg (cl || decide (pg k = 59)) d (k + 1) ≤ _
      omega
theorem ft0 {m c : Nat} {cl : Bool} : ftB (3 * m) c cl = (bif cl then dkB c else kdB c) := by unfold ftB; rw [if_pos (by omega)]
theorem ft1 {m c : Nat} {cl : Bool} : ftB (3 * m + 1) c cl = (dgB c && !cl) := by unfold ftB; rw [if_neg (by omega), if_pos (by omega)]
theorem ft2 {m c : Nat} {cl : Bool} : ftB (3 * m + 2) c cl = mkB (m + 1) c := by unfold ftB; rw [if_neg (by omega), if_neg (by omega), show (3 * m + 2) / 3 = m by omega]
theorem kdB_59 {c : Nat} (h : kdB c = true) : decide (c = 59) = false := decide_eq_false (by have := of_decide_eq_true h; omega)
theorem dgB_59 {c : Nat} (h : dgB c = true) : decide (c = 59) = false := decide_eq_false (by have := of_decide_eq_true h; omega)
/-- what stands ahead of house m is as it must be -/
def PgI (pg : Nat → Nat) (pl m : Nat) : Prop := (∀ i, i < m → kdB (pg (3 * i)) = true ∧ dgB (pg (3 * i + 1)) = true ∧ pg (3 * i + 2) = 44) ∧ 3 * m ≤ pl ∧ ffF pg pl = ffR pg false (pl - 3 * m) (3 * m)
theorem PgI_0 (pg : Nat → Nat) (pl : Nat) : PgI pg pl 0 := ⟨fun i h => absurd h (Nat.not_lt_zero i), Nat.zero_le _, rfl⟩
theorem whl_lt {pg : Nat → Nat} {pl k : Nat} (h : ffF pg pl = k) (hk : k < pl) : whlB pg pl = false := decide_eq_false (fun q => by omega)
theorem Pg_a {pg : Nat → Nat} {pl m : Nat} (h : PgI pg pl m) (e : 3 * m = pl) : ffF pg pl = 3 * m ∧ whlB pg pl = false := by
  obtain ⟨h1, h2, h3⟩ := h
  refine ⟨by rw [h3, show pl - 3 * m = 0 by omega]; rfl, decide_eq_false (fun q => ?_)⟩
  obtain ⟨i, rfl⟩ : ∃ i, m = i + 1 := ⟨m - 1, by omega⟩
  have h4 := of_decide_eq_true (h1 i (by omega)).2.1
  have h5 := q.2.1
  rw [show pl - 2 = 3 * i + 1 by omega] at h5
  omega
theorem Pg_b {pg : Nat → Nat} {pl m : Nat} (h : PgI pg pl m) (e : 3 * m < pl) (k : kdB (pg (3 * m)) = false) : ffF pg pl = 3 * m ∧ whlB pg pl = false := by
  have h3 : ffF pg pl = 3 * m := by
    rw [h.2.2, show pl - 3 * m = (pl - 3 * m - 1) + 1 by omega, ffR_no (by rw [ft0]; exact k)]
  exact ⟨h3, whl_lt h3 e⟩
theorem Pg_1 {pg : Nat → Nat} {pl m : Nat} (h : PgI pg pl m) (e : 3 * m < pl) (k : kdB (pg (3 * m)) = true) : ffF pg pl = ffR pg false (pl - (3 * m + 1)) (3 * m + 1) := by
  rw [h.2.2, show pl - 3 * m = (pl - (3 * m + 1)) + 1 by omega, ffR_ok (by rw [ft0]; exact k), kdB_59 k]
  rfl
theorem Pg_c1 {pg : Nat → Nat} {pl m : Nat} (h : PgI pg pl m) (k : kdB (pg (3 * m)) = true) (e : 3 * m + 1 = pl) : ffF pg pl = 3 * m + 1 ∧ whlB pg pl = false := by
  refine ⟨by rw [Pg_1 h (by omega) k, show pl - (3 * m + 1) = 0 by omega]; rfl, decide_eq_false (fun q => ?_)⟩
  obtain ⟨i, rfl⟩ : ∃ i, m = i + 1 := ⟨m - 1, by omega⟩
  have h4 := (h.1 i (by omega)).2.2
  have h5 := q.2.1
  rw [show pl - 2 = 3 * i + 2 by omega] at h5
  omega
theorem Pg_c2 {pg : Nat → Nat} {pl m : Nat} (h : PgI pg pl m) (k : kdB (pg (3 * m)) = true) (e : 3 * m + 1 < pl) (g : dgB (pg (3 * m + 1)) = false) : ffF pg pl = 3 * m + 1 ∧ whlB pg pl = false := by
  have h3 : ffF pg pl = 3 * m + 1 := by
    rw [Pg_1 h (by omega) k, show pl - (3 * m + 1) = (pl - (3 * m + 1) - 1) + 1 by omega, ffR_no (by rw [ft1, g]; rfl)]
  exact ⟨h3, whl_lt h3 e⟩
theorem Pg_2 {pg : Nat → Nat} {pl m : Nat} (h : PgI pg pl m) (k : kdB (pg (3 * m)) = true) (e : 3 * m + 1 < pl) (g : dgB (pg (3 * m + 1)) = true) : ffF pg pl = ffR pg false (pl - (3 * m + 2)) (3 * m + 2) := by
  rw [Pg_1 h (by omega) k, show pl - (3 * m + 1) = (pl - (3 * m + 2)) + 1 by omega, ffR_ok (by rw [ft1, g]; rfl), dgB_59 g]
  rfl
theorem Pg_e1 {pg : Nat → Nat} {pl m : Nat} (h : PgI pg pl m) (k : kdB (pg (3 * m)) = true) (g : dgB (pg (3 * m + 1)) = true) (e : 3 * m + 2 = pl) : ffF pg pl = 3 * m + 2 ∧ whlB pg pl = false := by
  refine ⟨by rw [Pg_2 h k (by omega) g, show pl - (3 * m + 2) = 0 by omega]; rfl, decide_eq_false (fun q => ?_)⟩
  have h4 := of_decide_eq_true k
  have h5 := q.2.1
  rw [show pl - 2 = 3 * m by omega] at h5
  omega
theorem Pg_e2 {pg : Nat → Nat} {pl m : Nat} (h : PgI pg pl m) (k : kdB (pg (3 * m)) = true) (g : dgB (pg (3 * m + 1)) = true) (e : 3 * m + 2 < pl) (q : mkB (m + 1) (pg (3 * m + 2)) = false) : ffF pg pl = 3 * m + 2 ∧ whlB pg pl = false := by
  have h3 : ffF pg pl = 3 * m + 2 := by
    rw [Pg_2 h k (by omega) g, show pl - (3 * m + 2) = (pl - (3 * m + 2) - 1) + 1 by omega, ffR_no (by rw [ft2]; exact q)]
  exact ⟨h3, whl_lt h3 e⟩
theorem Pg_n {pg : Nat → Nat} {pl m : Nat} (h : PgI pg pl m) (k : kdB (pg (3 * m)) = true) (g : dgB (pg (3 * m + 1)) = true) (e : 3 * m + 2 < pl) (q : pg (3 * m + 2) = 44) (hm : m + 1 < 6) : PgI pg pl (m + 1) := by
  refine ⟨fun i hi => ?_, by omega, ?_⟩
  · by_cases z : i = m
    · subst z; exact ⟨k, g, q⟩
    · exact h.1 i (by omega)
  · rw [Pg_2 h k (by omega) g, show pl - (3 * m + 2) = (pl - 3 * (m + 1)) + 1 by omega, ffR_ok (by rw [ft2]; exact decide_eq_true (Or.inl ⟨q, hm⟩)), decide_eq_false (by omega)]
    rfl
theorem Pg_3 {pg : Nat → Nat} {pl m : Nat} (h : PgI pg pl m) (k : kdB (pg (3 * m)) = true) (g : dgB (pg (3 * m + 1)) = true) (e : 3 * m + 2 < pl) (q : pg (3 * m + 2) = 59) (hm : 2 ≤ m + 1) : ffF pg pl = ffR pg true (pl - (3 * (m + 1))) (3 * (m + 1)) := by
  rw [Pg_2 h k (by omega) g, show pl - (3 * m + 2) = (pl - 3 * (m + 1)) + 1 by omega, ffR_ok (by rw [ft2]; exact decide_eq_true (Or.inr ⟨q, hm⟩)), decide_eq_true q]
  rfl
theorem Pg_d1 {pg : Nat → Nat} {pl m : Nat} (h : PgI pg pl m) (k : kdB (pg (3 * m)) = true) (g : dgB (pg (3 * m + 1)) = true) (q : pg (3 * m + 2) = 59) (hm : 2 ≤ m + 1) (e : 3 * m + 3 = pl) : ffF pg pl = 3 * m + 3 ∧ whlB pg pl = false := by
  refine ⟨by rw [Pg_3 h k g (by omega) q hm, show pl - 3 * (m + 1) = 0 by omega]; show 3 * (m + 1) = _; omega, decide_eq_false (fun z => ?_)⟩
  have h4 := of_decide_eq_true g
  have h5 := z.2.1
  rw [show pl - 2 = 3 * m + 1 by omega] at h5
  omega
theorem Pg_d2 {pg : Nat → Nat} {pl m : Nat} (h : PgI pg pl m) (k : kdB (pg (3 * m)) = true) (g : dgB (pg (3 * m + 1)) = true) (q : pg (3 * m + 2) = 59) (hm : 2 ≤ m + 1) (e : 3 * m + 3 < pl) (z : dkB (pg (3 * m + 3)) = false) : ffF pg pl = 3 * m + 3 ∧ whlB pg pl = false := by
  have h3 : ffF pg pl = 3 * m + 3 := by
    rw [Pg_3 h k g (by omega) q hm, show pl - 3 * (m + 1) = (pl - 3 * (m + 1) - 1) + 1 by omega, ffR_no (by rw [ft0]; exact z)]
    omega
  exact ⟨h3, whl_lt h3 e⟩
theorem dkB_59 {c : Nat} (h : dkB c = true) : decide (c = 59) = false := decide_eq_false (by have := of_decide_eq_true h; omega)
theorem Pg_4 {pg : Nat → Nat} {pl m : Nat} (h : PgI pg pl m) (k : kdB (pg (3 * m)) = true) (g : dgB (pg (3 * m + 1)) = true) (q : pg (3 * m + 2) = 59) (hm : 2 ≤ m + 1) (e : 3 * m + 3 < pl) (z : dkB (pg (3 * m + 3)) = true) : ffF pg pl = ffR pg true (pl - (3 * m + 4)) (3 * m + 4) := by
  rw [Pg_3 h k g (by omega) q hm, show pl - 3 * (m + 1) = (pl - (3 * m + 4)) + 1 by omega, ffR_ok (by rw [ft0]; exact z)]
  rfl
theorem Pg_d3 {pg : Nat → Nat} {pl m : Nat} (h : PgI pg pl m) (k : kdB (pg (3 * m)) = true) (g : dgB (pg (3 * m + 1)) = true) (q : pg (3 * m + 2) = 59) (hm : 2 ≤ m + 1) (z : dkB (pg (3 * m + 3)) = true) (e : 3 * m + 4 = pl) : ffF pg pl = 3 * m + 4 ∧ whlB pg pl = true := by
  have h3 : ffF pg pl = 3 * m + 4 := by
    rw [Pg_4 h k g q hm (by omega) z, show pl - (3 * m + 4) = 0 by omega]; rfl
  refine ⟨h3, decide_eq_true ⟨by omega, ?_, by omega⟩⟩
  rw [show pl - 2 = 3 * m + 2 by omega]
  exact q
theorem Pg_d4 {pg : Nat → Nat} {pl m : Nat} (h : PgI pg pl m) (k : kdB (pg (3 * m)) = true) (g : dgB (pg (3 * m + 1)) = true) (q : pg (3 * m + 2) = 59) (hm : 2 ≤ m + 1) (z : dkB (pg (3 * m + 3)) = true) (e : 3 * m + 4 < pl) : ffF pg pl = 3 * m + 4 ∧ whlB pg pl = false := by
  have h3 : ffF pg pl = 3 * m + 4 := by
    rw [Pg_4 h k g q hm (by omega) z, show pl - (3 * m + 4) = (pl - (3 * m + 4) - 1) + 1 by omega, ffR_no (by rw [show 3 * m + 4 = 3 * (m + 1) + 1 by omega, ft1, Bool.not_true, Bool.and_false])]
  exact ⟨h3, whl_lt h3 e⟩
/-- a page that is a round: how many houses, and what its signs are -/
def PgW (pg : Nat → Nat) (pl m : Nat) : Prop := pl = 3 * m + 1 ∧ 2 ≤ m ∧ m ≤ 6 ∧ (∀ h, h < m → kdB (pg (3 * h)) = true ∧ dgB (pg (3 * h + 1)) = true) ∧ dkB (pg (3 * m)) = true
theorem PgW_step {pg : Nat → Nat} {pl m : Nat} (hw : whlB pg pl = true) (hm : m ≤ 5) (h : PgI pg pl m) : (∃ M, PgW pg pl M) ∨ (m + 1 < 6 ∧ PgI pg pl (m + 1)) := by
  rcases Nat.lt_or_ge (3 * m) pl with q | q
  · rcases hk : kdB (pg (3 * m)) with _ | _
    · exact absurd hw (by rw [(Pg_b h q hk).2]; decide)
    · rcases Nat.lt_or_ge (3 * m + 1) pl with q1 | q1
      · rcases hg : dgB (pg (3 * m + 1)) with _ | _
        · exact absurd hw (by rw [(Pg_c2 h hk q1 hg).2]; decide)
        · rcases Nat.lt_or_ge (3 * m + 2) pl with q2 | q2
          · rcases hq : mkB (m + 1) (pg (3 * m + 2)) with _ | _
            · exact absurd hw (by rw [(Pg_e2 h hk hg q2 hq).2]; decide)
            · rcases of_decide_eq_true hq with hq2 | hq2
              · exact Or.inr ⟨hq2.2, Pg_n h hk hg q2 hq2.1 hq2.2⟩
              · rcases Nat.lt_or_ge (3 * m + 3) pl with q3 | q3
                · rcases hz : dkB (pg (3 * m + 3)) with _ | _
                  · exact absurd hw (by rw [(Pg_d2 h hk hg hq2.1 hq2.2 q3 hz).2]; decide)
                  · rcases Nat.lt_or_ge (3 * m + 4) pl with q4 | q4
                    · exact absurd hw (by rw [(Pg_d4 h hk hg hq2.1 hq2.2 hz q4).2]; decide)
                    · refine Or.inl ⟨m + 1, by omega, hq2.2, by omega, fun i hi => ?_, hz⟩
                      by_cases z : i = m
                      · subst z; exact ⟨hk, hg⟩
                      · exact ⟨(h.1 i (by omega)).1, (h.1 i (by omega)).2.1⟩
                · exact absurd hw (by rw [(Pg_d1 h hk hg hq2.1 hq2.2 (by omega)).2]; decide)
          · exact absurd hw (by rw [(Pg_e1 h hk hg (by omega)).2]; decide)
      · exact absurd hw (by rw [(Pg_c1 h hk (by omega)).2]; decide)
  · exact absurd hw (by rw [(Pg_a h (by have := h.2.1; omega)).2]; decide)
theorem PgW_of {pg : Nat → Nat} {pl : Nat} (hw : whlB pg pl = true) : ∀ d m, m + d = 5 → PgI pg pl m → ∃ M, PgW pg pl M := by
  intro d
  induction d with
  | zero =>
    intro m hm h
    rcases PgW_step hw (by omega) h with q | q
    · exact q
    · omega
  | succ d ih =>
    intro m hm h
    rcases PgW_step hw (by omega) h with q | q
    · exact q
    · exact ih (m + 1) (by omega) q.2
theorem PgW_whl {pg : Nat → Nat} {pl : Nat} (hw : whlB pg pl = true) : PgW pg pl (pl / 3) := by
  obtain ⟨M, hM⟩ := PgW_of hw 5 0 rfl (PgI_0 pg pl)
  have e : pl / 3 = M := by have := hM.1; omega
  rw [e]; exact hM
/-! kinds by their letters, figures -/
def kdN (c : Nat) : Nat := if c = 97 then 2 else if c = 98 then 3 else if c = 115 then 1 else if c = 119 then 4 else 0
def kbF (c : Nat) : Int32 := bif kdB c then nI (kdN c) else -1
theorem kdN_le (c : Nat) : kdN c ≤ 4 := by unfold kdN; split <;> (try split) <;> (try split) <;> (try split) <;> omega
theorem kbF_no {c : Nat} (h : kbF c = -1) : kdB c = false := by
  rcases q : kdB c with _ | _
  · rfl
  · exfalso
    unfold kbF at h
    rw [q] at h
    have h2 : nI (kdN c) = -1 := h
    have h3 := mr_gez (kdN c) (by have := kdN_le c; omega)
    rw [h2] at h3
    exact absurd (h3.mpr (Nat.zero_le _)) (by decide)
theorem kbF_yes {c : Nat} (h : ¬ kbF c = -1) : kdB c = true := by
  rcases q : kdB c with _ | _
  · exact absurd (by unfold kbF; rw [q]; rfl) h
  · rfl
def fgI (pg : Nat → Nat) (pl k : Nat) : Int32 := if k < pl then nI (pg k) - nI 48 else -1
theorem fg_in {pg : Nat → Nat} {pl k lo : Nat} (hp : pg k < 128) (hlo : lo < 10) : decide (nI lo ≤ fgI pg pl k ∧ fgI pg pl k ≤ nI 9) = (decide (k < pl) && decide (48 + lo ≤ pg k ∧ pg k ≤ 57)) := by
  unfold fgI
  by_cases q : k < pl
  · rw [if_pos q, decide_eq_true q, Bool.true_and]
    have e : (nI lo ≤ nI (pg k) - nI 48 ∧ nI (pg k) - nI 48 ≤ nI 9) ↔ (48 + lo ≤ pg k ∧ pg k ≤ 57) := by
      rw [Int32.le_iff_toInt_le, Int32.le_iff_toInt_le, sub_toInt (by omega) (by decide), nI_toInt (by omega), nI_toInt (by decide)]
      omega
    simp only [e]
  · rw [if_neg q, decide_eq_false q, Bool.false_and]
    refine decide_eq_false (fun z => ?_)
    have h1 := z.1
    rw [Int32.le_iff_toInt_le, nI_toInt (by omega)] at h1
    have h2 : (-1 : Int32).toInt = -1 := by decide
    omega
theorem fg09 {pg : Nat → Nat} {pl k : Nat} (hp : pg k < 128) : decide (nI 0 ≤ fgI pg pl k ∧ fgI pg pl k ≤ nI 9) = (decide (k < pl) && dgB (pg k)) := fg_in (lo := 0) hp (by decide)
theorem fg19 {pg : Nat → Nat} {pl k : Nat} (hp : pg k < 128) : decide (nI 1 ≤ fgI pg pl k ∧ fgI pg pl k ≤ nI 9) = (decide (k < pl) && dkB (pg k)) := fg_in (lo := 1) hp (by decide)
end
section
/-! orders, one behind the other by numbers -/
def swF (o : Nat → Nat) (i j : Nat) : Nat → Nat := va_up (va_up o i (o j)) j (o i)
def dnF (o : Nat → Nat) : Nat → Nat
  | 0 => 0
  | t + 1 => if o (t + 1) < o t then dnF o t else t + 1
def enF (o : Nat → Nat) (k : Nat) : Nat → Nat
  | 0 => 0
  | e + 1 => if o (e + 1) < o k then enF o k e else e + 1
def rvF : Nat → (Nat → Nat) → Nat → Nat → (Nat → Nat)
  | 0, o, _, _ => o
  | d + 1, o, i, j => if i < j then rvF d (swF o i j) (i + 1) (j - 1) else o
def nxO (n : Nat) (o : Nat → Nat) : Nat → Nat := if dnF o (n - 1) = 0 then o else rvF n (swF o (dnF o (n - 1) - 1) (enF o (dnF o (n - 1) - 1) (n - 1))) (dnF o (n - 1)) (n - 1)
theorem dnF_le (o : Nat → Nat) : ∀ t, dnF o t ≤ t
  | 0 => Nat.le_refl _
  | t + 1 => by
    have h := dnF_le o t
    show (if o (t + 1) < o t then dnF o t else t + 1) ≤ t + 1
    split <;> omega
theorem dnF_asc {o : Nat → Nat} : ∀ {t}, dnF o t ≠ 0 → ¬ o (dnF o t) < o (dnF o t - 1)
  | 0, h => absurd rfl h
  | t + 1, h => by
    by_cases q : o (t + 1) < o t
    · have e : dnF o (t + 1) = dnF o t := by show (if o (t + 1) < o t then _ else _) = _; rw [if_pos q]
      rw [e] at h ⊢
      exact dnF_asc h
    · have e : dnF o (t + 1) = t + 1 := by show (if o (t + 1) < o t then _ else _) = _; rw [if_neg q]
      rw [e, Nat.add_sub_cancel]
      exact q
theorem enF_le (o : Nat → Nat) (k : Nat) : ∀ e, enF o k e ≤ e
  | 0 => Nat.le_refl _
  | e + 1 => by
    have h := enF_le o k e
    show (if o (e + 1) < o k then enF o k e else e + 1) ≤ e + 1
    split <;> omega
theorem swF_perm {n : Nat} {o : Nat → Nat} {i j : Nat} (h : PermOn n o) (hi : i < n) (hj : j < n) : PermOn n (swF o i j) := by
  have at' : ∀ k, swF o i j k = if k = j then o i else if k = i then o j else o k := fun k => by unfold swF va_up; rfl
  refine ⟨fun k hk => ?_, fun a c ha hc e => ?_⟩
  · rw [at']
    split
    · exact h.1 i hi
    · split
      · exact h.1 j hj
      · exact h.1 k hk
  · rw [at', at'] at e
    by_cases a1 : a = j
    · rw [if_pos a1] at e
      by_cases c1 : c = j
      · omega
      · rw [if_neg c1] at e
        by_cases c2 : c = i
        · rw [if_pos c2] at e; have := h.2 i j hi hj e; omega
        · rw [if_neg c2] at e; have := h.2 i c hi hc e; omega
    · rw [if_neg a1] at e
      by_cases a2 : a = i
      · rw [if_pos a2] at e
        by_cases c1 : c = j
        · rw [if_pos c1] at e; have := h.2 j i hj hi e; omega
        · rw [if_neg c1] at e
          by_cases c2 : c = i
          · omega
          · rw [if_neg c2] at e; have := h.2 j c hj hc e; omega
      · rw [if_neg a2] at e
        by_cases c1 : c = j
        · rw [if_pos c1] at e; have := h.2 a i ha hi e; omega
        · rw [if_neg c1] at e
          by_cases c2 : c = i
          · rw [if_pos c2] at e; have := h.2 a j ha hj e; omega
          · rw [if_neg c2] at e; exact h.2 a c ha hc e
theorem rvF_perm {n : Nat} : ∀ (d : Nat) (o : Nat → Nat) (i j : Nat), PermOn n o → j < n → PermOn n (rvF d o i j)
  | 0, _, _, _, h, _ => h
  | d + 1, o, i, j, h, hj => by
    show PermOn n (if i < j then rvF d (swF o i j) (i + 1) (j - 1) else o)
    split
    · rename_i q
      exact rvF_perm d _ _ _ (swF_perm h (by omega) hj) (by omega)
    · exact h
theorem nxO_perm {n : Nat} {o : Nat → Nat} (h : PermOn n o) (hn : 2 ≤ n) : PermOn n (nxO n o) := by
  unfold nxO
  split
  · exact h
  · have h1 := dnF_le o (n - 1)
    have h2 := enF_le o (dnF o (n - 1) - 1) (n - 1)
    exact rvF_perm _ _ _ _ (swF_perm h (by omega) (by omega)) (by omega)
/-! the same, where two rows agree on the houses -/
def EqOn (n : Nat) (o o' : Nat → Nat) : Prop := ∀ j, j < n → o j = o' j
theorem dnF_eq {n : Nat} {o o' : Nat → Nat} (h : EqOn n o o') : ∀ t, t < n → dnF o t = dnF o' t
  | 0, _ => rfl
  | t + 1, ht => by
    show (if o (t + 1) < o t then dnF o t else t + 1) = (if o' (t + 1) < o' t then dnF o' t else t + 1)
    rw [h (t + 1) ht, h t (by omega), dnF_eq h t (by omega)]
theorem enF_eq {n : Nat} {o o' : Nat → Nat} {k : Nat} (h : EqOn n o o') (hk : k < n) : ∀ t, t < n → enF o k t = enF o' k t
  | 0, _ => rfl
  | t + 1, ht => by
    show (if o (t + 1) < o k then enF o k t else t + 1) = (if o' (t + 1) < o' k then enF o' k t else t + 1)
    rw [h (t + 1) ht, h k hk, enF_eq h hk t (by omega)]
theorem swF_eq {n : Nat} {o o' : Nat → Nat} {i j : Nat} (h : EqOn n o o') (hi : i < n) (hj : j < n) : EqOn n (swF o i j) (swF o' i j) := by
  intro k hk
  unfold swF va_up
  rw [h i hi, h j hj, h k hk]
theorem rvF_eq {n : Nat} : ∀ (d : Nat) {o o' : Nat → Nat} {i j : Nat}, EqOn n o o' → j < n → EqOn n (rvF d o i j) (rvF d o' i j)
  | 0, _, _, _, _, h, _ => h
  | d + 1, o, o', i, j, h, hj => by
    show EqOn n (if i < j then rvF d (swF o i j) (i + 1) (j - 1) else o) (if i < j then rvF d (swF o' i j) (i + 1) (j - 1) else o')
    by_cases q : i < j
    · rw [if_pos q, if_pos q]
      exact rvF_eq d (swF_eq h (by omega) hj) (by omega)
    · rw [if_neg q, if_neg q]
      exact h
theorem nxO_eq {n : Nat} {o o' : Nat → Nat} (h : EqOn n o o') (hn : 2 ≤ n) : EqOn n (nxO n o) (nxO n o') := by
  unfold nxO
  have e := dnF_eq h (n - 1) (by omega)
  rw [e]
  split
  · exact h
  · have h1 := dnF_le o' (n - 1)
    have h2 := enF_le o' (dnF o' (n - 1) - 1) (n - 1)
    rw [enF_eq h (by omega) (n - 1) (by omega)]
    exact rvF_eq _ (swF_eq h (by omega) (by omega)) (by omega)
/-! orders as lists, so that they can be counted through -/
def fnL (L : List Nat) : Nat → Nat := fun j => L.getD j 0
def stL (n : Nat) (L : List Nat) : List Nat := (List.range n).map (nxO n (fnL L))
def ndL (n : Nat) (L : List Nat) : Bool := decide (dnF (fnL L) (n - 1) = 0)
theorem stL_eq {n : Nat} {L : List Nat} : EqOn n (nxO n (fnL L)) (fnL (stL n L)) := by
  intro j hj
  show _ = ((List.range n).map (nxO n (fnL L))).getD j 0
  rw [List.getD_eq_getElem?_getD, List.getElem?_map, List.getElem?_range hj]
  rfl
def runB (n : Nat) : Nat → List Nat → Bool
  | 0, _ => false
  | f + 1, L => ndL n L || runB n f (stL n L)
theorem run2 : runB 2 720 [0, 1] = true := by decide +kernel
theorem run3 : runB 3 720 [0, 1, 2] = true := by decide +kernel
theorem run4 : runB 4 720 [0, 1, 2, 3] = true := by decide +kernel
theorem run5 : runB 5 720 [0, 1, 2, 3, 4] = true := by decide +kernel
theorem run6 : runB 6 720 [0, 1, 2, 3, 4, 5] = true := by decide +kernel
theorem runAll {n : Nat} (h1 : 2 ≤ n) (h2 : n ≤ 6) : runB n 720 (List.range n) = true := by
  rcases (show n = 2 ∨ n = 3 ∨ n = 4 ∨ n = 5 ∨ n = 6 by omega) with rfl | rfl | rfl | rfl | rfl
  · exact run2
  · exact run3
  · exact run4
  · exact run5
  · exact run6
theorem fn_range {n : Nat} : EqOn n (fun j => j) (fnL (List.range n)) := by
  intro j hj
  show j = (List.range n).getD j 0
  rw [List.getD_eq_getElem?_getD, List.getElem?_range hj]
  rfl
theorem id_perm (n : Nat) : PermOn n (fun j => j) := ⟨fun _ h => h, fun _ _ _ _ h => h⟩
theorem PermOn.eq {n : Nat} {o o' : Nat → Nat} (h : PermOn n o) (e : EqOn n o o') : PermOn n o' := ⟨fun k hk => by rw [← e k hk]; exact h.1 k hk, fun i j hi hj z => h.2 i j hi hj (by rw [e i hi, e j hj]; exact z)⟩
/-- what goes wrong in an order, by what it is on the houses -/
theorem tmF_eqO {kd len : Nat → Nat} {lo : Int32} {n : Nat} {o o' : Nat → Nat} (h : EqOn n o o') : ∀ k, k ≤ n → tmF kd len lo o k = tmF kd len lo o' k
  | 0, _ => rfl
  | k + 1, hk => by
    show tmF kd len lo o k + (1 + rdm kd len lo (o k)) = tmF kd len lo o' k + (1 + rdm kd len lo (o' k))
    rw [tmF_eqO h k (by omega), h k (by omega)]
theorem camF_eqO {kd len : Nat → Nat} {lo : Int32} {n : Nat} {o o' : Nat → Nat} (hp : PermOn n o) (h : EqOn n o o') : ∀ j, j < n → camF kd len lo o n j = camF kd len lo o' n j := by
  intro j hj
  obtain ⟨k, hk, rfl⟩ := hp.onto hj
  unfold camF
  rw [gof_at hp n (Nat.le_refl n) k hk, h k hk, gof_at (hp.eq h) n (Nat.le_refl n) k hk, tmF_eqO h (k + 1) (by omega)]
theorem wrg_eqO {n kp : Nat} {kd len : Nat → Nat} {lo : Int32} {o o' : Nat → Nat} (hp : PermOn n o) (h : EqOn n o o') : wrg n kp kd len lo o = wrg n kp kd len lo o' := by
  have e := camF_eqO (kd := kd) (len := len) (lo := lo) hp h
  unfold wrg scF hcF
  rw [ctB_cong (fun k hk => sourB_cong (e k hk)), ctB_cong (fun k hk => hearB_cong hk e)]
/-- through all orders from L on: how few, and where first -/
def bsF (n kp : Nat) (kd len : Nat → Nat) (lo : Int32) : Nat → List Nat → Nat × List Nat → Nat × List Nat
  | 0, _, q => q
  | f + 1, L, q => if ndL n L = true then (if wrg n kp kd len lo (fnL L) < q.1 then (wrg n kp kd len lo (fnL L), L) else q) else bsF n kp kd len lo f (stL n L) (if wrg n kp kd len lo (fnL L) < q.1 then (wrg n kp kd len lo (fnL L), L) else q)
def bstF (n kp : Nat) (kd len : Nat → Nat) (lo : Int32) : Nat × List Nat := bsF n kp kd len lo 720 (List.range n) (13, [])
theorem bsF_far {n kp : Nat} {kd len : Nat → Nat} {lo : Int32} {q q' : Nat × List Nat} (f : Nat) (L : List Nat) (h : wrg n kp kd len lo (fnL L) < q.1) (h' : wrg n kp kd len lo (fnL L) < q'.1) : bsF n kp kd len lo (f + 1) L q = bsF n kp kd len lo (f + 1) L q' := by
  show (if ndL n L = true then _ else _) = (if ndL n L = true then _ else _)
  rw [if_pos h, if_pos h']
/-- the search, at the head of its loop -/
def BstI (n kp : Nat) (kd len : Nat → Nat) (lo : Int32) (mo : Bool) (f : Nat) (o : Nat → Nat) (L : List Nat) (few : Nat) (bo : Nat → Nat) (Lb : List Nat) : Prop :=
  (mo = true → runB n f L = true ∧ EqOn n o (fnL L) ∧ bsF n kp kd len lo f L (few, Lb) = bstF n kp kd len lo) ∧ (mo = false → (few, Lb) = bstF n kp kd len lo ∧ few ≤ 12) ∧ (few ≤ 12 → EqOn n bo (fnL Lb))
theorem BstI_0 {n kp : Nat} {kd len : Nat → Nat} {lo : Int32} {o bo : Nat → Nat} {far : Nat} (hn : 2 ≤ n) (hn6 : n ≤ 6) (hf : 12 < far) (ho : EqOn n o (fun j => j)) : BstI n kp kd len lo true 720 o (List.range n) far bo [] := by
  refine ⟨fun _ => ⟨runAll hn hn6, fun j hj => (ho j hj).trans (fn_range j hj), ?_⟩, fun h => absurd h (by decide), fun h => by omega⟩
  have hw : wrg n kp kd len lo (fnL (List.range n)) ≤ n + n := wrg_le
  exact bsF_far 719 _ (show _ < far by omega) (show _ < 13 by omega)
theorem BstI_step {n kp : Nat} {kd len : Nat → Nat} {lo : Int32} {f : Nat} {o bo : Nat → Nat} {L Lb : List Nat} {few : Nat} (hn : 2 ≤ n) (hn6 : n ≤ 6) (hp : PermOn n o) (h : BstI n kp kd len lo true (f + 1) o L few bo Lb) {few' : Nat} {bo' : Nat → Nat} {Lb' : List Nat}
    (hq : (few', Lb') = if wrg n kp kd len lo (fnL L) < few then (wrg n kp kd len lo (fnL L), L) else (few, Lb)) (hb : few' ≤ 12 → EqOn n bo' (fnL Lb')) : BstI n kp kd len lo (decide (¬ dnF o (n - 1) = 0)) f (nxO n o) (stL n L) few' bo' Lb' := by
  obtain ⟨h1, h2, h3⟩ := h.1 rfl
  have e : dnF o (n - 1) = dnF (fnL L) (n - 1) := dnF_eq h2 (n - 1) (by omega)
  have hr : (ndL n L || runB n f (stL n L)) = true := h1
  have hs : (if ndL n L = true then (if wrg n kp kd len lo (fnL L) < few then (wrg n kp kd len lo (fnL L), L) else (few, Lb)) else bsF n kp kd len lo f (stL n L) (if wrg n kp kd len lo (fnL L) < few then (wrg n kp kd len lo (fnL L), L) else (few, Lb))) = bstF n kp kd len lo := h3
  rw [← hq] at hs
  refine ⟨fun z => ?_, fun z => ?_, hb⟩
  · have z := of_decide_eq_true z
    have hnd : ndL n L = false := decide_eq_false (fun q => z (e.trans q))
    rw [hnd, Bool.false_or] at hr
    rw [hnd, if_neg (by decide)] at hs
    exact ⟨hr, fun j hj => (nxO_eq h2 hn j hj).trans (stL_eq j hj), hs⟩
  · have z := of_decide_eq_false z
    have z : dnF o (n - 1) = 0 := Classical.not_not.mp z
    have hnd : ndL n L = true := decide_eq_true (e.symm.trans z)
    rw [hnd, if_pos rfl] at hs
    have hw : wrg n kp kd len lo (fnL L) ≤ n + n := wrg_le
    refine ⟨hs, ?_⟩
    have hq1 : few' = (if wrg n kp kd len lo (fnL L) < few then (wrg n kp kd len lo (fnL L), L) else (few, Lb)).1 := by rw [← hq]
    split at hq1
    · omega
    · rename_i q
      omega
/-- what best() tells -/
def bvF (n kp : Nat) (kd len : Nat → Nat) (lo : Int32) (w : Nat) : Int32 := if w = 0 then nI (bstF n kp kd len lo).1 else if w - 10 < n then nI (fnL (bstF n kp kd len lo).2 (w - 10)) else -1
def inT (w : Int32) : Bool := decide (nI 10 ≤ w ∧ w ≤ nI 15)
theorem inT_of {m : Int32} (e : inT m = true) : ∃ k : Nat, 10 ≤ k ∧ k ≤ 15 ∧ m = nI k := by
  unfold inT at e
  have e := of_decide_eq_true e
  obtain ⟨j, hj, rfl⟩ := nI_of (x := m) (fun q => by
    have h0 : nI 10 ≤ m := e.1
    have h1 : (nI 10 : Int32) < 0 := Int32.lt_of_le_of_lt h0 q
    exact absurd h1 (by decide))
  exact ⟨j, (nI_leI (by decide) hj).mp e.1, (nI_leI hj (by decide)).mp e.2, rfl⟩
def okW (w : Int32) : Bool := decide (w = 0) || inT w
def rBest (n kp : Nat) (kd len : Nat → Nat) (lo : Int32) (ak : Nat) (w : Int32) : Int32 := bif okW w then (if n = 0 ∨ ak = 30 then -103 else bvF n kp kd len lo w.toNatClampNeg) else -102
def sBest (n ak : Nat) (w : Int32) : Nat := bif okW w then (if n = 0 ∨ ak = 30 then ak else ak + 1) else ak
end
