section
-- ===== PART A: goes FIRST, ahead of the names: the tables' words, and 'selects' of the private methods out of them =====
/-- a private method of a class that the tables say can be made, by its rows of tables_1 -/
def lw_okq (q : MethodName × Nat) : Prop := (q.1.cls ≠ "java/lang/invoke/MethodHandle" ∧ q.1.cls ≠ "java/lang/invoke/VarHandle") ∧ Cond.instantiable q.1.cls q.2 ∈ tables_1 ∧ Cond.privateMethod q.1 ∈ tables_1 ∧ Cond.instanceMethod q.1 ∈ tables_1
theorem lw_p0 : lw_okq (⟨"MemoryRows", "toldRule", "(I)LMemoryRows$Rule;"⟩, 16) := ⟨⟨by decide +kernel, by decide +kernel⟩, List.mem_of_getElem? (i := 17) (by decide +kernel), List.mem_of_getElem? (i := 271) (by decide +kernel), List.mem_of_getElem? (i := 272) (by decide +kernel)⟩
theorem lw_p1 : lw_okq (⟨"MemoryRows$Rule", "polyHasNoInnerRoot", "()Z"⟩, 8) := ⟨⟨by decide +kernel, by decide +kernel⟩, List.mem_of_getElem? (i := 44) (by decide +kernel), List.mem_of_getElem? (i := 279) (by decide +kernel), List.mem_of_getElem? (i := 280) (by decide +kernel)⟩
theorem lw_p2 : lw_okq (⟨"MemoryRows$Equations", "determinant", "(II)J"⟩, 5) := ⟨⟨by decide +kernel, by decide +kernel⟩, List.mem_of_getElem? (i := 122) (by decide +kernel), List.mem_of_getElem? (i := 328) (by decide +kernel), List.mem_of_getElem? (i := 329) (by decide +kernel)⟩
theorem lw_p3 : lw_okq (⟨"MemoryRows", "takeDrawn", "(II)Z"⟩, 16) := ⟨⟨by decide +kernel, by decide +kernel⟩, List.mem_of_getElem? (i := 17) (by decide +kernel), List.mem_of_getElem? (i := 358) (by decide +kernel), List.mem_of_getElem? (i := 359) (by decide +kernel)⟩
theorem lw_p4 : lw_okq (⟨"MemoryRows", "toldLikenesses", "(I)LMemoryRows$Likenesses;"⟩, 16) := ⟨⟨by decide +kernel, by decide +kernel⟩, List.mem_of_getElem? (i := 17) (by decide +kernel), List.mem_of_getElem? (i := 385) (by decide +kernel), List.mem_of_getElem? (i := 386) (by decide +kernel)⟩
theorem lw_p5 : lw_okq (⟨"MemoryRows", "plainRule", "(I)LMemoryRows$Rule;"⟩, 16) := ⟨⟨by decide +kernel, by decide +kernel⟩, List.mem_of_getElem? (i := 17) (by decide +kernel), List.mem_of_getElem? (i := 460) (by decide +kernel), List.mem_of_getElem? (i := 461) (by decide +kernel)⟩
theorem lw_p6 : lw_okq (⟨"MemoryRows$Row", "isGapless", "(II)Z"⟩, 3) := ⟨⟨by decide +kernel, by decide +kernel⟩, List.mem_of_getElem? (i := 104) (by decide +kernel), List.mem_of_getElem? (i := 468) (by decide +kernel), List.mem_of_getElem? (i := 469) (by decide +kernel)⟩
theorem lw_p7 : lw_okq (⟨"MemoryRows$Row", "findGaps", "(I)V"⟩, 3) := ⟨⟨by decide +kernel, by decide +kernel⟩, List.mem_of_getElem? (i := 104) (by decide +kernel), List.mem_of_getElem? (i := 480) (by decide +kernel), List.mem_of_getElem? (i := 481) (by decide +kernel)⟩
theorem lw_p8 : lw_okq (⟨"MemoryRows$Row", "missAt", "(LMemoryRows$Rule;I)J"⟩, 3) := ⟨⟨by decide +kernel, by decide +kernel⟩, List.mem_of_getElem? (i := 104) (by decide +kernel), List.mem_of_getElem? (i := 493) (by decide +kernel), List.mem_of_getElem? (i := 494) (by decide +kernel)⟩
theorem lw_p9 : lw_okq (⟨"MemoryRows$Row", "jointPulls", "(LMemoryRows$Rule;II)J"⟩, 3) := ⟨⟨by decide +kernel, by decide +kernel⟩, List.mem_of_getElem? (i := 104) (by decide +kernel), List.mem_of_getElem? (i := 497) (by decide +kernel), List.mem_of_getElem? (i := 498) (by decide +kernel)⟩
theorem lw_p10 : lw_okq (⟨"MemoryRows", "ruleCount", "()I"⟩, 16) := ⟨⟨by decide +kernel, by decide +kernel⟩, List.mem_of_getElem? (i := 17) (by decide +kernel), List.mem_of_getElem? (i := 521) (by decide +kernel), List.mem_of_getElem? (i := 522) (by decide +kernel)⟩
theorem lw_p11 : lw_okq (⟨"MemoryRows", "likenessesCount", "()I"⟩, 16) := ⟨⟨by decide +kernel, by decide +kernel⟩, List.mem_of_getElem? (i := 17) (by decide +kernel), List.mem_of_getElem? (i := 525) (by decide +kernel), List.mem_of_getElem? (i := 526) (by decide +kernel)⟩
theorem lw_p12 : lw_okq (⟨"java/lang/Throwable", "fillInStackTrace", "(I)Ljava/lang/Throwable;"⟩, 6) := ⟨⟨by decide +kernel, by decide +kernel⟩, List.mem_of_getElem? (i := 576) (by decide +kernel), List.mem_of_getElem? (i := 574) (by decide +kernel), List.mem_of_getElem? (i := 575) (by decide +kernel)⟩
theorem lw_p13 : lw_okq (⟨"MemoryRowsModel", "four", "(I)V"⟩, 39) := ⟨⟨by decide +kernel, by decide +kernel⟩, List.mem_of_getElem? (i := 689) (by decide +kernel), List.mem_of_getElem? (i := 822) (by decide +kernel), List.mem_of_getElem? (i := 823) (by decide +kernel)⟩
theorem lw_p14 : lw_okq (⟨"MemoryRowsModel", "taken", "()I"⟩, 39) := ⟨⟨by decide +kernel, by decide +kernel⟩, List.mem_of_getElem? (i := 689) (by decide +kernel), List.mem_of_getElem? (i := 834) (by decide +kernel), List.mem_of_getElem? (i := 835) (by decide +kernel)⟩
theorem lw_p15 : lw_okq (⟨"MemoryRowsModel", "hasRule", "(I)Z"⟩, 39) := ⟨⟨by decide +kernel, by decide +kernel⟩, List.mem_of_getElem? (i := 689) (by decide +kernel), List.mem_of_getElem? (i := 842) (by decide +kernel), List.mem_of_getElem? (i := 843) (by decide +kernel)⟩
def lw_privs_1 : List (MethodName × Nat) := [(⟨"MemoryRows", "toldRule", "(I)LMemoryRows$Rule;"⟩, 16), (⟨"MemoryRows$Rule", "polyHasNoInnerRoot", "()Z"⟩, 8), (⟨"MemoryRows$Equations", "determinant", "(II)J"⟩, 5), (⟨"MemoryRows", "takeDrawn", "(II)Z"⟩, 16), (⟨"MemoryRows", "toldLikenesses", "(I)LMemoryRows$Likenesses;"⟩, 16), (⟨"MemoryRows", "plainRule", "(I)LMemoryRows$Rule;"⟩, 16), (⟨"MemoryRows$Row", "isGapless", "(II)Z"⟩, 3), (⟨"MemoryRows$Row", "findGaps", "(I)V"⟩, 3), (⟨"MemoryRows$Row", "missAt", "(LMemoryRows$Rule;I)J"⟩, 3), (⟨"MemoryRows$Row", "jointPulls", "(LMemoryRows$Rule;II)J"⟩, 3), (⟨"MemoryRows", "ruleCount", "()I"⟩, 16), (⟨"MemoryRows", "likenessesCount", "()I"⟩, 16), (⟨"java/lang/Throwable", "fillInStackTrace", "(I)Ljava/lang/Throwable;"⟩, 6), (⟨"MemoryRowsModel", "four", "(I)V"⟩, 39), (⟨"MemoryRowsModel", "taken", "()I"⟩, 39), (⟨"MemoryRowsModel", "hasRule", "(I)Z"⟩, 39)]
theorem lw_r1 : ∀ q ∈ lw_privs_1, lw_okq q := List.forall_mem_cons.mpr ⟨lw_p0, List.forall_mem_cons.mpr ⟨lw_p1, List.forall_mem_cons.mpr ⟨lw_p2, List.forall_mem_cons.mpr ⟨lw_p3, List.forall_mem_cons.mpr ⟨lw_p4, List.forall_mem_cons.mpr ⟨lw_p5, List.forall_mem_cons.mpr ⟨lw_p6, List.forall_mem_cons.mpr ⟨lw_p7, List.forall_mem_cons.mpr ⟨lw_p8, List.forall_mem_cons.mpr ⟨lw_p9, List.forall_mem_cons.mpr ⟨lw_p10, List.forall_mem_cons.mpr ⟨lw_p11, List.forall_mem_cons.mpr ⟨lw_p12, List.forall_mem_cons.mpr ⟨lw_p13, List.forall_mem_cons.mpr ⟨lw_p14, List.forall_mem_cons.mpr ⟨lw_p15, fun _ h => absurd h List.not_mem_nil⟩⟩⟩⟩⟩⟩⟩⟩⟩⟩⟩⟩⟩⟩⟩⟩
theorem lw_p16 : lw_okq (⟨"MemoryRowsModel", "isSteady", "(I)Z"⟩, 39) := ⟨⟨by decide +kernel, by decide +kernel⟩, List.mem_of_getElem? (i := 689) (by decide +kernel), List.mem_of_getElem? (i := 846) (by decide +kernel), List.mem_of_getElem? (i := 847) (by decide +kernel)⟩
theorem lw_p17 : lw_okq (⟨"MemoryRowsModel", "isFree", "()Z"⟩, 39) := ⟨⟨by decide +kernel, by decide +kernel⟩, List.mem_of_getElem? (i := 689) (by decide +kernel), List.mem_of_getElem? (i := 850) (by decide +kernel), List.mem_of_getElem? (i := 851) (by decide +kernel)⟩
theorem lw_p18 : lw_okq (⟨"MemoryRowsModel", "throwsIf", "(Z)Z"⟩, 39) := ⟨⟨by decide +kernel, by decide +kernel⟩, List.mem_of_getElem? (i := 689) (by decide +kernel), List.mem_of_getElem? (i := 865) (by decide +kernel), List.mem_of_getElem? (i := 866) (by decide +kernel)⟩
theorem lw_p19 : lw_okq (⟨"MemoryRowsModel", "weights", "(IZ)V"⟩, 39) := ⟨⟨by decide +kernel, by decide +kernel⟩, List.mem_of_getElem? (i := 689) (by decide +kernel), List.mem_of_getElem? (i := 869) (by decide +kernel), List.mem_of_getElem? (i := 870) (by decide +kernel)⟩
theorem lw_p20 : lw_okq (⟨"MemoryRowsModel", "set", "(JJ)V"⟩, 39) := ⟨⟨by decide +kernel, by decide +kernel⟩, List.mem_of_getElem? (i := 689) (by decide +kernel), List.mem_of_getElem? (i := 873) (by decide +kernel), List.mem_of_getElem? (i := 874) (by decide +kernel)⟩
theorem lw_p21 : lw_okq (⟨"MemoryRowsModel", "times", "(JJ)V"⟩, 39) := ⟨⟨by decide +kernel, by decide +kernel⟩, List.mem_of_getElem? (i := 689) (by decide +kernel), List.mem_of_getElem? (i := 877) (by decide +kernel), List.mem_of_getElem? (i := 878) (by decide +kernel)⟩
theorem lw_p22 : lw_okq (⟨"MemoryRowsModel", "plus", "(JJ)V"⟩, 39) := ⟨⟨by decide +kernel, by decide +kernel⟩, List.mem_of_getElem? (i := 689) (by decide +kernel), List.mem_of_getElem? (i := 881) (by decide +kernel), List.mem_of_getElem? (i := 882) (by decide +kernel)⟩
theorem lw_p23 : lw_okq (⟨"MemoryRowsModel", "told", "(I)J"⟩, 39) := ⟨⟨by decide +kernel, by decide +kernel⟩, List.mem_of_getElem? (i := 689) (by decide +kernel), List.mem_of_getElem? (i := 885) (by decide +kernel), List.mem_of_getElem? (i := 886) (by decide +kernel)⟩
theorem lw_p24 : lw_okq (⟨"MemoryRowsModel", "likes", "(I)V"⟩, 39) := ⟨⟨by decide +kernel, by decide +kernel⟩, List.mem_of_getElem? (i := 689) (by decide +kernel), List.mem_of_getElem? (i := 893) (by decide +kernel), List.mem_of_getElem? (i := 894) (by decide +kernel)⟩
theorem lw_p25 : lw_okq (⟨"MemoryRowsModel", "right", "(II)V"⟩, 39) := ⟨⟨by decide +kernel, by decide +kernel⟩, List.mem_of_getElem? (i := 689) (by decide +kernel), List.mem_of_getElem? (i := 897) (by decide +kernel), List.mem_of_getElem? (i := 898) (by decide +kernel)⟩
theorem lw_p26 : lw_okq (⟨"MemoryRowsModel", "eliminate", "(II)V"⟩, 39) := ⟨⟨by decide +kernel, by decide +kernel⟩, List.mem_of_getElem? (i := 689) (by decide +kernel), List.mem_of_getElem? (i := 901) (by decide +kernel), List.mem_of_getElem? (i := 902) (by decide +kernel)⟩
theorem lw_p27 : lw_okq (⟨"MemoryRowsModel", "puts", "(II)Z"⟩, 39) := ⟨⟨by decide +kernel, by decide +kernel⟩, List.mem_of_getElem? (i := 689) (by decide +kernel), List.mem_of_getElem? (i := 913) (by decide +kernel), List.mem_of_getElem? (i := 914) (by decide +kernel)⟩
theorem lw_p28 : lw_okq (⟨"MemoryRowsModel", "gaps", "()I"⟩, 39) := ⟨⟨by decide +kernel, by decide +kernel⟩, List.mem_of_getElem? (i := 689) (by decide +kernel), List.mem_of_getElem? (i := 921) (by decide +kernel), List.mem_of_getElem? (i := 922) (by decide +kernel)⟩
theorem lw_p29 : lw_okq (⟨"MemoryRowsModel", "has", "(I)Z"⟩, 39) := ⟨⟨by decide +kernel, by decide +kernel⟩, List.mem_of_getElem? (i := 689) (by decide +kernel), List.mem_of_getElem? (i := 929) (by decide +kernel), List.mem_of_getElem? (i := 930) (by decide +kernel)⟩
theorem lw_p30 : lw_okq (⟨"MemoryRowsModel", "stepsOf", "(I)I"⟩, 39) := ⟨⟨by decide +kernel, by decide +kernel⟩, List.mem_of_getElem? (i := 689) (by decide +kernel), List.mem_of_getElem? (i := 945) (by decide +kernel), List.mem_of_getElem? (i := 946) (by decide +kernel)⟩
theorem lw_p31 : lw_okq (⟨"MemoryRowsModel", "block", "(II)J"⟩, 39) := ⟨⟨by decide +kernel, by decide +kernel⟩, List.mem_of_getElem? (i := 689) (by decide +kernel), List.mem_of_getElem? (i := 949) (by decide +kernel), List.mem_of_getElem? (i := 950) (by decide +kernel)⟩
def lw_privs_2 : List (MethodName × Nat) := [(⟨"MemoryRowsModel", "isSteady", "(I)Z"⟩, 39), (⟨"MemoryRowsModel", "isFree", "()Z"⟩, 39), (⟨"MemoryRowsModel", "throwsIf", "(Z)Z"⟩, 39), (⟨"MemoryRowsModel", "weights", "(IZ)V"⟩, 39), (⟨"MemoryRowsModel", "set", "(JJ)V"⟩, 39), (⟨"MemoryRowsModel", "times", "(JJ)V"⟩, 39), (⟨"MemoryRowsModel", "plus", "(JJ)V"⟩, 39), (⟨"MemoryRowsModel", "told", "(I)J"⟩, 39), (⟨"MemoryRowsModel", "likes", "(I)V"⟩, 39), (⟨"MemoryRowsModel", "right", "(II)V"⟩, 39), (⟨"MemoryRowsModel", "eliminate", "(II)V"⟩, 39), (⟨"MemoryRowsModel", "puts", "(II)Z"⟩, 39), (⟨"MemoryRowsModel", "gaps", "()I"⟩, 39), (⟨"MemoryRowsModel", "has", "(I)Z"⟩, 39), (⟨"MemoryRowsModel", "stepsOf", "(I)I"⟩, 39), (⟨"MemoryRowsModel", "block", "(II)J"⟩, 39)]
theorem lw_r2 : ∀ q ∈ lw_privs_2, lw_okq q := List.forall_mem_cons.mpr ⟨lw_p16, List.forall_mem_cons.mpr ⟨lw_p17, List.forall_mem_cons.mpr ⟨lw_p18, List.forall_mem_cons.mpr ⟨lw_p19, List.forall_mem_cons.mpr ⟨lw_p20, List.forall_mem_cons.mpr ⟨lw_p21, List.forall_mem_cons.mpr ⟨lw_p22, List.forall_mem_cons.mpr ⟨lw_p23, List.forall_mem_cons.mpr ⟨lw_p24, List.forall_mem_cons.mpr ⟨lw_p25, List.forall_mem_cons.mpr ⟨lw_p26, List.forall_mem_cons.mpr ⟨lw_p27, List.forall_mem_cons.mpr ⟨lw_p28, List.forall_mem_cons.mpr ⟨lw_p29, List.forall_mem_cons.mpr ⟨lw_p30, List.forall_mem_cons.mpr ⟨lw_p31, fun _ h => absurd h List.not_mem_nil⟩⟩⟩⟩⟩⟩⟩⟩⟩⟩⟩⟩⟩⟩⟩⟩
theorem lw_p32 : lw_okq (⟨"MemoryRowsModel", "toeplitz", "(II)V"⟩, 39) := ⟨⟨by decide +kernel, by decide +kernel⟩, List.mem_of_getElem? (i := 689) (by decide +kernel), List.mem_of_getElem? (i := 953) (by decide +kernel), List.mem_of_getElem? (i := 954) (by decide +kernel)⟩
theorem lw_p33 : lw_okq (⟨"MemoryRowsModel", "determinant", "(I)J"⟩, 39) := ⟨⟨by decide +kernel, by decide +kernel⟩, List.mem_of_getElem? (i := 689) (by decide +kernel), List.mem_of_getElem? (i := 957) (by decide +kernel), List.mem_of_getElem? (i := 958) (by decide +kernel)⟩
theorem lw_p34 : lw_okq (⟨"MemoryRowsModel", "shareOf", "(III)V"⟩, 39) := ⟨⟨by decide +kernel, by decide +kernel⟩, List.mem_of_getElem? (i := 689) (by decide +kernel), List.mem_of_getElem? (i := 965) (by decide +kernel), List.mem_of_getElem? (i := 966) (by decide +kernel)⟩
theorem lw_p35 : lw_okq (⟨"MemoryRowsModel", "leftOf", "(II)V"⟩, 39) := ⟨⟨by decide +kernel, by decide +kernel⟩, List.mem_of_getElem? (i := 689) (by decide +kernel), List.mem_of_getElem? (i := 973) (by decide +kernel), List.mem_of_getElem? (i := 974) (by decide +kernel)⟩
theorem lw_p36 : lw_okq (⟨"MemoryRowsModel", "isBare", "(I)Z"⟩, 39) := ⟨⟨by decide +kernel, by decide +kernel⟩, List.mem_of_getElem? (i := 689) (by decide +kernel), List.mem_of_getElem? (i := 1004) (by decide +kernel), List.mem_of_getElem? (i := 1005) (by decide +kernel)⟩
theorem lw_p37 : lw_okq (⟨"MemoryRowsModel", "isWhole", "(II)Z"⟩, 39) := ⟨⟨by decide +kernel, by decide +kernel⟩, List.mem_of_getElem? (i := 689) (by decide +kernel), List.mem_of_getElem? (i := 1012) (by decide +kernel), List.mem_of_getElem? (i := 1013) (by decide +kernel)⟩
theorem lw_p38 : lw_okq (⟨"MemoryRowsModel", "missOf", "(II)J"⟩, 39) := ⟨⟨by decide +kernel, by decide +kernel⟩, List.mem_of_getElem? (i := 689) (by decide +kernel), List.mem_of_getElem? (i := 1020) (by decide +kernel), List.mem_of_getElem? (i := 1021) (by decide +kernel)⟩
theorem lw_p39 : lw_okq (⟨"MemoryRowsModel", "part", "(III)J"⟩, 39) := ⟨⟨by decide +kernel, by decide +kernel⟩, List.mem_of_getElem? (i := 689) (by decide +kernel), List.mem_of_getElem? (i := 1024) (by decide +kernel), List.mem_of_getElem? (i := 1025) (by decide +kernel)⟩
theorem lw_p40 : lw_okq (⟨"MemoryRowsModel", "cramer", "(II)J"⟩, 39) := ⟨⟨by decide +kernel, by decide +kernel⟩, List.mem_of_getElem? (i := 689) (by decide +kernel), List.mem_of_getElem? (i := 1032) (by decide +kernel), List.mem_of_getElem? (i := 1033) (by decide +kernel)⟩
def lw_privs_3 : List (MethodName × Nat) := [(⟨"MemoryRowsModel", "toeplitz", "(II)V"⟩, 39), (⟨"MemoryRowsModel", "determinant", "(I)J"⟩, 39), (⟨"MemoryRowsModel", "shareOf", "(III)V"⟩, 39), (⟨"MemoryRowsModel", "leftOf", "(II)V"⟩, 39), (⟨"MemoryRowsModel", "isBare", "(I)Z"⟩, 39), (⟨"MemoryRowsModel", "isWhole", "(II)Z"⟩, 39), (⟨"MemoryRowsModel", "missOf", "(II)J"⟩, 39), (⟨"MemoryRowsModel", "part", "(III)J"⟩, 39), (⟨"MemoryRowsModel", "cramer", "(II)J"⟩, 39)]
theorem lw_r3 : ∀ q ∈ lw_privs_3, lw_okq q := List.forall_mem_cons.mpr ⟨lw_p32, List.forall_mem_cons.mpr ⟨lw_p33, List.forall_mem_cons.mpr ⟨lw_p34, List.forall_mem_cons.mpr ⟨lw_p35, List.forall_mem_cons.mpr ⟨lw_p36, List.forall_mem_cons.mpr ⟨lw_p37, List.forall_mem_cons.mpr ⟨lw_p38, List.forall_mem_cons.mpr ⟨lw_p39, List.forall_mem_cons.mpr ⟨lw_p40, fun _ h => absurd h List.not_mem_nil⟩⟩⟩⟩⟩⟩⟩⟩⟩
def lw_privs : List (MethodName × Nat) := lw_privs_1 ++ (lw_privs_2 ++ (lw_privs_3))
def lw_tbl : List Cond := k2_sels lw_privs ++ tables_1
theorem lw_privs_ok : ∀ q ∈ lw_privs, lw_okq q := by
  show ∀ q ∈ lw_privs_1 ++ (lw_privs_2 ++ (lw_privs_3)), lw_okq q
  exact List.forall_mem_append.mpr ⟨lw_r1, List.forall_mem_append.mpr ⟨lw_r2, lw_r3⟩⟩
-- ===== end of PART A; then your names; then what follows =====
end
section
/-- an array type over arrays: its word -/
def va_AOA (t : FieldType) (U : State) : Prop := (Cond.arrayOver (.array t)).before #[] U = true
theorem va_AOA.of {t : FieldType} {A : Array Value} {U : State} (h : (Cond.arrayOver (.array t)).before A U = true) : va_AOA t U := h
theorem va_AOA.use {t : FieldType} {A : Array Value} {U : State} (h : va_AOA t U) : (Cond.arrayOver (.array t)).before A U = true := h
/-! ===== BEGIN words of one list among another's, by their places ===== -/
theorem goodIn_r {big : List Cond} (ws : List Cond) (ps : List Nat) (hp : ws = ps.filterMap (fun i => big[i]?)) (h : ws.all goodWord = true) : GoodIn big ws := by
  intro w hw
  have h1 := List.all_eq_true.mp h w hw
  rw [hp] at hw
  obtain ⟨i, -, hi⟩ := List.mem_filterMap.mp hw
  have hm : w ∈ big := by first | exact List.mem_of_getElem? hi | exact List.getElem?_mem hi
  exact ⟨hm, good_of_word h1⟩
theorem goodIn_app {big a b : List Cond} (ha : GoodIn big a) (hb : GoodIn big b) : GoodIn big (a ++ b) := fun w h => (List.mem_append.mp h).elim (ha w) (hb w)
theorem goodIn_ca {big a b : List Cond} {c : Cond} (ha : GoodIn big (c :: a)) (hb : GoodIn big b) : GoodIn big (c :: (a ++ b)) := fun w h => (List.mem_cons.mp h).elim (fun e => ha w (List.mem_cons.mpr (Or.inl e))) (fun h => (List.mem_append.mp h).elim (fun h => ha w (List.mem_cons.mpr (Or.inr h))) (hb w))
theorem goodIn_sub {big ws : List Cond} (hm : ∀ w ∈ ws, w ∈ big) (h : ws.all goodWord = true) : GoodIn big ws := fun w hw => ⟨hm w hw, good_of_word (List.all_eq_true.mp h w hw)⟩
/-! ===== END ===== -/

/-! ===== BEGIN new T[n][m]: the outer array a place, the inner ones among the pooled ===== -/
/-- f, but v at every address of l -/
def vr_up {α : Type} (f : Nat → α) (l : List Nat) (v : α) : Nat → α := fun a => if a ∈ l then v else f a
theorem vr_up_in {α : Type} {f : Nat → α} {l : List Nat} {v : α} {a : Nat} (h : a ∈ l) : vr_up f l v a = v := if_pos h
theorem vr_up_ne {α : Type} {f : Nat → α} {l : List Nat} {v : α} {a : Nat} (h : a ∉ l) : vr_up f l v a = f a := if_neg h
theorem vr_rows {L l : List Nat} {f : Nat → va_E} {e : va_E} (h : ∀ a, a ∈ l → a ∉ L) : va_pl L f ++ l.map (fun a => (a, e)) = va_pl (L ++ l) (vr_up f l e) := by
  unfold va_pl
  rw [List.map_append]
  congr 1
  · apply List.map_congr_left
    intro a ha
    rw [vr_up_ne (fun q => h a q ha)]
  · apply List.map_congr_left
    intro a ha
    rw [vr_up_in ha]
theorem vr_lay {X rows : va_W} {x : Nat × va_E} {pl : va_W} {D : va_G} {cl : List vw_C} {H : Heap} (hP : va_P D cl (((X ++ pl) ++ [x]) ++ rows) H) : va_P D cl ((X ++ [x]) ++ (pl ++ rows)) H := by
  rw [List.append_assoc (X ++ pl)] at hP
  have h := va_P.swap hP
  rw [← List.append_assoc X] at h
  have h2 := va_P.swap h
  rw [List.append_assoc (X ++ [x])] at h2
  exact h2
theorem vr_layD {X rows : va_W} {x : Nat × va_E} {pl : va_W} {A : Nat → Prop} (hD : va_D A (((X ++ pl) ++ [x]) ++ rows)) : va_D A ((X ++ [x]) ++ (pl ++ rows)) := by
  rw [List.append_assoc (X ++ pl)] at hD
  have h := va_D.swap hD
  rw [← List.append_assoc X] at h
  have h2 := va_D.swap h
  rw [List.append_assoc (X ++ [x])] at h2
  exact h2
theorem vr_outer (c : ClassId) (N h0 : Nat) : ∀ i : Nat, Jvm.Free.Multi.outerC c N h0 i = arrV c N (fun j => va_rf (if j < i then some (h0 + 1 + j) else none))
  | 0 => by
    show ({ cls := c, slots := Array.replicate N .null, vm := .none } : Cell) = _
    rw [arrV_new]
    refine congrArg (arrV c N) (funext fun j => ?_)
    simp [va_rf]
  | i + 1 => by
    show (Jvm.Free.Multi.outerC c N h0 i).setSlot i (.ref (h0 + 1 + i)) = _
    rw [vr_outer c N h0 i, arrV_store]
    refine congrArg (arrV c N) (funext fun j => ?_)
    by_cases e : j = i
    · subst e
      simp [updV, va_rf]
    · by_cases h : j < i
      · simp [updV, e, h, Nat.lt_succ_of_lt h]
      · simp [updV, e, h, show ¬ j < i + 1 by omega]
section VGM
variable {p : Program} {l : Launch} {e : Env} {R : Room} {s : State} {m : MethodId} {args : Array Value} {below : List Frame} {meth : Method} {c : Code} {H : Heap} {locs : List Loc} {cells slots : Nat} {Q : State → Prop}
variable {cc : ByteArray} {pc : Nat} {ls : Array Slot} {rest : List Value} {D : va_G} {cl : List vw_C} {A : Nat → Prop} {a : Nat} {tys : List (ClassId × FieldType)} {ws : va_W} {H0 : Heap}
theorem va_mna {X : va_W} {L : List Nat} {f : Nat → va_E} {cc : ByteArray} (hexec : p.tables.exec = Jvm.exec) (hb : c.code = cc) {own : String} {index : Nat} {ty : FieldType} {cy : ClassId} (hown : s.vm.findClass own = some m.cls) (hclink : (Cond.classLink own index ("[" ++ (FieldType.array ty).toString)).before args s = true) (hover : va_AOA ty s) (harr : (Cond.arrayClass ty).before args s = true) (hcy : s.vm.findClass (FieldType.array ty).toString = some cy)
    (hK : va_K D cl tys s) (hP : va_P D cl (X ++ va_pl L f) H) (hD : va_D A (X ++ va_pl L f)) (hS : va_S A H0 H locs) (hA : ∀ q, H0.size ≤ q → A q) {n k : Int32} {N' K' : Nat} {z : vp_A} (hn : ¬ n < 0) (hk : ¬ k < 0) (hN : n.toNatClampNeg = N') (hM : k.toNatClampNeg = K')
    (hb1 : N' * 4 ≤ 536870912) (hb2 : K' * componentBytes ty ≤ 536870912) (hb3 : K' ≤ 536870912) (hdf : fits ty (defaultValue ty) = true) (hdd : (defaultValue ty).isDefault = true) (hcells : cells + (1 + N') ≤ R.cells) (hslots : slots + (N' + N' * K') ≤ R.slots) (hz : ∀ c : ClassId, Jvm.Free.Multi.innerC c K' (defaultValue ty) = vp_cell c z) (hdg : decode cc pc = .ok (.multianewarray index 2, 4))
    (kk : ∀ (q : Nat) (r : Nat → Nat) (cA : ClassId) (H1 : Heap), (∀ i j : Nat, i < N' → j < N' → r i = r j → i = j) → (∀ i : Nat, i < N' → r i ∉ L) → va_K D cl (tys ++ [(cA, .array ty)]) s →
      va_P D cl ((X ++ [(q, .inl (cA, N', .inr (.inr (.inr (.inr (fun i => if i < N' then some (r i) else none))))))]) ++ va_pl (L ++ (List.range N').map r) (vr_up f ((List.range N').map r) (.inl (cy, z)))) H1 → va_D A ((X ++ [(q, .inl (cA, N', .inr (.inr (.inr (.inr (fun i => if i < N' then some (r i) else none))))))]) ++ va_pl (L ++ (List.range N').map r) (vr_up f ((List.range N').map r) (.inl (cy, z)))) → va_S A H0 H1 locs →
      W p l e R s m args below meth c H1 locs (cells + 1 + N') (slots + N' + N' * K') Q (F0 m (pc + 4) ls (.ref q :: rest))) : W p l e R s m args below meth c H locs cells slots Q (F0 m pc ls (.int k :: .int n :: rest)) := by
  subst hN
  subst hM
  intro T hT Xs
  obtain ⟨vm₁, cA, comp, -, fA, fC, hO, -, X', step⟩ := Xs.multianewarray2F hexec hown hclink (va_AOA.use hover) harr (g := F0 m pc ls (.int k :: .int n :: rest)) rfl (by rw [hb]; exact hdg) rfl hn hk hb1 hb2 hb3 hdf hdd hcells hslots
  have ec : some cy = some comp := hcy.symm.trans fC
  cases ec
  generalize hF : Jvm.Free.Multi.fill (T.setVm vm₁) cA cy n.toNatClampNeg k.toNatClampNeg (defaultValue ty) n.toNatClampNeg = F at X' step
  have hTh : (T.setVm vm₁).heap = H := hT
  obtain ⟨f1, f2, -, -⟩ := Jvm.Free.Multi.fill_facts (T.setVm vm₁) cA cy n.toNatClampNeg k.toNatClampNeg (defaultValue ty) n.toNatClampNeg
  rw [hF, hTh] at f1 f2
  have hold : ∀ x : Nat, x < H.size → F.heap[x]? = H[x]? := fun x hx => by
    have := Jvm.Free.Multi.fill_old (T.setVm vm₁) cA cy n.toNatClampNeg k.toNatClampNeg (defaultValue ty) (a := x) (by rw [hTh]; exact hx) n.toNatClampNeg
    rw [hF, hTh] at this
    exact this
  have hrow : ∀ j : Nat, j < n.toNatClampNeg → F.heap[H.size + 1 + j]? = some (vp_cell cy z) := fun j hj => by
    have := Jvm.Free.Multi.fill_inner (T.setVm vm₁) cA cy n.toNatClampNeg k.toNatClampNeg (defaultValue ty) n.toNatClampNeg j hj
    rw [hF, hTh, hz] at this
    exact this
  have hout : Jvm.Free.Multi.outerC cA n.toNatClampNeg H.size n.toNatClampNeg = vp_cell cA (n.toNatClampNeg, .inr (.inr (.inr (.inr (fun i => if i < n.toNatClampNeg then some (H.size + 1 + i) else none))))) := by
    rw [vp_cell_q]
    exact vr_outer cA n.toNatClampNeg H.size n.toNatClampNeg
  rw [hout] at f2
  have hlt : ∀ a, a ∈ L → a < H.size := fun a ha => by
    obtain ⟨k9, hk9⟩ := va_pl_get (X := X) (f := f) ha
    exact (hP k9 _ hk9).lt
  have hnl : ∀ i : Nat, i < n.toNatClampNeg → H.size + 1 + i ∉ L := fun i _ h => by
    have := hlt _ h
    omega
  have hnm : ∀ a, a ∈ (List.range n.toNatClampNeg).map (fun i => H.size + 1 + i) → a ∉ L := fun a ha h => by
    obtain ⟨i, -, rfl⟩ := List.mem_map.mp ha
    have := hlt _ h
    omega
  have hP0 : va_P D cl (X ++ va_pl L f) F.heap := hP.kept (fun k9 x hx => hold x.1 ((hP k9 x hx).lt))
  have hP1 : va_P D cl ((X ++ va_pl L f) ++ [(H.size, .inl (cA, n.toNatClampNeg, .inr (.inr (.inr (.inr (fun i => if i < n.toNatClampNeg then some (H.size + 1 + i) else none))))))]) F.heap := hP0.app (fun k9 x hx => by
    have h0 : k9 < 1 := (List.getElem?_eq_some_iff.mp hx).1
    rw [show k9 = 0 by omega] at hx
    cases hx
    exact f2)
  have hP2 : va_P D cl (((X ++ va_pl L f) ++ [(H.size, .inl (cA, n.toNatClampNeg, .inr (.inr (.inr (.inr (fun i => if i < n.toNatClampNeg then some (H.size + 1 + i) else none))))))]) ++ ((List.range n.toNatClampNeg).map (fun i => H.size + 1 + i)).map (fun a => (a, .inl (cy, z)))) F.heap := hP1.app (fun k9 x hx => by
    obtain ⟨a, ha, rfl⟩ := List.mem_map.mp (List.mem_of_getElem? hx)
    obtain ⟨i, hi, rfl⟩ := List.mem_map.mp ha
    exact hrow i (List.mem_range.mp hi))
  have hD2 : va_D A (((X ++ va_pl L f) ++ [(H.size, .inl (cA, n.toNatClampNeg, .inr (.inr (.inr (.inr (fun i => if i < n.toNatClampNeg then some (H.size + 1 + i) else none))))))]) ++ ((List.range n.toNatClampNeg).map (fun i => H.size + 1 + i)).map (fun a => (a, .inl (cy, z)))) := by
    have hD1 := hD.push (e := .inl (cA, n.toNatClampNeg, .inr (.inr (.inr (.inr (fun i => if i < n.toNatClampNeg then some (H.size + 1 + i) else none)))))) hP rfl (hA _ hS.1)
    generalize hW1 : (X ++ va_pl L f) ++ [(H.size, .inl (cA, n.toNatClampNeg, .inr (.inr (.inr (.inr (fun i => if i < n.toNatClampNeg then some (H.size + 1 + i) else none))))))] = W1 at hD1 hP1 ⊢
    have hle : ∀ (k9 : Nat) (x : Nat × va_E), W1[k9]? = some x → x.1 ≤ H.size := fun k9 x hx => by
      rw [← hW1] at hx
      by_cases hl : k9 < (X ++ va_pl L f).length
      · rw [List.getElem?_append_left hl] at hx
        exact Nat.le_of_lt ((hP k9 x hx).lt)
      · rw [List.getElem?_append_right (by omega)] at hx
        have h0 : k9 - (X ++ va_pl L f).length < 1 := (List.getElem?_eq_some_iff.mp hx).1
        rw [show k9 - (X ++ va_pl L f).length = 0 by omega] at hx
        cases hx
        exact Nat.le_refl _
    have hr : ∀ (k9 : Nat) (x : Nat × va_E), (((List.range n.toNatClampNeg).map (fun i => H.size + 1 + i)).map (fun a => ((a, .inl (cy, z)) : Nat × va_E)))[k9]? = some x → x.1 = H.size + 1 + k9 := fun k9 x hx => by
      rw [List.getElem?_map, List.getElem?_map] at hx
      by_cases h9 : k9 < n.toNatClampNeg
      · rw [List.getElem?_range h9] at hx
        cases hx
        rfl
      · have hn0 : (List.range n.toNatClampNeg)[k9]? = none := List.getElem?_eq_none (by rw [List.length_range]; omega)
        rw [hn0] at hx
        cases hx
    refine ⟨fun i j x y hi hj hxy => ?_, fun k9 x hx => ?_⟩
    · by_cases h1 : i < W1.length <;> by_cases h2 : j < W1.length
      · rw [List.getElem?_append_left h1] at hi
        rw [List.getElem?_append_left h2] at hj
        exact hD1.1 i j x y hi hj hxy
      · rw [List.getElem?_append_left h1] at hi
        rw [List.getElem?_append_right (by omega)] at hj
        have := hle _ _ hi
        have := hr _ _ hj
        omega
      · rw [List.getElem?_append_right (by omega)] at hi
        rw [List.getElem?_append_left h2] at hj
        have := hle _ _ hj
        have := hr _ _ hi
        omega
      · rw [List.getElem?_append_right (by omega)] at hi hj
        have := hr _ _ hi
        have := hr _ _ hj
        omega
    · by_cases h1 : k9 < W1.length
      · rw [List.getElem?_append_left h1] at hx
        exact hD1.2 k9 x hx
      · rw [List.getElem?_append_right (by omega)] at hx
        have := hr _ _ hx
        exact hA _ (by have := hS.1; omega)
  have hAr : ArrOfT s cA (.array ty) := fun N9 z9 => by
    obtain ⟨-, k9, hk9, cm9, hkk9⟩ := (hO 0 0 0).1
    exact ⟨(fun q hq => by cases hq), k9, hk9, cm9, hkk9⟩
  have hK2 : va_K D cl (tys ++ [(cA, .array ty)]) s := ⟨hK.1, fun k9 x hx => by
    by_cases hl : k9 < tys.length
    · rw [List.getElem?_append_left hl] at hx
      exact hK.2 k9 x hx
    · rw [List.getElem?_append_right (by omega)] at hx
      have h0 : k9 - tys.length < 1 := (List.getElem?_eq_some_iff.mp hx).1
      rw [show k9 - tys.length = 0 by omega] at hx
      cases hx
      exact ⟨hAr, fA⟩⟩
  obtain ⟨t, a1, b1⟩ := kk H.size (fun i => H.size + 1 + i) cA F.heap (fun i j _ _ h => by have h9 : H.size + 1 + i = H.size + 1 + j := h; omega) hnl hK2 (by rw [← vr_rows hnm]; exact vr_lay hP2) (by rw [← vr_rows hnm]; exact vr_layD hD2) ⟨by rw [f1]; have := hS.1; omega, fun x h1 h2 => (hold x (Nat.lt_of_lt_of_le h1 hS.1)).trans (hS.2.1 x h1 h2), hS.2.2⟩ F rfl X'
  refine ⟨t, step t ?_, b1⟩
  have e : T.heap.size = H.size := by rw [hT]
  rw [e]
  exact a1
end VGM
/-! ===== END ===== -/

/-! ===== BEGIN exceptions that leave a method, and their catching by the caller (launches without stack traces) ===== -/
section VXA
/-! The laws vx_back, vx_callV, vx_callS, vx_callSW, vx_throw0, vx_throwS follow proofs of the library, with one case more: JvmDerived/Free/Laws.lean (Back.of_free), Shelf42/LK1.lean (callV, callS), Shelf/KitTraced.lean (throwNew0V, throwNewS). -/
/-- where a method has thrown q: the class by its name, the cell, what was written, the world -/
def vx_T (XC : String → State → State → Prop) (st : State) (q : Addr) (t : State) (mc ms : Nat) (free : Addr → Prop) : Prop :=
  ∃ (E : String) (ce : Cell) (L : List Loc), XC E st t ∧ t.heap[q]? = some ce ∧ ce.vm = .none ∧ st.vm.findClass E = some ce.cls ∧ st.WarmedH t.vm ∧ st.sameButNew ({ t with vm := st.vm } : State) L mc ms ∧ ∀ z ∈ L, free z.base
def vx_Q (Qc : Array Value → State → Outcome → State → Prop) (XC : String → State → State → Prop) (mc ms : Nat) (free : Addr → Prop) : Array Value → State → Outcome → State → Prop := fun a st o t =>
  (Qc a st o t ∧ ∃ L, FrameEnd st o t L mc ms ∧ ∀ q ∈ L, free q.base) ∨ ∃ q, o = .threw q ∧ vx_T XC st q t mc ms free
/-- a callee that returns or throws -/
def vx_Met (l : Launch) (y : MethodName) (ws : List Cond) (rm : Room) (Pc : Array Value → State → Prop) (Qc : Array Value → State → Outcome → State → Prop) (XC : String → State → State → Prop) (mc ms : Nat) (free : Addr → Prop) : Prop :=
  MetFree l y (headSpec ws rm) Pc (fun _ _ _ _ _ => True) (vx_Q Qc XC mc ms free)
def vx_Post (XC : String → State → State → Prop) (mc ms : Nat) (free : Addr → Prop) : Pt → Array Value → Addr → Pt → Prop := fun A a q B =>
  ∃ (g : JFrame) (mk : MethodId) (t : State) (L : List Loc) (E : String) (ce : Cell), B.U.heap = t.heap ∧ B.U.vm = t.vm ∧ XC E (A.U.calling g mk a) t ∧ t.heap[q]? = some ce ∧ ce.vm = .none ∧ A.U.vm.findClass E = some ce.cls ∧ B.locs = A.locs ++ L ∧ (∀ z ∈ L, free z.base) ∧ B.cells = A.cells + mc ∧ B.slots = A.slots + ms
def vx_Back (l : Launch) (R : Room) (p : Program) (e : Env) (below : List Frame) (s : State) (sargs : Array Value) (y : MethodName) (len W9 : Nat)
    (Pre : Pt → Array Value → Prop) (Post : Pt → Array Value → Option Value → Pt → Prop) (PostX : Pt → Array Value → Addr → Pt → Prop) : Prop :=
  ∀ (m : MethodId) (meth : Method) (c : Code) (A : Pt) (g : JFrame) (ig : Instr) (mk : MethodId) (a : Array Value),
    Stand p l e R s m sargs below meth c A.U A.locs A.cells A.slots → g.method = m → g.locals.size = c.maxLocals → decode c.code g.pc = .ok (ig, len) →
    2 * g.monitorRoom + (g.stack.map fun v => v.category).sum ≤ W9 → A.U.methodNamed? y = some mk → Pre A a →
    (∃ (v : Option Value) (B : Pt), Stand p l e R s m sargs below meth c B.U B.locs B.cells B.slots ∧ Post A a v B ∧
      Steps p.tables e below (doInvoke e (A.U.setTop g) [] mk a).1 (B.U.setTop { g with pc := g.pc + len, stack := v.toList ++ g.stack })) ∨
    (∃ (q : Addr) (B : Pt), Stand p l e R s m sargs below meth c B.U B.locs B.cells B.slots ∧ PostX A a q B ∧
      Steps p.tables e below (doInvoke e (A.U.setTop g) [] mk a).1 ((B.U.setTop g).pushFrame (.throwing q)))
section Payer
variable {l : Launch} {R : Room} {p : Program} {e : Env} {below : List Frame} {s : State} {sargs : Array Value} {y : MethodName} {len W9 : Nat}
theorem vx_back {ws : List Cond} {rm : Room} {Pc : Array Value → State → Prop} {Qc : Array Value → State → Outcome → State → Prop} {XC : String → State → State → Prop} {mc ms : Nat} {free : Addr → Prop} {bytes : ByteArray} {maxL : Nat} {ret : Option FieldType}
    (hM : vx_Met l y ws rm Pc Qc XC mc ms free) (hblind : FrameBlind Pc) (hrc : rm.cells = mc) (hrs : rm.slots = ms)
    (hframes : rm.frames + 1 ≤ R.frames) (hlocals : W9 + (maxL + 11) + rm.locals ≤ R.locals)
    (hws : ∀ w ∈ ws, ∀ a' U, s.WarmedH U.vm → w.before a' U = true) (hcode : Cond.code y bytes maxL ret ∈ ws) (hinit : ∀ a' U, s.WarmedH U.vm → (Cond.initialized y.cls).before a' U = true) :
    vx_Back l R p e below s sargs y len W9 (PreOf R mc ms Pc) (PostOf Qc mc ms free) (vx_Post XC mc ms free) := by
  intro m meth c A g ig mk a X hg hsize hdg hW hn hp
  have h1 : (headSpec ws rm).pre.before a A.U = true := atoms_intro fun w hw => hws w hw _ _ X.warmed
  have h2 : (Cond.code y bytes maxL ret).before a A.U = true := hws _ hcode _ _ X.warmed
  have h3 : (Cond.initialized y.cls).before a A.U = true := hinit _ _ X.warmed
  have h4 : A.cells + (headSpec ws rm).room.cells ≤ R.cells := by rw [show (headSpec ws rm).room.cells = mc from hrc]; exact hp.1
  have h5 : A.slots + (headSpec ws rm).room.slots ≤ R.slots := by rw [show (headSpec ws rm).room.slots = ms from hrs]; exact hp.2.1
  have hPc : Pc a (A.U.calling g mk a) := hblind _ _ _ _ hp.2.2
  obtain ⟨U, Ls, c0, s0⟩ := A
  dsimp only [Pt.U, Pt.locs, Pt.cells, Pt.slots] at h1 h2 h3 h4 h5 X hn hPc ⊢
  obtain ⟨methY, cY, hmY, hcY, -, hlY, -, -, -, -⟩ := Cond.code_spec hn h2
  obtain ⟨kY, hkY, -⟩ := className_of_methodNamed hn
  have hinitY : kY.init = .initialized := Cond.initialized_spec (findClass_of_methodNamed hn) hkY h3
  have h : At U g.method c below := by rw [hg]; exact X.here
  have hlocals9 : W9 + (maxL + 11) + (headSpec ws rm).room.locals ≤ R.locals := hlocals
  have happ : (headSpec ws rm).appliesLoose y e.platform (U.calling g mk a) = true :=
    Spec.appliesLoose_calling (g := g) h hdg hn hkY hinitY
      (X.room_calling (g := g) (R' := (headSpec ws rm).room) hsize hmY hcY hframes (by rw [hlY]; omega) h4 h5) h1
  obtain ⟨mid, hmid⟩ := h.above
  have hfr : (U.setTop g).frames = (.java g :: mid) ++ below := by rw [State.frames_setTop' g h.top, hmid]; rfl
  obtain ⟨o, s₂, hsteps, -, hend, hq⟩ := Steps.callFree hM p X.admits X.cas X.clock (acts := []) hfr happ hPc trivial
  have hq' : vx_Q Qc XC mc ms free a (U.calling g mk a) o s₂ := hq
  rw [State.frames_setTop' g h.top] at hend
  obtain ⟨g₀, hg0⟩ := Option.isSome_iff_exists.mp h.top
  obtain ⟨r, hr⟩ := State.topJava?_eq_some.mp hg0
  have hr' : (({ U with heap := s₂.heap, slotsUsed := s₂.slotsUsed } : State).setVm s₂.vm).frames = .java g₀ :: r := hr
  rcases hq' with ⟨hqc, L, hfe, hL⟩ | ⟨q, rfl, E, ce, L, hx, hce, hcv, hcl, hW₂, hsm, hL⟩
  · obtain ⟨⟨v, rfl⟩, hW₂, e2, q2, q3, q4, q5, q6⟩ := id hfe
    have e3 : s₂ = ({ (U.calling g mk a).setFrames s₂.frames with heap := s₂.heap, slotsUsed := s₂.slotsUsed } : State).setVm s₂.vm := by
      have : s₂ = ({ s₂ with vm := (U.calling g mk a).vm } : State).setVm s₂.vm := rfl
      rw [e2] at this
      exact this
    obtain ⟨c₂, i₂, len₂, hc₂, hd₂, hf₂⟩ := hend
    have hW' : U.WarmedH s₂.vm := hW₂
    have hcc : c₂ = c := by
      have h1 : s₂.code? g.method = U.code? g.method := by
        rw [State.code?_eq, State.code?_eq, hW'.alike.method?]
      exact Option.some.inj (hc₂.symm.trans (h1.trans h.code))
    subst hcc
    have hlen : len₂ = len := by rw [hdg] at hd₂; cases hd₂; rfl
    subst hlen
    have hs₂ : s₂ = (({ U with heap := s₂.heap, slotsUsed := s₂.slotsUsed } : State).setVm s₂.vm).setTop { g with pc := g.pc + len₂, stack := v.toList ++ g.stack } := by
      refine e3.trans ?_
      rw [hf₂, State.calling_eq h.top, State.setFrames_setFrames, State.setTop_of_frames _ hr', hr]
      rfl
    have hsame : U.sameButNew ({ U with heap := s₂.heap, slotsUsed := s₂.slotsUsed } : State) L mc ms := by
      refine ⟨?_, q2, q3, q4, q5, q6⟩
      obtain ⟨t, ht, -⟩ := State.frames_cons hr
      show ({ U with heap := s₂.heap, slotsUsed := s₂.slotsUsed } : State) = { U.setFrames U.frames with heap := s₂.heap, slotsUsed := s₂.slotsUsed }
      rw [State.setFrames_self ht]
    subst hg
    refine Or.inl ⟨v, ⟨(({ U with heap := s₂.heap, slotsUsed := s₂.slotsUsed } : State).setVm s₂.vm), Ls ++ L, c0 + mc, s0 + ms⟩,
      ⟨X.admits, X.cas, X.clock, X.frames, X.room, X.hears, X.method, X.code, (X.here.setHeapUsed s₂.heap s₂.slotsUsed).setVm hW'.alike, X.tail, State.WarmedH.trans X.warmed hW', X.limits, X.bytes, X.same.trans (hsame.setVm s.vm)⟩,
      ⟨g, mk, s₂, L, rfl, rfl, hqc, rfl, hL, rfl, rfl⟩, ?_⟩
    show Steps p.tables e below _ ((({ U with heap := s₂.heap, slotsUsed := s₂.slotsUsed } : State).setVm s₂.vm).setTop { g with pc := g.pc + len₂, stack := v.toList ++ g.stack })
    rw [← hs₂]
    exact hsteps
  · obtain ⟨e2, q2, q3, q4, q5, q6⟩ := id hsm
    have e3 : s₂ = ({ (U.calling g mk a).setFrames s₂.frames with heap := s₂.heap, slotsUsed := s₂.slotsUsed } : State).setVm s₂.vm := by
      have : s₂ = ({ s₂ with vm := (U.calling g mk a).vm } : State).setVm s₂.vm := rfl
      rw [e2] at this
      exact this
    have hf₂ : s₂.frames = .throwing q :: .java g :: U.frames.tail := hend
    have hW' : U.WarmedH s₂.vm := hW₂
    have hs₂ : s₂ = ((({ U with heap := s₂.heap, slotsUsed := s₂.slotsUsed } : State).setVm s₂.vm).setTop g).pushFrame (.throwing q) := by
      refine e3.trans ?_
      rw [hf₂, State.calling_eq h.top, State.setFrames_setFrames, State.pushFrame, State.frames_setTop _ hr', State.setTop_of_frames _ hr', State.setFrames_setFrames, hr]
      rfl
    have hsame : U.sameButNew ({ U with heap := s₂.heap, slotsUsed := s₂.slotsUsed } : State) L mc ms := by
      refine ⟨?_, q2, q3, q4, q5, q6⟩
      obtain ⟨t, ht, -⟩ := State.frames_cons hr
      show ({ U with heap := s₂.heap, slotsUsed := s₂.slotsUsed } : State) = { U.setFrames U.frames with heap := s₂.heap, slotsUsed := s₂.slotsUsed }
      rw [State.setFrames_self ht]
    subst hg
    refine Or.inr ⟨q, ⟨(({ U with heap := s₂.heap, slotsUsed := s₂.slotsUsed } : State).setVm s₂.vm), Ls ++ L, c0 + mc, s0 + ms⟩,
      ⟨X.admits, X.cas, X.clock, X.frames, X.room, X.hears, X.method, X.code, (X.here.setHeapUsed s₂.heap s₂.slotsUsed).setVm hW'.alike, X.tail, State.WarmedH.trans X.warmed hW', X.limits, X.bytes, X.same.trans (hsame.setVm s.vm)⟩,
      ⟨g, mk, s₂, L, E, ce, rfl, rfl, hx, hce, hcv, hcl, rfl, hL, rfl, rfl⟩, ?_⟩
    show Steps p.tables e below _ (((({ U with heap := s₂.heap, slotsUsed := s₂.slotsUsed } : State).setVm s₂.vm).setTop g).pushFrame (.throwing q))
    rw [← hs₂]
    exact hsteps
end Payer
section Calls
variable {p : Program} {l : Launch} {e : Env} {R : Room} {s : State} {m : MethodId} {args : Array Value} {below : List Frame} {meth : Method} {c : Code} {T : State} {locs : List Loc} {cells slots : Nat}
theorem vx_callV (X : Stand p l e R s m args below meth c T locs cells slots) (hexec : p.tables.exec = Jvm.exec) {own C : String} {index : Nat} {y : MethodName} {bytes : ByteArray} {maxL : Nat} {ret : Option FieldType}
    (hown : s.vm.findClass own = some m.cls) (hlink : (Cond.methodLink own index y).before args s = true) (hinst : (Cond.instanceMethod y).before args s = true) (hsel : (Cond.selects C y y).before args s = true)
    (hcode : (Cond.code y bytes maxL ret).before args s = true) (hy : y.cls ≠ "java/lang/invoke/MethodHandle" ∧ y.cls ≠ "java/lang/invoke/VarHandle")
    {W9 : Nat} {Pre : Pt → Array Value → Prop} {Post : Pt → Array Value → Option Value → Pt → Prop} {PostX : Pt → Array Value → Addr → Pt → Prop} (hK : vx_Back l R p e below s args y 3 W9 Pre Post PostX)
    {b : Addr} {cellB : Cell} (hcell : T.heap[b]? = some cellB) (hobj : cellB.vm.isStatics = false) (hcls : s.vm.findClass C = some cellB.cls)
    {g : JFrame} (hg : g.method = m) (hsize : g.locals.size = c.maxLocals) {argsL rest : List Value} (hlen : ∀ sig, parseMethodDescriptor y.desc = some sig → argsL.length = sig.parameters.length)
    (hstack : g.stack = argsL.reverse ++ .ref b :: rest) (hW : 2 * g.monitorRoom + (rest.map fun v => v.category).sum ≤ W9) (hdg : decode c.code g.pc = .ok (.invokevirtual index, 3))
    (hpre : ∀ vm₁, s.WarmedH vm₁ → Pre ⟨T.setVm vm₁, locs, cells, slots⟩ (Value.ref b :: argsL).toArray) :
    (∃ (v : Option Value) (vm₁ : Vm) (B : Pt), s.WarmedH vm₁ ∧ Stand p l e R s m args below meth c B.U B.locs B.cells B.slots ∧ Post ⟨T.setVm vm₁, locs, cells, slots⟩ (Value.ref b :: argsL).toArray v B ∧
      ∀ target, Steps p.tables e below (B.U.setTop { g with pc := g.pc + 3, stack := v.toList ++ rest }) target → Steps p.tables e below (T.setTop g) target) ∨
    (∃ (q : Addr) (vm₁ : Vm) (B : Pt), s.WarmedH vm₁ ∧ Stand p l e R s m args below meth c B.U B.locs B.cells B.slots ∧ PostX ⟨T.setVm vm₁, locs, cells, slots⟩ (Value.ref b :: argsL).toArray q B ∧
      Steps p.tables e below (T.setTop g) ((B.U.setTop { g with stack := rest }).pushFrame (.throwing q))) := by
  obtain ⟨mk, methM, hnamed, hmethM, hstM, habM⟩ := Cond.instanceMethod_spec hinst
  obtain ⟨methM', cM, hmethM', -, -, -, -, -, -, hsigM⟩ := Cond.code_spec hnamed hcode
  cases hmethM.symm.trans hmethM'
  obtain ⟨c2, r2, m2, q1, q2, q3, q4, kP, hkP, hkPi⟩ := Cond.selects_spec hsel
  cases hcls.symm.trans q1
  cases (State.methodFound?_of_named hnamed hy).symm.trans q2
  cases hnamed.symm.trans q3
  have hselP : selectMethod e.platform s.vm cellB.cls mk = .method mk := by rw [Launch.admits_selectMethod X.admits]; exact q4
  obtain ⟨vm₁, X₁, hstep₁⟩ := X.invokevirtual hexec hown hlink hnamed hmethM hstM hkP hkPi hy (a := b) (cell := cellB) hcell
    (fun z h => by rw [h] at hobj; cases hobj) hselP hmethM habM hkP hkPi (g := g) hg (argsL := argsL) (rest := rest) (hlen _ hsigM) hstack hdg
  rcases hK m meth c ⟨T.setVm vm₁, locs, cells, slots⟩ { g with stack := rest } (.invokevirtual index) mk (Value.ref b :: argsL).toArray X₁ hg hsize hdg hW (X₁.named hnamed) (hpre vm₁ X₁.warmed) with ⟨v, B, X', hpost, hsteps⟩ | ⟨q, B, X', hpost, hsteps⟩
  · exact Or.inl ⟨v, vm₁, B, X₁.warmed, X', hpost, fun target h => hstep₁ _ fun acts => by rw [doInvoke_state]; exact hsteps.trans h⟩
  · exact Or.inr ⟨q, vm₁, B, X₁.warmed, X', hpost, hstep₁ _ fun acts => by rw [doInvoke_state]; exact hsteps⟩
theorem vx_callS (X : Stand p l e R s m args below meth c T locs cells slots) (hexec : p.tables.exec = Jvm.exec) {own : String} {index : Nat} {y : MethodName} {bytes : ByteArray} {maxL : Nat} {ret : Option FieldType}
    (hown : s.vm.findClass own = some m.cls) (hlink : (Cond.methodLink own index y).before args s = true) (hstat : (Cond.static y).before args s = true) (hinit : (Cond.initialized y.cls).before args s = true)
    (hcode : (Cond.code y bytes maxL ret).before args s = true) (hy : y.cls ≠ "java/lang/invoke/MethodHandle" ∧ y.cls ≠ "java/lang/invoke/VarHandle")
    {W9 : Nat} {Pre : Pt → Array Value → Prop} {Post : Pt → Array Value → Option Value → Pt → Prop} {PostX : Pt → Array Value → Addr → Pt → Prop} (hK : vx_Back l R p e below s args y 3 W9 Pre Post PostX)
    {g : JFrame} (hg : g.method = m) (hsize : g.locals.size = c.maxLocals) {argsL rest : List Value} (hlen : ∀ sig, parseMethodDescriptor y.desc = some sig → argsL.length = sig.parameters.length)
    (hstack : g.stack = argsL.reverse ++ rest) (hW : 2 * g.monitorRoom + (rest.map fun v => v.category).sum ≤ W9) (hdg : decode c.code g.pc = .ok (.invokestatic index, 3))
    (hpre : ∀ vm₁, s.WarmedH vm₁ → Pre ⟨T.setVm vm₁, locs, cells, slots⟩ argsL.toArray) :
    (∃ (v : Option Value) (vm₁ : Vm) (B : Pt), s.WarmedH vm₁ ∧ Stand p l e R s m args below meth c B.U B.locs B.cells B.slots ∧ Post ⟨T.setVm vm₁, locs, cells, slots⟩ argsL.toArray v B ∧
      ∀ target, Steps p.tables e below (B.U.setTop { g with pc := g.pc + 3, stack := v.toList ++ rest }) target → Steps p.tables e below (T.setTop g) target) ∨
    (∃ (q : Addr) (vm₁ : Vm) (B : Pt), s.WarmedH vm₁ ∧ Stand p l e R s m args below meth c B.U B.locs B.cells B.slots ∧ PostX ⟨T.setVm vm₁, locs, cells, slots⟩ argsL.toArray q B ∧
      Steps p.tables e below (T.setTop g) ((B.U.setTop { g with stack := rest }).pushFrame (.throwing q))) := by
  obtain ⟨mk, hnamed⟩ := Cond.code_named hcode
  obtain ⟨methM, cM, hmethM, -, -, -, -, -, -, hsigM⟩ := Cond.code_spec hnamed hcode
  have hstatic : methM.isStatic = true := Cond.static_spec hnamed hmethM hstat
  obtain ⟨kP, hkP, -⟩ := className_of_methodNamed hnamed
  have hinitP : kP.init = .initialized := Cond.initialized_spec (findClass_of_methodNamed hnamed) hkP hinit
  obtain ⟨vm₁, X₁, hstep₁⟩ := X.invokestatic hexec hown hlink hnamed hmethM hstatic hkP hinitP hy (g := g) hg (argsL := argsL) (rest := rest) (hlen _ hsigM) hstack hdg
  rcases hK m meth c ⟨T.setVm vm₁, locs, cells, slots⟩ { g with stack := rest } (.invokestatic index) mk argsL.toArray X₁ hg hsize hdg hW (X₁.named hnamed) (hpre vm₁ X₁.warmed) with ⟨v, B, X', hpost, hsteps⟩ | ⟨q, B, X', hpost, hsteps⟩
  · exact Or.inl ⟨v, vm₁, B, X₁.warmed, X', hpost, fun target h => hstep₁ _ fun acts => by rw [doInvoke_state]; exact hsteps.trans h⟩
  · exact Or.inr ⟨q, vm₁, B, X₁.warmed, X', hpost, hstep₁ _ fun acts => by rw [doInvoke_state]; exact hsteps⟩
end Calls
theorem vx_cls {s : State} {T : State} {vm₁ : Vm} {E : String} {k : ClassId} (hW : s.WarmedH vm₁) (h : (T.setVm vm₁).vm.findClass E = some k) : s.vm.findClass E = some k := by
  have h1 : vm₁.findClass E = some k := h
  rw [hW.alike.findClass] at h1
  exact h1
/-- the method's frame g, with q thrown over it -/
def vx_W (p : Program) (l : Launch) (e : Env) (R : Room) (s : State) (m : MethodId) (args : Array Value) (below : List Frame) (meth : Method) (c : Code) (H : Heap) (locs : List Loc) (cells slots : Nat) (Q : State → Prop) (g : JFrame) (q : Addr) : Prop :=
  ∀ T : State, T.heap = H → Stand p l e R s m args below meth c T locs cells slots → ∃ t, Steps p.tables e below ((T.setTop g).pushFrame (.throwing q)) t ∧ Q t
def vx_Run (p : Program) (l : Launch) (e : Env) (R : Room) (s : State) (m : MethodId) (args : Array Value) (below : List Frame) (meth : Method) (c : Code) (H : Heap) (locs : List Loc) (cells slots mc ms : Nat) (g : JFrame) (rest : List Value) (Qa : State → Outcome → State → Prop) (XC : String → State → State → Prop) (free : Addr → Prop) : Prop :=
  ∀ T : State, T.heap = H → Stand p l e R s m args below meth c T locs cells slots →
    (∃ (v : Option Value) (st₀ t T' : State) (L : List Loc), st₀.heap = H ∧ Stand p l e R s m args below meth c T' (locs ++ L) (cells + mc) (slots + ms) ∧ (∀ q ∈ L, free q.base) ∧ T'.heap = t.heap ∧ T'.vm = t.vm ∧ Qa st₀ (.returned v) t ∧
      Goes p e below T g T' { g with pc := g.pc + 3, stack := v.toList ++ rest }) ∨
    (∃ (q : Addr) (st₀ t T' : State) (L : List Loc) (E : String) (ce : Cell), st₀.heap = H ∧ Stand p l e R s m args below meth c T' (locs ++ L) (cells + mc) (slots + ms) ∧ (∀ z ∈ L, free z.base) ∧ T'.heap = t.heap ∧ T'.vm = t.vm ∧ XC E st₀ t ∧ t.heap[q]? = some ce ∧ ce.vm = .none ∧ s.vm.findClass E = some ce.cls ∧
      Steps p.tables e below (T.setTop g) ((T'.setTop { g with stack := rest }).pushFrame (.throwing q)))
def vx_X {S : Type} (px : S → Prop) (B : String → S → State → Prop) (A : Nat → Prop) : String → State → State → Prop := fun E st t => ∃ u : S, px u ∧ B E u t ∧ va_F A st t
section Runs
variable {p : Program} {l : Launch} {e : Env} {R : Room} {s : State} {m : MethodId} {args : Array Value} {below : List Frame} {meth : Method} {c : Code} {H : Heap} {locs : List Loc} {cells slots : Nat}
variable {y : MethodName} {bytes cc : ByteArray} {maxL nL mc ms n index : Nat} {ret : Option FieldType} {ws : List Cond} {rm : Room} {Pc : Array Value → State → Prop} {Qc : Array Value → State → Outcome → State → Prop} {XC : String → State → State → Prop} {free : Addr → Prop} {Ts : List Cond} {own C : String} {b : Addr} {As rest : List Value} {g : JFrame}
theorem vx_callBack (cb : CallB R s args own index y bytes maxL ret ws rm mc ms n) (hM : vx_Met l y ws rm Pc Qc XC mc ms free) (hbl : FrameBlind Pc) : vx_Back l R p e below s args y 3 8 (PreOf R mc ms Pc) (PostOf Qc mc ms free) (vx_Post XC mc ms free) := by
  obtain ⟨hrc, hrs, hfr, hlo, hws, hcw, -, hini, -⟩ := cb
  exact vx_back (bytes := bytes) (maxL := maxL) (ret := ret) hM hbl hrc hrs hfr hlo hws hcw (fun a' U hW => word_at hW (Or.inl (by first | rfl | simp [Cond.onTables, Cond.keeps, Cond.steady])) hini)
theorem vx_runV (S : CallFix p m c cc nL s args Ts own) (hM : vx_Met l y ws rm Pc Qc XC mc ms free) (cw : CallW R s args own C index y bytes maxL ret ws rm mc ms n) (hp : PreV s H C b Pc As)
    (hg : g.method = m) (hn : As.length = n) (hsize : g.locals.size = nL) (hstack : g.stack = As.reverse ++ .ref b :: rest) (hW : 2 * g.monitorRoom + (rest.map fun v => v.category).sum ≤ 8) (hdg : decode cc g.pc = .ok (.invokevirtual index, 3)) (hf : cells + mc ≤ R.cells ∧ slots + ms ≤ R.slots) :
    vx_Run p l e R s m args below meth c H locs cells slots mc ms g rest (Qc (Value.ref b :: As).toArray) XC free := by
  have hK : vx_Back l R p e below s args y 3 8 (PreOf R mc ms Pc) (PostOf Qc mc ms free) (vx_Post XC mc ms free) := vx_callBack cw.1 hM hp.1
  obtain ⟨⟨-, -, -, -, -, -, hcode, -, hy, hlen, hl⟩, hin, hse⟩ := cw
  obtain ⟨hx, hb, hml, ho, -⟩ := S
  obtain ⟨-, ⟨cellB, hcB, hoB, hclB⟩, hPc⟩ := hp
  intro T hT X
  rcases vx_callV X hx (C := C) (bytes := bytes) (maxL := maxL) (ret := ret) ho hl hin hse hcode hy hK (by rw [hT]; exact hcB) hoB hclB hg (hsize.trans hml.symm) (argsL := As) (rest := rest) (fun sig h => hn.trans (hlen sig h)) hstack hW (by rw [hb]; exact hdg)
    (fun vm₁ hW₁ => ⟨hf.1, hf.2, hPc (T.setVm vm₁) hT hW₁⟩) with ⟨v, vm₁, ⟨U', l2, c2, s2⟩, hW₁, X', ⟨g', mk, t, L, e1, e2, hq, h1, hL, h2, h3⟩, st⟩ | ⟨q, vm₁, ⟨U', l2, c2, s2⟩, hW₁, X', ⟨g', mk, t, L, E, ce, e1, e2, hq, hce, hcv, hcl, h1, hL, h2, h3⟩, st⟩
  · dsimp only [Pt.U, Pt.locs, Pt.cells, Pt.slots] at X' e1 e2 h1 h2 h3 st
    subst h1; subst h2; subst h3
    exact Or.inl ⟨v, (T.setVm vm₁).calling g' mk (Value.ref b :: As).toArray, t, U', L, hT, X', hL, e1, e2, hq, st⟩
  · dsimp only [Pt.U, Pt.locs, Pt.cells, Pt.slots] at X' e1 e2 h1 h2 h3 st hcl
    subst h1; subst h2; subst h3
    exact Or.inr ⟨q, (T.setVm vm₁).calling g' mk (Value.ref b :: As).toArray, t, U', L, E, ce, hT, X', hL, e1, e2, hq, hce, hcv, vx_cls hW₁ hcl, st⟩
theorem vx_runS (S : CallFix p m c cc nL s args Ts own) (hM : vx_Met l y ws rm Pc Qc XC mc ms free) (cw : CallB R s args own index y bytes maxL ret ws rm mc ms n ∧ (Cond.static y).before args s = true) (hp : PreS s H Pc As)
    (hg : g.method = m) (hn : As.length = n) (hsize : g.locals.size = nL) (hstack : g.stack = As.reverse ++ rest) (hW : 2 * g.monitorRoom + (rest.map fun v => v.category).sum ≤ 8) (hdg : decode cc g.pc = .ok (.invokestatic index, 3)) (hf : cells + mc ≤ R.cells ∧ slots + ms ≤ R.slots) :
    vx_Run p l e R s m args below meth c H locs cells slots mc ms g rest (Qc As.toArray) XC free := by
  have hK : vx_Back l R p e below s args y 3 8 (PreOf R mc ms Pc) (PostOf Qc mc ms free) (vx_Post XC mc ms free) := vx_callBack cw.1 hM hp.1
  obtain ⟨⟨-, -, -, -, -, -, hcode, hini, hy, hlen, hl⟩, hstt⟩ := cw
  obtain ⟨hx, hb, hml, ho, -⟩ := S
  intro T hT X
  rcases vx_callS X hx (bytes := bytes) (maxL := maxL) (ret := ret) ho hl hstt hini hcode hy hK hg (hsize.trans hml.symm) (argsL := As) (rest := rest) (fun sig h => hn.trans (hlen sig h)) hstack hW (by rw [hb]; exact hdg)
    (fun vm₁ hW₁ => ⟨hf.1, hf.2, hp.2 (T.setVm vm₁) hT hW₁⟩) with ⟨v, vm₁, ⟨U', l2, c2, s2⟩, hW₁, X', ⟨g', mk, t, L, e1, e2, hq, h1, hL, h2, h3⟩, st⟩ | ⟨q, vm₁, ⟨U', l2, c2, s2⟩, hW₁, X', ⟨g', mk, t, L, E, ce, e1, e2, hq, hce, hcv, hcl, h1, hL, h2, h3⟩, st⟩
  · dsimp only [Pt.U, Pt.locs, Pt.cells, Pt.slots] at X' e1 e2 h1 h2 h3 st
    subst h1; subst h2; subst h3
    exact Or.inl ⟨v, (T.setVm vm₁).calling g' mk As.toArray, t, U', L, hT, X', hL, e1, e2, hq, st⟩
  · dsimp only [Pt.U, Pt.locs, Pt.cells, Pt.slots] at X' e1 e2 h1 h2 h3 st hcl
    subst h1; subst h2; subst h3
    exact Or.inr ⟨q, (T.setVm vm₁).calling g' mk As.toArray, t, U', L, E, ce, hT, X', hL, e1, e2, hq, hce, hcv, vx_cls hW₁ hcl, st⟩
end Runs
section Rows
variable {p : Program} {l : Launch} {e : Env} {R : Room} {s : State} {m : MethodId} {args : Array Value} {below : List Frame} {meth : Method} {c : Code} {H : Heap} {locs : List Loc} {cells slots : Nat} {Q : State → Prop}
variable {mc ms : Nat} {free : Addr → Prop} {A0 A1 : Nat → Prop} {H0 : Heap} {a : Array Value} {pc : Nat} {ls : Array Slot} {st0 rest : List Value}
theorem vx_keep {st₀ t T' : State} {L : List Loc} (h0 : st₀.heap = H) (e1 : T'.heap = t.heap) (hS : va_S A0 H0 H locs) (hA : ∀ q, q < H.size → A1 q → A0 q) (hf : ∀ q, free q → A0 q) (hL : ∀ q ∈ L, free q.base) (hF : va_F A1 st₀ t) :
    H.size ≤ T'.heap.size ∧ (∀ q : Nat, q < H.size → ¬ A1 q → T'.heap[q]? = H[q]?) ∧ va_S A0 H0 T'.heap (locs ++ L) := by
  obtain ⟨hz, hk⟩ := hF
  rw [h0] at hz hk
  exact ⟨by rw [e1]; exact hz, fun q h1 h2 => by rw [e1]; exact hk q h1 h2,
    ⟨Nat.le_trans hS.1 (by rw [e1]; exact hz), fun q h1 h2 => by rw [e1, hk q (Nat.lt_of_lt_of_le h1 hS.1) (fun z => h2 (hA q (Nat.lt_of_lt_of_le h1 hS.1) z))]; exact hS.2.1 q h1 h2, fun q hq => by
      rcases List.mem_append.mp hq with h | h
      · exact hS.2.2 q h
      · exact hf _ (hL q h)⟩⟩
theorem vx_calli {S SX : Type} {post : Int32 → S → Prop} {px : SX → Prop} {B : S → State → Prop} {BX : String → SX → State → Prop} {AX : Nat → Prop} (hr : vx_Run p l e R s m args below meth c H locs cells slots mc ms (F0 m pc ls st0) rest (va_Qi post B A1 a) (vx_X px BX AX) free) (hS : va_S A0 H0 H locs) (hA : ∀ q, q < H.size → A1 q → A0 q) (hf : ∀ q, free q → A0 q) (hAX : ∀ q, q < H.size → AX q → A0 q)
    (kx : ∀ (E : String) (ce : Cell) (q9 : Addr) (u : SX) (t : State) (H1 : Heap) (locs1 : List Loc), t.heap = H1 → s.vm.Alike t.vm → px u → BX E u t → H.size ≤ H1.size → (∀ q : Nat, q < H.size → ¬ AX q → H1[q]? = H[q]?) → va_S A0 H0 H1 locs1 → H1[q9]? = some ce → ce.vm = .none → s.vm.findClass E = some ce.cls → vx_W p l e R s m args below meth c H1 locs1 (cells + mc) (slots + ms) Q (F0 m pc ls rest) q9)
    (kk : ∀ (r : Int32) (u : S) (t : State) (H1 : Heap) (locs1 : List Loc), t.heap = H1 → s.vm.Alike t.vm → post r u → B u t → H.size ≤ H1.size → (∀ q : Nat, q < H.size → ¬ A1 q → H1[q]? = H[q]?) → va_S A0 H0 H1 locs1 → W p l e R s m args below meth c H1 locs1 (cells + mc) (slots + ms) Q (F0 m (pc + 3) ls (.int r :: rest))) : W p l e R s m args below meth c H locs cells slots Q (F0 m pc ls st0) := by
  intro T hT X
  rcases hr T hT X with ⟨v, st₀, t, T', L, h0, X', hL, e1, e2, ⟨⟨r, u, hv, hp, hb⟩, hF⟩, st⟩ | ⟨q, st₀, t, T', L, E, ce, h0, X', hL, e1, e2, ⟨u, hp, hb, hF⟩, hce, hcv, hcl, st⟩
  · cases hv
    obtain ⟨k1, k2, k3⟩ := vx_keep h0 e1 hS hA hf hL hF
    obtain ⟨t2, a1, b1⟩ := kk r u t T'.heap (locs ++ L) e1.symm (by rw [← e2]; exact X'.warmed.alike) hp hb k1 k2 k3 T' rfl X'
    exact ⟨t2, st t2 a1, b1⟩
  · obtain ⟨k1, k2, k3⟩ := vx_keep h0 e1 hS hAX hf hL hF
    obtain ⟨t2, a1, b1⟩ := kx E ce q u t T'.heap (locs ++ L) e1.symm (by rw [← e2]; exact X'.warmed.alike) hp hb k1 k2 k3 (by rw [e1]; exact hce) hcv hcl T' rfl X'
    exact ⟨t2, st.trans a1, b1⟩
theorem vx_calll {S SX : Type} {post : Int64 → S → Prop} {px : SX → Prop} {B : S → State → Prop} {BX : String → SX → State → Prop} {AX : Nat → Prop} (hr : vx_Run p l e R s m args below meth c H locs cells slots mc ms (F0 m pc ls st0) rest (va_Ql post B A1 a) (vx_X px BX AX) free) (hS : va_S A0 H0 H locs) (hA : ∀ q, q < H.size → A1 q → A0 q) (hf : ∀ q, free q → A0 q) (hAX : ∀ q, q < H.size → AX q → A0 q)
    (kx : ∀ (E : String) (ce : Cell) (q9 : Addr) (u : SX) (t : State) (H1 : Heap) (locs1 : List Loc), t.heap = H1 → s.vm.Alike t.vm → px u → BX E u t → H.size ≤ H1.size → (∀ q : Nat, q < H.size → ¬ AX q → H1[q]? = H[q]?) → va_S A0 H0 H1 locs1 → H1[q9]? = some ce → ce.vm = .none → s.vm.findClass E = some ce.cls → vx_W p l e R s m args below meth c H1 locs1 (cells + mc) (slots + ms) Q (F0 m pc ls rest) q9)
    (kk : ∀ (r : Int64) (u : S) (t : State) (H1 : Heap) (locs1 : List Loc), t.heap = H1 → s.vm.Alike t.vm → post r u → B u t → H.size ≤ H1.size → (∀ q : Nat, q < H.size → ¬ A1 q → H1[q]? = H[q]?) → va_S A0 H0 H1 locs1 → W p l e R s m args below meth c H1 locs1 (cells + mc) (slots + ms) Q (F0 m (pc + 3) ls (.long r :: rest))) : W p l e R s m args below meth c H locs cells slots Q (F0 m pc ls st0) := by
  intro T hT X
  rcases hr T hT X with ⟨v, st₀, t, T', L, h0, X', hL, e1, e2, ⟨⟨r, u, hv, hp, hb⟩, hF⟩, st⟩ | ⟨q, st₀, t, T', L, E, ce, h0, X', hL, e1, e2, ⟨u, hp, hb, hF⟩, hce, hcv, hcl, st⟩
  · cases hv
    obtain ⟨k1, k2, k3⟩ := vx_keep h0 e1 hS hA hf hL hF
    obtain ⟨t2, a1, b1⟩ := kk r u t T'.heap (locs ++ L) e1.symm (by rw [← e2]; exact X'.warmed.alike) hp hb k1 k2 k3 T' rfl X'
    exact ⟨t2, st t2 a1, b1⟩
  · obtain ⟨k1, k2, k3⟩ := vx_keep h0 e1 hS hAX hf hL hF
    obtain ⟨t2, a1, b1⟩ := kx E ce q u t T'.heap (locs ++ L) e1.symm (by rw [← e2]; exact X'.warmed.alike) hp hb k1 k2 k3 (by rw [e1]; exact hce) hcv hcl T' rfl X'
    exact ⟨t2, st.trans a1, b1⟩
theorem vx_callf {S SX : Type} {post : UInt32 → S → Prop} {px : SX → Prop} {B : S → State → Prop} {BX : String → SX → State → Prop} {AX : Nat → Prop} (hr : vx_Run p l e R s m args below meth c H locs cells slots mc ms (F0 m pc ls st0) rest (va_Qf post B A1 a) (vx_X px BX AX) free) (hS : va_S A0 H0 H locs) (hA : ∀ q, q < H.size → A1 q → A0 q) (hf : ∀ q, free q → A0 q) (hAX : ∀ q, q < H.size → AX q → A0 q)
    (kx : ∀ (E : String) (ce : Cell) (q9 : Addr) (u : SX) (t : State) (H1 : Heap) (locs1 : List Loc), t.heap = H1 → s.vm.Alike t.vm → px u → BX E u t → H.size ≤ H1.size → (∀ q : Nat, q < H.size → ¬ AX q → H1[q]? = H[q]?) → va_S A0 H0 H1 locs1 → H1[q9]? = some ce → ce.vm = .none → s.vm.findClass E = some ce.cls → vx_W p l e R s m args below meth c H1 locs1 (cells + mc) (slots + ms) Q (F0 m pc ls rest) q9)
    (kk : ∀ (r : UInt32) (u : S) (t : State) (H1 : Heap) (locs1 : List Loc), t.heap = H1 → s.vm.Alike t.vm → post r u → B u t → H.size ≤ H1.size → (∀ q : Nat, q < H.size → ¬ A1 q → H1[q]? = H[q]?) → va_S A0 H0 H1 locs1 → W p l e R s m args below meth c H1 locs1 (cells + mc) (slots + ms) Q (F0 m (pc + 3) ls (.float r :: rest))) : W p l e R s m args below meth c H locs cells slots Q (F0 m pc ls st0) := by
  intro T hT X
  rcases hr T hT X with ⟨v, st₀, t, T', L, h0, X', hL, e1, e2, ⟨⟨r, u, hv, hp, hb⟩, hF⟩, st⟩ | ⟨q, st₀, t, T', L, E, ce, h0, X', hL, e1, e2, ⟨u, hp, hb, hF⟩, hce, hcv, hcl, st⟩
  · cases hv
    obtain ⟨k1, k2, k3⟩ := vx_keep h0 e1 hS hA hf hL hF
    obtain ⟨t2, a1, b1⟩ := kk r u t T'.heap (locs ++ L) e1.symm (by rw [← e2]; exact X'.warmed.alike) hp hb k1 k2 k3 T' rfl X'
    exact ⟨t2, st t2 a1, b1⟩
  · obtain ⟨k1, k2, k3⟩ := vx_keep h0 e1 hS hAX hf hL hF
    obtain ⟨t2, a1, b1⟩ := kx E ce q u t T'.heap (locs ++ L) e1.symm (by rw [← e2]; exact X'.warmed.alike) hp hb k1 k2 k3 (by rw [e1]; exact hce) hcv hcl T' rfl X'
    exact ⟨t2, st.trans a1, b1⟩
theorem vx_calld {S SX : Type} {post : UInt64 → S → Prop} {px : SX → Prop} {B : S → State → Prop} {BX : String → SX → State → Prop} {AX : Nat → Prop} (hr : vx_Run p l e R s m args below meth c H locs cells slots mc ms (F0 m pc ls st0) rest (va_Qd post B A1 a) (vx_X px BX AX) free) (hS : va_S A0 H0 H locs) (hA : ∀ q, q < H.size → A1 q → A0 q) (hf : ∀ q, free q → A0 q) (hAX : ∀ q, q < H.size → AX q → A0 q)
    (kx : ∀ (E : String) (ce : Cell) (q9 : Addr) (u : SX) (t : State) (H1 : Heap) (locs1 : List Loc), t.heap = H1 → s.vm.Alike t.vm → px u → BX E u t → H.size ≤ H1.size → (∀ q : Nat, q < H.size → ¬ AX q → H1[q]? = H[q]?) → va_S A0 H0 H1 locs1 → H1[q9]? = some ce → ce.vm = .none → s.vm.findClass E = some ce.cls → vx_W p l e R s m args below meth c H1 locs1 (cells + mc) (slots + ms) Q (F0 m pc ls rest) q9)
    (kk : ∀ (r : UInt64) (u : S) (t : State) (H1 : Heap) (locs1 : List Loc), t.heap = H1 → s.vm.Alike t.vm → post r u → B u t → H.size ≤ H1.size → (∀ q : Nat, q < H.size → ¬ A1 q → H1[q]? = H[q]?) → va_S A0 H0 H1 locs1 → W p l e R s m args below meth c H1 locs1 (cells + mc) (slots + ms) Q (F0 m (pc + 3) ls (.double r :: rest))) : W p l e R s m args below meth c H locs cells slots Q (F0 m pc ls st0) := by
  intro T hT X
  rcases hr T hT X with ⟨v, st₀, t, T', L, h0, X', hL, e1, e2, ⟨⟨r, u, hv, hp, hb⟩, hF⟩, st⟩ | ⟨q, st₀, t, T', L, E, ce, h0, X', hL, e1, e2, ⟨u, hp, hb, hF⟩, hce, hcv, hcl, st⟩
  · cases hv
    obtain ⟨k1, k2, k3⟩ := vx_keep h0 e1 hS hA hf hL hF
    obtain ⟨t2, a1, b1⟩ := kk r u t T'.heap (locs ++ L) e1.symm (by rw [← e2]; exact X'.warmed.alike) hp hb k1 k2 k3 T' rfl X'
    exact ⟨t2, st t2 a1, b1⟩
  · obtain ⟨k1, k2, k3⟩ := vx_keep h0 e1 hS hAX hf hL hF
    obtain ⟨t2, a1, b1⟩ := kx E ce q u t T'.heap (locs ++ L) e1.symm (by rw [← e2]; exact X'.warmed.alike) hp hb k1 k2 k3 (by rw [e1]; exact hce) hcv hcl T' rfl X'
    exact ⟨t2, st.trans a1, b1⟩
theorem vx_callv {S SX : Type} {post : S → Prop} {px : SX → Prop} {B : S → State → Prop} {BX : String → SX → State → Prop} {AX : Nat → Prop} (hr : vx_Run p l e R s m args below meth c H locs cells slots mc ms (F0 m pc ls st0) rest (va_Qv post B A1 a) (vx_X px BX AX) free) (hS : va_S A0 H0 H locs) (hA : ∀ q, q < H.size → A1 q → A0 q) (hf : ∀ q, free q → A0 q) (hAX : ∀ q, q < H.size → AX q → A0 q)
    (kx : ∀ (E : String) (ce : Cell) (q9 : Addr) (u : SX) (t : State) (H1 : Heap) (locs1 : List Loc), t.heap = H1 → s.vm.Alike t.vm → px u → BX E u t → H.size ≤ H1.size → (∀ q : Nat, q < H.size → ¬ AX q → H1[q]? = H[q]?) → va_S A0 H0 H1 locs1 → H1[q9]? = some ce → ce.vm = .none → s.vm.findClass E = some ce.cls → vx_W p l e R s m args below meth c H1 locs1 (cells + mc) (slots + ms) Q (F0 m pc ls rest) q9)
    (kk : ∀ (u : S) (t : State) (H1 : Heap) (locs1 : List Loc), t.heap = H1 → s.vm.Alike t.vm → post u → B u t → H.size ≤ H1.size → (∀ q : Nat, q < H.size → ¬ A1 q → H1[q]? = H[q]?) → va_S A0 H0 H1 locs1 → W p l e R s m args below meth c H1 locs1 (cells + mc) (slots + ms) Q (F0 m (pc + 3) ls (rest))) : W p l e R s m args below meth c H locs cells slots Q (F0 m pc ls st0) := by
  intro T hT X
  rcases hr T hT X with ⟨v, st₀, t, T', L, h0, X', hL, e1, e2, ⟨⟨u, hv, hp, hb⟩, hF⟩, st⟩ | ⟨q, st₀, t, T', L, E, ce, h0, X', hL, e1, e2, ⟨u, hp, hb, hF⟩, hce, hcv, hcl, st⟩
  · cases hv
    obtain ⟨k1, k2, k3⟩ := vx_keep h0 e1 hS hA hf hL hF
    obtain ⟨t2, a1, b1⟩ := kk u t T'.heap (locs ++ L) e1.symm (by rw [← e2]; exact X'.warmed.alike) hp hb k1 k2 k3 T' rfl X'
    exact ⟨t2, st t2 a1, b1⟩
  · obtain ⟨k1, k2, k3⟩ := vx_keep h0 e1 hS hAX hf hL hF
    obtain ⟨t2, a1, b1⟩ := kx E ce q u t T'.heap (locs ++ L) e1.symm (by rw [← e2]; exact X'.warmed.alike) hp hb k1 k2 k3 (by rw [e1]; exact hce) hcv hcl T' rfl X'
    exact ⟨t2, st.trans a1, b1⟩
/-- caught by the row x of this method's table; the rows ahead don't take it -/
theorem vx_catch {own name : String} {E : String} {ce : Cell} {q : Addr} (hown : s.vm.findClass own = some m.cls) (pre : List ExceptionTableEntry) (x : ExceptionTableEntry) (suf : List ExceptionTableEntry) (hsplit : c.exceptionTable.toList = pre ++ x :: suf)
    (hpass : ∀ z ∈ pre, covers z pc = false ∨ (z.catchType ≠ 0 ∧ ∃ nm : String, (Cond.classLink own z.catchType nm).before args s = true ∧ va_Nc E nm s)) (hx : covers x pc = true) (h0 : x.catchType ≠ 0)
    (hlink : (Cond.classLink own x.catchType name).before args s = true) (hcast : (Cond.castable E name).before args s = true) (hcell : H[q]? = some ce) (hv : ce.vm = .none) (hcl : s.vm.findClass E = some ce.cls)
    (kk : W p l e R s m args below meth c H locs cells slots Q (F0 m x.handlerPc ls [.ref q])) : vx_W p l e R s m args below meth c H locs cells slots Q (F0 m pc ls rest) q := by
  intro T hT X
  have hpl : e.platform.magicAccessors = ({} : Platform).magicAccessors := by rw [X.admits.platform]
  obtain ⟨c3, c4, hc3, hc4, hasg⟩ := Cond.castable_spec hcast
  cases Option.some.inj (hc3.symm.trans hcl)
  obtain ⟨c5, hc5, hcl5⟩ := Cond.classLink_spec hown hlink e.platform hpl
  cases Option.some.inj (hc4.symm.trans hc5)
  obtain ⟨vm', X', st⟩ := X.thenCaughtThrough q (g := F0 m pc ls rest) rfl (Steps.refl _) (by rw [hT]; exact hcell) (by rw [hv]; rfl) (by obtain ⟨k9, h9, -⟩ := Vm.findClass_spec hcl; exact ⟨k9, h9⟩) pre x suf hsplit
    (fun z hz => by
      rcases hpass z hz with h | ⟨hz0, nm, hl1, hn1⟩
      · exact Or.inl h
      · obtain ⟨c6, hc6, hcl6⟩ := Cond.classLink_spec hown hl1 e.platform hpl
        obtain ⟨a8, b8, h1, h2, h3⟩ := hn1
        cases Option.some.inj (h1.symm.trans hcl)
        cases Option.some.inj (h2.symm.trans hc6)
        exact Or.inr ⟨hz0, _, hcl6, h3⟩) hx (Or.inr ⟨h0, c4, hcl5, hasg⟩)
  obtain ⟨t, a1, b1⟩ := kk (T.setVm vm') hT X'
  exact ⟨t, st.trans a1, b1⟩
end Rows
section Ends
variable {p : Program} {l : Launch} {e : Env} {R : Room} {s : State} {m : MethodId} {args : Array Value} {below : List Frame} {meth : Method} {c : Code} {H : Heap} {locs : List Loc} {cells slots : Nat} {Q : State → Prop}
variable {mc ms : Nat} {free : Addr → Prop} {A0 A1 : Nat → Prop} {H0 : Heap} {a : Array Value} {ls : Array Slot} {st0 rest : List Value}
variable {Qc : Array Value → State → Outcome → State → Prop} {XC : String → State → State → Prop}
/-- what a body that may throw owes at its end -/
def vx_MQ (below : List Frame) (Qc : Array Value → State → Outcome → State → Prop) (XC : String → State → State → Prop) (a : Array Value) (s : State) (mc ms : Nat) (free : Addr → Prop) : State → Prop := fun t =>
  ∃ o, t.status = .running ∧ Ended t below o ∧ vx_Q Qc XC mc ms free a s o t
theorem vx_ret {g : JFrame} {mc ms : Nat} (k : W p l e R s m args below meth c H locs cells slots (MQ below Qc args s mc ms free) g) : W p l e R s m args below meth c H locs cells slots (vx_MQ below Qc XC args s mc ms free) g := by
  intro T hT X
  obtain ⟨t, a1, o, b1, b2, b3, b4⟩ := k T hT X
  exact ⟨t, a1, o, b1, b2, Or.inl ⟨b3, b4⟩⟩
/-- not caught here: it goes on to the caller -/
theorem vx_widen {g : JFrame} {q : Addr} {k n : Nat} (h1 : cells ≤ k) (h2 : slots ≤ n) (kk : vx_W p l e R s m args below meth c H locs k n Q g q) : vx_W p l e R s m args below meth c H locs cells slots Q g q := fun T hT X => kk T hT (stand_widen X h1 h2)
theorem vx_out {pc : Nat} {E : String} {ce : Cell} {q : Addr} {mc ms : Nat} (hout : ∀ x ∈ c.exceptionTable.toList, covers x pc = false) (hlocks : meth.locks = false) (hcell : H[q]? = some ce) (hv : ce.vm = .none) (hcl : s.vm.findClass E = some ce.cls)
    (hx : ∀ t : State, t.heap = H → s.vm.Alike t.vm → XC E s t) (hf : ∀ z ∈ locs, free z.base) (hc : cells ≤ mc) (hs : slots ≤ ms) :
    vx_W p l e R s m args below meth c H locs cells slots (vx_MQ below Qc XC args s mc ms free) (F0 m pc ls rest) q := by
  intro T hT X
  obtain ⟨st1, hrun, hend, hW, hsm⟩ := X.leaveThrown q (g := F0 m pc ls rest) rfl rfl rfl hout hlocks
  have hcell9 : (T.setFrames (.throwing q :: below)).heap[q]? = some ce := by
    show T.heap[q]? = some ce
    rw [hT]; exact hcell
  exact ⟨_, st1, .threw q, hrun, hend, Or.inr ⟨q, rfl, E, ce, locs, hx _ hT hW.alike, hcell9, hv, hcl, hW, hsm.mono hc hs, hf⟩⟩
theorem vx_frame {U : State} {k n : Nat} (h : s.sameButNew ({ U with vm := s.vm } : State) locs k n) : s.heap.size ≤ U.heap.size ∧ ∀ q : Nat, q < s.heap.size → (∀ z ∈ locs, z.base ≠ q) → U.heap[q]? = s.heap[q]? := by
  obtain ⟨-, h2, -, -, -, h6⟩ := h
  refine ⟨h2, fun q hq hz => ?_⟩
  obtain ⟨c9, e1, e2, e3, e4⟩ := h6 q _ (Array.getElem?_eq_getElem hq)
  have hs : c9.slots = (s.heap[q]).slots := Array.ext_getElem? fun i => e4 i fun hm => hz _ hm rfl
  have h9 : c9 = s.heap[q] := by
    rw [hs] at e2
    exact e2
  have e5 : U.heap[q]? = some c9 := e1
  rw [e5, h9, Array.getElem?_eq_getElem hq]
/-- the words of a throw but the four that speak of the heap -/
def vx_no (w : Cond) : Bool := decide (w ≠ .isRef (.static Bundle.tN "UNASSIGNED_STACK" Bundle.steD)) && decide (w ≠ .isRef (.static Bundle.tN "SUPPRESSED_SENTINEL" Bundle.listD)) && decide (w ≠ .laysStatic Bundle.tN "UNASSIGNED_STACK" Bundle.steD) && decide (w ≠ .laysStatic Bundle.tN "SUPPRESSED_SENTINEL" Bundle.listD)
def vx_at0 (own : String) (ic : Nat) (X : String) (names : List String) : List Cond := (Bundle.ownAtoms0 own ic X names).filter vx_no
def vx_atS (own : String) (ic : Nat) (X : String) (names : List String) : List Cond := (Bundle.ownAtoms own ic X names).filter vx_no
/-- a word that the tables alone decide, or a good one -/
def vx_ot (w : Cond) : Bool := w.onTables || goodWord w
theorem vx_ot_at {args a' : Array Value} {s U : State} {w : Cond} (hW : s.WarmedH U.vm) (hvm : s.vm = U.vm) (hg : vx_ot w = true) (h : w.before args s = true) : w.before a' U = true := by
  simp only [vx_ot, Bool.or_eq_true] at hg
  rcases hg with hg | hg
  · exact va_tabs hg hvm h
  · exact word_at hW (good_of_word hg) h
/-- a list's words: the good ones out of the method's own list, the others by premises of their own -/
theorem vx_hat {args : Array Value} {s : State} {L B : List Cond} (h1 : ∀ w ∈ L.filter goodWord, w.before args s = true) (h2 : ∀ w ∈ L.filter (fun w => !goodWord w), w ∈ B) (h3 : ∀ w ∈ B, w.before args s = true) : ∀ w ∈ L, w.before args s = true := by
  intro w hw
  by_cases g : goodWord w = true
  · exact h1 w (List.mem_filter.mpr ⟨hw, g⟩)
  · refine h3 w (h2 w (List.mem_filter.mpr ⟨hw, ?_⟩))
    show (!goodWord w) = true
    cases hgw : goodWord w
    · rfl
    · exact absurd hgw g
theorem vx_c {args : Array Value} {s : State} {w : Cond} {B : List Cond} (h : w.before args s = true) (t : ∀ w ∈ B, w.before args s = true) : ∀ w' ∈ w :: B, w'.before args s = true := fun w' h' => (List.mem_cons.mp h').elim (fun e => by rw [e]; exact h) (t w')
theorem vx_n {args : Array Value} {s : State} : ∀ w ∈ ([] : List Cond), w.before args s = true := fun _ h => nomatch h
theorem vx_own {args : Array Value} {s : State} {L : List Cond} (h1 : ∀ w ∈ L.filter vx_no, w.before args s = true)
    (hU : (Cond.isRef (.static Bundle.tN "UNASSIGNED_STACK" Bundle.steD)).before args s = true) (hN : (Cond.isRef (.static Bundle.tN "SUPPRESSED_SENTINEL" Bundle.listD)).before args s = true)
    (lU : (Cond.laysStatic Bundle.tN "UNASSIGNED_STACK" Bundle.steD).before args s = true) (lN : (Cond.laysStatic Bundle.tN "SUPPRESSED_SENTINEL" Bundle.listD).before args s = true) : ∀ w ∈ L, w.before args s = true := by
  intro w hw
  by_cases e1 : w = .isRef (.static Bundle.tN "UNASSIGNED_STACK" Bundle.steD)
  · rw [e1]; exact hU
  · by_cases e2 : w = .isRef (.static Bundle.tN "SUPPRESSED_SENTINEL" Bundle.listD)
    · rw [e2]; exact hN
    · by_cases e3 : w = .laysStatic Bundle.tN "UNASSIGNED_STACK" Bundle.steD
      · rw [e3]; exact lU
      · by_cases e4 : w = .laysStatic Bundle.tN "SUPPRESSED_SENTINEL" Bundle.listD
        · rw [e4]; exact lN
        · exact h1 w (List.mem_filter.mpr ⟨hw, by unfold vx_no; rw [decide_eq_true e1, decide_eq_true e2, decide_eq_true e3, decide_eq_true e4]; rfl⟩)
/-- where a static field lies, its class's statics cell in H -/
def vx_L (C n d : String) (A : Nat → Prop) (U : State) (H : Heap) : Prop := ∃ (c : ClassId) (k : Class) (i : Nat) (f : Field) (a : Nat) (cell : Cell), U.vm.findClass C = some c ∧ U.fieldFound? C n d = some (c, k, i, f) ∧ f.isStatic = true ∧ k.statics = some a ∧ H[a]? = some cell ∧ cell.vm.isStatics = true ∧ cell.cls = c ∧ f.slot < cell.slots.size ∧ k.staticTypes[f.slot]? = some f.type ∧ ¬ A a
theorem vx_L.moved {C n d : String} {A : Nat → Prop} {u U : State} {H : Heap} (hvm : u.vm.Alike U.vm) (h : vx_L C n d A u H) : vx_L C n d A U H := by
  obtain ⟨c, k, i, f, a, cell, h1, h2, h3, h4, h5, h6, h7, h8, h9, h10⟩ := h
  obtain ⟨k', hi', he⟩ := State.fieldFound?_setVm hvm h2
  exact ⟨c, k', i, f, a, cell, by rw [hvm.findClass]; exact h1, hi', h3, by rw [he]; exact h4, h5, h6, h7, h8, by rw [he]; exact h9, h10⟩
theorem vx_L.kept {C n d : String} {A : Nat → Prop} {U : State} {H H1 : Heap} (h : vx_L C n d A U H) (hq : ∀ a : Nat, a < H.size → ¬ A a → H1[a]? = H[a]?) : vx_L C n d A U H1 := by
  obtain ⟨c, k, i, f, a, cell, h1, h2, h3, h4, h5, h6, h7, h8, h9, h10⟩ := h
  exact ⟨c, k, i, f, a, cell, h1, h2, h3, h4, by rw [hq a (Array.getElem?_eq_some_iff.mp h5).1 h10]; exact h5, h6, h7, h8, h9, h10⟩
theorem vx_L.narrow {C n d : String} {A B : Nat → Prop} {U : State} {H : Heap} (h : vx_L C n d A U H) (hAB : ∀ q, B q → A q) : vx_L C n d B U H := by
  obtain ⟨c, k, i, f, a, cell, h1, h2, h3, h4, h5, h6, h7, h8, h9, h10⟩ := h
  exact ⟨c, k, i, f, a, cell, h1, h2, h3, h4, h5, h6, h7, h8, h9, fun z => h10 (hAB _ z)⟩
theorem vx_L.word {C n d : String} {A : Nat → Prop} {s : State} {args : Array Value} (h : vx_L C n d A s s.heap) : (Cond.laysStatic C n d).before args s = true := by
  obtain ⟨c, k, i, f, a, cell, h1, h2, h3, h4, h5, h6, h7, h8, h9, -⟩ := h
  show (Cond.laysStatic C n d).holds args s none s [] = true
  exact Cond.laysStatic_of h1 h2 h3 h4 h5 h6 h7 h8 h9
/-- .. and what it holds: null or some reference -/
def vx_Zq (C n d : String) (A : Nat → Prop) (U : State) (H : Heap) : Prop := va_Zq C n d A U H ∧ vx_L C n d A U H
theorem vx_Zq.moved {C n d : String} {A : Nat → Prop} {u U : State} {H : Heap} (hvm : u.vm.Alike U.vm) (h : vx_Zq C n d A u H) : vx_Zq C n d A U H := ⟨va_Zq.moved hvm h.1, vx_L.moved hvm h.2⟩
theorem vx_Zq.kept {C n d : String} {A : Nat → Prop} {U : State} {H H1 : Heap} (h : vx_Zq C n d A U H) (hq : ∀ a : Nat, a < H.size → ¬ A a → H1[a]? = H[a]?) : vx_Zq C n d A U H1 := ⟨va_Zq.kept h.1 hq, vx_L.kept h.2 hq⟩
theorem vx_Zq.narrow {C n d : String} {A B : Nat → Prop} {U : State} {H : Heap} (h : vx_Zq C n d A U H) (hAB : ∀ q, B q → A q) : vx_Zq C n d B U H := ⟨va_Zq.narrow h.1 hAB, vx_L.narrow h.2 hAB⟩
theorem vx_Zqof {args : Array Value} {s : State} {C n d : String} {A : Nat → Prop} (hl : (Cond.laysStatic C n d).before args s = true) (hini : (Cond.initialized C).before args s = true) (h : (Cond.isRef (.static C n d)).before args s = true) (hA : ∀ a : Nat, a < s.heap.size → ¬ A a) : vx_Zq C n d A s s.heap := by
  refine ⟨va_Zqof hl hini h hA, ?_⟩
  obtain ⟨c, k, i, f, a, cell, h1, h2, h3, h4, h5, h6, h7, h8, h9⟩ := Cond.laysStatic_spec hl
  exact ⟨c, k, i, f, a, cell, h1, h2, h3, h4, h5, h6, h7, h8, h9, hA a (Array.getElem?_eq_some_iff.mp h5).1⟩
theorem vx_isRef {C n d : String} {v : Value} {A : Nat → Prop} {s : State} {args : Array Value} (h : va_Z C n d v A s s.heap) (hv : v.isRef = true) : (Cond.isRef (.static C n d)).before args s = true := by
  obtain ⟨cf, kf, fi, f, a, cell, h1, h2, h3, h4, h5, h6, h7, -⟩ := h
  have he : (Term.static C n d).eval args s none [] s = some v := by
    simp [Term.eval, State.fieldNamed?, h1, h2, h4, h5, h6, h7]
  simp only [Cond.before, Cond.holds, Cond.value, he]
  cases v <;> simp_all [Value.isRef]
theorem vx_isRefq {C n d : String} {A : Nat → Prop} {s : State} {args : Array Value} (h : va_Zq C n d A s s.heap) : (Cond.isRef (.static C n d)).before args s = true := by
  rcases h with h | ⟨t, h⟩
  · exact vx_isRef h rfl
  · exact vx_isRef h rfl
/-- the same frame, seen from here: as if the method were called anew in this heap -/
theorem vx_rebase {T : State} (X : Stand p l e R s m args below meth c T locs cells slots) {R' : Room} (hf : R'.frames ≤ R.frames) (hl : R'.locals ≤ R.locals) (hc : cells + R'.cells ≤ R.cells) (hs : slots + R'.slots ≤ R.slots) :
    Stand p l e R' ((T.setVm s.vm).setFrames (.invoking m args :: below)) m args below meth c T [] 0 0 := by
  have htop : (T.setVm s.vm).topJava?.isSome := X.here.top
  have hF : ((T.setVm s.vm).setFrames (.invoking m args :: below)).frames = .invoking m args :: below := State.frames_setFrames _ (State.cur_lt_of_top htop)
  obtain ⟨g₀, hg0⟩ := Option.isSome_iff_exists.mp htop
  obtain ⟨r, hr⟩ := State.topJava?_eq_some.mp hg0
  have hl9 : e.platform.stackLimits (T.setVm s.vm).me = e.platform.stackLimits s.me := X.limits
  have hb9 : (T.setVm s.vm).me.stackBytes = s.me.stackBytes := X.bytes
  refine ⟨X.admits, X.cas, X.clock, hF, ?_, X.hears, X.method, X.code, X.here, X.tail, X.warmed, ?_, ?_, ?_⟩
  · have h := X.room
    have hU : ((T.setVm s.vm).setFrames (.invoking m args :: below)).localsInUse = s.localsInUse := by
      rw [State.localsInUse_invoking hF (meth := meth) (c := c) X.method X.code, State.localsInUse_invoking X.frames X.method X.code]
    simp only [State.hasRoom, Bool.and_eq_true, decide_eq_true_eq] at h ⊢
    obtain ⟨⟨⟨⟨h1, h2, h3, h4, h5, h6⟩, h7⟩, h8⟩, h9⟩ := h
    rw [X.frames, List.length_cons] at h2 h3
    have q1 := X.heapSize
    have q2 := X.used
    simp only [hF, hU, List.length_cons, State.stackLimits_setFrames, State.stackBytes_setFrames, hl9, hb9]
    refine ⟨⟨⟨⟨by omega, by omega, by omega, by omega, by omega, h6⟩, ?_⟩, ?_⟩, X.book⟩
    · show T.heap.size + R'.cells ≤ e.platform.maxCells
      omega
    · show T.slotsUsed + R'.slots ≤ e.platform.maxSlots
      omega
  · rw [State.stackLimits_setFrames]; rfl
  · rw [State.stackBytes_setFrames]; rfl
  · refine ⟨?_, Nat.le_refl _, Nat.le_refl _, ?_, ?_, fun a c9 h9 => ⟨c9, h9, rfl, rfl, fun _ _ => rfl⟩⟩
    · obtain ⟨t, ht, -⟩ := State.frames_cons hr
      show T.setVm s.vm = { ((T.setVm s.vm).setFrames (.invoking m args :: below)).setFrames (T.setVm s.vm).frames with heap := T.heap, slotsUsed := T.slotsUsed }
      rw [State.setFrames_setFrames, State.setFrames_self ht]
      rfl
    · show T.slotsUsed = T.slotsUsed + ((T.heap.toList.drop T.heap.size).map (·.slots.size)).sum
      rw [List.drop_eq_nil_of_le (Nat.le_of_eq Array.length_toList)]
      rfl
    · show ((T.heap.toList.drop T.heap.size).map (·.slots.size)).sum ≤ 0
      rw [List.drop_eq_nil_of_le (Nat.le_of_eq Array.length_toList)]
      exact Nat.le_refl _
/-- 'throw new E()': new; dup; invokespecial; athrow -/
theorem vx_throw0 {cc : ByteArray} {pc : Nat} (hexec : p.tables.exec = Jvm.exec) (hb : c.code = cc) (hl : l.stackTraces = false) {own cls : String} {names : List String} {ik ic mc ms : Nat} {A : Nat → Prop}
    (hown : s.vm.findClass own = some m.cls) (hcls : Bundle.fit cls = true) (hnames : ∀ n ∈ names, Bundle.fit n = true)
    (hk : (Cond.classLink own ik cls).before args s = true) (hini : (Cond.initialized cls).before args s = true) (hat : ∀ w ∈ vx_at0 own ic cls names, w.before args s = true)
    (hgood : ∀ w ∈ Cond.classLink own ik cls :: Cond.initialized cls :: vx_at0 own ic cls names, vx_ot w = true)
    (hU : vx_Zq Bundle.tN "UNASSIGNED_STACK" Bundle.steD A s s.heap) (hN : vx_Zq Bundle.tN "SUPPRESSED_SENTINEL" Bundle.listD A s s.heap) (hS : va_S A s.heap H locs) (hsize : ls.size = c.maxLocals)
    (d0 : decode cc pc = .ok (.new ik, 3)) (d3 : decode cc (pc + 3) = .ok (.dup, 1)) (d4 : decode cc (pc + 4) = .ok (.invokespecial ic, 3)) (d7 : decode cc (pc + 7) = .ok (.athrow, 1))
    (hout : ∀ x ∈ c.exceptionTable.toList, covers x (pc + 7) = false)
    (hRframes : names.length + 3 < R.frames) (hRlocals : (rest.map fun v => v.category).sum + (13 * (names.length + 1) + 42) ≤ R.locals) (hRcells : cells + 1 ≤ R.cells) (hRslots : slots + 6 ≤ R.slots) (hlocks : meth.locks = false)
    (hx : ∀ t : State, s.vm.Alike t.vm → H.size ≤ t.heap.size → (∀ q : Nat, q < H.size → t.heap[q]? = H[q]?) → XC cls s t)
    (hf : ∀ z ∈ locs, free z.base) (hc : cells + 1 ≤ mc) (hs : slots + 6 ≤ ms) :
    W p l e R s m args below meth c H locs cells slots (vx_MQ below Qc XC args s mc ms free) (F0 m pc ls rest) := by
  intro T hT X
  have htr : e.platform.stackTraces = false := (show e.platform.stackTraces = l.stackTraces by rw [X.admits.platform]).trans hl
  have Y := vx_rebase X (R' := { frames := R.frames, locals := R.locals, cells := 1, slots := 6 }) (Nat.le_refl _) (Nat.le_refl _) hRcells hRslots
  obtain ⟨s', hA⟩ : ∃ z, z = (T.setVm s.vm).setFrames (.invoking m args :: below) := ⟨_, rfl⟩
  rw [← hA] at Y
  have hvm : s'.vm = s.vm := by rw [hA]; rfl
  have hhp : s'.heap = H := by rw [hA]; exact hT
  have hW0 : s.WarmedH s'.vm := by rw [hvm]; exact State.WarmedH.refl s
  have hat' : ∀ w ∈ vx_at0 own ic cls names, w.before args s' = true := fun w hw => vx_ot_at hW0 hvm.symm (hgood w (List.mem_cons_of_mem _ (List.mem_cons_of_mem _ hw))) (hat w hw)
  have hk' : (Cond.classLink own ik cls).before args s' = true := vx_ot_at hW0 hvm.symm (hgood _ List.mem_cons_self) hk
  have hini' : (Cond.initialized cls).before args s' = true := vx_ot_at hW0 hvm.symm (hgood _ (List.mem_cons_of_mem _ List.mem_cons_self)) hini
  have hU' : vx_Zq Bundle.tN "UNASSIGNED_STACK" Bundle.steD A s' s'.heap := by rw [hhp]; exact vx_Zq.moved hW0.alike (hU.kept hS.2.1)
  have hN' : vx_Zq Bundle.tN "SUPPRESSED_SENTINEL" Bundle.listD A s' s'.heap := by rw [hhp]; exact vx_Zq.moved hW0.alike (hN.kept hS.2.1)
  have h : ∀ w ∈ Bundle.ownAtoms0 own ic cls names, w.before args s' = true := vx_own hat' (vx_isRefq hU'.1) (vx_isRefq hN'.1) hU'.2.word hN'.2.word
  have hown' : s'.vm.findClass own = some m.cls := by rw [hvm]; exact hown
  have hins : (Cond.instantiable cls 6).before args s' = true := h _ (by simp [Bundle.ownAtoms0])
  obtain ⟨vm₁, cX, kX, hfX, hkX, -, -, X₁, st1⟩ := Y.newCold hexec (own := own) (C := cls) (index := ik) (n := 6) hown' hk' hins hini'
    (g := F0 m pc ls rest) rfl (by rw [hb]; exact d0) (Nat.le_refl _) (Nat.le_refl _)
  generalize hT1 : (T.setVm vm₁).pushCell { cls := cX, slots := kX.instanceTypes.map defaultValue, vm := .none } = T1 at X₁ st1
  have hcat : (Value.ref T.heap.size).category = 1 := rfl
  have hcellA : T1.heap[T.heap.size]? = some (freshCell cX kX) := by rw [← hT1]; exact State.heap_pushCell_size _ _
  have d3' : decode c.code (pc + 3) = .ok (.dup, 1) := by rw [hb]; exact d3
  obtain ⟨U, hsteps, hrun, hend, hW, hsame, ce, hce, hO⟩ := X₁.ctorThrow0 hexec htr (own := own) (cls := cls) (names := names) (ic := ic) hown' hcls hnames h (fun x hx => nomatch hx) hfX hkX hcellA (by rw [hhp, hT]; exact Nat.le_refl _)
    (g := { method := m, pc := pc + 4, locals := ls, stack := .ref T.heap.size :: .ref T.heap.size :: rest, locked := none }) rfl hsize rfl rfl (rest := rest) rfl
    (by rw [hb]; exact d4) (by rw [hb]; exact d7) hout hRframes (by simp only [List.map_cons, List.sum_cons, hcat]; omega) hlocks
  obtain ⟨f1, f2⟩ := vx_frame hsame
  rw [hhp] at f1 f2
  have hWs : s.WarmedH U.vm := State.WarmedH.trans hW0 hW
  have hcl : s.vm.findClass cls = some ce.cls := by
    have h9 := hO.cls
    rw [hvm] at h9
    exact h9
  have hall : s.sameButNew ({ U with vm := s.vm } : State) locs mc ms := by
    subst hA
    obtain ⟨e1, e2⟩ := hsame
    rw [State.setFrames_setFrames] at e1
    have h2 : (T.setVm s.vm).sameButNew ({ U with vm := s.vm } : State) [] (0 + 1) (0 + 6) := ⟨e1, e2⟩
    have h3 := X.same.trans h2
    rw [List.append_nil] at h3
    exact h3.mono hc hs
  refine ⟨U, ?_, .threw T.heap.size, hrun, hend, Or.inr ⟨T.heap.size, rfl, cls, ce, locs, hx U hWs.alike f1 (fun q hq => f2 q hq (fun z hz => nomatch hz)), hce, hO.vm, hcl, hWs, hall, hf⟩⟩
  refine st1 _ ?_
  show Steps p.tables e below (T1.setTop { method := m, pc := pc + 3, locals := ls, stack := .ref T.heap.size :: rest, locked := none }) _
  jvm_step X₁.here [X₁.here.top, hexec, d3', Value.category]
  exact hsteps
/-- 'throw new E("text")': new; dup; ldc; invokespecial; athrow -/
theorem vx_throwS {cc : ByteArray} {pc : Nat} (hexec : p.tables.exec = Jvm.exec) (hb : c.code = cc) (hl : l.stackTraces = false) {own cls text : String} {names : List String} {ik is ic mc ms sa : Nat} {A : Nat → Prop}
    (hown : s.vm.findClass own = some m.cls) (hcls : Bundle.fit cls = true) (hnames : ∀ n ∈ names, Bundle.fit n = true)
    (hk : (Cond.classLink own ik cls).before args s = true) (hini : (Cond.initialized cls).before args s = true) (hstr : vk_R own is text sa s) (hat : ∀ w ∈ vx_atS own ic cls names, w.before args s = true)
    (hgood : ∀ w ∈ Cond.classLink own ik cls :: Cond.initialized cls :: vx_atS own ic cls names, vx_ot w = true)
    (hU : vx_Zq Bundle.tN "UNASSIGNED_STACK" Bundle.steD A s s.heap) (hN : vx_Zq Bundle.tN "SUPPRESSED_SENTINEL" Bundle.listD A s s.heap) (hS : va_S A s.heap H locs) (hsize : ls.size = c.maxLocals)
    (d0 : decode cc pc = .ok (.new ik, 3)) (d3 : decode cc (pc + 3) = .ok (.dup, 1)) (d4 : decode cc (pc + 4) = .ok (.ldc is, 2)) (d6 : decode cc (pc + 6) = .ok (.invokespecial ic, 3)) (d9 : decode cc (pc + 9) = .ok (.athrow, 1))
    (hout : ∀ x ∈ c.exceptionTable.toList, covers x (pc + 9) = false)
    (hRframes : names.length + 3 < R.frames) (hRlocals : (rest.map fun v => v.category).sum + (13 * (names.length + 1) + 43) ≤ R.locals) (hRcells : cells + 1 ≤ R.cells) (hRslots : slots + 6 ≤ R.slots) (hlocks : meth.locks = false)
    (hx : ∀ t : State, s.vm.Alike t.vm → H.size ≤ t.heap.size → (∀ q : Nat, q < H.size → t.heap[q]? = H[q]?) → XC cls s t)
    (hf : ∀ z ∈ locs, free z.base) (hc : cells + 1 ≤ mc) (hs : slots + 6 ≤ ms) :
    W p l e R s m args below meth c H locs cells slots (vx_MQ below Qc XC args s mc ms free) (F0 m pc ls rest) := by
  intro T hT X
  have htr : e.platform.stackTraces = false := (show e.platform.stackTraces = l.stackTraces by rw [X.admits.platform]).trans hl
  have Y := vx_rebase X (R' := { frames := R.frames, locals := R.locals, cells := 1, slots := 6 }) (Nat.le_refl _) (Nat.le_refl _) hRcells hRslots
  obtain ⟨s', hA⟩ : ∃ z, z = (T.setVm s.vm).setFrames (.invoking m args :: below) := ⟨_, rfl⟩
  rw [← hA] at Y
  have hvm : s'.vm = s.vm := by rw [hA]; rfl
  have hhp : s'.heap = H := by rw [hA]; exact hT
  have hW0 : s.WarmedH s'.vm := by rw [hvm]; exact State.WarmedH.refl s
  have hat' : ∀ w ∈ vx_atS own ic cls names, w.before args s' = true := fun w hw => vx_ot_at hW0 hvm.symm (hgood w (List.mem_cons_of_mem _ (List.mem_cons_of_mem _ hw))) (hat w hw)
  have hk' : (Cond.classLink own ik cls).before args s' = true := vx_ot_at hW0 hvm.symm (hgood _ List.mem_cons_self) hk
  have hini' : (Cond.initialized cls).before args s' = true := vx_ot_at hW0 hvm.symm (hgood _ (List.mem_cons_of_mem _ List.mem_cons_self)) hini
  have hU' : vx_Zq Bundle.tN "UNASSIGNED_STACK" Bundle.steD A s' s'.heap := by rw [hhp]; exact vx_Zq.moved hW0.alike (hU.kept hS.2.1)
  have hN' : vx_Zq Bundle.tN "SUPPRESSED_SENTINEL" Bundle.listD A s' s'.heap := by rw [hhp]; exact vx_Zq.moved hW0.alike (hN.kept hS.2.1)
  have h : ∀ w ∈ Bundle.ownAtoms own ic cls names, w.before args s' = true := vx_own hat' (vx_isRefq hU'.1) (vx_isRefq hN'.1) hU'.2.word hN'.2.word
  have hown' : s'.vm.findClass own = some m.cls := by rw [hvm]; exact hown
  have hins : (Cond.instantiable cls 6).before args s' = true := h _ (by simp [Bundle.ownAtoms])
  obtain ⟨vm₁, cX, kX, hfX, hkX, -, -, X₁, st1⟩ := Y.newCold hexec (own := own) (C := cls) (index := ik) (n := 6) hown' hk' hins hini'
    (g := F0 m pc ls rest) rfl (by rw [hb]; exact d0) (Nat.le_refl _) (Nat.le_refl _)
  generalize hT1 : (T.setVm vm₁).pushCell { cls := cX, slots := kX.instanceTypes.map defaultValue, vm := .none } = T1 at X₁ st1
  have hcat : (Value.ref T.heap.size).category = 1 := rfl
  have hcellA : T1.heap[T.heap.size]? = some (freshCell cX kX) := by rw [← hT1]; exact State.heap_pushCell_size _ _
  have d3' : decode c.code (pc + 3) = .ok (.dup, 1) := by rw [hb]; exact d3
  have d4' : decode c.code (pc + 4) = .ok (.ldc is, 2) := by rw [hb]; exact d4
  have hstr' : vk_R own is text sa s' := vk_R.warm hW0 hstr
  obtain ⟨U, hsteps, hrun, hend, hW, hsame, ce, hce, hO⟩ := X₁.ctorThrowS hexec htr (own := own) (cls := cls) (names := names) (ic := ic) hown' hcls hnames h (fun x hx => nomatch hx) hfX hkX hcellA (by rw [hhp, hT]; exact Nat.le_refl _) (msg := .ref sa) rfl
    (g := { method := m, pc := pc + 6, locals := ls, stack := .ref sa :: .ref T.heap.size :: .ref T.heap.size :: rest, locked := none }) rfl hsize rfl rfl (rest := rest) rfl
    (by rw [hb]; exact d6) (by rw [hb]; exact d9) hout hRframes (by simp only [List.map_cons, List.sum_cons, hcat]; omega) hlocks
  obtain ⟨f1, f2⟩ := vx_frame hsame
  rw [hhp] at f1 f2
  have hWs : s.WarmedH U.vm := State.WarmedH.trans hW0 hW
  have hcl : s.vm.findClass cls = some ce.cls := by
    have h9 := hO.cls
    rw [hvm] at h9
    exact h9
  have hall : s.sameButNew ({ U with vm := s.vm } : State) locs mc ms := by
    subst hA
    obtain ⟨e1, e2⟩ := hsame
    rw [State.setFrames_setFrames] at e1
    have h2 : (T.setVm s.vm).sameButNew ({ U with vm := s.vm } : State) [] (0 + 1) (0 + 6) := ⟨e1, e2⟩
    have h3 := X.same.trans h2
    rw [List.append_nil] at h3
    exact h3.mono hc hs
  refine ⟨U, ?_, .threw T.heap.size, hrun, hend, Or.inr ⟨T.heap.size, rfl, cls, ce, locs, hx U hWs.alike f1 (fun q hq => f2 q hq (fun z hz => nomatch hz)), hce, hO.vm, hcl, hWs, hall, hf⟩⟩
  refine st1 _ ?_
  show Steps p.tables e below (T1.setTop { method := m, pc := pc + 3, locals := ls, stack := .ref T.heap.size :: rest, locked := none }) _
  jvm_step X₁.here [X₁.here.top, hexec, d3', Value.category]
  exact X₁.ldcString hexec (own := own) (text := text) (index := is) (a := sa) hown' hstr'.1 hstr'.2
    (g := { method := m, pc := pc + 4, locals := ls, stack := .ref T.heap.size :: .ref T.heap.size :: rest, locked := none }) rfl d4' _ hsteps
/-- 'throw new E("text")', the text by a wide index -/
theorem vx_throwSW {cc : ByteArray} {pc : Nat} (hexec : p.tables.exec = Jvm.exec) (hb : c.code = cc) (hl : l.stackTraces = false) {own cls text : String} {names : List String} {ik is ic mc ms sa : Nat} {A : Nat → Prop}
    (hown : s.vm.findClass own = some m.cls) (hcls : Bundle.fit cls = true) (hnames : ∀ n ∈ names, Bundle.fit n = true)
    (hk : (Cond.classLink own ik cls).before args s = true) (hini : (Cond.initialized cls).before args s = true) (hstr : vk_R own is text sa s) (hat : ∀ w ∈ vx_atS own ic cls names, w.before args s = true)
    (hgood : ∀ w ∈ Cond.classLink own ik cls :: Cond.initialized cls :: vx_atS own ic cls names, vx_ot w = true)
    (hU : vx_Zq Bundle.tN "UNASSIGNED_STACK" Bundle.steD A s s.heap) (hN : vx_Zq Bundle.tN "SUPPRESSED_SENTINEL" Bundle.listD A s s.heap) (hS : va_S A s.heap H locs) (hsize : ls.size = c.maxLocals)
    (d0 : decode cc pc = .ok (.new ik, 3)) (d3 : decode cc (pc + 3) = .ok (.dup, 1)) (d4 : decode cc (pc + 4) = .ok (.ldc_w is, 3)) (d7 : decode cc (pc + 7) = .ok (.invokespecial ic, 3)) (d10 : decode cc (pc + 10) = .ok (.athrow, 1))
    (hout : ∀ x ∈ c.exceptionTable.toList, covers x (pc + 10) = false)
    (hRframes : names.length + 3 < R.frames) (hRlocals : (rest.map fun v => v.category).sum + (13 * (names.length + 1) + 43) ≤ R.locals) (hRcells : cells + 1 ≤ R.cells) (hRslots : slots + 6 ≤ R.slots) (hlocks : meth.locks = false)
    (hx : ∀ t : State, s.vm.Alike t.vm → H.size ≤ t.heap.size → (∀ q : Nat, q < H.size → t.heap[q]? = H[q]?) → XC cls s t)
    (hf : ∀ z ∈ locs, free z.base) (hc : cells + 1 ≤ mc) (hs : slots + 6 ≤ ms) :
    W p l e R s m args below meth c H locs cells slots (vx_MQ below Qc XC args s mc ms free) (F0 m pc ls rest) := by
  intro T hT X
  have htr : e.platform.stackTraces = false := (show e.platform.stackTraces = l.stackTraces by rw [X.admits.platform]).trans hl
  have Y := vx_rebase X (R' := { frames := R.frames, locals := R.locals, cells := 1, slots := 6 }) (Nat.le_refl _) (Nat.le_refl _) hRcells hRslots
  obtain ⟨s', hA⟩ : ∃ z, z = (T.setVm s.vm).setFrames (.invoking m args :: below) := ⟨_, rfl⟩
  rw [← hA] at Y
  have hvm : s'.vm = s.vm := by rw [hA]; rfl
  have hhp : s'.heap = H := by rw [hA]; exact hT
  have hW0 : s.WarmedH s'.vm := by rw [hvm]; exact State.WarmedH.refl s
  have hat' : ∀ w ∈ vx_atS own ic cls names, w.before args s' = true := fun w hw => vx_ot_at hW0 hvm.symm (hgood w (List.mem_cons_of_mem _ (List.mem_cons_of_mem _ hw))) (hat w hw)
  have hk' : (Cond.classLink own ik cls).before args s' = true := vx_ot_at hW0 hvm.symm (hgood _ List.mem_cons_self) hk
  have hini' : (Cond.initialized cls).before args s' = true := vx_ot_at hW0 hvm.symm (hgood _ (List.mem_cons_of_mem _ List.mem_cons_self)) hini
  have hU' : vx_Zq Bundle.tN "UNASSIGNED_STACK" Bundle.steD A s' s'.heap := by rw [hhp]; exact vx_Zq.moved hW0.alike (hU.kept hS.2.1)
  have hN' : vx_Zq Bundle.tN "SUPPRESSED_SENTINEL" Bundle.listD A s' s'.heap := by rw [hhp]; exact vx_Zq.moved hW0.alike (hN.kept hS.2.1)
  have h : ∀ w ∈ Bundle.ownAtoms own ic cls names, w.before args s' = true := vx_own hat' (vx_isRefq hU'.1) (vx_isRefq hN'.1) hU'.2.word hN'.2.word
  have hown' : s'.vm.findClass own = some m.cls := by rw [hvm]; exact hown
  have hins : (Cond.instantiable cls 6).before args s' = true := h _ (by simp [Bundle.ownAtoms])
  obtain ⟨vm₁, cX, kX, hfX, hkX, -, -, X₁, st1⟩ := Y.newCold hexec (own := own) (C := cls) (index := ik) (n := 6) hown' hk' hins hini'
    (g := F0 m pc ls rest) rfl (by rw [hb]; exact d0) (Nat.le_refl _) (Nat.le_refl _)
  generalize hT1 : (T.setVm vm₁).pushCell { cls := cX, slots := kX.instanceTypes.map defaultValue, vm := .none } = T1 at X₁ st1
  have hcat : (Value.ref T.heap.size).category = 1 := rfl
  have hcellA : T1.heap[T.heap.size]? = some (freshCell cX kX) := by rw [← hT1]; exact State.heap_pushCell_size _ _
  have d3' : decode c.code (pc + 3) = .ok (.dup, 1) := by rw [hb]; exact d3
  have d4' : decode c.code (pc + 4) = .ok (.ldc_w is, 3) := by rw [hb]; exact d4
  have hstr' : vk_R own is text sa s' := vk_R.warm hW0 hstr
  obtain ⟨U, hsteps, hrun, hend, hW, hsame, ce, hce, hO⟩ := X₁.ctorThrowS hexec htr (own := own) (cls := cls) (names := names) (ic := ic) hown' hcls hnames h (fun x hx => nomatch hx) hfX hkX hcellA (by rw [hhp, hT]; exact Nat.le_refl _) (msg := .ref sa) rfl
    (g := { method := m, pc := pc + 7, locals := ls, stack := .ref sa :: .ref T.heap.size :: .ref T.heap.size :: rest, locked := none }) rfl hsize rfl rfl (rest := rest) rfl
    (by rw [hb]; exact d7) (by rw [hb]; exact d10) hout hRframes (by simp only [List.map_cons, List.sum_cons, hcat]; omega) hlocks
  obtain ⟨f1, f2⟩ := vx_frame hsame
  rw [hhp] at f1 f2
  have hWs : s.WarmedH U.vm := State.WarmedH.trans hW0 hW
  have hcl : s.vm.findClass cls = some ce.cls := by
    have h9 := hO.cls
    rw [hvm] at h9
    exact h9
  have hall : s.sameButNew ({ U with vm := s.vm } : State) locs mc ms := by
    subst hA
    obtain ⟨e1, e2⟩ := hsame
    rw [State.setFrames_setFrames] at e1
    have h2 : (T.setVm s.vm).sameButNew ({ U with vm := s.vm } : State) [] (0 + 1) (0 + 6) := ⟨e1, e2⟩
    have h3 := X.same.trans h2
    rw [List.append_nil] at h3
    exact h3.mono hc hs
  refine ⟨U, ?_, .threw T.heap.size, hrun, hend, Or.inr ⟨T.heap.size, rfl, cls, ce, locs, hx U hWs.alike f1 (fun q hq => f2 q hq (fun z hz => nomatch hz)), hce, hO.vm, hcl, hWs, hall, hf⟩⟩
  refine st1 _ ?_
  show Steps p.tables e below (T1.setTop { method := m, pc := pc + 3, locals := ls, stack := .ref T.heap.size :: rest, locked := none }) _
  jvm_step X₁.here [X₁.here.top, hexec, d3', Value.category]
  exact X₁.ldcStringW hexec (own := own) (text := text) (index := is) (a := sa) hown' hstr'.1 hstr'.2
    (g := { method := m, pc := pc + 4, locals := ls, stack := .ref T.heap.size :: .ref T.heap.size :: rest, locked := none }) rfl d4' _ hsteps
end Ends
section Bodies
variable {l : Launch}
theorem vx_ofW {y : MethodName} {ws ws' : List Cond} {rm : Room} {Pc : Array Value → State → Prop} {Qc : Array Value → State → Outcome → State → Prop} {XC : String → State → State → Prop} {mc ms : Nat} {free : Addr → Prop} {cc : ByteArray} {maxL : Nat} {ret : Option FieldType}
    (hy : plainName y.cls = true) (hw : ws = Cond.code y cc maxL ret :: ws')
    (body : ∀ p e s m args below meth c s₁, BodyLoose p l y (headSpec ws rm) cc maxL ret e s m args below meth c s₁ → c.maxLocals = maxL → (∀ x ∈ c.exceptionTable.toList, False) → Pc args s →
      W p l e (headSpec ws rm).room s m args below meth c s.heap [] 0 0 (vx_MQ below Qc XC args s mc ms free) (entryFrame m args maxL)) : vx_Met l y ws rm Pc Qc XC mc ms free := by
  refine MetFree.of_bodyS (code := cc) (maxLocals := maxL) (ret := ret) hy ?_ ?_
  · intro args s m h hn
    obtain ⟨meth, c, h1, h2, h3, h4, h5, h6, -, -⟩ := Cond.code_spec hn (atoms_spec (ws := ws) h _ (by rw [hw]; exact List.mem_cons_self))
    exact ⟨meth, c, h1, h2, h3, h4, h5, h6⟩
  · intro p e s m args below meth c s₁ B hml hP _
    have hh0 : s₁.heap = s.heap := by rw [B.state]; rfl
    have ht : ∀ x ∈ c.exceptionTable.toList, False := by
      obtain ⟨meth9, c9, h1, h2, -, -, -, -, h7, -⟩ := Cond.code_spec B.named (atoms_spec (ws := ws) B.pre _ (by rw [hw]; exact List.mem_cons_self))
      cases Option.some.inj (h1.symm.trans B.method)
      cases Option.some.inj (h2.symm.trans (Stand.of_body B).code)
      intro x hx
      rw [Array.isEmpty_iff.mp h7] at hx
      cases hx
    obtain ⟨t, a1, o, b1, b2, b3⟩ := body p e s m args below meth c s₁ B hml ht hP s₁ hh0 (Stand.of_body B)
    exact ⟨t, o, a1, b1, b2, b3⟩
/-- the table of a body with handlers -/
theorem vx_table {p : Program} {x y : MethodName} {S : Spec} {cc bytes : ByteArray} {maxL maxL' : Nat} {ret ret' : Option FieldType} {e : Env} {s s₁ : State} {m : MethodId} {args : Array Value} {below : List Frame} {meth : Method} {c : Code} {hh : List (Nat × Nat × Nat × Nat)}
    (B : BodyLoose p l y S cc maxL ret e s m args below meth c s₁) (h : (Cond.codeWith y bytes maxL' ret' hh).before args s = true) : c.exceptionTable.toList = tableOf hh := by
  obtain ⟨m9, meth9, c9, hn9, h1, h2, -, -, h6, -⟩ := Cond.codeWith_spec h
  cases Option.some.inj (hn9.symm.trans B.named)
  cases Option.some.inj (h1.symm.trans B.method)
  cases Option.some.inj (h2.symm.trans (Stand.of_body B).code)
  rw [← h6, table_eq]
end Bodies
end VXA
/-! ===== END ===== -/
/-! ===== BEGIN a static call of a method with an exception table ===== -/
section VXS
variable {p : Program} {l : Launch} {e : Env} {R : Room} {s : State} {m : MethodId} {args : Array Value} {below : List Frame} {meth : Method} {c : Code} {T : State} {H : Heap} {locs : List Loc} {cells slots : Nat}
abbrev vx_CSW (R : Room) (s : State) (args : Array Value) (own : String) (index : Nat) (y : MethodName) (bytes : ByteArray) (maxL : Nat) (ret : Option FieldType) (hh : List (Nat × Nat × Nat × Nat)) (ws : List Cond) (rm : Room) (mc ms n : Nat) : Prop :=
  (rm.cells = mc ∧ rm.slots = ms ∧ rm.frames + 1 ≤ R.frames ∧ 8 + (maxL + 11) + rm.locals ≤ R.locals ∧ (∀ w ∈ ws, ∀ (a' : Array Value) (U : State), s.WarmedH U.vm → w.before a' U = true) ∧ Cond.codeWith y bytes maxL ret hh ∈ ws) ∧
  (Cond.codeWith y bytes maxL ret hh).before args s = true ∧ (Cond.initialized y.cls).before args s = true ∧ (y.cls ≠ "java/lang/invoke/MethodHandle" ∧ y.cls ≠ "java/lang/invoke/VarHandle") ∧
  (∀ sig, parseMethodDescriptor y.desc = some sig → n = sig.parameters.length) ∧ (Cond.methodLink own index y).before args s = true ∧ (Cond.static y).before args s = true
theorem vx_cwSW {own : String} {index maxL mc ms : Nat} {y : MethodName} {bytes : ByteArray} {ret : Option FieldType} {hh : List (Nat × Nat × Nat × Nat)} {Ts ws ws' : List Cond} {rm : Room} (n : Nat) (ht : ∀ w ∈ Ts, w.before args s = true) (hT : GoodIn Ts (va_wsS own index y ws)) (hw : ws = Cond.codeWith y bytes maxL ret hh :: ws') (hrc : rm.cells = mc) (hrs : rm.slots = ms)
    (hd : y.cls ≠ "java/lang/invoke/MethodHandle" ∧ y.cls ≠ "java/lang/invoke/VarHandle" ∧ (parseMethodDescriptor y.desc).map (fun d => d.parameters.length) = some n) (hR : rm.frames + 1 ≤ R.frames ∧ 8 + (maxL + 11) + rm.locals ≤ R.locals) :
    vx_CSW R s args own index y bytes maxL ret hh ws rm mc ms n := by
  have ok : ∀ w ∈ va_wsS own index y ws, w.before args s = true := fun w h => ht w (hT w h).1
  have hG : GoodIn Ts ws := fun w h => hT w (by unfold va_wsS; exact List.mem_append_right _ h)
  have hc : Cond.codeWith y bytes maxL ret hh ∈ ws := by rw [hw]; exact List.mem_cons_self
  refine ⟨⟨hrc, hrs, hR.1, hR.2, pay_in ht hG, hc⟩, ht _ (hG _ hc).1, ok _ (by simp [va_wsS]), ⟨hd.1, hd.2.1⟩, fun sig h => ?_, ok _ (by simp [va_wsS]), ok _ (by simp [va_wsS])⟩
  have h2 := hd.2.2
  rw [h] at h2
  exact (Option.some.inj h2).symm
theorem vx_callSW (X : Stand p l e R s m args below meth c T locs cells slots) (hexec : p.tables.exec = Jvm.exec) {own : String} {index : Nat} {y : MethodName} {bytes : ByteArray} {maxL : Nat} {ret : Option FieldType} {hh : List (Nat × Nat × Nat × Nat)}
    (hown : s.vm.findClass own = some m.cls) (hlink : (Cond.methodLink own index y).before args s = true) (hstat : (Cond.static y).before args s = true) (hinit : (Cond.initialized y.cls).before args s = true)
    (hcode : (Cond.codeWith y bytes maxL ret hh).before args s = true) (hy : y.cls ≠ "java/lang/invoke/MethodHandle" ∧ y.cls ≠ "java/lang/invoke/VarHandle")
    {W9 : Nat} {Pre : Pt → Array Value → Prop} {Post : Pt → Array Value → Option Value → Pt → Prop} (hK : Back l R p e below s args y 3 W9 Pre Post)
    {g : JFrame} (hg : g.method = m) (hsize : g.locals.size = c.maxLocals) {argsL rest : List Value} (hlen : ∀ sig, parseMethodDescriptor y.desc = some sig → argsL.length = sig.parameters.length)
    (hstack : g.stack = argsL.reverse ++ rest) (hW : 2 * g.monitorRoom + (rest.map fun v => v.category).sum ≤ W9) (hdg : decode c.code g.pc = .ok (.invokestatic index, 3))
    (hpre : ∀ vm₁, s.WarmedH vm₁ → Pre ⟨T.setVm vm₁, locs, cells, slots⟩ argsL.toArray) :
    ∃ (v : Option Value) (vm₁ : Vm) (B : Pt), s.WarmedH vm₁ ∧ Stand p l e R s m args below meth c B.U B.locs B.cells B.slots ∧ Post ⟨T.setVm vm₁, locs, cells, slots⟩ argsL.toArray v B ∧
      ∀ target, Steps p.tables e below (B.U.setTop { g with pc := g.pc + 3, stack := v.toList ++ rest }) target → Steps p.tables e below (T.setTop g) target := by
  obtain ⟨mk, methM, cM, hnamed, hmethM, -, -, -, -, -, -, hsigM⟩ := Cond.codeWith_spec hcode
  have hstatic : methM.isStatic = true := Cond.static_spec hnamed hmethM hstat
  obtain ⟨kP, hkP, -⟩ := className_of_methodNamed hnamed
  have hinitP : kP.init = .initialized := Cond.initialized_spec (findClass_of_methodNamed hnamed) hkP hinit
  obtain ⟨vm₁, X₁, hstep₁⟩ := X.invokestatic hexec hown hlink hnamed hmethM hstatic hkP hinitP hy (g := g) hg (argsL := argsL) (rest := rest) (hlen _ hsigM) hstack hdg
  obtain ⟨v, B, X', hpost, hsteps⟩ := hK m meth c ⟨T.setVm vm₁, locs, cells, slots⟩ { g with stack := rest } (.invokestatic index) mk argsL.toArray X₁ hg hsize hdg hW (X₁.named hnamed) (hpre vm₁ X₁.warmed)
  exact ⟨v, vm₁, B, X₁.warmed, X', hpost, fun target h => hstep₁ _ fun acts => by rw [doInvoke_state]; exact hsteps.trans h⟩
theorem vx_runSW {y : MethodName} {bytes cc : ByteArray} {maxL nL mc ms n index : Nat} {ret : Option FieldType} {hh : List (Nat × Nat × Nat × Nat)} {ws : List Cond} {rm : Room} {Pc : Array Value → State → Prop} {Qc : Array Value → State → Outcome → State → Prop} {free : Addr → Prop} {Ts : List Cond} {own : String} {As rest : List Value} {g : JFrame}
    (S : CallFix p m c cc nL s args Ts own) (hM : Met l y ws rm Pc Qc mc ms free) (cw : vx_CSW R s args own index y bytes maxL ret hh ws rm mc ms n) (hp : PreS s H Pc As)
    (hg : g.method = m) (hn : As.length = n) (hsize : g.locals.size = nL) (hstack : g.stack = As.reverse ++ rest) (hW : 2 * g.monitorRoom + (rest.map fun v => v.category).sum ≤ 8) (hdg : decode cc g.pc = .ok (.invokestatic index, 3)) (hf : cells + mc ≤ R.cells ∧ slots + ms ≤ R.slots) :
    va_Run p l e R s m args below meth c H locs cells slots mc ms g rest (Qc As.toArray) (free) := by
  obtain ⟨⟨hrc, hrs, hfr, hlo, hws, hcw⟩, hcode, hini, hy, hlen, hl, hstt⟩ := cw
  have hK : Back l R p e below s args y 3 8 (PreOf R mc ms Pc) (PostOf Qc mc ms free) := va_backW (hh := hh) (bytes := bytes) (maxL := maxL) (ret := ret) hM hp.1 hrc hrs hfr hlo hws hcw (fun a' U hW => word_at hW (Or.inl (by first | rfl | simp [Cond.onTables, Cond.keeps, Cond.steady])) hini)
  obtain ⟨hx, hb, hml, ho, -⟩ := S
  intro T hT X
  obtain ⟨v, vm₁, ⟨U', l2, c2, s2⟩, hW₁, X', ⟨g', mk, t, L, e1, e2, hq, h1, hL, h2, h3⟩, st⟩ := vx_callSW X hx (hh := hh) (bytes := bytes) (maxL := maxL) (ret := ret) ho hl hstt hini hcode hy hK hg (hsize.trans hml.symm) (argsL := As) (rest := rest) (fun sig h => hn.trans (hlen sig h)) hstack hW (by rw [hb]; exact hdg)
    (fun vm₁ hW₁ => ⟨hf.1, hf.2, hp.2 (T.setVm vm₁) hT hW₁⟩)
  dsimp only [Pt.U, Pt.locs, Pt.cells, Pt.slots] at X' e1 e2 h1 h2 h3 st
  subst h1; subst h2; subst h3
  exact ⟨v, (T.setVm vm₁).calling g' mk As.toArray, t, U', L, hT, X', hL, e1, e2, hq, st⟩
/-- not caught here, past rows that name other classes: it goes on to the caller -/
theorem vx_outP {p : Program} {l : Launch} {e : Env} {R : Room} {s : State} {m : MethodId} {args : Array Value} {below : List Frame} {meth : Method} {c : Code} {H : Heap} {locs : List Loc} {cells slots : Nat} {free : Addr → Prop} {ls : Array Slot} {rest : List Value} {Qc : Array Value → State → Outcome → State → Prop} {XC : String → State → State → Prop}
    {pc : Nat} {own E : String} {ce : Cell} {q : Addr} {mc ms : Nat} (hown : s.vm.findClass own = some m.cls) (hlocks : meth.locks = false)
    (hpass : ∀ z ∈ c.exceptionTable.toList, covers z pc = false ∨ (z.catchType ≠ 0 ∧ ∃ nm : String, (Cond.classLink own z.catchType nm).before args s = true ∧ va_Nc E nm s)) (hcell : H[q]? = some ce) (hv : ce.vm = .none) (hcl : s.vm.findClass E = some ce.cls)
    (hx : ∀ t : State, t.heap = H → s.vm.Alike t.vm → XC E s t) (hf : ∀ z ∈ locs, free z.base) (hc : cells ≤ mc) (hs : slots ≤ ms) :
    vx_W p l e R s m args below meth c H locs cells slots (vx_MQ below Qc XC args s mc ms free) (F0 m pc ls rest) q := by
  intro T hT X
  have hpl : e.platform.magicAccessors = ({} : Platform).magicAccessors := by rw [X.admits.platform]
  obtain ⟨vm', hW', X', st⟩ := X.outThrough hlocks q (g := F0 m pc ls rest) rfl rfl rfl (cell := ce) (by rw [hT]; exact hcell) (by rw [hv]; rfl)
    (by obtain ⟨k9, h9, -⟩ := Vm.findClass_spec hcl; exact ⟨k9, h9⟩) (fun z hz => by
      rcases hpass z hz with h | ⟨hz0, nm, hl1, hn1⟩
      · exact Or.inl h
      · obtain ⟨c6, hc6, hcl6⟩ := Cond.classLink_spec hown hl1 e.platform hpl
        obtain ⟨a8, b8, h1, h2, h3⟩ := hn1
        cases Option.some.inj (h1.symm.trans hcl)
        cases Option.some.inj (h2.symm.trans hc6)
        exact Or.inr ⟨hz0, _, hcl6, h3⟩)
  obtain ⟨g₀, hfr⟩ := X'.frames_eq
  have hcell9 : ((T.setVm vm').setFrames (.throwing q :: below)).heap[q]? = some ce := by
    show T.heap[q]? = some ce
    rw [hT]; exact hcell
  have hend : Ended ((T.setVm vm').setFrames (.throwing q :: below)) below (.threw q) := State.frames_setFrames _ (State.cur_lt_of_frames hfr)
  refine ⟨(T.setVm vm').setFrames (.throwing q :: below), ?_, .threw q, X'.here.running, hend, Or.inr ⟨q, rfl, E, ce, locs, hx _ hT (X'.ends _).1.alike, hcell9, hv, hcl, (X'.ends _).1, (X'.ends _).2.mono hc hs, hf⟩⟩
  rw [X.pushThrowing_eq]
  exact st
/-- a thing of a world lies in the heap -/
theorem vx_lt {D : va_G} {cl : List vw_C} {ws : va_W} {H1 : Heap} (h : va_P D cl ws H1) {k : Nat} {q : Nat × va_E} (hk : ws[k]? = some q) : q.1 < H1.size := (h k q hk).lt
end VXS
/-! ===== END ===== -/
/-! ===== BEGIN methods with a table of their own: called by a name, returning or throwing ===== -/
section VXH
/-! vx_backW, vx_callVX, vx_callSX, vx_callVW, vx_runVW, vx_runVX, vx_runSX, vx_ofWH follow the same proofs as their sisters above (Free/Laws.lean, Shelf42/LK1.lean); vx_outP calls Shelf42/NT130.lean (outThrough). -/
section
variable {l : Launch} {R : Room} {p : Program} {e : Env} {below : List Frame} {s : State} {sargs : Array Value} {y : MethodName} {len W9 : Nat}
theorem vx_backW {ws : List Cond} {rm : Room} {Pc : Array Value → State → Prop} {Qc : Array Value → State → Outcome → State → Prop} {XC : String → State → State → Prop} {mc ms : Nat} {free : Addr → Prop} {bytes : ByteArray} {maxL : Nat} {ret : Option FieldType} {hh : List (Nat × Nat × Nat × Nat)}
    (hM : vx_Met l y ws rm Pc Qc XC mc ms free) (hblind : FrameBlind Pc) (hrc : rm.cells = mc) (hrs : rm.slots = ms)
    (hframes : rm.frames + 1 ≤ R.frames) (hlocals : W9 + (maxL + 11) + rm.locals ≤ R.locals)
    (hws : ∀ w ∈ ws, ∀ a' U, s.WarmedH U.vm → w.before a' U = true) (hcode : Cond.codeWith y bytes maxL ret hh ∈ ws) (hinit : ∀ a' U, s.WarmedH U.vm → (Cond.initialized y.cls).before a' U = true) :
    vx_Back l R p e below s sargs y len W9 (PreOf R mc ms Pc) (PostOf Qc mc ms free) (vx_Post XC mc ms free) := by
  intro m meth c A g ig mk a X hg hsize hdg hW hn hp
  have h1 : (headSpec ws rm).pre.before a A.U = true := atoms_intro fun w hw => hws w hw _ _ X.warmed
  have h2 : (Cond.codeWith y bytes maxL ret hh).before a A.U = true := hws _ hcode _ _ X.warmed
  have h3 : (Cond.initialized y.cls).before a A.U = true := hinit _ _ X.warmed
  have h4 : A.cells + (headSpec ws rm).room.cells ≤ R.cells := by rw [show (headSpec ws rm).room.cells = mc from hrc]; exact hp.1
  have h5 : A.slots + (headSpec ws rm).room.slots ≤ R.slots := by rw [show (headSpec ws rm).room.slots = ms from hrs]; exact hp.2.1
  have hPc : Pc a (A.U.calling g mk a) := hblind _ _ _ _ hp.2.2
  obtain ⟨U, Ls, c0, s0⟩ := A
  dsimp only [Pt.U, Pt.locs, Pt.cells, Pt.slots] at h1 h2 h3 h4 h5 X hn hPc ⊢
  obtain ⟨m9, methY, cY, hn9, hmY, hcY, -, hlY, -⟩ := Cond.codeWith_spec h2
  cases Option.some.inj (hn9.symm.trans hn)
  obtain ⟨kY, hkY, -⟩ := className_of_methodNamed hn
  have hinitY : kY.init = .initialized := Cond.initialized_spec (findClass_of_methodNamed hn) hkY h3
  have h : At U g.method c below := by rw [hg]; exact X.here
  have hlocals9 : W9 + (maxL + 11) + (headSpec ws rm).room.locals ≤ R.locals := hlocals
  have happ : (headSpec ws rm).appliesLoose y e.platform (U.calling g mk a) = true :=
    Spec.appliesLoose_calling (g := g) h hdg hn hkY hinitY
      (X.room_calling (g := g) (R' := (headSpec ws rm).room) hsize hmY hcY hframes (by rw [hlY]; omega) h4 h5) h1
  obtain ⟨mid, hmid⟩ := h.above
  have hfr : (U.setTop g).frames = (.java g :: mid) ++ below := by rw [State.frames_setTop' g h.top, hmid]; rfl
  obtain ⟨o, s₂, hsteps, -, hend, hq⟩ := Steps.callFree hM p X.admits X.cas X.clock (acts := []) hfr happ hPc trivial
  have hq' : vx_Q Qc XC mc ms free a (U.calling g mk a) o s₂ := hq
  rw [State.frames_setTop' g h.top] at hend
  obtain ⟨g₀, hg0⟩ := Option.isSome_iff_exists.mp h.top
  obtain ⟨r, hr⟩ := State.topJava?_eq_some.mp hg0
  have hr' : (({ U with heap := s₂.heap, slotsUsed := s₂.slotsUsed } : State).setVm s₂.vm).frames = .java g₀ :: r := hr
  rcases hq' with ⟨hqc, L, hfe, hL⟩ | ⟨q, rfl, E, ce, L, hx, hce, hcv, hcl, hW₂, hsm, hL⟩
  · obtain ⟨⟨v, rfl⟩, hW₂, e2, q2, q3, q4, q5, q6⟩ := id hfe
    have e3 : s₂ = ({ (U.calling g mk a).setFrames s₂.frames with heap := s₂.heap, slotsUsed := s₂.slotsUsed } : State).setVm s₂.vm := by
      have : s₂ = ({ s₂ with vm := (U.calling g mk a).vm } : State).setVm s₂.vm := rfl
      rw [e2] at this
      exact this
    obtain ⟨c₂, i₂, len₂, hc₂, hd₂, hf₂⟩ := hend
    have hW' : U.WarmedH s₂.vm := hW₂
    have hcc : c₂ = c := by
      have h1 : s₂.code? g.method = U.code? g.method := by
        rw [State.code?_eq, State.code?_eq, hW'.alike.method?]
      exact Option.some.inj (hc₂.symm.trans (h1.trans h.code))
    subst hcc
    have hlen : len₂ = len := by rw [hdg] at hd₂; cases hd₂; rfl
    subst hlen
    have hs₂ : s₂ = (({ U with heap := s₂.heap, slotsUsed := s₂.slotsUsed } : State).setVm s₂.vm).setTop { g with pc := g.pc + len₂, stack := v.toList ++ g.stack } := by
      refine e3.trans ?_
      rw [hf₂, State.calling_eq h.top, State.setFrames_setFrames, State.setTop_of_frames _ hr', hr]
      rfl
    have hsame : U.sameButNew ({ U with heap := s₂.heap, slotsUsed := s₂.slotsUsed } : State) L mc ms := by
      refine ⟨?_, q2, q3, q4, q5, q6⟩
      obtain ⟨t, ht, -⟩ := State.frames_cons hr
      show ({ U with heap := s₂.heap, slotsUsed := s₂.slotsUsed } : State) = { U.setFrames U.frames with heap := s₂.heap, slotsUsed := s₂.slotsUsed }
      rw [State.setFrames_self ht]
    subst hg
    refine Or.inl ⟨v, ⟨(({ U with heap := s₂.heap, slotsUsed := s₂.slotsUsed } : State).setVm s₂.vm), Ls ++ L, c0 + mc, s0 + ms⟩,
      ⟨X.admits, X.cas, X.clock, X.frames, X.room, X.hears, X.method, X.code, (X.here.setHeapUsed s₂.heap s₂.slotsUsed).setVm hW'.alike, X.tail, State.WarmedH.trans X.warmed hW', X.limits, X.bytes, X.same.trans (hsame.setVm s.vm)⟩,
      ⟨g, mk, s₂, L, rfl, rfl, hqc, rfl, hL, rfl, rfl⟩, ?_⟩
    show Steps p.tables e below _ ((({ U with heap := s₂.heap, slotsUsed := s₂.slotsUsed } : State).setVm s₂.vm).setTop { g with pc := g.pc + len₂, stack := v.toList ++ g.stack })
    rw [← hs₂]
    exact hsteps
  · obtain ⟨e2, q2, q3, q4, q5, q6⟩ := id hsm
    have e3 : s₂ = ({ (U.calling g mk a).setFrames s₂.frames with heap := s₂.heap, slotsUsed := s₂.slotsUsed } : State).setVm s₂.vm := by
      have : s₂ = ({ s₂ with vm := (U.calling g mk a).vm } : State).setVm s₂.vm := rfl
      rw [e2] at this
      exact this
    have hf₂ : s₂.frames = .throwing q :: .java g :: U.frames.tail := hend
    have hW' : U.WarmedH s₂.vm := hW₂
    have hs₂ : s₂ = ((({ U with heap := s₂.heap, slotsUsed := s₂.slotsUsed } : State).setVm s₂.vm).setTop g).pushFrame (.throwing q) := by
      refine e3.trans ?_
      rw [hf₂, State.calling_eq h.top, State.setFrames_setFrames, State.pushFrame, State.frames_setTop _ hr', State.setTop_of_frames _ hr', State.setFrames_setFrames, hr]
      rfl
    have hsame : U.sameButNew ({ U with heap := s₂.heap, slotsUsed := s₂.slotsUsed } : State) L mc ms := by
      refine ⟨?_, q2, q3, q4, q5, q6⟩
      obtain ⟨t, ht, -⟩ := State.frames_cons hr
      show ({ U with heap := s₂.heap, slotsUsed := s₂.slotsUsed } : State) = { U.setFrames U.frames with heap := s₂.heap, slotsUsed := s₂.slotsUsed }
      rw [State.setFrames_self ht]
    subst hg
    refine Or.inr ⟨q, ⟨(({ U with heap := s₂.heap, slotsUsed := s₂.slotsUsed } : State).setVm s₂.vm), Ls ++ L, c0 + mc, s0 + ms⟩,
      ⟨X.admits, X.cas, X.clock, X.frames, X.room, X.hears, X.method, X.code, (X.here.setHeapUsed s₂.heap s₂.slotsUsed).setVm hW'.alike, X.tail, State.WarmedH.trans X.warmed hW', X.limits, X.bytes, X.same.trans (hsame.setVm s.vm)⟩,
      ⟨g, mk, s₂, L, E, ce, rfl, rfl, hx, hce, hcv, hcl, rfl, hL, rfl, rfl⟩, ?_⟩
    show Steps p.tables e below _ (((({ U with heap := s₂.heap, slotsUsed := s₂.slotsUsed } : State).setVm s₂.vm).setTop g).pushFrame (.throwing q))
    rw [← hs₂]
    exact hsteps
end
variable {p : Program} {l : Launch} {e : Env} {R : Room} {s : State} {m : MethodId} {args : Array Value} {below : List Frame} {meth : Method} {c : Code} {T : State} {H : Heap} {locs : List Loc} {cells slots : Nat}
theorem vx_callVX (X : Stand p l e R s m args below meth c T locs cells slots) (hexec : p.tables.exec = Jvm.exec) {own C : String} {index : Nat} {y : MethodName} {bytes : ByteArray} {maxL : Nat} {ret : Option FieldType} {hh : List (Nat × Nat × Nat × Nat)}
    (hown : s.vm.findClass own = some m.cls) (hlink : (Cond.methodLink own index y).before args s = true) (hinst : (Cond.instanceMethod y).before args s = true) (hsel : (Cond.selects C y y).before args s = true)
    (hcode : (Cond.codeWith y bytes maxL ret hh).before args s = true) (hy : y.cls ≠ "java/lang/invoke/MethodHandle" ∧ y.cls ≠ "java/lang/invoke/VarHandle")
    {W9 : Nat} {Pre : Pt → Array Value → Prop} {Post : Pt → Array Value → Option Value → Pt → Prop} {PostX : Pt → Array Value → Addr → Pt → Prop} (hK : vx_Back l R p e below s args y 3 W9 Pre Post PostX)
    {b : Addr} {cellB : Cell} (hcell : T.heap[b]? = some cellB) (hobj : cellB.vm.isStatics = false) (hcls : s.vm.findClass C = some cellB.cls)
    {g : JFrame} (hg : g.method = m) (hsize : g.locals.size = c.maxLocals) {argsL rest : List Value} (hlen : ∀ sig, parseMethodDescriptor y.desc = some sig → argsL.length = sig.parameters.length)
    (hstack : g.stack = argsL.reverse ++ .ref b :: rest) (hW : 2 * g.monitorRoom + (rest.map fun v => v.category).sum ≤ W9) (hdg : decode c.code g.pc = .ok (.invokevirtual index, 3))
    (hpre : ∀ vm₁, s.WarmedH vm₁ → Pre ⟨T.setVm vm₁, locs, cells, slots⟩ (Value.ref b :: argsL).toArray) :
    (∃ (v : Option Value) (vm₁ : Vm) (B : Pt), s.WarmedH vm₁ ∧ Stand p l e R s m args below meth c B.U B.locs B.cells B.slots ∧ Post ⟨T.setVm vm₁, locs, cells, slots⟩ (Value.ref b :: argsL).toArray v B ∧
      ∀ target, Steps p.tables e below (B.U.setTop { g with pc := g.pc + 3, stack := v.toList ++ rest }) target → Steps p.tables e below (T.setTop g) target) ∨
    (∃ (q : Addr) (vm₁ : Vm) (B : Pt), s.WarmedH vm₁ ∧ Stand p l e R s m args below meth c B.U B.locs B.cells B.slots ∧ PostX ⟨T.setVm vm₁, locs, cells, slots⟩ (Value.ref b :: argsL).toArray q B ∧
      Steps p.tables e below (T.setTop g) ((B.U.setTop { g with stack := rest }).pushFrame (.throwing q))) := by
  obtain ⟨mk, methM, hnamed, hmethM, hstM, habM⟩ := Cond.instanceMethod_spec hinst
  obtain ⟨m8, methM', cM, hn8, hmethM', -, -, -, -, -, -, hsigM⟩ := Cond.codeWith_spec hcode
  cases Option.some.inj (hn8.symm.trans hnamed)
  cases hmethM.symm.trans hmethM'
  obtain ⟨c2, r2, m2, q1, q2, q3, q4, kP, hkP, hkPi⟩ := Cond.selects_spec hsel
  cases hcls.symm.trans q1
  cases (State.methodFound?_of_named hnamed hy).symm.trans q2
  cases hnamed.symm.trans q3
  have hselP : selectMethod e.platform s.vm cellB.cls mk = .method mk := by rw [Launch.admits_selectMethod X.admits]; exact q4
  obtain ⟨vm₁, X₁, hstep₁⟩ := X.invokevirtual hexec hown hlink hnamed hmethM hstM hkP hkPi hy (a := b) (cell := cellB) hcell
    (fun z h => by rw [h] at hobj; cases hobj) hselP hmethM habM hkP hkPi (g := g) hg (argsL := argsL) (rest := rest) (hlen _ hsigM) hstack hdg
  rcases hK m meth c ⟨T.setVm vm₁, locs, cells, slots⟩ { g with stack := rest } (.invokevirtual index) mk (Value.ref b :: argsL).toArray X₁ hg hsize hdg hW (X₁.named hnamed) (hpre vm₁ X₁.warmed) with ⟨v, B, X', hpost, hsteps⟩ | ⟨q, B, X', hpost, hsteps⟩
  · exact Or.inl ⟨v, vm₁, B, X₁.warmed, X', hpost, fun target h => hstep₁ _ fun acts => by rw [doInvoke_state]; exact hsteps.trans h⟩
  · exact Or.inr ⟨q, vm₁, B, X₁.warmed, X', hpost, hstep₁ _ fun acts => by rw [doInvoke_state]; exact hsteps⟩
theorem vx_callSX (X : Stand p l e R s m args below meth c T locs cells slots) (hexec : p.tables.exec = Jvm.exec) {own : String} {index : Nat} {y : MethodName} {bytes : ByteArray} {maxL : Nat} {ret : Option FieldType} {hh : List (Nat × Nat × Nat × Nat)}
    (hown : s.vm.findClass own = some m.cls) (hlink : (Cond.methodLink own index y).before args s = true) (hstat : (Cond.static y).before args s = true) (hinit : (Cond.initialized y.cls).before args s = true)
    (hcode : (Cond.codeWith y bytes maxL ret hh).before args s = true) (hy : y.cls ≠ "java/lang/invoke/MethodHandle" ∧ y.cls ≠ "java/lang/invoke/VarHandle")
    {W9 : Nat} {Pre : Pt → Array Value → Prop} {Post : Pt → Array Value → Option Value → Pt → Prop} {PostX : Pt → Array Value → Addr → Pt → Prop} (hK : vx_Back l R p e below s args y 3 W9 Pre Post PostX)
    {g : JFrame} (hg : g.method = m) (hsize : g.locals.size = c.maxLocals) {argsL rest : List Value} (hlen : ∀ sig, parseMethodDescriptor y.desc = some sig → argsL.length = sig.parameters.length)
    (hstack : g.stack = argsL.reverse ++ rest) (hW : 2 * g.monitorRoom + (rest.map fun v => v.category).sum ≤ W9) (hdg : decode c.code g.pc = .ok (.invokestatic index, 3))
    (hpre : ∀ vm₁, s.WarmedH vm₁ → Pre ⟨T.setVm vm₁, locs, cells, slots⟩ argsL.toArray) :
    (∃ (v : Option Value) (vm₁ : Vm) (B : Pt), s.WarmedH vm₁ ∧ Stand p l e R s m args below meth c B.U B.locs B.cells B.slots ∧ Post ⟨T.setVm vm₁, locs, cells, slots⟩ argsL.toArray v B ∧
      ∀ target, Steps p.tables e below (B.U.setTop { g with pc := g.pc + 3, stack := v.toList ++ rest }) target → Steps p.tables e below (T.setTop g) target) ∨
    (∃ (q : Addr) (vm₁ : Vm) (B : Pt), s.WarmedH vm₁ ∧ Stand p l e R s m args below meth c B.U B.locs B.cells B.slots ∧ PostX ⟨T.setVm vm₁, locs, cells, slots⟩ argsL.toArray q B ∧
      Steps p.tables e below (T.setTop g) ((B.U.setTop { g with stack := rest }).pushFrame (.throwing q))) := by
  obtain ⟨mk, methM, cM, hnamed, hmethM, -, -, -, -, -, -, hsigM⟩ := Cond.codeWith_spec hcode
  have hstatic : methM.isStatic = true := Cond.static_spec hnamed hmethM hstat
  obtain ⟨kP, hkP, -⟩ := className_of_methodNamed hnamed
  have hinitP : kP.init = .initialized := Cond.initialized_spec (findClass_of_methodNamed hnamed) hkP hinit
  obtain ⟨vm₁, X₁, hstep₁⟩ := X.invokestatic hexec hown hlink hnamed hmethM hstatic hkP hinitP hy (g := g) hg (argsL := argsL) (rest := rest) (hlen _ hsigM) hstack hdg
  rcases hK m meth c ⟨T.setVm vm₁, locs, cells, slots⟩ { g with stack := rest } (.invokestatic index) mk argsL.toArray X₁ hg hsize hdg hW (X₁.named hnamed) (hpre vm₁ X₁.warmed) with ⟨v, B, X', hpost, hsteps⟩ | ⟨q, B, X', hpost, hsteps⟩
  · exact Or.inl ⟨v, vm₁, B, X₁.warmed, X', hpost, fun target h => hstep₁ _ fun acts => by rw [doInvoke_state]; exact hsteps.trans h⟩
  · exact Or.inr ⟨q, vm₁, B, X₁.warmed, X', hpost, hstep₁ _ fun acts => by rw [doInvoke_state]; exact hsteps⟩
theorem vx_callVW (X : Stand p l e R s m args below meth c T locs cells slots) (hexec : p.tables.exec = Jvm.exec) {own C : String} {index : Nat} {y : MethodName} {bytes : ByteArray} {maxL : Nat} {ret : Option FieldType} {hh : List (Nat × Nat × Nat × Nat)}
    (hown : s.vm.findClass own = some m.cls) (hlink : (Cond.methodLink own index y).before args s = true) (hinst : (Cond.instanceMethod y).before args s = true) (hsel : (Cond.selects C y y).before args s = true)
    (hcode : (Cond.codeWith y bytes maxL ret hh).before args s = true) (hy : y.cls ≠ "java/lang/invoke/MethodHandle" ∧ y.cls ≠ "java/lang/invoke/VarHandle")
    {W9 : Nat} {Pre : Pt → Array Value → Prop} {Post : Pt → Array Value → Option Value → Pt → Prop} (hK : Back l R p e below s args y 3 W9 Pre Post)
    {b : Addr} {cellB : Cell} (hcell : T.heap[b]? = some cellB) (hobj : cellB.vm.isStatics = false) (hcls : s.vm.findClass C = some cellB.cls)
    {g : JFrame} (hg : g.method = m) (hsize : g.locals.size = c.maxLocals) {argsL rest : List Value} (hlen : ∀ sig, parseMethodDescriptor y.desc = some sig → argsL.length = sig.parameters.length)
    (hstack : g.stack = argsL.reverse ++ .ref b :: rest) (hW : 2 * g.monitorRoom + (rest.map fun v => v.category).sum ≤ W9) (hdg : decode c.code g.pc = .ok (.invokevirtual index, 3))
    (hpre : ∀ vm₁, s.WarmedH vm₁ → Pre ⟨T.setVm vm₁, locs, cells, slots⟩ (Value.ref b :: argsL).toArray) :
    ∃ (v : Option Value) (vm₁ : Vm) (B : Pt), s.WarmedH vm₁ ∧ Stand p l e R s m args below meth c B.U B.locs B.cells B.slots ∧ Post ⟨T.setVm vm₁, locs, cells, slots⟩ (Value.ref b :: argsL).toArray v B ∧
      ∀ target, Steps p.tables e below (B.U.setTop { g with pc := g.pc + 3, stack := v.toList ++ rest }) target → Steps p.tables e below (T.setTop g) target := by
  obtain ⟨mk, methM, hnamed, hmethM, hstM, habM⟩ := Cond.instanceMethod_spec hinst
  obtain ⟨m8, methM', cM, hn8, hmethM', -, -, -, -, -, -, hsigM⟩ := Cond.codeWith_spec hcode
  cases Option.some.inj (hn8.symm.trans hnamed)
  cases hmethM.symm.trans hmethM'
  obtain ⟨c2, r2, m2, q1, q2, q3, q4, kP, hkP, hkPi⟩ := Cond.selects_spec hsel
  cases hcls.symm.trans q1
  cases (State.methodFound?_of_named hnamed hy).symm.trans q2
  cases hnamed.symm.trans q3
  have hselP : selectMethod e.platform s.vm cellB.cls mk = .method mk := by rw [Launch.admits_selectMethod X.admits]; exact q4
  obtain ⟨vm₁, X₁, hstep₁⟩ := X.invokevirtual hexec hown hlink hnamed hmethM hstM hkP hkPi hy (a := b) (cell := cellB) hcell
    (fun z h => by rw [h] at hobj; cases hobj) hselP hmethM habM hkP hkPi (g := g) hg (argsL := argsL) (rest := rest) (hlen _ hsigM) hstack hdg
  obtain ⟨v, B, X', hpost, hsteps⟩ := hK m meth c ⟨T.setVm vm₁, locs, cells, slots⟩ { g with stack := rest } (.invokevirtual index) mk (Value.ref b :: argsL).toArray X₁ hg hsize hdg hW (X₁.named hnamed) (hpre vm₁ X₁.warmed)
  exact ⟨v, vm₁, B, X₁.warmed, X', hpost, fun target h => hstep₁ _ fun acts => by rw [doInvoke_state]; exact hsteps.trans h⟩
abbrev vx_CVW (R : Room) (s : State) (args : Array Value) (own C : String) (index : Nat) (y : MethodName) (bytes : ByteArray) (maxL : Nat) (ret : Option FieldType) (hh : List (Nat × Nat × Nat × Nat)) (ws : List Cond) (rm : Room) (mc ms n : Nat) : Prop :=
  (rm.cells = mc ∧ rm.slots = ms ∧ rm.frames + 1 ≤ R.frames ∧ 8 + (maxL + 11) + rm.locals ≤ R.locals ∧ (∀ w ∈ ws, ∀ (a' : Array Value) (U : State), s.WarmedH U.vm → w.before a' U = true) ∧ Cond.codeWith y bytes maxL ret hh ∈ ws) ∧
  (Cond.codeWith y bytes maxL ret hh).before args s = true ∧ (Cond.initialized y.cls).before args s = true ∧ (y.cls ≠ "java/lang/invoke/MethodHandle" ∧ y.cls ≠ "java/lang/invoke/VarHandle") ∧
  (∀ sig, parseMethodDescriptor y.desc = some sig → n = sig.parameters.length) ∧ (Cond.methodLink own index y).before args s = true ∧ (Cond.instanceMethod y).before args s = true ∧ (Cond.selects C y y).before args s = true
theorem vx_cwVW {own C : String} {index maxL mc ms : Nat} {y : MethodName} {bytes : ByteArray} {ret : Option FieldType} {hh : List (Nat × Nat × Nat × Nat)} {Ts ws ws' : List Cond} {rm : Room} (n : Nat) (ht : ∀ w ∈ Ts, w.before args s = true) (hT : GoodIn Ts (wsV own index C y ws)) (hw : ws = Cond.codeWith y bytes maxL ret hh :: ws') (hrc : rm.cells = mc) (hrs : rm.slots = ms)
    (hd : y.cls = C ∧ y.cls ≠ "java/lang/invoke/MethodHandle" ∧ y.cls ≠ "java/lang/invoke/VarHandle" ∧ (parseMethodDescriptor y.desc).map (fun d => d.parameters.length) = some n) (hR : rm.frames + 1 ≤ R.frames ∧ 8 + (maxL + 11) + rm.locals ≤ R.locals) :
    vx_CVW R s args own C index y bytes maxL ret hh ws rm mc ms n := by
  obtain ⟨hC, hd⟩ := hd
  subst hC
  have ok : ∀ w ∈ wsV own index y.cls y ws, w.before args s = true := fun w h => ht w (hT w h).1
  have hG : GoodIn Ts ws := fun w h => hT w (by unfold wsV; exact List.mem_append_right _ h)
  have hc : Cond.codeWith y bytes maxL ret hh ∈ ws := by rw [hw]; exact List.mem_cons_self
  refine ⟨⟨hrc, hrs, hR.1, hR.2, pay_in ht hG, hc⟩, ht _ (hG _ hc).1, ok _ (by simp [wsV]), ⟨hd.1, hd.2.1⟩, fun sig h => ?_, ok _ (by simp [wsV]), ok _ (by simp [wsV]), ok _ (by simp [wsV])⟩
  have h2 := hd.2.2
  rw [h] at h2
  exact (Option.some.inj h2).symm
theorem vx_runVW {y : MethodName} {bytes cc : ByteArray} {maxL nL mc ms n index : Nat} {ret : Option FieldType} {hh : List (Nat × Nat × Nat × Nat)} {ws : List Cond} {rm : Room} {Pc : Array Value → State → Prop} {Qc : Array Value → State → Outcome → State → Prop} {free : Addr → Prop} {Ts : List Cond} {own C : String} {b : Addr} {As rest : List Value} {g : JFrame}
    (S : CallFix p m c cc nL s args Ts own) (hM : Met l y ws rm Pc Qc mc ms free) (cw : vx_CVW R s args own C index y bytes maxL ret hh ws rm mc ms n) (hp : PreV s H C b Pc As)
    (hg : g.method = m) (hn : As.length = n) (hsize : g.locals.size = nL) (hstack : g.stack = As.reverse ++ .ref b :: rest) (hW : 2 * g.monitorRoom + (rest.map fun v => v.category).sum ≤ 8) (hdg : decode cc g.pc = .ok (.invokevirtual index, 3)) (hf : cells + mc ≤ R.cells ∧ slots + ms ≤ R.slots) :
    va_Run p l e R s m args below meth c H locs cells slots mc ms g rest (Qc (Value.ref b :: As).toArray) free := by
  obtain ⟨⟨hrc, hrs, hfr, hlo, hws, hcw⟩, hcode, hini, hy, hlen, hl, hin, hse⟩ := cw
  have hK : Back l R p e below s args y 3 8 (PreOf R mc ms Pc) (PostOf Qc mc ms free) := va_backW (hh := hh) (bytes := bytes) (maxL := maxL) (ret := ret) hM hp.1 hrc hrs hfr hlo hws hcw (fun a' U hW => word_at hW (Or.inl (by first | rfl | simp [Cond.onTables, Cond.keeps, Cond.steady])) hini)
  obtain ⟨hx, hb, hml, ho, -⟩ := S
  obtain ⟨-, ⟨cellB, hcB, hoB, hclB⟩, hPc⟩ := hp
  intro T hT X
  obtain ⟨v, vm₁, ⟨U', l2, c2, s2⟩, hW₁, X', ⟨g', mk, t, L, e1, e2, hq, h1, hL, h2, h3⟩, st⟩ := vx_callVW X hx (C := C) (hh := hh) (bytes := bytes) (maxL := maxL) (ret := ret) ho hl hin hse hcode hy hK (by rw [hT]; exact hcB) hoB hclB hg (hsize.trans hml.symm) (argsL := As) (rest := rest) (fun sig h => hn.trans (hlen sig h)) hstack hW (by rw [hb]; exact hdg)
    (fun vm₁ hW₁ => ⟨hf.1, hf.2, hPc (T.setVm vm₁) hT hW₁⟩)
  dsimp only [Pt.U, Pt.locs, Pt.cells, Pt.slots] at X' e1 e2 h1 h2 h3 st
  subst h1; subst h2; subst h3
  exact ⟨v, (T.setVm vm₁).calling g' mk (Value.ref b :: As).toArray, t, U', L, hT, X', hL, e1, e2, hq, st⟩
section
variable {y : MethodName} {bytes cc : ByteArray} {maxL nL mc ms n index : Nat} {ret : Option FieldType} {ws : List Cond} {rm : Room} {Pc : Array Value → State → Prop} {Qc : Array Value → State → Outcome → State → Prop} {XC : String → State → State → Prop} {free : Addr → Prop} {Ts : List Cond} {own C : String} {b : Addr} {As rest : List Value} {g : JFrame}
theorem vx_runVX {hh : List (Nat × Nat × Nat × Nat)} (S : CallFix p m c cc nL s args Ts own) (hM : vx_Met l y ws rm Pc Qc XC mc ms free) (cw : vx_CVW R s args own C index y bytes maxL ret hh ws rm mc ms n) (hp : PreV s H C b Pc As)
    (hg : g.method = m) (hn : As.length = n) (hsize : g.locals.size = nL) (hstack : g.stack = As.reverse ++ .ref b :: rest) (hW : 2 * g.monitorRoom + (rest.map fun v => v.category).sum ≤ 8) (hdg : decode cc g.pc = .ok (.invokevirtual index, 3)) (hf : cells + mc ≤ R.cells ∧ slots + ms ≤ R.slots) :
    vx_Run p l e R s m args below meth c H locs cells slots mc ms g rest (Qc (Value.ref b :: As).toArray) XC free := by
  obtain ⟨⟨hrc, hrs, hfr, hlo, hws, hcw⟩, hcode, hini, hy, hlen, hl, hin, hse⟩ := cw
  have hK : vx_Back l R p e below s args y 3 8 (PreOf R mc ms Pc) (PostOf Qc mc ms free) (vx_Post XC mc ms free) := vx_backW (hh := hh) (bytes := bytes) (maxL := maxL) (ret := ret) hM hp.1 hrc hrs hfr hlo hws hcw (fun a' U hW => word_at hW (Or.inl (by first | rfl | simp [Cond.onTables, Cond.keeps, Cond.steady])) hini)
  obtain ⟨hx, hb, hml, ho, -⟩ := S
  obtain ⟨-, ⟨cellB, hcB, hoB, hclB⟩, hPc⟩ := hp
  intro T hT X
  rcases vx_callVX X hx (C := C) (hh := hh) (bytes := bytes) (maxL := maxL) (ret := ret) ho hl hin hse hcode hy hK (by rw [hT]; exact hcB) hoB hclB hg (hsize.trans hml.symm) (argsL := As) (rest := rest) (fun sig h => hn.trans (hlen sig h)) hstack hW (by rw [hb]; exact hdg)
    (fun vm₁ hW₁ => ⟨hf.1, hf.2, hPc (T.setVm vm₁) hT hW₁⟩) with ⟨v, vm₁, ⟨U', l2, c2, s2⟩, hW₁, X', ⟨g', mk, t, L, e1, e2, hq, h1, hL, h2, h3⟩, st⟩ | ⟨q, vm₁, ⟨U', l2, c2, s2⟩, hW₁, X', ⟨g', mk, t, L, E, ce, e1, e2, hq, hce, hcv, hcl, h1, hL, h2, h3⟩, st⟩
  · dsimp only [Pt.U, Pt.locs, Pt.cells, Pt.slots] at X' e1 e2 h1 h2 h3 st
    subst h1; subst h2; subst h3
    exact Or.inl ⟨v, (T.setVm vm₁).calling g' mk (Value.ref b :: As).toArray, t, U', L, hT, X', hL, e1, e2, hq, st⟩
  · dsimp only [Pt.U, Pt.locs, Pt.cells, Pt.slots] at X' e1 e2 h1 h2 h3 st hcl
    subst h1; subst h2; subst h3
    exact Or.inr ⟨q, (T.setVm vm₁).calling g' mk (Value.ref b :: As).toArray, t, U', L, E, ce, hT, X', hL, e1, e2, hq, hce, hcv, vx_cls hW₁ hcl, st⟩
theorem vx_runSX {hh : List (Nat × Nat × Nat × Nat)} (S : CallFix p m c cc nL s args Ts own) (hM : vx_Met l y ws rm Pc Qc XC mc ms free) (cw : vx_CSW R s args own index y bytes maxL ret hh ws rm mc ms n) (hp : PreS s H Pc As)
    (hg : g.method = m) (hn : As.length = n) (hsize : g.locals.size = nL) (hstack : g.stack = As.reverse ++ rest) (hW : 2 * g.monitorRoom + (rest.map fun v => v.category).sum ≤ 8) (hdg : decode cc g.pc = .ok (.invokestatic index, 3)) (hf : cells + mc ≤ R.cells ∧ slots + ms ≤ R.slots) :
    vx_Run p l e R s m args below meth c H locs cells slots mc ms g rest (Qc As.toArray) XC free := by
  obtain ⟨⟨hrc, hrs, hfr, hlo, hws, hcw⟩, hcode, hini, hy, hlen, hl, hstt⟩ := cw
  have hK : vx_Back l R p e below s args y 3 8 (PreOf R mc ms Pc) (PostOf Qc mc ms free) (vx_Post XC mc ms free) := vx_backW (hh := hh) (bytes := bytes) (maxL := maxL) (ret := ret) hM hp.1 hrc hrs hfr hlo hws hcw (fun a' U hW => word_at hW (Or.inl (by first | rfl | simp [Cond.onTables, Cond.keeps, Cond.steady])) hini)
  obtain ⟨hx, hb, hml, ho, -⟩ := S
  intro T hT X
  rcases vx_callSX X hx (hh := hh) (bytes := bytes) (maxL := maxL) (ret := ret) ho hl hstt hini hcode hy hK hg (hsize.trans hml.symm) (argsL := As) (rest := rest) (fun sig h => hn.trans (hlen sig h)) hstack hW (by rw [hb]; exact hdg)
    (fun vm₁ hW₁ => ⟨hf.1, hf.2, hp.2 (T.setVm vm₁) hT hW₁⟩) with ⟨v, vm₁, ⟨U', l2, c2, s2⟩, hW₁, X', ⟨g', mk, t, L, e1, e2, hq, h1, hL, h2, h3⟩, st⟩ | ⟨q, vm₁, ⟨U', l2, c2, s2⟩, hW₁, X', ⟨g', mk, t, L, E, ce, e1, e2, hq, hce, hcv, hcl, h1, hL, h2, h3⟩, st⟩
  · dsimp only [Pt.U, Pt.locs, Pt.cells, Pt.slots] at X' e1 e2 h1 h2 h3 st
    subst h1; subst h2; subst h3
    exact Or.inl ⟨v, (T.setVm vm₁).calling g' mk As.toArray, t, U', L, hT, X', hL, e1, e2, hq, st⟩
  · dsimp only [Pt.U, Pt.locs, Pt.cells, Pt.slots] at X' e1 e2 h1 h2 h3 st hcl
    subst h1; subst h2; subst h3
    exact Or.inr ⟨q, (T.setVm vm₁).calling g' mk As.toArray, t, U', L, E, ce, hT, X', hL, e1, e2, hq, hce, hcv, vx_cls hW₁ hcl, st⟩
end
end VXH
theorem vx_ofWH {l : Launch} {y : MethodName} {ws ws' : List Cond} {rm : Room} {Pc : Array Value → State → Prop} {Qc : Array Value → State → Outcome → State → Prop} {XC : String → State → State → Prop} {mc ms : Nat} {free : Addr → Prop} {cc : ByteArray} {maxL : Nat} {ret : Option FieldType} {hh : List (Nat × Nat × Nat × Nat)}
    (hy : plainName y.cls = true) (hw : ws = Cond.codeWith y cc maxL ret hh :: ws')
    (body : ∀ p e s m args below meth c s₁, BodyLoose p l y (headSpec ws rm) cc maxL ret e s m args below meth c s₁ → c.maxLocals = maxL → Pc args s →
      W p l e (headSpec ws rm).room s m args below meth c s.heap [] 0 0 (vx_MQ below Qc XC args s mc ms free) (entryFrame m args maxL)) : vx_Met l y ws rm Pc Qc XC mc ms free := by
  refine MetFree.of_bodyS (code := cc) (maxLocals := maxL) (ret := ret) hy ?_ ?_
  · intro args s m h hn
    obtain ⟨m9, meth, c, hn9, h1, h2, h3, h4, -, h5, h6, -⟩ := Cond.codeWith_spec (atoms_spec (ws := ws) h _ (by rw [hw]; exact List.mem_cons_self))
    cases hn.symm.trans hn9
    exact ⟨meth, c, h1, h2, h3, h4, h5, h6⟩
  · intro p e s m args below meth c s₁ B hml hP _
    have hh0 : s₁.heap = s.heap := by rw [B.state]; rfl
    obtain ⟨t, a1, o, b1, b2, b3⟩ := body p e s m args below meth c s₁ B hml hP s₁ hh0 (Stand.of_body B)
    exact ⟨t, o, a1, b1, b2, b3⟩
/-! ===== END ===== -/
end
section
/-! ===== BEGIN printed: names, fields, word lists, decode rows ===== -/
def RX0 : String := "MemoryRows$Equations"
def TX0 : u_T := fun k => match k with
  | 0 => ("MemoryRows$Equations", "cells", "[[J", true)
  | 1 => ("MemoryRows$Equations", "right", "[J", true)
  | 2 => ("MemoryRows$Equations", "tops", "[J", true)
  | 3 => ("MemoryRows$Equations", "minors", "[J", true)
  | _ => ("MemoryRows$Equations", "bottom", "J", false)
def tyX0 : Nat → FieldType := fun k => match k with
  | 0 => .array (.array .long)
  | 1 => .array .long
  | 2 => .array .long
  | 3 => .array .long
  | _ => .long
abbrev wsX00 : List Cond := u_ws RX0 TX0 5
theorem nmX0 : ∀ a, a < 5 → ∀ b, b < 5 → a ≠ b → (TX0 a).2.1 ≠ (TX0 b).2.1 := by decide +kernel
theorem tyX0_ok : ∀ k, k < 5 → parseFieldDescriptor (TX0 k).2.2.1 = some (tyX0 k) := by decide +kernel
abbrev cX0_init : ByteArray := prog_2_method_1_code
def yX0_init : MethodName := ⟨RX0, "<init>", "()V"⟩
abbrev cX0_wipeCells : ByteArray := prog_2_method_2_code
def yX0_wipeCells : MethodName := ⟨RX0, "wipeCells", "()V"⟩
abbrev cX0_solve : ByteArray := prog_2_method_3_code
def yX0_solve : MethodName := ⟨RX0, "solve", "(I)Z"⟩
abbrev cX0_determinant : ByteArray := prog_2_method_4_code
def yX0_determinant : MethodName := ⟨RX0, "determinant", "(II)J"⟩
def RX1 : String := "MemoryRows$Fraction"
def TX1 : u_T := fun k => match k with
  | 0 => ("MemoryRows$Fraction", "top", "J", false)
  | _ => ("MemoryRows$Fraction", "bottom", "J", false)
def tyX1 : Nat → FieldType := fun k => match k with
  | 0 => .long
  | _ => .long
abbrev wsX10 : List Cond := u_ws RX1 TX1 2
theorem nmX1 : ∀ a, a < 2 → ∀ b, b < 2 → a ≠ b → (TX1 a).2.1 ≠ (TX1 b).2.1 := by decide +kernel
theorem tyX1_ok : ∀ k, k < 2 → parseFieldDescriptor (TX1 k).2.2.1 = some (tyX1 k) := by decide +kernel
abbrev cX1_init : ByteArray := prog_3_method_1_code
def yX1_init : MethodName := ⟨RX1, "<init>", "()V"⟩
abbrev cX1_set : ByteArray := prog_3_method_2_code
def yX1_set : MethodName := ⟨RX1, "set", "(JJ)V"⟩
abbrev cX1_part : ByteArray := prog_3_method_3_code
def yX1_part : MethodName := ⟨RX1, "part", "(I)J"⟩
abbrev cX1_isLike : ByteArray := prog_3_method_4_code
def yX1_isLike : MethodName := ⟨RX1, "isLike", "(LMemoryRows$Fraction;)Z"⟩
abbrev cX1_commonDivisor : ByteArray := prog_3_method_5_code
def yX1_commonDivisor : MethodName := ⟨RX1, "commonDivisor", "(JJ)J"⟩
def RX2 : String := "MemoryRows$LikeSums"
def TX2 : u_T := fun k => match k with
  | 0 => ("MemoryRows$LikeSums", "tops", "[J", true)
  | _ => ("MemoryRows$LikeSums", "bottom", "J", false)
def tyX2 : Nat → FieldType := fun k => match k with
  | 0 => .array .long
  | _ => .long
abbrev wsX20 : List Cond := u_ws RX2 TX2 2
theorem nmX2 : ∀ a, a < 2 → ∀ b, b < 2 → a ≠ b → (TX2 a).2.1 ≠ (TX2 b).2.1 := by decide +kernel
theorem tyX2_ok : ∀ k, k < 2 → parseFieldDescriptor (TX2 k).2.2.1 = some (tyX2 k) := by decide +kernel
abbrev cX2_init : ByteArray := prog_4_method_1_code
def yX2_init : MethodName := ⟨RX2, "<init>", "()V"⟩
abbrev cX2_find : ByteArray := prog_4_method_2_code
def yX2_find : MethodName := ⟨RX2, "find", "(LMemoryRows$Rule;LMemoryRows$Equations;[J)V"⟩
abbrev cX2_missPart : ByteArray := prog_4_method_3_code
def yX2_missPart : MethodName := ⟨RX2, "missPart", "(LMemoryRows$Rule;I[J)J"⟩
def RX3 : String := "MemoryRows$Likenesses"
def TX3 : u_T := fun k => match k with
  | 0 => ("MemoryRows$Likenesses", "values", "[I", true)
  | _ => ("MemoryRows$Likenesses", "told", "I", false)
def tyX3 : Nat → FieldType := fun k => match k with
  | 0 => .array .int
  | _ => .int
abbrev wsX30 : List Cond := u_ws RX3 TX3 2
theorem nmX3 : ∀ a, a < 2 → ∀ b, b < 2 → a ≠ b → (TX3 a).2.1 ≠ (TX3 b).2.1 := by decide +kernel
theorem tyX3_ok : ∀ k, k < 2 → parseFieldDescriptor (TX3 k).2.2.1 = some (tyX3 k) := by decide +kernel
abbrev cX3_init : ByteArray := prog_5_method_1_code
def yX3_init : MethodName := ⟨RX3, "<init>", "()V"⟩
abbrev cX3_take : ByteArray := prog_5_method_2_code
def yX3_take : MethodName := ⟨RX3, "take", "([II)V"⟩
abbrev cX3_solveStep : ByteArray := prog_5_method_3_code
def yX3_solveStep : MethodName := ⟨RX3, "solveStep", "(ILMemoryRows$Equations;)V"⟩
abbrev cX3_restTop : ByteArray := prog_5_method_4_code
def yX3_restTop : MethodName := ⟨RX3, "restTop", "(ILMemoryRows$Equations;)J"⟩
abbrev cX3_stepsThere : ByteArray := prog_5_method_5_code
def yX3_stepsThere : MethodName := ⟨RX3, "stepsThere", "(LMemoryRows$Equations;)I"⟩
abbrev cX3_holds : ByteArray := prog_5_method_6_code
def yX3_holds : MethodName := ⟨RX3, "holds", "(LMemoryRows$Equations;)Z"⟩
abbrev cX3_isNowhereBelowZero : ByteArray := prog_5_method_7_code
def yX3_isNowhereBelowZero : MethodName := ⟨RX3, "isNowhereBelowZero", "()Z"⟩
def RX4 : String := "MemoryRows$Row"
def TX4 : u_T := fun k => match k with
  | 0 => ("MemoryRows$Row", "numbers", "[I", true)
  | 1 => ("MemoryRows$Row", "gapPlaces", "[I", true)
  | _ => ("MemoryRows$Row", "length", "I", false)
def tyX4 : Nat → FieldType := fun k => match k with
  | 0 => .array .int
  | 1 => .array .int
  | _ => .int
abbrev wsX40 : List Cond := u_ws RX4 TX4 3
theorem nmX4 : ∀ a, a < 3 → ∀ b, b < 3 → a ≠ b → (TX4 a).2.1 ≠ (TX4 b).2.1 := by decide +kernel
theorem tyX4_ok : ∀ k, k < 3 → parseFieldDescriptor (TX4 k).2.2.1 = some (tyX4 k) := by decide +kernel
abbrev cX4_init : ByteArray := prog_6_method_1_code
def yX4_init : MethodName := ⟨RX4, "<init>", "()V"⟩
abbrev cX4_take : ByteArray := prog_6_method_2_code
def yX4_take : MethodName := ⟨RX4, "take", "([BI)V"⟩
abbrev cX4_write : ByteArray := prog_6_method_3_code
def yX4_write : MethodName := ⟨RX4, "write", "(II)V"⟩
abbrev cX4_gapCount : ByteArray := prog_6_method_4_code
def yX4_gapCount : MethodName := ⟨RX4, "gapCount", "()I"⟩
abbrev cX4_productsAt : ByteArray := prog_6_method_5_code
def yX4_productsAt : MethodName := ⟨RX4, "productsAt", "(I)I"⟩
abbrev cX4_isGapless : ByteArray := prog_6_method_6_code
def yX4_isGapless : MethodName := ⟨RX4, "isGapless", "(II)Z"⟩
abbrev cX4_endsWhole : ByteArray := prog_6_method_7_code
def yX4_endsWhole : MethodName := ⟨RX4, "endsWhole", "(I)Z"⟩
abbrev cX4_guessOn : ByteArray := prog_6_method_8_code
def yX4_guessOn : MethodName := ⟨RX4, "guessOn", "(LMemoryRows$Rule;[J)V"⟩
abbrev cX4_wholeCount : ByteArray := prog_6_method_9_code
def yX4_wholeCount : MethodName := ⟨RX4, "wholeCount", "(LMemoryRows$Rule;)I"⟩
abbrev cX4_missAt : ByteArray := prog_6_method_10_code
def yX4_missAt : MethodName := ⟨RX4, "missAt", "(LMemoryRows$Rule;I)J"⟩
abbrev cX4_squaresTop : ByteArray := prog_6_method_11_code
def yX4_squaresTop : MethodName := ⟨RX4, "squaresTop", "(LMemoryRows$Rule;)J"⟩
abbrev cX4_askForGaps : ByteArray := prog_6_method_12_code
def yX4_askForGaps : MethodName := ⟨RX4, "askForGaps", "(LMemoryRows$Rule;ILMemoryRows$Equations;)V"⟩
abbrev cX4_findGaps : ByteArray := prog_6_method_13_code
def yX4_findGaps : MethodName := ⟨RX4, "findGaps", "(I)V"⟩
abbrev cX4_pulledMisses : ByteArray := prog_6_method_14_code
def yX4_pulledMisses : MethodName := ⟨RX4, "pulledMisses", "(LMemoryRows$Rule;I)J"⟩
abbrev cX4_squaredPulls : ByteArray := prog_6_method_15_code
def yX4_squaredPulls : MethodName := ⟨RX4, "squaredPulls", "(LMemoryRows$Rule;I)J"⟩
abbrev cX4_jointPulls : ByteArray := prog_6_method_16_code
def yX4_jointPulls : MethodName := ⟨RX4, "jointPulls", "(LMemoryRows$Rule;II)J"⟩
abbrev cX4_worstPlace : ByteArray := prog_6_method_17_code
def yX4_worstPlace : MethodName := ⟨RX4, "worstPlace", "(LMemoryRows$Rule;)I"⟩
def RX5 : String := "MemoryRows$Rule"
def TX5 : u_T := fun k => match k with
  | 0 => ("MemoryRows$Rule", "told", "Z", false)
  | 1 => ("MemoryRows$Rule", "q", "I", false)
  | 2 => ("MemoryRows$Rule", "p", "I", false)
  | 3 => ("MemoryRows$Rule", "m", "I", false)
  | 4 => ("MemoryRows$Rule", "spread", "I", false)
  | 5 => ("MemoryRows$Rule", "back", "[I", true)
  | 6 => ("MemoryRows$Rule", "miss", "[I", true)
  | _ => ("MemoryRows$Rule", "poly", "[J", true)
def tyX5 : Nat → FieldType := fun k => match k with
  | 0 => .boolean
  | 1 => .int
  | 2 => .int
  | 3 => .int
  | 4 => .int
  | 5 => .array .int
  | 6 => .array .int
  | _ => .array .long
abbrev wsX50 : List Cond := u_ws RX5 TX5 8
theorem nmX5 : ∀ a, a < 8 → ∀ b, b < 8 → a ≠ b → (TX5 a).2.1 ≠ (TX5 b).2.1 := by decide +kernel
theorem tyX5_ok : ∀ k, k < 8 → parseFieldDescriptor (TX5 k).2.2.1 = some (tyX5 k) := by decide +kernel
abbrev cX5_init : ByteArray := prog_7_method_1_code
def yX5_init : MethodName := ⟨RX5, "<init>", "()V"⟩
abbrev cX5_take : ByteArray := prog_7_method_2_code
def yX5_take : MethodName := ⟨RX5, "take", "([BIIII)V"⟩
abbrev cX5_diesAway : ByteArray := prog_7_method_3_code
def yX5_diesAway : MethodName := ⟨RX5, "diesAway", "()Z"⟩
abbrev cX5_showsMisses : ByteArray := prog_7_method_4_code
def yX5_showsMisses : MethodName := ⟨RX5, "showsMisses", "()Z"⟩
abbrev cX5_polyHasNoInnerRoot : ByteArray := prog_7_method_5_code
def yX5_polyHasNoInnerRoot : MethodName := ⟨RX5, "polyHasNoInnerRoot", "()Z"⟩
abbrev cX5_weigh : ByteArray := prog_7_method_6_code
def yX5_weigh : MethodName := ⟨RX5, "weigh", "(Z[J)V"⟩
abbrev cX5_pull : ByteArray := prog_7_method_7_code
def yX5_pull : MethodName := ⟨RX5, "pull", "(I)I"⟩
def RX6 : String := "MemoryRows$Tape"
def TX6 : u_T := fun k => match k with
  | 0 => ("MemoryRows$Tape", "bytes", "[B", true)
  | _ => ("MemoryRows$Tape", "length", "I", false)
def tyX6 : Nat → FieldType := fun k => match k with
  | 0 => .array .byte
  | _ => .int
abbrev wsX60 : List Cond := u_ws RX6 TX6 2
theorem nmX6 : ∀ a, a < 2 → ∀ b, b < 2 → a ≠ b → (TX6 a).2.1 ≠ (TX6 b).2.1 := by decide +kernel
theorem tyX6_ok : ∀ k, k < 2 → parseFieldDescriptor (TX6 k).2.2.1 = some (tyX6 k) := by decide +kernel
abbrev cX6_init : ByteArray := prog_8_method_1_code
def yX6_init : MethodName := ⟨RX6, "<init>", "()V"⟩
abbrev cX6_append : ByteArray := prog_8_method_2_code
def yX6_append : MethodName := ⟨RX6, "append", "(I)V"⟩
abbrev cX6_pair : ByteArray := prog_8_method_3_code
def yX6_pair : MethodName := ⟨RX6, "pair", "(I)I"⟩
abbrev cX6_isEachWithin : ByteArray := prog_8_method_4_code
def yX6_isEachWithin : MethodName := ⟨RX6, "isEachWithin", "(II)Z"⟩
abbrev cX6_isEachPlace : ByteArray := prog_8_method_5_code
def yX6_isEachPlace : MethodName := ⟨RX6, "isEachPlace", "(I)Z"⟩
def RX7 : String := "MemoryRows"
def TX7 : u_T := fun k => match k with
  | 0 => ("MemoryRows", "tape", "LMemoryRows$Tape;", true)
  | 1 => ("MemoryRows", "rules", "[LMemoryRows$Rule;", true)
  | 2 => ("MemoryRows", "likenesses", "[LMemoryRows$Likenesses;", true)
  | 3 => ("MemoryRows", "places", "LMemoryRows$Row;", true)
  | 4 => ("MemoryRows", "equations", "LMemoryRows$Equations;", true)
  | 5 => ("MemoryRows", "likeSums", "LMemoryRows$LikeSums;", true)
  | 6 => ("MemoryRows", "otherSums", "LMemoryRows$LikeSums;", true)
  | 7 => ("MemoryRows", "series", "[J", true)
  | 8 => ("MemoryRows", "guesses", "[J", true)
  | 9 => ("MemoryRows", "drawn", "[I", true)
  | 10 => ("MemoryRows", "answer", "LMemoryRows$Fraction;", true)
  | 11 => ("MemoryRows", "other", "LMemoryRows$Fraction;", true)
  | 12 => ("MemoryRows", "fillings", "[LMemoryRows$Fraction;", true)
  | 13 => ("MemoryRows", "fillingsTold", "I", false)
  | 14 => ("MemoryRows", "drop", "LMemoryRows$Fraction;", true)
  | _ => ("MemoryRows", "dropTold", "Z", false)
def tyX7 : Nat → FieldType := fun k => match k with
  | 0 => .object "MemoryRows$Tape"
  | 1 => .array (.object "MemoryRows$Rule")
  | 2 => .array (.object "MemoryRows$Likenesses")
  | 3 => .object "MemoryRows$Row"
  | 4 => .object "MemoryRows$Equations"
  | 5 => .object "MemoryRows$LikeSums"
  | 6 => .object "MemoryRows$LikeSums"
  | 7 => .array .long
  | 8 => .array .long
  | 9 => .array .int
  | 10 => .object "MemoryRows$Fraction"
  | 11 => .object "MemoryRows$Fraction"
  | 12 => .array (.object "MemoryRows$Fraction")
  | 13 => .int
  | 14 => .object "MemoryRows$Fraction"
  | _ => .boolean
abbrev wsX70 : List Cond := u_ws RX7 TX7 16
theorem nmX7 : ∀ a, a < 16 → ∀ b, b < 16 → a ≠ b → (TX7 a).2.1 ≠ (TX7 b).2.1 := by decide +kernel
theorem tyX7_ok : ∀ k, k < 16 → parseFieldDescriptor (TX7 k).2.2.1 = some (tyX7 k) := by decide +kernel
abbrev cX7_init : ByteArray := prog_1_method_1_code
def yX7_init : MethodName := ⟨RX7, "<init>", "()V"⟩
abbrev cX7_feed : ByteArray := prog_1_method_2_code
def yX7_feed : MethodName := ⟨RX7, "feed", "(IIIII)I"⟩
abbrev cX7_end : ByteArray := prog_1_method_3_code
def yX7_end : MethodName := ⟨RX7, "end", "(I)Z"⟩
abbrev cX7_rule : ByteArray := prog_1_method_4_code
def yX7_rule : MethodName := ⟨RX7, "rule", "(IIIII)Z"⟩
abbrev cX7_steady : ByteArray := prog_1_method_5_code
def yX7_steady : MethodName := ⟨RX7, "steady", "(I)I"⟩
abbrev cX7_clear : ByteArray := prog_1_method_6_code
def yX7_clear : MethodName := ⟨RX7, "clear", "(I)I"⟩
abbrev cX7_weight : ByteArray := prog_1_method_7_code
def yX7_weight : MethodName := ⟨RX7, "weight", "(IIZI)J"⟩
abbrev cX7_like : ByteArray := prog_1_method_8_code
def yX7_like : MethodName := ⟨RX7, "like", "(III)J"⟩
abbrev cX7_same : ByteArray := prog_1_method_9_code
def yX7_same : MethodName := ⟨RX7, "same", "(II)I"⟩
abbrev cX7_given : ByteArray := prog_1_method_10_code
def yX7_given : MethodName := ⟨RX7, "given", "(I)Z"⟩
abbrev cX7_counted : ByteArray := prog_1_method_11_code
def yX7_counted : MethodName := ⟨RX7, "counted", "(II)Z"⟩
abbrev cX7_joined : ByteArray := prog_1_method_12_code
def yX7_joined : MethodName := ⟨RX7, "joined", "(III)Z"⟩
abbrev cX7_thin : ByteArray := prog_1_method_13_code
def yX7_thin : MethodName := ⟨RX7, "thin", "(II)Z"⟩
abbrev cX7_likeness : ByteArray := prog_1_method_14_code
def yX7_likeness : MethodName := ⟨RX7, "likeness", "(II)I"⟩
abbrev cX7_steps : ByteArray := prog_1_method_15_code
def yX7_steps : MethodName := ⟨RX7, "steps", "(I)I"⟩
abbrev cX7_share : ByteArray := prog_1_method_16_code
def yX7_share : MethodName := ⟨RX7, "share", "(IIII)J"⟩
abbrev cX7_left : ByteArray := prog_1_method_17_code
def yX7_left : MethodName := ⟨RX7, "left", "(III)J"⟩
abbrev cX7_solid : ByteArray := prog_1_method_18_code
def yX7_solid : MethodName := ⟨RX7, "solid", "(I)I"⟩
abbrev cX7_even : ByteArray := prog_1_method_19_code
def yX7_even : MethodName := ⟨RX7, "even", "(I)I"⟩
abbrev cX7_row : ByteArray := prog_1_method_20_code
def yX7_row : MethodName := ⟨RX7, "row", "()I"⟩
abbrev cX7_at : ByteArray := prog_1_method_21_code
def yX7_at : MethodName := ⟨RX7, "at", "(I)I"⟩
abbrev cX7_put : ByteArray := prog_1_method_22_code
def yX7_put : MethodName := ⟨RX7, "put", "(II)Z"⟩
abbrev cX7_next : ByteArray := prog_1_method_23_code
def yX7_next : MethodName := ⟨RX7, "next", "(III)J"⟩
abbrev cX7_whole : ByteArray := prog_1_method_24_code
def yX7_whole : MethodName := ⟨RX7, "whole", "(I)I"⟩
abbrev cX7_squares : ByteArray := prog_1_method_25_code
def yX7_squares : MethodName := ⟨RX7, "squares", "(II)J"⟩
abbrev cX7_fill : ByteArray := prog_1_method_26_code
def yX7_fill : MethodName := ⟨RX7, "fill", "(I)I"⟩
abbrev cX7_filled : ByteArray := prog_1_method_27_code
def yX7_filled : MethodName := ⟨RX7, "filled", "(II)J"⟩
abbrev cX7_amiss : ByteArray := prog_1_method_28_code
def yX7_amiss : MethodName := ⟨RX7, "amiss", "(I)I"⟩
abbrev cX7_lower : ByteArray := prog_1_method_29_code
def yX7_lower : MethodName := ⟨RX7, "lower", "(I)J"⟩
abbrev cX7_count : ByteArray := prog_1_method_30_code
def yX7_count : MethodName := ⟨RX7, "count", "(I)I"⟩
abbrev cX7_ruleCount : ByteArray := prog_1_method_31_code
def yX7_ruleCount : MethodName := ⟨RX7, "ruleCount", "()I"⟩
abbrev cX7_likenessesCount : ByteArray := prog_1_method_32_code
def yX7_likenessesCount : MethodName := ⟨RX7, "likenessesCount", "()I"⟩
abbrev cX7_toldRule : ByteArray := prog_1_method_33_code
def yX7_toldRule : MethodName := ⟨RX7, "toldRule", "(I)LMemoryRows$Rule;"⟩
abbrev cX7_plainRule : ByteArray := prog_1_method_34_code
def yX7_plainRule : MethodName := ⟨RX7, "plainRule", "(I)LMemoryRows$Rule;"⟩
abbrev cX7_toldLikenesses : ByteArray := prog_1_method_35_code
def yX7_toldLikenesses : MethodName := ⟨RX7, "toldLikenesses", "(I)LMemoryRows$Likenesses;"⟩
abbrev cX7_takeDrawn : ByteArray := prog_1_method_36_code
def yX7_takeDrawn : MethodName := ⟨RX7, "takeDrawn", "(II)Z"⟩
abbrev cX7_areLikenesses : ByteArray := prog_1_method_37_code
def yX7_areLikenesses : MethodName := ⟨RX7, "areLikenesses", "([II)Z"⟩
abbrev cX7_isSlot : ByteArray := prog_1_method_38_code
def yX7_isSlot : MethodName := ⟨RX7, "isSlot", "(I)Z"⟩
abbrev cX7_isPart : ByteArray := prog_1_method_39_code
def yX7_isPart : MethodName := ⟨RX7, "isPart", "(I)Z"⟩
abbrev cX7_isWithin : ByteArray := prog_1_method_40_code
def yX7_isWithin : MethodName := ⟨RX7, "isWithin", "(III)Z"⟩
abbrev cX7_power : ByteArray := prog_1_method_41_code
def yX7_power : MethodName := ⟨RX7, "power", "(JI)J"⟩
def RX8 : String := "MemoryRowsModel"
def TX8 : u_T := fun k => match k with
  | 0 => ("MemoryRowsModel", "thrown", "I", false)
  | 1 => ("MemoryRowsModel", "tape", "[B", true)
  | 2 => ("MemoryRowsModel", "length", "I", false)
  | 3 => ("MemoryRowsModel", "up", "J", false)
  | 4 => ("MemoryRowsModel", "low", "J", false)
  | 5 => ("MemoryRowsModel", "isRule", "[Z", true)
  | 6 => ("MemoryRowsModel", "qs", "[I", true)
  | 7 => ("MemoryRowsModel", "ps", "[I", true)
  | 8 => ("MemoryRowsModel", "ms", "[I", true)
  | 9 => ("MemoryRowsModel", "spreads", "[I", true)
  | 10 => ("MemoryRowsModel", "back", "[I", true)
  | 11 => ("MemoryRowsModel", "miss", "[I", true)
  | 12 => ("MemoryRowsModel", "poly", "[J", true)
  | 13 => ("MemoryRowsModel", "wUp", "[J", true)
  | 14 => ("MemoryRowsModel", "wLow", "[J", true)
  | 15 => ("MemoryRowsModel", "likeUp", "[J", true)
  | 16 => ("MemoryRowsModel", "likeLow", "[J", true)
  | 17 => ("MemoryRowsModel", "eqUp", "[J", true)
  | 18 => ("MemoryRowsModel", "eqLow", "[J", true)
  | 19 => ("MemoryRowsModel", "otherUp", "[J", true)
  | 20 => ("MemoryRowsModel", "otherLow", "[J", true)
  | 21 => ("MemoryRowsModel", "alike", "[I", true)
  | 22 => ("MemoryRowsModel", "many", "[I", true)
  | 23 => ("MemoryRowsModel", "fresh", "[I", true)
  | 24 => ("MemoryRowsModel", "square", "[J", true)
  | 25 => ("MemoryRowsModel", "column", "[I", true)
  | 26 => ("MemoryRowsModel", "row", "[I", true)
  | 27 => ("MemoryRowsModel", "places", "I", false)
  | 28 => ("MemoryRowsModel", "nextUp", "[J", true)
  | 29 => ("MemoryRowsModel", "nextLow", "[J", true)
  | 30 => ("MemoryRowsModel", "isFilled", "Z", false)
  | 31 => ("MemoryRowsModel", "filledMany", "I", false)
  | 32 => ("MemoryRowsModel", "gapAt", "[I", true)
  | 33 => ("MemoryRowsModel", "filledUp", "[J", true)
  | 34 => ("MemoryRowsModel", "filledLow", "[J", true)
  | 35 => ("MemoryRowsModel", "normal", "[J", true)
  | 36 => ("MemoryRowsModel", "isLower", "Z", false)
  | 37 => ("MemoryRowsModel", "lowerUp", "J", false)
  | _ => ("MemoryRowsModel", "lowerLow", "J", false)
def tyX8 : Nat → FieldType := fun k => match k with
  | 0 => .int
  | 1 => .array .byte
  | 2 => .int
  | 3 => .long
  | 4 => .long
  | 5 => .array .boolean
  | 6 => .array .int
  | 7 => .array .int
  | 8 => .array .int
  | 9 => .array .int
  | 10 => .array .int
  | 11 => .array .int
  | 12 => .array .long
  | 13 => .array .long
  | 14 => .array .long
  | 15 => .array .long
  | 16 => .array .long
  | 17 => .array .long
  | 18 => .array .long
  | 19 => .array .long
  | 20 => .array .long
  | 21 => .array .int
  | 22 => .array .int
  | 23 => .array .int
  | 24 => .array .long
  | 25 => .array .int
  | 26 => .array .int
  | 27 => .int
  | 28 => .array .long
  | 29 => .array .long
  | 30 => .boolean
  | 31 => .int
  | 32 => .array .int
  | 33 => .array .long
  | 34 => .array .long
  | 35 => .array .long
  | 36 => .boolean
  | 37 => .long
  | _ => .long
abbrev wsX80 : List Cond := u_ws RX8 TX8 39
theorem nmX8 : ∀ a, a < 39 → ∀ b, b < 39 → a ≠ b → (TX8 a).2.1 ≠ (TX8 b).2.1 := by decide +kernel
theorem tyX8_ok : ∀ k, k < 39 → parseFieldDescriptor (TX8 k).2.2.1 = some (tyX8 k) := by decide +kernel
abbrev cX8_init : ByteArray := prog_10_method_1_code
def yX8_init : MethodName := ⟨RX8, "<init>", "()V"⟩
abbrev cX8_thrown : ByteArray := prog_10_method_2_code
def yX8_thrown : MethodName := ⟨RX8, "thrown", "()I"⟩
abbrev cX8_throwsIf : ByteArray := prog_10_method_3_code
def yX8_throwsIf : MethodName := ⟨RX8, "throwsIf", "(Z)Z"⟩
abbrev cX8_feed : ByteArray := prog_10_method_4_code
def yX8_feed : MethodName := ⟨RX8, "feed", "(IIIII)I"⟩
abbrev cX8_four : ByteArray := prog_10_method_5_code
def yX8_four : MethodName := ⟨RX8, "four", "(I)V"⟩
abbrev cX8_end : ByteArray := prog_10_method_6_code
def yX8_end : MethodName := ⟨RX8, "end", "(I)Z"⟩
abbrev cX8_taken : ByteArray := prog_10_method_7_code
def yX8_taken : MethodName := ⟨RX8, "taken", "()I"⟩
abbrev cX8_common : ByteArray := prog_10_method_8_code
def yX8_common : MethodName := ⟨RX8, "common", "(JJ)J"⟩
abbrev cX8_set : ByteArray := prog_10_method_9_code
def yX8_set : MethodName := ⟨RX8, "set", "(JJ)V"⟩
abbrev cX8_plus : ByteArray := prog_10_method_10_code
def yX8_plus : MethodName := ⟨RX8, "plus", "(JJ)V"⟩
abbrev cX8_times : ByteArray := prog_10_method_11_code
def yX8_times : MethodName := ⟨RX8, "times", "(JJ)V"⟩
abbrev cX8_told : ByteArray := prog_10_method_12_code
def yX8_told : MethodName := ⟨RX8, "told", "(I)J"⟩
abbrev cX8_hasRule : ByteArray := prog_10_method_13_code
def yX8_hasRule : MethodName := ⟨RX8, "hasRule", "(I)Z"⟩
abbrev cX8_rule : ByteArray := prog_10_method_14_code
def yX8_rule : MethodName := ⟨RX8, "rule", "(IIIII)Z"⟩
abbrev cX8_isFree : ByteArray := prog_10_method_15_code
def yX8_isFree : MethodName := ⟨RX8, "isFree", "()Z"⟩
abbrev cX8_isSteady : ByteArray := prog_10_method_16_code
def yX8_isSteady : MethodName := ⟨RX8, "isSteady", "(I)Z"⟩
abbrev cX8_steady : ByteArray := prog_10_method_17_code
def yX8_steady : MethodName := ⟨RX8, "steady", "(I)I"⟩
abbrev cX8_clear : ByteArray := prog_10_method_18_code
def yX8_clear : MethodName := ⟨RX8, "clear", "(I)I"⟩
abbrev cX8_weights : ByteArray := prog_10_method_19_code
def yX8_weights : MethodName := ⟨RX8, "weights", "(IZ)V"⟩
abbrev cX8_weight : ByteArray := prog_10_method_20_code
def yX8_weight : MethodName := ⟨RX8, "weight", "(IIZI)J"⟩
abbrev cX8_right : ByteArray := prog_10_method_21_code
def yX8_right : MethodName := ⟨RX8, "right", "(II)V"⟩
abbrev cX8_likes : ByteArray := prog_10_method_22_code
def yX8_likes : MethodName := ⟨RX8, "likes", "(I)V"⟩
abbrev cX8_eliminate : ByteArray := prog_10_method_23_code
def yX8_eliminate : MethodName := ⟨RX8, "eliminate", "(II)V"⟩
abbrev cX8_like : ByteArray := prog_10_method_24_code
def yX8_like : MethodName := ⟨RX8, "like", "(III)J"⟩
abbrev cX8_same : ByteArray := prog_10_method_25_code
def yX8_same : MethodName := ⟨RX8, "same", "(II)I"⟩
abbrev cX8_has : ByteArray := prog_10_method_26_code
def yX8_has : MethodName := ⟨RX8, "has", "(I)Z"⟩
abbrev cX8_puts : ByteArray := prog_10_method_27_code
def yX8_puts : MethodName := ⟨RX8, "puts", "(II)Z"⟩
abbrev cX8_given : ByteArray := prog_10_method_28_code
def yX8_given : MethodName := ⟨RX8, "given", "(I)Z"⟩
abbrev cX8_counted : ByteArray := prog_10_method_29_code
def yX8_counted : MethodName := ⟨RX8, "counted", "(II)Z"⟩
abbrev cX8_joined : ByteArray := prog_10_method_30_code
def yX8_joined : MethodName := ⟨RX8, "joined", "(III)Z"⟩
abbrev cX8_thin : ByteArray := prog_10_method_31_code
def yX8_thin : MethodName := ⟨RX8, "thin", "(II)Z"⟩
abbrev cX8_likeness : ByteArray := prog_10_method_32_code
def yX8_likeness : MethodName := ⟨RX8, "likeness", "(II)I"⟩
abbrev cX8_determinant : ByteArray := prog_10_method_33_code
def yX8_determinant : MethodName := ⟨RX8, "determinant", "(I)J"⟩
abbrev cX8_toeplitz : ByteArray := prog_10_method_34_code
def yX8_toeplitz : MethodName := ⟨RX8, "toeplitz", "(II)V"⟩
abbrev cX8_block : ByteArray := prog_10_method_35_code
def yX8_block : MethodName := ⟨RX8, "block", "(II)J"⟩
abbrev cX8_stepsOf : ByteArray := prog_10_method_36_code
def yX8_stepsOf : MethodName := ⟨RX8, "stepsOf", "(I)I"⟩
abbrev cX8_steps : ByteArray := prog_10_method_37_code
def yX8_steps : MethodName := ⟨RX8, "steps", "(I)I"⟩
abbrev cX8_shareOf : ByteArray := prog_10_method_38_code
def yX8_shareOf : MethodName := ⟨RX8, "shareOf", "(III)V"⟩
abbrev cX8_share : ByteArray := prog_10_method_39_code
def yX8_share : MethodName := ⟨RX8, "share", "(IIII)J"⟩
abbrev cX8_leftOf : ByteArray := prog_10_method_40_code
def yX8_leftOf : MethodName := ⟨RX8, "leftOf", "(II)V"⟩
abbrev cX8_left : ByteArray := prog_10_method_41_code
def yX8_left : MethodName := ⟨RX8, "left", "(III)J"⟩
abbrev cX8_solid : ByteArray := prog_10_method_42_code
def yX8_solid : MethodName := ⟨RX8, "solid", "(I)I"⟩
abbrev cX8_even : ByteArray := prog_10_method_43_code
def yX8_even : MethodName := ⟨RX8, "even", "(I)I"⟩
abbrev cX8_gaps : ByteArray := prog_10_method_44_code
def yX8_gaps : MethodName := ⟨RX8, "gaps", "()I"⟩
abbrev cX8_row : ByteArray := prog_10_method_45_code
def yX8_row : MethodName := ⟨RX8, "row", "()I"⟩
abbrev cX8_at : ByteArray := prog_10_method_46_code
def yX8_at : MethodName := ⟨RX8, "at", "(I)I"⟩
abbrev cX8_put : ByteArray := prog_10_method_47_code
def yX8_put : MethodName := ⟨RX8, "put", "(II)Z"⟩
abbrev cX8_isBare : ByteArray := prog_10_method_48_code
def yX8_isBare : MethodName := ⟨RX8, "isBare", "(I)Z"⟩
abbrev cX8_next : ByteArray := prog_10_method_49_code
def yX8_next : MethodName := ⟨RX8, "next", "(III)J"⟩
abbrev cX8_isWhole : ByteArray := prog_10_method_50_code
def yX8_isWhole : MethodName := ⟨RX8, "isWhole", "(II)Z"⟩
abbrev cX8_whole : ByteArray := prog_10_method_51_code
def yX8_whole : MethodName := ⟨RX8, "whole", "(I)I"⟩
abbrev cX8_part : ByteArray := prog_10_method_52_code
def yX8_part : MethodName := ⟨RX8, "part", "(III)J"⟩
abbrev cX8_missOf : ByteArray := prog_10_method_53_code
def yX8_missOf : MethodName := ⟨RX8, "missOf", "(II)J"⟩
abbrev cX8_squares : ByteArray := prog_10_method_54_code
def yX8_squares : MethodName := ⟨RX8, "squares", "(II)J"⟩
abbrev cX8_fill : ByteArray := prog_10_method_55_code
def yX8_fill : MethodName := ⟨RX8, "fill", "(I)I"⟩
abbrev cX8_cramer : ByteArray := prog_10_method_56_code
def yX8_cramer : MethodName := ⟨RX8, "cramer", "(II)J"⟩
abbrev cX8_filled : ByteArray := prog_10_method_57_code
def yX8_filled : MethodName := ⟨RX8, "filled", "(II)J"⟩
abbrev cX8_amiss : ByteArray := prog_10_method_58_code
def yX8_amiss : MethodName := ⟨RX8, "amiss", "(I)I"⟩
abbrev cX8_lower : ByteArray := prog_10_method_59_code
def yX8_lower : MethodName := ⟨RX8, "lower", "(I)J"⟩
abbrev cX8_count : ByteArray := prog_10_method_60_code
def yX8_count : MethodName := ⟨RX8, "count", "(I)I"⟩
def RJ6 : String := "java/lang/Integer"
def TJ6 : u_T := fun k => match k with
  | _ => ("", "", "", false)
def tyJ6 : Nat → FieldType := fun k => match k with
  | _ => .int
abbrev wsJ60 : List Cond := u_ws RJ6 TJ6 0
theorem nmJ6 : ∀ a, a < 0 → ∀ b, b < 0 → a ≠ b → (TJ6 a).2.1 ≠ (TJ6 b).2.1 := by decide +kernel
theorem tyJ6_ok : ∀ k, k < 0 → parseFieldDescriptor (TJ6 k).2.2.1 = some (tyJ6 k) := by decide +kernel
abbrev cJ6_bitCount_0f7a4 : ByteArray := prog_12_method_49_code
def yJ6_bitCount_0f7a4 : MethodName := ⟨RJ6, "bitCount", "(I)I"⟩
def RJ9 : String := "java/lang/Math"
def TJ9 : u_T := fun k => match k with
  | _ => ("", "", "", false)
def tyJ9 : Nat → FieldType := fun k => match k with
  | _ => .int
abbrev wsJ90 : List Cond := u_ws RJ9 TJ9 0
theorem nmJ9 : ∀ a, a < 0 → ∀ b, b < 0 → a ≠ b → (TJ9 a).2.1 ≠ (TJ9 b).2.1 := by decide +kernel
theorem tyJ9_ok : ∀ k, k < 0 → parseFieldDescriptor (TJ9 k).2.2.1 = some (tyJ9 k) := by decide +kernel
abbrev cJ9_abs_0f7a4 : ByteArray := prog_13_method_59_code
def yJ9_abs_0f7a4 : MethodName := ⟨RJ9, "abs", "(I)I"⟩
abbrev cJ9_abs_067f4 : ByteArray := prog_13_method_61_code
def yJ9_abs_067f4 : MethodName := ⟨RJ9, "abs", "(J)J"⟩
abbrev cJ9_max_7cf53 : ByteArray := prog_13_method_65_code
def yJ9_max_7cf53 : MethodName := ⟨RJ9, "max", "(II)I"⟩
abbrev cJ9_min_7cf53 : ByteArray := prog_13_method_69_code
def yJ9_min_7cf53 : MethodName := ⟨RJ9, "min", "(II)I"⟩
def RJ0 : String := "java/lang/String"
def TJ0 : u_T := fun k => match k with
  | _ => ("", "", "", false)
def tyJ0 : Nat → FieldType := fun k => match k with
  | _ => .int
abbrev wsJ00 : List Cond := u_ws RJ0 TJ0 0
theorem nmJ0 : ∀ a, a < 0 → ∀ b, b < 0 → a ≠ b → (TJ0 a).2.1 ≠ (TJ0 b).2.1 := by decide +kernel
theorem tyJ0_ok : ∀ k, k < 0 → parseFieldDescriptor (TJ0 k).2.2.1 = some (tyJ0 k) := by decide +kernel
def RL : String := "MemoryRowsLaw"
abbrev cL_weight : ByteArray := method_3_code
def yL_weight : MethodName := ⟨RL, "weight", "(LMemoryRows;IIZI[J)I"⟩
abbrev cL_like : ByteArray := method_4_code
def yL_like : MethodName := ⟨RL, "like", "(LMemoryRows;III[J)I"⟩
abbrev cL_likeness : ByteArray := method_5_code
def yL_likeness : MethodName := ⟨RL, "likeness", "(LMemoryRows;II[J)I"⟩
abbrev cL_share : ByteArray := method_6_code
def yL_share : MethodName := ⟨RL, "share", "(LMemoryRows;IIII[J)I"⟩
abbrev cL_left : ByteArray := method_7_code
def yL_left : MethodName := ⟨RL, "left", "(LMemoryRows;III[J)I"⟩
abbrev cL_next : ByteArray := method_8_code
def yL_next : MethodName := ⟨RL, "next", "(LMemoryRows;III[J)I"⟩
abbrev cL_squares : ByteArray := method_9_code
def yL_squares : MethodName := ⟨RL, "squares", "(LMemoryRows;II[J)I"⟩
abbrev cL_filled : ByteArray := method_10_code
def yL_filled : MethodName := ⟨RL, "filled", "(LMemoryRows;II[J)I"⟩
abbrev cL_lower : ByteArray := method_11_code
def yL_lower : MethodName := ⟨RL, "lower", "(LMemoryRows;I[J)I"⟩
abbrev cL_law : ByteArray := code
end
section
/-! THE PURE MACHINE: memory of one fixed shape, one step of it, runs of a method with its calls. No word of the JVM's heap stands here. -/
/-- what a cell holds at a place: ints, and longs -/
abbrev jM : Type := (Nat → Nat → Int32) × (Nat → Nat → Int64)
/-- pc, locals, stack, memory -/
abbrev jC : Type := Nat × List (Nat × Value) × List Value × jM
/-- a cell's shape: an object (its kind, its fields: 0 int, 1 long, 2 a reference to a cell, 3 a truth), or an array (0 int, 1 byte, 2 truth, 3 long, 4 and on references; its length; to which cells) -/
abbrev jS : Type := (Nat × List (Nat × Nat)) ⊕ (Nat × Nat × List Nat)
/-- a method: name, bytes, locals, what it returns, height over its callees, kind of its own, static, parameters -/
abbrev jE : Type := MethodName × ByteArray × Nat × Option FieldType × Nat × Nat × Bool × Nat
/-- the tables: shapes; instructions; methods; fields by kind and entry; calls by kind and entry; constants by kind and entry; which locals are kept at a place -/
abbrev jT : Type := List jS × (Nat → Nat → Option Instr) × (Nat → Option jE) × (Nat → Nat → Option (Nat × Nat × Bool)) × (Nat → Nat → Option (Nat × Bool)) × (Nat → Nat → Option Value) × (Nat → Nat → Option (List Nat))
def jsi (M : jM) (a k : Nat) (v : Int32) : jM := (fun x y => if x = a ∧ y = k then v else M.1 x y, M.2)
def jsl (M : jM) (a k : Nat) (v : Int64) : jM := (M.1, fun x y => if x = a ∧ y = k then v else M.2 x y)
def jfv (M : jM) (a k : Nat) (f : Nat × Nat) : Value := if f.1 = 1 then .long (M.2 a k) else if f.1 = 2 then .ref f.2 else .int (M.1 a k)
def jget (sh : List jS) (M : jM) (a ci k : Nat) : Option Value := match sh[a]? with
  | some (.inl (c, fs)) => if c = ci then (match fs[k]? with | some f => some (jfv M a k f) | none => none) else none
  | _ => none
def jput (sh : List jS) (M : jM) (a ci k : Nat) (v : Value) : Option jM := match sh[a]? with
  | some (.inl (c, fs)) => if c = ci then (match fs[k]? with
      | some f => (match v with
        | .int x => if f.1 = 0 then some (jsi M a k x) else if f.1 = 3 then (if x = 0 ∨ x = 1 then some (jsi M a k x) else none) else none
        | .long x => if f.1 = 1 then some (jsl M a k x) else none
        | _ => none)
      | none => none) else none
  | _ => none
/-- an array's place: its type's number, the place -/
def jix (sh : List jS) (a : Nat) (i : Int32) : Option (Nat × Nat × List Nat) := match sh[a]? with
  | some (.inr (t, n, rs)) => if i < 0 ∨ n ≤ i.toNatClampNeg then none else some (t, i.toNatClampNeg, rs)
  | _ => none
def jlk (i : Nat) : List (Nat × Value) → Option Value
  | [] => none
  | q :: t => if q.1 = i then some q.2 else jlk i t
def jf1 (i : Nat) (L : List (Nat × Value)) : List (Nat × Value) := L.filter (fun q => !(q.1 == i) && !(q.1 + 1 == i && q.2.category == 2))
def jf2 (i : Nat) (L : List (Nat × Value)) : List (Nat × Value) := L.filter (fun q => !(q.1 == i) && (!(q.1 == i + 1) && !(q.1 + 1 == i && q.2.category == 2)))
/-- into its place by number -/
def jins (i : Nat) (v : Value) : List (Nat × Value) → List (Nat × Value)
  | [] => [(i, v)]
  | q :: t => if i < q.1 then (i, v) :: q :: t else q :: jins i v t
def jli (c : jC) (d i : Nat) : Option jC := match jlk i c.2.1 with
  | some (.int x) => some (c.1 + d, c.2.1, .int x :: c.2.2.1, c.2.2.2)
  | _ => none
def jll (c : jC) (d i : Nat) : Option jC := match jlk i c.2.1 with
  | some (.long x) => some (c.1 + d, c.2.1, .long x :: c.2.2.1, c.2.2.2)
  | _ => none
def jla (c : jC) (d i : Nat) : Option jC := match jlk i c.2.1 with
  | some (.ref x) => some (c.1 + d, c.2.1, .ref x :: c.2.2.1, c.2.2.2)
  | some .null => some (c.1 + d, c.2.1, .null :: c.2.2.1, c.2.2.2)
  | _ => none
def jis (nL : Nat) (c : jC) (d i : Nat) : Option jC := match c.2.2.1 with
  | .int x :: S => if i < nL then some (c.1 + d, jins i (.int x) (jf1 i c.2.1), S, c.2.2.2) else none
  | _ => none
def jls (nL : Nat) (c : jC) (d i : Nat) : Option jC := match c.2.2.1 with
  | .long x :: S => if i + 1 < nL then some (c.1 + d, jins i (.long x) (jf2 i c.2.1), S, c.2.2.2) else none
  | _ => none
def jas (nL : Nat) (c : jC) (d i : Nat) : Option jC := match c.2.2.1 with
  | .ref x :: S => if i < nL then some (c.1 + d, jins i (.ref x) (jf1 i c.2.1), S, c.2.2.2) else none
  | .null :: S => if i < nL then some (c.1 + d, jins i .null (jf1 i c.2.1), S, c.2.2.2) else none
  | _ => none
def jii (c : jC) (f : Int32 → Int32 → Int32) : Option jC := match c.2.2.1 with
  | .int b :: .int a :: S => some (c.1 + 1, c.2.1, .int (f a b) :: S, c.2.2.2)
  | _ => none
def jij (c : jC) (f : Int32 → Int32 → Int32) : Option jC := match c.2.2.1 with
  | .int b :: .int a :: S => if b = 0 then none else some (c.1 + 1, c.2.1, .int (f a b) :: S, c.2.2.2)
  | _ => none
def jLL (c : jC) (f : Int64 → Int64 → Int64) : Option jC := match c.2.2.1 with
  | .long b :: .long a :: S => some (c.1 + 1, c.2.1, .long (f a b) :: S, c.2.2.2)
  | _ => none
def jLM (c : jC) (f : Int64 → Int64 → Int64) : Option jC := match c.2.2.1 with
  | .long b :: .long a :: S => if b = 0 then none else some (c.1 + 1, c.2.1, .long (f a b) :: S, c.2.2.2)
  | _ => none
def jtg (pc : Nat) (off : Int) : Option Nat := if 0 ≤ (pc : Int) + off then some ((pc : Int) + off).toNat else none
def jgo (c : jC) (S : List Value) (b : Bool) (off : Int) : Option jC := match jtg c.1 off with
  | some t => some (if b then t else c.1 + 3, c.2.1, S, c.2.2.2)
  | none => none
def jc1 (c : jC) (off : Int) (f : Int32 → Bool) : Option jC := match c.2.2.1 with
  | .int a :: S => jgo c S (f a) off
  | _ => none
def jc2 (c : jC) (off : Int) (f : Int32 → Int32 → Bool) : Option jC := match c.2.2.1 with
  | .int b :: .int a :: S => jgo c S (f a b) off
  | _ => none
/-- one instruction that is no call and no end -/
def jone (T : jT) (E : jE) (ins : Instr) (c : jC) : Option jC := match ins with
  | .iconst n => some (c.1 + 1, c.2.1, .int (Int32.ofInt n) :: c.2.2.1, c.2.2.2)
  | .bipush n => some (c.1 + 2, c.2.1, .int (Int8.ofInt n).toInt32 :: c.2.2.1, c.2.2.2)
  | .sipush n => some (c.1 + 3, c.2.1, .int (Int16.ofInt n).toInt32 :: c.2.2.1, c.2.2.2)
  | .lconst n => some (c.1 + 1, c.2.1, .long (Int64.ofNat (n : Nat)) :: c.2.2.1, c.2.2.2)
  | .aconst_null => some (c.1 + 1, c.2.1, .null :: c.2.2.1, c.2.2.2)
  | .ldc i => (match T.2.2.2.2.2.1 E.2.2.2.2.2.1 i with | some (.int v) => some (c.1 + 2, c.2.1, .int v :: c.2.2.1, c.2.2.2) | _ => none)
  | .ldc_w i => (match T.2.2.2.2.2.1 E.2.2.2.2.2.1 i with | some (.int v) => some (c.1 + 3, c.2.1, .int v :: c.2.2.1, c.2.2.2) | _ => none)
  | .ldc2_w i => (match T.2.2.2.2.2.1 E.2.2.2.2.2.1 i with | some (.long v) => some (c.1 + 3, c.2.1, .long v :: c.2.2.1, c.2.2.2) | _ => none)
  | .iload_n k => jli c 1 k
  | .iload i => jli c 2 i
  | .lload_n k => jll c 1 k
  | .lload i => jll c 2 i
  | .aload_n k => jla c 1 k
  | .aload i => jla c 2 i
  | .istore_n k => jis E.2.2.1 c 1 k
  | .istore i => jis E.2.2.1 c 2 i
  | .lstore_n k => jls E.2.2.1 c 1 k
  | .lstore i => jls E.2.2.1 c 2 i
  | .astore_n k => jas E.2.2.1 c 1 k
  | .astore i => jas E.2.2.1 c 2 i
  | .iinc i n => (match jlk i c.2.1 with | some (.int x) => if i < E.2.2.1 then some (c.1 + 3, jins i (.int (x + Int32.ofInt n)) (jf1 i c.2.1), c.2.2.1, c.2.2.2) else none | _ => none)
  | .iadd => jii c (fun a b => a + b)
  | .isub => jii c (fun a b => a - b)
  | .imul => jii c (fun a b => a * b)
  | .iand => jii c (fun a b => a &&& b)
  | .ior => jii c (fun a b => a ||| b)
  | .ixor => jii c (fun a b => a ^^^ b)
  | .ishl => jii c (fun a b => a <<< (b &&& 31))
  | .ishr => jii c (fun a b => a >>> (b &&& 31))
  | .iushr => jii c (fun a b => (a.toUInt32 >>> (b.toUInt32 &&& Int32.toUInt32 31)).toInt32)
  | .idiv => jij c (fun a b => a / b)
  | .irem => jij c (fun a b => a - a / b * b)
  | .ineg => (match c.2.2.1 with | .int a :: S => some (c.1 + 1, c.2.1, .int (-a) :: S, c.2.2.2) | _ => none)
  | .ladd => jLL c (fun a b => a + b)
  | .lsub => jLL c (fun a b => a - b)
  | .lmul => jLL c (fun a b => a * b)
  | .ldiv => jLM c (fun a b => a / b)
  | .lrem => jLM c (fun a b => a - a / b * b)
  | .lneg => (match c.2.2.1 with | .long a :: S => some (c.1 + 1, c.2.1, .long (-a) :: S, c.2.2.2) | _ => none)
  | .lcmp => (match c.2.2.1 with | .long b :: .long a :: S => some (c.1 + 1, c.2.1, .int (lg_cmp a b) :: S, c.2.2.2) | _ => none)
  | .i2l => (match c.2.2.1 with | .int a :: S => some (c.1 + 1, c.2.1, .long a.toInt64 :: S, c.2.2.2) | _ => none)
  | .l2i => (match c.2.2.1 with | .long a :: S => some (c.1 + 1, c.2.1, .int a.toInt32 :: S, c.2.2.2) | _ => none)
  | .i2b => (match c.2.2.1 with | .int a :: S => some (c.1 + 1, c.2.1, .int a.toInt8.toInt32 :: S, c.2.2.2) | _ => none)
  | .dup => (match c.2.2.1 with | v :: S => if v.category = 1 then some (c.1 + 1, c.2.1, v :: v :: S, c.2.2.2) else none | _ => none)
  | .dup2 => (match c.2.2.1 with | v :: w :: S => if v.category = 1 ∧ w.category = 1 then some (c.1 + 1, c.2.1, v :: w :: v :: w :: S, c.2.2.2) else none | _ => none)
  | .pop => (match c.2.2.1 with | v :: S => if v.category = 1 then some (c.1 + 1, c.2.1, S, c.2.2.2) else none | _ => none)
  | .ifCond k off => (match k with
    | .eq => jc1 c off (fun a => decide (a = 0))
    | .ne => jc1 c off (fun a => !decide (a = 0))
    | .lt => jc1 c off (fun a => decide (a < 0))
    | .ge => jc1 c off (fun a => decide (0 ≤ a))
    | .gt => jc1 c off (fun a => decide (0 < a))
    | .le => jc1 c off (fun a => decide (a ≤ 0)))
  | .if_icmp k off => (match k with
    | .eq => jc2 c off (fun a b => decide (a = b))
    | .ne => jc2 c off (fun a b => !decide (a = b))
    | .lt => jc2 c off (fun a b => decide (a < b))
    | .ge => jc2 c off (fun a b => decide (b ≤ a))
    | .gt => jc2 c off (fun a b => decide (b < a))
    | .le => jc2 c off (fun a b => decide (a ≤ b)))
  | .goto off => jgo c c.2.2.1 true off
  | .ifnull off => (match c.2.2.1 with | .null :: S => jgo c S true off | .ref _ :: S => some (c.1 + 3, c.2.1, S, c.2.2.2) | _ => none)
  | .ifnonnull off => (match c.2.2.1 with | .ref _ :: S => jgo c S true off | .null :: S => some (c.1 + 3, c.2.1, S, c.2.2.2) | _ => none)
  | .tableswitch d lo hi offs => (match c.2.2.1 with
    | .int x :: S => if x.toInt < lo ∨ hi < x.toInt then jgo c S true d else (match offs[(x.toInt - lo).toNat]? with | some off => jgo c S true off | none => none)
    | _ => none)
  | .getfield i => (match T.2.2.2.1 E.2.2.2.2.2.1 i with
    | some f => (match c.2.2.1 with
      | .ref a :: S => (match jget T.1 c.2.2.2 a f.1 f.2.1 with | some v => some (c.1 + 3, c.2.1, v :: S, c.2.2.2) | none => none)
      | _ => none)
    | none => none)
  | .putfield i => (match T.2.2.2.1 E.2.2.2.2.2.1 i with
    | some f => (match c.2.2.1 with
      | v :: .ref a :: S => (match jput T.1 c.2.2.2 a f.1 f.2.1 v with | some M => some (c.1 + 3, c.2.1, S, M) | none => none)
      | _ => none)
    | none => none)
  | .iaload => (match c.2.2.1 with
    | .int i :: .ref a :: S => (match jix T.1 a i with | some (t, k, _) => if t = 0 then some (c.1 + 1, c.2.1, .int (c.2.2.2.1 a k) :: S, c.2.2.2) else none | none => none)
    | _ => none)
  | .baload => (match c.2.2.1 with
    | .int i :: .ref a :: S => (match jix T.1 a i with | some (t, k, _) => if t = 1 ∨ t = 2 then some (c.1 + 1, c.2.1, .int (c.2.2.2.1 a k) :: S, c.2.2.2) else none | none => none)
    | _ => none)
  | .laload => (match c.2.2.1 with
    | .int i :: .ref a :: S => (match jix T.1 a i with | some (t, k, _) => if t = 3 then some (c.1 + 1, c.2.1, .long (c.2.2.2.2 a k) :: S, c.2.2.2) else none | none => none)
    | _ => none)
  | .aaload => (match c.2.2.1 with
    | .int i :: .ref a :: S => (match jix T.1 a i with | some (t, k, rs) => if 4 ≤ t ∧ t < 8 then (match rs[k]? with | some r => some (c.1 + 1, c.2.1, .ref r :: S, c.2.2.2) | none => none) else none | none => none)
    | _ => none)
  | .iastore => (match c.2.2.1 with
    | .int x :: .int i :: .ref a :: S => (match jix T.1 a i with | some (t, k, _) => if t = 0 then some (c.1 + 1, c.2.1, S, jsi c.2.2.2 a k x) else none | none => none)
    | _ => none)
  | .bastore => (match c.2.2.1 with
    | .int x :: .int i :: .ref a :: S => (match jix T.1 a i with
      | some (t, k, _) => if t = 1 then some (c.1 + 1, c.2.1, S, jsi c.2.2.2 a k x.toInt8.toInt32) else if t = 2 then some (c.1 + 1, c.2.1, S, jsi c.2.2.2 a k (vp_nar .boolean x)) else none
      | none => none)
    | _ => none)
  | .lastore => (match c.2.2.1 with
    | .long x :: .int i :: .ref a :: S => (match jix T.1 a i with | some (t, k, _) => if t = 3 then some (c.1 + 1, c.2.1, S, jsl c.2.2.2 a k x) else none | none => none)
    | _ => none)
  | _ => none
/-- an end: a return, or the making of an exception -/
def jterm : Instr → Bool
  | .ireturn => true
  | .lreturn => true
  | .areturn => true
  | .return_ => true
  | .new _ => true
  | _ => false
/-- which method an instruction calls: its number, by a nest mate's word, static -/
def jcall (T : jT) (E : jE) : Instr → Option (Nat × Bool × Bool)
  | .invokevirtual i => (match T.2.2.2.2.1 E.2.2.2.2.2.1 i with | some z => some (z.1, z.2, false) | none => none)
  | .invokestatic i => (match T.2.2.2.2.1 E.2.2.2.2.2.1 i with | some z => some (z.1, z.2, true) | none => none)
  | _ => none
/-- the arguments of a call of F out of E, and what stays on the stack -/
def jargs (T : jT) (E F : jE) (st : Bool) (S : List Value) : Option (List Value × List Value) :=
  let k := F.2.2.2.2.2.2.2 + (if st then 0 else 1)
  let as := (S.take k).reverse
  let rest := S.drop k
  if F.2.2.2.2.2.2.1 = st ∧ as.length = k ∧ F.2.2.2.2.1 < E.2.2.2.2.1 ∧ (rest.map (fun v => v.category)).sum ≤ 8 ∧ (lg_sl as).length ≤ F.2.2.1 then
    (if st then some (as, rest) else match as with
      | .ref b :: _ => (match T.1[b]? with
        | some (.inl (ci, _)) => if ci = F.2.2.2.2.2.1 then some (as, rest) else none
        | _ => none)
      | _ => none)
  else none
/-- what a method that stands at an end gives back -/
def jback (F : jE) (ins : Instr) (S : List Value) : Option (Option Value) := match ins with
  | .ireturn => (match S with
    | [.int v] => if F.2.2.2.1 = some .int ∨ (F.2.2.2.1 = some .boolean ∧ (v = 0 ∨ v = 1)) then some (some (.int v)) else none
    | _ => none)
  | .lreturn => (match S with
    | [.long v] => if F.2.2.2.1 = some .long then some (some (.long v)) else none
    | _ => none)
  | .areturn => (match F.2.2.2.1 with
    | some (.object _) => (match S with
      | [.ref a] => some (some (.ref a))
      | [.null] => some (some .null)
      | _ => none)
    | _ => none)
  | .return_ => (match S with
    | [] => if F.2.2.2.1 = none then some none else none
    | _ => none)
  | _ => none
/-- locals that are not kept at this place go -/
def jkp (o : Option (List Nat)) (L : List (Nat × Value)) : List (Nat × Value) := match o with
  | some ks => L.filter (fun q => ks.contains q.1)
  | none => L
def jdr (T : jT) (y : Nat) (c : jC) : jC := (c.1, jkp (T.2.2.2.2.2.2 y c.1) c.2.1, c.2.2)
/-- method y from c on until an end -/
def jrun (T : jT) : Nat → Nat → jC → Option jC
  | 0, _, _ => none
  | n + 1, y, c => match T.2.2.1 y, T.2.1 y c.1 with
    | some E, some ins => if jterm ins then some c else match jcall T E ins with
      | some z => (match T.2.2.1 z.1 with
        | some F => (match jargs T E F z.2.2 c.2.2.1 with
          | some ar => (match jrun T n z.1 (0, lv_args 0 ar.1, [], c.2.2.2) with
            | some o => (match T.2.1 z.1 o.1 with
              | some r => (match jback F r o.2.2.1 with
                | some v => jrun T n y (c.1 + 3, c.2.1, v.toList ++ ar.2, o.2.2.2)
                | none => none)
              | none => none)
            | none => none)
          | none => none)
        | none => none)
      | none => (match jone T E ins (jdr T y c) with
        | some d => jrun T n y d
        | none => none)
    | _, _ => none
end
section
/-! THE PURE MACHINE IS SOUND: what jrun answers, the JVM does. -/
def jlen : Instr → Nat
  | .bipush _ => 2
  | .sipush _ => 3
  | .ldc _ => 2
  | .ldc_w _ => 3
  | .ldc2_w _ => 3
  | .iload _ => 2
  | .lload _ => 2
  | .aload _ => 2
  | .istore _ => 2
  | .lstore _ => 2
  | .astore _ => 2
  | .iinc _ _ => 3
  | .ifCond _ _ => 3
  | .if_icmp _ _ => 3
  | .goto _ => 3
  | .ifnull _ => 3
  | .ifnonnull _ => 3
  | .getfield _ => 3
  | .putfield _ => 3
  | .invokevirtual _ => 3
  | .invokestatic _ => 3
  | .new _ => 3
  | .tableswitch _ _ _ _ => 0
  | _ => 1
def jv (α : Nat → Nat) : Value → Value
  | .ref a => .ref (α a)
  | .int v => .int v
  | .long v => .long v
  | .float v => .float v
  | .double v => .double v
  | .null => .null
  | .retAddr a => .retAddr a
theorem jv_cat (α : Nat → Nat) (v : Value) : (jv α v).category = v.category := by cases v <;> rfl
def jL (α : Nat → Nat) (L : List (Nat × Value)) : List (Nat × Value) := L.map (fun q => (q.1, jv α q.2))
theorem jlk_mem {i : Nat} {v : Value} : ∀ {L : List (Nat × Value)}, jlk i L = some v → (i, v) ∈ L
  | [], h => by simp [jlk] at h
  | q :: t, h => by
    unfold jlk at h
    by_cases e : q.1 = i
    · rw [if_pos e] at h
      cases h
      rw [← e]
      exact List.mem_cons_self
    · rw [if_neg e] at h
      exact List.mem_cons_of_mem _ (jlk_mem h)
theorem jL_at {α : Nat → Nat} {ls : Array Slot} {nL i : Nat} {L : List (Nat × Value)} {v : Value} (h : lv_has ls nL (jL α L)) (hk : jlk i L = some v) : ls[i]? = some (.val (jv α v)) :=
  h.2.2 (i, jv α v) (List.mem_map.mpr ⟨(i, v), jlk_mem hk, rfl⟩)
theorem jL_ix {α : Nat → Nat} {i : Nat} {L : List (Nat × Value)} {v : Value} (hk : jlk i L = some v) : ∃ k : Nat, (jL α L)[k]? = some (i, jv α v) :=
  List.getElem?_of_mem (List.mem_map.mpr ⟨(i, v), jlk_mem hk, rfl⟩)
theorem jf1_map (α : Nat → Nat) (i : Nat) (L : List (Nat × Value)) : (jL α L).filter (fun q => !(q.1 == i) && !(q.1 + 1 == i && q.2.category == 2)) = jL α (jf1 i L) := by
  unfold jL jf1
  rw [List.filter_map]
  congr 1
  apply List.filter_congr
  intro q _
  simp only [Function.comp, jv_cat]
theorem jf2_map (α : Nat → Nat) (i : Nat) (L : List (Nat × Value)) : (jL α L).filter (fun q => !(q.1 == i) && (!(q.1 == i + 1) && !(q.1 + 1 == i && q.2.category == 2))) = jL α (jf2 i L) := by
  unfold jL jf2
  rw [List.filter_map]
  congr 1
  apply List.filter_congr
  intro q _
  simp only [Function.comp, jv_cat]
theorem jins_mem {i : Nat} {v : Value} {q : Nat × Value} : ∀ {L : List (Nat × Value)}, q ∈ jins i v L → q = (i, v) ∨ q ∈ L
  | [], h => Or.inl (List.mem_singleton.mp h)
  | r :: t, h => by
    unfold jins at h
    by_cases e : i < r.1
    · rw [if_pos e] at h
      exact List.mem_cons.mp h
    · rw [if_neg e] at h
      rcases List.mem_cons.mp h with h | h
      · exact Or.inr (List.mem_cons.mpr (Or.inl h))
      · rcases jins_mem h with h | h
        · exact Or.inl h
        · exact Or.inr (List.mem_cons_of_mem _ h)
theorem jins_has {α : Nat → Nat} {ls : Array Slot} {nL i : Nat} {v w : Value} {L : List (Nat × Value)} (h : lv_has ls nL ((i, w) :: jL α L)) (e : w = jv α v := by rfl) : lv_has ls nL (jL α (jins i v L)) := by
  refine ⟨h.1, h.2.1, fun q hq => ?_⟩
  obtain ⟨r, hr, rfl⟩ := List.mem_map.mp hq
  rcases jins_mem hr with rfl | hr
  · exact h.2.2 _ (List.mem_cons.mpr (Or.inl (by rw [e])))
  · exact h.2.2 _ (List.mem_cons_of_mem _ (List.mem_map.mpr ⟨r, hr, rfl⟩))
theorem jkp_has {α : Nat → Nat} {ls : Array Slot} {nL : Nat} {o : Option (List Nat)} {L : List (Nat × Value)} (h : lv_has ls nL (jL α L)) : lv_has ls nL (jL α (jkp o L)) := by
  cases o with
  | none => exact h
  | some ks =>
    refine ⟨h.1, h.2.1, fun q hq => ?_⟩
    obtain ⟨r, hr, rfl⟩ := List.mem_map.mp hq
    exact h.2.2 _ (List.mem_map.mpr ⟨r, (List.mem_filter.mp hr).1, rfl⟩)
theorem jargs_map (α : Nat → Nat) : ∀ (as : List Value) (i : Nat), jL α (lv_args i as) = lv_args i (as.map (jv α))
  | [], _ => rfl
  | v :: vs, i => by
    show (i, jv α v) :: jL α (lv_args (if v.category = 2 then i + 2 else i + 1) vs) = (i, jv α v) :: lv_args (if (jv α v).category = 2 then i + 2 else i + 1) (vs.map (jv α))
    rw [jargs_map α vs, jv_cat]
theorem jsl_len (α : Nat → Nat) : ∀ (as : List Value), (lg_sl (as.map (jv α))).length = (lg_sl as).length
  | [] => rfl
  | v :: vs => by
    have ih := jsl_len α vs
    unfold lg_sl at ih ⊢
    rw [List.map_cons, List.flatMap_cons, List.flatMap_cons, List.length_append, List.length_append, ih, jv_cat]
    by_cases h : v.category = 2 <;> simp [h]
theorem jcat_map (α : Nat → Nat) (S : List Value) : ((S.map (jv α)).map fun v => v.category) = S.map fun v => v.category := by
  rw [List.map_map]
  apply List.map_congr_left
  intro v _
  exact jv_cat α v
/-! the world -/
def jcell (α : Nat → Nat) (cA : Nat → ClassId) (M : jM) (i : Nat) : jS → va_E
  | .inl o => .inr (o.1, o.2.mapIdx (fun k f => jv α (jfv M i k f)))
  | .inr r => .inl (cA r.1, r.2.1, if r.1 = 3 then .inr (.inl (M.2 i)) else if r.1 < 3 then .inl (M.1 i) else .inr (.inr (.inr (.inr (fun k => (r.2.2[k]?).map α)))))
def jW (sh : List jS) (α : Nat → Nat) (cA : Nat → ClassId) (M : jM) : va_W := sh.mapIdx (fun i x => (α i, jcell α cA M i x))
theorem jW_at {sh : List jS} {α : Nat → Nat} {cA : Nat → ClassId} {M : jM} {a : Nat} {x : jS} (h : sh[a]? = some x) : (jW sh α cA M)[a]? = some (α a, jcell α cA M a x) := by
  simp [jW, h]
theorem jcell_congr {α : Nat → Nat} {cA : Nat → ClassId} {M M' : jM} {i : Nat} (h1 : M'.1 i = M.1 i) (h2 : M'.2 i = M.2 i) (x : jS) : jcell α cA M' i x = jcell α cA M i x := by
  cases x with
  | inl o => simp only [jcell, jfv, h1, h2]
  | inr r => simp only [jcell, h1, h2]
theorem jW_set {sh : List jS} {α : Nat → Nat} {cA : Nat → ClassId} {M M' : jM} {a : Nat} {x : jS} {e : va_E} (h : sh[a]? = some x) (ho : ∀ i, i ≠ a → M'.1 i = M.1 i ∧ M'.2 i = M.2 i) (he : e = jcell α cA M' a x) : (jW sh α cA M).set a (α a, e) = jW sh α cA M' := by
  apply List.ext_getElem?
  intro i
  rw [List.getElem?_set]
  by_cases hi : a = i
  · subst hi
    have hl : a < (jW sh α cA M).length := (List.getElem?_eq_some_iff.mp (jW_at h)).1
    rw [if_pos rfl, if_pos hl, jW_at h, he]
  · rw [if_neg hi]
    simp only [jW, List.getElem?_mapIdx]
    cases hx : sh[i]? with
    | none => rfl
    | some z =>
      obtain ⟨o1, o2⟩ := ho i (fun q => hi q.symm)
      simp only [Option.map_some, jcell_congr o1 o2 z]
theorem jsi_ne {M : jM} {a k i : Nat} {v : Int32} (h : i ≠ a) : (jsi M a k v).1 i = M.1 i ∧ (jsi M a k v).2 i = M.2 i := by
  refine ⟨?_, rfl⟩
  funext y
  show (if i = a ∧ y = k then v else M.1 i y) = M.1 i y
  rw [if_neg (fun q => h q.1)]
theorem jsl_ne {M : jM} {a k i : Nat} {v : Int64} (h : i ≠ a) : (jsl M a k v).1 i = M.1 i ∧ (jsl M a k v).2 i = M.2 i := by
  refine ⟨rfl, ?_⟩
  funext y
  show (if i = a ∧ y = k then v else M.2 i y) = M.2 i y
  rw [if_neg (fun q => h q.1)]
theorem jsi_row (M : jM) (a k : Nat) (v : Int32) : (jsi M a k v).1 a = upd (M.1 a) k v := by
  funext y
  show (if a = a ∧ y = k then v else M.1 a y) = if y = k then v else M.1 a y
  by_cases h : y = k <;> simp [h]
theorem jsl_row (M : jM) (a k : Nat) (v : Int64) : (jsl M a k v).2 a = vp_updL (M.2 a) k v := by
  funext y
  show (if a = a ∧ y = k then v else M.2 a y) = if y = k then v else M.2 a y
  by_cases h : y = k <;> simp [h]
end
section
/-! one instruction -/
/-- what holds of a method's frame: the machine, the words, the tables -/
def jX (GW NW : List Cond) (cl : List vw_C) (tys : List (ClassId × FieldType)) (D : va_G) (E : jE) (p : Program) (s : State) (m : MethodId) (args : Array Value) (c : Code) : Prop :=
  p.tables.exec = Jvm.exec ∧ c.code = E.2.1 ∧ c.maxLocals = E.2.2.1 ∧ s.vm.findClass E.1.cls = some m.cls ∧ (∀ w ∈ GW, w.before args s = true) ∧ (∀ w ∈ NW, va_Nw w s) ∧ va_K D cl tys s
/-- what holds of heap and locals at a configuration -/
def jR (sh : List jS) (α : Nat → Nat) (cA : Nat → ClassId) (cl : List vw_C) (D : va_G) (A : Nat → Prop) (H0 : Heap) (nL : Nat) (f : jC) (H : Heap) (locs : List Loc) (ls : Array Slot) : Prop :=
  va_P D cl (jW sh α cA f.2.2.2) H ∧ va_S A H0 H locs ∧ lv_has ls nL (jL α f.2.1)
/-- the goal at a configuration -/
def jG (sh : List jS) (α : Nat → Nat) (cA : Nat → ClassId) (cl : List vw_C) (D : va_G) (A : Nat → Prop) (H0 : Heap) (nL : Nat) (p : Program) (l : Launch) (e : Env) (R : Room) (s : State) (m : MethodId) (args : Array Value) (below : List Frame) (meth : Method) (c : Code) (cells slots : Nat) (Q : State → Prop) (f : jC) : Prop :=
  ∀ (H : Heap) (locs : List Loc) (ls : Array Slot), jR sh α cA cl D A H0 nL f H locs ls → W p l e R s m args below meth c H locs cells slots Q (F0 m f.1 ls (f.2.2.1.map (jv α)))
/-- the types of arrays by their numbers -/
def jty : Nat → FieldType
  | 0 => .int
  | 1 => .byte
  | 2 => .boolean
  | 3 => .long
  | 4 => .object "MemoryRows$Rule"
  | 5 => .object "MemoryRows$Likenesses"
  | 6 => .object "MemoryRows$Fraction"
  | _ => .array .long
def jtys (cA : Nat → ClassId) : List (ClassId × FieldType) := (List.range 8).map (fun t => (cA t, jty t))
theorem jtys_at (cA : Nat → ClassId) {t : Nat} (h : t < 8) : (jtys cA)[t]? = some (cA t, jty t) := by
  simp [jtys, h]
theorem jty_ref {t : Nat} (h : 4 ≤ t) : (jty t).isReference = true := by
  match t, h with
  | 4, _ => rfl
  | 5, _ => rfl
  | 6, _ => rfl
  | (n + 7), _ => rfl
/-- a field's own words: its kind's class, its place, its type -/
def jFo (cl : List vw_C) (ci k tag : Nat) : Prop := ∃ (C : String) (T : u_T) (N : Nat), cl[ci]? = some (C, T, N) ∧ k < N ∧
  (tag = 0 → parseFieldDescriptor (T k).2.2.1 = some .int ∧ (T k).2.2.2 = false) ∧ (tag = 1 → parseFieldDescriptor (T k).2.2.1 = some .long ∧ (T k).2.2.2 = false) ∧ (tag = 3 → parseFieldDescriptor (T k).2.2.1 = some .boolean ∧ (T k).2.2.2 = false)
/-- a class of the worlds: its words among the good ones, its types, its names apart -/
def jCo (GW : List Cond) (q : vw_C) : Prop := (∀ w ∈ u_ws q.1 q.2.1 q.2.2, w ∈ GW) ∧ (∃ ty0 : Nat → FieldType, ∀ k, k < q.2.2 → parseFieldDescriptor (q.2.1 k).2.2.1 = some (ty0 k)) ∧ (∀ a, a < q.2.2 → ∀ b, b < q.2.2 → a ≠ b → (q.2.1 a).2.1 ≠ (q.2.1 b).2.1)
/-- an entry that names a field -/
def jFl (GW NW : List Cond) (cl : List vw_C) (own : String) (i : Nat) (f : Nat × Nat × Bool) : Prop := ∀ (C : String) (T : u_T) (N : Nat), cl[f.1]? = some (C, T, N) →
  (f.2.2 = false → Cond.fieldLink own i (T f.2.1).1 (T f.2.1).2.1 (T f.2.1).2.2.1 ∈ GW) ∧ (f.2.2 = true → ∃ host : String, Cond.fieldLinkNest own i (T f.2.1).1 (T f.2.1).2.1 (T f.2.1).2.2.1 host ∈ NW)
/-- an entry that names a constant -/
def jKo (GW : List Cond) (own : String) (i : Nat) (v : Value) : Prop := (∀ x, v = .int x → Cond.constant own i x ∈ GW) ∧ (∀ x, v = .long x → Cond.constantLong own i x ∈ GW)
section JOne
variable {sh : List jS} {α : Nat → Nat} {cA : Nat → ClassId} {cl : List vw_C} {D : va_G} {A : Nat → Prop} {H0 : Heap} {nL : Nat} {p : Program} {l : Launch} {e : Env} {R : Room} {s : State} {m : MethodId} {args : Array Value} {below : List Frame} {meth : Method} {c : Code} {cells slots : Nat} {Q : State → Prop}
variable {cc : ByteArray} {pc : Nat} {L : List (Nat × Value)} {S : List Value} {M : jM}
theorem ja_iinc {i : Nat} {n : Int} {x : Int32} (hx : p.tables.exec = Jvm.exec) (hb : c.code = cc) (hk : jlk i L = some (.int x)) (hn : i < nL) (hd : decode cc pc = .ok (.iinc i n, 3))
    (k : jG sh α cA cl D A H0 nL p l e R s m args below meth c cells slots Q (pc + 3, jins i (.int (x + Int32.ofInt n)) (jf1 i L), S, M)) : jG sh α cA cl D A H0 nL p l e R s m args below meth c cells slots Q (pc, L, S, M) := by
  intro H locs ls hr
  obtain ⟨q, hq⟩ := jL_ix (α := α) hk
  exact lv_iinc hx hb hd hr.2.2 hq rfl hn (by rw [jf1_map]) (fun ls' h => k H locs ls' ⟨hr.1, hr.2.1, jins_has h⟩)
theorem ja_go {off : Int} {t : Nat} (ht : jtg pc off = some t) : (pc : Int) + off = (t : Int) := by
  unfold jtg at ht
  by_cases h : 0 ≤ (pc : Int) + off
  · rw [if_pos h] at ht
    cases ht
    omega
  · rw [if_neg h] at ht
    cases ht
/-- a branch: both its ends, of which one is meant -/
theorem ja_br {P : Prop} {b : Bool} {t : Nat} {st : List Value} (hb : b = true ↔ P) (row : ∀ {H : Heap} {locs : List Loc} {ls : Array Slot}, (P → W p l e R s m args below meth c H locs cells slots Q (F0 m t ls (S.map (jv α)))) → (¬ P → W p l e R s m args below meth c H locs cells slots Q (F0 m (pc + 3) ls (S.map (jv α)))) → W p l e R s m args below meth c H locs cells slots Q (F0 m pc ls st))
    {st' : List Value} (hst : st'.map (jv α) = st)
    (k : jG sh α cA cl D A H0 nL p l e R s m args below meth c cells slots Q (if b then t else pc + 3, L, S, M)) : jG sh α cA cl D A H0 nL p l e R s m args below meth c cells slots Q (pc, L, st', M) := by
  intro H locs ls hr
  show W p l e R s m args below meth c H locs cells slots Q (F0 m pc ls (st'.map (jv α)))
  rw [hst]
  refine row (fun h => ?_) (fun h => ?_)
  · rw [if_pos (hb.mpr h)] at k
    exact k H locs ls hr
  · rw [if_neg (fun q => h (hb.mp q))] at k
    exact k H locs ls hr
/-- an array of references is read -/
theorem ja_aald (hx : p.tables.exec = Jvm.exec) (hb : c.code = cc) {tys : List (ClassId × FieldType)} {ws : va_W} {H : Heap} {locs : List Loc} {ls : Array Slot} {rest : List Value} {a : Nat} (hK : va_K D cl tys s) (hP : va_P D cl ws H) (q0 t0 : Nat) {cI : ClassId} {ty : FieldType} {n : Nat} {f : Nat → Option Nat} (ha : ws[q0]? = some (a, .inl (cI, n, .inr (.inr (.inr (.inr f)))))) (ht : tys[t0]? = some (cI, ty)) (hty : ty.isReference = true) {i : Int32} (hin : vp_in i n) (hdg : decode cc pc = .ok (.aaload, 1))
    (kk : W p l e R s m args below meth c H locs cells slots Q (F0 m (pc + 1) ls (va_rf (f i.toNatClampNeg) :: rest))) : W p l e R s m args below meth c H locs cells slots Q (F0 m pc ls (.int i :: .ref a :: rest)) := by
  have hlt : i.toNatClampNeg < n := Nat.not_le.mp fun q => hin (Or.inr q)
  exact W.aald (v := va_rf (f i.toNatClampNeg)) (ty := ty) hx hb (hP q0 _ ha) ((hK.2 t0 _ ht).1 n (fun j => va_rf (f j))) hty (fun q => by cases q) (by show ¬ (i < 0 ∨ (arrV _ _ _).slots.size ≤ _); rw [arrV_size]; exact hin) (by show (arrV _ _ _).slots[_]? = _; rw [arrV_read _ _ hlt]) rfl rfl hdg kk
end JOne
end
section
section JTwo
variable {sh : List jS} {α : Nat → Nat} {cA : Nat → ClassId} {cl : List vw_C} {D : va_G} {A : Nat → Prop} {H0 : Heap} {nL : Nat} {p : Program} {l : Launch} {e : Env} {R : Room} {s : State} {m : MethodId} {args : Array Value} {below : List Frame} {meth : Method} {c : Code} {cells slots : Nat} {Q : State → Prop}
variable {cc : ByteArray} {pc : Nat} {L : List (Nat × Value)} {S : List Value} {M : jM} {g : jC}
theorem jo_ii {f : Int32 → Int32 → Int32} (row : ∀ {H : Heap} {locs : List Loc} {ls : Array Slot} {a b : Int32} {rest : List Value}, W p l e R s m args below meth c H locs cells slots Q (F0 m (pc + 1) ls (.int (f a b) :: rest)) → W p l e R s m args below meth c H locs cells slots Q (F0 m pc ls (.int b :: .int a :: rest)))
    (h : jii (pc, L, S, M) f = some g) (k : jG sh α cA cl D A H0 nL p l e R s m args below meth c cells slots Q g) : jG sh α cA cl D A H0 nL p l e R s m args below meth c cells slots Q (pc, L, S, M) := by
  unfold jii at h
  split at h
  · next b a S' hS =>
    have hS : S = _ := hS
    subst hS
    cases h
    exact fun H locs ls hr => row (k H locs ls hr)
  · cases h
theorem jo_ij {f : Int32 → Int32 → Int32} (row : ∀ {H : Heap} {locs : List Loc} {ls : Array Slot} {a b : Int32} {rest : List Value}, ¬ b = 0 → W p l e R s m args below meth c H locs cells slots Q (F0 m (pc + 1) ls (.int (f a b) :: rest)) → W p l e R s m args below meth c H locs cells slots Q (F0 m pc ls (.int b :: .int a :: rest)))
    (h : jij (pc, L, S, M) f = some g) (k : jG sh α cA cl D A H0 nL p l e R s m args below meth c cells slots Q g) : jG sh α cA cl D A H0 nL p l e R s m args below meth c cells slots Q (pc, L, S, M) := by
  unfold jij at h
  split at h
  · next b a S' hS =>
    have hS : S = _ := hS
    subst hS
    by_cases h0 : b = 0
    · rw [if_pos h0] at h; cases h
    · rw [if_neg h0] at h
      cases h
      exact fun H locs ls hr => row h0 (k H locs ls hr)
  · cases h
theorem jo_LL {f : Int64 → Int64 → Int64} (row : ∀ {H : Heap} {locs : List Loc} {ls : Array Slot} {a b : Int64} {rest : List Value}, W p l e R s m args below meth c H locs cells slots Q (F0 m (pc + 1) ls (.long (f a b) :: rest)) → W p l e R s m args below meth c H locs cells slots Q (F0 m pc ls (.long b :: .long a :: rest)))
    (h : jLL (pc, L, S, M) f = some g) (k : jG sh α cA cl D A H0 nL p l e R s m args below meth c cells slots Q g) : jG sh α cA cl D A H0 nL p l e R s m args below meth c cells slots Q (pc, L, S, M) := by
  unfold jLL at h
  split at h
  · next b a S' hS =>
    have hS : S = _ := hS
    subst hS
    cases h
    exact fun H locs ls hr => row (k H locs ls hr)
  · cases h
theorem jo_LM {f : Int64 → Int64 → Int64} (row : ∀ {H : Heap} {locs : List Loc} {ls : Array Slot} {a b : Int64} {rest : List Value}, ¬ b = 0 → W p l e R s m args below meth c H locs cells slots Q (F0 m (pc + 1) ls (.long (f a b) :: rest)) → W p l e R s m args below meth c H locs cells slots Q (F0 m pc ls (.long b :: .long a :: rest)))
    (h : jLM (pc, L, S, M) f = some g) (k : jG sh α cA cl D A H0 nL p l e R s m args below meth c cells slots Q g) : jG sh α cA cl D A H0 nL p l e R s m args below meth c cells slots Q (pc, L, S, M) := by
  unfold jLM at h
  split at h
  · next b a S' hS =>
    have hS : S = _ := hS
    subst hS
    by_cases h0 : b = 0
    · rw [if_pos h0] at h; cases h
    · rw [if_neg h0] at h
      cases h
      exact fun H locs ls hr => row h0 (k H locs ls hr)
  · cases h
theorem jo_li {d i : Nat} (row : ∀ {H : Heap} {locs : List Loc} {ls : Array Slot} {x : Int32} {rest : List Value}, ls[i]? = some (.val (.int x)) → W p l e R s m args below meth c H locs cells slots Q (F0 m (pc + d) ls (.int x :: rest)) → W p l e R s m args below meth c H locs cells slots Q (F0 m pc ls rest))
    (h : jli (pc, L, S, M) d i = some g) (k : jG sh α cA cl D A H0 nL p l e R s m args below meth c cells slots Q g) : jG sh α cA cl D A H0 nL p l e R s m args below meth c cells slots Q (pc, L, S, M) := by
  unfold jli at h
  split at h
  · next x hk =>
    cases h
    exact fun H locs ls hr => row (jL_at hr.2.2 hk) (k H locs ls hr)
  · cases h
theorem jo_ll {d i : Nat} (row : ∀ {H : Heap} {locs : List Loc} {ls : Array Slot} {x : Int64} {rest : List Value}, ls[i]? = some (.val (.long x)) → W p l e R s m args below meth c H locs cells slots Q (F0 m (pc + d) ls (.long x :: rest)) → W p l e R s m args below meth c H locs cells slots Q (F0 m pc ls rest))
    (h : jll (pc, L, S, M) d i = some g) (k : jG sh α cA cl D A H0 nL p l e R s m args below meth c cells slots Q g) : jG sh α cA cl D A H0 nL p l e R s m args below meth c cells slots Q (pc, L, S, M) := by
  unfold jll at h
  split at h
  · next x hk =>
    cases h
    exact fun H locs ls hr => row (jL_at hr.2.2 hk) (k H locs ls hr)
  · cases h
theorem jo_la {d i : Nat} (row : ∀ {H : Heap} {locs : List Loc} {ls : Array Slot} {x : Nat} {rest : List Value}, ls[i]? = some (.val (.ref x)) → W p l e R s m args below meth c H locs cells slots Q (F0 m (pc + d) ls (.ref x :: rest)) → W p l e R s m args below meth c H locs cells slots Q (F0 m pc ls rest))
    (rowN : ∀ {H : Heap} {locs : List Loc} {ls : Array Slot} {rest : List Value}, ls[i]? = some (.val .null) → W p l e R s m args below meth c H locs cells slots Q (F0 m (pc + d) ls (.null :: rest)) → W p l e R s m args below meth c H locs cells slots Q (F0 m pc ls rest))
    (h : jla (pc, L, S, M) d i = some g) (k : jG sh α cA cl D A H0 nL p l e R s m args below meth c cells slots Q g) : jG sh α cA cl D A H0 nL p l e R s m args below meth c cells slots Q (pc, L, S, M) := by
  unfold jla at h
  split at h
  · next x hk =>
    cases h
    exact fun H locs ls hr => row (jL_at hr.2.2 hk) (k H locs ls hr)
  · next hk =>
    cases h
    exact fun H locs ls hr => rowN (jL_at hr.2.2 hk) (k H locs ls hr)
  · cases h
theorem jo_is {d i : Nat} (row : ∀ {H : Heap} {locs : List Loc} {ls : Array Slot} {x : Int32} {rest : List Value} {lv lv' : List (Nat × Value)}, lv_has ls nL lv → i < nL → (i, Value.int x) :: lv.filter (fun q => !(q.1 == i) && !(q.1 + 1 == i && q.2.category == 2)) = lv' → (∀ ls' : Array Slot, lv_has ls' nL lv' → W p l e R s m args below meth c H locs cells slots Q (F0 m (pc + d) ls' rest)) → W p l e R s m args below meth c H locs cells slots Q (F0 m pc ls (.int x :: rest)))
    (h : jis nL (pc, L, S, M) d i = some g) (k : jG sh α cA cl D A H0 nL p l e R s m args below meth c cells slots Q g) : jG sh α cA cl D A H0 nL p l e R s m args below meth c cells slots Q (pc, L, S, M) := by
  unfold jis at h
  split at h
  · next x S' hS =>
    have hS : S = _ := hS
    subst hS
    by_cases hn : i < nL
    · rw [if_pos hn] at h
      cases h
      exact fun H locs ls hr => row hr.2.2 hn (by rw [jf1_map]) (fun ls' h => k H locs ls' ⟨hr.1, hr.2.1, jins_has h⟩)
    · rw [if_neg hn] at h; cases h
  · cases h
theorem jo_ls {d i : Nat} (row : ∀ {H : Heap} {locs : List Loc} {ls : Array Slot} {x : Int64} {rest : List Value} {lv lv' : List (Nat × Value)}, lv_has ls nL lv → i + 1 < nL → (i, Value.long x) :: lv.filter (fun q => !(q.1 == i) && (!(q.1 == i + 1) && !(q.1 + 1 == i && q.2.category == 2))) = lv' → (∀ ls' : Array Slot, lv_has ls' nL lv' → W p l e R s m args below meth c H locs cells slots Q (F0 m (pc + d) ls' rest)) → W p l e R s m args below meth c H locs cells slots Q (F0 m pc ls (.long x :: rest)))
    (h : jls nL (pc, L, S, M) d i = some g) (k : jG sh α cA cl D A H0 nL p l e R s m args below meth c cells slots Q g) : jG sh α cA cl D A H0 nL p l e R s m args below meth c cells slots Q (pc, L, S, M) := by
  unfold jls at h
  split at h
  · next x S' hS =>
    have hS : S = _ := hS
    subst hS
    by_cases hn : i + 1 < nL
    · rw [if_pos hn] at h
      cases h
      exact fun H locs ls hr => row hr.2.2 hn (by rw [jf2_map]) (fun ls' h => k H locs ls' ⟨hr.1, hr.2.1, jins_has h⟩)
    · rw [if_neg hn] at h; cases h
  · cases h
theorem jo_as {d i : Nat} (row : ∀ {H : Heap} {locs : List Loc} {ls : Array Slot} {x : Nat} {rest : List Value} {lv lv' : List (Nat × Value)}, lv_has ls nL lv → i < nL → (i, Value.ref x) :: lv.filter (fun q => !(q.1 == i) && !(q.1 + 1 == i && q.2.category == 2)) = lv' → (∀ ls' : Array Slot, lv_has ls' nL lv' → W p l e R s m args below meth c H locs cells slots Q (F0 m (pc + d) ls' rest)) → W p l e R s m args below meth c H locs cells slots Q (F0 m pc ls (.ref x :: rest)))
    (rowN : ∀ {H : Heap} {locs : List Loc} {ls : Array Slot} {rest : List Value} {lv lv' : List (Nat × Value)}, lv_has ls nL lv → i < nL → (i, Value.null) :: lv.filter (fun q => !(q.1 == i) && !(q.1 + 1 == i && q.2.category == 2)) = lv' → (∀ ls' : Array Slot, lv_has ls' nL lv' → W p l e R s m args below meth c H locs cells slots Q (F0 m (pc + d) ls' rest)) → W p l e R s m args below meth c H locs cells slots Q (F0 m pc ls (.null :: rest)))
    (h : jas nL (pc, L, S, M) d i = some g) (k : jG sh α cA cl D A H0 nL p l e R s m args below meth c cells slots Q g) : jG sh α cA cl D A H0 nL p l e R s m args below meth c cells slots Q (pc, L, S, M) := by
  unfold jas at h
  split at h
  · next x S' hS =>
    have hS : S = _ := hS
    subst hS
    by_cases hn : i < nL
    · rw [if_pos hn] at h
      cases h
      exact fun H locs ls hr => row hr.2.2 hn (by rw [jf1_map]) (fun ls' h => k H locs ls' ⟨hr.1, hr.2.1, jins_has h⟩)
    · rw [if_neg hn] at h; cases h
  · next S' hS =>
    have hS : S = _ := hS
    subst hS
    by_cases hn : i < nL
    · rw [if_pos hn] at h
      cases h
      exact fun H locs ls hr => rowN hr.2.2 hn (by rw [jf1_map]) (fun ls' h => k H locs ls' ⟨hr.1, hr.2.1, jins_has h⟩)
    · rw [if_neg hn] at h; cases h
  · cases h
/-- a branch whose end is known -/
theorem jo_go {S' : List Value} {b : Bool} {off : Int} (h : jgo (pc, L, S, M) S' b off = some g) : ∃ t : Nat, (pc : Int) + off = (t : Int) ∧ g = (if b then t else pc + 3, L, S', M) := by
  unfold jgo at h
  split at h
  · next t ht =>
    cases h
    exact ⟨t, ja_go ht, rfl⟩
  · cases h
theorem jo_c1 {off : Int} {f : Int32 → Bool} {P : Int32 → Prop} (hf : ∀ a, f a = true ↔ P a)
    (row : ∀ {H : Heap} {locs : List Loc} {ls : Array Slot} {t : Nat} {a : Int32} {rest : List Value}, (pc : Int) + off = (t : Int) → (P a → W p l e R s m args below meth c H locs cells slots Q (F0 m t ls rest)) → (¬ P a → W p l e R s m args below meth c H locs cells slots Q (F0 m (pc + 3) ls rest)) → W p l e R s m args below meth c H locs cells slots Q (F0 m pc ls (.int a :: rest)))
    (h : jc1 (pc, L, S, M) off f = some g) (k : jG sh α cA cl D A H0 nL p l e R s m args below meth c cells slots Q g) : jG sh α cA cl D A H0 nL p l e R s m args below meth c cells slots Q (pc, L, S, M) := by
  unfold jc1 at h
  split at h
  · next a S' hS =>
    have hS : S = _ := hS
    subst hS
    obtain ⟨t, ht, rfl⟩ := jo_go h
    exact ja_br (S := S') (hf a) (fun k1 k2 => row ht k1 k2) rfl k
  · cases h
theorem jo_c2 {off : Int} {f : Int32 → Int32 → Bool} {P : Int32 → Int32 → Prop} (hf : ∀ a b, f a b = true ↔ P a b)
    (row : ∀ {H : Heap} {locs : List Loc} {ls : Array Slot} {t : Nat} {a b : Int32} {rest : List Value}, (pc : Int) + off = (t : Int) → (P a b → W p l e R s m args below meth c H locs cells slots Q (F0 m t ls rest)) → (¬ P a b → W p l e R s m args below meth c H locs cells slots Q (F0 m (pc + 3) ls rest)) → W p l e R s m args below meth c H locs cells slots Q (F0 m pc ls (.int b :: .int a :: rest)))
    (h : jc2 (pc, L, S, M) off f = some g) (k : jG sh α cA cl D A H0 nL p l e R s m args below meth c cells slots Q g) : jG sh α cA cl D A H0 nL p l e R s m args below meth c cells slots Q (pc, L, S, M) := by
  unfold jc2 at h
  split at h
  · next b a S' hS =>
    have hS : S = _ := hS
    subst hS
    obtain ⟨t, ht, rfl⟩ := jo_go h
    exact ja_br (S := S') (hf a b) (fun k1 k2 => row ht k1 k2) rfl k
  · cases h
/-- an array's place, told apart -/
theorem jo_ix {a : Nat} {i : Int32} {r : Nat × Nat × List Nat} (h : jix sh a i = some r) : ∃ n : Nat, sh[a]? = some (.inr (r.1, n, r.2.2)) ∧ vp_in i n ∧ r.2.1 = i.toNatClampNeg := by
  unfold jix at h
  split at h
  · next t n rs hs =>
    by_cases hi : i < 0 ∨ n ≤ i.toNatClampNeg
    · rw [if_pos hi] at h; cases h
    · rw [if_neg hi] at h
      cases h
      exact ⟨n, hs, hi, rfl⟩
  · cases h
theorem jo_int {a n t : Nat} {rs : List Nat} (h : sh[a]? = some (.inr (t, n, rs))) (ht : t < 3) : (jW sh α cA M)[a]? = some (α a, .inl (cA t, n, .inl (M.1 a))) := by
  rw [jW_at h]
  simp only [jcell]
  rw [if_neg (by omega), if_pos ht]
theorem jo_long {a n : Nat} {rs : List Nat} (h : sh[a]? = some (.inr (3, n, rs))) : (jW sh α cA M)[a]? = some (α a, .inl (cA 3, n, .inr (.inl (M.2 a)))) := by
  rw [jW_at h]
  rfl
theorem jo_refs {a n t : Nat} {rs : List Nat} (h : sh[a]? = some (.inr (t, n, rs))) (ht : 4 ≤ t) : (jW sh α cA M)[a]? = some (α a, .inl (cA t, n, .inr (.inr (.inr (.inr (fun k => (rs[k]?).map α)))))) := by
  rw [jW_at h]
  simp only [jcell]
  rw [if_neg (by omega), if_neg (by omega)]
theorem jo_intS {a n t k : Nat} {rs : List Nat} {x : Int32} (h : sh[a]? = some (.inr (t, n, rs))) (ht : t < 3) : (jW sh α cA M).set a (α a, .inl (cA t, n, .inl (upd (M.1 a) k x))) = jW sh α cA (jsi M a k x) := by
  refine jW_set h (fun i hi => jsi_ne hi) ?_
  simp only [jcell, jsi_row]
  rw [if_neg (by omega), if_pos ht]
theorem jo_longS {a n k : Nat} {rs : List Nat} {x : Int64} (h : sh[a]? = some (.inr (3, n, rs))) : (jW sh α cA M).set a (α a, .inl (cA 3, n, .inr (.inl (vp_updL (M.2 a) k x)))) = jW sh α cA (jsl M a k x) := by
  refine jW_set h (fun i hi => jsl_ne hi) ?_
  simp only [jcell, jsl_row]
  rfl
theorem jo_obj {a ci : Nat} {fs : List (Nat × Nat)} (h : sh[a]? = some (.inl (ci, fs))) : (jW sh α cA M)[a]? = some (α a, .inr (ci, fs.mapIdx (fun k f => jv α (jfv M a k f)))) := jW_at h
theorem jo_fsI {a k : Nat} {fs : List (Nat × Nat)} {f : Nat × Nat} {x : Int32} (hf : fs[k]? = some f) (ht : f.1 = 0 ∨ f.1 = 3) : (fs.mapIdx (fun k f => jv α (jfv M a k f))).set k (.int x) = fs.mapIdx (fun k' f => jv α (jfv (jsi M a k x) a k' f)) := by
  apply List.ext_getElem?
  intro i
  rw [List.getElem?_set]
  by_cases hi : k = i
  · subst hi
    have hl : k < fs.length := (List.getElem?_eq_some_iff.mp hf).1
    rw [if_pos rfl, if_pos (by simpa using hl), List.getElem?_mapIdx, hf]
    simp only [Option.map_some]
    congr 1
    rcases ht with ht | ht <;> simp [jfv, ht, jsi, jv]
  · rw [if_neg hi, List.getElem?_mapIdx, List.getElem?_mapIdx]
    cases hx : fs[i]? with
    | none => rfl
    | some z =>
      simp only [Option.map_some]
      congr 2
      simp only [jfv, jsi]
      rw [if_neg (fun q : True ∧ i = k => hi q.2.symm)]
theorem jo_fsL {a k : Nat} {fs : List (Nat × Nat)} {f : Nat × Nat} {x : Int64} (hf : fs[k]? = some f) (ht : f.1 = 1) : (fs.mapIdx (fun k f => jv α (jfv M a k f))).set k (.long x) = fs.mapIdx (fun k' f => jv α (jfv (jsl M a k x) a k' f)) := by
  apply List.ext_getElem?
  intro i
  rw [List.getElem?_set]
  by_cases hi : k = i
  · subst hi
    have hl : k < fs.length := (List.getElem?_eq_some_iff.mp hf).1
    rw [if_pos rfl, if_pos (by simpa using hl), List.getElem?_mapIdx, hf]
    simp only [Option.map_some]
    congr 1
    simp [jfv, ht, jsl, jv]
  · rw [if_neg hi, List.getElem?_mapIdx, List.getElem?_mapIdx]
    cases hx : fs[i]? with
    | none => rfl
    | some z =>
      simp only [Option.map_some]
      congr 2
      simp only [jfv, jsl]
      rw [if_neg (fun q : True ∧ i = k => hi q.2.symm)]
theorem jo_objI {a ci k : Nat} {fs : List (Nat × Nat)} {f : Nat × Nat} {x : Int32} (h : sh[a]? = some (.inl (ci, fs))) (hf : fs[k]? = some f) (ht : f.1 = 0 ∨ f.1 = 3) : (jW sh α cA M).set a (α a, .inr (ci, (fs.mapIdx (fun k f => jv α (jfv M a k f))).set k (.int x))) = jW sh α cA (jsi M a k x) := by
  refine jW_set h (fun i hi => jsi_ne hi) ?_
  rw [jo_fsI hf ht]
  rfl
theorem jo_objL {a ci k : Nat} {fs : List (Nat × Nat)} {f : Nat × Nat} {x : Int64} (h : sh[a]? = some (.inl (ci, fs))) (hf : fs[k]? = some f) (ht : f.1 = 1) : (jW sh α cA M).set a (α a, .inr (ci, (fs.mapIdx (fun k f => jv α (jfv M a k f))).set k (.long x))) = jW sh α cA (jsl M a k x) := by
  refine jW_set h (fun i hi => jsl_ne hi) ?_
  rw [jo_fsL hf ht]
  rfl
end JTwo
end
section
/-- the tables are what the words say, for a method E -/
def jOk1 (T : jT) (GW NW : List Cond) (cl : List vw_C) (E : jE) : Prop :=
  (∀ (i : Nat) (f : Nat × Nat × Bool), T.2.2.2.1 E.2.2.2.2.2.1 i = some f → jFl GW NW cl E.1.cls i f) ∧ (∀ (i : Nat) (v : Value), T.2.2.2.2.2.1 E.2.2.2.2.2.1 i = some v → jKo GW E.1.cls i v) ∧
  (∀ (a ci : Nat) (fs : List (Nat × Nat)) (k : Nat) (f : Nat × Nat), T.1[a]? = some (Sum.inl (ci, fs)) → fs[k]? = some f → jFo cl ci k f.1) ∧ (∀ (ci : Nat) (q : vw_C), cl[ci]? = some q → jCo GW q)
section JThree
variable {T : jT} {GW NW : List Cond} {E : jE}
variable {α : Nat → Nat} {cA : Nat → ClassId} {cl : List vw_C} {D : va_G} {A : Nat → Prop} {H0 : Heap} {p : Program} {l : Launch} {e : Env} {R : Room} {s : State} {m : MethodId} {args : Array Value} {below : List Frame} {meth : Method} {c : Code} {cells slots : Nat} {Q : State → Prop}
variable {pc : Nat} {L : List (Nat × Value)} {S : List Value} {M : jM} {g : jC}
theorem jf_get (ok : jOk1 T GW NW cl E) (X : jX GW NW cl (jtys cA) D E p s m args c) {i : Nat} {f : Nat × Nat × Bool} (hf : T.2.2.2.1 E.2.2.2.2.2.1 i = some f) {a : Nat} {v : Value} (hg : jget T.1 M a f.1 f.2.1 = some v) (hd : decode E.2.1 pc = .ok (.getfield i, 3))
    (k : jG T.1 α cA cl D A H0 E.2.2.1 p l e R s m args below meth c cells slots Q (pc + 3, L, v :: S, M)) : jG T.1 α cA cl D A H0 E.2.2.1 p l e R s m args below meth c cells slots Q (pc, L, .ref a :: S, M) := by
  obtain ⟨hx, hb, hml, hown, hts, hnw, hK⟩ := X
  obtain ⟨okF, -, okS, okC⟩ := ok
  unfold jget at hg
  split at hg
  · next ci fs hs =>
    by_cases hc : ci = f.1
    · rw [if_pos hc] at hg
      subst hc
      split at hg
      · next fd hfd =>
        cases hg
        obtain ⟨C, Tt, N, hcl, hk, -⟩ := okS _ _ _ _ _ hs hfd
        obtain ⟨hin, -, -⟩ := okC _ _ hcl
        have hfl := okF i f hf C Tt N hcl
        intro H locs ls hr
        have hv : (fs.mapIdx (fun k f => jv α (jfv M a k f)))[f.2.1]? = some (jv α (jfv M a f.2.1 fd)) := by rw [List.getElem?_mapIdx, hfd]; rfl
        cases hn : f.2.2 with
        | false =>
          exact va_get (ref := (Tt f.2.1).1) hx hb hts hin hown hK hr.1 a (jo_obj hs) hcl f.2.1 hk (hts _ (hfl.1 hn)) (fun _ h => h) hv hd (k H locs ls hr)
        | true =>
          obtain ⟨host, hw⟩ := hfl.2 hn
          exact va_getN (ref := (Tt f.2.1).1) (host := host) hx hb hts hin hown hK hr.1 a (jo_obj hs) hcl f.2.1 hk (va_Nw.use rfl (hnw _ hw)) (fun _ h => h) hv hd (k H locs ls hr)
      · cases hg
    · rw [if_neg hc] at hg; cases hg
  · cases hg
theorem jf_put1 (ok : jOk1 T GW NW cl E) (X : jX GW NW cl (jtys cA) D E p s m args c) (hD : ∀ M, va_D A (jW T.1 α cA M)) {i : Nat} {f : Nat × Nat × Bool} (hf : T.2.2.2.1 E.2.2.2.2.2.1 i = some f) {a : Nat} {v v' : Value} {M' : jM} {fs : List (Nat × Nat)} {fd : Nat × Nat} {ty : FieldType}
    (hs : T.1[a]? = some (.inl (f.1, fs))) (hfd : fs[f.2.1]? = some fd) (hty : ∀ (C : String) (Tt : u_T) (N : Nat), cl[f.1]? = some (C, Tt, N) → jFo cl f.1 f.2.1 fd.1 → parseFieldDescriptor (Tt f.2.1).2.2.1 = some ty ∧ (Tt f.2.1).2.2.2 = false) (hv : jv α v = v') (hn : narrow ty v' = v') (hfit : fits ty v' = true)
    (hw : (jW T.1 α cA M).set a (α a, .inr (f.1, (fs.mapIdx (fun k f => jv α (jfv M a k f))).set f.2.1 v')) = jW T.1 α cA M') (hd : decode E.2.1 pc = .ok (.putfield i, 3))
    (k : jG T.1 α cA cl D A H0 E.2.2.1 p l e R s m args below meth c cells slots Q (pc + 3, L, S, M')) : jG T.1 α cA cl D A H0 E.2.2.1 p l e R s m args below meth c cells slots Q (pc, L, v :: .ref a :: S, M) := by
  obtain ⟨hx, hb, hml, hown, hts, hnw, hK⟩ := X
  obtain ⟨okF, -, okS, okC⟩ := ok
  have hfo := okS _ _ _ _ _ hs hfd
  obtain ⟨C, Tt, N, hcl, hk, -⟩ := id hfo
  obtain ⟨hpd, hfin⟩ := hty C Tt N hcl hfo
  obtain ⟨hin, ⟨ty0, hty0⟩, hnm⟩ := okC _ _ hcl
  have hfl := okF i f hf C Tt N hcl
  have hl : f.2.1 < (fs.mapIdx (fun k f => jv α (jfv M a k f))).length := by
    rw [List.length_mapIdx]
    exact (List.getElem?_eq_some_iff.mp hfd).1
  intro H locs ls hr
  show W p l e R s m args below meth c H locs cells slots Q (F0 m pc ls (jv α v :: .ref (α a) :: S.map (jv α)))
  rw [hv]
  cases hn2 : f.2.2 with
  | false =>
    exact va_put (ref := (Tt f.2.1).1) hx hb hts hin ty0 hty0 hnm hown hK hr.1 (hD M) hr.2.1 a (jo_obj hs) hcl f.2.1 hk (hts _ (hfl.1 hn2)) (fun _ h => h) hfin hpd hn hfit hl hd (fun H1 locs1 hP1 _ hS1 => k H1 locs1 ls ⟨by rw [hw] at hP1; exact hP1, hS1, hr.2.2⟩)
  | true =>
    obtain ⟨host, hw2⟩ := hfl.2 hn2
    exact va_putN (ref := (Tt f.2.1).1) (host := host) hx hb hts hin ty0 hty0 hnm hown hK hr.1 (hD M) hr.2.1 a (jo_obj hs) hcl f.2.1 hk (va_Nw.use rfl (hnw _ hw2)) (fun _ h => h) hfin hpd hn hfit hl hd (fun H1 locs1 hP1 _ hS1 => k H1 locs1 ls ⟨by rw [hw] at hP1; exact hP1, hS1, hr.2.2⟩)
theorem jf_put (ok : jOk1 T GW NW cl E) (X : jX GW NW cl (jtys cA) D E p s m args c) (hD : ∀ M, va_D A (jW T.1 α cA M)) {i : Nat} {f : Nat × Nat × Bool} (hf : T.2.2.2.1 E.2.2.2.2.2.1 i = some f) {a : Nat} {v : Value} {M' : jM} (hg : jput T.1 M a f.1 f.2.1 v = some M') (hd : decode E.2.1 pc = .ok (.putfield i, 3))
    (k : jG T.1 α cA cl D A H0 E.2.2.1 p l e R s m args below meth c cells slots Q (pc + 3, L, S, M')) : jG T.1 α cA cl D A H0 E.2.2.1 p l e R s m args below meth c cells slots Q (pc, L, v :: .ref a :: S, M) := by
  unfold jput at hg
  split at hg
  · next ci fs hs =>
    by_cases hc : ci = f.1
    · rw [if_pos hc] at hg
      subst hc
      split at hg
      · next fd hfd =>
        split at hg
        · next x =>
          by_cases h0 : fd.1 = 0
          · rw [if_pos h0] at hg
            cases hg
            refine jf_put1 ok X hD hf (ty := .int) hs hfd (fun C Tt N hcl hfo => ?_) rfl rfl rfl (jo_objI hs hfd (Or.inl h0)) hd k
            obtain ⟨C', T', N', hcl', -, h1, -⟩ := hfo
            cases hcl.symm.trans hcl'
            exact h1 h0
          · rw [if_neg h0] at hg
            by_cases h3 : fd.1 = 3
            · rw [if_pos h3] at hg
              by_cases hx : x = 0 ∨ x = 1
              · rw [if_pos hx] at hg
                cases hg
                refine jf_put1 ok X hD hf (ty := .boolean) hs hfd (fun C Tt N hcl hfo => ?_) rfl (by rcases hx with rfl | rfl <;> rfl) (by rcases hx with rfl | rfl <;> rfl) (jo_objI hs hfd (Or.inr h3)) hd k
                obtain ⟨C', T', N', hcl', -, -, -, h1⟩ := hfo
                cases hcl.symm.trans hcl'
                exact h1 h3
              · rw [if_neg hx] at hg; cases hg
            · rw [if_neg h3] at hg; cases hg
        · next x =>
          by_cases h0 : fd.1 = 1
          · rw [if_pos h0] at hg
            cases hg
            refine jf_put1 ok X hD hf (ty := .long) hs hfd (fun C Tt N hcl hfo => ?_) rfl rfl rfl (jo_objL hs hfd h0) hd k
            obtain ⟨C', T', N', hcl', -, -, h1, -⟩ := hfo
            cases hcl.symm.trans hcl'
            exact h1 h0
          · rw [if_neg h0] at hg; cases hg
        · cases hg
      · cases hg
    · rw [if_neg hc] at hg; cases hg
  · cases hg
end JThree
end
section
section JFour
variable {T : jT} {GW NW : List Cond} {E : jE}
variable {α : Nat → Nat} {cA : Nat → ClassId} {cl : List vw_C} {D : va_G} {A : Nat → Prop} {H0 : Heap} {p : Program} {l : Launch} {e : Env} {R : Room} {s : State} {m : MethodId} {args : Array Value} {below : List Frame} {meth : Method} {c : Code} {cells slots : Nat} {Q : State → Prop}
variable {pc : Nat} {L : List (Nat × Value)} {S : List Value} {M : jM} {g : jC}
theorem jlen1 {ins : Instr} {n : Nat} {cc : ByteArray} (hd : decode cc pc = .ok (ins, n)) (hn : jlen ins = 0 ∨ n = jlen ins) (h0 : ¬ jlen ins = 0) : decode cc pc = .ok (ins, jlen ins) := by
  rcases hn with h | h
  · exact absurd h h0
  · rw [← h]; exact hd
set_option maxHeartbeats 4000000 in
theorem jone_snd (ok : jOk1 T GW NW cl E) (X : jX GW NW cl (jtys cA) D E p s m args c) (hD : ∀ M, va_D A (jW T.1 α cA M)) {ins : Instr} {n : Nat} (hd : decode E.2.1 pc = .ok (ins, n)) (hn : jlen ins = 0 ∨ n = jlen ins) (h : jone T E ins (pc, L, S, M) = some g)
    (k : jG T.1 α cA cl D A H0 E.2.2.1 p l e R s m args below meth c cells slots Q g) : jG T.1 α cA cl D A H0 E.2.2.1 p l e R s m args below meth c cells slots Q (pc, L, S, M) := by
  obtain ⟨hx, hb, hml, hown, hts, hnw, hK⟩ := id X
  cases ins with
  | iconst i => cases h; have hd := jlen1 hd hn (Nat.succ_ne_zero _); exact fun H locs ls hr => lv_iconst hx hb hd rfl (k H locs ls hr)
  | bipush i => cases h; have hd := jlen1 hd hn (Nat.succ_ne_zero _); exact fun H locs ls hr => lv_bipush hx hb hd rfl (k H locs ls hr)
  | sipush i => cases h; have hd := jlen1 hd hn (Nat.succ_ne_zero _); exact fun H locs ls hr => lv_sipush hx hb hd rfl (k H locs ls hr)
  | lconst i => cases h; have hd := jlen1 hd hn (Nat.succ_ne_zero _); exact fun H locs ls hr => lv_lconst hx hb hd rfl (k H locs ls hr)
  | aconst_null => cases h; have hd := jlen1 hd hn (Nat.succ_ne_zero _); exact fun H locs ls hr => lv_null hx hb hd (k H locs ls hr)
  | ldc i =>
    have hd := jlen1 hd hn (Nat.succ_ne_zero _)
    unfold jone at h
    dsimp only at h
    split at h
    · next v hv =>
      cases h
      exact fun H locs ls hr => lv_ldc hx hb hown (hts _ ((ok.2.1 i _ hv).1 v rfl)) hd (k H locs ls hr)
    · cases h
  | ldc_w i =>
    have hd := jlen1 hd hn (Nat.succ_ne_zero _)
    unfold jone at h
    dsimp only at h
    split at h
    · next v hv =>
      cases h
      exact fun H locs ls hr => lv_ldcw hx hb hown (hts _ ((ok.2.1 i _ hv).1 v rfl)) hd (k H locs ls hr)
    · cases h
  | ldc2_w i =>
    have hd := jlen1 hd hn (Nat.succ_ne_zero _)
    unfold jone at h
    dsimp only at h
    split at h
    · next v hv =>
      cases h
      exact fun H locs ls hr => lv_ldc2 hx hb hown (hts _ ((ok.2.1 i _ hv).2 v rfl)) hd (k H locs ls hr)
    · cases h
  | iload_n i => have hd := jlen1 hd hn (Nat.succ_ne_zero _); exact jo_li (fun a b => lv_iload_n hx hb hd rfl a b) h k
  | iload i => have hd := jlen1 hd hn (Nat.succ_ne_zero _); exact jo_li (fun a b => lv_iload hx hb hd a b) h k
  | lload_n i => have hd := jlen1 hd hn (Nat.succ_ne_zero _); exact jo_ll (fun a b => lv_lload_n hx hb hd rfl a b) h k
  | lload i => have hd := jlen1 hd hn (Nat.succ_ne_zero _); exact jo_ll (fun a b => lv_lload hx hb hd a b) h k
  | aload_n i => have hd := jlen1 hd hn (Nat.succ_ne_zero _); exact jo_la (fun a b => lv_aload_n hx hb hd rfl a b) (fun a b => lv_aload_nN hx hb hd rfl a b) h k
  | aload i => have hd := jlen1 hd hn (Nat.succ_ne_zero _); exact jo_la (fun a b => lv_aload hx hb hd a b) (fun a b => lv_aloadN hx hb hd a b) h k
  | istore_n i => have hd := jlen1 hd hn (Nat.succ_ne_zero _); exact jo_is (fun a b d f => lv_istore_n hx hb hd rfl a b d f) h k
  | istore i => have hd := jlen1 hd hn (Nat.succ_ne_zero _); exact jo_is (fun a b d f => lv_istore hx hb hd a b d f) h k
  | lstore_n i => have hd := jlen1 hd hn (Nat.succ_ne_zero _); exact jo_ls (fun a b d f => lv_lstore_n hx hb hd rfl a b d f) h k
  | lstore i => have hd := jlen1 hd hn (Nat.succ_ne_zero _); exact jo_ls (fun a b d f => lv_lstore hx hb hd a b d f) h k
  | astore_n i => have hd := jlen1 hd hn (Nat.succ_ne_zero _); exact jo_as (fun a b d f => lv_astore_n hx hb hd rfl a b d f) (fun a b d f => lv_astore_nN hx hb hd rfl a b d f) h k
  | astore i => have hd := jlen1 hd hn (Nat.succ_ne_zero _); exact jo_as (fun a b d f => lv_astore hx hb hd a b d f) (fun a b d f => lv_astoreN hx hb hd a b d f) h k
  | iinc i z =>
    have hd := jlen1 hd hn (Nat.succ_ne_zero _)
    unfold jone at h
    dsimp only at h
    split at h
    · next x hk =>
      by_cases hi : i < E.2.2.1
      · rw [if_pos hi] at h
        cases h
        exact ja_iinc hx hb hk hi hd k
      · rw [if_neg hi] at h; cases h
    · cases h
  | iadd => have hd := jlen1 hd hn (Nat.succ_ne_zero _); exact jo_ii (fun a => lv_iadd hx hb hd a) h k
  | isub => have hd := jlen1 hd hn (Nat.succ_ne_zero _); exact jo_ii (fun a => lv_isub hx hb hd a) h k
  | imul => have hd := jlen1 hd hn (Nat.succ_ne_zero _); exact jo_ii (fun a => lv_imul hx hb hd a) h k
  | iand => have hd := jlen1 hd hn (Nat.succ_ne_zero _); exact jo_ii (fun a => lv_iand hx hb hd a) h k
  | ior => have hd := jlen1 hd hn (Nat.succ_ne_zero _); exact jo_ii (fun a => lv_ior hx hb hd a) h k
  | ixor => have hd := jlen1 hd hn (Nat.succ_ne_zero _); exact jo_ii (fun a => lv_ixor hx hb hd a) h k
  | ishl => have hd := jlen1 hd hn (Nat.succ_ne_zero _); exact jo_ii (fun a => lv_ishl hx hb hd a) h k
  | ishr => have hd := jlen1 hd hn (Nat.succ_ne_zero _); exact jo_ii (fun a => lv_ishr hx hb hd a) h k
  | iushr => have hd := jlen1 hd hn (Nat.succ_ne_zero _); exact jo_ii (fun a => lv_iushr hx hb hd rfl a) h k
  | idiv => have hd := jlen1 hd hn (Nat.succ_ne_zero _); exact jo_ij (fun b a => lv_idiv hx hb hd b a) h k
  | irem => have hd := jlen1 hd hn (Nat.succ_ne_zero _); exact jo_ij (fun b a => lv_irem hx hb hd b a) h k
  | ladd => have hd := jlen1 hd hn (Nat.succ_ne_zero _); exact jo_LL (fun a => lv_ladd hx hb hd a) h k
  | lsub => have hd := jlen1 hd hn (Nat.succ_ne_zero _); exact jo_LL (fun a => lv_lsub hx hb hd a) h k
  | lmul => have hd := jlen1 hd hn (Nat.succ_ne_zero _); exact jo_LL (fun a => lv_lmul hx hb hd a) h k
  | ldiv => have hd := jlen1 hd hn (Nat.succ_ne_zero _); exact jo_LM (fun b a => lv_ldiv hx hb hd b a) h k
  | lrem => have hd := jlen1 hd hn (Nat.succ_ne_zero _); exact jo_LM (fun b a => lv_lrem hx hb hd b a) h k
  | ineg =>
    have hd := jlen1 hd hn (Nat.succ_ne_zero _)
    unfold jone at h
    dsimp only at h
    split at h
    · cases h
      exact fun H locs ls hr => lv_ineg hx hb hd (k H locs ls hr)
    · cases h
  | lneg =>
    have hd := jlen1 hd hn (Nat.succ_ne_zero _)
    unfold jone at h
    dsimp only at h
    split at h
    · cases h
      exact fun H locs ls hr => lv_lneg hx hb hd (k H locs ls hr)
    · cases h
  | lcmp =>
    have hd := jlen1 hd hn (Nat.succ_ne_zero _)
    unfold jone at h
    dsimp only at h
    split at h
    · cases h
      exact fun H locs ls hr => W.lcmp hx hb hd (k H locs ls hr)
    · cases h
  | i2l =>
    have hd := jlen1 hd hn (Nat.succ_ne_zero _)
    unfold jone at h
    dsimp only at h
    split at h
    · cases h
      exact fun H locs ls hr => lv_i2l hx hb hd rfl (k H locs ls hr)
    · cases h
  | l2i =>
    have hd := jlen1 hd hn (Nat.succ_ne_zero _)
    unfold jone at h
    dsimp only at h
    split at h
    · cases h
      exact fun H locs ls hr => lv_l2i hx hb hd rfl (k H locs ls hr)
    · cases h
  | i2b =>
    have hd := jlen1 hd hn (Nat.succ_ne_zero _)
    unfold jone at h
    dsimp only at h
    split at h
    · cases h
      exact fun H locs ls hr => lv_i2b hx hb hd rfl (k H locs ls hr)
    · cases h
  | dup =>
    have hd := jlen1 hd hn (Nat.succ_ne_zero _)
    unfold jone at h
    dsimp only at h
    split at h
    · next v S' =>
      by_cases hc : v.category = 1
      · rw [if_pos hc] at h
        cases h
        exact fun H locs ls hr => lv_dup hx hb hd ((jv_cat α v).trans hc) (k H locs ls hr)
      · rw [if_neg hc] at h; cases h
    · cases h
  | pop =>
    have hd := jlen1 hd hn (Nat.succ_ne_zero _)
    unfold jone at h
    dsimp only at h
    split at h
    · next v S' =>
      by_cases hc : v.category = 1
      · rw [if_pos hc] at h
        cases h
        exact fun H locs ls hr => lv_pop hx hb hd ((jv_cat α v).trans hc) (k H locs ls hr)
      · rw [if_neg hc] at h; cases h
    · cases h
  | dup2 =>
    have hd := jlen1 hd hn (Nat.succ_ne_zero _)
    unfold jone at h
    dsimp only at h
    split at h
    · next v w S' =>
      by_cases hc : v.category = 1 ∧ w.category = 1
      · rw [if_pos hc] at h
        cases h
        exact fun H locs ls hr => lv_dup2_11 hx hb hd ((jv_cat α v).trans hc.1) ((jv_cat α w).trans hc.2) (k H locs ls hr)
      · rw [if_neg hc] at h; cases h
    · cases h
  | ifCond co off =>
    have hd := jlen1 hd hn (Nat.succ_ne_zero _)
    cases co with
    | eq => exact jo_c1 (P := fun a => a = 0) (fun a => decide_eq_true_iff) (fun ht a b => lv_if_eq hx hb hd ht a b) h k
    | ne => exact jo_c1 (P := fun a => ¬ a = 0) (fun a => by simp) (fun ht a b => lv_if_ne hx hb hd ht a (fun q => b (fun z => z q))) h k
    | lt => exact jo_c1 (P := fun a => a < 0) (fun a => decide_eq_true_iff) (fun ht a b => lv_if_lt hx hb hd ht a b) h k
    | ge => exact jo_c1 (P := fun a => 0 ≤ a) (fun a => decide_eq_true_iff) (fun ht a b => lv_if_ge hx hb hd ht a b) h k
    | gt => exact jo_c1 (P := fun a => 0 < a) (fun a => decide_eq_true_iff) (fun ht a b => lv_if_gt hx hb hd ht a b) h k
    | le => exact jo_c1 (P := fun a => a ≤ 0) (fun a => decide_eq_true_iff) (fun ht a b => lv_if_le hx hb hd ht a b) h k
  | if_icmp co off =>
    have hd := jlen1 hd hn (Nat.succ_ne_zero _)
    cases co with
    | eq => exact jo_c2 (P := fun a b => a = b) (fun a b => decide_eq_true_iff) (fun ht a b => lv_icmp_eq hx hb hd ht a b) h k
    | ne => exact jo_c2 (P := fun a b => ¬ a = b) (fun a b => by simp) (fun ht a b => lv_icmp_ne hx hb hd ht a (fun q => b (fun z => z q))) h k
    | lt => exact jo_c2 (P := fun a b => a < b) (fun a b => decide_eq_true_iff) (fun ht a b => lv_icmp_lt hx hb hd ht a b) h k
    | ge => exact jo_c2 (P := fun a b => b ≤ a) (fun a b => decide_eq_true_iff) (fun ht a b => lv_icmp_ge hx hb hd ht a b) h k
    | gt => exact jo_c2 (P := fun a b => b < a) (fun a b => decide_eq_true_iff) (fun ht a b => lv_icmp_gt hx hb hd ht a b) h k
    | le => exact jo_c2 (P := fun a b => a ≤ b) (fun a b => decide_eq_true_iff) (fun ht a b => lv_icmp_le hx hb hd ht a b) h k
  | goto off =>
    have hd := jlen1 hd hn (Nat.succ_ne_zero _)
    obtain ⟨t, ht, rfl⟩ := jo_go h
    exact fun H locs ls hr => lv_goto hx hb hd ht (k H locs ls hr)
  | ifnull off =>
    have hd := jlen1 hd hn (Nat.succ_ne_zero _)
    unfold jone at h
    dsimp only at h
    split at h
    · obtain ⟨t, ht, rfl⟩ := jo_go h
      exact fun H locs ls hr => lv_ifnullN hx hb hd ht (k H locs ls hr)
    · cases h
      exact fun H locs ls hr => lv_ifnull hx hb hd (k H locs ls hr)
    · cases h
  | ifnonnull off =>
    have hd := jlen1 hd hn (Nat.succ_ne_zero _)
    unfold jone at h
    dsimp only at h
    split at h
    · obtain ⟨t, ht, rfl⟩ := jo_go h
      exact fun H locs ls hr => lv_ifnonnull hx hb hd ht (k H locs ls hr)
    · cases h
      exact fun H locs ls hr => lv_ifnonnullN hx hb hd (k H locs ls hr)
    · cases h
  | tableswitch d lo hi offs =>
    unfold jone at h
    dsimp only at h
    split at h
    · next x S' =>
      by_cases hc : x.toInt < lo ∨ hi < x.toInt
      · rw [if_pos hc] at h
        obtain ⟨t, ht, rfl⟩ := jo_go h
        exact fun H locs ls hr => lv_tableOut hx hb hd hc ht (k H locs ls hr)
      · rw [if_neg hc] at h
        split at h
        · next off ho =>
          obtain ⟨t, ht, rfl⟩ := jo_go h
          exact fun H locs ls hr => lv_tableIn hx hb hd (fun q => hc (Or.inl q)) (fun q => hc (Or.inr q)) ho ht (k H locs ls hr)
        · cases h
    · cases h
  | getfield i =>
    have hd := jlen1 hd hn (Nat.succ_ne_zero _)
    unfold jone at h
    dsimp only at h
    split at h
    · next f hf =>
      split at h
      · next a S' =>
        split at h
        · next v hv =>
          cases h
          exact jf_get ok X hf hv hd k
        · cases h
      · cases h
    · cases h
  | putfield i =>
    have hd := jlen1 hd hn (Nat.succ_ne_zero _)
    unfold jone at h
    dsimp only at h
    split at h
    · next f hf =>
      split at h
      · next v a S' =>
        split at h
        · next M' hv =>
          cases h
          exact jf_put ok X hD hf hv hd k
        · cases h
      · cases h
    · cases h
  | iaload =>
    have hd := jlen1 hd hn (Nat.succ_ne_zero _)
    unfold jone at h
    dsimp only at h
    split at h
    · next i a S' =>
      split at h
      · next t q rs hi =>
        by_cases ht : t = 0
        · rw [if_pos ht] at h
          cases h
          obtain ⟨n', h1, h2, h3⟩ := jo_ix hi
          dsimp only at h1 h3
          subst ht h3
          exact fun H locs ls hr => va_iald hx hb hK hr.1 a 0 (jo_int h1 (by decide)) (jtys_at cA (by decide)) h2 hd (k H locs ls hr)
        · rw [if_neg ht] at h; cases h
      · cases h
    · cases h
  | baload =>
    have hd := jlen1 hd hn (Nat.succ_ne_zero _)
    unfold jone at h
    dsimp only at h
    split at h
    · next i a S' =>
      split at h
      · next t q rs hi =>
        by_cases ht : t = 1 ∨ t = 2
        · rw [if_pos ht] at h
          cases h
          obtain ⟨n', h1, h2, h3⟩ := jo_ix hi
          dsimp only at h1 h3
          subst h3
          rcases ht with rfl | rfl
          · exact fun H locs ls hr => va_bald hx hb hK hr.1 a 1 (jo_int h1 (by decide)) (jtys_at cA (by decide)) h2 hd (k H locs ls hr)
          · exact fun H locs ls hr => va_zald hx hb hK hr.1 a 2 (jo_int h1 (by decide)) (jtys_at cA (by decide)) h2 hd (k H locs ls hr)
        · rw [if_neg ht] at h; cases h
      · cases h
    · cases h
  | laload =>
    have hd := jlen1 hd hn (Nat.succ_ne_zero _)
    unfold jone at h
    dsimp only at h
    split at h
    · next i a S' =>
      split at h
      · next t q rs hi =>
        by_cases ht : t = 3
        · rw [if_pos ht] at h
          cases h
          obtain ⟨n', h1, h2, h3⟩ := jo_ix hi
          dsimp only at h1 h3
          subst ht h3
          exact fun H locs ls hr => va_lald hx hb hK hr.1 a 3 (jo_long h1) (jtys_at cA (by decide)) h2 hd (k H locs ls hr)
        · rw [if_neg ht] at h; cases h
      · cases h
    · cases h
  | aaload =>
    have hd := jlen1 hd hn (Nat.succ_ne_zero _)
    unfold jone at h
    dsimp only at h
    split at h
    · next i a S' =>
      split at h
      · next t q rs hi =>
        by_cases ht : 4 ≤ t ∧ t < 8
        · rw [if_pos ht] at h
          split at h
          · next r hr2 =>
            cases h
            obtain ⟨n', h1, h2, h3⟩ := jo_ix hi
            dsimp only at h1 h3
            subst h3
            refine fun H locs ls hr => ja_aald hx hb hK hr.1 a t (jo_refs h1 ht.1) (jtys_at cA ht.2) (jty_ref ht.1) h2 hd ?_
            rw [hr2]
            exact k H locs ls hr
          · cases h
        · rw [if_neg ht] at h; cases h
      · cases h
    · cases h
  | iastore =>
    have hd := jlen1 hd hn (Nat.succ_ne_zero _)
    unfold jone at h
    dsimp only at h
    split at h
    · next x i a S' =>
      split at h
      · next t q rs hi =>
        by_cases ht : t = 0
        · rw [if_pos ht] at h
          cases h
          obtain ⟨n', h1, h2, h3⟩ := jo_ix hi
          dsimp only at h1 h3
          subst ht h3
          exact fun H locs ls hr => va_iast hx hb hK hr.1 (hD M) hr.2.1 a 0 (jo_int h1 (by decide)) (jtys_at cA (by decide)) h2 hd (fun H1 locs1 hP1 _ hS1 => k H1 locs1 ls ⟨by rw [jo_intS h1 (by decide)] at hP1; exact hP1, hS1, hr.2.2⟩)
        · rw [if_neg ht] at h; cases h
      · cases h
    · cases h
  | lastore =>
    have hd := jlen1 hd hn (Nat.succ_ne_zero _)
    unfold jone at h
    dsimp only at h
    split at h
    · next x i a S' =>
      split at h
      · next t q rs hi =>
        by_cases ht : t = 3
        · rw [if_pos ht] at h
          cases h
          obtain ⟨n', h1, h2, h3⟩ := jo_ix hi
          dsimp only at h1 h3
          subst ht h3
          exact fun H locs ls hr => va_last hx hb hK hr.1 (hD M) hr.2.1 a 3 (jo_long h1) (jtys_at cA (by decide)) h2 hd (fun H1 locs1 hP1 _ hS1 => k H1 locs1 ls ⟨by rw [jo_longS h1] at hP1; exact hP1, hS1, hr.2.2⟩)
        · rw [if_neg ht] at h; cases h
      · cases h
    · cases h
  | bastore =>
    have hd := jlen1 hd hn (Nat.succ_ne_zero _)
    unfold jone at h
    dsimp only at h
    split at h
    · next x i a S' =>
      split at h
      · next t q rs hi =>
        obtain ⟨n', h1, h2, h3⟩ := jo_ix hi
        dsimp only at h1 h3
        subst h3
        by_cases ht : t = 1
        · rw [if_pos ht] at h
          cases h
          subst ht
          exact fun H locs ls hr => va_bast hx hb hK hr.1 (hD M) hr.2.1 a 1 (jo_int h1 (by decide)) (jtys_at cA (by decide)) h2 hd (fun H1 locs1 hP1 _ hS1 => k H1 locs1 ls ⟨by rw [jo_intS h1 (by decide), vp_nar_byte] at hP1; exact hP1, hS1, hr.2.2⟩)
        · rw [if_neg ht] at h
          by_cases ht : t = 2
          · rw [if_pos ht] at h
            cases h
            subst ht
            exact fun H locs ls hr => va_zast hx hb hK hr.1 (hD M) hr.2.1 a 2 (jo_int h1 (by decide)) (jtys_at cA (by decide)) h2 hd (fun H1 locs1 hP1 _ hS1 => k H1 locs1 ls ⟨by rw [jo_intS h1 (by decide)] at hP1; exact hP1, hS1, hr.2.2⟩)
          · rw [if_neg ht] at h; cases h
      · cases h
    · cases h
  | _ => cases h
end JFour
end
section
/-! calls, and runs -/
def jRoom (h : Nat) : Room := { frames := h, cells := 0, slots := 0, locals := 34 * h }
/-- a method's words and its instructions are what the tables say -/
def jOkM (T : jT) (GW NW : List Cond) (cl : List vw_C) (y : Nat) (E : jE) : Prop :=
  plainName E.1.cls = true ∧ Cond.code E.1 E.2.1 E.2.2.1 E.2.2.2.1 ∈ GW ∧ Cond.initialized E.1.cls ∈ GW ∧ (E.1.cls ≠ "java/lang/invoke/MethodHandle" ∧ E.1.cls ≠ "java/lang/invoke/VarHandle" ∧ (parseMethodDescriptor E.1.desc).map (fun d => d.parameters.length) = some E.2.2.2.2.2.2.2) ∧
  (E.2.2.2.2.2.2.1 = true → Cond.static E.1 ∈ GW) ∧ (E.2.2.2.2.2.2.1 = false → Cond.instanceMethod E.1 ∈ GW ∧ Cond.selects E.1.cls E.1 E.1 ∈ GW ∧ ∃ q : vw_C, cl[E.2.2.2.2.2.1]? = some q ∧ q.1 = E.1.cls) ∧ E.2.2.1 ≤ 15 ∧
  (∀ (pc : Nat) (ins : Instr), T.2.1 y pc = some ins → ∃ n : Nat, decode E.2.1 pc = .ok (ins, n) ∧ (jlen ins = 0 ∨ n = jlen ins)) ∧
  (∀ (i : Nat) (z : Nat × Bool), T.2.2.2.2.1 E.2.2.2.2.2.1 i = some z → ∀ F : jE, T.2.2.1 z.1 = some F → (z.2 = false → Cond.methodLink E.1.cls i F.1 ∈ GW) ∧ (z.2 = true → ∃ host : String, Cond.methodLinkNest E.1.cls i F.1 host ∈ NW)) ∧ jOk1 T GW NW cl E
def jNest (NW : List Cond) : Prop := ∀ w ∈ NW, (∃ (a : String) (i : Nat) (b n d h : String), w = .fieldLinkNest a i b n d h) ∨ (∃ (a : String) (i : Nat) (x : MethodName) (h : String), w = .methodLinkNest a i x h)
theorem jNest.warm {NW : List Cond} (hN : jNest NW) {s U : State} (hW : s.WarmedH U.vm) (h : ∀ w ∈ NW, va_Nw w s) : ∀ w ∈ NW, va_Nw w U := by
  intro w hw
  rcases hN w hw with ⟨a, i, b, n, d, o, rfl⟩ | ⟨a, i, x, o, rfl⟩
  · exact va_Nw.warmF hW (h _ hw)
  · exact va_Nw.warmM hW (h _ hw)
theorem jNest.same {NW : List Cond} (hN : jNest NW) {s U : State} (hW : s.vm = U.vm) (h : ∀ w ∈ NW, va_Nw w s) : ∀ w ∈ NW, va_Nw w U := by
  intro w hw
  rcases hN w hw with ⟨a, i, b, n, d, o, rfl⟩ | ⟨a, i, x, o, rfl⟩
  · exact va_Nw.same rfl hW (h _ hw)
  · exact va_Nw.same rfl hW (h _ hw)
/-- what a call finds -/
def jPc (NW : List Cond) (cl : List vw_C) (D : va_G) (sh : List jS) (α : Nat → Nat) (cA : Nat → ClassId) (M : jM) (as : List Value) : Array Value → State → Prop :=
  va_Pc (as.map (jv α)) (fun U => va_P D cl (jW sh α cA M) U.heap ∧ va_K D cl (jtys cA) U ∧ ∀ w ∈ NW, va_Nw w U)
/-- what a call leaves -/
def jQc (cl : List vw_C) (D : va_G) (sh : List jS) (α : Nat → Nat) (cA : Nat → ClassId) (A : Nat → Prop) (M : jM) (v : Option Value) : Array Value → State → Outcome → State → Prop :=
  fun _ st oc t => (oc = .returned (v.map (jv α)) ∧ va_P D cl (jW sh α cA M) t.heap) ∧ va_F A st t
theorem jPc_blind {NW : List Cond} (hN : jNest NW) {cl : List vw_C} {D : va_G} {sh : List jS} {α : Nat → Nat} {cA : Nat → ClassId} {M : jM} {as : List Value} : FrameBlind (jPc NW cl D sh α cA M as) := by
  intro a U g mk h
  obtain ⟨h1, h2, h3, h4⟩ := h
  exact ⟨h1, h2, va_K.moved (u := U) (U := U.calling g mk a) (Vm.Alike.refl U.vm) h3, hN.same (s := U) (U := U.calling g mk a) rfl h4⟩
theorem jargs_spec {T : jT} {E F : jE} {st : Bool} {S as rest : List Value} (h : jargs T E F st S = some (as, rest)) : S = as.reverse ++ rest ∧ as.length = F.2.2.2.2.2.2.2 + (if st then 0 else 1) ∧ F.2.2.2.2.2.2.1 = st ∧ F.2.2.2.2.1 < E.2.2.2.2.1 ∧ (rest.map (fun v => v.category)).sum ≤ 8 ∧ (lg_sl as).length ≤ F.2.2.1 ∧
    (st = false → ∃ (b : Nat) (as' : List Value) (fs : List (Nat × Nat)), as = .ref b :: as' ∧ T.1[b]? = some (.inl (F.2.2.2.2.2.1, fs))) := by
  unfold jargs at h
  dsimp only at h
  cases st with
  | true =>
    simp only [if_true, Nat.add_zero] at h ⊢
    split at h
    · next hc =>
      obtain ⟨c1, c2, c3, c4, c5⟩ := hc
      cases h
      exact ⟨by simp, c2, c1, c3, c4, c5, fun q => by cases q⟩
    · cases h
  | false =>
    simp only [Bool.false_eq_true, if_false] at h ⊢
    split at h
    · next hc =>
      obtain ⟨c1, c2, c3, c4, c5⟩ := hc
      split at h
      · next b as' hb =>
        split at h
        · next ci fs hs =>
          by_cases hci : ci = F.2.2.2.2.2.1
          · rw [if_pos hci] at h
            cases h
            refine ⟨by simp, c2, c1, c3, c4, c5, fun _ => ⟨b, as', fs, hb, ?_⟩⟩
            rw [hs, hci]
          · rw [if_neg hci] at h; cases h
        · cases h
      · cases h
    · cases h
section JFive
variable {T : jT} {GW NW : List Cond} {cl : List vw_C}
variable {α : Nat → Nat} {cA : Nat → ClassId} {D : va_G} {A : Nat → Prop} {H0 : Heap} {p : Program} {l : Launch} {e : Env} {R : Room} {s : State} {m : MethodId} {args : Array Value} {below : List Frame} {meth : Method} {c : Code} {H : Heap} {locs : List Loc} {cells slots : Nat} {Q : State → Prop}
variable {pc : Nat} {ls : Array Slot} {rest st0 : List Value} {a : Array Value}
theorem jcallW {sh : List jS} {v : Option Value} {M' : jM} (hr : va_Run p l e R s m args below meth c H locs cells slots 0 0 (F0 m pc ls st0) rest (jQc cl D sh α cA A M' v a) A) (hS : va_S A H0 H locs)
    (kk : ∀ (H1 : Heap) (locs1 : List Loc), va_P D cl (jW sh α cA M') H1 → va_S A H0 H1 locs1 → W p l e R s m args below meth c H1 locs1 cells slots Q (F0 m (pc + 3) ls ((v.map (jv α)).toList ++ rest))) : W p l e R s m args below meth c H locs cells slots Q (F0 m pc ls st0) := by
  intro U hU X
  obtain ⟨w, st₀, t, T', L, h0, X', hL, e1, e2, ⟨⟨hv, hP⟩, hz, hk⟩, st⟩ := hr U hU X
  cases hv
  rw [h0] at hz hk
  obtain ⟨t2, a1, b1⟩ := kk T'.heap (locs ++ L) (by rw [e1]; exact hP)
    ⟨Nat.le_trans hS.1 (by rw [e1]; exact hz), fun q h1 h2 => by rw [e1, hk q (Nat.lt_of_lt_of_le h1 hS.1) h2]; exact hS.2.1 q h1 h2, fun q hq => by
      rcases List.mem_append.mp hq with h | h
      · exact hS.2.2 q h
      · exact hL q h⟩ T' rfl X'
  exact ⟨t2, st t2 a1, b1⟩
end JFive
/-- runs of fuel n are sound -/
def jSnd (T : jT) (GW NW : List Cond) (cl : List vw_C) (n : Nat) : Prop :=
  ∀ (y : Nat) (E : jE), T.2.2.1 y = some E → ∀ (f o : jC), jrun T n y f = some o →
    ∀ {α : Nat → Nat} {cA : Nat → ClassId} {D : va_G} {A : Nat → Prop} {H0 : Heap} {p : Program} {l : Launch} {e : Env} {R : Room} {s : State} {m : MethodId} {args : Array Value} {below : List Frame} {meth : Method} {c : Code} {cells slots : Nat} {Q : State → Prop},
    jX GW NW cl (jtys cA) D E p s m args c → (∀ M, va_D A (jW T.1 α cA M)) → E.2.2.2.2.1 ≤ R.frames → 34 * E.2.2.2.2.1 ≤ R.locals → cells ≤ R.cells → slots ≤ R.slots →
    jG T.1 α cA cl D A H0 E.2.2.1 p l e R s m args below meth c cells slots Q o → jG T.1 α cA cl D A H0 E.2.2.1 p l e R s m args below meth c cells slots Q f
section JSix
variable {T : jT} {GW NW : List Cond} {cl : List vw_C}
variable {α : Nat → Nat} {cA : Nat → ClassId} {D : va_G} {A : Nat → Prop}
set_option maxHeartbeats 2000000 in
theorem jmet (ok : ∀ y E, T.2.2.1 y = some E → jOkM T GW NW cl y E) {n : Nat} (ih : jSnd T GW NW cl n) {z : Nat} {F : jE} (hF : T.2.2.1 z = some F) {as : List Value} {M : jM} {o : jC} {r : Instr} {v : Option Value} (hrun : jrun T n z (0, lv_args 0 as, [], M) = some o) (hr : T.2.1 z o.1 = some r) (hv : jback F r o.2.2.1 = some v) (hlen : (lg_sl as).length ≤ F.2.2.1)
    (hD : ∀ M, va_D A (jW T.1 α cA M)) (l : Launch) : Met l F.1 (Cond.code F.1 F.2.1 F.2.2.1 F.2.2.2.1 :: GW) (jRoom F.2.2.2.2.1) (jPc NW cl D T.1 α cA M as) (jQc cl D T.1 α cA A o.2.2.2 v) 0 0 A := by
  obtain ⟨o1, o2, o3, o4, o5, o6, o7, o8, o9, o10⟩ := ok z F hF
  refine Met.ofW (cc := F.2.1) (maxL := F.2.2.1) (ret := F.2.2.2.1) o1 rfl ?_
  intro p e s m args below meth c s₁ B hml hPc
  obtain ⟨rfl, hP, hK, hN⟩ := hPc
  have hts0 := atoms_spec (ws := Cond.code F.1 F.2.1 F.2.2.1 F.2.2.2.1 :: GW) B.pre
  have hX : jX GW NW cl (jtys cA) D F p s m (as.map (jv α)).toArray c := ⟨B.exec, B.bytes, hml, findClass_of_methodNamed B.named, fun w hw => hts0 w (List.mem_cons_of_mem _ hw), hN, hK⟩
  rw [lg_entry_eq]
  obtain ⟨opc, oL, oS, oM⟩ := o
  have hlocks := B.notSynchronized
  have hret := B.returns
  refine ih z F hF _ _ hrun (H0 := s.heap) hX hD (Nat.le_refl _) (Nat.le_refl _) (Nat.zero_le _) (Nat.zero_le _) ?_ s.heap [] _ ⟨hP, va_S.rf, ?_⟩
  · obtain ⟨ln, hdec, hln⟩ := o8 _ _ hr
    intro H locs ls hrel
    have hq : ∀ (w : Option Value) (t : State), w = v.map (jv α) → t.heap = H → jQc cl D T.1 α cA A oM v (as.map (jv α)).toArray s (.returned w) t := fun w t hw ht => ⟨⟨by rw [hw], by rw [ht]; exact hrel.1⟩, hrel.2.1.F ht⟩
    dsimp only at hr hv hdec
    unfold jback at hv
    split at hv
    · split at hv
      · next x =>
        split at hv
        · next hc =>
          cases hv
          have hdec := jlen1 hdec hln (Nat.succ_ne_zero _)
          rcases hc with hc | ⟨hc, hx⟩
          · exact W.iret B.exec B.bytes (hret.trans hc) (fun t ht _ => hq _ t rfl ht) hrel.2.1.2.2 hdec
          · exact W.zret B.exec B.bytes (hret.trans hc) (by rcases hx with rfl | rfl <;> rfl) (fun t ht _ => hq _ t rfl ht) hrel.2.1.2.2 hdec
        · cases hv
      · cases hv
    · split at hv
      · next x =>
        split at hv
        · next hc =>
          cases hv
          have hdec := jlen1 hdec hln (Nat.succ_ne_zero _)
          exact W.lret B.exec B.bytes (hret.trans hc) (fun t ht _ => hq _ t rfl ht) hrel.2.1.2.2 hdec
        · cases hv
      · cases hv
    · split at hv
      · next nm hc =>
        split at hv
        · next x =>
          cases hv
          have hdec := jlen1 hdec hln (Nat.succ_ne_zero _)
          exact W.aret B.exec B.bytes (hret.trans hc) (Or.inl ⟨nm, rfl⟩) (Or.inr ⟨α x, rfl⟩) (fun t ht _ => hq _ t rfl ht) hrel.2.1.2.2 hdec
        · cases hv
          have hdec := jlen1 hdec hln (Nat.succ_ne_zero _)
          exact W.aret B.exec B.bytes (hret.trans hc) (Or.inl ⟨nm, rfl⟩) (Or.inl rfl) (fun t ht _ => hq _ t rfl ht) hrel.2.1.2.2 hdec
        · cases hv
      · cases hv
    · split at hv
      · split at hv
        · next hc =>
          cases hv
          have hdec := jlen1 hdec hln (Nat.succ_ne_zero _)
          exact W.vret B.exec B.bytes (hret.trans hc) (fun t ht _ => hq _ t rfl ht) hrel.2.1.2.2 hdec
        · cases hv
      · cases hv
    · cases hv
  · show lv_has _ F.2.2.1 (jL α (lv_args 0 as))
    rw [jargs_map]
    exact lv_entry (as.map (jv α)) (by rw [jsl_len]; exact hlen)
end JSix
end
section
section JSeven
variable {T : jT} {GW NW : List Cond} {cl : List vw_C}
set_option maxHeartbeats 2000000 in
/-- RUNS ARE SOUND -/
theorem jsnd (ok : ∀ y E, T.2.2.1 y = some E → jOkM T GW NW cl y E) (hGW : ∀ w ∈ GW, goodWord w = true) (hNW : jNest NW) : ∀ n, jSnd T GW NW cl n := by
  intro n
  induction n with
  | zero =>
    intro y E hE f o h
    simp [jrun] at h
  | succ n ih =>
    intro y E hE f o h α cA D A H0 p l e R s m args below meth c cells slots Q X hD hfr hlo hce hsl k
    obtain ⟨pc, L, S, M⟩ := f
    obtain ⟨o1, o2, o3, o4, o5, o6, o7, o8, o9, o10⟩ := ok y E hE
    unfold jrun at h
    rw [hE] at h
    dsimp only at h
    split at h
    · next E' ins hE' hins =>
      cases hE'
      obtain ⟨ln, hdec, hln⟩ := o8 _ _ hins
      by_cases ht : jterm ins = true
      · rw [if_pos ht] at h
        cases h
        exact k
      · rw [if_neg ht] at h
        split at h
        · next z hz =>
          split at h
          · next F hF =>
            split at h
            · next ar har =>
              split at h
              · next d hd =>
                split at h
                · next r hr =>
                  split at h
                  · next v hv =>
                    obtain ⟨as, rest⟩ := ar
                    dsimp only at hd h
                    have kk := ih y E hE _ _ h (H0 := H0) X hD hfr hlo hce hsl k
                    obtain ⟨a1, a2, a3, a4, a5, a6, a7⟩ := jargs_spec har
                    have hM := jmet ok ih hF hd hr hv a6 hD l (D := D)
                    obtain ⟨q1, q2, q3, q4, q5, q6, q7, q8, q9, q10⟩ := ok z.1 F hF
                    obtain ⟨hx, hb, hml, hown, hts, hnw, hK⟩ := id X
                    have hG : GoodIn GW (Cond.code F.1 F.2.1 F.2.2.1 F.2.2.2.1 :: GW) := goodIn_sub (fun w hw => by rcases List.mem_cons.mp hw with rfl | hw; exact q2; exact hw) (List.all_eq_true.mpr (fun w hw => by rcases List.mem_cons.mp hw with rfl | hw; exact hGW _ q2; exact hGW _ hw))
                    have hRm : (jRoom F.2.2.2.2.1).frames + 1 ≤ R.frames ∧ 8 + (F.2.2.1 + 11) + (jRoom F.2.2.2.2.1).locals ≤ R.locals := by
                      simp only [jRoom]
                      omega
                    have hpre : ∀ H : Heap, va_P D cl (jW T.1 α cA M) H → PreS s H (jPc NW cl D T.1 α cA M as) (as.map (jv α)) := fun H hP => ⟨jPc_blind hNW, fun U hU hW => ⟨rfl, by rw [hU]; exact hP, va_K.moved hW.alike hK, hNW.warm hW hnw⟩⟩
                    have hcat : ((rest.map (jv α)).map fun v => v.category).sum ≤ 8 := by rw [jcat_map]; exact a5
                    intro H locs ls hrel
                    have hW8 : 2 * (F0 m pc ls (S.map (jv α))).monitorRoom + ((rest.map (jv α)).map fun v => v.category).sum ≤ 8 := by
                      show 2 * 0 + _ ≤ 8
                      omega
                    have hsz : (F0 m pc ls (S.map (jv α))).locals.size = E.2.2.1 := hrel.2.2.1
                    have hkk : ∀ (H1 : Heap) (locs1 : List Loc), va_P D cl (jW T.1 α cA d.2.2.2) H1 → va_S A H0 H1 locs1 → W p l e R s m args below meth c H1 locs1 cells slots Q (F0 m (pc + 3) ls ((v.map (jv α)).toList ++ rest.map (jv α))) := by
                      intro H1 locs1 hP1 hS1
                      have := kk H1 locs1 ls ⟨hP1, hS1, hrel.2.2⟩
                      cases v with
                      | none => exact this
                      | some w => exact this
                    have hlk := o9
                    unfold jcall at hz
                    split at hz
                    · next i =>
                      split at hz
                      · next z' hz' =>
                        cases hz
                        dsimp only at a2 a7 hF hM
                        obtain ⟨b, as', fs, rfl, hsb⟩ := a7 rfl
                        obtain ⟨i1, i2, cq, i3, i4⟩ := q6 a3
                        have hdec := jlen1 hdec hln (Nat.succ_ne_zero _)
                        have hrecv := va_recv hK hrel.1 i3 (jo_obj hsb)
                        rw [i4] at hrecv
                        have hstk : (F0 m pc ls (S.map (jv α))).stack = (as'.map (jv α)).reverse ++ .ref (α b) :: rest.map (jv α) := by
                          show S.map (jv α) = _
                          rw [a1]
                          simp [jv]
                        have hn2 : (as'.map (jv α)).length = F.2.2.2.2.2.2.2 := by
                          have : as'.length + 1 = F.2.2.2.2.2.2.2 + 1 := a2
                          rw [List.length_map]
                          omega
                        obtain ⟨hp1, hp2⟩ := hpre H hrel.1
                        obtain ⟨k1, k2⟩ := hlk i z' hz' F hF
                        cases hnest : z'.2 with
                        | false =>
                          exact jcallW (va_runV (C := F.1.cls) (As := as'.map (jv α)) (b := α b) (rest := rest.map (jv α)) ⟨hx, hb, hml, hown, hts⟩ hM ⟨callB_of _ hts hG rfl rfl rfl (hts _ q3) (hts _ (k1 hnest)) q4 hRm, hts _ i1, hts _ i2⟩ ⟨hp1, hrecv, hp2⟩ rfl hn2 hsz hstk hW8 hdec ⟨hce, hsl⟩) hrel.2.1 hkk
                        | true =>
                          obtain ⟨host, hw⟩ := k2 hnest
                          exact jcallW (va_runVN (C := F.1.cls) (host := host) (As := as'.map (jv α)) (b := α b) (rest := rest.map (jv α)) ⟨hx, hb, hml, hown, hts⟩ hM ⟨va_cnB _ hts hG rfl rfl rfl (hnw _ hw) (hts _ q3) q4 hRm, hts _ i1, hts _ i2⟩ ⟨hp1, hrecv, hp2⟩ rfl hn2 hsz hstk hW8 hdec ⟨hce, hsl⟩) hrel.2.1 hkk
                      · cases hz
                    · next i =>
                      split at hz
                      · next z' hz' =>
                        cases hz
                        dsimp only at a2 a7 hF hM
                        have i1 := q5 a3
                        have hdec := jlen1 hdec hln (Nat.succ_ne_zero _)
                        have hstk : (F0 m pc ls (S.map (jv α))).stack = (as.map (jv α)).reverse ++ rest.map (jv α) := by
                          show S.map (jv α) = _
                          rw [a1]
                          simp
                        have hn2 : (as.map (jv α)).length = F.2.2.2.2.2.2.2 := by
                          rw [List.length_map]
                          exact a2
                        obtain ⟨k1, k2⟩ := hlk i z' hz' F hF
                        cases hnest : z'.2 with
                        | false =>
                          exact jcallW (va_runS (As := as.map (jv α)) (rest := rest.map (jv α)) ⟨hx, hb, hml, hown, hts⟩ hM ⟨callB_of _ hts hG rfl rfl rfl (hts _ q3) (hts _ (k1 hnest)) q4 hRm, hts _ i1⟩ (hpre H hrel.1) rfl hn2 hsz hstk hW8 hdec ⟨hce, hsl⟩) hrel.2.1 hkk
                        | true =>
                          obtain ⟨host, hw⟩ := k2 hnest
                          exact jcallW (va_runSN (host := host) (As := as.map (jv α)) (rest := rest.map (jv α)) ⟨hx, hb, hml, hown, hts⟩ hM ⟨va_cnB _ hts hG rfl rfl rfl (hnw _ hw) (hts _ q3) q4 hRm, hts _ i1, trivial⟩ (hpre H hrel.1) rfl hn2 hsz hstk hW8 hdec ⟨hce, hsl⟩) hrel.2.1 hkk
                      · cases hz
                    · cases hz
                  · cases h
                · cases h
              · cases h
            · cases h
          · cases h
        · split at h
          · next d hd =>
            refine fun H locs ls hrel => jone_snd o10 X hD hdec hln hd (ih y E hE _ _ h X hD hfr hlo hce hsl k) H locs ls ⟨hrel.1, hrel.2.1, jkp_has hrel.2.2⟩
          · cases h
    · cases h
end JSeven
end
