section
-- ===== PART A: goes FIRST, ahead of the names: the tables' words, and 'selects' of the private methods out of them =====
/-- a private method of a class that the tables say can be made, by its rows of tables_1 -/
def lw_okq (q : MethodName × Nat) : Prop := (q.1.cls ≠ "java/lang/invoke/MethodHandle" ∧ q.1.cls ≠ "java/lang/invoke/VarHandle") ∧ Cond.instantiable q.1.cls q.2 ∈ tables_1 ∧ Cond.privateMethod q.1 ∈ tables_1 ∧ Cond.instanceMethod q.1 ∈ tables_1
theorem lw_p0 : lw_okq (⟨"ByInitials$Page", "readItem", "(LByInitials$Town;)Z"⟩, 5) := ⟨⟨by decide +kernel, by decide +kernel⟩, List.mem_of_getElem? (i := 27) (by decide +kernel), List.mem_of_getElem? (i := 288) (by decide +kernel), List.mem_of_getElem? (i := 289) (by decide +kernel)⟩
theorem lw_p1 : lw_okq (⟨"ByInitials$Page", "sign", "()I"⟩, 5) := ⟨⟨by decide +kernel, by decide +kernel⟩, List.mem_of_getElem? (i := 27) (by decide +kernel), List.mem_of_getElem? (i := 292) (by decide +kernel), List.mem_of_getElem? (i := 293) (by decide +kernel)⟩
theorem lw_p2 : lw_okq (⟨"ByInitials$Page", "readPerson", "(LByInitials$Town;)Z"⟩, 5) := ⟨⟨by decide +kernel, by decide +kernel⟩, List.mem_of_getElem? (i := 27) (by decide +kernel), List.mem_of_getElem? (i := 296) (by decide +kernel), List.mem_of_getElem? (i := 297) (by decide +kernel)⟩
theorem lw_p3 : lw_okq (⟨"ByInitials$Page", "readName", "()I"⟩, 5) := ⟨⟨by decide +kernel, by decide +kernel⟩, List.mem_of_getElem? (i := 27) (by decide +kernel), List.mem_of_getElem? (i := 300) (by decide +kernel), List.mem_of_getElem? (i := 301) (by decide +kernel)⟩
theorem lw_p4 : lw_okq (⟨"ByInitials$Page", "passes", "(I)Z"⟩, 5) := ⟨⟨by decide +kernel, by decide +kernel⟩, List.mem_of_getElem? (i := 27) (by decide +kernel), List.mem_of_getElem? (i := 304) (by decide +kernel), List.mem_of_getElem? (i := 305) (by decide +kernel)⟩
theorem lw_p5 : lw_okq (⟨"ByInitials$Page", "readNumber", "(I)I"⟩, 5) := ⟨⟨by decide +kernel, by decide +kernel⟩, List.mem_of_getElem? (i := 27) (by decide +kernel), List.mem_of_getElem? (i := 308) (by decide +kernel), List.mem_of_getElem? (i := 309) (by decide +kernel)⟩
theorem lw_p6 : lw_okq (⟨"ByInitials$Page", "atFigure", "()Z"⟩, 5) := ⟨⟨by decide +kernel, by decide +kernel⟩, List.mem_of_getElem? (i := 27) (by decide +kernel), List.mem_of_getElem? (i := 312) (by decide +kernel), List.mem_of_getElem? (i := 313) (by decide +kernel)⟩
theorem lw_p7 : lw_okq (⟨"ByInitials$Page", "readGoods", "(LByInitials$Town;)Z"⟩, 5) := ⟨⟨by decide +kernel, by decide +kernel⟩, List.mem_of_getElem? (i := 27) (by decide +kernel), List.mem_of_getElem? (i := 324) (by decide +kernel), List.mem_of_getElem? (i := 325) (by decide +kernel)⟩
theorem lw_p8 : lw_okq (⟨"ByInitials$Page", "readReach", "(LByInitials$Town;)Z"⟩, 5) := ⟨⟨by decide +kernel, by decide +kernel⟩, List.mem_of_getElem? (i := 27) (by decide +kernel), List.mem_of_getElem? (i := 328) (by decide +kernel), List.mem_of_getElem? (i := 329) (by decide +kernel)⟩
theorem lw_p9 : lw_okq (⟨"ByInitials$Page", "readCost", "(LByInitials$Town;)Z"⟩, 5) := ⟨⟨by decide +kernel, by decide +kernel⟩, List.mem_of_getElem? (i := 27) (by decide +kernel), List.mem_of_getElem? (i := 332) (by decide +kernel), List.mem_of_getElem? (i := 333) (by decide +kernel)⟩
theorem lw_p10 : lw_okq (⟨"ByInitials$Page", "readOrder", "(LByInitials$Town;)Z"⟩, 5) := ⟨⟨by decide +kernel, by decide +kernel⟩, List.mem_of_getElem? (i := 27) (by decide +kernel), List.mem_of_getElem? (i := 336) (by decide +kernel), List.mem_of_getElem? (i := 337) (by decide +kernel)⟩
theorem lw_p11 : lw_okq (⟨"ByInitials$Page", "lettersRead", "(I)I"⟩, 5) := ⟨⟨by decide +kernel, by decide +kernel⟩, List.mem_of_getElem? (i := 27) (by decide +kernel), List.mem_of_getElem? (i := 340) (by decide +kernel), List.mem_of_getElem? (i := 341) (by decide +kernel)⟩
theorem lw_p12 : lw_okq (⟨"ByInitials$Page", "readVowels", "(LByInitials$Town;)Z"⟩, 5) := ⟨⟨by decide +kernel, by decide +kernel⟩, List.mem_of_getElem? (i := 27) (by decide +kernel), List.mem_of_getElem? (i := 361) (by decide +kernel), List.mem_of_getElem? (i := 362) (by decide +kernel)⟩
theorem lw_p13 : lw_okq (⟨"ByInitials$Page", "readQuarrel", "(LByInitials$Town;)Z"⟩, 5) := ⟨⟨by decide +kernel, by decide +kernel⟩, List.mem_of_getElem? (i := 27) (by decide +kernel), List.mem_of_getElem? (i := 365) (by decide +kernel), List.mem_of_getElem? (i := 366) (by decide +kernel)⟩
theorem lw_p14 : lw_okq (⟨"ByInitials", "isPerson", "(I)Z"⟩, 12) := ⟨⟨by decide +kernel, by decide +kernel⟩, List.mem_of_getElem? (i := 19) (by decide +kernel), List.mem_of_getElem? (i := 438) (by decide +kernel), List.mem_of_getElem? (i := 439) (by decide +kernel)⟩
theorem lw_p15 : lw_okq (⟨"ByInitials", "lineNow", "()LByInitials$Line;"⟩, 12) := ⟨⟨by decide +kernel, by decide +kernel⟩, List.mem_of_getElem? (i := 19) (by decide +kernel), List.mem_of_getElem? (i := 442) (by decide +kernel), List.mem_of_getElem? (i := 443) (by decide +kernel)⟩
def lw_privs_1 : List (MethodName × Nat) := [(⟨"ByInitials$Page", "readItem", "(LByInitials$Town;)Z"⟩, 5), (⟨"ByInitials$Page", "sign", "()I"⟩, 5), (⟨"ByInitials$Page", "readPerson", "(LByInitials$Town;)Z"⟩, 5), (⟨"ByInitials$Page", "readName", "()I"⟩, 5), (⟨"ByInitials$Page", "passes", "(I)Z"⟩, 5), (⟨"ByInitials$Page", "readNumber", "(I)I"⟩, 5), (⟨"ByInitials$Page", "atFigure", "()Z"⟩, 5), (⟨"ByInitials$Page", "readGoods", "(LByInitials$Town;)Z"⟩, 5), (⟨"ByInitials$Page", "readReach", "(LByInitials$Town;)Z"⟩, 5), (⟨"ByInitials$Page", "readCost", "(LByInitials$Town;)Z"⟩, 5), (⟨"ByInitials$Page", "readOrder", "(LByInitials$Town;)Z"⟩, 5), (⟨"ByInitials$Page", "lettersRead", "(I)I"⟩, 5), (⟨"ByInitials$Page", "readVowels", "(LByInitials$Town;)Z"⟩, 5), (⟨"ByInitials$Page", "readQuarrel", "(LByInitials$Town;)Z"⟩, 5), (⟨"ByInitials", "isPerson", "(I)Z"⟩, 12), (⟨"ByInitials", "lineNow", "()LByInitials$Line;"⟩, 12)]
theorem lw_r1 : ∀ q ∈ lw_privs_1, lw_okq q := List.forall_mem_cons.mpr ⟨lw_p0, List.forall_mem_cons.mpr ⟨lw_p1, List.forall_mem_cons.mpr ⟨lw_p2, List.forall_mem_cons.mpr ⟨lw_p3, List.forall_mem_cons.mpr ⟨lw_p4, List.forall_mem_cons.mpr ⟨lw_p5, List.forall_mem_cons.mpr ⟨lw_p6, List.forall_mem_cons.mpr ⟨lw_p7, List.forall_mem_cons.mpr ⟨lw_p8, List.forall_mem_cons.mpr ⟨lw_p9, List.forall_mem_cons.mpr ⟨lw_p10, List.forall_mem_cons.mpr ⟨lw_p11, List.forall_mem_cons.mpr ⟨lw_p12, List.forall_mem_cons.mpr ⟨lw_p13, List.forall_mem_cons.mpr ⟨lw_p14, List.forall_mem_cons.mpr ⟨lw_p15, fun _ h => absurd h List.not_mem_nil⟩⟩⟩⟩⟩⟩⟩⟩⟩⟩⟩⟩⟩⟩⟩⟩
theorem lw_p16 : lw_okq (⟨"ByInitials", "priceOfWord", "(I)I"⟩, 12) := ⟨⟨by decide +kernel, by decide +kernel⟩, List.mem_of_getElem? (i := 19) (by decide +kernel), List.mem_of_getElem? (i := 535) (by decide +kernel), List.mem_of_getElem? (i := 536) (by decide +kernel)⟩
theorem lw_p17 : lw_okq (⟨"ByInitials$Memory", "dropOldest", "()V"⟩, 2) := ⟨⟨by decide +kernel, by decide +kernel⟩, List.mem_of_getElem? (i := 127) (by decide +kernel), List.mem_of_getElem? (i := 551) (by decide +kernel), List.mem_of_getElem? (i := 552) (by decide +kernel)⟩
theorem lw_p18 : lw_okq (⟨"ByInitials", "areTwo", "(II)Z"⟩, 12) := ⟨⟨by decide +kernel, by decide +kernel⟩, List.mem_of_getElem? (i := 19) (by decide +kernel), List.mem_of_getElem? (i := 561) (by decide +kernel), List.mem_of_getElem? (i := 562) (by decide +kernel)⟩
theorem lw_p19 : lw_okq (⟨"ByInitials", "firstWithRights", "(IIII)I"⟩, 12) := ⟨⟨by decide +kernel, by decide +kernel⟩, List.mem_of_getElem? (i := 19) (by decide +kernel), List.mem_of_getElem? (i := 673) (by decide +kernel), List.mem_of_getElem? (i := 674) (by decide +kernel)⟩
theorem lw_p20 : lw_okq (⟨"ByInitials$Matches", "bestWithin", "(I)I"⟩, 2) := ⟨⟨by decide +kernel, by decide +kernel⟩, List.mem_of_getElem? (i := 161) (by decide +kernel), List.mem_of_getElem? (i := 689) (by decide +kernel), List.mem_of_getElem? (i := 690) (by decide +kernel)⟩
theorem lw_p21 : lw_okq (⟨"ByInitials$Matches", "choiceOf", "(II)I"⟩, 2) := ⟨⟨by decide +kernel, by decide +kernel⟩, List.mem_of_getElem? (i := 161) (by decide +kernel), List.mem_of_getElem? (i := 702) (by decide +kernel), List.mem_of_getElem? (i := 703) (by decide +kernel)⟩
theorem lw_p22 : lw_okq (⟨"ByInitials$Debts", "stretch", "(LByInitials$Town;)Z"⟩, 3) := ⟨⟨by decide +kernel, by decide +kernel⟩, List.mem_of_getElem? (i := 193) (by decide +kernel), List.mem_of_getElem? (i := 731) (by decide +kernel), List.mem_of_getElem? (i := 732) (by decide +kernel)⟩
theorem lw_p23 : lw_okq (⟨"ByInitials$Debts", "mostGroups", "(I)I"⟩, 3) := ⟨⟨by decide +kernel, by decide +kernel⟩, List.mem_of_getElem? (i := 193) (by decide +kernel), List.mem_of_getElem? (i := 746) (by decide +kernel), List.mem_of_getElem? (i := 747) (by decide +kernel)⟩
theorem lw_p24 : lw_okq (⟨"ByInitials$Table", "closing", "(I)I"⟩, 4) := ⟨⟨by decide +kernel, by decide +kernel⟩, List.mem_of_getElem? (i := 174) (by decide +kernel), List.mem_of_getElem? (i := 763) (by decide +kernel), List.mem_of_getElem? (i := 764) (by decide +kernel)⟩
theorem lw_p25 : lw_okq (⟨"ByInitials$Table", "between", "(II)I"⟩, 4) := ⟨⟨by decide +kernel, by decide +kernel⟩, List.mem_of_getElem? (i := 174) (by decide +kernel), List.mem_of_getElem? (i := 767) (by decide +kernel), List.mem_of_getElem? (i := 768) (by decide +kernel)⟩
theorem lw_p26 : lw_okq (⟨"ByInitials$Table", "weigh", "(II)V"⟩, 4) := ⟨⟨by decide +kernel, by decide +kernel⟩, List.mem_of_getElem? (i := 174) (by decide +kernel), List.mem_of_getElem? (i := 772) (by decide +kernel), List.mem_of_getElem? (i := 773) (by decide +kernel)⟩
theorem lw_p27 : lw_okq (⟨"ByInitials$Table", "quarrelsBy", "(III)I"⟩, 4) := ⟨⟨by decide +kernel, by decide +kernel⟩, List.mem_of_getElem? (i := 174) (by decide +kernel), List.mem_of_getElem? (i := 776) (by decide +kernel), List.mem_of_getElem? (i := 777) (by decide +kernel)⟩
theorem lw_p28 : lw_okq (⟨"ByInitials$Table", "nextBehind", "(II)I"⟩, 4) := ⟨⟨by decide +kernel, by decide +kernel⟩, List.mem_of_getElem? (i := 174) (by decide +kernel), List.mem_of_getElem? (i := 792) (by decide +kernel), List.mem_of_getElem? (i := 793) (by decide +kernel)⟩
theorem lw_p29 : lw_okq (⟨"ByInitials$Ledger", "candidates", "(ILByInitials$Line;)I"⟩, 3) := ⟨⟨by decide +kernel, by decide +kernel⟩, List.mem_of_getElem? (i := 209) (by decide +kernel), List.mem_of_getElem? (i := 836) (by decide +kernel), List.mem_of_getElem? (i := 837) (by decide +kernel)⟩
theorem lw_p30 : lw_okq (⟨"ByInitials$Ledger", "canBe", "(IILByInitials$Line;)Z"⟩, 3) := ⟨⟨by decide +kernel, by decide +kernel⟩, List.mem_of_getElem? (i := 209) (by decide +kernel), List.mem_of_getElem? (i := 840) (by decide +kernel), List.mem_of_getElem? (i := 841) (by decide +kernel)⟩
theorem lw_p31 : lw_okq (⟨"ByInitials$Ledger", "alikeAbove", "(I)I"⟩, 3) := ⟨⟨by decide +kernel, by decide +kernel⟩, List.mem_of_getElem? (i := 209) (by decide +kernel), List.mem_of_getElem? (i := 846) (by decide +kernel), List.mem_of_getElem? (i := 847) (by decide +kernel)⟩
def lw_privs_2 : List (MethodName × Nat) := [(⟨"ByInitials", "priceOfWord", "(I)I"⟩, 12), (⟨"ByInitials$Memory", "dropOldest", "()V"⟩, 2), (⟨"ByInitials", "areTwo", "(II)Z"⟩, 12), (⟨"ByInitials", "firstWithRights", "(IIII)I"⟩, 12), (⟨"ByInitials$Matches", "bestWithin", "(I)I"⟩, 2), (⟨"ByInitials$Matches", "choiceOf", "(II)I"⟩, 2), (⟨"ByInitials$Debts", "stretch", "(LByInitials$Town;)Z"⟩, 3), (⟨"ByInitials$Debts", "mostGroups", "(I)I"⟩, 3), (⟨"ByInitials$Table", "closing", "(I)I"⟩, 4), (⟨"ByInitials$Table", "between", "(II)I"⟩, 4), (⟨"ByInitials$Table", "weigh", "(II)V"⟩, 4), (⟨"ByInitials$Table", "quarrelsBy", "(III)I"⟩, 4), (⟨"ByInitials$Table", "nextBehind", "(II)I"⟩, 4), (⟨"ByInitials$Ledger", "candidates", "(ILByInitials$Line;)I"⟩, 3), (⟨"ByInitials$Ledger", "canBe", "(IILByInitials$Line;)Z"⟩, 3), (⟨"ByInitials$Ledger", "alikeAbove", "(I)I"⟩, 3)]
theorem lw_r2 : ∀ q ∈ lw_privs_2, lw_okq q := List.forall_mem_cons.mpr ⟨lw_p16, List.forall_mem_cons.mpr ⟨lw_p17, List.forall_mem_cons.mpr ⟨lw_p18, List.forall_mem_cons.mpr ⟨lw_p19, List.forall_mem_cons.mpr ⟨lw_p20, List.forall_mem_cons.mpr ⟨lw_p21, List.forall_mem_cons.mpr ⟨lw_p22, List.forall_mem_cons.mpr ⟨lw_p23, List.forall_mem_cons.mpr ⟨lw_p24, List.forall_mem_cons.mpr ⟨lw_p25, List.forall_mem_cons.mpr ⟨lw_p26, List.forall_mem_cons.mpr ⟨lw_p27, List.forall_mem_cons.mpr ⟨lw_p28, List.forall_mem_cons.mpr ⟨lw_p29, List.forall_mem_cons.mpr ⟨lw_p30, List.forall_mem_cons.mpr ⟨lw_p31, fun _ h => absurd h List.not_mem_nil⟩⟩⟩⟩⟩⟩⟩⟩⟩⟩⟩⟩⟩⟩⟩⟩
theorem lw_p32 : lw_okq (⟨"ByInitialsModel", "begins", "()V"⟩, 25) := ⟨⟨by decide +kernel, by decide +kernel⟩, List.mem_of_getElem? (i := 891) (by decide +kernel), List.mem_of_getElem? (i := 897) (by decide +kernel), List.mem_of_getElem? (i := 898) (by decide +kernel)⟩
theorem lw_p33 : lw_okq (⟨"ByInitialsModel", "spelled", "(IIIIII)V"⟩, 25) := ⟨⟨by decide +kernel, by decide +kernel⟩, List.mem_of_getElem? (i := 891) (by decide +kernel), List.mem_of_getElem? (i := 902) (by decide +kernel), List.mem_of_getElem? (i := 903) (by decide +kernel)⟩
theorem lw_p34 : lw_okq (⟨"ByInitialsModel", "puts", "(II)V"⟩, 25) := ⟨⟨by decide +kernel, by decide +kernel⟩, List.mem_of_getElem? (i := 891) (by decide +kernel), List.mem_of_getElem? (i := 906) (by decide +kernel), List.mem_of_getElem? (i := 907) (by decide +kernel)⟩
theorem lw_p35 : lw_okq (⟨"ByInitialsModel", "isPersonPut", "()Z"⟩, 25) := ⟨⟨by decide +kernel, by decide +kernel⟩, List.mem_of_getElem? (i := 891) (by decide +kernel), List.mem_of_getElem? (i := 910) (by decide +kernel), List.mem_of_getElem? (i := 911) (by decide +kernel)⟩
theorem lw_p36 : lw_okq (⟨"ByInitialsModel", "takes", "()V"⟩, 25) := ⟨⟨by decide +kernel, by decide +kernel⟩, List.mem_of_getElem? (i := 891) (by decide +kernel), List.mem_of_getElem? (i := 914) (by decide +kernel), List.mem_of_getElem? (i := 915) (by decide +kernel)⟩
theorem lw_p37 : lw_okq (⟨"ByInitialsModel", "isItem", "()Z"⟩, 25) := ⟨⟨by decide +kernel, by decide +kernel⟩, List.mem_of_getElem? (i := 891) (by decide +kernel), List.mem_of_getElem? (i := 1011) (by decide +kernel), List.mem_of_getElem? (i := 1012) (by decide +kernel)⟩
theorem lw_p38 : lw_okq (⟨"ByInitialsModel", "isSpelt", "()Z"⟩, 25) := ⟨⟨by decide +kernel, by decide +kernel⟩, List.mem_of_getElem? (i := 891) (by decide +kernel), List.mem_of_getElem? (i := 1015) (by decide +kernel), List.mem_of_getElem? (i := 1016) (by decide +kernel)⟩
theorem lw_p39 : lw_okq (⟨"ByInitialsModel", "isMore", "(I)Z"⟩, 25) := ⟨⟨by decide +kernel, by decide +kernel⟩, List.mem_of_getElem? (i := 891) (by decide +kernel), List.mem_of_getElem? (i := 1021) (by decide +kernel), List.mem_of_getElem? (i := 1022) (by decide +kernel)⟩
theorem lw_p40 : lw_okq (⟨"ByInitialsModel", "number", "()I"⟩, 25) := ⟨⟨by decide +kernel, by decide +kernel⟩, List.mem_of_getElem? (i := 891) (by decide +kernel), List.mem_of_getElem? (i := 1025) (by decide +kernel), List.mem_of_getElem? (i := 1026) (by decide +kernel)⟩
theorem lw_p41 : lw_okq (⟨"ByInitialsModel", "isGood", "(I)Z"⟩, 25) := ⟨⟨by decide +kernel, by decide +kernel⟩, List.mem_of_getElem? (i := 891) (by decide +kernel), List.mem_of_getElem? (i := 1032) (by decide +kernel), List.mem_of_getElem? (i := 1033) (by decide +kernel)⟩
theorem lw_p42 : lw_okq (⟨"ByInitialsModel", "isOrderPut", "()Z"⟩, 25) := ⟨⟨by decide +kernel, by decide +kernel⟩, List.mem_of_getElem? (i := 891) (by decide +kernel), List.mem_of_getElem? (i := 1036) (by decide +kernel), List.mem_of_getElem? (i := 1037) (by decide +kernel)⟩
theorem lw_p43 : lw_okq (⟨"ByInitialsModel", "isPerson", "(I)Z"⟩, 25) := ⟨⟨by decide +kernel, by decide +kernel⟩, List.mem_of_getElem? (i := 891) (by decide +kernel), List.mem_of_getElem? (i := 1049) (by decide +kernel), List.mem_of_getElem? (i := 1050) (by decide +kernel)⟩
theorem lw_p44 : lw_okq (⟨"ByInitialsModel", "aheadOf", "(II)I"⟩, 25) := ⟨⟨by decide +kernel, by decide +kernel⟩, List.mem_of_getElem? (i := 891) (by decide +kernel), List.mem_of_getElem? (i := 1054) (by decide +kernel), List.mem_of_getElem? (i := 1055) (by decide +kernel)⟩
theorem lw_p45 : lw_okq (⟨"ByInitialsModel", "isAhead", "(III)Z"⟩, 25) := ⟨⟨by decide +kernel, by decide +kernel⟩, List.mem_of_getElem? (i := 891) (by decide +kernel), List.mem_of_getElem? (i := 1058) (by decide +kernel), List.mem_of_getElem? (i := 1059) (by decide +kernel)⟩
theorem lw_p46 : lw_okq (⟨"ByInitialsModel", "morning", "(I)I"⟩, 25) := ⟨⟨by decide +kernel, by decide +kernel⟩, List.mem_of_getElem? (i := 891) (by decide +kernel), List.mem_of_getElem? (i := 1062) (by decide +kernel), List.mem_of_getElem? (i := 1063) (by decide +kernel)⟩
theorem lw_p47 : lw_okq (⟨"ByInitialsModel", "isOffice", "(II)Z"⟩, 25) := ⟨⟨by decide +kernel, by decide +kernel⟩, List.mem_of_getElem? (i := 891) (by decide +kernel), List.mem_of_getElem? (i := 1066) (by decide +kernel), List.mem_of_getElem? (i := 1067) (by decide +kernel)⟩
def lw_privs_3 : List (MethodName × Nat) := [(⟨"ByInitialsModel", "begins", "()V"⟩, 25), (⟨"ByInitialsModel", "spelled", "(IIIIII)V"⟩, 25), (⟨"ByInitialsModel", "puts", "(II)V"⟩, 25), (⟨"ByInitialsModel", "isPersonPut", "()Z"⟩, 25), (⟨"ByInitialsModel", "takes", "()V"⟩, 25), (⟨"ByInitialsModel", "isItem", "()Z"⟩, 25), (⟨"ByInitialsModel", "isSpelt", "()Z"⟩, 25), (⟨"ByInitialsModel", "isMore", "(I)Z"⟩, 25), (⟨"ByInitialsModel", "number", "()I"⟩, 25), (⟨"ByInitialsModel", "isGood", "(I)Z"⟩, 25), (⟨"ByInitialsModel", "isOrderPut", "()Z"⟩, 25), (⟨"ByInitialsModel", "isPerson", "(I)Z"⟩, 25), (⟨"ByInitialsModel", "aheadOf", "(II)I"⟩, 25), (⟨"ByInitialsModel", "isAhead", "(III)Z"⟩, 25), (⟨"ByInitialsModel", "morning", "(I)I"⟩, 25), (⟨"ByInitialsModel", "isOffice", "(II)Z"⟩, 25)]
theorem lw_r3 : ∀ q ∈ lw_privs_3, lw_okq q := List.forall_mem_cons.mpr ⟨lw_p32, List.forall_mem_cons.mpr ⟨lw_p33, List.forall_mem_cons.mpr ⟨lw_p34, List.forall_mem_cons.mpr ⟨lw_p35, List.forall_mem_cons.mpr ⟨lw_p36, List.forall_mem_cons.mpr ⟨lw_p37, List.forall_mem_cons.mpr ⟨lw_p38, List.forall_mem_cons.mpr ⟨lw_p39, List.forall_mem_cons.mpr ⟨lw_p40, List.forall_mem_cons.mpr ⟨lw_p41, List.forall_mem_cons.mpr ⟨lw_p42, List.forall_mem_cons.mpr ⟨lw_p43, List.forall_mem_cons.mpr ⟨lw_p44, List.forall_mem_cons.mpr ⟨lw_p45, List.forall_mem_cons.mpr ⟨lw_p46, List.forall_mem_cons.mpr ⟨lw_p47, fun _ h => absurd h List.not_mem_nil⟩⟩⟩⟩⟩⟩⟩⟩⟩⟩⟩⟩⟩⟩⟩⟩
theorem lw_p48 : lw_okq (⟨"ByInitialsModel", "first", "(II)I"⟩, 25) := ⟨⟨by decide +kernel, by decide +kernel⟩, List.mem_of_getElem? (i := 891) (by decide +kernel), List.mem_of_getElem? (i := 1070) (by decide +kernel), List.mem_of_getElem? (i := 1071) (by decide +kernel)⟩
theorem lw_p49 : lw_okq (⟨"ByInitialsModel", "isVowel", "(I)Z"⟩, 25) := ⟨⟨by decide +kernel, by decide +kernel⟩, List.mem_of_getElem? (i := 891) (by decide +kernel), List.mem_of_getElem? (i := 1074) (by decide +kernel), List.mem_of_getElem? (i := 1075) (by decide +kernel)⟩
theorem lw_p50 : lw_okq (⟨"ByInitialsModel", "letterOf", "(II)I"⟩, 25) := ⟨⟨by decide +kernel, by decide +kernel⟩, List.mem_of_getElem? (i := 891) (by decide +kernel), List.mem_of_getElem? (i := 1090) (by decide +kernel), List.mem_of_getElem? (i := 1091) (by decide +kernel)⟩
theorem lw_p51 : lw_okq (⟨"ByInitialsModel", "isQuarrel", "(II)Z"⟩, 25) := ⟨⟨by decide +kernel, by decide +kernel⟩, List.mem_of_getElem? (i := 891) (by decide +kernel), List.mem_of_getElem? (i := 1098) (by decide +kernel), List.mem_of_getElem? (i := 1099) (by decide +kernel)⟩
theorem lw_p52 : lw_okq (⟨"ByInitialsModel", "priceOf", "(I)I"⟩, 25) := ⟨⟨by decide +kernel, by decide +kernel⟩, List.mem_of_getElem? (i := 891) (by decide +kernel), List.mem_of_getElem? (i := 1114) (by decide +kernel), List.mem_of_getElem? (i := 1115) (by decide +kernel)⟩
theorem lw_p53 : lw_okq (⟨"ByInitialsModel", "known", "()V"⟩, 25) := ⟨⟨by decide +kernel, by decide +kernel⟩, List.mem_of_getElem? (i := 891) (by decide +kernel), List.mem_of_getElem? (i := 1122) (by decide +kernel), List.mem_of_getElem? (i := 1123) (by decide +kernel)⟩
theorem lw_p54 : lw_okq (⟨"ByInitialsModel", "copies", "(II)V"⟩, 25) := ⟨⟨by decide +kernel, by decide +kernel⟩, List.mem_of_getElem? (i := 891) (by decide +kernel), List.mem_of_getElem? (i := 1126) (by decide +kernel), List.mem_of_getElem? (i := 1127) (by decide +kernel)⟩
theorem lw_p55 : lw_okq (⟨"ByInitialsModel", "isTwo", "(II)Z"⟩, 25) := ⟨⟨by decide +kernel, by decide +kernel⟩, List.mem_of_getElem? (i := 891) (by decide +kernel), List.mem_of_getElem? (i := 1134) (by decide +kernel), List.mem_of_getElem? (i := 1135) (by decide +kernel)⟩
theorem lw_p56 : lw_okq (⟨"ByInitialsModel", "isMay", "(III)Z"⟩, 25) := ⟨⟨by decide +kernel, by decide +kernel⟩, List.mem_of_getElem? (i := 891) (by decide +kernel), List.mem_of_getElem? (i := 1138) (by decide +kernel), List.mem_of_getElem? (i := 1139) (by decide +kernel)⟩
theorem lw_p57 : lw_okq (⟨"ByInitialsModel", "weds", "()I"⟩, 25) := ⟨⟨by decide +kernel, by decide +kernel⟩, List.mem_of_getElem? (i := 891) (by decide +kernel), List.mem_of_getElem? (i := 1146) (by decide +kernel), List.mem_of_getElem? (i := 1147) (by decide +kernel)⟩
theorem lw_p58 : lw_okq (⟨"ByInitialsModel", "owes", "(II)I"⟩, 25) := ⟨⟨by decide +kernel, by decide +kernel⟩, List.mem_of_getElem? (i := 891) (by decide +kernel), List.mem_of_getElem? (i := 1155) (by decide +kernel), List.mem_of_getElem? (i := 1156) (by decide +kernel)⟩
theorem lw_p59 : lw_okq (⟨"ByInitialsModel", "swaps", "(III)V"⟩, 25) := ⟨⟨by decide +kernel, by decide +kernel⟩, List.mem_of_getElem? (i := 891) (by decide +kernel), List.mem_of_getElem? (i := 1167) (by decide +kernel), List.mem_of_getElem? (i := 1168) (by decide +kernel)⟩
theorem lw_p60 : lw_okq (⟨"ByInitialsModel", "bestFirst", "(I)I"⟩, 25) := ⟨⟨by decide +kernel, by decide +kernel⟩, List.mem_of_getElem? (i := 891) (by decide +kernel), List.mem_of_getElem? (i := 1183) (by decide +kernel), List.mem_of_getElem? (i := 1184) (by decide +kernel)⟩
theorem lw_p61 : lw_okq (⟨"ByInitialsModel", "isRound", "()Z"⟩, 25) := ⟨⟨by decide +kernel, by decide +kernel⟩, List.mem_of_getElem? (i := 891) (by decide +kernel), List.mem_of_getElem? (i := 1192) (by decide +kernel), List.mem_of_getElem? (i := 1193) (by decide +kernel)⟩
theorem lw_p62 : lw_okq (⟨"ByInitialsModel", "hasAll", "(IIII)Z"⟩, 25) := ⟨⟨by decide +kernel, by decide +kernel⟩, List.mem_of_getElem? (i := 891) (by decide +kernel), List.mem_of_getElem? (i := 1201) (by decide +kernel), List.mem_of_getElem? (i := 1202) (by decide +kernel)⟩
theorem lw_p63 : lw_okq (⟨"ByInitialsModel", "weddings", "(I)I"⟩, 25) := ⟨⟨by decide +kernel, by decide +kernel⟩, List.mem_of_getElem? (i := 891) (by decide +kernel), List.mem_of_getElem? (i := 1209) (by decide +kernel), List.mem_of_getElem? (i := 1210) (by decide +kernel)⟩
def lw_privs_4 : List (MethodName × Nat) := [(⟨"ByInitialsModel", "first", "(II)I"⟩, 25), (⟨"ByInitialsModel", "isVowel", "(I)Z"⟩, 25), (⟨"ByInitialsModel", "letterOf", "(II)I"⟩, 25), (⟨"ByInitialsModel", "isQuarrel", "(II)Z"⟩, 25), (⟨"ByInitialsModel", "priceOf", "(I)I"⟩, 25), (⟨"ByInitialsModel", "known", "()V"⟩, 25), (⟨"ByInitialsModel", "copies", "(II)V"⟩, 25), (⟨"ByInitialsModel", "isTwo", "(II)Z"⟩, 25), (⟨"ByInitialsModel", "isMay", "(III)Z"⟩, 25), (⟨"ByInitialsModel", "weds", "()I"⟩, 25), (⟨"ByInitialsModel", "owes", "(II)I"⟩, 25), (⟨"ByInitialsModel", "swaps", "(III)V"⟩, 25), (⟨"ByInitialsModel", "bestFirst", "(I)I"⟩, 25), (⟨"ByInitialsModel", "isRound", "()Z"⟩, 25), (⟨"ByInitialsModel", "hasAll", "(IIII)Z"⟩, 25), (⟨"ByInitialsModel", "weddings", "(I)I"⟩, 25)]
theorem lw_r4 : ∀ q ∈ lw_privs_4, lw_okq q := List.forall_mem_cons.mpr ⟨lw_p48, List.forall_mem_cons.mpr ⟨lw_p49, List.forall_mem_cons.mpr ⟨lw_p50, List.forall_mem_cons.mpr ⟨lw_p51, List.forall_mem_cons.mpr ⟨lw_p52, List.forall_mem_cons.mpr ⟨lw_p53, List.forall_mem_cons.mpr ⟨lw_p54, List.forall_mem_cons.mpr ⟨lw_p55, List.forall_mem_cons.mpr ⟨lw_p56, List.forall_mem_cons.mpr ⟨lw_p57, List.forall_mem_cons.mpr ⟨lw_p58, List.forall_mem_cons.mpr ⟨lw_p59, List.forall_mem_cons.mpr ⟨lw_p60, List.forall_mem_cons.mpr ⟨lw_p61, List.forall_mem_cons.mpr ⟨lw_p62, List.forall_mem_cons.mpr ⟨lw_p63, fun _ h => absurd h List.not_mem_nil⟩⟩⟩⟩⟩⟩⟩⟩⟩⟩⟩⟩⟩⟩⟩⟩
theorem lw_p64 : lw_okq (⟨"ByInitialsModel", "netOf", "(I)I"⟩, 25) := ⟨⟨by decide +kernel, by decide +kernel⟩, List.mem_of_getElem? (i := 891) (by decide +kernel), List.mem_of_getElem? (i := 1226) (by decide +kernel), List.mem_of_getElem? (i := 1227) (by decide +kernel)⟩
theorem lw_p65 : lw_okq (⟨"ByInitialsModel", "foes", "()I"⟩, 25) := ⟨⟨by decide +kernel, by decide +kernel⟩, List.mem_of_getElem? (i := 891) (by decide +kernel), List.mem_of_getElem? (i := 1243) (by decide +kernel), List.mem_of_getElem? (i := 1244) (by decide +kernel)⟩
theorem lw_p66 : lw_okq (⟨"ByInitialsModel", "isFoe", "(II)Z"⟩, 25) := ⟨⟨by decide +kernel, by decide +kernel⟩, List.mem_of_getElem? (i := 891) (by decide +kernel), List.mem_of_getElem? (i := 1247) (by decide +kernel), List.mem_of_getElem? (i := 1248) (by decide +kernel)⟩
theorem lw_p67 : lw_okq (⟨"ByInitialsModel", "follows", "()Z"⟩, 25) := ⟨⟨by decide +kernel, by decide +kernel⟩, List.mem_of_getElem? (i := 891) (by decide +kernel), List.mem_of_getElem? (i := 1251) (by decide +kernel), List.mem_of_getElem? (i := 1252) (by decide +kernel)⟩
theorem lw_p68 : lw_okq (⟨"ByInitialsModel", "swapsRow", "(II)V"⟩, 25) := ⟨⟨by decide +kernel, by decide +kernel⟩, List.mem_of_getElem? (i := 891) (by decide +kernel), List.mem_of_getElem? (i := 1255) (by decide +kernel), List.mem_of_getElem? (i := 1256) (by decide +kernel)⟩
theorem lw_p69 : lw_okq (⟨"ByInitialsModel", "ways", "(I)I"⟩, 25) := ⟨⟨by decide +kernel, by decide +kernel⟩, List.mem_of_getElem? (i := 891) (by decide +kernel), List.mem_of_getElem? (i := 1276) (by decide +kernel), List.mem_of_getElem? (i := 1277) (by decide +kernel)⟩
theorem lw_p70 : lw_okq (⟨"ByInitialsModel", "isNext", "(I)Z"⟩, 25) := ⟨⟨by decide +kernel, by decide +kernel⟩, List.mem_of_getElem? (i := 891) (by decide +kernel), List.mem_of_getElem? (i := 1280) (by decide +kernel), List.mem_of_getElem? (i := 1281) (by decide +kernel)⟩
def lw_privs_5 : List (MethodName × Nat) := [(⟨"ByInitialsModel", "netOf", "(I)I"⟩, 25), (⟨"ByInitialsModel", "foes", "()I"⟩, 25), (⟨"ByInitialsModel", "isFoe", "(II)Z"⟩, 25), (⟨"ByInitialsModel", "follows", "()Z"⟩, 25), (⟨"ByInitialsModel", "swapsRow", "(II)V"⟩, 25), (⟨"ByInitialsModel", "ways", "(I)I"⟩, 25), (⟨"ByInitialsModel", "isNext", "(I)Z"⟩, 25)]
theorem lw_r5 : ∀ q ∈ lw_privs_5, lw_okq q := List.forall_mem_cons.mpr ⟨lw_p64, List.forall_mem_cons.mpr ⟨lw_p65, List.forall_mem_cons.mpr ⟨lw_p66, List.forall_mem_cons.mpr ⟨lw_p67, List.forall_mem_cons.mpr ⟨lw_p68, List.forall_mem_cons.mpr ⟨lw_p69, List.forall_mem_cons.mpr ⟨lw_p70, fun _ h => absurd h List.not_mem_nil⟩⟩⟩⟩⟩⟩⟩
def lw_privs : List (MethodName × Nat) := lw_privs_1 ++ (lw_privs_2 ++ (lw_privs_3 ++ (lw_privs_4 ++ (lw_privs_5))))
def lw_tbl : List Cond := k2_sels lw_privs ++ tables_1
theorem lw_privs_ok : ∀ q ∈ lw_privs, lw_okq q := by
  show ∀ q ∈ lw_privs_1 ++ (lw_privs_2 ++ (lw_privs_3 ++ (lw_privs_4 ++ (lw_privs_5)))), lw_okq q
  exact List.forall_mem_append.mpr ⟨lw_r1, List.forall_mem_append.mpr ⟨lw_r2, List.forall_mem_append.mpr ⟨lw_r3, List.forall_mem_append.mpr ⟨lw_r4, lw_r5⟩⟩⟩⟩
-- ===== end of PART A; then your names; then what follows =====
end
section
/-! AN INTERPRETER of the part of the bytecode that the class, the reference and the law use: over whole numbers, a shape of cells and a memory. Pure: nothing of the machine here. -/
abbrev AV : Type := Int ⊕ (Int ⊕ Nat)
abbrev Mem : Type := Nat → Nat → Int
abbrev Shp : Type := List (Nat × Nat × List Nat)
abbrev Ins : Type := Nat × Nat × Nat × Int × List Nat
abbrev Lcl : Type := List (Option AV)
abbrev Res : Type := Shp × Mem × Option AV
abbrev inR (v : Int) : Prop := -2147483648 ≤ v ∧ v ≤ 2147483647
abbrev inL (v : Int) : Prop := -9223372036854775808 ≤ v ∧ v ≤ 9223372036854775807
def up2 (M : Mem) (a k : Nat) (v : Int) : Mem := fun a' k' => if a' = a ∧ k' = k then v else M a' k'
def bi_isL : Option (Option AV) → Bool
  | some (some (.inr (.inl _))) => true
  | _ => false
/-- storing at i: a long that begins one place before is gone -/
def bi_clr (L : Lcl) (i : Nat) : Lcl := match i with
  | 0 => L
  | j + 1 => if bi_isL L[j]? then L.set j none else L
def bi_st1 (L : Lcl) (i : Nat) (v : AV) : Lcl := (bi_clr L i).set i (some v)
def bi_st2 (L : Lcl) (i : Nat) (v : AV) : Lcl := ((bi_clr L i).set i (some v)).set (i + 1) none
def bi_andn (x z : Nat) : Nat := x ^^^ (x &&& z)
def bi_and (x y : Int) : Option Int :=
  if 0 ≤ x then (if 0 ≤ y then some ((x.toNat &&& y.toNat : Nat) : Int) else some (bi_andn x.toNat (-y - 1).toNat : Nat))
  else if 0 ≤ y then some (bi_andn y.toNat (-x - 1).toNat : Nat) else none
/-- int operations of two numbers: no one may leave the range -/
def bi_bin (op : Nat) (x y : Int) : Option Int := match op with
  | 0 => if inR (x + y) then some (x + y) else none
  | 1 => if inR (x - y) then some (x - y) else none
  | 2 => if inR (x * y) then some (x * y) else none
  | 3 => if 0 ≤ x ∧ 0 < y then some (x / y) else none
  | 4 => if 0 ≤ x ∧ 0 < y then some (x % y) else none
  | 5 => if 0 ≤ x ∧ 0 ≤ y ∧ y < 32 ∧ inR (x * 2 ^ y.toNat) then some (x * 2 ^ y.toNat) else none
  | 6 => if 0 ≤ x ∧ 0 ≤ y ∧ y < 32 then some (x / 2 ^ y.toNat) else none
  | 7 => if 0 ≤ x ∧ 0 ≤ y ∧ y < 32 then some (x / 2 ^ y.toNat) else none
  | 8 => bi_and x y
  | 9 => if 0 ≤ x ∧ 0 ≤ y then some ((x.toNat ||| y.toNat : Nat) : Int) else none
  | 10 => if 0 ≤ x ∧ 0 ≤ y then some ((x.toNat ^^^ y.toNat : Nat) : Int) else if y = -1 then some (-x - 1) else none
  | _ => none
def bi_un (op : Nat) (x : Int) : Option Int := match op with
  | 0 => if inR (-x) then some (-x) else none
  | 1 => if -128 ≤ x ∧ x ≤ 127 then some x else none
  | 2 => if 0 ≤ x ∧ x < 65536 then some x else none
  | _ => none
def bi_lbin (op : Nat) (x y : Int) : Option Int := match op with
  | 0 => if inL (x + y) then some (x + y) else none
  | 1 => if inL (x * y) then some (x * y) else none
  | 2 => if 0 ≤ x ∧ 0 < y then some (x % y) else none
  | _ => none
/-- the six conditions: eq ne lt ge gt le -/
def bi_cond (op : Nat) (x y : Int) : Bool := match op with
  | 0 => decide (x = y)
  | 1 => decide (x ≠ y)
  | 2 => decide (x < y)
  | 3 => decide (y ≤ x)
  | 4 => decide (y < x)
  | _ => decide (x ≤ y)
def bi_math (op : Nat) (st : List AV) : Option (List AV) := match op, st with
  | 0, .inl y :: .inl x :: t => some (.inl (if x < y then y else x) :: t)
  | 1, .inl y :: .inl x :: t => some (.inl (if y < x then y else x) :: t)
  | 2, .inl x :: t => if 0 ≤ x then some (.inl x :: t) else if inR (-x) then some (.inl (-x) :: t) else none
  | _, _ => none
def bi_cats (st : List AV) : Nat := (st.map fun v => match v with | .inr (.inl _) => 2 | _ => 1).sum
def bi_slots (v : AV) : Lcl := match v with
  | .inl x => [some (.inl x)]
  | .inr (.inl x) => [some (.inr (.inl x)), none]
  | .inr (.inr c) => [some (.inr (.inr c))]
def bi_entry (nL : Nat) (as : List AV) : Lcl := as.flatMap bi_slots ++ List.replicate (nL - (as.flatMap bi_slots).length) none
def bi_cpy (M : Mem) (a sp b dp n : Nat) : Mem := fun q k => if q = b ∧ dp ≤ k ∧ k < dp + n then M a (sp + (k - dp)) else M q k
def bi_look (x : Int) : List Nat → Nat → Nat
  | k :: t :: l, d => if x = (k : Int) then t else bi_look x l d
  | _, d => d
def bi_retok (ty : Nat) (x : Int) : Bool := match ty with
  | 0 => true
  | 1 => decide (x = 0 ∨ x = 1)
  | 2 => decide (0 ≤ x ∧ x < 65536)
  | _ => decide (-128 ≤ x ∧ x ≤ 127)
def bi_load (kd : Nat) (v : Option (Option AV)) : Option AV := match kd, v with
  | 0, some (some (.inl x)) => some (.inl x)
  | 1, some (some (.inr (.inr c))) => if c = 0 ∨ c = 4 then none else some (.inr (.inr c))
  | 2, some (some (.inr (.inl x))) => some (.inr (.inl x))
  | _, _ => none
def bi_store (L : Lcl) (kd a : Nat) (v : AV) : Option Lcl := match kd, v with
  | 0, .inl x => if a < L.length then some (bi_st1 L a (.inl x)) else none
  | 1, .inr (.inr c) => if c = 0 ∨ c = 4 then none else if a < L.length then some (bi_st1 L a (.inr (.inr c))) else none
  | 2, .inr (.inl x) => if a + 1 < L.length then some (bi_st2 L a (.inr (.inl x))) else none
  | _, _ => none
/-- the receiver of a call: 0 virtual, 1 static, 2 special -/
def bi_recv (c : Int) (cls : Nat) (S : Shp) (v : Option AV) : Bool := match v with
  | some (.inr (.inr (q + 1))) => if c = 0 then (match S[q]? with | some (kd, _, _) => decide (kd = cls + 3) && (decide (4 ≤ q) || decide (q = 1 ∧ cls = 10)) | none => false) else decide (c = 1 ∨ (c = 2 ∧ q ≠ 3))
  | _ => decide (c = 1)
section Step
variable (k : Nat → Lcl → List AV → Shp → Mem → Option Res) (cl : Nat → List AV → Option Res)
/-- fields and arrays -/
def bi_heap (op a b : Nat) (i : Nat) (L : Lcl) (st : List AV) (S : Shp) (M : Mem) : Option Res := match op, st with
  | 14, .inr (.inr (q + 1)) :: t => match S[q]? with
    | some (kd, n, _) => if kd = a + 3 ∧ b < n then k (i + 1) L (.inl (M q b) :: t) S M else none
    | none => none
  | 15, .inr (.inr (q + 1)) :: t => match S[q]? with
    | some (kd, n, rs) => if kd = a + 3 ∧ b < n then k (i + 1) L (.inr (.inr (rs.getD b 0)) :: t) S M else none
    | none => none
  | 16, .inl v :: .inr (.inr (q + 1)) :: t => match S[q]? with
    | some (kd, n, _) => if kd = a + 3 ∧ b < n ∧ 4 ≤ q then k (i + 1) L t S (up2 M q b v) else none
    | none => none
  | 17, .inr (.inr v) :: .inr (.inr (q + 1)) :: t => match S[q]? with
    | some (kd, n, rs) => if kd = a + 3 ∧ b < n ∧ 4 ≤ q ∧ n = rs.length then k (i + 1) L t (S.set q (kd, n, rs.set b v)) M else none
    | none => none
  | 18, .inl j :: .inr (.inr (q + 1)) :: t => match S[q]? with
    | some (0, n, _) => if 0 ≤ j ∧ j < n then k (i + 1) L (.inl (M q j.toNat) :: t) S M else none
    | _ => none
  | 19, .inl v :: .inl j :: .inr (.inr (q + 1)) :: t => match S[q]? with
    | some (0, n, _) => if 0 ≤ j ∧ j < n ∧ 4 ≤ q then k (i + 1) L t S (up2 M q j.toNat v) else none
    | _ => none
  | 20, .inl j :: .inr (.inr (q + 1)) :: t => match S[q]? with
    | some (1, n, _) => if 0 ≤ j ∧ j < n then k (i + 1) L (.inl (M q j.toNat) :: t) S M else none
    | _ => none
  | 21, .inl v :: .inl j :: .inr (.inr (q + 1)) :: t => match S[q]? with
    | some (1, n, _) => if 0 ≤ j ∧ j < n ∧ 4 ≤ q ∧ -128 ≤ v ∧ v ≤ 127 then k (i + 1) L t S (up2 M q j.toNat v) else none
    | _ => none
  | 22, .inl j :: .inr (.inr (q + 1)) :: t => match S[q]? with
    | some (2, n, _) => if 0 ≤ j ∧ j < n ∧ 4 ≤ q then k (i + 1) L (.inr (.inr (M q j.toNat).toNat) :: t) S M else none
    | _ => none
  | 23, .inr (.inr (v + 1)) :: .inl j :: .inr (.inr (q + 1)) :: t => match S[q]?, S[v]? with
    | some (2, n, _), some (10, _, _) => if 0 ≤ j ∧ j < n ∧ 4 ≤ q ∧ 4 ≤ v then k (i + 1) L t S (up2 M q j.toNat ((v + 1 : Nat) : Int)) else none
    | _, _ => none
  | 24, .inr (.inr (q + 1)) :: t => match S[q]? with
    | some (kd, n, _) => if kd < 3 ∧ q ≠ 3 then k (i + 1) L (.inl n :: t) S M else none
    | none => none
  | _, _ => none
def bi_step (ins : Ins) (i : Nat) (L : Lcl) (st : List AV) (S : Shp) (M : Mem) : Option Res := match ins with
  | (0, _, _, c, _) => k (i + 1) L (.inl c :: st) S M
  | (1, a, b, _, _) => match bi_load b L[a]? with
    | some v => k (i + 1) L (v :: st) S M
    | none => none
  | (2, a, b, _, _) => match st with
    | v :: t => match bi_store L b a v with
      | some L' => k (i + 1) L' t S M
      | none => none
    | _ => none
  | (3, a, _, _, _) => match st with
    | .inl y :: .inl x :: t => match bi_bin a x y with
      | some z => k (i + 1) L (.inl z :: t) S M
      | none => none
    | _ => none
  | (4, a, _, _, _) => match st with
    | .inl x :: t => match bi_un a x with
      | some z => k (i + 1) L (.inl z :: t) S M
      | none => none
    | _ => none
  | (5, _, _, _, _) => match st with
    | .inl x :: t => k (i + 1) L (.inr (.inl x) :: t) S M
    | _ => none
  | (6, _, _, _, _) => match st with
    | .inr (.inl x) :: t => if inR x then k (i + 1) L (.inl x :: t) S M else none
    | _ => none
  | (7, a, _, _, _) => match st with
    | .inr (.inl y) :: .inr (.inl x) :: t => match bi_lbin a x y with
      | some z => k (i + 1) L (.inr (.inl z) :: t) S M
      | none => none
    | _ => none
  | (8, _, _, _, _) => match st with
    | .inr (.inl y) :: .inr (.inl x) :: t => k (i + 1) L (.inl (if x < y then -1 else if x = y then 0 else 1) :: t) S M
    | _ => none
  | (9, _, _, c, _) => k (i + 1) L (.inr (.inl c) :: st) S M
  | (10, a, _, c, _) => match L[a]? with
    | some (some (.inl x)) => if inR (x + c) then k (i + 1) (bi_st1 L a (.inl (x + c))) st S M else none
    | _ => none
  | (11, a, _, _, _) => k a L st S M
  | (12, a, b, _, _) => match st with
    | .inl y :: .inl x :: t => if bi_cond b x y then k a L t S M else k (i + 1) L t S M
    | _ => none
  | (13, a, b, _, _) => match st with
    | .inl x :: t => if bi_cond b x 0 then k a L t S M else k (i + 1) L t S M
    | _ => none
  | (25, a, b, _, _) => k (i + 1) L (.inr (.inr (S.length + 1)) :: st) (S ++ [(a + 3, b, List.replicate b 0)]) (fun q j => if q = S.length then 0 else M q j)
  | (26, a, _, _, _) => match st with
    | .inl n :: t => if 0 ≤ n ∧ n ≤ 65536 ∧ a < 3 then k (i + 1) L (.inr (.inr (S.length + 1)) :: t) (S ++ [(a, n.toNat, [])]) (fun q j => if q = S.length then 0 else M q j) else none
    | _ => none
  | (28, _, _, _, _) => match st with
    | .inl x :: t => k (i + 1) L (.inl x :: .inl x :: t) S M
    | .inr (.inr c) :: t => k (i + 1) L (.inr (.inr c) :: .inr (.inr c) :: t) S M
    | _ => none
  | (29, _, _, _, _) => match st with
    | .inl x :: .inr (.inr c) :: t => k (i + 1) L (.inl x :: .inr (.inr c) :: .inl x :: .inr (.inr c) :: t) S M
    | _ => none
  | (30, _, _, _, _) => match st with
    | .inl _ :: t => k (i + 1) L t S M
    | _ => none
  | (31, a, _, c, l) => match st with
    | .inl x :: t => if x < c ∨ c + l.length ≤ x then k a L t S M else k (l.getD (x - c).toNat 0) L t S M
    | _ => none
  | (32, a, _, _, l) => match st with
    | .inl x :: t => k (bi_look x l a) L t S M
    | _ => none
  | (33, a, _, _, _) => match st with
    | [.inl x] => if bi_retok a x then some (S, M, some (.inl x)) else none
    | _ => none
  | (34, _, _, _, _) => match st with
    | [] => some (S, M, none)
    | _ => none
  | (35, _, _, _, _) => match st with
    | [.inr (.inr c)] => some (S, M, some (.inr (.inr c)))
    | _ => none
  | (36, a, b, c, l) => if b ≤ st.length ∧ bi_cats (st.drop b) ≤ 8 ∧ bi_recv c (l.headD 0) S st[b - 1]? = true then
      match cl a (st.take b).reverse with
      | some (S1, M1, r) => k (i + 1) L (r.toList ++ st.drop b) S1 M1
      | none => none
    else none
  | (37, _, _, _, _) => match st with
    | .inr (.inr (q + 1)) :: t => if q ≠ 3 ∧ bi_cats t ≤ 8 then k (i + 1) L t S M else none
    | _ => none
  | (38, a, _, _, _) => match bi_math a st with
    | some t => if bi_cats t ≤ 8 then k (i + 1) L t S M else none
    | none => none
  | (39, _, _, _, _) => match st with
    | .inl n :: .inl dp :: .inr (.inr (b + 1)) :: .inl sp :: .inr (.inr (a + 1)) :: t => match S[a]?, S[b]? with
      | some (0, na, _), some (0, nb, _) => if 0 ≤ n ∧ 0 ≤ dp ∧ 0 ≤ sp ∧ sp + n ≤ na ∧ dp + n ≤ nb ∧ 4 ≤ a ∧ 4 ≤ b ∧ bi_cats t ≤ 8 then k (i + 1) L t S (bi_cpy M a sp.toNat b dp.toNat n.toNat) else none
      | _, _ => none
    | _ => none
  | (40, _, _, _, _) => k (i + 1) L (.inr (.inr 2) :: st) S M
  | (41, 0, _, _, _) => k (i + 1) L (.inl 1 :: st) S M
  | (41, _, _, _, _) => k (i + 1) L (.inr (.inr 4) :: st) S M
  | (op, a, b, _, _) => bi_heap k op a b i L st S M
end Step
def bi_exec (P : Nat → List Ins × Nat) : Nat → Nat → Nat → Lcl → List AV → Shp → Mem → Option Res
  | 0, _, _, _, _, _, _ => none
  | n + 1, m, i, L, st, S, M => match (P m).1[i]? with
    | some ins => bi_step (bi_exec P n m) (fun m' as => if bi_cats as ≤ (P m').2 then bi_exec P n m' 0 (bi_entry (P m').2 as) [] S M else none) ins i L st S M
    | none => none
end
section
/-! THE PROGRAM: class tables, each method as a list of instructions, its program counters; written by wip/gen/prog.py out of the claim -/
def RX0 : String := "ByInitials$Debts"
def TX0 : u_T := fun k => match k with
  | 0 => ("ByInitials$Debts", "behind", "[I", true)
  | 1 => ("ByInitials$Debts", "sums", "[I", true)
  | _ => ("ByInitials$Debts", "groups", "[I", true)
def tyX0 : Nat → FieldType := fun k => match k with
  | 0 => .array .int
  | 1 => .array .int
  | _ => .array .int
abbrev wsX00 : List Cond := u_ws RX0 TX0 3
theorem nmX0 : ∀ a, a < 3 → ∀ b, b < 3 → a ≠ b → (TX0 a).2.1 ≠ (TX0 b).2.1 := by decide +kernel
theorem tyX0_ok : ∀ k, k < 3 → parseFieldDescriptor (TX0 k).2.2.1 = some (tyX0 k) := by decide +kernel
def RX1 : String := "ByInitials$Ledger"
def TX1 : u_T := fun k => match k with
  | 0 => ("ByInitials$Ledger", "initials", "[I", true)
  | 1 => ("ByInitials$Ledger", "amounts", "[I", true)
  | _ => ("ByInitials$Ledger", "rows", "I", false)
def tyX1 : Nat → FieldType := fun k => match k with
  | 0 => .array .int
  | 1 => .array .int
  | _ => .int
abbrev wsX10 : List Cond := u_ws RX1 TX1 3
theorem nmX1 : ∀ a, a < 3 → ∀ b, b < 3 → a ≠ b → (TX1 a).2.1 ≠ (TX1 b).2.1 := by decide +kernel
theorem tyX1_ok : ∀ k, k < 3 → parseFieldDescriptor (TX1 k).2.2.1 = some (tyX1 k) := by decide +kernel
def RX2 : String := "ByInitials$Line"
def TX2 : u_T := fun k => match k with
  | 0 => ("ByInitials$Line", "keys", "[I", true)
  | _ => ("ByInitials$Line", "town", "LByInitials$Town;", true)
def tyX2 : Nat → FieldType := fun k => match k with
  | 0 => .array .int
  | _ => .object "ByInitials$Town"
abbrev wsX20 : List Cond := u_ws RX2 TX2 2
theorem nmX2 : ∀ a, a < 2 → ∀ b, b < 2 → a ≠ b → (TX2 a).2.1 ≠ (TX2 b).2.1 := by decide +kernel
theorem tyX2_ok : ∀ k, k < 2 → parseFieldDescriptor (TX2 k).2.2.1 = some (tyX2 k) := by decide +kernel
def RX3 : String := "ByInitials$Matches"
def TX3 : u_T := fun k => match k with
  | 0 => ("ByInitials$Matches", "willing", "[I", true)
  | _ => ("ByInitials$Matches", "best", "[I", true)
def tyX3 : Nat → FieldType := fun k => match k with
  | 0 => .array .int
  | _ => .array .int
abbrev wsX30 : List Cond := u_ws RX3 TX3 2
theorem nmX3 : ∀ a, a < 2 → ∀ b, b < 2 → a ≠ b → (TX3 a).2.1 ≠ (TX3 b).2.1 := by decide +kernel
theorem tyX3_ok : ∀ k, k < 2 → parseFieldDescriptor (TX3 k).2.2.1 = some (tyX3 k) := by decide +kernel
def RX4 : String := "ByInitials$Memory"
def TX4 : u_T := fun k => match k with
  | 0 => ("ByInitials$Memory", "slots", "[LByInitials$Town;", true)
  | _ => ("ByInitials$Memory", "held", "I", false)
def tyX4 : Nat → FieldType := fun k => match k with
  | 0 => .array (.object "ByInitials$Town")
  | _ => .int
abbrev wsX40 : List Cond := u_ws RX4 TX4 2
theorem nmX4 : ∀ a, a < 2 → ∀ b, b < 2 → a ≠ b → (TX4 a).2.1 ≠ (TX4 b).2.1 := by decide +kernel
theorem tyX4_ok : ∀ k, k < 2 → parseFieldDescriptor (TX4 k).2.2.1 = some (tyX4 k) := by decide +kernel
def RX5 : String := "ByInitials$Page"
def TX5 : u_T := fun k => match k with
  | 0 => ("ByInitials$Page", "signs", "[I", true)
  | 1 => ("ByInitials$Page", "name", "[I", true)
  | 2 => ("ByInitials$Page", "length", "I", false)
  | 3 => ("ByInitials$Page", "at", "I", false)
  | _ => ("ByInitials$Page", "quarrelsRead", "I", false)
def tyX5 : Nat → FieldType := fun k => match k with
  | 0 => .array .int
  | 1 => .array .int
  | 2 => .int
  | 3 => .int
  | _ => .int
abbrev wsX50 : List Cond := u_ws RX5 TX5 5
theorem nmX5 : ∀ a, a < 5 → ∀ b, b < 5 → a ≠ b → (TX5 a).2.1 ≠ (TX5 b).2.1 := by decide +kernel
theorem tyX5_ok : ∀ k, k < 5 → parseFieldDescriptor (TX5 k).2.2.1 = some (tyX5 k) := by decide +kernel
def RX6 : String := "ByInitials$Table"
def TX6 : u_T := fun k => match k with
  | 0 => ("ByInitials$Table", "fewest", "[I", true)
  | 1 => ("ByInitials$Table", "ways", "[I", true)
  | 2 => ("ByInitials$Table", "foes", "[I", true)
  | _ => ("ByInitials$Table", "people", "I", false)
def tyX6 : Nat → FieldType := fun k => match k with
  | 0 => .array .int
  | 1 => .array .int
  | 2 => .array .int
  | _ => .int
abbrev wsX60 : List Cond := u_ws RX6 TX6 4
theorem nmX6 : ∀ a, a < 4 → ∀ b, b < 4 → a ≠ b → (TX6 a).2.1 ≠ (TX6 b).2.1 := by decide +kernel
theorem tyX6_ok : ∀ k, k < 4 → parseFieldDescriptor (TX6 k).2.2.1 = some (tyX6 k) := by decide +kernel
def RX7 : String := "ByInitials$Town"
def TX7 : u_T := fun k => match k with
  | 0 => ("ByInitials$Town", "people", "I", false)
  | 1 => ("ByInitials$Town", "goods", "I", false)
  | 2 => ("ByInitials$Town", "reach", "I", false)
  | 3 => ("ByInitials$Town", "cost", "I", false)
  | 4 => ("ByInitials$Town", "vowels", "I", false)
  | 5 => ("ByInitials$Town", "sizes", "[I", true)
  | 6 => ("ByInitials$Town", "names", "[I", true)
  | 7 => ("ByInitials$Town", "wants", "[I", true)
  | 8 => ("ByInitials$Town", "coins", "[I", true)
  | 9 => ("ByInitials$Town", "spouses", "[I", true)
  | 10 => ("ByInitials$Town", "renamed", "[I", true)
  | 11 => ("ByInitials$Town", "owing", "[I", true)
  | 12 => ("ByInitials$Town", "ranks", "[I", true)
  | 13 => ("ByInitials$Town", "order", "[I", true)
  | _ => ("ByInitials$Town", "enemies", "[I", true)
def tyX7 : Nat → FieldType := fun k => match k with
  | 0 => .int
  | 1 => .int
  | 2 => .int
  | 3 => .int
  | 4 => .int
  | 5 => .array .int
  | 6 => .array .int
  | 7 => .array .int
  | 8 => .array .int
  | 9 => .array .int
  | 10 => .array .int
  | 11 => .array .int
  | 12 => .array .int
  | 13 => .array .int
  | _ => .array .int
abbrev wsX70 : List Cond := u_ws RX7 TX7 15
theorem nmX7 : ∀ a, a < 15 → ∀ b, b < 15 → a ≠ b → (TX7 a).2.1 ≠ (TX7 b).2.1 := by decide +kernel
theorem tyX7_ok : ∀ k, k < 15 → parseFieldDescriptor (TX7 k).2.2.1 = some (tyX7 k) := by decide +kernel
def RX8 : String := "ByInitials"
def TX8 : u_T := fun k => match k with
  | 0 => ("ByInitials", "page", "LByInitials$Page;", true)
  | 1 => ("ByInitials", "town", "LByInitials$Town;", true)
  | 2 => ("ByInitials", "draft", "LByInitials$Town;", true)
  | 3 => ("ByInitials", "undoable", "LByInitials$Memory;", true)
  | 4 => ("ByInitials", "kept", "LByInitials$Memory;", true)
  | 5 => ("ByInitials", "line", "LByInitials$Line;", true)
  | 6 => ("ByInitials", "matches", "LByInitials$Matches;", true)
  | 7 => ("ByInitials", "table", "LByInitials$Table;", true)
  | 8 => ("ByInitials", "debts", "LByInitials$Debts;", true)
  | 9 => ("ByInitials", "ledger", "LByInitials$Ledger;", true)
  | 10 => ("ByInitials", "word", "[I", true)
  | _ => ("ByInitials", "wordSize", "I", false)
def tyX8 : Nat → FieldType := fun k => match k with
  | 0 => .object "ByInitials$Page"
  | 1 => .object "ByInitials$Town"
  | 2 => .object "ByInitials$Town"
  | 3 => .object "ByInitials$Memory"
  | 4 => .object "ByInitials$Memory"
  | 5 => .object "ByInitials$Line"
  | 6 => .object "ByInitials$Matches"
  | 7 => .object "ByInitials$Table"
  | 8 => .object "ByInitials$Debts"
  | 9 => .object "ByInitials$Ledger"
  | 10 => .array .int
  | _ => .int
abbrev wsX80 : List Cond := u_ws RX8 TX8 12
theorem nmX8 : ∀ a, a < 12 → ∀ b, b < 12 → a ≠ b → (TX8 a).2.1 ≠ (TX8 b).2.1 := by decide +kernel
theorem tyX8_ok : ∀ k, k < 12 → parseFieldDescriptor (TX8 k).2.2.1 = some (tyX8 k) := by decide +kernel
def RX9 : String := "ByInitialsModel"
def TX9 : u_T := fun k => match k with
  | 0 => ("ByInitialsModel", "length", "I", false)
  | 1 => ("ByInitialsModel", "text", "[B", true)
  | 2 => ("ByInitialsModel", "at", "I", false)
  | 3 => ("ByInitialsModel", "told", "[I", true)
  | 4 => ("ByInitialsModel", "wants", "[I", true)
  | 5 => ("ByInitialsModel", "names", "[I", true)
  | 6 => ("ByInitialsModel", "coins", "[I", true)
  | 7 => ("ByInitialsModel", "rank", "[I", true)
  | 8 => ("ByInitialsModel", "quarrels", "[I", true)
  | 9 => ("ByInitialsModel", "slot", "[I", true)
  | 10 => ("ByInitialsModel", "kept", "I", false)
  | 11 => ("ByInitialsModel", "done", "I", false)
  | 12 => ("ByInitialsModel", "spelt", "I", false)
  | 13 => ("ByInitialsModel", "word", "[I", true)
  | 14 => ("ByInitialsModel", "rows", "I", false)
  | 15 => ("ByInitialsModel", "ledger", "[I", true)
  | 16 => ("ByInitialsModel", "gets", "[I", true)
  | 17 => ("ByInitialsModel", "best", "[I", true)
  | 18 => ("ByInitialsModel", "row", "[I", true)
  | 19 => ("ByInitialsModel", "most", "[I", true)
  | 20 => ("ByInitialsModel", "reach", "I", false)
  | 21 => ("ByInitialsModel", "got", "[I", true)
  | 22 => ("ByInitialsModel", "spell", "[I", true)
  | 23 => ("ByInitialsModel", "spells", "I", false)
  | _ => ("ByInitialsModel", "changeWorth", "I", false)
def tyX9 : Nat → FieldType := fun k => match k with
  | 0 => .int
  | 1 => .array .byte
  | 2 => .int
  | 3 => .array .int
  | 4 => .array .int
  | 5 => .array .int
  | 6 => .array .int
  | 7 => .array .int
  | 8 => .array .int
  | 9 => .array .int
  | 10 => .int
  | 11 => .int
  | 12 => .int
  | 13 => .array .int
  | 14 => .int
  | 15 => .array .int
  | 16 => .array .int
  | 17 => .array .int
  | 18 => .array .int
  | 19 => .array .int
  | 20 => .int
  | 21 => .array .int
  | 22 => .array .int
  | 23 => .int
  | _ => .int
abbrev wsX90 : List Cond := u_ws RX9 TX9 25
theorem nmX9 : ∀ a, a < 25 → ∀ b, b < 25 → a ≠ b → (TX9 a).2.1 ≠ (TX9 b).2.1 := by decide +kernel
theorem tyX9_ok : ∀ k, k < 25 → parseFieldDescriptor (TX9 k).2.2.1 = some (tyX9 k) := by decide +kernel
abbrev vwCl : List vw_C := [(RX0, TX0, 3), (RX1, TX1, 3), (RX2, TX2, 2), (RX3, TX3, 2), (RX4, TX4, 2), (RX5, TX5, 5), (RX6, TX6, 4), (RX7, TX7, 15), (RX8, TX8, 12), (RX9, TX9, 25)]
/-- ByInitials$Debts.<init>.()V -/
def bc_0 : List Ins := [(1, 0, 1, 0, []), (37, 0, 0, 0, []), (1, 0, 1, 0, []), (0, 0, 0, 8, []), (26, 0, 0, 0, []), (17, 0, 0, 0, []), (1, 0, 1, 0, []), (0, 0, 0, 256, []), (26, 0, 0, 0, []), (17, 0, 1, 0, []), (1, 0, 1, 0, []), (0, 0, 0, 256, []), (26, 0, 0, 0, []), (17, 0, 2, 0, []), (34, 0, 0, 0, [])]
def bp_0 : List Nat := [0, 1, 4, 5, 7, 9, 12, 13, 16, 18, 21, 22, 25, 27, 30]
/-- ByInitials$Debts.longestChain.(LByInitials$Town;)I -/
def bc_1 : List Ins := [(0, 0, 0, 0, []), (2, 2, 0, 0, []), (1, 2, 0, 0, []), (1, 1, 1, 0, []), (14, 7, 0, 0, []), (12, 13, 3, 0, []), (1, 0, 1, 0, []), (15, 0, 0, 0, []), (1, 2, 0, 0, []), (0, 0, 0, 0, []), (19, 0, 0, 0, []), (10, 2, 0, 1, []), (11, 2, 0, 0, []), (0, 0, 0, 1, []), (2, 2, 0, 0, []), (0, 0, 0, 0, []), (2, 3, 0, 0, []), (1, 3, 0, 0, []), (1, 1, 1, 0, []), (14, 7, 0, 0, []), (12, 29, 3, 0, []), (1, 2, 0, 0, []), (13, 29, 0, 0, []), (1, 0, 1, 0, []), (1, 1, 1, 0, []), (36, 2, 2, 0, [0]), (2, 2, 0, 0, []), (10, 3, 0, 1, []), (11, 17, 0, 0, []), (1, 2, 0, 0, []), (13, 33, 0, 0, []), (0, 0, 0, (-4), []), (33, 0, 0, 0, []), (0, 0, 0, 0, []), (2, 3, 0, 0, []), (0, 0, 0, 0, []), (2, 4, 0, 0, []), (1, 4, 0, 0, []), (1, 1, 1, 0, []), (14, 7, 0, 0, []), (12, 50, 3, 0, []), (1, 3, 0, 0, []), (1, 0, 1, 0, []), (15, 0, 0, 0, []), (1, 4, 0, 0, []), (18, 0, 0, 0, []), (38, 0, 0, 0, []), (2, 3, 0, 0, []), (10, 4, 0, 1, []), (11, 37, 0, 0, []), (1, 3, 0, 0, []), (33, 0, 0, 0, [])]
def bp_1 : List Nat := [0, 1, 2, 3, 4, 7, 10, 11, 14, 15, 16, 17, 20, 23, 24, 25, 26, 27, 28, 29, 32, 35, 36, 39, 40, 41, 44, 45, 48, 51, 52, 55, 57, 58, 59, 60, 61, 63, 65, 66, 69, 72, 73, 74, 77, 79, 80, 83, 84, 87, 90, 91]
/-- ByInitials$Debts.stretch.(LByInitials$Town;)Z -/
def bc_2 : List Ins := [(0, 0, 0, 0, []), (2, 2, 0, 0, []), (0, 0, 0, 0, []), (2, 3, 0, 0, []), (1, 3, 0, 0, []), (1, 1, 1, 0, []), (14, 7, 0, 0, []), (12, 46, 3, 0, []), (0, 0, 0, 0, []), (2, 4, 0, 0, []), (1, 4, 0, 0, []), (1, 1, 1, 0, []), (14, 7, 0, 0, []), (12, 44, 3, 0, []), (1, 1, 1, 0, []), (1, 4, 0, 0, []), (1, 3, 0, 0, []), (36, 88, 3, 0, [7]), (13, 42, 5, 0, []), (1, 0, 1, 0, []), (15, 0, 0, 0, []), (1, 3, 0, 0, []), (18, 0, 0, 0, []), (1, 0, 1, 0, []), (15, 0, 0, 0, []), (1, 4, 0, 0, []), (18, 0, 0, 0, []), (0, 0, 0, 1, []), (3, 0, 0, 0, []), (12, 42, 3, 0, []), (1, 0, 1, 0, []), (15, 0, 0, 0, []), (1, 3, 0, 0, []), (1, 0, 1, 0, []), (15, 0, 0, 0, []), (1, 4, 0, 0, []), (18, 0, 0, 0, []), (0, 0, 0, 1, []), (3, 0, 0, 0, []), (19, 0, 0, 0, []), (0, 0, 0, 1, []), (2, 2, 0, 0, []), (10, 4, 0, 1, []), (11, 10, 0, 0, []), (10, 3, 0, 1, []), (11, 4, 0, 0, []), (1, 2, 0, 0, []), (33, 1, 0, 0, [])]
def bp_2 : List Nat := [0, 1, 2, 3, 4, 5, 6, 9, 12, 13, 15, 17, 18, 21, 24, 25, 27, 28, 31, 34, 35, 38, 39, 40, 41, 44, 46, 47, 48, 49, 52, 53, 56, 57, 58, 61, 63, 64, 65, 66, 67, 68, 69, 72, 75, 78, 81, 82]
/-- ByInitials$Debts.fewestPayments.(LByInitials$Town;)I -/
def bc_3 : List Ins := [(0, 0, 0, 1, []), (1, 1, 1, 0, []), (14, 7, 0, 0, []), (3, 5, 0, 0, []), (0, 0, 0, 1, []), (3, 1, 0, 0, []), (2, 2, 0, 0, []), (1, 0, 1, 0, []), (15, 0, 1, 0, []), (0, 0, 0, 0, []), (0, 0, 0, 0, []), (19, 0, 0, 0, []), (1, 0, 1, 0, []), (15, 0, 2, 0, []), (0, 0, 0, 0, []), (0, 0, 0, 0, []), (19, 0, 0, 0, []), (0, 0, 0, 0, []), (2, 3, 0, 0, []), (1, 3, 0, 0, []), (1, 1, 1, 0, []), (14, 7, 0, 0, []), (12, 57, 3, 0, []), (1, 1, 1, 0, []), (1, 3, 0, 0, []), (36, 90, 2, 0, [7]), (2, 4, 0, 0, []), (0, 0, 0, 1, []), (1, 3, 0, 0, []), (3, 5, 0, 0, []), (2, 5, 0, 0, []), (1, 5, 0, 0, []), (2, 6, 0, 0, []), (1, 6, 0, 0, []), (0, 0, 0, 2, []), (1, 5, 0, 0, []), (3, 2, 0, 0, []), (12, 55, 3, 0, []), (1, 6, 0, 0, []), (0, 0, 0, 256, []), (12, 55, 3, 0, []), (1, 0, 1, 0, []), (15, 0, 1, 0, []), (1, 6, 0, 0, []), (1, 0, 1, 0, []), (15, 0, 1, 0, []), (1, 6, 0, 0, []), (1, 5, 0, 0, []), (3, 10, 0, 0, []), (18, 0, 0, 0, []), (1, 4, 0, 0, []), (3, 0, 0, 0, []), (19, 0, 0, 0, []), (10, 6, 0, 1, []), (11, 33, 0, 0, []), (10, 3, 0, 1, []), (11, 19, 0, 0, []), (0, 0, 0, 1, []), (2, 3, 0, 0, []), (1, 3, 0, 0, []), (1, 2, 0, 0, []), (12, 74, 4, 0, []), (1, 3, 0, 0, []), (0, 0, 0, 256, []), (12, 74, 3, 0, []), (1, 0, 1, 0, []), (15, 0, 2, 0, []), (1, 3, 0, 0, []), (1, 0, 1, 0, []), (1, 3, 0, 0, []), (36, 4, 2, 0, [0]), (19, 0, 0, 0, []), (10, 3, 0, 1, []), (11, 59, 0, 0, []), (1, 1, 1, 0, []), (14, 7, 0, 0, []), (1, 0, 1, 0, []), (15, 0, 2, 0, []), (1, 2, 0, 0, []), (18, 0, 0, 0, []), (3, 1, 0, 0, []), (33, 0, 0, 0, [])]
def bp_3 : List Nat := [0, 1, 2, 5, 6, 7, 8, 9, 10, 13, 14, 15, 16, 17, 20, 21, 22, 23, 24, 25, 26, 27, 30, 33, 34, 35, 38, 40, 41, 42, 43, 45, 47, 49, 51, 52, 54, 55, 58, 60, 63, 66, 67, 70, 72, 73, 76, 78, 80, 81, 82, 84, 85, 86, 89, 92, 95, 98, 99, 100, 101, 102, 105, 106, 109, 112, 113, 116, 117, 118, 119, 122, 123, 126, 129, 130, 133, 134, 137, 138, 139, 140]
/-- ByInitials$Debts.mostGroups.(I)I -/
def bc_4 : List Ins := [(0, 0, 0, 0, []), (2, 2, 0, 0, []), (0, 0, 0, 0, []), (2, 3, 0, 0, []), (1, 3, 0, 0, []), (0, 0, 0, 8, []), (12, 24, 3, 0, []), (1, 1, 0, 0, []), (1, 3, 0, 0, []), (36, 135, 2, 1, []), (13, 22, 0, 0, []), (1, 2, 0, 0, []), (1, 0, 1, 0, []), (15, 0, 2, 0, []), (1, 1, 0, 0, []), (0, 0, 0, 1, []), (1, 3, 0, 0, []), (3, 5, 0, 0, []), (3, 10, 0, 0, []), (18, 0, 0, 0, []), (38, 0, 0, 0, []), (2, 2, 0, 0, []), (10, 3, 0, 1, []), (11, 4, 0, 0, []), (1, 0, 1, 0, []), (15, 0, 1, 0, []), (1, 1, 0, 0, []), (18, 0, 0, 0, []), (13, 33, 1, 0, []), (1, 2, 0, 0, []), (0, 0, 0, 1, []), (3, 0, 0, 0, []), (11, 34, 0, 0, []), (1, 2, 0, 0, []), (33, 0, 0, 0, [])]
def bp_4 : List Nat := [0, 1, 2, 3, 4, 5, 7, 10, 11, 12, 15, 18, 19, 20, 23, 24, 25, 26, 27, 28, 29, 32, 33, 36, 39, 40, 43, 44, 45, 48, 49, 50, 51, 54, 55]
/-- ByInitials$Ledger.<init>.()V -/
def bc_5 : List Ins := [(1, 0, 1, 0, []), (37, 0, 0, 0, []), (1, 0, 1, 0, []), (0, 0, 0, 8, []), (26, 0, 0, 0, []), (17, 1, 0, 0, []), (1, 0, 1, 0, []), (0, 0, 0, 8, []), (26, 0, 0, 0, []), (17, 1, 1, 0, []), (34, 0, 0, 0, [])]
def bp_5 : List Nat := [0, 1, 4, 5, 7, 9, 12, 13, 15, 17, 20]
/-- ByInitials$Ledger.add.(II)Z -/
def bc_6 : List Ins := [(1, 0, 1, 0, []), (14, 1, 2, 0, []), (0, 0, 0, 8, []), (12, 6, 2, 0, []), (0, 0, 0, 0, []), (33, 1, 0, 0, []), (1, 0, 1, 0, []), (15, 1, 0, 0, []), (1, 0, 1, 0, []), (14, 1, 2, 0, []), (1, 1, 0, 0, []), (19, 0, 0, 0, []), (1, 0, 1, 0, []), (15, 1, 1, 0, []), (1, 0, 1, 0, []), (14, 1, 2, 0, []), (1, 2, 0, 0, []), (19, 0, 0, 0, []), (1, 0, 1, 0, []), (28, 0, 0, 0, []), (14, 1, 2, 0, []), (0, 0, 0, 1, []), (3, 0, 0, 0, []), (16, 1, 2, 0, []), (0, 0, 0, 1, []), (33, 1, 0, 0, [])]
def bp_6 : List Nat := [0, 1, 4, 6, 9, 10, 11, 12, 15, 16, 19, 20, 21, 22, 25, 26, 29, 30, 31, 32, 33, 36, 37, 38, 41, 42]
/-- ByInitials$Ledger.canBe.(IILByInitials$Line;)Z -/
def bc_7 : List Ins := [(1, 3, 1, 0, []), (15, 2, 1, 0, []), (1, 2, 0, 0, []), (36, 76, 2, 0, [7]), (1, 0, 1, 0, []), (15, 1, 0, 0, []), (1, 1, 0, 0, []), (18, 0, 0, 0, []), (12, 19, 1, 0, []), (1, 3, 1, 0, []), (1, 2, 0, 0, []), (36, 18, 2, 0, [2]), (1, 0, 1, 0, []), (15, 1, 1, 0, []), (1, 1, 0, 0, []), (18, 0, 0, 0, []), (12, 19, 1, 0, []), (0, 0, 0, 1, []), (11, 20, 0, 0, []), (0, 0, 0, 0, []), (33, 1, 0, 0, [])]
def bp_7 : List Nat := [0, 1, 4, 5, 8, 9, 12, 13, 14, 17, 18, 19, 22, 23, 26, 27, 28, 31, 32, 35, 36]
/-- ByInitials$Ledger.candidates.(ILByInitials$Line;)I -/
def bc_8 : List Ins := [(0, 0, 0, 0, []), (2, 3, 0, 0, []), (0, 0, 0, 0, []), (2, 4, 0, 0, []), (1, 4, 0, 0, []), (1, 2, 1, 0, []), (15, 2, 1, 0, []), (14, 7, 0, 0, []), (12, 23, 3, 0, []), (1, 3, 0, 0, []), (1, 0, 1, 0, []), (1, 1, 0, 0, []), (1, 4, 0, 0, []), (1, 2, 1, 0, []), (36, 7, 4, 0, [1]), (13, 18, 0, 0, []), (0, 0, 0, 1, []), (11, 19, 0, 0, []), (0, 0, 0, 0, []), (3, 0, 0, 0, []), (2, 3, 0, 0, []), (10, 4, 0, 1, []), (11, 4, 0, 0, []), (1, 3, 0, 0, []), (33, 0, 0, 0, [])]
def bp_8 : List Nat := [0, 1, 2, 3, 5, 7, 8, 11, 14, 17, 18, 19, 20, 22, 23, 26, 29, 30, 33, 34, 35, 36, 39, 42, 43]
/-- ByInitials$Ledger.alikeAbove.(I)I -/
def bc_9 : List Ins := [(0, 0, 0, 0, []), (2, 2, 0, 0, []), (0, 0, 0, 0, []), (2, 3, 0, 0, []), (1, 3, 0, 0, []), (1, 1, 0, 0, []), (12, 33, 3, 0, []), (1, 2, 0, 0, []), (1, 0, 1, 0, []), (15, 1, 0, 0, []), (1, 3, 0, 0, []), (18, 0, 0, 0, []), (1, 0, 1, 0, []), (15, 1, 0, 0, []), (1, 1, 0, 0, []), (18, 0, 0, 0, []), (12, 28, 1, 0, []), (1, 0, 1, 0, []), (15, 1, 1, 0, []), (1, 3, 0, 0, []), (18, 0, 0, 0, []), (1, 0, 1, 0, []), (15, 1, 1, 0, []), (1, 1, 0, 0, []), (18, 0, 0, 0, []), (12, 28, 1, 0, []), (0, 0, 0, 1, []), (11, 29, 0, 0, []), (0, 0, 0, 0, []), (3, 0, 0, 0, []), (2, 2, 0, 0, []), (10, 3, 0, 1, []), (11, 4, 0, 0, []), (1, 2, 0, 0, []), (33, 0, 0, 0, [])]
def bp_9 : List Nat := [0, 1, 2, 3, 4, 5, 6, 9, 10, 11, 14, 15, 16, 17, 20, 21, 22, 25, 26, 29, 30, 31, 32, 35, 36, 37, 40, 41, 44, 45, 46, 47, 50, 53, 54]
/-- ByInitials$Ledger.countWays.(LByInitials$Line;)I -/
def bc_10 : List Ins := [(0, 0, 0, 1, []), (2, 2, 0, 0, []), (0, 0, 0, 0, []), (2, 3, 0, 0, []), (1, 3, 0, 0, []), (1, 0, 1, 0, []), (14, 1, 2, 0, []), (12, 23, 3, 0, []), (1, 2, 0, 0, []), (0, 0, 0, 0, []), (1, 0, 1, 0, []), (1, 3, 0, 0, []), (1, 1, 1, 0, []), (36, 8, 3, 0, [1]), (1, 0, 1, 0, []), (1, 3, 0, 0, []), (36, 9, 2, 0, [1]), (3, 1, 0, 0, []), (38, 0, 0, 0, []), (3, 2, 0, 0, []), (2, 2, 0, 0, []), (10, 3, 0, 1, []), (11, 4, 0, 0, []), (1, 2, 0, 0, []), (33, 0, 0, 0, [])]
def bp_10 : List Nat := [0, 1, 2, 3, 4, 5, 6, 9, 12, 13, 14, 15, 16, 17, 20, 21, 22, 25, 26, 29, 30, 31, 34, 37, 38]
/-- ByInitials$Ledger.onlyPerson.(ILByInitials$Line;)I -/
def bc_11 : List Ins := [(1, 0, 1, 0, []), (1, 1, 0, 0, []), (1, 2, 1, 0, []), (36, 8, 3, 0, [1]), (0, 0, 0, 1, []), (12, 8, 0, 0, []), (0, 0, 0, (-4), []), (33, 0, 0, 0, []), (0, 0, 0, 0, []), (2, 3, 0, 0, []), (1, 3, 0, 0, []), (1, 2, 1, 0, []), (15, 2, 1, 0, []), (14, 7, 0, 0, []), (12, 25, 3, 0, []), (1, 0, 1, 0, []), (1, 1, 0, 0, []), (1, 3, 0, 0, []), (1, 2, 1, 0, []), (36, 7, 4, 0, [1]), (13, 23, 0, 0, []), (1, 3, 0, 0, []), (33, 0, 0, 0, []), (10, 3, 0, 1, []), (11, 10, 0, 0, []), (0, 0, 0, (-4), []), (33, 0, 0, 0, [])]
def bp_11 : List Nat := [0, 1, 2, 3, 6, 7, 10, 12, 13, 14, 15, 16, 17, 20, 23, 26, 27, 28, 29, 30, 33, 36, 37, 38, 41, 44, 46]
/-- ByInitials$Line.<init>.()V -/
def bc_12 : List Ins := [(1, 0, 1, 0, []), (37, 0, 0, 0, []), (1, 0, 1, 0, []), (0, 0, 0, 8, []), (26, 0, 0, 0, []), (17, 2, 0, 0, []), (1, 0, 1, 0, []), (25, 7, 15, 0, []), (28, 0, 0, 0, []), (36, 63, 1, 2, []), (17, 2, 1, 0, []), (34, 0, 0, 0, [])]
def bp_12 : List Nat := [0, 1, 4, 5, 7, 9, 12, 13, 16, 17, 20, 23]
/-- ByInitials$Line.load.(LByInitials$Town;)V -/
def bc_13 : List Ins := [(1, 0, 1, 0, []), (15, 2, 1, 0, []), (1, 1, 1, 0, []), (36, 65, 2, 0, [7]), (1, 0, 1, 0, []), (36, 14, 1, 0, [2]), (34, 0, 0, 0, [])]
def bp_13 : List Nat := [0, 1, 4, 5, 8, 9, 12]
/-- ByInitials$Line.sort.()V -/
def bc_14 : List Ins := [(0, 0, 0, 0, []), (2, 1, 0, 0, []), (1, 1, 0, 0, []), (1, 0, 1, 0, []), (15, 2, 1, 0, []), (14, 7, 0, 0, []), (12, 17, 3, 0, []), (1, 0, 1, 0, []), (15, 2, 0, 0, []), (1, 1, 0, 0, []), (1, 0, 1, 0, []), (15, 2, 1, 0, []), (1, 1, 0, 0, []), (36, 79, 2, 0, [7]), (19, 0, 0, 0, []), (10, 1, 0, 1, []), (11, 2, 0, 0, []), (34, 0, 0, 0, [])]
def bp_14 : List Nat := [0, 1, 2, 3, 4, 7, 10, 13, 14, 17, 18, 19, 22, 23, 26, 27, 30, 33]
/-- ByInitials$Line.isAhead.(III)Z -/
def bc_15 : List Ins := [(1, 3, 0, 0, []), (1, 0, 1, 0, []), (15, 2, 0, 0, []), (1, 1, 0, 0, []), (18, 0, 0, 0, []), (12, 15, 2, 0, []), (1, 3, 0, 0, []), (1, 0, 1, 0, []), (15, 2, 0, 0, []), (1, 1, 0, 0, []), (18, 0, 0, 0, []), (12, 17, 1, 0, []), (1, 2, 0, 0, []), (1, 1, 0, 0, []), (12, 17, 3, 0, []), (0, 0, 0, 1, []), (11, 18, 0, 0, []), (0, 0, 0, 0, []), (33, 1, 0, 0, [])]
def bp_15 : List Nat := [0, 1, 2, 5, 6, 7, 10, 11, 12, 15, 16, 17, 20, 21, 22, 25, 26, 29, 30]
/-- ByInitials$Line.placeOf.(I)I -/
def bc_16 : List Ins := [(0, 0, 0, 0, []), (2, 2, 0, 0, []), (0, 0, 0, 0, []), (2, 3, 0, 0, []), (1, 3, 0, 0, []), (1, 0, 1, 0, []), (15, 2, 1, 0, []), (14, 7, 0, 0, []), (12, 29, 3, 0, []), (1, 2, 0, 0, []), (1, 3, 0, 0, []), (1, 1, 0, 0, []), (12, 24, 0, 0, []), (1, 0, 1, 0, []), (1, 3, 0, 0, []), (1, 1, 0, 0, []), (1, 0, 1, 0, []), (15, 2, 0, 0, []), (1, 1, 0, 0, []), (18, 0, 0, 0, []), (36, 15, 4, 0, [2]), (13, 24, 1, 0, []), (0, 0, 0, 1, []), (11, 25, 0, 0, []), (0, 0, 0, 0, []), (3, 0, 0, 0, []), (2, 2, 0, 0, []), (10, 3, 0, 1, []), (11, 4, 0, 0, []), (1, 2, 0, 0, []), (33, 0, 0, 0, [])]
def bp_16 : List Nat := [0, 1, 2, 3, 4, 5, 6, 9, 12, 15, 16, 17, 18, 21, 22, 23, 24, 25, 28, 29, 30, 33, 36, 37, 40, 41, 42, 43, 46, 49, 50]
/-- ByInitials$Line.getsBy.(II)I -/
def bc_17 : List Ins := [(1, 0, 1, 0, []), (15, 2, 1, 0, []), (14, 7, 1, 0, []), (2, 3, 0, 0, []), (0, 0, 0, 0, []), (2, 4, 0, 0, []), (1, 4, 0, 0, []), (1, 0, 1, 0, []), (15, 2, 1, 0, []), (14, 7, 0, 0, []), (12, 30, 3, 0, []), (1, 4, 0, 0, []), (1, 1, 0, 0, []), (12, 28, 0, 0, []), (1, 0, 1, 0, []), (1, 4, 0, 0, []), (1, 1, 0, 0, []), (1, 2, 0, 0, []), (36, 15, 4, 0, [2]), (13, 28, 1, 0, []), (1, 3, 0, 0, []), (1, 0, 1, 0, []), (15, 2, 1, 0, []), (15, 7, 7, 0, []), (1, 4, 0, 0, []), (18, 0, 0, 0, []), (3, 1, 0, 0, []), (2, 3, 0, 0, []), (10, 4, 0, 1, []), (11, 6, 0, 0, []), (0, 0, 0, 0, []), (1, 3, 0, 0, []), (1, 0, 1, 0, []), (15, 2, 1, 0, []), (15, 7, 7, 0, []), (1, 1, 0, 0, []), (18, 0, 0, 0, []), (38, 1, 0, 0, []), (38, 0, 0, 0, []), (33, 0, 0, 0, [])]
def bp_17 : List Nat := [0, 1, 4, 7, 8, 9, 11, 13, 14, 17, 20, 23, 25, 26, 29, 30, 32, 33, 34, 37, 40, 41, 42, 45, 48, 50, 51, 52, 53, 56, 59, 60, 61, 62, 65, 68, 69, 70, 73, 76]
/-- ByInitials$Line.getsNow.(I)I -/
def bc_18 : List Ins := [(1, 0, 1, 0, []), (1, 1, 0, 0, []), (1, 0, 1, 0, []), (15, 2, 0, 0, []), (1, 1, 0, 0, []), (18, 0, 0, 0, []), (36, 17, 3, 0, [2]), (33, 0, 0, 0, [])]
def bp_18 : List Nat := [0, 1, 2, 3, 6, 7, 8, 11]
/-- ByInitials$Line.countFull.()I -/
def bc_19 : List Ins := [(0, 0, 0, 0, []), (2, 1, 0, 0, []), (0, 0, 0, 0, []), (2, 2, 0, 0, []), (1, 2, 0, 0, []), (1, 0, 1, 0, []), (15, 2, 1, 0, []), (14, 7, 0, 0, []), (12, 26, 3, 0, []), (1, 1, 0, 0, []), (1, 0, 1, 0, []), (1, 2, 0, 0, []), (36, 18, 2, 0, [2]), (1, 0, 1, 0, []), (15, 2, 1, 0, []), (15, 7, 7, 0, []), (1, 2, 0, 0, []), (18, 0, 0, 0, []), (12, 21, 1, 0, []), (0, 0, 0, 1, []), (11, 22, 0, 0, []), (0, 0, 0, 0, []), (3, 0, 0, 0, []), (2, 1, 0, 0, []), (10, 2, 0, 1, []), (11, 4, 0, 0, []), (1, 1, 0, 0, []), (33, 0, 0, 0, [])]
def bp_19 : List Nat := [0, 1, 2, 3, 4, 5, 6, 9, 12, 15, 16, 17, 18, 21, 22, 25, 28, 29, 30, 33, 34, 37, 38, 39, 40, 43, 46, 47]
/-- ByInitials$Line.countFullIfExchanged.(II)I -/
def bc_20 : List Ins := [(1, 0, 1, 0, []), (15, 2, 1, 0, []), (1, 1, 0, 0, []), (1, 2, 0, 0, []), (36, 70, 3, 0, [7]), (1, 0, 1, 0, []), (36, 14, 1, 0, [2]), (1, 0, 1, 0, []), (36, 19, 1, 0, [2]), (2, 3, 0, 0, []), (1, 0, 1, 0, []), (15, 2, 1, 0, []), (1, 1, 0, 0, []), (1, 2, 0, 0, []), (36, 70, 3, 0, [7]), (1, 0, 1, 0, []), (36, 14, 1, 0, [2]), (1, 3, 0, 0, []), (33, 0, 0, 0, [])]
def bp_20 : List Nat := [0, 1, 4, 5, 6, 9, 10, 13, 14, 17, 18, 19, 22, 23, 24, 27, 28, 31, 32]
/-- ByInitials$Line.keyWithFirst.(II)I -/
def bc_21 : List Ins := [(1, 0, 1, 0, []), (15, 2, 0, 0, []), (1, 1, 0, 0, []), (18, 0, 0, 0, []), (0, 0, 0, 14348907, []), (3, 4, 0, 0, []), (1, 0, 1, 0, []), (15, 2, 1, 0, []), (1, 2, 0, 0, []), (36, 80, 2, 0, [7]), (3, 0, 0, 0, []), (33, 0, 0, 0, [])]
def bp_21 : List Nat := [0, 1, 4, 5, 6, 8, 9, 10, 13, 14, 17, 18]
/-- ByInitials$Line.gainBy.(II)I -/
def bc_22 : List Ins := [(1, 0, 1, 0, []), (1, 1, 0, 0, []), (1, 0, 1, 0, []), (1, 1, 0, 0, []), (1, 2, 0, 0, []), (36, 21, 3, 0, [2]), (36, 17, 3, 0, [2]), (2, 3, 0, 0, []), (1, 2, 0, 0, []), (1, 0, 1, 0, []), (15, 2, 1, 0, []), (1, 1, 0, 0, []), (36, 76, 2, 0, [7]), (12, 16, 1, 0, []), (1, 3, 0, 0, []), (11, 21, 0, 0, []), (1, 3, 0, 0, []), (1, 0, 1, 0, []), (15, 2, 1, 0, []), (14, 7, 3, 0, []), (3, 1, 0, 0, []), (33, 0, 0, 0, [])]
def bp_22 : List Nat := [0, 1, 2, 3, 4, 5, 8, 11, 12, 13, 14, 17, 18, 21, 24, 25, 28, 29, 30, 33, 36, 37]
/-- ByInitials$Line.bestFirst.(I)I -/
def bc_23 : List Ins := [(1, 0, 1, 0, []), (15, 2, 1, 0, []), (15, 7, 13, 0, []), (0, 0, 0, 0, []), (18, 0, 0, 0, []), (2, 2, 0, 0, []), (1, 0, 1, 0, []), (1, 1, 0, 0, []), (1, 2, 0, 0, []), (36, 22, 3, 0, [2]), (2, 3, 0, 0, []), (0, 0, 0, 1, []), (2, 4, 0, 0, []), (1, 4, 0, 0, []), (0, 0, 0, 26, []), (12, 36, 3, 0, []), (1, 0, 1, 0, []), (15, 2, 1, 0, []), (15, 7, 13, 0, []), (1, 4, 0, 0, []), (18, 0, 0, 0, []), (2, 5, 0, 0, []), (1, 0, 1, 0, []), (1, 1, 0, 0, []), (1, 5, 0, 0, []), (36, 22, 3, 0, [2]), (2, 6, 0, 0, []), (1, 6, 0, 0, []), (1, 3, 0, 0, []), (12, 34, 5, 0, []), (1, 6, 0, 0, []), (2, 3, 0, 0, []), (1, 5, 0, 0, []), (2, 2, 0, 0, []), (10, 4, 0, 1, []), (11, 13, 0, 0, []), (1, 2, 0, 0, []), (33, 0, 0, 0, [])]
def bp_23 : List Nat := [0, 1, 4, 7, 8, 9, 10, 11, 12, 13, 16, 17, 18, 20, 22, 24, 27, 28, 31, 34, 36, 37, 39, 40, 41, 43, 46, 48, 50, 51, 54, 56, 57, 59, 60, 63, 66, 67]
/-- ByInitials$Line.allChange.()Z -/
def bc_24 : List Ins := [(0, 0, 0, 0, []), (2, 1, 0, 0, []), (0, 0, 0, 0, []), (2, 2, 0, 0, []), (1, 2, 0, 0, []), (1, 0, 1, 0, []), (15, 2, 1, 0, []), (14, 7, 0, 0, []), (12, 45, 3, 0, []), (1, 0, 1, 0, []), (15, 2, 1, 0, []), (1, 2, 0, 0, []), (36, 74, 2, 0, [7]), (13, 43, 1, 0, []), (1, 0, 1, 0, []), (1, 2, 0, 0, []), (36, 23, 2, 0, [2]), (2, 3, 0, 0, []), (1, 1, 0, 0, []), (13, 26, 1, 0, []), (1, 3, 0, 0, []), (1, 0, 1, 0, []), (15, 2, 1, 0, []), (1, 2, 0, 0, []), (36, 76, 2, 0, [7]), (12, 28, 0, 0, []), (0, 0, 0, 1, []), (11, 29, 0, 0, []), (0, 0, 0, 0, []), (2, 1, 0, 0, []), (1, 0, 1, 0, []), (15, 2, 1, 0, []), (1, 2, 0, 0, []), (1, 3, 0, 0, []), (36, 77, 3, 0, [7]), (1, 0, 1, 0, []), (15, 2, 0, 0, []), (1, 2, 0, 0, []), (1, 0, 1, 0, []), (1, 2, 0, 0, []), (1, 3, 0, 0, []), (36, 21, 3, 0, [2]), (19, 0, 0, 0, []), (10, 2, 0, 1, []), (11, 4, 0, 0, []), (1, 1, 0, 0, []), (33, 1, 0, 0, [])]
def bp_24 : List Nat := [0, 1, 2, 3, 4, 5, 6, 9, 12, 15, 16, 19, 20, 23, 26, 27, 28, 31, 32, 33, 36, 37, 38, 41, 42, 45, 48, 49, 52, 53, 54, 55, 58, 59, 60, 63, 64, 67, 68, 69, 70, 71, 74, 75, 78, 81, 82]
/-- ByInitials$Matches.<init>.()V -/
def bc_25 : List Ins := [(1, 0, 1, 0, []), (37, 0, 0, 0, []), (1, 0, 1, 0, []), (0, 0, 0, 8, []), (26, 0, 0, 0, []), (17, 3, 0, 0, []), (1, 0, 1, 0, []), (0, 0, 0, 256, []), (26, 0, 0, 0, []), (17, 3, 1, 0, []), (34, 0, 0, 0, [])]
def bp_25 : List Nat := [0, 1, 4, 5, 7, 9, 12, 13, 16, 18, 21]
/-- ByInitials$Matches.most.(LByInitials$Town;I)I -/
def bc_26 : List Ins := [(0, 0, 0, 0, []), (2, 3, 0, 0, []), (1, 3, 0, 0, []), (1, 1, 1, 0, []), (14, 7, 0, 0, []), (12, 42, 3, 0, []), (1, 0, 1, 0, []), (15, 3, 0, 0, []), (1, 3, 0, 0, []), (0, 0, 0, 0, []), (19, 0, 0, 0, []), (0, 0, 0, 0, []), (2, 4, 0, 0, []), (1, 4, 0, 0, []), (1, 1, 1, 0, []), (14, 7, 0, 0, []), (12, 40, 3, 0, []), (1, 0, 1, 0, []), (15, 3, 0, 0, []), (1, 3, 0, 0, []), (29, 0, 0, 0, []), (18, 0, 0, 0, []), (1, 3, 0, 0, []), (1, 4, 0, 0, []), (12, 35, 0, 0, []), (1, 1, 1, 0, []), (1, 3, 0, 0, []), (1, 4, 0, 0, []), (1, 2, 0, 0, []), (36, 84, 4, 0, [7]), (13, 35, 0, 0, []), (0, 0, 0, 1, []), (1, 4, 0, 0, []), (3, 5, 0, 0, []), (11, 36, 0, 0, []), (0, 0, 0, 0, []), (3, 9, 0, 0, []), (19, 0, 0, 0, []), (10, 4, 0, 1, []), (11, 13, 0, 0, []), (10, 3, 0, 1, []), (11, 2, 0, 0, []), (0, 0, 0, 1, []), (1, 1, 1, 0, []), (14, 7, 0, 0, []), (3, 5, 0, 0, []), (0, 0, 0, 1, []), (3, 1, 0, 0, []), (2, 3, 0, 0, []), (1, 0, 1, 0, []), (15, 3, 1, 0, []), (0, 0, 0, 0, []), (0, 0, 0, 0, []), (19, 0, 0, 0, []), (0, 0, 0, 1, []), (2, 4, 0, 0, []), (1, 4, 0, 0, []), (1, 3, 0, 0, []), (12, 71, 4, 0, []), (1, 4, 0, 0, []), (0, 0, 0, 256, []), (12, 71, 3, 0, []), (1, 0, 1, 0, []), (15, 3, 1, 0, []), (1, 4, 0, 0, []), (1, 0, 1, 0, []), (1, 4, 0, 0, []), (36, 27, 2, 0, [3]), (19, 0, 0, 0, []), (10, 4, 0, 1, []), (11, 56, 0, 0, []), (1, 0, 1, 0, []), (15, 3, 1, 0, []), (1, 3, 0, 0, []), (18, 0, 0, 0, []), (33, 0, 0, 0, [])]
def bp_26 : List Nat := [0, 1, 2, 3, 4, 7, 10, 11, 14, 15, 16, 17, 18, 20, 22, 23, 26, 29, 30, 33, 34, 35, 36, 37, 39, 42, 43, 44, 46, 47, 50, 53, 54, 56, 57, 60, 61, 62, 63, 66, 69, 72, 75, 76, 77, 80, 81, 82, 83, 84, 85, 88, 89, 90, 91, 92, 94, 96, 97, 100, 102, 105, 108, 109, 112, 114, 115, 117, 120, 121, 124, 127, 128, 131, 132, 133]
/-- ByInitials$Matches.bestWithin.(I)I -/
def bc_27 : List Ins := [(1, 1, 0, 0, []), (36, 28, 1, 1, []), (2, 2, 0, 0, []), (1, 1, 0, 0, []), (1, 1, 0, 0, []), (0, 0, 0, 1, []), (3, 1, 0, 0, []), (3, 8, 0, 0, []), (2, 3, 0, 0, []), (1, 0, 1, 0, []), (15, 3, 1, 0, []), (1, 3, 0, 0, []), (18, 0, 0, 0, []), (2, 4, 0, 0, []), (1, 2, 0, 0, []), (0, 0, 0, 1, []), (3, 0, 0, 0, []), (2, 5, 0, 0, []), (1, 5, 0, 0, []), (0, 0, 0, 8, []), (12, 45, 3, 0, []), (1, 3, 0, 0, []), (1, 0, 1, 0, []), (15, 3, 0, 0, []), (1, 2, 0, 0, []), (18, 0, 0, 0, []), (3, 8, 0, 0, []), (1, 5, 0, 0, []), (36, 135, 2, 1, []), (13, 43, 0, 0, []), (1, 4, 0, 0, []), (0, 0, 0, 1, []), (1, 0, 1, 0, []), (15, 3, 1, 0, []), (1, 3, 0, 0, []), (0, 0, 0, 1, []), (1, 5, 0, 0, []), (3, 5, 0, 0, []), (3, 10, 0, 0, []), (18, 0, 0, 0, []), (3, 0, 0, 0, []), (38, 0, 0, 0, []), (2, 4, 0, 0, []), (10, 5, 0, 1, []), (11, 18, 0, 0, []), (1, 4, 0, 0, []), (33, 0, 0, 0, [])]
def bp_27 : List Nat := [0, 1, 4, 5, 6, 7, 8, 9, 10, 11, 12, 15, 16, 17, 19, 20, 21, 22, 24, 26, 28, 31, 32, 33, 36, 37, 38, 39, 41, 44, 47, 49, 50, 51, 54, 55, 56, 58, 59, 60, 61, 62, 65, 67, 70, 73, 75]
/-- ByInitials$Matches.lowest.(I)I -/
def bc_28 : List Ins := [(0, 0, 0, 0, []), (2, 1, 0, 0, []), (1, 1, 0, 0, []), (0, 0, 0, 7, []), (12, 11, 3, 0, []), (1, 0, 0, 0, []), (1, 1, 0, 0, []), (36, 135, 2, 1, []), (13, 11, 1, 0, []), (10, 1, 0, 1, []), (11, 2, 0, 0, []), (1, 1, 0, 0, []), (33, 0, 0, 0, [])]
def bp_28 : List Nat := [0, 1, 2, 3, 5, 8, 9, 10, 13, 16, 19, 22, 23]
/-- ByInitials$Matches.partnerOf.(II)I -/
def bc_29 : List Ins := [(0, 0, 0, 1, []), (1, 2, 0, 0, []), (3, 5, 0, 0, []), (0, 0, 0, 1, []), (3, 1, 0, 0, []), (2, 3, 0, 0, []), (0, 0, 0, 0, []), (2, 4, 0, 0, []), (1, 4, 0, 0, []), (0, 0, 0, 8, []), (12, 48, 3, 0, []), (1, 3, 0, 0, []), (13, 48, 0, 0, []), (1, 3, 0, 0, []), (36, 28, 1, 1, []), (2, 5, 0, 0, []), (1, 0, 1, 0, []), (1, 5, 0, 0, []), (1, 3, 0, 0, []), (36, 30, 3, 0, [3]), (2, 6, 0, 0, []), (1, 5, 0, 0, []), (1, 1, 0, 0, []), (12, 26, 1, 0, []), (1, 6, 0, 0, []), (33, 0, 0, 0, []), (1, 6, 0, 0, []), (1, 1, 0, 0, []), (12, 31, 1, 0, []), (1, 5, 0, 0, []), (33, 0, 0, 0, []), (1, 3, 0, 0, []), (1, 3, 0, 0, []), (0, 0, 0, 1, []), (3, 1, 0, 0, []), (3, 8, 0, 0, []), (2, 3, 0, 0, []), (1, 6, 0, 0, []), (0, 0, 0, (-4), []), (12, 46, 0, 0, []), (1, 3, 0, 0, []), (0, 0, 0, 1, []), (1, 6, 0, 0, []), (3, 5, 0, 0, []), (3, 10, 0, 0, []), (2, 3, 0, 0, []), (10, 4, 0, 1, []), (11, 8, 0, 0, []), (0, 0, 0, (-4), []), (33, 0, 0, 0, [])]
def bp_29 : List Nat := [0, 1, 2, 3, 4, 5, 6, 7, 9, 11, 13, 16, 17, 20, 21, 24, 26, 27, 29, 30, 33, 35, 37, 38, 41, 43, 44, 46, 47, 50, 52, 53, 54, 55, 56, 57, 58, 59, 61, 63, 66, 67, 68, 70, 71, 72, 73, 76, 79, 81]
/-- ByInitials$Matches.choiceOf.(II)I -/
def bc_30 : List Ins := [(1, 2, 0, 0, []), (1, 2, 0, 0, []), (0, 0, 0, 1, []), (3, 1, 0, 0, []), (3, 8, 0, 0, []), (2, 3, 0, 0, []), (1, 1, 0, 0, []), (0, 0, 0, 1, []), (3, 0, 0, 0, []), (2, 4, 0, 0, []), (1, 4, 0, 0, []), (0, 0, 0, 8, []), (12, 41, 3, 0, []), (1, 3, 0, 0, []), (1, 0, 1, 0, []), (15, 3, 0, 0, []), (1, 1, 0, 0, []), (18, 0, 0, 0, []), (3, 8, 0, 0, []), (1, 4, 0, 0, []), (36, 135, 2, 1, []), (13, 39, 0, 0, []), (0, 0, 0, 1, []), (1, 0, 1, 0, []), (15, 3, 1, 0, []), (1, 3, 0, 0, []), (0, 0, 0, 1, []), (1, 4, 0, 0, []), (3, 5, 0, 0, []), (3, 10, 0, 0, []), (18, 0, 0, 0, []), (3, 0, 0, 0, []), (1, 0, 1, 0, []), (15, 3, 1, 0, []), (1, 2, 0, 0, []), (18, 0, 0, 0, []), (12, 39, 1, 0, []), (1, 4, 0, 0, []), (33, 0, 0, 0, []), (10, 4, 0, 1, []), (11, 10, 0, 0, []), (0, 0, 0, (-4), []), (33, 0, 0, 0, [])]
def bp_30 : List Nat := [0, 1, 2, 3, 4, 5, 6, 7, 8, 9, 11, 13, 15, 18, 19, 20, 23, 24, 25, 26, 28, 31, 34, 35, 36, 39, 40, 41, 43, 44, 45, 46, 47, 48, 51, 52, 53, 56, 58, 59, 62, 65, 67]
/-- ByInitials$Memory.<init>.(I)V -/
def bc_31 : List Ins := [(1, 0, 1, 0, []), (37, 0, 0, 0, []), (1, 0, 1, 0, []), (1, 1, 0, 0, []), (0, 0, 0, 1, []), (12, 8, 3, 0, []), (0, 0, 0, 1, []), (11, 9, 0, 0, []), (1, 1, 0, 0, []), (26, 2, 0, 0, []), (17, 4, 0, 0, []), (0, 0, 0, 0, []), (2, 2, 0, 0, []), (1, 2, 0, 0, []), (1, 0, 1, 0, []), (15, 4, 0, 0, []), (24, 0, 0, 0, []), (12, 27, 3, 0, []), (1, 0, 1, 0, []), (15, 4, 0, 0, []), (1, 2, 0, 0, []), (25, 7, 15, 0, []), (28, 0, 0, 0, []), (36, 63, 1, 2, []), (23, 0, 0, 0, []), (10, 2, 0, 1, []), (11, 13, 0, 0, []), (34, 0, 0, 0, [])]
def bp_31 : List Nat := [0, 1, 4, 5, 6, 7, 10, 11, 14, 15, 18, 21, 22, 23, 24, 25, 28, 29, 32, 33, 36, 37, 40, 41, 44, 45, 48, 51]
/-- ByInitials$Memory.isFull.()Z -/
def bc_32 : List Ins := [(1, 0, 1, 0, []), (14, 4, 1, 0, []), (1, 0, 1, 0, []), (15, 4, 0, 0, []), (24, 0, 0, 0, []), (12, 8, 2, 0, []), (0, 0, 0, 1, []), (11, 9, 0, 0, []), (0, 0, 0, 0, []), (33, 1, 0, 0, [])]
def bp_32 : List Nat := [0, 1, 4, 5, 8, 9, 12, 13, 16, 17]
/-- ByInitials$Memory.push.(LByInitials$Town;)V -/
def bc_33 : List Ins := [(1, 0, 1, 0, []), (36, 32, 1, 0, [4]), (13, 5, 0, 0, []), (1, 0, 1, 0, []), (36, 35, 1, 0, [4]), (1, 0, 1, 0, []), (15, 4, 0, 0, []), (1, 0, 1, 0, []), (14, 4, 1, 0, []), (22, 0, 0, 0, []), (1, 1, 1, 0, []), (36, 65, 2, 0, [7]), (1, 0, 1, 0, []), (28, 0, 0, 0, []), (14, 4, 1, 0, []), (0, 0, 0, 1, []), (3, 0, 0, 0, []), (16, 4, 1, 0, []), (34, 0, 0, 0, [])]
def bp_33 : List Nat := [0, 1, 4, 7, 8, 11, 12, 15, 16, 19, 20, 21, 24, 25, 26, 29, 30, 31, 34]
/-- ByInitials$Memory.popInto.(LByInitials$Town;)Z -/
def bc_34 : List Ins := [(1, 0, 1, 0, []), (14, 4, 1, 0, []), (13, 5, 4, 0, []), (0, 0, 0, 0, []), (33, 1, 0, 0, []), (1, 0, 1, 0, []), (28, 0, 0, 0, []), (14, 4, 1, 0, []), (0, 0, 0, 1, []), (3, 1, 0, 0, []), (16, 4, 1, 0, []), (1, 1, 1, 0, []), (1, 0, 1, 0, []), (15, 4, 0, 0, []), (1, 0, 1, 0, []), (14, 4, 1, 0, []), (22, 0, 0, 0, []), (36, 65, 2, 0, [7]), (0, 0, 0, 1, []), (33, 1, 0, 0, [])]
def bp_34 : List Nat := [0, 1, 4, 7, 8, 9, 10, 11, 14, 15, 16, 19, 20, 21, 24, 25, 28, 29, 32, 33]
/-- ByInitials$Memory.dropOldest.()V -/
def bc_35 : List Ins := [(1, 0, 1, 0, []), (15, 4, 0, 0, []), (0, 0, 0, 0, []), (22, 0, 0, 0, []), (2, 1, 1, 0, []), (0, 0, 0, 1, []), (2, 2, 0, 0, []), (1, 2, 0, 0, []), (1, 0, 1, 0, []), (15, 4, 0, 0, []), (24, 0, 0, 0, []), (12, 24, 3, 0, []), (1, 0, 1, 0, []), (15, 4, 0, 0, []), (1, 2, 0, 0, []), (0, 0, 0, 1, []), (3, 1, 0, 0, []), (1, 0, 1, 0, []), (15, 4, 0, 0, []), (1, 2, 0, 0, []), (22, 0, 0, 0, []), (23, 0, 0, 0, []), (10, 2, 0, 1, []), (11, 7, 0, 0, []), (1, 0, 1, 0, []), (15, 4, 0, 0, []), (1, 0, 1, 0, []), (15, 4, 0, 0, []), (24, 0, 0, 0, []), (0, 0, 0, 1, []), (3, 1, 0, 0, []), (1, 1, 1, 0, []), (23, 0, 0, 0, []), (1, 0, 1, 0, []), (1, 0, 1, 0, []), (15, 4, 0, 0, []), (24, 0, 0, 0, []), (0, 0, 0, 1, []), (3, 1, 0, 0, []), (16, 4, 1, 0, []), (34, 0, 0, 0, [])]
def bp_35 : List Nat := [0, 1, 4, 5, 6, 7, 8, 9, 10, 11, 14, 15, 18, 19, 22, 23, 24, 25, 26, 29, 30, 31, 32, 35, 38, 39, 42, 43, 46, 47, 48, 49, 50, 51, 52, 53, 56, 57, 58, 59, 62]
/-- ByInitials$Page.<init>.()V -/
def bc_36 : List Ins := [(1, 0, 1, 0, []), (37, 0, 0, 0, []), (1, 0, 1, 0, []), (0, 0, 0, 200, []), (26, 0, 0, 0, []), (17, 5, 0, 0, []), (1, 0, 1, 0, []), (0, 0, 0, 6, []), (26, 0, 0, 0, []), (17, 5, 1, 0, []), (34, 0, 0, 0, [])]
def bp_36 : List Nat := [0, 1, 4, 5, 8, 10, 13, 14, 16, 18, 21]
/-- ByInitials$Page.add.(I)Z -/
def bc_37 : List Ins := [(1, 0, 1, 0, []), (14, 5, 2, 0, []), (0, 0, 0, 200, []), (12, 6, 2, 0, []), (0, 0, 0, 0, []), (33, 1, 0, 0, []), (1, 0, 1, 0, []), (15, 5, 0, 0, []), (1, 0, 1, 0, []), (14, 5, 2, 0, []), (1, 1, 0, 0, []), (19, 0, 0, 0, []), (1, 0, 1, 0, []), (28, 0, 0, 0, []), (14, 5, 2, 0, []), (0, 0, 0, 1, []), (3, 0, 0, 0, []), (16, 5, 2, 0, []), (0, 0, 0, 1, []), (33, 1, 0, 0, [])]
def bp_37 : List Nat := [0, 1, 4, 7, 10, 11, 12, 13, 16, 17, 20, 21, 22, 23, 24, 27, 28, 29, 32, 33]
/-- ByInitials$Page.readInto.(LByInitials$Town;)I -/
def bc_38 : List Ins := [(1, 1, 1, 0, []), (36, 64, 1, 0, [7]), (1, 0, 1, 0, []), (0, 0, 0, 0, []), (16, 5, 3, 0, []), (1, 0, 1, 0, []), (0, 0, 0, 0, []), (16, 5, 4, 0, []), (0, 0, 0, 0, []), (2, 2, 0, 0, []), (1, 2, 0, 0, []), (0, 0, 0, 200, []), (12, 29, 3, 0, []), (1, 0, 1, 0, []), (14, 5, 3, 0, []), (1, 0, 1, 0, []), (14, 5, 2, 0, []), (12, 29, 3, 0, []), (1, 0, 1, 0, []), (14, 5, 3, 0, []), (2, 3, 0, 0, []), (1, 0, 1, 0, []), (1, 1, 1, 0, []), (36, 39, 2, 0, [5]), (13, 27, 1, 0, []), (1, 3, 0, 0, []), (33, 0, 0, 0, []), (10, 2, 0, 1, []), (11, 10, 0, 0, []), (0, 0, 0, (-4), []), (33, 0, 0, 0, [])]
def bp_38 : List Nat := [0, 1, 4, 5, 6, 9, 10, 11, 14, 15, 16, 17, 20, 23, 24, 27, 28, 31, 34, 35, 38, 39, 40, 41, 44, 47, 48, 49, 52, 55, 57]
/-- ByInitials$Page.readItem.(LByInitials$Town;)Z -/
def bc_39 : List Ins := [(1, 0, 1, 0, []), (36, 47, 1, 0, [5]), (2, 2, 0, 0, []), (1, 0, 1, 0, []), (28, 0, 0, 0, []), (14, 5, 3, 0, []), (0, 0, 0, 1, []), (3, 0, 0, 0, []), (16, 5, 3, 0, []), (1, 2, 0, 0, []), (31, 39, 0, 99, [23, 39, 39, 39, 15, 39, 39, 39, 39, 39, 39, 11, 27, 39, 35, 39, 39, 39, 39, 31, 19]), (1, 0, 1, 0, []), (1, 1, 1, 0, []), (36, 40, 2, 0, [5]), (33, 1, 0, 0, []), (1, 0, 1, 0, []), (1, 1, 1, 0, []), (36, 41, 2, 0, [5]), (33, 1, 0, 0, []), (1, 0, 1, 0, []), (1, 1, 1, 0, []), (36, 42, 2, 0, [5]), (33, 1, 0, 0, []), (1, 0, 1, 0, []), (1, 1, 1, 0, []), (36, 43, 2, 0, [5]), (33, 1, 0, 0, []), (1, 0, 1, 0, []), (1, 1, 1, 0, []), (36, 44, 2, 0, [5]), (33, 1, 0, 0, []), (1, 0, 1, 0, []), (1, 1, 1, 0, []), (36, 45, 2, 0, [5]), (33, 1, 0, 0, []), (1, 0, 1, 0, []), (1, 1, 1, 0, []), (36, 46, 2, 0, [5]), (33, 1, 0, 0, []), (0, 0, 0, 0, []), (33, 1, 0, 0, [])]
def bp_39 : List Nat := [0, 1, 4, 5, 6, 7, 10, 11, 12, 15, 16, 116, 117, 118, 121, 122, 123, 124, 127, 128, 129, 130, 133, 134, 135, 136, 139, 140, 141, 142, 145, 146, 147, 148, 151, 152, 153, 154, 157, 158, 159]
/-- ByInitials$Page.readPerson.(LByInitials$Town;)Z -/
def bc_40 : List Ins := [(1, 0, 1, 0, []), (36, 49, 1, 0, [5]), (2, 2, 0, 0, []), (1, 0, 1, 0, []), (0, 0, 0, 44, []), (36, 48, 2, 0, [5]), (13, 9, 1, 0, []), (0, 0, 0, 0, []), (33, 1, 0, 0, []), (1, 0, 1, 0, []), (0, 0, 0, 9, []), (36, 51, 2, 0, [5]), (2, 3, 0, 0, []), (1, 3, 0, 0, []), (0, 0, 0, (-1), []), (12, 20, 0, 0, []), (1, 0, 1, 0, []), (0, 0, 0, 44, []), (36, 48, 2, 0, [5]), (13, 22, 1, 0, []), (0, 0, 0, 0, []), (33, 1, 0, 0, []), (1, 0, 1, 0, []), (0, 0, 0, 99, []), (36, 51, 2, 0, [5]), (2, 4, 0, 0, []), (1, 4, 0, 0, []), (0, 0, 0, (-1), []), (12, 43, 0, 0, []), (1, 0, 1, 0, []), (0, 0, 0, 59, []), (36, 48, 2, 0, [5]), (13, 43, 0, 0, []), (1, 1, 1, 0, []), (1, 0, 1, 0, []), (15, 5, 1, 0, []), (1, 2, 0, 0, []), (1, 3, 0, 0, []), (1, 4, 0, 0, []), (36, 66, 5, 0, [7]), (13, 43, 0, 0, []), (0, 0, 0, 1, []), (11, 44, 0, 0, []), (0, 0, 0, 0, []), (33, 1, 0, 0, [])]
def bp_40 : List Nat := [0, 1, 4, 5, 6, 8, 11, 14, 15, 16, 17, 19, 22, 23, 24, 25, 28, 29, 31, 34, 37, 38, 39, 40, 42, 45, 47, 49, 50, 53, 54, 56, 59, 62, 63, 64, 67, 68, 69, 71, 74, 77, 78, 81, 82]
/-- ByInitials$Page.readGoods.(LByInitials$Town;)Z -/
def bc_41 : List Ins := [(1, 0, 1, 0, []), (0, 0, 0, 99, []), (36, 51, 2, 0, [5]), (2, 2, 0, 0, []), (1, 1, 1, 0, []), (1, 2, 0, 0, []), (16, 7, 1, 0, []), (1, 2, 0, 0, []), (0, 0, 0, (-1), []), (12, 16, 0, 0, []), (1, 0, 1, 0, []), (0, 0, 0, 59, []), (36, 48, 2, 0, [5]), (13, 16, 0, 0, []), (0, 0, 0, 1, []), (11, 17, 0, 0, []), (0, 0, 0, 0, []), (33, 1, 0, 0, [])]
def bp_41 : List Nat := [0, 1, 3, 6, 7, 8, 9, 12, 13, 14, 17, 18, 20, 23, 26, 27, 30, 31]
/-- ByInitials$Page.readReach.(LByInitials$Town;)Z -/
def bc_42 : List Ins := [(1, 0, 1, 0, []), (0, 0, 0, 25, []), (36, 51, 2, 0, [5]), (2, 2, 0, 0, []), (1, 1, 1, 0, []), (1, 2, 0, 0, []), (16, 7, 2, 0, []), (1, 2, 0, 0, []), (0, 0, 0, (-1), []), (12, 16, 0, 0, []), (1, 0, 1, 0, []), (0, 0, 0, 59, []), (36, 48, 2, 0, [5]), (13, 16, 0, 0, []), (0, 0, 0, 1, []), (11, 17, 0, 0, []), (0, 0, 0, 0, []), (33, 1, 0, 0, [])]
def bp_42 : List Nat := [0, 1, 3, 6, 7, 8, 9, 12, 13, 14, 17, 18, 20, 23, 26, 27, 30, 31]
/-- ByInitials$Page.readCost.(LByInitials$Town;)Z -/
def bc_43 : List Ins := [(1, 0, 1, 0, []), (0, 0, 0, 9, []), (36, 51, 2, 0, [5]), (2, 2, 0, 0, []), (1, 1, 1, 0, []), (1, 2, 0, 0, []), (16, 7, 3, 0, []), (1, 2, 0, 0, []), (0, 0, 0, (-1), []), (12, 16, 0, 0, []), (1, 0, 1, 0, []), (0, 0, 0, 59, []), (36, 48, 2, 0, [5]), (13, 16, 0, 0, []), (0, 0, 0, 1, []), (11, 17, 0, 0, []), (0, 0, 0, 0, []), (33, 1, 0, 0, [])]
def bp_43 : List Nat := [0, 1, 3, 6, 7, 8, 9, 12, 13, 14, 17, 18, 20, 23, 26, 27, 30, 31]
/-- ByInitials$Page.readOrder.(LByInitials$Town;)Z -/
def bc_44 : List Ins := [(1, 0, 1, 0, []), (36, 49, 1, 0, [5]), (2, 2, 0, 0, []), (1, 2, 0, 0, []), (13, 15, 0, 0, []), (1, 0, 1, 0, []), (1, 2, 0, 0, []), (36, 50, 2, 0, [5]), (36, 219, 1, 1, []), (1, 2, 0, 0, []), (12, 15, 1, 0, []), (1, 0, 1, 0, []), (0, 0, 0, 59, []), (36, 48, 2, 0, [5]), (13, 17, 1, 0, []), (0, 0, 0, 0, []), (33, 1, 0, 0, []), (1, 1, 1, 0, []), (1, 0, 1, 0, []), (15, 5, 1, 0, []), (1, 2, 0, 0, []), (36, 68, 3, 0, [7]), (0, 0, 0, 1, []), (33, 1, 0, 0, [])]
def bp_44 : List Nat := [0, 1, 4, 5, 6, 9, 10, 11, 14, 17, 18, 21, 22, 24, 27, 30, 31, 32, 33, 34, 37, 38, 41, 42]
/-- ByInitials$Page.readVowels.(LByInitials$Town;)Z -/
def bc_45 : List Ins := [(1, 0, 1, 0, []), (36, 49, 1, 0, [5]), (2, 2, 0, 0, []), (1, 1, 1, 0, []), (1, 0, 1, 0, []), (1, 2, 0, 0, []), (36, 50, 2, 0, [5]), (16, 7, 4, 0, []), (1, 2, 0, 0, []), (13, 16, 5, 0, []), (1, 0, 1, 0, []), (0, 0, 0, 59, []), (36, 48, 2, 0, [5]), (13, 16, 0, 0, []), (0, 0, 0, 1, []), (11, 17, 0, 0, []), (0, 0, 0, 0, []), (33, 1, 0, 0, [])]
def bp_45 : List Nat := [0, 1, 4, 5, 6, 7, 8, 11, 14, 15, 18, 19, 21, 24, 27, 28, 31, 32]
/-- ByInitials$Page.readQuarrel.(LByInitials$Town;)Z -/
def bc_46 : List Ins := [(1, 0, 1, 0, []), (36, 49, 1, 0, [5]), (2, 2, 0, 0, []), (1, 2, 0, 0, []), (0, 0, 0, 2, []), (12, 14, 1, 0, []), (1, 0, 1, 0, []), (14, 5, 4, 0, []), (0, 0, 0, 6, []), (12, 14, 3, 0, []), (1, 0, 1, 0, []), (0, 0, 0, 59, []), (36, 48, 2, 0, [5]), (13, 16, 1, 0, []), (0, 0, 0, 0, []), (33, 1, 0, 0, []), (1, 0, 1, 0, []), (28, 0, 0, 0, []), (14, 5, 4, 0, []), (0, 0, 0, 1, []), (3, 0, 0, 0, []), (16, 5, 4, 0, []), (1, 1, 1, 0, []), (1, 0, 1, 0, []), (15, 5, 1, 0, []), (0, 0, 0, 0, []), (18, 0, 0, 0, []), (1, 0, 1, 0, []), (15, 5, 1, 0, []), (0, 0, 0, 1, []), (18, 0, 0, 0, []), (36, 71, 3, 0, [7]), (0, 0, 0, 1, []), (33, 1, 0, 0, [])]
def bp_46 : List Nat := [0, 1, 4, 5, 6, 7, 10, 11, 14, 16, 19, 20, 22, 25, 28, 29, 30, 31, 32, 35, 36, 37, 40, 41, 42, 45, 46, 47, 48, 51, 52, 53, 56, 57]
/-- ByInitials$Page.sign.()I -/
def bc_47 : List Ins := [(1, 0, 1, 0, []), (14, 5, 3, 0, []), (1, 0, 1, 0, []), (14, 5, 2, 0, []), (12, 11, 3, 0, []), (1, 0, 1, 0, []), (15, 5, 0, 0, []), (1, 0, 1, 0, []), (14, 5, 3, 0, []), (18, 0, 0, 0, []), (11, 12, 0, 0, []), (0, 0, 0, (-1), []), (33, 0, 0, 0, [])]
def bp_47 : List Nat := [0, 1, 4, 5, 8, 11, 12, 15, 16, 19, 20, 23, 24]
/-- ByInitials$Page.passes.(I)Z -/
def bc_48 : List Ins := [(1, 0, 1, 0, []), (36, 47, 1, 0, [5]), (1, 1, 0, 0, []), (12, 6, 0, 0, []), (0, 0, 0, 0, []), (33, 1, 0, 0, []), (1, 0, 1, 0, []), (28, 0, 0, 0, []), (14, 5, 3, 0, []), (0, 0, 0, 1, []), (3, 0, 0, 0, []), (16, 5, 3, 0, []), (0, 0, 0, 1, []), (33, 1, 0, 0, [])]
def bp_48 : List Nat := [0, 1, 4, 5, 8, 9, 10, 11, 12, 15, 16, 17, 20, 21]
/-- ByInitials$Page.readName.()I -/
def bc_49 : List Ins := [(0, 0, 0, 0, []), (2, 1, 0, 0, []), (1, 1, 0, 0, []), (0, 0, 0, 6, []), (12, 29, 3, 0, []), (1, 0, 1, 0, []), (36, 47, 1, 0, [5]), (0, 0, 0, 97, []), (12, 29, 2, 0, []), (1, 0, 1, 0, []), (36, 47, 1, 0, [5]), (0, 0, 0, 122, []), (12, 29, 4, 0, []), (1, 0, 1, 0, []), (15, 5, 1, 0, []), (1, 1, 0, 0, []), (1, 0, 1, 0, []), (36, 47, 1, 0, [5]), (0, 0, 0, 97, []), (3, 1, 0, 0, []), (19, 0, 0, 0, []), (10, 1, 0, 1, []), (1, 0, 1, 0, []), (28, 0, 0, 0, []), (14, 5, 3, 0, []), (0, 0, 0, 1, []), (3, 0, 0, 0, []), (16, 5, 3, 0, []), (11, 2, 0, 0, []), (1, 1, 0, 0, []), (33, 0, 0, 0, [])]
def bp_49 : List Nat := [0, 1, 2, 3, 5, 8, 9, 12, 14, 17, 18, 21, 23, 26, 27, 30, 31, 32, 35, 37, 38, 39, 42, 43, 44, 47, 48, 49, 52, 55, 56]
/-- ByInitials$Page.lettersRead.(I)I -/
def bc_50 : List Ins := [(0, 0, 0, 0, []), (2, 2, 0, 0, []), (0, 0, 0, 0, []), (2, 3, 0, 0, []), (1, 3, 0, 0, []), (1, 1, 0, 0, []), (12, 18, 3, 0, []), (1, 2, 0, 0, []), (0, 0, 0, 1, []), (1, 0, 1, 0, []), (15, 5, 1, 0, []), (1, 3, 0, 0, []), (18, 0, 0, 0, []), (3, 5, 0, 0, []), (3, 9, 0, 0, []), (2, 2, 0, 0, []), (10, 3, 0, 1, []), (11, 4, 0, 0, []), (1, 2, 0, 0, []), (33, 0, 0, 0, [])]
def bp_50 : List Nat := [0, 1, 2, 3, 4, 5, 6, 9, 10, 11, 12, 15, 16, 17, 18, 19, 20, 23, 26, 27]
/-- ByInitials$Page.readNumber.(I)I -/
def bc_51 : List Ins := [(1, 0, 1, 0, []), (36, 52, 1, 0, [5]), (13, 5, 1, 0, []), (0, 0, 0, (-1), []), (33, 0, 0, 0, []), (1, 0, 1, 0, []), (36, 47, 1, 0, [5]), (0, 0, 0, 48, []), (3, 1, 0, 0, []), (2, 2, 0, 0, []), (1, 0, 1, 0, []), (28, 0, 0, 0, []), (14, 5, 3, 0, []), (0, 0, 0, 1, []), (3, 0, 0, 0, []), (16, 5, 3, 0, []), (1, 0, 1, 0, []), (36, 52, 1, 0, [5]), (13, 34, 0, 0, []), (1, 2, 0, 0, []), (0, 0, 0, 10, []), (3, 2, 0, 0, []), (1, 0, 1, 0, []), (36, 47, 1, 0, [5]), (3, 0, 0, 0, []), (0, 0, 0, 48, []), (3, 1, 0, 0, []), (2, 2, 0, 0, []), (1, 0, 1, 0, []), (28, 0, 0, 0, []), (14, 5, 3, 0, []), (0, 0, 0, 1, []), (3, 0, 0, 0, []), (16, 5, 3, 0, []), (1, 2, 0, 0, []), (1, 1, 0, 0, []), (12, 39, 4, 0, []), (1, 2, 0, 0, []), (11, 40, 0, 0, []), (0, 0, 0, (-1), []), (33, 0, 0, 0, [])]
def bp_51 : List Nat := [0, 1, 4, 7, 8, 9, 10, 13, 15, 16, 17, 18, 19, 22, 23, 24, 27, 28, 31, 34, 35, 37, 38, 39, 42, 43, 45, 46, 47, 48, 49, 52, 53, 54, 57, 58, 59, 62, 63, 66, 67]
/-- ByInitials$Page.atFigure.()Z -/
def bc_52 : List Ins := [(1, 0, 1, 0, []), (36, 47, 1, 0, [5]), (0, 0, 0, 48, []), (12, 10, 2, 0, []), (1, 0, 1, 0, []), (36, 47, 1, 0, [5]), (0, 0, 0, 57, []), (12, 10, 4, 0, []), (0, 0, 0, 1, []), (11, 11, 0, 0, []), (0, 0, 0, 0, []), (33, 1, 0, 0, [])]
def bp_52 : List Nat := [0, 1, 4, 6, 9, 10, 13, 15, 18, 19, 22, 23]
/-- ByInitials$Table.<init>.()V -/
def bc_53 : List Ins := [(1, 0, 1, 0, []), (37, 0, 0, 0, []), (1, 0, 1, 0, []), (0, 0, 0, 2048, []), (26, 0, 0, 0, []), (17, 6, 0, 0, []), (1, 0, 1, 0, []), (0, 0, 0, 2048, []), (26, 0, 0, 0, []), (17, 6, 1, 0, []), (1, 0, 1, 0, []), (0, 0, 0, 8, []), (26, 0, 0, 0, []), (17, 6, 2, 0, []), (34, 0, 0, 0, [])]
def bp_53 : List Nat := [0, 1, 4, 5, 8, 10, 13, 14, 17, 19, 22, 23, 25, 27, 30]
/-- ByInitials$Table.plan.(LByInitials$Town;)V -/
def bc_54 : List Ins := [(1, 0, 1, 0, []), (1, 1, 1, 0, []), (14, 7, 0, 0, []), (16, 6, 3, 0, []), (0, 0, 0, 0, []), (2, 2, 0, 0, []), (1, 2, 0, 0, []), (1, 0, 1, 0, []), (14, 6, 3, 0, []), (12, 45, 3, 0, []), (1, 0, 1, 0, []), (15, 6, 2, 0, []), (1, 2, 0, 0, []), (0, 0, 0, 0, []), (19, 0, 0, 0, []), (0, 0, 0, 0, []), (2, 3, 0, 0, []), (1, 3, 0, 0, []), (1, 0, 1, 0, []), (14, 6, 3, 0, []), (12, 43, 3, 0, []), (1, 0, 1, 0, []), (15, 6, 2, 0, []), (1, 2, 0, 0, []), (29, 0, 0, 0, []), (18, 0, 0, 0, []), (1, 2, 0, 0, []), (1, 3, 0, 0, []), (12, 38, 0, 0, []), (1, 1, 1, 0, []), (1, 2, 0, 0, []), (1, 3, 0, 0, []), (36, 91, 3, 0, [7]), (13, 38, 0, 0, []), (0, 0, 0, 1, []), (1, 3, 0, 0, []), (3, 5, 0, 0, []), (11, 39, 0, 0, []), (0, 0, 0, 0, []), (3, 9, 0, 0, []), (19, 0, 0, 0, []), (10, 3, 0, 1, []), (11, 17, 0, 0, []), (10, 2, 0, 1, []), (11, 6, 0, 0, []), (0, 0, 0, 1, []), (1, 0, 1, 0, []), (14, 6, 3, 0, []), (3, 5, 0, 0, []), (0, 0, 0, 1, []), (3, 1, 0, 0, []), (2, 2, 0, 0, []), (0, 0, 0, 0, []), (2, 3, 0, 0, []), (1, 3, 0, 0, []), (1, 0, 1, 0, []), (14, 6, 3, 0, []), (12, 80, 3, 0, []), (1, 0, 1, 0, []), (15, 6, 0, 0, []), (1, 2, 0, 0, []), (0, 0, 0, 8, []), (3, 2, 0, 0, []), (1, 3, 0, 0, []), (3, 0, 0, 0, []), (1, 0, 1, 0, []), (1, 3, 0, 0, []), (36, 56, 2, 0, [6]), (19, 0, 0, 0, []), (1, 0, 1, 0, []), (15, 6, 1, 0, []), (1, 2, 0, 0, []), (0, 0, 0, 8, []), (3, 2, 0, 0, []), (1, 3, 0, 0, []), (3, 0, 0, 0, []), (0, 0, 0, 1, []), (19, 0, 0, 0, []), (10, 3, 0, 1, []), (11, 54, 0, 0, []), (1, 2, 0, 0, []), (0, 0, 0, 2, []), (3, 1, 0, 0, []), (2, 3, 0, 0, []), (1, 3, 0, 0, []), (13, 104, 5, 0, []), (0, 0, 0, 0, []), (2, 4, 0, 0, []), (1, 4, 0, 0, []), (1, 0, 1, 0, []), (14, 6, 3, 0, []), (12, 102, 3, 0, []), (1, 3, 0, 0, []), (1, 4, 0, 0, []), (36, 135, 2, 1, []), (13, 100, 0, 0, []), (1, 0, 1, 0, []), (1, 3, 0, 0, []), (1, 4, 0, 0, []), (36, 58, 3, 0, [6]), (10, 4, 0, 1, []), (11, 88, 0, 0, []), (10, 3, 0, (-2), []), (11, 84, 0, 0, []), (34, 0, 0, 0, [])]
def bp_54 : List Nat := [0, 1, 2, 5, 8, 9, 10, 11, 12, 15, 18, 19, 22, 23, 24, 25, 26, 27, 28, 29, 32, 35, 36, 39, 40, 41, 42, 43, 44, 47, 48, 49, 50, 53, 56, 57, 58, 59, 62, 63, 64, 65, 68, 71, 74, 77, 78, 79, 82, 83, 84, 85, 86, 87, 88, 89, 90, 93, 96, 97, 100, 101, 103, 104, 105, 106, 107, 108, 111, 112, 113, 116, 117, 119, 120, 121, 122, 123, 124, 127, 130, 131, 132, 133, 134, 135, 138, 139, 141, 143, 144, 147, 150, 151, 153, 156, 159, 160, 161, 163, 166, 169, 172, 175, 178]
/-- ByInitials$Table.between.(II)I -/
def bc_55 : List Ins := [(1, 0, 1, 0, []), (15, 6, 2, 0, []), (1, 1, 0, 0, []), (18, 0, 0, 0, []), (1, 2, 0, 0, []), (36, 135, 2, 1, []), (13, 9, 0, 0, []), (0, 0, 0, 1, []), (11, 10, 0, 0, []), (0, 0, 0, 0, []), (33, 0, 0, 0, [])]
def bp_55 : List Nat := [0, 1, 4, 5, 6, 7, 10, 13, 14, 17, 18]
/-- ByInitials$Table.closing.(I)I -/
def bc_56 : List Ins := [(1, 0, 1, 0, []), (14, 6, 3, 0, []), (0, 0, 0, 2, []), (12, 9, 5, 0, []), (1, 0, 1, 0, []), (1, 1, 0, 0, []), (0, 0, 0, 0, []), (36, 55, 3, 0, [6]), (11, 10, 0, 0, []), (0, 0, 0, 0, []), (33, 0, 0, 0, [])]
def bp_56 : List Nat := [0, 1, 4, 5, 8, 9, 10, 11, 14, 17, 18]
/-- ByInitials$Table.quarrelsBy.(III)I -/
def bc_57 : List Ins := [(1, 0, 1, 0, []), (1, 2, 0, 0, []), (1, 3, 0, 0, []), (36, 55, 3, 0, [6]), (1, 0, 1, 0, []), (15, 6, 0, 0, []), (1, 1, 0, 0, []), (0, 0, 0, 1, []), (1, 3, 0, 0, []), (3, 5, 0, 0, []), (3, 9, 0, 0, []), (0, 0, 0, 8, []), (3, 2, 0, 0, []), (1, 3, 0, 0, []), (3, 0, 0, 0, []), (18, 0, 0, 0, []), (3, 0, 0, 0, []), (33, 0, 0, 0, [])]
def bp_57 : List Nat := [0, 1, 2, 3, 6, 7, 10, 11, 12, 13, 14, 15, 17, 18, 19, 20, 21, 22]
/-- ByInitials$Table.weigh.(II)V -/
def bc_58 : List Ins := [(0, 0, 0, 9, []), (2, 3, 0, 0, []), (0, 0, 0, 0, []), (2, 4, 0, 0, []), (0, 0, 0, 1, []), (2, 5, 0, 0, []), (1, 5, 0, 0, []), (1, 0, 1, 0, []), (14, 6, 3, 0, []), (12, 47, 3, 0, []), (1, 1, 0, 0, []), (1, 5, 0, 0, []), (36, 135, 2, 1, []), (13, 45, 1, 0, []), (1, 0, 1, 0, []), (1, 1, 0, 0, []), (1, 2, 0, 0, []), (1, 5, 0, 0, []), (36, 57, 4, 0, [6]), (2, 6, 0, 0, []), (1, 6, 0, 0, []), (1, 3, 0, 0, []), (12, 27, 3, 0, []), (1, 6, 0, 0, []), (2, 3, 0, 0, []), (0, 0, 0, 0, []), (2, 4, 0, 0, []), (1, 6, 0, 0, []), (1, 3, 0, 0, []), (12, 45, 1, 0, []), (1, 4, 0, 0, []), (1, 0, 1, 0, []), (15, 6, 1, 0, []), (1, 1, 0, 0, []), (0, 0, 0, 1, []), (1, 5, 0, 0, []), (3, 5, 0, 0, []), (3, 9, 0, 0, []), (0, 0, 0, 8, []), (3, 2, 0, 0, []), (1, 5, 0, 0, []), (3, 0, 0, 0, []), (18, 0, 0, 0, []), (3, 0, 0, 0, []), (2, 4, 0, 0, []), (10, 5, 0, 1, []), (11, 6, 0, 0, []), (1, 0, 1, 0, []), (15, 6, 0, 0, []), (1, 1, 0, 0, []), (0, 0, 0, 8, []), (3, 2, 0, 0, []), (1, 2, 0, 0, []), (3, 0, 0, 0, []), (1, 3, 0, 0, []), (19, 0, 0, 0, []), (1, 0, 1, 0, []), (15, 6, 1, 0, []), (1, 1, 0, 0, []), (0, 0, 0, 8, []), (3, 2, 0, 0, []), (1, 2, 0, 0, []), (3, 0, 0, 0, []), (1, 4, 0, 0, []), (19, 0, 0, 0, []), (34, 0, 0, 0, [])]
def bp_58 : List Nat := [0, 2, 3, 4, 6, 7, 9, 11, 12, 15, 18, 19, 21, 24, 27, 28, 29, 30, 32, 35, 37, 39, 40, 43, 45, 46, 47, 49, 51, 52, 55, 57, 58, 61, 62, 63, 65, 66, 67, 69, 70, 72, 73, 74, 75, 77, 80, 83, 84, 87, 88, 90, 91, 92, 93, 94, 95, 96, 99, 100, 102, 103, 104, 105, 107, 108]
/-- ByInitials$Table.fewestQuarrels.()I -/
def bc_59 : List Ins := [(1, 0, 1, 0, []), (15, 6, 0, 0, []), (0, 0, 0, 8, []), (18, 0, 0, 0, []), (33, 0, 0, 0, [])]
def bp_59 : List Nat := [0, 1, 4, 6, 7]
/-- ByInitials$Table.waysOfFewest.()I -/
def bc_60 : List Ins := [(1, 0, 1, 0, []), (15, 6, 1, 0, []), (0, 0, 0, 8, []), (18, 0, 0, 0, []), (33, 0, 0, 0, [])]
def bp_60 : List Nat := [0, 1, 4, 6, 7]
/-- ByInitials$Table.sitterAt.(I)I -/
def bc_61 : List Ins := [(0, 0, 0, 1, []), (2, 2, 0, 0, []), (0, 0, 0, 0, []), (2, 3, 0, 0, []), (0, 0, 0, 0, []), (2, 4, 0, 0, []), (1, 4, 0, 0, []), (1, 1, 0, 0, []), (12, 25, 3, 0, []), (1, 4, 0, 0, []), (0, 0, 0, 8, []), (12, 25, 3, 0, []), (1, 0, 1, 0, []), (1, 2, 0, 0, []), (1, 3, 0, 0, []), (36, 62, 3, 0, [6]), (2, 3, 0, 0, []), (1, 2, 0, 0, []), (0, 0, 0, 1, []), (1, 3, 0, 0, []), (3, 5, 0, 0, []), (3, 9, 0, 0, []), (2, 2, 0, 0, []), (10, 4, 0, 1, []), (11, 6, 0, 0, []), (1, 3, 0, 0, []), (33, 0, 0, 0, [])]
def bp_61 : List Nat := [0, 1, 2, 3, 4, 5, 7, 9, 10, 13, 15, 17, 20, 21, 22, 23, 26, 27, 28, 29, 30, 31, 32, 33, 36, 39, 40]
/-- ByInitials$Table.nextBehind.(II)I -/
def bc_62 : List Ins := [(0, 0, 0, 1, []), (2, 3, 0, 0, []), (1, 3, 0, 0, []), (1, 0, 1, 0, []), (14, 6, 3, 0, []), (12, 28, 3, 0, []), (1, 1, 0, 0, []), (1, 3, 0, 0, []), (36, 135, 2, 1, []), (13, 26, 1, 0, []), (1, 0, 1, 0, []), (1, 1, 0, 0, []), (1, 2, 0, 0, []), (1, 3, 0, 0, []), (36, 57, 4, 0, [6]), (1, 0, 1, 0, []), (15, 6, 0, 0, []), (1, 1, 0, 0, []), (0, 0, 0, 8, []), (3, 2, 0, 0, []), (1, 2, 0, 0, []), (3, 0, 0, 0, []), (18, 0, 0, 0, []), (12, 26, 1, 0, []), (1, 3, 0, 0, []), (33, 0, 0, 0, []), (10, 3, 0, 1, []), (11, 2, 0, 0, []), (0, 0, 0, 0, []), (33, 0, 0, 0, [])]
def bp_62 : List Nat := [0, 1, 2, 3, 4, 7, 10, 11, 12, 15, 18, 19, 20, 21, 22, 25, 26, 29, 30, 32, 33, 34, 35, 36, 39, 40, 41, 44, 47, 48]
/-- ByInitials$Town.<init>.()V -/
def bc_63 : List Ins := [(1, 0, 1, 0, []), (37, 0, 0, 0, []), (1, 0, 1, 0, []), (0, 0, 0, 8, []), (26, 0, 0, 0, []), (17, 7, 5, 0, []), (1, 0, 1, 0, []), (0, 0, 0, 48, []), (26, 0, 0, 0, []), (17, 7, 6, 0, []), (1, 0, 1, 0, []), (0, 0, 0, 8, []), (26, 0, 0, 0, []), (17, 7, 7, 0, []), (1, 0, 1, 0, []), (0, 0, 0, 8, []), (26, 0, 0, 0, []), (17, 7, 8, 0, []), (1, 0, 1, 0, []), (0, 0, 0, 8, []), (26, 0, 0, 0, []), (17, 7, 9, 0, []), (1, 0, 1, 0, []), (0, 0, 0, 8, []), (26, 0, 0, 0, []), (17, 7, 10, 0, []), (1, 0, 1, 0, []), (0, 0, 0, 64, []), (26, 0, 0, 0, []), (17, 7, 11, 0, []), (1, 0, 1, 0, []), (0, 0, 0, 26, []), (26, 0, 0, 0, []), (17, 7, 12, 0, []), (1, 0, 1, 0, []), (0, 0, 0, 26, []), (26, 0, 0, 0, []), (17, 7, 13, 0, []), (1, 0, 1, 0, []), (0, 0, 0, 26, []), (26, 0, 0, 0, []), (17, 7, 14, 0, []), (34, 0, 0, 0, [])]
def bp_63 : List Nat := [0, 1, 4, 5, 7, 9, 12, 13, 15, 17, 20, 21, 23, 25, 28, 29, 31, 33, 36, 37, 39, 41, 44, 45, 47, 49, 52, 53, 55, 57, 60, 61, 63, 65, 68, 69, 71, 73, 76, 77, 79, 81, 84]
/-- ByInitials$Town.clear.()V -/
def bc_64 : List Ins := [(1, 0, 1, 0, []), (0, 0, 0, 0, []), (16, 7, 0, 0, []), (1, 0, 1, 0, []), (0, 0, 0, 20, []), (16, 7, 1, 0, []), (1, 0, 1, 0, []), (0, 0, 0, 3, []), (16, 7, 2, 0, []), (1, 0, 1, 0, []), (0, 0, 0, 1, []), (16, 7, 3, 0, []), (1, 0, 1, 0, []), (0, 0, 0, 1065233, []), (16, 7, 4, 0, []), (0, 0, 0, 0, []), (2, 1, 0, 0, []), (1, 1, 0, 0, []), (0, 0, 0, 8, []), (12, 32, 3, 0, []), (1, 0, 1, 0, []), (15, 7, 9, 0, []), (1, 1, 0, 0, []), (0, 0, 0, (-4), []), (19, 0, 0, 0, []), (1, 0, 1, 0, []), (15, 7, 10, 0, []), (1, 1, 0, 0, []), (0, 0, 0, 0, []), (19, 0, 0, 0, []), (10, 1, 0, 1, []), (11, 17, 0, 0, []), (0, 0, 0, 0, []), (2, 1, 0, 0, []), (1, 1, 0, 0, []), (0, 0, 0, 64, []), (12, 44, 3, 0, []), (1, 0, 1, 0, []), (15, 7, 11, 0, []), (1, 1, 0, 0, []), (0, 0, 0, 0, []), (19, 0, 0, 0, []), (10, 1, 0, 1, []), (11, 34, 0, 0, []), (0, 0, 0, 0, []), (2, 1, 0, 0, []), (1, 1, 0, 0, []), (0, 0, 0, 26, []), (12, 66, 3, 0, []), (1, 0, 1, 0, []), (15, 7, 14, 0, []), (1, 1, 0, 0, []), (0, 0, 0, 0, []), (19, 0, 0, 0, []), (1, 0, 1, 0, []), (15, 7, 12, 0, []), (1, 1, 0, 0, []), (1, 1, 0, 0, []), (19, 0, 0, 0, []), (1, 0, 1, 0, []), (15, 7, 13, 0, []), (1, 1, 0, 0, []), (1, 1, 0, 0, []), (19, 0, 0, 0, []), (10, 1, 0, 1, []), (11, 46, 0, 0, []), (34, 0, 0, 0, [])]
def bp_64 : List Nat := [0, 1, 2, 5, 6, 8, 11, 12, 13, 16, 17, 18, 21, 22, 24, 27, 28, 29, 30, 32, 35, 36, 39, 40, 42, 43, 44, 47, 48, 49, 50, 53, 56, 57, 58, 59, 61, 64, 65, 68, 69, 70, 71, 74, 77, 78, 79, 80, 82, 85, 86, 89, 90, 91, 92, 93, 96, 97, 98, 99, 100, 103, 104, 105, 106, 109, 112]
/-- ByInitials$Town.copyFrom.(LByInitials$Town;)V -/
def bc_65 : List Ins := [(1, 0, 1, 0, []), (1, 1, 1, 0, []), (14, 7, 0, 0, []), (16, 7, 0, 0, []), (1, 0, 1, 0, []), (1, 1, 1, 0, []), (14, 7, 1, 0, []), (16, 7, 1, 0, []), (1, 0, 1, 0, []), (1, 1, 1, 0, []), (14, 7, 2, 0, []), (16, 7, 2, 0, []), (1, 0, 1, 0, []), (1, 1, 1, 0, []), (14, 7, 3, 0, []), (16, 7, 3, 0, []), (1, 0, 1, 0, []), (1, 1, 1, 0, []), (14, 7, 4, 0, []), (16, 7, 4, 0, []), (1, 1, 1, 0, []), (15, 7, 5, 0, []), (0, 0, 0, 0, []), (1, 0, 1, 0, []), (15, 7, 5, 0, []), (0, 0, 0, 0, []), (0, 0, 0, 8, []), (39, 0, 0, 0, []), (1, 1, 1, 0, []), (15, 7, 6, 0, []), (0, 0, 0, 0, []), (1, 0, 1, 0, []), (15, 7, 6, 0, []), (0, 0, 0, 0, []), (0, 0, 0, 48, []), (39, 0, 0, 0, []), (1, 1, 1, 0, []), (15, 7, 7, 0, []), (0, 0, 0, 0, []), (1, 0, 1, 0, []), (15, 7, 7, 0, []), (0, 0, 0, 0, []), (0, 0, 0, 8, []), (39, 0, 0, 0, []), (1, 1, 1, 0, []), (15, 7, 8, 0, []), (0, 0, 0, 0, []), (1, 0, 1, 0, []), (15, 7, 8, 0, []), (0, 0, 0, 0, []), (0, 0, 0, 8, []), (39, 0, 0, 0, []), (1, 1, 1, 0, []), (15, 7, 9, 0, []), (0, 0, 0, 0, []), (1, 0, 1, 0, []), (15, 7, 9, 0, []), (0, 0, 0, 0, []), (0, 0, 0, 8, []), (39, 0, 0, 0, []), (1, 1, 1, 0, []), (15, 7, 10, 0, []), (0, 0, 0, 0, []), (1, 0, 1, 0, []), (15, 7, 10, 0, []), (0, 0, 0, 0, []), (0, 0, 0, 8, []), (39, 0, 0, 0, []), (1, 1, 1, 0, []), (15, 7, 11, 0, []), (0, 0, 0, 0, []), (1, 0, 1, 0, []), (15, 7, 11, 0, []), (0, 0, 0, 0, []), (0, 0, 0, 64, []), (39, 0, 0, 0, []), (1, 1, 1, 0, []), (15, 7, 12, 0, []), (0, 0, 0, 0, []), (1, 0, 1, 0, []), (15, 7, 12, 0, []), (0, 0, 0, 0, []), (0, 0, 0, 26, []), (39, 0, 0, 0, []), (1, 1, 1, 0, []), (15, 7, 13, 0, []), (0, 0, 0, 0, []), (1, 0, 1, 0, []), (15, 7, 13, 0, []), (0, 0, 0, 0, []), (0, 0, 0, 26, []), (39, 0, 0, 0, []), (1, 1, 1, 0, []), (15, 7, 14, 0, []), (0, 0, 0, 0, []), (1, 0, 1, 0, []), (15, 7, 14, 0, []), (0, 0, 0, 0, []), (0, 0, 0, 26, []), (39, 0, 0, 0, []), (34, 0, 0, 0, [])]
def bp_65 : List Nat := [0, 1, 2, 5, 8, 9, 10, 13, 16, 17, 18, 21, 24, 25, 26, 29, 32, 33, 34, 37, 40, 41, 44, 45, 46, 49, 50, 52, 55, 56, 59, 60, 61, 64, 65, 67, 70, 71, 74, 75, 76, 79, 80, 82, 85, 86, 89, 90, 91, 94, 95, 97, 100, 101, 104, 105, 106, 109, 110, 112, 115, 116, 119, 120, 121, 124, 125, 127, 130, 131, 134, 135, 136, 139, 140, 142, 145, 146, 149, 150, 151, 154, 155, 157, 160, 161, 164, 165, 166, 169, 170, 172, 175, 176, 179, 180, 181, 184, 185, 187, 190]
/-- ByInitials$Town.settle.([IIII)Z -/
def bc_66 : List Ins := [(1, 0, 1, 0, []), (14, 7, 0, 0, []), (0, 0, 0, 8, []), (12, 6, 2, 0, []), (0, 0, 0, 0, []), (33, 1, 0, 0, []), (1, 0, 1, 0, []), (1, 0, 1, 0, []), (14, 7, 0, 0, []), (1, 1, 1, 0, []), (1, 2, 0, 0, []), (36, 67, 4, 0, [7]), (1, 0, 1, 0, []), (15, 7, 7, 0, []), (1, 0, 1, 0, []), (14, 7, 0, 0, []), (1, 3, 0, 0, []), (19, 0, 0, 0, []), (1, 0, 1, 0, []), (15, 7, 8, 0, []), (1, 0, 1, 0, []), (14, 7, 0, 0, []), (1, 4, 0, 0, []), (19, 0, 0, 0, []), (1, 0, 1, 0, []), (28, 0, 0, 0, []), (14, 7, 0, 0, []), (0, 0, 0, 1, []), (3, 0, 0, 0, []), (16, 7, 0, 0, []), (0, 0, 0, 1, []), (33, 1, 0, 0, [])]
def bp_66 : List Nat := [0, 1, 4, 6, 9, 10, 11, 12, 13, 16, 17, 18, 21, 22, 25, 26, 29, 30, 31, 32, 35, 36, 39, 41, 42, 43, 44, 47, 48, 49, 52, 53]
/-- ByInitials$Town.giveName.(I[II)V -/
def bc_67 : List Ins := [(1, 0, 1, 0, []), (15, 7, 5, 0, []), (1, 1, 0, 0, []), (1, 3, 0, 0, []), (19, 0, 0, 0, []), (0, 0, 0, 0, []), (2, 4, 0, 0, []), (1, 4, 0, 0, []), (1, 3, 0, 0, []), (12, 26, 3, 0, []), (1, 4, 0, 0, []), (0, 0, 0, 6, []), (12, 26, 3, 0, []), (1, 0, 1, 0, []), (15, 7, 6, 0, []), (1, 1, 0, 0, []), (0, 0, 0, 6, []), (3, 2, 0, 0, []), (1, 4, 0, 0, []), (3, 0, 0, 0, []), (1, 2, 1, 0, []), (1, 4, 0, 0, []), (18, 0, 0, 0, []), (19, 0, 0, 0, []), (10, 4, 0, 1, []), (11, 7, 0, 0, []), (34, 0, 0, 0, [])]
def bp_67 : List Nat := [0, 1, 4, 5, 6, 7, 8, 10, 12, 13, 16, 18, 20, 23, 24, 27, 28, 30, 31, 33, 34, 35, 37, 38, 39, 42, 45]
/-- ByInitials$Town.putFirst.([II)V -/
def bc_68 : List Ins := [(0, 0, 0, 0, []), (2, 3, 0, 0, []), (0, 0, 0, 0, []), (2, 4, 0, 0, []), (1, 4, 0, 0, []), (1, 2, 0, 0, []), (12, 23, 3, 0, []), (1, 0, 1, 0, []), (1, 1, 1, 0, []), (1, 4, 0, 0, []), (18, 0, 0, 0, []), (1, 4, 0, 0, []), (36, 69, 3, 0, [7]), (1, 3, 0, 0, []), (0, 0, 0, 1, []), (1, 1, 1, 0, []), (1, 4, 0, 0, []), (18, 0, 0, 0, []), (3, 5, 0, 0, []), (3, 9, 0, 0, []), (2, 3, 0, 0, []), (10, 4, 0, 1, []), (11, 4, 0, 0, []), (1, 2, 0, 0, []), (2, 4, 0, 0, []), (0, 0, 0, 0, []), (2, 5, 0, 0, []), (1, 5, 0, 0, []), (0, 0, 0, 26, []), (12, 44, 3, 0, []), (1, 4, 0, 0, []), (0, 0, 0, 26, []), (12, 44, 3, 0, []), (1, 3, 0, 0, []), (1, 5, 0, 0, []), (36, 135, 2, 1, []), (13, 42, 1, 0, []), (1, 0, 1, 0, []), (1, 5, 0, 0, []), (1, 4, 0, 0, []), (36, 69, 3, 0, [7]), (10, 4, 0, 1, []), (10, 5, 0, 1, []), (11, 27, 0, 0, []), (34, 0, 0, 0, [])]
def bp_68 : List Nat := [0, 1, 2, 3, 5, 7, 8, 11, 12, 13, 15, 16, 18, 21, 22, 23, 24, 26, 27, 28, 29, 30, 33, 36, 37, 39, 40, 42, 44, 46, 49, 51, 53, 56, 57, 59, 62, 65, 66, 68, 70, 73, 76, 79, 82]
/-- ByInitials$Town.place.(II)V -/
def bc_69 : List Ins := [(1, 0, 1, 0, []), (15, 7, 12, 0, []), (1, 1, 0, 0, []), (1, 2, 0, 0, []), (19, 0, 0, 0, []), (1, 0, 1, 0, []), (15, 7, 13, 0, []), (1, 2, 0, 0, []), (1, 1, 0, 0, []), (19, 0, 0, 0, []), (34, 0, 0, 0, [])]
def bp_69 : List Nat := [0, 1, 4, 5, 6, 7, 8, 11, 12, 13, 14]
/-- ByInitials$Town.exchange.(II)V -/
def bc_70 : List Ins := [(1, 0, 1, 0, []), (15, 7, 12, 0, []), (1, 1, 0, 0, []), (18, 0, 0, 0, []), (2, 3, 0, 0, []), (1, 0, 1, 0, []), (1, 1, 0, 0, []), (1, 0, 1, 0, []), (15, 7, 12, 0, []), (1, 2, 0, 0, []), (18, 0, 0, 0, []), (36, 69, 3, 0, [7]), (1, 0, 1, 0, []), (1, 2, 0, 0, []), (1, 3, 0, 0, []), (36, 69, 3, 0, [7]), (34, 0, 0, 0, [])]
def bp_70 : List Nat := [0, 1, 4, 5, 6, 7, 8, 9, 10, 13, 14, 15, 18, 19, 20, 21, 24]
/-- ByInitials$Town.setEnemies.(II)V -/
def bc_71 : List Ins := [(1, 0, 1, 0, []), (15, 7, 14, 0, []), (1, 1, 0, 0, []), (29, 0, 0, 0, []), (18, 0, 0, 0, []), (0, 0, 0, 1, []), (1, 2, 0, 0, []), (3, 5, 0, 0, []), (3, 9, 0, 0, []), (19, 0, 0, 0, []), (1, 0, 1, 0, []), (15, 7, 14, 0, []), (1, 2, 0, 0, []), (29, 0, 0, 0, []), (18, 0, 0, 0, []), (0, 0, 0, 1, []), (1, 1, 0, 0, []), (3, 5, 0, 0, []), (3, 9, 0, 0, []), (19, 0, 0, 0, []), (34, 0, 0, 0, [])]
def bp_71 : List Nat := [0, 1, 4, 5, 6, 7, 8, 9, 10, 11, 12, 13, 16, 17, 18, 19, 20, 21, 22, 23, 24]
/-- ByInitials$Town.areEnemies.(II)Z -/
def bc_72 : List Ins := [(1, 0, 1, 0, []), (15, 7, 14, 0, []), (1, 1, 0, 0, []), (18, 0, 0, 0, []), (1, 2, 0, 0, []), (36, 135, 2, 1, []), (33, 1, 0, 0, [])]
def bp_72 : List Nat := [0, 1, 4, 5, 6, 7, 10]
/-- ByInitials$Town.isVowel.(I)Z -/
def bc_73 : List Ins := [(1, 0, 1, 0, []), (14, 7, 4, 0, []), (1, 1, 0, 0, []), (36, 135, 2, 1, []), (33, 1, 0, 0, [])]
def bp_73 : List Nat := [0, 1, 4, 5, 8]
/-- ByInitials$Town.isNameless.(I)Z -/
def bc_74 : List Ins := [(1, 0, 1, 0, []), (15, 7, 5, 0, []), (1, 1, 0, 0, []), (18, 0, 0, 0, []), (13, 7, 1, 0, []), (0, 0, 0, 1, []), (11, 8, 0, 0, []), (0, 0, 0, 0, []), (33, 1, 0, 0, [])]
def bp_74 : List Nat := [0, 1, 4, 5, 6, 9, 10, 13, 14]
/-- ByInitials$Town.letterOf.(II)I -/
def bc_75 : List Ins := [(1, 2, 0, 0, []), (1, 0, 1, 0, []), (15, 7, 5, 0, []), (1, 1, 0, 0, []), (18, 0, 0, 0, []), (12, 18, 3, 0, []), (1, 2, 0, 0, []), (0, 0, 0, 6, []), (12, 18, 3, 0, []), (1, 0, 1, 0, []), (15, 7, 6, 0, []), (1, 1, 0, 0, []), (0, 0, 0, 6, []), (3, 2, 0, 0, []), (1, 2, 0, 0, []), (3, 0, 0, 0, []), (18, 0, 0, 0, []), (11, 19, 0, 0, []), (0, 0, 0, (-4), []), (33, 0, 0, 0, [])]
def bp_75 : List Nat := [0, 1, 2, 5, 6, 7, 10, 11, 13, 16, 17, 20, 21, 23, 24, 25, 26, 27, 30, 32]
/-- ByInitials$Town.first.(I)I -/
def bc_76 : List Ins := [(1, 0, 1, 0, []), (1, 1, 0, 0, []), (0, 0, 0, 0, []), (36, 75, 3, 0, [7]), (33, 0, 0, 0, [])]
def bp_76 : List Nat := [0, 1, 2, 3, 6]
/-- ByInitials$Town.setFirst.(II)V -/
def bc_77 : List Ins := [(1, 0, 1, 0, []), (1, 1, 0, 0, []), (36, 74, 2, 0, [7]), (13, 11, 1, 0, []), (1, 0, 1, 0, []), (15, 7, 6, 0, []), (1, 1, 0, 0, []), (0, 0, 0, 6, []), (3, 2, 0, 0, []), (1, 2, 0, 0, []), (19, 0, 0, 0, []), (34, 0, 0, 0, [])]
def bp_77 : List Nat := [0, 1, 2, 5, 8, 9, 12, 13, 15, 16, 17, 18]
/-- ByInitials$Town.firstLetters.()I -/
def bc_78 : List Ins := [(0, 0, 0, 0, []), (2, 1, 0, 0, []), (0, 0, 0, 0, []), (2, 2, 0, 0, []), (1, 2, 0, 0, []), (1, 0, 1, 0, []), (14, 7, 0, 0, []), (12, 24, 3, 0, []), (1, 1, 0, 0, []), (1, 0, 1, 0, []), (1, 2, 0, 0, []), (36, 74, 2, 0, [7]), (13, 15, 0, 0, []), (0, 0, 0, 0, []), (11, 20, 0, 0, []), (0, 0, 0, 1, []), (1, 0, 1, 0, []), (1, 2, 0, 0, []), (36, 76, 2, 0, [7]), (3, 5, 0, 0, []), (3, 9, 0, 0, []), (2, 1, 0, 0, []), (10, 2, 0, 1, []), (11, 4, 0, 0, []), (1, 1, 0, 0, []), (33, 0, 0, 0, [])]
def bp_78 : List Nat := [0, 1, 2, 3, 4, 5, 6, 9, 12, 13, 14, 15, 18, 21, 22, 25, 26, 27, 28, 31, 32, 33, 34, 37, 40, 41]
/-- ByInitials$Town.keyOf.(I)I -/
def bc_79 : List Ins := [(1, 0, 1, 0, []), (1, 1, 0, 0, []), (36, 74, 2, 0, [7]), (13, 6, 0, 0, []), (0, 0, 0, 387420489, []), (33, 0, 0, 0, []), (0, 0, 0, 0, []), (2, 2, 0, 0, []), (0, 0, 0, 0, []), (2, 3, 0, 0, []), (1, 3, 0, 0, []), (0, 0, 0, 6, []), (12, 36, 3, 0, []), (1, 0, 1, 0, []), (1, 1, 0, 0, []), (1, 3, 0, 0, []), (36, 75, 3, 0, [7]), (2, 4, 0, 0, []), (1, 2, 0, 0, []), (0, 0, 0, 27, []), (3, 2, 0, 0, []), (1, 4, 0, 0, []), (0, 0, 0, (-4), []), (12, 26, 1, 0, []), (0, 0, 0, 0, []), (11, 32, 0, 0, []), (1, 0, 1, 0, []), (15, 7, 12, 0, []), (1, 4, 0, 0, []), (18, 0, 0, 0, []), (0, 0, 0, 1, []), (3, 0, 0, 0, []), (3, 0, 0, 0, []), (2, 2, 0, 0, []), (10, 3, 0, 1, []), (11, 10, 0, 0, []), (1, 2, 0, 0, []), (33, 0, 0, 0, [])]
def bp_79 : List Nat := [0, 1, 2, 5, 8, 10, 11, 12, 13, 14, 15, 16, 18, 21, 22, 23, 24, 27, 29, 30, 32, 33, 35, 37, 40, 41, 44, 45, 48, 50, 51, 52, 53, 54, 55, 58, 61, 62]
/-- ByInitials$Town.keyOfOne.(I)I -/
def bc_80 : List Ins := [(1, 0, 1, 0, []), (15, 7, 12, 0, []), (1, 1, 0, 0, []), (18, 0, 0, 0, []), (0, 0, 0, 1, []), (3, 0, 0, 0, []), (0, 0, 0, 14348907, []), (3, 2, 0, 0, []), (33, 0, 0, 0, [])]
def bp_80 : List Nat := [0, 1, 4, 5, 6, 7, 8, 10, 11]
/-- ByInitials$Town.holdsOffice.(I)Z -/
def bc_81 : List Ins := [(1, 0, 1, 0, []), (1, 1, 0, 0, []), (36, 74, 2, 0, [7]), (13, 10, 1, 0, []), (1, 0, 1, 0, []), (1, 0, 1, 0, []), (1, 1, 0, 0, []), (36, 76, 2, 0, [7]), (36, 73, 2, 0, [7]), (13, 12, 0, 0, []), (0, 0, 0, 1, []), (11, 13, 0, 0, []), (0, 0, 0, 0, []), (33, 1, 0, 0, [])]
def bp_81 : List Nat := [0, 1, 2, 5, 8, 9, 10, 11, 14, 17, 20, 21, 24, 25]
/-- ByInitials$Town.countOffice.()I -/
def bc_82 : List Ins := [(0, 0, 0, 0, []), (2, 1, 0, 0, []), (0, 0, 0, 0, []), (2, 2, 0, 0, []), (1, 2, 0, 0, []), (1, 0, 1, 0, []), (14, 7, 0, 0, []), (12, 20, 3, 0, []), (1, 1, 0, 0, []), (1, 0, 1, 0, []), (1, 2, 0, 0, []), (36, 81, 2, 0, [7]), (13, 15, 0, 0, []), (0, 0, 0, 1, []), (11, 16, 0, 0, []), (0, 0, 0, 0, []), (3, 0, 0, 0, []), (2, 1, 0, 0, []), (10, 2, 0, 1, []), (11, 4, 0, 0, []), (1, 1, 0, 0, []), (33, 0, 0, 0, [])]
def bp_82 : List Nat := [0, 1, 2, 3, 4, 5, 6, 9, 12, 13, 14, 15, 18, 21, 22, 25, 26, 27, 28, 31, 34, 35]
/-- ByInitials$Town.suits.(III)Z -/
def bc_83 : List Ins := [(1, 1, 0, 0, []), (0, 0, 0, (-4), []), (12, 6, 0, 0, []), (1, 2, 0, 0, []), (0, 0, 0, (-4), []), (12, 8, 1, 0, []), (0, 0, 0, 1, []), (33, 1, 0, 0, []), (1, 0, 1, 0, []), (15, 7, 12, 0, []), (1, 1, 0, 0, []), (18, 0, 0, 0, []), (1, 0, 1, 0, []), (15, 7, 12, 0, []), (1, 2, 0, 0, []), (18, 0, 0, 0, []), (3, 1, 0, 0, []), (38, 2, 0, 0, []), (1, 3, 0, 0, []), (12, 27, 4, 0, []), (1, 0, 1, 0, []), (1, 1, 0, 0, []), (1, 2, 0, 0, []), (36, 72, 3, 0, [7]), (13, 27, 1, 0, []), (0, 0, 0, 1, []), (11, 28, 0, 0, []), (0, 0, 0, 0, []), (33, 1, 0, 0, [])]
def bp_83 : List Nat := [0, 1, 3, 6, 7, 9, 12, 13, 14, 15, 18, 19, 20, 21, 24, 25, 26, 27, 30, 31, 34, 35, 36, 37, 40, 43, 44, 47, 48]
/-- ByInitials$Town.mayWed.(III)Z -/
def bc_84 : List Ins := [(1, 0, 1, 0, []), (15, 7, 9, 0, []), (1, 1, 0, 0, []), (18, 0, 0, 0, []), (0, 0, 0, (-4), []), (12, 24, 1, 0, []), (1, 0, 1, 0, []), (15, 7, 9, 0, []), (1, 2, 0, 0, []), (18, 0, 0, 0, []), (0, 0, 0, (-4), []), (12, 24, 1, 0, []), (1, 0, 1, 0, []), (1, 0, 1, 0, []), (1, 1, 0, 0, []), (36, 76, 2, 0, [7]), (1, 0, 1, 0, []), (1, 2, 0, 0, []), (36, 76, 2, 0, [7]), (1, 3, 0, 0, []), (36, 83, 4, 0, [7]), (13, 24, 0, 0, []), (0, 0, 0, 1, []), (11, 25, 0, 0, []), (0, 0, 0, 0, []), (33, 1, 0, 0, [])]
def bp_84 : List Nat := [0, 1, 4, 5, 6, 8, 11, 12, 15, 16, 17, 19, 22, 23, 24, 25, 28, 29, 30, 33, 34, 37, 40, 41, 44, 45]
/-- ByInitials$Town.countWed.()I -/
def bc_85 : List Ins := [(0, 0, 0, 0, []), (2, 1, 0, 0, []), (0, 0, 0, 0, []), (2, 2, 0, 0, []), (1, 2, 0, 0, []), (1, 0, 1, 0, []), (14, 7, 0, 0, []), (12, 22, 3, 0, []), (1, 1, 0, 0, []), (1, 0, 1, 0, []), (15, 7, 9, 0, []), (1, 2, 0, 0, []), (18, 0, 0, 0, []), (0, 0, 0, (-4), []), (12, 17, 1, 0, []), (0, 0, 0, 0, []), (11, 18, 0, 0, []), (0, 0, 0, 1, []), (3, 0, 0, 0, []), (2, 1, 0, 0, []), (10, 2, 0, 1, []), (11, 4, 0, 0, []), (1, 1, 0, 0, []), (33, 0, 0, 0, [])]
def bp_85 : List Nat := [0, 1, 2, 3, 4, 5, 6, 9, 12, 13, 14, 17, 18, 19, 21, 24, 25, 28, 29, 30, 31, 34, 37, 38]
/-- ByInitials$Town.mayLend.(II)Z -/
def bc_86 : List Ins := [(1, 0, 1, 0, []), (1, 1, 0, 0, []), (36, 74, 2, 0, [7]), (13, 21, 1, 0, []), (1, 0, 1, 0, []), (1, 2, 0, 0, []), (36, 74, 2, 0, [7]), (13, 21, 1, 0, []), (1, 0, 1, 0, []), (15, 7, 12, 0, []), (1, 0, 1, 0, []), (1, 1, 0, 0, []), (36, 76, 2, 0, [7]), (18, 0, 0, 0, []), (1, 0, 1, 0, []), (15, 7, 12, 0, []), (1, 0, 1, 0, []), (1, 2, 0, 0, []), (36, 76, 2, 0, [7]), (18, 0, 0, 0, []), (12, 23, 3, 0, []), (0, 0, 0, 1, []), (11, 24, 0, 0, []), (0, 0, 0, 0, []), (33, 1, 0, 0, [])]
def bp_86 : List Nat := [0, 1, 2, 5, 8, 9, 10, 13, 16, 17, 20, 21, 22, 25, 26, 27, 30, 31, 32, 35, 36, 39, 40, 43, 44]
/-- ByInitials$Town.pay.(III)V -/
def bc_87 : List Ins := [(1, 0, 1, 0, []), (15, 7, 8, 0, []), (1, 1, 0, 0, []), (29, 0, 0, 0, []), (18, 0, 0, 0, []), (1, 3, 0, 0, []), (3, 1, 0, 0, []), (19, 0, 0, 0, []), (1, 0, 1, 0, []), (15, 7, 8, 0, []), (1, 2, 0, 0, []), (29, 0, 0, 0, []), (18, 0, 0, 0, []), (1, 3, 0, 0, []), (3, 0, 0, 0, []), (19, 0, 0, 0, []), (34, 0, 0, 0, [])]
def bp_87 : List Nat := [0, 1, 4, 5, 6, 7, 8, 9, 10, 11, 14, 15, 16, 17, 18, 19, 20]
/-- ByInitials$Town.debt.(II)I -/
def bc_88 : List Ins := [(1, 0, 1, 0, []), (15, 7, 11, 0, []), (1, 1, 0, 0, []), (0, 0, 0, 8, []), (3, 2, 0, 0, []), (1, 2, 0, 0, []), (3, 0, 0, 0, []), (18, 0, 0, 0, []), (33, 0, 0, 0, [])]
def bp_88 : List Nat := [0, 1, 4, 5, 7, 8, 9, 10, 11]
/-- ByInitials$Town.setDebt.(III)V -/
def bc_89 : List Ins := [(1, 0, 1, 0, []), (15, 7, 11, 0, []), (1, 1, 0, 0, []), (0, 0, 0, 8, []), (3, 2, 0, 0, []), (1, 2, 0, 0, []), (3, 0, 0, 0, []), (1, 3, 0, 0, []), (19, 0, 0, 0, []), (34, 0, 0, 0, [])]
def bp_89 : List Nat := [0, 1, 4, 5, 7, 8, 9, 10, 11, 12]
/-- ByInitials$Town.balance.(I)I -/
def bc_90 : List Ins := [(0, 0, 0, 0, []), (2, 2, 0, 0, []), (0, 0, 0, 0, []), (2, 3, 0, 0, []), (1, 3, 0, 0, []), (1, 0, 1, 0, []), (14, 7, 0, 0, []), (12, 22, 3, 0, []), (1, 2, 0, 0, []), (1, 0, 1, 0, []), (1, 1, 0, 0, []), (1, 3, 0, 0, []), (36, 88, 3, 0, [7]), (1, 0, 1, 0, []), (1, 3, 0, 0, []), (1, 1, 0, 0, []), (36, 88, 3, 0, [7]), (3, 1, 0, 0, []), (3, 0, 0, 0, []), (2, 2, 0, 0, []), (10, 3, 0, 1, []), (11, 4, 0, 0, []), (1, 2, 0, 0, []), (33, 0, 0, 0, [])]
def bp_90 : List Nat := [0, 1, 2, 3, 4, 5, 6, 9, 12, 13, 14, 15, 16, 19, 20, 21, 22, 25, 26, 27, 28, 31, 34, 35]
/-- ByInitials$Town.quarrelAtTable.(II)Z -/
def bc_91 : List Ins := [(1, 0, 1, 0, []), (1, 1, 0, 0, []), (36, 74, 2, 0, [7]), (13, 19, 1, 0, []), (1, 0, 1, 0, []), (1, 2, 0, 0, []), (36, 74, 2, 0, [7]), (13, 19, 1, 0, []), (1, 0, 1, 0, []), (1, 0, 1, 0, []), (1, 1, 0, 0, []), (36, 76, 2, 0, [7]), (1, 0, 1, 0, []), (1, 2, 0, 0, []), (36, 76, 2, 0, [7]), (36, 72, 3, 0, [7]), (13, 19, 0, 0, []), (0, 0, 0, 1, []), (11, 20, 0, 0, []), (0, 0, 0, 0, []), (33, 1, 0, 0, [])]
def bp_91 : List Nat := [0, 1, 2, 5, 8, 9, 10, 13, 16, 17, 18, 19, 22, 23, 24, 27, 30, 33, 34, 37, 38]
/-- ByInitials$Town.drawFirstLetters.(I)V -/
def bc_92 : List Ins := [(0, 0, 0, 0, []), (2, 2, 0, 0, []), (1, 2, 0, 0, []), (1, 0, 1, 0, []), (14, 7, 0, 0, []), (12, 31, 3, 0, []), (9, 0, 0, 7919, []), (1, 1, 0, 0, []), (5, 0, 0, 0, []), (7, 1, 0, 0, []), (9, 0, 0, 6151, []), (1, 2, 0, 0, []), (5, 0, 0, 0, []), (7, 1, 0, 0, []), (7, 0, 0, 0, []), (9, 0, 0, 1, []), (7, 0, 0, 0, []), (2, 3, 2, 0, []), (1, 0, 1, 0, []), (1, 2, 0, 0, []), (1, 3, 2, 0, []), (1, 3, 2, 0, []), (7, 1, 0, 0, []), (9, 0, 0, 65521, []), (7, 2, 0, 0, []), (9, 0, 0, 26, []), (7, 2, 0, 0, []), (6, 0, 0, 0, []), (36, 77, 3, 0, [7]), (10, 2, 0, 1, []), (11, 2, 0, 0, []), (34, 0, 0, 0, [])]
def bp_92 : List Nat := [0, 1, 2, 3, 4, 7, 10, 13, 14, 15, 16, 19, 20, 21, 22, 23, 24, 25, 26, 27, 28, 29, 30, 31, 34, 35, 38, 39, 40, 43, 46, 49]
/-- ByInitials.<init>.()V -/
def bc_93 : List Ins := [(1, 0, 1, 0, []), (37, 0, 0, 0, []), (1, 0, 1, 0, []), (25, 5, 5, 0, []), (28, 0, 0, 0, []), (36, 36, 1, 2, []), (17, 8, 0, 0, []), (1, 0, 1, 0, []), (25, 7, 15, 0, []), (28, 0, 0, 0, []), (36, 63, 1, 2, []), (17, 8, 1, 0, []), (1, 0, 1, 0, []), (25, 7, 15, 0, []), (28, 0, 0, 0, []), (36, 63, 1, 2, []), (17, 8, 2, 0, []), (1, 0, 1, 0, []), (25, 4, 2, 0, []), (28, 0, 0, 0, []), (0, 0, 0, 8, []), (36, 31, 2, 2, []), (17, 8, 3, 0, []), (1, 0, 1, 0, []), (25, 4, 2, 0, []), (28, 0, 0, 0, []), (0, 0, 0, 2, []), (36, 31, 2, 2, []), (17, 8, 4, 0, []), (1, 0, 1, 0, []), (25, 2, 2, 0, []), (28, 0, 0, 0, []), (36, 12, 1, 2, []), (17, 8, 5, 0, []), (1, 0, 1, 0, []), (25, 3, 2, 0, []), (28, 0, 0, 0, []), (36, 25, 1, 2, []), (17, 8, 6, 0, []), (1, 0, 1, 0, []), (25, 6, 4, 0, []), (28, 0, 0, 0, []), (36, 53, 1, 2, []), (17, 8, 7, 0, []), (1, 0, 1, 0, []), (25, 0, 3, 0, []), (28, 0, 0, 0, []), (36, 0, 1, 2, []), (17, 8, 8, 0, []), (1, 0, 1, 0, []), (25, 1, 3, 0, []), (28, 0, 0, 0, []), (36, 5, 1, 2, []), (17, 8, 9, 0, []), (1, 0, 1, 0, []), (0, 0, 0, 6, []), (26, 0, 0, 0, []), (17, 8, 10, 0, []), (0, 0, 0, 0, []), (2, 1, 0, 0, []), (1, 1, 0, 0, []), (40, 0, 0, 0, []), (36, 220, 1, 0, [10]), (12, 73, 3, 0, []), (1, 0, 1, 0, []), (15, 8, 0, 0, []), (40, 0, 0, 0, []), (1, 1, 0, 0, []), (36, 221, 2, 0, [10]), (36, 37, 2, 0, [5]), (30, 0, 0, 0, []), (10, 1, 0, 1, []), (11, 60, 0, 0, []), (1, 0, 1, 0, []), (15, 8, 0, 0, []), (1, 0, 1, 0, []), (15, 8, 1, 0, []), (36, 38, 2, 0, [5]), (30, 0, 0, 0, []), (1, 0, 1, 0, []), (15, 8, 0, 0, []), (0, 0, 0, 0, []), (16, 5, 2, 0, []), (34, 0, 0, 0, [])]
def bp_93 : List Nat := [0, 1, 4, 5, 8, 9, 12, 15, 16, 19, 20, 23, 26, 27, 30, 31, 34, 37, 38, 41, 42, 44, 47, 50, 51, 54, 55, 56, 59, 62, 63, 66, 67, 70, 73, 74, 77, 78, 81, 84, 85, 88, 89, 92, 95, 96, 99, 100, 103, 106, 107, 110, 111, 114, 117, 118, 120, 122, 125, 126, 127, 128, 130, 133, 136, 137, 140, 142, 143, 146, 149, 150, 153, 156, 157, 160, 161, 164, 167, 168, 169, 172, 173, 176]
/-- ByInitials.write.(I)I -/
def bc_94 : List Ins := [(1, 1, 0, 0, []), (0, 0, 0, 32, []), (12, 6, 2, 0, []), (1, 1, 0, 0, []), (0, 0, 0, 126, []), (12, 8, 5, 0, []), (0, 0, 0, (-1), []), (33, 0, 0, 0, []), (1, 0, 1, 0, []), (15, 8, 0, 0, []), (1, 1, 0, 0, []), (36, 37, 2, 0, [5]), (13, 17, 0, 0, []), (1, 0, 1, 0, []), (15, 8, 0, 0, []), (14, 5, 2, 0, []), (11, 18, 0, 0, []), (0, 0, 0, (-3), []), (33, 0, 0, 0, [])]
def bp_94 : List Nat := [0, 1, 3, 6, 7, 9, 12, 13, 14, 15, 18, 19, 22, 25, 26, 29, 32, 35, 37]
/-- ByInitials.wipe.()I -/
def bc_95 : List Ins := [(1, 0, 1, 0, []), (15, 8, 0, 0, []), (14, 5, 2, 0, []), (2, 1, 0, 0, []), (1, 0, 1, 0, []), (15, 8, 0, 0, []), (0, 0, 0, 0, []), (16, 5, 2, 0, []), (1, 1, 0, 0, []), (33, 0, 0, 0, [])]
def bp_95 : List Nat := [0, 1, 4, 7, 8, 9, 12, 13, 16, 17]
/-- ByInitials.fault.()I -/
def bc_96 : List Ins := [(1, 0, 1, 0, []), (15, 8, 0, 0, []), (1, 0, 1, 0, []), (15, 8, 2, 0, []), (36, 38, 2, 0, [5]), (33, 0, 0, 0, [])]
def bp_96 : List Nat := [0, 1, 4, 5, 8, 11]
/-- ByInitials.lay.()I -/
def bc_97 : List Ins := [(1, 0, 1, 0, []), (15, 8, 0, 0, []), (1, 0, 1, 0, []), (15, 8, 2, 0, []), (36, 38, 2, 0, [5]), (0, 0, 0, (-4), []), (12, 11, 1, 0, []), (1, 0, 1, 0, []), (15, 8, 2, 0, []), (14, 7, 0, 0, []), (13, 13, 1, 0, []), (0, 0, 0, (-2), []), (33, 0, 0, 0, []), (1, 0, 1, 0, []), (15, 8, 1, 0, []), (1, 0, 1, 0, []), (15, 8, 2, 0, []), (36, 65, 2, 0, [7]), (1, 0, 1, 0, []), (0, 0, 0, 0, []), (16, 8, 11, 0, []), (1, 0, 1, 0, []), (15, 8, 9, 0, []), (0, 0, 0, 0, []), (16, 1, 2, 0, []), (1, 0, 1, 0, []), (15, 8, 3, 0, []), (0, 0, 0, 0, []), (16, 4, 1, 0, []), (1, 0, 1, 0, []), (15, 8, 4, 0, []), (0, 0, 0, 0, []), (16, 4, 1, 0, []), (1, 0, 1, 0, []), (15, 8, 1, 0, []), (14, 7, 0, 0, []), (33, 0, 0, 0, [])]
def bp_97 : List Nat := [0, 1, 4, 5, 8, 11, 13, 16, 17, 20, 23, 26, 28, 29, 30, 33, 34, 37, 40, 41, 42, 45, 46, 49, 50, 53, 54, 57, 58, 61, 62, 65, 66, 69, 70, 73, 76]
/-- ByInitials.person.(II)I -/
def bc_98 : List Ins := [(1, 0, 1, 0, []), (1, 1, 0, 0, []), (36, 132, 2, 0, [8]), (13, 6, 1, 0, []), (0, 0, 0, (-1), []), (33, 0, 0, 0, []), (1, 2, 0, 0, []), (31, 57, 0, 0, [8, 14, 20, 26, 32, 38, 43, 48]), (1, 0, 1, 0, []), (15, 8, 1, 0, []), (15, 7, 5, 0, []), (1, 1, 0, 0, []), (18, 0, 0, 0, []), (33, 0, 0, 0, []), (1, 0, 1, 0, []), (15, 8, 1, 0, []), (15, 7, 7, 0, []), (1, 1, 0, 0, []), (18, 0, 0, 0, []), (33, 0, 0, 0, []), (1, 0, 1, 0, []), (15, 8, 1, 0, []), (15, 7, 8, 0, []), (1, 1, 0, 0, []), (18, 0, 0, 0, []), (33, 0, 0, 0, []), (1, 0, 1, 0, []), (15, 8, 1, 0, []), (15, 7, 9, 0, []), (1, 1, 0, 0, []), (18, 0, 0, 0, []), (33, 0, 0, 0, []), (1, 0, 1, 0, []), (15, 8, 1, 0, []), (15, 7, 10, 0, []), (1, 1, 0, 0, []), (18, 0, 0, 0, []), (33, 0, 0, 0, []), (1, 0, 1, 0, []), (36, 136, 1, 0, [8]), (1, 1, 0, 0, []), (36, 16, 2, 0, [2]), (33, 0, 0, 0, []), (1, 0, 1, 0, []), (36, 136, 1, 0, [8]), (1, 1, 0, 0, []), (36, 18, 2, 0, [2]), (33, 0, 0, 0, []), (1, 0, 1, 0, []), (15, 8, 1, 0, []), (1, 1, 0, 0, []), (36, 81, 2, 0, [7]), (13, 55, 0, 0, []), (0, 0, 0, 1, []), (11, 56, 0, 0, []), (0, 0, 0, 0, []), (33, 0, 0, 0, []), (0, 0, 0, (-1), []), (33, 0, 0, 0, [])]
def bp_98 : List Nat := [0, 1, 2, 5, 8, 9, 10, 11, 56, 57, 60, 63, 64, 65, 66, 67, 70, 73, 74, 75, 76, 77, 80, 83, 84, 85, 86, 87, 90, 93, 94, 95, 96, 97, 100, 103, 104, 105, 106, 107, 110, 111, 114, 115, 116, 119, 120, 123, 124, 125, 128, 129, 132, 135, 136, 139, 140, 141, 142]
/-- ByInitials.letter.(II)I -/
def bc_99 : List Ins := [(1, 0, 1, 0, []), (1, 1, 0, 0, []), (36, 132, 2, 0, [8]), (13, 6, 0, 0, []), (1, 2, 0, 0, []), (13, 8, 3, 0, []), (0, 0, 0, (-1), []), (33, 0, 0, 0, []), (1, 0, 1, 0, []), (15, 8, 1, 0, []), (1, 1, 0, 0, []), (1, 2, 0, 0, []), (36, 75, 3, 0, [7]), (33, 0, 0, 0, [])]
def bp_99 : List Nat := [0, 1, 2, 5, 8, 9, 12, 13, 14, 15, 18, 19, 20, 23]
/-- ByInitials.alphabet.(II)I -/
def bc_100 : List Ins := [(1, 1, 0, 0, []), (36, 134, 1, 1, []), (13, 5, 1, 0, []), (0, 0, 0, (-1), []), (33, 0, 0, 0, []), (1, 2, 0, 0, []), (31, 28, 0, 0, [7, 13, 19]), (1, 0, 1, 0, []), (15, 8, 1, 0, []), (15, 7, 12, 0, []), (1, 1, 0, 0, []), (18, 0, 0, 0, []), (33, 0, 0, 0, []), (1, 0, 1, 0, []), (15, 8, 1, 0, []), (15, 7, 13, 0, []), (1, 1, 0, 0, []), (18, 0, 0, 0, []), (33, 0, 0, 0, []), (1, 0, 1, 0, []), (15, 8, 1, 0, []), (1, 1, 0, 0, []), (36, 73, 2, 0, [7]), (13, 26, 0, 0, []), (0, 0, 0, 1, []), (11, 27, 0, 0, []), (0, 0, 0, 0, []), (33, 0, 0, 0, []), (0, 0, 0, (-1), []), (33, 0, 0, 0, [])]
def bp_100 : List Nat := [0, 1, 4, 7, 8, 9, 10, 36, 37, 40, 43, 44, 45, 46, 47, 50, 53, 54, 55, 56, 57, 60, 61, 64, 67, 68, 71, 72, 73, 74]
/-- ByInitials.quarrel.(II)I -/
def bc_101 : List Ins := [(1, 1, 0, 0, []), (36, 134, 1, 1, []), (13, 6, 0, 0, []), (1, 2, 0, 0, []), (36, 134, 1, 1, []), (13, 8, 1, 0, []), (0, 0, 0, (-1), []), (33, 0, 0, 0, []), (1, 0, 1, 0, []), (15, 8, 1, 0, []), (1, 1, 0, 0, []), (1, 2, 0, 0, []), (36, 72, 3, 0, [7]), (13, 16, 0, 0, []), (0, 0, 0, 1, []), (11, 17, 0, 0, []), (0, 0, 0, 0, []), (33, 0, 0, 0, [])]
def bp_101 : List Nat := [0, 1, 4, 7, 8, 11, 14, 15, 16, 17, 20, 21, 22, 25, 28, 29, 32, 33]
/-- ByInitials.spell.(I)I -/
def bc_102 : List Ins := [(1, 1, 0, 0, []), (36, 134, 1, 1, []), (13, 5, 1, 0, []), (0, 0, 0, (-1), []), (33, 0, 0, 0, []), (1, 0, 1, 0, []), (14, 8, 11, 0, []), (0, 0, 0, 6, []), (12, 11, 2, 0, []), (0, 0, 0, (-3), []), (33, 0, 0, 0, []), (1, 0, 1, 0, []), (15, 8, 10, 0, []), (1, 0, 1, 0, []), (14, 8, 11, 0, []), (1, 1, 0, 0, []), (19, 0, 0, 0, []), (1, 0, 1, 0, []), (28, 0, 0, 0, []), (14, 8, 11, 0, []), (0, 0, 0, 1, []), (3, 0, 0, 0, []), (16, 8, 11, 0, []), (1, 0, 1, 0, []), (14, 8, 11, 0, []), (33, 0, 0, 0, [])]
def bp_102 : List Nat := [0, 1, 4, 7, 8, 9, 10, 13, 15, 18, 20, 21, 22, 25, 26, 29, 30, 31, 32, 33, 36, 37, 38, 41, 42, 45]
/-- ByInitials.unspell.()I -/
def bc_103 : List Ins := [(1, 0, 1, 0, []), (14, 8, 11, 0, []), (2, 1, 0, 0, []), (1, 0, 1, 0, []), (0, 0, 0, 0, []), (16, 8, 11, 0, []), (1, 1, 0, 0, []), (33, 0, 0, 0, [])]
def bp_103 : List Nat := [0, 1, 4, 5, 6, 7, 10, 11]
/-- ByInitials.price.(I)I -/
def bc_104 : List Ins := [(1, 0, 1, 0, []), (1, 1, 0, 0, []), (36, 132, 2, 0, [8]), (13, 8, 0, 0, []), (1, 0, 1, 0, []), (1, 1, 0, 0, []), (36, 137, 2, 0, [8]), (11, 9, 0, 0, []), (0, 0, 0, (-1), []), (33, 0, 0, 0, [])]
def bp_104 : List Nat := [0, 1, 2, 5, 8, 9, 10, 13, 16, 17]
/-- ByInitials.rename.(I)I -/
def bc_105 : List Ins := [(1, 0, 1, 0, []), (1, 1, 0, 0, []), (36, 132, 2, 0, [8]), (13, 6, 1, 0, []), (0, 0, 0, (-1), []), (33, 0, 0, 0, []), (1, 0, 1, 0, []), (1, 1, 0, 0, []), (36, 137, 2, 0, [8]), (2, 2, 0, 0, []), (1, 0, 1, 0, []), (15, 8, 1, 0, []), (15, 7, 10, 0, []), (1, 1, 0, 0, []), (18, 0, 0, 0, []), (0, 0, 0, 1, []), (12, 24, 0, 0, []), (1, 0, 1, 0, []), (15, 8, 1, 0, []), (15, 7, 8, 0, []), (1, 1, 0, 0, []), (18, 0, 0, 0, []), (1, 2, 0, 0, []), (12, 26, 3, 0, []), (0, 0, 0, (-2), []), (33, 0, 0, 0, []), (1, 0, 1, 0, []), (15, 8, 3, 0, []), (1, 0, 1, 0, []), (15, 8, 1, 0, []), (36, 33, 2, 0, [4]), (1, 0, 1, 0, []), (15, 8, 1, 0, []), (1, 1, 0, 0, []), (1, 0, 1, 0, []), (15, 8, 10, 0, []), (1, 0, 1, 0, []), (14, 8, 11, 0, []), (36, 67, 4, 0, [7]), (1, 0, 1, 0, []), (15, 8, 1, 0, []), (15, 7, 10, 0, []), (1, 1, 0, 0, []), (0, 0, 0, 1, []), (19, 0, 0, 0, []), (1, 0, 1, 0, []), (15, 8, 1, 0, []), (15, 7, 8, 0, []), (1, 1, 0, 0, []), (29, 0, 0, 0, []), (18, 0, 0, 0, []), (1, 2, 0, 0, []), (3, 1, 0, 0, []), (19, 0, 0, 0, []), (1, 0, 1, 0, []), (15, 8, 1, 0, []), (15, 7, 8, 0, []), (1, 1, 0, 0, []), (18, 0, 0, 0, []), (33, 0, 0, 0, [])]
def bp_105 : List Nat := [0, 1, 2, 5, 8, 9, 10, 11, 12, 15, 16, 17, 20, 23, 24, 25, 26, 29, 30, 33, 36, 37, 38, 39, 42, 44, 45, 46, 49, 50, 53, 56, 57, 60, 61, 62, 65, 66, 69, 72, 73, 76, 79, 80, 81, 82, 83, 86, 89, 90, 91, 92, 93, 94, 95, 96, 99, 102, 103, 104]
/-- ByInitials.may.(II)I -/
def bc_106 : List Ins := [(1, 0, 1, 0, []), (1, 1, 0, 0, []), (1, 2, 0, 0, []), (36, 133, 3, 0, [8]), (13, 7, 1, 0, []), (0, 0, 0, (-1), []), (33, 0, 0, 0, []), (1, 0, 1, 0, []), (15, 8, 1, 0, []), (1, 1, 0, 0, []), (1, 2, 0, 0, []), (1, 0, 1, 0, []), (15, 8, 1, 0, []), (14, 7, 2, 0, []), (36, 84, 4, 0, [7]), (13, 18, 0, 0, []), (0, 0, 0, 1, []), (11, 19, 0, 0, []), (0, 0, 0, 0, []), (33, 0, 0, 0, [])]
def bp_106 : List Nat := [0, 1, 2, 3, 6, 9, 10, 11, 12, 15, 16, 17, 18, 21, 24, 27, 30, 31, 34, 35]
/-- ByInitials.wed.(II)I -/
def bc_107 : List Ins := [(1, 0, 1, 0, []), (1, 1, 0, 0, []), (1, 2, 0, 0, []), (36, 133, 3, 0, [8]), (13, 7, 1, 0, []), (0, 0, 0, (-1), []), (33, 0, 0, 0, []), (1, 0, 1, 0, []), (15, 8, 1, 0, []), (1, 1, 0, 0, []), (1, 2, 0, 0, []), (1, 0, 1, 0, []), (15, 8, 1, 0, []), (14, 7, 2, 0, []), (36, 84, 4, 0, [7]), (13, 18, 1, 0, []), (0, 0, 0, (-2), []), (33, 0, 0, 0, []), (1, 0, 1, 0, []), (15, 8, 3, 0, []), (1, 0, 1, 0, []), (15, 8, 1, 0, []), (36, 33, 2, 0, [4]), (1, 0, 1, 0, []), (15, 8, 1, 0, []), (15, 7, 9, 0, []), (1, 1, 0, 0, []), (1, 2, 0, 0, []), (19, 0, 0, 0, []), (1, 0, 1, 0, []), (15, 8, 1, 0, []), (15, 7, 9, 0, []), (1, 2, 0, 0, []), (1, 1, 0, 0, []), (19, 0, 0, 0, []), (1, 0, 1, 0, []), (15, 8, 1, 0, []), (36, 85, 1, 0, [7]), (33, 0, 0, 0, [])]
def bp_107 : List Nat := [0, 1, 2, 3, 6, 9, 10, 11, 12, 15, 16, 17, 18, 21, 24, 27, 30, 32, 33, 34, 37, 38, 41, 44, 45, 48, 51, 52, 53, 54, 55, 58, 61, 62, 63, 64, 65, 68, 71]
/-- ByInitials.lend.(III)I -/
def bc_108 : List Ins := [(1, 0, 1, 0, []), (1, 1, 0, 0, []), (1, 2, 0, 0, []), (36, 133, 3, 0, [8]), (13, 11, 0, 0, []), (1, 3, 0, 0, []), (0, 0, 0, 1, []), (12, 11, 2, 0, []), (1, 3, 0, 0, []), (0, 0, 0, 99, []), (12, 13, 5, 0, []), (0, 0, 0, (-1), []), (33, 0, 0, 0, []), (1, 0, 1, 0, []), (15, 8, 1, 0, []), (1, 1, 0, 0, []), (1, 2, 0, 0, []), (36, 88, 3, 0, [7]), (1, 3, 0, 0, []), (3, 0, 0, 0, []), (2, 4, 0, 0, []), (1, 0, 1, 0, []), (15, 8, 1, 0, []), (15, 7, 8, 0, []), (1, 1, 0, 0, []), (18, 0, 0, 0, []), (1, 3, 0, 0, []), (12, 37, 2, 0, []), (1, 4, 0, 0, []), (0, 0, 0, 999, []), (12, 37, 4, 0, []), (1, 0, 1, 0, []), (15, 8, 1, 0, []), (1, 1, 0, 0, []), (1, 2, 0, 0, []), (36, 86, 3, 0, [7]), (13, 39, 1, 0, []), (0, 0, 0, (-2), []), (33, 0, 0, 0, []), (1, 0, 1, 0, []), (15, 8, 3, 0, []), (1, 0, 1, 0, []), (15, 8, 1, 0, []), (36, 33, 2, 0, [4]), (1, 0, 1, 0, []), (15, 8, 1, 0, []), (1, 1, 0, 0, []), (1, 2, 0, 0, []), (1, 3, 0, 0, []), (36, 87, 4, 0, [7]), (1, 0, 1, 0, []), (15, 8, 1, 0, []), (1, 1, 0, 0, []), (1, 2, 0, 0, []), (1, 4, 0, 0, []), (36, 89, 4, 0, [7]), (1, 4, 0, 0, []), (33, 0, 0, 0, [])]
def bp_108 : List Nat := [0, 1, 2, 3, 6, 9, 10, 11, 14, 15, 17, 20, 21, 22, 23, 26, 27, 28, 31, 32, 33, 35, 36, 39, 42, 43, 44, 45, 48, 50, 53, 56, 57, 60, 61, 62, 65, 68, 70, 71, 72, 75, 76, 79, 82, 83, 86, 87, 88, 89, 92, 93, 96, 97, 98, 100, 103, 105]
/-- ByInitials.repay.(III)I -/
def bc_109 : List Ins := [(1, 0, 1, 0, []), (1, 1, 0, 0, []), (1, 2, 0, 0, []), (36, 133, 3, 0, [8]), (13, 11, 0, 0, []), (1, 3, 0, 0, []), (0, 0, 0, 1, []), (12, 11, 2, 0, []), (1, 3, 0, 0, []), (0, 0, 0, 99, []), (12, 13, 5, 0, []), (0, 0, 0, (-1), []), (33, 0, 0, 0, []), (1, 0, 1, 0, []), (15, 8, 1, 0, []), (1, 1, 0, 0, []), (1, 2, 0, 0, []), (36, 88, 3, 0, [7]), (1, 3, 0, 0, []), (3, 1, 0, 0, []), (2, 4, 0, 0, []), (1, 4, 0, 0, []), (13, 30, 2, 0, []), (1, 0, 1, 0, []), (15, 8, 1, 0, []), (15, 7, 8, 0, []), (1, 2, 0, 0, []), (18, 0, 0, 0, []), (1, 3, 0, 0, []), (12, 32, 3, 0, []), (0, 0, 0, (-2), []), (33, 0, 0, 0, []), (1, 0, 1, 0, []), (15, 8, 3, 0, []), (1, 0, 1, 0, []), (15, 8, 1, 0, []), (36, 33, 2, 0, [4]), (1, 0, 1, 0, []), (15, 8, 1, 0, []), (1, 2, 0, 0, []), (1, 1, 0, 0, []), (1, 3, 0, 0, []), (36, 87, 4, 0, [7]), (1, 0, 1, 0, []), (15, 8, 1, 0, []), (1, 1, 0, 0, []), (1, 2, 0, 0, []), (1, 4, 0, 0, []), (36, 89, 4, 0, [7]), (1, 4, 0, 0, []), (33, 0, 0, 0, [])]
def bp_109 : List Nat := [0, 1, 2, 3, 6, 9, 10, 11, 14, 15, 17, 20, 21, 22, 23, 26, 27, 28, 31, 32, 33, 35, 37, 40, 41, 44, 47, 48, 49, 50, 53, 55, 56, 57, 60, 61, 64, 67, 68, 71, 72, 73, 74, 77, 78, 81, 82, 83, 85, 88, 90]
/-- ByInitials.swap.(II)I -/
def bc_110 : List Ins := [(1, 1, 0, 0, []), (36, 134, 1, 1, []), (13, 9, 0, 0, []), (1, 2, 0, 0, []), (36, 134, 1, 1, []), (13, 9, 0, 0, []), (1, 1, 0, 0, []), (1, 2, 0, 0, []), (12, 11, 1, 0, []), (0, 0, 0, (-1), []), (33, 0, 0, 0, []), (1, 0, 1, 0, []), (15, 8, 3, 0, []), (1, 0, 1, 0, []), (15, 8, 1, 0, []), (36, 33, 2, 0, [4]), (1, 0, 1, 0, []), (15, 8, 1, 0, []), (1, 1, 0, 0, []), (1, 2, 0, 0, []), (36, 70, 3, 0, [7]), (1, 0, 1, 0, []), (15, 8, 1, 0, []), (15, 7, 12, 0, []), (1, 1, 0, 0, []), (18, 0, 0, 0, []), (33, 0, 0, 0, [])]
def bp_110 : List Nat := [0, 1, 4, 7, 8, 11, 14, 15, 16, 19, 20, 21, 22, 25, 26, 29, 32, 33, 36, 37, 38, 41, 42, 45, 48, 49, 50]
/-- ByInitials.newYear.()I -/
def bc_111 : List Ins := [(1, 0, 1, 0, []), (15, 8, 3, 0, []), (1, 0, 1, 0, []), (15, 8, 1, 0, []), (36, 33, 2, 0, [4]), (0, 0, 0, 0, []), (2, 1, 0, 0, []), (0, 0, 0, 0, []), (2, 2, 0, 0, []), (1, 2, 0, 0, []), (1, 0, 1, 0, []), (15, 8, 1, 0, []), (14, 7, 0, 0, []), (12, 30, 3, 0, []), (1, 1, 0, 0, []), (1, 0, 1, 0, []), (15, 8, 1, 0, []), (15, 7, 10, 0, []), (1, 2, 0, 0, []), (18, 0, 0, 0, []), (3, 0, 0, 0, []), (2, 1, 0, 0, []), (1, 0, 1, 0, []), (15, 8, 1, 0, []), (15, 7, 10, 0, []), (1, 2, 0, 0, []), (0, 0, 0, 0, []), (19, 0, 0, 0, []), (10, 2, 0, 1, []), (11, 9, 0, 0, []), (1, 1, 0, 0, []), (33, 0, 0, 0, [])]
def bp_111 : List Nat := [0, 1, 4, 5, 8, 11, 12, 13, 14, 15, 16, 17, 20, 23, 26, 27, 28, 31, 34, 35, 36, 37, 38, 39, 42, 45, 46, 47, 48, 51, 54, 55]
/-- ByInitials.undo.()I -/
def bc_112 : List Ins := [(1, 0, 1, 0, []), (15, 8, 3, 0, []), (1, 0, 1, 0, []), (15, 8, 1, 0, []), (36, 34, 2, 0, [4]), (13, 10, 0, 0, []), (1, 0, 1, 0, []), (15, 8, 3, 0, []), (14, 4, 1, 0, []), (11, 11, 0, 0, []), (0, 0, 0, (-2), []), (33, 0, 0, 0, [])]
def bp_112 : List Nat := [0, 1, 4, 5, 8, 11, 14, 15, 18, 21, 24, 26]
/-- ByInitials.change.(II)I -/
def bc_113 : List Ins := [(1, 0, 1, 0, []), (1, 1, 0, 0, []), (36, 132, 2, 0, [8]), (13, 9, 0, 0, []), (1, 2, 0, 0, []), (13, 9, 2, 0, []), (1, 2, 0, 0, []), (0, 0, 0, 1, []), (12, 11, 5, 0, []), (0, 0, 0, (-1), []), (33, 0, 0, 0, []), (1, 0, 1, 0, []), (15, 8, 1, 0, []), (1, 1, 0, 0, []), (36, 74, 2, 0, [7]), (13, 18, 0, 0, []), (0, 0, 0, (-2), []), (33, 0, 0, 0, []), (1, 0, 1, 0, []), (36, 136, 1, 0, [8]), (30, 0, 0, 0, []), (1, 0, 1, 0, []), (15, 8, 5, 0, []), (1, 1, 0, 0, []), (36, 23, 2, 0, [2]), (2, 3, 0, 0, []), (1, 2, 0, 0, []), (13, 30, 1, 0, []), (1, 3, 0, 0, []), (11, 37, 0, 0, []), (1, 0, 1, 0, []), (15, 8, 5, 0, []), (1, 1, 0, 0, []), (1, 3, 0, 0, []), (36, 22, 3, 0, [2]), (0, 0, 0, 100, []), (3, 0, 0, 0, []), (33, 0, 0, 0, [])]
def bp_113 : List Nat := [0, 1, 2, 5, 8, 9, 12, 13, 14, 17, 18, 19, 20, 23, 24, 27, 30, 32, 33, 34, 37, 38, 39, 42, 43, 46, 47, 48, 51, 52, 55, 56, 59, 60, 61, 64, 66, 67]
/-- ByInitials.run.(I)I -/
def bc_114 : List Ins := [(1, 1, 0, 0, []), (0, 0, 0, (-1), []), (12, 9, 0, 0, []), (1, 0, 1, 0, []), (1, 1, 0, 0, []), (36, 132, 2, 0, [8]), (13, 9, 1, 0, []), (0, 0, 0, (-1), []), (33, 0, 0, 0, []), (1, 1, 0, 0, []), (0, 0, 0, (-1), []), (12, 19, 0, 0, []), (1, 0, 1, 0, []), (15, 8, 1, 0, []), (1, 1, 0, 0, []), (36, 74, 2, 0, [7]), (13, 19, 0, 0, []), (0, 0, 0, (-4), []), (33, 0, 0, 0, []), (1, 0, 1, 0, []), (36, 136, 1, 0, [8]), (30, 0, 0, 0, []), (0, 0, 0, 0, []), (2, 2, 0, 0, []), (1, 2, 0, 0, []), (0, 0, 0, 20, []), (12, 33, 3, 0, []), (1, 0, 1, 0, []), (15, 8, 5, 0, []), (36, 24, 1, 0, [2]), (13, 33, 0, 0, []), (10, 2, 0, 1, []), (11, 24, 0, 0, []), (1, 1, 0, 0, []), (0, 0, 0, (-1), []), (12, 42, 0, 0, []), (1, 0, 1, 0, []), (15, 8, 5, 0, []), (15, 2, 1, 0, []), (1, 1, 0, 0, []), (36, 76, 2, 0, [7]), (33, 0, 0, 0, []), (1, 2, 0, 0, []), (0, 0, 0, 20, []), (12, 51, 1, 0, []), (1, 0, 1, 0, []), (15, 8, 5, 0, []), (36, 24, 1, 0, [2]), (13, 51, 0, 0, []), (0, 0, 0, (-4), []), (11, 52, 0, 0, []), (1, 2, 0, 0, []), (33, 0, 0, 0, [])]
def bp_114 : List Nat := [0, 1, 2, 5, 6, 7, 10, 13, 14, 15, 16, 17, 20, 21, 24, 25, 28, 31, 33, 34, 35, 38, 39, 40, 41, 42, 44, 47, 48, 51, 54, 57, 60, 63, 64, 65, 68, 69, 72, 75, 76, 79, 80, 81, 83, 86, 87, 90, 93, 96, 98, 101, 102]
/-- ByInitials.shortest.(IIIII)I -/
def bc_115 : List Ins := [(1, 0, 1, 0, []), (1, 1, 0, 0, []), (36, 132, 2, 0, [8]), (13, 12, 0, 0, []), (1, 0, 1, 0, []), (1, 3, 0, 0, []), (36, 132, 2, 0, [8]), (13, 12, 0, 0, []), (1, 0, 1, 0, []), (1, 4, 0, 0, []), (36, 132, 2, 0, [8]), (13, 14, 1, 0, []), (0, 0, 0, (-1), []), (33, 0, 0, 0, []), (1, 2, 0, 0, []), (13, 24, 2, 0, []), (1, 2, 0, 0, []), (0, 0, 0, 7, []), (12, 24, 4, 0, []), (1, 5, 0, 0, []), (13, 24, 2, 0, []), (1, 5, 0, 0, []), (0, 0, 0, 3, []), (12, 26, 5, 0, []), (0, 0, 0, (-1), []), (33, 0, 0, 0, []), (1, 5, 0, 0, []), (0, 0, 0, 1, []), (12, 31, 5, 0, []), (0, 0, 0, (-4), []), (11, 37, 0, 0, []), (1, 0, 1, 0, []), (1, 1, 0, 0, []), (1, 2, 0, 0, []), (1, 3, 0, 0, []), (1, 4, 0, 0, []), (36, 138, 5, 0, [8]), (2, 6, 0, 0, []), (1, 6, 0, 0, []), (0, 0, 0, (-4), []), (12, 43, 1, 0, []), (0, 0, 0, (-4), []), (33, 0, 0, 0, []), (1, 5, 0, 0, []), (13, 47, 1, 0, []), (0, 0, 0, 1, []), (11, 48, 0, 0, []), (1, 6, 0, 0, []), (33, 0, 0, 0, [])]
def bp_115 : List Nat := [0, 1, 2, 5, 8, 9, 10, 13, 16, 17, 19, 22, 25, 26, 27, 28, 31, 32, 34, 37, 39, 42, 44, 45, 48, 49, 50, 52, 53, 56, 58, 61, 62, 63, 64, 65, 67, 70, 72, 74, 76, 79, 81, 82, 84, 87, 88, 91, 93]
/-- ByInitials.match.(I)I -/
def bc_116 : List Ins := [(1, 1, 0, 0, []), (0, 0, 0, (-1), []), (12, 9, 0, 0, []), (1, 0, 1, 0, []), (1, 1, 0, 0, []), (36, 132, 2, 0, [8]), (13, 9, 1, 0, []), (0, 0, 0, (-1), []), (33, 0, 0, 0, []), (1, 0, 1, 0, []), (15, 8, 6, 0, []), (1, 0, 1, 0, []), (15, 8, 1, 0, []), (1, 0, 1, 0, []), (15, 8, 1, 0, []), (14, 7, 2, 0, []), (36, 26, 3, 0, [3]), (2, 2, 0, 0, []), (1, 1, 0, 0, []), (0, 0, 0, (-1), []), (12, 23, 1, 0, []), (1, 2, 0, 0, []), (11, 30, 0, 0, []), (1, 0, 1, 0, []), (15, 8, 6, 0, []), (1, 1, 0, 0, []), (1, 0, 1, 0, []), (15, 8, 1, 0, []), (14, 7, 0, 0, []), (36, 29, 3, 0, [3]), (33, 0, 0, 0, [])]
def bp_116 : List Nat := [0, 1, 2, 5, 6, 7, 10, 13, 14, 15, 16, 19, 20, 23, 24, 27, 30, 33, 34, 35, 36, 39, 40, 43, 44, 47, 48, 49, 52, 55, 58]
/-- ByInitials.wide.(I)I -/
def bc_117 : List Ins := [(1, 1, 0, 0, []), (0, 0, 0, 1, []), (12, 6, 2, 0, []), (1, 1, 0, 0, []), (0, 0, 0, 4, []), (12, 8, 5, 0, []), (0, 0, 0, (-1), []), (33, 0, 0, 0, []), (1, 0, 1, 0, []), (15, 8, 6, 0, []), (1, 0, 1, 0, []), (15, 8, 1, 0, []), (0, 0, 0, 25, []), (36, 26, 3, 0, [3]), (1, 1, 0, 0, []), (12, 18, 3, 0, []), (0, 0, 0, (-4), []), (33, 0, 0, 0, []), (0, 0, 0, 0, []), (2, 2, 0, 0, []), (0, 0, 0, 25, []), (2, 3, 0, 0, []), (0, 0, 0, 0, []), (2, 4, 0, 0, []), (1, 4, 0, 0, []), (0, 0, 0, 26, []), (12, 53, 3, 0, []), (1, 2, 0, 0, []), (1, 3, 0, 0, []), (12, 53, 3, 0, []), (1, 2, 0, 0, []), (1, 3, 0, 0, []), (3, 0, 0, 0, []), (0, 0, 0, 1, []), (3, 6, 0, 0, []), (2, 5, 0, 0, []), (1, 0, 1, 0, []), (15, 8, 6, 0, []), (1, 0, 1, 0, []), (15, 8, 1, 0, []), (1, 5, 0, 0, []), (36, 26, 3, 0, [3]), (1, 1, 0, 0, []), (12, 47, 2, 0, []), (1, 5, 0, 0, []), (2, 3, 0, 0, []), (11, 51, 0, 0, []), (1, 5, 0, 0, []), (0, 0, 0, 1, []), (3, 0, 0, 0, []), (2, 2, 0, 0, []), (10, 4, 0, 1, []), (11, 24, 0, 0, []), (1, 3, 0, 0, []), (33, 0, 0, 0, [])]
def bp_117 : List Nat := [0, 1, 2, 5, 6, 7, 10, 11, 12, 13, 16, 17, 20, 22, 25, 26, 29, 31, 32, 33, 34, 36, 37, 38, 40, 42, 44, 47, 48, 49, 52, 53, 54, 55, 56, 57, 59, 60, 63, 64, 67, 69, 72, 73, 76, 78, 79, 82, 84, 85, 86, 87, 90, 93, 94]
/-- ByInitials.owed.(II)I -/
def bc_118 : List Ins := [(1, 0, 1, 0, []), (1, 1, 0, 0, []), (36, 132, 2, 0, [8]), (13, 14, 0, 0, []), (1, 0, 1, 0, []), (1, 2, 0, 0, []), (36, 132, 2, 0, [8]), (13, 14, 0, 0, []), (1, 0, 1, 0, []), (15, 8, 1, 0, []), (1, 1, 0, 0, []), (1, 2, 0, 0, []), (36, 88, 3, 0, [7]), (11, 15, 0, 0, []), (0, 0, 0, (-1), []), (33, 0, 0, 0, [])]
def bp_118 : List Nat := [0, 1, 2, 5, 8, 9, 10, 13, 16, 17, 20, 21, 22, 25, 28, 29]
/-- ByInitials.net.(I)I -/
def bc_119 : List Ins := [(1, 0, 1, 0, []), (1, 1, 0, 0, []), (36, 132, 2, 0, [8]), (13, 11, 0, 0, []), (1, 0, 1, 0, []), (15, 8, 1, 0, []), (1, 1, 0, 0, []), (36, 90, 2, 0, [7]), (0, 0, 0, 10000, []), (3, 0, 0, 0, []), (11, 12, 0, 0, []), (0, 0, 0, (-1), []), (33, 0, 0, 0, [])]
def bp_119 : List Nat := [0, 1, 2, 5, 8, 9, 12, 13, 16, 19, 20, 23, 24]
/-- ByInitials.chain.()I -/
def bc_120 : List Ins := [(1, 0, 1, 0, []), (15, 8, 8, 0, []), (1, 0, 1, 0, []), (15, 8, 1, 0, []), (36, 1, 2, 0, [0]), (33, 0, 0, 0, [])]
def bp_120 : List Nat := [0, 1, 4, 5, 8, 11]
/-- ByInitials.payments.()I -/
def bc_121 : List Ins := [(1, 0, 1, 0, []), (15, 8, 8, 0, []), (1, 0, 1, 0, []), (15, 8, 1, 0, []), (36, 3, 2, 0, [0]), (33, 0, 0, 0, [])]
def bp_121 : List Nat := [0, 1, 4, 5, 8, 11]
/-- ByInitials.seats.(I)I -/
def bc_122 : List Ins := [(1, 1, 0, 0, []), (0, 0, 0, (-2), []), (12, 8, 2, 0, []), (1, 1, 0, 0, []), (1, 0, 1, 0, []), (15, 8, 1, 0, []), (14, 7, 0, 0, []), (12, 10, 2, 0, []), (0, 0, 0, (-1), []), (33, 0, 0, 0, []), (1, 0, 1, 0, []), (15, 8, 7, 0, []), (1, 0, 1, 0, []), (15, 8, 1, 0, []), (36, 54, 2, 0, [6]), (1, 1, 0, 0, []), (0, 0, 0, (-1), []), (12, 22, 1, 0, []), (1, 0, 1, 0, []), (15, 8, 7, 0, []), (36, 59, 1, 0, [6]), (33, 0, 0, 0, []), (1, 1, 0, 0, []), (0, 0, 0, (-2), []), (12, 29, 1, 0, []), (1, 0, 1, 0, []), (15, 8, 7, 0, []), (36, 60, 1, 0, [6]), (11, 33, 0, 0, []), (1, 0, 1, 0, []), (15, 8, 7, 0, []), (1, 1, 0, 0, []), (36, 61, 2, 0, [6]), (33, 0, 0, 0, [])]
def bp_122 : List Nat := [0, 1, 3, 6, 7, 8, 11, 14, 17, 18, 19, 20, 23, 24, 27, 30, 31, 32, 35, 36, 39, 42, 43, 44, 46, 49, 50, 53, 56, 59, 60, 63, 64, 67]
/-- ByInitials.bestSwap.(I)I -/
def bc_123 : List Ins := [(1, 1, 0, 0, []), (13, 5, 2, 0, []), (1, 1, 0, 0, []), (0, 0, 0, 1, []), (12, 7, 5, 0, []), (0, 0, 0, (-1), []), (33, 0, 0, 0, []), (1, 0, 1, 0, []), (36, 136, 1, 0, [8]), (36, 19, 1, 0, [2]), (2, 2, 0, 0, []), (0, 0, 0, (-4), []), (2, 3, 0, 0, []), (1, 0, 1, 0, []), (15, 8, 1, 0, []), (36, 78, 1, 0, [7]), (2, 4, 0, 0, []), (0, 0, 0, 0, []), (2, 5, 0, 0, []), (1, 5, 0, 0, []), (0, 0, 0, 26, []), (12, 58, 3, 0, []), (1, 5, 0, 0, []), (0, 0, 0, 1, []), (3, 0, 0, 0, []), (2, 6, 0, 0, []), (1, 6, 0, 0, []), (0, 0, 0, 26, []), (12, 56, 3, 0, []), (1, 4, 0, 0, []), (1, 5, 0, 0, []), (36, 135, 2, 1, []), (13, 54, 0, 0, []), (1, 4, 0, 0, []), (1, 6, 0, 0, []), (36, 135, 2, 1, []), (13, 54, 0, 0, []), (1, 0, 1, 0, []), (15, 8, 5, 0, []), (1, 5, 0, 0, []), (1, 6, 0, 0, []), (36, 20, 3, 0, [2]), (2, 7, 0, 0, []), (1, 7, 0, 0, []), (1, 2, 0, 0, []), (12, 54, 5, 0, []), (1, 7, 0, 0, []), (2, 2, 0, 0, []), (0, 0, 0, 26, []), (1, 5, 0, 0, []), (3, 2, 0, 0, []), (1, 6, 0, 0, []), (3, 0, 0, 0, []), (2, 3, 0, 0, []), (10, 6, 0, 1, []), (11, 26, 0, 0, []), (10, 5, 0, 1, []), (11, 19, 0, 0, []), (1, 3, 0, 0, []), (0, 0, 0, (-4), []), (12, 63, 0, 0, []), (1, 1, 0, 0, []), (13, 65, 1, 0, []), (1, 3, 0, 0, []), (11, 66, 0, 0, []), (1, 2, 0, 0, []), (33, 0, 0, 0, [])]
def bp_123 : List Nat := [0, 1, 4, 5, 6, 9, 10, 11, 12, 15, 18, 19, 21, 22, 23, 26, 29, 31, 32, 34, 36, 38, 41, 43, 44, 45, 47, 49, 51, 54, 56, 58, 61, 64, 66, 68, 71, 74, 75, 78, 80, 82, 85, 87, 89, 90, 93, 95, 96, 98, 100, 101, 103, 104, 105, 108, 111, 114, 117, 118, 120, 123, 124, 127, 128, 131, 132]
/-- ByInitials.enter.(II)I -/
def bc_124 : List Ins := [(1, 1, 0, 0, []), (36, 134, 1, 1, []), (13, 8, 0, 0, []), (1, 2, 0, 0, []), (13, 8, 2, 0, []), (1, 2, 0, 0, []), (0, 0, 0, 9, []), (12, 10, 5, 0, []), (0, 0, 0, (-1), []), (33, 0, 0, 0, []), (1, 0, 1, 0, []), (15, 8, 9, 0, []), (1, 1, 0, 0, []), (1, 2, 0, 0, []), (36, 6, 3, 0, [1]), (13, 20, 0, 0, []), (1, 0, 1, 0, []), (15, 8, 9, 0, []), (14, 1, 2, 0, []), (11, 21, 0, 0, []), (0, 0, 0, (-3), []), (33, 0, 0, 0, [])]
def bp_124 : List Nat := [0, 1, 4, 7, 8, 11, 12, 14, 17, 18, 19, 20, 23, 24, 25, 28, 31, 32, 35, 38, 41, 43]
/-- ByInitials.close.()I -/
def bc_125 : List Ins := [(1, 0, 1, 0, []), (15, 8, 9, 0, []), (14, 1, 2, 0, []), (2, 1, 0, 0, []), (1, 0, 1, 0, []), (15, 8, 9, 0, []), (0, 0, 0, 0, []), (16, 1, 2, 0, []), (1, 1, 0, 0, []), (33, 0, 0, 0, [])]
def bp_125 : List Nat := [0, 1, 4, 7, 8, 9, 12, 13, 16, 17]
/-- ByInitials.fits.()I -/
def bc_126 : List Ins := [(1, 0, 1, 0, []), (15, 8, 9, 0, []), (1, 0, 1, 0, []), (36, 136, 1, 0, [8]), (36, 10, 2, 0, [1]), (33, 0, 0, 0, [])]
def bp_126 : List Nat := [0, 1, 4, 5, 8, 11]
/-- ByInitials.sure.(I)I -/
def bc_127 : List Ins := [(1, 1, 0, 0, []), (13, 7, 2, 0, []), (1, 1, 0, 0, []), (1, 0, 1, 0, []), (15, 8, 9, 0, []), (14, 1, 2, 0, []), (12, 9, 2, 0, []), (0, 0, 0, (-1), []), (33, 0, 0, 0, []), (1, 0, 1, 0, []), (15, 8, 9, 0, []), (1, 0, 1, 0, []), (36, 136, 1, 0, [8]), (36, 10, 2, 0, [1]), (13, 17, 1, 0, []), (0, 0, 0, (-4), []), (11, 23, 0, 0, []), (1, 0, 1, 0, []), (15, 8, 9, 0, []), (1, 1, 0, 0, []), (1, 0, 1, 0, []), (15, 8, 5, 0, []), (36, 11, 3, 0, [1]), (33, 0, 0, 0, [])]
def bp_127 : List Nat := [0, 1, 4, 5, 6, 9, 12, 15, 16, 17, 18, 21, 22, 25, 28, 31, 33, 36, 37, 40, 41, 42, 45, 48]
/-- ByInitials.year.(II)I -/
def bc_128 : List Ins := [(1, 1, 0, 0, []), (13, 10, 2, 0, []), (1, 1, 0, 0, []), (0, 0, 0, 9999, []), (12, 10, 4, 0, []), (1, 2, 0, 0, []), (13, 10, 2, 0, []), (1, 2, 0, 0, []), (0, 0, 0, 1, []), (12, 12, 5, 0, []), (0, 0, 0, (-1), []), (33, 0, 0, 0, []), (1, 0, 1, 0, []), (36, 136, 1, 0, [8]), (30, 0, 0, 0, []), (1, 0, 1, 0, []), (15, 8, 5, 0, []), (15, 2, 1, 0, []), (1, 1, 0, 0, []), (36, 92, 2, 0, [7]), (1, 0, 1, 0, []), (15, 8, 5, 0, []), (36, 14, 1, 0, [2]), (1, 2, 0, 0, []), (13, 29, 1, 0, []), (1, 0, 1, 0, []), (15, 8, 5, 0, []), (36, 19, 1, 0, [2]), (11, 33, 0, 0, []), (1, 0, 1, 0, []), (15, 8, 5, 0, []), (15, 2, 1, 0, []), (36, 82, 1, 0, [7]), (33, 0, 0, 0, [])]
def bp_128 : List Nat := [0, 1, 4, 5, 8, 11, 12, 15, 16, 17, 20, 21, 22, 23, 26, 27, 28, 31, 34, 35, 38, 39, 42, 45, 46, 49, 50, 53, 56, 59, 60, 63, 66, 69]
/-- ByInitials.keep.()I -/
def bc_129 : List Ins := [(1, 0, 1, 0, []), (15, 8, 4, 0, []), (36, 32, 1, 0, [4]), (13, 6, 0, 0, []), (0, 0, 0, (-3), []), (33, 0, 0, 0, []), (1, 0, 1, 0, []), (15, 8, 4, 0, []), (1, 0, 1, 0, []), (15, 8, 1, 0, []), (36, 33, 2, 0, [4]), (1, 0, 1, 0, []), (15, 8, 4, 0, []), (14, 4, 1, 0, []), (33, 0, 0, 0, [])]
def bp_129 : List Nat := [0, 1, 4, 7, 10, 12, 13, 14, 17, 18, 21, 24, 25, 28, 31]
/-- ByInitials.back.()I -/
def bc_130 : List Ins := [(1, 0, 1, 0, []), (15, 8, 4, 0, []), (1, 0, 1, 0, []), (15, 8, 1, 0, []), (36, 34, 2, 0, [4]), (13, 8, 1, 0, []), (0, 0, 0, (-2), []), (33, 0, 0, 0, []), (1, 0, 1, 0, []), (15, 8, 3, 0, []), (0, 0, 0, 0, []), (16, 4, 1, 0, []), (1, 0, 1, 0, []), (15, 8, 4, 0, []), (14, 4, 1, 0, []), (33, 0, 0, 0, [])]
def bp_130 : List Nat := [0, 1, 4, 5, 8, 11, 14, 16, 17, 18, 21, 22, 25, 26, 29, 32]
/-- ByInitials.count.(I)I -/
def bc_131 : List Ins := [(1, 1, 0, 0, []), (31, 45, 0, 0, [2, 6, 10, 14, 18, 21, 25, 29, 33, 37, 41]), (1, 0, 1, 0, []), (15, 8, 1, 0, []), (14, 7, 0, 0, []), (33, 0, 0, 0, []), (1, 0, 1, 0, []), (15, 8, 1, 0, []), (14, 7, 1, 0, []), (33, 0, 0, 0, []), (1, 0, 1, 0, []), (15, 8, 1, 0, []), (14, 7, 2, 0, []), (33, 0, 0, 0, []), (1, 0, 1, 0, []), (15, 8, 1, 0, []), (14, 7, 3, 0, []), (33, 0, 0, 0, []), (1, 0, 1, 0, []), (14, 8, 11, 0, []), (33, 0, 0, 0, []), (1, 0, 1, 0, []), (15, 8, 1, 0, []), (36, 85, 1, 0, [7]), (33, 0, 0, 0, []), (1, 0, 1, 0, []), (15, 8, 9, 0, []), (14, 1, 2, 0, []), (33, 0, 0, 0, []), (1, 0, 1, 0, []), (15, 8, 3, 0, []), (14, 4, 1, 0, []), (33, 0, 0, 0, []), (1, 0, 1, 0, []), (15, 8, 4, 0, []), (14, 4, 1, 0, []), (33, 0, 0, 0, []), (1, 0, 1, 0, []), (15, 8, 0, 0, []), (14, 5, 2, 0, []), (33, 0, 0, 0, []), (1, 0, 1, 0, []), (36, 136, 1, 0, [8]), (36, 19, 1, 0, [2]), (33, 0, 0, 0, []), (0, 0, 0, (-1), []), (33, 0, 0, 0, [])]
def bp_131 : List Nat := [0, 1, 60, 61, 64, 67, 68, 69, 72, 75, 76, 77, 80, 83, 84, 85, 88, 91, 92, 93, 96, 97, 98, 101, 104, 105, 106, 109, 112, 113, 114, 117, 120, 121, 122, 125, 128, 129, 130, 133, 136, 137, 138, 141, 144, 145, 146]
/-- ByInitials.isPerson.(I)Z -/
def bc_132 : List Ins := [(1, 1, 0, 0, []), (13, 9, 2, 0, []), (1, 1, 0, 0, []), (1, 0, 1, 0, []), (15, 8, 1, 0, []), (14, 7, 0, 0, []), (12, 9, 3, 0, []), (0, 0, 0, 1, []), (11, 10, 0, 0, []), (0, 0, 0, 0, []), (33, 1, 0, 0, [])]
def bp_132 : List Nat := [0, 1, 4, 5, 6, 9, 12, 15, 16, 19, 20]
/-- ByInitials.areTwo.(II)Z -/
def bc_133 : List Ins := [(1, 0, 1, 0, []), (1, 1, 0, 0, []), (36, 132, 2, 0, [8]), (13, 13, 0, 0, []), (1, 0, 1, 0, []), (1, 2, 0, 0, []), (36, 132, 2, 0, [8]), (13, 13, 0, 0, []), (1, 1, 0, 0, []), (1, 2, 0, 0, []), (12, 13, 0, 0, []), (0, 0, 0, 1, []), (11, 14, 0, 0, []), (0, 0, 0, 0, []), (33, 1, 0, 0, [])]
def bp_133 : List Nat := [0, 1, 2, 5, 8, 9, 10, 13, 16, 17, 18, 21, 22, 25, 26]
/-- ByInitials.isLetter.(I)Z -/
def bc_134 : List Ins := [(1, 0, 0, 0, []), (13, 7, 2, 0, []), (1, 0, 0, 0, []), (0, 0, 0, 26, []), (12, 7, 3, 0, []), (0, 0, 0, 1, []), (11, 8, 0, 0, []), (0, 0, 0, 0, []), (33, 1, 0, 0, [])]
def bp_134 : List Nat := [0, 1, 4, 5, 7, 10, 11, 14, 15]
/-- ByInitials.holds.(II)Z -/
def bc_135 : List Ins := [(1, 0, 0, 0, []), (1, 1, 0, 0, []), (3, 6, 0, 0, []), (0, 0, 0, 1, []), (3, 8, 0, 0, []), (0, 0, 0, 1, []), (12, 9, 1, 0, []), (0, 0, 0, 1, []), (11, 10, 0, 0, []), (0, 0, 0, 0, []), (33, 1, 0, 0, [])]
def bp_135 : List Nat := [0, 1, 2, 3, 4, 5, 6, 9, 10, 13, 14]
/-- ByInitials.lineNow.()LByInitials$Line; -/
def bc_136 : List Ins := [(1, 0, 1, 0, []), (15, 8, 5, 0, []), (1, 0, 1, 0, []), (15, 8, 1, 0, []), (36, 13, 2, 0, [2]), (1, 0, 1, 0, []), (15, 8, 5, 0, []), (35, 0, 0, 0, [])]
def bp_136 : List Nat := [0, 1, 4, 5, 8, 11, 12, 15]
/-- ByInitials.priceOfWord.(I)I -/
def bc_137 : List Ins := [(0, 0, 0, 0, []), (2, 2, 0, 0, []), (0, 0, 0, 0, []), (2, 3, 0, 0, []), (1, 3, 0, 0, []), (0, 0, 0, 6, []), (12, 28, 3, 0, []), (1, 3, 0, 0, []), (1, 0, 1, 0, []), (14, 8, 11, 0, []), (12, 16, 3, 0, []), (1, 0, 1, 0, []), (15, 8, 10, 0, []), (1, 3, 0, 0, []), (18, 0, 0, 0, []), (11, 17, 0, 0, []), (0, 0, 0, (-4), []), (2, 4, 0, 0, []), (1, 4, 0, 0, []), (1, 0, 1, 0, []), (15, 8, 1, 0, []), (1, 1, 0, 0, []), (1, 3, 0, 0, []), (36, 75, 3, 0, [7]), (12, 26, 0, 0, []), (10, 2, 0, 1, []), (10, 3, 0, 1, []), (11, 4, 0, 0, []), (1, 2, 0, 0, []), (1, 0, 1, 0, []), (15, 8, 1, 0, []), (14, 7, 3, 0, []), (3, 2, 0, 0, []), (33, 0, 0, 0, [])]
def bp_137 : List Nat := [0, 1, 2, 3, 4, 5, 7, 10, 11, 12, 15, 18, 19, 22, 23, 24, 27, 29, 31, 33, 34, 37, 38, 39, 42, 45, 48, 51, 54, 55, 56, 59, 62, 63]
/-- ByInitials.firstWithRights.(IIII)I -/
def bc_138 : List Ins := [(1, 0, 1, 0, []), (36, 136, 1, 0, [8]), (30, 0, 0, 0, []), (0, 0, 0, 0, []), (2, 5, 0, 0, []), (1, 5, 0, 0, []), (0, 0, 0, 26, []), (12, 78, 3, 0, []), (1, 0, 1, 0, []), (15, 8, 1, 0, []), (15, 7, 13, 0, []), (1, 5, 0, 0, []), (18, 0, 0, 0, []), (2, 6, 0, 0, []), (1, 2, 0, 0, []), (0, 0, 0, 1, []), (3, 8, 0, 0, []), (13, 23, 0, 0, []), (1, 0, 1, 0, []), (15, 8, 1, 0, []), (1, 6, 0, 0, []), (36, 73, 2, 0, [7]), (13, 25, 0, 0, []), (0, 0, 0, 1, []), (11, 26, 0, 0, []), (0, 0, 0, 0, []), (2, 7, 0, 0, []), (1, 2, 0, 0, []), (0, 0, 0, 2, []), (3, 8, 0, 0, []), (13, 44, 0, 0, []), (1, 1, 0, 0, []), (1, 3, 0, 0, []), (12, 46, 0, 0, []), (1, 0, 1, 0, []), (15, 8, 5, 0, []), (1, 3, 0, 0, []), (1, 1, 0, 0, []), (1, 0, 1, 0, []), (15, 8, 1, 0, []), (1, 6, 0, 0, []), (36, 80, 2, 0, [7]), (36, 15, 4, 0, [2]), (13, 46, 0, 0, []), (0, 0, 0, 1, []), (11, 47, 0, 0, []), (0, 0, 0, 0, []), (2, 8, 0, 0, []), (1, 2, 0, 0, []), (0, 0, 0, 4, []), (3, 8, 0, 0, []), (13, 64, 0, 0, []), (1, 0, 1, 0, []), (15, 8, 1, 0, []), (1, 6, 0, 0, []), (1, 0, 1, 0, []), (15, 8, 1, 0, []), (1, 4, 0, 0, []), (36, 76, 2, 0, [7]), (1, 0, 1, 0, []), (15, 8, 1, 0, []), (14, 7, 2, 0, []), (36, 83, 4, 0, [7]), (13, 66, 0, 0, []), (0, 0, 0, 1, []), (11, 67, 0, 0, []), (0, 0, 0, 0, []), (2, 9, 0, 0, []), (1, 7, 0, 0, []), (13, 76, 0, 0, []), (1, 8, 0, 0, []), (13, 76, 0, 0, []), (1, 9, 0, 0, []), (13, 76, 0, 0, []), (1, 6, 0, 0, []), (33, 0, 0, 0, []), (10, 5, 0, 1, []), (11, 5, 0, 0, []), (0, 0, 0, (-4), []), (33, 0, 0, 0, [])]
def bp_138 : List Nat := [0, 1, 4, 5, 6, 8, 10, 12, 15, 16, 19, 22, 24, 25, 27, 28, 29, 30, 33, 34, 37, 39, 42, 45, 46, 49, 50, 52, 53, 54, 55, 58, 59, 60, 63, 64, 67, 68, 69, 70, 73, 75, 78, 81, 84, 85, 88, 89, 91, 92, 93, 94, 97, 98, 101, 103, 104, 107, 109, 112, 113, 116, 119, 122, 125, 126, 129, 130, 132, 134, 137, 139, 142, 144, 147, 149, 150, 153, 156, 158]
/-- ByInitialsModel.<init>.()V -/
def bc_139 : List Ins := [(1, 0, 1, 0, []), (37, 0, 0, 0, []), (1, 0, 1, 0, []), (0, 0, 0, 200, []), (26, 1, 0, 0, []), (17, 9, 1, 0, []), (1, 0, 1, 0, []), (0, 0, 0, 12, []), (26, 0, 0, 0, []), (17, 9, 3, 0, []), (1, 0, 1, 0, []), (0, 0, 0, 16, []), (26, 0, 0, 0, []), (17, 9, 4, 0, []), (1, 0, 1, 0, []), (0, 0, 0, 56, []), (26, 0, 0, 0, []), (17, 9, 5, 0, []), (1, 0, 1, 0, []), (0, 0, 0, 8, []), (26, 0, 0, 0, []), (17, 9, 6, 0, []), (1, 0, 1, 0, []), (0, 0, 0, 26, []), (26, 0, 0, 0, []), (17, 9, 7, 0, []), (1, 0, 1, 0, []), (0, 0, 0, 24, []), (26, 0, 0, 0, []), (17, 9, 8, 0, []), (1, 0, 1, 0, []), (0, 0, 0, 2040, []), (26, 0, 0, 0, []), (17, 9, 9, 0, []), (1, 0, 1, 0, []), (0, 0, 0, 6, []), (26, 0, 0, 0, []), (17, 9, 13, 0, []), (1, 0, 1, 0, []), (0, 0, 0, 16, []), (26, 0, 0, 0, []), (17, 9, 15, 0, []), (1, 0, 1, 0, []), (0, 0, 0, 8, []), (26, 0, 0, 0, []), (17, 9, 16, 0, []), (1, 0, 1, 0, []), (0, 0, 0, 8, []), (26, 0, 0, 0, []), (17, 9, 17, 0, []), (1, 0, 1, 0, []), (0, 0, 0, 8, []), (26, 0, 0, 0, []), (17, 9, 18, 0, []), (1, 0, 1, 0, []), (0, 0, 0, 256, []), (26, 0, 0, 0, []), (17, 9, 19, 0, []), (1, 0, 1, 0, []), (0, 0, 0, 2, []), (26, 0, 0, 0, []), (17, 9, 21, 0, []), (1, 0, 1, 0, []), (0, 0, 0, 6, []), (26, 0, 0, 0, []), (17, 9, 22, 0, []), (1, 0, 1, 0, []), (36, 152, 1, 0, [9]), (1, 0, 1, 0, []), (0, 0, 0, 4, []), (0, 0, 0, 0, []), (0, 0, 0, 3, []), (0, 0, 0, 0, []), (0, 0, 0, 12, []), (0, 0, 0, 0, []), (36, 141, 7, 0, [9]), (1, 0, 1, 0, []), (0, 0, 0, 5, []), (0, 0, 0, 9, []), (36, 142, 3, 0, [9]), (1, 0, 1, 0, []), (0, 0, 0, 5, []), (0, 0, 0, 16, []), (0, 0, 0, 20, []), (0, 0, 0, 8, []), (0, 0, 0, 13, []), (0, 0, 0, 13, []), (36, 141, 7, 0, [9]), (1, 0, 1, 0, []), (0, 0, 0, 9, []), (0, 0, 0, 5, []), (36, 142, 3, 0, [9]), (1, 0, 1, 0, []), (0, 0, 0, 3, []), (0, 0, 0, 25, []), (0, 0, 0, 14, []), (0, 0, 0, 4, []), (0, 0, 0, 0, []), (0, 0, 0, 0, []), (36, 141, 7, 0, [9]), (1, 0, 1, 0, []), (0, 0, 0, 8, []), (0, 0, 0, 30, []), (36, 142, 3, 0, [9]), (1, 0, 1, 0, []), (0, 0, 0, 0, []), (0, 0, 0, 0, []), (0, 0, 0, 0, []), (0, 0, 0, 0, []), (0, 0, 0, 0, []), (0, 0, 0, 0, []), (36, 141, 7, 0, [9]), (1, 0, 1, 0, []), (0, 0, 0, 3, []), (0, 0, 0, 0, []), (36, 142, 3, 0, [9]), (1, 0, 1, 0, []), (15, 9, 8, 0, []), (0, 0, 0, 12, []), (0, 0, 0, 0, []), (19, 0, 0, 0, []), (1, 0, 1, 0, []), (15, 9, 8, 0, []), (0, 0, 0, 13, []), (0, 0, 0, 16, []), (19, 0, 0, 0, []), (1, 0, 1, 0, []), (15, 9, 3, 0, []), (0, 0, 0, 10, []), (0, 0, 0, 1, []), (19, 0, 0, 0, []), (1, 0, 1, 0, []), (36, 153, 1, 0, [9]), (34, 0, 0, 0, [])]
def bp_139 : List Nat := [0, 1, 4, 5, 8, 10, 13, 14, 16, 18, 21, 22, 24, 26, 29, 30, 32, 34, 37, 38, 40, 42, 45, 46, 48, 50, 53, 54, 56, 58, 61, 62, 65, 67, 70, 71, 73, 75, 78, 79, 81, 83, 86, 87, 89, 91, 94, 95, 97, 99, 102, 103, 105, 107, 110, 111, 114, 116, 119, 120, 121, 123, 126, 127, 129, 131, 134, 135, 138, 139, 140, 141, 142, 143, 145, 146, 149, 150, 151, 153, 156, 157, 158, 160, 162, 164, 166, 168, 171, 172, 174, 175, 178, 179, 180, 182, 184, 185, 186, 187, 190, 191, 193, 195, 198, 199, 200, 201, 202, 203, 204, 205, 208, 209, 210, 211, 214, 215, 218, 220, 221, 222, 223, 226, 228, 230, 231, 232, 235, 237, 238, 239, 240, 243]
/-- ByInitialsModel.in.(JJJ)Z -/
def bc_140 : List Ins := [(1, 0, 2, 0, []), (1, 2, 2, 0, []), (8, 0, 0, 0, []), (13, 10, 2, 0, []), (1, 0, 2, 0, []), (1, 4, 2, 0, []), (8, 0, 0, 0, []), (13, 10, 4, 0, []), (0, 0, 0, 1, []), (11, 11, 0, 0, []), (0, 0, 0, 0, []), (33, 1, 0, 0, [])]
def bp_140 : List Nat := [0, 1, 2, 3, 6, 7, 9, 10, 13, 14, 17, 18]
/-- ByInitialsModel.spelled.(IIIIII)V -/
def bc_141 : List Ins := [(1, 0, 1, 0, []), (1, 1, 0, 0, []), (16, 9, 23, 0, []), (1, 0, 1, 0, []), (15, 9, 22, 0, []), (0, 0, 0, 0, []), (1, 2, 0, 0, []), (19, 0, 0, 0, []), (1, 0, 1, 0, []), (15, 9, 22, 0, []), (0, 0, 0, 1, []), (1, 3, 0, 0, []), (19, 0, 0, 0, []), (1, 0, 1, 0, []), (15, 9, 22, 0, []), (0, 0, 0, 2, []), (1, 4, 0, 0, []), (19, 0, 0, 0, []), (1, 0, 1, 0, []), (15, 9, 22, 0, []), (0, 0, 0, 3, []), (1, 5, 0, 0, []), (19, 0, 0, 0, []), (1, 0, 1, 0, []), (15, 9, 22, 0, []), (0, 0, 0, 4, []), (1, 6, 0, 0, []), (19, 0, 0, 0, []), (34, 0, 0, 0, [])]
def bp_141 : List Nat := [0, 1, 2, 5, 6, 9, 10, 11, 12, 13, 16, 17, 18, 19, 20, 23, 24, 26, 27, 28, 31, 32, 34, 35, 36, 39, 40, 42, 43]
/-- ByInitialsModel.puts.(II)V -/
def bc_142 : List Ins := [(1, 0, 1, 0, []), (15, 9, 21, 0, []), (0, 0, 0, 0, []), (1, 1, 0, 0, []), (19, 0, 0, 0, []), (1, 0, 1, 0, []), (15, 9, 21, 0, []), (0, 0, 0, 1, []), (1, 2, 0, 0, []), (19, 0, 0, 0, []), (1, 0, 1, 0, []), (36, 150, 1, 0, [9]), (2, 3, 0, 0, []), (1, 0, 1, 0, []), (15, 9, 3, 0, []), (0, 0, 0, 11, []), (29, 0, 0, 0, []), (18, 0, 0, 0, []), (1, 3, 0, 0, []), (13, 22, 0, 0, []), (0, 0, 0, 0, []), (11, 23, 0, 0, []), (0, 0, 0, 1, []), (3, 0, 0, 0, []), (19, 0, 0, 0, []), (34, 0, 0, 0, [])]
def bp_142 : List Nat := [0, 1, 4, 5, 6, 7, 8, 11, 12, 13, 14, 15, 18, 19, 20, 23, 25, 26, 27, 28, 31, 32, 35, 36, 37, 38]
/-- ByInitialsModel.write.(I)I -/
def bc_143 : List Ins := [(1, 1, 0, 0, []), (5, 0, 0, 0, []), (9, 0, 0, 32, []), (9, 0, 0, 126, []), (36, 140, 3, 1, []), (13, 8, 1, 0, []), (0, 0, 0, (-1), []), (33, 0, 0, 0, []), (1, 0, 1, 0, []), (14, 9, 0, 0, []), (0, 0, 0, 200, []), (12, 14, 1, 0, []), (0, 0, 0, (-3), []), (33, 0, 0, 0, []), (1, 0, 1, 0, []), (15, 9, 1, 0, []), (1, 0, 1, 0, []), (14, 9, 0, 0, []), (1, 1, 0, 0, []), (4, 1, 0, 0, []), (21, 0, 0, 0, []), (1, 0, 1, 0, []), (28, 0, 0, 0, []), (14, 9, 0, 0, []), (0, 0, 0, 1, []), (3, 0, 0, 0, []), (16, 9, 0, 0, []), (1, 0, 1, 0, []), (14, 9, 0, 0, []), (33, 0, 0, 0, [])]
def bp_143 : List Nat := [0, 1, 2, 5, 8, 11, 14, 15, 16, 17, 20, 23, 26, 28, 29, 30, 33, 34, 37, 38, 39, 40, 41, 42, 45, 46, 47, 50, 51, 54]
/-- ByInitialsModel.wipe.()I -/
def bc_144 : List Ins := [(1, 0, 1, 0, []), (14, 9, 0, 0, []), (2, 1, 0, 0, []), (1, 0, 1, 0, []), (0, 0, 0, 0, []), (16, 9, 0, 0, []), (1, 1, 0, 0, []), (33, 0, 0, 0, [])]
def bp_144 : List Nat := [0, 1, 4, 5, 6, 7, 10, 11]
/-- ByInitialsModel.number.()I -/
def bc_145 : List Ins := [(0, 0, 0, 0, []), (2, 1, 0, 0, []), (0, 0, 0, 0, []), (2, 2, 0, 0, []), (1, 0, 1, 0, []), (14, 9, 2, 0, []), (1, 0, 1, 0, []), (14, 9, 0, 0, []), (12, 44, 3, 0, []), (1, 0, 1, 0, []), (15, 9, 1, 0, []), (1, 0, 1, 0, []), (14, 9, 2, 0, []), (20, 0, 0, 0, []), (5, 0, 0, 0, []), (9, 0, 0, 48, []), (9, 0, 0, 57, []), (36, 140, 3, 1, []), (13, 44, 0, 0, []), (1, 2, 0, 0, []), (0, 0, 0, 2, []), (12, 34, 3, 0, []), (0, 0, 0, 10, []), (1, 1, 0, 0, []), (3, 2, 0, 0, []), (1, 0, 1, 0, []), (15, 9, 1, 0, []), (1, 0, 1, 0, []), (14, 9, 2, 0, []), (20, 0, 0, 0, []), (3, 0, 0, 0, []), (0, 0, 0, 48, []), (3, 1, 0, 0, []), (11, 35, 0, 0, []), (1, 1, 0, 0, []), (2, 1, 0, 0, []), (10, 2, 0, 1, []), (1, 0, 1, 0, []), (28, 0, 0, 0, []), (14, 9, 2, 0, []), (0, 0, 0, 1, []), (3, 0, 0, 0, []), (16, 9, 2, 0, []), (11, 4, 0, 0, []), (1, 2, 0, 0, []), (5, 0, 0, 0, []), (9, 0, 0, 1, []), (9, 0, 0, 2, []), (36, 140, 3, 1, []), (13, 52, 0, 0, []), (1, 1, 0, 0, []), (11, 53, 0, 0, []), (0, 0, 0, (-1), []), (33, 0, 0, 0, [])]
def bp_145 : List Nat := [0, 1, 2, 3, 4, 5, 8, 9, 12, 15, 16, 19, 20, 23, 24, 25, 28, 31, 34, 37, 38, 39, 42, 44, 45, 46, 47, 50, 51, 54, 55, 56, 58, 59, 62, 63, 64, 67, 68, 69, 72, 73, 74, 77, 80, 81, 82, 83, 86, 89, 92, 93, 96, 97]
/-- ByInitialsModel.isSpelt.()Z -/
def bc_146 : List Ins := [(1, 0, 1, 0, []), (0, 0, 0, 0, []), (16, 9, 23, 0, []), (1, 0, 1, 0, []), (14, 9, 2, 0, []), (1, 0, 1, 0, []), (14, 9, 0, 0, []), (12, 47, 3, 0, []), (1, 0, 1, 0, []), (15, 9, 1, 0, []), (1, 0, 1, 0, []), (14, 9, 2, 0, []), (20, 0, 0, 0, []), (5, 0, 0, 0, []), (9, 0, 0, 97, []), (9, 0, 0, 122, []), (36, 140, 3, 1, []), (13, 47, 0, 0, []), (1, 0, 1, 0, []), (14, 9, 23, 0, []), (0, 0, 0, 6, []), (12, 34, 3, 0, []), (1, 0, 1, 0, []), (15, 9, 22, 0, []), (1, 0, 1, 0, []), (14, 9, 23, 0, []), (1, 0, 1, 0, []), (15, 9, 1, 0, []), (1, 0, 1, 0, []), (14, 9, 2, 0, []), (20, 0, 0, 0, []), (0, 0, 0, 97, []), (3, 1, 0, 0, []), (19, 0, 0, 0, []), (1, 0, 1, 0, []), (28, 0, 0, 0, []), (14, 9, 23, 0, []), (0, 0, 0, 1, []), (3, 0, 0, 0, []), (16, 9, 23, 0, []), (1, 0, 1, 0, []), (28, 0, 0, 0, []), (14, 9, 2, 0, []), (0, 0, 0, 1, []), (3, 0, 0, 0, []), (16, 9, 2, 0, []), (11, 3, 0, 0, []), (1, 0, 1, 0, []), (14, 9, 23, 0, []), (0, 0, 0, 7, []), (12, 53, 3, 0, []), (0, 0, 0, 1, []), (11, 54, 0, 0, []), (0, 0, 0, 0, []), (33, 1, 0, 0, [])]
def bp_146 : List Nat := [0, 1, 2, 5, 6, 9, 10, 13, 16, 17, 20, 21, 24, 25, 26, 29, 32, 35, 38, 39, 42, 44, 47, 48, 51, 52, 55, 56, 59, 60, 63, 64, 66, 67, 68, 69, 70, 73, 74, 75, 78, 79, 80, 83, 84, 85, 88, 91, 92, 95, 97, 100, 101, 104, 105]
/-- ByInitialsModel.isMore.(I)Z -/
def bc_147 : List Ins := [(1, 0, 1, 0, []), (14, 9, 2, 0, []), (1, 0, 1, 0, []), (14, 9, 0, 0, []), (12, 12, 0, 0, []), (1, 0, 1, 0, []), (15, 9, 1, 0, []), (1, 0, 1, 0, []), (14, 9, 2, 0, []), (20, 0, 0, 0, []), (0, 0, 0, 44, []), (12, 14, 0, 0, []), (0, 0, 0, 0, []), (33, 1, 0, 0, []), (1, 0, 1, 0, []), (28, 0, 0, 0, []), (14, 9, 2, 0, []), (0, 0, 0, 1, []), (3, 0, 0, 0, []), (16, 9, 2, 0, []), (1, 0, 1, 0, []), (15, 9, 21, 0, []), (1, 1, 0, 0, []), (1, 0, 1, 0, []), (36, 145, 1, 0, [9]), (19, 0, 0, 0, []), (1, 0, 1, 0, []), (15, 9, 21, 0, []), (1, 1, 0, 0, []), (18, 0, 0, 0, []), (13, 33, 2, 0, []), (0, 0, 0, 1, []), (11, 34, 0, 0, []), (0, 0, 0, 0, []), (33, 1, 0, 0, [])]
def bp_147 : List Nat := [0, 1, 4, 5, 8, 11, 12, 15, 16, 19, 20, 22, 25, 26, 27, 28, 29, 32, 33, 34, 37, 38, 41, 42, 43, 46, 47, 48, 51, 52, 53, 56, 57, 60, 61]
/-- ByInitialsModel.isItem.()Z -/
def bc_148 : List Ins := [(1, 0, 1, 0, []), (15, 9, 1, 0, []), (1, 0, 1, 0, []), (14, 9, 2, 0, []), (20, 0, 0, 0, []), (2, 1, 0, 0, []), (1, 0, 1, 0, []), (28, 0, 0, 0, []), (14, 9, 2, 0, []), (0, 0, 0, 1, []), (3, 0, 0, 0, []), (16, 9, 2, 0, []), (1, 1, 0, 0, []), (0, 0, 0, 110, []), (12, 31, 1, 0, []), (1, 0, 1, 0, []), (36, 146, 1, 0, [9]), (13, 28, 0, 0, []), (1, 0, 1, 0, []), (0, 0, 0, 0, []), (36, 147, 2, 0, [9]), (13, 28, 0, 0, []), (1, 0, 1, 0, []), (0, 0, 0, 1, []), (36, 147, 2, 0, [9]), (13, 28, 0, 0, []), (0, 0, 0, 1, []), (11, 29, 0, 0, []), (0, 0, 0, 0, []), (2, 2, 0, 0, []), (11, 77, 0, 0, []), (1, 1, 0, 0, []), (0, 0, 0, 111, []), (12, 40, 0, 0, []), (1, 1, 0, 0, []), (0, 0, 0, 118, []), (12, 40, 0, 0, []), (1, 1, 0, 0, []), (0, 0, 0, 113, []), (12, 51, 1, 0, []), (1, 0, 1, 0, []), (36, 146, 1, 0, [9]), (13, 48, 0, 0, []), (1, 0, 1, 0, []), (14, 9, 23, 0, []), (13, 48, 5, 0, []), (0, 0, 0, 1, []), (11, 49, 0, 0, []), (0, 0, 0, 0, []), (2, 2, 0, 0, []), (11, 77, 0, 0, []), (1, 0, 1, 0, []), (15, 9, 21, 0, []), (0, 0, 0, 0, []), (1, 1, 0, 0, []), (0, 0, 0, 103, []), (12, 63, 0, 0, []), (1, 1, 0, 0, []), (0, 0, 0, 119, []), (12, 63, 0, 0, []), (1, 1, 0, 0, []), (0, 0, 0, 99, []), (12, 66, 1, 0, []), (1, 0, 1, 0, []), (36, 145, 1, 0, [9]), (11, 67, 0, 0, []), (0, 0, 0, (-1), []), (19, 0, 0, 0, []), (1, 0, 1, 0, []), (15, 9, 21, 0, []), (0, 0, 0, 0, []), (18, 0, 0, 0, []), (13, 75, 2, 0, []), (0, 0, 0, 1, []), (11, 76, 0, 0, []), (0, 0, 0, 0, []), (2, 2, 0, 0, []), (1, 2, 0, 0, []), (13, 93, 0, 0, []), (1, 0, 1, 0, []), (14, 9, 2, 0, []), (1, 0, 1, 0, []), (14, 9, 0, 0, []), (12, 93, 3, 0, []), (1, 0, 1, 0, []), (15, 9, 1, 0, []), (1, 0, 1, 0, []), (14, 9, 2, 0, []), (20, 0, 0, 0, []), (0, 0, 0, 59, []), (12, 93, 1, 0, []), (0, 0, 0, 1, []), (11, 94, 0, 0, []), (0, 0, 0, 0, []), (2, 2, 0, 0, []), (1, 0, 1, 0, []), (28, 0, 0, 0, []), (14, 9, 2, 0, []), (0, 0, 0, 1, []), (3, 0, 0, 0, []), (16, 9, 2, 0, []), (1, 2, 0, 0, []), (13, 109, 0, 0, []), (1, 0, 1, 0, []), (1, 1, 0, 0, []), (36, 149, 2, 0, [9]), (13, 109, 0, 0, []), (0, 0, 0, 1, []), (11, 110, 0, 0, []), (0, 0, 0, 0, []), (33, 1, 0, 0, [])]
def bp_148 : List Nat := [0, 1, 4, 5, 8, 9, 10, 11, 12, 15, 16, 17, 20, 21, 23, 26, 27, 30, 33, 34, 35, 38, 41, 42, 43, 46, 49, 50, 53, 54, 55, 58, 59, 61, 64, 65, 67, 70, 71, 73, 76, 77, 80, 83, 84, 87, 90, 91, 94, 95, 96, 99, 100, 103, 104, 105, 107, 110, 111, 113, 116, 117, 119, 122, 123, 126, 129, 130, 131, 132, 135, 136, 137, 140, 141, 144, 145, 146, 147, 150, 151, 154, 155, 158, 161, 162, 165, 166, 169, 170, 172, 175, 176, 179, 180, 181, 182, 183, 186, 187, 188, 191, 192, 195, 196, 197, 200, 203, 204, 207, 208]
/-- ByInitialsModel.isGood.(I)Z -/
def bc_149 : List Ins := [(1, 1, 0, 0, []), (32, 98, 0, 0, [99, 49, 103, 21, 110, 2, 111, 95, 118, 67, 119, 31]), (1, 0, 1, 0, []), (15, 9, 21, 0, []), (0, 0, 0, 0, []), (18, 0, 0, 0, []), (0, 0, 0, 10, []), (12, 19, 3, 0, []), (1, 0, 1, 0, []), (15, 9, 3, 0, []), (0, 0, 0, 6, []), (18, 0, 0, 0, []), (0, 0, 0, 8, []), (12, 19, 3, 0, []), (1, 0, 1, 0, []), (36, 150, 1, 0, [9]), (13, 19, 0, 0, []), (0, 0, 0, 1, []), (11, 20, 0, 0, []), (0, 0, 0, 0, []), (33, 1, 0, 0, []), (1, 0, 1, 0, []), (15, 9, 3, 0, []), (0, 0, 0, 7, []), (1, 0, 1, 0, []), (15, 9, 21, 0, []), (0, 0, 0, 0, []), (18, 0, 0, 0, []), (19, 0, 0, 0, []), (0, 0, 0, 1, []), (33, 1, 0, 0, []), (1, 0, 1, 0, []), (15, 9, 3, 0, []), (0, 0, 0, 8, []), (1, 0, 1, 0, []), (15, 9, 21, 0, []), (0, 0, 0, 0, []), (18, 0, 0, 0, []), (19, 0, 0, 0, []), (1, 0, 1, 0, []), (15, 9, 21, 0, []), (0, 0, 0, 0, []), (18, 0, 0, 0, []), (0, 0, 0, 26, []), (12, 47, 3, 0, []), (0, 0, 0, 1, []), (11, 48, 0, 0, []), (0, 0, 0, 0, []), (33, 1, 0, 0, []), (1, 0, 1, 0, []), (15, 9, 3, 0, []), (0, 0, 0, 9, []), (1, 0, 1, 0, []), (15, 9, 21, 0, []), (0, 0, 0, 0, []), (18, 0, 0, 0, []), (19, 0, 0, 0, []), (1, 0, 1, 0, []), (15, 9, 21, 0, []), (0, 0, 0, 0, []), (18, 0, 0, 0, []), (0, 0, 0, 10, []), (12, 65, 3, 0, []), (0, 0, 0, 1, []), (11, 66, 0, 0, []), (0, 0, 0, 0, []), (33, 1, 0, 0, []), (1, 0, 1, 0, []), (15, 9, 3, 0, []), (0, 0, 0, 11, []), (0, 0, 0, 0, []), (19, 0, 0, 0, []), (0, 0, 0, 0, []), (2, 2, 0, 0, []), (1, 2, 0, 0, []), (1, 0, 1, 0, []), (14, 9, 23, 0, []), (12, 93, 3, 0, []), (1, 0, 1, 0, []), (15, 9, 3, 0, []), (0, 0, 0, 11, []), (29, 0, 0, 0, []), (18, 0, 0, 0, []), (0, 0, 0, 1, []), (1, 0, 1, 0, []), (15, 9, 22, 0, []), (1, 2, 0, 0, []), (18, 0, 0, 0, []), (3, 5, 0, 0, []), (3, 9, 0, 0, []), (19, 0, 0, 0, []), (10, 2, 0, 1, []), (11, 74, 0, 0, []), (0, 0, 0, 1, []), (33, 1, 0, 0, []), (1, 0, 1, 0, []), (36, 151, 1, 0, [9]), (33, 1, 0, 0, []), (1, 0, 1, 0, []), (14, 9, 23, 0, []), (0, 0, 0, 2, []), (12, 108, 1, 0, []), (1, 0, 1, 0, []), (15, 9, 3, 0, []), (0, 0, 0, 10, []), (18, 0, 0, 0, []), (0, 0, 0, 6, []), (12, 110, 1, 0, []), (0, 0, 0, 0, []), (33, 1, 0, 0, []), (1, 0, 1, 0, []), (15, 9, 8, 0, []), (0, 0, 0, 12, []), (0, 0, 0, 2, []), (1, 0, 1, 0, []), (15, 9, 3, 0, []), (0, 0, 0, 10, []), (18, 0, 0, 0, []), (3, 2, 0, 0, []), (3, 0, 0, 0, []), (1, 0, 1, 0, []), (15, 9, 22, 0, []), (0, 0, 0, 0, []), (18, 0, 0, 0, []), (19, 0, 0, 0, []), (1, 0, 1, 0, []), (15, 9, 8, 0, []), (0, 0, 0, 13, []), (0, 0, 0, 2, []), (1, 0, 1, 0, []), (15, 9, 3, 0, []), (0, 0, 0, 10, []), (18, 0, 0, 0, []), (3, 2, 0, 0, []), (3, 0, 0, 0, []), (1, 0, 1, 0, []), (15, 9, 22, 0, []), (0, 0, 0, 1, []), (18, 0, 0, 0, []), (19, 0, 0, 0, []), (1, 0, 1, 0, []), (15, 9, 3, 0, []), (0, 0, 0, 10, []), (29, 0, 0, 0, []), (18, 0, 0, 0, []), (0, 0, 0, 1, []), (3, 0, 0, 0, []), (19, 0, 0, 0, []), (0, 0, 0, 1, []), (33, 1, 0, 0, [])]
def bp_149 : List Nat := [0, 1, 60, 61, 64, 65, 66, 68, 71, 72, 75, 77, 78, 80, 83, 84, 87, 90, 91, 94, 95, 96, 97, 100, 102, 103, 106, 107, 108, 109, 110, 111, 112, 115, 117, 118, 121, 122, 123, 124, 125, 128, 129, 130, 132, 135, 136, 139, 140, 141, 142, 145, 147, 148, 151, 152, 153, 154, 155, 158, 159, 160, 162, 165, 166, 169, 170, 171, 172, 175, 177, 178, 179, 180, 181, 182, 183, 186, 189, 190, 193, 195, 196, 197, 198, 199, 202, 203, 204, 205, 206, 207, 210, 213, 214, 215, 216, 219, 220, 221, 224, 225, 228, 229, 232, 234, 235, 237, 240, 241, 242, 243, 246, 248, 249, 250, 253, 255, 256, 257, 258, 259, 262, 263, 264, 265, 266, 269, 271, 272, 273, 276, 278, 279, 280, 281, 282, 285, 286, 287, 288, 289, 292, 294, 295, 296, 297, 298, 299, 300]
/-- ByInitialsModel.isPersonPut.()Z -/
def bc_150 : List Ins := [(1, 0, 1, 0, []), (15, 9, 3, 0, []), (0, 0, 0, 6, []), (18, 0, 0, 0, []), (2, 1, 0, 0, []), (1, 0, 1, 0, []), (15, 9, 4, 0, []), (0, 0, 0, 8, []), (1, 1, 0, 0, []), (3, 0, 0, 0, []), (1, 0, 1, 0, []), (15, 9, 21, 0, []), (0, 0, 0, 0, []), (18, 0, 0, 0, []), (19, 0, 0, 0, []), (1, 0, 1, 0, []), (15, 9, 6, 0, []), (1, 1, 0, 0, []), (1, 0, 1, 0, []), (15, 9, 21, 0, []), (0, 0, 0, 1, []), (18, 0, 0, 0, []), (19, 0, 0, 0, []), (1, 0, 1, 0, []), (15, 9, 5, 0, []), (0, 0, 0, 7, []), (1, 1, 0, 0, []), (3, 2, 0, 0, []), (1, 0, 1, 0, []), (14, 9, 23, 0, []), (19, 0, 0, 0, []), (0, 0, 0, 0, []), (2, 2, 0, 0, []), (1, 2, 0, 0, []), (1, 0, 1, 0, []), (14, 9, 23, 0, []), (12, 53, 3, 0, []), (1, 0, 1, 0, []), (15, 9, 5, 0, []), (0, 0, 0, 7, []), (1, 1, 0, 0, []), (3, 2, 0, 0, []), (0, 0, 0, 1, []), (3, 0, 0, 0, []), (1, 2, 0, 0, []), (3, 0, 0, 0, []), (1, 0, 1, 0, []), (15, 9, 22, 0, []), (1, 2, 0, 0, []), (18, 0, 0, 0, []), (19, 0, 0, 0, []), (10, 2, 0, 1, []), (11, 33, 0, 0, []), (1, 0, 1, 0, []), (15, 9, 3, 0, []), (0, 0, 0, 6, []), (29, 0, 0, 0, []), (18, 0, 0, 0, []), (0, 0, 0, 1, []), (3, 0, 0, 0, []), (19, 0, 0, 0, []), (0, 0, 0, 1, []), (33, 1, 0, 0, [])]
def bp_150 : List Nat := [0, 1, 4, 6, 7, 8, 9, 12, 14, 15, 16, 17, 20, 21, 22, 23, 24, 27, 28, 29, 32, 33, 34, 35, 36, 39, 41, 42, 43, 44, 47, 48, 49, 50, 51, 52, 55, 58, 59, 62, 64, 65, 66, 67, 68, 69, 70, 71, 74, 75, 76, 77, 80, 83, 84, 87, 89, 90, 91, 92, 93, 94, 95]
/-- ByInitialsModel.isOrderPut.()Z -/
def bc_151 : List Ins := [(0, 0, 0, 0, []), (2, 1, 0, 0, []), (0, 0, 0, 0, []), (2, 2, 0, 0, []), (1, 2, 0, 0, []), (1, 0, 1, 0, []), (14, 9, 23, 0, []), (12, 39, 3, 0, []), (1, 1, 0, 0, []), (1, 0, 1, 0, []), (15, 9, 22, 0, []), (1, 2, 0, 0, []), (18, 0, 0, 0, []), (3, 6, 0, 0, []), (0, 0, 0, 1, []), (3, 8, 0, 0, []), (0, 0, 0, 1, []), (12, 20, 1, 0, []), (0, 0, 0, 0, []), (33, 1, 0, 0, []), (1, 1, 0, 0, []), (0, 0, 0, 1, []), (1, 0, 1, 0, []), (15, 9, 22, 0, []), (1, 2, 0, 0, []), (18, 0, 0, 0, []), (3, 5, 0, 0, []), (3, 9, 0, 0, []), (2, 1, 0, 0, []), (1, 0, 1, 0, []), (15, 9, 7, 0, []), (1, 0, 1, 0, []), (15, 9, 22, 0, []), (1, 2, 0, 0, []), (18, 0, 0, 0, []), (1, 2, 0, 0, []), (19, 0, 0, 0, []), (10, 2, 0, 1, []), (11, 4, 0, 0, []), (1, 0, 1, 0, []), (14, 9, 23, 0, []), (2, 2, 0, 0, []), (0, 0, 0, 0, []), (2, 3, 0, 0, []), (1, 3, 0, 0, []), (0, 0, 0, 26, []), (12, 61, 3, 0, []), (1, 1, 0, 0, []), (1, 3, 0, 0, []), (3, 6, 0, 0, []), (0, 0, 0, 1, []), (3, 8, 0, 0, []), (13, 59, 1, 0, []), (1, 0, 1, 0, []), (15, 9, 7, 0, []), (1, 3, 0, 0, []), (1, 2, 0, 0, []), (19, 0, 0, 0, []), (10, 2, 0, 1, []), (10, 3, 0, 1, []), (11, 44, 0, 0, []), (0, 0, 0, 1, []), (33, 1, 0, 0, [])]
def bp_151 : List Nat := [0, 1, 2, 3, 4, 5, 6, 9, 12, 13, 14, 17, 18, 19, 20, 21, 22, 23, 26, 27, 28, 29, 30, 31, 34, 35, 36, 37, 38, 39, 40, 43, 44, 47, 48, 49, 50, 51, 54, 57, 58, 61, 62, 63, 64, 65, 67, 70, 71, 72, 73, 74, 75, 78, 79, 82, 83, 84, 85, 88, 91, 94, 95]
/-- ByInitialsModel.begins.()V -/
def bc_152 : List Ins := [(1, 0, 1, 0, []), (15, 9, 3, 0, []), (0, 0, 0, 6, []), (0, 0, 0, 0, []), (19, 0, 0, 0, []), (1, 0, 1, 0, []), (15, 9, 3, 0, []), (0, 0, 0, 7, []), (0, 0, 0, 20, []), (19, 0, 0, 0, []), (1, 0, 1, 0, []), (15, 9, 3, 0, []), (0, 0, 0, 8, []), (0, 0, 0, 3, []), (19, 0, 0, 0, []), (1, 0, 1, 0, []), (15, 9, 3, 0, []), (0, 0, 0, 9, []), (0, 0, 0, 1, []), (19, 0, 0, 0, []), (1, 0, 1, 0, []), (15, 9, 3, 0, []), (0, 0, 0, 10, []), (0, 0, 0, 0, []), (19, 0, 0, 0, []), (1, 0, 1, 0, []), (15, 9, 3, 0, []), (0, 0, 0, 11, []), (0, 0, 0, 1065233, []), (19, 0, 0, 0, []), (0, 0, 0, 0, []), (2, 1, 0, 0, []), (1, 1, 0, 0, []), (0, 0, 0, 26, []), (12, 42, 3, 0, []), (1, 0, 1, 0, []), (15, 9, 7, 0, []), (1, 1, 0, 0, []), (1, 1, 0, 0, []), (19, 0, 0, 0, []), (10, 1, 0, 1, []), (11, 32, 0, 0, []), (34, 0, 0, 0, [])]
def bp_152 : List Nat := [0, 1, 4, 6, 7, 8, 9, 12, 14, 16, 17, 18, 21, 23, 24, 25, 26, 29, 31, 32, 33, 34, 37, 39, 40, 41, 42, 45, 47, 49, 50, 51, 52, 53, 55, 58, 59, 62, 63, 64, 65, 68, 71]
/-- ByInitialsModel.takes.()V -/
def bc_153 : List Ins := [(0, 0, 0, 0, []), (2, 1, 0, 0, []), (1, 1, 0, 0, []), (0, 0, 0, 6, []), (12, 17, 3, 0, []), (1, 0, 1, 0, []), (15, 9, 3, 0, []), (1, 1, 0, 0, []), (1, 0, 1, 0, []), (15, 9, 3, 0, []), (0, 0, 0, 6, []), (1, 1, 0, 0, []), (3, 0, 0, 0, []), (18, 0, 0, 0, []), (19, 0, 0, 0, []), (10, 1, 0, 1, []), (11, 2, 0, 0, []), (0, 0, 0, 0, []), (2, 1, 0, 0, []), (1, 1, 0, 0, []), (0, 0, 0, 12, []), (12, 47, 3, 0, []), (1, 0, 1, 0, []), (15, 9, 8, 0, []), (1, 1, 0, 0, []), (1, 0, 1, 0, []), (15, 9, 8, 0, []), (0, 0, 0, 12, []), (1, 1, 0, 0, []), (3, 0, 0, 0, []), (18, 0, 0, 0, []), (19, 0, 0, 0, []), (1, 1, 0, 0, []), (0, 0, 0, 8, []), (12, 45, 3, 0, []), (1, 0, 1, 0, []), (15, 9, 4, 0, []), (1, 1, 0, 0, []), (1, 0, 1, 0, []), (15, 9, 4, 0, []), (0, 0, 0, 8, []), (1, 1, 0, 0, []), (3, 0, 0, 0, []), (18, 0, 0, 0, []), (19, 0, 0, 0, []), (10, 1, 0, 1, []), (11, 19, 0, 0, []), (0, 0, 0, 0, []), (2, 1, 0, 0, []), (1, 1, 0, 0, []), (0, 0, 0, 170, []), (12, 59, 3, 0, []), (1, 0, 1, 0, []), (15, 9, 9, 0, []), (1, 1, 0, 0, []), (0, 0, 0, 0, []), (19, 0, 0, 0, []), (10, 1, 0, 1, []), (11, 49, 0, 0, []), (0, 0, 0, 0, []), (2, 1, 0, 0, []), (1, 1, 0, 0, []), (1, 0, 1, 0, []), (15, 9, 3, 0, []), (0, 0, 0, 0, []), (18, 0, 0, 0, []), (12, 119, 3, 0, []), (1, 0, 1, 0, []), (15, 9, 9, 0, []), (1, 1, 0, 0, []), (1, 0, 1, 0, []), (15, 9, 5, 0, []), (0, 0, 0, 7, []), (1, 1, 0, 0, []), (3, 2, 0, 0, []), (18, 0, 0, 0, []), (19, 0, 0, 0, []), (1, 0, 1, 0, []), (15, 9, 9, 0, []), (0, 0, 0, 56, []), (1, 1, 0, 0, []), (3, 0, 0, 0, []), (1, 0, 1, 0, []), (15, 9, 6, 0, []), (1, 1, 0, 0, []), (18, 0, 0, 0, []), (19, 0, 0, 0, []), (0, 0, 0, 0, []), (2, 2, 0, 0, []), (1, 2, 0, 0, []), (1, 0, 1, 0, []), (15, 9, 9, 0, []), (1, 1, 0, 0, []), (18, 0, 0, 0, []), (12, 117, 3, 0, []), (1, 0, 1, 0, []), (15, 9, 9, 0, []), (0, 0, 0, 8, []), (0, 0, 0, 6, []), (1, 1, 0, 0, []), (3, 2, 0, 0, []), (3, 0, 0, 0, []), (1, 2, 0, 0, []), (3, 0, 0, 0, []), (1, 0, 1, 0, []), (15, 9, 5, 0, []), (0, 0, 0, 7, []), (1, 1, 0, 0, []), (3, 2, 0, 0, []), (0, 0, 0, 1, []), (3, 0, 0, 0, []), (1, 2, 0, 0, []), (3, 0, 0, 0, []), (18, 0, 0, 0, []), (19, 0, 0, 0, []), (10, 2, 0, 1, []), (11, 89, 0, 0, []), (10, 1, 0, 1, []), (11, 61, 0, 0, []), (0, 0, 0, 0, []), (2, 1, 0, 0, []), (1, 1, 0, 0, []), (0, 0, 0, 26, []), (12, 136, 3, 0, []), (1, 0, 1, 0, []), (15, 9, 9, 0, []), (0, 0, 0, 144, []), (1, 1, 0, 0, []), (3, 0, 0, 0, []), (1, 0, 1, 0, []), (15, 9, 7, 0, []), (1, 1, 0, 0, []), (18, 0, 0, 0, []), (19, 0, 0, 0, []), (10, 1, 0, 1, []), (11, 121, 0, 0, []), (1, 0, 1, 0, []), (0, 0, 0, 0, []), (16, 9, 12, 0, []), (1, 0, 1, 0, []), (0, 0, 0, 0, []), (16, 9, 14, 0, []), (1, 0, 1, 0, []), (0, 0, 0, 0, []), (16, 9, 11, 0, []), (1, 0, 1, 0, []), (0, 0, 0, 0, []), (16, 9, 10, 0, []), (34, 0, 0, 0, [])]
def bp_153 : List Nat := [0, 1, 2, 3, 5, 8, 9, 12, 13, 14, 17, 19, 20, 21, 22, 23, 26, 29, 30, 31, 32, 34, 37, 38, 41, 42, 43, 46, 48, 49, 50, 51, 52, 53, 55, 58, 59, 62, 63, 64, 67, 69, 70, 71, 72, 73, 76, 79, 80, 81, 82, 85, 88, 89, 92, 93, 94, 95, 98, 101, 102, 103, 104, 105, 108, 109, 110, 113, 114, 117, 118, 119, 122, 124, 125, 126, 127, 128, 129, 132, 134, 135, 136, 137, 140, 141, 142, 143, 144, 145, 146, 147, 150, 151, 152, 155, 156, 159, 161, 163, 164, 165, 166, 167, 168, 169, 172, 174, 175, 176, 177, 178, 179, 180, 181, 182, 185, 188, 191, 194, 195, 196, 197, 199, 202, 203, 206, 209, 210, 211, 212, 215, 216, 217, 218, 221, 224, 225, 226, 229, 230, 231, 234, 235, 236, 239, 240, 241, 244]
/-- ByInitialsModel.fault.()I -/
def bc_154 : List Ins := [(1, 0, 1, 0, []), (0, 0, 0, 0, []), (16, 9, 2, 0, []), (1, 0, 1, 0, []), (36, 152, 1, 0, [9]), (1, 0, 1, 0, []), (14, 9, 2, 0, []), (1, 0, 1, 0, []), (14, 9, 0, 0, []), (12, 19, 3, 0, []), (1, 0, 1, 0, []), (14, 9, 2, 0, []), (2, 1, 0, 0, []), (1, 0, 1, 0, []), (36, 148, 1, 0, [9]), (13, 18, 1, 0, []), (1, 1, 0, 0, []), (33, 0, 0, 0, []), (11, 5, 0, 0, []), (0, 0, 0, (-4), []), (33, 0, 0, 0, [])]
def bp_154 : List Nat := [0, 1, 2, 5, 6, 9, 10, 13, 14, 17, 20, 21, 24, 25, 26, 29, 32, 33, 34, 37, 39]
/-- ByInitialsModel.lay.()I -/
def bc_155 : List Ins := [(1, 0, 1, 0, []), (36, 154, 1, 0, [9]), (0, 0, 0, (-4), []), (12, 9, 1, 0, []), (1, 0, 1, 0, []), (15, 9, 3, 0, []), (0, 0, 0, 6, []), (18, 0, 0, 0, []), (13, 11, 1, 0, []), (0, 0, 0, (-2), []), (33, 0, 0, 0, []), (1, 0, 1, 0, []), (36, 153, 1, 0, [9]), (1, 0, 1, 0, []), (15, 9, 3, 0, []), (0, 0, 0, 0, []), (18, 0, 0, 0, []), (33, 0, 0, 0, [])]
def bp_155 : List Nat := [0, 1, 4, 6, 9, 10, 13, 15, 16, 19, 21, 22, 23, 26, 27, 30, 31, 32]
/-- ByInitialsModel.isPerson.(I)Z -/
def bc_156 : List Ins := [(1, 1, 0, 0, []), (5, 0, 0, 0, []), (9, 0, 0, 0, []), (1, 0, 1, 0, []), (15, 9, 3, 0, []), (0, 0, 0, 0, []), (18, 0, 0, 0, []), (0, 0, 0, 1, []), (3, 1, 0, 0, []), (5, 0, 0, 0, []), (36, 140, 3, 1, []), (33, 1, 0, 0, [])]
def bp_156 : List Nat := [0, 1, 2, 3, 4, 7, 8, 9, 10, 11, 12, 15]
/-- ByInitialsModel.isLetter.(I)Z -/
def bc_157 : List Ins := [(1, 0, 0, 0, []), (5, 0, 0, 0, []), (9, 0, 0, 0, []), (9, 0, 0, 25, []), (36, 140, 3, 1, []), (33, 1, 0, 0, [])]
def bp_157 : List Nat := [0, 1, 2, 3, 6, 9]
/-- ByInitialsModel.first.(II)I -/
def bc_158 : List Ins := [(1, 0, 1, 0, []), (15, 9, 9, 0, []), (0, 0, 0, 170, []), (1, 1, 0, 0, []), (3, 2, 0, 0, []), (1, 2, 0, 0, []), (3, 0, 0, 0, []), (18, 0, 0, 0, []), (13, 11, 1, 0, []), (0, 0, 0, (-4), []), (11, 23, 0, 0, []), (1, 0, 1, 0, []), (15, 9, 9, 0, []), (0, 0, 0, 170, []), (1, 1, 0, 0, []), (3, 2, 0, 0, []), (0, 0, 0, 8, []), (3, 0, 0, 0, []), (0, 0, 0, 6, []), (1, 2, 0, 0, []), (3, 2, 0, 0, []), (3, 0, 0, 0, []), (18, 0, 0, 0, []), (33, 0, 0, 0, [])]
def bp_158 : List Nat := [0, 1, 4, 7, 8, 9, 10, 11, 12, 15, 17, 20, 21, 24, 27, 28, 29, 31, 32, 34, 35, 36, 37, 38]
/-- ByInitialsModel.isQuarrel.(II)Z -/
def bc_159 : List Ins := [(0, 0, 0, 0, []), (2, 3, 0, 0, []), (0, 0, 0, 0, []), (2, 4, 0, 0, []), (1, 4, 0, 0, []), (1, 0, 1, 0, []), (15, 9, 3, 0, []), (0, 0, 0, 4, []), (18, 0, 0, 0, []), (12, 46, 3, 0, []), (1, 0, 1, 0, []), (15, 9, 8, 0, []), (0, 0, 0, 2, []), (1, 4, 0, 0, []), (3, 2, 0, 0, []), (18, 0, 0, 0, []), (2, 5, 0, 0, []), (1, 0, 1, 0, []), (15, 9, 8, 0, []), (0, 0, 0, 2, []), (1, 4, 0, 0, []), (3, 2, 0, 0, []), (0, 0, 0, 1, []), (3, 0, 0, 0, []), (18, 0, 0, 0, []), (2, 6, 0, 0, []), (1, 3, 0, 0, []), (13, 40, 1, 0, []), (1, 5, 0, 0, []), (1, 1, 0, 0, []), (12, 34, 1, 0, []), (1, 6, 0, 0, []), (1, 2, 0, 0, []), (12, 40, 0, 0, []), (1, 5, 0, 0, []), (1, 2, 0, 0, []), (12, 42, 1, 0, []), (1, 6, 0, 0, []), (1, 1, 0, 0, []), (12, 42, 1, 0, []), (0, 0, 0, 1, []), (11, 43, 0, 0, []), (0, 0, 0, 0, []), (2, 3, 0, 0, []), (10, 4, 0, 1, []), (11, 4, 0, 0, []), (1, 3, 0, 0, []), (33, 1, 0, 0, [])]
def bp_159 : List Nat := [0, 1, 2, 3, 5, 7, 8, 11, 12, 13, 16, 17, 20, 21, 23, 24, 25, 27, 28, 31, 32, 34, 35, 36, 37, 38, 40, 41, 44, 46, 47, 50, 52, 53, 56, 58, 59, 62, 64, 65, 68, 69, 72, 73, 74, 77, 80, 81]
/-- ByInitialsModel.isVowel.(I)Z -/
def bc_160 : List Ins := [(1, 0, 1, 0, []), (15, 9, 3, 0, []), (0, 0, 0, 5, []), (18, 0, 0, 0, []), (1, 1, 0, 0, []), (3, 6, 0, 0, []), (0, 0, 0, 1, []), (3, 8, 0, 0, []), (0, 0, 0, 1, []), (12, 12, 1, 0, []), (0, 0, 0, 1, []), (11, 13, 0, 0, []), (0, 0, 0, 0, []), (33, 1, 0, 0, [])]
def bp_160 : List Nat := [0, 1, 4, 5, 6, 7, 8, 9, 10, 11, 14, 15, 18, 19]
/-- ByInitialsModel.isOffice.(II)Z -/
def bc_161 : List Ins := [(1, 0, 1, 0, []), (1, 1, 0, 0, []), (1, 2, 0, 0, []), (36, 158, 3, 0, [9]), (13, 12, 2, 0, []), (1, 0, 1, 0, []), (1, 0, 1, 0, []), (1, 1, 0, 0, []), (1, 2, 0, 0, []), (36, 158, 3, 0, [9]), (36, 160, 2, 0, [9]), (13, 14, 0, 0, []), (0, 0, 0, 1, []), (11, 15, 0, 0, []), (0, 0, 0, 0, []), (33, 1, 0, 0, [])]
def bp_161 : List Nat := [0, 1, 2, 3, 6, 9, 10, 11, 12, 13, 16, 19, 22, 23, 26, 27]
/-- ByInitialsModel.isAhead.(III)Z -/
def bc_162 : List Ins := [(1, 0, 1, 0, []), (15, 9, 9, 0, []), (0, 0, 0, 170, []), (1, 1, 0, 0, []), (3, 2, 0, 0, []), (1, 2, 0, 0, []), (3, 0, 0, 0, []), (18, 0, 0, 0, []), (2, 4, 0, 0, []), (1, 0, 1, 0, []), (15, 9, 9, 0, []), (0, 0, 0, 170, []), (1, 1, 0, 0, []), (3, 2, 0, 0, []), (1, 3, 0, 0, []), (3, 0, 0, 0, []), (18, 0, 0, 0, []), (2, 5, 0, 0, []), (1, 4, 0, 0, []), (13, 22, 0, 0, []), (1, 5, 0, 0, []), (13, 33, 1, 0, []), (1, 4, 0, 0, []), (13, 29, 4, 0, []), (1, 5, 0, 0, []), (13, 31, 1, 0, []), (1, 2, 0, 0, []), (1, 3, 0, 0, []), (12, 31, 3, 0, []), (0, 0, 0, 1, []), (11, 32, 0, 0, []), (0, 0, 0, 0, []), (33, 1, 0, 0, []), (0, 0, 0, 0, []), (2, 6, 0, 0, []), (1, 6, 0, 0, []), (1, 4, 0, 0, []), (12, 101, 3, 0, []), (1, 6, 0, 0, []), (1, 5, 0, 0, []), (12, 101, 3, 0, []), (1, 0, 1, 0, []), (15, 9, 9, 0, []), (0, 0, 0, 170, []), (1, 1, 0, 0, []), (3, 2, 0, 0, []), (0, 0, 0, 8, []), (3, 0, 0, 0, []), (0, 0, 0, 6, []), (1, 2, 0, 0, []), (3, 2, 0, 0, []), (3, 0, 0, 0, []), (1, 6, 0, 0, []), (3, 0, 0, 0, []), (18, 0, 0, 0, []), (2, 7, 0, 0, []), (1, 0, 1, 0, []), (15, 9, 9, 0, []), (0, 0, 0, 170, []), (1, 1, 0, 0, []), (3, 2, 0, 0, []), (0, 0, 0, 8, []), (3, 0, 0, 0, []), (0, 0, 0, 6, []), (1, 3, 0, 0, []), (3, 2, 0, 0, []), (3, 0, 0, 0, []), (1, 6, 0, 0, []), (3, 0, 0, 0, []), (18, 0, 0, 0, []), (2, 8, 0, 0, []), (1, 7, 0, 0, []), (1, 8, 0, 0, []), (12, 99, 0, 0, []), (1, 0, 1, 0, []), (15, 9, 9, 0, []), (0, 0, 0, 170, []), (1, 1, 0, 0, []), (3, 2, 0, 0, []), (0, 0, 0, 144, []), (3, 0, 0, 0, []), (1, 7, 0, 0, []), (3, 0, 0, 0, []), (18, 0, 0, 0, []), (1, 0, 1, 0, []), (15, 9, 9, 0, []), (0, 0, 0, 170, []), (1, 1, 0, 0, []), (3, 2, 0, 0, []), (0, 0, 0, 144, []), (3, 0, 0, 0, []), (1, 8, 0, 0, []), (3, 0, 0, 0, []), (18, 0, 0, 0, []), (12, 97, 3, 0, []), (0, 0, 0, 1, []), (11, 98, 0, 0, []), (0, 0, 0, 0, []), (33, 1, 0, 0, []), (10, 6, 0, 1, []), (11, 35, 0, 0, []), (1, 4, 0, 0, []), (1, 5, 0, 0, []), (12, 111, 1, 0, []), (1, 2, 0, 0, []), (1, 3, 0, 0, []), (12, 109, 3, 0, []), (0, 0, 0, 1, []), (11, 117, 0, 0, []), (0, 0, 0, 0, []), (11, 117, 0, 0, []), (1, 4, 0, 0, []), (1, 5, 0, 0, []), (12, 116, 3, 0, []), (0, 0, 0, 1, []), (11, 117, 0, 0, []), (0, 0, 0, 0, []), (33, 1, 0, 0, [])]
def bp_162 : List Nat := [0, 1, 4, 7, 8, 9, 10, 11, 12, 14, 15, 18, 21, 22, 23, 24, 25, 26, 28, 30, 33, 35, 38, 40, 43, 45, 48, 49, 50, 53, 54, 57, 58, 59, 60, 62, 64, 66, 69, 71, 73, 76, 77, 80, 83, 84, 85, 87, 88, 90, 91, 92, 93, 95, 96, 97, 99, 100, 103, 106, 107, 108, 110, 111, 113, 114, 115, 116, 118, 119, 120, 122, 124, 126, 129, 130, 133, 136, 137, 138, 141, 142, 144, 145, 146, 147, 150, 153, 154, 155, 158, 159, 161, 162, 163, 166, 167, 170, 171, 172, 175, 178, 180, 182, 185, 186, 187, 190, 191, 194, 195, 198, 200, 202, 205, 206, 209, 210]
/-- ByInitialsModel.aheadOf.(II)I -/
def bc_163 : List Ins := [(0, 0, 0, 0, []), (2, 3, 0, 0, []), (0, 0, 0, 0, []), (2, 4, 0, 0, []), (1, 4, 0, 0, []), (1, 0, 1, 0, []), (15, 9, 3, 0, []), (0, 0, 0, 0, []), (18, 0, 0, 0, []), (12, 27, 3, 0, []), (1, 3, 0, 0, []), (1, 4, 0, 0, []), (1, 2, 0, 0, []), (12, 22, 0, 0, []), (1, 0, 1, 0, []), (1, 1, 0, 0, []), (1, 4, 0, 0, []), (1, 2, 0, 0, []), (36, 162, 4, 0, [9]), (13, 22, 0, 0, []), (0, 0, 0, 1, []), (11, 23, 0, 0, []), (0, 0, 0, 0, []), (3, 0, 0, 0, []), (2, 3, 0, 0, []), (10, 4, 0, 1, []), (11, 4, 0, 0, []), (1, 3, 0, 0, []), (33, 0, 0, 0, [])]
def bp_163 : List Nat := [0, 1, 2, 3, 5, 7, 8, 11, 12, 13, 16, 17, 19, 20, 23, 24, 25, 27, 28, 31, 34, 35, 38, 39, 40, 41, 44, 47, 48]
/-- ByInitialsModel.morning.(I)I -/
def bc_164 : List Ins := [(1, 0, 1, 0, []), (15, 9, 3, 0, []), (0, 0, 0, 1, []), (18, 0, 0, 0, []), (2, 2, 0, 0, []), (0, 0, 0, 0, []), (2, 3, 0, 0, []), (0, 0, 0, 0, []), (2, 4, 0, 0, []), (1, 4, 0, 0, []), (1, 0, 1, 0, []), (15, 9, 3, 0, []), (0, 0, 0, 0, []), (18, 0, 0, 0, []), (12, 71, 3, 0, []), (0, 0, 0, 0, []), (2, 5, 0, 0, []), (1, 5, 0, 0, []), (1, 0, 1, 0, []), (15, 9, 3, 0, []), (0, 0, 0, 0, []), (18, 0, 0, 0, []), (12, 69, 3, 0, []), (1, 0, 1, 0, []), (1, 1, 0, 0, []), (1, 5, 0, 0, []), (36, 163, 3, 0, [9]), (1, 4, 0, 0, []), (12, 67, 1, 0, []), (1, 0, 1, 0, []), (15, 9, 16, 0, []), (1, 5, 0, 0, []), (1, 0, 1, 0, []), (15, 9, 4, 0, []), (1, 5, 0, 0, []), (18, 0, 0, 0, []), (1, 2, 0, 0, []), (12, 43, 3, 0, []), (1, 0, 1, 0, []), (15, 9, 4, 0, []), (1, 5, 0, 0, []), (18, 0, 0, 0, []), (11, 44, 0, 0, []), (1, 2, 0, 0, []), (19, 0, 0, 0, []), (1, 2, 0, 0, []), (1, 0, 1, 0, []), (15, 9, 16, 0, []), (1, 5, 0, 0, []), (18, 0, 0, 0, []), (3, 1, 0, 0, []), (2, 2, 0, 0, []), (1, 3, 0, 0, []), (1, 0, 1, 0, []), (15, 9, 16, 0, []), (1, 5, 0, 0, []), (18, 0, 0, 0, []), (1, 0, 1, 0, []), (15, 9, 4, 0, []), (1, 5, 0, 0, []), (18, 0, 0, 0, []), (12, 64, 1, 0, []), (0, 0, 0, 1, []), (11, 65, 0, 0, []), (0, 0, 0, 0, []), (3, 0, 0, 0, []), (2, 3, 0, 0, []), (10, 5, 0, 1, []), (11, 17, 0, 0, []), (10, 4, 0, 1, []), (11, 9, 0, 0, []), (1, 3, 0, 0, []), (33, 0, 0, 0, [])]
def bp_164 : List Nat := [0, 1, 4, 5, 6, 7, 8, 9, 10, 12, 14, 15, 18, 19, 20, 23, 24, 26, 28, 29, 32, 33, 34, 37, 38, 39, 41, 44, 46, 49, 50, 53, 55, 56, 59, 61, 62, 63, 66, 67, 70, 72, 73, 76, 77, 78, 79, 80, 83, 85, 86, 87, 88, 89, 90, 93, 95, 96, 97, 100, 102, 103, 106, 107, 110, 111, 112, 113, 116, 119, 122, 125, 126]
/-- ByInitialsModel.person.(II)I -/
def bc_165 : List Ins := [(1, 0, 1, 0, []), (1, 1, 0, 0, []), (36, 156, 2, 0, [9]), (13, 10, 0, 0, []), (1, 2, 0, 0, []), (5, 0, 0, 0, []), (9, 0, 0, 0, []), (9, 0, 0, 7, []), (36, 140, 3, 1, []), (13, 12, 1, 0, []), (0, 0, 0, (-1), []), (33, 0, 0, 0, []), (1, 2, 0, 0, []), (31, 72, 0, 0, [14, 19, 24, 31, 49, 56, 61]), (1, 0, 1, 0, []), (15, 9, 9, 0, []), (1, 1, 0, 0, []), (18, 0, 0, 0, []), (33, 0, 0, 0, []), (1, 0, 1, 0, []), (15, 9, 4, 0, []), (1, 1, 0, 0, []), (18, 0, 0, 0, []), (33, 0, 0, 0, []), (1, 0, 1, 0, []), (15, 9, 9, 0, []), (0, 0, 0, 56, []), (1, 1, 0, 0, []), (3, 0, 0, 0, []), (18, 0, 0, 0, []), (33, 0, 0, 0, []), (1, 0, 1, 0, []), (15, 9, 9, 0, []), (0, 0, 0, 64, []), (1, 1, 0, 0, []), (3, 0, 0, 0, []), (18, 0, 0, 0, []), (13, 40, 1, 0, []), (0, 0, 0, (-4), []), (11, 48, 0, 0, []), (1, 0, 1, 0, []), (15, 9, 9, 0, []), (0, 0, 0, 64, []), (1, 1, 0, 0, []), (3, 0, 0, 0, []), (18, 0, 0, 0, []), (0, 0, 0, 1, []), (3, 1, 0, 0, []), (33, 0, 0, 0, []), (1, 0, 1, 0, []), (15, 9, 9, 0, []), (0, 0, 0, 72, []), (1, 1, 0, 0, []), (3, 0, 0, 0, []), (18, 0, 0, 0, []), (33, 0, 0, 0, []), (1, 0, 1, 0, []), (0, 0, 0, 0, []), (1, 1, 0, 0, []), (36, 163, 3, 0, [9]), (33, 0, 0, 0, []), (1, 0, 1, 0, []), (0, 0, 0, 0, []), (36, 164, 2, 0, [9]), (13, 67, 3, 0, []), (0, 0, 0, (-1), []), (11, 71, 0, 0, []), (1, 0, 1, 0, []), (15, 9, 16, 0, []), (1, 1, 0, 0, []), (18, 0, 0, 0, []), (33, 0, 0, 0, []), (1, 0, 1, 0, []), (0, 0, 0, 0, []), (1, 1, 0, 0, []), (36, 161, 3, 0, [9]), (13, 79, 0, 0, []), (0, 0, 0, 1, []), (11, 80, 0, 0, []), (0, 0, 0, 0, []), (33, 0, 0, 0, [])]
def bp_165 : List Nat := [0, 1, 2, 5, 8, 9, 10, 11, 14, 17, 20, 21, 22, 23, 64, 65, 68, 69, 70, 71, 72, 75, 76, 77, 78, 79, 82, 84, 85, 86, 87, 88, 89, 92, 94, 95, 96, 97, 100, 102, 105, 106, 109, 111, 112, 113, 114, 115, 116, 117, 118, 121, 123, 124, 125, 126, 127, 128, 129, 130, 133, 134, 135, 136, 139, 142, 143, 146, 147, 150, 151, 152, 153, 154, 155, 156, 159, 162, 163, 166, 167]
/-- ByInitialsModel.letter.(II)I -/
def bc_166 : List Ins := [(1, 0, 1, 0, []), (1, 1, 0, 0, []), (36, 156, 2, 0, [9]), (13, 6, 0, 0, []), (1, 2, 0, 0, []), (13, 8, 3, 0, []), (0, 0, 0, (-1), []), (33, 0, 0, 0, []), (1, 2, 0, 0, []), (1, 0, 1, 0, []), (15, 9, 9, 0, []), (1, 1, 0, 0, []), (18, 0, 0, 0, []), (12, 25, 3, 0, []), (1, 0, 1, 0, []), (15, 9, 9, 0, []), (0, 0, 0, 8, []), (0, 0, 0, 6, []), (1, 1, 0, 0, []), (3, 2, 0, 0, []), (3, 0, 0, 0, []), (1, 2, 0, 0, []), (3, 0, 0, 0, []), (18, 0, 0, 0, []), (11, 26, 0, 0, []), (0, 0, 0, (-4), []), (33, 0, 0, 0, [])]
def bp_166 : List Nat := [0, 1, 2, 5, 8, 9, 12, 13, 14, 15, 16, 19, 20, 21, 24, 25, 28, 30, 32, 33, 34, 35, 36, 37, 38, 41, 43]
/-- ByInitialsModel.letterOf.(II)I -/
def bc_167 : List Ins := [(0, 0, 0, 0, []), (2, 3, 0, 0, []), (1, 0, 1, 0, []), (15, 9, 9, 0, []), (0, 0, 0, 170, []), (1, 1, 0, 0, []), (3, 2, 0, 0, []), (0, 0, 0, 144, []), (3, 0, 0, 0, []), (1, 3, 0, 0, []), (3, 0, 0, 0, []), (18, 0, 0, 0, []), (1, 2, 0, 0, []), (12, 16, 0, 0, []), (10, 3, 0, 1, []), (11, 2, 0, 0, []), (1, 3, 0, 0, []), (33, 0, 0, 0, [])]
def bp_167 : List Nat := [0, 1, 2, 3, 6, 9, 10, 11, 14, 15, 16, 17, 18, 19, 22, 25, 28, 29]
/-- ByInitialsModel.alphabet.(II)I -/
def bc_168 : List Ins := [(1, 1, 0, 0, []), (36, 157, 1, 1, []), (13, 9, 0, 0, []), (1, 2, 0, 0, []), (5, 0, 0, 0, []), (9, 0, 0, 0, []), (9, 0, 0, 2, []), (36, 140, 3, 1, []), (13, 11, 1, 0, []), (0, 0, 0, (-1), []), (33, 0, 0, 0, []), (1, 2, 0, 0, []), (13, 20, 1, 0, []), (1, 0, 1, 0, []), (15, 9, 9, 0, []), (0, 0, 0, 144, []), (1, 1, 0, 0, []), (3, 0, 0, 0, []), (18, 0, 0, 0, []), (11, 35, 0, 0, []), (1, 2, 0, 0, []), (0, 0, 0, 1, []), (12, 28, 1, 0, []), (1, 0, 1, 0, []), (0, 0, 0, 0, []), (1, 1, 0, 0, []), (36, 167, 3, 0, [9]), (11, 35, 0, 0, []), (1, 0, 1, 0, []), (1, 1, 0, 0, []), (36, 160, 2, 0, [9]), (13, 34, 0, 0, []), (0, 0, 0, 1, []), (11, 35, 0, 0, []), (0, 0, 0, 0, []), (33, 0, 0, 0, [])]
def bp_168 : List Nat := [0, 1, 4, 7, 8, 9, 10, 13, 16, 19, 20, 21, 22, 25, 26, 29, 32, 33, 34, 35, 38, 39, 40, 43, 44, 45, 46, 49, 52, 53, 54, 57, 60, 61, 64, 65]
/-- ByInitialsModel.quarrel.(II)I -/
def bc_169 : List Ins := [(1, 1, 0, 0, []), (36, 157, 1, 1, []), (13, 6, 0, 0, []), (1, 2, 0, 0, []), (36, 157, 1, 1, []), (13, 8, 1, 0, []), (0, 0, 0, (-1), []), (11, 16, 0, 0, []), (1, 0, 1, 0, []), (1, 1, 0, 0, []), (1, 2, 0, 0, []), (36, 159, 3, 0, [9]), (13, 15, 0, 0, []), (0, 0, 0, 1, []), (11, 16, 0, 0, []), (0, 0, 0, 0, []), (33, 0, 0, 0, [])]
def bp_169 : List Nat := [0, 1, 4, 7, 8, 11, 14, 15, 18, 19, 20, 21, 24, 27, 28, 31, 32]
/-- ByInitialsModel.copies.(II)V -/
def bc_170 : List Ins := [(0, 0, 0, 0, []), (2, 3, 0, 0, []), (1, 3, 0, 0, []), (0, 0, 0, 170, []), (12, 23, 3, 0, []), (1, 0, 1, 0, []), (15, 9, 9, 0, []), (0, 0, 0, 170, []), (1, 2, 0, 0, []), (3, 2, 0, 0, []), (1, 3, 0, 0, []), (3, 0, 0, 0, []), (1, 0, 1, 0, []), (15, 9, 9, 0, []), (0, 0, 0, 170, []), (1, 1, 0, 0, []), (3, 2, 0, 0, []), (1, 3, 0, 0, []), (3, 0, 0, 0, []), (18, 0, 0, 0, []), (19, 0, 0, 0, []), (10, 3, 0, 1, []), (11, 2, 0, 0, []), (34, 0, 0, 0, [])]
def bp_170 : List Nat := [0, 1, 2, 3, 6, 9, 10, 13, 16, 17, 18, 19, 20, 21, 24, 27, 28, 29, 30, 31, 32, 33, 36, 39]
/-- ByInitialsModel.known.()V -/
def bc_171 : List Ins := [(1, 0, 1, 0, []), (14, 9, 11, 0, []), (0, 0, 0, 8, []), (12, 23, 1, 0, []), (0, 0, 0, 3, []), (2, 1, 0, 0, []), (1, 1, 0, 0, []), (0, 0, 0, 10, []), (12, 17, 3, 0, []), (1, 0, 1, 0, []), (1, 1, 0, 0, []), (0, 0, 0, 1, []), (3, 0, 0, 0, []), (1, 1, 0, 0, []), (36, 170, 3, 0, [9]), (10, 1, 0, 1, []), (11, 6, 0, 0, []), (1, 0, 1, 0, []), (28, 0, 0, 0, []), (14, 9, 11, 0, []), (0, 0, 0, 1, []), (3, 1, 0, 0, []), (16, 9, 11, 0, []), (1, 0, 1, 0, []), (0, 0, 0, 0, []), (0, 0, 0, 3, []), (1, 0, 1, 0, []), (14, 9, 11, 0, []), (3, 0, 0, 0, []), (36, 170, 3, 0, [9]), (1, 0, 1, 0, []), (28, 0, 0, 0, []), (14, 9, 11, 0, []), (0, 0, 0, 1, []), (3, 0, 0, 0, []), (16, 9, 11, 0, []), (34, 0, 0, 0, [])]
def bp_171 : List Nat := [0, 1, 4, 6, 9, 10, 11, 12, 14, 17, 18, 19, 20, 21, 22, 25, 28, 31, 32, 33, 36, 37, 38, 41, 42, 43, 44, 45, 48, 49, 52, 53, 54, 57, 58, 59, 62]
/-- ByInitialsModel.spell.(I)I -/
def bc_172 : List Ins := [(1, 1, 0, 0, []), (36, 157, 1, 1, []), (13, 5, 1, 0, []), (0, 0, 0, (-1), []), (33, 0, 0, 0, []), (1, 0, 1, 0, []), (14, 9, 12, 0, []), (0, 0, 0, 6, []), (12, 11, 1, 0, []), (0, 0, 0, (-3), []), (33, 0, 0, 0, []), (1, 0, 1, 0, []), (15, 9, 13, 0, []), (1, 0, 1, 0, []), (14, 9, 12, 0, []), (1, 1, 0, 0, []), (19, 0, 0, 0, []), (1, 0, 1, 0, []), (28, 0, 0, 0, []), (14, 9, 12, 0, []), (0, 0, 0, 1, []), (3, 0, 0, 0, []), (16, 9, 12, 0, []), (1, 0, 1, 0, []), (14, 9, 12, 0, []), (33, 0, 0, 0, [])]
def bp_172 : List Nat := [0, 1, 4, 7, 8, 9, 10, 13, 15, 18, 20, 21, 22, 25, 26, 29, 30, 31, 32, 33, 36, 37, 38, 41, 42, 45]
/-- ByInitialsModel.unspell.()I -/
def bc_173 : List Ins := [(1, 0, 1, 0, []), (14, 9, 12, 0, []), (2, 1, 0, 0, []), (1, 0, 1, 0, []), (0, 0, 0, 0, []), (16, 9, 12, 0, []), (1, 1, 0, 0, []), (33, 0, 0, 0, [])]
def bp_173 : List Nat := [0, 1, 4, 5, 6, 7, 10, 11]
/-- ByInitialsModel.priceOf.(I)I -/
def bc_174 : List Ins := [(0, 0, 0, 0, []), (2, 2, 0, 0, []), (0, 0, 0, 0, []), (2, 3, 0, 0, []), (1, 3, 0, 0, []), (0, 0, 0, 6, []), (12, 60, 3, 0, []), (1, 3, 0, 0, []), (1, 0, 1, 0, []), (14, 9, 12, 0, []), (12, 19, 3, 0, []), (1, 3, 0, 0, []), (1, 0, 1, 0, []), (15, 9, 9, 0, []), (1, 1, 0, 0, []), (18, 0, 0, 0, []), (12, 19, 3, 0, []), (0, 0, 0, 1, []), (11, 20, 0, 0, []), (0, 0, 0, 0, []), (2, 4, 0, 0, []), (1, 2, 0, 0, []), (1, 4, 0, 0, []), (13, 43, 0, 0, []), (1, 0, 1, 0, []), (15, 9, 13, 0, []), (1, 3, 0, 0, []), (18, 0, 0, 0, []), (1, 0, 1, 0, []), (15, 9, 9, 0, []), (0, 0, 0, 8, []), (0, 0, 0, 6, []), (1, 1, 0, 0, []), (3, 2, 0, 0, []), (3, 0, 0, 0, []), (1, 3, 0, 0, []), (3, 0, 0, 0, []), (18, 0, 0, 0, []), (12, 41, 1, 0, []), (0, 0, 0, 0, []), (11, 56, 0, 0, []), (0, 0, 0, 1, []), (11, 56, 0, 0, []), (1, 3, 0, 0, []), (1, 0, 1, 0, []), (14, 9, 12, 0, []), (12, 53, 2, 0, []), (1, 3, 0, 0, []), (1, 0, 1, 0, []), (15, 9, 9, 0, []), (1, 1, 0, 0, []), (18, 0, 0, 0, []), (12, 55, 3, 0, []), (0, 0, 0, 1, []), (11, 56, 0, 0, []), (0, 0, 0, 0, []), (3, 0, 0, 0, []), (2, 2, 0, 0, []), (10, 3, 0, 1, []), (11, 4, 0, 0, []), (1, 2, 0, 0, []), (1, 0, 1, 0, []), (15, 9, 3, 0, []), (0, 0, 0, 3, []), (18, 0, 0, 0, []), (3, 2, 0, 0, []), (33, 0, 0, 0, [])]
def bp_174 : List Nat := [0, 1, 2, 3, 4, 5, 7, 10, 11, 12, 15, 18, 19, 20, 23, 24, 25, 28, 29, 32, 33, 35, 36, 38, 41, 42, 45, 46, 47, 48, 51, 53, 55, 56, 57, 58, 59, 60, 61, 64, 65, 68, 69, 72, 73, 74, 77, 80, 81, 82, 85, 86, 87, 90, 91, 94, 95, 96, 97, 100, 103, 104, 105, 108, 109, 110, 111]
/-- ByInitialsModel.price.(I)I -/
def bc_175 : List Ins := [(1, 0, 1, 0, []), (1, 1, 0, 0, []), (36, 156, 2, 0, [9]), (13, 8, 0, 0, []), (1, 0, 1, 0, []), (1, 1, 0, 0, []), (36, 174, 2, 0, [9]), (11, 9, 0, 0, []), (0, 0, 0, (-1), []), (33, 0, 0, 0, [])]
def bp_175 : List Nat := [0, 1, 2, 5, 8, 9, 10, 13, 16, 17]
/-- ByInitialsModel.rename.(I)I -/
def bc_176 : List Ins := [(1, 0, 1, 0, []), (1, 1, 0, 0, []), (36, 156, 2, 0, [9]), (13, 6, 1, 0, []), (0, 0, 0, (-1), []), (33, 0, 0, 0, []), (1, 0, 1, 0, []), (1, 1, 0, 0, []), (36, 174, 2, 0, [9]), (2, 2, 0, 0, []), (1, 0, 1, 0, []), (15, 9, 9, 0, []), (0, 0, 0, 72, []), (1, 1, 0, 0, []), (3, 0, 0, 0, []), (18, 0, 0, 0, []), (0, 0, 0, 1, []), (12, 26, 0, 0, []), (1, 0, 1, 0, []), (15, 9, 9, 0, []), (0, 0, 0, 56, []), (1, 1, 0, 0, []), (3, 0, 0, 0, []), (18, 0, 0, 0, []), (1, 2, 0, 0, []), (12, 28, 3, 0, []), (0, 0, 0, (-2), []), (33, 0, 0, 0, []), (1, 0, 1, 0, []), (36, 171, 1, 0, [9]), (1, 0, 1, 0, []), (15, 9, 9, 0, []), (0, 0, 0, 72, []), (1, 1, 0, 0, []), (3, 0, 0, 0, []), (0, 0, 0, 1, []), (19, 0, 0, 0, []), (1, 0, 1, 0, []), (15, 9, 9, 0, []), (0, 0, 0, 56, []), (1, 1, 0, 0, []), (3, 0, 0, 0, []), (29, 0, 0, 0, []), (18, 0, 0, 0, []), (1, 2, 0, 0, []), (3, 1, 0, 0, []), (19, 0, 0, 0, []), (1, 0, 1, 0, []), (15, 9, 9, 0, []), (1, 1, 0, 0, []), (1, 0, 1, 0, []), (14, 9, 12, 0, []), (19, 0, 0, 0, []), (0, 0, 0, 0, []), (2, 3, 0, 0, []), (1, 3, 0, 0, []), (1, 0, 1, 0, []), (14, 9, 12, 0, []), (12, 75, 3, 0, []), (1, 0, 1, 0, []), (15, 9, 9, 0, []), (0, 0, 0, 8, []), (0, 0, 0, 6, []), (1, 1, 0, 0, []), (3, 2, 0, 0, []), (3, 0, 0, 0, []), (1, 3, 0, 0, []), (3, 0, 0, 0, []), (1, 0, 1, 0, []), (15, 9, 13, 0, []), (1, 3, 0, 0, []), (18, 0, 0, 0, []), (19, 0, 0, 0, []), (10, 3, 0, 1, []), (11, 55, 0, 0, []), (1, 0, 1, 0, []), (15, 9, 9, 0, []), (0, 0, 0, 56, []), (1, 1, 0, 0, []), (3, 0, 0, 0, []), (18, 0, 0, 0, []), (33, 0, 0, 0, [])]
def bp_176 : List Nat := [0, 1, 2, 5, 8, 9, 10, 11, 12, 15, 16, 17, 20, 22, 23, 24, 25, 26, 29, 30, 33, 35, 36, 37, 38, 39, 42, 44, 45, 46, 49, 50, 53, 55, 56, 57, 58, 59, 60, 63, 65, 66, 67, 68, 69, 70, 71, 72, 73, 76, 77, 78, 81, 82, 83, 84, 85, 86, 89, 92, 93, 96, 98, 100, 101, 102, 103, 104, 105, 106, 109, 110, 111, 112, 115, 118, 119, 122, 124, 125, 126, 127]
/-- ByInitialsModel.isMay.(III)Z -/
def bc_177 : List Ins := [(1, 1, 0, 0, []), (1, 2, 0, 0, []), (12, 17, 0, 0, []), (1, 0, 1, 0, []), (15, 9, 9, 0, []), (0, 0, 0, 64, []), (1, 1, 0, 0, []), (3, 0, 0, 0, []), (18, 0, 0, 0, []), (13, 17, 4, 0, []), (1, 0, 1, 0, []), (15, 9, 9, 0, []), (0, 0, 0, 64, []), (1, 2, 0, 0, []), (3, 0, 0, 0, []), (18, 0, 0, 0, []), (13, 19, 5, 0, []), (0, 0, 0, 0, []), (33, 1, 0, 0, []), (1, 0, 1, 0, []), (0, 0, 0, 0, []), (1, 1, 0, 0, []), (36, 158, 3, 0, [9]), (2, 4, 0, 0, []), (1, 0, 1, 0, []), (0, 0, 0, 0, []), (1, 2, 0, 0, []), (36, 158, 3, 0, [9]), (2, 5, 0, 0, []), (1, 4, 0, 0, []), (13, 33, 2, 0, []), (1, 5, 0, 0, []), (13, 35, 3, 0, []), (0, 0, 0, 1, []), (33, 1, 0, 0, []), (1, 0, 1, 0, []), (15, 9, 9, 0, []), (0, 0, 0, 144, []), (1, 4, 0, 0, []), (3, 0, 0, 0, []), (18, 0, 0, 0, []), (1, 0, 1, 0, []), (15, 9, 9, 0, []), (0, 0, 0, 144, []), (1, 5, 0, 0, []), (3, 0, 0, 0, []), (18, 0, 0, 0, []), (3, 1, 0, 0, []), (5, 0, 0, 0, []), (1, 3, 0, 0, []), (4, 0, 0, 0, []), (5, 0, 0, 0, []), (1, 3, 0, 0, []), (5, 0, 0, 0, []), (36, 140, 3, 1, []), (13, 63, 0, 0, []), (1, 0, 1, 0, []), (1, 4, 0, 0, []), (1, 5, 0, 0, []), (36, 159, 3, 0, [9]), (13, 63, 1, 0, []), (0, 0, 0, 1, []), (11, 64, 0, 0, []), (0, 0, 0, 0, []), (33, 1, 0, 0, [])]
def bp_177 : List Nat := [0, 1, 2, 5, 6, 9, 11, 12, 13, 14, 17, 18, 21, 23, 24, 25, 26, 29, 30, 31, 32, 33, 34, 37, 39, 40, 41, 42, 45, 47, 49, 52, 54, 57, 58, 59, 60, 63, 66, 68, 69, 70, 71, 74, 77, 79, 80, 81, 82, 83, 84, 85, 86, 87, 88, 91, 94, 95, 97, 99, 102, 105, 106, 109, 110]
/-- ByInitialsModel.isTwo.(II)Z -/
def bc_178 : List Ins := [(1, 0, 1, 0, []), (1, 1, 0, 0, []), (36, 156, 2, 0, [9]), (13, 13, 0, 0, []), (1, 0, 1, 0, []), (1, 2, 0, 0, []), (36, 156, 2, 0, [9]), (13, 13, 0, 0, []), (1, 1, 0, 0, []), (1, 2, 0, 0, []), (12, 13, 0, 0, []), (0, 0, 0, 1, []), (11, 14, 0, 0, []), (0, 0, 0, 0, []), (33, 1, 0, 0, [])]
def bp_178 : List Nat := [0, 1, 2, 5, 8, 9, 10, 13, 16, 17, 18, 21, 22, 25, 26]
/-- ByInitialsModel.may.(II)I -/
def bc_179 : List Ins := [(1, 0, 1, 0, []), (1, 1, 0, 0, []), (1, 2, 0, 0, []), (36, 178, 3, 0, [9]), (13, 7, 1, 0, []), (0, 0, 0, (-1), []), (11, 19, 0, 0, []), (1, 0, 1, 0, []), (1, 1, 0, 0, []), (1, 2, 0, 0, []), (1, 0, 1, 0, []), (15, 9, 3, 0, []), (0, 0, 0, 2, []), (18, 0, 0, 0, []), (36, 177, 4, 0, [9]), (13, 18, 0, 0, []), (0, 0, 0, 1, []), (11, 19, 0, 0, []), (0, 0, 0, 0, []), (33, 0, 0, 0, [])]
def bp_179 : List Nat := [0, 1, 2, 3, 6, 9, 10, 13, 14, 15, 16, 17, 20, 21, 22, 25, 28, 29, 32, 33]
/-- ByInitialsModel.weds.()I -/
def bc_180 : List Ins := [(0, 0, 0, 0, []), (2, 1, 0, 0, []), (0, 0, 0, 0, []), (2, 2, 0, 0, []), (1, 2, 0, 0, []), (1, 0, 1, 0, []), (15, 9, 3, 0, []), (0, 0, 0, 0, []), (18, 0, 0, 0, []), (12, 25, 3, 0, []), (1, 1, 0, 0, []), (1, 0, 1, 0, []), (15, 9, 9, 0, []), (0, 0, 0, 64, []), (1, 2, 0, 0, []), (3, 0, 0, 0, []), (18, 0, 0, 0, []), (13, 20, 5, 0, []), (0, 0, 0, 1, []), (11, 21, 0, 0, []), (0, 0, 0, 0, []), (3, 0, 0, 0, []), (2, 1, 0, 0, []), (10, 2, 0, 1, []), (11, 4, 0, 0, []), (1, 1, 0, 0, []), (33, 0, 0, 0, [])]
def bp_180 : List Nat := [0, 1, 2, 3, 4, 5, 6, 9, 10, 11, 14, 15, 16, 19, 21, 22, 23, 24, 27, 28, 31, 32, 33, 34, 37, 40, 41]
/-- ByInitialsModel.wed.(II)I -/
def bc_181 : List Ins := [(1, 0, 1, 0, []), (1, 1, 0, 0, []), (1, 2, 0, 0, []), (36, 178, 3, 0, [9]), (13, 7, 1, 0, []), (0, 0, 0, (-1), []), (33, 0, 0, 0, []), (1, 0, 1, 0, []), (1, 1, 0, 0, []), (1, 2, 0, 0, []), (1, 0, 1, 0, []), (15, 9, 3, 0, []), (0, 0, 0, 2, []), (18, 0, 0, 0, []), (36, 177, 4, 0, [9]), (13, 18, 1, 0, []), (0, 0, 0, (-2), []), (33, 0, 0, 0, []), (1, 0, 1, 0, []), (36, 171, 1, 0, [9]), (1, 0, 1, 0, []), (15, 9, 9, 0, []), (0, 0, 0, 64, []), (1, 1, 0, 0, []), (3, 0, 0, 0, []), (1, 2, 0, 0, []), (0, 0, 0, 1, []), (3, 0, 0, 0, []), (19, 0, 0, 0, []), (1, 0, 1, 0, []), (15, 9, 9, 0, []), (0, 0, 0, 64, []), (1, 2, 0, 0, []), (3, 0, 0, 0, []), (1, 1, 0, 0, []), (0, 0, 0, 1, []), (3, 0, 0, 0, []), (19, 0, 0, 0, []), (1, 0, 1, 0, []), (36, 180, 1, 0, [9]), (33, 0, 0, 0, [])]
def bp_181 : List Nat := [0, 1, 2, 3, 6, 9, 10, 11, 12, 13, 14, 15, 18, 19, 20, 23, 26, 28, 29, 30, 33, 34, 37, 39, 40, 41, 42, 43, 44, 45, 46, 49, 51, 52, 53, 54, 55, 56, 57, 58, 61]
/-- ByInitialsModel.owes.(II)I -/
def bc_182 : List Ins := [(1, 0, 1, 0, []), (15, 9, 9, 0, []), (0, 0, 0, 80, []), (0, 0, 0, 8, []), (1, 1, 0, 0, []), (3, 2, 0, 0, []), (3, 0, 0, 0, []), (1, 2, 0, 0, []), (3, 0, 0, 0, []), (18, 0, 0, 0, []), (33, 0, 0, 0, [])]
def bp_182 : List Nat := [0, 1, 4, 6, 8, 9, 10, 11, 12, 13, 14]
/-- ByInitialsModel.lend.(III)I -/
def bc_183 : List Ins := [(1, 0, 1, 0, []), (1, 1, 0, 0, []), (1, 2, 0, 0, []), (36, 178, 3, 0, [9]), (13, 11, 0, 0, []), (1, 3, 0, 0, []), (5, 0, 0, 0, []), (9, 0, 0, 1, []), (9, 0, 0, 99, []), (36, 140, 3, 1, []), (13, 13, 1, 0, []), (0, 0, 0, (-1), []), (33, 0, 0, 0, []), (1, 0, 1, 0, []), (0, 0, 0, 0, []), (1, 1, 0, 0, []), (36, 158, 3, 0, [9]), (2, 4, 0, 0, []), (1, 0, 1, 0, []), (0, 0, 0, 0, []), (1, 2, 0, 0, []), (36, 158, 3, 0, [9]), (2, 5, 0, 0, []), (1, 4, 0, 0, []), (13, 40, 2, 0, []), (1, 5, 0, 0, []), (13, 40, 2, 0, []), (1, 0, 1, 0, []), (15, 9, 9, 0, []), (0, 0, 0, 144, []), (1, 5, 0, 0, []), (3, 0, 0, 0, []), (18, 0, 0, 0, []), (1, 0, 1, 0, []), (15, 9, 9, 0, []), (0, 0, 0, 144, []), (1, 4, 0, 0, []), (3, 0, 0, 0, []), (18, 0, 0, 0, []), (12, 42, 5, 0, []), (0, 0, 0, 1, []), (11, 43, 0, 0, []), (0, 0, 0, 0, []), (2, 6, 0, 0, []), (1, 6, 0, 0, []), (13, 62, 0, 0, []), (1, 0, 1, 0, []), (15, 9, 9, 0, []), (0, 0, 0, 56, []), (1, 1, 0, 0, []), (3, 0, 0, 0, []), (18, 0, 0, 0, []), (1, 3, 0, 0, []), (12, 62, 2, 0, []), (1, 0, 1, 0, []), (1, 2, 0, 0, []), (1, 1, 0, 0, []), (36, 182, 3, 0, [9]), (1, 3, 0, 0, []), (3, 0, 0, 0, []), (0, 0, 0, 999, []), (12, 64, 5, 0, []), (0, 0, 0, (-2), []), (33, 0, 0, 0, []), (1, 0, 1, 0, []), (36, 171, 1, 0, [9]), (1, 0, 1, 0, []), (15, 9, 9, 0, []), (0, 0, 0, 56, []), (1, 1, 0, 0, []), (3, 0, 0, 0, []), (29, 0, 0, 0, []), (18, 0, 0, 0, []), (1, 3, 0, 0, []), (3, 1, 0, 0, []), (19, 0, 0, 0, []), (1, 0, 1, 0, []), (15, 9, 9, 0, []), (0, 0, 0, 56, []), (1, 2, 0, 0, []), (3, 0, 0, 0, []), (29, 0, 0, 0, []), (18, 0, 0, 0, []), (1, 3, 0, 0, []), (3, 0, 0, 0, []), (19, 0, 0, 0, []), (1, 0, 1, 0, []), (15, 9, 9, 0, []), (0, 0, 0, 80, []), (0, 0, 0, 8, []), (1, 2, 0, 0, []), (3, 2, 0, 0, []), (3, 0, 0, 0, []), (1, 1, 0, 0, []), (3, 0, 0, 0, []), (29, 0, 0, 0, []), (18, 0, 0, 0, []), (1, 3, 0, 0, []), (3, 0, 0, 0, []), (19, 0, 0, 0, []), (1, 0, 1, 0, []), (1, 2, 0, 0, []), (1, 1, 0, 0, []), (36, 182, 3, 0, [9]), (33, 0, 0, 0, [])]
def bp_183 : List Nat := [0, 1, 2, 3, 6, 9, 10, 11, 12, 15, 18, 21, 22, 23, 24, 25, 26, 29, 31, 32, 33, 34, 37, 39, 41, 44, 46, 49, 50, 53, 56, 58, 59, 60, 61, 64, 67, 69, 70, 71, 74, 75, 78, 79, 81, 83, 86, 87, 90, 92, 93, 94, 95, 96, 99, 100, 101, 102, 105, 106, 107, 110, 113, 115, 116, 117, 120, 121, 124, 126, 127, 128, 129, 130, 131, 132, 133, 134, 137, 139, 140, 141, 142, 143, 144, 145, 146, 147, 150, 152, 154, 155, 156, 157, 158, 159, 160, 161, 162, 163, 164, 165, 166, 167, 170]
/-- ByInitialsModel.repay.(III)I -/
def bc_184 : List Ins := [(1, 0, 1, 0, []), (1, 1, 0, 0, []), (1, 2, 0, 0, []), (36, 178, 3, 0, [9]), (13, 11, 0, 0, []), (1, 3, 0, 0, []), (5, 0, 0, 0, []), (9, 0, 0, 1, []), (9, 0, 0, 99, []), (36, 140, 3, 1, []), (13, 13, 1, 0, []), (0, 0, 0, (-1), []), (33, 0, 0, 0, []), (1, 0, 1, 0, []), (1, 2, 0, 0, []), (1, 1, 0, 0, []), (36, 182, 3, 0, [9]), (1, 3, 0, 0, []), (12, 27, 2, 0, []), (1, 0, 1, 0, []), (15, 9, 9, 0, []), (0, 0, 0, 56, []), (1, 2, 0, 0, []), (3, 0, 0, 0, []), (18, 0, 0, 0, []), (1, 3, 0, 0, []), (12, 29, 3, 0, []), (0, 0, 0, (-2), []), (33, 0, 0, 0, []), (1, 0, 1, 0, []), (36, 171, 1, 0, [9]), (1, 0, 1, 0, []), (15, 9, 9, 0, []), (0, 0, 0, 56, []), (1, 1, 0, 0, []), (3, 0, 0, 0, []), (29, 0, 0, 0, []), (18, 0, 0, 0, []), (1, 3, 0, 0, []), (3, 0, 0, 0, []), (19, 0, 0, 0, []), (1, 0, 1, 0, []), (15, 9, 9, 0, []), (0, 0, 0, 56, []), (1, 2, 0, 0, []), (3, 0, 0, 0, []), (29, 0, 0, 0, []), (18, 0, 0, 0, []), (1, 3, 0, 0, []), (3, 1, 0, 0, []), (19, 0, 0, 0, []), (1, 0, 1, 0, []), (15, 9, 9, 0, []), (0, 0, 0, 80, []), (0, 0, 0, 8, []), (1, 2, 0, 0, []), (3, 2, 0, 0, []), (3, 0, 0, 0, []), (1, 1, 0, 0, []), (3, 0, 0, 0, []), (29, 0, 0, 0, []), (18, 0, 0, 0, []), (1, 3, 0, 0, []), (3, 1, 0, 0, []), (19, 0, 0, 0, []), (1, 0, 1, 0, []), (1, 2, 0, 0, []), (1, 1, 0, 0, []), (36, 182, 3, 0, [9]), (33, 0, 0, 0, [])]
def bp_184 : List Nat := [0, 1, 2, 3, 6, 9, 10, 11, 12, 15, 18, 21, 22, 23, 24, 25, 26, 29, 30, 33, 34, 37, 39, 40, 41, 42, 43, 46, 48, 49, 50, 53, 54, 57, 59, 60, 61, 62, 63, 64, 65, 66, 67, 70, 72, 73, 74, 75, 76, 77, 78, 79, 80, 83, 85, 87, 88, 89, 90, 91, 92, 93, 94, 95, 96, 97, 98, 99, 100, 103]
/-- ByInitialsModel.swaps.(III)V -/
def bc_185 : List Ins := [(1, 0, 1, 0, []), (15, 9, 9, 0, []), (0, 0, 0, 170, []), (1, 1, 0, 0, []), (3, 2, 0, 0, []), (0, 0, 0, 144, []), (3, 0, 0, 0, []), (1, 2, 0, 0, []), (3, 0, 0, 0, []), (18, 0, 0, 0, []), (2, 4, 0, 0, []), (1, 0, 1, 0, []), (15, 9, 9, 0, []), (0, 0, 0, 170, []), (1, 1, 0, 0, []), (3, 2, 0, 0, []), (0, 0, 0, 144, []), (3, 0, 0, 0, []), (1, 2, 0, 0, []), (3, 0, 0, 0, []), (1, 0, 1, 0, []), (15, 9, 9, 0, []), (0, 0, 0, 170, []), (1, 1, 0, 0, []), (3, 2, 0, 0, []), (0, 0, 0, 144, []), (3, 0, 0, 0, []), (1, 3, 0, 0, []), (3, 0, 0, 0, []), (18, 0, 0, 0, []), (19, 0, 0, 0, []), (1, 0, 1, 0, []), (15, 9, 9, 0, []), (0, 0, 0, 170, []), (1, 1, 0, 0, []), (3, 2, 0, 0, []), (0, 0, 0, 144, []), (3, 0, 0, 0, []), (1, 3, 0, 0, []), (3, 0, 0, 0, []), (1, 4, 0, 0, []), (19, 0, 0, 0, []), (34, 0, 0, 0, [])]
def bp_185 : List Nat := [0, 1, 4, 7, 8, 9, 12, 13, 14, 15, 16, 18, 19, 22, 25, 26, 27, 30, 31, 32, 33, 34, 37, 40, 41, 42, 45, 46, 47, 48, 49, 50, 51, 54, 57, 58, 59, 62, 63, 64, 65, 67, 68]
/-- ByInitialsModel.swap.(II)I -/
def bc_186 : List Ins := [(1, 1, 0, 0, []), (36, 157, 1, 1, []), (13, 9, 0, 0, []), (1, 2, 0, 0, []), (36, 157, 1, 1, []), (13, 9, 0, 0, []), (1, 1, 0, 0, []), (1, 2, 0, 0, []), (12, 11, 1, 0, []), (0, 0, 0, (-1), []), (33, 0, 0, 0, []), (1, 0, 1, 0, []), (36, 171, 1, 0, [9]), (1, 0, 1, 0, []), (0, 0, 0, 0, []), (1, 1, 0, 0, []), (1, 2, 0, 0, []), (36, 185, 4, 0, [9]), (1, 0, 1, 0, []), (15, 9, 9, 0, []), (0, 0, 0, 144, []), (1, 1, 0, 0, []), (3, 0, 0, 0, []), (18, 0, 0, 0, []), (33, 0, 0, 0, [])]
def bp_186 : List Nat := [0, 1, 4, 7, 8, 11, 14, 15, 16, 19, 20, 21, 22, 25, 26, 27, 28, 29, 32, 33, 36, 39, 40, 41, 42]
/-- ByInitialsModel.newYear.()I -/
def bc_187 : List Ins := [(1, 0, 1, 0, []), (36, 171, 1, 0, [9]), (0, 0, 0, 0, []), (2, 1, 0, 0, []), (0, 0, 0, 0, []), (2, 2, 0, 0, []), (1, 2, 0, 0, []), (0, 0, 0, 8, []), (12, 27, 3, 0, []), (1, 1, 0, 0, []), (1, 0, 1, 0, []), (15, 9, 9, 0, []), (0, 0, 0, 72, []), (1, 2, 0, 0, []), (3, 0, 0, 0, []), (18, 0, 0, 0, []), (3, 0, 0, 0, []), (2, 1, 0, 0, []), (1, 0, 1, 0, []), (15, 9, 9, 0, []), (0, 0, 0, 72, []), (1, 2, 0, 0, []), (3, 0, 0, 0, []), (0, 0, 0, 0, []), (19, 0, 0, 0, []), (10, 2, 0, 1, []), (11, 6, 0, 0, []), (1, 1, 0, 0, []), (33, 0, 0, 0, [])]
def bp_187 : List Nat := [0, 1, 4, 5, 6, 7, 8, 9, 11, 14, 15, 16, 19, 21, 22, 23, 24, 25, 26, 27, 30, 32, 33, 34, 35, 36, 39, 42, 43]
/-- ByInitialsModel.undo.()I -/
def bc_188 : List Ins := [(1, 0, 1, 0, []), (14, 9, 11, 0, []), (13, 5, 1, 0, []), (0, 0, 0, (-2), []), (33, 0, 0, 0, []), (1, 0, 1, 0, []), (28, 0, 0, 0, []), (14, 9, 11, 0, []), (0, 0, 0, 1, []), (3, 1, 0, 0, []), (16, 9, 11, 0, []), (1, 0, 1, 0, []), (0, 0, 0, 3, []), (1, 0, 1, 0, []), (14, 9, 11, 0, []), (3, 0, 0, 0, []), (0, 0, 0, 0, []), (36, 170, 3, 0, [9]), (1, 0, 1, 0, []), (14, 9, 11, 0, []), (33, 0, 0, 0, [])]
def bp_188 : List Nat := [0, 1, 4, 7, 9, 10, 11, 12, 15, 16, 17, 20, 21, 22, 23, 26, 27, 28, 31, 32, 35]
/-- ByInitialsModel.bestFirst.(I)I -/
def bc_189 : List Ins := [(1, 0, 1, 0, []), (0, 0, 0, 11, []), (1, 1, 0, 0, []), (36, 158, 3, 0, [9]), (2, 2, 0, 0, []), (0, 0, 0, (-4), []), (2, 3, 0, 0, []), (0, 0, 0, 0, []), (2, 4, 0, 0, []), (1, 4, 0, 0, []), (0, 0, 0, 26, []), (12, 60, 3, 0, []), (1, 0, 1, 0, []), (0, 0, 0, 11, []), (1, 4, 0, 0, []), (36, 167, 3, 0, [9]), (2, 5, 0, 0, []), (1, 0, 1, 0, []), (15, 9, 9, 0, []), (0, 0, 0, 1878, []), (0, 0, 0, 6, []), (1, 1, 0, 0, []), (3, 2, 0, 0, []), (3, 0, 0, 0, []), (1, 5, 0, 0, []), (19, 0, 0, 0, []), (1, 0, 1, 0, []), (0, 0, 0, 11, []), (36, 164, 2, 0, [9]), (13, 32, 3, 0, []), (0, 0, 0, 0, []), (11, 46, 0, 0, []), (1, 0, 1, 0, []), (15, 9, 16, 0, []), (1, 1, 0, 0, []), (18, 0, 0, 0, []), (1, 5, 0, 0, []), (1, 2, 0, 0, []), (12, 41, 1, 0, []), (0, 0, 0, 0, []), (11, 45, 0, 0, []), (1, 0, 1, 0, []), (15, 9, 3, 0, []), (0, 0, 0, 3, []), (18, 0, 0, 0, []), (3, 1, 0, 0, []), (2, 6, 0, 0, []), (1, 3, 0, 0, []), (13, 53, 2, 0, []), (1, 6, 0, 0, []), (1, 0, 1, 0, []), (14, 9, 24, 0, []), (12, 58, 5, 0, []), (1, 5, 0, 0, []), (2, 3, 0, 0, []), (1, 0, 1, 0, []), (1, 6, 0, 0, []), (16, 9, 24, 0, []), (10, 4, 0, 1, []), (11, 9, 0, 0, []), (1, 0, 1, 0, []), (15, 9, 9, 0, []), (0, 0, 0, 1878, []), (0, 0, 0, 6, []), (1, 1, 0, 0, []), (3, 2, 0, 0, []), (3, 0, 0, 0, []), (1, 2, 0, 0, []), (19, 0, 0, 0, []), (1, 3, 0, 0, []), (33, 0, 0, 0, [])]
def bp_189 : List Nat := [0, 1, 3, 4, 7, 8, 10, 11, 12, 14, 16, 18, 21, 22, 24, 26, 29, 31, 32, 35, 38, 40, 41, 42, 43, 45, 46, 47, 49, 52, 55, 56, 59, 60, 63, 64, 65, 67, 68, 71, 72, 75, 76, 79, 80, 81, 82, 84, 85, 88, 90, 91, 94, 97, 99, 100, 101, 103, 106, 109, 112, 113, 116, 119, 121, 122, 123, 124, 125, 126, 127]
/-- ByInitialsModel.change.(II)I -/
def bc_190 : List Ins := [(1, 0, 1, 0, []), (1, 1, 0, 0, []), (36, 156, 2, 0, [9]), (13, 10, 0, 0, []), (1, 2, 0, 0, []), (5, 0, 0, 0, []), (9, 0, 0, 0, []), (9, 0, 0, 1, []), (36, 140, 3, 1, []), (13, 12, 1, 0, []), (0, 0, 0, (-1), []), (33, 0, 0, 0, []), (1, 0, 1, 0, []), (0, 0, 0, 0, []), (1, 1, 0, 0, []), (36, 158, 3, 0, [9]), (13, 19, 3, 0, []), (0, 0, 0, (-2), []), (33, 0, 0, 0, []), (1, 0, 1, 0, []), (0, 0, 0, 0, []), (0, 0, 0, 11, []), (36, 170, 3, 0, [9]), (1, 0, 1, 0, []), (1, 1, 0, 0, []), (36, 189, 2, 0, [9]), (2, 3, 0, 0, []), (1, 2, 0, 0, []), (13, 31, 1, 0, []), (1, 3, 0, 0, []), (11, 35, 0, 0, []), (1, 0, 1, 0, []), (14, 9, 24, 0, []), (0, 0, 0, 100, []), (3, 0, 0, 0, []), (33, 0, 0, 0, [])]
def bp_190 : List Nat := [0, 1, 2, 5, 8, 9, 10, 11, 12, 15, 18, 19, 20, 21, 22, 23, 26, 29, 31, 32, 33, 34, 36, 39, 40, 41, 44, 45, 46, 49, 50, 53, 54, 57, 59, 60]
/-- ByInitialsModel.isRound.()Z -/
def bc_191 : List Ins := [(0, 0, 0, 0, []), (2, 1, 0, 0, []), (0, 0, 0, 0, []), (2, 2, 0, 0, []), (1, 2, 0, 0, []), (1, 0, 1, 0, []), (15, 9, 3, 0, []), (0, 0, 0, 0, []), (18, 0, 0, 0, []), (12, 42, 3, 0, []), (1, 0, 1, 0, []), (0, 0, 0, 11, []), (1, 2, 0, 0, []), (36, 158, 3, 0, [9]), (13, 40, 2, 0, []), (1, 0, 1, 0, []), (1, 2, 0, 0, []), (36, 189, 2, 0, [9]), (2, 3, 0, 0, []), (1, 1, 0, 0, []), (13, 27, 1, 0, []), (1, 3, 0, 0, []), (1, 0, 1, 0, []), (0, 0, 0, 11, []), (1, 2, 0, 0, []), (36, 158, 3, 0, [9]), (12, 29, 0, 0, []), (0, 0, 0, 1, []), (11, 30, 0, 0, []), (0, 0, 0, 0, []), (2, 1, 0, 0, []), (1, 0, 1, 0, []), (15, 9, 9, 0, []), (0, 0, 0, 1878, []), (0, 0, 0, 6, []), (1, 2, 0, 0, []), (3, 2, 0, 0, []), (3, 0, 0, 0, []), (1, 3, 0, 0, []), (19, 0, 0, 0, []), (10, 2, 0, 1, []), (11, 4, 0, 0, []), (1, 1, 0, 0, []), (33, 1, 0, 0, [])]
def bp_191 : List Nat := [0, 1, 2, 3, 4, 5, 6, 9, 10, 11, 14, 15, 17, 18, 21, 24, 25, 26, 29, 30, 31, 34, 35, 36, 38, 39, 42, 45, 46, 49, 50, 51, 52, 55, 58, 60, 61, 62, 63, 64, 65, 68, 71, 72]
/-- ByInitialsModel.run.(I)I -/
def bc_192 : List Ins := [(1, 1, 0, 0, []), (5, 0, 0, 0, []), (9, 0, 0, (-1), []), (1, 0, 1, 0, []), (15, 9, 3, 0, []), (0, 0, 0, 0, []), (18, 0, 0, 0, []), (0, 0, 0, 1, []), (3, 1, 0, 0, []), (5, 0, 0, 0, []), (36, 140, 3, 1, []), (13, 14, 1, 0, []), (0, 0, 0, (-1), []), (33, 0, 0, 0, []), (1, 0, 1, 0, []), (0, 0, 0, 0, []), (0, 0, 0, 11, []), (36, 170, 3, 0, [9]), (0, 0, 0, 0, []), (2, 2, 0, 0, []), (1, 2, 0, 0, []), (0, 0, 0, 20, []), (12, 37, 3, 0, []), (1, 0, 1, 0, []), (36, 191, 1, 0, [9]), (13, 35, 1, 0, []), (1, 1, 0, 0, []), (13, 30, 3, 0, []), (1, 2, 0, 0, []), (11, 34, 0, 0, []), (1, 0, 1, 0, []), (0, 0, 0, 11, []), (1, 1, 0, 0, []), (36, 158, 3, 0, [9]), (33, 0, 0, 0, []), (10, 2, 0, 1, []), (11, 20, 0, 0, []), (1, 1, 0, 0, []), (13, 44, 2, 0, []), (1, 0, 1, 0, []), (0, 0, 0, 11, []), (1, 1, 0, 0, []), (36, 158, 3, 0, [9]), (33, 0, 0, 0, []), (1, 0, 1, 0, []), (36, 191, 1, 0, [9]), (13, 49, 0, 0, []), (0, 0, 0, (-4), []), (11, 50, 0, 0, []), (0, 0, 0, 20, []), (33, 0, 0, 0, [])]
def bp_192 : List Nat := [0, 1, 2, 5, 6, 9, 10, 11, 12, 13, 14, 17, 20, 21, 22, 23, 24, 26, 29, 30, 31, 32, 34, 37, 38, 41, 44, 45, 48, 49, 52, 53, 55, 56, 59, 60, 63, 66, 67, 70, 71, 73, 74, 77, 78, 79, 82, 85, 87, 90, 92]
/-- ByInitialsModel.hasAll.(IIII)Z -/
def bc_193 : List Ins := [(1, 0, 1, 0, []), (0, 0, 0, 11, []), (1, 1, 0, 0, []), (36, 158, 3, 0, [9]), (2, 5, 0, 0, []), (1, 2, 0, 0, []), (0, 0, 0, 1, []), (3, 8, 0, 0, []), (13, 13, 0, 0, []), (1, 0, 1, 0, []), (1, 5, 0, 0, []), (36, 160, 2, 0, [9]), (13, 15, 0, 0, []), (0, 0, 0, 1, []), (11, 16, 0, 0, []), (0, 0, 0, 0, []), (2, 6, 0, 0, []), (1, 2, 0, 0, []), (0, 0, 0, 2, []), (3, 8, 0, 0, []), (13, 36, 0, 0, []), (1, 6, 0, 0, []), (13, 34, 0, 0, []), (1, 1, 0, 0, []), (1, 3, 0, 0, []), (12, 34, 0, 0, []), (1, 0, 1, 0, []), (0, 0, 0, 11, []), (1, 1, 0, 0, []), (1, 3, 0, 0, []), (36, 162, 4, 0, [9]), (13, 34, 0, 0, []), (0, 0, 0, 1, []), (11, 35, 0, 0, []), (0, 0, 0, 0, []), (2, 6, 0, 0, []), (1, 2, 0, 0, []), (0, 0, 0, 4, []), (3, 8, 0, 0, []), (13, 85, 0, 0, []), (1, 0, 1, 0, []), (0, 0, 0, 0, []), (1, 4, 0, 0, []), (36, 158, 3, 0, [9]), (2, 7, 0, 0, []), (1, 6, 0, 0, []), (13, 83, 0, 0, []), (1, 7, 0, 0, []), (13, 81, 2, 0, []), (1, 0, 1, 0, []), (15, 9, 9, 0, []), (0, 0, 0, 144, []), (1, 5, 0, 0, []), (3, 0, 0, 0, []), (18, 0, 0, 0, []), (1, 0, 1, 0, []), (15, 9, 9, 0, []), (0, 0, 0, 144, []), (1, 7, 0, 0, []), (3, 0, 0, 0, []), (18, 0, 0, 0, []), (3, 1, 0, 0, []), (5, 0, 0, 0, []), (1, 0, 1, 0, []), (15, 9, 3, 0, []), (0, 0, 0, 2, []), (18, 0, 0, 0, []), (4, 0, 0, 0, []), (5, 0, 0, 0, []), (1, 0, 1, 0, []), (15, 9, 3, 0, []), (0, 0, 0, 2, []), (18, 0, 0, 0, []), (5, 0, 0, 0, []), (36, 140, 3, 1, []), (13, 83, 0, 0, []), (1, 0, 1, 0, []), (1, 5, 0, 0, []), (1, 7, 0, 0, []), (36, 159, 3, 0, [9]), (13, 83, 1, 0, []), (0, 0, 0, 1, []), (11, 84, 0, 0, []), (0, 0, 0, 0, []), (2, 6, 0, 0, []), (1, 6, 0, 0, []), (33, 1, 0, 0, [])]
def bp_193 : List Nat := [0, 1, 3, 4, 7, 9, 10, 11, 12, 15, 16, 18, 21, 24, 25, 28, 29, 31, 32, 33, 34, 37, 39, 42, 43, 44, 47, 48, 50, 51, 52, 55, 58, 59, 62, 63, 65, 66, 67, 68, 71, 72, 73, 75, 78, 80, 82, 85, 87, 90, 91, 94, 97, 99, 100, 101, 102, 105, 108, 110, 111, 112, 113, 114, 115, 118, 119, 120, 121, 122, 123, 126, 127, 128, 129, 132, 135, 136, 138, 140, 143, 146, 147, 150, 151, 153, 155]
/-- ByInitialsModel.shortest.(IIIII)I -/
def bc_194 : List Ins := [(1, 0, 1, 0, []), (1, 1, 0, 0, []), (36, 156, 2, 0, [9]), (13, 24, 0, 0, []), (1, 2, 0, 0, []), (5, 0, 0, 0, []), (9, 0, 0, 0, []), (9, 0, 0, 7, []), (36, 140, 3, 1, []), (13, 24, 0, 0, []), (1, 0, 1, 0, []), (1, 3, 0, 0, []), (36, 156, 2, 0, [9]), (13, 24, 0, 0, []), (1, 0, 1, 0, []), (1, 4, 0, 0, []), (36, 156, 2, 0, [9]), (13, 24, 0, 0, []), (1, 5, 0, 0, []), (5, 0, 0, 0, []), (9, 0, 0, 0, []), (9, 0, 0, 3, []), (36, 140, 3, 1, []), (13, 26, 1, 0, []), (0, 0, 0, (-1), []), (33, 0, 0, 0, []), (1, 0, 1, 0, []), (0, 0, 0, 0, []), (0, 0, 0, 11, []), (36, 170, 3, 0, [9]), (0, 0, 0, 1, []), (2, 6, 0, 0, []), (0, 0, 0, 1, []), (2, 7, 0, 0, []), (1, 7, 0, 0, []), (0, 0, 0, 4, []), (12, 116, 3, 0, []), (1, 6, 0, 0, []), (0, 0, 0, 26, []), (3, 2, 0, 0, []), (2, 6, 0, 0, []), (1, 0, 1, 0, []), (15, 9, 9, 0, []), (0, 0, 0, 1870, []), (1, 1, 0, 0, []), (3, 0, 0, 0, []), (1, 7, 0, 0, []), (19, 0, 0, 0, []), (0, 0, 0, 0, []), (2, 8, 0, 0, []), (1, 8, 0, 0, []), (1, 6, 0, 0, []), (12, 114, 3, 0, []), (1, 8, 0, 0, []), (2, 9, 0, 0, []), (1, 7, 0, 0, []), (0, 0, 0, 1, []), (3, 1, 0, 0, []), (2, 10, 0, 0, []), (1, 10, 0, 0, []), (13, 83, 2, 0, []), (1, 0, 1, 0, []), (15, 9, 9, 0, []), (0, 0, 0, 1878, []), (0, 0, 0, 6, []), (1, 1, 0, 0, []), (3, 2, 0, 0, []), (3, 0, 0, 0, []), (1, 10, 0, 0, []), (3, 0, 0, 0, []), (1, 0, 1, 0, []), (0, 0, 0, 0, []), (1, 9, 0, 0, []), (0, 0, 0, 26, []), (3, 4, 0, 0, []), (36, 167, 3, 0, [9]), (19, 0, 0, 0, []), (1, 9, 0, 0, []), (0, 0, 0, 26, []), (3, 3, 0, 0, []), (2, 9, 0, 0, []), (10, 10, 0, (-1), []), (11, 59, 0, 0, []), (1, 0, 1, 0, []), (1, 1, 0, 0, []), (1, 2, 0, 0, []), (1, 3, 0, 0, []), (1, 4, 0, 0, []), (36, 193, 5, 0, [9]), (13, 112, 0, 0, []), (1, 5, 0, 0, []), (13, 94, 1, 0, []), (1, 7, 0, 0, []), (11, 111, 0, 0, []), (1, 5, 0, 0, []), (1, 7, 0, 0, []), (12, 99, 5, 0, []), (0, 0, 0, (-4), []), (11, 111, 0, 0, []), (1, 0, 1, 0, []), (15, 9, 9, 0, []), (0, 0, 0, 1878, []), (0, 0, 0, 6, []), (1, 1, 0, 0, []), (3, 2, 0, 0, []), (3, 0, 0, 0, []), (1, 5, 0, 0, []), (3, 0, 0, 0, []), (0, 0, 0, 1, []), (3, 1, 0, 0, []), (18, 0, 0, 0, []), (33, 0, 0, 0, []), (10, 8, 0, 1, []), (11, 50, 0, 0, []), (10, 7, 0, 1, []), (11, 34, 0, 0, []), (0, 0, 0, (-4), []), (33, 0, 0, 0, [])]
def bp_194 : List Nat := [0, 1, 2, 5, 8, 9, 10, 11, 14, 17, 20, 21, 22, 25, 28, 29, 31, 34, 37, 39, 40, 41, 44, 47, 50, 51, 52, 53, 54, 56, 59, 60, 62, 63, 65, 67, 68, 71, 73, 75, 76, 78, 79, 82, 85, 86, 87, 89, 90, 91, 93, 95, 97, 100, 102, 104, 106, 107, 108, 110, 112, 115, 116, 119, 122, 124, 125, 126, 127, 129, 130, 131, 132, 134, 136, 137, 140, 141, 143, 145, 146, 148, 151, 154, 155, 156, 157, 158, 160, 163, 166, 168, 171, 173, 176, 178, 180, 183, 185, 188, 189, 192, 195, 197, 198, 199, 200, 202, 203, 204, 205, 206, 207, 210, 213, 216, 219, 221]
/-- ByInitialsModel.weddings.(I)I -/
def bc_195 : List Ins := [(0, 0, 0, 0, []), (2, 2, 0, 0, []), (1, 2, 0, 0, []), (0, 0, 0, 1, []), (1, 0, 1, 0, []), (15, 9, 3, 0, []), (0, 0, 0, 0, []), (18, 0, 0, 0, []), (3, 5, 0, 0, []), (12, 117, 3, 0, []), (1, 0, 1, 0, []), (15, 9, 19, 0, []), (1, 2, 0, 0, []), (0, 0, 0, 0, []), (19, 0, 0, 0, []), (0, 0, 0, 0, []), (2, 3, 0, 0, []), (1, 3, 0, 0, []), (1, 0, 1, 0, []), (15, 9, 3, 0, []), (0, 0, 0, 0, []), (18, 0, 0, 0, []), (12, 31, 3, 0, []), (1, 2, 0, 0, []), (1, 3, 0, 0, []), (3, 6, 0, 0, []), (0, 0, 0, 1, []), (3, 8, 0, 0, []), (13, 31, 1, 0, []), (10, 3, 0, 1, []), (11, 17, 0, 0, []), (1, 3, 0, 0, []), (1, 0, 1, 0, []), (15, 9, 3, 0, []), (0, 0, 0, 0, []), (18, 0, 0, 0, []), (12, 115, 3, 0, []), (1, 2, 0, 0, []), (0, 0, 0, 1, []), (1, 3, 0, 0, []), (3, 5, 0, 0, []), (0, 0, 0, (-1), []), (3, 10, 0, 0, []), (3, 8, 0, 0, []), (2, 4, 0, 0, []), (1, 0, 1, 0, []), (15, 9, 19, 0, []), (1, 2, 0, 0, []), (1, 0, 1, 0, []), (15, 9, 19, 0, []), (1, 4, 0, 0, []), (18, 0, 0, 0, []), (19, 0, 0, 0, []), (1, 3, 0, 0, []), (0, 0, 0, 1, []), (3, 0, 0, 0, []), (2, 5, 0, 0, []), (1, 5, 0, 0, []), (1, 0, 1, 0, []), (15, 9, 3, 0, []), (0, 0, 0, 0, []), (18, 0, 0, 0, []), (12, 115, 3, 0, []), (1, 2, 0, 0, []), (1, 5, 0, 0, []), (3, 6, 0, 0, []), (0, 0, 0, 1, []), (3, 8, 0, 0, []), (0, 0, 0, 1, []), (12, 78, 1, 0, []), (1, 0, 1, 0, []), (1, 3, 0, 0, []), (1, 5, 0, 0, []), (1, 1, 0, 0, []), (36, 177, 4, 0, [9]), (13, 78, 0, 0, []), (0, 0, 0, 1, []), (11, 79, 0, 0, []), (0, 0, 0, 0, []), (2, 6, 0, 0, []), (1, 6, 0, 0, []), (13, 95, 0, 0, []), (1, 0, 1, 0, []), (15, 9, 19, 0, []), (1, 4, 0, 0, []), (0, 0, 0, 1, []), (1, 5, 0, 0, []), (3, 5, 0, 0, []), (0, 0, 0, (-1), []), (3, 10, 0, 0, []), (3, 8, 0, 0, []), (18, 0, 0, 0, []), (0, 0, 0, 1, []), (3, 0, 0, 0, []), (11, 96, 0, 0, []), (0, 0, 0, 0, []), (2, 7, 0, 0, []), (1, 0, 1, 0, []), (15, 9, 19, 0, []), (1, 2, 0, 0, []), (1, 7, 0, 0, []), (1, 0, 1, 0, []), (15, 9, 19, 0, []), (1, 2, 0, 0, []), (18, 0, 0, 0, []), (12, 108, 5, 0, []), (1, 7, 0, 0, []), (11, 112, 0, 0, []), (1, 0, 1, 0, []), (15, 9, 19, 0, []), (1, 2, 0, 0, []), (18, 0, 0, 0, []), (19, 0, 0, 0, []), (10, 5, 0, 1, []), (11, 57, 0, 0, []), (10, 2, 0, 1, []), (11, 2, 0, 0, []), (1, 0, 1, 0, []), (15, 9, 19, 0, []), (0, 0, 0, 1, []), (1, 0, 1, 0, []), (15, 9, 3, 0, []), (0, 0, 0, 0, []), (18, 0, 0, 0, []), (3, 5, 0, 0, []), (0, 0, 0, 1, []), (3, 1, 0, 0, []), (18, 0, 0, 0, []), (33, 0, 0, 0, [])]
def bp_195 : List Nat := [0, 1, 2, 3, 4, 5, 8, 9, 10, 11, 14, 15, 18, 19, 20, 21, 22, 23, 24, 25, 28, 29, 30, 33, 34, 35, 36, 37, 38, 41, 44, 47, 48, 49, 52, 53, 54, 57, 58, 59, 60, 61, 62, 63, 64, 66, 67, 70, 71, 72, 75, 77, 78, 79, 80, 81, 82, 84, 86, 87, 90, 91, 92, 95, 96, 98, 99, 100, 101, 102, 105, 106, 107, 109, 110, 113, 116, 117, 120, 121, 123, 125, 128, 129, 132, 134, 135, 137, 138, 139, 140, 141, 142, 143, 144, 147, 148, 150, 151, 154, 155, 157, 158, 161, 162, 163, 166, 168, 171, 172, 175, 176, 177, 178, 181, 184, 187, 190, 191, 194, 195, 196, 199, 200, 201, 202, 203, 204, 205]
/-- ByInitialsModel.match.(I)I -/
def bc_196 : List Ins := [(1, 1, 0, 0, []), (5, 0, 0, 0, []), (9, 0, 0, (-1), []), (1, 0, 1, 0, []), (15, 9, 3, 0, []), (0, 0, 0, 0, []), (18, 0, 0, 0, []), (0, 0, 0, 1, []), (3, 1, 0, 0, []), (5, 0, 0, 0, []), (36, 140, 3, 1, []), (13, 14, 1, 0, []), (0, 0, 0, (-1), []), (33, 0, 0, 0, []), (1, 0, 1, 0, []), (1, 0, 1, 0, []), (15, 9, 3, 0, []), (0, 0, 0, 2, []), (18, 0, 0, 0, []), (36, 195, 2, 0, [9]), (2, 2, 0, 0, []), (0, 0, 0, 1, []), (1, 0, 1, 0, []), (15, 9, 3, 0, []), (0, 0, 0, 0, []), (18, 0, 0, 0, []), (3, 5, 0, 0, []), (0, 0, 0, 1, []), (3, 1, 0, 0, []), (2, 3, 0, 0, []), (0, 0, 0, 0, []), (2, 4, 0, 0, []), (1, 4, 0, 0, []), (0, 0, 0, 8, []), (12, 42, 3, 0, []), (1, 0, 1, 0, []), (15, 9, 17, 0, []), (1, 4, 0, 0, []), (0, 0, 0, (-4), []), (19, 0, 0, 0, []), (10, 4, 0, 1, []), (11, 32, 0, 0, []), (0, 0, 0, 0, []), (2, 4, 0, 0, []), (1, 4, 0, 0, []), (1, 0, 1, 0, []), (15, 9, 3, 0, []), (0, 0, 0, 0, []), (18, 0, 0, 0, []), (12, 142, 3, 0, []), (1, 3, 0, 0, []), (1, 4, 0, 0, []), (3, 6, 0, 0, []), (0, 0, 0, 1, []), (3, 8, 0, 0, []), (0, 0, 0, 1, []), (12, 59, 1, 0, []), (0, 0, 0, 1, []), (11, 60, 0, 0, []), (0, 0, 0, 0, []), (2, 5, 0, 0, []), (1, 0, 1, 0, []), (15, 9, 19, 0, []), (1, 3, 0, 0, []), (18, 0, 0, 0, []), (2, 6, 0, 0, []), (1, 4, 0, 0, []), (0, 0, 0, 1, []), (3, 0, 0, 0, []), (2, 7, 0, 0, []), (1, 7, 0, 0, []), (1, 0, 1, 0, []), (15, 9, 3, 0, []), (0, 0, 0, 0, []), (18, 0, 0, 0, []), (12, 132, 3, 0, []), (1, 5, 0, 0, []), (13, 132, 0, 0, []), (1, 3, 0, 0, []), (0, 0, 0, 1, []), (1, 4, 0, 0, []), (3, 5, 0, 0, []), (0, 0, 0, (-1), []), (3, 10, 0, 0, []), (3, 8, 0, 0, []), (0, 0, 0, 1, []), (1, 7, 0, 0, []), (3, 5, 0, 0, []), (0, 0, 0, (-1), []), (3, 10, 0, 0, []), (3, 8, 0, 0, []), (2, 8, 0, 0, []), (1, 3, 0, 0, []), (1, 7, 0, 0, []), (3, 6, 0, 0, []), (0, 0, 0, 1, []), (3, 8, 0, 0, []), (0, 0, 0, 1, []), (12, 130, 1, 0, []), (1, 0, 1, 0, []), (1, 4, 0, 0, []), (1, 7, 0, 0, []), (1, 0, 1, 0, []), (15, 9, 3, 0, []), (0, 0, 0, 2, []), (18, 0, 0, 0, []), (36, 177, 4, 0, [9]), (13, 130, 0, 0, []), (1, 0, 1, 0, []), (15, 9, 19, 0, []), (1, 8, 0, 0, []), (18, 0, 0, 0, []), (0, 0, 0, 1, []), (3, 0, 0, 0, []), (1, 6, 0, 0, []), (12, 130, 1, 0, []), (1, 0, 1, 0, []), (15, 9, 17, 0, []), (1, 4, 0, 0, []), (1, 7, 0, 0, []), (19, 0, 0, 0, []), (1, 0, 1, 0, []), (15, 9, 17, 0, []), (1, 7, 0, 0, []), (1, 4, 0, 0, []), (19, 0, 0, 0, []), (1, 8, 0, 0, []), (2, 3, 0, 0, []), (0, 0, 0, 0, []), (2, 5, 0, 0, []), (10, 7, 0, 1, []), (11, 70, 0, 0, []), (1, 3, 0, 0, []), (0, 0, 0, 1, []), (1, 4, 0, 0, []), (3, 5, 0, 0, []), (0, 0, 0, (-1), []), (3, 10, 0, 0, []), (3, 8, 0, 0, []), (2, 3, 0, 0, []), (10, 4, 0, 1, []), (11, 44, 0, 0, []), (1, 1, 0, 0, []), (13, 146, 3, 0, []), (1, 2, 0, 0, []), (11, 150, 0, 0, []), (1, 0, 1, 0, []), (15, 9, 17, 0, []), (1, 1, 0, 0, []), (18, 0, 0, 0, []), (33, 0, 0, 0, [])]
def bp_196 : List Nat := [0, 1, 2, 5, 6, 9, 10, 11, 12, 13, 14, 17, 20, 21, 22, 23, 24, 27, 28, 29, 32, 33, 34, 35, 38, 39, 40, 41, 42, 43, 44, 45, 47, 49, 51, 54, 55, 58, 60, 62, 63, 66, 69, 70, 72, 74, 75, 78, 79, 80, 83, 84, 86, 87, 88, 89, 90, 93, 94, 97, 98, 100, 101, 104, 105, 106, 108, 110, 111, 112, 114, 116, 117, 120, 121, 122, 125, 127, 130, 131, 132, 134, 135, 136, 137, 138, 139, 141, 142, 143, 144, 145, 147, 148, 150, 151, 152, 153, 154, 157, 158, 160, 162, 163, 166, 167, 168, 171, 174, 175, 178, 180, 181, 182, 183, 185, 188, 189, 192, 194, 196, 197, 198, 201, 203, 205, 206, 208, 209, 210, 212, 215, 218, 219, 220, 222, 223, 224, 225, 226, 227, 230, 233, 234, 237, 238, 241, 242, 245, 246, 247]
/-- ByInitialsModel.wide.(I)I -/
def bc_197 : List Ins := [(1, 1, 0, 0, []), (5, 0, 0, 0, []), (9, 0, 0, 1, []), (9, 0, 0, 4, []), (36, 140, 3, 1, []), (13, 8, 1, 0, []), (0, 0, 0, (-1), []), (33, 0, 0, 0, []), (0, 0, 0, 0, []), (2, 2, 0, 0, []), (1, 2, 0, 0, []), (0, 0, 0, 26, []), (12, 22, 3, 0, []), (1, 0, 1, 0, []), (1, 2, 0, 0, []), (36, 195, 2, 0, [9]), (1, 1, 0, 0, []), (12, 20, 2, 0, []), (1, 2, 0, 0, []), (33, 0, 0, 0, []), (10, 2, 0, 1, []), (11, 10, 0, 0, []), (0, 0, 0, (-4), []), (33, 0, 0, 0, [])]
def bp_197 : List Nat := [0, 1, 2, 3, 6, 9, 12, 13, 14, 15, 16, 17, 19, 22, 23, 24, 27, 28, 31, 32, 33, 36, 39, 41]
/-- ByInitialsModel.owed.(II)I -/
def bc_198 : List Ins := [(1, 0, 1, 0, []), (1, 1, 0, 0, []), (36, 156, 2, 0, [9]), (13, 13, 0, 0, []), (1, 0, 1, 0, []), (1, 2, 0, 0, []), (36, 156, 2, 0, [9]), (13, 13, 0, 0, []), (1, 0, 1, 0, []), (1, 2, 0, 0, []), (1, 1, 0, 0, []), (36, 182, 3, 0, [9]), (11, 14, 0, 0, []), (0, 0, 0, (-1), []), (33, 0, 0, 0, [])]
def bp_198 : List Nat := [0, 1, 2, 5, 8, 9, 10, 13, 16, 17, 18, 19, 22, 25, 26]
/-- ByInitialsModel.netOf.(I)I -/
def bc_199 : List Ins := [(0, 0, 0, 0, []), (2, 2, 0, 0, []), (0, 0, 0, 0, []), (2, 3, 0, 0, []), (1, 3, 0, 0, []), (1, 0, 1, 0, []), (15, 9, 3, 0, []), (0, 0, 0, 0, []), (18, 0, 0, 0, []), (12, 24, 3, 0, []), (1, 2, 0, 0, []), (1, 0, 1, 0, []), (1, 3, 0, 0, []), (1, 1, 0, 0, []), (36, 182, 3, 0, [9]), (1, 0, 1, 0, []), (1, 1, 0, 0, []), (1, 3, 0, 0, []), (36, 182, 3, 0, [9]), (3, 1, 0, 0, []), (3, 0, 0, 0, []), (2, 2, 0, 0, []), (10, 3, 0, 1, []), (11, 4, 0, 0, []), (1, 2, 0, 0, []), (33, 0, 0, 0, [])]
def bp_199 : List Nat := [0, 1, 2, 3, 4, 5, 6, 9, 10, 11, 14, 15, 16, 17, 18, 21, 22, 23, 24, 27, 28, 29, 30, 33, 36, 37]
/-- ByInitialsModel.net.(I)I -/
def bc_200 : List Ins := [(1, 0, 1, 0, []), (1, 1, 0, 0, []), (36, 156, 2, 0, [9]), (13, 10, 0, 0, []), (1, 0, 1, 0, []), (1, 1, 0, 0, []), (36, 199, 2, 0, [9]), (0, 0, 0, 10000, []), (3, 0, 0, 0, []), (11, 11, 0, 0, []), (0, 0, 0, (-1), []), (33, 0, 0, 0, [])]
def bp_200 : List Nat := [0, 1, 2, 5, 8, 9, 10, 13, 16, 17, 20, 21]
/-- ByInitialsModel.chain.()I -/
def bc_201 : List Ins := [(0, 0, 0, 0, []), (2, 1, 0, 0, []), (1, 1, 0, 0, []), (0, 0, 0, 8, []), (12, 12, 3, 0, []), (1, 0, 1, 0, []), (15, 9, 17, 0, []), (1, 1, 0, 0, []), (0, 0, 0, 0, []), (19, 0, 0, 0, []), (10, 1, 0, 1, []), (11, 2, 0, 0, []), (0, 0, 0, 0, []), (2, 1, 0, 0, []), (0, 0, 0, 0, []), (2, 2, 0, 0, []), (1, 2, 0, 0, []), (1, 0, 1, 0, []), (15, 9, 3, 0, []), (0, 0, 0, 0, []), (18, 0, 0, 0, []), (12, 100, 4, 0, []), (0, 0, 0, 0, []), (2, 1, 0, 0, []), (0, 0, 0, 0, []), (2, 3, 0, 0, []), (1, 3, 0, 0, []), (1, 0, 1, 0, []), (15, 9, 3, 0, []), (0, 0, 0, 0, []), (18, 0, 0, 0, []), (12, 80, 3, 0, []), (0, 0, 0, 0, []), (2, 4, 0, 0, []), (0, 0, 0, 0, []), (2, 5, 0, 0, []), (1, 5, 0, 0, []), (1, 0, 1, 0, []), (15, 9, 3, 0, []), (0, 0, 0, 0, []), (18, 0, 0, 0, []), (12, 66, 3, 0, []), (1, 0, 1, 0, []), (1, 3, 0, 0, []), (1, 5, 0, 0, []), (36, 182, 3, 0, [9]), (13, 62, 5, 0, []), (1, 0, 1, 0, []), (15, 9, 17, 0, []), (1, 5, 0, 0, []), (18, 0, 0, 0, []), (0, 0, 0, 1, []), (3, 0, 0, 0, []), (1, 4, 0, 0, []), (12, 62, 5, 0, []), (1, 0, 1, 0, []), (15, 9, 17, 0, []), (1, 5, 0, 0, []), (18, 0, 0, 0, []), (0, 0, 0, 1, []), (3, 0, 0, 0, []), (11, 63, 0, 0, []), (1, 4, 0, 0, []), (2, 4, 0, 0, []), (10, 5, 0, 1, []), (11, 36, 0, 0, []), (1, 0, 1, 0, []), (15, 9, 18, 0, []), (1, 3, 0, 0, []), (1, 4, 0, 0, []), (19, 0, 0, 0, []), (1, 4, 0, 0, []), (1, 1, 0, 0, []), (12, 76, 5, 0, []), (1, 4, 0, 0, []), (11, 77, 0, 0, []), (1, 1, 0, 0, []), (2, 1, 0, 0, []), (10, 3, 0, 1, []), (11, 26, 0, 0, []), (0, 0, 0, 0, []), (2, 3, 0, 0, []), (1, 3, 0, 0, []), (1, 0, 1, 0, []), (15, 9, 3, 0, []), (0, 0, 0, 0, []), (18, 0, 0, 0, []), (12, 98, 3, 0, []), (1, 0, 1, 0, []), (15, 9, 17, 0, []), (1, 3, 0, 0, []), (1, 0, 1, 0, []), (15, 9, 18, 0, []), (1, 3, 0, 0, []), (18, 0, 0, 0, []), (19, 0, 0, 0, []), (10, 3, 0, 1, []), (11, 82, 0, 0, []), (10, 2, 0, 1, []), (11, 16, 0, 0, []), (1, 1, 0, 0, []), (1, 0, 1, 0, []), (15, 9, 3, 0, []), (0, 0, 0, 0, []), (18, 0, 0, 0, []), (12, 108, 2, 0, []), (0, 0, 0, (-4), []), (11, 109, 0, 0, []), (1, 1, 0, 0, []), (33, 0, 0, 0, [])]
def bp_201 : List Nat := [0, 1, 2, 3, 5, 8, 9, 12, 13, 14, 15, 18, 21, 22, 23, 24, 25, 26, 27, 30, 31, 32, 35, 36, 37, 38, 39, 40, 41, 44, 45, 46, 49, 50, 52, 53, 55, 57, 58, 61, 62, 63, 66, 67, 68, 70, 73, 76, 77, 80, 82, 83, 84, 85, 87, 90, 91, 94, 96, 97, 98, 99, 102, 104, 106, 109, 112, 113, 116, 117, 119, 120, 122, 123, 126, 128, 131, 132, 133, 136, 139, 140, 141, 142, 143, 146, 147, 148, 151, 152, 155, 156, 157, 160, 161, 162, 163, 166, 169, 172, 175, 176, 177, 180, 181, 182, 185, 187, 190, 191]
/-- ByInitialsModel.payments.()I -/
def bc_202 : List Ins := [(0, 0, 0, 0, []), (2, 1, 0, 0, []), (0, 0, 0, 0, []), (2, 2, 0, 0, []), (0, 0, 0, 0, []), (2, 3, 0, 0, []), (1, 3, 0, 0, []), (1, 0, 1, 0, []), (15, 9, 3, 0, []), (0, 0, 0, 0, []), (18, 0, 0, 0, []), (12, 36, 3, 0, []), (1, 1, 0, 0, []), (1, 0, 1, 0, []), (1, 3, 0, 0, []), (36, 199, 2, 0, [9]), (13, 21, 0, 0, []), (0, 0, 0, 1, []), (1, 3, 0, 0, []), (3, 5, 0, 0, []), (11, 22, 0, 0, []), (0, 0, 0, 0, []), (3, 9, 0, 0, []), (2, 1, 0, 0, []), (1, 2, 0, 0, []), (1, 0, 1, 0, []), (1, 3, 0, 0, []), (36, 199, 2, 0, [9]), (13, 31, 0, 0, []), (0, 0, 0, 1, []), (11, 32, 0, 0, []), (0, 0, 0, 0, []), (3, 0, 0, 0, []), (2, 2, 0, 0, []), (10, 3, 0, 1, []), (11, 6, 0, 0, []), (1, 0, 1, 0, []), (15, 9, 19, 0, []), (0, 0, 0, 0, []), (0, 0, 0, 0, []), (19, 0, 0, 0, []), (0, 0, 0, 1, []), (2, 3, 0, 0, []), (1, 3, 0, 0, []), (0, 0, 0, 1, []), (1, 0, 1, 0, []), (15, 9, 3, 0, []), (0, 0, 0, 0, []), (18, 0, 0, 0, []), (3, 5, 0, 0, []), (12, 128, 3, 0, []), (0, 0, 0, 0, []), (2, 4, 0, 0, []), (1, 0, 1, 0, []), (15, 9, 19, 0, []), (1, 3, 0, 0, []), (0, 0, 0, 0, []), (19, 0, 0, 0, []), (0, 0, 0, 0, []), (2, 5, 0, 0, []), (1, 5, 0, 0, []), (1, 0, 1, 0, []), (15, 9, 3, 0, []), (0, 0, 0, 0, []), (18, 0, 0, 0, []), (12, 108, 3, 0, []), (1, 3, 0, 0, []), (1, 5, 0, 0, []), (3, 6, 0, 0, []), (0, 0, 0, 1, []), (3, 8, 0, 0, []), (0, 0, 0, 1, []), (12, 106, 1, 0, []), (1, 4, 0, 0, []), (1, 0, 1, 0, []), (1, 5, 0, 0, []), (36, 199, 2, 0, [9]), (3, 0, 0, 0, []), (2, 4, 0, 0, []), (1, 0, 1, 0, []), (15, 9, 19, 0, []), (1, 3, 0, 0, []), (0, 0, 0, 1, []), (1, 5, 0, 0, []), (3, 5, 0, 0, []), (0, 0, 0, (-1), []), (3, 10, 0, 0, []), (3, 8, 0, 0, []), (18, 0, 0, 0, []), (2, 6, 0, 0, []), (1, 0, 1, 0, []), (15, 9, 19, 0, []), (1, 3, 0, 0, []), (1, 6, 0, 0, []), (1, 0, 1, 0, []), (15, 9, 19, 0, []), (1, 3, 0, 0, []), (18, 0, 0, 0, []), (12, 101, 5, 0, []), (1, 6, 0, 0, []), (11, 105, 0, 0, []), (1, 0, 1, 0, []), (15, 9, 19, 0, []), (1, 3, 0, 0, []), (18, 0, 0, 0, []), (19, 0, 0, 0, []), (10, 5, 0, 1, []), (11, 60, 0, 0, []), (1, 0, 1, 0, []), (15, 9, 19, 0, []), (1, 3, 0, 0, []), (29, 0, 0, 0, []), (18, 0, 0, 0, []), (1, 4, 0, 0, []), (13, 123, 1, 0, []), (1, 3, 0, 0, []), (1, 1, 0, 0, []), (0, 0, 0, (-1), []), (3, 10, 0, 0, []), (3, 8, 0, 0, []), (13, 123, 1, 0, []), (0, 0, 0, 1, []), (11, 124, 0, 0, []), (0, 0, 0, 0, []), (3, 0, 0, 0, []), (19, 0, 0, 0, []), (10, 3, 0, 1, []), (11, 43, 0, 0, []), (1, 2, 0, 0, []), (1, 0, 1, 0, []), (15, 9, 19, 0, []), (1, 1, 0, 0, []), (18, 0, 0, 0, []), (3, 1, 0, 0, []), (33, 0, 0, 0, [])]
def bp_202 : List Nat := [0, 1, 2, 3, 4, 5, 6, 7, 8, 11, 12, 13, 16, 17, 18, 19, 22, 25, 26, 27, 28, 31, 32, 33, 34, 35, 36, 37, 40, 43, 44, 47, 48, 49, 50, 53, 56, 57, 60, 61, 62, 63, 64, 65, 66, 67, 68, 71, 72, 73, 74, 77, 78, 80, 81, 84, 85, 86, 87, 88, 90, 92, 93, 96, 97, 98, 101, 102, 104, 105, 106, 107, 108, 111, 113, 114, 116, 119, 120, 122, 123, 126, 127, 128, 130, 131, 132, 133, 134, 135, 137, 138, 141, 142, 144, 145, 148, 149, 150, 153, 155, 158, 159, 162, 163, 164, 165, 168, 171, 172, 175, 176, 177, 178, 180, 183, 184, 185, 186, 187, 188, 191, 192, 195, 196, 197, 198, 201, 204, 205, 206, 209, 210, 211, 212]
/-- ByInitialsModel.isFoe.(II)Z -/
def bc_203 : List Ins := [(1, 0, 1, 0, []), (0, 0, 0, 0, []), (1, 1, 0, 0, []), (36, 158, 3, 0, [9]), (2, 3, 0, 0, []), (1, 0, 1, 0, []), (0, 0, 0, 0, []), (1, 2, 0, 0, []), (36, 158, 3, 0, [9]), (2, 4, 0, 0, []), (1, 1, 0, 0, []), (1, 2, 0, 0, []), (12, 24, 0, 0, []), (1, 3, 0, 0, []), (13, 24, 2, 0, []), (1, 4, 0, 0, []), (13, 24, 2, 0, []), (1, 0, 1, 0, []), (1, 3, 0, 0, []), (1, 4, 0, 0, []), (36, 159, 3, 0, [9]), (13, 24, 0, 0, []), (0, 0, 0, 1, []), (11, 25, 0, 0, []), (0, 0, 0, 0, []), (33, 1, 0, 0, [])]
def bp_203 : List Nat := [0, 1, 2, 3, 6, 7, 8, 9, 10, 13, 15, 16, 17, 20, 21, 24, 26, 29, 30, 31, 33, 36, 39, 40, 43, 44]
/-- ByInitialsModel.foes.()I -/
def bc_204 : List Ins := [(1, 0, 1, 0, []), (15, 9, 3, 0, []), (0, 0, 0, 0, []), (18, 0, 0, 0, []), (2, 1, 0, 0, []), (0, 0, 0, 0, []), (2, 2, 0, 0, []), (0, 0, 0, 0, []), (2, 3, 0, 0, []), (1, 3, 0, 0, []), (0, 0, 0, 1, []), (3, 0, 0, 0, []), (1, 1, 0, 0, []), (12, 35, 3, 0, []), (1, 2, 0, 0, []), (1, 0, 1, 0, []), (1, 0, 1, 0, []), (15, 9, 18, 0, []), (1, 3, 0, 0, []), (18, 0, 0, 0, []), (1, 0, 1, 0, []), (15, 9, 18, 0, []), (1, 3, 0, 0, []), (0, 0, 0, 1, []), (3, 0, 0, 0, []), (18, 0, 0, 0, []), (36, 203, 3, 0, [9]), (13, 30, 0, 0, []), (0, 0, 0, 1, []), (11, 31, 0, 0, []), (0, 0, 0, 0, []), (3, 0, 0, 0, []), (2, 2, 0, 0, []), (10, 3, 0, 1, []), (11, 9, 0, 0, []), (1, 2, 0, 0, []), (1, 1, 0, 0, []), (0, 0, 0, 2, []), (12, 54, 5, 0, []), (1, 0, 1, 0, []), (1, 0, 1, 0, []), (15, 9, 18, 0, []), (1, 1, 0, 0, []), (0, 0, 0, 1, []), (3, 1, 0, 0, []), (18, 0, 0, 0, []), (1, 0, 1, 0, []), (15, 9, 18, 0, []), (0, 0, 0, 0, []), (18, 0, 0, 0, []), (36, 203, 3, 0, [9]), (13, 54, 0, 0, []), (0, 0, 0, 1, []), (11, 55, 0, 0, []), (0, 0, 0, 0, []), (3, 0, 0, 0, []), (33, 0, 0, 0, [])]
def bp_204 : List Nat := [0, 1, 4, 5, 6, 7, 8, 9, 10, 11, 12, 13, 14, 15, 18, 19, 20, 21, 24, 25, 26, 27, 30, 31, 32, 33, 34, 37, 40, 41, 44, 45, 46, 47, 50, 53, 54, 55, 56, 59, 60, 61, 64, 65, 66, 67, 68, 69, 72, 73, 74, 77, 80, 81, 84, 85, 86]
/-- ByInitialsModel.follows.()Z -/
def bc_205 : List Ins := [(1, 0, 1, 0, []), (15, 9, 3, 0, []), (0, 0, 0, 0, []), (18, 0, 0, 0, []), (2, 1, 0, 0, []), (1, 1, 0, 0, []), (0, 0, 0, 2, []), (3, 1, 0, 0, []), (2, 2, 0, 0, []), (1, 2, 0, 0, []), (13, 24, 5, 0, []), (1, 0, 1, 0, []), (15, 9, 18, 0, []), (1, 2, 0, 0, []), (18, 0, 0, 0, []), (1, 0, 1, 0, []), (15, 9, 18, 0, []), (1, 2, 0, 0, []), (0, 0, 0, 1, []), (3, 0, 0, 0, []), (18, 0, 0, 0, []), (12, 24, 5, 0, []), (10, 2, 0, (-1), []), (11, 9, 0, 0, []), (1, 2, 0, 0, []), (0, 0, 0, 1, []), (12, 29, 3, 0, []), (0, 0, 0, 0, []), (33, 1, 0, 0, []), (1, 1, 0, 0, []), (0, 0, 0, 1, []), (3, 1, 0, 0, []), (2, 3, 0, 0, []), (1, 0, 1, 0, []), (15, 9, 18, 0, []), (1, 3, 0, 0, []), (18, 0, 0, 0, []), (1, 0, 1, 0, []), (15, 9, 18, 0, []), (1, 2, 0, 0, []), (18, 0, 0, 0, []), (12, 44, 3, 0, []), (10, 3, 0, (-1), []), (11, 33, 0, 0, []), (1, 0, 1, 0, []), (1, 2, 0, 0, []), (1, 3, 0, 0, []), (36, 206, 3, 0, [9]), (1, 2, 0, 0, []), (0, 0, 0, 1, []), (3, 0, 0, 0, []), (2, 4, 0, 0, []), (1, 4, 0, 0, []), (1, 1, 0, 0, []), (1, 2, 0, 0, []), (3, 0, 0, 0, []), (1, 4, 0, 0, []), (3, 1, 0, 0, []), (12, 69, 3, 0, []), (1, 0, 1, 0, []), (1, 4, 0, 0, []), (1, 1, 0, 0, []), (1, 2, 0, 0, []), (3, 0, 0, 0, []), (1, 4, 0, 0, []), (3, 1, 0, 0, []), (36, 206, 3, 0, [9]), (10, 4, 0, 1, []), (11, 52, 0, 0, []), (0, 0, 0, 1, []), (33, 1, 0, 0, [])]
def bp_205 : List Nat := [0, 1, 4, 5, 6, 7, 8, 9, 10, 11, 12, 15, 16, 19, 20, 21, 22, 25, 26, 27, 28, 29, 32, 35, 38, 39, 40, 43, 44, 45, 46, 47, 48, 49, 50, 53, 54, 55, 56, 59, 60, 61, 64, 67, 70, 71, 72, 73, 76, 77, 78, 79, 81, 83, 84, 85, 86, 88, 89, 92, 93, 95, 96, 97, 98, 100, 101, 104, 107, 110, 111]
/-- ByInitialsModel.swapsRow.(II)V -/
def bc_206 : List Ins := [(1, 0, 1, 0, []), (15, 9, 18, 0, []), (1, 1, 0, 0, []), (18, 0, 0, 0, []), (2, 3, 0, 0, []), (1, 0, 1, 0, []), (15, 9, 18, 0, []), (1, 1, 0, 0, []), (1, 0, 1, 0, []), (15, 9, 18, 0, []), (1, 2, 0, 0, []), (18, 0, 0, 0, []), (19, 0, 0, 0, []), (1, 0, 1, 0, []), (15, 9, 18, 0, []), (1, 2, 0, 0, []), (1, 3, 0, 0, []), (19, 0, 0, 0, []), (34, 0, 0, 0, [])]
def bp_206 : List Nat := [0, 1, 4, 5, 6, 7, 8, 11, 12, 13, 16, 17, 18, 19, 20, 23, 24, 25, 26]
/-- ByInitialsModel.seats.(I)I -/
def bc_207 : List Ins := [(1, 1, 0, 0, []), (5, 0, 0, 0, []), (9, 0, 0, (-2), []), (1, 0, 1, 0, []), (15, 9, 3, 0, []), (0, 0, 0, 0, []), (18, 0, 0, 0, []), (0, 0, 0, 1, []), (3, 1, 0, 0, []), (5, 0, 0, 0, []), (36, 140, 3, 1, []), (13, 14, 1, 0, []), (0, 0, 0, (-1), []), (33, 0, 0, 0, []), (0, 0, 0, 0, []), (2, 2, 0, 0, []), (1, 2, 0, 0, []), (0, 0, 0, 8, []), (12, 26, 3, 0, []), (1, 0, 1, 0, []), (15, 9, 18, 0, []), (1, 2, 0, 0, []), (1, 2, 0, 0, []), (19, 0, 0, 0, []), (10, 2, 0, 1, []), (11, 16, 0, 0, []), (0, 0, 0, 99, []), (2, 2, 0, 0, []), (0, 0, 0, 0, []), (2, 3, 0, 0, []), (0, 0, 0, 1, []), (2, 4, 0, 0, []), (1, 4, 0, 0, []), (13, 72, 0, 0, []), (1, 0, 1, 0, []), (36, 204, 1, 0, [9]), (2, 5, 0, 0, []), (1, 5, 0, 0, []), (1, 2, 0, 0, []), (12, 59, 3, 0, []), (1, 5, 0, 0, []), (2, 2, 0, 0, []), (0, 0, 0, 0, []), (2, 3, 0, 0, []), (0, 0, 0, 0, []), (2, 6, 0, 0, []), (1, 6, 0, 0, []), (0, 0, 0, 8, []), (12, 59, 3, 0, []), (1, 0, 1, 0, []), (15, 9, 17, 0, []), (1, 6, 0, 0, []), (1, 0, 1, 0, []), (15, 9, 18, 0, []), (1, 6, 0, 0, []), (18, 0, 0, 0, []), (19, 0, 0, 0, []), (10, 6, 0, 1, []), (11, 46, 0, 0, []), (1, 3, 0, 0, []), (1, 5, 0, 0, []), (1, 2, 0, 0, []), (12, 65, 1, 0, []), (0, 0, 0, 1, []), (11, 66, 0, 0, []), (0, 0, 0, 0, []), (3, 0, 0, 0, []), (2, 3, 0, 0, []), (1, 0, 1, 0, []), (36, 205, 1, 0, [9]), (2, 4, 0, 0, []), (11, 32, 0, 0, []), (1, 1, 0, 0, []), (0, 0, 0, (-1), []), (12, 77, 1, 0, []), (1, 2, 0, 0, []), (11, 86, 0, 0, []), (1, 1, 0, 0, []), (0, 0, 0, (-2), []), (12, 82, 1, 0, []), (1, 3, 0, 0, []), (11, 86, 0, 0, []), (1, 0, 1, 0, []), (15, 9, 17, 0, []), (1, 1, 0, 0, []), (18, 0, 0, 0, []), (33, 0, 0, 0, [])]
def bp_207 : List Nat := [0, 1, 2, 5, 6, 9, 10, 11, 12, 13, 14, 17, 20, 21, 22, 23, 24, 25, 27, 30, 31, 34, 35, 36, 37, 40, 43, 45, 46, 47, 48, 49, 51, 53, 56, 57, 60, 62, 64, 65, 68, 70, 71, 72, 73, 74, 76, 78, 80, 83, 84, 87, 89, 90, 93, 95, 96, 97, 100, 103, 104, 106, 107, 110, 111, 114, 115, 116, 117, 118, 121, 123, 126, 127, 128, 131, 132, 135, 136, 138, 141, 142, 145, 146, 149, 150, 151]
/-- ByInitialsModel.bestSwap.(I)I -/
def bc_208 : List Ins := [(1, 1, 0, 0, []), (5, 0, 0, 0, []), (9, 0, 0, 0, []), (9, 0, 0, 1, []), (36, 140, 3, 1, []), (13, 8, 1, 0, []), (0, 0, 0, (-1), []), (33, 0, 0, 0, []), (1, 0, 1, 0, []), (0, 0, 0, 0, []), (36, 164, 2, 0, [9]), (2, 2, 0, 0, []), (0, 0, 0, (-4), []), (2, 3, 0, 0, []), (0, 0, 0, 0, []), (2, 4, 0, 0, []), (0, 0, 0, 0, []), (2, 5, 0, 0, []), (1, 5, 0, 0, []), (1, 0, 1, 0, []), (15, 9, 3, 0, []), (0, 0, 0, 0, []), (18, 0, 0, 0, []), (12, 42, 3, 0, []), (1, 4, 0, 0, []), (1, 0, 1, 0, []), (0, 0, 0, 0, []), (1, 5, 0, 0, []), (36, 158, 3, 0, [9]), (13, 32, 3, 0, []), (0, 0, 0, 0, []), (11, 38, 0, 0, []), (0, 0, 0, 1, []), (1, 0, 1, 0, []), (0, 0, 0, 0, []), (1, 5, 0, 0, []), (36, 158, 3, 0, [9]), (3, 5, 0, 0, []), (3, 9, 0, 0, []), (2, 4, 0, 0, []), (10, 5, 0, 1, []), (11, 18, 0, 0, []), (0, 0, 0, 0, []), (2, 5, 0, 0, []), (1, 5, 0, 0, []), (0, 0, 0, 26, []), (12, 103, 3, 0, []), (1, 5, 0, 0, []), (0, 0, 0, 1, []), (3, 0, 0, 0, []), (2, 6, 0, 0, []), (1, 6, 0, 0, []), (0, 0, 0, 26, []), (12, 101, 3, 0, []), (1, 4, 0, 0, []), (1, 5, 0, 0, []), (3, 6, 0, 0, []), (0, 0, 0, 1, []), (3, 8, 0, 0, []), (0, 0, 0, 1, []), (12, 99, 1, 0, []), (1, 4, 0, 0, []), (1, 6, 0, 0, []), (3, 6, 0, 0, []), (0, 0, 0, 1, []), (3, 8, 0, 0, []), (0, 0, 0, 1, []), (12, 99, 1, 0, []), (1, 0, 1, 0, []), (0, 0, 0, 0, []), (0, 0, 0, 11, []), (36, 170, 3, 0, [9]), (1, 0, 1, 0, []), (0, 0, 0, 11, []), (1, 5, 0, 0, []), (1, 6, 0, 0, []), (36, 185, 4, 0, [9]), (1, 0, 1, 0, []), (0, 0, 0, 11, []), (36, 164, 2, 0, [9]), (2, 7, 0, 0, []), (1, 7, 0, 0, []), (1, 2, 0, 0, []), (12, 90, 5, 0, []), (0, 0, 0, 26, []), (1, 5, 0, 0, []), (3, 2, 0, 0, []), (1, 6, 0, 0, []), (3, 0, 0, 0, []), (11, 91, 0, 0, []), (1, 3, 0, 0, []), (2, 3, 0, 0, []), (1, 7, 0, 0, []), (1, 2, 0, 0, []), (12, 97, 5, 0, []), (1, 7, 0, 0, []), (11, 98, 0, 0, []), (1, 2, 0, 0, []), (2, 2, 0, 0, []), (10, 6, 0, 1, []), (11, 51, 0, 0, []), (10, 5, 0, 1, []), (11, 44, 0, 0, []), (1, 3, 0, 0, []), (13, 107, 2, 0, []), (1, 1, 0, 0, []), (13, 109, 1, 0, []), (1, 3, 0, 0, []), (11, 110, 0, 0, []), (1, 2, 0, 0, []), (33, 0, 0, 0, [])]
def bp_208 : List Nat := [0, 1, 2, 3, 4, 7, 10, 11, 12, 13, 14, 17, 18, 20, 21, 22, 24, 25, 27, 29, 30, 33, 34, 35, 38, 40, 41, 42, 44, 47, 50, 51, 54, 55, 56, 57, 59, 62, 63, 64, 66, 69, 72, 73, 75, 77, 79, 82, 84, 85, 86, 88, 90, 92, 95, 97, 99, 100, 101, 102, 103, 106, 108, 110, 111, 112, 113, 114, 117, 118, 119, 121, 124, 125, 127, 129, 131, 134, 135, 137, 140, 142, 144, 145, 148, 150, 152, 153, 155, 156, 159, 160, 161, 163, 164, 167, 169, 172, 173, 174, 177, 180, 183, 186, 187, 190, 191, 194, 195, 198, 199]
/-- ByInitialsModel.enter.(II)I -/
def bc_209 : List Ins := [(1, 1, 0, 0, []), (36, 157, 1, 1, []), (13, 9, 0, 0, []), (1, 2, 0, 0, []), (5, 0, 0, 0, []), (9, 0, 0, 0, []), (9, 0, 0, 9, []), (36, 140, 3, 1, []), (13, 11, 1, 0, []), (0, 0, 0, (-1), []), (33, 0, 0, 0, []), (1, 0, 1, 0, []), (14, 9, 14, 0, []), (0, 0, 0, 8, []), (12, 17, 1, 0, []), (0, 0, 0, (-3), []), (33, 0, 0, 0, []), (1, 0, 1, 0, []), (15, 9, 15, 0, []), (0, 0, 0, 2, []), (1, 0, 1, 0, []), (14, 9, 14, 0, []), (3, 2, 0, 0, []), (1, 1, 0, 0, []), (19, 0, 0, 0, []), (1, 0, 1, 0, []), (15, 9, 15, 0, []), (0, 0, 0, 2, []), (1, 0, 1, 0, []), (14, 9, 14, 0, []), (3, 2, 0, 0, []), (0, 0, 0, 1, []), (3, 0, 0, 0, []), (1, 2, 0, 0, []), (19, 0, 0, 0, []), (1, 0, 1, 0, []), (28, 0, 0, 0, []), (14, 9, 14, 0, []), (0, 0, 0, 1, []), (3, 0, 0, 0, []), (16, 9, 14, 0, []), (1, 0, 1, 0, []), (14, 9, 14, 0, []), (33, 0, 0, 0, [])]
def bp_209 : List Nat := [0, 1, 4, 7, 8, 9, 10, 13, 16, 19, 20, 21, 22, 25, 27, 30, 32, 33, 34, 37, 38, 39, 42, 43, 44, 45, 46, 49, 50, 51, 54, 55, 56, 57, 58, 59, 60, 61, 64, 65, 66, 69, 70, 73]
/-- ByInitialsModel.close.()I -/
def bc_210 : List Ins := [(1, 0, 1, 0, []), (14, 9, 14, 0, []), (2, 1, 0, 0, []), (1, 0, 1, 0, []), (0, 0, 0, 0, []), (16, 9, 14, 0, []), (1, 1, 0, 0, []), (33, 0, 0, 0, [])]
def bp_210 : List Nat := [0, 1, 4, 5, 6, 7, 10, 11]
/-- ByInitialsModel.ways.(I)I -/
def bc_211 : List Ins := [(1, 0, 1, 0, []), (0, 0, 0, 0, []), (36, 164, 2, 0, [9]), (2, 2, 0, 0, []), (1, 0, 1, 0, []), (1, 2, 0, 0, []), (1, 2, 0, 0, []), (3, 1, 0, 0, []), (16, 9, 20, 0, []), (0, 0, 0, 0, []), (2, 3, 0, 0, []), (0, 0, 0, 0, []), (2, 4, 0, 0, []), (0, 0, 0, 0, []), (2, 5, 0, 0, []), (1, 5, 0, 0, []), (0, 0, 0, 8, []), (12, 25, 3, 0, []), (1, 0, 1, 0, []), (15, 9, 18, 0, []), (1, 5, 0, 0, []), (0, 0, 0, (-1), []), (19, 0, 0, 0, []), (10, 5, 0, 1, []), (11, 15, 0, 0, []), (1, 4, 0, 0, []), (13, 62, 2, 0, []), (1, 4, 0, 0, []), (1, 0, 1, 0, []), (14, 9, 14, 0, []), (12, 49, 1, 0, []), (10, 3, 0, 1, []), (1, 0, 1, 0, []), (28, 0, 0, 0, []), (14, 9, 20, 0, []), (1, 1, 0, 0, []), (13, 44, 2, 0, []), (0, 0, 0, 1, []), (1, 0, 1, 0, []), (15, 9, 18, 0, []), (1, 1, 0, 0, []), (18, 0, 0, 0, []), (3, 5, 0, 0, []), (11, 45, 0, 0, []), (0, 0, 0, 0, []), (3, 9, 0, 0, []), (16, 9, 20, 0, []), (10, 4, 0, (-1), []), (11, 25, 0, 0, []), (1, 0, 1, 0, []), (1, 4, 0, 0, []), (36, 212, 2, 0, [9]), (13, 55, 0, 0, []), (10, 4, 0, 1, []), (11, 25, 0, 0, []), (1, 0, 1, 0, []), (15, 9, 18, 0, []), (1, 4, 0, 0, []), (0, 0, 0, (-1), []), (19, 0, 0, 0, []), (10, 4, 0, (-1), []), (11, 25, 0, 0, []), (1, 3, 0, 0, []), (33, 0, 0, 0, [])]
def bp_211 : List Nat := [0, 1, 2, 5, 6, 7, 8, 9, 10, 13, 14, 15, 16, 18, 19, 21, 23, 25, 28, 29, 32, 34, 35, 36, 39, 42, 44, 47, 49, 50, 53, 56, 59, 60, 61, 64, 65, 68, 69, 70, 73, 74, 75, 76, 79, 80, 81, 84, 87, 90, 91, 93, 96, 99, 102, 105, 106, 109, 111, 112, 113, 116, 119, 120]
/-- ByInitialsModel.isNext.(I)Z -/
def bc_212 : List Ins := [(1, 0, 1, 0, []), (15, 9, 18, 0, []), (1, 1, 0, 0, []), (18, 0, 0, 0, []), (0, 0, 0, 1, []), (3, 0, 0, 0, []), (2, 2, 0, 0, []), (1, 2, 0, 0, []), (1, 0, 1, 0, []), (15, 9, 3, 0, []), (0, 0, 0, 0, []), (18, 0, 0, 0, []), (12, 71, 3, 0, []), (1, 0, 1, 0, []), (0, 0, 0, 0, []), (1, 2, 0, 0, []), (36, 158, 3, 0, [9]), (1, 0, 1, 0, []), (15, 9, 15, 0, []), (0, 0, 0, 2, []), (1, 1, 0, 0, []), (3, 2, 0, 0, []), (18, 0, 0, 0, []), (12, 39, 1, 0, []), (1, 0, 1, 0, []), (15, 9, 16, 0, []), (1, 2, 0, 0, []), (18, 0, 0, 0, []), (1, 0, 1, 0, []), (15, 9, 15, 0, []), (0, 0, 0, 2, []), (1, 1, 0, 0, []), (3, 2, 0, 0, []), (0, 0, 0, 1, []), (3, 0, 0, 0, []), (18, 0, 0, 0, []), (12, 39, 1, 0, []), (0, 0, 0, 1, []), (11, 40, 0, 0, []), (0, 0, 0, 0, []), (2, 3, 0, 0, []), (0, 0, 0, 0, []), (2, 4, 0, 0, []), (1, 4, 0, 0, []), (1, 1, 0, 0, []), (12, 60, 3, 0, []), (1, 3, 0, 0, []), (13, 56, 0, 0, []), (1, 0, 1, 0, []), (15, 9, 18, 0, []), (1, 4, 0, 0, []), (18, 0, 0, 0, []), (1, 2, 0, 0, []), (12, 56, 0, 0, []), (0, 0, 0, 1, []), (11, 57, 0, 0, []), (0, 0, 0, 0, []), (2, 3, 0, 0, []), (10, 4, 0, 1, []), (11, 43, 0, 0, []), (1, 3, 0, 0, []), (13, 69, 0, 0, []), (1, 0, 1, 0, []), (15, 9, 18, 0, []), (1, 1, 0, 0, []), (1, 2, 0, 0, []), (19, 0, 0, 0, []), (0, 0, 0, 1, []), (33, 1, 0, 0, []), (10, 2, 0, 1, []), (11, 7, 0, 0, []), (0, 0, 0, 0, []), (33, 1, 0, 0, [])]
def bp_212 : List Nat := [0, 1, 4, 5, 6, 7, 8, 9, 10, 11, 14, 15, 16, 19, 20, 21, 22, 25, 26, 29, 30, 31, 32, 33, 36, 37, 40, 41, 42, 43, 46, 47, 48, 49, 50, 51, 52, 55, 56, 59, 60, 61, 62, 64, 66, 67, 70, 71, 74, 75, 78, 80, 81, 82, 85, 86, 89, 90, 91, 94, 97, 98, 101, 102, 105, 106, 107, 108, 109, 110, 113, 116, 117]
/-- ByInitialsModel.fits.()I -/
def bc_213 : List Ins := [(1, 0, 1, 0, []), (0, 0, 0, (-1), []), (36, 211, 2, 0, [9]), (33, 0, 0, 0, [])]
def bp_213 : List Nat := [0, 1, 2, 5]
/-- ByInitialsModel.sure.(I)I -/
def bc_214 : List Ins := [(1, 1, 0, 0, []), (5, 0, 0, 0, []), (9, 0, 0, 0, []), (1, 0, 1, 0, []), (14, 9, 14, 0, []), (0, 0, 0, 1, []), (3, 1, 0, 0, []), (5, 0, 0, 0, []), (36, 140, 3, 1, []), (13, 12, 1, 0, []), (0, 0, 0, (-1), []), (33, 0, 0, 0, []), (1, 0, 1, 0, []), (1, 1, 0, 0, []), (36, 211, 2, 0, [9]), (2, 2, 0, 0, []), (0, 0, 0, (-4), []), (2, 3, 0, 0, []), (0, 0, 0, 0, []), (2, 4, 0, 0, []), (1, 4, 0, 0, []), (0, 0, 0, 8, []), (12, 37, 3, 0, []), (1, 2, 0, 0, []), (13, 33, 5, 0, []), (1, 0, 1, 0, []), (14, 9, 20, 0, []), (0, 0, 0, 1, []), (1, 4, 0, 0, []), (3, 5, 0, 0, []), (12, 33, 1, 0, []), (1, 4, 0, 0, []), (11, 34, 0, 0, []), (1, 3, 0, 0, []), (2, 3, 0, 0, []), (10, 4, 0, 1, []), (11, 20, 0, 0, []), (1, 3, 0, 0, []), (33, 0, 0, 0, [])]
def bp_214 : List Nat := [0, 1, 2, 3, 4, 7, 8, 9, 10, 13, 16, 17, 18, 19, 20, 23, 24, 26, 27, 28, 30, 32, 34, 37, 38, 41, 42, 45, 46, 48, 49, 52, 54, 57, 58, 59, 62, 65, 66]
/-- ByInitialsModel.year.(II)I -/
def bc_215 : List Ins := [(1, 1, 0, 0, []), (5, 0, 0, 0, []), (9, 0, 0, 0, []), (9, 0, 0, 9999, []), (36, 140, 3, 1, []), (13, 12, 0, 0, []), (1, 2, 0, 0, []), (5, 0, 0, 0, []), (9, 0, 0, 0, []), (9, 0, 0, 1, []), (36, 140, 3, 1, []), (13, 14, 1, 0, []), (0, 0, 0, (-1), []), (33, 0, 0, 0, []), (1, 0, 1, 0, []), (0, 0, 0, 0, []), (0, 0, 0, 11, []), (36, 170, 3, 0, [9]), (0, 0, 0, 0, []), (2, 3, 0, 0, []), (0, 0, 0, 0, []), (2, 4, 0, 0, []), (1, 4, 0, 0, []), (1, 0, 1, 0, []), (15, 9, 3, 0, []), (0, 0, 0, 0, []), (18, 0, 0, 0, []), (12, 74, 3, 0, []), (9, 0, 0, 7919, []), (1, 1, 0, 0, []), (5, 0, 0, 0, []), (7, 1, 0, 0, []), (9, 0, 0, 6151, []), (1, 4, 0, 0, []), (5, 0, 0, 0, []), (7, 1, 0, 0, []), (7, 0, 0, 0, []), (9, 0, 0, 1, []), (7, 0, 0, 0, []), (2, 5, 2, 0, []), (1, 0, 1, 0, []), (0, 0, 0, 0, []), (1, 4, 0, 0, []), (36, 158, 3, 0, [9]), (13, 61, 2, 0, []), (1, 0, 1, 0, []), (15, 9, 9, 0, []), (0, 0, 0, 1878, []), (0, 0, 0, 6, []), (1, 4, 0, 0, []), (3, 2, 0, 0, []), (3, 0, 0, 0, []), (1, 5, 2, 0, []), (1, 5, 2, 0, []), (7, 1, 0, 0, []), (9, 0, 0, 65521, []), (7, 2, 0, 0, []), (9, 0, 0, 26, []), (7, 2, 0, 0, []), (6, 0, 0, 0, []), (19, 0, 0, 0, []), (1, 3, 0, 0, []), (1, 0, 1, 0, []), (0, 0, 0, 11, []), (1, 4, 0, 0, []), (36, 161, 3, 0, [9]), (13, 69, 0, 0, []), (0, 0, 0, 1, []), (11, 70, 0, 0, []), (0, 0, 0, 0, []), (3, 0, 0, 0, []), (2, 3, 0, 0, []), (10, 4, 0, 1, []), (11, 22, 0, 0, []), (1, 2, 0, 0, []), (0, 0, 0, 1, []), (12, 79, 1, 0, []), (1, 3, 0, 0, []), (11, 82, 0, 0, []), (1, 0, 1, 0, []), (0, 0, 0, 11, []), (36, 164, 2, 0, [9]), (33, 0, 0, 0, [])]
def bp_215 : List Nat := [0, 1, 2, 3, 6, 9, 12, 13, 14, 15, 16, 19, 22, 23, 24, 25, 26, 28, 31, 32, 33, 34, 36, 38, 39, 42, 43, 44, 47, 50, 51, 52, 53, 56, 58, 59, 60, 61, 62, 63, 65, 66, 67, 69, 72, 75, 76, 79, 82, 84, 86, 87, 88, 90, 92, 93, 96, 97, 100, 101, 102, 103, 104, 105, 107, 109, 112, 115, 116, 119, 120, 121, 122, 125, 128, 129, 130, 133, 134, 137, 138, 140, 143]
/-- ByInitialsModel.keep.()I -/
def bc_216 : List Ins := [(1, 0, 1, 0, []), (14, 9, 10, 0, []), (0, 0, 0, 2, []), (12, 6, 1, 0, []), (0, 0, 0, (-3), []), (33, 0, 0, 0, []), (1, 0, 1, 0, []), (28, 0, 0, 0, []), (14, 9, 10, 0, []), (0, 0, 0, 1, []), (3, 0, 0, 0, []), (16, 9, 10, 0, []), (1, 0, 1, 0, []), (0, 0, 0, 0, []), (1, 0, 1, 0, []), (14, 9, 10, 0, []), (36, 170, 3, 0, [9]), (1, 0, 1, 0, []), (14, 9, 10, 0, []), (33, 0, 0, 0, [])]
def bp_216 : List Nat := [0, 1, 4, 5, 8, 10, 11, 12, 13, 16, 17, 18, 21, 22, 23, 24, 27, 30, 31, 34]
/-- ByInitialsModel.back.()I -/
def bc_217 : List Ins := [(1, 0, 1, 0, []), (14, 9, 10, 0, []), (13, 5, 1, 0, []), (0, 0, 0, (-2), []), (33, 0, 0, 0, []), (1, 0, 1, 0, []), (1, 0, 1, 0, []), (14, 9, 10, 0, []), (0, 0, 0, 0, []), (36, 170, 3, 0, [9]), (1, 0, 1, 0, []), (28, 0, 0, 0, []), (14, 9, 10, 0, []), (0, 0, 0, 1, []), (3, 1, 0, 0, []), (16, 9, 10, 0, []), (1, 0, 1, 0, []), (0, 0, 0, 0, []), (16, 9, 11, 0, []), (1, 0, 1, 0, []), (14, 9, 10, 0, []), (33, 0, 0, 0, [])]
def bp_217 : List Nat := [0, 1, 4, 7, 9, 10, 11, 12, 15, 16, 19, 20, 21, 24, 25, 26, 29, 30, 31, 34, 35, 38]
/-- ByInitialsModel.count.(I)I -/
def bc_218 : List Ins := [(1, 1, 0, 0, []), (5, 0, 0, 0, []), (9, 0, 0, 0, []), (9, 0, 0, 10, []), (36, 140, 3, 1, []), (13, 8, 1, 0, []), (0, 0, 0, (-1), []), (33, 0, 0, 0, []), (1, 1, 0, 0, []), (0, 0, 0, 4, []), (12, 16, 3, 0, []), (1, 0, 1, 0, []), (15, 9, 3, 0, []), (1, 1, 0, 0, []), (18, 0, 0, 0, []), (33, 0, 0, 0, []), (1, 1, 0, 0, []), (31, 36, 0, 4, [18, 21, 24, 27, 30, 33]), (1, 0, 1, 0, []), (14, 9, 12, 0, []), (33, 0, 0, 0, []), (1, 0, 1, 0, []), (36, 180, 1, 0, [9]), (33, 0, 0, 0, []), (1, 0, 1, 0, []), (14, 9, 14, 0, []), (33, 0, 0, 0, []), (1, 0, 1, 0, []), (14, 9, 11, 0, []), (33, 0, 0, 0, []), (1, 0, 1, 0, []), (14, 9, 10, 0, []), (33, 0, 0, 0, []), (1, 0, 1, 0, []), (14, 9, 0, 0, []), (33, 0, 0, 0, []), (1, 0, 1, 0, []), (0, 0, 0, 0, []), (36, 164, 2, 0, [9]), (33, 0, 0, 0, [])]
def bp_218 : List Nat := [0, 1, 2, 3, 6, 9, 12, 13, 14, 15, 16, 19, 20, 23, 24, 25, 26, 27, 64, 65, 68, 69, 70, 73, 74, 75, 78, 79, 80, 83, 84, 85, 88, 89, 90, 93, 94, 95, 96, 99]
/-- java/lang/Integer.bitCount.(I)I -/
def bc_219 : List Ins := [(1, 0, 0, 0, []), (1, 0, 0, 0, []), (0, 0, 0, 1, []), (3, 7, 0, 0, []), (0, 0, 0, 1431655765, []), (3, 8, 0, 0, []), (3, 1, 0, 0, []), (2, 0, 0, 0, []), (1, 0, 0, 0, []), (0, 0, 0, 858993459, []), (3, 8, 0, 0, []), (1, 0, 0, 0, []), (0, 0, 0, 2, []), (3, 7, 0, 0, []), (0, 0, 0, 858993459, []), (3, 8, 0, 0, []), (3, 0, 0, 0, []), (2, 0, 0, 0, []), (1, 0, 0, 0, []), (1, 0, 0, 0, []), (0, 0, 0, 4, []), (3, 7, 0, 0, []), (3, 0, 0, 0, []), (0, 0, 0, 252645135, []), (3, 8, 0, 0, []), (2, 0, 0, 0, []), (1, 0, 0, 0, []), (1, 0, 0, 0, []), (0, 0, 0, 8, []), (3, 7, 0, 0, []), (3, 0, 0, 0, []), (2, 0, 0, 0, []), (1, 0, 0, 0, []), (1, 0, 0, 0, []), (0, 0, 0, 16, []), (3, 7, 0, 0, []), (3, 0, 0, 0, []), (2, 0, 0, 0, []), (1, 0, 0, 0, []), (0, 0, 0, 63, []), (3, 8, 0, 0, []), (33, 0, 0, 0, [])]
def bp_219 : List Nat := [0, 1, 2, 3, 4, 7, 8, 9, 10, 11, 14, 15, 16, 17, 18, 21, 22, 23, 24, 25, 26, 27, 28, 29, 32, 33, 34, 35, 36, 38, 39, 40, 41, 42, 43, 45, 46, 47, 48, 49, 51, 52]
/-- java/lang/String.length.()I -/
def bc_220 : List Ins := [(1, 0, 1, 0, []), (15, 10, 0, 0, []), (24, 0, 0, 0, []), (1, 0, 1, 0, []), (36, 222, 1, 0, [10]), (3, 6, 0, 0, []), (33, 0, 0, 0, [])]
def bp_220 : List Nat := [0, 1, 4, 5, 6, 9, 10]
/-- java/lang/String.charAt.(I)C -/
def bc_221 : List Ins := [(1, 0, 1, 0, []), (36, 223, 1, 0, [10]), (13, 8, 0, 0, []), (1, 0, 1, 0, []), (15, 10, 0, 0, []), (1, 1, 0, 0, []), (36, 225, 2, 1, []), (33, 2, 0, 0, []), (1, 0, 1, 0, []), (15, 10, 0, 0, []), (1, 1, 0, 0, []), (99, 0, 0, 0, []), (33, 2, 0, 0, [])]
def bp_221 : List Nat := [0, 1, 4, 7, 8, 11, 12, 15, 16, 17, 20, 21, 24]
/-- java/lang/String.coder.()B -/
def bc_222 : List Ins := [(41, 0, 0, 0, []), (13, 5, 0, 0, []), (1, 0, 1, 0, []), (14, 10, 1, 0, []), (11, 6, 0, 0, []), (0, 0, 0, 1, []), (33, 3, 0, 0, [])]
def bp_222 : List Nat := [0, 3, 6, 7, 10, 13, 14]
/-- java/lang/String.isLatin1.()Z -/
def bc_223 : List Ins := [(41, 0, 0, 0, []), (13, 7, 0, 0, []), (1, 0, 1, 0, []), (14, 10, 1, 0, []), (13, 7, 1, 0, []), (0, 0, 0, 1, []), (11, 8, 0, 0, []), (0, 0, 0, 0, []), (33, 1, 0, 0, [])]
def bp_223 : List Nat := [0, 3, 6, 7, 10, 13, 14, 17, 18]
/-- java/lang/String.checkIndex.(II)V -/
def bc_224 : List Ins := [(1, 0, 0, 0, []), (1, 1, 0, 0, []), (41, 1, 0, 0, []), (36, 226, 3, 1, []), (30, 0, 0, 0, []), (34, 0, 0, 0, [])]
def bp_224 : List Nat := [0, 1, 2, 5, 8, 9]
/-- java/lang/StringLatin1.charAt.([BI)C -/
def bc_225 : List Ins := [(1, 1, 0, 0, []), (1, 0, 1, 0, []), (24, 0, 0, 0, []), (36, 224, 2, 1, []), (1, 0, 1, 0, []), (1, 1, 0, 0, []), (20, 0, 0, 0, []), (0, 0, 0, 255, []), (3, 8, 0, 0, []), (4, 2, 0, 0, []), (33, 2, 0, 0, [])]
def bp_225 : List Nat := [0, 1, 2, 3, 6, 7, 8, 9, 12, 13, 14]
/-- jdk/internal/util/Preconditions.checkIndex.(IILjava/util/function/BiFunction;)I -/
def bc_226 : List Ins := [(1, 0, 0, 0, []), (13, 5, 2, 0, []), (1, 0, 0, 0, []), (1, 1, 0, 0, []), (12, 10, 2, 0, []), (1, 2, 1, 0, []), (1, 0, 0, 0, []), (1, 1, 0, 0, []), (99, 0, 0, 0, []), (99, 0, 0, 0, []), (1, 0, 0, 0, []), (33, 0, 0, 0, [])]
def bp_226 : List Nat := [0, 1, 4, 5, 6, 9, 10, 11, 12, 15, 16, 17]
/-- ByInitialsLaw.law.([I)Z -/
def bc_227 : List Ins := [(25, 8, 12, 0, []), (28, 0, 0, 0, []), (36, 93, 1, 2, []), (2, 1, 1, 0, []), (25, 9, 25, 0, []), (28, 0, 0, 0, []), (36, 139, 1, 2, []), (2, 2, 1, 0, []), (0, 0, 0, 0, []), (2, 3, 0, 0, []), (1, 3, 0, 0, []), (1, 0, 1, 0, []), (24, 0, 0, 0, []), (0, 0, 0, 6, []), (3, 1, 0, 0, []), (12, 740, 4, 0, []), (1, 0, 1, 0, []), (1, 3, 0, 0, []), (18, 0, 0, 0, []), (0, 0, 0, 63, []), (3, 8, 0, 0, []), (31, 738, 0, 0, [22, 39, 46, 53, 60, 87, 114, 141, 168, 185, 192, 209, 226, 253, 280, 317, 354, 381, 388, 395, 422, 439, 496, 513, 530, 557, 574, 581, 588, 605, 622, 649, 656, 663, 680, 707, 714, 721]), (1, 1, 1, 0, []), (1, 0, 1, 0, []), (1, 3, 0, 0, []), (0, 0, 0, 1, []), (3, 0, 0, 0, []), (18, 0, 0, 0, []), (36, 94, 2, 0, [8]), (1, 2, 1, 0, []), (1, 0, 1, 0, []), (1, 3, 0, 0, []), (0, 0, 0, 1, []), (3, 0, 0, 0, []), (18, 0, 0, 0, []), (36, 143, 2, 0, [9]), (12, 738, 0, 0, []), (0, 0, 0, 0, []), (33, 1, 0, 0, []), (1, 1, 1, 0, []), (36, 95, 1, 0, [8]), (1, 2, 1, 0, []), (36, 144, 1, 0, [9]), (12, 738, 0, 0, []), (0, 0, 0, 0, []), (33, 1, 0, 0, []), (1, 1, 1, 0, []), (36, 96, 1, 0, [8]), (1, 2, 1, 0, []), (36, 154, 1, 0, [9]), (12, 738, 0, 0, []), (0, 0, 0, 0, []), (33, 1, 0, 0, []), (1, 1, 1, 0, []), (36, 97, 1, 0, [8]), (1, 2, 1, 0, []), (36, 155, 1, 0, [9]), (12, 738, 0, 0, []), (0, 0, 0, 0, []), (33, 1, 0, 0, []), (1, 1, 1, 0, []), (1, 0, 1, 0, []), (1, 3, 0, 0, []), (0, 0, 0, 1, []), (3, 0, 0, 0, []), (18, 0, 0, 0, []), (1, 0, 1, 0, []), (1, 3, 0, 0, []), (0, 0, 0, 2, []), (3, 0, 0, 0, []), (18, 0, 0, 0, []), (36, 98, 3, 0, [8]), (1, 2, 1, 0, []), (1, 0, 1, 0, []), (1, 3, 0, 0, []), (0, 0, 0, 1, []), (3, 0, 0, 0, []), (18, 0, 0, 0, []), (1, 0, 1, 0, []), (1, 3, 0, 0, []), (0, 0, 0, 2, []), (3, 0, 0, 0, []), (18, 0, 0, 0, []), (36, 165, 3, 0, [9]), (12, 738, 0, 0, []), (0, 0, 0, 0, []), (33, 1, 0, 0, []), (1, 1, 1, 0, []), (1, 0, 1, 0, []), (1, 3, 0, 0, []), (0, 0, 0, 1, []), (3, 0, 0, 0, []), (18, 0, 0, 0, []), (1, 0, 1, 0, []), (1, 3, 0, 0, []), (0, 0, 0, 2, []), (3, 0, 0, 0, []), (18, 0, 0, 0, []), (36, 99, 3, 0, [8]), (1, 2, 1, 0, []), (1, 0, 1, 0, []), (1, 3, 0, 0, []), (0, 0, 0, 1, []), (3, 0, 0, 0, []), (18, 0, 0, 0, []), (1, 0, 1, 0, []), (1, 3, 0, 0, []), (0, 0, 0, 2, []), (3, 0, 0, 0, []), (18, 0, 0, 0, []), (36, 166, 3, 0, [9]), (12, 738, 0, 0, []), (0, 0, 0, 0, []), (33, 1, 0, 0, []), (1, 1, 1, 0, []), (1, 0, 1, 0, []), (1, 3, 0, 0, []), (0, 0, 0, 1, []), (3, 0, 0, 0, []), (18, 0, 0, 0, []), (1, 0, 1, 0, []), (1, 3, 0, 0, []), (0, 0, 0, 2, []), (3, 0, 0, 0, []), (18, 0, 0, 0, []), (36, 100, 3, 0, [8]), (1, 2, 1, 0, []), (1, 0, 1, 0, []), (1, 3, 0, 0, []), (0, 0, 0, 1, []), (3, 0, 0, 0, []), (18, 0, 0, 0, []), (1, 0, 1, 0, []), (1, 3, 0, 0, []), (0, 0, 0, 2, []), (3, 0, 0, 0, []), (18, 0, 0, 0, []), (36, 168, 3, 0, [9]), (12, 738, 0, 0, []), (0, 0, 0, 0, []), (33, 1, 0, 0, []), (1, 1, 1, 0, []), (1, 0, 1, 0, []), (1, 3, 0, 0, []), (0, 0, 0, 1, []), (3, 0, 0, 0, []), (18, 0, 0, 0, []), (1, 0, 1, 0, []), (1, 3, 0, 0, []), (0, 0, 0, 2, []), (3, 0, 0, 0, []), (18, 0, 0, 0, []), (36, 101, 3, 0, [8]), (1, 2, 1, 0, []), (1, 0, 1, 0, []), (1, 3, 0, 0, []), (0, 0, 0, 1, []), (3, 0, 0, 0, []), (18, 0, 0, 0, []), (1, 0, 1, 0, []), (1, 3, 0, 0, []), (0, 0, 0, 2, []), (3, 0, 0, 0, []), (18, 0, 0, 0, []), (36, 169, 3, 0, [9]), (12, 738, 0, 0, []), (0, 0, 0, 0, []), (33, 1, 0, 0, []), (1, 1, 1, 0, []), (1, 0, 1, 0, []), (1, 3, 0, 0, []), (0, 0, 0, 1, []), (3, 0, 0, 0, []), (18, 0, 0, 0, []), (36, 102, 2, 0, [8]), (1, 2, 1, 0, []), (1, 0, 1, 0, []), (1, 3, 0, 0, []), (0, 0, 0, 1, []), (3, 0, 0, 0, []), (18, 0, 0, 0, []), (36, 172, 2, 0, [9]), (12, 738, 0, 0, []), (0, 0, 0, 0, []), (33, 1, 0, 0, []), (1, 1, 1, 0, []), (36, 103, 1, 0, [8]), (1, 2, 1, 0, []), (36, 173, 1, 0, [9]), (12, 738, 0, 0, []), (0, 0, 0, 0, []), (33, 1, 0, 0, []), (1, 1, 1, 0, []), (1, 0, 1, 0, []), (1, 3, 0, 0, []), (0, 0, 0, 1, []), (3, 0, 0, 0, []), (18, 0, 0, 0, []), (36, 104, 2, 0, [8]), (1, 2, 1, 0, []), (1, 0, 1, 0, []), (1, 3, 0, 0, []), (0, 0, 0, 1, []), (3, 0, 0, 0, []), (18, 0, 0, 0, []), (36, 175, 2, 0, [9]), (12, 738, 0, 0, []), (0, 0, 0, 0, []), (33, 1, 0, 0, []), (1, 1, 1, 0, []), (1, 0, 1, 0, []), (1, 3, 0, 0, []), (0, 0, 0, 1, []), (3, 0, 0, 0, []), (18, 0, 0, 0, []), (36, 105, 2, 0, [8]), (1, 2, 1, 0, []), (1, 0, 1, 0, []), (1, 3, 0, 0, []), (0, 0, 0, 1, []), (3, 0, 0, 0, []), (18, 0, 0, 0, []), (36, 176, 2, 0, [9]), (12, 738, 0, 0, []), (0, 0, 0, 0, []), (33, 1, 0, 0, []), (1, 1, 1, 0, []), (1, 0, 1, 0, []), (1, 3, 0, 0, []), (0, 0, 0, 1, []), (3, 0, 0, 0, []), (18, 0, 0, 0, []), (1, 0, 1, 0, []), (1, 3, 0, 0, []), (0, 0, 0, 2, []), (3, 0, 0, 0, []), (18, 0, 0, 0, []), (36, 106, 3, 0, [8]), (1, 2, 1, 0, []), (1, 0, 1, 0, []), (1, 3, 0, 0, []), (0, 0, 0, 1, []), (3, 0, 0, 0, []), (18, 0, 0, 0, []), (1, 0, 1, 0, []), (1, 3, 0, 0, []), (0, 0, 0, 2, []), (3, 0, 0, 0, []), (18, 0, 0, 0, []), (36, 179, 3, 0, [9]), (12, 738, 0, 0, []), (0, 0, 0, 0, []), (33, 1, 0, 0, []), (1, 1, 1, 0, []), (1, 0, 1, 0, []), (1, 3, 0, 0, []), (0, 0, 0, 1, []), (3, 0, 0, 0, []), (18, 0, 0, 0, []), (1, 0, 1, 0, []), (1, 3, 0, 0, []), (0, 0, 0, 2, []), (3, 0, 0, 0, []), (18, 0, 0, 0, []), (36, 107, 3, 0, [8]), (1, 2, 1, 0, []), (1, 0, 1, 0, []), (1, 3, 0, 0, []), (0, 0, 0, 1, []), (3, 0, 0, 0, []), (18, 0, 0, 0, []), (1, 0, 1, 0, []), (1, 3, 0, 0, []), (0, 0, 0, 2, []), (3, 0, 0, 0, []), (18, 0, 0, 0, []), (36, 181, 3, 0, [9]), (12, 738, 0, 0, []), (0, 0, 0, 0, []), (33, 1, 0, 0, []), (1, 1, 1, 0, []), (1, 0, 1, 0, []), (1, 3, 0, 0, []), (0, 0, 0, 1, []), (3, 0, 0, 0, []), (18, 0, 0, 0, []), (1, 0, 1, 0, []), (1, 3, 0, 0, []), (0, 0, 0, 2, []), (3, 0, 0, 0, []), (18, 0, 0, 0, []), (1, 0, 1, 0, []), (1, 3, 0, 0, []), (0, 0, 0, 3, []), (3, 0, 0, 0, []), (18, 0, 0, 0, []), (36, 108, 4, 0, [8]), (1, 2, 1, 0, []), (1, 0, 1, 0, []), (1, 3, 0, 0, []), (0, 0, 0, 1, []), (3, 0, 0, 0, []), (18, 0, 0, 0, []), (1, 0, 1, 0, []), (1, 3, 0, 0, []), (0, 0, 0, 2, []), (3, 0, 0, 0, []), (18, 0, 0, 0, []), (1, 0, 1, 0, []), (1, 3, 0, 0, []), (0, 0, 0, 3, []), (3, 0, 0, 0, []), (18, 0, 0, 0, []), (36, 183, 4, 0, [9]), (12, 738, 0, 0, []), (0, 0, 0, 0, []), (33, 1, 0, 0, []), (1, 1, 1, 0, []), (1, 0, 1, 0, []), (1, 3, 0, 0, []), (0, 0, 0, 1, []), (3, 0, 0, 0, []), (18, 0, 0, 0, []), (1, 0, 1, 0, []), (1, 3, 0, 0, []), (0, 0, 0, 2, []), (3, 0, 0, 0, []), (18, 0, 0, 0, []), (1, 0, 1, 0, []), (1, 3, 0, 0, []), (0, 0, 0, 3, []), (3, 0, 0, 0, []), (18, 0, 0, 0, []), (36, 109, 4, 0, [8]), (1, 2, 1, 0, []), (1, 0, 1, 0, []), (1, 3, 0, 0, []), (0, 0, 0, 1, []), (3, 0, 0, 0, []), (18, 0, 0, 0, []), (1, 0, 1, 0, []), (1, 3, 0, 0, []), (0, 0, 0, 2, []), (3, 0, 0, 0, []), (18, 0, 0, 0, []), (1, 0, 1, 0, []), (1, 3, 0, 0, []), (0, 0, 0, 3, []), (3, 0, 0, 0, []), (18, 0, 0, 0, []), (36, 184, 4, 0, [9]), (12, 738, 0, 0, []), (0, 0, 0, 0, []), (33, 1, 0, 0, []), (1, 1, 1, 0, []), (1, 0, 1, 0, []), (1, 3, 0, 0, []), (0, 0, 0, 1, []), (3, 0, 0, 0, []), (18, 0, 0, 0, []), (1, 0, 1, 0, []), (1, 3, 0, 0, []), (0, 0, 0, 2, []), (3, 0, 0, 0, []), (18, 0, 0, 0, []), (36, 110, 3, 0, [8]), (1, 2, 1, 0, []), (1, 0, 1, 0, []), (1, 3, 0, 0, []), (0, 0, 0, 1, []), (3, 0, 0, 0, []), (18, 0, 0, 0, []), (1, 0, 1, 0, []), (1, 3, 0, 0, []), (0, 0, 0, 2, []), (3, 0, 0, 0, []), (18, 0, 0, 0, []), (36, 186, 3, 0, [9]), (12, 738, 0, 0, []), (0, 0, 0, 0, []), (33, 1, 0, 0, []), (1, 1, 1, 0, []), (36, 111, 1, 0, [8]), (1, 2, 1, 0, []), (36, 187, 1, 0, [9]), (12, 738, 0, 0, []), (0, 0, 0, 0, []), (33, 1, 0, 0, []), (1, 1, 1, 0, []), (36, 112, 1, 0, [8]), (1, 2, 1, 0, []), (36, 188, 1, 0, [9]), (12, 738, 0, 0, []), (0, 0, 0, 0, []), (33, 1, 0, 0, []), (1, 1, 1, 0, []), (1, 0, 1, 0, []), (1, 3, 0, 0, []), (0, 0, 0, 1, []), (3, 0, 0, 0, []), (18, 0, 0, 0, []), (1, 0, 1, 0, []), (1, 3, 0, 0, []), (0, 0, 0, 2, []), (3, 0, 0, 0, []), (18, 0, 0, 0, []), (36, 113, 3, 0, [8]), (1, 2, 1, 0, []), (1, 0, 1, 0, []), (1, 3, 0, 0, []), (0, 0, 0, 1, []), (3, 0, 0, 0, []), (18, 0, 0, 0, []), (1, 0, 1, 0, []), (1, 3, 0, 0, []), (0, 0, 0, 2, []), (3, 0, 0, 0, []), (18, 0, 0, 0, []), (36, 190, 3, 0, [9]), (12, 738, 0, 0, []), (0, 0, 0, 0, []), (33, 1, 0, 0, []), (1, 1, 1, 0, []), (1, 0, 1, 0, []), (1, 3, 0, 0, []), (0, 0, 0, 1, []), (3, 0, 0, 0, []), (18, 0, 0, 0, []), (36, 114, 2, 0, [8]), (1, 2, 1, 0, []), (1, 0, 1, 0, []), (1, 3, 0, 0, []), (0, 0, 0, 1, []), (3, 0, 0, 0, []), (18, 0, 0, 0, []), (36, 192, 2, 0, [9]), (12, 738, 0, 0, []), (0, 0, 0, 0, []), (33, 1, 0, 0, []), (1, 1, 1, 0, []), (1, 0, 1, 0, []), (1, 3, 0, 0, []), (0, 0, 0, 1, []), (3, 0, 0, 0, []), (18, 0, 0, 0, []), (1, 0, 1, 0, []), (1, 3, 0, 0, []), (0, 0, 0, 2, []), (3, 0, 0, 0, []), (18, 0, 0, 0, []), (1, 0, 1, 0, []), (1, 3, 0, 0, []), (0, 0, 0, 3, []), (3, 0, 0, 0, []), (18, 0, 0, 0, []), (1, 0, 1, 0, []), (1, 3, 0, 0, []), (0, 0, 0, 4, []), (3, 0, 0, 0, []), (18, 0, 0, 0, []), (1, 0, 1, 0, []), (1, 3, 0, 0, []), (0, 0, 0, 5, []), (3, 0, 0, 0, []), (18, 0, 0, 0, []), (36, 115, 6, 0, [8]), (1, 2, 1, 0, []), (1, 0, 1, 0, []), (1, 3, 0, 0, []), (0, 0, 0, 1, []), (3, 0, 0, 0, []), (18, 0, 0, 0, []), (1, 0, 1, 0, []), (1, 3, 0, 0, []), (0, 0, 0, 2, []), (3, 0, 0, 0, []), (18, 0, 0, 0, []), (1, 0, 1, 0, []), (1, 3, 0, 0, []), (0, 0, 0, 3, []), (3, 0, 0, 0, []), (18, 0, 0, 0, []), (1, 0, 1, 0, []), (1, 3, 0, 0, []), (0, 0, 0, 4, []), (3, 0, 0, 0, []), (18, 0, 0, 0, []), (1, 0, 1, 0, []), (1, 3, 0, 0, []), (0, 0, 0, 5, []), (3, 0, 0, 0, []), (18, 0, 0, 0, []), (36, 194, 6, 0, [9]), (12, 738, 0, 0, []), (0, 0, 0, 0, []), (33, 1, 0, 0, []), (1, 1, 1, 0, []), (1, 0, 1, 0, []), (1, 3, 0, 0, []), (0, 0, 0, 1, []), (3, 0, 0, 0, []), (18, 0, 0, 0, []), (36, 116, 2, 0, [8]), (1, 2, 1, 0, []), (1, 0, 1, 0, []), (1, 3, 0, 0, []), (0, 0, 0, 1, []), (3, 0, 0, 0, []), (18, 0, 0, 0, []), (36, 196, 2, 0, [9]), (12, 738, 0, 0, []), (0, 0, 0, 0, []), (33, 1, 0, 0, []), (1, 1, 1, 0, []), (1, 0, 1, 0, []), (1, 3, 0, 0, []), (0, 0, 0, 1, []), (3, 0, 0, 0, []), (18, 0, 0, 0, []), (36, 117, 2, 0, [8]), (1, 2, 1, 0, []), (1, 0, 1, 0, []), (1, 3, 0, 0, []), (0, 0, 0, 1, []), (3, 0, 0, 0, []), (18, 0, 0, 0, []), (36, 197, 2, 0, [9]), (12, 738, 0, 0, []), (0, 0, 0, 0, []), (33, 1, 0, 0, []), (1, 1, 1, 0, []), (1, 0, 1, 0, []), (1, 3, 0, 0, []), (0, 0, 0, 1, []), (3, 0, 0, 0, []), (18, 0, 0, 0, []), (1, 0, 1, 0, []), (1, 3, 0, 0, []), (0, 0, 0, 2, []), (3, 0, 0, 0, []), (18, 0, 0, 0, []), (36, 118, 3, 0, [8]), (1, 2, 1, 0, []), (1, 0, 1, 0, []), (1, 3, 0, 0, []), (0, 0, 0, 1, []), (3, 0, 0, 0, []), (18, 0, 0, 0, []), (1, 0, 1, 0, []), (1, 3, 0, 0, []), (0, 0, 0, 2, []), (3, 0, 0, 0, []), (18, 0, 0, 0, []), (36, 198, 3, 0, [9]), (12, 738, 0, 0, []), (0, 0, 0, 0, []), (33, 1, 0, 0, []), (1, 1, 1, 0, []), (1, 0, 1, 0, []), (1, 3, 0, 0, []), (0, 0, 0, 1, []), (3, 0, 0, 0, []), (18, 0, 0, 0, []), (36, 119, 2, 0, [8]), (1, 2, 1, 0, []), (1, 0, 1, 0, []), (1, 3, 0, 0, []), (0, 0, 0, 1, []), (3, 0, 0, 0, []), (18, 0, 0, 0, []), (36, 200, 2, 0, [9]), (12, 738, 0, 0, []), (0, 0, 0, 0, []), (33, 1, 0, 0, []), (1, 1, 1, 0, []), (36, 120, 1, 0, [8]), (1, 2, 1, 0, []), (36, 201, 1, 0, [9]), (12, 738, 0, 0, []), (0, 0, 0, 0, []), (33, 1, 0, 0, []), (1, 1, 1, 0, []), (36, 121, 1, 0, [8]), (1, 2, 1, 0, []), (36, 202, 1, 0, [9]), (12, 738, 0, 0, []), (0, 0, 0, 0, []), (33, 1, 0, 0, []), (1, 1, 1, 0, []), (1, 0, 1, 0, []), (1, 3, 0, 0, []), (0, 0, 0, 1, []), (3, 0, 0, 0, []), (18, 0, 0, 0, []), (36, 122, 2, 0, [8]), (1, 2, 1, 0, []), (1, 0, 1, 0, []), (1, 3, 0, 0, []), (0, 0, 0, 1, []), (3, 0, 0, 0, []), (18, 0, 0, 0, []), (36, 207, 2, 0, [9]), (12, 738, 0, 0, []), (0, 0, 0, 0, []), (33, 1, 0, 0, []), (1, 1, 1, 0, []), (1, 0, 1, 0, []), (1, 3, 0, 0, []), (0, 0, 0, 1, []), (3, 0, 0, 0, []), (18, 0, 0, 0, []), (36, 123, 2, 0, [8]), (1, 2, 1, 0, []), (1, 0, 1, 0, []), (1, 3, 0, 0, []), (0, 0, 0, 1, []), (3, 0, 0, 0, []), (18, 0, 0, 0, []), (36, 208, 2, 0, [9]), (12, 738, 0, 0, []), (0, 0, 0, 0, []), (33, 1, 0, 0, []), (1, 1, 1, 0, []), (1, 0, 1, 0, []), (1, 3, 0, 0, []), (0, 0, 0, 1, []), (3, 0, 0, 0, []), (18, 0, 0, 0, []), (1, 0, 1, 0, []), (1, 3, 0, 0, []), (0, 0, 0, 2, []), (3, 0, 0, 0, []), (18, 0, 0, 0, []), (36, 124, 3, 0, [8]), (1, 2, 1, 0, []), (1, 0, 1, 0, []), (1, 3, 0, 0, []), (0, 0, 0, 1, []), (3, 0, 0, 0, []), (18, 0, 0, 0, []), (1, 0, 1, 0, []), (1, 3, 0, 0, []), (0, 0, 0, 2, []), (3, 0, 0, 0, []), (18, 0, 0, 0, []), (36, 209, 3, 0, [9]), (12, 738, 0, 0, []), (0, 0, 0, 0, []), (33, 1, 0, 0, []), (1, 1, 1, 0, []), (36, 125, 1, 0, [8]), (1, 2, 1, 0, []), (36, 210, 1, 0, [9]), (12, 738, 0, 0, []), (0, 0, 0, 0, []), (33, 1, 0, 0, []), (1, 1, 1, 0, []), (36, 126, 1, 0, [8]), (1, 2, 1, 0, []), (36, 213, 1, 0, [9]), (12, 738, 0, 0, []), (0, 0, 0, 0, []), (33, 1, 0, 0, []), (1, 1, 1, 0, []), (1, 0, 1, 0, []), (1, 3, 0, 0, []), (0, 0, 0, 1, []), (3, 0, 0, 0, []), (18, 0, 0, 0, []), (36, 127, 2, 0, [8]), (1, 2, 1, 0, []), (1, 0, 1, 0, []), (1, 3, 0, 0, []), (0, 0, 0, 1, []), (3, 0, 0, 0, []), (18, 0, 0, 0, []), (36, 214, 2, 0, [9]), (12, 738, 0, 0, []), (0, 0, 0, 0, []), (33, 1, 0, 0, []), (1, 1, 1, 0, []), (1, 0, 1, 0, []), (1, 3, 0, 0, []), (0, 0, 0, 1, []), (3, 0, 0, 0, []), (18, 0, 0, 0, []), (1, 0, 1, 0, []), (1, 3, 0, 0, []), (0, 0, 0, 2, []), (3, 0, 0, 0, []), (18, 0, 0, 0, []), (36, 128, 3, 0, [8]), (1, 2, 1, 0, []), (1, 0, 1, 0, []), (1, 3, 0, 0, []), (0, 0, 0, 1, []), (3, 0, 0, 0, []), (18, 0, 0, 0, []), (1, 0, 1, 0, []), (1, 3, 0, 0, []), (0, 0, 0, 2, []), (3, 0, 0, 0, []), (18, 0, 0, 0, []), (36, 215, 3, 0, [9]), (12, 738, 0, 0, []), (0, 0, 0, 0, []), (33, 1, 0, 0, []), (1, 1, 1, 0, []), (36, 129, 1, 0, [8]), (1, 2, 1, 0, []), (36, 216, 1, 0, [9]), (12, 738, 0, 0, []), (0, 0, 0, 0, []), (33, 1, 0, 0, []), (1, 1, 1, 0, []), (36, 130, 1, 0, [8]), (1, 2, 1, 0, []), (36, 217, 1, 0, [9]), (12, 738, 0, 0, []), (0, 0, 0, 0, []), (33, 1, 0, 0, []), (1, 1, 1, 0, []), (1, 0, 1, 0, []), (1, 3, 0, 0, []), (0, 0, 0, 1, []), (3, 0, 0, 0, []), (18, 0, 0, 0, []), (36, 131, 2, 0, [8]), (1, 2, 1, 0, []), (1, 0, 1, 0, []), (1, 3, 0, 0, []), (0, 0, 0, 1, []), (3, 0, 0, 0, []), (18, 0, 0, 0, []), (36, 218, 2, 0, [9]), (12, 738, 0, 0, []), (0, 0, 0, 0, []), (33, 1, 0, 0, []), (10, 3, 0, 6, []), (11, 10, 0, 0, []), (0, 0, 0, 1, []), (33, 1, 0, 0, [])]
def bp_227 : List Nat := [0, 3, 4, 7, 8, 11, 12, 15, 16, 17, 18, 19, 20, 21, 23, 24, 27, 28, 29, 30, 32, 33, 200, 201, 202, 203, 204, 205, 206, 209, 210, 211, 212, 213, 214, 215, 218, 221, 222, 223, 224, 227, 228, 231, 234, 235, 236, 237, 240, 241, 244, 247, 248, 249, 250, 253, 254, 257, 260, 261, 262, 263, 264, 265, 266, 267, 268, 269, 270, 271, 272, 273, 276, 277, 278, 279, 280, 281, 282, 283, 284, 285, 286, 287, 290, 293, 294, 295, 296, 297, 298, 299, 300, 301, 302, 303, 304, 305, 306, 309, 310, 311, 312, 313, 314, 315, 316, 317, 318, 319, 320, 323, 326, 327, 328, 329, 330, 331, 332, 333, 334, 335, 336, 337, 338, 339, 342, 343, 344, 345, 346, 347, 348, 349, 350, 351, 352, 353, 356, 359, 360, 361, 362, 363, 364, 365, 366, 367, 368, 369, 370, 371, 372, 375, 376, 377, 378, 379, 380, 381, 382, 383, 384, 385, 386, 389, 392, 393, 394, 395, 396, 397, 398, 399, 400, 403, 404, 405, 406, 407, 408, 409, 412, 415, 416, 417, 418, 421, 422, 425, 428, 429, 430, 431, 432, 433, 434, 435, 436, 439, 440, 441, 442, 443, 444, 445, 448, 451, 452, 453, 454, 455, 456, 457, 458, 459, 462, 463, 464, 465, 466, 467, 468, 471, 474, 475, 476, 477, 478, 479, 480, 481, 482, 483, 484, 485, 486, 487, 490, 491, 492, 493, 494, 495, 496, 497, 498, 499, 500, 501, 504, 507, 508, 509, 510, 511, 512, 513, 514, 515, 516, 517, 518, 519, 520, 523, 524, 525, 526, 527, 528, 529, 530, 531, 532, 533, 534, 537, 540, 541, 542, 543, 544, 545, 546, 547, 548, 549, 550, 551, 552, 553, 554, 555, 556, 557, 558, 561, 562, 563, 564, 565, 566, 567, 568, 569, 570, 571, 572, 573, 574, 575, 576, 577, 580, 583, 584, 585, 586, 587, 588, 589, 590, 591, 592, 593, 594, 595, 596, 597, 598, 599, 600, 601, 604, 605, 606, 607, 608, 609, 610, 611, 612, 613, 614, 615, 616, 617, 618, 619, 620, 623, 626, 627, 628, 629, 630, 631, 632, 633, 634, 635, 636, 637, 638, 639, 642, 643, 644, 645, 646, 647, 648, 649, 650, 651, 652, 653, 656, 659, 660, 661, 662, 665, 666, 669, 672, 673, 674, 675, 678, 679, 682, 685, 686, 687, 688, 689, 690, 691, 692, 693, 694, 695, 696, 697, 698, 701, 702, 703, 704, 705, 706, 707, 708, 709, 710, 711, 712, 715, 718, 719, 720, 721, 722, 723, 724, 725, 726, 729, 730, 731, 732, 733, 734, 735, 738, 741, 742, 743, 744, 745, 746, 747, 748, 749, 750, 751, 752, 753, 754, 755, 756, 757, 758, 759, 760, 761, 762, 763, 764, 765, 766, 767, 768, 769, 772, 773, 774, 775, 776, 777, 778, 779, 780, 781, 782, 783, 784, 785, 786, 787, 788, 789, 790, 791, 792, 793, 794, 795, 796, 797, 798, 801, 804, 805, 806, 807, 808, 809, 810, 811, 812, 815, 816, 817, 818, 819, 820, 821, 824, 827, 828, 829, 830, 831, 832, 833, 834, 835, 838, 839, 840, 841, 842, 843, 844, 847, 850, 851, 852, 853, 854, 855, 856, 857, 858, 859, 860, 861, 862, 863, 866, 867, 868, 869, 870, 871, 872, 873, 874, 875, 876, 877, 880, 883, 884, 885, 886, 887, 888, 889, 890, 891, 894, 895, 896, 897, 898, 899, 900, 903, 906, 907, 908, 909, 912, 913, 916, 919, 920, 921, 922, 925, 926, 929, 932, 933, 934, 935, 936, 937, 938, 939, 940, 943, 944, 945, 946, 947, 948, 949, 952, 955, 956, 957, 958, 959, 960, 961, 962, 963, 966, 967, 968, 969, 970, 971, 972, 975, 978, 979, 980, 981, 982, 983, 984, 985, 986, 987, 988, 989, 990, 991, 994, 995, 996, 997, 998, 999, 1000, 1001, 1002, 1003, 1004, 1005, 1008, 1011, 1012, 1013, 1014, 1017, 1018, 1021, 1024, 1025, 1026, 1027, 1030, 1031, 1034, 1037, 1038, 1039, 1040, 1041, 1042, 1043, 1044, 1045, 1048, 1049, 1050, 1051, 1052, 1053, 1054, 1057, 1060, 1061, 1062, 1063, 1064, 1065, 1066, 1067, 1068, 1069, 1070, 1071, 1072, 1073, 1076, 1077, 1078, 1079, 1080, 1081, 1082, 1083, 1084, 1085, 1086, 1087, 1090, 1093, 1094, 1095, 1096, 1099, 1100, 1103, 1106, 1107, 1108, 1109, 1112, 1113, 1116, 1119, 1120, 1121, 1122, 1123, 1124, 1125, 1126, 1127, 1130, 1131, 1132, 1133, 1134, 1135, 1136, 1139, 1142, 1143, 1144, 1147, 1150, 1151]
def bi_tab : List (List Ins × Nat) := [(bc_0, 1), (bc_1, 5), (bc_2, 5), (bc_3, 7), (bc_4, 4), (bc_5, 1), (bc_6, 3), (bc_7, 4), (bc_8, 5), (bc_9, 4), (bc_10, 4), (bc_11, 4), (bc_12, 1), (bc_13, 2), (bc_14, 2), (bc_15, 4), (bc_16, 4), (bc_17, 5), (bc_18, 2), (bc_19, 3), (bc_20, 4), (bc_21, 3), (bc_22, 4), (bc_23, 7), (bc_24, 4), (bc_25, 1), (bc_26, 5), (bc_27, 6), (bc_28, 2), (bc_29, 7), (bc_30, 5), (bc_31, 3), (bc_32, 1), (bc_33, 2), (bc_34, 2), (bc_35, 3), (bc_36, 1), (bc_37, 2), (bc_38, 4), (bc_39, 3), (bc_40, 5), (bc_41, 3), (bc_42, 3), (bc_43, 3), (bc_44, 3), (bc_45, 3), (bc_46, 3), (bc_47, 1), (bc_48, 2), (bc_49, 2), (bc_50, 4), (bc_51, 3), (bc_52, 1), (bc_53, 1), (bc_54, 5), (bc_55, 3), (bc_56, 2), (bc_57, 4), (bc_58, 7), (bc_59, 1), (bc_60, 1), (bc_61, 5), (bc_62, 4), (bc_63, 1), (bc_64, 2), (bc_65, 2), (bc_66, 5), (bc_67, 5), (bc_68, 6), (bc_69, 3), (bc_70, 4), (bc_71, 3), (bc_72, 3), (bc_73, 2), (bc_74, 2), (bc_75, 3), (bc_76, 2), (bc_77, 3), (bc_78, 3), (bc_79, 5), (bc_80, 2), (bc_81, 2), (bc_82, 3), (bc_83, 4), (bc_84, 4), (bc_85, 3), (bc_86, 3), (bc_87, 4), (bc_88, 3), (bc_89, 4), (bc_90, 4), (bc_91, 3), (bc_92, 5), (bc_93, 2), (bc_94, 2), (bc_95, 2), (bc_96, 1), (bc_97, 1), (bc_98, 3), (bc_99, 3), (bc_100, 3), (bc_101, 3), (bc_102, 2), (bc_103, 2), (bc_104, 2), (bc_105, 3), (bc_106, 3), (bc_107, 3), (bc_108, 5), (bc_109, 5), (bc_110, 3), (bc_111, 3), (bc_112, 1), (bc_113, 4), (bc_114, 3), (bc_115, 7), (bc_116, 3), (bc_117, 6), (bc_118, 3), (bc_119, 2), (bc_120, 1), (bc_121, 1), (bc_122, 2), (bc_123, 8), (bc_124, 3), (bc_125, 2), (bc_126, 1), (bc_127, 2), (bc_128, 3), (bc_129, 1), (bc_130, 1), (bc_131, 2), (bc_132, 2), (bc_133, 3), (bc_134, 1), (bc_135, 2), (bc_136, 1), (bc_137, 5), (bc_138, 10), (bc_139, 1), (bc_140, 6), (bc_141, 7), (bc_142, 4), (bc_143, 2), (bc_144, 2), (bc_145, 3), (bc_146, 1), (bc_147, 2), (bc_148, 3), (bc_149, 3), (bc_150, 3), (bc_151, 4), (bc_152, 2), (bc_153, 3), (bc_154, 2), (bc_155, 1), (bc_156, 2), (bc_157, 1), (bc_158, 3), (bc_159, 7), (bc_160, 2), (bc_161, 3), (bc_162, 9), (bc_163, 5), (bc_164, 6), (bc_165, 3), (bc_166, 3), (bc_167, 4), (bc_168, 3), (bc_169, 3), (bc_170, 4), (bc_171, 2), (bc_172, 2), (bc_173, 2), (bc_174, 5), (bc_175, 2), (bc_176, 4), (bc_177, 6), (bc_178, 3), (bc_179, 3), (bc_180, 3), (bc_181, 3), (bc_182, 3), (bc_183, 7), (bc_184, 4), (bc_185, 5), (bc_186, 3), (bc_187, 3), (bc_188, 1), (bc_189, 7), (bc_190, 4), (bc_191, 4), (bc_192, 3), (bc_193, 8), (bc_194, 11), (bc_195, 8), (bc_196, 9), (bc_197, 3), (bc_198, 3), (bc_199, 4), (bc_200, 2), (bc_201, 6), (bc_202, 7), (bc_203, 5), (bc_204, 4), (bc_205, 5), (bc_206, 4), (bc_207, 7), (bc_208, 8), (bc_209, 3), (bc_210, 2), (bc_211, 6), (bc_212, 5), (bc_213, 1), (bc_214, 5), (bc_215, 7), (bc_216, 1), (bc_217, 1), (bc_218, 2), (bc_219, 1), (bc_220, 1), (bc_221, 2), (bc_222, 1), (bc_223, 1), (bc_224, 2), (bc_225, 2), (bc_226, 3), (bc_227, 4)]
def bi_pcs : List (List Nat) := [bp_0, bp_1, bp_2, bp_3, bp_4, bp_5, bp_6, bp_7, bp_8, bp_9, bp_10, bp_11, bp_12, bp_13, bp_14, bp_15, bp_16, bp_17, bp_18, bp_19, bp_20, bp_21, bp_22, bp_23, bp_24, bp_25, bp_26, bp_27, bp_28, bp_29, bp_30, bp_31, bp_32, bp_33, bp_34, bp_35, bp_36, bp_37, bp_38, bp_39, bp_40, bp_41, bp_42, bp_43, bp_44, bp_45, bp_46, bp_47, bp_48, bp_49, bp_50, bp_51, bp_52, bp_53, bp_54, bp_55, bp_56, bp_57, bp_58, bp_59, bp_60, bp_61, bp_62, bp_63, bp_64, bp_65, bp_66, bp_67, bp_68, bp_69, bp_70, bp_71, bp_72, bp_73, bp_74, bp_75, bp_76, bp_77, bp_78, bp_79, bp_80, bp_81, bp_82, bp_83, bp_84, bp_85, bp_86, bp_87, bp_88, bp_89, bp_90, bp_91, bp_92, bp_93, bp_94, bp_95, bp_96, bp_97, bp_98, bp_99, bp_100, bp_101, bp_102, bp_103, bp_104, bp_105, bp_106, bp_107, bp_108, bp_109, bp_110, bp_111, bp_112, bp_113, bp_114, bp_115, bp_116, bp_117, bp_118, bp_119, bp_120, bp_121, bp_122, bp_123, bp_124, bp_125, bp_126, bp_127, bp_128, bp_129, bp_130, bp_131, bp_132, bp_133, bp_134, bp_135, bp_136, bp_137, bp_138, bp_139, bp_140, bp_141, bp_142, bp_143, bp_144, bp_145, bp_146, bp_147, bp_148, bp_149, bp_150, bp_151, bp_152, bp_153, bp_154, bp_155, bp_156, bp_157, bp_158, bp_159, bp_160, bp_161, bp_162, bp_163, bp_164, bp_165, bp_166, bp_167, bp_168, bp_169, bp_170, bp_171, bp_172, bp_173, bp_174, bp_175, bp_176, bp_177, bp_178, bp_179, bp_180, bp_181, bp_182, bp_183, bp_184, bp_185, bp_186, bp_187, bp_188, bp_189, bp_190, bp_191, bp_192, bp_193, bp_194, bp_195, bp_196, bp_197, bp_198, bp_199, bp_200, bp_201, bp_202, bp_203, bp_204, bp_205, bp_206, bp_207, bp_208, bp_209, bp_210, bp_211, bp_212, bp_213, bp_214, bp_215, bp_216, bp_217, bp_218, bp_219, bp_220, bp_221, bp_222, bp_223, bp_224, bp_225, bp_226, bp_227]
def bi_inf : List (String × MethodName × ByteArray × Option FieldType × Nat × Nat) := [("ByInitials$Debts", ⟨"ByInitials$Debts", "<init>", "()V"⟩, prog_2_method_1_code, none, 1, 20),
  ("ByInitials$Debts", ⟨"ByInitials$Debts", "longestChain", "(LByInitials$Town;)I"⟩, prog_2_method_2_code, (some .int), 2, 46),
  ("ByInitials$Debts", ⟨"ByInitials$Debts", "stretch", "(LByInitials$Town;)Z"⟩, prog_2_method_3_code, (some .boolean), 1, 22),
  ("ByInitials$Debts", ⟨"ByInitials$Debts", "fewestPayments", "(LByInitials$Town;)I"⟩, prog_2_method_4_code, (some .int), 2, 45),
  ("ByInitials$Debts", ⟨"ByInitials$Debts", "mostGroups", "(I)I"⟩, prog_2_method_5_code, (some .int), 1, 21),
  ("ByInitials$Ledger", ⟨"ByInitials$Ledger", "<init>", "()V"⟩, prog_3_method_1_code, none, 1, 20),
  ("ByInitials$Ledger", ⟨"ByInitials$Ledger", "add", "(II)Z"⟩, prog_3_method_2_code, (some .boolean), 0, 0),
  ("ByInitials$Ledger", ⟨"ByInitials$Ledger", "canBe", "(IILByInitials$Line;)Z"⟩, prog_3_method_3_code, (some .boolean), 3, 68),
  ("ByInitials$Ledger", ⟨"ByInitials$Ledger", "candidates", "(ILByInitials$Line;)I"⟩, prog_3_method_4_code, (some .int), 4, 91),
  ("ByInitials$Ledger", ⟨"ByInitials$Ledger", "alikeAbove", "(I)I"⟩, prog_3_method_5_code, (some .int), 0, 0),
  ("ByInitials$Ledger", ⟨"ByInitials$Ledger", "countWays", "(LByInitials$Line;)I"⟩, prog_3_method_6_code, (some .int), 5, 115),
  ("ByInitials$Ledger", ⟨"ByInitials$Ledger", "onlyPerson", "(ILByInitials$Line;)I"⟩, prog_3_method_7_code, (some .int), 5, 115),
  ("ByInitials$Line", ⟨"ByInitials$Line", "<init>", "()V"⟩, prog_4_method_1_code, none, 2, 40),
  ("ByInitials$Line", ⟨"ByInitials$Line", "load", "(LByInitials$Town;)V"⟩, prog_4_method_2_code, none, 3, 67),
  ("ByInitials$Line", ⟨"ByInitials$Line", "sort", "()V"⟩, prog_4_method_3_code, none, 2, 46),
  ("ByInitials$Line", ⟨"ByInitials$Line", "isAhead", "(III)Z"⟩, prog_4_method_4_code, (some .boolean), 0, 0),
  ("ByInitials$Line", ⟨"ByInitials$Line", "placeOf", "(I)I"⟩, prog_4_method_5_code, (some .int), 1, 23),
  ("ByInitials$Line", ⟨"ByInitials$Line", "getsBy", "(II)I"⟩, prog_4_method_6_code, (some .int), 1, 23),
  ("ByInitials$Line", ⟨"ByInitials$Line", "getsNow", "(I)I"⟩, prog_4_method_7_code, (some .int), 2, 47),
  ("ByInitials$Line", ⟨"ByInitials$Line", "countFull", "()I"⟩, prog_4_method_8_code, (some .int), 3, 68),
  ("ByInitials$Line", ⟨"ByInitials$Line", "countFullIfExchanged", "(II)I"⟩, prog_4_method_9_code, (some .int), 4, 90),
  ("ByInitials$Line", ⟨"ByInitials$Line", "keyWithFirst", "(II)I"⟩, prog_4_method_10_code, (some .int), 1, 21),
  ("ByInitials$Line", ⟨"ByInitials$Line", "gainBy", "(II)I"⟩, prog_4_method_11_code, (some .int), 2, 47),
  ("ByInitials$Line", ⟨"ByInitials$Line", "bestFirst", "(I)I"⟩, prog_4_method_12_code, (some .int), 3, 70),
  ("ByInitials$Line", ⟨"ByInitials$Line", "allChange", "()Z"⟩, prog_4_method_13_code, (some .boolean), 4, 96),
  ("ByInitials$Matches", ⟨"ByInitials$Matches", "<init>", "()V"⟩, prog_5_method_1_code, none, 1, 20),
  ("ByInitials$Matches", ⟨"ByInitials$Matches", "most", "(LByInitials$Town;I)I"⟩, prog_5_method_2_code, (some .int), 4, 89),
  ("ByInitials$Matches", ⟨"ByInitials$Matches", "bestWithin", "(I)I"⟩, prog_5_method_3_code, (some .int), 2, 42),
  ("ByInitials$Matches", ⟨"ByInitials$Matches", "lowest", "(I)I"⟩, prog_5_method_4_code, (some .int), 1, 21),
  ("ByInitials$Matches", ⟨"ByInitials$Matches", "partnerOf", "(II)I"⟩, prog_5_method_5_code, (some .int), 2, 45),
  ("ByInitials$Matches", ⟨"ByInitials$Matches", "choiceOf", "(II)I"⟩, prog_5_method_6_code, (some .int), 1, 21),
  ("ByInitials$Memory", ⟨"ByInitials$Memory", "<init>", "(I)V"⟩, prog_6_method_1_code, none, 2, 40),
  ("ByInitials$Memory", ⟨"ByInitials$Memory", "isFull", "()Z"⟩, prog_6_method_2_code, (some .boolean), 0, 0),
  ("ByInitials$Memory", ⟨"ByInitials$Memory", "push", "(LByInitials$Town;)V"⟩, prog_6_method_3_code, none, 2, 53),
  ("ByInitials$Memory", ⟨"ByInitials$Memory", "popInto", "(LByInitials$Town;)Z"⟩, prog_6_method_4_code, (some .boolean), 2, 53),
  ("ByInitials$Memory", ⟨"ByInitials$Memory", "dropOldest", "()V"⟩, prog_6_method_5_code, none, 0, 0),
  ("ByInitials$Page", ⟨"ByInitials$Page", "<init>", "()V"⟩, prog_7_method_1_code, none, 1, 20),
  ("ByInitials$Page", ⟨"ByInitials$Page", "add", "(I)Z"⟩, prog_7_method_2_code, (some .boolean), 0, 0),
  ("ByInitials$Page", ⟨"ByInitials$Page", "readInto", "(LByInitials$Town;)I"⟩, prog_7_method_3_code, (some .int), 5, 108),
  ("ByInitials$Page", ⟨"ByInitials$Page", "readItem", "(LByInitials$Town;)Z"⟩, prog_7_method_4_code, (some .boolean), 4, 86),
  ("ByInitials$Page", ⟨"ByInitials$Page", "readPerson", "(LByInitials$Town;)Z"⟩, prog_7_method_5_code, (some .boolean), 3, 62),
  ("ByInitials$Page", ⟨"ByInitials$Page", "readGoods", "(LByInitials$Town;)Z"⟩, prog_7_method_6_code, (some .boolean), 3, 62),
  ("ByInitials$Page", ⟨"ByInitials$Page", "readReach", "(LByInitials$Town;)Z"⟩, prog_7_method_7_code, (some .boolean), 3, 62),
  ("ByInitials$Page", ⟨"ByInitials$Page", "readCost", "(LByInitials$Town;)Z"⟩, prog_7_method_8_code, (some .boolean), 3, 62),
  ("ByInitials$Page", ⟨"ByInitials$Page", "readOrder", "(LByInitials$Town;)Z"⟩, prog_7_method_9_code, (some .boolean), 2, 47),
  ("ByInitials$Page", ⟨"ByInitials$Page", "readVowels", "(LByInitials$Town;)Z"⟩, prog_7_method_10_code, (some .boolean), 2, 41),
  ("ByInitials$Page", ⟨"ByInitials$Page", "readQuarrel", "(LByInitials$Town;)Z"⟩, prog_7_method_11_code, (some .boolean), 2, 41),
  ("ByInitials$Page", ⟨"ByInitials$Page", "sign", "()I"⟩, prog_7_method_12_code, (some .int), 0, 0),
  ("ByInitials$Page", ⟨"ByInitials$Page", "passes", "(I)Z"⟩, prog_7_method_13_code, (some .boolean), 1, 20),
  ("ByInitials$Page", ⟨"ByInitials$Page", "readName", "()I"⟩, prog_7_method_14_code, (some .int), 1, 20),
  ("ByInitials$Page", ⟨"ByInitials$Page", "lettersRead", "(I)I"⟩, prog_7_method_15_code, (some .int), 0, 0),
  ("ByInitials$Page", ⟨"ByInitials$Page", "readNumber", "(I)I"⟩, prog_7_method_16_code, (some .int), 2, 40),
  ("ByInitials$Page", ⟨"ByInitials$Page", "atFigure", "()Z"⟩, prog_7_method_17_code, (some .boolean), 1, 20),
  ("ByInitials$Table", ⟨"ByInitials$Table", "<init>", "()V"⟩, prog_8_method_1_code, none, 1, 20),
  ("ByInitials$Table", ⟨"ByInitials$Table", "plan", "(LByInitials$Town;)V"⟩, prog_8_method_2_code, none, 4, 92),
  ("ByInitials$Table", ⟨"ByInitials$Table", "between", "(II)I"⟩, prog_8_method_3_code, (some .int), 1, 21),
  ("ByInitials$Table", ⟨"ByInitials$Table", "closing", "(I)I"⟩, prog_8_method_4_code, (some .int), 2, 43),
  ("ByInitials$Table", ⟨"ByInitials$Table", "quarrelsBy", "(III)I"⟩, prog_8_method_5_code, (some .int), 2, 43),
  ("ByInitials$Table", ⟨"ByInitials$Table", "weigh", "(II)V"⟩, prog_8_method_6_code, none, 3, 66),
  ("ByInitials$Table", ⟨"ByInitials$Table", "fewestQuarrels", "()I"⟩, prog_8_method_7_code, (some .int), 0, 0),
  ("ByInitials$Table", ⟨"ByInitials$Table", "waysOfFewest", "()I"⟩, prog_8_method_8_code, (some .int), 0, 0),
  ("ByInitials$Table", ⟨"ByInitials$Table", "sitterAt", "(I)I"⟩, prog_8_method_9_code, (some .int), 4, 89),
  ("ByInitials$Table", ⟨"ByInitials$Table", "nextBehind", "(II)I"⟩, prog_8_method_10_code, (some .int), 3, 66),
  ("ByInitials$Town", ⟨"ByInitials$Town", "<init>", "()V"⟩, prog_9_method_1_code, none, 1, 20),
  ("ByInitials$Town", ⟨"ByInitials$Town", "clear", "()V"⟩, prog_9_method_2_code, none, 0, 0),
  ("ByInitials$Town", ⟨"ByInitials$Town", "copyFrom", "(LByInitials$Town;)V"⟩, prog_9_method_3_code, none, 1, 32),
  ("ByInitials$Town", ⟨"ByInitials$Town", "settle", "([IIII)Z"⟩, prog_9_method_4_code, (some .boolean), 1, 24),
  ("ByInitials$Town", ⟨"ByInitials$Town", "giveName", "(I[II)V"⟩, prog_9_method_5_code, none, 0, 0),
  ("ByInitials$Town", ⟨"ByInitials$Town", "putFirst", "([II)V"⟩, prog_9_method_6_code, none, 1, 22),
  ("ByInitials$Town", ⟨"ByInitials$Town", "place", "(II)V"⟩, prog_9_method_7_code, none, 0, 0),
  ("ByInitials$Town", ⟨"ByInitials$Town", "exchange", "(II)V"⟩, prog_9_method_8_code, none, 1, 22),
  ("ByInitials$Town", ⟨"ByInitials$Town", "setEnemies", "(II)V"⟩, prog_9_method_9_code, none, 0, 0),
  ("ByInitials$Town", ⟨"ByInitials$Town", "areEnemies", "(II)Z"⟩, prog_9_method_10_code, (some .boolean), 1, 21),
  ("ByInitials$Town", ⟨"ByInitials$Town", "isVowel", "(I)Z"⟩, prog_9_method_11_code, (some .boolean), 1, 21),
  ("ByInitials$Town", ⟨"ByInitials$Town", "isNameless", "(I)Z"⟩, prog_9_method_12_code, (some .boolean), 0, 0),
  ("ByInitials$Town", ⟨"ByInitials$Town", "letterOf", "(II)I"⟩, prog_9_method_13_code, (some .int), 0, 0),
  ("ByInitials$Town", ⟨"ByInitials$Town", "first", "(I)I"⟩, prog_9_method_14_code, (some .int), 1, 22),
  ("ByInitials$Town", ⟨"ByInitials$Town", "setFirst", "(II)V"⟩, prog_9_method_15_code, none, 1, 21),
  ("ByInitials$Town", ⟨"ByInitials$Town", "firstLetters", "()I"⟩, prog_9_method_16_code, (some .int), 2, 43),
  ("ByInitials$Town", ⟨"ByInitials$Town", "keyOf", "(I)I"⟩, prog_9_method_17_code, (some .int), 1, 22),
  ("ByInitials$Town", ⟨"ByInitials$Town", "keyOfOne", "(I)I"⟩, prog_9_method_18_code, (some .int), 0, 0),
  ("ByInitials$Town", ⟨"ByInitials$Town", "holdsOffice", "(I)Z"⟩, prog_9_method_19_code, (some .boolean), 2, 43),
  ("ByInitials$Town", ⟨"ByInitials$Town", "countOffice", "()I"⟩, prog_9_method_20_code, (some .int), 3, 64),
  ("ByInitials$Town", ⟨"ByInitials$Town", "suits", "(III)Z"⟩, prog_9_method_21_code, (some .boolean), 2, 43),
  ("ByInitials$Town", ⟨"ByInitials$Town", "mayWed", "(III)Z"⟩, prog_9_method_22_code, (some .boolean), 3, 66),
  ("ByInitials$Town", ⟨"ByInitials$Town", "countWed", "()I"⟩, prog_9_method_23_code, (some .int), 0, 0),
  ("ByInitials$Town", ⟨"ByInitials$Town", "mayLend", "(II)Z"⟩, prog_9_method_24_code, (some .boolean), 2, 43),
  ("ByInitials$Town", ⟨"ByInitials$Town", "pay", "(III)V"⟩, prog_9_method_25_code, none, 0, 0),
  ("ByInitials$Town", ⟨"ByInitials$Town", "debt", "(II)I"⟩, prog_9_method_26_code, (some .int), 0, 0),
  ("ByInitials$Town", ⟨"ByInitials$Town", "setDebt", "(III)V"⟩, prog_9_method_27_code, none, 0, 0),
  ("ByInitials$Town", ⟨"ByInitials$Town", "balance", "(I)I"⟩, prog_9_method_28_code, (some .int), 1, 22),
  ("ByInitials$Town", ⟨"ByInitials$Town", "quarrelAtTable", "(II)Z"⟩, prog_9_method_29_code, (some .boolean), 2, 43),
  ("ByInitials$Town", ⟨"ByInitials$Town", "drawFirstLetters", "(I)V"⟩, prog_9_method_30_code, none, 2, 43),
  ("ByInitials", ⟨"ByInitials", "<init>", "()V"⟩, prog_1_method_1_code, none, 6, 131),
  ("ByInitials", ⟨"ByInitials", "write", "(I)I"⟩, prog_1_method_2_code, (some .int), 1, 21),
  ("ByInitials", ⟨"ByInitials", "wipe", "()I"⟩, prog_1_method_3_code, (some .int), 0, 0),
  ("ByInitials", ⟨"ByInitials", "fault", "()I"⟩, prog_1_method_4_code, (some .int), 6, 131),
  ("ByInitials", ⟨"ByInitials", "lay", "()I"⟩, prog_1_method_5_code, (some .int), 6, 131),
  ("ByInitials", ⟨"ByInitials", "person", "(II)I"⟩, prog_1_method_6_code, (some .int), 5, 108),
  ("ByInitials", ⟨"ByInitials", "letter", "(II)I"⟩, prog_1_method_7_code, (some .int), 1, 22),
  ("ByInitials", ⟨"ByInitials", "alphabet", "(II)I"⟩, prog_1_method_8_code, (some .int), 2, 42),
  ("ByInitials", ⟨"ByInitials", "quarrel", "(II)I"⟩, prog_1_method_9_code, (some .int), 2, 43),
  ("ByInitials", ⟨"ByInitials", "spell", "(I)I"⟩, prog_1_method_10_code, (some .int), 1, 20),
  ("ByInitials", ⟨"ByInitials", "unspell", "()I"⟩, prog_1_method_11_code, (some .int), 0, 0),
  ("ByInitials", ⟨"ByInitials", "price", "(I)I"⟩, prog_1_method_12_code, (some .int), 2, 46),
  ("ByInitials", ⟨"ByInitials", "rename", "(I)I"⟩, prog_1_method_13_code, (some .int), 3, 74),
  ("ByInitials", ⟨"ByInitials", "may", "(II)I"⟩, prog_1_method_14_code, (some .int), 4, 89),
  ("ByInitials", ⟨"ByInitials", "wed", "(II)I"⟩, prog_1_method_15_code, (some .int), 4, 89),
  ("ByInitials", ⟨"ByInitials", "lend", "(III)I"⟩, prog_1_method_16_code, (some .int), 3, 74),
  ("ByInitials", ⟨"ByInitials", "repay", "(III)I"⟩, prog_1_method_17_code, (some .int), 3, 74),
  ("ByInitials", ⟨"ByInitials", "swap", "(II)I"⟩, prog_1_method_18_code, (some .int), 3, 74),
  ("ByInitials", ⟨"ByInitials", "newYear", "()I"⟩, prog_1_method_19_code, (some .int), 3, 74),
  ("ByInitials", ⟨"ByInitials", "undo", "()I"⟩, prog_1_method_20_code, (some .int), 3, 74),
  ("ByInitials", ⟨"ByInitials", "change", "(II)I"⟩, prog_1_method_21_code, (some .int), 5, 108),
  ("ByInitials", ⟨"ByInitials", "run", "(I)I"⟩, prog_1_method_22_code, (some .int), 5, 119),
  ("ByInitials", ⟨"ByInitials", "shortest", "(IIIII)I"⟩, prog_1_method_23_code, (some .int), 6, 137),
  ("ByInitials", ⟨"ByInitials", "match", "(I)I"⟩, prog_1_method_24_code, (some .int), 5, 113),
  ("ByInitials", ⟨"ByInitials", "wide", "(I)I"⟩, prog_1_method_25_code, (some .int), 5, 113),
  ("ByInitials", ⟨"ByInitials", "owed", "(II)I"⟩, prog_1_method_26_code, (some .int), 1, 22),
  ("ByInitials", ⟨"ByInitials", "net", "(I)I"⟩, prog_1_method_27_code, (some .int), 2, 45),
  ("ByInitials", ⟨"ByInitials", "chain", "()I"⟩, prog_1_method_28_code, (some .int), 3, 70),
  ("ByInitials", ⟨"ByInitials", "payments", "()I"⟩, prog_1_method_29_code, (some .int), 3, 71),
  ("ByInitials", ⟨"ByInitials", "seats", "(I)I"⟩, prog_1_method_30_code, (some .int), 5, 116),
  ("ByInitials", ⟨"ByInitials", "bestSwap", "(I)I"⟩, prog_1_method_31_code, (some .int), 5, 113),
  ("ByInitials", ⟨"ByInitials", "enter", "(II)I"⟩, prog_1_method_32_code, (some .int), 1, 22),
  ("ByInitials", ⟨"ByInitials", "close", "()I"⟩, prog_1_method_33_code, (some .int), 0, 0),
  ("ByInitials", ⟨"ByInitials", "fits", "()I"⟩, prog_1_method_34_code, (some .int), 6, 138),
  ("ByInitials", ⟨"ByInitials", "sure", "(I)I"⟩, prog_1_method_35_code, (some .int), 6, 138),
  ("ByInitials", ⟨"ByInitials", "year", "(II)I"⟩, prog_1_method_36_code, (some .int), 5, 108),
  ("ByInitials", ⟨"ByInitials", "keep", "()I"⟩, prog_1_method_37_code, (some .int), 3, 74),
  ("ByInitials", ⟨"ByInitials", "back", "()I"⟩, prog_1_method_38_code, (some .int), 3, 74),
  ("ByInitials", ⟨"ByInitials", "count", "(I)I"⟩, prog_1_method_39_code, (some .int), 5, 108),
  ("ByInitials", ⟨"ByInitials", "isPerson", "(I)Z"⟩, prog_1_method_40_code, (some .boolean), 0, 0),
  ("ByInitials", ⟨"ByInitials", "areTwo", "(II)Z"⟩, prog_1_method_41_code, (some .boolean), 1, 21),
  ("ByInitials", ⟨"ByInitials", "isLetter", "(I)Z"⟩, prog_1_method_42_code, (some .boolean), 0, 0),
  ("ByInitials", ⟨"ByInitials", "holds", "(II)Z"⟩, prog_1_method_43_code, (some .boolean), 0, 0),
  ("ByInitials", ⟨"ByInitials", "lineNow", "()LByInitials$Line;"⟩, prog_1_method_44_code, (some (.object "ByInitials$Line")), 4, 88),
  ("ByInitials", ⟨"ByInitials", "priceOfWord", "(I)I"⟩, prog_1_method_45_code, (some .int), 1, 22),
  ("ByInitials", ⟨"ByInitials", "firstWithRights", "(IIII)I"⟩, prog_1_method_46_code, (some .int), 5, 108),
  ("ByInitialsModel", ⟨"ByInitialsModel", "<init>", "()V"⟩, prog_11_method_1_code, none, 2, 45),
  ("ByInitialsModel", ⟨"ByInitialsModel", "in", "(JJJ)Z"⟩, prog_11_method_2_code, (some .boolean), 0, 0),
  ("ByInitialsModel", ⟨"ByInitialsModel", "spelled", "(IIIIII)V"⟩, prog_11_method_3_code, none, 0, 0),
  ("ByInitialsModel", ⟨"ByInitialsModel", "puts", "(II)V"⟩, prog_11_method_4_code, none, 1, 22),
  ("ByInitialsModel", ⟨"ByInitialsModel", "write", "(I)I"⟩, prog_11_method_5_code, (some .int), 1, 25),
  ("ByInitialsModel", ⟨"ByInitialsModel", "wipe", "()I"⟩, prog_11_method_6_code, (some .int), 0, 0),
  ("ByInitialsModel", ⟨"ByInitialsModel", "number", "()I"⟩, prog_11_method_7_code, (some .int), 1, 25),
  ("ByInitialsModel", ⟨"ByInitialsModel", "isSpelt", "()Z"⟩, prog_11_method_8_code, (some .boolean), 1, 25),
  ("ByInitialsModel", ⟨"ByInitialsModel", "isMore", "(I)Z"⟩, prog_11_method_9_code, (some .boolean), 2, 47),
  ("ByInitialsModel", ⟨"ByInitialsModel", "isItem", "()Z"⟩, prog_11_method_10_code, (some .boolean), 3, 68),
  ("ByInitialsModel", ⟨"ByInitialsModel", "isGood", "(I)Z"⟩, prog_11_method_11_code, (some .boolean), 1, 23),
  ("ByInitialsModel", ⟨"ByInitialsModel", "isPersonPut", "()Z"⟩, prog_11_method_12_code, (some .boolean), 0, 0),
  ("ByInitialsModel", ⟨"ByInitialsModel", "isOrderPut", "()Z"⟩, prog_11_method_13_code, (some .boolean), 0, 0),
  ("ByInitialsModel", ⟨"ByInitialsModel", "begins", "()V"⟩, prog_11_method_14_code, none, 0, 0),
  ("ByInitialsModel", ⟨"ByInitialsModel", "takes", "()V"⟩, prog_11_method_15_code, none, 0, 0),
  ("ByInitialsModel", ⟨"ByInitialsModel", "fault", "()I"⟩, prog_11_method_16_code, (some .int), 4, 90),
  ("ByInitialsModel", ⟨"ByInitialsModel", "lay", "()I"⟩, prog_11_method_17_code, (some .int), 5, 111),
  ("ByInitialsModel", ⟨"ByInitialsModel", "isPerson", "(I)Z"⟩, prog_11_method_18_code, (some .boolean), 1, 25),
  ("ByInitialsModel", ⟨"ByInitialsModel", "isLetter", "(I)Z"⟩, prog_11_method_19_code, (some .boolean), 1, 25),
  ("ByInitialsModel", ⟨"ByInitialsModel", "first", "(II)I"⟩, prog_11_method_20_code, (some .int), 0, 0),
  ("ByInitialsModel", ⟨"ByInitialsModel", "isQuarrel", "(II)Z"⟩, prog_11_method_21_code, (some .boolean), 0, 0),
  ("ByInitialsModel", ⟨"ByInitialsModel", "isVowel", "(I)Z"⟩, prog_11_method_22_code, (some .boolean), 0, 0),
  ("ByInitialsModel", ⟨"ByInitialsModel", "isOffice", "(II)Z"⟩, prog_11_method_23_code, (some .boolean), 1, 22),
  ("ByInitialsModel", ⟨"ByInitialsModel", "isAhead", "(III)Z"⟩, prog_11_method_24_code, (some .boolean), 0, 0),
  ("ByInitialsModel", ⟨"ByInitialsModel", "aheadOf", "(II)I"⟩, prog_11_method_25_code, (some .int), 1, 28),
  ("ByInitialsModel", ⟨"ByInitialsModel", "morning", "(I)I"⟩, prog_11_method_26_code, (some .int), 2, 52),
  ("ByInitialsModel", ⟨"ByInitialsModel", "person", "(II)I"⟩, prog_11_method_27_code, (some .int), 3, 77),
  ("ByInitialsModel", ⟨"ByInitialsModel", "letter", "(II)I"⟩, prog_11_method_28_code, (some .int), 2, 46),
  ("ByInitialsModel", ⟨"ByInitialsModel", "letterOf", "(II)I"⟩, prog_11_method_29_code, (some .int), 0, 0),
  ("ByInitialsModel", ⟨"ByInitialsModel", "alphabet", "(II)I"⟩, prog_11_method_30_code, (some .int), 2, 45),
  ("ByInitialsModel", ⟨"ByInitialsModel", "quarrel", "(II)I"⟩, prog_11_method_31_code, (some .int), 2, 45),
  ("ByInitialsModel", ⟨"ByInitialsModel", "copies", "(II)V"⟩, prog_11_method_32_code, none, 0, 0),
  ("ByInitialsModel", ⟨"ByInitialsModel", "known", "()V"⟩, prog_11_method_33_code, none, 1, 23),
  ("ByInitialsModel", ⟨"ByInitialsModel", "spell", "(I)I"⟩, prog_11_method_34_code, (some .int), 2, 45),
  ("ByInitialsModel", ⟨"ByInitialsModel", "unspell", "()I"⟩, prog_11_method_35_code, (some .int), 0, 0),
  ("ByInitialsModel", ⟨"ByInitialsModel", "priceOf", "(I)I"⟩, prog_11_method_36_code, (some .int), 0, 0),
  ("ByInitialsModel", ⟨"ByInitialsModel", "price", "(I)I"⟩, prog_11_method_37_code, (some .int), 2, 46),
  ("ByInitialsModel", ⟨"ByInitialsModel", "rename", "(I)I"⟩, prog_11_method_38_code, (some .int), 2, 46),
  ("ByInitialsModel", ⟨"ByInitialsModel", "isMay", "(III)Z"⟩, prog_11_method_39_code, (some .boolean), 1, 26),
  ("ByInitialsModel", ⟨"ByInitialsModel", "isTwo", "(II)Z"⟩, prog_11_method_40_code, (some .boolean), 2, 46),
  ("ByInitialsModel", ⟨"ByInitialsModel", "may", "(II)I"⟩, prog_11_method_41_code, (some .int), 3, 68),
  ("ByInitialsModel", ⟨"ByInitialsModel", "weds", "()I"⟩, prog_11_method_42_code, (some .int), 0, 0),
  ("ByInitialsModel", ⟨"ByInitialsModel", "wed", "(II)I"⟩, prog_11_method_43_code, (some .int), 3, 68),
  ("ByInitialsModel", ⟨"ByInitialsModel", "owes", "(II)I"⟩, prog_11_method_44_code, (some .int), 0, 0),
  ("ByInitialsModel", ⟨"ByInitialsModel", "lend", "(III)I"⟩, prog_11_method_45_code, (some .int), 3, 68),
  ("ByInitialsModel", ⟨"ByInitialsModel", "repay", "(III)I"⟩, prog_11_method_46_code, (some .int), 3, 68),
  ("ByInitialsModel", ⟨"ByInitialsModel", "swaps", "(III)V"⟩, prog_11_method_47_code, none, 0, 0),
  ("ByInitialsModel", ⟨"ByInitialsModel", "swap", "(II)I"⟩, prog_11_method_48_code, (some .int), 2, 45),
  ("ByInitialsModel", ⟨"ByInitialsModel", "newYear", "()I"⟩, prog_11_method_49_code, (some .int), 2, 44),
  ("ByInitialsModel", ⟨"ByInitialsModel", "undo", "()I"⟩, prog_11_method_50_code, (some .int), 1, 23),
  ("ByInitialsModel", ⟨"ByInitialsModel", "bestFirst", "(I)I"⟩, prog_11_method_51_code, (some .int), 3, 77),
  ("ByInitialsModel", ⟨"ByInitialsModel", "change", "(II)I"⟩, prog_11_method_52_code, (some .int), 4, 103),
  ("ByInitialsModel", ⟨"ByInitialsModel", "isRound", "()Z"⟩, prog_11_method_53_code, (some .boolean), 4, 103),
  ("ByInitialsModel", ⟨"ByInitialsModel", "run", "(I)I"⟩, prog_11_method_54_code, (some .int), 5, 126),
  ("ByInitialsModel", ⟨"ByInitialsModel", "hasAll", "(IIII)Z"⟩, prog_11_method_55_code, (some .boolean), 1, 28),
  ("ByInitialsModel", ⟨"ByInitialsModel", "shortest", "(IIIII)I"⟩, prog_11_method_56_code, (some .int), 2, 55),
  ("ByInitialsModel", ⟨"ByInitialsModel", "weddings", "(I)I"⟩, prog_11_method_57_code, (some .int), 2, 51),
  ("ByInitialsModel", ⟨"ByInitialsModel", "match", "(I)I"⟩, prog_11_method_58_code, (some .int), 3, 78),
  ("ByInitialsModel", ⟨"ByInitialsModel", "wide", "(I)I"⟩, prog_11_method_59_code, (some .int), 3, 78),
  ("ByInitialsModel", ⟨"ByInitialsModel", "owed", "(II)I"⟩, prog_11_method_60_code, (some .int), 2, 46),
  ("ByInitialsModel", ⟨"ByInitialsModel", "netOf", "(I)I"⟩, prog_11_method_61_code, (some .int), 1, 22),
  ("ByInitialsModel", ⟨"ByInitialsModel", "net", "(I)I"⟩, prog_11_method_62_code, (some .int), 2, 46),
  ("ByInitialsModel", ⟨"ByInitialsModel", "chain", "()I"⟩, prog_11_method_63_code, (some .int), 1, 22),
  ("ByInitialsModel", ⟨"ByInitialsModel", "payments", "()I"⟩, prog_11_method_64_code, (some .int), 2, 45),
  ("ByInitialsModel", ⟨"ByInitialsModel", "isFoe", "(II)Z"⟩, prog_11_method_65_code, (some .boolean), 1, 26),
  ("ByInitialsModel", ⟨"ByInitialsModel", "foes", "()I"⟩, prog_11_method_66_code, (some .int), 2, 50),
  ("ByInitialsModel", ⟨"ByInitialsModel", "follows", "()Z"⟩, prog_11_method_67_code, (some .boolean), 1, 23),
  ("ByInitialsModel", ⟨"ByInitialsModel", "swapsRow", "(II)V"⟩, prog_11_method_68_code, none, 0, 0),
  ("ByInitialsModel", ⟨"ByInitialsModel", "seats", "(I)I"⟩, prog_11_method_69_code, (some .int), 3, 73),
  ("ByInitialsModel", ⟨"ByInitialsModel", "bestSwap", "(I)I"⟩, prog_11_method_70_code, (some .int), 3, 77),
  ("ByInitialsModel", ⟨"ByInitialsModel", "enter", "(II)I"⟩, prog_11_method_71_code, (some .int), 2, 45),
  ("ByInitialsModel", ⟨"ByInitialsModel", "close", "()I"⟩, prog_11_method_72_code, (some .int), 0, 0),
  ("ByInitialsModel", ⟨"ByInitialsModel", "ways", "(I)I"⟩, prog_11_method_73_code, (some .int), 3, 77),
  ("ByInitialsModel", ⟨"ByInitialsModel", "isNext", "(I)Z"⟩, prog_11_method_74_code, (some .boolean), 1, 22),
  ("ByInitialsModel", ⟨"ByInitialsModel", "fits", "()I"⟩, prog_11_method_75_code, (some .int), 4, 102),
  ("ByInitialsModel", ⟨"ByInitialsModel", "sure", "(I)I"⟩, prog_11_method_76_code, (some .int), 4, 102),
  ("ByInitialsModel", ⟨"ByInitialsModel", "year", "(II)I"⟩, prog_11_method_77_code, (some .int), 3, 77),
  ("ByInitialsModel", ⟨"ByInitialsModel", "keep", "()I"⟩, prog_11_method_78_code, (some .int), 1, 23),
  ("ByInitialsModel", ⟨"ByInitialsModel", "back", "()I"⟩, prog_11_method_79_code, (some .int), 1, 23),
  ("ByInitialsModel", ⟨"ByInitialsModel", "count", "(I)I"⟩, prog_11_method_80_code, (some .int), 3, 77),
  ("java/lang/Integer", ⟨"java/lang/Integer", "bitCount", "(I)I"⟩, prog_12_method_49_code, (some .int), 0, 0),
  ("java/lang/String", ⟨"java/lang/String", "length", "()I"⟩, prog_14_method_54_code, (some .int), 1, 20),
  ("java/lang/String", ⟨"java/lang/String", "charAt", "(I)C"⟩, prog_14_method_56_code, (some .char), 3, 64),
  ("java/lang/String", ⟨"java/lang/String", "coder", "()B"⟩, prog_14_method_152_code, (some .byte), 0, 0),
  ("java/lang/String", ⟨"java/lang/String", "isLatin1", "()Z"⟩, prog_14_method_154_code, (some .boolean), 0, 0),
  ("java/lang/String", ⟨"java/lang/String", "checkIndex", "(II)V"⟩, prog_14_method_155_code, none, 1, 22),
  ("java/lang/StringLatin1", ⟨"java/lang/StringLatin1", "charAt", "([BI)C"⟩, prog_15_method_2_code, (some .char), 2, 43),
  ("jdk/internal/util/Preconditions", ⟨"jdk/internal/util/Preconditions", "checkIndex", "(IILjava/util/function/BiFunction;)I"⟩, prog_18_method_11_code, (some .int), 0, 0),
  ("ByInitialsLaw", ⟨"ByInitialsLaw", "law", "([I)Z"⟩, code, (some .boolean), 7, 163)]
def PR (m : Nat) : List Ins × Nat := bi_tab.getD m ([], 0)
def bi_pc (m i : Nat) : Nat := (bi_pcs.getD m []).getD i 0
def bi_rec (m : Nat) : String × MethodName × ByteArray × Option FieldType × Nat × Nat := bi_inf.getD m ("", ⟨"", "", ""⟩, ⟨#[]⟩, none, 0, 0)
def bi_own (m : Nat) : String := (bi_rec m).1
def bi_y (m : Nat) : MethodName := (bi_rec m).2.1
def bi_by (m : Nat) : ByteArray := (bi_rec m).2.2.1
def bi_ret (m : Nat) : Option FieldType := (bi_rec m).2.2.2.1
def bi_fr (m : Nat) : Nat := (bi_rec m).2.2.2.2.1
def bi_lo (m : Nat) : Nat := (bi_rec m).2.2.2.2.2
def bi_mL (m : Nat) : Nat := (PR m).2
end
section
/-! WHAT MAKES AN INSTRUCTION OF THE TABLES A TRUE ONE: a check that a program decides -/
def wAll : List Cond := lw_tbl.filter goodWord
def bi_w (n : Nat) (w : Cond) : Bool := decide (lw_tbl[n]? = some w) && goodWord w
theorem bi_w_ok {n : Nat} {w : Cond} (h : bi_w n w = true) : w ∈ wAll := by
  simp only [bi_w, Bool.and_eq_true, decide_eq_true_eq] at h
  exact List.mem_filter.mpr ⟨List.mem_of_getElem? h.1, h.2⟩
/-- the instruction at a place -/
def bi_d (m i : Nat) (x : Instr) (k : Nat) : Bool := decide (decode (bi_by m) (bi_pc m i) = .ok (x, k))
/-- the same, and the next one lies behind it -/
def bi_dn (m i : Nat) (x : Instr) (k : Nat) : Bool := bi_d m i x k && decide (bi_pc m (i + 1) = bi_pc m i + k)
def bi_off (m i t : Nat) : Int := (bi_pc m t : Int) - (bi_pc m i : Int)
def bi_binI (a : Nat) : Instr := match a with
  | 0 => .iadd | 1 => .isub | 2 => .imul | 3 => .idiv | 4 => .irem | 5 => .ishl | 6 => .ishr | 7 => .iushr | 8 => .iand | 9 => .ior | _ => .ixor
def bi_unI (a : Nat) : Instr := match a with
  | 0 => .ineg | 1 => .i2b | _ => .i2c
def bi_lbinI (a : Nat) : Instr := match a with
  | 0 => .ladd | 1 => .lmul | _ => .lrem
def bi_cnd (a : Nat) : Jvm.ClassFile.Cond := match a with
  | 0 => .eq | 1 => .ne | 2 => .lt | 3 => .ge | 4 => .gt | _ => .le
def bi_cls (a : Nat) : vw_C := vwCl.getD a ("", fun _ => ("", "", "", false), 0)
def bi_fn (a b : Nat) : String × String × String × Bool := (bi_cls a).2.1 b
def bi_cfI (own : String) (m i n : Nat) (c : Int) : Bool := match lw_tbl[n]? with
  | some (.constant o j v) => decide (o = own) && bi_w n (.constant own j v) && decide (v.toInt = c) && (bi_dn m i (.ldc j) 2 || bi_dn m i (.ldc_w j) 3)
  | _ => false
def bi_cfL (own : String) (m i n : Nat) (c : Int) : Bool := match lw_tbl[n]? with
  | some (.constantLong o j v) => decide (o = own) && bi_w n (.constantLong own j v) && decide (v.toInt = c) && bi_dn m i (.ldc2_w j) 3
  | _ => false
/-- a field's word: of class a, number b; the constant pool's number j -/
def bi_fw (own : String) (n a b j : Nat) : Bool := bi_w n (.fieldLink own j (bi_fn a b).1 (bi_fn a b).2.1 (bi_fn a b).2.2.1) && decide (b < (bi_cls a).2.2) && decide (a < 10)
def bi_isI (a b : Nat) : Bool := decide ((bi_fn a b).2.2.1 = "I")
def bi_rt (a : Nat) (t : Option FieldType) : Bool := match a with
  | 0 => decide (t = some .int) | 1 => decide (t = some .boolean) | 2 => decide (t = some .char) | _ => decide (t = some .byte)
def bi_tabs (m i : Nat) (l : List Nat) (offs : List Int) : Bool := decide (l.map (fun t => bi_off m i t) = offs)
/-- a callee, by itself: its code is among the words -/
def bi_mok (m n1 n2 : Nat) : Bool := bi_w n1 (.code (bi_y m) (bi_by m) (bi_mL m) (bi_ret m)) && bi_w n2 (.initialized (bi_y m).cls) && plainName (bi_y m).cls && decide ((bi_y m).cls ≠ "java/lang/invoke/MethodHandle") && decide ((bi_y m).cls ≠ "java/lang/invoke/VarHandle") && decide (bi_own m = (bi_y m).cls)
def bi_np (m : Nat) : Option Nat := (parseMethodDescriptor (bi_y m).desc).map (fun d => d.parameters.length)
def bi_room (m a : Nat) : Bool := decide (bi_fr a + 1 ≤ bi_fr m) && decide (8 + (bi_mL a + 11) + bi_lo a ≤ bi_lo m)
def bi_mis : Nat → Nat → Bool := fun f l => decide (1 ≤ f) && decide (26 ≤ l)
def bi_jn (n : Nat) : Nat := match lw_tbl[n]? with
  | some (.methodLink _ j _) => j
  | some (.methodLinkNest _ j _ _) => j
  | some (.fieldLink _ j _ _ _) => j
  | some (.classLink _ j _) => j
  | _ => 0
/-- a call's link: plain, or of a nest mate -/
def bi_lk (m a n : Nat) (nest : Bool) : Bool := if nest then decide (lw_tbl[n]? = some (.methodLinkNest (bi_own m) (bi_jn n) (bi_y a) "ByInitials")) else bi_w n (.methodLink (bi_own m) (bi_jn n) (bi_y a))
/-- h: places of words; h = [link, selects, code, initialized, kind's word, nest] for a call -/
def bi_ok (m i : Nat) (h : List Nat) (x : Ins) : Bool := match x with
  | (0, _, _, c, _) => (bi_dn m i (.iconst c) 1 && decide ((Int32.ofInt c).toInt = c)) || (bi_dn m i (.bipush c) 2 && decide ((Int8.ofInt c).toInt32.toInt = c)) || (bi_dn m i (.sipush c) 3 && decide ((Int16.ofInt c).toInt32.toInt = c)) || bi_cfI (bi_own m) m i (h.headD 0) c
  | (1, a, 0, _, _) => bi_dn m i (.iload a) 2 || (if ha : a < 4 then bi_dn m i (.iload_n ⟨a, ha⟩) 1 else false)
  | (1, a, 1, _, _) => (if ha : a < 4 then bi_dn m i (.aload_n ⟨a, ha⟩) 1 else false)
  | (1, a, 2, _, _) => bi_dn m i (.lload a) 2 || (if ha : a < 4 then bi_dn m i (.lload_n ⟨a, ha⟩) 1 else false)
  | (2, a, 0, _, _) => bi_dn m i (.istore a) 2 || (if ha : a < 4 then bi_dn m i (.istore_n ⟨a, ha⟩) 1 else false)
  | (2, a, 1, _, _) => (if ha : a < 4 then bi_dn m i (.astore_n ⟨a, ha⟩) 1 else false)
  | (2, a, 2, _, _) => bi_dn m i (.lstore a) 2 || (if ha : a < 4 then bi_dn m i (.lstore_n ⟨a, ha⟩) 1 else false)
  | (3, a, _, _, _) => bi_dn m i (bi_binI a) 1
  | (4, a, _, _, _) => bi_dn m i (bi_unI a) 1
  | (5, _, _, _, _) => bi_dn m i .i2l 1
  | (6, _, _, _, _) => bi_dn m i .l2i 1
  | (7, a, _, _, _) => bi_dn m i (bi_lbinI a) 1
  | (8, _, _, _, _) => bi_dn m i .lcmp 1
  | (9, _, _, c, _) => (bi_dn m i (.lconst 0) 1 && decide (c = 0)) || (bi_dn m i (.lconst 1) 1 && decide (c = 1)) || bi_cfL (bi_own m) m i (h.headD 0) c
  | (10, a, _, c, _) => bi_dn m i (.iinc a c) 3 && decide ((Int32.ofInt c).toInt = c)
  | (11, a, _, _, _) => bi_d m i (.goto (bi_off m i a)) 3
  | (12, a, b, _, _) => bi_dn m i (.if_icmp (bi_cnd b) (bi_off m i a)) 3
  | (13, a, b, _, _) => bi_dn m i (.ifCond (bi_cnd b) (bi_off m i a)) 3
  | (14, 10, 1, _, _) => bi_w (h.headD 0) (.fieldLink (bi_own m) (bi_jn (h.headD 0)) "java/lang/String" "coder" "B") && bi_dn m i (.getfield (bi_jn (h.headD 0))) 3
  | (15, 10, 0, _, _) => bi_w (h.headD 0) (.fieldLink (bi_own m) (bi_jn (h.headD 0)) "java/lang/String" "value" "[B") && bi_dn m i (.getfield (bi_jn (h.headD 0))) 3
  | (14, a, b, _, _) => bi_fw (bi_own m) (h.headD 0) a b (bi_jn (h.headD 0)) && bi_isI a b && bi_dn m i (.getfield (bi_jn (h.headD 0))) 3
  | (15, a, b, _, _) => bi_fw (bi_own m) (h.headD 0) a b (bi_jn (h.headD 0)) && !bi_isI a b && bi_dn m i (.getfield (bi_jn (h.headD 0))) 3
  | (16, a, b, _, _) => bi_fw (bi_own m) (h.headD 0) a b (bi_jn (h.headD 0)) && bi_isI a b && bi_dn m i (.putfield (bi_jn (h.headD 0))) 3 && !(bi_fn a b).2.2.2
  | (17, a, b, _, _) => bi_fw (bi_own m) (h.headD 0) a b (bi_jn (h.headD 0)) && !bi_isI a b && bi_dn m i (.putfield (bi_jn (h.headD 0))) 3 && (bi_fn a b).2.2.2 && decide ((bi_fn a b).1 = bi_own m) && decide ((bi_y m).name = "<init>")
  | (18, _, _, _, _) => bi_dn m i .iaload 1
  | (19, _, _, _, _) => bi_dn m i .iastore 1
  | (20, _, _, _, _) => bi_dn m i .baload 1
  | (21, _, _, _, _) => bi_dn m i .bastore 1
  | (22, _, _, _, _) => bi_dn m i .aaload 1
  | (23, _, _, _, _) => bi_dn m i .aastore 1
  | (24, _, _, _, _) => bi_dn m i .arraylength 1
  | (25, a, b, _, _) => bi_w (h.getD 0 0) (.classLink (bi_own m) (bi_jn (h.getD 0 0)) (bi_cls a).1) && bi_w (h.getD 1 0) (.instantiable (bi_cls a).1 b) && bi_w (h.getD 2 0) (.initialized (bi_cls a).1) && decide (b = (bi_cls a).2.2) && decide (a < 10) && bi_dn m i (.new (bi_jn (h.getD 0 0))) 3
  | (26, 0, _, _, _) => bi_w (h.headD 0) (.arrayClass .int) && bi_dn m i (.newarray .int) 2
  | (26, 1, _, _, _) => bi_w (h.headD 0) (.arrayClass .byte) && bi_dn m i (.newarray .byte) 2
  | (26, _, _, _, _) => bi_w (h.headD 0) (.classLink (bi_own m) (bi_jn (h.headD 0)) "ByInitials$Town") && bi_dn m i (.anewarray (bi_jn (h.headD 0))) 3
  | (28, _, _, _, _) => bi_dn m i .dup 1
  | (29, _, _, _, _) => bi_dn m i .dup2 1
  | (30, _, _, _, _) => bi_dn m i .pop 1
  | (31, a, _, c, l) => match decode (bi_by m) (bi_pc m i) with
    | .ok (.tableswitch d lo hi offs, _) => decide (lo = c) && decide (hi = c + l.length - 1) && decide (d = bi_off m i a) && bi_tabs m i l offs.toList
    | _ => false
  | (32, a, _, _, l) => match decode (bi_by m) (bi_pc m i) with
    | .ok (.lookupswitch d ps, _) => decide (d = bi_off m i a) && (ps.toList.zip (ps.toList.drop 1)).all (fun (a, next) => a.1 < next.1) && decide (ps.toList.flatMap (fun q => [q.1, q.2 + (bi_pc m i : Int)]) = (List.range (l.length / 2)).flatMap (fun j => [(l.getD (2 * j) 0 : Int), (bi_pc m (l.getD (2 * j + 1) 0) : Int)])) && decide (l.length = 2 * (l.length / 2))
    | _ => false
  | (33, a, _, _, _) => bi_d m i .ireturn 1 && bi_rt a (bi_ret m)
  | (34, _, _, _, _) => bi_d m i .return_ 1 && decide (bi_ret m = none)
  | (35, _, _, _, _) => bi_d m i .areturn 1 && decide (bi_ret m = some (.object "ByInitials$Line"))
  | (36, a, b, 0, l) => bi_mok a (h.getD 2 0) (h.getD 3 0) && bi_room m a && bi_lk m a (h.getD 0 0) false && bi_w (h.getD 1 0) (.selects (bi_y a).cls (bi_y a) (bi_y a)) && bi_w (h.getD 4 0) (.instanceMethod (bi_y a)) && decide (bi_np a = some (b - 1)) && decide (1 ≤ b) && decide ((l.headD 0 = 10 ∧ (bi_y a).cls = "java/lang/String") ∨ (l.headD 0 < 10 ∧ (bi_y a).cls = (bi_cls (l.headD 0)).1)) && bi_dn m i (.invokevirtual (bi_jn (h.getD 0 0))) 3
  | (36, a, b, 1, _) => bi_mok a (h.getD 2 0) (h.getD 3 0) && bi_room m a && bi_lk m a (h.getD 0 0) (decide (h.getD 5 0 = 1)) && bi_w (h.getD 4 0) (.static (bi_y a)) && decide (bi_np a = some b) && bi_dn m i (.invokestatic (bi_jn (h.getD 0 0))) 3
  | (36, a, b, _, _) => bi_mok a (h.getD 2 0) (h.getD 3 0) && bi_room m a && bi_lk m a (h.getD 0 0) (decide (h.getD 5 0 = 1)) && bi_w (h.getD 4 0) (.instanceMethod (bi_y a)) && decide ((bi_y a).name = "<init>") && decide (bi_ret a = none) && decide (bi_np a = some (b - 1)) && decide (1 ≤ b) && bi_dn m i (.invokespecial (bi_jn (h.getD 0 0))) 3
  | (37, _, _, _, _) => bi_w (h.getD 0 0) (.methodLink (bi_own m) (bi_jn (h.getD 0 0)) Lib.objectInit) && bi_w (h.getD 1 0) (.instanceMethod Lib.objectInit) && bi_w (h.getD 2 0) (.code Lib.objectInit ⟨#[0xb1]⟩ 1 none) && bi_mis (bi_fr m) (bi_lo m + 6) && bi_dn m i (.invokespecial (bi_jn (h.getD 0 0))) 3
  | (38, a, _, _, _) => (match a with
    | 0 => bi_w (h.getD 0 0) (.methodLink (bi_own m) (bi_jn (h.getD 0 0)) Lib.Math.max.name) && bi_w (h.getD 1 0) (.static Lib.Math.max.name) && bi_w (h.getD 3 0) (.code Lib.Math.max.name Lib.Math.max.code 2 (some .int))
    | 1 => bi_w (h.getD 0 0) (.methodLink (bi_own m) (bi_jn (h.getD 0 0)) Lib.Math.min.name) && bi_w (h.getD 1 0) (.static Lib.Math.min.name) && bi_w (h.getD 3 0) (.code Lib.Math.min.name Lib.Math.min.code 2 (some .int))
    | _ => bi_w (h.getD 0 0) (.methodLink (bi_own m) (bi_jn (h.getD 0 0)) Lib.Math.abs.name) && bi_w (h.getD 1 0) (.static Lib.Math.abs.name) && bi_w (h.getD 3 0) (.code Lib.Math.abs.name Lib.Math.abs.code 1 (some .int))) && bi_w (h.getD 2 0) (.initialized "java/lang/Math") && bi_mis (bi_fr m) (bi_lo m + 5) && bi_dn m i (.invokestatic (bi_jn (h.getD 0 0))) 3
  | (39, _, _, _, _) => bi_w (h.getD 0 0) (.methodLink (bi_own m) (bi_jn (h.getD 0 0)) arraycopyName) && bi_w (h.getD 1 0) (.native arraycopyName) && bi_w (h.getD 2 0) (.static arraycopyName) && bi_w (h.getD 3 0) (.initialized "java/lang/System") && bi_mis (bi_fr m) (bi_lo m) && bi_dn m i (.invokestatic (bi_jn (h.getD 0 0))) 3
  | (40, _, _, _, _) => decide (bi_own m = "ByInitials") && bi_dn m i (.ldc 77) 2
  | (41, 0, _, _, _) => bi_w (h.headD 0) (.fieldLink (bi_own m) (bi_jn (h.headD 0)) "java/lang/String" "COMPACT_STRINGS" "Z") && bi_dn m i (.getstatic (bi_jn (h.headD 0))) 3
  | (41, _, _, _, _) => bi_w (h.headD 0) (.fieldLink (bi_own m) (bi_jn (h.headD 0)) "jdk/internal/util/Preconditions" "SIOOBE_FORMATTER" "Ljava/util/function/BiFunction;") && bi_dn m i (.getstatic (bi_jn (h.headD 0))) 3
  | _ => true
/-- a whole method: its hints, one a place -/
def bi_okM (m : Nat) (hs : List (List Nat)) : Nat → List Ins → Bool
  | _, [] => true
  | i, x :: l => bi_ok m i (hs.getD i []) x && bi_okM m hs (i + 1) l
theorem bi_okM_get {m : Nat} {hs : List (List Nat)} : ∀ (l : List Ins) (i j : Nat) (x : Ins), bi_okM m hs i l = true → l[j]? = some x → bi_ok m (i + j) (hs.getD (i + j) []) x = true := by
  intro l
  induction l with
  | nil => intro i j x h hj; simp at hj
  | cons y l ih =>
    intro i j x h hj
    simp only [bi_okM, Bool.and_eq_true] at h
    cases j with
    | zero => simp at hj; subst hj; exact h.1
    | succ j =>
      have := ih (i + 1) j x h.2 (by simpa using hj)
      rw [show i + (j + 1) = i + 1 + j by omega]
      exact this
end
section
/-! NUMBERS: an int operation of the machine, by the whole numbers that its operands are -/
theorem nu_bm {v : Int} (h : inR v) : v.bmod (2 ^ 32) = v := Int.bmod_eq_of_le (by have := h.1; omega) (by have := h.2; omega)
theorem nu_bl {v : Int} (h : inL v) : v.bmod (2 ^ 64) = v := Int.bmod_eq_of_le (by have := h.1; omega) (by have := h.2; omega)
theorem nu_in (x : Int32) : inR x.toInt := ⟨by have := Int32.le_toInt x; omega, by have := Int32.toInt_lt x; omega⟩
theorem nu_inl (x : Int64) : inL x.toInt := ⟨by have := Int64.le_toInt x; omega, by have := Int64.toInt_lt x; omega⟩
theorem nu_add {x y : Int32} (h : inR (x.toInt + y.toInt)) : (x + y).toInt = x.toInt + y.toInt := by rw [Int32.toInt_add, nu_bm h]
theorem nu_sub {x y : Int32} (h : inR (x.toInt - y.toInt)) : (x - y).toInt = x.toInt - y.toInt := by rw [Int32.toInt_sub, nu_bm h]
theorem nu_mul {x y : Int32} (h : inR (x.toInt * y.toInt)) : (x * y).toInt = x.toInt * y.toInt := by rw [Int32.toInt_mul, nu_bm h]
theorem nu_neg {x : Int32} (h : inR (-x.toInt)) : (-x).toInt = -x.toInt := by rw [Int32.toInt_neg, nu_bm h]
theorem nu_ladd {x y : Int64} (h : inL (x.toInt + y.toInt)) : (x + y).toInt = x.toInt + y.toInt := by rw [Int64.toInt_add, nu_bl h]
theorem nu_lmul {x y : Int64} (h : inL (x.toInt * y.toInt)) : (x * y).toInt = x.toInt * y.toInt := by rw [Int64.toInt_mul, nu_bl h]
theorem nu_eq {x y : Int32} : x = y ↔ x.toInt = y.toInt := Int32.toInt_inj.symm
theorem nu_leq {x y : Int64} : x = y ↔ x.toInt = y.toInt := Int64.toInt_inj.symm
theorem nu_nat {x : Int32} (h : 0 ≤ x.toInt) : ∃ n : Nat, n < 2 ^ 31 ∧ x = nI n ∧ x.toInt = n := by
  obtain ⟨n, hn, e⟩ := nI_of (x := x) (fun q => by have := Int32.lt_iff_toInt_lt.mp q; simp at this; omega)
  exact ⟨n, hn, e, by rw [e, nI_toInt hn]⟩
theorem nu_lnat {x : Int64} (h : 0 ≤ x.toInt) : ∃ n : Nat, n < 2 ^ 63 ∧ x = lN n ∧ x.toInt = n := by
  obtain ⟨n, hn, e⟩ := pk_lOf (x := x) (fun q => by have := Int64.lt_iff_toInt_lt.mp q; simp at this; omega)
  exact ⟨n, hn, e, by rw [e, pk_lT hn]⟩
theorem nu_cl {x : Int32} : x.toNatClampNeg = x.toInt.toNat := (Int32.toNat_toInt x).symm
theorem nu_vin {x : Int32} {n : Nat} (h0 : 0 ≤ x.toInt) (h : x.toInt < n) : vp_in x n := vp_in_iff.mpr ⟨h0, h⟩
theorem nu_div {x y : Int32} (hx : 0 ≤ x.toInt) (hy : 0 < y.toInt) : (x / y).toInt = x.toInt / y.toInt := by
  obtain ⟨a, ha, e, ea⟩ := nu_nat hx
  obtain ⟨b, hb, f, eb⟩ := nu_nat (x := y) (by omega)
  rw [ea, eb, e, f, pk_div ha (by omega) hb, nI_toInt (Nat.lt_of_le_of_lt (Nat.div_le_self a b) ha)]
  simp
theorem nu_rem {x y : Int32} (hx : 0 ≤ x.toInt) (hy : 0 < y.toInt) : (x - x / y * y).toInt = x.toInt % y.toInt := by
  obtain ⟨a, ha, e, ea⟩ := nu_nat hx
  obtain ⟨b, hb, f, eb⟩ := nu_nat (x := y) (by omega)
  rw [ea, eb, e, f, pk_rem ha (by omega) hb, nI_toInt (Nat.lt_of_le_of_lt (Nat.mod_le a b) ha)]
  simp
theorem nu_lrem {x y : Int64} (hx : 0 ≤ x.toInt) (hy : 0 < y.toInt) : (x - x / y * y).toInt = x.toInt % y.toInt := by
  obtain ⟨a, ha, e, ea⟩ := nu_lnat hx
  obtain ⟨b, hb, f, eb⟩ := nu_lnat (x := y) (by omega)
  rw [ea, eb, e, f, pk_lRem ha (by omega) hb, pk_lT (Nat.lt_of_le_of_lt (Nat.mod_le a b) ha)]
  simp
theorem nu_sl : ∀ n, n < 32 → ((nI n &&& 31).toBitVec.smod 32).toNat = n := by decide +kernel
theorem nu_su : ∀ n, n < 32 → (((nI n).toUInt32 &&& Int32.toUInt32 31).toBitVec % 32).toNat = n := by decide +kernel
theorem nu_shl {x y : Int32} (hx : 0 ≤ x.toInt) (hy : 0 ≤ y.toInt) (hy2 : y.toInt < 32) (h : inR (x.toInt * 2 ^ y.toInt.toNat)) : (x <<< (y &&& 31)).toInt = x.toInt * 2 ^ y.toInt.toNat := by
  obtain ⟨a, ha, e, ea⟩ := nu_nat hx
  obtain ⟨b, hb, f, eb⟩ := nu_nat hy
  have hb2 : b < 32 := by omega
  rw [ea, eb] at h ⊢
  have e3 : ((a : Int) * 2 ^ (b : Int).toNat) = ((a * 2 ^ b : Nat) : Int) := by simp
  rw [e3] at h ⊢
  have h2 := h.2
  rw [e, f, pk_shlN _ b (nu_sl b hb2) (by omega), nI_toInt (by omega)]
theorem nu_shr {x y : Int32} (hx : 0 ≤ x.toInt) (hy : 0 ≤ y.toInt) (hy2 : y.toInt < 32) : (x >>> (y &&& 31)).toInt = x.toInt / 2 ^ y.toInt.toNat := by
  obtain ⟨a, ha, e, ea⟩ := nu_nat hx
  obtain ⟨b, hb, f, eb⟩ := nu_nat hy
  rw [ea, eb, e, f, pk_shrN ha _ b (nu_sl b (by omega)), nI_toInt (Nat.lt_of_le_of_lt (Nat.div_le_self a _) ha)]
  simp
theorem nu_ushr {x y : Int32} (hx : 0 ≤ x.toInt) (hy : 0 ≤ y.toInt) (hy2 : y.toInt < 32) : ((x.toUInt32 >>> (y.toUInt32 &&& Int32.toUInt32 31)).toInt32).toInt = x.toInt / 2 ^ y.toInt.toNat := by
  obtain ⟨a, ha, e, ea⟩ := nu_nat hx
  obtain ⟨b, hb, f, eb⟩ := nu_nat hy
  rw [ea, eb, e, f, pk_ushrN (by omega) _ b (nu_su b (by omega)), nI_toInt (Nat.lt_of_le_of_lt (Nat.div_le_self a _) ha)]
  simp
/-- a number of the machine by its bits -/
theorem nu_bits {x : Int32} {n : Nat} (hn : n < 2 ^ 31) (h : x.toBitVec.toNat = n) : x.toInt = n := by
  rw [← Int32.toInt_toBitVec, BitVec.toInt_eq_toNat_of_lt (by omega), h]
theorem nu_tn {x : Int32} {n : Nat} (hn : n < 2 ^ 31) (h : x.toInt = n) : x.toBitVec.toNat = n := by
  rw [← Int32.toInt_toBitVec, BitVec.toInt_eq_toNat_cond] at h
  have := x.toBitVec.isLt
  split at h <;> omega
theorem nu_ntn {x : Int32} {z : Nat} (h : x.toInt = -(z : Int) - 1) : x.toBitVec.toNat = 2 ^ 32 - 1 - z := by
  rw [← Int32.toInt_toBitVec, BitVec.toInt_eq_toNat_cond] at h
  have := x.toBitVec.isLt
  split at h <;> omega
theorem nu_and {x y : Int32} {a b : Nat} (ha : a < 2 ^ 31) (hb : b < 2 ^ 31) (hx : x.toInt = a) (hy : y.toInt = b) : (x &&& y).toInt = ((a &&& b : Nat) : Int) :=
  nu_bits (Nat.lt_of_le_of_lt Nat.and_le_left ha) (by rw [Int32.toBitVec_and, BitVec.toNat_and, nu_tn ha hx, nu_tn hb hy])
theorem nu_or {x y : Int32} {a b : Nat} (ha : a < 2 ^ 31) (hb : b < 2 ^ 31) (hx : x.toInt = a) (hy : y.toInt = b) : (x ||| y).toInt = ((a ||| b : Nat) : Int) :=
  nu_bits (Nat.or_lt_two_pow ha hb) (by rw [Int32.toBitVec_or, BitVec.toNat_or, nu_tn ha hx, nu_tn hb hy])
theorem nu_xor {x y : Int32} {a b : Nat} (ha : a < 2 ^ 31) (hb : b < 2 ^ 31) (hx : x.toInt = a) (hy : y.toInt = b) : (x ^^^ y).toInt = ((a ^^^ b : Nat) : Int) :=
  nu_bits (Nat.xor_lt_two_pow ha hb) (by rw [Int32.toBitVec_xor, BitVec.toNat_xor, nu_tn ha hx, nu_tn hb hy])
theorem nu_andn {x y : Int32} {a z : Nat} (ha : a < 2 ^ 31) (hx : x.toInt = a) (hy : y.toInt = -(z : Int) - 1) : (x &&& y).toInt = ((bi_andn a z : Nat) : Int) := by
  have hz : z < 2 ^ 31 := by have := (nu_in y).1; omega
  have e1 : y.toBitVec = ~~~(BitVec.ofNat 32 z) := by
    apply BitVec.eq_of_toNat_eq
    rw [nu_ntn hy, BitVec.toNat_not, BitVec.toNat_ofNat, Nat.mod_eq_of_lt (by omega)]
  have e2 : x.toBitVec = BitVec.ofNat 32 a := by
    apply BitVec.eq_of_toNat_eq
    rw [nu_tn ha hx, BitVec.toNat_ofNat, Nat.mod_eq_of_lt (by omega)]
  have e3 : BitVec.ofNat 32 a &&& ~~~(BitVec.ofNat 32 z) = BitVec.ofNat 32 a ^^^ (BitVec.ofNat 32 a &&& BitVec.ofNat 32 z) := by
    apply BitVec.eq_of_getLsbD_eq
    intro i hi
    simp only [BitVec.getLsbD_and, BitVec.getLsbD_xor, BitVec.getLsbD_not, hi, decide_true, Bool.true_and]
    cases (BitVec.ofNat 32 a).getLsbD i <;> cases (BitVec.ofNat 32 z).getLsbD i <;> rfl
  refine nu_bits ?_ ?_
  · unfold bi_andn
    exact Nat.xor_lt_two_pow ha (Nat.lt_of_le_of_lt Nat.and_le_left ha)
  · rw [Int32.toBitVec_and, e1, e2, e3, BitVec.toNat_xor, BitVec.toNat_and, BitVec.toNat_ofNat, BitVec.toNat_ofNat, Nat.mod_eq_of_lt (by omega), Nat.mod_eq_of_lt (by omega)]
    rfl
theorem nu_and_comm (x y : Int32) : x &&& y = y &&& x := by
  apply Int32.toBitVec_inj.mp
  rw [Int32.toBitVec_and, Int32.toBitVec_and, BitVec.and_comm]
theorem nu_not {x y : Int32} (hy : y.toInt = -1) : (x ^^^ y).toInt = -x.toInt - 1 := by
  have e : y = -1 := nu_eq.mpr (by rw [hy]; rfl)
  have e2 : x ^^^ (-1) = ~~~x := by
    apply Int32.toBitVec_inj.mp
    rw [Int32.toBitVec_xor, Int32.toBitVec_not]
    apply BitVec.eq_of_getLsbD_eq
    intro i hi
    have : (-1 : Int32).toBitVec = BitVec.allOnes 32 := by decide
    rw [this, BitVec.getLsbD_xor, BitVec.getLsbD_not, BitVec.getLsbD_allOnes, decide_eq_true hi]
    cases x.toBitVec.getLsbD i <;> rfl
  rw [e, e2, Int32.toInt_not, nu_bm]
  have := nu_in x
  exact ⟨by omega, by omega⟩
/-- the table of int operations is the machine's -/
theorem nu_bi_and {x y : Int32} {z : Int} (h : bi_and x.toInt y.toInt = some z) : (x &&& y).toInt = z := by
  unfold bi_and at h
  by_cases hx : 0 ≤ x.toInt
  · obtain ⟨a, ha, -, ea⟩ := nu_nat hx
    rw [if_pos hx] at h
    by_cases hy : 0 ≤ y.toInt
    · obtain ⟨b, hb, -, eb⟩ := nu_nat hy
      rw [if_pos hy, ea, eb] at h
      rw [nu_and ha hb ea eb]
      simpa using h
    · rw [if_neg hy, ea] at h
      rw [nu_andn (z := (-y.toInt - 1).toNat) ha ea (by omega)]
      simpa using h
  · rw [if_neg hx] at h
    by_cases hy : 0 ≤ y.toInt
    · obtain ⟨b, hb, -, eb⟩ := nu_nat hy
      rw [if_pos hy, eb] at h
      rw [nu_and_comm, nu_andn (z := (-x.toInt - 1).toNat) hb eb (by omega)]
      simpa using h
    · rw [if_neg hy] at h
      cases h
theorem nu_b8 {x : Int32} (h1 : -128 ≤ x.toInt) (h2 : x.toInt ≤ 127) : x.toInt8.toInt32 = x := by
  apply nu_eq.mpr
  rw [Int8.toInt_toInt32, Int32.toInt_toInt8]
  exact Int.bmod_eq_of_le (by omega) (by omega)
theorem nu_c16 {x : Int32} (h1 : 0 ≤ x.toInt) (h2 : x.toInt < 65536) : (x.toUInt32 % 65536).toInt32 = x := by
  obtain ⟨a, ha, e, ea⟩ := nu_nat h1
  rw [pk_char, e, pk_tn (by omega), Nat.mod_eq_of_lt (by omega)]
end
section
/-! WHAT THE MACHINE HOLDS of what the interpreter holds: values, cells, the world -/
def bw_v (rv : List Value) (a : AV) (v : Value) : Prop := match a with
  | .inl x => ∃ y : Int32, v = .int y ∧ y.toInt = x
  | .inr (.inl x) => ∃ y : Int64, v = .long y ∧ y.toInt = x
  | .inr (.inr c) => rv[c]? = some v
def bw_s (rv : List Value) : List AV → List Value → Prop
  | [], [] => True
  | a :: l, v :: t => bw_v rv a v ∧ bw_s rv l t
  | _, _ => False
def bw_l (rv : List Value) (L : Lcl) (lvs : List (Nat × Value)) : Prop := ∀ (i : Nat) (v : AV), L[i]? = some (some v) → ∃ c, (i, c) ∈ lvs ∧ bw_v rv v c
def bw_c (tys : List (ClassId × FieldType)) (rv : List Value) (sh : Nat × Nat × List Nat) (f : Nat → Int) (e : va_E) : Prop := match sh with
  | (0, n, _) => ∃ (cA : ClassId) (t0 : Nat) (g : Nat → Int32), tys[t0]? = some (cA, .int) ∧ e = .inl (cA, n, .inl g) ∧ n ≤ 65536 ∧ ∀ j, j < n → (g j).toInt = f j
  | (1, n, _) => ∃ (cA : ClassId) (t0 : Nat) (g : Nat → Int32), tys[t0]? = some (cA, .byte) ∧ e = .inl (cA, n, .inl g) ∧ n ≤ 65536 ∧ ∀ j, j < n → (g j).toInt = f j
  | (2, n, _) => ∃ (cA : ClassId) (t0 : Nat) (g : Nat → Option Nat), tys[t0]? = some (cA, .object "ByInitials$Town") ∧ e = .inl (cA, n, .inr (.inr (.inr (.inr g)))) ∧ n ≤ 65536 ∧ ∀ j, j < n → rv[(f j).toNat]? = some (va_rf (g j))
  | (c + 3, n, rs) => ∃ fs : List Value, e = .inr (c, fs) ∧ fs.length = n ∧ n = (bi_cls c).2.2 ∧ c < 10 ∧ rs.length = n ∧ ∀ j, j < n → ∃ v, fs[j]? = some v ∧ (if bi_isI c j = true then ∃ y : Int32, v = .int y ∧ y.toInt = f j else rv[rs.getD j 0]? = some v)
def bw_txt : String := "nadam,5,9;nquinn,9,5;nzoe,8,30;n,3,0;qaq;"
/-- what lies outside: the script, the text constant, two statics -/
def bw_ou (A : Nat → Prop) (U : State) (H : Heap) (rv : List Value) (S : Shp) (M : Mem) : Prop :=
  ∃ (b N b1 b2 : Nat) (xs ys : Nat → Int32) (fv : Value),
    (rv[1]? = some (.ref b) ∧ S[0]? = some (0, N, []) ∧ N ≤ 65536 ∧ va_T .int b N (fun j => .int (xs j)) A U H ∧ ∀ j, j < N → (xs j).toInt = M 0 j) ∧
    (rv[2]? = some (.ref b1) ∧ S[1]? = some (13, 2, [3, 0]) ∧ M 1 1 = 0 ∧ va_O "java/lang/String" b1 A U H ∧ va_OF "java/lang/String" "coder" "B" (.int 0) b1 A U H ∧ va_OF "java/lang/String" "value" "[B" (.ref b2) b1 A U H) ∧
    (rv[3]? = some (.ref b2) ∧ S[2]? = some (1, 41, []) ∧ va_T .byte b2 41 (fun j => .int (ys j)) A U H ∧ ∀ j, j < 41 → (ys j).toInt = M 2 j) ∧
    (rv[4]? = some fv ∧ S[3]? = some (2, 0, []) ∧ va_Z "jdk/internal/util/Preconditions" "SIOOBE_FORMATTER" "Ljava/util/function/BiFunction;" fv A U H ∧ va_Z "java/lang/String" "COMPACT_STRINGS" "Z" (.int 1) A U H) ∧
    vk_R "ByInitials" 77 bw_txt b1 U
/-- the world's list and what it holds, apart from the heap -/
def bw_k (tys : List (ClassId × FieldType)) (rv : List Value) (ws : va_W) (S : Shp) (M : Mem) : Prop :=
  rv.length = S.length + 1 ∧ ws.length + 4 = S.length ∧ (∀ (c : Nat) (v : Value), rv[c]? = some v → v = .null ∨ ∃ a : Nat, v = .ref a) ∧ rv[0]? = some .null ∧
  (∀ (k a : Nat) (e : va_E), ws[k]? = some (a, e) → rv[k + 5]? = some (.ref a)) ∧ (∀ (k a : Nat) (e : va_E) (sh : Nat × Nat × List Nat), ws[k]? = some (a, e) → S[k + 4]? = some sh → bw_c tys rv sh (M (k + 4)) e)
def bw_w (D : va_G) (tys : List (ClassId × FieldType)) (U : State) (A : Nat → Prop) (H0 H : Heap) (locs : List Loc) (rv : List Value) (ws : va_W) (S : Shp) (M : Mem) : Prop :=
  va_K D vwCl tys U ∧ va_P D vwCl ws H ∧ va_D A ws ∧ va_S A H0 H locs ∧ bw_ou A U H0 rv S M ∧ bw_k tys rv ws S M
def bw_x (U : State) : Prop := (∀ a i x h, Cond.methodLinkNest a i x h ∈ lw_tbl → va_Nw (.methodLinkNest a i x h) U) ∧ va_AO "ByInitials$Town" U
def bw_f (m : Nat) (p : Program) (s : State) (mid : MethodId) (args : Array Value) (meth : Method) (c : Code) (A : Nat → Prop) : Prop :=
  p.tables.exec = Jvm.exec ∧ c.code = bi_by m ∧ c.maxLocals = bi_mL m ∧ meth.sig.returnType = bi_ret m ∧ s.vm.findClass (bi_own m) = some mid.cls ∧ (∀ w ∈ wAll, w.before args s = true) ∧ meth.locks = false ∧ ((bi_y m).name = "<init>" → meth.name = "<init>") ∧ bw_x s ∧ ∀ q, s.heap.size ≤ q → A q
def bw_z (S : Shp) : Nat := (S.map (fun x => x.2.1)).sum
/-- how a method may end -/
def bw_rv (m : Nat) (rv : List Value) (r : Option AV) (stc : List Value) (pc : Nat) : Prop := match r with
  | none => stc = [] ∧ decode (bi_by m) pc = .ok (.return_, 1) ∧ bi_ret m = none
  | some (.inl x) => ∃ y : Int32, stc = [.int y] ∧ y.toInt = x ∧ decode (bi_by m) pc = .ok (.ireturn, 1) ∧ ∃ ty, bi_ret m = some ty ∧ narrow ty (.int y) = .int y
  | some (.inr (.inr c)) => ∃ v, stc = [v] ∧ rv[c]? = some v ∧ decode (bi_by m) pc = .ok (.areturn, 1) ∧ bi_ret m = some (.object "ByInitials$Line")
  | some (.inr (.inl _)) => False
def bw_ro (m : Nat) (p : Program) (l : Launch) (e : Env) (R : Room) (s : State) (mid : MethodId) (args : Array Value) (below : List Frame) (meth : Method) (c : Code) (Q : State → Prop) (D : va_G) (A : Nat → Prop) (rv0 : List Value) (b0 z0 : Nat) (res : Res) : Prop :=
  ∀ (H : Heap) (locs : List Loc) (cells slots : Nat) (tys : List (ClassId × FieldType)) (rv : List Value) (ws : va_W) (ls : Array Slot) (stc : List Value) (pc : Nat), bw_w D tys s A s.heap H locs rv ws res.1 res.2.1 → rv0 <+: rv → cells + b0 = res.1.length → slots + z0 = bw_z res.1 → bw_rv m rv res.2.2 stc pc → W p l e R s mid args below meth c H locs cells slots Q (F0 mid pc ls stc)
/-- the machine comes from this place of the method to its end, where the interpreter does -/
def bw_J (m i : Nat) (L : Lcl) (st : List AV) (S : Shp) (M : Mem) (res : Res) : Prop :=
  ∀ (p : Program) (l : Launch) (e : Env) (R : Room) (s : State) (mid : MethodId) (args : Array Value) (below : List Frame) (meth : Method) (c : Code) (H : Heap) (locs : List Loc) (cells slots : Nat) (Q : State → Prop) (D : va_G) (tys : List (ClassId × FieldType)) (A : Nat → Prop) (rv0 rv : List Value) (ws : va_W) (ls : Array Slot) (lvs : List (Nat × Value)) (stc : List Value) (b0 z0 : Nat),
    bw_f m p s mid args meth c A → bw_w D tys s A s.heap H locs rv ws S M → rv0 <+: rv → lv_has ls (bi_mL m) lvs → L.length = bi_mL m → bw_l rv L lvs → bw_s rv st stc → cells + b0 = S.length → slots + z0 = bw_z S → res.1.length ≤ b0 + R.cells → bw_z res.1 ≤ z0 + R.slots → bi_fr m ≤ R.frames → bi_lo m ≤ R.locals →
    bw_ro m p l e R s mid args below meth c Q D A rv0 b0 z0 res → W p l e R s mid args below meth c H locs cells slots Q (F0 mid (bi_pc m i) ls stc)
-- small laws
theorem bw_pre {l r : List Value} (h : l <+: r) {c : Nat} {v : Value} (hc : l[c]? = some v) : r[c]? = some v := by
  obtain ⟨t, rfl⟩ := h
  rw [List.getElem?_append_left (List.getElem?_eq_some_iff.mp hc).1]
  exact hc
theorem bw_v_mono {l r : List Value} (h : l <+: r) {a : AV} {v : Value} (hv : bw_v l a v) : bw_v r a v := by
  match a, hv with
  | .inl x, hv => exact hv
  | .inr (.inl x), hv => exact hv
  | .inr (.inr c), hv => exact bw_pre h hv
theorem bw_s_mono {l r : List Value} (h : l <+: r) : ∀ (st : List AV) (stc : List Value), bw_s l st stc → bw_s r st stc := by
  intro st
  induction st with
  | nil => intro stc hs; cases stc with
    | nil => trivial
    | cons => exact hs
  | cons a st ih => intro stc hs; cases stc with
    | nil => exact hs
    | cons v t => exact ⟨bw_v_mono h hs.1, ih t hs.2⟩
theorem bw_l_mono {l r : List Value} (h : l <+: r) {L : Lcl} {lvs : List (Nat × Value)} (hl : bw_l l L lvs) : bw_l r L lvs := fun i v hi => by
  obtain ⟨c, h1, h2⟩ := hl i v hi
  exact ⟨c, h1, bw_v_mono h h2⟩
theorem bw_cons {rv : List Value} {a : AV} {st : List AV} {stc : List Value} (h : bw_s rv (a :: st) stc) : ∃ v t, stc = v :: t ∧ bw_v rv a v ∧ bw_s rv st t := by
  cases stc with
  | nil => exact h.elim
  | cons v t => exact ⟨v, t, rfl, h.1, h.2⟩
theorem bw_nil {rv : List Value} {stc : List Value} (h : bw_s rv [] stc) : stc = [] := by
  cases stc with
  | nil => rfl
  | cons v t => exact h.elim
theorem bw_s_len {rv : List Value} : ∀ (st : List AV) (stc : List Value), bw_s rv st stc → st.length = stc.length := by
  intro st
  induction st with
  | nil => intro stc h; rw [bw_nil h]; rfl
  | cons a st ih => intro stc h; obtain ⟨v, t, rfl, -, h2⟩ := bw_cons h; simp [ih t h2]
theorem bw_s_drop {rv : List Value} : ∀ (n : Nat) (st : List AV) (stc : List Value), bw_s rv st stc → bw_s rv (st.drop n) (stc.drop n) := by
  intro n
  induction n with
  | zero => intro st stc h; simpa using h
  | succ n ih => intro st stc h; cases st with
    | nil => rw [bw_nil h]; simp; trivial
    | cons a st => obtain ⟨v, t, rfl, -, h2⟩ := bw_cons h; simpa using ih st t h2
theorem bw_s_take {rv : List Value} : ∀ (n : Nat) (st : List AV) (stc : List Value), bw_s rv st stc → bw_s rv (st.take n) (stc.take n) := by
  intro n
  induction n with
  | zero => intro st stc h; simp; trivial
  | succ n ih => intro st stc h; cases st with
    | nil => rw [bw_nil h]; simp; trivial
    | cons a st => obtain ⟨v, t, rfl, h1, h2⟩ := bw_cons h; exact ⟨h1, ih st t h2⟩
theorem bw_s_app {rv : List Value} : ∀ (a : List AV) (b : List Value) (st : List AV) (stc : List Value), bw_s rv a b → bw_s rv st stc → bw_s rv (a ++ st) (b ++ stc) := by
  intro a
  induction a with
  | nil => intro b st stc h h2; rw [bw_nil h]; exact h2
  | cons x a ih => intro b st stc h h2; obtain ⟨v, t, rfl, h1, h3⟩ := bw_cons h; exact ⟨h1, ih t st stc h3 h2⟩
theorem bw_s_rev {rv : List Value} : ∀ (a : List AV) (b : List Value), bw_s rv a b → bw_s rv a.reverse b.reverse := by
  intro a
  induction a with
  | nil => intro b h; rw [bw_nil h]; trivial
  | cons x a ih => intro b h; obtain ⟨v, t, rfl, h1, h3⟩ := bw_cons h; rw [List.reverse_cons, List.reverse_cons]; exact bw_s_app _ _ _ _ (ih t h3) ⟨h1, trivial⟩
def bw_ct (a : AV) : Nat := match a with
  | .inr (.inl _) => 2
  | _ => 1
theorem bw_cat {tys : List (ClassId × FieldType)} {rv : List Value} {ws : va_W} {S : Shp} {M : Mem} (hk : bw_k tys rv ws S M) : ∀ {a : AV} {v : Value}, bw_v rv a v → v.category = bw_ct a
  | .inl _, _, ⟨_, e, _⟩ => by rw [e]; rfl
  | .inr (.inl _), _, ⟨_, e, _⟩ => by rw [e]; rfl
  | .inr (.inr c), v, h => by
    have h' : rv[c]? = some v := h
    rcases hk.2.2.1 c v h' with rfl | ⟨b, rfl⟩ <;> rfl
theorem bw_cats_cons (a : AV) (st : List AV) : bi_cats (a :: st) = bw_ct a + bi_cats st := by
  match a with
  | .inl _ => rfl
  | .inr (.inl _) => rfl
  | .inr (.inr _) => rfl
theorem bw_cats {tys : List (ClassId × FieldType)} {rv : List Value} {ws : va_W} {S : Shp} {M : Mem} (hk : bw_k tys rv ws S M) : ∀ (st : List AV) (stc : List Value), bw_s rv st stc → (stc.map fun v => v.category).sum = bi_cats st := by
  intro st
  induction st with
  | nil => intro stc h; rw [bw_nil h]; rfl
  | cons a st ih =>
    intro stc h
    obtain ⟨v, t, rfl, h1, h2⟩ := bw_cons h
    have h3 := ih t h2
    rw [bw_cats_cons, ← h3, ← bw_cat hk h1]
    rfl
/-- a cell of the world by its number -/
theorem bw_cell {tys : List (ClassId × FieldType)} {rv : List Value} {ws : va_W} {S : Shp} {M : Mem} (hk : bw_k tys rv ws S M) {q : Nat} (h4 : 4 ≤ q) {sh : Nat × Nat × List Nat} (hS : S[q]? = some sh) {v : Value} (hv : rv[q + 1]? = some v) : ∃ a e, v = .ref a ∧ ws[q - 4]? = some (a, e) ∧ bw_c tys rv sh (M q) e := by
  obtain ⟨k1, k2, k3, k4, k5, k6⟩ := hk
  have hq : q < S.length := (List.getElem?_eq_some_iff.mp hS).1
  have hw : ws[q - 4]? = some ws[q - 4] := List.getElem?_eq_getElem (by omega)
  obtain ⟨a, e, he⟩ : ∃ a e, ws[q - 4] = (a, e) := ⟨_, _, rfl⟩
  rw [he] at hw
  have h1 := k5 _ _ _ hw
  rw [show q - 4 + 5 = q + 1 by omega, hv] at h1
  have h2 := k6 _ _ _ sh hw (by rw [show q - 4 + 4 = q by omega]; exact hS)
  rw [show q - 4 + 4 = q by omega] at h2
  exact ⟨a, e, Option.some.inj h1, hw, h2⟩
theorem bw_ref {D : va_G} {tys : List (ClassId × FieldType)} {U : State} {A : Nat → Prop} {H0 H : Heap} {locs : List Loc} {rv : List Value} {ws : va_W} {S : Shp} {M : Mem} (h : bw_w D tys U A H0 H locs rv ws S M) {c : Nat} (hc : ¬ (c = 0 ∨ c = 4)) {v : Value} (hv : rv[c]? = some v) : ∃ a, v = .ref a := by
  obtain ⟨-, -, -, -, ⟨b, N, b1, b2, xs, ys, fv, o1, o2, o3, o4, -⟩, hk⟩ := h
  rcases (show c = 1 ∨ c = 2 ∨ c = 3 ∨ 5 ≤ c by omega) with rfl | rfl | rfl | h5
  · exact ⟨b, Option.some.inj (hv.symm.trans o1.1)⟩
  · exact ⟨b1, Option.some.inj (hv.symm.trans o2.1)⟩
  · exact ⟨b2, Option.some.inj (hv.symm.trans o3.1)⟩
  · have hl : c < rv.length := (List.getElem?_eq_some_iff.mp hv).1
    have h1 := hk.1
    obtain ⟨sh, hsh⟩ : ∃ sh, S[c - 1]? = some sh := ⟨S[c - 1], List.getElem?_eq_getElem (by omega)⟩
    obtain ⟨a, e, h1, -⟩ := bw_cell hk (q := c - 1) (by omega) hsh (by rw [show c - 1 + 1 = c by omega]; exact hv)
    exact ⟨a, h1⟩
theorem bi_dn_ok {m i k : Nat} {x : Instr} (h : bi_dn m i x k = true) : decode (bi_by m) (bi_pc m i) = .ok (x, k) ∧ bi_pc m (i + 1) = bi_pc m i + k := by
  simpa only [bi_dn, bi_d, Bool.and_eq_true, decide_eq_true_eq] using h
theorem bi_d_ok {m i k : Nat} {x : Instr} (h : bi_d m i x k = true) : decode (bi_by m) (bi_pc m i) = .ok (x, k) := by
  simpa only [bi_d, decide_eq_true_eq] using h
theorem bi_off_ok (m i t : Nat) : (bi_pc m i : Int) + bi_off m i t = (bi_pc m t : Int) := by unfold bi_off; omega
theorem bi_ite {α : Type} {p : Prop} [Decidable p] {a b : α} (h : (if p then some a else none) = some b) : p ∧ a = b := by
  by_cases hp : p
  · rw [if_pos hp] at h; exact ⟨hp, Option.some.inj h⟩
  · rw [if_neg hp] at h; cases h
theorem bi_iteO {α : Type} {p : Prop} [Decidable p] {a : Option α} {b : α} (h : (if p then a else none) = some b) : p ∧ a = some b := by
  by_cases hp : p
  · rw [if_pos hp] at h; exact ⟨hp, h⟩
  · rw [if_neg hp] at h; cases h
end
section
/-! INSTRUCTIONS that leave heap and locals: from place i to place j -/
def bw_S (m i j : Nat) (L : Lcl) (st st' : List AV) (S : Shp) (M : Mem) : Prop := ∀ (p : Program) (l : Launch) (e : Env) (R : Room) (s : State) (mid : MethodId) (args : Array Value) (below : List Frame) (meth : Method) (c : Code) (H : Heap) (locs : List Loc) (cells slots : Nat) (Q : State → Prop) (D : va_G) (tys : List (ClassId × FieldType)) (A : Nat → Prop) (rv : List Value) (ws : va_W) (ls : Array Slot) (lvs : List (Nat × Value)) (stc : List Value),
  bw_f m p s mid args meth c A → bw_w D tys s A s.heap H locs rv ws S M → lv_has ls (bi_mL m) lvs → bw_l rv L lvs → bw_s rv st stc → cells ≤ R.cells → slots ≤ R.slots → bi_fr m ≤ R.frames → bi_lo m ≤ R.locals →
  ∃ stc', bw_s rv st' stc' ∧ (W p l e R s mid args below meth c H locs cells slots Q (F0 mid (bi_pc m j) ls stc') → W p l e R s mid args below meth c H locs cells slots Q (F0 mid (bi_pc m i) ls stc))
theorem bw_p {rv : List Value} {a : AV} {v : Value} {st : List AV} {t : List Value} (h : bw_v rv a v) (hs : bw_s rv st t) : bw_s rv (a :: st) (v :: t) := ⟨h, hs⟩
theorem bw_pI {rv : List Value} {x : Int} {y : Int32} {st : List AV} {t : List Value} (h : y.toInt = x) (hs : bw_s rv st t) : bw_s rv (.inl x :: st) (.int y :: t) := ⟨⟨y, rfl, h⟩, hs⟩
theorem bw_pL {rv : List Value} {x : Int} {y : Int64} {st : List AV} {t : List Value} (h : y.toInt = x) (hs : bw_s rv st t) : bw_s rv (.inr (.inl x) :: st) (.long y :: t) := ⟨⟨y, rfl, h⟩, hs⟩
theorem bw_pR {rv : List Value} {c : Nat} {v : Value} {st : List AV} {t : List Value} (h : rv[c]? = some v) (hs : bw_s rv st t) : bw_s rv (.inr (.inr c) :: st) (v :: t) := ⟨h, hs⟩
theorem bw_S_J {m i j : Nat} {L : Lcl} {st st' : List AV} {S : Shp} {M : Mem} {res : Res} (h : bw_S m i j L st st' S M) (hm : S.length ≤ res.1.length ∧ bw_z S ≤ bw_z res.1) (k : bw_J m j L st' S M res) : bw_J m i L st S M res := by
  intro p l e R s mid args below meth c H locs cells slots Q D tys A rv0 rv ws ls lvs stc b0 z0 hF hW hp hl hLl hL hs hc hz hRc hRz hfr hlo hRO
  obtain ⟨stc', h1, h2⟩ := h p l e R s mid args below meth c H locs cells slots Q D tys A rv ws ls lvs stc hF hW hl hL hs (by omega) (by omega) hfr hlo
  exact h2 (k p l e R s mid args below meth c H locs cells slots Q D tys A rv0 rv ws ls lvs stc' b0 z0 hF hW hp hl hLl hL h1 hc hz hRc hRz hfr hlo hRO)
theorem bw_0 {m i : Nat} {hh : List Nat} {a b : Nat} {n : Int} {l' : List Nat} {L : Lcl} {st : List AV} {S : Shp} {M : Mem} (hk : bi_ok m i hh (0, a, b, n, l') = true) : bw_S m i (i + 1) L st (.inl n :: st) S M := by
  intro p l e R s mid args below meth c H locs cells slots Q D tys A rv ws ls lvs stc hF hW hl hL hs hc hz hfr hlo
  obtain ⟨hx, hb, -, -, ho, hts, -⟩ := hF
  simp only [bi_ok, Bool.or_eq_true, Bool.and_eq_true, decide_eq_true_eq] at hk
  rcases hk with ((⟨hd, hv⟩ | ⟨hd, hv⟩) | ⟨hd, hv⟩) | hd
  · obtain ⟨hd, hn⟩ := bi_dn_ok hd
    rw [hn]
    exact ⟨_, (bw_pI (hv) hs), fun k => lv_iconst hx hb hd rfl k⟩
  · obtain ⟨hd, hn⟩ := bi_dn_ok hd
    rw [hn]
    exact ⟨_, (bw_pI (hv) hs), fun k => lv_bipush hx hb hd rfl k⟩
  · obtain ⟨hd, hn⟩ := bi_dn_ok hd
    rw [hn]
    exact ⟨_, (bw_pI (hv) hs), fun k => lv_sipush hx hb hd rfl k⟩
  · unfold bi_cfI at hd
    split at hd
    · simp only [Bool.or_eq_true, Bool.and_eq_true, decide_eq_true_eq] at hd
      obtain ⟨⟨⟨-, hw⟩, hv⟩, hd | hd⟩ := hd
      · obtain ⟨hd, hn⟩ := bi_dn_ok hd
        rw [hn]
        exact ⟨_, (bw_pI (hv) hs), fun k => lv_ldc hx hb ho (hts _ (bi_w_ok hw)) hd k⟩
      · obtain ⟨hd, hn⟩ := bi_dn_ok hd
        rw [hn]
        exact ⟨_, (bw_pI (hv) hs), fun k => lv_ldcw hx hb ho (hts _ (bi_w_ok hw)) hd k⟩
    · cases hd
theorem bw_9 {m i : Nat} {hh : List Nat} {a b : Nat} {n : Int} {l' : List Nat} {L : Lcl} {st : List AV} {S : Shp} {M : Mem} (hk : bi_ok m i hh (9, a, b, n, l') = true) : bw_S m i (i + 1) L st (.inr (.inl n) :: st) S M := by
  intro p l e R s mid args below meth c H locs cells slots Q D tys A rv ws ls lvs stc hF hW hl hL hs hc hz hfr hlo
  obtain ⟨hx, hb, -, -, ho, hts, -⟩ := hF
  simp only [bi_ok, Bool.or_eq_true, Bool.and_eq_true, decide_eq_true_eq] at hk
  rcases hk with (⟨hd, rfl⟩ | ⟨hd, rfl⟩) | hd
  · obtain ⟨hd, hn⟩ := bi_dn_ok hd
    rw [hn]
    exact ⟨_, (bw_pL (by decide) hs), fun k => lv_lconst hx hb hd rfl k⟩
  · obtain ⟨hd, hn⟩ := bi_dn_ok hd
    rw [hn]
    exact ⟨_, (bw_pL (by decide) hs), fun k => lv_lconst hx hb hd rfl k⟩
  · unfold bi_cfL at hd
    split at hd
    · simp only [Bool.and_eq_true, decide_eq_true_eq] at hd
      obtain ⟨⟨⟨-, hw⟩, hv⟩, hd⟩ := hd
      obtain ⟨hd, hn⟩ := bi_dn_ok hd
      rw [hn]
      exact ⟨_, (bw_pL (hv) hs), fun k => lv_ldc2 hx hb ho (hts _ (bi_w_ok hw)) hd k⟩
    · cases hd
theorem bw_1 {m i : Nat} {hh : List Nat} {a b : Nat} {n : Int} {l' : List Nat} {L : Lcl} {st : List AV} {S : Shp} {M : Mem} {v : AV} (hk : bi_ok m i hh (1, a, b, n, l') = true) (hv : bi_load b L[a]? = some v) : bw_S m i (i + 1) L st (v :: st) S M := by
  intro p l e R s mid args below meth c H locs cells slots Q D tys A rv ws ls lvs stc hF hW hl hL hs hc hz hfr hlo
  obtain ⟨hx, hb, -⟩ := hF
  unfold bi_load at hv
  split at hv
  · rename_i x hLa
    cases hv
    obtain ⟨cv, hm, y, rfl, hy⟩ := hL a _ hLa
    have hat := hl.2.2 _ hm
    simp only [bi_ok, Bool.or_eq_true] at hk
    rcases hk with hd | hd
    · obtain ⟨hd, hn⟩ := bi_dn_ok hd
      rw [hn]
      exact ⟨_, (bw_pI (hy) hs), fun k => lv_iload hx hb hd hat k⟩
    · split at hd
      · obtain ⟨hd, hn⟩ := bi_dn_ok hd
        rw [hn]
        exact ⟨_, (bw_pI (hy) hs), fun k => lv_iload_n hx hb hd rfl hat k⟩
      · cases hd
  · rename_i x hLa
    split at hv
    · cases hv
    · rename_i hc0
      cases hv
      obtain ⟨cv, hm, hy⟩ := hL a _ hLa
      obtain ⟨ad, rfl⟩ := bw_ref hW hc0 hy
      have hat := hl.2.2 _ hm
      simp only [bi_ok] at hk
      split at hk
      · obtain ⟨hd, hn⟩ := bi_dn_ok hk
        rw [hn]
        exact ⟨_, (bw_pR (hy) hs), fun k => lv_aload_n hx hb hd rfl hat k⟩
      · cases hk
  · rename_i x hLa
    cases hv
    obtain ⟨cv, hm, y, rfl, hy⟩ := hL a _ hLa
    have hat := hl.2.2 _ hm
    simp only [bi_ok, Bool.or_eq_true] at hk
    rcases hk with hd | hd
    · obtain ⟨hd, hn⟩ := bi_dn_ok hd
      rw [hn]
      exact ⟨_, (bw_pL (hy) hs), fun k => lv_lload hx hb hd hat k⟩
    · split at hd
      · obtain ⟨hd, hn⟩ := bi_dn_ok hd
        rw [hn]
        exact ⟨_, (bw_pL (hy) hs), fun k => lv_lload_n hx hb hd rfl hat k⟩
      · cases hd
  · cases hv
theorem bw_3 {m i : Nat} {hh : List Nat} {a b : Nat} {n : Int} {l' : List Nat} {L : Lcl} {st : List AV} {S : Shp} {M : Mem} {x y z : Int} (hk : bi_ok m i hh (3, a, b, n, l') = true) (hv : bi_bin a x y = some z) : bw_S m i (i + 1) L (.inl y :: .inl x :: st) (.inl z :: st) S M := by
  intro p l e R s mid args below meth c H locs cells slots Q D tys A rv ws ls lvs stc hF hW hl hL hs hc hz hfr hlo
  obtain ⟨hx, hb, -⟩ := hF
  obtain ⟨vy, t1, rfl, ⟨y', rfl, rfl⟩, hs1⟩ := bw_cons hs
  obtain ⟨vx, t2, rfl, ⟨x', rfl, rfl⟩, hs2⟩ := bw_cons hs1
  simp only [bi_ok] at hk
  obtain ⟨hd, hn⟩ := bi_dn_ok hk
  rw [hn]
  match a, hv, hd with
  | 0, hv, hd => obtain ⟨h1, rfl⟩ := bi_ite hv; exact ⟨_, (bw_pI (nu_add h1) hs2), fun k => lv_iadd hx hb hd k⟩
  | 1, hv, hd => obtain ⟨h1, rfl⟩ := bi_ite hv; exact ⟨_, (bw_pI (nu_sub h1) hs2), fun k => lv_isub hx hb hd k⟩
  | 2, hv, hd => obtain ⟨h1, rfl⟩ := bi_ite hv; exact ⟨_, (bw_pI (nu_mul h1) hs2), fun k => lv_imul hx hb hd k⟩
  | 3, hv, hd => obtain ⟨h1, rfl⟩ := bi_ite hv; exact ⟨_, (bw_pI (nu_div h1.1 h1.2) hs2), fun k => lv_idiv hx hb hd (fun q => by rw [q] at h1; exact absurd h1.2 (by decide)) k⟩
  | 4, hv, hd => obtain ⟨h1, rfl⟩ := bi_ite hv; exact ⟨_, (bw_pI (nu_rem h1.1 h1.2) hs2), fun k => lv_irem hx hb hd (fun q => by rw [q] at h1; exact absurd h1.2 (by decide)) k⟩
  | 5, hv, hd => obtain ⟨h1, rfl⟩ := bi_ite hv; exact ⟨_, (bw_pI (nu_shl h1.1 h1.2.1 h1.2.2.1 h1.2.2.2) hs2), fun k => lv_ishl hx hb hd k⟩
  | 6, hv, hd => obtain ⟨h1, rfl⟩ := bi_ite hv; exact ⟨_, (bw_pI (nu_shr h1.1 h1.2.1 h1.2.2) hs2), fun k => lv_ishr hx hb hd k⟩
  | 7, hv, hd => obtain ⟨h1, rfl⟩ := bi_ite hv; exact ⟨_, (bw_pI (nu_ushr h1.1 h1.2.1 h1.2.2) hs2), fun k => lv_iushr hx hb hd rfl k⟩
  | 8, hv, hd => exact ⟨_, (bw_pI (nu_bi_and hv) hs2), fun k => lv_iand hx hb hd k⟩
  | 9, hv, hd =>
    obtain ⟨h1, rfl⟩ := bi_ite hv
    obtain ⟨u, hu, -, eu⟩ := nu_nat h1.1
    obtain ⟨w, hw, -, ew⟩ := nu_nat h1.2
    exact ⟨_, (bw_pI (by rw [nu_or hu hw eu ew, eu, ew]; rfl) hs2), fun k => lv_ior hx hb hd k⟩
  | 10, hv, hd =>
    simp only [bi_bin] at hv
    split at hv
    · rename_i h1
      cases hv
      obtain ⟨u, hu, -, eu⟩ := nu_nat h1.1
      obtain ⟨w, hw, -, ew⟩ := nu_nat h1.2
      exact ⟨_, (bw_pI (by rw [nu_xor hu hw eu ew, eu, ew]; rfl) hs2), fun k => lv_ixor hx hb hd k⟩
    · obtain ⟨h1, rfl⟩ := bi_ite hv
      exact ⟨_, (bw_pI (nu_not h1) hs2), fun k => lv_ixor hx hb hd k⟩
  | a + 11, hv, hd => cases hv
theorem bw_4 {m i : Nat} {hh : List Nat} {a b : Nat} {n : Int} {l' : List Nat} {L : Lcl} {st : List AV} {S : Shp} {M : Mem} {x z : Int} (hk : bi_ok m i hh (4, a, b, n, l') = true) (hv : bi_un a x = some z) : bw_S m i (i + 1) L (.inl x :: st) (.inl z :: st) S M := by
  intro p l e R s mid args below meth c H locs cells slots Q D tys A rv ws ls lvs stc hF hW hl hL hs hc hz hfr hlo
  obtain ⟨hx, hb, -⟩ := hF
  obtain ⟨vx, t2, rfl, ⟨x', rfl, rfl⟩, hs1⟩ := bw_cons hs
  simp only [bi_ok] at hk
  obtain ⟨hd, hn⟩ := bi_dn_ok hk
  rw [hn]
  match a, hv, hd with
  | 0, hv, hd => obtain ⟨h1, rfl⟩ := bi_ite hv; exact ⟨_, (bw_pI (nu_neg h1) hs1), fun k => lv_ineg hx hb hd k⟩
  | 1, hv, hd => obtain ⟨h1, rfl⟩ := bi_ite hv; exact ⟨_, (bw_pI (y := x') (rfl) hs1), fun k => lv_i2b hx hb hd (nu_b8 h1.1 h1.2) k⟩
  | 2, hv, hd => obtain ⟨h1, rfl⟩ := bi_ite hv; exact ⟨_, (bw_pI (y := x') (rfl) hs1), fun k => lv_i2c hx hb hd (nu_c16 h1.1 h1.2) k⟩
  | a + 3, hv, hd => cases hv
theorem bw_5 {m i : Nat} {hh : List Nat} {a b : Nat} {n : Int} {l' : List Nat} {L : Lcl} {st : List AV} {S : Shp} {M : Mem} {x : Int} (hk : bi_ok m i hh (5, a, b, n, l') = true) : bw_S m i (i + 1) L (.inl x :: st) (.inr (.inl x) :: st) S M := by
  intro p l e R s mid args below meth c H locs cells slots Q D tys A rv ws ls lvs stc hF hW hl hL hs hc hz hfr hlo
  obtain ⟨hx, hb, -⟩ := hF
  obtain ⟨vx, t2, rfl, ⟨x', rfl, rfl⟩, hs1⟩ := bw_cons hs
  simp only [bi_ok] at hk
  obtain ⟨hd, hn⟩ := bi_dn_ok hk
  rw [hn]
  exact ⟨_, (bw_pL (y := x'.toInt64) (Int32.toInt_toInt64 x') hs1), fun k => lv_i2l hx hb hd rfl k⟩
theorem bw_6 {m i : Nat} {hh : List Nat} {a b : Nat} {n : Int} {l' : List Nat} {L : Lcl} {st : List AV} {S : Shp} {M : Mem} {x : Int} (hk : bi_ok m i hh (6, a, b, n, l') = true) (hv : inR x) : bw_S m i (i + 1) L (.inr (.inl x) :: st) (.inl x :: st) S M := by
  intro p l e R s mid args below meth c H locs cells slots Q D tys A rv ws ls lvs stc hF hW hl hL hs hc hz hfr hlo
  obtain ⟨hx, hb, -⟩ := hF
  obtain ⟨vx, t2, rfl, ⟨x', rfl, rfl⟩, hs1⟩ := bw_cons hs
  simp only [bi_ok] at hk
  obtain ⟨hd, hn⟩ := bi_dn_ok hk
  rw [hn]
  exact ⟨_, (bw_pI (y := x'.toInt32) (by rw [Int64.toInt_toInt32, nu_bm hv]) hs1), fun k => lv_l2i hx hb hd rfl k⟩
theorem bw_7 {m i : Nat} {hh : List Nat} {a b : Nat} {n : Int} {l' : List Nat} {L : Lcl} {st : List AV} {S : Shp} {M : Mem} {x y z : Int} (hk : bi_ok m i hh (7, a, b, n, l') = true) (hv : bi_lbin a x y = some z) : bw_S m i (i + 1) L (.inr (.inl y) :: .inr (.inl x) :: st) (.inr (.inl z) :: st) S M := by
  intro p l e R s mid args below meth c H locs cells slots Q D tys A rv ws ls lvs stc hF hW hl hL hs hc hz hfr hlo
  obtain ⟨hx, hb, -⟩ := hF
  obtain ⟨vy, t1, rfl, ⟨y', rfl, rfl⟩, hs1⟩ := bw_cons hs
  obtain ⟨vx, t2, rfl, ⟨x', rfl, rfl⟩, hs2⟩ := bw_cons hs1
  simp only [bi_ok] at hk
  obtain ⟨hd, hn⟩ := bi_dn_ok hk
  rw [hn]
  match a, hv, hd with
  | 0, hv, hd => obtain ⟨h1, rfl⟩ := bi_ite hv; exact ⟨_, (bw_pL (nu_ladd h1) hs2), fun k => lv_ladd hx hb hd k⟩
  | 1, hv, hd => obtain ⟨h1, rfl⟩ := bi_ite hv; exact ⟨_, (bw_pL (nu_lmul h1) hs2), fun k => lv_lmul hx hb hd k⟩
  | 2, hv, hd => obtain ⟨h1, rfl⟩ := bi_ite hv; exact ⟨_, (bw_pL (nu_lrem h1.1 h1.2) hs2), fun k => lv_lrem hx hb hd (fun q => by rw [q] at h1; exact absurd h1.2 (by decide)) k⟩
  | a + 3, hv, hd => cases hv
theorem bw_8 {m i : Nat} {hh : List Nat} {a b : Nat} {n : Int} {l' : List Nat} {L : Lcl} {st : List AV} {S : Shp} {M : Mem} {x y : Int} (hk : bi_ok m i hh (8, a, b, n, l') = true) : bw_S m i (i + 1) L (.inr (.inl y) :: .inr (.inl x) :: st) (.inl (if x < y then -1 else if x = y then 0 else 1) :: st) S M := by
  intro p l e R s mid args below meth c H locs cells slots Q D tys A rv ws ls lvs stc hF hW hl hL hs hc hz hfr hlo
  obtain ⟨hx, hb, -⟩ := hF
  obtain ⟨vy, t1, rfl, ⟨y', rfl, rfl⟩, hs1⟩ := bw_cons hs
  obtain ⟨vx, t2, rfl, ⟨x', rfl, rfl⟩, hs2⟩ := bw_cons hs1
  simp only [bi_ok] at hk
  obtain ⟨hd, hn⟩ := bi_dn_ok hk
  rw [hn]
  refine ⟨_, (bw_pI (y := lg_cmp x' y') ?_ hs2), fun k => W.lcmp hx hb hd k⟩
  unfold lg_cmp
  have e1 : x' > y' ↔ y'.toInt < x'.toInt := Int64.lt_iff_toInt_lt
  have e2 : x' = y' ↔ x'.toInt = y'.toInt := nu_leq
  rcases Int.lt_trichotomy x'.toInt y'.toInt with h | h | h
  · rw [if_neg (fun q => by have := e1.mp q; omega), if_neg (fun q => by have := e2.mp q; omega), if_pos h]; decide
  · rw [if_neg (fun q => by have := e1.mp q; omega), if_pos (e2.mpr h), if_neg (by omega), if_pos h]; decide
  · rw [if_pos (e1.mpr h), if_neg (by omega), if_neg (by omega)]; decide
theorem bw_11 {m i : Nat} {hh : List Nat} {a b : Nat} {n : Int} {l' : List Nat} {L : Lcl} {st : List AV} {S : Shp} {M : Mem} (hk : bi_ok m i hh (11, a, b, n, l') = true) : bw_S m i a L st st S M := by
  intro p l e R s mid args below meth c H locs cells slots Q D tys A rv ws ls lvs stc hF hW hl hL hs hc hz hfr hlo
  obtain ⟨hx, hb, -⟩ := hF
  simp only [bi_ok] at hk
  exact ⟨_, hs, fun k => lv_goto hx hb (bi_d_ok hk) (bi_off_ok m i a) k⟩
theorem bw_12 {m i : Nat} {hh : List Nat} {a b : Nat} {n : Int} {l' : List Nat} {L : Lcl} {st : List AV} {S : Shp} {M : Mem} {x y : Int} (hk : bi_ok m i hh (12, a, b, n, l') = true) : bw_S m i (if bi_cond b x y = true then a else i + 1) L (.inl y :: .inl x :: st) st S M := by
  intro p l e R s mid args below meth c H locs cells slots Q D tys A rv ws ls lvs stc hF hW hl hL hs hc hz hfr hlo
  obtain ⟨hx, hb, -⟩ := hF
  obtain ⟨vy, t1, rfl, ⟨y', rfl, rfl⟩, hs1⟩ := bw_cons hs
  obtain ⟨vx, t2, rfl, ⟨x', rfl, rfl⟩, hs2⟩ := bw_cons hs1
  simp only [bi_ok] at hk
  obtain ⟨hd, hn⟩ := bi_dn_ok hk
  refine ⟨_, hs2, fun k => ?_⟩
  have ht := bi_off_ok m i a
  have hlt : ∀ u v : Int32, u < v ↔ u.toInt < v.toInt := fun u v => Int32.lt_iff_toInt_lt
  have hle : ∀ u v : Int32, u ≤ v ↔ u.toInt ≤ v.toInt := fun u v => Int32.le_iff_toInt_le
  match b, hd, k with
  | 0, hd, k => exact lv_icmp_eq (tgt := bi_pc m a) hx hb hd ht (fun h => by rw [if_pos (show bi_cond 0 x'.toInt y'.toInt = true from decide_eq_true (nu_eq.mp h))] at k; exact k) (fun h => by rw [if_neg (show ¬ bi_cond 0 x'.toInt y'.toInt = true from fun z => (fun q => h (nu_eq.mpr q)) (of_decide_eq_true z)), hn] at k; exact k)
  | 1, hd, k => exact lv_icmp_ne (tgt := bi_pc m a) hx hb hd ht (fun h => by rw [if_pos (show bi_cond 1 x'.toInt y'.toInt = true from decide_eq_true (fun q => h (nu_eq.mpr q)))] at k; exact k) (fun h => by rw [if_neg (show ¬ bi_cond 1 x'.toInt y'.toInt = true from fun z => (fun q => q (nu_eq.mp h)) (of_decide_eq_true z)), hn] at k; exact k)
  | 2, hd, k => exact lv_icmp_lt (tgt := bi_pc m a) hx hb hd ht (fun h => by rw [if_pos (show bi_cond 2 x'.toInt y'.toInt = true from decide_eq_true ((hlt _ _).mp h))] at k; exact k) (fun h => by rw [if_neg (show ¬ bi_cond 2 x'.toInt y'.toInt = true from fun z => (fun q => h ((hlt _ _).mpr q)) (of_decide_eq_true z)), hn] at k; exact k)
  | 3, hd, k => exact lv_icmp_ge (tgt := bi_pc m a) hx hb hd ht (fun h => by rw [if_pos (show bi_cond 3 x'.toInt y'.toInt = true from decide_eq_true ((hle _ _).mp h))] at k; exact k) (fun h => by rw [if_neg (show ¬ bi_cond 3 x'.toInt y'.toInt = true from fun z => (fun q => h ((hle _ _).mpr q)) (of_decide_eq_true z)), hn] at k; exact k)
  | 4, hd, k => exact lv_icmp_gt (tgt := bi_pc m a) hx hb hd ht (fun h => by rw [if_pos (show bi_cond 4 x'.toInt y'.toInt = true from decide_eq_true ((hlt _ _).mp h))] at k; exact k) (fun h => by rw [if_neg (show ¬ bi_cond 4 x'.toInt y'.toInt = true from fun z => (fun q => h ((hlt _ _).mpr q)) (of_decide_eq_true z)), hn] at k; exact k)
  | b + 5, hd, k => exact lv_icmp_le (tgt := bi_pc m a) hx hb hd ht (fun h => by rw [if_pos (show bi_cond (b + 5) x'.toInt y'.toInt = true from decide_eq_true ((hle _ _).mp h))] at k; exact k) (fun h => by rw [if_neg (show ¬ bi_cond (b + 5) x'.toInt y'.toInt = true from fun z => (fun q => h ((hle _ _).mpr q)) (of_decide_eq_true z)), hn] at k; exact k)
theorem bw_13 {m i : Nat} {hh : List Nat} {a b : Nat} {n : Int} {l' : List Nat} {L : Lcl} {st : List AV} {S : Shp} {M : Mem} {x : Int} (hk : bi_ok m i hh (13, a, b, n, l') = true) : bw_S m i (if bi_cond b x 0 = true then a else i + 1) L (.inl x :: st) st S M := by
  intro p l e R s mid args below meth c H locs cells slots Q D tys A rv ws ls lvs stc hF hW hl hL hs hc hz hfr hlo
  obtain ⟨hx, hb, -⟩ := hF
  obtain ⟨vx, t2, rfl, ⟨x', rfl, rfl⟩, hs1⟩ := bw_cons hs
  simp only [bi_ok] at hk
  obtain ⟨hd, hn⟩ := bi_dn_ok hk
  refine ⟨_, hs1, fun k => ?_⟩
  have ht := bi_off_ok m i a
  have h00 : (0 : Int32).toInt = 0 := by decide
  have hlt : ∀ u v : Int32, u < v ↔ u.toInt < v.toInt := fun u v => Int32.lt_iff_toInt_lt
  have hle : ∀ u v : Int32, u ≤ v ↔ u.toInt ≤ v.toInt := fun u v => Int32.le_iff_toInt_le
  match b, hd, k with
  | 0, hd, k => exact lv_if_eq (tgt := bi_pc m a) hx hb hd ht (fun h => by rw [if_pos (show bi_cond 0 x'.toInt 0 = true from decide_eq_true ((nu_eq.mp h).trans h00))] at k; exact k) (fun h => by rw [if_neg (show ¬ bi_cond 0 x'.toInt 0 = true from fun z => (fun q => h (nu_eq.mpr (q.trans h00.symm))) (of_decide_eq_true z)), hn] at k; exact k)
  | 1, hd, k => exact lv_if_ne (tgt := bi_pc m a) hx hb hd ht (fun h => by rw [if_pos (show bi_cond 1 x'.toInt 0 = true from decide_eq_true (fun q => h (nu_eq.mpr (q.trans h00.symm))))] at k; exact k) (fun h => by rw [if_neg (show ¬ bi_cond 1 x'.toInt 0 = true from fun z => (fun q => q ((nu_eq.mp h).trans h00)) (of_decide_eq_true z)), hn] at k; exact k)
  | 2, hd, k => exact lv_if_lt (tgt := bi_pc m a) hx hb hd ht (fun h => by rw [if_pos (show bi_cond 2 x'.toInt 0 = true from decide_eq_true (by have z := (hlt _ _).mp h; rw [h00] at z; exact z))] at k; exact k) (fun h => by rw [if_neg (show ¬ bi_cond 2 x'.toInt 0 = true from fun z => (fun q => h ((hlt _ _).mpr (by rw [h00]; exact q))) (of_decide_eq_true z)), hn] at k; exact k)
  | 3, hd, k => exact lv_if_ge (tgt := bi_pc m a) hx hb hd ht (fun h => by rw [if_pos (show bi_cond 3 x'.toInt 0 = true from decide_eq_true (by have z := (hle _ _).mp h; rw [h00] at z; exact z))] at k; exact k) (fun h => by rw [if_neg (show ¬ bi_cond 3 x'.toInt 0 = true from fun z => (fun q => h ((hle _ _).mpr (by rw [h00]; exact q))) (of_decide_eq_true z)), hn] at k; exact k)
  | 4, hd, k => exact lv_if_gt (tgt := bi_pc m a) hx hb hd ht (fun h => by rw [if_pos (show bi_cond 4 x'.toInt 0 = true from decide_eq_true (by have z := (hlt _ _).mp h; rw [h00] at z; exact z))] at k; exact k) (fun h => by rw [if_neg (show ¬ bi_cond 4 x'.toInt 0 = true from fun z => (fun q => h ((hlt _ _).mpr (by rw [h00]; exact q))) (of_decide_eq_true z)), hn] at k; exact k)
  | b + 5, hd, k => exact lv_if_le (tgt := bi_pc m a) hx hb hd ht (fun h => by rw [if_pos (show bi_cond (b + 5) x'.toInt 0 = true from decide_eq_true (by have z := (hle _ _).mp h; rw [h00] at z; exact z))] at k; exact k) (fun h => by rw [if_neg (show ¬ bi_cond (b + 5) x'.toInt 0 = true from fun z => (fun q => h ((hle _ _).mpr (by rw [h00]; exact q))) (of_decide_eq_true z)), hn] at k; exact k)
theorem bw_28 {m i : Nat} {hh : List Nat} {a b : Nat} {n : Int} {l' : List Nat} {L : Lcl} {st : List AV} {S : Shp} {M : Mem} {v : AV} (hk : bi_ok m i hh (28, a, b, n, l') = true) (hv : bi_isL (some (some v)) = false) : bw_S m i (i + 1) L (v :: st) (v :: v :: st) S M := by
  intro p l e R s mid args below meth c H locs cells slots Q D tys A rv ws ls lvs stc hF hW hl hL hs hc hz hfr hlo
  obtain ⟨hx, hb, -⟩ := hF
  obtain ⟨vx, t2, rfl, hv1, hs1⟩ := bw_cons hs
  simp only [bi_ok] at hk
  obtain ⟨hd, hn⟩ := bi_dn_ok hk
  rw [hn]
  have hc1 : vx.category = 1 := by
    rw [bw_cat hW.2.2.2.2.2 hv1]
    match v, hv with
    | .inl _, _ => rfl
    | .inr (.inr _), _ => rfl
  exact ⟨_, (bw_p hv1 (bw_p hv1 hs1)), fun k => lv_dup hx hb hd hc1 k⟩
theorem bw_29 {m i : Nat} {hh : List Nat} {a b : Nat} {n : Int} {l' : List Nat} {L : Lcl} {st : List AV} {S : Shp} {M : Mem} {x : Int} {q : Nat} (hk : bi_ok m i hh (29, a, b, n, l') = true) : bw_S m i (i + 1) L (.inl x :: .inr (.inr q) :: st) (.inl x :: .inr (.inr q) :: .inl x :: .inr (.inr q) :: st) S M := by
  intro p l e R s mid args below meth c H locs cells slots Q D tys A rv ws ls lvs stc hF hW hl hL hs hc hz hfr hlo
  obtain ⟨hx, hb, -⟩ := hF
  obtain ⟨vx, t1, rfl, hv1, hs1⟩ := bw_cons hs
  obtain ⟨vy, t2, rfl, hv2, hs2⟩ := bw_cons hs1
  simp only [bi_ok] at hk
  obtain ⟨hd, hn⟩ := bi_dn_ok hk
  rw [hn]
  exact ⟨_, (bw_p hv1 (bw_p hv2 (bw_p hv1 (bw_p hv2 hs2)))), fun k => lv_dup2_11 hx hb hd (bw_cat hW.2.2.2.2.2 hv1) (bw_cat hW.2.2.2.2.2 hv2) k⟩
theorem bw_30 {m i : Nat} {hh : List Nat} {a b : Nat} {n : Int} {l' : List Nat} {L : Lcl} {st : List AV} {S : Shp} {M : Mem} {x : Int} (hk : bi_ok m i hh (30, a, b, n, l') = true) : bw_S m i (i + 1) L (.inl x :: st) st S M := by
  intro p l e R s mid args below meth c H locs cells slots Q D tys A rv ws ls lvs stc hF hW hl hL hs hc hz hfr hlo
  obtain ⟨hx, hb, -⟩ := hF
  obtain ⟨vx, t1, rfl, hv1, hs1⟩ := bw_cons hs
  simp only [bi_ok] at hk
  obtain ⟨hd, hn⟩ := bi_dn_ok hk
  rw [hn]
  exact ⟨_, hs1, fun k => lv_pop hx hb hd (bw_cat hW.2.2.2.2.2 hv1) k⟩
end
section
/-! INSTRUCTIONS that read fields and arrays, switches, the library's small functions -/
theorem bw_c_0 (tys : List (ClassId × FieldType)) (rv : List Value) (n : Nat) (rs : List Nat) (f : Nat → Int) (e : va_E) : bw_c tys rv (0, n, rs) f e ↔ ∃ (cA : ClassId) (t0 : Nat) (g : Nat → Int32), tys[t0]? = some (cA, .int) ∧ e = .inl (cA, n, .inl g) ∧ n ≤ 65536 ∧ ∀ j, j < n → (g j).toInt = f j := Iff.rfl
theorem bw_c_1 (tys : List (ClassId × FieldType)) (rv : List Value) (n : Nat) (rs : List Nat) (f : Nat → Int) (e : va_E) : bw_c tys rv (1, n, rs) f e ↔ ∃ (cA : ClassId) (t0 : Nat) (g : Nat → Int32), tys[t0]? = some (cA, .byte) ∧ e = .inl (cA, n, .inl g) ∧ n ≤ 65536 ∧ ∀ j, j < n → (g j).toInt = f j := Iff.rfl
theorem bw_c_2 (tys : List (ClassId × FieldType)) (rv : List Value) (n : Nat) (rs : List Nat) (f : Nat → Int) (e : va_E) : bw_c tys rv (2, n, rs) f e ↔ ∃ (cA : ClassId) (t0 : Nat) (g : Nat → Option Nat), tys[t0]? = some (cA, .object "ByInitials$Town") ∧ e = .inl (cA, n, .inr (.inr (.inr (.inr g)))) ∧ n ≤ 65536 ∧ ∀ j, j < n → rv[(f j).toNat]? = some (va_rf (g j)) := Iff.rfl
theorem bw_c_3 (tys : List (ClassId × FieldType)) (rv : List Value) (c n : Nat) (rs : List Nat) (f : Nat → Int) (e : va_E) : bw_c tys rv (c + 3, n, rs) f e ↔ ∃ fs : List Value, e = .inr (c, fs) ∧ fs.length = n ∧ n = (bi_cls c).2.2 ∧ c < 10 ∧ rs.length = n ∧ ∀ j, j < n → ∃ v, fs[j]? = some v ∧ (if bi_isI c j = true then ∃ y : Int32, v = .int y ∧ y.toInt = f j else rv[rs.getD j 0]? = some v) := Iff.rfl
theorem bw_cl : ∀ a, a < 10 → vwCl[a]? = some ((bi_cls a).1, (bi_cls a).2.1, (bi_cls a).2.2) := by
  intro a ha
  rcases (show a = 0 ∨ a = 1 ∨ a = 2 ∨ a = 3 ∨ a = 4 ∨ a = 5 ∨ a = 6 ∨ a = 7 ∨ a = 8 ∨ a = 9 by omega) with rfl | rfl | rfl | rfl | rfl | rfl | rfl | rfl | rfl | rfl <;> rfl
theorem bw_uws : ∀ a, a < 10 → ∀ w ∈ u_ws (bi_cls a).1 (bi_cls a).2.1 (bi_cls a).2.2, w ∈ wAll := by decide +kernel
/-- one of the four cells outside, by its kind -/
theorem bw_ouk {A : Nat → Prop} {U : State} {H : Heap} {rv : List Value} {S : Shp} {M : Mem} (h : bw_ou A U H rv S M) {q kd n' : Nat} {rs : List Nat} (h4 : ¬ 4 ≤ q) (hS : S[q]? = some (kd, n', rs)) : (q = 0 ∧ kd = 0) ∨ (q = 1 ∧ kd = 13 ∧ n' = 2 ∧ rs = [3, 0]) ∨ (q = 2 ∧ kd = 1 ∧ n' = 41) ∨ (q = 3 ∧ kd = 2 ∧ n' = 0) := by
  obtain ⟨b, N, b1, b2, xs, ys, fv, o1, o2, o3, o4, -⟩ := h
  rcases (show q = 0 ∨ q = 1 ∨ q = 2 ∨ q = 3 by omega) with rfl | rfl | rfl | rfl
  · have := Option.some.inj (hS.symm.trans o1.2.1); cases this; exact Or.inl ⟨rfl, rfl⟩
  · have := Option.some.inj (hS.symm.trans o2.2.1); cases this; exact Or.inr (Or.inl ⟨rfl, rfl, rfl, rfl⟩)
  · have := Option.some.inj (hS.symm.trans o3.2.1); cases this; exact Or.inr (Or.inr (Or.inl ⟨rfl, rfl, rfl⟩))
  · have := Option.some.inj (hS.symm.trans o4.2.1); cases this; exact Or.inr (Or.inr (Or.inr ⟨rfl, rfl, rfl⟩))
theorem bw_14 {m i : Nat} {hh : List Nat} {a b : Nat} {n : Int} {l' : List Nat} {L : Lcl} {st : List AV} {S : Shp} {M : Mem} {q kd n' : Nat} {rs : List Nat} (hk : bi_ok m i hh (14, a, b, n, l') = true) (hS : S[q]? = some (kd, n', rs)) (h1 : kd = a + 3 ∧ b < n') : bw_S m i (i + 1) L (.inr (.inr (q + 1)) :: st) (.inl (M q b) :: st) S M := by
  intro p l e R s mid args below meth c H locs cells slots Q D tys A rv ws ls lvs stc hF hW hl hL hs hc hz hfr hlo
  obtain ⟨hx, hb, -, -, ho, hts, -⟩ := hF
  obtain ⟨v, t, rfl, hv, hs1⟩ := bw_cons hs
  obtain ⟨rfl, hbn⟩ := h1
  by_cases h4 : 4 ≤ q
  · obtain ⟨ad, e', rfl, hws, hcell⟩ := bw_cell hW.2.2.2.2.2 h4 hS hv
    obtain ⟨fs, rfl, hfl, hN, ha, hrs, hfield⟩ := (bw_c_3 tys rv a n' rs (M q) e').mp hcell
    have hk' : (bi_fw (bi_own m) (hh.headD 0) a b (bi_jn (hh.headD 0)) && bi_isI a b && bi_dn m i (.getfield (bi_jn (hh.headD 0))) 3) = true := by
      rcases (show a = 0 ∨ a = 1 ∨ a = 2 ∨ a = 3 ∨ a = 4 ∨ a = 5 ∨ a = 6 ∨ a = 7 ∨ a = 8 ∨ a = 9 by omega) with rfl | rfl | rfl | rfl | rfl | rfl | rfl | rfl | rfl | rfl <;> exact hk
    simp only [Bool.and_eq_true, bi_fw, decide_eq_true_eq] at hk'
    obtain ⟨⟨⟨⟨hw, hbN⟩, -⟩, hI⟩, hd⟩ := hk'
    obtain ⟨hd, hn⟩ := bi_dn_ok hd
    rw [hn]
    obtain ⟨fv, hfv, hcond⟩ := hfield b hbn
    rw [if_pos hI] at hcond
    obtain ⟨y, rfl, hy⟩ := hcond
    exact ⟨.int y :: t, (bw_pI (y := y) (hy) hs1), fun k => va_get (D := D) (ci := a) (C := (bi_cls a).1) (T := (bi_cls a).2.1) (N := (bi_cls a).2.2) hx hb hts (bw_uws a ha) ho hW.1 hW.2.1 (q - 4) hws (bw_cl a ha) b hbN (hts _ (bi_w_ok hw)) (fun _ h => h) hfv hd k⟩
  · have hou := hW.2.2.2.2.1
    rcases bw_ouk hou h4 hS with ⟨-, h⟩ | ⟨rfl, h, rfl, -⟩ | ⟨-, h, -⟩ | ⟨-, h, -⟩
    · omega
    · have ha : a = 10 := by omega
      subst ha
      obtain ⟨b', N, b1, b2, xs, ys, fv, o1, o2, o3, o4, -⟩ := hou
      rcases (show b = 0 ∨ b = 1 by omega) with rfl | rfl
      · simp only [bi_ok, bi_fw, Bool.and_eq_true, decide_eq_true_eq] at hk
        exact absurd hk.1.1.2 (by decide)
      · simp only [bi_ok, Bool.and_eq_true] at hk
        obtain ⟨hd, hn⟩ := bi_dn_ok hk.2
        rw [hn]
        have e1 := Option.some.inj (hv.symm.trans o2.1)
        subst e1
        rw [o2.2.2.1]
        exact ⟨.int 0 :: t, (bw_pI (y := 0) (by decide) hs1), fun k => vk_getf hx hb o2.2.2.2.2.1 hW.2.2.2.1 ho (hts _ (bi_w_ok hk.1)) (fun _ h => h) hd k⟩
    · omega
    · omega
theorem bw_15 {m i : Nat} {hh : List Nat} {a b : Nat} {n : Int} {l' : List Nat} {L : Lcl} {st : List AV} {S : Shp} {M : Mem} {q kd n' : Nat} {rs : List Nat} (hk : bi_ok m i hh (15, a, b, n, l') = true) (hS : S[q]? = some (kd, n', rs)) (h1 : kd = a + 3 ∧ b < n') : bw_S m i (i + 1) L (.inr (.inr (q + 1)) :: st) (.inr (.inr (rs.getD b 0)) :: st) S M := by
  intro p l e R s mid args below meth c H locs cells slots Q D tys A rv ws ls lvs stc hF hW hl hL hs hc hz hfr hlo
  obtain ⟨hx, hb, -, -, ho, hts, -⟩ := hF
  obtain ⟨v, t, rfl, hv, hs1⟩ := bw_cons hs
  obtain ⟨rfl, hbn⟩ := h1
  by_cases h4 : 4 ≤ q
  · obtain ⟨ad, e', rfl, hws, hcell⟩ := bw_cell hW.2.2.2.2.2 h4 hS hv
    obtain ⟨fs, rfl, hfl, hN, ha, hrs, hfield⟩ := (bw_c_3 tys rv a n' rs (M q) e').mp hcell
    have hk' : (bi_fw (bi_own m) (hh.headD 0) a b (bi_jn (hh.headD 0)) && !bi_isI a b && bi_dn m i (.getfield (bi_jn (hh.headD 0))) 3) = true := by
      rcases (show a = 0 ∨ a = 1 ∨ a = 2 ∨ a = 3 ∨ a = 4 ∨ a = 5 ∨ a = 6 ∨ a = 7 ∨ a = 8 ∨ a = 9 by omega) with rfl | rfl | rfl | rfl | rfl | rfl | rfl | rfl | rfl | rfl <;> exact hk
    simp only [Bool.and_eq_true, bi_fw, decide_eq_true_eq, Bool.not_eq_true'] at hk'
    obtain ⟨⟨⟨⟨hw, hbN⟩, -⟩, hI⟩, hd⟩ := hk'
    obtain ⟨hd, hn⟩ := bi_dn_ok hd
    rw [hn]
    obtain ⟨fv, hfv, hcond⟩ := hfield b hbn
    rw [if_neg (by rw [hI]; decide)] at hcond
    exact ⟨fv :: t, (bw_pR (hcond) hs1), fun k => va_get (D := D) (ci := a) (C := (bi_cls a).1) (T := (bi_cls a).2.1) (N := (bi_cls a).2.2) hx hb hts (bw_uws a ha) ho hW.1 hW.2.1 (q - 4) hws (bw_cl a ha) b hbN (hts _ (bi_w_ok hw)) (fun _ h => h) hfv hd k⟩
  · have hou := hW.2.2.2.2.1
    rcases bw_ouk hou h4 hS with ⟨-, h⟩ | ⟨rfl, h, rfl, rfl⟩ | ⟨-, h, -⟩ | ⟨-, h, -⟩
    · omega
    · have ha : a = 10 := by omega
      subst ha
      obtain ⟨b', N, b1, b2, xs, ys, fv, o1, o2, o3, o4, -⟩ := hou
      rcases (show b = 0 ∨ b = 1 by omega) with rfl | rfl
      · simp only [bi_ok, Bool.and_eq_true] at hk
        obtain ⟨hd, hn⟩ := bi_dn_ok hk.2
        rw [hn]
        have e1 := Option.some.inj (hv.symm.trans o2.1)
        subst e1
        exact ⟨.ref b2 :: t, (bw_pR (o3.1) hs1), fun k => vk_getf hx hb o2.2.2.2.2.2 hW.2.2.2.1 ho (hts _ (bi_w_ok hk.1)) (fun _ h => h) hd k⟩
      · simp only [bi_ok, bi_fw, Bool.and_eq_true, decide_eq_true_eq] at hk
        exact absurd hk.1.1.2 (by decide)
    · omega
    · omega
theorem bw_18 {m i : Nat} {hh : List Nat} {a b : Nat} {n : Int} {l' : List Nat} {L : Lcl} {st : List AV} {S : Shp} {M : Mem} {q n' : Nat} {rs : List Nat} {j : Int} (hk : bi_ok m i hh (18, a, b, n, l') = true) (hS : S[q]? = some (0, n', rs)) (h0 : 0 ≤ j) (h1 : j < n') : bw_S m i (i + 1) L (.inl j :: .inr (.inr (q + 1)) :: st) (.inl (M q j.toNat) :: st) S M := by
  intro p l e R s mid args below meth c H locs cells slots Q D tys A rv ws ls lvs stc hF hW hl hL hs hc hz hfr hlo
  obtain ⟨hx, hb, -, -, ho, hts, -⟩ := hF
  obtain ⟨vj, t1, rfl, ⟨y, rfl, rfl⟩, hs1⟩ := bw_cons hs
  obtain ⟨v, t, rfl, hv, hs2⟩ := bw_cons hs1
  simp only [bi_ok] at hk
  obtain ⟨hd, hn⟩ := bi_dn_ok hk
  rw [hn]
  have hin : vp_in y n' := nu_vin h0 h1
  by_cases h4 : 4 ≤ q
  · obtain ⟨ad, e', rfl, hws, hcell⟩ := bw_cell hW.2.2.2.2.2 h4 hS hv
    obtain ⟨cA, t0, g, ht, rfl, -, hg⟩ := (bw_c_0 tys rv n' rs (M q) e').mp hcell
    exact ⟨_, (bw_pI (by rw [nu_cl]; exact hg _ (by omega)) hs2), fun k => va_iald hx hb hW.1 hW.2.1 (q - 4) t0 hws ht hin hd k⟩
  · have hou := hW.2.2.2.2.1
    rcases bw_ouk hou h4 hS with ⟨rfl, -⟩ | ⟨-, h, -⟩ | ⟨-, h, -⟩ | ⟨-, h, -⟩
    · obtain ⟨b', N, b1, b2, xs, ys, fv, o1, -⟩ := hou
      have e1 := Option.some.inj (hv.symm.trans o1.1)
      subst e1
      have e2 := Option.some.inj (hS.symm.trans o1.2.1)
      cases e2
      exact ⟨_, (bw_pI (by rw [nu_cl]; exact o1.2.2.2.2 _ (by omega)) hs2), fun k => va_ti hx hb o1.2.2.2.1 hW.2.2.2.1 hin rfl hd k⟩
    · omega
    · omega
    · omega
theorem bw_20 {m i : Nat} {hh : List Nat} {a b : Nat} {n : Int} {l' : List Nat} {L : Lcl} {st : List AV} {S : Shp} {M : Mem} {q n' : Nat} {rs : List Nat} {j : Int} (hk : bi_ok m i hh (20, a, b, n, l') = true) (hS : S[q]? = some (1, n', rs)) (h0 : 0 ≤ j) (h1 : j < n') : bw_S m i (i + 1) L (.inl j :: .inr (.inr (q + 1)) :: st) (.inl (M q j.toNat) :: st) S M := by
  intro p l e R s mid args below meth c H locs cells slots Q D tys A rv ws ls lvs stc hF hW hl hL hs hc hz hfr hlo
  obtain ⟨hx, hb, -, -, ho, hts, -⟩ := hF
  obtain ⟨vj, t1, rfl, ⟨y, rfl, rfl⟩, hs1⟩ := bw_cons hs
  obtain ⟨v, t, rfl, hv, hs2⟩ := bw_cons hs1
  simp only [bi_ok] at hk
  obtain ⟨hd, hn⟩ := bi_dn_ok hk
  rw [hn]
  have hin : vp_in y n' := nu_vin h0 h1
  by_cases h4 : 4 ≤ q
  · obtain ⟨ad, e', rfl, hws, hcell⟩ := bw_cell hW.2.2.2.2.2 h4 hS hv
    obtain ⟨cA, t0, g, ht, rfl, -, hg⟩ := (bw_c_1 tys rv n' rs (M q) e').mp hcell
    exact ⟨_, (bw_pI (by rw [nu_cl]; exact hg _ (by omega)) hs2), fun k => va_bald hx hb hW.1 hW.2.1 (q - 4) t0 hws ht hin hd k⟩
  · have hou := hW.2.2.2.2.1
    rcases bw_ouk hou h4 hS with ⟨-, h⟩ | ⟨-, h, -⟩ | ⟨rfl, -, rfl⟩ | ⟨-, h, -⟩
    · omega
    · omega
    · obtain ⟨b', N, b1, b2, xs, ys, fv, o1, o2, o3, -⟩ := hou
      have e1 := Option.some.inj (hv.symm.trans o3.1)
      subst e1
      exact ⟨_, (bw_pI (by rw [nu_cl]; exact o3.2.2.2 _ (by omega)) hs2), fun k => va_tb hx hb o3.2.2.1 hW.2.2.2.1 hin rfl hd k⟩
    · omega
theorem bw_22 {m i : Nat} {hh : List Nat} {a b : Nat} {n : Int} {l' : List Nat} {L : Lcl} {st : List AV} {S : Shp} {M : Mem} {q n' : Nat} {rs : List Nat} {j : Int} (hk : bi_ok m i hh (22, a, b, n, l') = true) (hS : S[q]? = some (2, n', rs)) (h0 : 0 ≤ j) (h1 : j < n') (h4 : 4 ≤ q) : bw_S m i (i + 1) L (.inl j :: .inr (.inr (q + 1)) :: st) (.inr (.inr (M q j.toNat).toNat) :: st) S M := by
  intro p l e R s mid args below meth c H locs cells slots Q D tys A rv ws ls lvs stc hF hW hl hL hs hc hz hfr hlo
  obtain ⟨hx, hb, -, -, ho, hts, -⟩ := hF
  obtain ⟨vj, t1, rfl, ⟨y, rfl, rfl⟩, hs1⟩ := bw_cons hs
  obtain ⟨v, t, rfl, hv, hs2⟩ := bw_cons hs1
  simp only [bi_ok] at hk
  obtain ⟨hd, hn⟩ := bi_dn_ok hk
  rw [hn]
  have hin : vp_in y n' := nu_vin h0 h1
  obtain ⟨ad, e', rfl, hws, hcell⟩ := bw_cell hW.2.2.2.2.2 h4 hS hv
  obtain ⟨cA, t0, g, ht, rfl, -, hg⟩ := (bw_c_2 tys rv n' rs (M q) e').mp hcell
  exact ⟨va_rf (g y.toNatClampNeg) :: t, (bw_pR (by rw [nu_cl]; exact hg _ (by omega)) hs2), fun k => va_aldq hx hb hW.1 hW.2.1 (q - 4) t0 hws ht hin hd k⟩
theorem bw_24 {m i : Nat} {hh : List Nat} {a b : Nat} {n : Int} {l' : List Nat} {L : Lcl} {st : List AV} {S : Shp} {M : Mem} {q kd n' : Nat} {rs : List Nat} (hk : bi_ok m i hh (24, a, b, n, l') = true) (hS : S[q]? = some (kd, n', rs)) (h0 : kd < 3) (h3 : q ≠ 3) : bw_S m i (i + 1) L (.inr (.inr (q + 1)) :: st) (.inl (n' : Int) :: st) S M := by
  intro p l e R s mid args below meth c H locs cells slots Q D tys A rv ws ls lvs stc hF hW hl hL hs hc hz hfr hlo
  obtain ⟨hx, hb, -, -, ho, hts, -⟩ := hF
  obtain ⟨v, t, rfl, hv, hs1⟩ := bw_cons hs
  simp only [bi_ok] at hk
  obtain ⟨hd, hn⟩ := bi_dn_ok hk
  rw [hn]
  by_cases h4 : 4 ≤ q
  · obtain ⟨ad, e', rfl, hws, hcell⟩ := bw_cell hW.2.2.2.2.2 h4 hS hv
    rcases (show kd = 0 ∨ kd = 1 ∨ kd = 2 by omega) with rfl | rfl | rfl
    · obtain ⟨cA, t0, g, ht, rfl, hle, -⟩ := (bw_c_0 tys rv n' rs (M q) e').mp hcell
      exact ⟨_, (bw_pI (y := nI n') (nI_toInt (by omega)) hs1), fun k => va_alen hx hb hW.1 hW.2.1 (q - 4) t0 hws ht rfl hd k⟩
    · obtain ⟨cA, t0, g, ht, rfl, hle, -⟩ := (bw_c_1 tys rv n' rs (M q) e').mp hcell
      exact ⟨_, (bw_pI (y := nI n') (nI_toInt (by omega)) hs1), fun k => va_alen hx hb hW.1 hW.2.1 (q - 4) t0 hws ht rfl hd k⟩
    · obtain ⟨cA, t0, g, ht, rfl, hle, -⟩ := (bw_c_2 tys rv n' rs (M q) e').mp hcell
      exact ⟨_, (bw_pI (y := nI n') (nI_toInt (by omega)) hs1), fun k => va_alen hx hb hW.1 hW.2.1 (q - 4) t0 hws ht rfl hd k⟩
  · have hou := hW.2.2.2.2.1
    rcases bw_ouk hou h4 hS with ⟨rfl, -⟩ | ⟨-, h, -⟩ | ⟨rfl, -, rfl⟩ | ⟨h, -⟩
    · obtain ⟨b', N, b1, b2, xs, ys, fv, o1, -⟩ := hou
      have e1 := Option.some.inj (hv.symm.trans o1.1)
      subst e1
      have e2 := Option.some.inj (hS.symm.trans o1.2.1)
      cases e2
      have := o1.2.2.1
      exact ⟨_, (bw_pI (y := nI n') (nI_toInt (by omega)) hs1), fun k => va_tlen hx hb o1.2.2.2.1 hW.2.2.2.1 rfl hd k⟩
    · omega
    · obtain ⟨b', N, b1, b2, xs, ys, fv, o1, o2, o3, -⟩ := hou
      have e1 := Option.some.inj (hv.symm.trans o3.1)
      subst e1
      exact ⟨_, (bw_pI (y := nI 41) (by decide) hs1), fun k => va_tlen hx hb o3.2.2.1 hW.2.2.2.1 rfl hd k⟩
    · exact absurd h h3
theorem bw_31 {m i : Nat} {hh : List Nat} {a b : Nat} {n : Int} {l' : List Nat} {L : Lcl} {st : List AV} {S : Shp} {M : Mem} {x : Int} (hk : bi_ok m i hh (31, a, b, n, l') = true) : bw_S m i (if x < n ∨ n + l'.length ≤ x then a else l'.getD (x - n).toNat 0) L (.inl x :: st) st S M := by
  intro p l e R s mid args below meth c H locs cells slots Q D tys A rv ws ls lvs stc hF hW hl hL hs hc hz hfr hlo
  obtain ⟨hx, hb, -⟩ := hF
  obtain ⟨vx, t, rfl, ⟨y, rfl, rfl⟩, hs1⟩ := bw_cons hs
  simp only [bi_ok] at hk
  split at hk
  · rename_i d lo hi offs len hdec
    simp only [Bool.and_eq_true, decide_eq_true_eq, bi_tabs] at hk
    obtain ⟨⟨⟨rfl, rfl⟩, rfl⟩, hoffs⟩ := hk
    refine ⟨t, hs1, fun k => ?_⟩
    by_cases hx2 : y.toInt < lo ∨ lo + l'.length ≤ y.toInt
    · rw [if_pos hx2] at k
      exact lv_tableOut (tgt := bi_pc m a) hx hb hdec (by omega) (bi_off_ok m i a) k
    · rw [if_neg hx2] at k
      have hlt : (y.toInt - lo).toNat < l'.length := by omega
      refine lv_tableIn (tgt := bi_pc m (l'.getD (y.toInt - lo).toNat 0)) (off := bi_off m i (l'.getD (y.toInt - lo).toNat 0)) hx hb hdec (by omega) (by omega) ?_ (bi_off_ok m i _) k
      rw [← Array.getElem?_toList, ← hoffs, List.getElem?_map, List.getElem?_eq_getElem hlt, List.getD_eq_getElem?_getD, List.getElem?_eq_getElem hlt]
      rfl
  · cases hk
theorem bw_37 {m i : Nat} {hh : List Nat} {a b : Nat} {n : Int} {l' : List Nat} {L : Lcl} {st : List AV} {S : Shp} {M : Mem} {q : Nat} (hk : bi_ok m i hh (37, a, b, n, l') = true) (hq : ∃ r, L = L ∧ r = q) (hr : ¬ (q = 0 ∨ q = 4)) (hct : bi_cats st ≤ 8) : bw_S m i (i + 1) L (.inr (.inr q) :: st) st S M := by
  intro p l e R s mid args below meth c H locs cells slots Q D tys A rv ws ls lvs stc hF hW hl hL hs hc hz hfr hlo
  obtain ⟨hx, hb, hml, -, ho, hts, -⟩ := hF
  obtain ⟨v, t, rfl, hv, hs1⟩ := bw_cons hs
  obtain ⟨ad, rfl⟩ := bw_ref hW hr hv
  simp only [bi_ok, Bool.and_eq_true, bi_mis, decide_eq_true_eq] at hk
  obtain ⟨⟨⟨⟨h1, h2⟩, h3⟩, h4, h5⟩, hd⟩ := hk
  obtain ⟨hd, hn⟩ := bi_dn_ok hd
  rw [hn]
  have hcs := bw_cats hW.2.2.2.2.2 _ _ hs1
  exact ⟨t, hs1, fun k => W.objInit hx hb ho (hts _ (bi_w_ok h1)) (hts _ (bi_w_ok h2)) (hts _ (bi_w_ok h3)) rfl (by rw [hml]; exact hl.1) rfl hd (by omega) (by show 2 * 0 + _ + 12 ≤ _; omega) k⟩
theorem bw_38 {m i : Nat} {hh : List Nat} {a b : Nat} {n : Int} {l' : List Nat} {L : Lcl} {st : List AV} {S : Shp} {M : Mem} {st' : List AV} (hk : bi_ok m i hh (38, a, b, n, l') = true) (hm : bi_math a st = some st') (hct : bi_cats st' ≤ 8) : bw_S m i (i + 1) L st st' S M := by
  intro p l e R s mid args below meth c H locs cells slots Q D tys A rv ws ls lvs stc hF hW hl hL hs hc hz hfr hlo
  obtain ⟨hx, hb, hml, -, ho, hts, -⟩ := hF
  simp only [bi_ok, Bool.and_eq_true, bi_mis, decide_eq_true_eq] at hk
  obtain ⟨⟨⟨hA, h2⟩, h4, h5⟩, hd⟩ := hk
  obtain ⟨hd, hn⟩ := bi_dn_ok hd
  rw [hn]
  have hlt : ∀ u v : Int32, u < v ↔ u.toInt < v.toInt := fun u v => Int32.lt_iff_toInt_lt
  have hle : ∀ u v : Int32, u ≤ v ↔ u.toInt ≤ v.toInt := fun u v => Int32.le_iff_toInt_le
  unfold bi_math at hm
  split at hm
  · cases hm
    obtain ⟨vy, t1, rfl, ⟨y', rfl, rfl⟩, hs1⟩ := bw_cons hs
    obtain ⟨vx, t2, rfl, ⟨x', rfl, rfl⟩, hs2⟩ := bw_cons hs1
    simp only [Bool.and_eq_true] at hA
    have hcs := bw_cats hW.2.2.2.2.2 _ _ hs2
    simp only [bi_cats, List.map_cons, List.sum_cons] at hct hcs
    refine ⟨_, (bw_pI (y := if x' < y' then y' else x') ?_ hs2), fun k => va_mmax hx hb (by rw [hml]; exact hl.1.symm) ho (hts _ (bi_w_ok hA.1.1)) (hts _ (bi_w_ok hA.1.2)) (hts _ (bi_w_ok h2)) (hts _ (bi_w_ok hA.2)) (by omega) (by omega) hc hz hd k⟩
    by_cases h : x' < y'
    · rw [if_pos h, if_pos ((hlt _ _).mp h)]
    · rw [if_neg h, if_neg (fun z => h ((hlt _ _).mpr z))]
  · cases hm
    obtain ⟨vy, t1, rfl, ⟨y', rfl, rfl⟩, hs1⟩ := bw_cons hs
    obtain ⟨vx, t2, rfl, ⟨x', rfl, rfl⟩, hs2⟩ := bw_cons hs1
    simp only [Bool.and_eq_true] at hA
    have hcs := bw_cats hW.2.2.2.2.2 _ _ hs2
    simp only [bi_cats, List.map_cons, List.sum_cons] at hct hcs
    refine ⟨_, (bw_pI (y := if y' < x' then y' else x') ?_ hs2), fun k => va_mmin hx hb (by rw [hml]; exact hl.1.symm) ho (hts _ (bi_w_ok hA.1.1)) (hts _ (bi_w_ok hA.1.2)) (hts _ (bi_w_ok h2)) (hts _ (bi_w_ok hA.2)) (by omega) (by omega) hc hz hd k⟩
    by_cases h : y' < x'
    · rw [if_pos h, if_pos ((hlt _ _).mp h)]
    · rw [if_neg h, if_neg (fun z => h ((hlt _ _).mpr z))]
  · obtain ⟨vx, t2, rfl, ⟨x', rfl, rfl⟩, hs1⟩ := bw_cons hs
    simp only [Bool.and_eq_true] at hA
    have hcs := bw_cats hW.2.2.2.2.2 _ _ hs1
    have h00 : (0 : Int32).toInt = 0 := by decide
    by_cases h : 0 ≤ x'.toInt
    · rw [if_pos h] at hm
      cases hm
      simp only [bi_cats, List.map_cons, List.sum_cons] at hct hcs
      exact ⟨_, (bw_pI (y := if 0 ≤ x' then x' else 0 - x') (by rw [if_pos ((hle _ _).mpr (by rw [h00]; exact h))]) hs1), fun k => va_mabs hx hb (by rw [hml]; exact hl.1.symm) ho (hts _ (bi_w_ok hA.1.1)) (hts _ (bi_w_ok hA.1.2)) (hts _ (bi_w_ok h2)) (hts _ (bi_w_ok hA.2)) (by omega) (by omega) hc hz hd k⟩
    · rw [if_neg h] at hm
      obtain ⟨h9, hm⟩ := bi_ite hm
      cases hm
      simp only [bi_cats, List.map_cons, List.sum_cons] at hct hcs
      exact ⟨_, (bw_pI (y := if 0 ≤ x' then x' else 0 - x') (by rw [if_neg (fun z => h (by have := (hle _ _).mp z; rw [h00] at this; exact this)), nu_sub (by rw [h00]; simpa using h9), h00]; omega) hs1), fun k => va_mabs hx hb (by rw [hml]; exact hl.1.symm) ho (hts _ (bi_w_ok hA.1.1)) (hts _ (bi_w_ok hA.1.2)) (hts _ (bi_w_ok h2)) (hts _ (bi_w_ok hA.2)) (by omega) (by omega) hc hz hd k⟩
  · cases hm
theorem bw_40 {m i : Nat} {hh : List Nat} {a b : Nat} {n : Int} {l' : List Nat} {L : Lcl} {st : List AV} {S : Shp} {M : Mem} (hk : bi_ok m i hh (40, a, b, n, l') = true) : bw_S m i (i + 1) L st (.inr (.inr 2) :: st) S M := by
  intro p l e R s mid args below meth c H locs cells slots Q D tys A rv ws ls lvs stc hF hW hl hL hs hc hz hfr hlo
  obtain ⟨hx, hb, hml, -, ho, hts, -⟩ := hF
  simp only [bi_ok, Bool.and_eq_true, decide_eq_true_eq] at hk
  obtain ⟨hd, hn⟩ := bi_dn_ok hk.2
  rw [hn]
  obtain ⟨b', N, b1, b2, xs, ys, fv, o1, o2, o3, o4, o5⟩ := hW.2.2.2.2.1
  exact ⟨.ref b1 :: stc, (bw_pR (o2.1) hs), fun k => va_ldcS hx hb (by rw [← hk.1]; exact ho) o5 hd k⟩
theorem bw_41 {m i : Nat} {hh : List Nat} {a b : Nat} {n : Int} {l' : List Nat} {L : Lcl} {st : List AV} {S : Shp} {M : Mem} (hk : bi_ok m i hh (41, a, b, n, l') = true) : bw_S m i (i + 1) L st ((if a = 0 then .inl 1 else .inr (.inr 4)) :: st) S M := by
  intro p l e R s mid args below meth c H locs cells slots Q D tys A rv ws ls lvs stc hF hW hl hL hs hc hz hfr hlo
  obtain ⟨hx, hb, hml, -, ho, hts, -⟩ := hF
  obtain ⟨b', N, b1, b2, xs, ys, fv, o1, o2, o3, o4, o5⟩ := hW.2.2.2.2.1
  match a, hk with
  | 0, hk =>
    simp only [bi_ok, Bool.and_eq_true] at hk
    obtain ⟨hd, hn⟩ := bi_dn_ok hk.2
    rw [hn]
    exact ⟨.int 1 :: stc, (bw_pI (y := 1) (by decide) hs), fun k => va_gets hx hb o4.2.2.2 hW.2.2.2.1 ho (hts _ (bi_w_ok hk.1)) (fun _ h => h) hd k⟩
  | a + 1, hk =>
    simp only [bi_ok, Bool.and_eq_true] at hk
    obtain ⟨hd, hn⟩ := bi_dn_ok hk.2
    rw [hn]
    exact ⟨fv :: stc, (bw_pR (o4.1) hs), fun k => va_gets hx hb o4.2.2.1 hW.2.2.2.1 ho (hts _ (bi_w_ok hk.1)) (fun _ h => h) hd k⟩
end
section
/-! INSTRUCTIONS that write: locals, fields, arrays; new cells; ends -/
theorem bw_l_st1 {tys : List (ClassId × FieldType)} {rv : List Value} {ws : va_W} {S : Shp} {M : Mem} (hk : bw_k tys rv ws S M) {L : Lcl} {lvs : List (Nat × Value)} {a : Nat} {v : AV} {c : Value} (hl : bw_l rv L lvs) (hv : bw_v rv v c) : bw_l rv (bi_st1 L a v) ((a, c) :: lvs.filter (fun q => !(q.1 == a) && !(q.1 + 1 == a && q.2.category == 2))) := by
  intro j w hj
  unfold bi_st1 at hj
  by_cases hja : j = a
  · subst hja
    rw [List.getElem?_set] at hj
    split at hj
    · split at hj
      · cases hj; exact ⟨c, List.mem_cons_self, hv⟩
      · cases hj
    · rename_i h; exact absurd rfl h
  · rw [List.getElem?_set_ne (fun q => hja q.symm)] at hj
    have key : L[j]? = some (some w) ∧ ¬ (j + 1 = a ∧ bw_ct w = 2) := by
      unfold bi_clr at hj
      split at hj
      · exact ⟨hj, by omega⟩
      · rename_i k
        split at hj
        · rename_i hL
          by_cases hjk : j = k
          · subst hjk
            rw [List.getElem?_set] at hj
            split at hj
            · split at hj <;> cases hj
            · rename_i h; exact absurd rfl h
          · rw [List.getElem?_set_ne (fun q => hjk q.symm)] at hj
            exact ⟨hj, by omega⟩
        · rename_i hL
          refine ⟨hj, fun ⟨q1, q2⟩ => ?_⟩
          have hjk : j = k := by omega
          subst hjk
          rw [hj] at hL
          match w, hL, q2 with
          | .inl _, _, q2 => cases q2
          | .inr (.inl _), hL, _ => exact hL rfl
          | .inr (.inr _), _, q2 => cases q2
    obtain ⟨d, hd, hdv⟩ := hl j w key.1
    refine ⟨d, List.mem_cons_of_mem _ (List.mem_filter.mpr ⟨hd, ?_⟩), hdv⟩
    have hcat := bw_cat hk hdv
    have h2 := key.2
    simp only [Bool.and_eq_true, Bool.not_eq_true', beq_eq_false_iff_ne, ne_eq, Bool.and_eq_false_iff]
    refine ⟨hja, ?_⟩
    by_cases h3 : j + 1 = a
    · exact Or.inr (fun q => h2 ⟨h3, by rw [← hcat]; exact q⟩)
    · exact Or.inl h3
theorem bw_l_st2 {tys : List (ClassId × FieldType)} {rv : List Value} {ws : va_W} {S : Shp} {M : Mem} (hk : bw_k tys rv ws S M) {L : Lcl} {lvs : List (Nat × Value)} {a : Nat} {v : AV} {c : Value} (hl : bw_l rv L lvs) (hv : bw_v rv v c) : bw_l rv (bi_st2 L a v) ((a, c) :: lvs.filter (fun q => !(q.1 == a) && (!(q.1 == a + 1) && !(q.1 + 1 == a && q.2.category == 2)))) := by
  intro j w hj
  unfold bi_st2 at hj
  by_cases hj1 : j = a + 1
  · subst hj1
    rw [List.getElem?_set] at hj
    split at hj
    · split at hj <;> cases hj
    · rename_i h; exact absurd rfl h
  · rw [List.getElem?_set_ne (fun q => hj1 q.symm)] at hj
    obtain ⟨d, hd, hdv⟩ := bw_l_st1 hk hl hv j w hj
    refine ⟨d, ?_, hdv⟩
    rcases List.mem_cons.mp hd with hd | hd
    · rw [hd]; exact List.mem_cons_self
    · obtain ⟨h1, h2⟩ := List.mem_filter.mp hd
      refine List.mem_cons_of_mem _ (List.mem_filter.mpr ⟨h1, ?_⟩)
      simp only [Bool.and_eq_true, Bool.not_eq_true', beq_eq_false_iff_ne, ne_eq] at h2 ⊢
      exact ⟨h2.1, hj1, h2.2⟩
theorem bi_st1_len (L : Lcl) (a : Nat) (v : AV) : (bi_st1 L a v).length = L.length := by
  unfold bi_st1 bi_clr
  split
  · simp
  · split <;> simp
theorem bi_st2_len (L : Lcl) (a : Nat) (v : AV) : (bi_st2 L a v).length = L.length := by
  unfold bi_st2 bi_clr
  split
  · simp
  · split <;> simp
theorem bw_2 {m i : Nat} {hh : List Nat} {a b : Nat} {n : Int} {l' : List Nat} {L : Lcl} {st : List AV} {S : Shp} {M : Mem} {res : Res} {v : AV} {L' : Lcl} (hk : bi_ok m i hh (2, a, b, n, l') = true) (hst : bi_store L b a v = some L') (K : bw_J m (i + 1) L' st S M res) : bw_J m i L (v :: st) S M res := by
  intro p l e R s mid args below meth c H locs cells slots Q D tys A rv0 rv ws ls lvs stc b0 z0 hF hW hp hl hLl hL hs hc hz hRc hRz hfr hlo hRO
  obtain ⟨hx, hb, -⟩ := id hF
  obtain ⟨vx, t, rfl, hv, hs1⟩ := bw_cons hs
  have hkk := hW.2.2.2.2.2
  unfold bi_store at hst
  split at hst
  · obtain ⟨hlt, rfl⟩ := bi_ite hst
    obtain ⟨y, rfl, hy⟩ := hv
    simp only [bi_ok, Bool.or_eq_true] at hk
    have go : ∀ (ls' : Array Slot), lv_has ls' (bi_mL m) _ → _ := fun ls' h' => K p l e R s mid args below meth c H locs cells slots Q D tys A rv0 rv ws ls' _ t b0 z0 hF hW hp h' (by rw [bi_st1_len]; exact hLl) (bw_l_st1 hkk (a := a) hL (show bw_v rv (.inl _) (.int y) from ⟨y, rfl, hy⟩)) hs1 hc hz hRc hRz hfr hlo hRO
    rcases hk with hd | hd
    · obtain ⟨hd, hn⟩ := bi_dn_ok hd
      rw [hn] at go
      exact lv_istore hx hb hd hl (by omega) rfl go
    · split at hd
      · obtain ⟨hd, hn⟩ := bi_dn_ok hd
        rw [hn] at go
        exact lv_istore_n (i := a) hx hb hd rfl hl (by omega) rfl go
      · cases hd
  · split at hst
    · cases hst
    · rename_i hc0
      obtain ⟨hlt, rfl⟩ := bi_ite hst
      obtain ⟨ad, rfl⟩ := bw_ref hW hc0 hv
      simp only [bi_ok] at hk
      have go : ∀ (ls' : Array Slot), lv_has ls' (bi_mL m) _ → _ := fun ls' h' => K p l e R s mid args below meth c H locs cells slots Q D tys A rv0 rv ws ls' _ t b0 z0 hF hW hp h' (by rw [bi_st1_len]; exact hLl) (bw_l_st1 hkk (a := a) hL hv) hs1 hc hz hRc hRz hfr hlo hRO
      split at hk
      · obtain ⟨hd, hn⟩ := bi_dn_ok hk
        rw [hn] at go
        exact lv_astore_n (i := a) hx hb hd rfl hl (by omega) rfl go
      · cases hk
  · obtain ⟨hlt, rfl⟩ := bi_ite hst
    obtain ⟨y, rfl, hy⟩ := hv
    simp only [bi_ok, Bool.or_eq_true] at hk
    have go : ∀ (ls' : Array Slot), lv_has ls' (bi_mL m) _ → _ := fun ls' h' => K p l e R s mid args below meth c H locs cells slots Q D tys A rv0 rv ws ls' _ t b0 z0 hF hW hp h' (by rw [bi_st2_len]; exact hLl) (bw_l_st2 hkk (a := a) hL (show bw_v rv (.inr (.inl _)) (.long y) from ⟨y, rfl, hy⟩)) hs1 hc hz hRc hRz hfr hlo hRO
    rcases hk with hd | hd
    · obtain ⟨hd, hn⟩ := bi_dn_ok hd
      rw [hn] at go
      exact lv_lstore hx hb hd hl (by omega) rfl go
    · split at hd
      · obtain ⟨hd, hn⟩ := bi_dn_ok hd
        rw [hn] at go
        exact lv_lstore_n (i := a) hx hb hd rfl hl (by omega) rfl go
      · cases hd
  · cases hst
theorem bw_10 {m i : Nat} {hh : List Nat} {a b : Nat} {n : Int} {l' : List Nat} {L : Lcl} {st : List AV} {S : Shp} {M : Mem} {res : Res} {x : Int} (hk : bi_ok m i hh (10, a, b, n, l') = true) (hx0 : L[a]? = some (some (.inl x))) (hr : inR (x + n)) (K : bw_J m (i + 1) (bi_st1 L a (.inl (x + n))) st S M res) : bw_J m i L st S M res := by
  intro p l e R s mid args below meth c H locs cells slots Q D tys A rv0 rv ws ls lvs stc b0 z0 hF hW hp hl hLl hL hs hc hz hRc hRz hfr hlo hRO
  obtain ⟨hx, hb, -⟩ := id hF
  have hkk := hW.2.2.2.2.2
  obtain ⟨d, hd0, y, rfl, rfl⟩ := hL a _ hx0
  obtain ⟨k, hk0⟩ := List.mem_iff_getElem?.mp hd0
  simp only [bi_ok, Bool.and_eq_true, decide_eq_true_eq] at hk
  obtain ⟨hd, hn⟩ := bi_dn_ok hk.1
  have hlt : a < L.length := (List.getElem?_eq_some_iff.mp hx0).1
  have go : ∀ (ls' : Array Slot), lv_has ls' (bi_mL m) _ → _ := fun ls' h' => K p l e R s mid args below meth c H locs cells slots Q D tys A rv0 rv ws ls' _ stc b0 z0 hF hW hp h' (by rw [bi_st1_len]; exact hLl) (bw_l_st1 hkk (a := a) hL (show bw_v rv (.inl _) (.int (y + Int32.ofInt n)) from ⟨_, rfl, by rw [nu_add (by rw [hk.2]; exact hr), hk.2]⟩)) hs hc hz hRc hRz hfr hlo hRO
  rw [hn] at go
  exact lv_iinc hx hb hd hl hk0 rfl (by omega) rfl go
theorem bw_ou_M {A : Nat → Prop} {U : State} {H : Heap} {rv : List Value} {S S' : Shp} {M M' : Mem} (h : bw_ou A U H rv S M) (hS : ∀ k, k < 4 → S'[k]? = S[k]?) (hM : ∀ k, k < 4 → M' k = M k) : bw_ou A U H rv S' M' := by
  obtain ⟨b, N, b1, b2, xs, ys, fv, ⟨a1, a2, a3, a4, a5⟩, ⟨c1, c2, c3, c4⟩, ⟨d1, d2, d3, d4⟩, ⟨e1, e2, e3⟩, f⟩ := h
  refine ⟨b, N, b1, b2, xs, ys, fv, ⟨a1, ?_, a3, a4, ?_⟩, ⟨c1, ?_, ?_, c4⟩, ⟨d1, ?_, d3, ?_⟩, ⟨e1, ?_, e3⟩, f⟩
  · rw [hS 0 (by decide)]; exact a2
  · intro j hj; rw [hM 0 (by decide)]; exact a5 j hj
  · rw [hS 1 (by decide)]; exact c2
  · rw [hM 1 (by decide)]; exact c3
  · rw [hS 2 (by decide)]; exact d2
  · intro j hj; rw [hM 2 (by decide)]; exact d4 j hj
  · rw [hS 3 (by decide)]; exact e2
theorem bw_k_set {tys : List (ClassId × FieldType)} {rv : List Value} {ws : va_W} {S S' : Shp} {M M' : Mem} (hk : bw_k tys rv ws S M) {q ad : Nat} {e0 e : va_E} {sh : Nat × Nat × List Nat} (h4 : 4 ≤ q) (hws : ws[q - 4]? = some (ad, e0)) (hlen : S'.length = S.length) (hSq : S'[q]? = some sh) (hS : ∀ k, k ≠ q → S'[k]? = S[k]?) (hM : ∀ k, k ≠ q → M' k = M k) (hc : bw_c tys rv sh (M' q) e) : bw_k tys rv (ws.set (q - 4) (ad, e)) S' M' := by
  obtain ⟨k1, k2, k3, k4, k5, k6⟩ := hk
  refine ⟨by rw [hlen]; exact k1, by rw [hlen, List.length_set]; exact k2, k3, k4, fun k a e' h => ?_, fun k a e' sh' h hsh => ?_⟩
  · by_cases hkq : k = q - 4
    · subst hkq
      rw [List.getElem?_set_self (List.getElem?_eq_some_iff.mp hws).1] at h
      cases h
      exact k5 _ _ _ hws
    · rw [List.getElem?_set_ne (fun z => hkq z.symm)] at h
      exact k5 _ _ _ h
  · by_cases hkq : k = q - 4
    · subst hkq
      rw [List.getElem?_set_self (List.getElem?_eq_some_iff.mp hws).1] at h
      cases h
      rw [show q - 4 + 4 = q by omega] at hsh ⊢
      rw [hSq] at hsh
      cases hsh
      exact hc
    · rw [List.getElem?_set_ne (fun z => hkq z.symm)] at h
      rw [hS _ (by omega)] at hsh
      rw [hM _ (by omega)]
      exact k6 _ _ _ _ h hsh
theorem up2_ne (M : Mem) (q b : Nat) (v : Int) : ∀ k, k ≠ q → up2 M q b v k = M k := fun k hk => by
  funext j
  unfold up2
  rw [if_neg (fun h => hk h.1)]
theorem up2_at (M : Mem) (q b : Nat) (v : Int) (j : Nat) : up2 M q b v q j = if j = b then v else M q j := by
  unfold up2
  by_cases h : j = b
  · rw [if_pos ⟨rfl, h⟩, if_pos h]
  · rw [if_neg (fun z => h z.2), if_neg h]
theorem bw_ftI : ∀ a, a < 10 → ∀ b, b < (bi_cls a).2.2 → bi_isI a b = true → parseFieldDescriptor (bi_fn a b).2.2.1 = some .int := by decide +kernel
theorem bw_ftR : ∀ a, a < 10 → ∀ b, b < (bi_cls a).2.2 → bi_isI a b = false → (match parseFieldDescriptor (bi_fn a b).2.2.1 with | some (.object _) => true | some (.array _) => true | _ => false) = true := by decide +kernel
theorem bw_nm : ∀ a, a < 10 → ∀ x, x < (bi_cls a).2.2 → ∀ y, y < (bi_cls a).2.2 → x ≠ y → ((bi_cls a).2.1 x).2.1 ≠ ((bi_cls a).2.1 y).2.1 := by decide +kernel
def bw_ty (a : Nat) : Nat → FieldType := fun k => (parseFieldDescriptor ((bi_cls a).2.1 k).2.2.1).getD .int
theorem bw_ty_ok : ∀ a, a < 10 → ∀ k, k < (bi_cls a).2.2 → parseFieldDescriptor ((bi_cls a).2.1 k).2.2.1 = some (bw_ty a k) := by decide +kernel
theorem bw_16 {m i : Nat} {hh : List Nat} {a b : Nat} {n : Int} {l' : List Nat} {L : Lcl} {st : List AV} {S : Shp} {M : Mem} {res : Res} {q kd n' : Nat} {rs : List Nat} {v : Int} (hk : bi_ok m i hh (16, a, b, n, l') = true) (hS : S[q]? = some (kd, n', rs)) (h1 : kd = a + 3 ∧ b < n' ∧ 4 ≤ q) (K : bw_J m (i + 1) L st S (up2 M q b v) res) : bw_J m i L (.inl v :: .inr (.inr (q + 1)) :: st) S M res := by
  intro p l e R s mid args below meth c H locs cells slots Q D tys A rv0 rv ws ls lvs stc b0 z0 hF hW hp hl hLl hL hs hc hz hRc hRz hfr hlo hRO
  obtain ⟨hx, hb, -, -, ho, hts, -⟩ := id hF
  obtain ⟨vx, t1, rfl, ⟨y, rfl, rfl⟩, hs1⟩ := bw_cons hs
  obtain ⟨vr, t, rfl, hv, hs2⟩ := bw_cons hs1
  obtain ⟨rfl, hbn, h4⟩ := h1
  obtain ⟨ad, e', rfl, hws, hcell⟩ := bw_cell hW.2.2.2.2.2 h4 hS hv
  obtain ⟨fs, rfl, hfl, hN, ha, hrs, hfield⟩ := (bw_c_3 tys rv a n' rs (M q) e').mp hcell
  simp only [bi_ok, Bool.and_eq_true, bi_fw, decide_eq_true_eq, Bool.not_eq_true'] at hk
  obtain ⟨⟨⟨⟨⟨hw, hbN⟩, -⟩, hI⟩, hd⟩, hfin⟩ := hk
  obtain ⟨hd, hn⟩ := bi_dn_ok hd
  refine va_put (D := D) (ci := a) (v := .int y) (ty := .int) (C := (bi_cls a).1) (T := (bi_cls a).2.1) (N := (bi_cls a).2.2) hx hb hts (bw_uws a ha) (bw_ty a) (bw_ty_ok a ha) (bw_nm a ha) ho hW.1 hW.2.1 hW.2.2.1 hW.2.2.2.1 (q - 4) hws (bw_cl a ha) b hbN (hts _ (bi_w_ok hw)) (fun _ h => h) hfin (bw_ftI a ha b hbN hI) rfl rfl (by omega) hd (fun H1 locs1 hP1 hD1 hS1 => ?_)
  rw [← hn]
  refine K p l e R s mid args below meth c H1 locs1 cells slots Q D tys A rv0 rv _ ls lvs t b0 z0 hF ⟨hW.1, hP1, hD1, hS1, bw_ou_M hW.2.2.2.2.1 (fun _ _ => rfl) (fun k hk => up2_ne M q b _ k (by omega)), bw_k_set hW.2.2.2.2.2 h4 hws rfl hS (fun _ _ => rfl) (up2_ne M q b _) ?_⟩ hp hl hLl hL hs2 hc hz hRc hRz hfr hlo hRO
  refine (bw_c_3 tys rv a n' rs _ _).mpr ⟨_, rfl, by rw [List.length_set]; exact hfl, hN, ha, hrs, fun j hj => ?_⟩
  by_cases hjb : j = b
  · subst hjb
    exact ⟨.int y, List.getElem?_set_self (by omega), by rw [if_pos hI]; exact ⟨y, rfl, by rw [up2_at, if_pos rfl]⟩⟩
  · obtain ⟨w, hw1, hw2⟩ := hfield j hj
    refine ⟨w, by rw [List.getElem?_set_ne (fun z => hjb z.symm)]; exact hw1, ?_⟩
    rw [up2_at, if_neg hjb]
    exact hw2
theorem bw_z_set {S : Shp} {q kd kd' n' : Nat} {rs rs' : List Nat} (h : S[q]? = some (kd, n', rs)) : bw_z (S.set q (kd', n', rs')) = bw_z S := by
  induction S generalizing q with
  | nil => simp at h
  | cons x S ih =>
    cases q with
    | zero => simp at h; subst h; rfl
    | succ q =>
      have := ih (q := q) (by simpa using h)
      simp only [bw_z, List.set_cons_succ, List.map_cons, List.sum_cons] at this ⊢
      omega
theorem bw_17 {m i : Nat} {hh : List Nat} {a b : Nat} {n : Int} {l' : List Nat} {L : Lcl} {st : List AV} {S : Shp} {M : Mem} {res : Res} {q kd n' w : Nat} {rs : List Nat} (hk : bi_ok m i hh (17, a, b, n, l') = true) (hS : S[q]? = some (kd, n', rs)) (h1 : kd = a + 3 ∧ b < n' ∧ 4 ≤ q ∧ n' = rs.length) (K : bw_J m (i + 1) L st (S.set q (kd, n', rs.set b w)) M res) : bw_J m i L (.inr (.inr w) :: .inr (.inr (q + 1)) :: st) S M res := by
  intro p l e R s mid args below meth c H locs cells slots Q D tys A rv0 rv ws ls lvs stc b0 z0 hF hW hp hl hLl hL hs hc hz hRc hRz hfr hlo hRO
  obtain ⟨hx, hb, -, -, ho, hts, -, hin, -⟩ := id hF
  obtain ⟨vx, t1, rfl, hvw, hs1⟩ := bw_cons hs
  obtain ⟨vr, t, rfl, hv, hs2⟩ := bw_cons hs1
  obtain ⟨rfl, hbn, h4, hrl⟩ := h1
  obtain ⟨ad, e', rfl, hws, hcell⟩ := bw_cell hW.2.2.2.2.2 h4 hS hv
  obtain ⟨fs, rfl, hfl, hN, ha, hrs, hfield⟩ := (bw_c_3 tys rv a n' rs (M q) e').mp hcell
  simp only [bi_ok, Bool.and_eq_true, bi_fw, decide_eq_true_eq, Bool.not_eq_true'] at hk
  obtain ⟨⟨⟨⟨⟨⟨⟨hw, hbN⟩, -⟩, hI⟩, hd⟩, hfin⟩, hdecl⟩, hini⟩ := hk
  obtain ⟨hd, hn⟩ := bi_dn_ok hd
  have hft := bw_ftR a ha b hbN hI
  have hvn : vx = .null ∨ ∃ a', vx = .ref a' := hW.2.2.2.2.2.2.2.1 _ _ hvw
  obtain ⟨ty, hty, hnar, hfit⟩ : ∃ ty, parseFieldDescriptor (bi_fn a b).2.2.1 = some ty ∧ narrow ty vx = vx ∧ fits ty vx = true := by
    split at hft
    · rename_i o ho'; exact ⟨_, ho', by rcases hvn with rfl | ⟨a', rfl⟩ <;> rfl, by rcases hvn with rfl | ⟨a', rfl⟩ <;> rfl⟩
    · rename_i o ho'; exact ⟨_, ho', by rcases hvn with rfl | ⟨a', rfl⟩ <;> rfl, by rcases hvn with rfl | ⟨a', rfl⟩ <;> rfl⟩
    · cases hft
  refine va_putF (D := D) (ci := a) (v := vx) (ty := ty) (C := (bi_cls a).1) (T := (bi_cls a).2.1) (N := (bi_cls a).2.2) hx hb hts (bw_uws a ha) (bw_ty a) (bw_ty_ok a ha) (bw_nm a ha) ho hW.1 hW.2.1 hW.2.2.1 hW.2.2.2.1 (q - 4) hws (bw_cl a ha) b hbN (hts _ (bi_w_ok hw)) (fun _ h => h) hfin (hin hini) hdecl hty hnar hfit (by omega) hd (fun H1 locs1 hP1 hD1 hS1 => ?_)
  rw [← hn]
  have hql : q < S.length := (List.getElem?_eq_some_iff.mp hS).1
  refine K p l e R s mid args below meth c H1 locs1 cells slots Q D tys A rv0 rv _ ls lvs t b0 z0 hF ⟨hW.1, hP1, hD1, hS1, bw_ou_M hW.2.2.2.2.1 (fun k hk => List.getElem?_set_ne (by omega)) (fun _ _ => rfl), bw_k_set hW.2.2.2.2.2 h4 hws (by rw [List.length_set]) (List.getElem?_set_self hql) (fun k hk => List.getElem?_set_ne (fun z => hk z.symm)) (fun _ _ => rfl) ?_⟩ hp hl hLl hL hs2 (by rw [List.length_set]; exact hc) (by rw [bw_z_set hS]; exact hz) hRc hRz hfr hlo hRO
  refine (bw_c_3 tys rv a n' _ _ _).mpr ⟨_, rfl, by rw [List.length_set]; exact hfl, hN, ha, by rw [List.length_set]; exact hrs, fun j hj => ?_⟩
  by_cases hjb : j = b
  · subst hjb
    refine ⟨vx, List.getElem?_set_self (by omega), ?_⟩
    rw [if_neg (by rw [hI]; decide), List.getD_eq_getElem?_getD, List.getElem?_set_self (by omega)]
    exact hvw
  · obtain ⟨w', hw1, hw2⟩ := hfield j hj
    refine ⟨w', by rw [List.getElem?_set_ne (fun z => hjb z.symm)]; exact hw1, ?_⟩
    rw [List.getD_eq_getElem?_getD, List.getElem?_set_ne (fun z => hjb z.symm), ← List.getD_eq_getElem?_getD]
    exact hw2
end
section
/-! ARRAY WRITES, NEW CELLS -/
theorem bw_19 {m i : Nat} {hh : List Nat} {a b : Nat} {n : Int} {l' : List Nat} {L : Lcl} {st : List AV} {S : Shp} {M : Mem} {res : Res} {q n' : Nat} {rs : List Nat} {j v : Int} (hk : bi_ok m i hh (19, a, b, n, l') = true) (hS : S[q]? = some (0, n', rs)) (h0 : 0 ≤ j) (h1 : j < n') (h4 : 4 ≤ q) (K : bw_J m (i + 1) L st S (up2 M q j.toNat v) res) : bw_J m i L (.inl v :: .inl j :: .inr (.inr (q + 1)) :: st) S M res := by
  intro p l e R s mid args below meth c H locs cells slots Q D tys A rv0 rv ws ls lvs stc b0 z0 hF hW hp hl hLl hL hs hc hz hRc hRz hfr hlo hRO
  obtain ⟨hx, hb, -⟩ := id hF
  obtain ⟨vx, t1, rfl, ⟨x, rfl, rfl⟩, hs1⟩ := bw_cons hs
  obtain ⟨vj, t2, rfl, ⟨y, rfl, rfl⟩, hs2⟩ := bw_cons hs1
  obtain ⟨vr, t, rfl, hv, hs3⟩ := bw_cons hs2
  simp only [bi_ok] at hk
  obtain ⟨hd, hn⟩ := bi_dn_ok hk
  obtain ⟨ad, e', rfl, hws, hcell⟩ := bw_cell hW.2.2.2.2.2 h4 hS hv
  obtain ⟨cA, t0, g, ht, rfl, hle, hg⟩ := (bw_c_0 tys rv n' rs (M q) e').mp hcell
  refine va_iast hx hb hW.1 hW.2.1 hW.2.2.1 hW.2.2.2.1 (q - 4) t0 hws ht (nu_vin h0 h1) hd (fun H1 locs1 hP1 hD1 hS1 => ?_)
  rw [← hn]
  refine K p l e R s mid args below meth c H1 locs1 cells slots Q D tys A rv0 rv _ ls lvs t b0 z0 hF ⟨hW.1, hP1, hD1, hS1, bw_ou_M hW.2.2.2.2.1 (fun _ _ => rfl) (fun k hk => up2_ne M q _ _ k (by omega)), bw_k_set hW.2.2.2.2.2 h4 hws rfl hS (fun _ _ => rfl) (up2_ne M q _ _) ?_⟩ hp hl hLl hL hs3 hc hz hRc hRz hfr hlo hRO
  refine (bw_c_0 tys rv n' rs _ _).mpr ⟨cA, t0, _, ht, rfl, hle, fun k hk => ?_⟩
  rw [up2_at, nu_cl]
  by_cases h : k = y.toInt.toNat
  · rw [if_pos h, h, pk_us]
  · rw [if_neg h, pk_un h]; exact hg k hk
theorem bw_21 {m i : Nat} {hh : List Nat} {a b : Nat} {n : Int} {l' : List Nat} {L : Lcl} {st : List AV} {S : Shp} {M : Mem} {res : Res} {q n' : Nat} {rs : List Nat} {j v : Int} (hk : bi_ok m i hh (21, a, b, n, l') = true) (hS : S[q]? = some (1, n', rs)) (h0 : 0 ≤ j) (h1 : j < n') (h4 : 4 ≤ q) (hv1 : -128 ≤ v) (hv2 : v ≤ 127) (K : bw_J m (i + 1) L st S (up2 M q j.toNat v) res) : bw_J m i L (.inl v :: .inl j :: .inr (.inr (q + 1)) :: st) S M res := by
  intro p l e R s mid args below meth c H locs cells slots Q D tys A rv0 rv ws ls lvs stc b0 z0 hF hW hp hl hLl hL hs hc hz hRc hRz hfr hlo hRO
  obtain ⟨hx, hb, -⟩ := id hF
  obtain ⟨vx, t1, rfl, ⟨x, rfl, rfl⟩, hs1⟩ := bw_cons hs
  obtain ⟨vj, t2, rfl, ⟨y, rfl, rfl⟩, hs2⟩ := bw_cons hs1
  obtain ⟨vr, t, rfl, hv, hs3⟩ := bw_cons hs2
  simp only [bi_ok] at hk
  obtain ⟨hd, hn⟩ := bi_dn_ok hk
  obtain ⟨ad, e', rfl, hws, hcell⟩ := bw_cell hW.2.2.2.2.2 h4 hS hv
  obtain ⟨cA, t0, g, ht, rfl, hle, hg⟩ := (bw_c_1 tys rv n' rs (M q) e').mp hcell
  refine va_bast hx hb hW.1 hW.2.1 hW.2.2.1 hW.2.2.2.1 (q - 4) t0 hws ht (nu_vin h0 h1) hd (fun H1 locs1 hP1 hD1 hS1 => ?_)
  rw [← hn]
  refine K p l e R s mid args below meth c H1 locs1 cells slots Q D tys A rv0 rv _ ls lvs t b0 z0 hF ⟨hW.1, hP1, hD1, hS1, bw_ou_M hW.2.2.2.2.1 (fun _ _ => rfl) (fun k hk => up2_ne M q _ _ k (by omega)), bw_k_set hW.2.2.2.2.2 h4 hws rfl hS (fun _ _ => rfl) (up2_ne M q _ _) ?_⟩ hp hl hLl hL hs3 hc hz hRc hRz hfr hlo hRO
  refine (bw_c_1 tys rv n' rs _ _).mpr ⟨cA, t0, _, ht, rfl, hle, fun k hk => ?_⟩
  rw [up2_at, nu_cl, vp_nar_byte, nu_b8 hv1 hv2]
  by_cases h : k = y.toInt.toNat
  · rw [if_pos h, h, pk_us]
  · rw [if_neg h, pk_un h]; exact hg k hk
theorem bw_23 {m i : Nat} {hh : List Nat} {a b : Nat} {n : Int} {l' : List Nat} {L : Lcl} {st : List AV} {S : Shp} {M : Mem} {res : Res} {q n' w n2 : Nat} {rs rs2 : List Nat} {j : Int} (hk : bi_ok m i hh (23, a, b, n, l') = true) (hS : S[q]? = some (2, n', rs)) (hS2 : S[w]? = some (10, n2, rs2)) (h0 : 0 ≤ j) (h1 : j < n') (h4 : 4 ≤ q) (hw4 : 4 ≤ w) (K : bw_J m (i + 1) L st S (up2 M q j.toNat ((w + 1 : Nat) : Int)) res) : bw_J m i L (.inr (.inr (w + 1)) :: .inl j :: .inr (.inr (q + 1)) :: st) S M res := by
  intro p l e R s mid args below meth c H locs cells slots Q D tys A rv0 rv ws ls lvs stc b0 z0 hF hW hp hl hLl hL hs hc hz hRc hRz hfr hlo hRO
  obtain ⟨hx, hb, -⟩ := id hF
  obtain ⟨vx, t1, rfl, hvw, hs1⟩ := bw_cons hs
  obtain ⟨vj, t2, rfl, ⟨y, rfl, rfl⟩, hs2⟩ := bw_cons hs1
  obtain ⟨vr, t, rfl, hv, hs3⟩ := bw_cons hs2
  simp only [bi_ok] at hk
  obtain ⟨hd, hn⟩ := bi_dn_ok hk
  obtain ⟨ad, e', rfl, hws, hcell⟩ := bw_cell hW.2.2.2.2.2 h4 hS hv
  obtain ⟨cA, t0, g, ht, rfl, hle, hg⟩ := (bw_c_2 tys rv n' rs (M q) e').mp hcell
  obtain ⟨ad2, e2, rfl, hws2, hcell2⟩ := bw_cell hW.2.2.2.2.2 hw4 hS2 hvw
  obtain ⟨fs, rfl, -⟩ := (bw_c_3 tys rv 7 n2 rs2 (M w) e2).mp hcell2
  refine va_astq (r := (RX7, TX7, 15)) hx hb hW.1 hW.2.1 hW.2.2.1 hW.2.2.2.1 (q - 4) t0 (w - 4) 7 hws ht hws2 rfl (nu_vin h0 h1) hd (fun H1 locs1 hP1 hD1 hS1 => ?_)
  rw [← hn]
  refine K p l e R s mid args below meth c H1 locs1 cells slots Q D tys A rv0 rv _ ls lvs t b0 z0 hF ⟨hW.1, hP1, hD1, hS1, bw_ou_M hW.2.2.2.2.1 (fun _ _ => rfl) (fun k hk => up2_ne M q _ _ k (by omega)), bw_k_set hW.2.2.2.2.2 h4 hws rfl hS (fun _ _ => rfl) (up2_ne M q _ _) ?_⟩ hp hl hLl hL hs3 hc hz hRc hRz hfr hlo hRO
  refine (bw_c_2 tys rv n' rs _ _).mpr ⟨cA, t0, _, ht, rfl, hle, fun k hk => ?_⟩
  rw [up2_at, nu_cl]
  unfold va_up
  by_cases h : k = y.toInt.toNat
  · rw [if_pos h, if_pos h]; exact hvw
  · rw [if_neg h, if_neg h]; exact hg k hk
theorem bi_cpy_ne (M : Mem) (a sp b dp n : Nat) : ∀ k, k ≠ b → bi_cpy M a sp b dp n k = M k := fun k hk => by
  funext j
  unfold bi_cpy
  rw [if_neg (fun h => hk h.1)]
theorem bw_39 {m i : Nat} {hh : List Nat} {a b : Nat} {n : Int} {l' : List Nat} {L : Lcl} {st : List AV} {S : Shp} {M : Mem} {res : Res} {qa qb na nb : Nat} {ra rb : List Nat} {k0 dp sp : Int} (hk : bi_ok m i hh (39, a, b, n, l') = true) (hSa : S[qa]? = some (0, na, ra)) (hSb : S[qb]? = some (0, nb, rb)) (h1 : 0 ≤ k0 ∧ 0 ≤ dp ∧ 0 ≤ sp ∧ sp + k0 ≤ na ∧ dp + k0 ≤ nb ∧ 4 ≤ qa ∧ 4 ≤ qb ∧ bi_cats st ≤ 8) (K : bw_J m (i + 1) L st S (bi_cpy M qa sp.toNat qb dp.toNat k0.toNat) res) : bw_J m i L (.inl k0 :: .inl dp :: .inr (.inr (qb + 1)) :: .inl sp :: .inr (.inr (qa + 1)) :: st) S M res := by
  intro p l e R s mid args below meth c H locs cells slots Q D tys A rv0 rv ws ls lvs stc b0 z0 hF hW hp hl hLl hL hs hc hz hRc hRz hfr hlo hRO
  obtain ⟨hx, hb, hml, -, ho, hts, -⟩ := id hF
  obtain ⟨v1, t1, rfl, ⟨x, rfl, rfl⟩, hs1⟩ := bw_cons hs
  obtain ⟨v2, t2, rfl, ⟨y, rfl, rfl⟩, hs2⟩ := bw_cons hs1
  obtain ⟨v3, t3, rfl, hvb, hs3⟩ := bw_cons hs2
  obtain ⟨v4, t4, rfl, ⟨z, rfl, rfl⟩, hs4⟩ := bw_cons hs3
  obtain ⟨v5, t, rfl, hva, hs5⟩ := bw_cons hs4
  obtain ⟨g1, g2, g3, g4, g5, g6, g7, g8⟩ := h1
  simp only [bi_ok, Bool.and_eq_true, bi_mis, decide_eq_true_eq] at hk
  obtain ⟨⟨⟨⟨⟨w1, w2⟩, w3⟩, w4⟩, r1, r2⟩, hd⟩ := hk
  obtain ⟨hd, hn⟩ := bi_dn_ok hd
  obtain ⟨ada, ea, rfl, hwsa, hca⟩ := bw_cell hW.2.2.2.2.2 g6 hSa hva
  obtain ⟨cA, ta, ga, hta, rfl, hlea, hga⟩ := (bw_c_0 tys rv na ra (M qa) ea).mp hca
  obtain ⟨adb, eb, rfl, hwsb, hcb⟩ := bw_cell hW.2.2.2.2.2 g7 hSb hvb
  obtain ⟨cB, tb, gb, htb, rfl, hleb, hgb⟩ := (bw_c_0 tys rv nb rb (M qb) eb).mp hcb
  have hcs := bw_cats hW.2.2.2.2.2 _ _ hs5
  have hlt : ∀ u : Int32, 0 ≤ u.toInt → ¬ u < 0 := fun u hu q => by have := Int32.lt_iff_toInt_lt.mp q; simp at this; omega
  have hnf : nativeFrameWords "java/lang/System" "arraycopy" 5 = 7 := by decide
  refine va_copyi hx hb (by rw [hml]; exact hl.1.symm) ho (hts _ (bi_w_ok w1)) (hts _ (bi_w_ok w2)) (hts _ (bi_w_ok w3)) (hts _ (bi_w_ok w4)) hW.1 hW.2.1 hW.2.2.1 hW.2.2.2.1 (qa - 4) (qb - 4) ta tb hwsa hwsb hta htb rfl (hlt _ g3) (hlt _ g2) (hlt _ g1) (by rw [nu_cl, nu_cl]; omega) (by rw [nu_cl, nu_cl]; omega) (fun _ _ => rfl) (by omega) (by rw [hcs, hnf]; omega) hd (fun H1 locs1 hP1 hD1 hS1 => ?_)
  rw [← hn]
  refine K p l e R s mid args below meth c H1 locs1 cells slots Q D tys A rv0 rv _ ls lvs t b0 z0 hF ⟨hW.1, hP1, hD1, hS1, bw_ou_M hW.2.2.2.2.1 (fun _ _ => rfl) (fun k hk => bi_cpy_ne M qa _ qb _ _ k (by omega)), bw_k_set hW.2.2.2.2.2 g7 hwsb rfl hSb (fun _ _ => rfl) (bi_cpy_ne M qa _ qb _ _) ?_⟩ hp hl hLl hL hs5 hc hz hRc hRz hfr hlo hRO
  refine (bw_c_0 tys rv nb rb _ _).mpr ⟨cB, tb, _, htb, rfl, hleb, fun k hk => ?_⟩
  rw [nu_cl, nu_cl, nu_cl]
  unfold va_cpy bi_cpy
  by_cases h : y.toInt.toNat ≤ k ∧ k < y.toInt.toNat + x.toInt.toNat
  · rw [if_pos h, if_pos ⟨rfl, h⟩]; exact hga _ (by omega)
  · rw [if_neg h, if_neg (fun z => h z.2)]; exact hgb k hk
theorem bw_c_mono {tys tys' : List (ClassId × FieldType)} {rv rv' : List Value} {sh : Nat × Nat × List Nat} {f : Nat → Int} {e : va_E} (ht : ∀ (k : Nat) (x : ClassId × FieldType), tys[k]? = some x → tys'[k]? = some x) (hr : rv <+: rv') (h : bw_c tys rv sh f e) : bw_c tys' rv' sh f e := by
  match sh, h with
  | (0, n, rs), h =>
    obtain ⟨cA, t0, g, h1, h2⟩ := (bw_c_0 _ _ _ rs _ _).mp h
    exact (bw_c_0 _ _ _ rs _ _).mpr ⟨cA, t0, g, ht _ _ h1, h2⟩
  | (1, n, rs), h =>
    obtain ⟨cA, t0, g, h1, h2⟩ := (bw_c_1 _ _ _ rs _ _).mp h
    exact (bw_c_1 _ _ _ rs _ _).mpr ⟨cA, t0, g, ht _ _ h1, h2⟩
  | (2, n, rs), h =>
    obtain ⟨cA, t0, g, h1, h2, h3, h4⟩ := (bw_c_2 _ _ _ rs _ _).mp h
    exact (bw_c_2 _ _ _ rs _ _).mpr ⟨cA, t0, g, ht _ _ h1, h2, h3, fun j hj => bw_pre hr (h4 j hj)⟩
  | (k + 3, n, rs), h =>
    obtain ⟨fs, h1, h2, h3, h4, h5, h6⟩ := (bw_c_3 _ _ _ _ _ _ _).mp h
    refine (bw_c_3 _ _ _ _ _ _ _).mpr ⟨fs, h1, h2, h3, h4, h5, fun j hj => ?_⟩
    obtain ⟨v, hv, hv2⟩ := h6 j hj
    refine ⟨v, hv, ?_⟩
    by_cases hI : bi_isI k j = true
    · rw [if_pos hI] at hv2 ⊢; exact hv2
    · rw [if_neg hI] at hv2 ⊢; exact bw_pre hr hv2
theorem bw_k_push {tys tys' : List (ClassId × FieldType)} {rv : List Value} {ws : va_W} {S : Shp} {M M' : Mem} (hk : bw_k tys rv ws S M) (ht : ∀ (k : Nat) (x : ClassId × FieldType), tys[k]? = some x → tys'[k]? = some x) {ad : Nat} {e : va_E} {sh : Nat × Nat × List Nat} (hM : ∀ k, k < S.length → M' k = M k) (hc : bw_c tys' (rv ++ [.ref ad]) sh (M' S.length) e) : bw_k tys' (rv ++ [.ref ad]) (ws ++ [(ad, e)]) (S ++ [sh]) M' := by
  obtain ⟨k1, k2, k3, k4, k5, k6⟩ := hk
  have hpre : rv <+: rv ++ [Value.ref ad] := List.prefix_append _ _
  refine ⟨by simp; exact k1, by simp; omega, fun c v h => ?_, bw_pre hpre k4, fun k a e' h => ?_, fun k a e' sh' h hsh => ?_⟩
  · rw [List.getElem?_append] at h
    split at h
    · exact k3 c v h
    · rw [List.getElem?_singleton] at h
      split at h
      · cases h; exact Or.inr ⟨_, rfl⟩
      · cases h
  · rw [List.getElem?_append] at h
    split at h
    · exact bw_pre hpre (k5 k a e' h)
    · rw [List.getElem?_singleton] at h
      split at h
      · rename_i h1 h2
        cases h
        rw [List.getElem?_append_right (by omega), show k + 5 - rv.length = 0 by omega]
        rfl
      · cases h
  · rw [List.getElem?_append] at h
    split at h
    · rename_i hkw
      rw [List.getElem?_append_left (by omega)] at hsh
      rw [hM _ (by omega)]
      exact bw_c_mono ht hpre (k6 k a e' sh' h hsh)
    · rw [List.getElem?_singleton] at h
      split at h
      · rename_i h1 h2
        cases h
        have hkk : k + 4 = S.length := by omega
        rw [hkk] at hsh ⊢
        rw [List.getElem?_append_right (Nat.le_refl _), Nat.sub_self] at hsh
        cases hsh
        exact hc
      · cases h
theorem bw_ou_push {A : Nat → Prop} {U : State} {H : Heap} {rv : List Value} {S : Shp} {M M' : Mem} (h : bw_ou A U H rv S M) (h4 : 4 ≤ S.length) {v : Value} {sh : Nat × Nat × List Nat} (hM : ∀ k, k < S.length → M' k = M k) : bw_ou A U H (rv ++ [v]) (S ++ [sh]) M' := by
  have hpre : rv <+: rv ++ [v] := List.prefix_append _ _
  obtain ⟨b, N, b1, b2, xs, ys, fv, ⟨a1, a2⟩, ⟨c1, c2⟩, ⟨d1, d2⟩, ⟨e1, e2⟩, f⟩ := bw_ou_M (S' := S ++ [sh]) (M' := M') h (fun k hk => List.getElem?_append_left (by omega)) (fun k hk => hM k (by omega))
  exact ⟨b, N, b1, b2, xs, ys, fv, ⟨bw_pre hpre a1, a2⟩, ⟨bw_pre hpre c1, c2⟩, ⟨bw_pre hpre d1, d2⟩, ⟨bw_pre hpre e1, e2⟩, f⟩
theorem bw_z_app (S : Shp) (x : Nat × Nat × List Nat) : bw_z (S ++ [x]) = bw_z S + x.2.1 := by
  unfold bw_z
  simp
theorem bw_df : ∀ a, a < 10 → ∀ j, j < (bi_cls a).2.2 → defaultValue (bw_ty a j) = (if bi_isI a j = true then .int 0 else .null) := by decide +kernel
theorem bw_25 {m i : Nat} {hh : List Nat} {a b : Nat} {n : Int} {l' : List Nat} {L : Lcl} {st : List AV} {S : Shp} {M : Mem} {res : Res} (hk : bi_ok m i hh (25, a, b, n, l') = true) (hm : (S ++ [(a + 3, b, List.replicate b 0)]).length ≤ res.1.length ∧ bw_z (S ++ [(a + 3, b, List.replicate b 0)]) ≤ bw_z res.1) (K : bw_J m (i + 1) L (.inr (.inr (S.length + 1)) :: st) (S ++ [(a + 3, b, List.replicate b 0)]) (fun q j => if q = S.length then 0 else M q j) res) : bw_J m i L st S M res := by
  intro p l e R s mid args below meth c H locs cells slots Q D tys A rv0 rv ws ls lvs stc b0 z0 hF hW hp hl hLl hL hs hc hz hRc hRz hfr hlo hRO
  obtain ⟨hx, hb, -, -, ho, hts, -, -, -, hA⟩ := id hF
  simp only [bi_ok, Bool.and_eq_true, decide_eq_true_eq] at hk
  obtain ⟨⟨⟨⟨⟨w1, w2⟩, w3⟩, rfl⟩, ha⟩, hd⟩ := hk
  obtain ⟨hd, hn⟩ := bi_dn_ok hd
  have hkk := hW.2.2.2.2.2
  have h4 : 4 ≤ S.length := by have := hkk.2.1; omega
  have hl1 := hkk.1
  rw [List.length_append, bw_z_app] at hm
  simp only [List.length_singleton] at hm
  refine va_new (ci := a) (fs := (List.range (bi_cls a).2.2).map (fun j => if bi_isI a j = true then Value.int 0 else .null)) (C := (bi_cls a).1) (T := (bi_cls a).2.1) (N := (bi_cls a).2.2) hx hb hts (bw_uws a ha) (bw_ty a) (bw_ty_ok a ha) ho (hts _ (bi_w_ok w1)) (hts _ (bi_w_ok w2)) (hts _ (bi_w_ok w3)) hW.1 hW.2.1 hW.2.2.1 hW.2.2.2.1 hA (bw_cl a ha) (fun j hj => ?_) (by omega) (by omega) hd (fun q H1 hP1 hD1 hS1 => ?_)
  · rw [bw_df a ha j hj]
    unfold vp_V
    rw [List.getD_eq_getElem?_getD, List.getElem?_map, List.getElem?_range hj]
    rfl
  rw [← hn]
  have hpre : rv <+: rv ++ [Value.ref q] := List.prefix_append _ _
  refine K p l e R s mid args below meth c H1 locs (cells + 1) (slots + (bi_cls a).2.2) Q D tys A rv0 (rv ++ [.ref q]) _ ls lvs _ b0 z0 hF ⟨hW.1, hP1, hD1, hS1, bw_ou_push hW.2.2.2.2.1 h4 (fun k hk => ?_), bw_k_push hkk (fun _ _ h => h) (fun k hk => ?_) ?_⟩ (hp.trans hpre) hl hLl (bw_l_mono hpre hL) (bw_pR ?_ (bw_s_mono hpre _ _ hs)) (by rw [List.length_append]; simp only [List.length_singleton]; omega) (by rw [bw_z_app]; show slots + (bi_cls a).2.2 + z0 = bw_z S + (bi_cls a).2.2; omega) hRc hRz hfr hlo hRO
  · funext j; exact if_neg (by omega)
  · funext j; exact if_neg (by omega)
  · refine (bw_c_3 _ _ _ _ _ _ _).mpr ⟨_, rfl, by simp, rfl, ha, by simp, fun j hj => ?_⟩
    refine ⟨if bi_isI a j = true then .int 0 else .null, by rw [List.getElem?_map, List.getElem?_range hj]; rfl, ?_⟩
    by_cases hI : bi_isI a j = true
    · rw [if_pos hI, if_pos hI]; exact ⟨0, rfl, by rw [if_pos rfl]; decide⟩
    · rw [if_neg hI, if_neg hI, List.getD_eq_getElem?_getD, List.getElem?_replicate, if_pos hj]
      exact bw_pre hpre hkk.2.2.2.1
  · rw [List.getElem?_append_right (by omega), show S.length + 1 - rv.length = 0 by omega]; rfl
theorem bw_26 {m i : Nat} {hh : List Nat} {a b : Nat} {n : Int} {l' : List Nat} {L : Lcl} {st : List AV} {S : Shp} {M : Mem} {res : Res} {k0 : Int} (hk : bi_ok m i hh (26, a, b, n, l') = true) (h1 : 0 ≤ k0 ∧ k0 ≤ 65536 ∧ a < 3) (hm : (S ++ [(a, k0.toNat, ([] : List Nat))]).length ≤ res.1.length ∧ bw_z (S ++ [(a, k0.toNat, ([] : List Nat))]) ≤ bw_z res.1) (K : bw_J m (i + 1) L (.inr (.inr (S.length + 1)) :: st) (S ++ [(a, k0.toNat, [])]) (fun q j => if q = S.length then 0 else M q j) res) : bw_J m i L (.inl k0 :: st) S M res := by
  intro p l e R s mid args below meth c H locs cells slots Q D tys A rv0 rv ws ls lvs stc b0 z0 hF hW hp hl hLl hL hs hc hz hRc hRz hfr hlo hRO
  obtain ⟨hx, hb, -, -, ho, hts, -, -, hcx, hA⟩ := id hF
  obtain ⟨v1, t, rfl, ⟨x, rfl, rfl⟩, hs1⟩ := bw_cons hs
  have hkk := hW.2.2.2.2.2
  have h4 : 4 ≤ S.length := by have := hkk.2.1; omega
  have hl1 := hkk.1
  rw [List.length_append, bw_z_app] at hm
  simp only [List.length_singleton] at hm
  have hm2 : bw_z S + x.toInt.toNat ≤ bw_z res.1 := hm.2
  have hlt : ¬ x < 0 := fun q => by have := Int32.lt_iff_toInt_lt.mp q; simp at this; omega
  have go : ∀ (q : Nat) (H1 : Heap) (tys' : List (ClassId × FieldType)) (e' : va_E), va_K D vwCl tys' s → va_P D vwCl (ws ++ [(q, e')]) H1 → va_D A (ws ++ [(q, e')]) → va_S A s.heap H1 locs → (∀ (k : Nat) (x : ClassId × FieldType), tys[k]? = some x → tys'[k]? = some x) → bw_c tys' (rv ++ [.ref q]) (a, x.toInt.toNat, []) (fun _ => 0) e' → W p l e R s mid args below meth c H1 locs (cells + 1) (slots + x.toInt.toNat) Q (F0 mid (bi_pc m (i + 1)) ls (.ref q :: t)) := by
    intro q H1 tys' e' hK1 hP1 hD1 hS1 hty hcc
    have hpre : rv <+: rv ++ [Value.ref q] := List.prefix_append _ _
    refine K p l e R s mid args below meth c H1 locs (cells + 1) (slots + x.toInt.toNat) Q D tys' A rv0 (rv ++ [.ref q]) _ ls lvs _ b0 z0 hF ⟨hK1, hP1, hD1, hS1, bw_ou_push hW.2.2.2.2.1 h4 (fun k hk => ?_), bw_k_push hkk hty (fun k hk => ?_) ?_⟩ (hp.trans hpre) hl hLl (bw_l_mono hpre hL) (bw_pR ?_ (bw_s_mono hpre _ _ hs1)) (by rw [List.length_append]; simp only [List.length_singleton]; omega) (by rw [bw_z_app]; show slots + x.toInt.toNat + z0 = bw_z S + x.toInt.toNat; omega) hRc hRz hfr hlo hRO
    · funext j; exact if_neg (by omega)
    · funext j; exact if_neg (by omega)
    · have e0 : (fun j : Nat => if S.length = S.length then (0 : Int) else M S.length j) = fun _ => 0 := by funext j; exact if_pos rfl
      show bw_c tys' (rv ++ [.ref q]) (a, x.toInt.toNat, []) (fun j : Nat => if S.length = S.length then (0 : Int) else M S.length j) e'
      rw [e0]; exact hcc
    · rw [List.getElem?_append_right (by omega), show S.length + 1 - rv.length = 0 by omega]; rfl
  have hext : ∀ (y : ClassId × FieldType) (k : Nat) (z : ClassId × FieldType), tys[k]? = some z → (tys ++ [y])[k]? = some z := fun y k z h => by rw [List.getElem?_append_left (List.getElem?_eq_some_iff.mp h).1]; exact h
  have hlast : ∀ y : ClassId × FieldType, (tys ++ [y])[tys.length]? = some y := fun y => by rw [List.getElem?_append_right (Nat.le_refl _), Nat.sub_self]; rfl
  match a, h1, hk, go with
  | 0, h1, hk, go =>
    simp only [bi_ok, Bool.and_eq_true] at hk
    obtain ⟨hd, hn⟩ := bi_dn_ok hk.2
    rw [hn] at go
    refine va_newa (a0 := (x.toInt.toNat, .inl (fun _ => 0))) (N' := x.toInt.toNat) hx hb (hts _ (bi_w_ok hk.1)) rfl hW.1 hW.2.1 hW.2.2.1 hW.2.2.2.1 hA (fun _ => rfl) hlt nu_cl (by show _ * 4 ≤ _; omega) (by omega) (by omega) hd (fun q cA H1 hK1 hP1 hD1 hS1 => ?_)
    exact go q H1 _ _ hK1 hP1 hD1 hS1 (hext _) ((bw_c_0 _ _ _ [] _ _).mpr ⟨cA, tys.length, _, hlast _, rfl, by omega, fun _ _ => by decide⟩)
  | 1, h1, hk, go =>
    simp only [bi_ok, Bool.and_eq_true] at hk
    obtain ⟨hd, hn⟩ := bi_dn_ok hk.2
    rw [hn] at go
    refine va_newa (a0 := (x.toInt.toNat, .inl (fun _ => 0))) (N' := x.toInt.toNat) hx hb (hts _ (bi_w_ok hk.1)) rfl hW.1 hW.2.1 hW.2.2.1 hW.2.2.2.1 hA (fun _ => rfl) hlt nu_cl (by show _ * 1 ≤ _; omega) (by omega) (by omega) hd (fun q cA H1 hK1 hP1 hD1 hS1 => ?_)
    exact go q H1 _ _ hK1 hP1 hD1 hS1 (hext _) ((bw_c_1 _ _ _ [] _ _).mpr ⟨cA, tys.length, _, hlast _, rfl, by omega, fun _ _ => by decide⟩)
  | 2, h1, hk, go =>
    simp only [bi_ok, Bool.and_eq_true] at hk
    obtain ⟨hd, hn⟩ := bi_dn_ok hk.2
    rw [hn] at go
    refine va_newq (N' := x.toInt.toNat) hx hb ho (hts _ (bi_w_ok hk.1)) hcx.2 hW.1 hW.2.1 hW.2.2.1 hW.2.2.2.1 hA hlt nu_cl (by omega) (by omega) (by omega) hd (fun q cA H1 hK1 hP1 hD1 hS1 => ?_)
    exact go q H1 _ _ hK1 hP1 hD1 hS1 (hext _) ((bw_c_2 _ _ _ [] _ _).mpr ⟨cA, tys.length, _, hlast _, rfl, by omega, fun _ _ => bw_pre (List.prefix_append _ _) hkk.2.2.2.1⟩)
  | a + 3, h1, _, _ => exact absurd h1.2.2 (by omega)
theorem bw_33 {m i : Nat} {hh : List Nat} {a b : Nat} {n : Int} {l' : List Nat} {L : Lcl} {st : List AV} {S : Shp} {M : Mem} {res : Res} {x : Int} (hk : bi_ok m i hh (33, a, b, n, l') = true) (hr : bi_retok a x = true) : bw_J m i L [.inl x] S M (S, M, some (.inl x)) := by
  intro p l e R s mid args below meth c H locs cells slots Q D tys A rv0 rv ws ls lvs stc b0 z0 hF hW hp hl hLl hL hs hc hz hRc hRz hfr hlo hRO
  obtain ⟨v1, t, rfl, ⟨y, rfl, rfl⟩, hs1⟩ := bw_cons hs
  rw [bw_nil hs1]
  simp only [bi_ok, Bool.and_eq_true] at hk
  refine hRO H locs cells slots tys rv ws ls _ _ hW hp hc hz ⟨y, rfl, rfl, bi_d_ok hk.1, ?_⟩
  match a, hr, hk.2 with
  | 0, hr, h2 => exact ⟨_, of_decide_eq_true h2, rfl⟩
  | 1, hr, h2 =>
    refine ⟨_, of_decide_eq_true h2, ?_⟩
    rcases of_decide_eq_true hr with h | h
    · rw [show y = 0 from nu_eq.mpr (by rw [h]; decide)]; decide
    · rw [show y = 1 from nu_eq.mpr (by rw [h]; decide)]; decide
  | 2, hr, h2 =>
    have hr := of_decide_eq_true hr
    refine ⟨_, of_decide_eq_true h2, ?_⟩
    obtain ⟨k, hk1, e1, e2⟩ := nu_nat hr.1
    rw [e1]; exact (pk_charN (by omega)).1
  | a + 3, hr, h2 =>
    have hr := of_decide_eq_true hr
    refine ⟨_, of_decide_eq_true h2, ?_⟩
    have := pk_nb y
    rw [nu_b8 hr.1 hr.2] at this
    exact this
theorem bw_34 {m i : Nat} {hh : List Nat} {a b : Nat} {n : Int} {l' : List Nat} {L : Lcl} {st : List AV} {S : Shp} {M : Mem} {res : Res} (hk : bi_ok m i hh (34, a, b, n, l') = true) : bw_J m i L [] S M (S, M, none) := by
  intro p l e R s mid args below meth c H locs cells slots Q D tys A rv0 rv ws ls lvs stc b0 z0 hF hW hp hl hLl hL hs hc hz hRc hRz hfr hlo hRO
  rw [bw_nil hs]
  simp only [bi_ok, Bool.and_eq_true, decide_eq_true_eq] at hk
  exact hRO H locs cells slots tys rv ws ls _ _ hW hp hc hz ⟨rfl, bi_d_ok hk.1, hk.2⟩
theorem bw_35 {m i : Nat} {hh : List Nat} {a b : Nat} {n : Int} {l' : List Nat} {L : Lcl} {st : List AV} {S : Shp} {M : Mem} {res : Res} {q : Nat} (hk : bi_ok m i hh (35, a, b, n, l') = true) : bw_J m i L [.inr (.inr q)] S M (S, M, some (.inr (.inr q))) := by
  intro p l e R s mid args below meth c H locs cells slots Q D tys A rv0 rv ws ls lvs stc b0 z0 hF hW hp hl hLl hL hs hc hz hRc hRz hfr hlo hRO
  obtain ⟨v1, t, rfl, hv, hs1⟩ := bw_cons hs
  rw [bw_nil hs1]
  simp only [bi_ok, Bool.and_eq_true, decide_eq_true_eq] at hk
  exact hRO H locs cells slots tys rv ws ls _ _ hW hp hc hz ⟨v1, rfl, hv, bi_d_ok hk.1, hk.2⟩
end
section
/-! CALLS -/
def bw_I (S : Shp) (M : Mem) (res : Res) : Prop := S.length ≤ res.1.length ∧ bw_z S ≤ bw_z res.1 ∧ (4 ≤ S.length → ∀ k, k < 4 → res.1[k]? = S[k]? ∧ res.2.1 k = M k)
def bw_o (rv : List Value) : Option AV → Option Value → Prop
  | none, none => True
  | some a, some v => bw_v rv a v
  | _, _ => False
def bw_Qc (D : va_G) (A1 : Nat → Prop) (rv0 : List Value) (res : Res) : Array Value → State → Outcome → State → Prop := fun _ st o t =>
  (∃ (v : Option Value) (tys : List (ClassId × FieldType)) (rv : List Value) (ws : va_W), o = .returned v ∧ bw_o rv res.2.2 v ∧ rv0 <+: rv ∧ va_K D vwCl tys t ∧ va_P D vwCl ws t.heap ∧ va_D A1 ws ∧ bw_k tys rv ws res.1 res.2.1) ∧ va_F A1 st t
abbrev bw_ws (a : Nat) : List Cond := Cond.code (bi_y a) (bi_by a) (bi_mL a) (bi_ret a) :: wAll
theorem bw_good : ∀ w ∈ wAll, (w.onTables && w.keeps) = true ∨ ∃ ty, w = .arrayClass ty := fun w h => good_of_word (List.mem_filter.mp h).2
theorem bw_goodIn {l : List Cond} (h : ∀ w ∈ l, w ∈ wAll) : GoodIn wAll l := fun w hw => ⟨h w hw, bw_good w (h w hw)⟩
theorem bw_pc0 : ∀ m, bi_pc m 0 = 0 := by
  have h : ∀ m, m < bi_pcs.length → bi_pc m 0 = 0 := by decide +kernel
  intro m
  rcases Nat.lt_or_ge m bi_pcs.length with q | q
  · exact h m q
  · unfold bi_pc
    have e : bi_pcs.getD m [] = [] := by rw [List.getD_eq_getElem?_getD, List.getElem?_eq_none q]; rfl
    rw [e]
    rfl
theorem bw_entry_l {tys : List (ClassId × FieldType)} {rv : List Value} {ws : va_W} {S : Shp} {M : Mem} (hk : bw_k tys rv ws S M) : ∀ (as : List AV) (avals : List Value) (pre : Lcl) (tl : Lcl), (∀ v : AV, some v ∉ tl) → bw_s rv as avals → ∀ (i : Nat) (v : AV), pre.length ≤ i → (pre ++ (as.flatMap bi_slots) ++ tl)[i]? = some (some v) → ∃ c, (i, c) ∈ lv_args pre.length avals ∧ bw_v rv v c := by
  intro as
  induction as with
  | nil =>
    intro avals pre tl htl hs i v hi h
    simp only [List.flatMap_nil, List.append_nil] at h
    rw [List.getElem?_append_right hi] at h
    exact absurd (List.mem_of_getElem? h) (htl v)
  | cons x as ih =>
    intro avals pre tl htl hs i v hi h
    obtain ⟨w, t, rfl, hw, hs1⟩ := bw_cons hs
    have hcat := bw_cat hk hw
    by_cases hip : i = pre.length
    · subst hip
      have hx : v = x := by
        rw [List.append_assoc, List.getElem?_append_right (Nat.le_refl _), Nat.sub_self] at h
        match x, h with
        | .inl _, h => simpa [bi_slots] using h.symm
        | .inr (.inl _), h => simpa [bi_slots] using h.symm
        | .inr (.inr _), h => simpa [bi_slots] using h.symm
      subst hx
      exact ⟨w, List.mem_cons_self, hw⟩
    · match x, hw, hcat, h with
      | .inl z, hw, hcat, h =>
        have h2 : (((pre ++ [some (Sum.inl z)]) ++ (as.flatMap bi_slots)) ++ tl)[i]? = some (some v) := by simpa [bi_slots] using h
        obtain ⟨d, hd, hdv⟩ := ih t (pre ++ [some (Sum.inl z)]) tl htl hs1 i v (by simp; omega) h2
        refine ⟨d, ?_, hdv⟩
        rw [lv_args, if_neg (by rw [hcat]; exact fun q => by cases q)]
        refine List.mem_cons_of_mem _ ?_
        simpa using hd
      | .inr (.inl z), hw, hcat, h =>
        have h2 : (((pre ++ [some (Sum.inr (Sum.inl z)), none]) ++ (as.flatMap bi_slots)) ++ tl)[i]? = some (some v) := by simpa [bi_slots] using h
        have hne : i ≠ pre.length + 1 := fun q => by
          subst q
          rw [List.append_assoc, List.getElem?_append_left (by simp), List.getElem?_append_right (by simp)] at h2
          simp at h2
        obtain ⟨d, hd, hdv⟩ := ih t (pre ++ [some (Sum.inr (Sum.inl z)), none]) tl htl hs1 i v (by simp; omega) h2
        refine ⟨d, ?_, hdv⟩
        rw [lv_args, if_pos (by rw [hcat]; rfl)]
        refine List.mem_cons_of_mem _ ?_
        simpa using hd
      | .inr (.inr z), hw, hcat, h =>
        have h2 : (((pre ++ [some (Sum.inr (Sum.inr z))]) ++ (as.flatMap bi_slots)) ++ tl)[i]? = some (some v) := by simpa [bi_slots] using h
        obtain ⟨d, hd, hdv⟩ := ih t (pre ++ [some (Sum.inr (Sum.inr z))]) tl htl hs1 i v (by simp; omega) h2
        refine ⟨d, ?_, hdv⟩
        rw [lv_args, if_neg (by rw [hcat]; exact fun q => by cases q)]
        refine List.mem_cons_of_mem _ ?_
        simpa using hd
theorem bw_sl {tys : List (ClassId × FieldType)} {rv : List Value} {ws : va_W} {S : Shp} {M : Mem} (hk : bw_k tys rv ws S M) : ∀ (as : List AV) (avals : List Value), bw_s rv as avals → (lg_sl avals).length = bi_cats as := by
  intro as
  induction as with
  | nil => intro avals h; rw [bw_nil h]; rfl
  | cons x as ih =>
    intro avals h
    obtain ⟨v, t, rfl, h1, h2⟩ := bw_cons h
    have h3 := ih t h2
    have h4 := bw_cat hk h1
    rw [bw_cats_cons, ← h3, ← h4]
    show (lg_sl (v :: t)).length = _
    unfold lg_sl
    rw [List.flatMap_cons, List.length_append]
    rcases lv_cat v with q | q
    · rw [if_neg (by omega), q]; rfl
    · rw [if_pos q, q]; rfl
theorem bw_fm : ∀ (as : List AV), (as.flatMap bi_slots).length = bi_cats as := by
  intro as
  induction as with
  | nil => rfl
  | cons x as ih =>
    rw [List.flatMap_cons, List.length_append, ih, bw_cats_cons]
    match x with
    | .inl _ => rfl
    | .inr (.inl _) => rfl
    | .inr (.inr _) => rfl
theorem bw_entry_len (nL : Nat) (as : List AV) (h : bi_cats as ≤ nL) : (bi_entry nL as).length = nL := by
  unfold bi_entry
  rw [List.length_append, List.length_replicate, bw_fm]
  omega
theorem bw_entry {tys : List (ClassId × FieldType)} {rv : List Value} {ws : va_W} {S : Shp} {M : Mem} (hk : bw_k tys rv ws S M) (nL : Nat) (as : List AV) (avals : List Value) (hs : bw_s rv as avals) : bw_l rv (bi_entry nL as) (lv_args 0 avals) := by
  intro i v h
  refine bw_entry_l hk as avals [] _ (fun v q => ?_) hs i v (Nat.zero_le _) (by rw [List.nil_append]; exact h)
  exact absurd (List.eq_of_mem_replicate q) (by simp)
theorem bw_ou_rv {A : Nat → Prop} {U : State} {H : Heap} {rv rv' : List Value} {S : Shp} {M : Mem} (hp : rv <+: rv') (h : bw_ou A U H rv S M) : bw_ou A U H rv' S M := by
  obtain ⟨b, N, b1, b2, xs, ys, fv, ⟨a1, a2⟩, ⟨c1, c2⟩, ⟨d1, d2⟩, ⟨e1, e2⟩, f⟩ := h
  exact ⟨b, N, b1, b2, xs, ys, fv, ⟨bw_pre hp a1, a2⟩, ⟨bw_pre hp c1, c2⟩, ⟨bw_pre hp d1, d2⟩, ⟨bw_pre hp e1, e2⟩, f⟩
theorem bw_ou_go {A B : Nat → Prop} {u U : State} {H0 H : Heap} {rv : List Value} {S : Shp} {M : Mem} (hvm : u.vm.Alike U.vm) (hR : ∀ a, vk_R "ByInitials" 77 bw_txt a u → vk_R "ByInitials" 77 bw_txt a U) (hq : ∀ a : Nat, a < H0.size → ¬ A a → H[a]? = H0[a]?) (hAB : ∀ q, q < H0.size → B q → A q) (h : bw_ou A u H0 rv S M) : bw_ou B U H rv S M := by
  obtain ⟨b, N, b1, b2, xs, ys, fv, ⟨a1, a2, a3, a4, a5⟩, ⟨c1, c2, c3, c4, c5, c6⟩, ⟨d1, d2, d3, d4⟩, ⟨e1, e2, e3, e4⟩, f⟩ := h
  have low : ∀ {t : Nat} {x : Cell}, H0[t]? = some x → t < H0.size := fun h => (Array.getElem?_eq_some_iff.mp h).1
  have kT : ∀ {ty : FieldType} {t k : Nat} {f : Nat → Value}, va_T ty t k f A u H0 → va_T ty t k f B U H := fun {ty t k f} h => by
    have h' := (h.moved hvm).kept hq
    obtain ⟨x, hx, -⟩ := h
    obtain ⟨y, g1, g2, g3, g4, g5, g6, g7⟩ := h'
    exact ⟨y, g1, g2, g3, g4, g5, g6, fun z => g7 (hAB _ (low hx) z)⟩
  have kZ : ∀ {C nn d : String} {v : Value}, va_Z C nn d v A u H0 → va_Z C nn d v B U H := fun {C nn d v} h => by
    obtain ⟨cf, kf, fi, f, a, cell, g1, g2, g3, g4, g5, g6, g7, g8⟩ := h.moved hvm
    exact ⟨cf, kf, fi, f, a, cell, g1, g2, g3, g4, by rw [hq a (low g5) g8]; exact g5, g6, g7, fun z => g8 (hAB _ (low g5) z)⟩
  have kO : ∀ {E : String} {t : Nat}, va_O E t A u H0 → va_O E t B U H := fun {E t} h => by
    obtain ⟨cell, g1, g2, g3, g4⟩ := h.moved hvm
    exact ⟨cell, by rw [hq t (low g1) g4]; exact g1, g2, g3, fun z => g4 (hAB _ (low g1) z)⟩
  have kF : ∀ {o nn d : String} {v : Value} {t : Nat}, va_OF o nn d v t A u H0 → va_OF o nn d v t B U H := fun {o nn d v t} h => by
    obtain ⟨cf, k, i, f, cell, g1, g2, g3, g4, g5, g6⟩ := h.moved hvm
    exact ⟨cf, k, i, f, cell, g1, g2, by rw [hq t (low g3) g6]; exact g3, g4, g5, fun z => g6 (hAB _ (low g3) z)⟩
  exact ⟨b, N, b1, b2, xs, ys, fv, ⟨a1, a2, a3, kT a4, a5⟩, ⟨c1, c2, c3, kO c4, kF c5, kF c6⟩, ⟨d1, d2, kT d3, d4⟩, ⟨e1, e2, kZ e3, kZ e4⟩, hR _ f⟩
theorem bw_x_warm {s U : State} (hW : s.WarmedH U.vm) (h : bw_x s) : bw_x U := ⟨fun a i x q hq => va_Nw.warmM hW (h.1 a i x q hq), va_AO.moved hW.alike h.2⟩
theorem bw_x_same {s U : State} (hv : s.vm = U.vm) (h : bw_x s) : bw_x U := ⟨fun a i x q hq => va_Nw.same rfl hv (h.1 a i x q hq), va_AO.moved (by rw [hv]; exact Vm.Alike.refl _) h.2⟩
set_option maxHeartbeats 1000000 in
theorem bw_met (l : Launch) {a n1 n2 : Nat} (hmok : bi_mok a n1 n2 = true) (D : va_G) (tys : List (ClassId × FieldType)) (rv : List Value) (ws : va_W) (S : Shp) (M : Mem) (as : List AV) (avals : List Value) (res : Res) (sz : Nat) (hJ : bw_J a 0 (bi_entry (bi_mL a) as) [] S M res) (hI : bw_I S M res) (hargs : bw_s rv as avals) (hfit : bi_cats as ≤ bi_mL a) (hk : bw_k tys rv ws S M) :
    Met l (bi_y a) (bw_ws a) ({ frames := bi_fr a, cells := res.1.length - S.length, slots := bw_z res.1 - bw_z S, locals := bi_lo a }) (va_Pc avals (fun U => U.heap.size = sz ∧ va_K D vwCl tys U ∧ va_P D vwCl ws U.heap ∧ va_D (fun _ => True) ws ∧ bw_ou (va_A ws sz) U U.heap rv S M ∧ bw_x U)) (bw_Qc D (va_A ws sz) rv res) (res.1.length - S.length) (bw_z res.1 - bw_z S) (va_A ws sz) := by
  simp only [bi_mok, Bool.and_eq_true, decide_eq_true_eq] at hmok
  obtain ⟨⟨⟨⟨⟨w1, w2⟩, hpl⟩, hmh⟩, hvh⟩, hown⟩ := hmok
  refine Met.ofW (cc := bi_by a) (maxL := bi_mL a) (ret := bi_ret a) hpl rfl ?_
  intro p e s m args below meth c s₁ B hml hv
  obtain ⟨rfl, rfl, hK, hP, hD0, hou, hxx⟩ := hv
  have hts := atoms_spec (ws := bw_ws a) B.pre
  have hlocks := B.notSynchronized
  have hF : bw_f a p s m avals.toArray meth c (va_A ws s.heap.size) := ⟨B.exec, B.bytes, hml, B.returns, by rw [hown]; exact findClass_of_methodNamed B.named, fun w hw => hts w (List.mem_cons_of_mem _ hw), hlocks, (fun h => by rw [← h]; exact (name_of_methodNamed B.named B.method).1), hxx, fun q h => Or.inr h⟩
  have hl := lv_entry avals (n := bi_mL a) (by rw [bw_sl hk as avals hargs]; exact hfit)
  rw [lg_entry_eq]
  have hJ' := hJ p l e (headSpec (bw_ws a) ({ frames := bi_fr a, cells := res.1.length - S.length, slots := bw_z res.1 - bw_z S, locals := bi_lo a })).room s m avals.toArray below meth c s.heap [] 0 0 (MQ below (bw_Qc D (va_A ws s.heap.size) rv res) avals.toArray s (res.1.length - S.length) (bw_z res.1 - bw_z S) (va_A ws s.heap.size)) D tys (va_A ws s.heap.size) rv rv ws _ _ [] S.length (bw_z S) hF ⟨hK, hP, hD0.self, va_S.rf, hou, hk⟩ (List.prefix_refl _) hl (bw_entry_len _ _ hfit) (bw_entry hk _ _ _ hargs) trivial (Nat.zero_add _) (Nat.zero_add _) (by show _ ≤ _ + (res.1.length - S.length); have := hI.1; omega) (by show _ ≤ _ + (bw_z res.1 - bw_z S); have := hI.2.1; omega) (Nat.le_refl _) (Nat.le_refl _) ?_
  · rw [bw_pc0] at hJ'
    exact hJ'
  · intro H1 locs1 cells slots tys1 rv1 ws1 ls1 stc pc hW1 hpre hcc hzz hrv
    have ec : cells = res.1.length - S.length := by omega
    have ez : slots = bw_z res.1 - bw_z S := by omega
    subst ec; subst ez
    obtain ⟨h1, h2, h3, h4, h5, h6⟩ := hW1
    have hx := B.exec
    have hb := B.bytes
    have hr := B.returns
    have post : ∀ v : Option Value, bw_o rv1 res.2.2 v → ∀ t : State, t.heap = H1 → s.WarmedH t.vm → bw_Qc D (va_A ws s.heap.size) rv res avals.toArray s (.returned v) t := fun v hv t ht hWt => ⟨⟨v, tys1, rv1, ws1, rfl, hv, hpre, va_K.moved hWt.alike h1, by rw [ht]; exact h2, h3, h6⟩, h4.F ht⟩
    match hres : res.2.2, hrv, post with
    | none, hrv, post =>
      obtain ⟨rfl, hdc, hnone⟩ := hrv
      exact W.vret hx hb (by rw [hr]; exact hnone) (post none trivial) h4.2.2 hdc
    | some (.inl x), hrv, post =>
      obtain ⟨y, rfl, hy, hdc, ty, hty, hnar⟩ := hrv
      exact W.zret hx hb (by rw [hr]; exact hty) hnar (post (some (.int y)) ⟨y, rfl, hy⟩) h4.2.2 hdc
    | some (.inr (.inr q)), hrv, post =>
      obtain ⟨v, rfl, hv, hdc, hty⟩ := hrv
      exact W.aret hx hb (by rw [hr]; exact hty) (Or.inl ⟨_, rfl⟩) (h6.2.2.1 _ _ hv) (post (some v) hv) h4.2.2 hdc
    | some (.inr (.inl x)), hrv, _ => exact hrv.elim
section BWC
variable {p : Program} {l : Launch} {e : Env} {R : Room} {s : State} {m : MethodId} {args : Array Value} {below : List Frame} {meth : Method} {c : Code} {H : Heap} {locs : List Loc} {cells slots : Nat} {Q : State → Prop}
variable {pc : Nat} {ls : Array Slot} {rest st0 : List Value} {a : Array Value} {A0 A1 : Nat → Prop} {H0 : Heap} {mc ms : Nat} {free : Addr → Prop}
theorem bw_call {D : va_G} {rv0 : List Value} {res : Res} (hr : va_Run p l e R s m args below meth c H locs cells slots mc ms (F0 m pc ls st0) rest (bw_Qc D A1 rv0 res a) free) (hS : va_S A0 H0 H locs) (hA : ∀ q, q < H.size → A1 q → A0 q) (hf : ∀ q, free q → A0 q)
    (kk : ∀ (v : Option Value) (tys : List (ClassId × FieldType)) (rv : List Value) (ws : va_W) (t : State) (H1 : Heap) (locs1 : List Loc), s.vm.Alike t.vm → bw_o rv res.2.2 v → rv0 <+: rv → va_K D vwCl tys t → va_P D vwCl ws H1 → va_D A1 ws → bw_k tys rv ws res.1 res.2.1 → H.size ≤ H1.size → va_S A0 H0 H1 locs1 → W p l e R s m args below meth c H1 locs1 (cells + mc) (slots + ms) Q (F0 m (pc + 3) ls (v.toList ++ rest))) : W p l e R s m args below meth c H locs cells slots Q (F0 m pc ls st0) := by
  intro T hT X
  obtain ⟨v, st₀, t, T', L, h0, X', hL, e1, e2, ⟨⟨v', tys, rv, ws, hv, g1, g2, g3, g4, g5, g6⟩, hz, hk⟩, st⟩ := hr T hT X
  cases hv
  rw [h0] at hz hk
  obtain ⟨t2, a1, b1⟩ := kk v tys rv ws t T'.heap (locs ++ L) (by rw [← e2]; exact X'.warmed.alike) g1 g2 g3 (by rw [e1]; exact g4) g5 g6 (by rw [e1]; exact hz)
    ⟨Nat.le_trans hS.1 (by rw [e1]; exact hz), fun q h1 h2 => by rw [e1, hk q (Nat.lt_of_lt_of_le h1 hS.1) (fun z => h2 (hA q (Nat.lt_of_lt_of_le h1 hS.1) z))]; exact hS.2.1 q h1 h2, fun q hq => by
      rcases List.mem_append.mp hq with h | h
      · exact hS.2.2 q h
      · exact hf _ (hL q h)⟩ T' rfl X'
  exact ⟨t2, st t2 a1, b1⟩
end BWC
end
section
/-! THE CALL, AND THE WHOLE: what the interpreter does, the machine does -/
theorem bw_s_get {rv : List Value} : ∀ (st : List AV) (stc : List Value) (k : Nat) (a : AV), bw_s rv st stc → st[k]? = some a → ∃ v, stc[k]? = some v ∧ bw_v rv a v := by
  intro st
  induction st with
  | nil => intro stc k a h hk; simp at hk
  | cons x st ih =>
    intro stc k a h hk
    obtain ⟨v, t, rfl, h1, h2⟩ := bw_cons h
    cases k with
    | zero => simp at hk; subst hk; exact ⟨v, rfl, h1⟩
    | succ k => simpa using ih t k a h2 (by simpa using hk)
theorem bw_hd {stc : List Value} {b : Nat} (hb : 1 ≤ b) {v : Value} (h : stc[b - 1]? = some v) : (stc.take b).reverse = v :: (stc.take b).reverse.tail := by
  have hlt : b - 1 < stc.length := (List.getElem?_eq_some_iff.mp h).1
  have hne : (stc.take b).reverse ≠ [] := by
    intro q
    have q2 := congrArg List.length q
    rw [List.length_reverse, List.length_take, List.length_nil] at q2
    omega
  have e : (stc.take b).reverse.head? = some v := by
    rw [List.head?_reverse, List.getLast?_eq_getElem?, List.length_take, List.getElem?_take_of_lt (by omega), show min b stc.length - 1 = b - 1 by omega]
    exact h
  cases hl : (stc.take b).reverse with
  | nil => exact absurd hl hne
  | cons x t => rw [hl] at e; cases e; rfl
theorem bw_blind (avals : List Value) (D : va_G) (tys : List (ClassId × FieldType)) (rv : List Value) (ws : va_W) (S : Shp) (M : Mem) (sz : Nat) : FrameBlind (va_Pc avals (fun U => U.heap.size = sz ∧ va_K D vwCl tys U ∧ va_P D vwCl ws U.heap ∧ va_D (fun _ => True) ws ∧ bw_ou (va_A ws sz) U U.heap rv S M ∧ bw_x U)) := by
  intro a U g mk h
  obtain ⟨q0, q1, qK, qP, qD, qO, qX⟩ := h
  exact ⟨q0, q1, va_K.moved (u := U) (U := U.calling g mk a) (Vm.Alike.refl U.vm) qK, qP, qD, bw_ou_go (u := U) (U := U.calling g mk a) (Vm.Alike.refl U.vm) (fun _ z => vk_R.same rfl z) (fun _ _ _ => rfl) (fun _ _ z => z) qO, bw_x_same (s := U) (U := U.calling g mk a) rfl qX⟩
set_option maxHeartbeats 2000000 in
theorem bw_36 {m i : Nat} {hh : List Nat} {a b : Nat} {n : Int} {l' : List Nat} {L : Lcl} {st : List AV} {S : Shp} {M : Mem} {res : Res} {S1 : Shp} {M1 : Mem} {r : Option AV} (hk : bi_ok m i hh (36, a, b, n, l') = true) (hb : b ≤ st.length ∧ bi_cats (st.drop b) ≤ 8 ∧ bi_recv n (l'.headD 0) S st[b - 1]? = true) (hfit : bi_cats (st.take b).reverse ≤ bi_mL a) (hI : bw_I S M (S1, M1, r)) (hcal : bw_J a 0 (bi_entry (bi_mL a) (st.take b).reverse) [] S M (S1, M1, r)) (hI2 : bw_I S1 M1 res) (K : bw_J m (i + 1) L (r.toList ++ st.drop b) S1 M1 res) : bw_J m i L st S M res := by
  intro p l e R s mid args below meth c H locs cells slots Q D tys A rv0 rv ws ls lvs stc b0 z0 hF hW hp hl hLl hL hs hc hz hRc hRz hfr hlo hRO
  obtain ⟨hx, hbb, hml, hret, ho, hts, hlk, hnm, hcx, hA⟩ := id hF
  have hkk := hW.2.2.2.2.2
  have hdrop := bw_s_drop b st stc hs
  have htake := bw_s_rev _ _ (bw_s_take b st stc hs)
  have hlen := bw_s_len st stc hs
  obtain ⟨avals, hav0⟩ : ∃ z, z = (stc.take b).reverse := ⟨_, rfl⟩
  rw [← hav0] at htake
  have hav : avals.length = b := by rw [hav0]; simp; omega
  have hstc : stc = avals.reverse ++ stc.drop b := by rw [hav0, List.reverse_reverse, List.take_append_drop]
  have hcs : ((stc.drop b).map fun v => v.category).sum ≤ 8 := by rw [bw_cats hkk _ _ hdrop]; exact hb.2.1
  have hfree : ∀ q, va_A ws H.size q → A q := fun q h => by
    rcases h with ⟨k, e', h⟩ | h
    · exact hW.2.2.1.2 k _ h
    · exact hA q (Nat.le_trans hW.2.2.2.1.1 h)
  have hnf : ∀ q, q < s.heap.size → va_A ws H.size q → A q := fun q _ h => hfree q h
  have hpre : ∀ U : State, U.heap = H → s.WarmedH U.vm → (va_Pc avals (fun U => U.heap.size = H.size ∧ va_K D vwCl tys U ∧ va_P D vwCl ws U.heap ∧ va_D (fun _ => True) ws ∧ bw_ou (va_A ws H.size) U U.heap rv S M ∧ bw_x U)) avals.toArray U := fun U hU hWU => ⟨rfl, by rw [hU], va_K.moved hWU.alike hW.1, by rw [hU]; exact hW.2.1, hW.2.2.1.weaken (fun _ _ _ _ => trivial), by rw [hU]; exact bw_ou_go hWU.alike (fun _ z => vk_R.warm hWU z) hW.2.2.2.1.2.1 hnf hW.2.2.2.2.1, bw_x_warm hWU hcx⟩
  have hi1 := hI.1
  have hi2 := hI.2.1
  have hj1 := hI2.1
  have hj2 := hI2.2.1
  have hroom : cells + (S1.length - S.length) ≤ R.cells ∧ slots + (bw_z S1 - bw_z S) ≤ R.slots := ⟨by show _ ≤ _; dsimp only at hi1; omega, by show _ ≤ _; dsimp only at hi2; omega⟩
  have h4 : 4 ≤ S.length := by have := hkk.2.1; omega
  have kont : ∀ (pc3 : bi_pc m (i + 1) = bi_pc m i + 3) (av : Array Value), va_Run p l e R s mid args below meth c H locs cells slots (S1.length - S.length) (bw_z S1 - bw_z S) (F0 mid (bi_pc m i) ls stc) (stc.drop b) (bw_Qc D (va_A ws H.size) rv (S1, M1, r) av) (va_A ws H.size) → W p l e R s mid args below meth c H locs cells slots Q (F0 mid (bi_pc m i) ls stc) := by
    intro pc3 av hr
    refine bw_call hr hW.2.2.2.1 (fun q _ h => hfree q h) hfree (fun v tys1 rv1 ws1 t H1 locs1 hvm ho1 hpre1 hK1 hP1 hD1 hk1 hsz hS1 => ?_)
    rw [← pc3]
    refine K p l e R s mid args below meth c H1 locs1 _ _ Q D tys1 A rv0 rv1 ws1 ls lvs _ b0 z0 hF ⟨va_K.moved hvm.symm hK1, hP1, hD1.weaken (fun _ q _ h => hfree _ h), hS1, bw_ou_rv hpre1 (bw_ou_M hW.2.2.2.2.1 (fun k hk => (hI.2.2 h4 k hk).1) (fun k hk => (hI.2.2 h4 k hk).2)), hk1⟩ (hp.trans hpre1) hl hLl (bw_l_mono hpre1 hL) ?_ (by dsimp only at hi1; omega) (by dsimp only at hi2; omega) hRc hRz hfr hlo hRO
    match r, v, ho1 with
    | none, none, _ => exact bw_s_mono hpre1 _ _ hdrop
    | some x, some v, ho1 => exact bw_p ho1 (bw_s_mono hpre1 _ _ hdrop)
  have hG : GoodIn wAll (bw_ws a) → True := fun _ => trivial
  have fix : CallFix p mid c (bi_by m) (bi_mL m) s args wAll (bi_own m) := ⟨hx, hbb, hml, ho, hts⟩
  have hrw : 2 * (F0 mid (bi_pc m i) ls stc).monitorRoom + ((stc.drop b).map fun v => v.category).sum ≤ 8 := by show 2 * 0 + _ ≤ 8; omega
  have rcv : n = 0 ∨ n = 1 ∨ n = 2 := by
    have h3 := hb.2.2
    unfold bi_recv at h3
    split at h3
    · split at h3
      · exact Or.inl (by assumption)
      · have := of_decide_eq_true h3
        rcases this with q | q
        · exact Or.inr (Or.inl q)
        · exact Or.inr (Or.inr q.1)
    · exact Or.inr (Or.inl (of_decide_eq_true h3))
  rcases rcv with rfl | rfl | rfl
  · have hk' : (bi_mok a (hh.getD 2 0) (hh.getD 3 0) && bi_room m a && bi_lk m a (hh.getD 0 0) false && bi_w (hh.getD 1 0) (.selects (bi_y a).cls (bi_y a) (bi_y a)) && bi_w (hh.getD 4 0) (.instanceMethod (bi_y a)) && decide (bi_np a = some (b - 1)) && decide (1 ≤ b) && decide ((l'.headD 0 = 10 ∧ (bi_y a).cls = "java/lang/String") ∨ (l'.headD 0 < 10 ∧ (bi_y a).cls = (bi_cls (l'.headD 0)).1)) && bi_dn m i (.invokevirtual (bi_jn (hh.getD 0 0))) 3) = true := hk
    simp only [Bool.and_eq_true, decide_eq_true_eq, bi_room] at hk'
    obtain ⟨⟨⟨⟨⟨⟨⟨⟨hmok, hrm⟩, hlkk⟩, hsel⟩, hins⟩, hnp⟩, hb1⟩, hcls⟩, hd⟩ := hk'
    have hmok' := hmok
    simp only [bi_mok, Bool.and_eq_true, decide_eq_true_eq] at hmok'
    obtain ⟨⟨⟨⟨⟨w1, w2⟩, hpl⟩, hmh⟩, hvh⟩, hown⟩ := hmok'
    obtain ⟨hd, hn⟩ := bi_dn_ok hd
    simp only [bi_lk, Bool.false_eq_true, if_false] at hlkk
    have hrec : ∃ (ad : Nat) (As : List Value), avals = .ref ad :: As ∧ ∃ cell : Cell, H[ad]? = some cell ∧ cell.vm.isStatics = false ∧ s.vm.findClass (bi_y a).cls = some cell.cls := by
      have h3 := hb.2.2
      unfold bi_recv at h3
      split at h3
      · rename_i q hq
        rw [if_pos rfl] at h3
        split at h3
        · rename_i kd n3 rs3 hSq
          simp only [Bool.and_eq_true, Bool.or_eq_true, decide_eq_true_eq] at h3
          obtain ⟨rfl, h5⟩ := h3
          obtain ⟨v, hv1, hv2⟩ := bw_s_get st stc _ _ hs hq
          have hd1 := bw_hd hb1 hv1
          rw [← hav0] at hd1
          rcases h5 with h5 | ⟨rfl, h6⟩
          · obtain ⟨ad, e', rfl, hws, hcell⟩ := bw_cell hkk h5 hSq hv2
            obtain ⟨fs, rfl, -, -, hc10, -⟩ := (bw_c_3 tys rv _ n3 rs3 (M q) e').mp hcell
            rcases hcls with ⟨h7, -⟩ | ⟨-, h8⟩
            · omega
            · refine ⟨ad, _, hd1, ?_⟩
              rw [h8]
              exact va_recv hW.1 hW.2.1 (bw_cl _ hc10) hws
          · rcases hcls with ⟨-, h8⟩ | ⟨h7, -⟩
            · obtain ⟨b', N, b1, b2, xs, ys, fv, o1, ⟨c1, c2, c3, ⟨cell, g1, g2, g3, g4⟩, -⟩, -⟩ := hW.2.2.2.2.1
              have e1 := Option.some.inj (hv2.symm.trans c1)
              subst e1
              refine ⟨b1, _, hd1, cell, ?_, g2, by rw [h8]; exact g3⟩
              rw [hW.2.2.2.1.2.1 b1 (Array.getElem?_eq_some_iff.mp g1).1 g4]
              exact g1
            · omega
        · cases h3
      · exact absurd (of_decide_eq_true h3) (by decide)
    obtain ⟨ad, As, rfl, hcell⟩ := hrec
    have hmet := bw_met l hmok D tys rv ws S M _ _ _ H.size hcal hI htake hfit hkk
    refine kont hn (Value.ref ad :: As).toArray (va_runV (As := As) fix hmet (cwV (C := (bi_y a).cls) (b - 1) hts (bw_goodIn ?_) rfl rfl rfl ⟨rfl, hmh, hvh, hnp⟩ ⟨Nat.le_trans hrm.1 hfr, Nat.le_trans hrm.2 hlo⟩) ⟨bw_blind _ _ _ _ _ _ _ _, hcell, hpre⟩ rfl (by have := hav; simp at this; omega) hl.1 (by rw [List.reverse_cons, List.append_assoc] at hstc; exact hstc) hrw hd hroom)
    intro w hw
    simp only [wsV, List.mem_append, List.mem_cons, List.not_mem_nil, or_false] at hw
    rcases hw with (rfl | rfl | rfl | rfl) | rfl | hw
    · exact bi_w_ok hlkk
    · exact bi_w_ok hins
    · exact bi_w_ok hsel
    · exact bi_w_ok w2
    · exact bi_w_ok w1
    · exact hw
  · have hk' : (bi_mok a (hh.getD 2 0) (hh.getD 3 0) && bi_room m a && bi_lk m a (hh.getD 0 0) (decide (hh.getD 5 0 = 1)) && bi_w (hh.getD 4 0) (.static (bi_y a)) && decide (bi_np a = some b) && bi_dn m i (.invokestatic (bi_jn (hh.getD 0 0))) 3) = true := hk
    simp only [Bool.and_eq_true, decide_eq_true_eq, bi_room] at hk'
    obtain ⟨⟨⟨⟨⟨hmok, hrm⟩, hlkk⟩, hsta⟩, hnp⟩, hd⟩ := hk'
    have hmok' := hmok
    simp only [bi_mok, Bool.and_eq_true, decide_eq_true_eq] at hmok'
    obtain ⟨⟨⟨⟨⟨w1, w2⟩, hpl⟩, hmh⟩, hvh⟩, hown⟩ := hmok'
    obtain ⟨hd, hn⟩ := bi_dn_ok hd
    have hmet := bw_met l hmok D tys rv ws S M _ _ _ H.size hcal hI htake hfit hkk
    have hgi : GoodIn wAll (bw_ws a) := bw_goodIn (fun w hw => by
      rcases List.mem_cons.mp hw with rfl | hw
      · exact bi_w_ok w1
      · exact hw)
    unfold bi_lk at hlkk
    split at hlkk
    · have hmem := List.mem_of_getElem? (of_decide_eq_true hlkk)
      exact kont hn avals.toArray (va_runSN (As := avals) fix hmet ⟨va_cnB b hts hgi rfl rfl rfl (hcx.1 _ _ _ _ hmem) (hts _ (bi_w_ok w2)) ⟨hmh, hvh, hnp⟩ ⟨Nat.le_trans hrm.1 hfr, Nat.le_trans hrm.2 hlo⟩, hts _ (bi_w_ok hsta), trivial⟩ ⟨bw_blind _ _ _ _ _ _ _ _, hpre⟩ rfl hav hl.1 hstc hrw hd hroom)
    · exact kont hn avals.toArray (va_runS (As := avals) fix hmet ⟨callB_of b hts hgi rfl rfl rfl (hts _ (bi_w_ok w2)) (hts _ (bi_w_ok hlkk)) ⟨hmh, hvh, hnp⟩ ⟨Nat.le_trans hrm.1 hfr, Nat.le_trans hrm.2 hlo⟩, hts _ (bi_w_ok hsta)⟩ ⟨bw_blind _ _ _ _ _ _ _ _, hpre⟩ rfl hav hl.1 hstc hrw hd hroom)
  · have hk' : (bi_mok a (hh.getD 2 0) (hh.getD 3 0) && bi_room m a && bi_lk m a (hh.getD 0 0) (decide (hh.getD 5 0 = 1)) && bi_w (hh.getD 4 0) (.instanceMethod (bi_y a)) && decide ((bi_y a).name = "<init>") && decide (bi_ret a = none) && decide (bi_np a = some (b - 1)) && decide (1 ≤ b) && bi_dn m i (.invokespecial (bi_jn (hh.getD 0 0))) 3) = true := hk
    simp only [Bool.and_eq_true, decide_eq_true_eq, bi_room] at hk'
    obtain ⟨⟨⟨⟨⟨⟨⟨⟨hmok, hrm⟩, hlkk⟩, hins⟩, hini⟩, hrn⟩, hnp⟩, hb1⟩, hd⟩ := hk'
    have hmok' := hmok
    simp only [bi_mok, Bool.and_eq_true, decide_eq_true_eq] at hmok'
    obtain ⟨⟨⟨⟨⟨w1, w2⟩, hpl⟩, hmh⟩, hvh⟩, hown⟩ := hmok'
    obtain ⟨hd, hn⟩ := bi_dn_ok hd
    have hrec : ∃ (ad : Nat) (As : List Value), avals = .ref ad :: As := by
      have h3 := hb.2.2
      unfold bi_recv at h3
      split at h3
      · rename_i q hq
        rw [if_neg (by decide)] at h3
        rcases of_decide_eq_true h3 with h5 | ⟨-, h5⟩
        · exact absurd h5 (by decide)
        · obtain ⟨v, hv1, hv2⟩ := bw_s_get st stc _ _ hs hq
          have hd1 := bw_hd hb1 hv1
          rw [← hav0] at hd1
          obtain ⟨ad, rfl⟩ := bw_ref hW (c := q + 1) (by omega) hv2
          exact ⟨ad, _, hd1⟩
      · exact absurd (of_decide_eq_true h3) (by decide)
    obtain ⟨ad, As, rfl⟩ := hrec
    have hmet := bw_met l hmok D tys rv ws S M _ _ _ H.size hcal hI htake hfit hkk
    have hgi : GoodIn wAll (bw_ws a) := bw_goodIn (fun w hw => by
      rcases List.mem_cons.mp hw with rfl | hw
      · exact bi_w_ok w1
      · exact hw)
    have hwsn : bw_ws a = Cond.code (bi_y a) (bi_by a) (bi_mL a) none :: wAll := by unfold bw_ws; rw [hrn]
    have hlen2 : As.length = b - 1 := by have := hav; simp at this; omega
    have hst2 : stc = As.reverse ++ Value.ref ad :: stc.drop b := by rw [List.reverse_cons, List.append_assoc] at hstc; exact hstc
    unfold bi_lk at hlkk
    split at hlkk
    · have hmem := List.mem_of_getElem? (of_decide_eq_true hlkk)
      exact kont hn (Value.ref ad :: As).toArray (va_runIN (As := As) fix hmet ⟨va_cnB (b - 1) hts hgi hwsn rfl rfl (hcx.1 _ _ _ _ hmem) (hts _ (bi_w_ok w2)) ⟨hmh, hvh, hnp⟩ ⟨Nat.le_trans hrm.1 hfr, Nat.le_trans hrm.2 hlo⟩, hini, hts _ (bi_w_ok hins)⟩ ⟨bw_blind _ _ _ _ _ _ _ _, hpre⟩ rfl hlen2 hl.1 hst2 hrw hd hroom)
    · exact kont hn (Value.ref ad :: As).toArray (va_runI (As := As) fix hmet (cwI (b - 1) hts hgi hwsn rfl rfl (hts _ (bi_w_ok w2)) (hts _ (bi_w_ok hlkk)) (hts _ (bi_w_ok hins)) hini ⟨hmh, hvh, hnp⟩ ⟨Nat.le_trans hrm.1 hfr, Nat.le_trans hrm.2 hlo⟩) ⟨bw_blind _ _ _ _ _ _ _ _, hpre⟩ rfl hlen2 hl.1 hst2 hrw hd hroom)
end
section
/-! THE WHOLE: what the interpreter does, the machine does -/
theorem bw_I_refl (S : Shp) (M : Mem) (r : Option AV) : bw_I S M (S, M, r) := ⟨Nat.le_refl _, Nat.le_refl _, fun _ _ _ => ⟨rfl, rfl⟩⟩
theorem bw_I_M {S : Shp} {M M' : Mem} {res : Res} (hM : ∀ k, k < 4 → M' k = M k) (h : bw_I S M' res) : bw_I S M res := ⟨h.1, h.2.1, fun h4 k hk => ⟨(h.2.2 h4 k hk).1, ((h.2.2 h4 k hk).2).trans (hM k hk)⟩⟩
theorem bw_I_tr {S S1 : Shp} {M M1 : Mem} {r : Option AV} {res : Res} (h1 : bw_I S M (S1, M1, r)) (h2 : bw_I S1 M1 res) : bw_I S M res :=
  ⟨Nat.le_trans h1.1 h2.1, Nat.le_trans h1.2.1 h2.2.1, fun h4 k hk => ⟨((h2.2.2 (Nat.le_trans h4 h1.1) k hk).1).trans (h1.2.2 h4 k hk).1, ((h2.2.2 (Nat.le_trans h4 h1.1) k hk).2).trans (h1.2.2 h4 k hk).2⟩⟩
theorem bw_I_mono {S : Shp} {M : Mem} {res : Res} (h : bw_I S M res) : S.length ≤ res.1.length ∧ bw_z S ≤ bw_z res.1 := ⟨h.1, h.2.1⟩
theorem bw_I_new {S : Shp} {M : Mem} {res : Res} {x : Nat × Nat × List Nat} (h : bw_I (S ++ [x]) (fun q j => if q = S.length then 0 else M q j) res) : bw_I S M res := by
  refine ⟨by have := h.1; rw [List.length_append] at this; omega, by have := h.2.1; rw [bw_z_app] at this; omega, fun h4 k hk => ?_⟩
  obtain ⟨h1, h2⟩ := h.2.2 (by rw [List.length_append]; omega) k hk
  refine ⟨by rw [h1, List.getElem?_append_left (by omega)], ?_⟩
  rw [h2]
  funext j
  exact if_neg (by omega)
def bw_ok (m : Nat) : Prop := ∀ (i : Nat) (x : Ins), (PR m).1[i]? = some x → ∃ h, bi_ok m i h x = true
/-- fields and arrays, all of them -/
theorem bw_hp {P : Nat → Lcl → List AV → Shp → Mem → Option Res} {m i : Nat} {hh : List Nat} {op a b : Nat} {n : Int} {l' : List Nat} {L : Lcl} {st : List AV} {S : Shp} {M : Mem} {res : Res} (ih : ∀ (i : Nat) (L : Lcl) (st : List AV) (S : Shp) (M : Mem), P i L st S M = some res → bw_I S M res ∧ bw_J m i L st S M res) (hk : bi_ok m i hh (op, a, b, n, l') = true) (h : bi_heap P op a b i L st S M = some res) : bw_I S M res ∧ bw_J m i L st S M res := by
  unfold bi_heap at h
  split at h
  · split at h
    · rename_i hS
      obtain ⟨h1, h⟩ := bi_iteO h
      obtain ⟨hi, hj⟩ := ih _ _ _ _ _ h
      exact ⟨hi, bw_S_J (bw_14 hk hS h1) (bw_I_mono hi) hj⟩
    · cases h
  · split at h
    · rename_i hS
      obtain ⟨h1, h⟩ := bi_iteO h
      obtain ⟨hi, hj⟩ := ih _ _ _ _ _ h
      exact ⟨hi, bw_S_J (bw_15 hk hS h1) (bw_I_mono hi) hj⟩
    · cases h
  · split at h
    · rename_i hS
      obtain ⟨h1, h⟩ := bi_iteO h
      obtain ⟨hi, hj⟩ := ih _ _ _ _ _ h
      exact ⟨bw_I_M (fun k hk4 => up2_ne _ _ _ _ k (by omega)) hi, bw_16 hk hS h1 hj⟩
    · cases h
  · split at h
    · rename_i hS
      obtain ⟨h1, h⟩ := bi_iteO h
      obtain ⟨hi, hj⟩ := ih _ _ _ _ _ h
      refine ⟨⟨by have := hi.1; rw [List.length_set] at this; exact this, by have := hi.2.1; rw [bw_z_set hS] at this; exact this, fun h4 k hk4 => ?_⟩, bw_17 hk hS h1 hj⟩
      obtain ⟨g1, g2⟩ := hi.2.2 (by rw [List.length_set]; exact h4) k hk4
      exact ⟨by rw [g1, List.getElem?_set_ne (by omega)], g2⟩
    · cases h
  · split at h
    · rename_i hS
      obtain ⟨h1, h⟩ := bi_iteO h
      obtain ⟨hi, hj⟩ := ih _ _ _ _ _ h
      exact ⟨hi, bw_S_J (bw_18 hk hS h1.1 h1.2) (bw_I_mono hi) hj⟩
    · cases h
  · split at h
    · rename_i hS
      obtain ⟨h1, h⟩ := bi_iteO h
      obtain ⟨hi, hj⟩ := ih _ _ _ _ _ h
      exact ⟨bw_I_M (fun k hk4 => up2_ne _ _ _ _ k (by omega)) hi, bw_19 hk hS h1.1 h1.2.1 h1.2.2 hj⟩
    · cases h
  · split at h
    · rename_i hS
      obtain ⟨h1, h⟩ := bi_iteO h
      obtain ⟨hi, hj⟩ := ih _ _ _ _ _ h
      exact ⟨hi, bw_S_J (bw_20 hk hS h1.1 h1.2) (bw_I_mono hi) hj⟩
    · cases h
  · split at h
    · rename_i hS
      obtain ⟨h1, h⟩ := bi_iteO h
      obtain ⟨hi, hj⟩ := ih _ _ _ _ _ h
      exact ⟨bw_I_M (fun k hk4 => up2_ne _ _ _ _ k (by omega)) hi, bw_21 hk hS h1.1 h1.2.1 h1.2.2.1 h1.2.2.2.1 h1.2.2.2.2 hj⟩
    · cases h
  · split at h
    · rename_i hS
      obtain ⟨h1, h⟩ := bi_iteO h
      obtain ⟨hi, hj⟩ := ih _ _ _ _ _ h
      exact ⟨hi, bw_S_J (bw_22 hk hS h1.1 h1.2.1 h1.2.2) (bw_I_mono hi) hj⟩
    · cases h
  · split at h
    · rename_i hS hS2
      obtain ⟨h1, h⟩ := bi_iteO h
      obtain ⟨hi, hj⟩ := ih _ _ _ _ _ h
      exact ⟨bw_I_M (fun k hk4 => up2_ne _ _ _ _ k (by omega)) hi, bw_23 hk hS hS2 h1.1 h1.2.1 h1.2.2.1 h1.2.2.2 hj⟩
    · cases h
  · split at h
    · rename_i hS
      obtain ⟨h1, h⟩ := bi_iteO h
      obtain ⟨hi, hj⟩ := ih _ _ _ _ _ h
      exact ⟨hi, bw_S_J (bw_24 hk hS h1.1 h1.2) (bw_I_mono hi) hj⟩
    · cases h
  · cases h
theorem bw_lk {x : Int} {d : Nat} {m i : Nat} : ∀ (k : Nat) (l : List Nat) (ps : List (Int × Int)), l.length = 2 * k → ps.flatMap (fun q => [q.1, q.2 + (bi_pc m i : Int)]) = (List.range k).flatMap (fun j => [(l.getD (2 * j) 0 : Int), (bi_pc m (l.getD (2 * j + 1) 0) : Int)]) → (bi_pc m i : Int) + Op.lookupswitch.offset ps (bi_off m i d) x = (bi_pc m (bi_look x l d) : Int) := by
  intro k
  induction k with
  | zero =>
    intro l ps hl h
    have e : l = [] := List.length_eq_zero_iff.mp (by omega)
    subst e
    cases ps with
    | nil => exact bi_off_ok m i d
    | cons q ps => simp at h
  | succ k ih =>
    intro l ps hl h
    match l, hl with
    | a :: t :: l, hl =>
      rw [List.range_succ_eq_map, List.flatMap_cons] at h
      cases ps with
      | nil => simp at h
      | cons q ps =>
        rw [List.flatMap_cons] at h
        simp only [List.cons_append, List.nil_append, List.cons.injEq] at h
        obtain ⟨h1, h2, h3⟩ := h
        have h1' : q.1 = (a : Int) := h1
        have h2' : q.2 + (bi_pc m i : Int) = (bi_pc m t : Int) := h2
        have h4 := ih l ps (by simp at hl; omega) (by
          rw [h3, List.flatMap_map]
          congr 1)
        obtain ⟨q1, q2⟩ := q
        show (bi_pc m i : Int) + (if q1 = x then q2 else Op.lookupswitch.offset ps (bi_off m i d) x) = ((bi_pc m (if x = (a : Int) then t else bi_look x l d) : Nat) : Int)
        dsimp only at h1' h2'
        subst h1'
        by_cases hx : (a : Int) = x
        · rw [if_pos hx, if_pos hx.symm]; omega
        · rw [if_neg hx, if_neg (fun z => hx z.symm)]; exact h4
theorem bw_32 {m i : Nat} {hh : List Nat} {a b : Nat} {n : Int} {l' : List Nat} {L : Lcl} {st : List AV} {S : Shp} {M : Mem} {x : Int} (hk : bi_ok m i hh (32, a, b, n, l') = true) : bw_S m i (bi_look x l' a) L (.inl x :: st) st S M := by
  intro p l e R s mid args below meth c H locs cells slots Q D tys A rv ws ls lvs stc hF hW hl hL hs hc hz hfr hlo
  obtain ⟨hx, hb, -⟩ := hF
  obtain ⟨vx, t, rfl, ⟨y, rfl, rfl⟩, hs1⟩ := bw_cons hs
  simp only [bi_ok] at hk
  split at hk
  · rename_i d ps len hdec
    simp only [Bool.and_eq_true, decide_eq_true_eq] at hk
    obtain ⟨⟨⟨rfl, hso⟩, hfl⟩, hln⟩ := hk
    exact ⟨t, hs1, fun k => lv_lookup (tgt := bi_pc m (bi_look y.toInt l' a)) hx hb hdec hso rfl (bw_lk (l'.length / 2) l' ps.toList hln hfl) k⟩
  · cases hk
end
section
set_option maxHeartbeats 2000000 in
/-- what the interpreter comes to, the machine comes to -/
theorem bw_main (hP : ∀ m, bw_ok m) : ∀ (n m i : Nat) (L : Lcl) (st : List AV) (S : Shp) (M : Mem) (res : Res), bi_exec PR n m i L st S M = some res → bw_I S M res ∧ bw_J m i L st S M res := by
  intro n
  induction n with
  | zero => intro m i L st S M res h; cases h
  | succ n ih =>
    intro m i L st S M res h
    unfold bi_exec at h
    split at h
    · rename_i ins hins
      obtain ⟨hh, hk⟩ := hP m i ins hins
      unfold bi_step at h
      split at h
      · obtain ⟨hi, hj⟩ := ih _ _ _ _ _ _ _ h
        exact ⟨hi, bw_S_J (bw_0 hk) (bw_I_mono hi) hj⟩
      · split at h
        · rename_i hv
          obtain ⟨hi, hj⟩ := ih _ _ _ _ _ _ _ h
          exact ⟨hi, bw_S_J (bw_1 hk hv) (bw_I_mono hi) hj⟩
        · cases h
      · split at h
        · split at h
          · rename_i hv
            obtain ⟨hi, hj⟩ := ih _ _ _ _ _ _ _ h
            exact ⟨hi, bw_2 hk hv hj⟩
          · cases h
        · cases h
      · split at h
        · split at h
          · rename_i hv
            obtain ⟨hi, hj⟩ := ih _ _ _ _ _ _ _ h
            exact ⟨hi, bw_S_J (bw_3 hk hv) (bw_I_mono hi) hj⟩
          · cases h
        · cases h
      · split at h
        · split at h
          · rename_i hv
            obtain ⟨hi, hj⟩ := ih _ _ _ _ _ _ _ h
            exact ⟨hi, bw_S_J (bw_4 hk hv) (bw_I_mono hi) hj⟩
          · cases h
        · cases h
      · split at h
        · obtain ⟨hi, hj⟩ := ih _ _ _ _ _ _ _ h
          exact ⟨hi, bw_S_J (bw_5 hk) (bw_I_mono hi) hj⟩
        · cases h
      · split at h
        · obtain ⟨h1, h⟩ := bi_iteO h
          obtain ⟨hi, hj⟩ := ih _ _ _ _ _ _ _ h
          exact ⟨hi, bw_S_J (bw_6 hk h1) (bw_I_mono hi) hj⟩
        · cases h
      · split at h
        · split at h
          · rename_i hv
            obtain ⟨hi, hj⟩ := ih _ _ _ _ _ _ _ h
            exact ⟨hi, bw_S_J (bw_7 hk hv) (bw_I_mono hi) hj⟩
          · cases h
        · cases h
      · split at h
        · obtain ⟨hi, hj⟩ := ih _ _ _ _ _ _ _ h
          exact ⟨hi, bw_S_J (bw_8 hk) (bw_I_mono hi) hj⟩
        · cases h
      · obtain ⟨hi, hj⟩ := ih _ _ _ _ _ _ _ h
        exact ⟨hi, bw_S_J (bw_9 hk) (bw_I_mono hi) hj⟩
      · split at h
        · rename_i hx
          obtain ⟨h1, h⟩ := bi_iteO h
          obtain ⟨hi, hj⟩ := ih _ _ _ _ _ _ _ h
          exact ⟨hi, bw_10 hk hx h1 hj⟩
        · cases h
      · obtain ⟨hi, hj⟩ := ih _ _ _ _ _ _ _ h
        exact ⟨hi, bw_S_J (bw_11 hk) (bw_I_mono hi) hj⟩
      · split at h
        · rename_i y x t
          have hs := bw_12 (L := L) (st := t) (S := S) (M := M) (x := x) (y := y) hk
          split at h
          · rename_i hc
            rw [if_pos hc] at hs
            obtain ⟨hi, hj⟩ := ih _ _ _ _ _ _ _ h
            exact ⟨hi, bw_S_J hs (bw_I_mono hi) hj⟩
          · rename_i hc
            rw [if_neg hc] at hs
            obtain ⟨hi, hj⟩ := ih _ _ _ _ _ _ _ h
            exact ⟨hi, bw_S_J hs (bw_I_mono hi) hj⟩
        · cases h
      · split at h
        · rename_i x t
          have hs := bw_13 (L := L) (st := t) (S := S) (M := M) (x := x) hk
          split at h
          · rename_i hc
            rw [if_pos hc] at hs
            obtain ⟨hi, hj⟩ := ih _ _ _ _ _ _ _ h
            exact ⟨hi, bw_S_J hs (bw_I_mono hi) hj⟩
          · rename_i hc
            rw [if_neg hc] at hs
            obtain ⟨hi, hj⟩ := ih _ _ _ _ _ _ _ h
            exact ⟨hi, bw_S_J hs (bw_I_mono hi) hj⟩
        · cases h
      · obtain ⟨hi, hj⟩ := ih _ _ _ _ _ _ _ h
        exact ⟨bw_I_new hi, bw_25 hk (bw_I_mono hi) hj⟩
      · split at h
        · obtain ⟨h1, h⟩ := bi_iteO h
          obtain ⟨hi, hj⟩ := ih _ _ _ _ _ _ _ h
          exact ⟨bw_I_new hi, bw_26 hk h1 (bw_I_mono hi) hj⟩
        · cases h
      · split at h
        · obtain ⟨hi, hj⟩ := ih _ _ _ _ _ _ _ h
          exact ⟨hi, bw_S_J (bw_28 hk rfl) (bw_I_mono hi) hj⟩
        · obtain ⟨hi, hj⟩ := ih _ _ _ _ _ _ _ h
          exact ⟨hi, bw_S_J (bw_28 hk rfl) (bw_I_mono hi) hj⟩
        · cases h
      · split at h
        · obtain ⟨hi, hj⟩ := ih _ _ _ _ _ _ _ h
          exact ⟨hi, bw_S_J (bw_29 hk) (bw_I_mono hi) hj⟩
        · cases h
      · split at h
        · obtain ⟨hi, hj⟩ := ih _ _ _ _ _ _ _ h
          exact ⟨hi, bw_S_J (bw_30 hk) (bw_I_mono hi) hj⟩
        · cases h
      · split at h
        · rename_i x t
          have hs := bw_31 (L := L) (st := t) (S := S) (M := M) (x := x) hk
          split at h
          · rename_i hc
            rw [if_pos hc] at hs
            obtain ⟨hi, hj⟩ := ih _ _ _ _ _ _ _ h
            exact ⟨hi, bw_S_J hs (bw_I_mono hi) hj⟩
          · rename_i hc
            rw [if_neg hc] at hs
            obtain ⟨hi, hj⟩ := ih _ _ _ _ _ _ _ h
            exact ⟨hi, bw_S_J hs (bw_I_mono hi) hj⟩
        · cases h
      · split at h
        · obtain ⟨hi, hj⟩ := ih _ _ _ _ _ _ _ h
          exact ⟨hi, bw_S_J (bw_32 hk) (bw_I_mono hi) hj⟩
        · cases h
      · split at h
        · obtain ⟨h1, h⟩ := bi_ite h
          subst h
          exact ⟨bw_I_refl _ _ _, bw_33 (st := []) (res := (S, M, none)) hk h1⟩
        · cases h
      · split at h
        · cases h
          exact ⟨bw_I_refl _ _ _, bw_34 (st := []) (res := (S, M, none)) hk⟩
        · cases h
      · split at h
        · cases h
          exact ⟨bw_I_refl _ _ _, bw_35 (st := []) (res := (S, M, none)) hk⟩
        · cases h
      · obtain ⟨h1, h⟩ := bi_iteO h
        split at h
        · rename_i hcl
          obtain ⟨hf, hcl⟩ := bi_iteO hcl
          obtain ⟨hi1, hj1⟩ := ih _ _ _ _ _ _ _ hcl
          obtain ⟨hi2, hj2⟩ := ih _ _ _ _ _ _ _ h
          exact ⟨bw_I_tr hi1 hi2, bw_36 hk h1 hf hi1 hj1 hi2 hj2⟩
        · cases h
      · split at h
        · obtain ⟨h1, h⟩ := bi_iteO h
          obtain ⟨hi, hj⟩ := ih _ _ _ _ _ _ _ h
          exact ⟨hi, bw_S_J (bw_37 hk ⟨_, rfl, rfl⟩ (by omega) h1.2) (bw_I_mono hi) hj⟩
        · cases h
      · split at h
        · rename_i hm
          obtain ⟨h1, h⟩ := bi_iteO h
          obtain ⟨hi, hj⟩ := ih _ _ _ _ _ _ _ h
          exact ⟨hi, bw_S_J (bw_38 hk hm h1) (bw_I_mono hi) hj⟩
        · cases h
      · split at h
        · split at h
          · rename_i hSa hSb
            obtain ⟨h1, h⟩ := bi_iteO h
            obtain ⟨hi, hj⟩ := ih _ _ _ _ _ _ _ h
            exact ⟨bw_I_M (fun k hk4 => bi_cpy_ne _ _ _ _ _ _ k (by omega)) hi, bw_39 hk hSa hSb h1 hj⟩
          · cases h
        · cases h
      · obtain ⟨hi, hj⟩ := ih _ _ _ _ _ _ _ h
        exact ⟨hi, bw_S_J (bw_40 hk) (bw_I_mono hi) hj⟩
      · obtain ⟨hi, hj⟩ := ih _ _ _ _ _ _ _ h
        exact ⟨hi, bw_S_J (bw_41 hk) (bw_I_mono hi) hj⟩
      · rename_i x b c d hne
        obtain ⟨hi, hj⟩ := ih _ _ _ _ _ _ _ h
        have hs := bw_41 (L := L) (st := st) (S := S) (M := M) hk
        rw [if_neg hne] at hs
        exact ⟨hi, bw_S_J hs (bw_I_mono hi) hj⟩
      · exact bw_hp (fun i L st S M h => ih m i L st S M res h) hk h
    · cases h
end
section
/-! THE CLAIM OUT OF ONE WALK OF THE LAW'S BODY. Your part is whole_start (and what it stands on); all else here is the same for every law, but numbers. -/
def R_law : String := "ByInitialsLaw"
def lw_P (b : Addr) (xs : List Int32) (args : Array Value) (s : State) : Prop := args = #[.ref b] ∧ s.IntsAt b xs ∧ xs.length ≤ 384 ∧ (Jvm.Cond.and given_1 narrow_1).before args s = true
def lw_Q (_ : Array Value) (s : State) (o : Outcome) (t : State) : Prop := o = .returned (some (.int 1)) ∧ Framed s o t [] 600000 7302250
def lw_Z (below : List Frame) (a : Array Value) (s : State) : State → Prop := fun t => ∃ o, t.status = .running ∧ Ended t below o ∧ lw_Q a s o t
/-- the law's own end, with 1 on the stack, nothing written that was there before, its room as the claim has it -/
theorem lw_ret {p : Program} {l : Launch} {e : Env} {s : State} {m : MethodId} {below : List Frame} {meth : Method} {c : Code} {b : Nat} (hx : p.tables.exec = Jvm.exec) (hb : c.code = code) (hr : meth.sig.returnType = ret) (hlocks : meth.locks = false) {pc : Nat} {H : Heap} {ls : Array Slot} (hdg : decode code pc = .ok (.ireturn, 1)) : W p l e room_1 s m #[Value.ref b] below meth c H [] 600000 7302250 (lw_Z below #[Value.ref b] s) (F0 m pc ls [.int 1]) := by
  intro T hT X
  obtain ⟨fs, hret, hrun, hended, hW, hframe⟩ := X.leave (v := some (.int 1)) (hlocks := hlocks) (fun h => by rw [hr] at h; cases h)
  have hmeth' : T.vm.method? m = some meth := X.method'
  refine ⟨T.setFrames fs, ?_, .returned (some (.int 1)), hrun, hended, rfl, ⟨_, rfl⟩, hW, hframe⟩
  jvm_step X.here [X.here.top, hx, hb, hdg, hmeth', hr, ret, narrow_b1]
  (try refine ⟨rfl, ?_⟩); (try refine ⟨rfl, ?_⟩)
  first | (intro acts; rw [hret _ acts rfl rfl rfl]) | rw [hret _ _ rfl rfl rfl]
  exact Steps.refl _
/-- what holds at the law's entry: the machine, the code, the tables' words (any of lw_tbl by 'hts w (by decide +kernel)'), the script of L ints xs at the cell b, what the Statement gives of the start (any of its parts by flat_of_before) -/
def lw_At (p : Program) (s : State) (m : MethodId) (meth : Method) (c : Code) (b L : Nat) (xs : Nat → Int32) : Prop :=
  p.tables.exec = Jvm.exec ∧ c.code = code ∧ meth.sig.returnType = ret ∧ c.maxLocals = 4 ∧ s.vm.findClass R_law = some m.cls ∧ (∀ w ∈ lw_tbl, w.before #[Value.ref b] s = true) ∧ va_X b L xs s s.heap ∧ b < s.heap.size ∧ meth.locks = false ∧ (Jvm.Cond.and given_1 narrow_1).before #[Value.ref b] s = true
/-! THE START: the law's world before it has made anything -/
def bs_S (N : Nat) : Shp := [(0, N, []), (13, 2, [3, 0]), (1, 41, []), (2, 0, [])]
def bs_txt : List Int := [110, 97, 100, 97, 109, 44, 53, 44, 57, 59, 110, 113, 117, 105, 110, 110, 44, 57, 44, 53, 59, 110, 122, 111, 101, 44, 56, 44, 51, 48, 59, 110, 44, 51, 44, 48, 59, 113, 97, 113, 59]
def bs_M (xs : Nat → Int) : Mem := fun q j => if q = 0 then xs j else if q = 2 then bs_txt.getD j 0 else 0
/-- what is left, of the interpreter alone -/
def bs_pure : Prop := ∀ (N : Nat) (xs : Nat → Int), N ≤ 384 → (∀ j, inR (xs j)) → ∃ (n : Nat) (S' : Shp) (M' : Mem), bi_exec PR n 227 0 (bi_entry 4 [.inr (.inr 1)]) [] (bs_S N) (bs_M xs) = some (S', M', some (.inl 1)) ∧ S'.length ≤ 4 + 600000 ∧ bw_z S' ≤ bw_z (bs_S N) + 7302250
def bs_byt : List (List Int32) := [[110, 97, 100, 97, 109, 44, 53, 44, 57, 59, 110, 113, 117, 105, 110, 110, 44, 57, 44, 53, 59, 110, 122, 111, 101, 44, 56, 44, 51, 48, 59, 110, 44, 51, 44, 48, 59, 113, 97, 113, 59]]
theorem bs_inst : ∀ a, a < 10 → Cond.instantiable (bi_cls a).1 (bi_cls a).2.2 ∈ lw_tbl := by decide +kernel
theorem bs_el : ∀ j, j < 41 → (Cond.eq (.elem (.field (.string "ByInitials" 77) "java/lang/String" "value" "[B") (.int (Int32.ofNat j))) (.int ((bs_byt.getD 0 []).getD j 0))) ∈ flatC (Jvm.Cond.and given_1 narrow_1) := by decide +kernel
theorem bs_bt : ∀ j, j < 41 → ((bs_byt.getD 0 []).getD j 0).toInt = bs_txt.getD j 0 := by decide +kernel
set_option maxHeartbeats 2000000 in
theorem whole_start_open (hpure : bs_pure) (hP : ∀ m, bw_ok m) {p : Program} {e : Env} {s : State} {m : MethodId} {below : List Frame} {meth : Method} {c : Code} (l : Launch) {b L : Nat} {xs : Nat → Int32} (hL : L ≤ 384) (C0 : lw_At p s m meth c b L xs) : W p l e room_1 s m #[Value.ref b] below meth c s.heap [] 0 0 (lw_Z below #[Value.ref b] s) (entryFrame m ([Value.ref b] : List Value).toArray 4) := by
  obtain ⟨hx, hb, hr, hml, hown, hts, hX, hbl, hlocks, hgv⟩ := C0
  obtain ⟨A, hAe⟩ : ∃ A : Nat → Prop, A = fun q => s.heap.size ≤ q := ⟨_, rfl⟩
  have hA : ∀ q : Nat, s.heap.size ≤ q → A q := fun q h => by rw [hAe]; exact h
  have hnA : ∀ a : Nat, a < s.heap.size → ¬ A a := fun a h q => by rw [hAe] at q; exact absurd q (by show ¬ s.heap.size ≤ a; omega)
  have hfl := flat_of_before _ hgv
  have h0 : ∀ a : Nat, ∃ q : ClassId × (Nat → Nat), a < 10 → u_Kn s (bi_cls a).1 (bi_cls a).2.1 (bi_cls a).2.2 q.1 q.2 := fun a => by
    by_cases ha : a < 10
    · obtain ⟨cC, iS, h⟩ := u_known (ws := lw_tbl) hts (fun w hw => (List.mem_filter.mp (bw_uws a ha w hw)).1) (hts _ (bs_inst a ha))
      exact ⟨(cC, iS), fun _ => h⟩
    · exact ⟨(0, fun _ => 0), fun h => absurd h ha⟩
  obtain ⟨f, hf⟩ := Classical.axiomOfChoice h0
  have hK : va_K (fun k => (f k).1, fun k => (f k).2) vwCl [] s := by
    refine ⟨fun k q hq => ?_, fun k q h => by simp at h⟩
    have hk : k < 10 := (List.getElem?_eq_some_iff.mp hq).1
    have e1 := (bw_cl k hk).symm.trans hq
    cases Option.some.inj e1
    exact hf k hk
  obtain ⟨adK, adV, ⟨hS0, -⟩, hev⟩ := vk_Sof (args := #[Value.ref b]) (s := s) (N := 1) (tm := fun _ => Term.string "ByInitials" 77) (len := [41]) (byt := bs_byt) (A := A) (fun i hi => by rw [show i = 0 by omega]; decide) (fun i hi => hfl _ (by decide +kernel)) (fun i hi => hfl _ (by decide +kernel)) (fun i hi => hfl _ (by decide +kernel)) (fun i hi => by rw [show i = 0 by omega]; exact hfl _ (by decide +kernel)) (fun i hi j hj => by
      have hi0 : i = 0 := by omega
      subst hi0
      exact hfl _ (bs_el j hj)) (fun i j hi hj hne => absurd (by omega) hne) hnA
  obtain ⟨s1, s2, s3, s4⟩ := hS0 0 (by decide)
  have hR : vk_R "ByInitials" 77 bw_txt (adK 0) s := vk_R.of (hts _ (by decide +kernel)) (hev 0 (by decide))
  have hZ1 : va_Z "java/lang/String" "COMPACT_STRINGS" "Z" (.int 1) A s s.heap := va_Zof (hts _ (by decide +kernel)) (hts _ (by decide +kernel)) (va_eqi (hfl _ (by decide +kernel))) hnA
  obtain ⟨fv, hfv, hZ2⟩ : ∃ fv : Value, (fv = .null ∨ ∃ a, fv = .ref a) ∧ va_Z "jdk/internal/util/Preconditions" "SIOOBE_FORMATTER" "Ljava/util/function/BiFunction;" fv A s s.heap := by
    rcases va_Zqof (A := A) (args := #[Value.ref b]) (s := s) (C := "jdk/internal/util/Preconditions") (n := "SIOOBE_FORMATTER") (d := "Ljava/util/function/BiFunction;") (hts _ (by decide +kernel)) (hts _ (by decide +kernel)) (hfl _ (by decide +kernel)) hnA with h | ⟨t, h⟩
    · exact ⟨_, Or.inl rfl, h⟩
    · exact ⟨_, Or.inr ⟨t, rfl⟩, h⟩
  have hT : va_T .int b L (fun j => .int (xs j)) A s s.heap := by
    obtain ⟨scr, g1, g2, g3, g4, g5⟩ := hX
    exact ⟨scr, g1, g2, g3, by omega, by rw [g4], g5, hnA b hbl⟩
  obtain ⟨n, S', M', hex, hlen, hz⟩ := hpure L (fun j => (xs j).toInt) hL (fun j => nu_in (xs j))
  obtain ⟨-, hJ⟩ := bw_main hP n 227 0 _ _ _ _ _ hex
  obtain ⟨rv, hrv⟩ : ∃ rv : List Value, rv = [.null, .ref b, .ref (adK 0), .ref (adV 0), fv] := ⟨_, rfl⟩
  have hou : bw_ou A s s.heap rv (bs_S L) (bs_M (fun j => (xs j).toInt)) := by
    subst hrv
    exact ⟨b, L, adK 0, adV 0, xs, fun j => (bs_byt.getD 0 []).getD j 0, fv, ⟨rfl, rfl, by omega, hT, fun j hj => rfl⟩, ⟨rfl, rfl, rfl, s1, s2, s3⟩, ⟨rfl, rfl, s4, fun j hj => bs_bt j hj⟩, ⟨rfl, rfl, hZ2, hZ1⟩, hR⟩
  have hk : bw_k [] rv [] (bs_S L) (bs_M (fun j => (xs j).toInt)) := by
    subst hrv
    refine ⟨rfl, rfl, fun k v h => ?_, rfl, fun k a e h => by simp at h, fun k a e sh h => by simp at h⟩
    match k, h with
    | 0, h => cases h; exact Or.inl rfl
    | 1, h => cases h; exact Or.inr ⟨_, rfl⟩
    | 2, h => cases h; exact Or.inr ⟨_, rfl⟩
    | 3, h => cases h; exact Or.inr ⟨_, rfl⟩
    | 4, h => cases h; exact hfv
    | k + 5, h => simp at h
  have hF : bw_f 227 p s m #[Value.ref b] meth c A := ⟨hx, hb, hml, hr, hown, fun w hw => hts w (List.mem_filter.mp hw).1, hlocks, fun h => absurd h (by decide +kernel), ⟨fun a i x h hm => va_Nw.of rfl (hts _ hm), va_AO.of (hts _ (by decide +kernel))⟩, hA⟩
  have hb1 : bw_s rv [.inr (.inr 1)] [Value.ref b] := by subst hrv; exact ⟨rfl, trivial⟩
  have hl := lv_entry [Value.ref b] (n := 4) (Nat.le_of_ble_eq_true rfl)
  rw [lg_entry_eq]
  have hW := hJ p l e room_1 s m #[Value.ref b] below meth c s.heap [] 0 0 (lw_Z below #[Value.ref b] s) (fun k => (f k).1, fun k => (f k).2) [] A rv rv [] _ _ [] 4 (bw_z (bs_S L)) hF ⟨hK, fun k q h => by simp at h, ⟨fun i j p q h => by simp at h, fun k q h => by simp at h⟩, va_S.rf, hou, hk⟩ (List.prefix_refl _) hl (by decide) (bw_entry hk 4 _ _ hb1) trivial rfl (Nat.zero_add _) hlen hz (by decide +kernel) (by decide +kernel) ?_
  · rw [bw_pc0] at hW
    exact hW
  · intro H1 locs1 cells slots tys1 rv1 ws1 ls1 stc pc hW1 hpre hcc hzz hrv1
    obtain ⟨y, rfl, hy, hdc, -⟩ := hrv1
    have ey : y = 1 := nu_eq.mpr (by rw [hy]; decide)
    subst ey
    refine va_forget (fun q hq => by have := hW1.2.2.2.1.2.2 q hq; rw [hAe] at this; exact this) ?_
    refine W.widen (k := 600000) (n := 7302250) (by dsimp only at hcc hlen; omega) (by dsimp only at hzz hz; omega) ?_
    exact lw_ret hx hb hr hlocks hdc
end
section
/-! THE INTERPRETER's RUNS put together: more fuel does no harm; 'comes to an end with' -/
theorem be_heap {k k' : Nat → Lcl → List AV → Shp → Mem → Option Res} (hk : ∀ i L st S M r, k i L st S M = some r → k' i L st S M = some r) {op a b i : Nat} {L : Lcl} {st : List AV} {S : Shp} {M : Mem} {r : Res} (h : bi_heap k op a b i L st S M = some r) : bi_heap k' op a b i L st S M = some r := by
  unfold bi_heap at h
  split at h <;> first
    | cases h
    | (split at h <;> first
        | cases h
        | (rename_i hS; obtain ⟨h1, h⟩ := bi_iteO h; simp only [bi_heap, hS]; rw [if_pos h1]; exact hk _ _ _ _ _ _ h)
        | (rename_i hS hS2; obtain ⟨h1, h⟩ := bi_iteO h; simp only [bi_heap, hS, hS2]; rw [if_pos h1]; exact hk _ _ _ _ _ _ h))
theorem be_step {k k' : Nat → Lcl → List AV → Shp → Mem → Option Res} {cl cl' : Nat → List AV → Option Res} (hk : ∀ i L st S M r, k i L st S M = some r → k' i L st S M = some r) (hc : ∀ m as r, cl m as = some r → cl' m as = some r) {ins : Ins} {i : Nat} {L : Lcl} {st : List AV} {S : Shp} {M : Mem} {r : Res} (h : bi_step k cl ins i L st S M = some r) : bi_step k' cl' ins i L st S M = some r := by
  unfold bi_step at h
  split at h <;> first
    | exact hk _ _ _ _ _ _ h
    | (split at h <;> first
        | cases h
        | exact hk _ _ _ _ _ _ h
        | (rename_i hv; simp only [bi_step, hv]; exact hk _ _ _ _ _ _ h)
        | (obtain ⟨h1, h⟩ := bi_iteO h; simp only [bi_step]; rw [if_pos h1]; exact hk _ _ _ _ _ _ h)
        | (rename_i hv; obtain ⟨h1, h⟩ := bi_iteO h; simp only [bi_step, hv]; rw [if_pos h1]; exact hk _ _ _ _ _ _ h)
        | (split at h <;> first
            | cases h
            | (rename_i hv; simp only [bi_step]; rw [if_pos hv]; exact hk _ _ _ _ _ _ h)
            | (rename_i hv; simp only [bi_step]; rw [if_neg hv]; exact hk _ _ _ _ _ _ h)
            | (rename_i hv; simp only [bi_step, hv]; exact hk _ _ _ _ _ _ h)
            | (rename_i hv hv2; obtain ⟨h1, h⟩ := bi_iteO h; simp only [bi_step, hv, hv2]; rw [if_pos h1]; exact hk _ _ _ _ _ _ h))
        | exact h)
    | (obtain ⟨h1, h⟩ := bi_iteO h
       split at h
       · rename_i hv
         simp only [bi_step]
         rw [if_pos h1, hc _ _ _ hv]
         exact hk _ _ _ _ _ _ h
       · cases h)
    | skip
  · rename_i hv
    simp only [bi_step]
    rw [if_pos hv]
  · rfl
  · rfl
  · rename_i ins a b c l hne
    cases a with
    | zero => exact absurd rfl hne
    | succ a => exact hk _ _ _ _ _ _ h
  · have h2 := be_heap hk h
    unfold bi_step
    split <;> first
      | exact h2
      | (rename_i q; cases q; exact h2)
      | (exfalso; simp_all; done)
theorem be_mono1 : ∀ (n m i : Nat) (L : Lcl) (st : List AV) (S : Shp) (M : Mem) (r : Res), bi_exec PR n m i L st S M = some r → bi_exec PR (n + 1) m i L st S M = some r := by
  intro n
  induction n with
  | zero => intro m i L st S M r h; cases h
  | succ n ih =>
    intro m i L st S M r h
    unfold bi_exec at h
    split at h
    · rename_i ins hins
      have h2 := be_step (k' := bi_exec PR (n + 1) m) (cl' := fun m' as => if bi_cats as ≤ (PR m').2 then bi_exec PR (n + 1) m' 0 (bi_entry (PR m').2 as) [] S M else none) (fun i L st S M r h => ih m i L st S M r h) (fun m' as r h => by
        obtain ⟨h1, h⟩ := bi_iteO h
        show (if _ then _ else none) = some r
        rw [if_pos h1]
        exact ih _ _ _ _ _ _ _ h) h
      rw [bi_exec, hins]
      exact h2
    · cases h
theorem be_mono (k : Nat) {n m i : Nat} {L : Lcl} {st : List AV} {S : Shp} {M : Mem} {r : Res} (h : bi_exec PR n m i L st S M = some r) : bi_exec PR (n + k) m i L st S M = some r := by
  induction k with
  | zero => exact h
  | succ k ih => exact be_mono1 _ _ _ _ _ _ _ _ ih
/-- from a place in a method the run comes to an end that is so -/
def En (m i : Nat) (L : Lcl) (st : List AV) (S : Shp) (M : Mem) (Q : Res → Prop) : Prop := ∃ n r, bi_exec PR n m i L st S M = some r ∧ Q r
/-- a call comes back so -/
def Ca (m : Nat) (as : List AV) (S : Shp) (M : Mem) (Q : Res → Prop) : Prop := bi_cats as ≤ (PR m).2 ∧ En m 0 (bi_entry (PR m).2 as) [] S M Q
end
section
/-! ROWS: an instruction a row, for En -/
section Rows
variable {m i : Nat} {L : Lcl} {st : List AV} {S : Shp} {M : Mem} {Q : Res → Prop} {code : List Ins} {nL : Nat} {a b : Nat} {c : Int} {l : List Nat}
theorem en1 {j : Nat} {L' : Lcl} {st' : List AV} {S' : Shp} {M' : Mem} {ins : Ins} (hP : PR m = (code, nL)) (hi : code[i]? = some ins) (hs : ∀ k cl, bi_step k cl ins i L st S M = k j L' st' S' M') (h : En m j L' st' S' M' Q) : En m i L st S M Q := by
  obtain ⟨n, r, h1, h2⟩ := h
  refine ⟨n + 1, r, ?_, h2⟩
  rw [bi_exec, hP]
  dsimp only
  rw [hi]
  dsimp only
  rw [hs]
  exact h1
theorem e_c (hP : PR m = (code, nL)) (hi : code[i]? = some (0, a, b, c, l)) (h : En m (i + 1) L (.inl c :: st) S M Q) : En m i L st S M Q := en1 hP hi (fun _ _ => rfl) h
theorem e_ld {v : AV} (hP : PR m = (code, nL)) (hi : code[i]? = some (1, a, b, c, l)) (hv : bi_load b L[a]? = some v) (h : En m (i + 1) L (v :: st) S M Q) : En m i L st S M Q := en1 hP hi (fun _ _ => by simp only [bi_step, hv]) h
theorem e_st {v : AV} {L' : Lcl} (hP : PR m = (code, nL)) (hi : code[i]? = some (2, a, b, c, l)) (hv : bi_store L b a v = some L') (h : En m (i + 1) L' st S M Q) : En m i L (v :: st) S M Q := en1 hP hi (fun _ _ => by simp only [bi_step, hv]) h
theorem e_bin {x y z : Int} (hP : PR m = (code, nL)) (hi : code[i]? = some (3, a, b, c, l)) (hv : bi_bin a x y = some z) (h : En m (i + 1) L (.inl z :: st) S M Q) : En m i L (.inl y :: .inl x :: st) S M Q := en1 hP hi (fun _ _ => by simp only [bi_step, hv]) h
theorem e_add {x y : Int} (hP : PR m = (code, nL)) (hi : code[i]? = some (3, 0, b, c, l)) (hv : inR (x + y)) (h : En m (i + 1) L (.inl (x + y) :: st) S M Q) : En m i L (.inl y :: .inl x :: st) S M Q := e_bin hP hi (if_pos hv) h
theorem e_sub {x y : Int} (hP : PR m = (code, nL)) (hi : code[i]? = some (3, 1, b, c, l)) (hv : inR (x - y)) (h : En m (i + 1) L (.inl (x - y) :: st) S M Q) : En m i L (.inl y :: .inl x :: st) S M Q := e_bin hP hi (if_pos hv) h
theorem e_mul {x y : Int} (hP : PR m = (code, nL)) (hi : code[i]? = some (3, 2, b, c, l)) (hv : inR (x * y)) (h : En m (i + 1) L (.inl (x * y) :: st) S M Q) : En m i L (.inl y :: .inl x :: st) S M Q := e_bin hP hi (if_pos hv) h
theorem e_div {x y : Int} (hP : PR m = (code, nL)) (hi : code[i]? = some (3, 3, b, c, l)) (hv : 0 ≤ x ∧ 0 < y) (h : En m (i + 1) L (.inl (x / y) :: st) S M Q) : En m i L (.inl y :: .inl x :: st) S M Q := e_bin hP hi (if_pos hv) h
theorem e_rem {x y : Int} (hP : PR m = (code, nL)) (hi : code[i]? = some (3, 4, b, c, l)) (hv : 0 ≤ x ∧ 0 < y) (h : En m (i + 1) L (.inl (x % y) :: st) S M Q) : En m i L (.inl y :: .inl x :: st) S M Q := e_bin hP hi (if_pos hv) h
theorem e_shl {x y : Int} (hP : PR m = (code, nL)) (hi : code[i]? = some (3, 5, b, c, l)) (hv : 0 ≤ x ∧ 0 ≤ y ∧ y < 32 ∧ inR (x * 2 ^ y.toNat)) (h : En m (i + 1) L (.inl (x * 2 ^ y.toNat) :: st) S M Q) : En m i L (.inl y :: .inl x :: st) S M Q := e_bin hP hi (if_pos hv) h
theorem e_shr {x y : Int} (hP : PR m = (code, nL)) (hi : code[i]? = some (3, 6, b, c, l)) (hv : 0 ≤ x ∧ 0 ≤ y ∧ y < 32) (h : En m (i + 1) L (.inl (x / 2 ^ y.toNat) :: st) S M Q) : En m i L (.inl y :: .inl x :: st) S M Q := e_bin hP hi (if_pos hv) h
theorem e_ush {x y : Int} (hP : PR m = (code, nL)) (hi : code[i]? = some (3, 7, b, c, l)) (hv : 0 ≤ x ∧ 0 ≤ y ∧ y < 32) (h : En m (i + 1) L (.inl (x / 2 ^ y.toNat) :: st) S M Q) : En m i L (.inl y :: .inl x :: st) S M Q := e_bin hP hi (if_pos hv) h
theorem e_and {x y z : Int} (hP : PR m = (code, nL)) (hi : code[i]? = some (3, 8, b, c, l)) (hv : bi_and x y = some z) (h : En m (i + 1) L (.inl z :: st) S M Q) : En m i L (.inl y :: .inl x :: st) S M Q := e_bin hP hi hv h
theorem e_or {x y : Int} (hP : PR m = (code, nL)) (hi : code[i]? = some (3, 9, b, c, l)) (hv : 0 ≤ x ∧ 0 ≤ y) (h : En m (i + 1) L (.inl ((x.toNat ||| y.toNat : Nat) : Int) :: st) S M Q) : En m i L (.inl y :: .inl x :: st) S M Q := e_bin hP hi (if_pos hv) h
theorem e_xor {x y z : Int} (hP : PR m = (code, nL)) (hi : code[i]? = some (3, 10, b, c, l)) (hv : bi_bin 10 x y = some z) (h : En m (i + 1) L (.inl z :: st) S M Q) : En m i L (.inl y :: .inl x :: st) S M Q := e_bin hP hi hv h
theorem e_un {x z : Int} (hP : PR m = (code, nL)) (hi : code[i]? = some (4, a, b, c, l)) (hv : bi_un a x = some z) (h : En m (i + 1) L (.inl z :: st) S M Q) : En m i L (.inl x :: st) S M Q := en1 hP hi (fun _ _ => by simp only [bi_step, hv]) h
theorem e_i2l {x : Int} (hP : PR m = (code, nL)) (hi : code[i]? = some (5, a, b, c, l)) (h : En m (i + 1) L (.inr (.inl x) :: st) S M Q) : En m i L (.inl x :: st) S M Q := en1 hP hi (fun _ _ => rfl) h
theorem e_l2i {x : Int} (hP : PR m = (code, nL)) (hi : code[i]? = some (6, a, b, c, l)) (hv : inR x) (h : En m (i + 1) L (.inl x :: st) S M Q) : En m i L (.inr (.inl x) :: st) S M Q := en1 hP hi (fun _ _ => by simp only [bi_step]; rw [if_pos hv]) h
theorem e_lb {x y z : Int} (hP : PR m = (code, nL)) (hi : code[i]? = some (7, a, b, c, l)) (hv : bi_lbin a x y = some z) (h : En m (i + 1) L (.inr (.inl z) :: st) S M Q) : En m i L (.inr (.inl y) :: .inr (.inl x) :: st) S M Q := en1 hP hi (fun _ _ => by simp only [bi_step, hv]) h
theorem e_lcmp {x y : Int} (hP : PR m = (code, nL)) (hi : code[i]? = some (8, a, b, c, l)) (h : En m (i + 1) L (.inl (if x < y then -1 else if x = y then 0 else 1) :: st) S M Q) : En m i L (.inr (.inl y) :: .inr (.inl x) :: st) S M Q := en1 hP hi (fun _ _ => rfl) h
theorem e_lc (hP : PR m = (code, nL)) (hi : code[i]? = some (9, a, b, c, l)) (h : En m (i + 1) L (.inr (.inl c) :: st) S M Q) : En m i L st S M Q := en1 hP hi (fun _ _ => rfl) h
theorem e_inc {x : Int} {L' : Lcl} (hP : PR m = (code, nL)) (hi : code[i]? = some (10, a, b, c, l)) (hx : L[a]? = some (some (.inl x))) (hv : inR (x + c)) (hL : bi_st1 L a (.inl (x + c)) = L') (h : En m (i + 1) L' st S M Q) : En m i L st S M Q := en1 hP hi (fun _ _ => by simp only [bi_step, hx]; rw [if_pos hv, hL]) h
theorem e_go (hP : PR m = (code, nL)) (hi : code[i]? = some (11, a, b, c, l)) (h : En m a L st S M Q) : En m i L st S M Q := en1 hP hi (fun _ _ => rfl) h
theorem e_cmp {x y : Int} (hP : PR m = (code, nL)) (hi : code[i]? = some (12, a, b, c, l)) (ht : bi_cond b x y = true → En m a L st S M Q) (hf : ¬ bi_cond b x y = true → En m (i + 1) L st S M Q) : En m i L (.inl y :: .inl x :: st) S M Q := by
  by_cases h : bi_cond b x y = true
  · exact en1 hP hi (fun _ _ => by simp only [bi_step]; rw [if_pos h]) (ht h)
  · exact en1 hP hi (fun _ _ => by simp only [bi_step]; rw [if_neg h]) (hf h)
theorem e_ifz {x : Int} (hP : PR m = (code, nL)) (hi : code[i]? = some (13, a, b, c, l)) (ht : bi_cond b x 0 = true → En m a L st S M Q) (hf : ¬ bi_cond b x 0 = true → En m (i + 1) L st S M Q) : En m i L (.inl x :: st) S M Q := by
  by_cases h : bi_cond b x 0 = true
  · exact en1 hP hi (fun _ _ => by simp only [bi_step]; rw [if_pos h]) (ht h)
  · exact en1 hP hi (fun _ _ => by simp only [bi_step]; rw [if_neg h]) (hf h)
theorem e_ceq {x y : Int} (hP : PR m = (code, nL)) (hi : code[i]? = some (12, a, 0, c, l)) (ht : x = y → En m a L st S M Q) (hf : x ≠ y → En m (i + 1) L st S M Q) : En m i L (.inl y :: .inl x :: st) S M Q := e_cmp hP hi (fun h => ht (of_decide_eq_true h)) (fun h => hf (fun z => h (decide_eq_true z)))
theorem e_cne {x y : Int} (hP : PR m = (code, nL)) (hi : code[i]? = some (12, a, 1, c, l)) (ht : x ≠ y → En m a L st S M Q) (hf : x = y → En m (i + 1) L st S M Q) : En m i L (.inl y :: .inl x :: st) S M Q := e_cmp hP hi (fun h => ht (of_decide_eq_true h)) (fun h => hf (Decidable.byContradiction fun z => h (decide_eq_true z)))
theorem e_clt {x y : Int} (hP : PR m = (code, nL)) (hi : code[i]? = some (12, a, 2, c, l)) (ht : x < y → En m a L st S M Q) (hf : y ≤ x → En m (i + 1) L st S M Q) : En m i L (.inl y :: .inl x :: st) S M Q := e_cmp hP hi (fun h => ht (of_decide_eq_true h)) (fun h => hf (Int.not_lt.mp (fun z => h (decide_eq_true z))))
theorem e_cge {x y : Int} (hP : PR m = (code, nL)) (hi : code[i]? = some (12, a, 3, c, l)) (ht : y ≤ x → En m a L st S M Q) (hf : x < y → En m (i + 1) L st S M Q) : En m i L (.inl y :: .inl x :: st) S M Q := e_cmp hP hi (fun h => ht (of_decide_eq_true h)) (fun h => hf (Int.not_le.mp (fun z => h (decide_eq_true z))))
theorem e_cgt {x y : Int} (hP : PR m = (code, nL)) (hi : code[i]? = some (12, a, 4, c, l)) (ht : y < x → En m a L st S M Q) (hf : x ≤ y → En m (i + 1) L st S M Q) : En m i L (.inl y :: .inl x :: st) S M Q := e_cmp hP hi (fun h => ht (of_decide_eq_true h)) (fun h => hf (Int.not_lt.mp (fun z => h (decide_eq_true z))))
theorem e_cle {x y : Int} (hP : PR m = (code, nL)) (hi : code[i]? = some (12, a, 5, c, l)) (ht : x ≤ y → En m a L st S M Q) (hf : y < x → En m (i + 1) L st S M Q) : En m i L (.inl y :: .inl x :: st) S M Q := e_cmp hP hi (fun h => ht (of_decide_eq_true h)) (fun h => hf (Int.not_le.mp (fun z => h (decide_eq_true z))))
theorem e_zeq {x : Int} (hP : PR m = (code, nL)) (hi : code[i]? = some (13, a, 0, c, l)) (ht : x = 0 → En m a L st S M Q) (hf : x ≠ 0 → En m (i + 1) L st S M Q) : En m i L (.inl x :: st) S M Q := e_ifz hP hi (fun h => ht (of_decide_eq_true h)) (fun h => hf (fun z => h (decide_eq_true z)))
theorem e_zne {x : Int} (hP : PR m = (code, nL)) (hi : code[i]? = some (13, a, 1, c, l)) (ht : x ≠ 0 → En m a L st S M Q) (hf : x = 0 → En m (i + 1) L st S M Q) : En m i L (.inl x :: st) S M Q := e_ifz hP hi (fun h => ht (of_decide_eq_true h)) (fun h => hf (Decidable.byContradiction fun z => h (decide_eq_true z)))
theorem e_zlt {x : Int} (hP : PR m = (code, nL)) (hi : code[i]? = some (13, a, 2, c, l)) (ht : x < 0 → En m a L st S M Q) (hf : 0 ≤ x → En m (i + 1) L st S M Q) : En m i L (.inl x :: st) S M Q := e_ifz hP hi (fun h => ht (of_decide_eq_true h)) (fun h => hf (Int.not_lt.mp (fun z => h (decide_eq_true z))))
theorem e_zge {x : Int} (hP : PR m = (code, nL)) (hi : code[i]? = some (13, a, 3, c, l)) (ht : 0 ≤ x → En m a L st S M Q) (hf : x < 0 → En m (i + 1) L st S M Q) : En m i L (.inl x :: st) S M Q := e_ifz hP hi (fun h => ht (of_decide_eq_true h)) (fun h => hf (Int.not_le.mp (fun z => h (decide_eq_true z))))
theorem e_zgt {x : Int} (hP : PR m = (code, nL)) (hi : code[i]? = some (13, a, 4, c, l)) (ht : 0 < x → En m a L st S M Q) (hf : x ≤ 0 → En m (i + 1) L st S M Q) : En m i L (.inl x :: st) S M Q := e_ifz hP hi (fun h => ht (of_decide_eq_true h)) (fun h => hf (Int.not_lt.mp (fun z => h (decide_eq_true z))))
theorem e_zle {x : Int} (hP : PR m = (code, nL)) (hi : code[i]? = some (13, a, 5, c, l)) (ht : x ≤ 0 → En m a L st S M Q) (hf : 0 < x → En m (i + 1) L st S M Q) : En m i L (.inl x :: st) S M Q := e_ifz hP hi (fun h => ht (of_decide_eq_true h)) (fun h => hf (Int.not_le.mp (fun z => h (decide_eq_true z))))
theorem e_gI (q : Nat) {n : Nat} {rs : List Nat} (hS : S[q]? = some (a + 3, n, rs)) (hP : PR m = (code, nL)) (hi : code[i]? = some (14, a, b, c, l)) (hb : b < n) (h : En m (i + 1) L (.inl (M q b) :: st) S M Q) : En m i L (.inr (.inr (q + 1)) :: st) S M Q := en1 hP hi (fun _ _ => by simp only [bi_step, bi_heap, hS]; rw [if_pos ⟨trivial, hb⟩]) h
theorem e_gR (q : Nat) {n : Nat} {rs : List Nat} {w : Nat} (hS : S[q]? = some (a + 3, n, rs)) (hP : PR m = (code, nL)) (hi : code[i]? = some (15, a, b, c, l)) (hb : b < n) (hw : rs.getD b 0 = w) (h : En m (i + 1) L (.inr (.inr w) :: st) S M Q) : En m i L (.inr (.inr (q + 1)) :: st) S M Q := en1 hP hi (fun _ _ => by simp only [bi_step, bi_heap, hS]; rw [if_pos ⟨trivial, hb⟩, hw]) h
theorem e_pI (q : Nat) {n : Nat} {rs : List Nat} {v : Int} (hS : S[q]? = some (a + 3, n, rs)) (h4 : 4 ≤ q) (hP : PR m = (code, nL)) (hi : code[i]? = some (16, a, b, c, l)) (hb : b < n) (h : En m (i + 1) L st S (up2 M q b v) Q) : En m i L (.inl v :: .inr (.inr (q + 1)) :: st) S M Q := en1 hP hi (fun _ _ => by simp only [bi_step, bi_heap, hS]; rw [if_pos ⟨trivial, hb, h4⟩]) h
theorem e_pR (q : Nat) {n w : Nat} {rs : List Nat} {S' : Shp} (hS : S[q]? = some (a + 3, n, rs)) (h4 : 4 ≤ q) (hP : PR m = (code, nL)) (hi : code[i]? = some (17, a, b, c, l)) (hb : b < n) (hn : n = rs.length) (hS' : S.set q (a + 3, n, rs.set b w) = S') (h : En m (i + 1) L st S' M Q) : En m i L (.inr (.inr w) :: .inr (.inr (q + 1)) :: st) S M Q := en1 hP hi (fun _ _ => by simp only [bi_step, bi_heap, hS]; rw [if_pos ⟨trivial, hb, h4, hn⟩, hS']) h
theorem e_al (q : Nat) {n : Nat} {rs : List Nat} {j : Int} (hS : S[q]? = some (0, n, rs)) (hP : PR m = (code, nL)) (hi : code[i]? = some (18, a, b, c, l)) (hj : 0 ≤ j ∧ j < n) (h : En m (i + 1) L (.inl (M q j.toNat) :: st) S M Q) : En m i L (.inl j :: .inr (.inr (q + 1)) :: st) S M Q := en1 hP hi (fun _ _ => by simp only [bi_step, bi_heap, hS]; rw [if_pos hj]) h
theorem e_as (q : Nat) {n : Nat} {rs : List Nat} {j v : Int} (hS : S[q]? = some (0, n, rs)) (h4 : 4 ≤ q) (hP : PR m = (code, nL)) (hi : code[i]? = some (19, a, b, c, l)) (hj : 0 ≤ j ∧ j < n) (h : En m (i + 1) L st S (up2 M q j.toNat v) Q) : En m i L (.inl v :: .inl j :: .inr (.inr (q + 1)) :: st) S M Q := en1 hP hi (fun _ _ => by simp only [bi_step, bi_heap, hS]; rw [if_pos ⟨hj.1, hj.2, h4⟩]) h
theorem e_bl (q : Nat) {n : Nat} {rs : List Nat} {j : Int} (hS : S[q]? = some (1, n, rs)) (hP : PR m = (code, nL)) (hi : code[i]? = some (20, a, b, c, l)) (hj : 0 ≤ j ∧ j < n) (h : En m (i + 1) L (.inl (M q j.toNat) :: st) S M Q) : En m i L (.inl j :: .inr (.inr (q + 1)) :: st) S M Q := en1 hP hi (fun _ _ => by simp only [bi_step, bi_heap, hS]; rw [if_pos hj]) h
theorem e_bs (q : Nat) {n : Nat} {rs : List Nat} {j v : Int} (hS : S[q]? = some (1, n, rs)) (h4 : 4 ≤ q) (hP : PR m = (code, nL)) (hi : code[i]? = some (21, a, b, c, l)) (hj : 0 ≤ j ∧ j < n) (hv : -128 ≤ v ∧ v ≤ 127) (h : En m (i + 1) L st S (up2 M q j.toNat v) Q) : En m i L (.inl v :: .inl j :: .inr (.inr (q + 1)) :: st) S M Q := en1 hP hi (fun _ _ => by simp only [bi_step, bi_heap, hS]; rw [if_pos ⟨hj.1, hj.2, h4, hv.1, hv.2⟩]) h
theorem e_aal (q : Nat) {n w : Nat} {rs : List Nat} {j : Int} (hS : S[q]? = some (2, n, rs)) (h4 : 4 ≤ q) (hP : PR m = (code, nL)) (hi : code[i]? = some (22, a, b, c, l)) (hj : 0 ≤ j ∧ j < n) (hw : (M q j.toNat).toNat = w) (h : En m (i + 1) L (.inr (.inr w) :: st) S M Q) : En m i L (.inl j :: .inr (.inr (q + 1)) :: st) S M Q := en1 hP hi (fun _ _ => by simp only [bi_step, bi_heap, hS]; rw [if_pos ⟨hj.1, hj.2, h4⟩, hw]) h
theorem e_aas (q v : Nat) {n n2 : Nat} {rs rs2 : List Nat} {j : Int} (hS : S[q]? = some (2, n, rs)) (hS2 : S[v]? = some (10, n2, rs2)) (h4 : 4 ≤ q) (hv4 : 4 ≤ v) (hP : PR m = (code, nL)) (hi : code[i]? = some (23, a, b, c, l)) (hj : 0 ≤ j ∧ j < n) (h : En m (i + 1) L st S (up2 M q j.toNat ((v + 1 : Nat) : Int)) Q) : En m i L (.inr (.inr (v + 1)) :: .inl j :: .inr (.inr (q + 1)) :: st) S M Q := en1 hP hi (fun _ _ => by simp only [bi_step, bi_heap, hS, hS2]; rw [if_pos ⟨hj.1, hj.2, h4, hv4⟩]) h
theorem e_len (q : Nat) {kd n : Nat} {rs : List Nat} (hS : S[q]? = some (kd, n, rs)) (hk : kd < 3 ∧ q ≠ 3) (hP : PR m = (code, nL)) (hi : code[i]? = some (24, a, b, c, l)) (h : En m (i + 1) L (.inl (n : Int) :: st) S M Q) : En m i L (.inr (.inr (q + 1)) :: st) S M Q := en1 hP hi (fun _ _ => by simp only [bi_step, bi_heap, hS]; rw [if_pos hk]) h
theorem e_new (hP : PR m = (code, nL)) (hi : code[i]? = some (25, a, b, c, l)) (h : En m (i + 1) L (.inr (.inr (S.length + 1)) :: st) (S ++ [(a + 3, b, List.replicate b 0)]) (fun q j => if q = S.length then 0 else M q j) Q) : En m i L st S M Q := en1 hP hi (fun _ _ => rfl) h
theorem e_na {n : Int} (hP : PR m = (code, nL)) (hi : code[i]? = some (26, a, b, c, l)) (hn : 0 ≤ n ∧ n ≤ 65536 ∧ a < 3) (h : En m (i + 1) L (.inr (.inr (S.length + 1)) :: st) (S ++ [(a, n.toNat, [])]) (fun q j => if q = S.length then 0 else M q j) Q) : En m i L (.inl n :: st) S M Q := en1 hP hi (fun _ _ => by simp only [bi_step]; rw [if_pos hn]) h
theorem e_dupI {x : Int} (hP : PR m = (code, nL)) (hi : code[i]? = some (28, a, b, c, l)) (h : En m (i + 1) L (.inl x :: .inl x :: st) S M Q) : En m i L (.inl x :: st) S M Q := en1 hP hi (fun _ _ => rfl) h
theorem e_dupR {q : Nat} (hP : PR m = (code, nL)) (hi : code[i]? = some (28, a, b, c, l)) (h : En m (i + 1) L (.inr (.inr q) :: .inr (.inr q) :: st) S M Q) : En m i L (.inr (.inr q) :: st) S M Q := en1 hP hi (fun _ _ => rfl) h
theorem e_dup2 {x : Int} {q : Nat} (hP : PR m = (code, nL)) (hi : code[i]? = some (29, a, b, c, l)) (h : En m (i + 1) L (.inl x :: .inr (.inr q) :: .inl x :: .inr (.inr q) :: st) S M Q) : En m i L (.inl x :: .inr (.inr q) :: st) S M Q := en1 hP hi (fun _ _ => rfl) h
theorem e_pop {x : Int} (hP : PR m = (code, nL)) (hi : code[i]? = some (30, a, b, c, l)) (h : En m (i + 1) L st S M Q) : En m i L (.inl x :: st) S M Q := en1 hP hi (fun _ _ => rfl) h
theorem e_tab {x : Int} (hP : PR m = (code, nL)) (hi : code[i]? = some (31, a, b, c, l)) (hd : (x < c ∨ c + l.length ≤ x) → En m a L st S M Q) (ht : ∀ k t, l[k]? = some t → x = c + (k : Nat) → En m t L st S M Q) : En m i L (.inl x :: st) S M Q := by
  by_cases h : x < c ∨ c + l.length ≤ x
  · exact en1 hP hi (fun _ _ => by simp only [bi_step]; rw [if_pos h]) (hd h)
  · have hk : (x - c).toNat < l.length := by omega
    refine en1 (j := l.getD (x - c).toNat 0) hP hi (fun _ _ => by simp only [bi_step]; rw [if_neg h]) (ht (x - c).toNat _ ?_ (by omega))
    rw [List.getD_eq_getElem?_getD, List.getElem?_eq_getElem hk]
    rfl
theorem e_look {x : Int} {t : Nat} (hP : PR m = (code, nL)) (hi : code[i]? = some (32, a, b, c, l)) (ht : bi_look x l a = t) (h : En m t L st S M Q) : En m i L (.inl x :: st) S M Q := en1 hP hi (fun _ _ => by simp only [bi_step, ht]) h
theorem e_ret {x : Int} (hP : PR m = (code, nL)) (hi : code[i]? = some (33, a, b, c, l)) (hr : bi_retok a x = true) (h : Q (S, M, some (.inl x))) : En m i L [.inl x] S M Q := by
  refine ⟨1, _, ?_, h⟩
  rw [bi_exec, hP]
  dsimp only
  rw [hi]
  simp only [bi_step]
  rw [if_pos hr]
theorem e_retv (hP : PR m = (code, nL)) (hi : code[i]? = some (34, a, b, c, l)) (h : Q (S, M, none)) : En m i L [] S M Q := by
  refine ⟨1, _, ?_, h⟩
  rw [bi_exec, hP]
  dsimp only
  rw [hi]
  rfl
theorem e_reta {q : Nat} (hP : PR m = (code, nL)) (hi : code[i]? = some (35, a, b, c, l)) (h : Q (S, M, some (.inr (.inr q)))) : En m i L [.inr (.inr q)] S M Q := by
  refine ⟨1, _, ?_, h⟩
  rw [bi_exec, hP]
  dsimp only
  rw [hi]
  rfl
theorem e_call {as rest : List AV} (hP : PR m = (code, nL)) (hi : code[i]? = some (36, a, b, c, l)) (h1 : (st.take b).reverse = as) (h2 : st.drop b = rest) (h3 : b ≤ st.length) (h4 : bi_cats rest ≤ 8) (h5 : bi_recv c (l.headD 0) S st[b - 1]? = true) (h : Ca a as S M (fun r => En m (i + 1) L (r.2.2.toList ++ rest) r.1 r.2.1 Q)) : En m i L st S M Q := by
  obtain ⟨hc, n1, r1, g1, n2, r2, g2, g3⟩ := h
  refine ⟨n1 + n2 + 1, r2, ?_, g3⟩
  subst h1; subst h2
  have e1 := be_mono n2 g1
  have e2 := be_mono n1 g2
  rw [show n2 + n1 = n1 + n2 by omega] at e2
  rw [bi_exec, hP]
  dsimp only
  rw [hi]
  simp only [bi_step]
  rw [if_pos ⟨h3, h4, h5⟩, if_pos hc, e1]
  exact e2
theorem e_obj (q : Nat) (hP : PR m = (code, nL)) (hi : code[i]? = some (37, a, b, c, l)) (hq : q ≠ 3) (h4 : bi_cats st ≤ 8) (h : En m (i + 1) L st S M Q) : En m i L (.inr (.inr (q + 1)) :: st) S M Q := en1 hP hi (fun _ _ => by simp only [bi_step]; rw [if_pos ⟨hq, h4⟩]) h
theorem e_max {x y : Int} (hP : PR m = (code, nL)) (hi : code[i]? = some (38, 0, b, c, l)) (h4 : bi_cats st + 1 ≤ 8) (h : En m (i + 1) L (.inl (if x < y then y else x) :: st) S M Q) : En m i L (.inl y :: .inl x :: st) S M Q := en1 hP hi (fun _ _ => by simp only [bi_step, bi_math]; rw [if_pos]; rw [bw_cats_cons]; show 1 + _ ≤ 8; omega) h
theorem e_min {x y : Int} (hP : PR m = (code, nL)) (hi : code[i]? = some (38, 1, b, c, l)) (h4 : bi_cats st + 1 ≤ 8) (h : En m (i + 1) L (.inl (if y < x then y else x) :: st) S M Q) : En m i L (.inl y :: .inl x :: st) S M Q := en1 hP hi (fun _ _ => by simp only [bi_step, bi_math]; rw [if_pos]; rw [bw_cats_cons]; show 1 + _ ≤ 8; omega) h
theorem e_abs {x : Int} (hP : PR m = (code, nL)) (hi : code[i]? = some (38, 2, b, c, l)) (h4 : bi_cats st + 1 ≤ 8) (hx : inR (-x)) (h : En m (i + 1) L (.inl (if 0 ≤ x then x else -x) :: st) S M Q) : En m i L (.inl x :: st) S M Q := by
  refine en1 hP hi (fun _ _ => ?_) h
  by_cases h0 : 0 ≤ x
  · simp only [bi_step, bi_math]; rw [if_pos h0, if_pos h0]; dsimp only; rw [if_pos]; rw [bw_cats_cons]; show 1 + _ ≤ 8; omega
  · simp only [bi_step, bi_math]; rw [if_neg h0, if_neg h0, if_pos hx]; dsimp only; rw [if_pos]; rw [bw_cats_cons]; show 1 + _ ≤ 8; omega
theorem e_copy (qa qb : Nat) {na nb : Nat} {ra rb : List Nat} {k dp sp : Int} (hSa : S[qa]? = some (0, na, ra)) (hSb : S[qb]? = some (0, nb, rb)) (hP : PR m = (code, nL)) (hi : code[i]? = some (39, a, b, c, l)) (hv : 0 ≤ k ∧ 0 ≤ dp ∧ 0 ≤ sp ∧ sp + k ≤ na ∧ dp + k ≤ nb ∧ 4 ≤ qa ∧ 4 ≤ qb ∧ bi_cats st ≤ 8) (h : En m (i + 1) L st S (bi_cpy M qa sp.toNat qb dp.toNat k.toNat) Q) : En m i L (.inl k :: .inl dp :: .inr (.inr (qb + 1)) :: .inl sp :: .inr (.inr (qa + 1)) :: st) S M Q := en1 hP hi (fun _ _ => by simp only [bi_step, hSa, hSb]; rw [if_pos hv]) h
theorem e_str (hP : PR m = (code, nL)) (hi : code[i]? = some (40, a, b, c, l)) (h : En m (i + 1) L (.inr (.inr 2) :: st) S M Q) : En m i L st S M Q := en1 hP hi (fun _ _ => rfl) h
theorem e_gs0 (hP : PR m = (code, nL)) (hi : code[i]? = some (41, 0, b, c, l)) (h : En m (i + 1) L (.inl 1 :: st) S M Q) : En m i L st S M Q := en1 hP hi (fun _ _ => rfl) h
theorem e_gs1 (hP : PR m = (code, nL)) (hi : code[i]? = some (41, 1, b, c, l)) (h : En m (i + 1) L (.inr (.inr 4) :: st) S M Q) : En m i L st S M Q := en1 hP hi (fun _ _ => rfl) h
end Rows
end
section
/-! MORE KNOWN LOCALS do no harm; small rows for the walks -/
def le_L : Lcl → Lcl → Prop
  | [], [] => True
  | a :: l, b :: m => (a = none ∨ a = b) ∧ le_L l m
  | _, _ => False
theorem le_len : ∀ {L L' : Lcl}, le_L L L' → L.length = L'.length
  | [], [], _ => rfl
  | _ :: _, _ :: _, h => by simp [le_len h.2]
theorem le_get : ∀ {L L' : Lcl}, le_L L L' → ∀ (k : Nat) (v : AV), L[k]? = some (some v) → L'[k]? = some (some v)
  | [], [], _, k, v, hk => by simp at hk
  | a :: l, b :: m, h, 0, v, hk => by
    simp at hk
    rcases h.1 with q | q
    · rw [q] at hk; cases hk
    · rw [← q, hk]; rfl
  | a :: l, b :: m, h, k + 1, v, hk => by
    have := le_get h.2 k v (by simpa using hk)
    simpa using this
theorem le_mk : ∀ {L L' : Lcl}, L.length = L'.length → (∀ (k : Nat) (v : AV), L[k]? = some (some v) → L'[k]? = some (some v)) → le_L L L'
  | [], [], _, _ => trivial
  | a :: l, b :: m, hl, h => by
    refine ⟨?_, le_mk (by simpa using hl) (fun k v hk => by have := h (k + 1) v (by simpa using hk); simpa using this)⟩
    cases a with
    | none => exact Or.inl rfl
    | some v => have := h 0 v rfl; simp at this; exact Or.inr this.symm
theorem clr_get {L : Lcl} {a k : Nat} {v : AV} : (bi_clr L a)[k]? = some (some v) ↔ L[k]? = some (some v) ∧ ¬ (k + 1 = a ∧ bi_isL (some (some v)) = true) := by
  unfold bi_clr
  split
  · exact ⟨fun h => ⟨h, fun q => by omega⟩, fun h => h.1⟩
  · rename_i j
    split
    · rename_i hL
      by_cases hk : k = j
      · subst hk
        constructor
        · intro h
          rw [List.getElem?_set] at h
          split at h
          · split at h <;> cases h
          · rename_i q; exact absurd rfl q
        · intro ⟨h1, h2⟩
          rw [h1] at hL
          exact absurd ⟨rfl, hL⟩ h2
      · rw [List.getElem?_set_ne (fun z => hk z.symm)]
        exact ⟨fun h => ⟨h, fun q => by omega⟩, fun h => h.1⟩
    · rename_i hL
      refine ⟨fun h => ⟨h, fun q => ?_⟩, fun h => h.1⟩
      have : k = j := by omega
      subst this
      rw [h] at hL
      exact hL q.2
theorem clr_len (L : Lcl) (a : Nat) : (bi_clr L a).length = L.length := by
  unfold bi_clr
  split
  · rfl
  · split <;> simp
theorem le_st1 {L L' : Lcl} (h : le_L L L') {a : Nat} (ha : a < L.length) (v : AV) : le_L (bi_st1 L a v) (bi_st1 L' a v) := by
  refine le_mk (by rw [bi_st1_len, bi_st1_len]; exact le_len h) (fun k w hk => ?_)
  unfold bi_st1 at hk ⊢
  by_cases hka : k = a
  · subst hka
    rw [List.getElem?_set_self (by rw [clr_len]; exact ha)] at hk
    rw [List.getElem?_set_self (by rw [clr_len, ← le_len h]; exact ha)]
    exact hk
  · rw [List.getElem?_set_ne (fun z => hka z.symm)] at hk ⊢
    have h2 := clr_get.mp hk
    exact clr_get.mpr ⟨le_get h k w h2.1, h2.2⟩
theorem le_st2 {L L' : Lcl} (h : le_L L L') {a : Nat} (ha : a + 1 < L.length) (v : AV) : le_L (bi_st2 L a v) (bi_st2 L' a v) := by
  refine le_mk (by rw [bi_st2_len, bi_st2_len]; exact le_len h) (fun k w hk => ?_)
  unfold bi_st2 at hk ⊢
  by_cases hka : k = a + 1
  · subst hka
    rw [List.getElem?_set] at hk
    split at hk
    · split at hk <;> cases hk
    · rename_i q; exact absurd rfl q
  · rw [List.getElem?_set_ne (fun z => hka z.symm)] at hk ⊢
    exact le_get (le_st1 h (a := a) (by omega) v) k w hk
theorem fg_load {L L' : Lcl} (h : le_L L L') {b a : Nat} {v : AV} (hv : bi_load b L[a]? = some v) : bi_load b L'[a]? = some v := by
  unfold bi_load at hv
  split at hv
  · rename_i hL; rw [le_get h _ _ hL]; exact hv
  · rename_i hL; rw [le_get h _ _ hL]; exact hv
  · rename_i hL; rw [le_get h _ _ hL]; exact hv
  · cases hv
theorem fg_store {L L' L1 : Lcl} (h : le_L L L') {b a : Nat} {v : AV} (hv : bi_store L b a v = some L1) : ∃ L2, bi_store L' b a v = some L2 ∧ le_L L1 L2 := by
  unfold bi_store at hv
  have hl := le_len h
  split at hv
  · obtain ⟨h1, rfl⟩ := bi_ite hv
    exact ⟨_, by simp only [bi_store]; rw [if_pos (by omega)], le_st1 h h1 _⟩
  · rename_i hc
    split at hv
    · cases hv
    · rename_i hc
      obtain ⟨h1, rfl⟩ := bi_ite hv
      exact ⟨_, by simp only [bi_store]; rw [if_neg hc, if_pos (by omega)], le_st1 h h1 _⟩
  · obtain ⟨h1, rfl⟩ := bi_ite hv
    exact ⟨_, by simp only [bi_store]; rw [if_pos (by omega)], le_st2 h h1 _⟩
  · cases hv
theorem fg_heap {k : Nat → Lcl → List AV → Shp → Mem → Option Res} {L L' : Lcl} (hle : le_L L L') (hk : ∀ i L L' st S M r, le_L L L' → k i L st S M = some r → k i L' st S M = some r) {op a b i : Nat} {st : List AV} {S : Shp} {M : Mem} {r : Res} (h : bi_heap k op a b i L st S M = some r) : bi_heap k op a b i L' st S M = some r := by
  unfold bi_heap at h
  split at h <;> first
    | cases h
    | (split at h <;> first
        | cases h
        | (rename_i hS; obtain ⟨h1, h⟩ := bi_iteO h; simp only [bi_heap, hS]; rw [if_pos h1]; exact hk _ _ _ _ _ _ _ hle h)
        | (rename_i hS hS2; obtain ⟨h1, h⟩ := bi_iteO h; simp only [bi_heap, hS, hS2]; rw [if_pos h1]; exact hk _ _ _ _ _ _ _ hle h))
theorem fg_step {k : Nat → Lcl → List AV → Shp → Mem → Option Res} {cl : Nat → List AV → Option Res} {L L' : Lcl} (hle : le_L L L') (hk : ∀ i L L' st S M r, le_L L L' → k i L st S M = some r → k i L' st S M = some r) {ins : Ins} {i : Nat} {st : List AV} {S : Shp} {M : Mem} {r : Res} (h : bi_step k cl ins i L st S M = some r) : bi_step k cl ins i L' st S M = some r := by
  unfold bi_step at h
  split at h
  · exact hk _ _ _ _ _ _ _ hle h
  · split at h
    · rename_i hv
      simp only [bi_step, fg_load hle hv]
      exact hk _ _ _ _ _ _ _ hle h
    · cases h
  · split at h
    · split at h
      · rename_i hv
        obtain ⟨L2, h1, h2⟩ := fg_store hle hv
        simp only [bi_step, h1]
        exact hk _ _ _ _ _ _ _ h2 h
      · cases h
    · cases h
  · split at h
    · split at h
      · rename_i hv; simp only [bi_step, hv]; exact hk _ _ _ _ _ _ _ hle h
      · cases h
    · cases h
  · split at h
    · split at h
      · rename_i hv; simp only [bi_step, hv]; exact hk _ _ _ _ _ _ _ hle h
      · cases h
    · cases h
  · split at h
    · exact hk _ _ _ _ _ _ _ hle h
    · cases h
  · split at h
    · obtain ⟨h1, h⟩ := bi_iteO h; simp only [bi_step]; rw [if_pos h1]; exact hk _ _ _ _ _ _ _ hle h
    · cases h
  · split at h
    · split at h
      · rename_i hv; simp only [bi_step, hv]; exact hk _ _ _ _ _ _ _ hle h
      · cases h
    · cases h
  · split at h
    · exact hk _ _ _ _ _ _ _ hle h
    · cases h
  · exact hk _ _ _ _ _ _ _ hle h
  · split at h
    · rename_i hx
      obtain ⟨h1, h⟩ := bi_iteO h
      simp only [bi_step, le_get hle _ _ hx]
      rw [if_pos h1]
      exact hk _ _ _ _ _ _ _ (le_st1 hle (List.getElem?_eq_some_iff.mp hx).1 _) h
    · cases h
  · exact hk _ _ _ _ _ _ _ hle h
  · split at h
    · split at h
      · rename_i hv; simp only [bi_step]; rw [if_pos hv]; exact hk _ _ _ _ _ _ _ hle h
      · rename_i hv; simp only [bi_step]; rw [if_neg hv]; exact hk _ _ _ _ _ _ _ hle h
    · cases h
  · split at h
    · split at h
      · rename_i hv; simp only [bi_step]; rw [if_pos hv]; exact hk _ _ _ _ _ _ _ hle h
      · rename_i hv; simp only [bi_step]; rw [if_neg hv]; exact hk _ _ _ _ _ _ _ hle h
    · cases h
  · exact hk _ _ _ _ _ _ _ hle h
  · split at h
    · obtain ⟨h1, h⟩ := bi_iteO h; simp only [bi_step]; rw [if_pos h1]; exact hk _ _ _ _ _ _ _ hle h
    · cases h
  · split at h
    · exact hk _ _ _ _ _ _ _ hle h
    · exact hk _ _ _ _ _ _ _ hle h
    · cases h
  · split at h
    · exact hk _ _ _ _ _ _ _ hle h
    · cases h
  · split at h
    · exact hk _ _ _ _ _ _ _ hle h
    · cases h
  · split at h
    · split at h
      · rename_i hv; simp only [bi_step]; rw [if_pos hv]; exact hk _ _ _ _ _ _ _ hle h
      · rename_i hv; simp only [bi_step]; rw [if_neg hv]; exact hk _ _ _ _ _ _ _ hle h
    · cases h
  · split at h
    · exact hk _ _ _ _ _ _ _ hle h
    · cases h
  · exact h
  · exact h
  · exact h
  · obtain ⟨h1, h⟩ := bi_iteO h
    split at h
    · rename_i hv
      simp only [bi_step]
      rw [if_pos h1, hv]
      exact hk _ _ _ _ _ _ _ hle h
    · cases h
  · split at h
    · obtain ⟨h1, h⟩ := bi_iteO h; simp only [bi_step]; rw [if_pos h1]; exact hk _ _ _ _ _ _ _ hle h
    · cases h
  · split at h
    · rename_i hv; obtain ⟨h1, h⟩ := bi_iteO h; simp only [bi_step, hv]; rw [if_pos h1]; exact hk _ _ _ _ _ _ _ hle h
    · cases h
  · split at h
    · split at h
      · rename_i hv hv2; obtain ⟨h1, h⟩ := bi_iteO h; simp only [bi_step, hv, hv2]; rw [if_pos h1]; exact hk _ _ _ _ _ _ _ hle h
      · cases h
    · cases h
  · exact hk _ _ _ _ _ _ _ hle h
  · exact hk _ _ _ _ _ _ _ hle h
  · rename_i ins a b c l hne
    cases a with
    | zero => exact absurd rfl hne
    | succ a => exact hk _ _ _ _ _ _ _ hle h
  · have h2 := fg_heap hle hk h
    unfold bi_step
    split <;> first
      | exact h2
      | (rename_i q; cases q; exact h2)
      | (exfalso; simp_all; done)
theorem fg_exec : ∀ (n m i : Nat) (L L' : Lcl) (st : List AV) (S : Shp) (M : Mem) (r : Res), le_L L L' → bi_exec PR n m i L st S M = some r → bi_exec PR n m i L' st S M = some r := by
  intro n
  induction n with
  | zero => intro m i L L' st S M r _ h; cases h
  | succ n ih =>
    intro m i L L' st S M r hle h
    unfold bi_exec at h
    split at h
    · rename_i ins hins
      have h2 := fg_step hle (fun i L L' st S M r h1 h2 => ih m i L L' st S M r h1 h2) h
      rw [bi_exec, hins]
      exact h2
    · cases h
theorem en_fg {m i : Nat} {L L' : Lcl} {st : List AV} {S : Shp} {M : Mem} {Q : Res → Prop} (h : En m i L st S M Q) (hle : le_L L L') : En m i L' st S M Q := by
  obtain ⟨n, r, h1, h2⟩ := h
  exact ⟨n, r, fg_exec _ _ _ _ _ _ _ _ _ hle h1, h2⟩
theorem En.mono {m i : Nat} {L : Lcl} {st : List AV} {S : Shp} {M : Mem} {Q Q' : Res → Prop} (h : En m i L st S M Q) (hq : ∀ r, Q r → Q' r) : En m i L st S M Q' := by
  obtain ⟨n, r, h1, h2⟩ := h
  exact ⟨n, r, h1, hq r h2⟩
theorem Ca.mono {m : Nat} {as : List AV} {S : Shp} {M : Mem} {Q Q' : Res → Prop} (h : Ca m as S M Q) (hq : ∀ r, Q r → Q' r) : Ca m as S M Q' := ⟨h.1, h.2.mono hq⟩
theorem rcv0 {q cls n : Nat} {S : Shp} {rs : List Nat} (hS : S[q]? = some (cls + 3, n, rs)) (h4 : 4 ≤ q) : bi_recv 0 cls S (some (.inr (.inr (q + 1)))) = true := by
  unfold bi_recv
  dsimp only
  rw [if_pos rfl, hS]
  simp [h4]
theorem rcvS {S : Shp} {n : Nat} {rs : List Nat} (hS : S[1]? = some (13, n, rs)) : bi_recv 0 10 S (some (.inr (.inr 2))) = true := by
  unfold bi_recv
  dsimp only
  rw [if_pos rfl, hS]
  simp
theorem rcv1 {cls : Nat} {S : Shp} {v : Option AV} : bi_recv 1 cls S v = true := by
  unfold bi_recv
  split
  · rw [if_neg (by decide)]; simp
  · rfl
theorem rcv2 {q cls : Nat} {S : Shp} (h : q ≠ 3) : bi_recv 2 cls S (some (.inr (.inr (q + 1)))) = true := by
  unfold bi_recv
  dsimp only
  rw [if_neg (by decide)]
  simp [h]
end
section
/-! THE CELLS after both constructors; a fact a cell (wip/gen/reg.py) -/
def bx_tab : Shp := [(0, 384, []), (13, 2, [3, 0]), (1, 41, []), (2, 0, []), (11, 12, [6, 9, 20, 31, 121, 145, 158, 161, 165, 169, 172, 0]), (8, 5, [7, 8, 0, 0, 0]), (0, 200, []), (0, 6, []), (10, 15, [0, 0, 0, 0, 0, 10, 11, 12, 13, 14, 15, 16, 17, 18, 19]), (0, 8, []), (0, 48, []), (0, 8, []), (0, 8, []), (0, 8, []), (0, 8, []), (0, 64, []), (0, 26, []), (0, 26, []), (0, 26, []), (10, 15, [0, 0, 0, 0, 0, 21, 22, 23, 24, 25, 26, 27, 28, 29, 30]), (0, 8, []), (0, 48, []), (0, 8, []), (0, 8, []), (0, 8, []), (0, 8, []), (0, 64, []), (0, 26, []), (0, 26, []), (0, 26, []), (7, 2, [32, 0]), (2, 8, []), (10, 15, [0, 0, 0, 0, 0, 34, 35, 36, 37, 38, 39, 40, 41, 42, 43]), (0, 8, []), (0, 48, []), (0, 8, []), (0, 8, []), (0, 8, []), (0, 8, []), (0, 64, []), (0, 26, []), (0, 26, []), (0, 26, []), (10, 15, [0, 0, 0, 0, 0, 45, 46, 47, 48, 49, 50, 51, 52, 53, 54]), (0, 8, []), (0, 48, []), (0, 8, []), (0, 8, []), (0, 8, []), (0, 8, []), (0, 64, []), (0, 26, []), (0, 26, []), (0, 26, []), (10, 15, [0, 0, 0, 0, 0, 56, 57, 58, 59, 60, 61, 62, 63, 64, 65]), (0, 8, []), (0, 48, []), (0, 8, []), (0, 8, []), (0, 8, []), (0, 8, []), (0, 64, []), (0, 26, []), (0, 26, []), (0, 26, []), (10, 15, [0, 0, 0, 0, 0, 67, 68, 69, 70, 71, 72, 73, 74, 75, 76]), (0, 8, []), (0, 48, []), (0, 8, []), (0, 8, []), (0, 8, []), (0, 8, []), (0, 64, []), (0, 26, []), (0, 26, []), (0, 26, []), (10, 15, [0, 0, 0, 0, 0, 78, 79, 80, 81, 82, 83, 84, 85, 86, 87]), (0, 8, []), (0, 48, []), (0, 8, []), (0, 8, []), (0, 8, []), (0, 8, []), (0, 64, []), (0, 26, []), (0, 26, []), (0, 26, []), (10, 15, [0, 0, 0, 0, 0, 89, 90, 91, 92, 93, 94, 95, 96, 97, 98]), (0, 8, []), (0, 48, []), (0, 8, []), (0, 8, []), (0, 8, []), (0, 8, []), (0, 64, []), (0, 26, []), (0, 26, []), (0, 26, []), (10, 15, [0, 0, 0, 0, 0, 100, 101, 102, 103, 104, 105, 106, 107, 108, 109]), (0, 8, []), (0, 48, []), (0, 8, []), (0, 8, []), (0, 8, []), (0, 8, []), (0, 64, []), (0, 26, []), (0, 26, []), (0, 26, []), (10, 15, [0, 0, 0, 0, 0, 111, 112, 113, 114, 115, 116, 117, 118, 119, 120]), (0, 8, []), (0, 48, []), (0, 8, []), (0, 8, []), (0, 8, []), (0, 8, []), (0, 64, []), (0, 26, []), (0, 26, []), (0, 26, []), (7, 2, [122, 0]), (2, 2, []), (10, 15, [0, 0, 0, 0, 0, 124, 125, 126, 127, 128, 129, 130, 131, 132, 133]), (0, 8, []), (0, 48, []), (0, 8, []), (0, 8, []), (0, 8, []), (0, 8, []), (0, 64, []), (0, 26, []), (0, 26, []), (0, 26, []), (10, 15, [0, 0, 0, 0, 0, 135, 136, 137, 138, 139, 140, 141, 142, 143, 144]), (0, 8, []), (0, 48, []), (0, 8, []), (0, 8, []), (0, 8, []), (0, 8, []), (0, 64, []), (0, 26, []), (0, 26, []), (0, 26, []), (5, 2, [146, 147]), (0, 8, []), (10, 15, [0, 0, 0, 0, 0, 148, 149, 150, 151, 152, 153, 154, 155, 156, 157]), (0, 8, []), (0, 48, []), (0, 8, []), (0, 8, []), (0, 8, []), (0, 8, []), (0, 64, []), (0, 26, []), (0, 26, []), (0, 26, []), (6, 2, [159, 160]), (0, 8, []), (0, 256, []), (9, 4, [162, 163, 164, 0]), (0, 2048, []), (0, 2048, []), (0, 8, []), (3, 3, [166, 167, 168]), (0, 8, []), (0, 256, []), (0, 256, []), (4, 3, [170, 171, 0]), (0, 8, []), (0, 8, []), (0, 6, []), (12, 25, [0, 174, 0, 175, 176, 177, 178, 179, 180, 181, 0, 0, 0, 182, 0, 183, 184, 185, 186, 187, 0, 188, 189, 0, 0]), (1, 200, []), (0, 12, []), (0, 16, []), (0, 56, []), (0, 8, []), (0, 26, []), (0, 24, []), (0, 2040, []), (0, 6, []), (0, 16, []), (0, 8, []), (0, 8, []), (0, 8, []), (0, 256, []), (0, 2, []), (0, 6, [])]
def bx_tw : List Nat := [8, 19, 32, 43, 54, 65, 76, 87, 98, 109, 122, 133, 146]
def KC (S : Shp) : Prop := ∀ k, 4 ≤ k → k < 172 → S[k]? = bx_tab[k]?
def KM (S : Shp) : Prop := ∀ k, 172 ≤ k → k < 189 → S[k]? = bx_tab[k]?
theorem sh_4 {S : Shp} (hS : KC S) : S[4]? = some (11, 12, [6, 9, 20, 31, 121, 145, 158, 161, 165, 169, 172, 0]) := hS 4 (by decide) (by decide)
theorem sh_5 {S : Shp} (hS : KC S) : S[5]? = some (8, 5, [7, 8, 0, 0, 0]) := hS 5 (by decide) (by decide)
theorem sh_6 {S : Shp} (hS : KC S) : S[6]? = some (0, 200, []) := hS 6 (by decide) (by decide)
theorem sh_7 {S : Shp} (hS : KC S) : S[7]? = some (0, 6, []) := hS 7 (by decide) (by decide)
theorem sh_8 {S : Shp} (hS : KC S) : S[8]? = some (10, 15, [0, 0, 0, 0, 0, 10, 11, 12, 13, 14, 15, 16, 17, 18, 19]) := hS 8 (by decide) (by decide)
theorem sh_9 {S : Shp} (hS : KC S) : S[9]? = some (0, 8, []) := hS 9 (by decide) (by decide)
theorem sh_10 {S : Shp} (hS : KC S) : S[10]? = some (0, 48, []) := hS 10 (by decide) (by decide)
theorem sh_11 {S : Shp} (hS : KC S) : S[11]? = some (0, 8, []) := hS 11 (by decide) (by decide)
theorem sh_12 {S : Shp} (hS : KC S) : S[12]? = some (0, 8, []) := hS 12 (by decide) (by decide)
theorem sh_13 {S : Shp} (hS : KC S) : S[13]? = some (0, 8, []) := hS 13 (by decide) (by decide)
theorem sh_14 {S : Shp} (hS : KC S) : S[14]? = some (0, 8, []) := hS 14 (by decide) (by decide)
theorem sh_15 {S : Shp} (hS : KC S) : S[15]? = some (0, 64, []) := hS 15 (by decide) (by decide)
theorem sh_16 {S : Shp} (hS : KC S) : S[16]? = some (0, 26, []) := hS 16 (by decide) (by decide)
theorem sh_17 {S : Shp} (hS : KC S) : S[17]? = some (0, 26, []) := hS 17 (by decide) (by decide)
theorem sh_18 {S : Shp} (hS : KC S) : S[18]? = some (0, 26, []) := hS 18 (by decide) (by decide)
theorem sh_19 {S : Shp} (hS : KC S) : S[19]? = some (10, 15, [0, 0, 0, 0, 0, 21, 22, 23, 24, 25, 26, 27, 28, 29, 30]) := hS 19 (by decide) (by decide)
theorem sh_20 {S : Shp} (hS : KC S) : S[20]? = some (0, 8, []) := hS 20 (by decide) (by decide)
theorem sh_21 {S : Shp} (hS : KC S) : S[21]? = some (0, 48, []) := hS 21 (by decide) (by decide)
theorem sh_22 {S : Shp} (hS : KC S) : S[22]? = some (0, 8, []) := hS 22 (by decide) (by decide)
theorem sh_23 {S : Shp} (hS : KC S) : S[23]? = some (0, 8, []) := hS 23 (by decide) (by decide)
theorem sh_24 {S : Shp} (hS : KC S) : S[24]? = some (0, 8, []) := hS 24 (by decide) (by decide)
theorem sh_25 {S : Shp} (hS : KC S) : S[25]? = some (0, 8, []) := hS 25 (by decide) (by decide)
theorem sh_26 {S : Shp} (hS : KC S) : S[26]? = some (0, 64, []) := hS 26 (by decide) (by decide)
theorem sh_27 {S : Shp} (hS : KC S) : S[27]? = some (0, 26, []) := hS 27 (by decide) (by decide)
theorem sh_28 {S : Shp} (hS : KC S) : S[28]? = some (0, 26, []) := hS 28 (by decide) (by decide)
theorem sh_29 {S : Shp} (hS : KC S) : S[29]? = some (0, 26, []) := hS 29 (by decide) (by decide)
theorem sh_30 {S : Shp} (hS : KC S) : S[30]? = some (7, 2, [32, 0]) := hS 30 (by decide) (by decide)
theorem sh_31 {S : Shp} (hS : KC S) : S[31]? = some (2, 8, []) := hS 31 (by decide) (by decide)
theorem sh_32 {S : Shp} (hS : KC S) : S[32]? = some (10, 15, [0, 0, 0, 0, 0, 34, 35, 36, 37, 38, 39, 40, 41, 42, 43]) := hS 32 (by decide) (by decide)
theorem sh_33 {S : Shp} (hS : KC S) : S[33]? = some (0, 8, []) := hS 33 (by decide) (by decide)
theorem sh_34 {S : Shp} (hS : KC S) : S[34]? = some (0, 48, []) := hS 34 (by decide) (by decide)
theorem sh_35 {S : Shp} (hS : KC S) : S[35]? = some (0, 8, []) := hS 35 (by decide) (by decide)
theorem sh_36 {S : Shp} (hS : KC S) : S[36]? = some (0, 8, []) := hS 36 (by decide) (by decide)
theorem sh_37 {S : Shp} (hS : KC S) : S[37]? = some (0, 8, []) := hS 37 (by decide) (by decide)
theorem sh_38 {S : Shp} (hS : KC S) : S[38]? = some (0, 8, []) := hS 38 (by decide) (by decide)
theorem sh_39 {S : Shp} (hS : KC S) : S[39]? = some (0, 64, []) := hS 39 (by decide) (by decide)
theorem sh_40 {S : Shp} (hS : KC S) : S[40]? = some (0, 26, []) := hS 40 (by decide) (by decide)
theorem sh_41 {S : Shp} (hS : KC S) : S[41]? = some (0, 26, []) := hS 41 (by decide) (by decide)
theorem sh_42 {S : Shp} (hS : KC S) : S[42]? = some (0, 26, []) := hS 42 (by decide) (by decide)
theorem sh_43 {S : Shp} (hS : KC S) : S[43]? = some (10, 15, [0, 0, 0, 0, 0, 45, 46, 47, 48, 49, 50, 51, 52, 53, 54]) := hS 43 (by decide) (by decide)
theorem sh_44 {S : Shp} (hS : KC S) : S[44]? = some (0, 8, []) := hS 44 (by decide) (by decide)
theorem sh_45 {S : Shp} (hS : KC S) : S[45]? = some (0, 48, []) := hS 45 (by decide) (by decide)
theorem sh_46 {S : Shp} (hS : KC S) : S[46]? = some (0, 8, []) := hS 46 (by decide) (by decide)
theorem sh_47 {S : Shp} (hS : KC S) : S[47]? = some (0, 8, []) := hS 47 (by decide) (by decide)
theorem sh_48 {S : Shp} (hS : KC S) : S[48]? = some (0, 8, []) := hS 48 (by decide) (by decide)
theorem sh_49 {S : Shp} (hS : KC S) : S[49]? = some (0, 8, []) := hS 49 (by decide) (by decide)
theorem sh_50 {S : Shp} (hS : KC S) : S[50]? = some (0, 64, []) := hS 50 (by decide) (by decide)
theorem sh_51 {S : Shp} (hS : KC S) : S[51]? = some (0, 26, []) := hS 51 (by decide) (by decide)
theorem sh_52 {S : Shp} (hS : KC S) : S[52]? = some (0, 26, []) := hS 52 (by decide) (by decide)
theorem sh_53 {S : Shp} (hS : KC S) : S[53]? = some (0, 26, []) := hS 53 (by decide) (by decide)
theorem sh_54 {S : Shp} (hS : KC S) : S[54]? = some (10, 15, [0, 0, 0, 0, 0, 56, 57, 58, 59, 60, 61, 62, 63, 64, 65]) := hS 54 (by decide) (by decide)
theorem sh_55 {S : Shp} (hS : KC S) : S[55]? = some (0, 8, []) := hS 55 (by decide) (by decide)
theorem sh_56 {S : Shp} (hS : KC S) : S[56]? = some (0, 48, []) := hS 56 (by decide) (by decide)
theorem sh_57 {S : Shp} (hS : KC S) : S[57]? = some (0, 8, []) := hS 57 (by decide) (by decide)
theorem sh_58 {S : Shp} (hS : KC S) : S[58]? = some (0, 8, []) := hS 58 (by decide) (by decide)
theorem sh_59 {S : Shp} (hS : KC S) : S[59]? = some (0, 8, []) := hS 59 (by decide) (by decide)
theorem sh_60 {S : Shp} (hS : KC S) : S[60]? = some (0, 8, []) := hS 60 (by decide) (by decide)
theorem sh_61 {S : Shp} (hS : KC S) : S[61]? = some (0, 64, []) := hS 61 (by decide) (by decide)
theorem sh_62 {S : Shp} (hS : KC S) : S[62]? = some (0, 26, []) := hS 62 (by decide) (by decide)
theorem sh_63 {S : Shp} (hS : KC S) : S[63]? = some (0, 26, []) := hS 63 (by decide) (by decide)
theorem sh_64 {S : Shp} (hS : KC S) : S[64]? = some (0, 26, []) := hS 64 (by decide) (by decide)
theorem sh_65 {S : Shp} (hS : KC S) : S[65]? = some (10, 15, [0, 0, 0, 0, 0, 67, 68, 69, 70, 71, 72, 73, 74, 75, 76]) := hS 65 (by decide) (by decide)
theorem sh_66 {S : Shp} (hS : KC S) : S[66]? = some (0, 8, []) := hS 66 (by decide) (by decide)
theorem sh_67 {S : Shp} (hS : KC S) : S[67]? = some (0, 48, []) := hS 67 (by decide) (by decide)
theorem sh_68 {S : Shp} (hS : KC S) : S[68]? = some (0, 8, []) := hS 68 (by decide) (by decide)
theorem sh_69 {S : Shp} (hS : KC S) : S[69]? = some (0, 8, []) := hS 69 (by decide) (by decide)
theorem sh_70 {S : Shp} (hS : KC S) : S[70]? = some (0, 8, []) := hS 70 (by decide) (by decide)
theorem sh_71 {S : Shp} (hS : KC S) : S[71]? = some (0, 8, []) := hS 71 (by decide) (by decide)
theorem sh_72 {S : Shp} (hS : KC S) : S[72]? = some (0, 64, []) := hS 72 (by decide) (by decide)
theorem sh_73 {S : Shp} (hS : KC S) : S[73]? = some (0, 26, []) := hS 73 (by decide) (by decide)
theorem sh_74 {S : Shp} (hS : KC S) : S[74]? = some (0, 26, []) := hS 74 (by decide) (by decide)
theorem sh_75 {S : Shp} (hS : KC S) : S[75]? = some (0, 26, []) := hS 75 (by decide) (by decide)
theorem sh_76 {S : Shp} (hS : KC S) : S[76]? = some (10, 15, [0, 0, 0, 0, 0, 78, 79, 80, 81, 82, 83, 84, 85, 86, 87]) := hS 76 (by decide) (by decide)
theorem sh_77 {S : Shp} (hS : KC S) : S[77]? = some (0, 8, []) := hS 77 (by decide) (by decide)
theorem sh_78 {S : Shp} (hS : KC S) : S[78]? = some (0, 48, []) := hS 78 (by decide) (by decide)
theorem sh_79 {S : Shp} (hS : KC S) : S[79]? = some (0, 8, []) := hS 79 (by decide) (by decide)
theorem sh_80 {S : Shp} (hS : KC S) : S[80]? = some (0, 8, []) := hS 80 (by decide) (by decide)
theorem sh_81 {S : Shp} (hS : KC S) : S[81]? = some (0, 8, []) := hS 81 (by decide) (by decide)
theorem sh_82 {S : Shp} (hS : KC S) : S[82]? = some (0, 8, []) := hS 82 (by decide) (by decide)
theorem sh_83 {S : Shp} (hS : KC S) : S[83]? = some (0, 64, []) := hS 83 (by decide) (by decide)
theorem sh_84 {S : Shp} (hS : KC S) : S[84]? = some (0, 26, []) := hS 84 (by decide) (by decide)
theorem sh_85 {S : Shp} (hS : KC S) : S[85]? = some (0, 26, []) := hS 85 (by decide) (by decide)
theorem sh_86 {S : Shp} (hS : KC S) : S[86]? = some (0, 26, []) := hS 86 (by decide) (by decide)
theorem sh_87 {S : Shp} (hS : KC S) : S[87]? = some (10, 15, [0, 0, 0, 0, 0, 89, 90, 91, 92, 93, 94, 95, 96, 97, 98]) := hS 87 (by decide) (by decide)
theorem sh_88 {S : Shp} (hS : KC S) : S[88]? = some (0, 8, []) := hS 88 (by decide) (by decide)
theorem sh_89 {S : Shp} (hS : KC S) : S[89]? = some (0, 48, []) := hS 89 (by decide) (by decide)
theorem sh_90 {S : Shp} (hS : KC S) : S[90]? = some (0, 8, []) := hS 90 (by decide) (by decide)
theorem sh_91 {S : Shp} (hS : KC S) : S[91]? = some (0, 8, []) := hS 91 (by decide) (by decide)
theorem sh_92 {S : Shp} (hS : KC S) : S[92]? = some (0, 8, []) := hS 92 (by decide) (by decide)
theorem sh_93 {S : Shp} (hS : KC S) : S[93]? = some (0, 8, []) := hS 93 (by decide) (by decide)
theorem sh_94 {S : Shp} (hS : KC S) : S[94]? = some (0, 64, []) := hS 94 (by decide) (by decide)
theorem sh_95 {S : Shp} (hS : KC S) : S[95]? = some (0, 26, []) := hS 95 (by decide) (by decide)
theorem sh_96 {S : Shp} (hS : KC S) : S[96]? = some (0, 26, []) := hS 96 (by decide) (by decide)
theorem sh_97 {S : Shp} (hS : KC S) : S[97]? = some (0, 26, []) := hS 97 (by decide) (by decide)
theorem sh_98 {S : Shp} (hS : KC S) : S[98]? = some (10, 15, [0, 0, 0, 0, 0, 100, 101, 102, 103, 104, 105, 106, 107, 108, 109]) := hS 98 (by decide) (by decide)
theorem sh_99 {S : Shp} (hS : KC S) : S[99]? = some (0, 8, []) := hS 99 (by decide) (by decide)
theorem sh_100 {S : Shp} (hS : KC S) : S[100]? = some (0, 48, []) := hS 100 (by decide) (by decide)
theorem sh_101 {S : Shp} (hS : KC S) : S[101]? = some (0, 8, []) := hS 101 (by decide) (by decide)
theorem sh_102 {S : Shp} (hS : KC S) : S[102]? = some (0, 8, []) := hS 102 (by decide) (by decide)
theorem sh_103 {S : Shp} (hS : KC S) : S[103]? = some (0, 8, []) := hS 103 (by decide) (by decide)
theorem sh_104 {S : Shp} (hS : KC S) : S[104]? = some (0, 8, []) := hS 104 (by decide) (by decide)
theorem sh_105 {S : Shp} (hS : KC S) : S[105]? = some (0, 64, []) := hS 105 (by decide) (by decide)
theorem sh_106 {S : Shp} (hS : KC S) : S[106]? = some (0, 26, []) := hS 106 (by decide) (by decide)
theorem sh_107 {S : Shp} (hS : KC S) : S[107]? = some (0, 26, []) := hS 107 (by decide) (by decide)
theorem sh_108 {S : Shp} (hS : KC S) : S[108]? = some (0, 26, []) := hS 108 (by decide) (by decide)
theorem sh_109 {S : Shp} (hS : KC S) : S[109]? = some (10, 15, [0, 0, 0, 0, 0, 111, 112, 113, 114, 115, 116, 117, 118, 119, 120]) := hS 109 (by decide) (by decide)
theorem sh_110 {S : Shp} (hS : KC S) : S[110]? = some (0, 8, []) := hS 110 (by decide) (by decide)
theorem sh_111 {S : Shp} (hS : KC S) : S[111]? = some (0, 48, []) := hS 111 (by decide) (by decide)
theorem sh_112 {S : Shp} (hS : KC S) : S[112]? = some (0, 8, []) := hS 112 (by decide) (by decide)
theorem sh_113 {S : Shp} (hS : KC S) : S[113]? = some (0, 8, []) := hS 113 (by decide) (by decide)
theorem sh_114 {S : Shp} (hS : KC S) : S[114]? = some (0, 8, []) := hS 114 (by decide) (by decide)
theorem sh_115 {S : Shp} (hS : KC S) : S[115]? = some (0, 8, []) := hS 115 (by decide) (by decide)
theorem sh_116 {S : Shp} (hS : KC S) : S[116]? = some (0, 64, []) := hS 116 (by decide) (by decide)
theorem sh_117 {S : Shp} (hS : KC S) : S[117]? = some (0, 26, []) := hS 117 (by decide) (by decide)
theorem sh_118 {S : Shp} (hS : KC S) : S[118]? = some (0, 26, []) := hS 118 (by decide) (by decide)
theorem sh_119 {S : Shp} (hS : KC S) : S[119]? = some (0, 26, []) := hS 119 (by decide) (by decide)
theorem sh_120 {S : Shp} (hS : KC S) : S[120]? = some (7, 2, [122, 0]) := hS 120 (by decide) (by decide)
theorem sh_121 {S : Shp} (hS : KC S) : S[121]? = some (2, 2, []) := hS 121 (by decide) (by decide)
theorem sh_122 {S : Shp} (hS : KC S) : S[122]? = some (10, 15, [0, 0, 0, 0, 0, 124, 125, 126, 127, 128, 129, 130, 131, 132, 133]) := hS 122 (by decide) (by decide)
theorem sh_123 {S : Shp} (hS : KC S) : S[123]? = some (0, 8, []) := hS 123 (by decide) (by decide)
theorem sh_124 {S : Shp} (hS : KC S) : S[124]? = some (0, 48, []) := hS 124 (by decide) (by decide)
theorem sh_125 {S : Shp} (hS : KC S) : S[125]? = some (0, 8, []) := hS 125 (by decide) (by decide)
theorem sh_126 {S : Shp} (hS : KC S) : S[126]? = some (0, 8, []) := hS 126 (by decide) (by decide)
theorem sh_127 {S : Shp} (hS : KC S) : S[127]? = some (0, 8, []) := hS 127 (by decide) (by decide)
theorem sh_128 {S : Shp} (hS : KC S) : S[128]? = some (0, 8, []) := hS 128 (by decide) (by decide)
theorem sh_129 {S : Shp} (hS : KC S) : S[129]? = some (0, 64, []) := hS 129 (by decide) (by decide)
theorem sh_130 {S : Shp} (hS : KC S) : S[130]? = some (0, 26, []) := hS 130 (by decide) (by decide)
theorem sh_131 {S : Shp} (hS : KC S) : S[131]? = some (0, 26, []) := hS 131 (by decide) (by decide)
theorem sh_132 {S : Shp} (hS : KC S) : S[132]? = some (0, 26, []) := hS 132 (by decide) (by decide)
theorem sh_133 {S : Shp} (hS : KC S) : S[133]? = some (10, 15, [0, 0, 0, 0, 0, 135, 136, 137, 138, 139, 140, 141, 142, 143, 144]) := hS 133 (by decide) (by decide)
theorem sh_134 {S : Shp} (hS : KC S) : S[134]? = some (0, 8, []) := hS 134 (by decide) (by decide)
theorem sh_135 {S : Shp} (hS : KC S) : S[135]? = some (0, 48, []) := hS 135 (by decide) (by decide)
theorem sh_136 {S : Shp} (hS : KC S) : S[136]? = some (0, 8, []) := hS 136 (by decide) (by decide)
theorem sh_137 {S : Shp} (hS : KC S) : S[137]? = some (0, 8, []) := hS 137 (by decide) (by decide)
theorem sh_138 {S : Shp} (hS : KC S) : S[138]? = some (0, 8, []) := hS 138 (by decide) (by decide)
theorem sh_139 {S : Shp} (hS : KC S) : S[139]? = some (0, 8, []) := hS 139 (by decide) (by decide)
theorem sh_140 {S : Shp} (hS : KC S) : S[140]? = some (0, 64, []) := hS 140 (by decide) (by decide)
theorem sh_141 {S : Shp} (hS : KC S) : S[141]? = some (0, 26, []) := hS 141 (by decide) (by decide)
theorem sh_142 {S : Shp} (hS : KC S) : S[142]? = some (0, 26, []) := hS 142 (by decide) (by decide)
theorem sh_143 {S : Shp} (hS : KC S) : S[143]? = some (0, 26, []) := hS 143 (by decide) (by decide)
theorem sh_144 {S : Shp} (hS : KC S) : S[144]? = some (5, 2, [146, 147]) := hS 144 (by decide) (by decide)
theorem sh_145 {S : Shp} (hS : KC S) : S[145]? = some (0, 8, []) := hS 145 (by decide) (by decide)
theorem sh_146 {S : Shp} (hS : KC S) : S[146]? = some (10, 15, [0, 0, 0, 0, 0, 148, 149, 150, 151, 152, 153, 154, 155, 156, 157]) := hS 146 (by decide) (by decide)
theorem sh_147 {S : Shp} (hS : KC S) : S[147]? = some (0, 8, []) := hS 147 (by decide) (by decide)
theorem sh_148 {S : Shp} (hS : KC S) : S[148]? = some (0, 48, []) := hS 148 (by decide) (by decide)
theorem sh_149 {S : Shp} (hS : KC S) : S[149]? = some (0, 8, []) := hS 149 (by decide) (by decide)
theorem sh_150 {S : Shp} (hS : KC S) : S[150]? = some (0, 8, []) := hS 150 (by decide) (by decide)
theorem sh_151 {S : Shp} (hS : KC S) : S[151]? = some (0, 8, []) := hS 151 (by decide) (by decide)
theorem sh_152 {S : Shp} (hS : KC S) : S[152]? = some (0, 8, []) := hS 152 (by decide) (by decide)
theorem sh_153 {S : Shp} (hS : KC S) : S[153]? = some (0, 64, []) := hS 153 (by decide) (by decide)
theorem sh_154 {S : Shp} (hS : KC S) : S[154]? = some (0, 26, []) := hS 154 (by decide) (by decide)
theorem sh_155 {S : Shp} (hS : KC S) : S[155]? = some (0, 26, []) := hS 155 (by decide) (by decide)
theorem sh_156 {S : Shp} (hS : KC S) : S[156]? = some (0, 26, []) := hS 156 (by decide) (by decide)
theorem sh_157 {S : Shp} (hS : KC S) : S[157]? = some (6, 2, [159, 160]) := hS 157 (by decide) (by decide)
theorem sh_158 {S : Shp} (hS : KC S) : S[158]? = some (0, 8, []) := hS 158 (by decide) (by decide)
theorem sh_159 {S : Shp} (hS : KC S) : S[159]? = some (0, 256, []) := hS 159 (by decide) (by decide)
theorem sh_160 {S : Shp} (hS : KC S) : S[160]? = some (9, 4, [162, 163, 164, 0]) := hS 160 (by decide) (by decide)
theorem sh_161 {S : Shp} (hS : KC S) : S[161]? = some (0, 2048, []) := hS 161 (by decide) (by decide)
theorem sh_162 {S : Shp} (hS : KC S) : S[162]? = some (0, 2048, []) := hS 162 (by decide) (by decide)
theorem sh_163 {S : Shp} (hS : KC S) : S[163]? = some (0, 8, []) := hS 163 (by decide) (by decide)
theorem sh_164 {S : Shp} (hS : KC S) : S[164]? = some (3, 3, [166, 167, 168]) := hS 164 (by decide) (by decide)
theorem sh_165 {S : Shp} (hS : KC S) : S[165]? = some (0, 8, []) := hS 165 (by decide) (by decide)
theorem sh_166 {S : Shp} (hS : KC S) : S[166]? = some (0, 256, []) := hS 166 (by decide) (by decide)
theorem sh_167 {S : Shp} (hS : KC S) : S[167]? = some (0, 256, []) := hS 167 (by decide) (by decide)
theorem sh_168 {S : Shp} (hS : KC S) : S[168]? = some (4, 3, [170, 171, 0]) := hS 168 (by decide) (by decide)
theorem sh_169 {S : Shp} (hS : KC S) : S[169]? = some (0, 8, []) := hS 169 (by decide) (by decide)
theorem sh_170 {S : Shp} (hS : KC S) : S[170]? = some (0, 8, []) := hS 170 (by decide) (by decide)
theorem sh_171 {S : Shp} (hS : KC S) : S[171]? = some (0, 6, []) := hS 171 (by decide) (by decide)
theorem sh_172 {S : Shp} (hS : KM S) : S[172]? = some (12, 25, [0, 174, 0, 175, 176, 177, 178, 179, 180, 181, 0, 0, 0, 182, 0, 183, 184, 185, 186, 187, 0, 188, 189, 0, 0]) := hS 172 (by decide) (by decide)
theorem sh_173 {S : Shp} (hS : KM S) : S[173]? = some (1, 200, []) := hS 173 (by decide) (by decide)
theorem sh_174 {S : Shp} (hS : KM S) : S[174]? = some (0, 12, []) := hS 174 (by decide) (by decide)
theorem sh_175 {S : Shp} (hS : KM S) : S[175]? = some (0, 16, []) := hS 175 (by decide) (by decide)
theorem sh_176 {S : Shp} (hS : KM S) : S[176]? = some (0, 56, []) := hS 176 (by decide) (by decide)
theorem sh_177 {S : Shp} (hS : KM S) : S[177]? = some (0, 8, []) := hS 177 (by decide) (by decide)
theorem sh_178 {S : Shp} (hS : KM S) : S[178]? = some (0, 26, []) := hS 178 (by decide) (by decide)
theorem sh_179 {S : Shp} (hS : KM S) : S[179]? = some (0, 24, []) := hS 179 (by decide) (by decide)
theorem sh_180 {S : Shp} (hS : KM S) : S[180]? = some (0, 2040, []) := hS 180 (by decide) (by decide)
theorem sh_181 {S : Shp} (hS : KM S) : S[181]? = some (0, 6, []) := hS 181 (by decide) (by decide)
theorem sh_182 {S : Shp} (hS : KM S) : S[182]? = some (0, 16, []) := hS 182 (by decide) (by decide)
theorem sh_183 {S : Shp} (hS : KM S) : S[183]? = some (0, 8, []) := hS 183 (by decide) (by decide)
theorem sh_184 {S : Shp} (hS : KM S) : S[184]? = some (0, 8, []) := hS 184 (by decide) (by decide)
theorem sh_185 {S : Shp} (hS : KM S) : S[185]? = some (0, 8, []) := hS 185 (by decide) (by decide)
theorem sh_186 {S : Shp} (hS : KM S) : S[186]? = some (0, 256, []) := hS 186 (by decide) (by decide)
theorem sh_187 {S : Shp} (hS : KM S) : S[187]? = some (0, 2, []) := hS 187 (by decide) (by decide)
theorem sh_188 {S : Shp} (hS : KM S) : S[188]? = some (0, 6, []) := hS 188 (by decide) (by decide)
theorem tw_4 : ∀ t, t ∈ bx_tw → 4 ≤ t ∧ t + 10 < 172 := by decide
theorem tz_0 : ∀ t, t ∈ bx_tw → bx_tab[t]? = some (10, 15, [0, 0, 0, 0, 0, t + 2, t + 3, t + 4, t + 5, t + 6, t + 7, t + 8, t + 9, t + 10, t + 11]) := by decide
theorem tw_o {S : Shp} {t : Nat} (hS : KC S) (ht : t ∈ bx_tw) : S[t]? = some (10, 15, [0, 0, 0, 0, 0, t + 2, t + 3, t + 4, t + 5, t + 6, t + 7, t + 8, t + 9, t + 10, t + 11]) := by
  have h := tw_4 t ht
  rw [hS _ (by omega) (by omega)]
  exact tz_0 t ht
theorem tz_1 : ∀ t, t ∈ bx_tw → bx_tab[t + 1]? = some (0, 8, []) := by decide
theorem tw_a1 {S : Shp} {t : Nat} (hS : KC S) (ht : t ∈ bx_tw) : S[t + 1]? = some (0, 8, []) := by
  have h := tw_4 t ht
  rw [hS _ (by omega) (by omega)]
  exact tz_1 t ht
theorem tz_2 : ∀ t, t ∈ bx_tw → bx_tab[t + 2]? = some (0, 48, []) := by decide
theorem tw_a2 {S : Shp} {t : Nat} (hS : KC S) (ht : t ∈ bx_tw) : S[t + 2]? = some (0, 48, []) := by
  have h := tw_4 t ht
  rw [hS _ (by omega) (by omega)]
  exact tz_2 t ht
theorem tz_3 : ∀ t, t ∈ bx_tw → bx_tab[t + 3]? = some (0, 8, []) := by decide
theorem tw_a3 {S : Shp} {t : Nat} (hS : KC S) (ht : t ∈ bx_tw) : S[t + 3]? = some (0, 8, []) := by
  have h := tw_4 t ht
  rw [hS _ (by omega) (by omega)]
  exact tz_3 t ht
theorem tz_4 : ∀ t, t ∈ bx_tw → bx_tab[t + 4]? = some (0, 8, []) := by decide
theorem tw_a4 {S : Shp} {t : Nat} (hS : KC S) (ht : t ∈ bx_tw) : S[t + 4]? = some (0, 8, []) := by
  have h := tw_4 t ht
  rw [hS _ (by omega) (by omega)]
  exact tz_4 t ht
theorem tz_5 : ∀ t, t ∈ bx_tw → bx_tab[t + 5]? = some (0, 8, []) := by decide
theorem tw_a5 {S : Shp} {t : Nat} (hS : KC S) (ht : t ∈ bx_tw) : S[t + 5]? = some (0, 8, []) := by
  have h := tw_4 t ht
  rw [hS _ (by omega) (by omega)]
  exact tz_5 t ht
theorem tz_6 : ∀ t, t ∈ bx_tw → bx_tab[t + 6]? = some (0, 8, []) := by decide
theorem tw_a6 {S : Shp} {t : Nat} (hS : KC S) (ht : t ∈ bx_tw) : S[t + 6]? = some (0, 8, []) := by
  have h := tw_4 t ht
  rw [hS _ (by omega) (by omega)]
  exact tz_6 t ht
theorem tz_7 : ∀ t, t ∈ bx_tw → bx_tab[t + 7]? = some (0, 64, []) := by decide
theorem tw_a7 {S : Shp} {t : Nat} (hS : KC S) (ht : t ∈ bx_tw) : S[t + 7]? = some (0, 64, []) := by
  have h := tw_4 t ht
  rw [hS _ (by omega) (by omega)]
  exact tz_7 t ht
theorem tz_8 : ∀ t, t ∈ bx_tw → bx_tab[t + 8]? = some (0, 26, []) := by decide
theorem tw_a8 {S : Shp} {t : Nat} (hS : KC S) (ht : t ∈ bx_tw) : S[t + 8]? = some (0, 26, []) := by
  have h := tw_4 t ht
  rw [hS _ (by omega) (by omega)]
  exact tz_8 t ht
theorem tz_9 : ∀ t, t ∈ bx_tw → bx_tab[t + 9]? = some (0, 26, []) := by decide
theorem tw_a9 {S : Shp} {t : Nat} (hS : KC S) (ht : t ∈ bx_tw) : S[t + 9]? = some (0, 26, []) := by
  have h := tw_4 t ht
  rw [hS _ (by omega) (by omega)]
  exact tz_9 t ht
theorem tz_10 : ∀ t, t ∈ bx_tw → bx_tab[t + 10]? = some (0, 26, []) := by decide
theorem tw_a10 {S : Shp} {t : Nat} (hS : KC S) (ht : t ∈ bx_tw) : S[t + 10]? = some (0, 26, []) := by
  have h := tw_4 t ht
  rw [hS _ (by omega) (by omega)]
  exact tz_10 t ht
section RowsR
variable {m i : Nat} {L : Lcl} {st : List AV} {S : Shp} {M : Mem} {Q : Res → Prop} {code : List Ins} {nL : Nat} {a : Nat} {c : Int} {l : List Nat}
theorem e_ldR {q : Nat} (hP : PR m = (code, nL)) (hi : code[i]? = some (1, a, 1, c, l)) (hv : L[a]? = some (some (.inr (.inr q)))) (hq : ¬ (q = 0 ∨ q = 4)) (h : En m (i + 1) L (.inr (.inr q) :: st) S M Q) : En m i L st S M Q := e_ld hP hi (by rw [hv]; exact if_neg hq) h
theorem e_stR {q : Nat} {L' : Lcl} (hP : PR m = (code, nL)) (hi : code[i]? = some (2, a, 1, c, l)) (hq : ¬ (q = 0 ∨ q = 4)) (ha : a < L.length) (hL : bi_st1 L a (.inr (.inr q)) = L') (h : En m (i + 1) L' st S M Q) : En m i L (.inr (.inr q) :: st) S M Q := e_st hP hi (by simp only [bi_store]; rw [if_neg hq, if_pos ha, hL]) h
end RowsR
theorem mm_o : ∀ u, u = 30 ∨ u = 120 → ∀ {S : Shp}, KC S → S[u]? = some (7, 2, [u + 2, 0]) := by
  rintro u (rfl | rfl) S hS
  · exact sh_30 hS
  · exact sh_120 hS
def mm_n (u : Nat) : Nat := if u = 30 then 8 else 2
theorem mm_a : ∀ u, u = 30 ∨ u = 120 → ∀ {S : Shp}, KC S → S[u + 1]? = some (2, mm_n u, []) := by
  rintro u (rfl | rfl) S hS
  · exact sh_31 hS
  · exact sh_121 hS
end
section
/-! REGIONS of X7: by wip/gen/reggen.py -/
theorem r_X7_clear_0 {S : Shp} {M : Mem} {Q : Res → Prop} (hS : KC S) {t : Nat} (ht : t ∈ bx_tw) (h : En 64 17 [some (.inr (.inr (t + 1))), some (.inl (0 : Int))] [] S (up2 (up2 (up2 (up2 (up2 M t 0 (0 : Int)) t 1 (20 : Int)) t 2 (3 : Int)) t 3 (1 : Int)) t 4 (1065233 : Int)) Q) : Ca 64 [.inr (.inr (t + 1))] S M Q := by
  have hP : PR 64 = (bc_64, 2) := rfl
  refine ⟨Nat.le_of_ble_eq_true rfl, ?_⟩
  show En 64 0 [some (.inr (.inr (t + 1))), none] [] S M Q
  refine e_ldR hP rfl rfl (by have := tw_4 _ ht; omega) ?_
  refine e_c hP rfl ?_
  refine e_pI (a := 7) t (tw_o hS ht) (by have := tw_4 _ ht; omega) hP rfl (by decide) ?_
  refine e_ldR hP rfl rfl (by have := tw_4 _ ht; omega) ?_
  refine e_c hP rfl ?_
  refine e_pI (a := 7) t (tw_o hS ht) (by have := tw_4 _ ht; omega) hP rfl (by decide) ?_
  refine e_ldR hP rfl rfl (by have := tw_4 _ ht; omega) ?_
  refine e_c hP rfl ?_
  refine e_pI (a := 7) t (tw_o hS ht) (by have := tw_4 _ ht; omega) hP rfl (by decide) ?_
  refine e_ldR hP rfl rfl (by have := tw_4 _ ht; omega) ?_
  refine e_c hP rfl ?_
  refine e_pI (a := 7) t (tw_o hS ht) (by have := tw_4 _ ht; omega) hP rfl (by decide) ?_
  refine e_ldR hP rfl rfl (by have := tw_4 _ ht; omega) ?_
  refine e_c hP rfl ?_
  refine e_pI (a := 7) t (tw_o hS ht) (by have := tw_4 _ ht; omega) hP rfl (by decide) ?_
  refine e_c hP rfl ?_
  refine e_st (L' := [some (.inr (.inr (t + 1))), some (.inl (0 : Int))]) hP rfl rfl ?_
  exact h
theorem r_X7_clear_17 {S : Shp} {M : Mem} {Q : Res → Prop} (hS : KC S) {t : Nat} (ht : t ∈ bx_tw) {x1 : Int} (h : (((8 : Int) ≤ x1 → En 64 34 [some (.inr (.inr (t + 1))), some (.inl (0 : Int))] [] S M Q) ∧ (x1 < (8 : Int) → (0 ≤ x1 ∧ x1 < 8) ∧ (0 ≤ x1 ∧ x1 < 8) ∧ (inR (x1 + 1)) ∧ En 64 17 [some (.inr (.inr (t + 1))), some (.inl (x1 + 1))] [] S (up2 (up2 M (t + 5) x1.toNat (-4 : Int)) (t + 6) x1.toNat (0 : Int)) Q))) : En 64 17 [some (.inr (.inr (t + 1))), some (.inl x1)] [] S M Q := by
  have hP : PR 64 = (bc_64, 2) := rfl
  refine e_ld hP rfl rfl ?_
  refine e_c hP rfl ?_
  refine e_cge hP rfl (fun hc => ?_) (fun hc => ?_)
  · have h := h.1 hc
    refine e_c hP rfl ?_
    refine e_st (L' := [some (.inr (.inr (t + 1))), some (.inl (0 : Int))]) hP rfl rfl ?_
    exact h
  · have h := h.2 hc
    refine e_ldR hP rfl rfl (by have := tw_4 _ ht; omega) ?_
    refine e_gR (a := 7) (w := t + 6) t (tw_o hS ht) hP rfl (by decide) rfl ?_
    refine e_ld hP rfl rfl ?_
    refine e_c hP rfl ?_
    obtain ⟨hs1, h⟩ := h
    refine e_as (t + 5) (tw_a5 hS ht) (by have := tw_4 _ ht; omega) hP rfl hs1 ?_
    refine e_ldR hP rfl rfl (by have := tw_4 _ ht; omega) ?_
    refine e_gR (a := 7) (w := t + 7) t (tw_o hS ht) hP rfl (by decide) rfl ?_
    refine e_ld hP rfl rfl ?_
    refine e_c hP rfl ?_
    obtain ⟨hs2, h⟩ := h
    refine e_as (t + 6) (tw_a6 hS ht) (by have := tw_4 _ ht; omega) hP rfl hs2 ?_
    obtain ⟨hs3, h⟩ := h
    refine e_inc (L' := [some (.inr (.inr (t + 1))), some (.inl (x1 + 1))]) hP rfl rfl hs3 rfl ?_
    refine e_go hP rfl ?_
    exact h
theorem r_X7_clear_34 {S : Shp} {M : Mem} {Q : Res → Prop} (hS : KC S) {t : Nat} (ht : t ∈ bx_tw) {x1 : Int} (h : (((64 : Int) ≤ x1 → En 64 46 [some (.inr (.inr (t + 1))), some (.inl (0 : Int))] [] S M Q) ∧ (x1 < (64 : Int) → (0 ≤ x1 ∧ x1 < 64) ∧ (inR (x1 + 1)) ∧ En 64 34 [some (.inr (.inr (t + 1))), some (.inl (x1 + 1))] [] S (up2 M (t + 7) x1.toNat (0 : Int)) Q))) : En 64 34 [some (.inr (.inr (t + 1))), some (.inl x1)] [] S M Q := by
  have hP : PR 64 = (bc_64, 2) := rfl
  refine e_ld hP rfl rfl ?_
  refine e_c hP rfl ?_
  refine e_cge hP rfl (fun hc => ?_) (fun hc => ?_)
  · have h := h.1 hc
    refine e_c hP rfl ?_
    refine e_st (L' := [some (.inr (.inr (t + 1))), some (.inl (0 : Int))]) hP rfl rfl ?_
    exact h
  · have h := h.2 hc
    refine e_ldR hP rfl rfl (by have := tw_4 _ ht; omega) ?_
    refine e_gR (a := 7) (w := t + 8) t (tw_o hS ht) hP rfl (by decide) rfl ?_
    refine e_ld hP rfl rfl ?_
    refine e_c hP rfl ?_
    obtain ⟨hs1, h⟩ := h
    refine e_as (t + 7) (tw_a7 hS ht) (by have := tw_4 _ ht; omega) hP rfl hs1 ?_
    obtain ⟨hs2, h⟩ := h
    refine e_inc (L' := [some (.inr (.inr (t + 1))), some (.inl (x1 + 1))]) hP rfl rfl hs2 rfl ?_
    refine e_go hP rfl ?_
    exact h
theorem r_X7_clear_46 {S : Shp} {M : Mem} {Q : Res → Prop} (hS : KC S) {t : Nat} (ht : t ∈ bx_tw) {x1 : Int} (h : (((26 : Int) ≤ x1 → Q (S, M, none)) ∧ (x1 < (26 : Int) → (0 ≤ x1 ∧ x1 < 26) ∧ (0 ≤ x1 ∧ x1 < 26) ∧ (0 ≤ x1 ∧ x1 < 26) ∧ (inR (x1 + 1)) ∧ En 64 46 [some (.inr (.inr (t + 1))), some (.inl (x1 + 1))] [] S (up2 (up2 (up2 M (t + 10) x1.toNat (0 : Int)) (t + 8) x1.toNat x1) (t + 9) x1.toNat x1) Q))) : En 64 46 [some (.inr (.inr (t + 1))), some (.inl x1)] [] S M Q := by
  have hP : PR 64 = (bc_64, 2) := rfl
  refine e_ld hP rfl rfl ?_
  refine e_c hP rfl ?_
  refine e_cge hP rfl (fun hc => ?_) (fun hc => ?_)
  · have h := h.1 hc
    exact e_retv hP rfl h
  · have h := h.2 hc
    refine e_ldR hP rfl rfl (by have := tw_4 _ ht; omega) ?_
    refine e_gR (a := 7) (w := t + 11) t (tw_o hS ht) hP rfl (by decide) rfl ?_
    refine e_ld hP rfl rfl ?_
    refine e_c hP rfl ?_
    obtain ⟨hs1, h⟩ := h
    refine e_as (t + 10) (tw_a10 hS ht) (by have := tw_4 _ ht; omega) hP rfl hs1 ?_
    refine e_ldR hP rfl rfl (by have := tw_4 _ ht; omega) ?_
    refine e_gR (a := 7) (w := t + 9) t (tw_o hS ht) hP rfl (by decide) rfl ?_
    refine e_ld hP rfl rfl ?_
    refine e_ld hP rfl rfl ?_
    obtain ⟨hs2, h⟩ := h
    refine e_as (t + 8) (tw_a8 hS ht) (by have := tw_4 _ ht; omega) hP rfl hs2 ?_
    refine e_ldR hP rfl rfl (by have := tw_4 _ ht; omega) ?_
    refine e_gR (a := 7) (w := t + 10) t (tw_o hS ht) hP rfl (by decide) rfl ?_
    refine e_ld hP rfl rfl ?_
    refine e_ld hP rfl rfl ?_
    obtain ⟨hs3, h⟩ := h
    refine e_as (t + 9) (tw_a9 hS ht) (by have := tw_4 _ ht; omega) hP rfl hs3 ?_
    obtain ⟨hs4, h⟩ := h
    refine e_inc (L' := [some (.inr (.inr (t + 1))), some (.inl (x1 + 1))]) hP rfl rfl hs4 rfl ?_
    refine e_go hP rfl ?_
    exact h
theorem r_X7_copyFrom_0 {S : Shp} {M : Mem} {Q : Res → Prop} (hS : KC S) {t : Nat} (ht : t ∈ bx_tw) {t2 : Nat} (ht2 : t2 ∈ bx_tw) (h : Q (S, bi_cpy (bi_cpy (bi_cpy (bi_cpy (bi_cpy (bi_cpy (bi_cpy (bi_cpy (bi_cpy (bi_cpy (up2 (up2 (up2 (up2 (up2 M t 0 (M t2 0)) t 1 ((up2 M t 0 (M t2 0)) t2 1)) t 2 ((up2 (up2 M t 0 (M t2 0)) t 1 ((up2 M t 0 (M t2 0)) t2 1)) t2 2)) t 3 ((up2 (up2 (up2 M t 0 (M t2 0)) t 1 ((up2 M t 0 (M t2 0)) t2 1)) t 2 ((up2 (up2 M t 0 (M t2 0)) t 1 ((up2 M t 0 (M t2 0)) t2 1)) t2 2)) t2 3)) t 4 ((up2 (up2 (up2 (up2 M t 0 (M t2 0)) t 1 ((up2 M t 0 (M t2 0)) t2 1)) t 2 ((up2 (up2 M t 0 (M t2 0)) t 1 ((up2 M t 0 (M t2 0)) t2 1)) t2 2)) t 3 ((up2 (up2 (up2 M t 0 (M t2 0)) t 1 ((up2 M t 0 (M t2 0)) t2 1)) t 2 ((up2 (up2 M t 0 (M t2 0)) t 1 ((up2 M t 0 (M t2 0)) t2 1)) t2 2)) t2 3)) t2 4)) (t2 + 1) (0 : Int).toNat (t + 1) (0 : Int).toNat (8 : Int).toNat) (t2 + 2) (0 : Int).toNat (t + 2) (0 : Int).toNat (48 : Int).toNat) (t2 + 3) (0 : Int).toNat (t + 3) (0 : Int).toNat (8 : Int).toNat) (t2 + 4) (0 : Int).toNat (t + 4) (0 : Int).toNat (8 : Int).toNat) (t2 + 5) (0 : Int).toNat (t + 5) (0 : Int).toNat (8 : Int).toNat) (t2 + 6) (0 : Int).toNat (t + 6) (0 : Int).toNat (8 : Int).toNat) (t2 + 7) (0 : Int).toNat (t + 7) (0 : Int).toNat (64 : Int).toNat) (t2 + 8) (0 : Int).toNat (t + 8) (0 : Int).toNat (26 : Int).toNat) (t2 + 9) (0 : Int).toNat (t + 9) (0 : Int).toNat (26 : Int).toNat) (t2 + 10) (0 : Int).toNat (t + 10) (0 : Int).toNat (26 : Int).toNat, none)) : Ca 65 [.inr (.inr (t + 1)), .inr (.inr (t2 + 1))] S M Q := by
  have hP : PR 65 = (bc_65, 2) := rfl
  refine ⟨Nat.le_of_ble_eq_true rfl, ?_⟩
  show En 65 0 [some (.inr (.inr (t + 1))), some (.inr (.inr (t2 + 1)))] [] S M Q
  refine e_ldR hP rfl rfl (by have := tw_4 _ ht; omega) ?_
  refine e_ldR hP rfl rfl (by have := tw_4 _ ht2; omega) ?_
  refine e_gI (a := 7) t2 (tw_o hS ht2) hP rfl (by decide) ?_
  refine e_pI (a := 7) t (tw_o hS ht) (by have := tw_4 _ ht; omega) hP rfl (by decide) ?_
  refine e_ldR hP rfl rfl (by have := tw_4 _ ht; omega) ?_
  refine e_ldR hP rfl rfl (by have := tw_4 _ ht2; omega) ?_
  refine e_gI (a := 7) t2 (tw_o hS ht2) hP rfl (by decide) ?_
  refine e_pI (a := 7) t (tw_o hS ht) (by have := tw_4 _ ht; omega) hP rfl (by decide) ?_
  refine e_ldR hP rfl rfl (by have := tw_4 _ ht; omega) ?_
  refine e_ldR hP rfl rfl (by have := tw_4 _ ht2; omega) ?_
  refine e_gI (a := 7) t2 (tw_o hS ht2) hP rfl (by decide) ?_
  refine e_pI (a := 7) t (tw_o hS ht) (by have := tw_4 _ ht; omega) hP rfl (by decide) ?_
  refine e_ldR hP rfl rfl (by have := tw_4 _ ht; omega) ?_
  refine e_ldR hP rfl rfl (by have := tw_4 _ ht2; omega) ?_
  refine e_gI (a := 7) t2 (tw_o hS ht2) hP rfl (by decide) ?_
  refine e_pI (a := 7) t (tw_o hS ht) (by have := tw_4 _ ht; omega) hP rfl (by decide) ?_
  refine e_ldR hP rfl rfl (by have := tw_4 _ ht; omega) ?_
  refine e_ldR hP rfl rfl (by have := tw_4 _ ht2; omega) ?_
  refine e_gI (a := 7) t2 (tw_o hS ht2) hP rfl (by decide) ?_
  refine e_pI (a := 7) t (tw_o hS ht) (by have := tw_4 _ ht; omega) hP rfl (by decide) ?_
  refine e_ldR hP rfl rfl (by have := tw_4 _ ht2; omega) ?_
  refine e_gR (a := 7) (w := t2 + 2) t2 (tw_o hS ht2) hP rfl (by decide) rfl ?_
  refine e_c hP rfl ?_
  refine e_ldR hP rfl rfl (by have := tw_4 _ ht; omega) ?_
  refine e_gR (a := 7) (w := t + 2) t (tw_o hS ht) hP rfl (by decide) rfl ?_
  refine e_c hP rfl ?_
  refine e_c hP rfl ?_
  refine e_copy (t2 + 1) (t + 1) (tw_a1 hS ht2) (tw_a1 hS ht) hP rfl ⟨by decide, by decide, by decide, by decide, by decide, (by have := tw_4 _ ht2; omega), (by have := tw_4 _ ht; omega), Nat.le_of_ble_eq_true rfl⟩ ?_
  refine e_ldR hP rfl rfl (by have := tw_4 _ ht2; omega) ?_
  refine e_gR (a := 7) (w := t2 + 3) t2 (tw_o hS ht2) hP rfl (by decide) rfl ?_
  refine e_c hP rfl ?_
  refine e_ldR hP rfl rfl (by have := tw_4 _ ht; omega) ?_
  refine e_gR (a := 7) (w := t + 3) t (tw_o hS ht) hP rfl (by decide) rfl ?_
  refine e_c hP rfl ?_
  refine e_c hP rfl ?_
  refine e_copy (t2 + 2) (t + 2) (tw_a2 hS ht2) (tw_a2 hS ht) hP rfl ⟨by decide, by decide, by decide, by decide, by decide, (by have := tw_4 _ ht2; omega), (by have := tw_4 _ ht; omega), Nat.le_of_ble_eq_true rfl⟩ ?_
  refine e_ldR hP rfl rfl (by have := tw_4 _ ht2; omega) ?_
  refine e_gR (a := 7) (w := t2 + 4) t2 (tw_o hS ht2) hP rfl (by decide) rfl ?_
  refine e_c hP rfl ?_
  refine e_ldR hP rfl rfl (by have := tw_4 _ ht; omega) ?_
  refine e_gR (a := 7) (w := t + 4) t (tw_o hS ht) hP rfl (by decide) rfl ?_
  refine e_c hP rfl ?_
  refine e_c hP rfl ?_
  refine e_copy (t2 + 3) (t + 3) (tw_a3 hS ht2) (tw_a3 hS ht) hP rfl ⟨by decide, by decide, by decide, by decide, by decide, (by have := tw_4 _ ht2; omega), (by have := tw_4 _ ht; omega), Nat.le_of_ble_eq_true rfl⟩ ?_
  refine e_ldR hP rfl rfl (by have := tw_4 _ ht2; omega) ?_
  refine e_gR (a := 7) (w := t2 + 5) t2 (tw_o hS ht2) hP rfl (by decide) rfl ?_
  refine e_c hP rfl ?_
  refine e_ldR hP rfl rfl (by have := tw_4 _ ht; omega) ?_
  refine e_gR (a := 7) (w := t + 5) t (tw_o hS ht) hP rfl (by decide) rfl ?_
  refine e_c hP rfl ?_
  refine e_c hP rfl ?_
  refine e_copy (t2 + 4) (t + 4) (tw_a4 hS ht2) (tw_a4 hS ht) hP rfl ⟨by decide, by decide, by decide, by decide, by decide, (by have := tw_4 _ ht2; omega), (by have := tw_4 _ ht; omega), Nat.le_of_ble_eq_true rfl⟩ ?_
  refine e_ldR hP rfl rfl (by have := tw_4 _ ht2; omega) ?_
  refine e_gR (a := 7) (w := t2 + 6) t2 (tw_o hS ht2) hP rfl (by decide) rfl ?_
  refine e_c hP rfl ?_
  refine e_ldR hP rfl rfl (by have := tw_4 _ ht; omega) ?_
  refine e_gR (a := 7) (w := t + 6) t (tw_o hS ht) hP rfl (by decide) rfl ?_
  refine e_c hP rfl ?_
  refine e_c hP rfl ?_
  refine e_copy (t2 + 5) (t + 5) (tw_a5 hS ht2) (tw_a5 hS ht) hP rfl ⟨by decide, by decide, by decide, by decide, by decide, (by have := tw_4 _ ht2; omega), (by have := tw_4 _ ht; omega), Nat.le_of_ble_eq_true rfl⟩ ?_
  refine e_ldR hP rfl rfl (by have := tw_4 _ ht2; omega) ?_
  refine e_gR (a := 7) (w := t2 + 7) t2 (tw_o hS ht2) hP rfl (by decide) rfl ?_
  refine e_c hP rfl ?_
  refine e_ldR hP rfl rfl (by have := tw_4 _ ht; omega) ?_
  refine e_gR (a := 7) (w := t + 7) t (tw_o hS ht) hP rfl (by decide) rfl ?_
  refine e_c hP rfl ?_
  refine e_c hP rfl ?_
  refine e_copy (t2 + 6) (t + 6) (tw_a6 hS ht2) (tw_a6 hS ht) hP rfl ⟨by decide, by decide, by decide, by decide, by decide, (by have := tw_4 _ ht2; omega), (by have := tw_4 _ ht; omega), Nat.le_of_ble_eq_true rfl⟩ ?_
  refine e_ldR hP rfl rfl (by have := tw_4 _ ht2; omega) ?_
  refine e_gR (a := 7) (w := t2 + 8) t2 (tw_o hS ht2) hP rfl (by decide) rfl ?_
  refine e_c hP rfl ?_
  refine e_ldR hP rfl rfl (by have := tw_4 _ ht; omega) ?_
  refine e_gR (a := 7) (w := t + 8) t (tw_o hS ht) hP rfl (by decide) rfl ?_
  refine e_c hP rfl ?_
  refine e_c hP rfl ?_
  refine e_copy (t2 + 7) (t + 7) (tw_a7 hS ht2) (tw_a7 hS ht) hP rfl ⟨by decide, by decide, by decide, by decide, by decide, (by have := tw_4 _ ht2; omega), (by have := tw_4 _ ht; omega), Nat.le_of_ble_eq_true rfl⟩ ?_
  refine e_ldR hP rfl rfl (by have := tw_4 _ ht2; omega) ?_
  refine e_gR (a := 7) (w := t2 + 9) t2 (tw_o hS ht2) hP rfl (by decide) rfl ?_
  refine e_c hP rfl ?_
  refine e_ldR hP rfl rfl (by have := tw_4 _ ht; omega) ?_
  refine e_gR (a := 7) (w := t + 9) t (tw_o hS ht) hP rfl (by decide) rfl ?_
  refine e_c hP rfl ?_
  refine e_c hP rfl ?_
  refine e_copy (t2 + 8) (t + 8) (tw_a8 hS ht2) (tw_a8 hS ht) hP rfl ⟨by decide, by decide, by decide, by decide, by decide, (by have := tw_4 _ ht2; omega), (by have := tw_4 _ ht; omega), Nat.le_of_ble_eq_true rfl⟩ ?_
  refine e_ldR hP rfl rfl (by have := tw_4 _ ht2; omega) ?_
  refine e_gR (a := 7) (w := t2 + 10) t2 (tw_o hS ht2) hP rfl (by decide) rfl ?_
  refine e_c hP rfl ?_
  refine e_ldR hP rfl rfl (by have := tw_4 _ ht; omega) ?_
  refine e_gR (a := 7) (w := t + 10) t (tw_o hS ht) hP rfl (by decide) rfl ?_
  refine e_c hP rfl ?_
  refine e_c hP rfl ?_
  refine e_copy (t2 + 9) (t + 9) (tw_a9 hS ht2) (tw_a9 hS ht) hP rfl ⟨by decide, by decide, by decide, by decide, by decide, (by have := tw_4 _ ht2; omega), (by have := tw_4 _ ht; omega), Nat.le_of_ble_eq_true rfl⟩ ?_
  refine e_ldR hP rfl rfl (by have := tw_4 _ ht2; omega) ?_
  refine e_gR (a := 7) (w := t2 + 11) t2 (tw_o hS ht2) hP rfl (by decide) rfl ?_
  refine e_c hP rfl ?_
  refine e_ldR hP rfl rfl (by have := tw_4 _ ht; omega) ?_
  refine e_gR (a := 7) (w := t + 11) t (tw_o hS ht) hP rfl (by decide) rfl ?_
  refine e_c hP rfl ?_
  refine e_c hP rfl ?_
  refine e_copy (t2 + 10) (t + 10) (tw_a10 hS ht2) (tw_a10 hS ht) hP rfl ⟨by decide, by decide, by decide, by decide, by decide, (by have := tw_4 _ ht2; omega), (by have := tw_4 _ ht; omega), Nat.le_of_ble_eq_true rfl⟩ ?_
  exact e_retv hP rfl h
theorem r_X7_settle_0 {S : Shp} {M : Mem} {Q : Res → Prop} (hS : KC S) {t : Nat} (ht : t ∈ bx_tw) {p2 p3 p4 : Int} (h : (((M t 0) < (8 : Int) → Ca 67 [.inr (.inr (t + 1)), .inl (M t 0), .inr (.inr 8), .inl p2] S M (fun r => ∃ M1 : Mem, r = (S, M1, none) ∧ (0 ≤ (M1 t 0) ∧ (M1 t 0) < 8) ∧ (0 ≤ ((up2 M1 (t + 3) (M1 t 0).toNat p3) t 0) ∧ ((up2 M1 (t + 3) (M1 t 0).toNat p3) t 0) < 8) ∧ (inR (((up2 (up2 M1 (t + 3) (M1 t 0).toNat p3) (t + 4) ((up2 M1 (t + 3) (M1 t 0).toNat p3) t 0).toNat p4) t 0) + (1 : Int))) ∧ Q (S, up2 (up2 (up2 M1 (t + 3) (M1 t 0).toNat p3) (t + 4) ((up2 M1 (t + 3) (M1 t 0).toNat p3) t 0).toNat p4) t 0 (((up2 (up2 M1 (t + 3) (M1 t 0).toNat p3) (t + 4) ((up2 M1 (t + 3) (M1 t 0).toNat p3) t 0).toNat p4) t 0) + (1 : Int)), some (.inl (1 : Int))))) ∧ ((8 : Int) ≤ (M t 0) → Q (S, M, some (.inl (0 : Int)))))) : Ca 66 [.inr (.inr (t + 1)), .inr (.inr 8), .inl p2, .inl p3, .inl p4] S M Q := by
  have hP : PR 66 = (bc_66, 5) := rfl
  refine ⟨Nat.le_of_ble_eq_true rfl, ?_⟩
  show En 66 0 [some (.inr (.inr (t + 1))), some (.inr (.inr 8)), some (.inl p2), some (.inl p3), some (.inl p4)] [] S M Q
  refine e_ldR hP rfl rfl (by have := tw_4 _ ht; omega) ?_
  refine e_gI (a := 7) t (tw_o hS ht) hP rfl (by decide) ?_
  refine e_c hP rfl ?_
  refine e_clt hP rfl (fun hc => ?_) (fun hc => ?_)
  · have h := h.1 hc
    refine e_ldR hP rfl rfl (by have := tw_4 _ ht; omega) ?_
    refine e_ldR hP rfl rfl (by have := tw_4 _ ht; omega) ?_
    refine e_gI (a := 7) t (tw_o hS ht) hP rfl (by decide) ?_
    refine e_ld hP rfl rfl ?_
    refine e_ld hP rfl rfl ?_
    refine e_call hP rfl rfl rfl (Nat.le_of_ble_eq_true rfl) (Nat.le_of_ble_eq_true rfl) (rcv0 (tw_o hS ht) (by have := tw_4 _ ht; omega)) ?_
    refine Ca.mono h (fun r hr => ?_)
    obtain ⟨M1, rfl, h⟩ := hr
    show En 66 12 [some (.inr (.inr (t + 1))), some (.inr (.inr 8)), some (.inl p2), some (.inl p3), some (.inl p4)] [] S M1 Q
    refine e_ldR hP rfl rfl (by have := tw_4 _ ht; omega) ?_
    refine e_gR (a := 7) (w := t + 4) t (tw_o hS ht) hP rfl (by decide) rfl ?_
    refine e_ldR hP rfl rfl (by have := tw_4 _ ht; omega) ?_
    refine e_gI (a := 7) t (tw_o hS ht) hP rfl (by decide) ?_
    refine e_ld hP rfl rfl ?_
    obtain ⟨hs2, h⟩ := h
    refine e_as (t + 3) (tw_a3 hS ht) (by have := tw_4 _ ht; omega) hP rfl hs2 ?_
    refine e_ldR hP rfl rfl (by have := tw_4 _ ht; omega) ?_
    refine e_gR (a := 7) (w := t + 5) t (tw_o hS ht) hP rfl (by decide) rfl ?_
    refine e_ldR hP rfl rfl (by have := tw_4 _ ht; omega) ?_
    refine e_gI (a := 7) t (tw_o hS ht) hP rfl (by decide) ?_
    refine e_ld hP rfl rfl ?_
    obtain ⟨hs3, h⟩ := h
    refine e_as (t + 4) (tw_a4 hS ht) (by have := tw_4 _ ht; omega) hP rfl hs3 ?_
    refine e_ldR hP rfl rfl (by have := tw_4 _ ht; omega) ?_
    refine e_dupR hP rfl ?_
    refine e_gI (a := 7) t (tw_o hS ht) hP rfl (by decide) ?_
    refine e_c hP rfl ?_
    obtain ⟨hs4, h⟩ := h
    refine e_add hP rfl hs4 ?_
    refine e_pI (a := 7) t (tw_o hS ht) (by have := tw_4 _ ht; omega) hP rfl (by decide) ?_
    refine e_c hP rfl ?_
    exact e_ret hP rfl rfl h
  · have h := h.2 hc
    refine e_c hP rfl ?_
    exact e_ret hP rfl rfl h
theorem r_X7_giveName_0 {S : Shp} {M : Mem} {Q : Res → Prop} (hS : KC S) {t : Nat} (ht : t ∈ bx_tw) {w : Nat} (hw : S[w]? = some (0, 6, [])) (h4w : 4 ≤ w) {p1 p3 : Int} (h : (0 ≤ p1 ∧ p1 < 8) ∧ En 67 7 [some (.inr (.inr (t + 1))), some (.inl p1), some (.inr (.inr (w + 1))), some (.inl p3), some (.inl (0 : Int))] [] S (up2 M (t + 1) p1.toNat p3) Q) : Ca 67 [.inr (.inr (t + 1)), .inl p1, .inr (.inr (w + 1)), .inl p3] S M Q := by
  have hP : PR 67 = (bc_67, 5) := rfl
  refine ⟨Nat.le_of_ble_eq_true rfl, ?_⟩
  show En 67 0 [some (.inr (.inr (t + 1))), some (.inl p1), some (.inr (.inr (w + 1))), some (.inl p3), none] [] S M Q
  refine e_ldR hP rfl rfl (by have := tw_4 _ ht; omega) ?_
  refine e_gR (a := 7) (w := t + 2) t (tw_o hS ht) hP rfl (by decide) rfl ?_
  refine e_ld hP rfl rfl ?_
  refine e_ld hP rfl rfl ?_
  obtain ⟨hs1, h⟩ := h
  refine e_as (t + 1) (tw_a1 hS ht) (by have := tw_4 _ ht; omega) hP rfl hs1 ?_
  refine e_c hP rfl ?_
  refine e_st (L' := [some (.inr (.inr (t + 1))), some (.inl p1), some (.inr (.inr (w + 1))), some (.inl p3), some (.inl (0 : Int))]) hP rfl rfl ?_
  exact h
theorem r_X7_giveName_7 {S : Shp} {M : Mem} {Q : Res → Prop} (hS : KC S) {t : Nat} (ht : t ∈ bx_tw) {w : Nat} (hw : S[w]? = some (0, 6, [])) (h4w : 4 ≤ w) {x1 x3 x4 : Int} (h : ((x3 ≤ x4 → Q (S, M, none)) ∧ (x4 < x3 → (((6 : Int) ≤ x4 → Q (S, M, none)) ∧ (x4 < (6 : Int) → (inR (x1 * (6 : Int))) ∧ (inR ((x1 * (6 : Int)) + x4)) ∧ (0 ≤ x4 ∧ x4 < 6) ∧ (0 ≤ ((x1 * (6 : Int)) + x4) ∧ ((x1 * (6 : Int)) + x4) < 48) ∧ (inR (x4 + 1)) ∧ En 67 7 [some (.inr (.inr (t + 1))), some (.inl x1), some (.inr (.inr (w + 1))), some (.inl x3), some (.inl (x4 + 1))] [] S (up2 M (t + 2) ((x1 * (6 : Int)) + x4).toNat (M w x4.toNat)) Q))))) : En 67 7 [some (.inr (.inr (t + 1))), some (.inl x1), some (.inr (.inr (w + 1))), some (.inl x3), some (.inl x4)] [] S M Q := by
  have hP : PR 67 = (bc_67, 5) := rfl
  refine e_ld hP rfl rfl ?_
  refine e_ld hP rfl rfl ?_
  refine e_cge hP rfl (fun hc => ?_) (fun hc => ?_)
  · have h := h.1 hc
    exact e_retv hP rfl h
  · have h := h.2 hc
    refine e_ld hP rfl rfl ?_
    refine e_c hP rfl ?_
    refine e_cge hP rfl (fun hc => ?_) (fun hc => ?_)
    · have h := h.1 hc
      exact e_retv hP rfl h
    · have h := h.2 hc
      refine e_ldR hP rfl rfl (by have := tw_4 _ ht; omega) ?_
      refine e_gR (a := 7) (w := t + 3) t (tw_o hS ht) hP rfl (by decide) rfl ?_
      refine e_ld hP rfl rfl ?_
      refine e_c hP rfl ?_
      obtain ⟨hs1, h⟩ := h
      refine e_mul hP rfl hs1 ?_
      refine e_ld hP rfl rfl ?_
      obtain ⟨hs2, h⟩ := h
      refine e_add hP rfl hs2 ?_
      refine e_ldR hP rfl rfl (by have := h4w; omega) ?_
      refine e_ld hP rfl rfl ?_
      obtain ⟨hs3, h⟩ := h
      refine e_al w hw hP rfl hs3 ?_
      obtain ⟨hs4, h⟩ := h
      refine e_as (t + 2) (tw_a2 hS ht) (by have := tw_4 _ ht; omega) hP rfl hs4 ?_
      obtain ⟨hs5, h⟩ := h
      refine e_inc (L' := [some (.inr (.inr (t + 1))), some (.inl x1), some (.inr (.inr (w + 1))), some (.inl x3), some (.inl (x4 + 1))]) hP rfl rfl hs5 rfl ?_
      refine e_go hP rfl ?_
      exact h
theorem r_X7_putFirst_0 {S : Shp} {M : Mem} {Q : Res → Prop} (hS : KC S) {t : Nat} (ht : t ∈ bx_tw) {p2 : Int} (h : En 68 4 [some (.inr (.inr (t + 1))), some (.inr (.inr 8)), some (.inl p2), some (.inl (0 : Int)), some (.inl (0 : Int)), none] [] S M Q) : Ca 68 [.inr (.inr (t + 1)), .inr (.inr 8), .inl p2] S M Q := by
  have hP : PR 68 = (bc_68, 6) := rfl
  refine ⟨Nat.le_of_ble_eq_true rfl, ?_⟩
  show En 68 0 [some (.inr (.inr (t + 1))), some (.inr (.inr 8)), some (.inl p2), none, none, none] [] S M Q
  refine e_c hP rfl ?_
  refine e_st (L' := [some (.inr (.inr (t + 1))), some (.inr (.inr 8)), some (.inl p2), some (.inl (0 : Int)), none, none]) hP rfl rfl ?_
  refine e_c hP rfl ?_
  refine e_st (L' := [some (.inr (.inr (t + 1))), some (.inr (.inr 8)), some (.inl p2), some (.inl (0 : Int)), some (.inl (0 : Int)), none]) hP rfl rfl ?_
  exact h
theorem r_X7_putFirst_4 {S : Shp} {M : Mem} {Q : Res → Prop} (hS : KC S) {t : Nat} (ht : t ∈ bx_tw) {x2 x3 x4 : Int} (h : ((x2 ≤ x4 → En 68 27 [some (.inr (.inr (t + 1))), some (.inr (.inr 8)), some (.inl x2), some (.inl x3), some (.inl x2), some (.inl (0 : Int))] [] S M Q) ∧ (x4 < x2 → (0 ≤ x4 ∧ x4 < 6) ∧ Ca 69 [.inr (.inr (t + 1)), .inl (M 7 x4.toNat), .inl x4] S M (fun r => ∃ M2 : Mem, r = (S, M2, none) ∧ (0 ≤ x4 ∧ x4 < 6) ∧ (0 ≤ (1 : Int) ∧ 0 ≤ (M2 7 x4.toNat) ∧ (M2 7 x4.toNat) < 32 ∧ inR ((1 : Int) * 2 ^ (M2 7 x4.toNat).toNat)) ∧ (0 ≤ x3 ∧ 0 ≤ ((1 : Int) * 2 ^ (M2 7 x4.toNat).toNat)) ∧ (inR (x4 + 1)) ∧ En 68 4 [some (.inr (.inr (t + 1))), some (.inr (.inr 8)), some (.inl x2), some (.inl (((x3.toNat ||| ((1 : Int) * 2 ^ (M2 7 x4.toNat).toNat).toNat : Nat) : Int))), some (.inl (x4 + 1)), none] [] S M2 Q)))) : En 68 4 [some (.inr (.inr (t + 1))), some (.inr (.inr 8)), some (.inl x2), some (.inl x3), some (.inl x4), none] [] S M Q := by
  have hP : PR 68 = (bc_68, 6) := rfl
  refine e_ld hP rfl rfl ?_
  refine e_ld hP rfl rfl ?_
  refine e_cge hP rfl (fun hc => ?_) (fun hc => ?_)
  · have h := h.1 hc
    refine e_ld hP rfl rfl ?_
    refine e_st (L' := [some (.inr (.inr (t + 1))), some (.inr (.inr 8)), some (.inl x2), some (.inl x3), some (.inl x2), none]) hP rfl rfl ?_
    refine e_c hP rfl ?_
    refine e_st (L' := [some (.inr (.inr (t + 1))), some (.inr (.inr 8)), some (.inl x2), some (.inl x3), some (.inl x2), some (.inl (0 : Int))]) hP rfl rfl ?_
    exact h
  · have h := h.2 hc
    refine e_ldR hP rfl rfl (by have := tw_4 _ ht; omega) ?_
    refine e_ld hP rfl rfl ?_
    refine e_ld hP rfl rfl ?_
    obtain ⟨hs1, h⟩ := h
    refine e_al 7 (sh_7 hS) hP rfl hs1 ?_
    refine e_ld hP rfl rfl ?_
    refine e_call hP rfl rfl rfl (Nat.le_of_ble_eq_true rfl) (Nat.le_of_ble_eq_true rfl) (rcv0 (tw_o hS ht) (by have := tw_4 _ ht; omega)) ?_
    refine Ca.mono h (fun r hr => ?_)
    obtain ⟨M2, rfl, h⟩ := hr
    show En 68 13 [some (.inr (.inr (t + 1))), some (.inr (.inr 8)), some (.inl x2), some (.inl x3), some (.inl x4), none] [] S M2 Q
    refine e_ld hP rfl rfl ?_
    refine e_c hP rfl ?_
    refine e_ld hP rfl rfl ?_
    refine e_ld hP rfl rfl ?_
    obtain ⟨hs3, h⟩ := h
    refine e_al 7 (sh_7 hS) hP rfl hs3 ?_
    obtain ⟨hs4, h⟩ := h
    refine e_shl hP rfl hs4 ?_
    obtain ⟨hs5, h⟩ := h
    refine e_or hP rfl hs5 ?_
    refine e_st (L' := [some (.inr (.inr (t + 1))), some (.inr (.inr 8)), some (.inl x2), some (.inl (((x3.toNat ||| ((1 : Int) * 2 ^ (M2 7 x4.toNat).toNat).toNat : Nat) : Int))), some (.inl x4), none]) hP rfl rfl ?_
    obtain ⟨hs6, h⟩ := h
    refine e_inc (L' := [some (.inr (.inr (t + 1))), some (.inr (.inr 8)), some (.inl x2), some (.inl (((x3.toNat ||| ((1 : Int) * 2 ^ (M2 7 x4.toNat).toNat).toNat : Nat) : Int))), some (.inl (x4 + 1)), none]) hP rfl rfl hs6 rfl ?_
    refine e_go hP rfl ?_
    exact h
theorem r_X7_putFirst_27 {S : Shp} {M : Mem} {Q : Res → Prop} (hS : KC S) {t : Nat} (ht : t ∈ bx_tw) {x2 x3 x4 x5 : Int} (h : (((26 : Int) ≤ x5 → Q (S, M, none)) ∧ (x5 < (26 : Int) → (((26 : Int) ≤ x4 → Q (S, M, none)) ∧ (x4 < (26 : Int) → Ca 135 [.inl x3, .inl x5] S M (fun r => ∃ (M1 : Mem) (v2 : Int), r = (S, M1, some (.inl v2)) ∧ ((v2 ≠ 0 → (inR (x5 + 1)) ∧ En 68 27 [some (.inr (.inr (t + 1))), some (.inr (.inr 8)), some (.inl x2), some (.inl x3), some (.inl x4), some (.inl (x5 + 1))] [] S M1 Q) ∧ (v2 = 0 → Ca 69 [.inr (.inr (t + 1)), .inl x5, .inl x4] S M1 (fun r => ∃ M4 : Mem, r = (S, M4, none) ∧ (inR (x4 + 1)) ∧ (inR (x5 + 1)) ∧ En 68 27 [some (.inr (.inr (t + 1))), some (.inr (.inr 8)), some (.inl x2), some (.inl x3), some (.inl (x4 + 1)), some (.inl (x5 + 1))] [] S M4 Q))))))))) : En 68 27 [some (.inr (.inr (t + 1))), some (.inr (.inr 8)), some (.inl x2), some (.inl x3), some (.inl x4), some (.inl x5)] [] S M Q := by
  have hP : PR 68 = (bc_68, 6) := rfl
  refine e_ld hP rfl rfl ?_
  refine e_c hP rfl ?_
  refine e_cge hP rfl (fun hc => ?_) (fun hc => ?_)
  · have h := h.1 hc
    exact e_retv hP rfl h
  · have h := h.2 hc
    refine e_ld hP rfl rfl ?_
    refine e_c hP rfl ?_
    refine e_cge hP rfl (fun hc => ?_) (fun hc => ?_)
    · have h := h.1 hc
      exact e_retv hP rfl h
    · have h := h.2 hc
      refine e_ld hP rfl rfl ?_
      refine e_ld hP rfl rfl ?_
      refine e_call hP rfl rfl rfl (Nat.le_of_ble_eq_true rfl) (Nat.le_of_ble_eq_true rfl) rcv1 ?_
      refine Ca.mono h (fun r hr => ?_)
      obtain ⟨M1, v2, rfl, h⟩ := hr
      show En 68 36 [some (.inr (.inr (t + 1))), some (.inr (.inr 8)), some (.inl x2), some (.inl x3), some (.inl x4), some (.inl x5)] [.inl v2] S M1 Q
      refine e_zne hP rfl (fun hc => ?_) (fun hc => ?_)
      · have h := h.1 hc
        obtain ⟨hs3, h⟩ := h
        refine e_inc (L' := [some (.inr (.inr (t + 1))), some (.inr (.inr 8)), some (.inl x2), some (.inl x3), some (.inl x4), some (.inl (x5 + 1))]) hP rfl rfl hs3 rfl ?_
        refine e_go hP rfl ?_
        exact h
      · have h := h.2 hc
        refine e_ldR hP rfl rfl (by have := tw_4 _ ht; omega) ?_
        refine e_ld hP rfl rfl ?_
        refine e_ld hP rfl rfl ?_
        refine e_call hP rfl rfl rfl (Nat.le_of_ble_eq_true rfl) (Nat.le_of_ble_eq_true rfl) (rcv0 (tw_o hS ht) (by have := tw_4 _ ht; omega)) ?_
        refine Ca.mono h (fun r hr => ?_)
        obtain ⟨M4, rfl, h⟩ := hr
        show En 68 41 [some (.inr (.inr (t + 1))), some (.inr (.inr 8)), some (.inl x2), some (.inl x3), some (.inl x4), some (.inl x5)] [] S M4 Q
        obtain ⟨hs5, h⟩ := h
        refine e_inc (L' := [some (.inr (.inr (t + 1))), some (.inr (.inr 8)), some (.inl x2), some (.inl x3), some (.inl (x4 + 1)), some (.inl x5)]) hP rfl rfl hs5 rfl ?_
        obtain ⟨hs6, h⟩ := h
        refine e_inc (L' := [some (.inr (.inr (t + 1))), some (.inr (.inr 8)), some (.inl x2), some (.inl x3), some (.inl (x4 + 1)), some (.inl (x5 + 1))]) hP rfl rfl hs6 rfl ?_
        refine e_go hP rfl ?_
        exact h
theorem r_X7_place_0 {S : Shp} {M : Mem} {Q : Res → Prop} (hS : KC S) {t : Nat} (ht : t ∈ bx_tw) {p1 p2 : Int} (h : (0 ≤ p1 ∧ p1 < 26) ∧ (0 ≤ p2 ∧ p2 < 26) ∧ Q (S, up2 (up2 M (t + 8) p1.toNat p2) (t + 9) p2.toNat p1, none)) : Ca 69 [.inr (.inr (t + 1)), .inl p1, .inl p2] S M Q := by
  have hP : PR 69 = (bc_69, 3) := rfl
  refine ⟨Nat.le_of_ble_eq_true rfl, ?_⟩
  show En 69 0 [some (.inr (.inr (t + 1))), some (.inl p1), some (.inl p2)] [] S M Q
  refine e_ldR hP rfl rfl (by have := tw_4 _ ht; omega) ?_
  refine e_gR (a := 7) (w := t + 9) t (tw_o hS ht) hP rfl (by decide) rfl ?_
  refine e_ld hP rfl rfl ?_
  refine e_ld hP rfl rfl ?_
  obtain ⟨hs1, h⟩ := h
  refine e_as (t + 8) (tw_a8 hS ht) (by have := tw_4 _ ht; omega) hP rfl hs1 ?_
  refine e_ldR hP rfl rfl (by have := tw_4 _ ht; omega) ?_
  refine e_gR (a := 7) (w := t + 10) t (tw_o hS ht) hP rfl (by decide) rfl ?_
  refine e_ld hP rfl rfl ?_
  refine e_ld hP rfl rfl ?_
  obtain ⟨hs2, h⟩ := h
  refine e_as (t + 9) (tw_a9 hS ht) (by have := tw_4 _ ht; omega) hP rfl hs2 ?_
  exact e_retv hP rfl h
theorem r_X7_exchange_0 {S : Shp} {M : Mem} {Q : Res → Prop} (hS : KC S) {t : Nat} (ht : t ∈ bx_tw) {p1 p2 : Int} (h : (0 ≤ p1 ∧ p1 < 26) ∧ (0 ≤ p2 ∧ p2 < 26) ∧ Ca 69 [.inr (.inr (t + 1)), .inl p1, .inl (M (t + 8) p2.toNat)] S M (fun r => ∃ M3 : Mem, r = (S, M3, none) ∧ Ca 69 [.inr (.inr (t + 1)), .inl p2, .inl (M (t + 8) p1.toNat)] S M3 (fun r => ∃ M4 : Mem, r = (S, M4, none) ∧ Q (S, M4, none)))) : Ca 70 [.inr (.inr (t + 1)), .inl p1, .inl p2] S M Q := by
  have hP : PR 70 = (bc_70, 4) := rfl
  refine ⟨Nat.le_of_ble_eq_true rfl, ?_⟩
  show En 70 0 [some (.inr (.inr (t + 1))), some (.inl p1), some (.inl p2), none] [] S M Q
  refine e_ldR hP rfl rfl (by have := tw_4 _ ht; omega) ?_
  refine e_gR (a := 7) (w := t + 9) t (tw_o hS ht) hP rfl (by decide) rfl ?_
  refine e_ld hP rfl rfl ?_
  obtain ⟨hs1, h⟩ := h
  refine e_al (t + 8) (tw_a8 hS ht) hP rfl hs1 ?_
  refine e_st (L' := [some (.inr (.inr (t + 1))), some (.inl p1), some (.inl p2), some (.inl (M (t + 8) p1.toNat))]) hP rfl rfl ?_
  refine e_ldR hP rfl rfl (by have := tw_4 _ ht; omega) ?_
  refine e_ld hP rfl rfl ?_
  refine e_ldR hP rfl rfl (by have := tw_4 _ ht; omega) ?_
  refine e_gR (a := 7) (w := t + 9) t (tw_o hS ht) hP rfl (by decide) rfl ?_
  refine e_ld hP rfl rfl ?_
  obtain ⟨hs2, h⟩ := h
  refine e_al (t + 8) (tw_a8 hS ht) hP rfl hs2 ?_
  refine e_call hP rfl rfl rfl (Nat.le_of_ble_eq_true rfl) (Nat.le_of_ble_eq_true rfl) (rcv0 (tw_o hS ht) (by have := tw_4 _ ht; omega)) ?_
  refine Ca.mono h (fun r hr => ?_)
  obtain ⟨M3, rfl, h⟩ := hr
  show En 70 12 [some (.inr (.inr (t + 1))), some (.inl p1), some (.inl p2), some (.inl (M (t + 8) p1.toNat))] [] S M3 Q
  refine e_ldR hP rfl rfl (by have := tw_4 _ ht; omega) ?_
  refine e_ld hP rfl rfl ?_
  refine e_ld hP rfl rfl ?_
  refine e_call hP rfl rfl rfl (Nat.le_of_ble_eq_true rfl) (Nat.le_of_ble_eq_true rfl) (rcv0 (tw_o hS ht) (by have := tw_4 _ ht; omega)) ?_
  refine Ca.mono h (fun r hr => ?_)
  obtain ⟨M4, rfl, h⟩ := hr
  show En 70 16 [some (.inr (.inr (t + 1))), some (.inl p1), some (.inl p2), some (.inl (M (t + 8) p1.toNat))] [] S M4 Q
  exact e_retv hP rfl h
theorem r_X7_setEnemies_0 {S : Shp} {M : Mem} {Q : Res → Prop} (hS : KC S) {t : Nat} (ht : t ∈ bx_tw) {p1 p2 : Int} (h : (0 ≤ p1 ∧ p1 < 26) ∧ (0 ≤ (1 : Int) ∧ 0 ≤ p2 ∧ p2 < 32 ∧ inR ((1 : Int) * 2 ^ p2.toNat)) ∧ (0 ≤ (M (t + 10) p1.toNat) ∧ 0 ≤ ((1 : Int) * 2 ^ p2.toNat)) ∧ (0 ≤ p1 ∧ p1 < 26) ∧ (0 ≤ p2 ∧ p2 < 26) ∧ (0 ≤ (1 : Int) ∧ 0 ≤ p1 ∧ p1 < 32 ∧ inR ((1 : Int) * 2 ^ p1.toNat)) ∧ (0 ≤ ((up2 M (t + 10) p1.toNat ((((M (t + 10) p1.toNat).toNat ||| ((1 : Int) * 2 ^ p2.toNat).toNat : Nat) : Int))) (t + 10) p2.toNat) ∧ 0 ≤ ((1 : Int) * 2 ^ p1.toNat)) ∧ (0 ≤ p2 ∧ p2 < 26) ∧ Q (S, up2 (up2 M (t + 10) p1.toNat ((((M (t + 10) p1.toNat).toNat ||| ((1 : Int) * 2 ^ p2.toNat).toNat : Nat) : Int))) (t + 10) p2.toNat (((((up2 M (t + 10) p1.toNat ((((M (t + 10) p1.toNat).toNat ||| ((1 : Int) * 2 ^ p2.toNat).toNat : Nat) : Int))) (t + 10) p2.toNat).toNat ||| ((1 : Int) * 2 ^ p1.toNat).toNat : Nat) : Int)), none)) : Ca 71 [.inr (.inr (t + 1)), .inl p1, .inl p2] S M Q := by
  have hP : PR 71 = (bc_71, 3) := rfl
  refine ⟨Nat.le_of_ble_eq_true rfl, ?_⟩
  show En 71 0 [some (.inr (.inr (t + 1))), some (.inl p1), some (.inl p2)] [] S M Q
  refine e_ldR hP rfl rfl (by have := tw_4 _ ht; omega) ?_
  refine e_gR (a := 7) (w := t + 11) t (tw_o hS ht) hP rfl (by decide) rfl ?_
  refine e_ld hP rfl rfl ?_
  refine e_dup2 hP rfl ?_
  obtain ⟨hs1, h⟩ := h
  refine e_al (t + 10) (tw_a10 hS ht) hP rfl hs1 ?_
  refine e_c hP rfl ?_
  refine e_ld hP rfl rfl ?_
  obtain ⟨hs2, h⟩ := h
  refine e_shl hP rfl hs2 ?_
  obtain ⟨hs3, h⟩ := h
  refine e_or hP rfl hs3 ?_
  obtain ⟨hs4, h⟩ := h
  refine e_as (t + 10) (tw_a10 hS ht) (by have := tw_4 _ ht; omega) hP rfl hs4 ?_
  refine e_ldR hP rfl rfl (by have := tw_4 _ ht; omega) ?_
  refine e_gR (a := 7) (w := t + 11) t (tw_o hS ht) hP rfl (by decide) rfl ?_
  refine e_ld hP rfl rfl ?_
  refine e_dup2 hP rfl ?_
  obtain ⟨hs5, h⟩ := h
  refine e_al (t + 10) (tw_a10 hS ht) hP rfl hs5 ?_
  refine e_c hP rfl ?_
  refine e_ld hP rfl rfl ?_
  obtain ⟨hs6, h⟩ := h
  refine e_shl hP rfl hs6 ?_
  obtain ⟨hs7, h⟩ := h
  refine e_or hP rfl hs7 ?_
  obtain ⟨hs8, h⟩ := h
  refine e_as (t + 10) (tw_a10 hS ht) (by have := tw_4 _ ht; omega) hP rfl hs8 ?_
  exact e_retv hP rfl h
theorem r_X7_areEnemies_0 {S : Shp} {M : Mem} {Q : Res → Prop} (hS : KC S) {t : Nat} (ht : t ∈ bx_tw) {p1 p2 : Int} (h : (0 ≤ p1 ∧ p1 < 26) ∧ Ca 135 [.inl (M (t + 10) p1.toNat), .inl p2] S M (fun r => ∃ (M2 : Mem) (v3 : Int), r = (S, M2, some (.inl v3)) ∧ (v3 = 0 ∨ v3 = 1) ∧ Q (S, M2, some (.inl v3)))) : Ca 72 [.inr (.inr (t + 1)), .inl p1, .inl p2] S M Q := by
  have hP : PR 72 = (bc_72, 3) := rfl
  refine ⟨Nat.le_of_ble_eq_true rfl, ?_⟩
  show En 72 0 [some (.inr (.inr (t + 1))), some (.inl p1), some (.inl p2)] [] S M Q
  refine e_ldR hP rfl rfl (by have := tw_4 _ ht; omega) ?_
  refine e_gR (a := 7) (w := t + 11) t (tw_o hS ht) hP rfl (by decide) rfl ?_
  refine e_ld hP rfl rfl ?_
  obtain ⟨hs1, h⟩ := h
  refine e_al (t + 10) (tw_a10 hS ht) hP rfl hs1 ?_
  refine e_ld hP rfl rfl ?_
  refine e_call hP rfl rfl rfl (Nat.le_of_ble_eq_true rfl) (Nat.le_of_ble_eq_true rfl) rcv1 ?_
  refine Ca.mono h (fun r hr => ?_)
  obtain ⟨M2, v3, rfl, h⟩ := hr
  show En 72 6 [some (.inr (.inr (t + 1))), some (.inl p1), some (.inl p2)] [.inl v3] S M2 Q
  exact e_ret hP rfl (decide_eq_true h.1) h.2
theorem r_X7_isVowel_0 {S : Shp} {M : Mem} {Q : Res → Prop} (hS : KC S) {t : Nat} (ht : t ∈ bx_tw) {p1 : Int} (h : Ca 135 [.inl (M t 4), .inl p1] S M (fun r => ∃ (M1 : Mem) (v2 : Int), r = (S, M1, some (.inl v2)) ∧ (v2 = 0 ∨ v2 = 1) ∧ Q (S, M1, some (.inl v2)))) : Ca 73 [.inr (.inr (t + 1)), .inl p1] S M Q := by
  have hP : PR 73 = (bc_73, 2) := rfl
  refine ⟨Nat.le_of_ble_eq_true rfl, ?_⟩
  show En 73 0 [some (.inr (.inr (t + 1))), some (.inl p1)] [] S M Q
  refine e_ldR hP rfl rfl (by have := tw_4 _ ht; omega) ?_
  refine e_gI (a := 7) t (tw_o hS ht) hP rfl (by decide) ?_
  refine e_ld hP rfl rfl ?_
  refine e_call hP rfl rfl rfl (Nat.le_of_ble_eq_true rfl) (Nat.le_of_ble_eq_true rfl) rcv1 ?_
  refine Ca.mono h (fun r hr => ?_)
  obtain ⟨M1, v2, rfl, h⟩ := hr
  show En 73 4 [some (.inr (.inr (t + 1))), some (.inl p1)] [.inl v2] S M1 Q
  exact e_ret hP rfl (decide_eq_true h.1) h.2
theorem r_X7_isNameless_0 {S : Shp} {M : Mem} {Q : Res → Prop} (hS : KC S) {t : Nat} (ht : t ∈ bx_tw) {p1 : Int} (h : (0 ≤ p1 ∧ p1 < 8) ∧ (((M (t + 1) p1.toNat) ≠ 0 → Q (S, M, some (.inl (0 : Int)))) ∧ ((M (t + 1) p1.toNat) = 0 → Q (S, M, some (.inl (1 : Int)))))) : Ca 74 [.inr (.inr (t + 1)), .inl p1] S M Q := by
  have hP : PR 74 = (bc_74, 2) := rfl
  refine ⟨Nat.le_of_ble_eq_true rfl, ?_⟩
  show En 74 0 [some (.inr (.inr (t + 1))), some (.inl p1)] [] S M Q
  refine e_ldR hP rfl rfl (by have := tw_4 _ ht; omega) ?_
  refine e_gR (a := 7) (w := t + 2) t (tw_o hS ht) hP rfl (by decide) rfl ?_
  refine e_ld hP rfl rfl ?_
  obtain ⟨hs1, h⟩ := h
  refine e_al (t + 1) (tw_a1 hS ht) hP rfl hs1 ?_
  refine e_zne hP rfl (fun hc => ?_) (fun hc => ?_)
  · have h := h.1 hc
    refine e_c hP rfl ?_
    exact e_ret hP rfl rfl h
  · have h := h.2 hc
    refine e_c hP rfl ?_
    refine e_go hP rfl ?_
    exact e_ret hP rfl rfl h
theorem r_X7_letterOf_0 {S : Shp} {M : Mem} {Q : Res → Prop} (hS : KC S) {t : Nat} (ht : t ∈ bx_tw) {p1 p2 : Int} (h : (0 ≤ p1 ∧ p1 < 8) ∧ (((M (t + 1) p1.toNat) ≤ p2 → Q (S, M, some (.inl (-4 : Int)))) ∧ (p2 < (M (t + 1) p1.toNat) → (((6 : Int) ≤ p2 → Q (S, M, some (.inl (-4 : Int)))) ∧ (p2 < (6 : Int) → (inR (p1 * (6 : Int))) ∧ (inR ((p1 * (6 : Int)) + p2)) ∧ (0 ≤ ((p1 * (6 : Int)) + p2) ∧ ((p1 * (6 : Int)) + p2) < 48) ∧ Q (S, M, some (.inl (M (t + 2) ((p1 * (6 : Int)) + p2).toNat)))))))) : Ca 75 [.inr (.inr (t + 1)), .inl p1, .inl p2] S M Q := by
  have hP : PR 75 = (bc_75, 3) := rfl
  refine ⟨Nat.le_of_ble_eq_true rfl, ?_⟩
  show En 75 0 [some (.inr (.inr (t + 1))), some (.inl p1), some (.inl p2)] [] S M Q
  refine e_ld hP rfl rfl ?_
  refine e_ldR hP rfl rfl (by have := tw_4 _ ht; omega) ?_
  refine e_gR (a := 7) (w := t + 2) t (tw_o hS ht) hP rfl (by decide) rfl ?_
  refine e_ld hP rfl rfl ?_
  obtain ⟨hs1, h⟩ := h
  refine e_al (t + 1) (tw_a1 hS ht) hP rfl hs1 ?_
  refine e_cge hP rfl (fun hc => ?_) (fun hc => ?_)
  · have h := h.1 hc
    refine e_c hP rfl ?_
    exact e_ret hP rfl rfl h
  · have h := h.2 hc
    refine e_ld hP rfl rfl ?_
    refine e_c hP rfl ?_
    refine e_cge hP rfl (fun hc => ?_) (fun hc => ?_)
    · have h := h.1 hc
      refine e_c hP rfl ?_
      exact e_ret hP rfl rfl h
    · have h := h.2 hc
      refine e_ldR hP rfl rfl (by have := tw_4 _ ht; omega) ?_
      refine e_gR (a := 7) (w := t + 3) t (tw_o hS ht) hP rfl (by decide) rfl ?_
      refine e_ld hP rfl rfl ?_
      refine e_c hP rfl ?_
      obtain ⟨hs2, h⟩ := h
      refine e_mul hP rfl hs2 ?_
      refine e_ld hP rfl rfl ?_
      obtain ⟨hs3, h⟩ := h
      refine e_add hP rfl hs3 ?_
      obtain ⟨hs4, h⟩ := h
      refine e_al (t + 2) (tw_a2 hS ht) hP rfl hs4 ?_
      refine e_go hP rfl ?_
      exact e_ret hP rfl rfl h
theorem r_X7_first_0 {S : Shp} {M : Mem} {Q : Res → Prop} (hS : KC S) {t : Nat} (ht : t ∈ bx_tw) {p1 : Int} (h : Ca 75 [.inr (.inr (t + 1)), .inl p1, .inl (0 : Int)] S M (fun r => ∃ (M1 : Mem) (v2 : Int), r = (S, M1, some (.inl v2)) ∧ Q (S, M1, some (.inl v2)))) : Ca 76 [.inr (.inr (t + 1)), .inl p1] S M Q := by
  have hP : PR 76 = (bc_76, 2) := rfl
  refine ⟨Nat.le_of_ble_eq_true rfl, ?_⟩
  show En 76 0 [some (.inr (.inr (t + 1))), some (.inl p1)] [] S M Q
  refine e_ldR hP rfl rfl (by have := tw_4 _ ht; omega) ?_
  refine e_ld hP rfl rfl ?_
  refine e_c hP rfl ?_
  refine e_call hP rfl rfl rfl (Nat.le_of_ble_eq_true rfl) (Nat.le_of_ble_eq_true rfl) (rcv0 (tw_o hS ht) (by have := tw_4 _ ht; omega)) ?_
  refine Ca.mono h (fun r hr => ?_)
  obtain ⟨M1, v2, rfl, h⟩ := hr
  show En 76 4 [some (.inr (.inr (t + 1))), some (.inl p1)] [.inl v2] S M1 Q
  exact e_ret hP rfl rfl h
theorem r_X7_setFirst_0 {S : Shp} {M : Mem} {Q : Res → Prop} (hS : KC S) {t : Nat} (ht : t ∈ bx_tw) {p1 p2 : Int} (h : Ca 74 [.inr (.inr (t + 1)), .inl p1] S M (fun r => ∃ (M1 : Mem) (v2 : Int), r = (S, M1, some (.inl v2)) ∧ ((v2 ≠ 0 → Q (S, M1, none)) ∧ (v2 = 0 → (inR (p1 * (6 : Int))) ∧ (0 ≤ (p1 * (6 : Int)) ∧ (p1 * (6 : Int)) < 48) ∧ Q (S, up2 M1 (t + 2) (p1 * (6 : Int)).toNat p2, none))))) : Ca 77 [.inr (.inr (t + 1)), .inl p1, .inl p2] S M Q := by
  have hP : PR 77 = (bc_77, 3) := rfl
  refine ⟨Nat.le_of_ble_eq_true rfl, ?_⟩
  show En 77 0 [some (.inr (.inr (t + 1))), some (.inl p1), some (.inl p2)] [] S M Q
  refine e_ldR hP rfl rfl (by have := tw_4 _ ht; omega) ?_
  refine e_ld hP rfl rfl ?_
  refine e_call hP rfl rfl rfl (Nat.le_of_ble_eq_true rfl) (Nat.le_of_ble_eq_true rfl) (rcv0 (tw_o hS ht) (by have := tw_4 _ ht; omega)) ?_
  refine Ca.mono h (fun r hr => ?_)
  obtain ⟨M1, v2, rfl, h⟩ := hr
  show En 77 3 [some (.inr (.inr (t + 1))), some (.inl p1), some (.inl p2)] [.inl v2] S M1 Q
  refine e_zne hP rfl (fun hc => ?_) (fun hc => ?_)
  · have h := h.1 hc
    exact e_retv hP rfl h
  · have h := h.2 hc
    refine e_ldR hP rfl rfl (by have := tw_4 _ ht; omega) ?_
    refine e_gR (a := 7) (w := t + 3) t (tw_o hS ht) hP rfl (by decide) rfl ?_
    refine e_ld hP rfl rfl ?_
    refine e_c hP rfl ?_
    obtain ⟨hs3, h⟩ := h
    refine e_mul hP rfl hs3 ?_
    refine e_ld hP rfl rfl ?_
    obtain ⟨hs4, h⟩ := h
    refine e_as (t + 2) (tw_a2 hS ht) (by have := tw_4 _ ht; omega) hP rfl hs4 ?_
    exact e_retv hP rfl h
theorem r_X7_firstLetters_0 {S : Shp} {M : Mem} {Q : Res → Prop} (hS : KC S) {t : Nat} (ht : t ∈ bx_tw) (h : En 78 4 [some (.inr (.inr (t + 1))), some (.inl (0 : Int)), some (.inl (0 : Int))] [] S M Q) : Ca 78 [.inr (.inr (t + 1))] S M Q := by
  have hP : PR 78 = (bc_78, 3) := rfl
  refine ⟨Nat.le_of_ble_eq_true rfl, ?_⟩
  show En 78 0 [some (.inr (.inr (t + 1))), none, none] [] S M Q
  refine e_c hP rfl ?_
  refine e_st (L' := [some (.inr (.inr (t + 1))), some (.inl (0 : Int)), none]) hP rfl rfl ?_
  refine e_c hP rfl ?_
  refine e_st (L' := [some (.inr (.inr (t + 1))), some (.inl (0 : Int)), some (.inl (0 : Int))]) hP rfl rfl ?_
  exact h
theorem r_X7_firstLetters_4 {S : Shp} {M : Mem} {Q : Res → Prop} (hS : KC S) {t : Nat} (ht : t ∈ bx_tw) {x1 x2 : Int} (h : (((M t 0) ≤ x2 → Q (S, M, some (.inl x1))) ∧ (x2 < (M t 0) → Ca 74 [.inr (.inr (t + 1)), .inl x2] S M (fun r => ∃ (M1 : Mem) (v2 : Int), r = (S, M1, some (.inl v2)) ∧ ((v2 = 0 → Ca 76 [.inr (.inr (t + 1)), .inl x2] S M1 (fun r => ∃ (M3 : Mem) (v4 : Int), r = (S, M3, some (.inl v4)) ∧ (0 ≤ (1 : Int) ∧ 0 ≤ v4 ∧ v4 < 32 ∧ inR ((1 : Int) * 2 ^ v4.toNat)) ∧ (0 ≤ x1 ∧ 0 ≤ ((1 : Int) * 2 ^ v4.toNat)) ∧ (inR (x2 + 1)) ∧ En 78 4 [some (.inr (.inr (t + 1))), some (.inl (((x1.toNat ||| ((1 : Int) * 2 ^ v4.toNat).toNat : Nat) : Int))), some (.inl (x2 + 1))] [] S M3 Q)) ∧ (v2 ≠ 0 → (0 ≤ x1 ∧ 0 ≤ (0 : Int)) ∧ (inR (x2 + 1)) ∧ En 78 4 [some (.inr (.inr (t + 1))), some (.inl (((x1.toNat ||| (0 : Int).toNat : Nat) : Int))), some (.inl (x2 + 1))] [] S M1 Q)))))) : En 78 4 [some (.inr (.inr (t + 1))), some (.inl x1), some (.inl x2)] [] S M Q := by
  have hP : PR 78 = (bc_78, 3) := rfl
  refine e_ld hP rfl rfl ?_
  refine e_ldR hP rfl rfl (by have := tw_4 _ ht; omega) ?_
  refine e_gI (a := 7) t (tw_o hS ht) hP rfl (by decide) ?_
  refine e_cge hP rfl (fun hc => ?_) (fun hc => ?_)
  · have h := h.1 hc
    refine e_ld hP rfl rfl ?_
    exact e_ret hP rfl rfl h
  · have h := h.2 hc
    refine e_ld hP rfl rfl ?_
    refine e_ldR hP rfl rfl (by have := tw_4 _ ht; omega) ?_
    refine e_ld hP rfl rfl ?_
    refine e_call hP rfl rfl rfl (Nat.le_of_ble_eq_true rfl) (Nat.le_of_ble_eq_true rfl) (rcv0 (tw_o hS ht) (by have := tw_4 _ ht; omega)) ?_
    refine Ca.mono h (fun r hr => ?_)
    obtain ⟨M1, v2, rfl, h⟩ := hr
    show En 78 12 [some (.inr (.inr (t + 1))), some (.inl x1), some (.inl x2)] [.inl v2, .inl x1] S M1 Q
    refine e_zeq hP rfl (fun hc => ?_) (fun hc => ?_)
    · have h := h.1 hc
      refine e_c hP rfl ?_
      refine e_ldR hP rfl rfl (by have := tw_4 _ ht; omega) ?_
      refine e_ld hP rfl rfl ?_
      refine e_call hP rfl rfl rfl (Nat.le_of_ble_eq_true rfl) (Nat.le_of_ble_eq_true rfl) (rcv0 (tw_o hS ht) (by have := tw_4 _ ht; omega)) ?_
      refine Ca.mono h (fun r hr => ?_)
      obtain ⟨M3, v4, rfl, h⟩ := hr
      show En 78 19 [some (.inr (.inr (t + 1))), some (.inl x1), some (.inl x2)] [.inl v4, .inl (1 : Int), .inl x1] S M3 Q
      obtain ⟨hs5, h⟩ := h
      refine e_shl hP rfl hs5 ?_
      obtain ⟨hs6, h⟩ := h
      refine e_or hP rfl hs6 ?_
      refine e_st (L' := [some (.inr (.inr (t + 1))), some (.inl (((x1.toNat ||| ((1 : Int) * 2 ^ v4.toNat).toNat : Nat) : Int))), some (.inl x2)]) hP rfl rfl ?_
      obtain ⟨hs7, h⟩ := h
      refine e_inc (L' := [some (.inr (.inr (t + 1))), some (.inl (((x1.toNat ||| ((1 : Int) * 2 ^ v4.toNat).toNat : Nat) : Int))), some (.inl (x2 + 1))]) hP rfl rfl hs7 rfl ?_
      refine e_go hP rfl ?_
      exact h
    · have h := h.2 hc
      refine e_c hP rfl ?_
      refine e_go hP rfl ?_
      obtain ⟨hs8, h⟩ := h
      refine e_or hP rfl hs8 ?_
      refine e_st (L' := [some (.inr (.inr (t + 1))), some (.inl (((x1.toNat ||| (0 : Int).toNat : Nat) : Int))), some (.inl x2)]) hP rfl rfl ?_
      obtain ⟨hs9, h⟩ := h
      refine e_inc (L' := [some (.inr (.inr (t + 1))), some (.inl (((x1.toNat ||| (0 : Int).toNat : Nat) : Int))), some (.inl (x2 + 1))]) hP rfl rfl hs9 rfl ?_
      refine e_go hP rfl ?_
      exact h
theorem r_X7_keyOf_0 {S : Shp} {M : Mem} {Q : Res → Prop} (hS : KC S) {t : Nat} (ht : t ∈ bx_tw) {p1 : Int} (h : Ca 74 [.inr (.inr (t + 1)), .inl p1] S M (fun r => ∃ (M1 : Mem) (v2 : Int), r = (S, M1, some (.inl v2)) ∧ ((v2 = 0 → En 79 10 [some (.inr (.inr (t + 1))), some (.inl p1), some (.inl (0 : Int)), some (.inl (0 : Int)), none] [] S M1 Q) ∧ (v2 ≠ 0 → Q (S, M1, some (.inl (387420489 : Int))))))) : Ca 79 [.inr (.inr (t + 1)), .inl p1] S M Q := by
  have hP : PR 79 = (bc_79, 5) := rfl
  refine ⟨Nat.le_of_ble_eq_true rfl, ?_⟩
  show En 79 0 [some (.inr (.inr (t + 1))), some (.inl p1), none, none, none] [] S M Q
  refine e_ldR hP rfl rfl (by have := tw_4 _ ht; omega) ?_
  refine e_ld hP rfl rfl ?_
  refine e_call hP rfl rfl rfl (Nat.le_of_ble_eq_true rfl) (Nat.le_of_ble_eq_true rfl) (rcv0 (tw_o hS ht) (by have := tw_4 _ ht; omega)) ?_
  refine Ca.mono h (fun r hr => ?_)
  obtain ⟨M1, v2, rfl, h⟩ := hr
  show En 79 3 [some (.inr (.inr (t + 1))), some (.inl p1), none, none, none] [.inl v2] S M1 Q
  refine e_zeq hP rfl (fun hc => ?_) (fun hc => ?_)
  · have h := h.1 hc
    refine e_c hP rfl ?_
    refine e_st (L' := [some (.inr (.inr (t + 1))), some (.inl p1), some (.inl (0 : Int)), none, none]) hP rfl rfl ?_
    refine e_c hP rfl ?_
    refine e_st (L' := [some (.inr (.inr (t + 1))), some (.inl p1), some (.inl (0 : Int)), some (.inl (0 : Int)), none]) hP rfl rfl ?_
    exact h
  · have h := h.2 hc
    refine e_c hP rfl ?_
    exact e_ret hP rfl rfl h
theorem r_X7_keyOf_10 {S : Shp} {M : Mem} {Q : Res → Prop} (hS : KC S) {t : Nat} (ht : t ∈ bx_tw) {x1 x2 x3 : Int} (h : (((6 : Int) ≤ x3 → Q (S, M, some (.inl x2))) ∧ (x3 < (6 : Int) → Ca 75 [.inr (.inr (t + 1)), .inl x1, .inl x3] S M (fun r => ∃ (M1 : Mem) (v2 : Int), r = (S, M1, some (.inl v2)) ∧ (inR (x2 * (27 : Int))) ∧ ((v2 ≠ (-4 : Int) → (0 ≤ v2 ∧ v2 < 26) ∧ (inR ((M1 (t + 8) v2.toNat) + (1 : Int))) ∧ (inR ((x2 * (27 : Int)) + ((M1 (t + 8) v2.toNat) + (1 : Int)))) ∧ (inR (x3 + 1)) ∧ En 79 10 [some (.inr (.inr (t + 1))), some (.inl x1), some (.inl ((x2 * (27 : Int)) + ((M1 (t + 8) v2.toNat) + (1 : Int)))), some (.inl (x3 + 1)), none] [] S M1 Q) ∧ (v2 = (-4 : Int) → (inR ((x2 * (27 : Int)) + (0 : Int))) ∧ (inR (x3 + 1)) ∧ En 79 10 [some (.inr (.inr (t + 1))), some (.inl x1), some (.inl ((x2 * (27 : Int)) + (0 : Int))), some (.inl (x3 + 1)), none] [] S M1 Q)))))) : En 79 10 [some (.inr (.inr (t + 1))), some (.inl x1), some (.inl x2), some (.inl x3), none] [] S M Q := by
  have hP : PR 79 = (bc_79, 5) := rfl
  refine e_ld hP rfl rfl ?_
  refine e_c hP rfl ?_
  refine e_cge hP rfl (fun hc => ?_) (fun hc => ?_)
  · have h := h.1 hc
    refine e_ld hP rfl rfl ?_
    exact e_ret hP rfl rfl h
  · have h := h.2 hc
    refine e_ldR hP rfl rfl (by have := tw_4 _ ht; omega) ?_
    refine e_ld hP rfl rfl ?_
    refine e_ld hP rfl rfl ?_
    refine e_call hP rfl rfl rfl (Nat.le_of_ble_eq_true rfl) (Nat.le_of_ble_eq_true rfl) (rcv0 (tw_o hS ht) (by have := tw_4 _ ht; omega)) ?_
    refine Ca.mono h (fun r hr => ?_)
    obtain ⟨M1, v2, rfl, h⟩ := hr
    show En 79 17 [some (.inr (.inr (t + 1))), some (.inl x1), some (.inl x2), some (.inl x3), none] [.inl v2] S M1 Q
    refine e_st (L' := [some (.inr (.inr (t + 1))), some (.inl x1), some (.inl x2), some (.inl x3), some (.inl v2)]) hP rfl rfl ?_
    refine e_ld hP rfl rfl ?_
    refine e_c hP rfl ?_
    obtain ⟨hs3, h⟩ := h
    refine e_mul hP rfl hs3 ?_
    refine e_ld hP rfl rfl ?_
    refine e_c hP rfl ?_
    refine e_cne hP rfl (fun hc => ?_) (fun hc => ?_)
    · have h := h.1 hc
      refine e_ldR hP rfl rfl (by have := tw_4 _ ht; omega) ?_
      refine e_gR (a := 7) (w := t + 9) t (tw_o hS ht) hP rfl (by decide) rfl ?_
      refine e_ld hP rfl rfl ?_
      obtain ⟨hs4, h⟩ := h
      refine e_al (t + 8) (tw_a8 hS ht) hP rfl hs4 ?_
      refine e_c hP rfl ?_
      obtain ⟨hs5, h⟩ := h
      refine e_add hP rfl hs5 ?_
      obtain ⟨hs6, h⟩ := h
      refine e_add hP rfl hs6 ?_
      refine e_st (L' := [some (.inr (.inr (t + 1))), some (.inl x1), some (.inl ((x2 * (27 : Int)) + ((M1 (t + 8) v2.toNat) + (1 : Int)))), some (.inl x3), some (.inl v2)]) hP rfl rfl ?_
      obtain ⟨hs7, h⟩ := h
      refine e_inc (L' := [some (.inr (.inr (t + 1))), some (.inl x1), some (.inl ((x2 * (27 : Int)) + ((M1 (t + 8) v2.toNat) + (1 : Int)))), some (.inl (x3 + 1)), some (.inl v2)]) hP rfl rfl hs7 rfl ?_
      refine e_go hP rfl ?_
      exact en_fg h ⟨Or.inr rfl, Or.inr rfl, Or.inr rfl, Or.inr rfl, Or.inl rfl, trivial⟩
    · have h := h.2 hc
      refine e_c hP rfl ?_
      refine e_go hP rfl ?_
      obtain ⟨hs8, h⟩ := h
      refine e_add hP rfl hs8 ?_
      refine e_st (L' := [some (.inr (.inr (t + 1))), some (.inl x1), some (.inl ((x2 * (27 : Int)) + (0 : Int))), some (.inl x3), some (.inl v2)]) hP rfl rfl ?_
      obtain ⟨hs9, h⟩ := h
      refine e_inc (L' := [some (.inr (.inr (t + 1))), some (.inl x1), some (.inl ((x2 * (27 : Int)) + (0 : Int))), some (.inl (x3 + 1)), some (.inl v2)]) hP rfl rfl hs9 rfl ?_
      refine e_go hP rfl ?_
      exact en_fg h ⟨Or.inr rfl, Or.inr rfl, Or.inr rfl, Or.inr rfl, Or.inl rfl, trivial⟩
theorem r_X7_keyOfOne_0 {S : Shp} {M : Mem} {Q : Res → Prop} (hS : KC S) {t : Nat} (ht : t ∈ bx_tw) {p1 : Int} (h : (0 ≤ p1 ∧ p1 < 26) ∧ (inR ((M (t + 8) p1.toNat) + (1 : Int))) ∧ (inR (((M (t + 8) p1.toNat) + (1 : Int)) * (14348907 : Int))) ∧ Q (S, M, some (.inl (((M (t + 8) p1.toNat) + (1 : Int)) * (14348907 : Int))))) : Ca 80 [.inr (.inr (t + 1)), .inl p1] S M Q := by
  have hP : PR 80 = (bc_80, 2) := rfl
  refine ⟨Nat.le_of_ble_eq_true rfl, ?_⟩
  show En 80 0 [some (.inr (.inr (t + 1))), some (.inl p1)] [] S M Q
  refine e_ldR hP rfl rfl (by have := tw_4 _ ht; omega) ?_
  refine e_gR (a := 7) (w := t + 9) t (tw_o hS ht) hP rfl (by decide) rfl ?_
  refine e_ld hP rfl rfl ?_
  obtain ⟨hs1, h⟩ := h
  refine e_al (t + 8) (tw_a8 hS ht) hP rfl hs1 ?_
  refine e_c hP rfl ?_
  obtain ⟨hs2, h⟩ := h
  refine e_add hP rfl hs2 ?_
  refine e_c hP rfl ?_
  obtain ⟨hs3, h⟩ := h
  refine e_mul hP rfl hs3 ?_
  exact e_ret hP rfl rfl h
theorem r_X7_holdsOffice_0 {S : Shp} {M : Mem} {Q : Res → Prop} (hS : KC S) {t : Nat} (ht : t ∈ bx_tw) {p1 : Int} (h : Ca 74 [.inr (.inr (t + 1)), .inl p1] S M (fun r => ∃ (M1 : Mem) (v2 : Int), r = (S, M1, some (.inl v2)) ∧ ((v2 ≠ 0 → Q (S, M1, some (.inl (1 : Int)))) ∧ (v2 = 0 → Ca 76 [.inr (.inr (t + 1)), .inl p1] S M1 (fun r => ∃ (M3 : Mem) (v4 : Int), r = (S, M3, some (.inl v4)) ∧ Ca 73 [.inr (.inr (t + 1)), .inl v4] S M3 (fun r => ∃ (M5 : Mem) (v6 : Int), r = (S, M5, some (.inl v6)) ∧ ((v6 = 0 → Q (S, M5, some (.inl (0 : Int)))) ∧ (v6 ≠ 0 → Q (S, M5, some (.inl (1 : Int))))))))))) : Ca 81 [.inr (.inr (t + 1)), .inl p1] S M Q := by
  have hP : PR 81 = (bc_81, 2) := rfl
  refine ⟨Nat.le_of_ble_eq_true rfl, ?_⟩
  show En 81 0 [some (.inr (.inr (t + 1))), some (.inl p1)] [] S M Q
  refine e_ldR hP rfl rfl (by have := tw_4 _ ht; omega) ?_
  refine e_ld hP rfl rfl ?_
  refine e_call hP rfl rfl rfl (Nat.le_of_ble_eq_true rfl) (Nat.le_of_ble_eq_true rfl) (rcv0 (tw_o hS ht) (by have := tw_4 _ ht; omega)) ?_
  refine Ca.mono h (fun r hr => ?_)
  obtain ⟨M1, v2, rfl, h⟩ := hr
  show En 81 3 [some (.inr (.inr (t + 1))), some (.inl p1)] [.inl v2] S M1 Q
  refine e_zne hP rfl (fun hc => ?_) (fun hc => ?_)
  · have h := h.1 hc
    refine e_c hP rfl ?_
    refine e_go hP rfl ?_
    exact e_ret hP rfl rfl h
  · have h := h.2 hc
    refine e_ldR hP rfl rfl (by have := tw_4 _ ht; omega) ?_
    refine e_ldR hP rfl rfl (by have := tw_4 _ ht; omega) ?_
    refine e_ld hP rfl rfl ?_
    refine e_call hP rfl rfl rfl (Nat.le_of_ble_eq_true rfl) (Nat.le_of_ble_eq_true rfl) (rcv0 (tw_o hS ht) (by have := tw_4 _ ht; omega)) ?_
    refine Ca.mono h (fun r hr => ?_)
    obtain ⟨M3, v4, rfl, h⟩ := hr
    show En 81 8 [some (.inr (.inr (t + 1))), some (.inl p1)] [.inl v4, .inr (.inr (t + 1))] S M3 Q
    refine e_call hP rfl rfl rfl (Nat.le_of_ble_eq_true rfl) (Nat.le_of_ble_eq_true rfl) (rcv0 (tw_o hS ht) (by have := tw_4 _ ht; omega)) ?_
    refine Ca.mono h (fun r hr => ?_)
    obtain ⟨M5, v6, rfl, h⟩ := hr
    show En 81 9 [some (.inr (.inr (t + 1))), some (.inl p1)] [.inl v6] S M5 Q
    refine e_zeq hP rfl (fun hc => ?_) (fun hc => ?_)
    · have h := h.1 hc
      refine e_c hP rfl ?_
      exact e_ret hP rfl rfl h
    · have h := h.2 hc
      refine e_c hP rfl ?_
      refine e_go hP rfl ?_
      exact e_ret hP rfl rfl h
theorem r_X7_countOffice_0 {S : Shp} {M : Mem} {Q : Res → Prop} (hS : KC S) {t : Nat} (ht : t ∈ bx_tw) (h : En 82 4 [some (.inr (.inr (t + 1))), some (.inl (0 : Int)), some (.inl (0 : Int))] [] S M Q) : Ca 82 [.inr (.inr (t + 1))] S M Q := by
  have hP : PR 82 = (bc_82, 3) := rfl
  refine ⟨Nat.le_of_ble_eq_true rfl, ?_⟩
  show En 82 0 [some (.inr (.inr (t + 1))), none, none] [] S M Q
  refine e_c hP rfl ?_
  refine e_st (L' := [some (.inr (.inr (t + 1))), some (.inl (0 : Int)), none]) hP rfl rfl ?_
  refine e_c hP rfl ?_
  refine e_st (L' := [some (.inr (.inr (t + 1))), some (.inl (0 : Int)), some (.inl (0 : Int))]) hP rfl rfl ?_
  exact h
theorem r_X7_countOffice_4 {S : Shp} {M : Mem} {Q : Res → Prop} (hS : KC S) {t : Nat} (ht : t ∈ bx_tw) {x1 x2 : Int} (h : (((M t 0) ≤ x2 → Q (S, M, some (.inl x1))) ∧ (x2 < (M t 0) → Ca 81 [.inr (.inr (t + 1)), .inl x2] S M (fun r => ∃ (M1 : Mem) (v2 : Int), r = (S, M1, some (.inl v2)) ∧ ((v2 = 0 → (inR (x1 + (0 : Int))) ∧ (inR (x2 + 1)) ∧ En 82 4 [some (.inr (.inr (t + 1))), some (.inl (x1 + (0 : Int))), some (.inl (x2 + 1))] [] S M1 Q) ∧ (v2 ≠ 0 → (inR (x1 + (1 : Int))) ∧ (inR (x2 + 1)) ∧ En 82 4 [some (.inr (.inr (t + 1))), some (.inl (x1 + (1 : Int))), some (.inl (x2 + 1))] [] S M1 Q)))))) : En 82 4 [some (.inr (.inr (t + 1))), some (.inl x1), some (.inl x2)] [] S M Q := by
  have hP : PR 82 = (bc_82, 3) := rfl
  refine e_ld hP rfl rfl ?_
  refine e_ldR hP rfl rfl (by have := tw_4 _ ht; omega) ?_
  refine e_gI (a := 7) t (tw_o hS ht) hP rfl (by decide) ?_
  refine e_cge hP rfl (fun hc => ?_) (fun hc => ?_)
  · have h := h.1 hc
    refine e_ld hP rfl rfl ?_
    exact e_ret hP rfl rfl h
  · have h := h.2 hc
    refine e_ld hP rfl rfl ?_
    refine e_ldR hP rfl rfl (by have := tw_4 _ ht; omega) ?_
    refine e_ld hP rfl rfl ?_
    refine e_call hP rfl rfl rfl (Nat.le_of_ble_eq_true rfl) (Nat.le_of_ble_eq_true rfl) (rcv0 (tw_o hS ht) (by have := tw_4 _ ht; omega)) ?_
    refine Ca.mono h (fun r hr => ?_)
    obtain ⟨M1, v2, rfl, h⟩ := hr
    show En 82 12 [some (.inr (.inr (t + 1))), some (.inl x1), some (.inl x2)] [.inl v2, .inl x1] S M1 Q
    refine e_zeq hP rfl (fun hc => ?_) (fun hc => ?_)
    · have h := h.1 hc
      refine e_c hP rfl ?_
      obtain ⟨hs3, h⟩ := h
      refine e_add hP rfl hs3 ?_
      refine e_st (L' := [some (.inr (.inr (t + 1))), some (.inl (x1 + (0 : Int))), some (.inl x2)]) hP rfl rfl ?_
      obtain ⟨hs4, h⟩ := h
      refine e_inc (L' := [some (.inr (.inr (t + 1))), some (.inl (x1 + (0 : Int))), some (.inl (x2 + 1))]) hP rfl rfl hs4 rfl ?_
      refine e_go hP rfl ?_
      exact h
    · have h := h.2 hc
      refine e_c hP rfl ?_
      refine e_go hP rfl ?_
      obtain ⟨hs5, h⟩ := h
      refine e_add hP rfl hs5 ?_
      refine e_st (L' := [some (.inr (.inr (t + 1))), some (.inl (x1 + (1 : Int))), some (.inl x2)]) hP rfl rfl ?_
      obtain ⟨hs6, h⟩ := h
      refine e_inc (L' := [some (.inr (.inr (t + 1))), some (.inl (x1 + (1 : Int))), some (.inl (x2 + 1))]) hP rfl rfl hs6 rfl ?_
      refine e_go hP rfl ?_
      exact h
theorem r_X7_suits_0 {S : Shp} {M : Mem} {Q : Res → Prop} (hS : KC S) {t : Nat} (ht : t ∈ bx_tw) {p1 p2 p3 : Int} (h : ((p1 = (-4 : Int) → Q (S, M, some (.inl (1 : Int)))) ∧ (p1 ≠ (-4 : Int) → ((p2 ≠ (-4 : Int) → (0 ≤ p1 ∧ p1 < 26) ∧ (0 ≤ p2 ∧ p2 < 26) ∧ (inR ((M (t + 8) p1.toNat) - (M (t + 8) p2.toNat))) ∧ (inR (-((M (t + 8) p1.toNat) - (M (t + 8) p2.toNat)))) ∧ ((p3 < (if 0 ≤ ((M (t + 8) p1.toNat) - (M (t + 8) p2.toNat)) then ((M (t + 8) p1.toNat) - (M (t + 8) p2.toNat)) else -((M (t + 8) p1.toNat) - (M (t + 8) p2.toNat))) → Q (S, M, some (.inl (0 : Int)))) ∧ ((if 0 ≤ ((M (t + 8) p1.toNat) - (M (t + 8) p2.toNat)) then ((M (t + 8) p1.toNat) - (M (t + 8) p2.toNat)) else -((M (t + 8) p1.toNat) - (M (t + 8) p2.toNat))) ≤ p3 → Ca 72 [.inr (.inr (t + 1)), .inl p1, .inl p2] S M (fun r => ∃ (M5 : Mem) (v6 : Int), r = (S, M5, some (.inl v6)) ∧ ((v6 ≠ 0 → Q (S, M5, some (.inl (0 : Int)))) ∧ (v6 = 0 → Q (S, M5, some (.inl (1 : Int))))))))) ∧ (p2 = (-4 : Int) → Q (S, M, some (.inl (1 : Int)))))))) : Ca 83 [.inr (.inr (t + 1)), .inl p1, .inl p2, .inl p3] S M Q := by
  have hP : PR 83 = (bc_83, 4) := rfl
  refine ⟨Nat.le_of_ble_eq_true rfl, ?_⟩
  show En 83 0 [some (.inr (.inr (t + 1))), some (.inl p1), some (.inl p2), some (.inl p3)] [] S M Q
  refine e_ld hP rfl rfl ?_
  refine e_c hP rfl ?_
  refine e_ceq hP rfl (fun hc => ?_) (fun hc => ?_)
  · have h := h.1 hc
    refine e_c hP rfl ?_
    exact e_ret hP rfl rfl h
  · have h := h.2 hc
    refine e_ld hP rfl rfl ?_
    refine e_c hP rfl ?_
    refine e_cne hP rfl (fun hc => ?_) (fun hc => ?_)
    · have h := h.1 hc
      refine e_ldR hP rfl rfl (by have := tw_4 _ ht; omega) ?_
      refine e_gR (a := 7) (w := t + 9) t (tw_o hS ht) hP rfl (by decide) rfl ?_
      refine e_ld hP rfl rfl ?_
      obtain ⟨hs1, h⟩ := h
      refine e_al (t + 8) (tw_a8 hS ht) hP rfl hs1 ?_
      refine e_ldR hP rfl rfl (by have := tw_4 _ ht; omega) ?_
      refine e_gR (a := 7) (w := t + 9) t (tw_o hS ht) hP rfl (by decide) rfl ?_
      refine e_ld hP rfl rfl ?_
      obtain ⟨hs2, h⟩ := h
      refine e_al (t + 8) (tw_a8 hS ht) hP rfl hs2 ?_
      obtain ⟨hs3, h⟩ := h
      refine e_sub hP rfl hs3 ?_
      obtain ⟨hs4, h⟩ := h
      refine e_abs hP rfl (Nat.le_of_ble_eq_true rfl) hs4 ?_
      refine e_ld hP rfl rfl ?_
      refine e_cgt hP rfl (fun hc => ?_) (fun hc => ?_)
      · have h := h.1 hc
        refine e_c hP rfl ?_
        exact e_ret hP rfl rfl h
      · have h := h.2 hc
        refine e_ldR hP rfl rfl (by have := tw_4 _ ht; omega) ?_
        refine e_ld hP rfl rfl ?_
        refine e_ld hP rfl rfl ?_
        refine e_call hP rfl rfl rfl (Nat.le_of_ble_eq_true rfl) (Nat.le_of_ble_eq_true rfl) (rcv0 (tw_o hS ht) (by have := tw_4 _ ht; omega)) ?_
        refine Ca.mono h (fun r hr => ?_)
        obtain ⟨M5, v6, rfl, h⟩ := hr
        show En 83 24 [some (.inr (.inr (t + 1))), some (.inl p1), some (.inl p2), some (.inl p3)] [.inl v6] S M5 Q
        refine e_zne hP rfl (fun hc => ?_) (fun hc => ?_)
        · have h := h.1 hc
          refine e_c hP rfl ?_
          exact e_ret hP rfl rfl h
        · have h := h.2 hc
          refine e_c hP rfl ?_
          refine e_go hP rfl ?_
          exact e_ret hP rfl rfl h
    · have h := h.2 hc
      refine e_c hP rfl ?_
      exact e_ret hP rfl rfl h
theorem r_X7_mayWed_0 {S : Shp} {M : Mem} {Q : Res → Prop} (hS : KC S) {t : Nat} (ht : t ∈ bx_tw) {p1 p2 p3 : Int} (h : (0 ≤ p1 ∧ p1 < 8) ∧ (((M (t + 5) p1.toNat) ≠ (-4 : Int) → Q (S, M, some (.inl (0 : Int)))) ∧ ((M (t + 5) p1.toNat) = (-4 : Int) → (0 ≤ p2 ∧ p2 < 8) ∧ (((M (t + 5) p2.toNat) ≠ (-4 : Int) → Q (S, M, some (.inl (0 : Int)))) ∧ ((M (t + 5) p2.toNat) = (-4 : Int) → Ca 76 [.inr (.inr (t + 1)), .inl p1] S M (fun r => ∃ (M3 : Mem) (v4 : Int), r = (S, M3, some (.inl v4)) ∧ Ca 76 [.inr (.inr (t + 1)), .inl p2] S M3 (fun r => ∃ (M5 : Mem) (v6 : Int), r = (S, M5, some (.inl v6)) ∧ Ca 83 [.inr (.inr (t + 1)), .inl v4, .inl v6, .inl p3] S M5 (fun r => ∃ (M7 : Mem) (v8 : Int), r = (S, M7, some (.inl v8)) ∧ ((v8 = 0 → Q (S, M7, some (.inl (0 : Int)))) ∧ (v8 ≠ 0 → Q (S, M7, some (.inl (1 : Int))))))))))))) : Ca 84 [.inr (.inr (t + 1)), .inl p1, .inl p2, .inl p3] S M Q := by
  have hP : PR 84 = (bc_84, 4) := rfl
  refine ⟨Nat.le_of_ble_eq_true rfl, ?_⟩
  show En 84 0 [some (.inr (.inr (t + 1))), some (.inl p1), some (.inl p2), some (.inl p3)] [] S M Q
  refine e_ldR hP rfl rfl (by have := tw_4 _ ht; omega) ?_
  refine e_gR (a := 7) (w := t + 6) t (tw_o hS ht) hP rfl (by decide) rfl ?_
  refine e_ld hP rfl rfl ?_
  obtain ⟨hs1, h⟩ := h
  refine e_al (t + 5) (tw_a5 hS ht) hP rfl hs1 ?_
  refine e_c hP rfl ?_
  refine e_cne hP rfl (fun hc => ?_) (fun hc => ?_)
  · have h := h.1 hc
    refine e_c hP rfl ?_
    exact e_ret hP rfl rfl h
  · have h := h.2 hc
    refine e_ldR hP rfl rfl (by have := tw_4 _ ht; omega) ?_
    refine e_gR (a := 7) (w := t + 6) t (tw_o hS ht) hP rfl (by decide) rfl ?_
    refine e_ld hP rfl rfl ?_
    obtain ⟨hs2, h⟩ := h
    refine e_al (t + 5) (tw_a5 hS ht) hP rfl hs2 ?_
    refine e_c hP rfl ?_
    refine e_cne hP rfl (fun hc => ?_) (fun hc => ?_)
    · have h := h.1 hc
      refine e_c hP rfl ?_
      exact e_ret hP rfl rfl h
    · have h := h.2 hc
      refine e_ldR hP rfl rfl (by have := tw_4 _ ht; omega) ?_
      refine e_ldR hP rfl rfl (by have := tw_4 _ ht; omega) ?_
      refine e_ld hP rfl rfl ?_
      refine e_call hP rfl rfl rfl (Nat.le_of_ble_eq_true rfl) (Nat.le_of_ble_eq_true rfl) (rcv0 (tw_o hS ht) (by have := tw_4 _ ht; omega)) ?_
      refine Ca.mono h (fun r hr => ?_)
      obtain ⟨M3, v4, rfl, h⟩ := hr
      show En 84 16 [some (.inr (.inr (t + 1))), some (.inl p1), some (.inl p2), some (.inl p3)] [.inl v4, .inr (.inr (t + 1))] S M3 Q
      refine e_ldR hP rfl rfl (by have := tw_4 _ ht; omega) ?_
      refine e_ld hP rfl rfl ?_
      refine e_call hP rfl rfl rfl (Nat.le_of_ble_eq_true rfl) (Nat.le_of_ble_eq_true rfl) (rcv0 (tw_o hS ht) (by have := tw_4 _ ht; omega)) ?_
      refine Ca.mono h (fun r hr => ?_)
      obtain ⟨M5, v6, rfl, h⟩ := hr
      show En 84 19 [some (.inr (.inr (t + 1))), some (.inl p1), some (.inl p2), some (.inl p3)] [.inl v6, .inl v4, .inr (.inr (t + 1))] S M5 Q
      refine e_ld hP rfl rfl ?_
      refine e_call hP rfl rfl rfl (Nat.le_of_ble_eq_true rfl) (Nat.le_of_ble_eq_true rfl) (rcv0 (tw_o hS ht) (by have := tw_4 _ ht; omega)) ?_
      refine Ca.mono h (fun r hr => ?_)
      obtain ⟨M7, v8, rfl, h⟩ := hr
      show En 84 21 [some (.inr (.inr (t + 1))), some (.inl p1), some (.inl p2), some (.inl p3)] [.inl v8] S M7 Q
      refine e_zeq hP rfl (fun hc => ?_) (fun hc => ?_)
      · have h := h.1 hc
        refine e_c hP rfl ?_
        exact e_ret hP rfl rfl h
      · have h := h.2 hc
        refine e_c hP rfl ?_
        refine e_go hP rfl ?_
        exact e_ret hP rfl rfl h
theorem r_X7_countWed_0 {S : Shp} {M : Mem} {Q : Res → Prop} (hS : KC S) {t : Nat} (ht : t ∈ bx_tw) (h : En 85 4 [some (.inr (.inr (t + 1))), some (.inl (0 : Int)), some (.inl (0 : Int))] [] S M Q) : Ca 85 [.inr (.inr (t + 1))] S M Q := by
  have hP : PR 85 = (bc_85, 3) := rfl
  refine ⟨Nat.le_of_ble_eq_true rfl, ?_⟩
  show En 85 0 [some (.inr (.inr (t + 1))), none, none] [] S M Q
  refine e_c hP rfl ?_
  refine e_st (L' := [some (.inr (.inr (t + 1))), some (.inl (0 : Int)), none]) hP rfl rfl ?_
  refine e_c hP rfl ?_
  refine e_st (L' := [some (.inr (.inr (t + 1))), some (.inl (0 : Int)), some (.inl (0 : Int))]) hP rfl rfl ?_
  exact h
theorem r_X7_countWed_4 {S : Shp} {M : Mem} {Q : Res → Prop} (hS : KC S) {t : Nat} (ht : t ∈ bx_tw) {x1 x2 : Int} (h : (((M t 0) ≤ x2 → Q (S, M, some (.inl x1))) ∧ (x2 < (M t 0) → (0 ≤ x2 ∧ x2 < 8) ∧ (((M (t + 5) x2.toNat) ≠ (-4 : Int) → (inR (x1 + (1 : Int))) ∧ (inR (x2 + 1)) ∧ En 85 4 [some (.inr (.inr (t + 1))), some (.inl (x1 + (1 : Int))), some (.inl (x2 + 1))] [] S M Q) ∧ ((M (t + 5) x2.toNat) = (-4 : Int) → (inR (x1 + (0 : Int))) ∧ (inR (x2 + 1)) ∧ En 85 4 [some (.inr (.inr (t + 1))), some (.inl (x1 + (0 : Int))), some (.inl (x2 + 1))] [] S M Q))))) : En 85 4 [some (.inr (.inr (t + 1))), some (.inl x1), some (.inl x2)] [] S M Q := by
  have hP : PR 85 = (bc_85, 3) := rfl
  refine e_ld hP rfl rfl ?_
  refine e_ldR hP rfl rfl (by have := tw_4 _ ht; omega) ?_
  refine e_gI (a := 7) t (tw_o hS ht) hP rfl (by decide) ?_
  refine e_cge hP rfl (fun hc => ?_) (fun hc => ?_)
  · have h := h.1 hc
    refine e_ld hP rfl rfl ?_
    exact e_ret hP rfl rfl h
  · have h := h.2 hc
    refine e_ld hP rfl rfl ?_
    refine e_ldR hP rfl rfl (by have := tw_4 _ ht; omega) ?_
    refine e_gR (a := 7) (w := t + 6) t (tw_o hS ht) hP rfl (by decide) rfl ?_
    refine e_ld hP rfl rfl ?_
    obtain ⟨hs1, h⟩ := h
    refine e_al (t + 5) (tw_a5 hS ht) hP rfl hs1 ?_
    refine e_c hP rfl ?_
    refine e_cne hP rfl (fun hc => ?_) (fun hc => ?_)
    · have h := h.1 hc
      refine e_c hP rfl ?_
      obtain ⟨hs2, h⟩ := h
      refine e_add hP rfl hs2 ?_
      refine e_st (L' := [some (.inr (.inr (t + 1))), some (.inl (x1 + (1 : Int))), some (.inl x2)]) hP rfl rfl ?_
      obtain ⟨hs3, h⟩ := h
      refine e_inc (L' := [some (.inr (.inr (t + 1))), some (.inl (x1 + (1 : Int))), some (.inl (x2 + 1))]) hP rfl rfl hs3 rfl ?_
      refine e_go hP rfl ?_
      exact h
    · have h := h.2 hc
      refine e_c hP rfl ?_
      refine e_go hP rfl ?_
      obtain ⟨hs4, h⟩ := h
      refine e_add hP rfl hs4 ?_
      refine e_st (L' := [some (.inr (.inr (t + 1))), some (.inl (x1 + (0 : Int))), some (.inl x2)]) hP rfl rfl ?_
      obtain ⟨hs5, h⟩ := h
      refine e_inc (L' := [some (.inr (.inr (t + 1))), some (.inl (x1 + (0 : Int))), some (.inl (x2 + 1))]) hP rfl rfl hs5 rfl ?_
      refine e_go hP rfl ?_
      exact h
theorem r_X7_mayLend_0 {S : Shp} {M : Mem} {Q : Res → Prop} (hS : KC S) {t : Nat} (ht : t ∈ bx_tw) {p1 p2 : Int} (h : Ca 74 [.inr (.inr (t + 1)), .inl p1] S M (fun r => ∃ (M1 : Mem) (v2 : Int), r = (S, M1, some (.inl v2)) ∧ ((v2 ≠ 0 → Q (S, M1, some (.inl (1 : Int)))) ∧ (v2 = 0 → Ca 74 [.inr (.inr (t + 1)), .inl p2] S M1 (fun r => ∃ (M3 : Mem) (v4 : Int), r = (S, M3, some (.inl v4)) ∧ ((v4 ≠ 0 → Q (S, M3, some (.inl (1 : Int)))) ∧ (v4 = 0 → Ca 76 [.inr (.inr (t + 1)), .inl p1] S M3 (fun r => ∃ (M5 : Mem) (v6 : Int), r = (S, M5, some (.inl v6)) ∧ (0 ≤ v6 ∧ v6 < 26) ∧ Ca 76 [.inr (.inr (t + 1)), .inl p2] S M5 (fun r => ∃ (M8 : Mem) (v9 : Int), r = (S, M8, some (.inl v9)) ∧ (0 ≤ v9 ∧ v9 < 26) ∧ (((M8 (t + 8) v9.toNat) ≤ (M5 (t + 8) v6.toNat) → Q (S, M8, some (.inl (0 : Int)))) ∧ ((M5 (t + 8) v6.toNat) < (M8 (t + 8) v9.toNat) → Q (S, M8, some (.inl (1 : Int)))))))))))))) : Ca 86 [.inr (.inr (t + 1)), .inl p1, .inl p2] S M Q := by
  have hP : PR 86 = (bc_86, 3) := rfl
  refine ⟨Nat.le_of_ble_eq_true rfl, ?_⟩
  show En 86 0 [some (.inr (.inr (t + 1))), some (.inl p1), some (.inl p2)] [] S M Q
  refine e_ldR hP rfl rfl (by have := tw_4 _ ht; omega) ?_
  refine e_ld hP rfl rfl ?_
  refine e_call hP rfl rfl rfl (Nat.le_of_ble_eq_true rfl) (Nat.le_of_ble_eq_true rfl) (rcv0 (tw_o hS ht) (by have := tw_4 _ ht; omega)) ?_
  refine Ca.mono h (fun r hr => ?_)
  obtain ⟨M1, v2, rfl, h⟩ := hr
  show En 86 3 [some (.inr (.inr (t + 1))), some (.inl p1), some (.inl p2)] [.inl v2] S M1 Q
  refine e_zne hP rfl (fun hc => ?_) (fun hc => ?_)
  · have h := h.1 hc
    refine e_c hP rfl ?_
    refine e_go hP rfl ?_
    exact e_ret hP rfl rfl h
  · have h := h.2 hc
    refine e_ldR hP rfl rfl (by have := tw_4 _ ht; omega) ?_
    refine e_ld hP rfl rfl ?_
    refine e_call hP rfl rfl rfl (Nat.le_of_ble_eq_true rfl) (Nat.le_of_ble_eq_true rfl) (rcv0 (tw_o hS ht) (by have := tw_4 _ ht; omega)) ?_
    refine Ca.mono h (fun r hr => ?_)
    obtain ⟨M3, v4, rfl, h⟩ := hr
    show En 86 7 [some (.inr (.inr (t + 1))), some (.inl p1), some (.inl p2)] [.inl v4] S M3 Q
    refine e_zne hP rfl (fun hc => ?_) (fun hc => ?_)
    · have h := h.1 hc
      refine e_c hP rfl ?_
      refine e_go hP rfl ?_
      exact e_ret hP rfl rfl h
    · have h := h.2 hc
      refine e_ldR hP rfl rfl (by have := tw_4 _ ht; omega) ?_
      refine e_gR (a := 7) (w := t + 9) t (tw_o hS ht) hP rfl (by decide) rfl ?_
      refine e_ldR hP rfl rfl (by have := tw_4 _ ht; omega) ?_
      refine e_ld hP rfl rfl ?_
      refine e_call hP rfl rfl rfl (Nat.le_of_ble_eq_true rfl) (Nat.le_of_ble_eq_true rfl) (rcv0 (tw_o hS ht) (by have := tw_4 _ ht; omega)) ?_
      refine Ca.mono h (fun r hr => ?_)
      obtain ⟨M5, v6, rfl, h⟩ := hr
      show En 86 13 [some (.inr (.inr (t + 1))), some (.inl p1), some (.inl p2)] [.inl v6, .inr (.inr (t + 9))] S M5 Q
      obtain ⟨hs7, h⟩ := h
      refine e_al (t + 8) (tw_a8 hS ht) hP rfl hs7 ?_
      refine e_ldR hP rfl rfl (by have := tw_4 _ ht; omega) ?_
      refine e_gR (a := 7) (w := t + 9) t (tw_o hS ht) hP rfl (by decide) rfl ?_
      refine e_ldR hP rfl rfl (by have := tw_4 _ ht; omega) ?_
      refine e_ld hP rfl rfl ?_
      refine e_call hP rfl rfl rfl (Nat.le_of_ble_eq_true rfl) (Nat.le_of_ble_eq_true rfl) (rcv0 (tw_o hS ht) (by have := tw_4 _ ht; omega)) ?_
      refine Ca.mono h (fun r hr => ?_)
      obtain ⟨M8, v9, rfl, h⟩ := hr
      show En 86 19 [some (.inr (.inr (t + 1))), some (.inl p1), some (.inl p2)] [.inl v9, .inr (.inr (t + 9)), .inl (M5 (t + 8) v6.toNat)] S M8 Q
      obtain ⟨hs10, h⟩ := h
      refine e_al (t + 8) (tw_a8 hS ht) hP rfl hs10 ?_
      refine e_cge hP rfl (fun hc => ?_) (fun hc => ?_)
      · have h := h.1 hc
        refine e_c hP rfl ?_
        exact e_ret hP rfl rfl h
      · have h := h.2 hc
        refine e_c hP rfl ?_
        refine e_go hP rfl ?_
        exact e_ret hP rfl rfl h
theorem r_X7_pay_0 {S : Shp} {M : Mem} {Q : Res → Prop} (hS : KC S) {t : Nat} (ht : t ∈ bx_tw) {p1 p2 p3 : Int} (h : (0 ≤ p1 ∧ p1 < 8) ∧ (inR ((M (t + 4) p1.toNat) - p3)) ∧ (0 ≤ p1 ∧ p1 < 8) ∧ (0 ≤ p2 ∧ p2 < 8) ∧ (inR (((up2 M (t + 4) p1.toNat ((M (t + 4) p1.toNat) - p3)) (t + 4) p2.toNat) + p3)) ∧ (0 ≤ p2 ∧ p2 < 8) ∧ Q (S, up2 (up2 M (t + 4) p1.toNat ((M (t + 4) p1.toNat) - p3)) (t + 4) p2.toNat (((up2 M (t + 4) p1.toNat ((M (t + 4) p1.toNat) - p3)) (t + 4) p2.toNat) + p3), none)) : Ca 87 [.inr (.inr (t + 1)), .inl p1, .inl p2, .inl p3] S M Q := by
  have hP : PR 87 = (bc_87, 4) := rfl
  refine ⟨Nat.le_of_ble_eq_true rfl, ?_⟩
  show En 87 0 [some (.inr (.inr (t + 1))), some (.inl p1), some (.inl p2), some (.inl p3)] [] S M Q
  refine e_ldR hP rfl rfl (by have := tw_4 _ ht; omega) ?_
  refine e_gR (a := 7) (w := t + 5) t (tw_o hS ht) hP rfl (by decide) rfl ?_
  refine e_ld hP rfl rfl ?_
  refine e_dup2 hP rfl ?_
  obtain ⟨hs1, h⟩ := h
  refine e_al (t + 4) (tw_a4 hS ht) hP rfl hs1 ?_
  refine e_ld hP rfl rfl ?_
  obtain ⟨hs2, h⟩ := h
  refine e_sub hP rfl hs2 ?_
  obtain ⟨hs3, h⟩ := h
  refine e_as (t + 4) (tw_a4 hS ht) (by have := tw_4 _ ht; omega) hP rfl hs3 ?_
  refine e_ldR hP rfl rfl (by have := tw_4 _ ht; omega) ?_
  refine e_gR (a := 7) (w := t + 5) t (tw_o hS ht) hP rfl (by decide) rfl ?_
  refine e_ld hP rfl rfl ?_
  refine e_dup2 hP rfl ?_
  obtain ⟨hs4, h⟩ := h
  refine e_al (t + 4) (tw_a4 hS ht) hP rfl hs4 ?_
  refine e_ld hP rfl rfl ?_
  obtain ⟨hs5, h⟩ := h
  refine e_add hP rfl hs5 ?_
  obtain ⟨hs6, h⟩ := h
  refine e_as (t + 4) (tw_a4 hS ht) (by have := tw_4 _ ht; omega) hP rfl hs6 ?_
  exact e_retv hP rfl h
theorem r_X7_debt_0 {S : Shp} {M : Mem} {Q : Res → Prop} (hS : KC S) {t : Nat} (ht : t ∈ bx_tw) {p1 p2 : Int} (h : (inR (p1 * (8 : Int))) ∧ (inR ((p1 * (8 : Int)) + p2)) ∧ (0 ≤ ((p1 * (8 : Int)) + p2) ∧ ((p1 * (8 : Int)) + p2) < 64) ∧ Q (S, M, some (.inl (M (t + 7) ((p1 * (8 : Int)) + p2).toNat)))) : Ca 88 [.inr (.inr (t + 1)), .inl p1, .inl p2] S M Q := by
  have hP : PR 88 = (bc_88, 3) := rfl
  refine ⟨Nat.le_of_ble_eq_true rfl, ?_⟩
  show En 88 0 [some (.inr (.inr (t + 1))), some (.inl p1), some (.inl p2)] [] S M Q
  refine e_ldR hP rfl rfl (by have := tw_4 _ ht; omega) ?_
  refine e_gR (a := 7) (w := t + 8) t (tw_o hS ht) hP rfl (by decide) rfl ?_
  refine e_ld hP rfl rfl ?_
  refine e_c hP rfl ?_
  obtain ⟨hs1, h⟩ := h
  refine e_mul hP rfl hs1 ?_
  refine e_ld hP rfl rfl ?_
  obtain ⟨hs2, h⟩ := h
  refine e_add hP rfl hs2 ?_
  obtain ⟨hs3, h⟩ := h
  refine e_al (t + 7) (tw_a7 hS ht) hP rfl hs3 ?_
  exact e_ret hP rfl rfl h
theorem r_X7_setDebt_0 {S : Shp} {M : Mem} {Q : Res → Prop} (hS : KC S) {t : Nat} (ht : t ∈ bx_tw) {p1 p2 p3 : Int} (h : (inR (p1 * (8 : Int))) ∧ (inR ((p1 * (8 : Int)) + p2)) ∧ (0 ≤ ((p1 * (8 : Int)) + p2) ∧ ((p1 * (8 : Int)) + p2) < 64) ∧ Q (S, up2 M (t + 7) ((p1 * (8 : Int)) + p2).toNat p3, none)) : Ca 89 [.inr (.inr (t + 1)), .inl p1, .inl p2, .inl p3] S M Q := by
  have hP : PR 89 = (bc_89, 4) := rfl
  refine ⟨Nat.le_of_ble_eq_true rfl, ?_⟩
  show En 89 0 [some (.inr (.inr (t + 1))), some (.inl p1), some (.inl p2), some (.inl p3)] [] S M Q
  refine e_ldR hP rfl rfl (by have := tw_4 _ ht; omega) ?_
  refine e_gR (a := 7) (w := t + 8) t (tw_o hS ht) hP rfl (by decide) rfl ?_
  refine e_ld hP rfl rfl ?_
  refine e_c hP rfl ?_
  obtain ⟨hs1, h⟩ := h
  refine e_mul hP rfl hs1 ?_
  refine e_ld hP rfl rfl ?_
  obtain ⟨hs2, h⟩ := h
  refine e_add hP rfl hs2 ?_
  refine e_ld hP rfl rfl ?_
  obtain ⟨hs3, h⟩ := h
  refine e_as (t + 7) (tw_a7 hS ht) (by have := tw_4 _ ht; omega) hP rfl hs3 ?_
  exact e_retv hP rfl h
theorem r_X7_balance_0 {S : Shp} {M : Mem} {Q : Res → Prop} (hS : KC S) {t : Nat} (ht : t ∈ bx_tw) {p1 : Int} (h : En 90 4 [some (.inr (.inr (t + 1))), some (.inl p1), some (.inl (0 : Int)), some (.inl (0 : Int))] [] S M Q) : Ca 90 [.inr (.inr (t + 1)), .inl p1] S M Q := by
  have hP : PR 90 = (bc_90, 4) := rfl
  refine ⟨Nat.le_of_ble_eq_true rfl, ?_⟩
  show En 90 0 [some (.inr (.inr (t + 1))), some (.inl p1), none, none] [] S M Q
  refine e_c hP rfl ?_
  refine e_st (L' := [some (.inr (.inr (t + 1))), some (.inl p1), some (.inl (0 : Int)), none]) hP rfl rfl ?_
  refine e_c hP rfl ?_
  refine e_st (L' := [some (.inr (.inr (t + 1))), some (.inl p1), some (.inl (0 : Int)), some (.inl (0 : Int))]) hP rfl rfl ?_
  exact h
theorem r_X7_balance_4 {S : Shp} {M : Mem} {Q : Res → Prop} (hS : KC S) {t : Nat} (ht : t ∈ bx_tw) {x1 x2 x3 : Int} (h : (((M t 0) ≤ x3 → Q (S, M, some (.inl x2))) ∧ (x3 < (M t 0) → Ca 88 [.inr (.inr (t + 1)), .inl x1, .inl x3] S M (fun r => ∃ (M1 : Mem) (v2 : Int), r = (S, M1, some (.inl v2)) ∧ Ca 88 [.inr (.inr (t + 1)), .inl x3, .inl x1] S M1 (fun r => ∃ (M3 : Mem) (v4 : Int), r = (S, M3, some (.inl v4)) ∧ (inR (v2 - v4)) ∧ (inR (x2 + (v2 - v4))) ∧ (inR (x3 + 1)) ∧ En 90 4 [some (.inr (.inr (t + 1))), some (.inl x1), some (.inl (x2 + (v2 - v4))), some (.inl (x3 + 1))] [] S M3 Q))))) : En 90 4 [some (.inr (.inr (t + 1))), some (.inl x1), some (.inl x2), some (.inl x3)] [] S M Q := by
  have hP : PR 90 = (bc_90, 4) := rfl
  refine e_ld hP rfl rfl ?_
  refine e_ldR hP rfl rfl (by have := tw_4 _ ht; omega) ?_
  refine e_gI (a := 7) t (tw_o hS ht) hP rfl (by decide) ?_
  refine e_cge hP rfl (fun hc => ?_) (fun hc => ?_)
  · have h := h.1 hc
    refine e_ld hP rfl rfl ?_
    exact e_ret hP rfl rfl h
  · have h := h.2 hc
    refine e_ld hP rfl rfl ?_
    refine e_ldR hP rfl rfl (by have := tw_4 _ ht; omega) ?_
    refine e_ld hP rfl rfl ?_
    refine e_ld hP rfl rfl ?_
    refine e_call hP rfl rfl rfl (Nat.le_of_ble_eq_true rfl) (Nat.le_of_ble_eq_true rfl) (rcv0 (tw_o hS ht) (by have := tw_4 _ ht; omega)) ?_
    refine Ca.mono h (fun r hr => ?_)
    obtain ⟨M1, v2, rfl, h⟩ := hr
    show En 90 13 [some (.inr (.inr (t + 1))), some (.inl x1), some (.inl x2), some (.inl x3)] [.inl v2, .inl x2] S M1 Q
    refine e_ldR hP rfl rfl (by have := tw_4 _ ht; omega) ?_
    refine e_ld hP rfl rfl ?_
    refine e_ld hP rfl rfl ?_
    refine e_call hP rfl rfl rfl (Nat.le_of_ble_eq_true rfl) (Nat.le_of_ble_eq_true rfl) (rcv0 (tw_o hS ht) (by have := tw_4 _ ht; omega)) ?_
    refine Ca.mono h (fun r hr => ?_)
    obtain ⟨M3, v4, rfl, h⟩ := hr
    show En 90 17 [some (.inr (.inr (t + 1))), some (.inl x1), some (.inl x2), some (.inl x3)] [.inl v4, .inl v2, .inl x2] S M3 Q
    obtain ⟨hs5, h⟩ := h
    refine e_sub hP rfl hs5 ?_
    obtain ⟨hs6, h⟩ := h
    refine e_add hP rfl hs6 ?_
    refine e_st (L' := [some (.inr (.inr (t + 1))), some (.inl x1), some (.inl (x2 + (v2 - v4))), some (.inl x3)]) hP rfl rfl ?_
    obtain ⟨hs7, h⟩ := h
    refine e_inc (L' := [some (.inr (.inr (t + 1))), some (.inl x1), some (.inl (x2 + (v2 - v4))), some (.inl (x3 + 1))]) hP rfl rfl hs7 rfl ?_
    refine e_go hP rfl ?_
    exact h
theorem r_X7_quarrelAtTable_0 {S : Shp} {M : Mem} {Q : Res → Prop} (hS : KC S) {t : Nat} (ht : t ∈ bx_tw) {p1 p2 : Int} (h : Ca 74 [.inr (.inr (t + 1)), .inl p1] S M (fun r => ∃ (M1 : Mem) (v2 : Int), r = (S, M1, some (.inl v2)) ∧ ((v2 ≠ 0 → Q (S, M1, some (.inl (0 : Int)))) ∧ (v2 = 0 → Ca 74 [.inr (.inr (t + 1)), .inl p2] S M1 (fun r => ∃ (M3 : Mem) (v4 : Int), r = (S, M3, some (.inl v4)) ∧ ((v4 ≠ 0 → Q (S, M3, some (.inl (0 : Int)))) ∧ (v4 = 0 → Ca 76 [.inr (.inr (t + 1)), .inl p1] S M3 (fun r => ∃ (M5 : Mem) (v6 : Int), r = (S, M5, some (.inl v6)) ∧ Ca 76 [.inr (.inr (t + 1)), .inl p2] S M5 (fun r => ∃ (M7 : Mem) (v8 : Int), r = (S, M7, some (.inl v8)) ∧ Ca 72 [.inr (.inr (t + 1)), .inl v6, .inl v8] S M7 (fun r => ∃ (M9 : Mem) (v10 : Int), r = (S, M9, some (.inl v10)) ∧ ((v10 = 0 → Q (S, M9, some (.inl (0 : Int)))) ∧ (v10 ≠ 0 → Q (S, M9, some (.inl (1 : Int))))))))))))))) : Ca 91 [.inr (.inr (t + 1)), .inl p1, .inl p2] S M Q := by
  have hP : PR 91 = (bc_91, 3) := rfl
  refine ⟨Nat.le_of_ble_eq_true rfl, ?_⟩
  show En 91 0 [some (.inr (.inr (t + 1))), some (.inl p1), some (.inl p2)] [] S M Q
  refine e_ldR hP rfl rfl (by have := tw_4 _ ht; omega) ?_
  refine e_ld hP rfl rfl ?_
  refine e_call hP rfl rfl rfl (Nat.le_of_ble_eq_true rfl) (Nat.le_of_ble_eq_true rfl) (rcv0 (tw_o hS ht) (by have := tw_4 _ ht; omega)) ?_
  refine Ca.mono h (fun r hr => ?_)
  obtain ⟨M1, v2, rfl, h⟩ := hr
  show En 91 3 [some (.inr (.inr (t + 1))), some (.inl p1), some (.inl p2)] [.inl v2] S M1 Q
  refine e_zne hP rfl (fun hc => ?_) (fun hc => ?_)
  · have h := h.1 hc
    refine e_c hP rfl ?_
    exact e_ret hP rfl rfl h
  · have h := h.2 hc
    refine e_ldR hP rfl rfl (by have := tw_4 _ ht; omega) ?_
    refine e_ld hP rfl rfl ?_
    refine e_call hP rfl rfl rfl (Nat.le_of_ble_eq_true rfl) (Nat.le_of_ble_eq_true rfl) (rcv0 (tw_o hS ht) (by have := tw_4 _ ht; omega)) ?_
    refine Ca.mono h (fun r hr => ?_)
    obtain ⟨M3, v4, rfl, h⟩ := hr
    show En 91 7 [some (.inr (.inr (t + 1))), some (.inl p1), some (.inl p2)] [.inl v4] S M3 Q
    refine e_zne hP rfl (fun hc => ?_) (fun hc => ?_)
    · have h := h.1 hc
      refine e_c hP rfl ?_
      exact e_ret hP rfl rfl h
    · have h := h.2 hc
      refine e_ldR hP rfl rfl (by have := tw_4 _ ht; omega) ?_
      refine e_ldR hP rfl rfl (by have := tw_4 _ ht; omega) ?_
      refine e_ld hP rfl rfl ?_
      refine e_call hP rfl rfl rfl (Nat.le_of_ble_eq_true rfl) (Nat.le_of_ble_eq_true rfl) (rcv0 (tw_o hS ht) (by have := tw_4 _ ht; omega)) ?_
      refine Ca.mono h (fun r hr => ?_)
      obtain ⟨M5, v6, rfl, h⟩ := hr
      show En 91 12 [some (.inr (.inr (t + 1))), some (.inl p1), some (.inl p2)] [.inl v6, .inr (.inr (t + 1))] S M5 Q
      refine e_ldR hP rfl rfl (by have := tw_4 _ ht; omega) ?_
      refine e_ld hP rfl rfl ?_
      refine e_call hP rfl rfl rfl (Nat.le_of_ble_eq_true rfl) (Nat.le_of_ble_eq_true rfl) (rcv0 (tw_o hS ht) (by have := tw_4 _ ht; omega)) ?_
      refine Ca.mono h (fun r hr => ?_)
      obtain ⟨M7, v8, rfl, h⟩ := hr
      show En 91 15 [some (.inr (.inr (t + 1))), some (.inl p1), some (.inl p2)] [.inl v8, .inl v6, .inr (.inr (t + 1))] S M7 Q
      refine e_call hP rfl rfl rfl (Nat.le_of_ble_eq_true rfl) (Nat.le_of_ble_eq_true rfl) (rcv0 (tw_o hS ht) (by have := tw_4 _ ht; omega)) ?_
      refine Ca.mono h (fun r hr => ?_)
      obtain ⟨M9, v10, rfl, h⟩ := hr
      show En 91 16 [some (.inr (.inr (t + 1))), some (.inl p1), some (.inl p2)] [.inl v10] S M9 Q
      refine e_zeq hP rfl (fun hc => ?_) (fun hc => ?_)
      · have h := h.1 hc
        refine e_c hP rfl ?_
        exact e_ret hP rfl rfl h
      · have h := h.2 hc
        refine e_c hP rfl ?_
        refine e_go hP rfl ?_
        exact e_ret hP rfl rfl h
theorem r_X7_drawFirstLetters_0 {S : Shp} {M : Mem} {Q : Res → Prop} (hS : KC S) {t : Nat} (ht : t ∈ bx_tw) {p1 : Int} (h : En 92 2 [some (.inr (.inr (t + 1))), some (.inl p1), some (.inl (0 : Int)), none, none] [] S M Q) : Ca 92 [.inr (.inr (t + 1)), .inl p1] S M Q := by
  have hP : PR 92 = (bc_92, 5) := rfl
  refine ⟨Nat.le_of_ble_eq_true rfl, ?_⟩
  show En 92 0 [some (.inr (.inr (t + 1))), some (.inl p1), none, none, none] [] S M Q
  refine e_c hP rfl ?_
  refine e_st (L' := [some (.inr (.inr (t + 1))), some (.inl p1), some (.inl (0 : Int)), none, none]) hP rfl rfl ?_
  exact h
theorem r_X7_drawFirstLetters_2 {S : Shp} {M : Mem} {Q : Res → Prop} (hS : KC S) {t : Nat} (ht : t ∈ bx_tw) {x1 x2 : Int} (h : (((M t 0) ≤ x2 → Q (S, M, none)) ∧ (x2 < (M t 0) → (inL ((7919 : Int) * x1)) ∧ (inL ((6151 : Int) * x2)) ∧ (inL (((7919 : Int) * x1) + ((6151 : Int) * x2))) ∧ (inL ((((7919 : Int) * x1) + ((6151 : Int) * x2)) + (1 : Int))) ∧ (inL (((((7919 : Int) * x1) + ((6151 : Int) * x2)) + (1 : Int)) * ((((7919 : Int) * x1) + ((6151 : Int) * x2)) + (1 : Int)))) ∧ (0 ≤ (((((7919 : Int) * x1) + ((6151 : Int) * x2)) + (1 : Int)) * ((((7919 : Int) * x1) + ((6151 : Int) * x2)) + (1 : Int))) ∧ 0 < (65521 : Int)) ∧ (0 ≤ ((((((7919 : Int) * x1) + ((6151 : Int) * x2)) + (1 : Int)) * ((((7919 : Int) * x1) + ((6151 : Int) * x2)) + (1 : Int))) % (65521 : Int)) ∧ 0 < (26 : Int)) ∧ (inR (((((((7919 : Int) * x1) + ((6151 : Int) * x2)) + (1 : Int)) * ((((7919 : Int) * x1) + ((6151 : Int) * x2)) + (1 : Int))) % (65521 : Int)) % (26 : Int))) ∧ Ca 77 [.inr (.inr (t + 1)), .inl x2, .inl (((((((7919 : Int) * x1) + ((6151 : Int) * x2)) + (1 : Int)) * ((((7919 : Int) * x1) + ((6151 : Int) * x2)) + (1 : Int))) % (65521 : Int)) % (26 : Int))] S M (fun r => ∃ M9 : Mem, r = (S, M9, none) ∧ (inR (x2 + 1)) ∧ En 92 2 [some (.inr (.inr (t + 1))), some (.inl x1), some (.inl (x2 + 1)), none, none] [] S M9 Q)))) : En 92 2 [some (.inr (.inr (t + 1))), some (.inl x1), some (.inl x2), none, none] [] S M Q := by
  have hP : PR 92 = (bc_92, 5) := rfl
  refine e_ld hP rfl rfl ?_
  refine e_ldR hP rfl rfl (by have := tw_4 _ ht; omega) ?_
  refine e_gI (a := 7) t (tw_o hS ht) hP rfl (by decide) ?_
  refine e_cge hP rfl (fun hc => ?_) (fun hc => ?_)
  · have h := h.1 hc
    exact e_retv hP rfl h
  · have h := h.2 hc
    refine e_lc hP rfl ?_
    refine e_ld hP rfl rfl ?_
    refine e_i2l hP rfl ?_
    obtain ⟨hs1, h⟩ := h
    refine e_lb (z := (7919 : Int) * x1) hP rfl (if_pos hs1) ?_
    refine e_lc hP rfl ?_
    refine e_ld hP rfl rfl ?_
    refine e_i2l hP rfl ?_
    obtain ⟨hs2, h⟩ := h
    refine e_lb (z := (6151 : Int) * x2) hP rfl (if_pos hs2) ?_
    obtain ⟨hs3, h⟩ := h
    refine e_lb (z := ((7919 : Int) * x1) + ((6151 : Int) * x2)) hP rfl (if_pos hs3) ?_
    refine e_lc hP rfl ?_
    obtain ⟨hs4, h⟩ := h
    refine e_lb (z := (((7919 : Int) * x1) + ((6151 : Int) * x2)) + (1 : Int)) hP rfl (if_pos hs4) ?_
    refine e_st (L' := [some (.inr (.inr (t + 1))), some (.inl x1), some (.inl x2), some (.inr (.inl ((((7919 : Int) * x1) + ((6151 : Int) * x2)) + (1 : Int)))), none]) hP rfl rfl ?_
    refine e_ldR hP rfl rfl (by have := tw_4 _ ht; omega) ?_
    refine e_ld hP rfl rfl ?_
    refine e_ld hP rfl rfl ?_
    refine e_ld hP rfl rfl ?_
    obtain ⟨hs5, h⟩ := h
    refine e_lb (z := ((((7919 : Int) * x1) + ((6151 : Int) * x2)) + (1 : Int)) * ((((7919 : Int) * x1) + ((6151 : Int) * x2)) + (1 : Int))) hP rfl (if_pos hs5) ?_
    refine e_lc hP rfl ?_
    obtain ⟨hs6, h⟩ := h
    refine e_lb (z := (((((7919 : Int) * x1) + ((6151 : Int) * x2)) + (1 : Int)) * ((((7919 : Int) * x1) + ((6151 : Int) * x2)) + (1 : Int))) % (65521 : Int)) hP rfl (if_pos hs6) ?_
    refine e_lc hP rfl ?_
    obtain ⟨hs7, h⟩ := h
    refine e_lb (z := ((((((7919 : Int) * x1) + ((6151 : Int) * x2)) + (1 : Int)) * ((((7919 : Int) * x1) + ((6151 : Int) * x2)) + (1 : Int))) % (65521 : Int)) % (26 : Int)) hP rfl (if_pos hs7) ?_
    obtain ⟨hs8, h⟩ := h
    refine e_l2i hP rfl hs8 ?_
    refine e_call hP rfl rfl rfl (Nat.le_of_ble_eq_true rfl) (Nat.le_of_ble_eq_true rfl) (rcv0 (tw_o hS ht) (by have := tw_4 _ ht; omega)) ?_
    refine Ca.mono h (fun r hr => ?_)
    obtain ⟨M9, rfl, h⟩ := hr
    show En 92 29 [some (.inr (.inr (t + 1))), some (.inl x1), some (.inl x2), some (.inr (.inl ((((7919 : Int) * x1) + ((6151 : Int) * x2)) + (1 : Int)))), none] [] S M9 Q
    obtain ⟨hs10, h⟩ := h
    refine e_inc (L' := [some (.inr (.inr (t + 1))), some (.inl x1), some (.inl (x2 + 1)), some (.inr (.inl ((((7919 : Int) * x1) + ((6151 : Int) * x2)) + (1 : Int)))), none]) hP rfl rfl hs10 rfl ?_
    refine e_go hP rfl ?_
    exact en_fg h ⟨Or.inr rfl, Or.inr rfl, Or.inr rfl, Or.inl rfl, Or.inr rfl, trivial⟩
end
