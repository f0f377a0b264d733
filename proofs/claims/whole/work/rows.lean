section
-- ===== PART A: goes FIRST, ahead of the names: the tables' words, and 'selects' of the private methods out of them =====
/-- a private method of a class that the tables say can be made, by its rows of tables_1 -/
def lw_okq (q : MethodName × Nat) : Prop := (q.1.cls ≠ "java/lang/invoke/MethodHandle" ∧ q.1.cls ≠ "java/lang/invoke/VarHandle") ∧ Cond.instantiable q.1.cls q.2 ∈ tables_1 ∧ Cond.privateMethod q.1 ∈ tables_1 ∧ Cond.instanceMethod q.1 ∈ tables_1
theorem lw_p0 : lw_okq (⟨"ByInitials$Page", "readItem", "(LByInitials$Town;)Z"⟩, 5) := ⟨⟨by decide +kernel, by decide +kernel⟩, List.mem_of_getElem? (i := 27) (by decide +kernel), List.mem_of_getElem? (i := 288) (by decide +kernel), List.mem_of_getElem? (i := 289) (by decide +kernel)⟩
theorem lw_p1 : lw_okq (⟨"ByInitials$Page", "sign", "()I"⟩, 5) := ⟨⟨by decide +kernel, by decide +kernel⟩, List.mem_of_getElem? (i := 27) (by decide +kernel), List.mem_of_getElem? (i := 292) (by decide +kernel), List.mem_of_getElem? (i := 293) (by decide +kernel)⟩
theorem lw_p2 : lw_okq (⟨"ByInitials$Page", "readPerson", "(LByInitials$Town;)Z"⟩, 5) := ⟨⟨by decide +kernel, by decide +kernel⟩, List.mem_of_getElem? (i := 27) (by decide +kernel), List.mem_of_getElem? (i := 296) (by decide +kernel), List.mem_of_getElem? (i := 297) (by decide +kernel)⟩
theorem lw_p3 : lw_okq (⟨"ByInitials$Page", "readName", "()I"⟩, 5) := ⟨⟨by decide +kernel, by decide +kernel⟩, List.mem_of_getElem? (i := 27) (by decide +kernel), List.mem_of_getElem? (i := 300) (by decide +kernel), List.mem_of_getElem? (i := 301) (by decide +kernel)⟩
theorem lw_p4 : lw_okq (⟨"ByInitials$Page", "passes", "(I)Z"⟩, 5) := ⟨⟨by decide +kernel, by decide +kernel⟩, List.mem_of_getElem? (i := 27) (by decide +kernel), List.mem_of_getElem? (i := 304) (by decide +kernel), List.mem_of_getElem? (i := 305) (by decide +kernel)⟩
theorem lw_p5 : lw_okq (⟨"ByInitials$Page", "readNumber", "(I)I"⟩, 5) := ⟨⟨by decide +kernel, by decide +kernel⟩, List.mem_of_getElem? (i := 27) (by decide +kernel), List.mem_of_getElem? (i := 308) (by decide +kernel), List.mem_of_getElem? (i := 309) (by decide +kernel)⟩
theorem lw_p6 : lw_okq (⟨"ByInitials$Page", "atFigure", "()Z"⟩, 5) := ⟨⟨by decide +kernel, by decide +kernel⟩, List.mem_of_getElem? (i := 27) (by decide +kernel), List.mem_of_getElem? (i := 312) (by decide +kernel), List.mem_of_getElem? (i := 313) (by decide +kernel)⟩
theorem lw_p7 : lw_okq (⟨"ByInitials$Page", "readGoods", "(LByInitials$Town;)Z"⟩, 5) := ⟨⟨by decide +kernel, by decide +kernel⟩, List.mem_of_getElem? (i := 27) (by decide +kernel), List.mem_of_getElem? (i := 324) (by decide +kernel), List.mem_of_getElem? (i := 325) (by decide +kernel)⟩
theorem lw_p8 : lw_okq (⟨"ByInitials$Page", "readReach", "(LByInitials$Town;)Z"⟩, 5) := ⟨⟨by decide +kernel, by decide +kernel⟩, List.mem_of_getElem? (i := 27) (by decide +kernel), List.mem_of_getElem? (i := 328) (by decide +kernel), List.mem_of_getElem? (i := 329) (by decide +kernel)⟩
theorem lw_p9 : lw_okq (⟨"ByInitials$Page", "readCost", "(LByInitials$Town;)Z"⟩, 5) := ⟨⟨by decide +kernel, by decide +kernel⟩, List.mem_of_getElem? (i := 27) (by decide +kernel), List.mem_of_getElem? (i := 332) (by decide +kernel), List.mem_of_getElem? (i := 333) (by decide +kernel)⟩
theorem lw_p10 : lw_okq (⟨"ByInitials$Page", "readOrder", "(LByInitials$Town;)Z"⟩, 5) := ⟨⟨by decide +kernel, by decide +kernel⟩, List.mem_of_getElem? (i := 27) (by decide +kernel), List.mem_of_getElem? (i := 336) (by decide +kernel), List.mem_of_getElem? (i := 337) (by decide +kernel)⟩
theorem lw_p11 : lw_okq (⟨"ByInitials$Page", "lettersRead", "(I)I"⟩, 5) := ⟨⟨by decide +kernel, by decide +kernel⟩, List.mem_of_getElem? (i := 27) (by decide +kernel), List.mem_of_getElem? (i := 340) (by decide +kernel), List.mem_of_getElem? (i := 341) (by decide +kernel)⟩
theorem lw_p12 : lw_okq (⟨"ByInitials$Page", "readVowels", "(LByInitials$Town;)Z"⟩, 5) := ⟨⟨by decide +kernel, by decide +kernel⟩, List.mem_of_getElem? (i := 27) (by decide +kernel), List.mem_of_getElem? (i := 361) (by decide +kernel), List.mem_of_getElem? (i := 362) (by decide +kernel)⟩
theorem lw_p13 : lw_okq (⟨"ByInitials$Page", "readQuarrel", "(LByInitials$Town;)Z"⟩, 5) := ⟨⟨by decide +kernel, by decide +kernel⟩, List.mem_of_getElem? (i := 27) (by decide +kernel), List.mem_of_getElem? (i := 365) (by decide +kernel), List.mem_of_getElem? (i := 366) (by decide +kernel)⟩
theorem lw_p14 : lw_okq (⟨"ByInitials", "isPerson", "(I)Z"⟩, 12) := ⟨⟨by decide +kernel, by decide +kernel⟩, List.mem_of_getElem? (i := 19) (by decide +kernel), List.mem_of_getElem? (i := 438) (by decide +kernel), List.mem_of_getElem? (i := 439) (by decide +kernel)⟩
theorem lw_p15 : lw_okq (⟨"ByInitials", "lineNow", "()LByInitials$Line;"⟩, 12) := ⟨⟨by decide +kernel, by decide +kernel⟩, List.mem_of_getElem? (i := 19) (by decide +kernel), List.mem_of_getElem? (i := 442) (by decide +kernel), List.mem_of_getElem? (i := 443) (by decide +kernel)⟩
def lw_privs_1 : List (MethodName × Nat) := [(⟨"ByInitials$Page", "readItem", "(LByInitials$Town;)Z"⟩, 5), (⟨"ByInitials$Page", "sign", "()I"⟩, 5), (⟨"ByInitials$Page", "readPerson", "(LByInitials$Town;)Z"⟩, 5), (⟨"ByInitials$Page", "readName", "()I"⟩, 5), (⟨"ByInitials$Page", "passes", "(I)Z"⟩, 5), (⟨"ByInitials$Page", "readNumber", "(I)I"⟩, 5), (⟨"ByInitials$Page", "atFigure", "()Z"⟩, 5), (⟨"ByInitials$Page", "readGoods", "(LByInitials$Town;)Z"⟩, 5), (⟨"ByInitials$Page", "readReach", "(LByInitials$Town;)Z"⟩, 5), (⟨"ByInitials$Page", "readCost", "(LByInitials$Town;)Z"⟩, 5), (⟨"ByInitials$Page", "readOrder", "(LByInitials$Town;)Z"⟩, 5), (⟨"ByInitials$Page", "lettersRead", "(I)I"⟩, 5), (⟨"ByInitials$Page", "readVowels", "(LByInitials$Town;)Z"⟩, 5), (⟨"ByInitials$Page", "readQuarrel", "(LByInitials$Town;)Z"⟩, 5), (⟨"ByInitials", "isPerson", "(I)Z"⟩, 12), (⟨"ByInitials", "lineNow", "()LByInitials$Line;"⟩, 12)]
theorem lw_r1 : ∀ q ∈ lw_privs_1, lw_okq q := List.forall_mem_cons.mpr ⟨lw_p0, List.forall_mem_cons.mpr ⟨lw_p1, List.forall_mem_cons.mpr ⟨lw_p2, List.forall_mem_cons.mpr ⟨lw_p3, List.forall_mem_cons.mpr ⟨lw_p4, List.forall_mem_cons.mpr ⟨lw_p5, List.forall_mem_cons.mpr ⟨lw_p6, List.forall_mem_cons.mpr ⟨lw_p7, List.forall_mem_cons.mpr ⟨lw_p8, List.forall_mem_cons.mpr ⟨lw_p9, List.forall_mem_cons.mpr ⟨lw_p10, List.forall_mem_cons.mpr ⟨lw_p11, List.forall_mem_cons.mpr ⟨lw_p12, List.forall_mem_cons.mpr ⟨lw_p13, List.forall_mem_cons.mpr ⟨lw_p14, List.forall_mem_cons.mpr ⟨lw_p15, fun _ h => absurd h List.not_mem_nil⟩⟩⟩⟩⟩⟩⟩⟩⟩⟩⟩⟩⟩⟩⟩⟩
theorem lw_p16 : lw_okq (⟨"ByInitials", "priceOfWord", "(I)I"⟩, 12) := ⟨⟨by decide +kernel, by decide +kernel⟩, List.mem_of_getElem? (i := 19) (by decide +kernel), List.mem_of_getElem? (i := 535) (by decide +kernel), List.mem_of_getElem? (i := 536) (by decide +kernel)⟩
theorem lw_p17 : lw_okq (⟨"ByInitials$Memory", "dropOldest", "()V"⟩, 2) := ⟨⟨by decide +kernel, by decide +kernel⟩, List.mem_of_getElem? (i := 127) (by decide +kernel), List.mem_of_getElem? (i := 551) (by decide +kernel), List.mem_of_getElem? (i := 552) (by decide +kernel)⟩
theorem lw_p18 : lw_okq (⟨"ByInitials", "areTwo", "(II)Z"⟩, 12) := ⟨⟨by decide +kernel, by decide +kernel⟩, List.mem_of_getElem? (i := 19) (by decide +kernel), List.mem_of_getElem? (i := 561) (by decide +kernel), List.mem_of_getElem? (i := 562) (by decide +kernel)⟩
theorem lw_p19 : lw_okq (⟨"ByInitials", "firstWithRights", "(IIII)I"⟩, 12) := ⟨⟨by decide +kernel, by decide +kernel⟩, List.mem_of_getElem? (i := 19) (by decide +kernel), List.mem_of_getElem? (i := 673) (by decide +kernel), List.mem_of_getElem? (i := 674) (by decide +kernel)⟩
theorem lw_p20 : lw_okq (⟨"ByInitials$Matches", "bestWithin", "(I)I"⟩, 2) := ⟨⟨by decide +kernel, by decide +kernel⟩, List.mem_of_getElem? (i := 161) (by decide +kernel), List.mem_of_getElem? (i := 689) (by decide +kernel), List.mem_of_getElem? (i := 690) (by decide +kernel)⟩
theorem lw_p21 : lw_okq (⟨"ByInitials$Matches", "choiceOf", "(II)I"⟩, 2) := ⟨⟨by decide +kernel, by decide +kernel⟩, List.mem_of_getElem? (i := 161) (by decide +kernel), List.mem_of_getElem? (i := 702) (by decide +kernel), List.mem_of_getElem? (i := 703) (by decide +kernel)⟩
theorem lw_p22 : lw_okq (⟨"ByInitials$Debts", "stretch", "(LByInitials$Town;)Z"⟩, 3) := ⟨⟨by decide +kernel, by decide +kernel⟩, List.mem_of_getElem? (i := 193) (by decide +kernel), List.mem_of_getElem? (i := 731) (by decide +kernel), List.mem_of_getElem? (i := 732) (by decide +kernel)⟩
theorem lw_p23 : lw_okq (⟨"ByInitials$Debts", "mostGroups", "(I)I"⟩, 3) := ⟨⟨by decide +kernel, by decide +kernel⟩, List.mem_of_getElem? (i := 193) (by decide +kernel), List.mem_of_getElem? (i := 746) (by decide +kernel), List.mem_of_getElem? (i := 747) (by decide +kernel)⟩
theorem lw_p24 : lw_okq (⟨"ByInitials$Table", "closing", "(I)I"⟩, 4) := ⟨⟨by decide +kernel, by decide +kernel⟩, List.mem_of_getElem? (i := 174) (by decide +kernel), List.mem_of_getElem? (i := 763) (by decide +kernel), List.mem_of_getElem? (i := 764) (by decide +kernel)⟩
theorem lw_p25 : lw_okq (⟨"ByInitials$Table", "between", "(II)I"⟩, 4) := ⟨⟨by decide +kernel, by decide +kernel⟩, List.mem_of_getElem? (i := 174) (by decide +kernel), List.mem_of_getElem? (i := 767) (by decide +kernel), List.mem_of_getElem? (i := 768) (by decide +kernel)⟩
theorem lw_p26 : lw_okq (⟨"ByInitials$Table", "weigh", "(II)V"⟩, 4) := ⟨⟨by decide +kernel, by decide +kernel⟩, List.mem_of_getElem? (i := 174) (by decide +kernel), List.mem_of_getElem? (i := 772) (by decide +kernel), List.mem_of_getElem? (i := 773) (by decide +kernel)⟩
theorem lw_p27 : lw_okq (⟨"ByInitials$Table", "quarrelsBy", "(III)I"⟩, 4) := ⟨⟨by decide +kernel, by decide +kernel⟩, List.mem_of_getElem? (i := 174) (by decide +kernel), List.mem_of_getElem? (i := 776) (by decide +kernel), List.mem_of_getElem? (i := 777) (by decide +kernel)⟩
theorem lw_p28 : lw_okq (⟨"ByInitials$Table", "nextBehind", "(II)I"⟩, 4) := ⟨⟨by decide +kernel, by decide +kernel⟩, List.mem_of_getElem? (i := 174) (by decide +kernel), List.mem_of_getElem? (i := 792) (by decide +kernel), List.mem_of_getElem? (i := 793) (by decide +kernel)⟩
theorem lw_p29 : lw_okq (⟨"ByInitials$Ledger", "candidates", "(ILByInitials$Line;)I"⟩, 3) := ⟨⟨by decide +kernel, by decide +kernel⟩, List.mem_of_getElem? (i := 209) (by decide +kernel), List.mem_of_getElem? (i := 836) (by decide +kernel), List.mem_of_getElem? (i := 837) (by decide +kernel)⟩
theorem lw_p30 : lw_okq (⟨"ByInitials$Ledger", "canBe", "(IILByInitials$Line;)Z"⟩, 3) := ⟨⟨by decide +kernel, by decide +kernel⟩, List.mem_of_getElem? (i := 209) (by decide +kernel), List.mem_of_getElem? (i := 840) (by decide +kernel), List.mem_of_getElem? (i := 841) (by decide +kernel)⟩
theorem lw_p31 : lw_okq (⟨"ByInitials$Ledger", "alikeAbove", "(I)I"⟩, 3) := ⟨⟨by decide +kernel, by decide +kernel⟩, List.mem_of_getElem? (i := 209) (by decide +kernel), List.mem_of_getElem? (i := 846) (by decide +kernel), List.mem_of_getElem? (i := 847) (by decide +kernel)⟩
def lw_privs_2 : List (MethodName × Nat) := [(⟨"ByInitials", "priceOfWord", "(I)I"⟩, 12), (⟨"ByInitials$Memory", "dropOldest", "()V"⟩, 2), (⟨"ByInitials", "areTwo", "(II)Z"⟩, 12), (⟨"ByInitials", "firstWithRights", "(IIII)I"⟩, 12), (⟨"ByInitials$Matches", "bestWithin", "(I)I"⟩, 2), (⟨"ByInitials$Matches", "choiceOf", "(II)I"⟩, 2), (⟨"ByInitials$Debts", "stretch", "(LByInitials$Town;)Z"⟩, 3), (⟨"ByInitials$Debts", "mostGroups", "(I)I"⟩, 3), (⟨"ByInitials$Table", "closing", "(I)I"⟩, 4), (⟨"ByInitials$Table", "between", "(II)I"⟩, 4), (⟨"ByInitials$Table", "weigh", "(II)V"⟩, 4), (⟨"ByInitials$Table", "quarrelsBy", "(III)I"⟩, 4), (⟨"ByInitials$Table", "nextBehind", "(II)I"⟩, 4), (⟨"ByInitials$Ledger", "candidates", "(ILByInitials$Line;)I"⟩, 3), (⟨"ByInitials$Ledger", "canBe", "(IILByInitials$Line;)Z"⟩, 3), (⟨"ByInitials$Ledger", "alikeAbove", "(I)I"⟩, 3)]
theorem lw_r2 : ∀ q ∈ lw_privs_2, lw_okq q := List.forall_mem_cons.mpr ⟨lw_p16, List.forall_mem_cons.mpr ⟨lw_p17, List.forall_mem_cons.mpr ⟨lw_p18, List.forall_mem_cons.mpr ⟨lw_p19, List.forall_mem_cons.mpr ⟨lw_p20, List.forall_mem_cons.mpr ⟨lw_p21, List.forall_mem_cons.mpr ⟨lw_p22, List.forall_mem_cons.mpr ⟨lw_p23, List.forall_mem_cons.mpr ⟨lw_p24, List.forall_mem_cons.mpr ⟨lw_p25, List.forall_mem_cons.mpr ⟨lw_p26, List.forall_mem_cons.mpr ⟨lw_p27, List.forall_mem_cons.mpr ⟨lw_p28, List.forall_mem_cons.mpr ⟨lw_p29, List.forall_mem_cons.mpr ⟨lw_p30, List.forall_mem_cons.mpr ⟨lw_p31, fun _ h => absurd h List.not_mem_nil⟩⟩⟩⟩⟩⟩⟩⟩⟩⟩⟩⟩⟩⟩⟩⟩
theorem lw_p32 : lw_okq (⟨"ByInitialsModel", "begins", "()V"⟩, 25) := ⟨⟨by decide +kernel, by decide +kernel⟩, List.mem_of_getElem? (i := 891) (by decide +kernel), List.mem_of_getElem? (i := 897) (by decide +kernel), List.mem_of_getElem? (i := 898) (by decide +kernel)⟩
theorem lw_p33 : lw_okq (⟨"ByInitialsModel", "spelled", "(IIIIII)V"⟩, 25) := ⟨⟨by decide +kernel, by decide +kernel⟩, List.mem_of_getElem? (i := 891) (by decide +kernel), List.mem_of_getElem? (i := 902) (by decide +kernel), List.mem_of_getElem? (i := 903) (by decide +kernel)⟩
theorem lw_p34 : lw_okq (⟨"ByInitialsModel", "puts", "(II)V"⟩, 25) := ⟨⟨by decide +kernel, by decide +kernel⟩, List.mem_of_getElem? (i := 891) (by decide +kernel), List.mem_of_getElem? (i := 906) (by decide +kernel), List.mem_of_getElem? (i := 907) (by decide +kernel)⟩
theorem lw_p35 : lw_okq (⟨"ByInitialsModel", "isPersonPut", "()Z"⟩, 25) := ⟨⟨by decide +kernel, by decide +kernel⟩, List.mem_of_getElem? (i := 891) (by decide +kernel), List.mem_of_getElem? (i := 910) (by decide +kernel), List.mem_of_getElem? (i := 911) (by decide +kernel)⟩
theorem lw_p36 : lw_okq (⟨"ByInitialsModel", "takes", "()V"⟩, 25) := ⟨⟨by decide +kernel, by decide +kernel⟩, List.mem_of_getElem? (i := 891) (by decide +kernel), List.mem_of_getElem? (i := 914) (by decide +kernel), List.mem_of_getElem? (i := 915) (by decide +kernel)⟩
theorem lw_p37 : lw_okq (⟨"ByInitialsModel", "isItem", "()Z"⟩, 25) := ⟨⟨by decide +kernel, by decide +kernel⟩, List.mem_of_getElem? (i := 891) (by decide +kernel), List.mem_of_getElem? (i := 1011) (by decide +kernel), List.mem_of_getElem? (i := 1012) (by decide +kernel)⟩
theorem lw_p38 : lw_okq (⟨"ByInitialsModel", "isSpelt", "()Z"⟩, 25) := ⟨⟨by decide +kernel, by decide +kernel⟩, List.mem_of_getElem? (i := 891) (by decide +kernel), List.mem_of_getElem? (i := 1015) (by decide +kernel), List.mem_of_getElem? (i := 1016) (by decide +kernel)⟩
theorem lw_p39 : lw_okq (⟨"ByInitialsModel", "isMore", "(I)Z"⟩, 25) := ⟨⟨by decide +kernel, by decide +kernel⟩, List.mem_of_getElem? (i := 891) (by decide +kernel), List.mem_of_getElem? (i := 1021) (by decide +kernel), List.mem_of_getElem? (i := 1022) (by decide +kernel)⟩
theorem lw_p40 : lw_okq (⟨"ByInitialsModel", "number", "()I"⟩, 25) := ⟨⟨by decide +kernel, by decide +kernel⟩, List.mem_of_getElem? (i := 891) (by decide +kernel), List.mem_of_getElem? (i := 1025) (by decide +kernel), List.mem_of_getElem? (i := 1026) (by decide +kernel)⟩
theorem lw_p41 : lw_okq (⟨"ByInitialsModel", "isGood", "(I)Z"⟩, 25) := ⟨⟨by decide +kernel, by decide +kernel⟩, List.mem_of_getElem? (i := 891) (by decide +kernel), List.mem_of_getElem? (i := 1032) (by decide +kernel), List.mem_of_getElem? (i := 1033) (by decide +kernel)⟩
theorem lw_p42 : lw_okq (⟨"ByInitialsModel", "isOrderPut", "()Z"⟩, 25) := ⟨⟨by decide +kernel, by decide +kernel⟩, List.mem_of_getElem? (i := 891) (by decide +kernel), List.mem_of_getElem? (i := 1036) (by decide +kernel), List.mem_of_getElem? (i := 1037) (by decide +kernel)⟩
theorem lw_p43 : lw_okq (⟨"ByInitialsModel", "isPerson", "(I)Z"⟩, 25) := ⟨⟨by decide +kernel, by decide +kernel⟩, List.mem_of_getElem? (i := 891) (by decide +kernel), List.mem_of_getElem? (i := 1049) (by decide +kernel), List.mem_of_getElem? (i := 1050) (by decide +kernel)⟩
theorem lw_p44 : lw_okq (⟨"ByInitialsModel", "aheadOf", "(II)I"⟩, 25) := ⟨⟨by decide +kernel, by decide +kernel⟩, List.mem_of_getElem? (i := 891) (by decide +kernel), List.mem_of_getElem? (i := 1054) (by decide +kernel), List.mem_of_getElem? (i := 1055) (by decide +kernel)⟩
theorem lw_p45 : lw_okq (⟨"ByInitialsModel", "isAhead", "(III)Z"⟩, 25) := ⟨⟨by decide +kernel, by decide +kernel⟩, List.mem_of_getElem? (i := 891) (by decide +kernel), List.mem_of_getElem? (i := 1058) (by decide +kernel), List.mem_of_getElem? (i := 1059) (by decide +kernel)⟩
theorem lw_p46 : lw_okq (⟨"ByInitialsModel", "morning", "(I)I"⟩, 25) := ⟨⟨by decide +kernel, by decide +kernel⟩, List.mem_of_getElem? (i := 891) (by decide +kernel), List.mem_of_getElem? (i := 1062) (by decide +kernel), List.mem_of_getElem? (i := 1063) (by decide +kernel)⟩
theorem lw_p47 : lw_okq (⟨"ByInitialsModel", "isOffice", "(II)Z"⟩, 25) := ⟨⟨by decide +kernel, by decide +kernel⟩, List.mem_of_getElem? (i := 891) (by decide +kernel), List.mem_of_getElem? (i := 1066) (by decide +kernel), List.mem_of_getElem? (i := 1067) (by decide +kernel)⟩
def lw_privs_3 : List (MethodName × Nat) := [(⟨"ByInitialsModel", "begins", "()V"⟩, 25), (⟨"ByInitialsModel", "spelled", "(IIIIII)V"⟩, 25), (⟨"ByInitialsModel", "puts", "(II)V"⟩, 25), (⟨"ByInitialsModel", "isPersonPut", "()Z"⟩, 25), (⟨"ByInitialsModel", "takes", "()V"⟩, 25), (⟨"ByInitialsModel", "isItem", "()Z"⟩, 25), (⟨"ByInitialsModel", "isSpelt", "()Z"⟩, 25), (⟨"ByInitialsModel", "isMore", "(I)Z"⟩, 25), (⟨"ByInitialsModel", "number", "()I"⟩, 25), (⟨"ByInitialsModel", "isGood", "(I)Z"⟩, 25), (⟨"ByInitialsModel", "isOrderPut", "()Z"⟩, 25), (⟨"ByInitialsModel", "isPerson", "(I)Z"⟩, 25), (⟨"ByInitialsModel", "aheadOf", "(II)I"⟩, 25), (⟨"ByInitialsModel", "isAhead", "(III)Z"⟩, 25), (⟨"ByInitialsModel", "morning", "(I)I"⟩, 25), (⟨"ByInitialsModel", "isOffice", "(II)Z"⟩, 25)]
theorem lw_r3 : ∀ q ∈ lw_privs_3, lw_okq q := List.forall_mem_cons.mpr ⟨lw_p32, List.forall_mem_cons.mpr ⟨lw_p33, List.forall_mem_cons.mpr ⟨lw_p34, List.forall_mem_cons.mpr ⟨lw_p35, List.forall_mem_cons.mpr ⟨lw_p36, List.forall_mem_cons.mpr ⟨lw_p37, List.forall_mem_cons.mpr ⟨lw_p38, List.forall_mem_cons.mpr ⟨lw_p39, List.forall_mem_cons.mpr ⟨lw_p40, List.forall_mem_cons.mpr ⟨lw_p41, List.forall_mem_cons.mpr ⟨lw_p42, List.forall_mem_cons.mpr ⟨lw_p43, List.forall_mem_cons.mpr ⟨lw_p44, List.forall_mem_cons.mpr ⟨lw_p45, List.forall_mem_cons.mpr ⟨lw_p46, List.forall_mem_cons.mpr ⟨lw_p47, fun _ h => absurd h List.not_mem_nil⟩⟩⟩⟩⟩⟩⟩⟩⟩⟩⟩⟩⟩⟩⟩⟩
theorem lw_p48 : lw_okq (⟨"ByInitialsModel", "first", "(II)I"⟩, 25) := ⟨⟨by decide +kernel, by decide +kernel⟩, List.mem_of_getElem? (i := 891) (by decide +kernel), List.mem_of_getElem? (i := 1070) (by decide +kernel), List.mem_of_getElem? (i := 1071) (by decide +kernel)⟩
theorem lw_p49 : lw_okq (⟨"ByInitialsModel", "isVowel", "(I)Z"⟩, 25) := ⟨⟨by decide +kernel, by decide +kernel⟩, List.mem_of_getElem? (i := 891) (by decide +kernel), List.mem_of_getElem? (i := 1074) (by decide +kernel), List.mem_of_getElem? (i := 1075) (by decide +kernel)⟩
theorem lw_p50 : lw_okq (⟨"ByInitialsModel", "letterOf", "(II)I"⟩, 25) := ⟨⟨by decide +kernel, by decide +kernel⟩, List.mem_of_getElem? (i := 891) (by decide +kernel), List.mem_of_getElem? (i := 1090) (by decide +kernel), List.mem_of_getElem? (i := 1091) (by decide +kernel)⟩
theorem lw_p51 : lw_okq (⟨"ByInitialsModel", "isQuarrel", "(II)Z"⟩, 25) := ⟨⟨by decide +kernel, by decide +kernel⟩, List.mem_of_getElem? (i := 891) (by decide +kernel), List.mem_of_getElem? (i := 1098) (by decide +kernel), List.mem_of_getElem? (i := 1099) (by decide +kernel)⟩
theorem lw_p52 : lw_okq (⟨"ByInitialsModel", "priceOf", "(I)I"⟩, 25) := ⟨⟨by decide +kernel, by decide +kernel⟩, List.mem_of_getElem? (i := 891) (by decide +kernel), List.mem_of_getElem? (i := 1114) (by decide +kernel), List.mem_of_getElem? (i := 1115) (by decide +kernel)⟩
theorem lw_p53 : lw_okq (⟨"ByInitialsModel", "known", "()V"⟩, 25) := ⟨⟨by decide +kernel, by decide +kernel⟩, List.mem_of_getElem? (i := 891) (by decide +kernel), List.mem_of_getElem? (i := 1122) (by decide +kernel), List.mem_of_getElem? (i := 1123) (by decide +kernel)⟩
theorem lw_p54 : lw_okq (⟨"ByInitialsModel", "copies", "(II)V"⟩, 25) := ⟨⟨by decide +kernel, by decide +kernel⟩, List.mem_of_getElem? (i := 891) (by decide +kernel), List.mem_of_getElem? (i := 1126) (by decide +kernel), List.mem_of_getElem? (i := 1127) (by decide +kernel)⟩
theorem lw_p55 : lw_okq (⟨"ByInitialsModel", "isTwo", "(II)Z"⟩, 25) := ⟨⟨by decide +kernel, by decide +kernel⟩, List.mem_of_getElem? (i := 891) (by decide +kernel), List.mem_of_getElem? (i := 1134) (by decide +kernel), List.mem_of_getElem? (i := 1135) (by decide +kernel)⟩
theorem lw_p56 : lw_okq (⟨"ByInitialsModel", "isMay", "(III)Z"⟩, 25) := ⟨⟨by decide +kernel, by decide +kernel⟩, List.mem_of_getElem? (i := 891) (by decide +kernel), List.mem_of_getElem? (i := 1138) (by decide +kernel), List.mem_of_getElem? (i := 1139) (by decide +kernel)⟩
theorem lw_p57 : lw_okq (⟨"ByInitialsModel", "weds", "()I"⟩, 25) := ⟨⟨by decide +kernel, by decide +kernel⟩, List.mem_of_getElem? (i := 891) (by decide +kernel), List.mem_of_getElem? (i := 1146) (by decide +kernel), List.mem_of_getElem? (i := 1147) (by decide +kernel)⟩
theorem lw_p58 : lw_okq (⟨"ByInitialsModel", "owes", "(II)I"⟩, 25) := ⟨⟨by decide +kernel, by decide +kernel⟩, List.mem_of_getElem? (i := 891) (by decide +kernel), List.mem_of_getElem? (i := 1155) (by decide +kernel), List.mem_of_getElem? (i := 1156) (by decide +kernel)⟩
theorem lw_p59 : lw_okq (⟨"ByInitialsModel", "swaps", "(III)V"⟩, 25) := ⟨⟨by decide +kernel, by decide +kernel⟩, List.mem_of_getElem? (i := 891) (by decide +kernel), List.mem_of_getElem? (i := 1167) (by decide +kernel), List.mem_of_getElem? (i := 1168) (by decide +kernel)⟩
theorem lw_p60 : lw_okq (⟨"ByInitialsModel", "bestFirst", "(I)I"⟩, 25) := ⟨⟨by decide +kernel, by decide +kernel⟩, List.mem_of_getElem? (i := 891) (by decide +kernel), List.mem_of_getElem? (i := 1183) (by decide +kernel), List.mem_of_getElem? (i := 1184) (by decide +kernel)⟩
theorem lw_p61 : lw_okq (⟨"ByInitialsModel", "isRound", "()Z"⟩, 25) := ⟨⟨by decide +kernel, by decide +kernel⟩, List.mem_of_getElem? (i := 891) (by decide +kernel), List.mem_of_getElem? (i := 1192) (by decide +kernel), List.mem_of_getElem? (i := 1193) (by decide +kernel)⟩
theorem lw_p62 : lw_okq (⟨"ByInitialsModel", "hasAll", "(IIII)Z"⟩, 25) := ⟨⟨by decide +kernel, by decide +kernel⟩, List.mem_of_getElem? (i := 891) (by decide +kernel), List.mem_of_getElem? (i := 1201) (by decide +kernel), List.mem_of_getElem? (i := 1202) (by decide +kernel)⟩
theorem lw_p63 : lw_okq (⟨"ByInitialsModel", "weddings", "(I)I"⟩, 25) := ⟨⟨by decide +kernel, by decide +kernel⟩, List.mem_of_getElem? (i := 891) (by decide +kernel), List.mem_of_getElem? (i := 1209) (by decide +kernel), List.mem_of_getElem? (i := 1210) (by decide +kernel)⟩
def lw_privs_4 : List (MethodName × Nat) := [(⟨"ByInitialsModel", "first", "(II)I"⟩, 25), (⟨"ByInitialsModel", "isVowel", "(I)Z"⟩, 25), (⟨"ByInitialsModel", "letterOf", "(II)I"⟩, 25), (⟨"ByInitialsModel", "isQuarrel", "(II)Z"⟩, 25), (⟨"ByInitialsModel", "priceOf", "(I)I"⟩, 25), (⟨"ByInitialsModel", "known", "()V"⟩, 25), (⟨"ByInitialsModel", "copies", "(II)V"⟩, 25), (⟨"ByInitialsModel", "isTwo", "(II)Z"⟩, 25), (⟨"ByInitialsModel", "isMay", "(III)Z"⟩, 25), (⟨"ByInitialsModel", "weds", "()I"⟩, 25), (⟨"ByInitialsModel", "owes", "(II)I"⟩, 25), (⟨"ByInitialsModel", "swaps", "(III)V"⟩, 25), (⟨"ByInitialsModel", "bestFirst", "(I)I"⟩, 25), (⟨"ByInitialsModel", "isRound", "()Z"⟩, 25), (⟨"ByInitialsModel", "hasAll", "(IIII)Z"⟩, 25), (⟨"ByInitialsModel", "weddings", "(I)I"⟩, 25)]
theorem lw_r4 : ∀ q ∈ lw_privs_4, lw_okq q := List.forall_mem_cons.mpr ⟨lw_p48, List.forall_mem_cons.mpr ⟨lw_p49, List.forall_mem_cons.mpr ⟨lw_p50, List.forall_mem_cons.mpr ⟨lw_p51, List.forall_mem_cons.mpr ⟨lw_p52, List.forall_mem_cons.mpr ⟨lw_p53, List.forall_mem_cons.mpr ⟨lw_p54, List.forall_mem_cons.mpr ⟨lw_p55, List.forall_mem_cons.mpr ⟨lw_p56, List.forall_mem_cons.mpr ⟨lw_p57, List.forall_mem_cons.mpr ⟨lw_p58, List.forall_mem_cons.mpr ⟨lw_p59, List.forall_mem_cons.mpr ⟨lw_p60, List.forall_mem_cons.mpr ⟨lw_p61, List.forall_mem_cons.mpr ⟨lw_p62, List.forall_mem_cons.mpr ⟨lw_p63, fun _ h => absurd h List.not_mem_nil⟩⟩⟩⟩⟩⟩⟩⟩⟩⟩⟩⟩⟩⟩⟩⟩
theorem lw_p64 : lw_okq (⟨"ByInitialsModel", "netOf", "(I)I"⟩, 25) := ⟨⟨by decide +kernel, by decide +kernel⟩, List.mem_of_getElem? (i := 891) (by decide +kernel), List.mem_of_getElem? (i := 1226) (by decide +kernel), List.mem_of_getElem? (i := 1227) (by decide +kernel)⟩
theorem lw_p65 : lw_okq (⟨"ByInitialsModel", "foes", "()I"⟩, 25) := ⟨⟨by decide +kernel, by decide +kernel⟩, List.mem_of_getElem? (i := 891) (by decide +kernel), List.mem_of_getElem? (i := 1243) (by decide +kernel), List.mem_of_getElem? (i := 1244) (by decide +kernel)⟩
theorem lw_p66 : lw_okq (⟨"ByInitialsModel", "isFoe", "(II)Z"⟩, 25) := ⟨⟨by decide +kernel, by decide +kernel⟩, List.mem_of_getElem? (i := 891) (by decide +kernel), List.mem_of_getElem? (i := 1247) (by decide +kernel), List.mem_of_getElem? (i := 1248) (by decide +kernel)⟩
theorem lw_p67 : lw_okq (⟨"ByInitialsModel", "follows", "()Z"⟩, 25) := ⟨⟨by decide +kernel, by decide +kernel⟩, List.mem_of_getElem? (i := 891) (by decide +kernel), List.mem_of_getElem? (i := 1251) (by decide +kernel), List.mem_of_getElem? (i := 1252) (by decide +kernel)⟩
theorem lw_p68 : lw_okq (⟨"ByInitialsModel", "swapsRow", "(II)V"⟩, 25) := ⟨⟨by decide +kernel, by decide +kernel⟩, List.mem_of_getElem? (i := 891) (by decide +kernel), List.mem_of_getElem? (i := 1255) (by decide +kernel), List.mem_of_getElem? (i := 1256) (by decide +kernel)⟩
theorem lw_p69 : lw_okq (⟨"ByInitialsModel", "ways", "(I)I"⟩, 25) := ⟨⟨by decide +kernel, by decide +kernel⟩, List.mem_of_getElem? (i := 891) (by decide +kernel), List.mem_of_getElem? (i := 1276) (by decide +kernel), List.mem_of_getElem? (i := 1277) (by decide +kernel)⟩
theorem lw_p70 : lw_okq (⟨"ByInitialsModel", "isNext", "(I)Z"⟩, 25) := ⟨⟨by decide +kernel, by decide +kernel⟩, List.mem_of_getElem? (i := 891) (by decide +kernel), List.mem_of_getElem? (i := 1280) (by decide +kernel), List.mem_of_getElem? (i := 1281) (by decide +kernel)⟩
def lw_privs_5 : List (MethodName × Nat) := [(⟨"ByInitialsModel", "netOf", "(I)I"⟩, 25), (⟨"ByInitialsModel", "foes", "()I"⟩, 25), (⟨"ByInitialsModel", "isFoe", "(II)Z"⟩, 25), (⟨"ByInitialsModel", "follows", "()Z"⟩, 25), (⟨"ByInitialsModel", "swapsRow", "(II)V"⟩, 25), (⟨"ByInitialsModel", "ways", "(I)I"⟩, 25), (⟨"ByInitialsModel", "isNext", "(I)Z"⟩, 25)]
theorem lw_r5 : ∀ q ∈ lw_privs_5, lw_okq q := List.forall_mem_cons.mpr ⟨lw_p64, List.forall_mem_cons.mpr ⟨lw_p65, List.forall_mem_cons.mpr ⟨lw_p66, List.forall_mem_cons.mpr ⟨lw_p67, List.forall_mem_cons.mpr ⟨lw_p68, List.forall_mem_cons.mpr ⟨lw_p69, List.forall_mem_cons.mpr ⟨lw_p70, fun _ h => absurd h List.not_mem_nil⟩⟩⟩⟩⟩⟩⟩
def lw_privs : List (MethodName × Nat) := lw_privs_1 ++ (lw_privs_2 ++ (lw_privs_3 ++ (lw_privs_4 ++ (lw_privs_5))))
def lw_tbl : List Cond := k2_sels lw_privs ++ tables_1
theorem lw_privs_ok : ∀ q ∈ lw_privs, lw_okq q := by
  show ∀ q ∈ lw_privs_1 ++ (lw_privs_2 ++ (lw_privs_3 ++ (lw_privs_4 ++ (lw_privs_5)))), lw_okq q
  exact List.forall_mem_append.mpr ⟨lw_r1, List.forall_mem_append.mpr ⟨lw_r2, List.forall_mem_append.mpr ⟨lw_r3, List.forall_mem_append.mpr ⟨lw_r4, lw_r5⟩⟩⟩⟩
-- ===== end of PART A; then your names; then what follows =====
end
section
/-! AN INTERPRETER of the part of the bytecode that the class, the reference and the law use: over whole numbers, a shape of cells and a memory. Pure: nothing of the machine here. -/
abbrev AV : Type := Int ⊕ (Int ⊕ Nat)
abbrev Mem : Type := Nat → Nat → Int
abbrev Shp : Type := List (Nat × Nat × List Nat)
abbrev Ins : Type := Nat × Nat × Nat × Int × List Nat
abbrev Lcl : Type := List (Option AV)
abbrev Res : Type := Shp × Mem × Option AV
abbrev inR (v : Int) : Prop := -2147483648 ≤ v ∧ v ≤ 2147483647
abbrev inL (v : Int) : Prop := -9223372036854775808 ≤ v ∧ v ≤ 9223372036854775807
def up2 (M : Mem) (a k : Nat) (v : Int) : Mem := fun a' k' => if a' = a ∧ k' = k then v else M a' k'
def bi_isL : Option (Option AV) → Bool
  | some (some (.inr (.inl _))) => true
  | _ => false
/-- storing at i: a long that begins one place before is gone -/
def bi_clr (L : Lcl) (i : Nat) : Lcl := match i with
  | 0 => L
  | j + 1 => if bi_isL L[j]? then L.set j none else L
def bi_st1 (L : Lcl) (i : Nat) (v : AV) : Lcl := (bi_clr L i).set i (some v)
def bi_st2 (L : Lcl) (i : Nat) (v : AV) : Lcl := ((bi_clr L i).set i (some v)).set (i + 1) none
def bi_andn (x z : Nat) : Nat := x ^^^ (x &&& z)
def bi_and (x y : Int) : Option Int :=
  if 0 ≤ x then (if 0 ≤ y then some ((x.toNat &&& y.toNat : Nat) : Int) else some (bi_andn x.toNat (-y - 1).toNat : Nat))
  else if 0 ≤ y then some (bi_andn y.toNat (-x - 1).toNat : Nat) else none
/-- int operations of two numbers: no one may leave the range -/
def bi_bin (op : Nat) (x y : Int) : Option Int := match op with
  | 0 => if inR (x + y) then some (x + y) else none
  | 1 => if inR (x - y) then some (x - y) else none
  | 2 => if inR (x * y) then some (x * y) else none
  | 3 => if 0 ≤ x ∧ 0 < y then some (x / y) else none
  | 4 => if 0 ≤ x ∧ 0 < y then some (x % y) else none
  | 5 => if 0 ≤ x ∧ 0 ≤ y ∧ y < 32 ∧ inR (x * 2 ^ y.toNat) then some (x * 2 ^ y.toNat) else none
  | 6 => if 0 ≤ x ∧ 0 ≤ y ∧ y < 32 then some (x / 2 ^ y.toNat) else none
  | 7 => if 0 ≤ x ∧ 0 ≤ y ∧ y < 32 then some (x / 2 ^ y.toNat) else none
  | 8 => bi_and x y
  | 9 => if 0 ≤ x ∧ 0 ≤ y then some ((x.toNat ||| y.toNat : Nat) : Int) else none
  | 10 => if 0 ≤ x ∧ 0 ≤ y then some ((x.toNat ^^^ y.toNat : Nat) : Int) else if y = -1 then some (-x - 1) else none
  | _ => none
def bi_un (op : Nat) (x : Int) : Option Int := match op with
  | 0 => if inR (-x) then some (-x) else none
  | 1 => if -128 ≤ x ∧ x ≤ 127 then some x else none
  | 2 => if 0 ≤ x ∧ x < 65536 then some x else none
  | _ => none
def bi_lbin (op : Nat) (x y : Int) : Option Int := match op with
  | 0 => if inL (x + y) then some (x + y) else none
  | 1 => if inL (x * y) then some (x * y) else none
  | 2 => if 0 ≤ x ∧ 0 < y then some (x % y) else none
  | _ => none
/-- the six conditions: eq ne lt ge gt le -/
def bi_cond (op : Nat) (x y : Int) : Bool := match op with
  | 0 => decide (x = y)
  | 1 => decide (x ≠ y)
  | 2 => decide (x < y)
  | 3 => decide (y ≤ x)
  | 4 => decide (y < x)
  | _ => decide (x ≤ y)
def bi_math (op : Nat) (st : List AV) : Option (List AV) := match op, st with
  | 0, .inl y :: .inl x :: t => some (.inl (if x < y then y else x) :: t)
  | 1, .inl y :: .inl x :: t => some (.inl (if y < x then y else x) :: t)
  | 2, .inl x :: t => if 0 ≤ x then some (.inl x :: t) else if inR (-x) then some (.inl (-x) :: t) else none
  | _, _ => none
def bi_cats (st : List AV) : Nat := (st.map fun v => match v with | .inr (.inl _) => 2 | _ => 1).sum
def bi_entry (nL : Nat) (as : List AV) : Lcl :=
  let l := as.flatMap fun v => match v with | .inr (.inl _) => [some v, none] | _ => [some v]
  l ++ List.replicate (nL - l.length) none
def bi_cpy (M : Mem) (a sp b dp n : Nat) : Mem := fun q k => if q = b ∧ dp ≤ k ∧ k < dp + n then M a (sp + (k - dp)) else M q k
def bi_look (x : Int) : List Nat → Nat → Nat
  | k :: t :: l, d => if x = (k : Int) then t else bi_look x l d
  | _, d => d
def bi_retok (ty : Nat) (x : Int) : Bool := match ty with
  | 0 => true
  | 1 => decide (x = 0 ∨ x = 1)
  | 2 => decide (0 ≤ x ∧ x < 65536)
  | _ => decide (-128 ≤ x ∧ x ≤ 127)
def bi_load (kd : Nat) (v : Option (Option AV)) : Option AV := match kd, v with
  | 0, some (some (.inl x)) => some (.inl x)
  | 1, some (some (.inr (.inr c))) => if c = 0 ∨ c = 4 then none else some (.inr (.inr c))
  | 2, some (some (.inr (.inl x))) => some (.inr (.inl x))
  | _, _ => none
def bi_store (L : Lcl) (kd a : Nat) (v : AV) : Option Lcl := match kd, v with
  | 0, .inl x => if a < L.length then some (bi_st1 L a (.inl x)) else none
  | 1, .inr (.inr c) => if c = 0 ∨ c = 4 then none else if a < L.length then some (bi_st1 L a (.inr (.inr c))) else none
  | 2, .inr (.inl x) => if a + 1 < L.length then some (bi_st2 L a (.inr (.inl x))) else none
  | _, _ => none
/-- the receiver of a call: 0 virtual, 1 static, 2 special -/
def bi_recv (c : Int) (cls : Nat) (S : Shp) (v : Option AV) : Bool := match v with
  | some (.inr (.inr (q + 1))) => if c = 0 then (match S[q]? with | some (kd, _, _) => decide (kd = cls + 3) && (decide (4 ≤ q) || decide (q = 1 ∧ cls = 10)) | none => false) else true
  | _ => decide (c = 1)
section Step
variable (k : Nat → Lcl → List AV → Shp → Mem → Option Res) (cl : Nat → List AV → Option Res)
/-- fields and arrays -/
def bi_heap (op a b : Nat) (i : Nat) (L : Lcl) (st : List AV) (S : Shp) (M : Mem) : Option Res := match op, st with
  | 14, .inr (.inr (q + 1)) :: t => match S[q]? with
    | some (kd, n, _) => if kd = a + 3 ∧ b < n then k (i + 1) L (.inl (M q b) :: t) S M else none
    | none => none
  | 15, .inr (.inr (q + 1)) :: t => match S[q]? with
    | some (kd, n, rs) => if kd = a + 3 ∧ b < n then k (i + 1) L (.inr (.inr (rs.getD b 0)) :: t) S M else none
    | none => none
  | 16, .inl v :: .inr (.inr (q + 1)) :: t => match S[q]? with
    | some (kd, n, _) => if kd = a + 3 ∧ b < n ∧ 4 ≤ q then k (i + 1) L t S (up2 M q b v) else none
    | none => none
  | 17, .inr (.inr v) :: .inr (.inr (q + 1)) :: t => match S[q]? with
    | some (kd, n, rs) => if kd = a + 3 ∧ b < n ∧ 4 ≤ q ∧ n = rs.length then k (i + 1) L t (S.set q (kd, n, rs.set b v)) M else none
    | none => none
  | 18, .inl j :: .inr (.inr (q + 1)) :: t => match S[q]? with
    | some (0, n, _) => if 0 ≤ j ∧ j < n then k (i + 1) L (.inl (M q j.toNat) :: t) S M else none
    | _ => none
  | 19, .inl v :: .inl j :: .inr (.inr (q + 1)) :: t => match S[q]? with
    | some (0, n, _) => if 0 ≤ j ∧ j < n ∧ 4 ≤ q then k (i + 1) L t S (up2 M q j.toNat v) else none
    | _ => none
  | 20, .inl j :: .inr (.inr (q + 1)) :: t => match S[q]? with
    | some (1, n, _) => if 0 ≤ j ∧ j < n then k (i + 1) L (.inl (M q j.toNat) :: t) S M else none
    | _ => none
  | 21, .inl v :: .inl j :: .inr (.inr (q + 1)) :: t => match S[q]? with
    | some (1, n, _) => if 0 ≤ j ∧ j < n ∧ 4 ≤ q ∧ -128 ≤ v ∧ v ≤ 127 then k (i + 1) L t S (up2 M q j.toNat v) else none
    | _ => none
  | 22, .inl j :: .inr (.inr (q + 1)) :: t => match S[q]? with
    | some (2, n, _) => if 0 ≤ j ∧ j < n ∧ 4 ≤ q then k (i + 1) L (.inr (.inr (M q j.toNat).toNat) :: t) S M else none
    | _ => none
  | 23, .inr (.inr (v + 1)) :: .inl j :: .inr (.inr (q + 1)) :: t => match S[q]?, S[v]? with
    | some (2, n, _), some (10, _, _) => if 0 ≤ j ∧ j < n ∧ 4 ≤ q ∧ 4 ≤ v then k (i + 1) L t S (up2 M q j.toNat ((v + 1 : Nat) : Int)) else none
    | _, _ => none
  | 24, .inr (.inr (q + 1)) :: t => match S[q]? with
    | some (kd, n, _) => if kd < 3 ∧ q ≠ 3 then k (i + 1) L (.inl n :: t) S M else none
    | none => none
  | _, _ => none
def bi_step (ins : Ins) (i : Nat) (L : Lcl) (st : List AV) (S : Shp) (M : Mem) : Option Res := match ins with
  | (0, _, _, c, _) => k (i + 1) L (.inl c :: st) S M
  | (1, a, b, _, _) => match bi_load b L[a]? with
    | some v => k (i + 1) L (v :: st) S M
    | none => none
  | (2, a, b, _, _) => match st with
    | v :: t => match bi_store L b a v with
      | some L' => k (i + 1) L' t S M
      | none => none
    | _ => none
  | (3, a, _, _, _) => match st with
    | .inl y :: .inl x :: t => match bi_bin a x y with
      | some z => k (i + 1) L (.inl z :: t) S M
      | none => none
    | _ => none
  | (4, a, _, _, _) => match st with
    | .inl x :: t => match bi_un a x with
      | some z => k (i + 1) L (.inl z :: t) S M
      | none => none
    | _ => none
  | (5, _, _, _, _) => match st with
    | .inl x :: t => k (i + 1) L (.inr (.inl x) :: t) S M
    | _ => none
  | (6, _, _, _, _) => match st with
    | .inr (.inl x) :: t => if inR x then k (i + 1) L (.inl x :: t) S M else none
    | _ => none
  | (7, a, _, _, _) => match st with
    | .inr (.inl y) :: .inr (.inl x) :: t => match bi_lbin a x y with
      | some z => k (i + 1) L (.inr (.inl z) :: t) S M
      | none => none
    | _ => none
  | (8, _, _, _, _) => match st with
    | .inr (.inl y) :: .inr (.inl x) :: t => k (i + 1) L (.inl (if x < y then -1 else if x = y then 0 else 1) :: t) S M
    | _ => none
  | (9, _, _, c, _) => k (i + 1) L (.inr (.inl c) :: st) S M
  | (10, a, _, c, _) => match L[a]? with
    | some (some (.inl x)) => if inR (x + c) then k (i + 1) (bi_st1 L a (.inl (x + c))) st S M else none
    | _ => none
  | (11, a, _, _, _) => k a L st S M
  | (12, a, b, _, _) => match st with
    | .inl y :: .inl x :: t => if bi_cond b x y then k a L t S M else k (i + 1) L t S M
    | _ => none
  | (13, a, b, _, _) => match st with
    | .inl x :: t => if bi_cond b x 0 then k a L t S M else k (i + 1) L t S M
    | _ => none
  | (25, a, b, _, _) => k (i + 1) L (.inr (.inr (S.length + 1)) :: st) (S ++ [(a + 3, b, List.replicate b 0)]) (fun q j => if q = S.length then 0 else M q j)
  | (26, a, _, _, _) => match st with
    | .inl n :: t => if 0 ≤ n ∧ n ≤ 65536 ∧ a < 3 then k (i + 1) L (.inr (.inr (S.length + 1)) :: t) (S ++ [(a, n.toNat, [])]) (fun q j => if q = S.length then 0 else M q j) else none
    | _ => none
  | (28, _, _, _, _) => match st with
    | .inl x :: t => k (i + 1) L (.inl x :: .inl x :: t) S M
    | .inr (.inr c) :: t => k (i + 1) L (.inr (.inr c) :: .inr (.inr c) :: t) S M
    | _ => none
  | (29, _, _, _, _) => match st with
    | .inl x :: .inr (.inr c) :: t => k (i + 1) L (.inl x :: .inr (.inr c) :: .inl x :: .inr (.inr c) :: t) S M
    | _ => none
  | (30, _, _, _, _) => match st with
    | .inl _ :: t => k (i + 1) L t S M
    | _ => none
  | (31, a, _, c, l) => match st with
    | .inl x :: t => if x < c ∨ c + l.length ≤ x then k a L t S M else k (l.getD (x - c).toNat 0) L t S M
    | _ => none
  | (32, a, _, _, l) => match st with
    | .inl x :: t => k (bi_look x l a) L t S M
    | _ => none
  | (33, a, _, _, _) => match st with
    | [.inl x] => if bi_retok a x then some (S, M, some (.inl x)) else none
    | _ => none
  | (34, _, _, _, _) => match st with
    | [] => some (S, M, none)
    | _ => none
  | (35, _, _, _, _) => match st with
    | [.inr (.inr c)] => some (S, M, some (.inr (.inr c)))
    | _ => none
  | (36, a, b, c, l) => if b ≤ st.length ∧ bi_cats (st.drop b) ≤ 8 ∧ bi_recv c (l.headD 0) S st[b - 1]? = true then
      match cl a (st.take b).reverse with
      | some (S1, M1, r) => k (i + 1) L (r.toList ++ st.drop b) S1 M1
      | none => none
    else none
  | (37, _, _, _, _) => match st with
    | .inr (.inr (_ + 1)) :: t => if bi_cats t ≤ 8 then k (i + 1) L t S M else none
    | _ => none
  | (38, a, _, _, _) => match bi_math a st with
    | some t => if bi_cats t ≤ 8 then k (i + 1) L t S M else none
    | none => none
  | (39, _, _, _, _) => match st with
    | .inl n :: .inl dp :: .inr (.inr (b + 1)) :: .inl sp :: .inr (.inr (a + 1)) :: t => match S[a]?, S[b]? with
      | some (0, na, _), some (0, nb, _) => if 0 ≤ n ∧ 0 ≤ dp ∧ 0 ≤ sp ∧ sp + n ≤ na ∧ dp + n ≤ nb ∧ 4 ≤ a ∧ 4 ≤ b ∧ bi_cats t ≤ 8 then k (i + 1) L t S (bi_cpy M a sp.toNat b dp.toNat n.toNat) else none
      | _, _ => none
    | _ => none
  | (40, _, _, _, _) => k (i + 1) L (.inr (.inr 2) :: st) S M
  | (41, 0, _, _, _) => k (i + 1) L (.inl 1 :: st) S M
  | (41, _, _, _, _) => k (i + 1) L (.inr (.inr 4) :: st) S M
  | (op, a, b, _, _) => bi_heap k op a b i L st S M
end Step
def bi_exec (P : Nat → List Ins × Nat) : Nat → Nat → Nat → Lcl → List AV → Shp → Mem → Option Res
  | 0, _, _, _, _, _, _ => none
  | n + 1, m, i, L, st, S, M => match (P m).1[i]? with
    | some ins => bi_step (bi_exec P n m) (fun m' as => bi_exec P n m' 0 (bi_entry (P m').2 as) [] S M) ins i L st S M
    | none => none
end
section
/-! THE PROGRAM: class tables, each method as a list of instructions, its program counters; written by wip/gen/prog.py out of the claim -/
def RX0 : String := "ByInitials$Debts"
def TX0 : u_T := fun k => match k with
  | 0 => ("ByInitials$Debts", "behind", "[I", true)
  | 1 => ("ByInitials$Debts", "sums", "[I", true)
  | _ => ("ByInitials$Debts", "groups", "[I", true)
def tyX0 : Nat → FieldType := fun k => match k with
  | 0 => .array .int
  | 1 => .array .int
  | _ => .array .int
abbrev wsX00 : List Cond := u_ws RX0 TX0 3
theorem nmX0 : ∀ a, a < 3 → ∀ b, b < 3 → a ≠ b → (TX0 a).2.1 ≠ (TX0 b).2.1 := by decide +kernel
theorem tyX0_ok : ∀ k, k < 3 → parseFieldDescriptor (TX0 k).2.2.1 = some (tyX0 k) := by decide +kernel
def RX1 : String := "ByInitials$Ledger"
def TX1 : u_T := fun k => match k with
  | 0 => ("ByInitials$Ledger", "initials", "[I", true)
  | 1 => ("ByInitials$Ledger", "amounts", "[I", true)
  | _ => ("ByInitials$Ledger", "rows", "I", false)
def tyX1 : Nat → FieldType := fun k => match k with
  | 0 => .array .int
  | 1 => .array .int
  | _ => .int
abbrev wsX10 : List Cond := u_ws RX1 TX1 3
theorem nmX1 : ∀ a, a < 3 → ∀ b, b < 3 → a ≠ b → (TX1 a).2.1 ≠ (TX1 b).2.1 := by decide +kernel
theorem tyX1_ok : ∀ k, k < 3 → parseFieldDescriptor (TX1 k).2.2.1 = some (tyX1 k) := by decide +kernel
def RX2 : String := "ByInitials$Line"
def TX2 : u_T := fun k => match k with
  | 0 => ("ByInitials$Line", "keys", "[I", true)
  | _ => ("ByInitials$Line", "town", "LByInitials$Town;", true)
def tyX2 : Nat → FieldType := fun k => match k with
  | 0 => .array .int
  | _ => .object "ByInitials$Town"
abbrev wsX20 : List Cond := u_ws RX2 TX2 2
theorem nmX2 : ∀ a, a < 2 → ∀ b, b < 2 → a ≠ b → (TX2 a).2.1 ≠ (TX2 b).2.1 := by decide +kernel
theorem tyX2_ok : ∀ k, k < 2 → parseFieldDescriptor (TX2 k).2.2.1 = some (tyX2 k) := by decide +kernel
def RX3 : String := "ByInitials$Matches"
def TX3 : u_T := fun k => match k with
  | 0 => ("ByInitials$Matches", "willing", "[I", true)
  | _ => ("ByInitials$Matches", "best", "[I", true)
def tyX3 : Nat → FieldType := fun k => match k with
  | 0 => .array .int
  | _ => .array .int
abbrev wsX30 : List Cond := u_ws RX3 TX3 2
theorem nmX3 : ∀ a, a < 2 → ∀ b, b < 2 → a ≠ b → (TX3 a).2.1 ≠ (TX3 b).2.1 := by decide +kernel
theorem tyX3_ok : ∀ k, k < 2 → parseFieldDescriptor (TX3 k).2.2.1 = some (tyX3 k) := by decide +kernel
def RX4 : String := "ByInitials$Memory"
def TX4 : u_T := fun k => match k with
  | 0 => ("ByInitials$Memory", "slots", "[LByInitials$Town;", true)
  | _ => ("ByInitials$Memory", "held", "I", false)
def tyX4 : Nat → FieldType := fun k => match k with
  | 0 => .array (.object "ByInitials$Town")
  | _ => .int
abbrev wsX40 : List Cond := u_ws RX4 TX4 2
theorem nmX4 : ∀ a, a < 2 → ∀ b, b < 2 → a ≠ b → (TX4 a).2.1 ≠ (TX4 b).2.1 := by decide +kernel
theorem tyX4_ok : ∀ k, k < 2 → parseFieldDescriptor (TX4 k).2.2.1 = some (tyX4 k) := by decide +kernel
def RX5 : String := "ByInitials$Page"
def TX5 : u_T := fun k => match k with
  | 0 => ("ByInitials$Page", "signs", "[I", true)
  | 1 => ("ByInitials$Page", "name", "[I", true)
  | 2 => ("ByInitials$Page", "length", "I", false)
  | 3 => ("ByInitials$Page", "at", "I", false)
  | _ => ("ByInitials$Page", "quarrelsRead", "I", false)
def tyX5 : Nat → FieldType := fun k => match k with
  | 0 => .array .int
  | 1 => .array .int
  | 2 => .int
  | 3 => .int
  | _ => .int
abbrev wsX50 : List Cond := u_ws RX5 TX5 5
theorem nmX5 : ∀ a, a < 5 → ∀ b, b < 5 → a ≠ b → (TX5 a).2.1 ≠ (TX5 b).2.1 := by decide +kernel
theorem tyX5_ok : ∀ k, k < 5 → parseFieldDescriptor (TX5 k).2.2.1 = some (tyX5 k) := by decide +kernel
def RX6 : String := "ByInitials$Table"
def TX6 : u_T := fun k => match k with
  | 0 => ("ByInitials$Table", "fewest", "[I", true)
  | 1 => ("ByInitials$Table", "ways", "[I", true)
  | 2 => ("ByInitials$Table", "foes", "[I", true)
  | _ => ("ByInitials$Table", "people", "I", false)
def tyX6 : Nat → FieldType := fun k => match k with
  | 0 => .array .int
  | 1 => .array .int
  | 2 => .array .int
  | _ => .int
abbrev wsX60 : List Cond := u_ws RX6 TX6 4
theorem nmX6 : ∀ a, a < 4 → ∀ b, b < 4 → a ≠ b → (TX6 a).2.1 ≠ (TX6 b).2.1 := by decide +kernel
theorem tyX6_ok : ∀ k, k < 4 → parseFieldDescriptor (TX6 k).2.2.1 = some (tyX6 k) := by decide +kernel
def RX7 : String := "ByInitials$Town"
def TX7 : u_T := fun k => match k with
  | 0 => ("ByInitials$Town", "people", "I", false)
  | 1 => ("ByInitials$Town", "goods", "I", false)
  | 2 => ("ByInitials$Town", "reach", "I", false)
  | 3 => ("ByInitials$Town", "cost", "I", false)
  | 4 => ("ByInitials$Town", "vowels", "I", false)
  | 5 => ("ByInitials$Town", "sizes", "[I", true)
  | 6 => ("ByInitials$Town", "names", "[I", true)
  | 7 => ("ByInitials$Town", "wants", "[I", true)
  | 8 => ("ByInitials$Town", "coins", "[I", true)
  | 9 => ("ByInitials$Town", "spouses", "[I", true)
  | 10 => ("ByInitials$Town", "renamed", "[I", true)
  | 11 => ("ByInitials$Town", "owing", "[I", true)
  | 12 => ("ByInitials$Town", "ranks", "[I", true)
  | 13 => ("ByInitials$Town", "order", "[I", true)
  | _ => ("ByInitials$Town", "enemies", "[I", true)
def tyX7 : Nat → FieldType := fun k => match k with
  | 0 => .int
  | 1 => .int
  | 2 => .int
  | 3 => .int
  | 4 => .int
  | 5 => .array .int
  | 6 => .array .int
  | 7 => .array .int
  | 8 => .array .int
  | 9 => .array .int
  | 10 => .array .int
  | 11 => .array .int
  | 12 => .array .int
  | 13 => .array .int
  | _ => .array .int
abbrev wsX70 : List Cond := u_ws RX7 TX7 15
theorem nmX7 : ∀ a, a < 15 → ∀ b, b < 15 → a ≠ b → (TX7 a).2.1 ≠ (TX7 b).2.1 := by decide +kernel
theorem tyX7_ok : ∀ k, k < 15 → parseFieldDescriptor (TX7 k).2.2.1 = some (tyX7 k) := by decide +kernel
def RX8 : String := "ByInitials"
def TX8 : u_T := fun k => match k with
  | 0 => ("ByInitials", "page", "LByInitials$Page;", true)
  | 1 => ("ByInitials", "town", "LByInitials$Town;", true)
  | 2 => ("ByInitials", "draft", "LByInitials$Town;", true)
  | 3 => ("ByInitials", "undoable", "LByInitials$Memory;", true)
  | 4 => ("ByInitials", "kept", "LByInitials$Memory;", true)
  | 5 => ("ByInitials", "line", "LByInitials$Line;", true)
  | 6 => ("ByInitials", "matches", "LByInitials$Matches;", true)
  | 7 => ("ByInitials", "table", "LByInitials$Table;", true)
  | 8 => ("ByInitials", "debts", "LByInitials$Debts;", true)
  | 9 => ("ByInitials", "ledger", "LByInitials$Ledger;", true)
  | 10 => ("ByInitials", "word", "[I", true)
  | _ => ("ByInitials", "wordSize", "I", false)
def tyX8 : Nat → FieldType := fun k => match k with
  | 0 => .object "ByInitials$Page"
  | 1 => .object "ByInitials$Town"
  | 2 => .object "ByInitials$Town"
  | 3 => .object "ByInitials$Memory"
  | 4 => .object "ByInitials$Memory"
  | 5 => .object "ByInitials$Line"
  | 6 => .object "ByInitials$Matches"
  | 7 => .object "ByInitials$Table"
  | 8 => .object "ByInitials$Debts"
  | 9 => .object "ByInitials$Ledger"
  | 10 => .array .int
  | _ => .int
abbrev wsX80 : List Cond := u_ws RX8 TX8 12
theorem nmX8 : ∀ a, a < 12 → ∀ b, b < 12 → a ≠ b → (TX8 a).2.1 ≠ (TX8 b).2.1 := by decide +kernel
theorem tyX8_ok : ∀ k, k < 12 → parseFieldDescriptor (TX8 k).2.2.1 = some (tyX8 k) := by decide +kernel
def RX9 : String := "ByInitialsModel"
def TX9 : u_T := fun k => match k with
  | 0 => ("ByInitialsModel", "length", "I", false)
  | 1 => ("ByInitialsModel", "text", "[B", true)
  | 2 => ("ByInitialsModel", "at", "I", false)
  | 3 => ("ByInitialsModel", "told", "[I", true)
  | 4 => ("ByInitialsModel", "wants", "[I", true)
  | 5 => ("ByInitialsModel", "names", "[I", true)
  | 6 => ("ByInitialsModel", "coins", "[I", true)
  | 7 => ("ByInitialsModel", "rank", "[I", true)
  | 8 => ("ByInitialsModel", "quarrels", "[I", true)
  | 9 => ("ByInitialsModel", "slot", "[I", true)
  | 10 => ("ByInitialsModel", "kept", "I", false)
  | 11 => ("ByInitialsModel", "done", "I", false)
  | 12 => ("ByInitialsModel", "spelt", "I", false)
  | 13 => ("ByInitialsModel", "word", "[I", true)
  | 14 => ("ByInitialsModel", "rows", "I", false)
  | 15 => ("ByInitialsModel", "ledger", "[I", true)
  | 16 => ("ByInitialsModel", "gets", "[I", true)
  | 17 => ("ByInitialsModel", "best", "[I", true)
  | 18 => ("ByInitialsModel", "row", "[I", true)
  | 19 => ("ByInitialsModel", "most", "[I", true)
  | 20 => ("ByInitialsModel", "reach", "I", false)
  | 21 => ("ByInitialsModel", "got", "[I", true)
  | 22 => ("ByInitialsModel", "spell", "[I", true)
  | 23 => ("ByInitialsModel", "spells", "I", false)
  | _ => ("ByInitialsModel", "changeWorth", "I", false)
def tyX9 : Nat → FieldType := fun k => match k with
  | 0 => .int
  | 1 => .array .byte
  | 2 => .int
  | 3 => .array .int
  | 4 => .array .int
  | 5 => .array .int
  | 6 => .array .int
  | 7 => .array .int
  | 8 => .array .int
  | 9 => .array .int
  | 10 => .int
  | 11 => .int
  | 12 => .int
  | 13 => .array .int
  | 14 => .int
  | 15 => .array .int
  | 16 => .array .int
  | 17 => .array .int
  | 18 => .array .int
  | 19 => .array .int
  | 20 => .int
  | 21 => .array .int
  | 22 => .array .int
  | 23 => .int
  | _ => .int
abbrev wsX90 : List Cond := u_ws RX9 TX9 25
theorem nmX9 : ∀ a, a < 25 → ∀ b, b < 25 → a ≠ b → (TX9 a).2.1 ≠ (TX9 b).2.1 := by decide +kernel
theorem tyX9_ok : ∀ k, k < 25 → parseFieldDescriptor (TX9 k).2.2.1 = some (tyX9 k) := by decide +kernel
abbrev vwCl : List vw_C := [(RX0, TX0, 3), (RX1, TX1, 3), (RX2, TX2, 2), (RX3, TX3, 2), (RX4, TX4, 2), (RX5, TX5, 5), (RX6, TX6, 4), (RX7, TX7, 15), (RX8, TX8, 12), (RX9, TX9, 25)]
/-- ByInitials$Debts.<init>.()V -/
def bc_0 : List Ins := [(1, 0, 1, 0, []), (37, 0, 0, 0, []), (1, 0, 1, 0, []), (0, 0, 0, 8, []), (26, 0, 0, 0, []), (17, 0, 0, 0, []), (1, 0, 1, 0, []), (0, 0, 0, 256, []), (26, 0, 0, 0, []), (17, 0, 1, 0, []), (1, 0, 1, 0, []), (0, 0, 0, 256, []), (26, 0, 0, 0, []), (17, 0, 2, 0, []), (34, 0, 0, 0, [])]
def bp_0 : List Nat := [0, 1, 4, 5, 7, 9, 12, 13, 16, 18, 21, 22, 25, 27, 30]
/-- ByInitials$Debts.longestChain.(LByInitials$Town;)I -/
def bc_1 : List Ins := [(0, 0, 0, 0, []), (2, 2, 0, 0, []), (1, 2, 0, 0, []), (1, 1, 1, 0, []), (14, 7, 0, 0, []), (12, 13, 3, 0, []), (1, 0, 1, 0, []), (15, 0, 0, 0, []), (1, 2, 0, 0, []), (0, 0, 0, 0, []), (19, 0, 0, 0, []), (10, 2, 0, 1, []), (11, 2, 0, 0, []), (0, 0, 0, 1, []), (2, 2, 0, 0, []), (0, 0, 0, 0, []), (2, 3, 0, 0, []), (1, 3, 0, 0, []), (1, 1, 1, 0, []), (14, 7, 0, 0, []), (12, 29, 3, 0, []), (1, 2, 0, 0, []), (13, 29, 0, 0, []), (1, 0, 1, 0, []), (1, 1, 1, 0, []), (36, 2, 2, 0, [0]), (2, 2, 0, 0, []), (10, 3, 0, 1, []), (11, 17, 0, 0, []), (1, 2, 0, 0, []), (13, 33, 0, 0, []), (0, 0, 0, (-4), []), (33, 0, 0, 0, []), (0, 0, 0, 0, []), (2, 3, 0, 0, []), (0, 0, 0, 0, []), (2, 4, 0, 0, []), (1, 4, 0, 0, []), (1, 1, 1, 0, []), (14, 7, 0, 0, []), (12, 50, 3, 0, []), (1, 3, 0, 0, []), (1, 0, 1, 0, []), (15, 0, 0, 0, []), (1, 4, 0, 0, []), (18, 0, 0, 0, []), (38, 0, 0, 0, []), (2, 3, 0, 0, []), (10, 4, 0, 1, []), (11, 37, 0, 0, []), (1, 3, 0, 0, []), (33, 0, 0, 0, [])]
def bp_1 : List Nat := [0, 1, 2, 3, 4, 7, 10, 11, 14, 15, 16, 17, 20, 23, 24, 25, 26, 27, 28, 29, 32, 35, 36, 39, 40, 41, 44, 45, 48, 51, 52, 55, 57, 58, 59, 60, 61, 63, 65, 66, 69, 72, 73, 74, 77, 79, 80, 83, 84, 87, 90, 91]
/-- ByInitials$Debts.stretch.(LByInitials$Town;)Z -/
def bc_2 : List Ins := [(0, 0, 0, 0, []), (2, 2, 0, 0, []), (0, 0, 0, 0, []), (2, 3, 0, 0, []), (1, 3, 0, 0, []), (1, 1, 1, 0, []), (14, 7, 0, 0, []), (12, 46, 3, 0, []), (0, 0, 0, 0, []), (2, 4, 0, 0, []), (1, 4, 0, 0, []), (1, 1, 1, 0, []), (14, 7, 0, 0, []), (12, 44, 3, 0, []), (1, 1, 1, 0, []), (1, 4, 0, 0, []), (1, 3, 0, 0, []), (36, 88, 3, 0, [7]), (13, 42, 5, 0, []), (1, 0, 1, 0, []), (15, 0, 0, 0, []), (1, 3, 0, 0, []), (18, 0, 0, 0, []), (1, 0, 1, 0, []), (15, 0, 0, 0, []), (1, 4, 0, 0, []), (18, 0, 0, 0, []), (0, 0, 0, 1, []), (3, 0, 0, 0, []), (12, 42, 3, 0, []), (1, 0, 1, 0, []), (15, 0, 0, 0, []), (1, 3, 0, 0, []), (1, 0, 1, 0, []), (15, 0, 0, 0, []), (1, 4, 0, 0, []), (18, 0, 0, 0, []), (0, 0, 0, 1, []), (3, 0, 0, 0, []), (19, 0, 0, 0, []), (0, 0, 0, 1, []), (2, 2, 0, 0, []), (10, 4, 0, 1, []), (11, 10, 0, 0, []), (10, 3, 0, 1, []), (11, 4, 0, 0, []), (1, 2, 0, 0, []), (33, 1, 0, 0, [])]
def bp_2 : List Nat := [0, 1, 2, 3, 4, 5, 6, 9, 12, 13, 15, 17, 18, 21, 24, 25, 27, 28, 31, 34, 35, 38, 39, 40, 41, 44, 46, 47, 48, 49, 52, 53, 56, 57, 58, 61, 63, 64, 65, 66, 67, 68, 69, 72, 75, 78, 81, 82]
/-- ByInitials$Debts.fewestPayments.(LByInitials$Town;)I -/
def bc_3 : List Ins := [(0, 0, 0, 1, []), (1, 1, 1, 0, []), (14, 7, 0, 0, []), (3, 5, 0, 0, []), (0, 0, 0, 1, []), (3, 1, 0, 0, []), (2, 2, 0, 0, []), (1, 0, 1, 0, []), (15, 0, 1, 0, []), (0, 0, 0, 0, []), (0, 0, 0, 0, []), (19, 0, 0, 0, []), (1, 0, 1, 0, []), (15, 0, 2, 0, []), (0, 0, 0, 0, []), (0, 0, 0, 0, []), (19, 0, 0, 0, []), (0, 0, 0, 0, []), (2, 3, 0, 0, []), (1, 3, 0, 0, []), (1, 1, 1, 0, []), (14, 7, 0, 0, []), (12, 57, 3, 0, []), (1, 1, 1, 0, []), (1, 3, 0, 0, []), (36, 90, 2, 0, [7]), (2, 4, 0, 0, []), (0, 0, 0, 1, []), (1, 3, 0, 0, []), (3, 5, 0, 0, []), (2, 5, 0, 0, []), (1, 5, 0, 0, []), (2, 6, 0, 0, []), (1, 6, 0, 0, []), (0, 0, 0, 2, []), (1, 5, 0, 0, []), (3, 2, 0, 0, []), (12, 55, 3, 0, []), (1, 6, 0, 0, []), (0, 0, 0, 256, []), (12, 55, 3, 0, []), (1, 0, 1, 0, []), (15, 0, 1, 0, []), (1, 6, 0, 0, []), (1, 0, 1, 0, []), (15, 0, 1, 0, []), (1, 6, 0, 0, []), (1, 5, 0, 0, []), (3, 10, 0, 0, []), (18, 0, 0, 0, []), (1, 4, 0, 0, []), (3, 0, 0, 0, []), (19, 0, 0, 0, []), (10, 6, 0, 1, []), (11, 33, 0, 0, []), (10, 3, 0, 1, []), (11, 19, 0, 0, []), (0, 0, 0, 1, []), (2, 3, 0, 0, []), (1, 3, 0, 0, []), (1, 2, 0, 0, []), (12, 74, 4, 0, []), (1, 3, 0, 0, []), (0, 0, 0, 256, []), (12, 74, 3, 0, []), (1, 0, 1, 0, []), (15, 0, 2, 0, []), (1, 3, 0, 0, []), (1, 0, 1, 0, []), (1, 3, 0, 0, []), (36, 4, 2, 0, [0]), (19, 0, 0, 0, []), (10, 3, 0, 1, []), (11, 59, 0, 0, []), (1, 1, 1, 0, []), (14, 7, 0, 0, []), (1, 0, 1, 0, []), (15, 0, 2, 0, []), (1, 2, 0, 0, []), (18, 0, 0, 0, []), (3, 1, 0, 0, []), (33, 0, 0, 0, [])]
def bp_3 : List Nat := [0, 1, 2, 5, 6, 7, 8, 9, 10, 13, 14, 15, 16, 17, 20, 21, 22, 23, 24, 25, 26, 27, 30, 33, 34, 35, 38, 40, 41, 42, 43, 45, 47, 49, 51, 52, 54, 55, 58, 60, 63, 66, 67, 70, 72, 73, 76, 78, 80, 81, 82, 84, 85, 86, 89, 92, 95, 98, 99, 100, 101, 102, 105, 106, 109, 112, 113, 116, 117, 118, 119, 122, 123, 126, 129, 130, 133, 134, 137, 138, 139, 140]
/-- ByInitials$Debts.mostGroups.(I)I -/
def bc_4 : List Ins := [(0, 0, 0, 0, []), (2, 2, 0, 0, []), (0, 0, 0, 0, []), (2, 3, 0, 0, []), (1, 3, 0, 0, []), (0, 0, 0, 8, []), (12, 24, 3, 0, []), (1, 1, 0, 0, []), (1, 3, 0, 0, []), (36, 135, 2, 1, []), (13, 22, 0, 0, []), (1, 2, 0, 0, []), (1, 0, 1, 0, []), (15, 0, 2, 0, []), (1, 1, 0, 0, []), (0, 0, 0, 1, []), (1, 3, 0, 0, []), (3, 5, 0, 0, []), (3, 10, 0, 0, []), (18, 0, 0, 0, []), (38, 0, 0, 0, []), (2, 2, 0, 0, []), (10, 3, 0, 1, []), (11, 4, 0, 0, []), (1, 0, 1, 0, []), (15, 0, 1, 0, []), (1, 1, 0, 0, []), (18, 0, 0, 0, []), (13, 33, 1, 0, []), (1, 2, 0, 0, []), (0, 0, 0, 1, []), (3, 0, 0, 0, []), (11, 34, 0, 0, []), (1, 2, 0, 0, []), (33, 0, 0, 0, [])]
def bp_4 : List Nat := [0, 1, 2, 3, 4, 5, 7, 10, 11, 12, 15, 18, 19, 20, 23, 24, 25, 26, 27, 28, 29, 32, 33, 36, 39, 40, 43, 44, 45, 48, 49, 50, 51, 54, 55]
/-- ByInitials$Ledger.<init>.()V -/
def bc_5 : List Ins := [(1, 0, 1, 0, []), (37, 0, 0, 0, []), (1, 0, 1, 0, []), (0, 0, 0, 8, []), (26, 0, 0, 0, []), (17, 1, 0, 0, []), (1, 0, 1, 0, []), (0, 0, 0, 8, []), (26, 0, 0, 0, []), (17, 1, 1, 0, []), (34, 0, 0, 0, [])]
def bp_5 : List Nat := [0, 1, 4, 5, 7, 9, 12, 13, 15, 17, 20]
/-- ByInitials$Ledger.add.(II)Z -/
def bc_6 : List Ins := [(1, 0, 1, 0, []), (14, 1, 2, 0, []), (0, 0, 0, 8, []), (12, 6, 2, 0, []), (0, 0, 0, 0, []), (33, 1, 0, 0, []), (1, 0, 1, 0, []), (15, 1, 0, 0, []), (1, 0, 1, 0, []), (14, 1, 2, 0, []), (1, 1, 0, 0, []), (19, 0, 0, 0, []), (1, 0, 1, 0, []), (15, 1, 1, 0, []), (1, 0, 1, 0, []), (14, 1, 2, 0, []), (1, 2, 0, 0, []), (19, 0, 0, 0, []), (1, 0, 1, 0, []), (28, 0, 0, 0, []), (14, 1, 2, 0, []), (0, 0, 0, 1, []), (3, 0, 0, 0, []), (16, 1, 2, 0, []), (0, 0, 0, 1, []), (33, 1, 0, 0, [])]
def bp_6 : List Nat := [0, 1, 4, 6, 9, 10, 11, 12, 15, 16, 19, 20, 21, 22, 25, 26, 29, 30, 31, 32, 33, 36, 37, 38, 41, 42]
/-- ByInitials$Ledger.canBe.(IILByInitials$Line;)Z -/
def bc_7 : List Ins := [(1, 3, 1, 0, []), (15, 2, 1, 0, []), (1, 2, 0, 0, []), (36, 76, 2, 0, [7]), (1, 0, 1, 0, []), (15, 1, 0, 0, []), (1, 1, 0, 0, []), (18, 0, 0, 0, []), (12, 19, 1, 0, []), (1, 3, 1, 0, []), (1, 2, 0, 0, []), (36, 18, 2, 0, [2]), (1, 0, 1, 0, []), (15, 1, 1, 0, []), (1, 1, 0, 0, []), (18, 0, 0, 0, []), (12, 19, 1, 0, []), (0, 0, 0, 1, []), (11, 20, 0, 0, []), (0, 0, 0, 0, []), (33, 1, 0, 0, [])]
def bp_7 : List Nat := [0, 1, 4, 5, 8, 9, 12, 13, 14, 17, 18, 19, 22, 23, 26, 27, 28, 31, 32, 35, 36]
/-- ByInitials$Ledger.candidates.(ILByInitials$Line;)I -/
def bc_8 : List Ins := [(0, 0, 0, 0, []), (2, 3, 0, 0, []), (0, 0, 0, 0, []), (2, 4, 0, 0, []), (1, 4, 0, 0, []), (1, 2, 1, 0, []), (15, 2, 1, 0, []), (14, 7, 0, 0, []), (12, 23, 3, 0, []), (1, 3, 0, 0, []), (1, 0, 1, 0, []), (1, 1, 0, 0, []), (1, 4, 0, 0, []), (1, 2, 1, 0, []), (36, 7, 4, 0, [1]), (13, 18, 0, 0, []), (0, 0, 0, 1, []), (11, 19, 0, 0, []), (0, 0, 0, 0, []), (3, 0, 0, 0, []), (2, 3, 0, 0, []), (10, 4, 0, 1, []), (11, 4, 0, 0, []), (1, 3, 0, 0, []), (33, 0, 0, 0, [])]
def bp_8 : List Nat := [0, 1, 2, 3, 5, 7, 8, 11, 14, 17, 18, 19, 20, 22, 23, 26, 29, 30, 33, 34, 35, 36, 39, 42, 43]
/-- ByInitials$Ledger.alikeAbove.(I)I -/
def bc_9 : List Ins := [(0, 0, 0, 0, []), (2, 2, 0, 0, []), (0, 0, 0, 0, []), (2, 3, 0, 0, []), (1, 3, 0, 0, []), (1, 1, 0, 0, []), (12, 33, 3, 0, []), (1, 2, 0, 0, []), (1, 0, 1, 0, []), (15, 1, 0, 0, []), (1, 3, 0, 0, []), (18, 0, 0, 0, []), (1, 0, 1, 0, []), (15, 1, 0, 0, []), (1, 1, 0, 0, []), (18, 0, 0, 0, []), (12, 28, 1, 0, []), (1, 0, 1, 0, []), (15, 1, 1, 0, []), (1, 3, 0, 0, []), (18, 0, 0, 0, []), (1, 0, 1, 0, []), (15, 1, 1, 0, []), (1, 1, 0, 0, []), (18, 0, 0, 0, []), (12, 28, 1, 0, []), (0, 0, 0, 1, []), (11, 29, 0, 0, []), (0, 0, 0, 0, []), (3, 0, 0, 0, []), (2, 2, 0, 0, []), (10, 3, 0, 1, []), (11, 4, 0, 0, []), (1, 2, 0, 0, []), (33, 0, 0, 0, [])]
def bp_9 : List Nat := [0, 1, 2, 3, 4, 5, 6, 9, 10, 11, 14, 15, 16, 17, 20, 21, 22, 25, 26, 29, 30, 31, 32, 35, 36, 37, 40, 41, 44, 45, 46, 47, 50, 53, 54]
/-- ByInitials$Ledger.countWays.(LByInitials$Line;)I -/
def bc_10 : List Ins := [(0, 0, 0, 1, []), (2, 2, 0, 0, []), (0, 0, 0, 0, []), (2, 3, 0, 0, []), (1, 3, 0, 0, []), (1, 0, 1, 0, []), (14, 1, 2, 0, []), (12, 23, 3, 0, []), (1, 2, 0, 0, []), (0, 0, 0, 0, []), (1, 0, 1, 0, []), (1, 3, 0, 0, []), (1, 1, 1, 0, []), (36, 8, 3, 0, [1]), (1, 0, 1, 0, []), (1, 3, 0, 0, []), (36, 9, 2, 0, [1]), (3, 1, 0, 0, []), (38, 0, 0, 0, []), (3, 2, 0, 0, []), (2, 2, 0, 0, []), (10, 3, 0, 1, []), (11, 4, 0, 0, []), (1, 2, 0, 0, []), (33, 0, 0, 0, [])]
def bp_10 : List Nat := [0, 1, 2, 3, 4, 5, 6, 9, 12, 13, 14, 15, 16, 17, 20, 21, 22, 25, 26, 29, 30, 31, 34, 37, 38]
/-- ByInitials$Ledger.onlyPerson.(ILByInitials$Line;)I -/
def bc_11 : List Ins := [(1, 0, 1, 0, []), (1, 1, 0, 0, []), (1, 2, 1, 0, []), (36, 8, 3, 0, [1]), (0, 0, 0, 1, []), (12, 8, 0, 0, []), (0, 0, 0, (-4), []), (33, 0, 0, 0, []), (0, 0, 0, 0, []), (2, 3, 0, 0, []), (1, 3, 0, 0, []), (1, 2, 1, 0, []), (15, 2, 1, 0, []), (14, 7, 0, 0, []), (12, 25, 3, 0, []), (1, 0, 1, 0, []), (1, 1, 0, 0, []), (1, 3, 0, 0, []), (1, 2, 1, 0, []), (36, 7, 4, 0, [1]), (13, 23, 0, 0, []), (1, 3, 0, 0, []), (33, 0, 0, 0, []), (10, 3, 0, 1, []), (11, 10, 0, 0, []), (0, 0, 0, (-4), []), (33, 0, 0, 0, [])]
def bp_11 : List Nat := [0, 1, 2, 3, 6, 7, 10, 12, 13, 14, 15, 16, 17, 20, 23, 26, 27, 28, 29, 30, 33, 36, 37, 38, 41, 44, 46]
/-- ByInitials$Line.<init>.()V -/
def bc_12 : List Ins := [(1, 0, 1, 0, []), (37, 0, 0, 0, []), (1, 0, 1, 0, []), (0, 0, 0, 8, []), (26, 0, 0, 0, []), (17, 2, 0, 0, []), (1, 0, 1, 0, []), (25, 7, 15, 0, []), (28, 0, 0, 0, []), (36, 63, 1, 2, []), (17, 2, 1, 0, []), (34, 0, 0, 0, [])]
def bp_12 : List Nat := [0, 1, 4, 5, 7, 9, 12, 13, 16, 17, 20, 23]
/-- ByInitials$Line.load.(LByInitials$Town;)V -/
def bc_13 : List Ins := [(1, 0, 1, 0, []), (15, 2, 1, 0, []), (1, 1, 1, 0, []), (36, 65, 2, 0, [7]), (1, 0, 1, 0, []), (36, 14, 1, 0, [2]), (34, 0, 0, 0, [])]
def bp_13 : List Nat := [0, 1, 4, 5, 8, 9, 12]
/-- ByInitials$Line.sort.()V -/
def bc_14 : List Ins := [(0, 0, 0, 0, []), (2, 1, 0, 0, []), (1, 1, 0, 0, []), (1, 0, 1, 0, []), (15, 2, 1, 0, []), (14, 7, 0, 0, []), (12, 17, 3, 0, []), (1, 0, 1, 0, []), (15, 2, 0, 0, []), (1, 1, 0, 0, []), (1, 0, 1, 0, []), (15, 2, 1, 0, []), (1, 1, 0, 0, []), (36, 79, 2, 0, [7]), (19, 0, 0, 0, []), (10, 1, 0, 1, []), (11, 2, 0, 0, []), (34, 0, 0, 0, [])]
def bp_14 : List Nat := [0, 1, 2, 3, 4, 7, 10, 13, 14, 17, 18, 19, 22, 23, 26, 27, 30, 33]
/-- ByInitials$Line.isAhead.(III)Z -/
def bc_15 : List Ins := [(1, 3, 0, 0, []), (1, 0, 1, 0, []), (15, 2, 0, 0, []), (1, 1, 0, 0, []), (18, 0, 0, 0, []), (12, 15, 2, 0, []), (1, 3, 0, 0, []), (1, 0, 1, 0, []), (15, 2, 0, 0, []), (1, 1, 0, 0, []), (18, 0, 0, 0, []), (12, 17, 1, 0, []), (1, 2, 0, 0, []), (1, 1, 0, 0, []), (12, 17, 3, 0, []), (0, 0, 0, 1, []), (11, 18, 0, 0, []), (0, 0, 0, 0, []), (33, 1, 0, 0, [])]
def bp_15 : List Nat := [0, 1, 2, 5, 6, 7, 10, 11, 12, 15, 16, 17, 20, 21, 22, 25, 26, 29, 30]
/-- ByInitials$Line.placeOf.(I)I -/
def bc_16 : List Ins := [(0, 0, 0, 0, []), (2, 2, 0, 0, []), (0, 0, 0, 0, []), (2, 3, 0, 0, []), (1, 3, 0, 0, []), (1, 0, 1, 0, []), (15, 2, 1, 0, []), (14, 7, 0, 0, []), (12, 29, 3, 0, []), (1, 2, 0, 0, []), (1, 3, 0, 0, []), (1, 1, 0, 0, []), (12, 24, 0, 0, []), (1, 0, 1, 0, []), (1, 3, 0, 0, []), (1, 1, 0, 0, []), (1, 0, 1, 0, []), (15, 2, 0, 0, []), (1, 1, 0, 0, []), (18, 0, 0, 0, []), (36, 15, 4, 0, [2]), (13, 24, 1, 0, []), (0, 0, 0, 1, []), (11, 25, 0, 0, []), (0, 0, 0, 0, []), (3, 0, 0, 0, []), (2, 2, 0, 0, []), (10, 3, 0, 1, []), (11, 4, 0, 0, []), (1, 2, 0, 0, []), (33, 0, 0, 0, [])]
def bp_16 : List Nat := [0, 1, 2, 3, 4, 5, 6, 9, 12, 15, 16, 17, 18, 21, 22, 23, 24, 25, 28, 29, 30, 33, 36, 37, 40, 41, 42, 43, 46, 49, 50]
/-- ByInitials$Line.getsBy.(II)I -/
def bc_17 : List Ins := [(1, 0, 1, 0, []), (15, 2, 1, 0, []), (14, 7, 1, 0, []), (2, 3, 0, 0, []), (0, 0, 0, 0, []), (2, 4, 0, 0, []), (1, 4, 0, 0, []), (1, 0, 1, 0, []), (15, 2, 1, 0, []), (14, 7, 0, 0, []), (12, 30, 3, 0, []), (1, 4, 0, 0, []), (1, 1, 0, 0, []), (12, 28, 0, 0, []), (1, 0, 1, 0, []), (1, 4, 0, 0, []), (1, 1, 0, 0, []), (1, 2, 0, 0, []), (36, 15, 4, 0, [2]), (13, 28, 1, 0, []), (1, 3, 0, 0, []), (1, 0, 1, 0, []), (15, 2, 1, 0, []), (15, 7, 7, 0, []), (1, 4, 0, 0, []), (18, 0, 0, 0, []), (3, 1, 0, 0, []), (2, 3, 0, 0, []), (10, 4, 0, 1, []), (11, 6, 0, 0, []), (0, 0, 0, 0, []), (1, 3, 0, 0, []), (1, 0, 1, 0, []), (15, 2, 1, 0, []), (15, 7, 7, 0, []), (1, 1, 0, 0, []), (18, 0, 0, 0, []), (38, 1, 0, 0, []), (38, 0, 0, 0, []), (33, 0, 0, 0, [])]
def bp_17 : List Nat := [0, 1, 4, 7, 8, 9, 11, 13, 14, 17, 20, 23, 25, 26, 29, 30, 32, 33, 34, 37, 40, 41, 42, 45, 48, 50, 51, 52, 53, 56, 59, 60, 61, 62, 65, 68, 69, 70, 73, 76]
/-- ByInitials$Line.getsNow.(I)I -/
def bc_18 : List Ins := [(1, 0, 1, 0, []), (1, 1, 0, 0, []), (1, 0, 1, 0, []), (15, 2, 0, 0, []), (1, 1, 0, 0, []), (18, 0, 0, 0, []), (36, 17, 3, 0, [2]), (33, 0, 0, 0, [])]
def bp_18 : List Nat := [0, 1, 2, 3, 6, 7, 8, 11]
/-- ByInitials$Line.countFull.()I -/
def bc_19 : List Ins := [(0, 0, 0, 0, []), (2, 1, 0, 0, []), (0, 0, 0, 0, []), (2, 2, 0, 0, []), (1, 2, 0, 0, []), (1, 0, 1, 0, []), (15, 2, 1, 0, []), (14, 7, 0, 0, []), (12, 26, 3, 0, []), (1, 1, 0, 0, []), (1, 0, 1, 0, []), (1, 2, 0, 0, []), (36, 18, 2, 0, [2]), (1, 0, 1, 0, []), (15, 2, 1, 0, []), (15, 7, 7, 0, []), (1, 2, 0, 0, []), (18, 0, 0, 0, []), (12, 21, 1, 0, []), (0, 0, 0, 1, []), (11, 22, 0, 0, []), (0, 0, 0, 0, []), (3, 0, 0, 0, []), (2, 1, 0, 0, []), (10, 2, 0, 1, []), (11, 4, 0, 0, []), (1, 1, 0, 0, []), (33, 0, 0, 0, [])]
def bp_19 : List Nat := [0, 1, 2, 3, 4, 5, 6, 9, 12, 15, 16, 17, 18, 21, 22, 25, 28, 29, 30, 33, 34, 37, 38, 39, 40, 43, 46, 47]
/-- ByInitials$Line.countFullIfExchanged.(II)I -/
def bc_20 : List Ins := [(1, 0, 1, 0, []), (15, 2, 1, 0, []), (1, 1, 0, 0, []), (1, 2, 0, 0, []), (36, 70, 3, 0, [7]), (1, 0, 1, 0, []), (36, 14, 1, 0, [2]), (1, 0, 1, 0, []), (36, 19, 1, 0, [2]), (2, 3, 0, 0, []), (1, 0, 1, 0, []), (15, 2, 1, 0, []), (1, 1, 0, 0, []), (1, 2, 0, 0, []), (36, 70, 3, 0, [7]), (1, 0, 1, 0, []), (36, 14, 1, 0, [2]), (1, 3, 0, 0, []), (33, 0, 0, 0, [])]
def bp_20 : List Nat := [0, 1, 4, 5, 6, 9, 10, 13, 14, 17, 18, 19, 22, 23, 24, 27, 28, 31, 32]
/-- ByInitials$Line.keyWithFirst.(II)I -/
def bc_21 : List Ins := [(1, 0, 1, 0, []), (15, 2, 0, 0, []), (1, 1, 0, 0, []), (18, 0, 0, 0, []), (0, 0, 0, 14348907, []), (3, 4, 0, 0, []), (1, 0, 1, 0, []), (15, 2, 1, 0, []), (1, 2, 0, 0, []), (36, 80, 2, 0, [7]), (3, 0, 0, 0, []), (33, 0, 0, 0, [])]
def bp_21 : List Nat := [0, 1, 4, 5, 6, 8, 9, 10, 13, 14, 17, 18]
/-- ByInitials$Line.gainBy.(II)I -/
def bc_22 : List Ins := [(1, 0, 1, 0, []), (1, 1, 0, 0, []), (1, 0, 1, 0, []), (1, 1, 0, 0, []), (1, 2, 0, 0, []), (36, 21, 3, 0, [2]), (36, 17, 3, 0, [2]), (2, 3, 0, 0, []), (1, 2, 0, 0, []), (1, 0, 1, 0, []), (15, 2, 1, 0, []), (1, 1, 0, 0, []), (36, 76, 2, 0, [7]), (12, 16, 1, 0, []), (1, 3, 0, 0, []), (11, 21, 0, 0, []), (1, 3, 0, 0, []), (1, 0, 1, 0, []), (15, 2, 1, 0, []), (14, 7, 3, 0, []), (3, 1, 0, 0, []), (33, 0, 0, 0, [])]
def bp_22 : List Nat := [0, 1, 2, 3, 4, 5, 8, 11, 12, 13, 14, 17, 18, 21, 24, 25, 28, 29, 30, 33, 36, 37]
/-- ByInitials$Line.bestFirst.(I)I -/
def bc_23 : List Ins := [(1, 0, 1, 0, []), (15, 2, 1, 0, []), (15, 7, 13, 0, []), (0, 0, 0, 0, []), (18, 0, 0, 0, []), (2, 2, 0, 0, []), (1, 0, 1, 0, []), (1, 1, 0, 0, []), (1, 2, 0, 0, []), (36, 22, 3, 0, [2]), (2, 3, 0, 0, []), (0, 0, 0, 1, []), (2, 4, 0, 0, []), (1, 4, 0, 0, []), (0, 0, 0, 26, []), (12, 36, 3, 0, []), (1, 0, 1, 0, []), (15, 2, 1, 0, []), (15, 7, 13, 0, []), (1, 4, 0, 0, []), (18, 0, 0, 0, []), (2, 5, 0, 0, []), (1, 0, 1, 0, []), (1, 1, 0, 0, []), (1, 5, 0, 0, []), (36, 22, 3, 0, [2]), (2, 6, 0, 0, []), (1, 6, 0, 0, []), (1, 3, 0, 0, []), (12, 34, 5, 0, []), (1, 6, 0, 0, []), (2, 3, 0, 0, []), (1, 5, 0, 0, []), (2, 2, 0, 0, []), (10, 4, 0, 1, []), (11, 13, 0, 0, []), (1, 2, 0, 0, []), (33, 0, 0, 0, [])]
def bp_23 : List Nat := [0, 1, 4, 7, 8, 9, 10, 11, 12, 13, 16, 17, 18, 20, 22, 24, 27, 28, 31, 34, 36, 37, 39, 40, 41, 43, 46, 48, 50, 51, 54, 56, 57, 59, 60, 63, 66, 67]
/-- ByInitials$Line.allChange.()Z -/
def bc_24 : List Ins := [(0, 0, 0, 0, []), (2, 1, 0, 0, []), (0, 0, 0, 0, []), (2, 2, 0, 0, []), (1, 2, 0, 0, []), (1, 0, 1, 0, []), (15, 2, 1, 0, []), (14, 7, 0, 0, []), (12, 45, 3, 0, []), (1, 0, 1, 0, []), (15, 2, 1, 0, []), (1, 2, 0, 0, []), (36, 74, 2, 0, [7]), (13, 43, 1, 0, []), (1, 0, 1, 0, []), (1, 2, 0, 0, []), (36, 23, 2, 0, [2]), (2, 3, 0, 0, []), (1, 1, 0, 0, []), (13, 26, 1, 0, []), (1, 3, 0, 0, []), (1, 0, 1, 0, []), (15, 2, 1, 0, []), (1, 2, 0, 0, []), (36, 76, 2, 0, [7]), (12, 28, 0, 0, []), (0, 0, 0, 1, []), (11, 29, 0, 0, []), (0, 0, 0, 0, []), (2, 1, 0, 0, []), (1, 0, 1, 0, []), (15, 2, 1, 0, []), (1, 2, 0, 0, []), (1, 3, 0, 0, []), (36, 77, 3, 0, [7]), (1, 0, 1, 0, []), (15, 2, 0, 0, []), (1, 2, 0, 0, []), (1, 0, 1, 0, []), (1, 2, 0, 0, []), (1, 3, 0, 0, []), (36, 21, 3, 0, [2]), (19, 0, 0, 0, []), (10, 2, 0, 1, []), (11, 4, 0, 0, []), (1, 1, 0, 0, []), (33, 1, 0, 0, [])]
def bp_24 : List Nat := [0, 1, 2, 3, 4, 5, 6, 9, 12, 15, 16, 19, 20, 23, 26, 27, 28, 31, 32, 33, 36, 37, 38, 41, 42, 45, 48, 49, 52, 53, 54, 55, 58, 59, 60, 63, 64, 67, 68, 69, 70, 71, 74, 75, 78, 81, 82]
/-- ByInitials$Matches.<init>.()V -/
def bc_25 : List Ins := [(1, 0, 1, 0, []), (37, 0, 0, 0, []), (1, 0, 1, 0, []), (0, 0, 0, 8, []), (26, 0, 0, 0, []), (17, 3, 0, 0, []), (1, 0, 1, 0, []), (0, 0, 0, 256, []), (26, 0, 0, 0, []), (17, 3, 1, 0, []), (34, 0, 0, 0, [])]
def bp_25 : List Nat := [0, 1, 4, 5, 7, 9, 12, 13, 16, 18, 21]
/-- ByInitials$Matches.most.(LByInitials$Town;I)I -/
def bc_26 : List Ins := [(0, 0, 0, 0, []), (2, 3, 0, 0, []), (1, 3, 0, 0, []), (1, 1, 1, 0, []), (14, 7, 0, 0, []), (12, 42, 3, 0, []), (1, 0, 1, 0, []), (15, 3, 0, 0, []), (1, 3, 0, 0, []), (0, 0, 0, 0, []), (19, 0, 0, 0, []), (0, 0, 0, 0, []), (2, 4, 0, 0, []), (1, 4, 0, 0, []), (1, 1, 1, 0, []), (14, 7, 0, 0, []), (12, 40, 3, 0, []), (1, 0, 1, 0, []), (15, 3, 0, 0, []), (1, 3, 0, 0, []), (29, 0, 0, 0, []), (18, 0, 0, 0, []), (1, 3, 0, 0, []), (1, 4, 0, 0, []), (12, 35, 0, 0, []), (1, 1, 1, 0, []), (1, 3, 0, 0, []), (1, 4, 0, 0, []), (1, 2, 0, 0, []), (36, 84, 4, 0, [7]), (13, 35, 0, 0, []), (0, 0, 0, 1, []), (1, 4, 0, 0, []), (3, 5, 0, 0, []), (11, 36, 0, 0, []), (0, 0, 0, 0, []), (3, 9, 0, 0, []), (19, 0, 0, 0, []), (10, 4, 0, 1, []), (11, 13, 0, 0, []), (10, 3, 0, 1, []), (11, 2, 0, 0, []), (0, 0, 0, 1, []), (1, 1, 1, 0, []), (14, 7, 0, 0, []), (3, 5, 0, 0, []), (0, 0, 0, 1, []), (3, 1, 0, 0, []), (2, 3, 0, 0, []), (1, 0, 1, 0, []), (15, 3, 1, 0, []), (0, 0, 0, 0, []), (0, 0, 0, 0, []), (19, 0, 0, 0, []), (0, 0, 0, 1, []), (2, 4, 0, 0, []), (1, 4, 0, 0, []), (1, 3, 0, 0, []), (12, 71, 4, 0, []), (1, 4, 0, 0, []), (0, 0, 0, 256, []), (12, 71, 3, 0, []), (1, 0, 1, 0, []), (15, 3, 1, 0, []), (1, 4, 0, 0, []), (1, 0, 1, 0, []), (1, 4, 0, 0, []), (36, 27, 2, 0, [3]), (19, 0, 0, 0, []), (10, 4, 0, 1, []), (11, 56, 0, 0, []), (1, 0, 1, 0, []), (15, 3, 1, 0, []), (1, 3, 0, 0, []), (18, 0, 0, 0, []), (33, 0, 0, 0, [])]
def bp_26 : List Nat := [0, 1, 2, 3, 4, 7, 10, 11, 14, 15, 16, 17, 18, 20, 22, 23, 26, 29, 30, 33, 34, 35, 36, 37, 39, 42, 43, 44, 46, 47, 50, 53, 54, 56, 57, 60, 61, 62, 63, 66, 69, 72, 75, 76, 77, 80, 81, 82, 83, 84, 85, 88, 89, 90, 91, 92, 94, 96, 97, 100, 102, 105, 108, 109, 112, 114, 115, 117, 120, 121, 124, 127, 128, 131, 132, 133]
/-- ByInitials$Matches.bestWithin.(I)I -/
def bc_27 : List Ins := [(1, 1, 0, 0, []), (36, 28, 1, 1, []), (2, 2, 0, 0, []), (1, 1, 0, 0, []), (1, 1, 0, 0, []), (0, 0, 0, 1, []), (3, 1, 0, 0, []), (3, 8, 0, 0, []), (2, 3, 0, 0, []), (1, 0, 1, 0, []), (15, 3, 1, 0, []), (1, 3, 0, 0, []), (18, 0, 0, 0, []), (2, 4, 0, 0, []), (1, 2, 0, 0, []), (0, 0, 0, 1, []), (3, 0, 0, 0, []), (2, 5, 0, 0, []), (1, 5, 0, 0, []), (0, 0, 0, 8, []), (12, 45, 3, 0, []), (1, 3, 0, 0, []), (1, 0, 1, 0, []), (15, 3, 0, 0, []), (1, 2, 0, 0, []), (18, 0, 0, 0, []), (3, 8, 0, 0, []), (1, 5, 0, 0, []), (36, 135, 2, 1, []), (13, 43, 0, 0, []), (1, 4, 0, 0, []), (0, 0, 0, 1, []), (1, 0, 1, 0, []), (15, 3, 1, 0, []), (1, 3, 0, 0, []), (0, 0, 0, 1, []), (1, 5, 0, 0, []), (3, 5, 0, 0, []), (3, 10, 0, 0, []), (18, 0, 0, 0, []), (3, 0, 0, 0, []), (38, 0, 0, 0, []), (2, 4, 0, 0, []), (10, 5, 0, 1, []), (11, 18, 0, 0, []), (1, 4, 0, 0, []), (33, 0, 0, 0, [])]
def bp_27 : List Nat := [0, 1, 4, 5, 6, 7, 8, 9, 10, 11, 12, 15, 16, 17, 19, 20, 21, 22, 24, 26, 28, 31, 32, 33, 36, 37, 38, 39, 41, 44, 47, 49, 50, 51, 54, 55, 56, 58, 59, 60, 61, 62, 65, 67, 70, 73, 75]
/-- ByInitials$Matches.lowest.(I)I -/
def bc_28 : List Ins := [(0, 0, 0, 0, []), (2, 1, 0, 0, []), (1, 1, 0, 0, []), (0, 0, 0, 7, []), (12, 11, 3, 0, []), (1, 0, 0, 0, []), (1, 1, 0, 0, []), (36, 135, 2, 1, []), (13, 11, 1, 0, []), (10, 1, 0, 1, []), (11, 2, 0, 0, []), (1, 1, 0, 0, []), (33, 0, 0, 0, [])]
def bp_28 : List Nat := [0, 1, 2, 3, 5, 8, 9, 10, 13, 16, 19, 22, 23]
/-- ByInitials$Matches.partnerOf.(II)I -/
def bc_29 : List Ins := [(0, 0, 0, 1, []), (1, 2, 0, 0, []), (3, 5, 0, 0, []), (0, 0, 0, 1, []), (3, 1, 0, 0, []), (2, 3, 0, 0, []), (0, 0, 0, 0, []), (2, 4, 0, 0, []), (1, 4, 0, 0, []), (0, 0, 0, 8, []), (12, 48, 3, 0, []), (1, 3, 0, 0, []), (13, 48, 0, 0, []), (1, 3, 0, 0, []), (36, 28, 1, 1, []), (2, 5, 0, 0, []), (1, 0, 1, 0, []), (1, 5, 0, 0, []), (1, 3, 0, 0, []), (36, 30, 3, 0, [3]), (2, 6, 0, 0, []), (1, 5, 0, 0, []), (1, 1, 0, 0, []), (12, 26, 1, 0, []), (1, 6, 0, 0, []), (33, 0, 0, 0, []), (1, 6, 0, 0, []), (1, 1, 0, 0, []), (12, 31, 1, 0, []), (1, 5, 0, 0, []), (33, 0, 0, 0, []), (1, 3, 0, 0, []), (1, 3, 0, 0, []), (0, 0, 0, 1, []), (3, 1, 0, 0, []), (3, 8, 0, 0, []), (2, 3, 0, 0, []), (1, 6, 0, 0, []), (0, 0, 0, (-4), []), (12, 46, 0, 0, []), (1, 3, 0, 0, []), (0, 0, 0, 1, []), (1, 6, 0, 0, []), (3, 5, 0, 0, []), (3, 10, 0, 0, []), (2, 3, 0, 0, []), (10, 4, 0, 1, []), (11, 8, 0, 0, []), (0, 0, 0, (-4), []), (33, 0, 0, 0, [])]
def bp_29 : List Nat := [0, 1, 2, 3, 4, 5, 6, 7, 9, 11, 13, 16, 17, 20, 21, 24, 26, 27, 29, 30, 33, 35, 37, 38, 41, 43, 44, 46, 47, 50, 52, 53, 54, 55, 56, 57, 58, 59, 61, 63, 66, 67, 68, 70, 71, 72, 73, 76, 79, 81]
/-- ByInitials$Matches.choiceOf.(II)I -/
def bc_30 : List Ins := [(1, 2, 0, 0, []), (1, 2, 0, 0, []), (0, 0, 0, 1, []), (3, 1, 0, 0, []), (3, 8, 0, 0, []), (2, 3, 0, 0, []), (1, 1, 0, 0, []), (0, 0, 0, 1, []), (3, 0, 0, 0, []), (2, 4, 0, 0, []), (1, 4, 0, 0, []), (0, 0, 0, 8, []), (12, 41, 3, 0, []), (1, 3, 0, 0, []), (1, 0, 1, 0, []), (15, 3, 0, 0, []), (1, 1, 0, 0, []), (18, 0, 0, 0, []), (3, 8, 0, 0, []), (1, 4, 0, 0, []), (36, 135, 2, 1, []), (13, 39, 0, 0, []), (0, 0, 0, 1, []), (1, 0, 1, 0, []), (15, 3, 1, 0, []), (1, 3, 0, 0, []), (0, 0, 0, 1, []), (1, 4, 0, 0, []), (3, 5, 0, 0, []), (3, 10, 0, 0, []), (18, 0, 0, 0, []), (3, 0, 0, 0, []), (1, 0, 1, 0, []), (15, 3, 1, 0, []), (1, 2, 0, 0, []), (18, 0, 0, 0, []), (12, 39, 1, 0, []), (1, 4, 0, 0, []), (33, 0, 0, 0, []), (10, 4, 0, 1, []), (11, 10, 0, 0, []), (0, 0, 0, (-4), []), (33, 0, 0, 0, [])]
def bp_30 : List Nat := [0, 1, 2, 3, 4, 5, 6, 7, 8, 9, 11, 13, 15, 18, 19, 20, 23, 24, 25, 26, 28, 31, 34, 35, 36, 39, 40, 41, 43, 44, 45, 46, 47, 48, 51, 52, 53, 56, 58, 59, 62, 65, 67]
/-- ByInitials$Memory.<init>.(I)V -/
def bc_31 : List Ins := [(1, 0, 1, 0, []), (37, 0, 0, 0, []), (1, 0, 1, 0, []), (1, 1, 0, 0, []), (0, 0, 0, 1, []), (12, 8, 3, 0, []), (0, 0, 0, 1, []), (11, 9, 0, 0, []), (1, 1, 0, 0, []), (26, 2, 0, 0, []), (17, 4, 0, 0, []), (0, 0, 0, 0, []), (2, 2, 0, 0, []), (1, 2, 0, 0, []), (1, 0, 1, 0, []), (15, 4, 0, 0, []), (24, 0, 0, 0, []), (12, 27, 3, 0, []), (1, 0, 1, 0, []), (15, 4, 0, 0, []), (1, 2, 0, 0, []), (25, 7, 15, 0, []), (28, 0, 0, 0, []), (36, 63, 1, 2, []), (23, 0, 0, 0, []), (10, 2, 0, 1, []), (11, 13, 0, 0, []), (34, 0, 0, 0, [])]
def bp_31 : List Nat := [0, 1, 4, 5, 6, 7, 10, 11, 14, 15, 18, 21, 22, 23, 24, 25, 28, 29, 32, 33, 36, 37, 40, 41, 44, 45, 48, 51]
/-- ByInitials$Memory.isFull.()Z -/
def bc_32 : List Ins := [(1, 0, 1, 0, []), (14, 4, 1, 0, []), (1, 0, 1, 0, []), (15, 4, 0, 0, []), (24, 0, 0, 0, []), (12, 8, 2, 0, []), (0, 0, 0, 1, []), (11, 9, 0, 0, []), (0, 0, 0, 0, []), (33, 1, 0, 0, [])]
def bp_32 : List Nat := [0, 1, 4, 5, 8, 9, 12, 13, 16, 17]
/-- ByInitials$Memory.push.(LByInitials$Town;)V -/
def bc_33 : List Ins := [(1, 0, 1, 0, []), (36, 32, 1, 0, [4]), (13, 5, 0, 0, []), (1, 0, 1, 0, []), (36, 35, 1, 0, [4]), (1, 0, 1, 0, []), (15, 4, 0, 0, []), (1, 0, 1, 0, []), (14, 4, 1, 0, []), (22, 0, 0, 0, []), (1, 1, 1, 0, []), (36, 65, 2, 0, [7]), (1, 0, 1, 0, []), (28, 0, 0, 0, []), (14, 4, 1, 0, []), (0, 0, 0, 1, []), (3, 0, 0, 0, []), (16, 4, 1, 0, []), (34, 0, 0, 0, [])]
def bp_33 : List Nat := [0, 1, 4, 7, 8, 11, 12, 15, 16, 19, 20, 21, 24, 25, 26, 29, 30, 31, 34]
/-- ByInitials$Memory.popInto.(LByInitials$Town;)Z -/
def bc_34 : List Ins := [(1, 0, 1, 0, []), (14, 4, 1, 0, []), (13, 5, 4, 0, []), (0, 0, 0, 0, []), (33, 1, 0, 0, []), (1, 0, 1, 0, []), (28, 0, 0, 0, []), (14, 4, 1, 0, []), (0, 0, 0, 1, []), (3, 1, 0, 0, []), (16, 4, 1, 0, []), (1, 1, 1, 0, []), (1, 0, 1, 0, []), (15, 4, 0, 0, []), (1, 0, 1, 0, []), (14, 4, 1, 0, []), (22, 0, 0, 0, []), (36, 65, 2, 0, [7]), (0, 0, 0, 1, []), (33, 1, 0, 0, [])]
def bp_34 : List Nat := [0, 1, 4, 7, 8, 9, 10, 11, 14, 15, 16, 19, 20, 21, 24, 25, 28, 29, 32, 33]
/-- ByInitials$Memory.dropOldest.()V -/
def bc_35 : List Ins := [(1, 0, 1, 0, []), (15, 4, 0, 0, []), (0, 0, 0, 0, []), (22, 0, 0, 0, []), (2, 1, 1, 0, []), (0, 0, 0, 1, []), (2, 2, 0, 0, []), (1, 2, 0, 0, []), (1, 0, 1, 0, []), (15, 4, 0, 0, []), (24, 0, 0, 0, []), (12, 24, 3, 0, []), (1, 0, 1, 0, []), (15, 4, 0, 0, []), (1, 2, 0, 0, []), (0, 0, 0, 1, []), (3, 1, 0, 0, []), (1, 0, 1, 0, []), (15, 4, 0, 0, []), (1, 2, 0, 0, []), (22, 0, 0, 0, []), (23, 0, 0, 0, []), (10, 2, 0, 1, []), (11, 7, 0, 0, []), (1, 0, 1, 0, []), (15, 4, 0, 0, []), (1, 0, 1, 0, []), (15, 4, 0, 0, []), (24, 0, 0, 0, []), (0, 0, 0, 1, []), (3, 1, 0, 0, []), (1, 1, 1, 0, []), (23, 0, 0, 0, []), (1, 0, 1, 0, []), (1, 0, 1, 0, []), (15, 4, 0, 0, []), (24, 0, 0, 0, []), (0, 0, 0, 1, []), (3, 1, 0, 0, []), (16, 4, 1, 0, []), (34, 0, 0, 0, [])]
def bp_35 : List Nat := [0, 1, 4, 5, 6, 7, 8, 9, 10, 11, 14, 15, 18, 19, 22, 23, 24, 25, 26, 29, 30, 31, 32, 35, 38, 39, 42, 43, 46, 47, 48, 49, 50, 51, 52, 53, 56, 57, 58, 59, 62]
/-- ByInitials$Page.<init>.()V -/
def bc_36 : List Ins := [(1, 0, 1, 0, []), (37, 0, 0, 0, []), (1, 0, 1, 0, []), (0, 0, 0, 200, []), (26, 0, 0, 0, []), (17, 5, 0, 0, []), (1, 0, 1, 0, []), (0, 0, 0, 6, []), (26, 0, 0, 0, []), (17, 5, 1, 0, []), (34, 0, 0, 0, [])]
def bp_36 : List Nat := [0, 1, 4, 5, 8, 10, 13, 14, 16, 18, 21]
/-- ByInitials$Page.add.(I)Z -/
def bc_37 : List Ins := [(1, 0, 1, 0, []), (14, 5, 2, 0, []), (0, 0, 0, 200, []), (12, 6, 2, 0, []), (0, 0, 0, 0, []), (33, 1, 0, 0, []), (1, 0, 1, 0, []), (15, 5, 0, 0, []), (1, 0, 1, 0, []), (14, 5, 2, 0, []), (1, 1, 0, 0, []), (19, 0, 0, 0, []), (1, 0, 1, 0, []), (28, 0, 0, 0, []), (14, 5, 2, 0, []), (0, 0, 0, 1, []), (3, 0, 0, 0, []), (16, 5, 2, 0, []), (0, 0, 0, 1, []), (33, 1, 0, 0, [])]
def bp_37 : List Nat := [0, 1, 4, 7, 10, 11, 12, 13, 16, 17, 20, 21, 22, 23, 24, 27, 28, 29, 32, 33]
/-- ByInitials$Page.readInto.(LByInitials$Town;)I -/
def bc_38 : List Ins := [(1, 1, 1, 0, []), (36, 64, 1, 0, [7]), (1, 0, 1, 0, []), (0, 0, 0, 0, []), (16, 5, 3, 0, []), (1, 0, 1, 0, []), (0, 0, 0, 0, []), (16, 5, 4, 0, []), (0, 0, 0, 0, []), (2, 2, 0, 0, []), (1, 2, 0, 0, []), (0, 0, 0, 200, []), (12, 29, 3, 0, []), (1, 0, 1, 0, []), (14, 5, 3, 0, []), (1, 0, 1, 0, []), (14, 5, 2, 0, []), (12, 29, 3, 0, []), (1, 0, 1, 0, []), (14, 5, 3, 0, []), (2, 3, 0, 0, []), (1, 0, 1, 0, []), (1, 1, 1, 0, []), (36, 39, 2, 0, [5]), (13, 27, 1, 0, []), (1, 3, 0, 0, []), (33, 0, 0, 0, []), (10, 2, 0, 1, []), (11, 10, 0, 0, []), (0, 0, 0, (-4), []), (33, 0, 0, 0, [])]
def bp_38 : List Nat := [0, 1, 4, 5, 6, 9, 10, 11, 14, 15, 16, 17, 20, 23, 24, 27, 28, 31, 34, 35, 38, 39, 40, 41, 44, 47, 48, 49, 52, 55, 57]
/-- ByInitials$Page.readItem.(LByInitials$Town;)Z -/
def bc_39 : List Ins := [(1, 0, 1, 0, []), (36, 47, 1, 0, [5]), (2, 2, 0, 0, []), (1, 0, 1, 0, []), (28, 0, 0, 0, []), (14, 5, 3, 0, []), (0, 0, 0, 1, []), (3, 0, 0, 0, []), (16, 5, 3, 0, []), (1, 2, 0, 0, []), (31, 39, 0, 99, [23, 39, 39, 39, 15, 39, 39, 39, 39, 39, 39, 11, 27, 39, 35, 39, 39, 39, 39, 31, 19]), (1, 0, 1, 0, []), (1, 1, 1, 0, []), (36, 40, 2, 0, [5]), (33, 1, 0, 0, []), (1, 0, 1, 0, []), (1, 1, 1, 0, []), (36, 41, 2, 0, [5]), (33, 1, 0, 0, []), (1, 0, 1, 0, []), (1, 1, 1, 0, []), (36, 42, 2, 0, [5]), (33, 1, 0, 0, []), (1, 0, 1, 0, []), (1, 1, 1, 0, []), (36, 43, 2, 0, [5]), (33, 1, 0, 0, []), (1, 0, 1, 0, []), (1, 1, 1, 0, []), (36, 44, 2, 0, [5]), (33, 1, 0, 0, []), (1, 0, 1, 0, []), (1, 1, 1, 0, []), (36, 45, 2, 0, [5]), (33, 1, 0, 0, []), (1, 0, 1, 0, []), (1, 1, 1, 0, []), (36, 46, 2, 0, [5]), (33, 1, 0, 0, []), (0, 0, 0, 0, []), (33, 1, 0, 0, [])]
def bp_39 : List Nat := [0, 1, 4, 5, 6, 7, 10, 11, 12, 15, 16, 116, 117, 118, 121, 122, 123, 124, 127, 128, 129, 130, 133, 134, 135, 136, 139, 140, 141, 142, 145, 146, 147, 148, 151, 152, 153, 154, 157, 158, 159]
/-- ByInitials$Page.readPerson.(LByInitials$Town;)Z -/
def bc_40 : List Ins := [(1, 0, 1, 0, []), (36, 49, 1, 0, [5]), (2, 2, 0, 0, []), (1, 0, 1, 0, []), (0, 0, 0, 44, []), (36, 48, 2, 0, [5]), (13, 9, 1, 0, []), (0, 0, 0, 0, []), (33, 1, 0, 0, []), (1, 0, 1, 0, []), (0, 0, 0, 9, []), (36, 51, 2, 0, [5]), (2, 3, 0, 0, []), (1, 3, 0, 0, []), (0, 0, 0, (-1), []), (12, 20, 0, 0, []), (1, 0, 1, 0, []), (0, 0, 0, 44, []), (36, 48, 2, 0, [5]), (13, 22, 1, 0, []), (0, 0, 0, 0, []), (33, 1, 0, 0, []), (1, 0, 1, 0, []), (0, 0, 0, 99, []), (36, 51, 2, 0, [5]), (2, 4, 0, 0, []), (1, 4, 0, 0, []), (0, 0, 0, (-1), []), (12, 43, 0, 0, []), (1, 0, 1, 0, []), (0, 0, 0, 59, []), (36, 48, 2, 0, [5]), (13, 43, 0, 0, []), (1, 1, 1, 0, []), (1, 0, 1, 0, []), (15, 5, 1, 0, []), (1, 2, 0, 0, []), (1, 3, 0, 0, []), (1, 4, 0, 0, []), (36, 66, 5, 0, [7]), (13, 43, 0, 0, []), (0, 0, 0, 1, []), (11, 44, 0, 0, []), (0, 0, 0, 0, []), (33, 1, 0, 0, [])]
def bp_40 : List Nat := [0, 1, 4, 5, 6, 8, 11, 14, 15, 16, 17, 19, 22, 23, 24, 25, 28, 29, 31, 34, 37, 38, 39, 40, 42, 45, 47, 49, 50, 53, 54, 56, 59, 62, 63, 64, 67, 68, 69, 71, 74, 77, 78, 81, 82]
/-- ByInitials$Page.readGoods.(LByInitials$Town;)Z -/
def bc_41 : List Ins := [(1, 0, 1, 0, []), (0, 0, 0, 99, []), (36, 51, 2, 0, [5]), (2, 2, 0, 0, []), (1, 1, 1, 0, []), (1, 2, 0, 0, []), (16, 7, 1, 0, []), (1, 2, 0, 0, []), (0, 0, 0, (-1), []), (12, 16, 0, 0, []), (1, 0, 1, 0, []), (0, 0, 0, 59, []), (36, 48, 2, 0, [5]), (13, 16, 0, 0, []), (0, 0, 0, 1, []), (11, 17, 0, 0, []), (0, 0, 0, 0, []), (33, 1, 0, 0, [])]
def bp_41 : List Nat := [0, 1, 3, 6, 7, 8, 9, 12, 13, 14, 17, 18, 20, 23, 26, 27, 30, 31]
/-- ByInitials$Page.readReach.(LByInitials$Town;)Z -/
def bc_42 : List Ins := [(1, 0, 1, 0, []), (0, 0, 0, 25, []), (36, 51, 2, 0, [5]), (2, 2, 0, 0, []), (1, 1, 1, 0, []), (1, 2, 0, 0, []), (16, 7, 2, 0, []), (1, 2, 0, 0, []), (0, 0, 0, (-1), []), (12, 16, 0, 0, []), (1, 0, 1, 0, []), (0, 0, 0, 59, []), (36, 48, 2, 0, [5]), (13, 16, 0, 0, []), (0, 0, 0, 1, []), (11, 17, 0, 0, []), (0, 0, 0, 0, []), (33, 1, 0, 0, [])]
def bp_42 : List Nat := [0, 1, 3, 6, 7, 8, 9, 12, 13, 14, 17, 18, 20, 23, 26, 27, 30, 31]
/-- ByInitials$Page.readCost.(LByInitials$Town;)Z -/
def bc_43 : List Ins := [(1, 0, 1, 0, []), (0, 0, 0, 9, []), (36, 51, 2, 0, [5]), (2, 2, 0, 0, []), (1, 1, 1, 0, []), (1, 2, 0, 0, []), (16, 7, 3, 0, []), (1, 2, 0, 0, []), (0, 0, 0, (-1), []), (12, 16, 0, 0, []), (1, 0, 1, 0, []), (0, 0, 0, 59, []), (36, 48, 2, 0, [5]), (13, 16, 0, 0, []), (0, 0, 0, 1, []), (11, 17, 0, 0, []), (0, 0, 0, 0, []), (33, 1, 0, 0, [])]
def bp_43 : List Nat := [0, 1, 3, 6, 7, 8, 9, 12, 13, 14, 17, 18, 20, 23, 26, 27, 30, 31]
/-- ByInitials$Page.readOrder.(LByInitials$Town;)Z -/
def bc_44 : List Ins := [(1, 0, 1, 0, []), (36, 49, 1, 0, [5]), (2, 2, 0, 0, []), (1, 2, 0, 0, []), (13, 15, 0, 0, []), (1, 0, 1, 0, []), (1, 2, 0, 0, []), (36, 50, 2, 0, [5]), (36, 219, 1, 1, []), (1, 2, 0, 0, []), (12, 15, 1, 0, []), (1, 0, 1, 0, []), (0, 0, 0, 59, []), (36, 48, 2, 0, [5]), (13, 17, 1, 0, []), (0, 0, 0, 0, []), (33, 1, 0, 0, []), (1, 1, 1, 0, []), (1, 0, 1, 0, []), (15, 5, 1, 0, []), (1, 2, 0, 0, []), (36, 68, 3, 0, [7]), (0, 0, 0, 1, []), (33, 1, 0, 0, [])]
def bp_44 : List Nat := [0, 1, 4, 5, 6, 9, 10, 11, 14, 17, 18, 21, 22, 24, 27, 30, 31, 32, 33, 34, 37, 38, 41, 42]
/-- ByInitials$Page.readVowels.(LByInitials$Town;)Z -/
def bc_45 : List Ins := [(1, 0, 1, 0, []), (36, 49, 1, 0, [5]), (2, 2, 0, 0, []), (1, 1, 1, 0, []), (1, 0, 1, 0, []), (1, 2, 0, 0, []), (36, 50, 2, 0, [5]), (16, 7, 4, 0, []), (1, 2, 0, 0, []), (13, 16, 5, 0, []), (1, 0, 1, 0, []), (0, 0, 0, 59, []), (36, 48, 2, 0, [5]), (13, 16, 0, 0, []), (0, 0, 0, 1, []), (11, 17, 0, 0, []), (0, 0, 0, 0, []), (33, 1, 0, 0, [])]
def bp_45 : List Nat := [0, 1, 4, 5, 6, 7, 8, 11, 14, 15, 18, 19, 21, 24, 27, 28, 31, 32]
/-- ByInitials$Page.readQuarrel.(LByInitials$Town;)Z -/
def bc_46 : List Ins := [(1, 0, 1, 0, []), (36, 49, 1, 0, [5]), (2, 2, 0, 0, []), (1, 2, 0, 0, []), (0, 0, 0, 2, []), (12, 14, 1, 0, []), (1, 0, 1, 0, []), (14, 5, 4, 0, []), (0, 0, 0, 6, []), (12, 14, 3, 0, []), (1, 0, 1, 0, []), (0, 0, 0, 59, []), (36, 48, 2, 0, [5]), (13, 16, 1, 0, []), (0, 0, 0, 0, []), (33, 1, 0, 0, []), (1, 0, 1, 0, []), (28, 0, 0, 0, []), (14, 5, 4, 0, []), (0, 0, 0, 1, []), (3, 0, 0, 0, []), (16, 5, 4, 0, []), (1, 1, 1, 0, []), (1, 0, 1, 0, []), (15, 5, 1, 0, []), (0, 0, 0, 0, []), (18, 0, 0, 0, []), (1, 0, 1, 0, []), (15, 5, 1, 0, []), (0, 0, 0, 1, []), (18, 0, 0, 0, []), (36, 71, 3, 0, [7]), (0, 0, 0, 1, []), (33, 1, 0, 0, [])]
def bp_46 : List Nat := [0, 1, 4, 5, 6, 7, 10, 11, 14, 16, 19, 20, 22, 25, 28, 29, 30, 31, 32, 35, 36, 37, 40, 41, 42, 45, 46, 47, 48, 51, 52, 53, 56, 57]
/-- ByInitials$Page.sign.()I -/
def bc_47 : List Ins := [(1, 0, 1, 0, []), (14, 5, 3, 0, []), (1, 0, 1, 0, []), (14, 5, 2, 0, []), (12, 11, 3, 0, []), (1, 0, 1, 0, []), (15, 5, 0, 0, []), (1, 0, 1, 0, []), (14, 5, 3, 0, []), (18, 0, 0, 0, []), (11, 12, 0, 0, []), (0, 0, 0, (-1), []), (33, 0, 0, 0, [])]
def bp_47 : List Nat := [0, 1, 4, 5, 8, 11, 12, 15, 16, 19, 20, 23, 24]
/-- ByInitials$Page.passes.(I)Z -/
def bc_48 : List Ins := [(1, 0, 1, 0, []), (36, 47, 1, 0, [5]), (1, 1, 0, 0, []), (12, 6, 0, 0, []), (0, 0, 0, 0, []), (33, 1, 0, 0, []), (1, 0, 1, 0, []), (28, 0, 0, 0, []), (14, 5, 3, 0, []), (0, 0, 0, 1, []), (3, 0, 0, 0, []), (16, 5, 3, 0, []), (0, 0, 0, 1, []), (33, 1, 0, 0, [])]
def bp_48 : List Nat := [0, 1, 4, 5, 8, 9, 10, 11, 12, 15, 16, 17, 20, 21]
/-- ByInitials$Page.readName.()I -/
def bc_49 : List Ins := [(0, 0, 0, 0, []), (2, 1, 0, 0, []), (1, 1, 0, 0, []), (0, 0, 0, 6, []), (12, 29, 3, 0, []), (1, 0, 1, 0, []), (36, 47, 1, 0, [5]), (0, 0, 0, 97, []), (12, 29, 2, 0, []), (1, 0, 1, 0, []), (36, 47, 1, 0, [5]), (0, 0, 0, 122, []), (12, 29, 4, 0, []), (1, 0, 1, 0, []), (15, 5, 1, 0, []), (1, 1, 0, 0, []), (1, 0, 1, 0, []), (36, 47, 1, 0, [5]), (0, 0, 0, 97, []), (3, 1, 0, 0, []), (19, 0, 0, 0, []), (10, 1, 0, 1, []), (1, 0, 1, 0, []), (28, 0, 0, 0, []), (14, 5, 3, 0, []), (0, 0, 0, 1, []), (3, 0, 0, 0, []), (16, 5, 3, 0, []), (11, 2, 0, 0, []), (1, 1, 0, 0, []), (33, 0, 0, 0, [])]
def bp_49 : List Nat := [0, 1, 2, 3, 5, 8, 9, 12, 14, 17, 18, 21, 23, 26, 27, 30, 31, 32, 35, 37, 38, 39, 42, 43, 44, 47, 48, 49, 52, 55, 56]
/-- ByInitials$Page.lettersRead.(I)I -/
def bc_50 : List Ins := [(0, 0, 0, 0, []), (2, 2, 0, 0, []), (0, 0, 0, 0, []), (2, 3, 0, 0, []), (1, 3, 0, 0, []), (1, 1, 0, 0, []), (12, 18, 3, 0, []), (1, 2, 0, 0, []), (0, 0, 0, 1, []), (1, 0, 1, 0, []), (15, 5, 1, 0, []), (1, 3, 0, 0, []), (18, 0, 0, 0, []), (3, 5, 0, 0, []), (3, 9, 0, 0, []), (2, 2, 0, 0, []), (10, 3, 0, 1, []), (11, 4, 0, 0, []), (1, 2, 0, 0, []), (33, 0, 0, 0, [])]
def bp_50 : List Nat := [0, 1, 2, 3, 4, 5, 6, 9, 10, 11, 12, 15, 16, 17, 18, 19, 20, 23, 26, 27]
/-- ByInitials$Page.readNumber.(I)I -/
def bc_51 : List Ins := [(1, 0, 1, 0, []), (36, 52, 1, 0, [5]), (13, 5, 1, 0, []), (0, 0, 0, (-1), []), (33, 0, 0, 0, []), (1, 0, 1, 0, []), (36, 47, 1, 0, [5]), (0, 0, 0, 48, []), (3, 1, 0, 0, []), (2, 2, 0, 0, []), (1, 0, 1, 0, []), (28, 0, 0, 0, []), (14, 5, 3, 0, []), (0, 0, 0, 1, []), (3, 0, 0, 0, []), (16, 5, 3, 0, []), (1, 0, 1, 0, []), (36, 52, 1, 0, [5]), (13, 34, 0, 0, []), (1, 2, 0, 0, []), (0, 0, 0, 10, []), (3, 2, 0, 0, []), (1, 0, 1, 0, []), (36, 47, 1, 0, [5]), (3, 0, 0, 0, []), (0, 0, 0, 48, []), (3, 1, 0, 0, []), (2, 2, 0, 0, []), (1, 0, 1, 0, []), (28, 0, 0, 0, []), (14, 5, 3, 0, []), (0, 0, 0, 1, []), (3, 0, 0, 0, []), (16, 5, 3, 0, []), (1, 2, 0, 0, []), (1, 1, 0, 0, []), (12, 39, 4, 0, []), (1, 2, 0, 0, []), (11, 40, 0, 0, []), (0, 0, 0, (-1), []), (33, 0, 0, 0, [])]
def bp_51 : List Nat := [0, 1, 4, 7, 8, 9, 10, 13, 15, 16, 17, 18, 19, 22, 23, 24, 27, 28, 31, 34, 35, 37, 38, 39, 42, 43, 45, 46, 47, 48, 49, 52, 53, 54, 57, 58, 59, 62, 63, 66, 67]
/-- ByInitials$Page.atFigure.()Z -/
def bc_52 : List Ins := [(1, 0, 1, 0, []), (36, 47, 1, 0, [5]), (0, 0, 0, 48, []), (12, 10, 2, 0, []), (1, 0, 1, 0, []), (36, 47, 1, 0, [5]), (0, 0, 0, 57, []), (12, 10, 4, 0, []), (0, 0, 0, 1, []), (11, 11, 0, 0, []), (0, 0, 0, 0, []), (33, 1, 0, 0, [])]
def bp_52 : List Nat := [0, 1, 4, 6, 9, 10, 13, 15, 18, 19, 22, 23]
/-- ByInitials$Table.<init>.()V -/
def bc_53 : List Ins := [(1, 0, 1, 0, []), (37, 0, 0, 0, []), (1, 0, 1, 0, []), (0, 0, 0, 2048, []), (26, 0, 0, 0, []), (17, 6, 0, 0, []), (1, 0, 1, 0, []), (0, 0, 0, 2048, []), (26, 0, 0, 0, []), (17, 6, 1, 0, []), (1, 0, 1, 0, []), (0, 0, 0, 8, []), (26, 0, 0, 0, []), (17, 6, 2, 0, []), (34, 0, 0, 0, [])]
def bp_53 : List Nat := [0, 1, 4, 5, 8, 10, 13, 14, 17, 19, 22, 23, 25, 27, 30]
/-- ByInitials$Table.plan.(LByInitials$Town;)V -/
def bc_54 : List Ins := [(1, 0, 1, 0, []), (1, 1, 1, 0, []), (14, 7, 0, 0, []), (16, 6, 3, 0, []), (0, 0, 0, 0, []), (2, 2, 0, 0, []), (1, 2, 0, 0, []), (1, 0, 1, 0, []), (14, 6, 3, 0, []), (12, 45, 3, 0, []), (1, 0, 1, 0, []), (15, 6, 2, 0, []), (1, 2, 0, 0, []), (0, 0, 0, 0, []), (19, 0, 0, 0, []), (0, 0, 0, 0, []), (2, 3, 0, 0, []), (1, 3, 0, 0, []), (1, 0, 1, 0, []), (14, 6, 3, 0, []), (12, 43, 3, 0, []), (1, 0, 1, 0, []), (15, 6, 2, 0, []), (1, 2, 0, 0, []), (29, 0, 0, 0, []), (18, 0, 0, 0, []), (1, 2, 0, 0, []), (1, 3, 0, 0, []), (12, 38, 0, 0, []), (1, 1, 1, 0, []), (1, 2, 0, 0, []), (1, 3, 0, 0, []), (36, 91, 3, 0, [7]), (13, 38, 0, 0, []), (0, 0, 0, 1, []), (1, 3, 0, 0, []), (3, 5, 0, 0, []), (11, 39, 0, 0, []), (0, 0, 0, 0, []), (3, 9, 0, 0, []), (19, 0, 0, 0, []), (10, 3, 0, 1, []), (11, 17, 0, 0, []), (10, 2, 0, 1, []), (11, 6, 0, 0, []), (0, 0, 0, 1, []), (1, 0, 1, 0, []), (14, 6, 3, 0, []), (3, 5, 0, 0, []), (0, 0, 0, 1, []), (3, 1, 0, 0, []), (2, 2, 0, 0, []), (0, 0, 0, 0, []), (2, 3, 0, 0, []), (1, 3, 0, 0, []), (1, 0, 1, 0, []), (14, 6, 3, 0, []), (12, 80, 3, 0, []), (1, 0, 1, 0, []), (15, 6, 0, 0, []), (1, 2, 0, 0, []), (0, 0, 0, 8, []), (3, 2, 0, 0, []), (1, 3, 0, 0, []), (3, 0, 0, 0, []), (1, 0, 1, 0, []), (1, 3, 0, 0, []), (36, 56, 2, 0, [6]), (19, 0, 0, 0, []), (1, 0, 1, 0, []), (15, 6, 1, 0, []), (1, 2, 0, 0, []), (0, 0, 0, 8, []), (3, 2, 0, 0, []), (1, 3, 0, 0, []), (3, 0, 0, 0, []), (0, 0, 0, 1, []), (19, 0, 0, 0, []), (10, 3, 0, 1, []), (11, 54, 0, 0, []), (1, 2, 0, 0, []), (0, 0, 0, 2, []), (3, 1, 0, 0, []), (2, 3, 0, 0, []), (1, 3, 0, 0, []), (13, 104, 5, 0, []), (0, 0, 0, 0, []), (2, 4, 0, 0, []), (1, 4, 0, 0, []), (1, 0, 1, 0, []), (14, 6, 3, 0, []), (12, 102, 3, 0, []), (1, 3, 0, 0, []), (1, 4, 0, 0, []), (36, 135, 2, 1, []), (13, 100, 0, 0, []), (1, 0, 1, 0, []), (1, 3, 0, 0, []), (1, 4, 0, 0, []), (36, 58, 3, 0, [6]), (10, 4, 0, 1, []), (11, 88, 0, 0, []), (10, 3, 0, (-2), []), (11, 84, 0, 0, []), (34, 0, 0, 0, [])]
def bp_54 : List Nat := [0, 1, 2, 5, 8, 9, 10, 11, 12, 15, 18, 19, 22, 23, 24, 25, 26, 27, 28, 29, 32, 35, 36, 39, 40, 41, 42, 43, 44, 47, 48, 49, 50, 53, 56, 57, 58, 59, 62, 63, 64, 65, 68, 71, 74, 77, 78, 79, 82, 83, 84, 85, 86, 87, 88, 89, 90, 93, 96, 97, 100, 101, 103, 104, 105, 106, 107, 108, 111, 112, 113, 116, 117, 119, 120, 121, 122, 123, 124, 127, 130, 131, 132, 133, 134, 135, 138, 139, 141, 143, 144, 147, 150, 151, 153, 156, 159, 160, 161, 163, 166, 169, 172, 175, 178]
/-- ByInitials$Table.between.(II)I -/
def bc_55 : List Ins := [(1, 0, 1, 0, []), (15, 6, 2, 0, []), (1, 1, 0, 0, []), (18, 0, 0, 0, []), (1, 2, 0, 0, []), (36, 135, 2, 1, []), (13, 9, 0, 0, []), (0, 0, 0, 1, []), (11, 10, 0, 0, []), (0, 0, 0, 0, []), (33, 0, 0, 0, [])]
def bp_55 : List Nat := [0, 1, 4, 5, 6, 7, 10, 13, 14, 17, 18]
/-- ByInitials$Table.closing.(I)I -/
def bc_56 : List Ins := [(1, 0, 1, 0, []), (14, 6, 3, 0, []), (0, 0, 0, 2, []), (12, 9, 5, 0, []), (1, 0, 1, 0, []), (1, 1, 0, 0, []), (0, 0, 0, 0, []), (36, 55, 3, 0, [6]), (11, 10, 0, 0, []), (0, 0, 0, 0, []), (33, 0, 0, 0, [])]
def bp_56 : List Nat := [0, 1, 4, 5, 8, 9, 10, 11, 14, 17, 18]
/-- ByInitials$Table.quarrelsBy.(III)I -/
def bc_57 : List Ins := [(1, 0, 1, 0, []), (1, 2, 0, 0, []), (1, 3, 0, 0, []), (36, 55, 3, 0, [6]), (1, 0, 1, 0, []), (15, 6, 0, 0, []), (1, 1, 0, 0, []), (0, 0, 0, 1, []), (1, 3, 0, 0, []), (3, 5, 0, 0, []), (3, 9, 0, 0, []), (0, 0, 0, 8, []), (3, 2, 0, 0, []), (1, 3, 0, 0, []), (3, 0, 0, 0, []), (18, 0, 0, 0, []), (3, 0, 0, 0, []), (33, 0, 0, 0, [])]
def bp_57 : List Nat := [0, 1, 2, 3, 6, 7, 10, 11, 12, 13, 14, 15, 17, 18, 19, 20, 21, 22]
/-- ByInitials$Table.weigh.(II)V -/
def bc_58 : List Ins := [(0, 0, 0, 9, []), (2, 3, 0, 0, []), (0, 0, 0, 0, []), (2, 4, 0, 0, []), (0, 0, 0, 1, []), (2, 5, 0, 0, []), (1, 5, 0, 0, []), (1, 0, 1, 0, []), (14, 6, 3, 0, []), (12, 47, 3, 0, []), (1, 1, 0, 0, []), (1, 5, 0, 0, []), (36, 135, 2, 1, []), (13, 45, 1, 0, []), (1, 0, 1, 0, []), (1, 1, 0, 0, []), (1, 2, 0, 0, []), (1, 5, 0, 0, []), (36, 57, 4, 0, [6]), (2, 6, 0, 0, []), (1, 6, 0, 0, []), (1, 3, 0, 0, []), (12, 27, 3, 0, []), (1, 6, 0, 0, []), (2, 3, 0, 0, []), (0, 0, 0, 0, []), (2, 4, 0, 0, []), (1, 6, 0, 0, []), (1, 3, 0, 0, []), (12, 45, 1, 0, []), (1, 4, 0, 0, []), (1, 0, 1, 0, []), (15, 6, 1, 0, []), (1, 1, 0, 0, []), (0, 0, 0, 1, []), (1, 5, 0, 0, []), (3, 5, 0, 0, []), (3, 9, 0, 0, []), (0, 0, 0, 8, []), (3, 2, 0, 0, []), (1, 5, 0, 0, []), (3, 0, 0, 0, []), (18, 0, 0, 0, []), (3, 0, 0, 0, []), (2, 4, 0, 0, []), (10, 5, 0, 1, []), (11, 6, 0, 0, []), (1, 0, 1, 0, []), (15, 6, 0, 0, []), (1, 1, 0, 0, []), (0, 0, 0, 8, []), (3, 2, 0, 0, []), (1, 2, 0, 0, []), (3, 0, 0, 0, []), (1, 3, 0, 0, []), (19, 0, 0, 0, []), (1, 0, 1, 0, []), (15, 6, 1, 0, []), (1, 1, 0, 0, []), (0, 0, 0, 8, []), (3, 2, 0, 0, []), (1, 2, 0, 0, []), (3, 0, 0, 0, []), (1, 4, 0, 0, []), (19, 0, 0, 0, []), (34, 0, 0, 0, [])]
def bp_58 : List Nat := [0, 2, 3, 4, 6, 7, 9, 11, 12, 15, 18, 19, 21, 24, 27, 28, 29, 30, 32, 35, 37, 39, 40, 43, 45, 46, 47, 49, 51, 52, 55, 57, 58, 61, 62, 63, 65, 66, 67, 69, 70, 72, 73, 74, 75, 77, 80, 83, 84, 87, 88, 90, 91, 92, 93, 94, 95, 96, 99, 100, 102, 103, 104, 105, 107, 108]
/-- ByInitials$Table.fewestQuarrels.()I -/
def bc_59 : List Ins := [(1, 0, 1, 0, []), (15, 6, 0, 0, []), (0, 0, 0, 8, []), (18, 0, 0, 0, []), (33, 0, 0, 0, [])]
def bp_59 : List Nat := [0, 1, 4, 6, 7]
/-- ByInitials$Table.waysOfFewest.()I -/
def bc_60 : List Ins := [(1, 0, 1, 0, []), (15, 6, 1, 0, []), (0, 0, 0, 8, []), (18, 0, 0, 0, []), (33, 0, 0, 0, [])]
def bp_60 : List Nat := [0, 1, 4, 6, 7]
/-- ByInitials$Table.sitterAt.(I)I -/
def bc_61 : List Ins := [(0, 0, 0, 1, []), (2, 2, 0, 0, []), (0, 0, 0, 0, []), (2, 3, 0, 0, []), (0, 0, 0, 0, []), (2, 4, 0, 0, []), (1, 4, 0, 0, []), (1, 1, 0, 0, []), (12, 25, 3, 0, []), (1, 4, 0, 0, []), (0, 0, 0, 8, []), (12, 25, 3, 0, []), (1, 0, 1, 0, []), (1, 2, 0, 0, []), (1, 3, 0, 0, []), (36, 62, 3, 0, [6]), (2, 3, 0, 0, []), (1, 2, 0, 0, []), (0, 0, 0, 1, []), (1, 3, 0, 0, []), (3, 5, 0, 0, []), (3, 9, 0, 0, []), (2, 2, 0, 0, []), (10, 4, 0, 1, []), (11, 6, 0, 0, []), (1, 3, 0, 0, []), (33, 0, 0, 0, [])]
def bp_61 : List Nat := [0, 1, 2, 3, 4, 5, 7, 9, 10, 13, 15, 17, 20, 21, 22, 23, 26, 27, 28, 29, 30, 31, 32, 33, 36, 39, 40]
/-- ByInitials$Table.nextBehind.(II)I -/
def bc_62 : List Ins := [(0, 0, 0, 1, []), (2, 3, 0, 0, []), (1, 3, 0, 0, []), (1, 0, 1, 0, []), (14, 6, 3, 0, []), (12, 28, 3, 0, []), (1, 1, 0, 0, []), (1, 3, 0, 0, []), (36, 135, 2, 1, []), (13, 26, 1, 0, []), (1, 0, 1, 0, []), (1, 1, 0, 0, []), (1, 2, 0, 0, []), (1, 3, 0, 0, []), (36, 57, 4, 0, [6]), (1, 0, 1, 0, []), (15, 6, 0, 0, []), (1, 1, 0, 0, []), (0, 0, 0, 8, []), (3, 2, 0, 0, []), (1, 2, 0, 0, []), (3, 0, 0, 0, []), (18, 0, 0, 0, []), (12, 26, 1, 0, []), (1, 3, 0, 0, []), (33, 0, 0, 0, []), (10, 3, 0, 1, []), (11, 2, 0, 0, []), (0, 0, 0, 0, []), (33, 0, 0, 0, [])]
def bp_62 : List Nat := [0, 1, 2, 3, 4, 7, 10, 11, 12, 15, 18, 19, 20, 21, 22, 25, 26, 29, 30, 32, 33, 34, 35, 36, 39, 40, 41, 44, 47, 48]
/-- ByInitials$Town.<init>.()V -/
def bc_63 : List Ins := [(1, 0, 1, 0, []), (37, 0, 0, 0, []), (1, 0, 1, 0, []), (0, 0, 0, 8, []), (26, 0, 0, 0, []), (17, 7, 5, 0, []), (1, 0, 1, 0, []), (0, 0, 0, 48, []), (26, 0, 0, 0, []), (17, 7, 6, 0, []), (1, 0, 1, 0, []), (0, 0, 0, 8, []), (26, 0, 0, 0, []), (17, 7, 7, 0, []), (1, 0, 1, 0, []), (0, 0, 0, 8, []), (26, 0, 0, 0, []), (17, 7, 8, 0, []), (1, 0, 1, 0, []), (0, 0, 0, 8, []), (26, 0, 0, 0, []), (17, 7, 9, 0, []), (1, 0, 1, 0, []), (0, 0, 0, 8, []), (26, 0, 0, 0, []), (17, 7, 10, 0, []), (1, 0, 1, 0, []), (0, 0, 0, 64, []), (26, 0, 0, 0, []), (17, 7, 11, 0, []), (1, 0, 1, 0, []), (0, 0, 0, 26, []), (26, 0, 0, 0, []), (17, 7, 12, 0, []), (1, 0, 1, 0, []), (0, 0, 0, 26, []), (26, 0, 0, 0, []), (17, 7, 13, 0, []), (1, 0, 1, 0, []), (0, 0, 0, 26, []), (26, 0, 0, 0, []), (17, 7, 14, 0, []), (34, 0, 0, 0, [])]
def bp_63 : List Nat := [0, 1, 4, 5, 7, 9, 12, 13, 15, 17, 20, 21, 23, 25, 28, 29, 31, 33, 36, 37, 39, 41, 44, 45, 47, 49, 52, 53, 55, 57, 60, 61, 63, 65, 68, 69, 71, 73, 76, 77, 79, 81, 84]
/-- ByInitials$Town.clear.()V -/
def bc_64 : List Ins := [(1, 0, 1, 0, []), (0, 0, 0, 0, []), (16, 7, 0, 0, []), (1, 0, 1, 0, []), (0, 0, 0, 20, []), (16, 7, 1, 0, []), (1, 0, 1, 0, []), (0, 0, 0, 3, []), (16, 7, 2, 0, []), (1, 0, 1, 0, []), (0, 0, 0, 1, []), (16, 7, 3, 0, []), (1, 0, 1, 0, []), (0, 0, 0, 1065233, []), (16, 7, 4, 0, []), (0, 0, 0, 0, []), (2, 1, 0, 0, []), (1, 1, 0, 0, []), (0, 0, 0, 8, []), (12, 32, 3, 0, []), (1, 0, 1, 0, []), (15, 7, 9, 0, []), (1, 1, 0, 0, []), (0, 0, 0, (-4), []), (19, 0, 0, 0, []), (1, 0, 1, 0, []), (15, 7, 10, 0, []), (1, 1, 0, 0, []), (0, 0, 0, 0, []), (19, 0, 0, 0, []), (10, 1, 0, 1, []), (11, 17, 0, 0, []), (0, 0, 0, 0, []), (2, 1, 0, 0, []), (1, 1, 0, 0, []), (0, 0, 0, 64, []), (12, 44, 3, 0, []), (1, 0, 1, 0, []), (15, 7, 11, 0, []), (1, 1, 0, 0, []), (0, 0, 0, 0, []), (19, 0, 0, 0, []), (10, 1, 0, 1, []), (11, 34, 0, 0, []), (0, 0, 0, 0, []), (2, 1, 0, 0, []), (1, 1, 0, 0, []), (0, 0, 0, 26, []), (12, 66, 3, 0, []), (1, 0, 1, 0, []), (15, 7, 14, 0, []), (1, 1, 0, 0, []), (0, 0, 0, 0, []), (19, 0, 0, 0, []), (1, 0, 1, 0, []), (15, 7, 12, 0, []), (1, 1, 0, 0, []), (1, 1, 0, 0, []), (19, 0, 0, 0, []), (1, 0, 1, 0, []), (15, 7, 13, 0, []), (1, 1, 0, 0, []), (1, 1, 0, 0, []), (19, 0, 0, 0, []), (10, 1, 0, 1, []), (11, 46, 0, 0, []), (34, 0, 0, 0, [])]
def bp_64 : List Nat := [0, 1, 2, 5, 6, 8, 11, 12, 13, 16, 17, 18, 21, 22, 24, 27, 28, 29, 30, 32, 35, 36, 39, 40, 42, 43, 44, 47, 48, 49, 50, 53, 56, 57, 58, 59, 61, 64, 65, 68, 69, 70, 71, 74, 77, 78, 79, 80, 82, 85, 86, 89, 90, 91, 92, 93, 96, 97, 98, 99, 100, 103, 104, 105, 106, 109, 112]
/-- ByInitials$Town.copyFrom.(LByInitials$Town;)V -/
def bc_65 : List Ins := [(1, 0, 1, 0, []), (1, 1, 1, 0, []), (14, 7, 0, 0, []), (16, 7, 0, 0, []), (1, 0, 1, 0, []), (1, 1, 1, 0, []), (14, 7, 1, 0, []), (16, 7, 1, 0, []), (1, 0, 1, 0, []), (1, 1, 1, 0, []), (14, 7, 2, 0, []), (16, 7, 2, 0, []), (1, 0, 1, 0, []), (1, 1, 1, 0, []), (14, 7, 3, 0, []), (16, 7, 3, 0, []), (1, 0, 1, 0, []), (1, 1, 1, 0, []), (14, 7, 4, 0, []), (16, 7, 4, 0, []), (1, 1, 1, 0, []), (15, 7, 5, 0, []), (0, 0, 0, 0, []), (1, 0, 1, 0, []), (15, 7, 5, 0, []), (0, 0, 0, 0, []), (0, 0, 0, 8, []), (39, 0, 0, 0, []), (1, 1, 1, 0, []), (15, 7, 6, 0, []), (0, 0, 0, 0, []), (1, 0, 1, 0, []), (15, 7, 6, 0, []), (0, 0, 0, 0, []), (0, 0, 0, 48, []), (39, 0, 0, 0, []), (1, 1, 1, 0, []), (15, 7, 7, 0, []), (0, 0, 0, 0, []), (1, 0, 1, 0, []), (15, 7, 7, 0, []), (0, 0, 0, 0, []), (0, 0, 0, 8, []), (39, 0, 0, 0, []), (1, 1, 1, 0, []), (15, 7, 8, 0, []), (0, 0, 0, 0, []), (1, 0, 1, 0, []), (15, 7, 8, 0, []), (0, 0, 0, 0, []), (0, 0, 0, 8, []), (39, 0, 0, 0, []), (1, 1, 1, 0, []), (15, 7, 9, 0, []), (0, 0, 0, 0, []), (1, 0, 1, 0, []), (15, 7, 9, 0, []), (0, 0, 0, 0, []), (0, 0, 0, 8, []), (39, 0, 0, 0, []), (1, 1, 1, 0, []), (15, 7, 10, 0, []), (0, 0, 0, 0, []), (1, 0, 1, 0, []), (15, 7, 10, 0, []), (0, 0, 0, 0, []), (0, 0, 0, 8, []), (39, 0, 0, 0, []), (1, 1, 1, 0, []), (15, 7, 11, 0, []), (0, 0, 0, 0, []), (1, 0, 1, 0, []), (15, 7, 11, 0, []), (0, 0, 0, 0, []), (0, 0, 0, 64, []), (39, 0, 0, 0, []), (1, 1, 1, 0, []), (15, 7, 12, 0, []), (0, 0, 0, 0, []), (1, 0, 1, 0, []), (15, 7, 12, 0, []), (0, 0, 0, 0, []), (0, 0, 0, 26, []), (39, 0, 0, 0, []), (1, 1, 1, 0, []), (15, 7, 13, 0, []), (0, 0, 0, 0, []), (1, 0, 1, 0, []), (15, 7, 13, 0, []), (0, 0, 0, 0, []), (0, 0, 0, 26, []), (39, 0, 0, 0, []), (1, 1, 1, 0, []), (15, 7, 14, 0, []), (0, 0, 0, 0, []), (1, 0, 1, 0, []), (15, 7, 14, 0, []), (0, 0, 0, 0, []), (0, 0, 0, 26, []), (39, 0, 0, 0, []), (34, 0, 0, 0, [])]
def bp_65 : List Nat := [0, 1, 2, 5, 8, 9, 10, 13, 16, 17, 18, 21, 24, 25, 26, 29, 32, 33, 34, 37, 40, 41, 44, 45, 46, 49, 50, 52, 55, 56, 59, 60, 61, 64, 65, 67, 70, 71, 74, 75, 76, 79, 80, 82, 85, 86, 89, 90, 91, 94, 95, 97, 100, 101, 104, 105, 106, 109, 110, 112, 115, 116, 119, 120, 121, 124, 125, 127, 130, 131, 134, 135, 136, 139, 140, 142, 145, 146, 149, 150, 151, 154, 155, 157, 160, 161, 164, 165, 166, 169, 170, 172, 175, 176, 179, 180, 181, 184, 185, 187, 190]
/-- ByInitials$Town.settle.([IIII)Z -/
def bc_66 : List Ins := [(1, 0, 1, 0, []), (14, 7, 0, 0, []), (0, 0, 0, 8, []), (12, 6, 2, 0, []), (0, 0, 0, 0, []), (33, 1, 0, 0, []), (1, 0, 1, 0, []), (1, 0, 1, 0, []), (14, 7, 0, 0, []), (1, 1, 1, 0, []), (1, 2, 0, 0, []), (36, 67, 4, 0, [7]), (1, 0, 1, 0, []), (15, 7, 7, 0, []), (1, 0, 1, 0, []), (14, 7, 0, 0, []), (1, 3, 0, 0, []), (19, 0, 0, 0, []), (1, 0, 1, 0, []), (15, 7, 8, 0, []), (1, 0, 1, 0, []), (14, 7, 0, 0, []), (1, 4, 0, 0, []), (19, 0, 0, 0, []), (1, 0, 1, 0, []), (28, 0, 0, 0, []), (14, 7, 0, 0, []), (0, 0, 0, 1, []), (3, 0, 0, 0, []), (16, 7, 0, 0, []), (0, 0, 0, 1, []), (33, 1, 0, 0, [])]
def bp_66 : List Nat := [0, 1, 4, 6, 9, 10, 11, 12, 13, 16, 17, 18, 21, 22, 25, 26, 29, 30, 31, 32, 35, 36, 39, 41, 42, 43, 44, 47, 48, 49, 52, 53]
/-- ByInitials$Town.giveName.(I[II)V -/
def bc_67 : List Ins := [(1, 0, 1, 0, []), (15, 7, 5, 0, []), (1, 1, 0, 0, []), (1, 3, 0, 0, []), (19, 0, 0, 0, []), (0, 0, 0, 0, []), (2, 4, 0, 0, []), (1, 4, 0, 0, []), (1, 3, 0, 0, []), (12, 26, 3, 0, []), (1, 4, 0, 0, []), (0, 0, 0, 6, []), (12, 26, 3, 0, []), (1, 0, 1, 0, []), (15, 7, 6, 0, []), (1, 1, 0, 0, []), (0, 0, 0, 6, []), (3, 2, 0, 0, []), (1, 4, 0, 0, []), (3, 0, 0, 0, []), (1, 2, 1, 0, []), (1, 4, 0, 0, []), (18, 0, 0, 0, []), (19, 0, 0, 0, []), (10, 4, 0, 1, []), (11, 7, 0, 0, []), (34, 0, 0, 0, [])]
def bp_67 : List Nat := [0, 1, 4, 5, 6, 7, 8, 10, 12, 13, 16, 18, 20, 23, 24, 27, 28, 30, 31, 33, 34, 35, 37, 38, 39, 42, 45]
/-- ByInitials$Town.putFirst.([II)V -/
def bc_68 : List Ins := [(0, 0, 0, 0, []), (2, 3, 0, 0, []), (0, 0, 0, 0, []), (2, 4, 0, 0, []), (1, 4, 0, 0, []), (1, 2, 0, 0, []), (12, 23, 3, 0, []), (1, 0, 1, 0, []), (1, 1, 1, 0, []), (1, 4, 0, 0, []), (18, 0, 0, 0, []), (1, 4, 0, 0, []), (36, 69, 3, 0, [7]), (1, 3, 0, 0, []), (0, 0, 0, 1, []), (1, 1, 1, 0, []), (1, 4, 0, 0, []), (18, 0, 0, 0, []), (3, 5, 0, 0, []), (3, 9, 0, 0, []), (2, 3, 0, 0, []), (10, 4, 0, 1, []), (11, 4, 0, 0, []), (1, 2, 0, 0, []), (2, 4, 0, 0, []), (0, 0, 0, 0, []), (2, 5, 0, 0, []), (1, 5, 0, 0, []), (0, 0, 0, 26, []), (12, 44, 3, 0, []), (1, 4, 0, 0, []), (0, 0, 0, 26, []), (12, 44, 3, 0, []), (1, 3, 0, 0, []), (1, 5, 0, 0, []), (36, 135, 2, 1, []), (13, 42, 1, 0, []), (1, 0, 1, 0, []), (1, 5, 0, 0, []), (1, 4, 0, 0, []), (36, 69, 3, 0, [7]), (10, 4, 0, 1, []), (10, 5, 0, 1, []), (11, 27, 0, 0, []), (34, 0, 0, 0, [])]
def bp_68 : List Nat := [0, 1, 2, 3, 5, 7, 8, 11, 12, 13, 15, 16, 18, 21, 22, 23, 24, 26, 27, 28, 29, 30, 33, 36, 37, 39, 40, 42, 44, 46, 49, 51, 53, 56, 57, 59, 62, 65, 66, 68, 70, 73, 76, 79, 82]
/-- ByInitials$Town.place.(II)V -/
def bc_69 : List Ins := [(1, 0, 1, 0, []), (15, 7, 12, 0, []), (1, 1, 0, 0, []), (1, 2, 0, 0, []), (19, 0, 0, 0, []), (1, 0, 1, 0, []), (15, 7, 13, 0, []), (1, 2, 0, 0, []), (1, 1, 0, 0, []), (19, 0, 0, 0, []), (34, 0, 0, 0, [])]
def bp_69 : List Nat := [0, 1, 4, 5, 6, 7, 8, 11, 12, 13, 14]
/-- ByInitials$Town.exchange.(II)V -/
def bc_70 : List Ins := [(1, 0, 1, 0, []), (15, 7, 12, 0, []), (1, 1, 0, 0, []), (18, 0, 0, 0, []), (2, 3, 0, 0, []), (1, 0, 1, 0, []), (1, 1, 0, 0, []), (1, 0, 1, 0, []), (15, 7, 12, 0, []), (1, 2, 0, 0, []), (18, 0, 0, 0, []), (36, 69, 3, 0, [7]), (1, 0, 1, 0, []), (1, 2, 0, 0, []), (1, 3, 0, 0, []), (36, 69, 3, 0, [7]), (34, 0, 0, 0, [])]
def bp_70 : List Nat := [0, 1, 4, 5, 6, 7, 8, 9, 10, 13, 14, 15, 18, 19, 20, 21, 24]
/-- ByInitials$Town.setEnemies.(II)V -/
def bc_71 : List Ins := [(1, 0, 1, 0, []), (15, 7, 14, 0, []), (1, 1, 0, 0, []), (29, 0, 0, 0, []), (18, 0, 0, 0, []), (0, 0, 0, 1, []), (1, 2, 0, 0, []), (3, 5, 0, 0, []), (3, 9, 0, 0, []), (19, 0, 0, 0, []), (1, 0, 1, 0, []), (15, 7, 14, 0, []), (1, 2, 0, 0, []), (29, 0, 0, 0, []), (18, 0, 0, 0, []), (0, 0, 0, 1, []), (1, 1, 0, 0, []), (3, 5, 0, 0, []), (3, 9, 0, 0, []), (19, 0, 0, 0, []), (34, 0, 0, 0, [])]
def bp_71 : List Nat := [0, 1, 4, 5, 6, 7, 8, 9, 10, 11, 12, 13, 16, 17, 18, 19, 20, 21, 22, 23, 24]
/-- ByInitials$Town.areEnemies.(II)Z -/
def bc_72 : List Ins := [(1, 0, 1, 0, []), (15, 7, 14, 0, []), (1, 1, 0, 0, []), (18, 0, 0, 0, []), (1, 2, 0, 0, []), (36, 135, 2, 1, []), (33, 1, 0, 0, [])]
def bp_72 : List Nat := [0, 1, 4, 5, 6, 7, 10]
/-- ByInitials$Town.isVowel.(I)Z -/
def bc_73 : List Ins := [(1, 0, 1, 0, []), (14, 7, 4, 0, []), (1, 1, 0, 0, []), (36, 135, 2, 1, []), (33, 1, 0, 0, [])]
def bp_73 : List Nat := [0, 1, 4, 5, 8]
/-- ByInitials$Town.isNameless.(I)Z -/
def bc_74 : List Ins := [(1, 0, 1, 0, []), (15, 7, 5, 0, []), (1, 1, 0, 0, []), (18, 0, 0, 0, []), (13, 7, 1, 0, []), (0, 0, 0, 1, []), (11, 8, 0, 0, []), (0, 0, 0, 0, []), (33, 1, 0, 0, [])]
def bp_74 : List Nat := [0, 1, 4, 5, 6, 9, 10, 13, 14]
/-- ByInitials$Town.letterOf.(II)I -/
def bc_75 : List Ins := [(1, 2, 0, 0, []), (1, 0, 1, 0, []), (15, 7, 5, 0, []), (1, 1, 0, 0, []), (18, 0, 0, 0, []), (12, 18, 3, 0, []), (1, 2, 0, 0, []), (0, 0, 0, 6, []), (12, 18, 3, 0, []), (1, 0, 1, 0, []), (15, 7, 6, 0, []), (1, 1, 0, 0, []), (0, 0, 0, 6, []), (3, 2, 0, 0, []), (1, 2, 0, 0, []), (3, 0, 0, 0, []), (18, 0, 0, 0, []), (11, 19, 0, 0, []), (0, 0, 0, (-4), []), (33, 0, 0, 0, [])]
def bp_75 : List Nat := [0, 1, 2, 5, 6, 7, 10, 11, 13, 16, 17, 20, 21, 23, 24, 25, 26, 27, 30, 32]
/-- ByInitials$Town.first.(I)I -/
def bc_76 : List Ins := [(1, 0, 1, 0, []), (1, 1, 0, 0, []), (0, 0, 0, 0, []), (36, 75, 3, 0, [7]), (33, 0, 0, 0, [])]
def bp_76 : List Nat := [0, 1, 2, 3, 6]
/-- ByInitials$Town.setFirst.(II)V -/
def bc_77 : List Ins := [(1, 0, 1, 0, []), (1, 1, 0, 0, []), (36, 74, 2, 0, [7]), (13, 11, 1, 0, []), (1, 0, 1, 0, []), (15, 7, 6, 0, []), (1, 1, 0, 0, []), (0, 0, 0, 6, []), (3, 2, 0, 0, []), (1, 2, 0, 0, []), (19, 0, 0, 0, []), (34, 0, 0, 0, [])]
def bp_77 : List Nat := [0, 1, 2, 5, 8, 9, 12, 13, 15, 16, 17, 18]
/-- ByInitials$Town.firstLetters.()I -/
def bc_78 : List Ins := [(0, 0, 0, 0, []), (2, 1, 0, 0, []), (0, 0, 0, 0, []), (2, 2, 0, 0, []), (1, 2, 0, 0, []), (1, 0, 1, 0, []), (14, 7, 0, 0, []), (12, 24, 3, 0, []), (1, 1, 0, 0, []), (1, 0, 1, 0, []), (1, 2, 0, 0, []), (36, 74, 2, 0, [7]), (13, 15, 0, 0, []), (0, 0, 0, 0, []), (11, 20, 0, 0, []), (0, 0, 0, 1, []), (1, 0, 1, 0, []), (1, 2, 0, 0, []), (36, 76, 2, 0, [7]), (3, 5, 0, 0, []), (3, 9, 0, 0, []), (2, 1, 0, 0, []), (10, 2, 0, 1, []), (11, 4, 0, 0, []), (1, 1, 0, 0, []), (33, 0, 0, 0, [])]
def bp_78 : List Nat := [0, 1, 2, 3, 4, 5, 6, 9, 12, 13, 14, 15, 18, 21, 22, 25, 26, 27, 28, 31, 32, 33, 34, 37, 40, 41]
/-- ByInitials$Town.keyOf.(I)I -/
def bc_79 : List Ins := [(1, 0, 1, 0, []), (1, 1, 0, 0, []), (36, 74, 2, 0, [7]), (13, 6, 0, 0, []), (0, 0, 0, 387420489, []), (33, 0, 0, 0, []), (0, 0, 0, 0, []), (2, 2, 0, 0, []), (0, 0, 0, 0, []), (2, 3, 0, 0, []), (1, 3, 0, 0, []), (0, 0, 0, 6, []), (12, 36, 3, 0, []), (1, 0, 1, 0, []), (1, 1, 0, 0, []), (1, 3, 0, 0, []), (36, 75, 3, 0, [7]), (2, 4, 0, 0, []), (1, 2, 0, 0, []), (0, 0, 0, 27, []), (3, 2, 0, 0, []), (1, 4, 0, 0, []), (0, 0, 0, (-4), []), (12, 26, 1, 0, []), (0, 0, 0, 0, []), (11, 32, 0, 0, []), (1, 0, 1, 0, []), (15, 7, 12, 0, []), (1, 4, 0, 0, []), (18, 0, 0, 0, []), (0, 0, 0, 1, []), (3, 0, 0, 0, []), (3, 0, 0, 0, []), (2, 2, 0, 0, []), (10, 3, 0, 1, []), (11, 10, 0, 0, []), (1, 2, 0, 0, []), (33, 0, 0, 0, [])]
def bp_79 : List Nat := [0, 1, 2, 5, 8, 10, 11, 12, 13, 14, 15, 16, 18, 21, 22, 23, 24, 27, 29, 30, 32, 33, 35, 37, 40, 41, 44, 45, 48, 50, 51, 52, 53, 54, 55, 58, 61, 62]
/-- ByInitials$Town.keyOfOne.(I)I -/
def bc_80 : List Ins := [(1, 0, 1, 0, []), (15, 7, 12, 0, []), (1, 1, 0, 0, []), (18, 0, 0, 0, []), (0, 0, 0, 1, []), (3, 0, 0, 0, []), (0, 0, 0, 14348907, []), (3, 2, 0, 0, []), (33, 0, 0, 0, [])]
def bp_80 : List Nat := [0, 1, 4, 5, 6, 7, 8, 10, 11]
/-- ByInitials$Town.holdsOffice.(I)Z -/
def bc_81 : List Ins := [(1, 0, 1, 0, []), (1, 1, 0, 0, []), (36, 74, 2, 0, [7]), (13, 10, 1, 0, []), (1, 0, 1, 0, []), (1, 0, 1, 0, []), (1, 1, 0, 0, []), (36, 76, 2, 0, [7]), (36, 73, 2, 0, [7]), (13, 12, 0, 0, []), (0, 0, 0, 1, []), (11, 13, 0, 0, []), (0, 0, 0, 0, []), (33, 1, 0, 0, [])]
def bp_81 : List Nat := [0, 1, 2, 5, 8, 9, 10, 11, 14, 17, 20, 21, 24, 25]
/-- ByInitials$Town.countOffice.()I -/
def bc_82 : List Ins := [(0, 0, 0, 0, []), (2, 1, 0, 0, []), (0, 0, 0, 0, []), (2, 2, 0, 0, []), (1, 2, 0, 0, []), (1, 0, 1, 0, []), (14, 7, 0, 0, []), (12, 20, 3, 0, []), (1, 1, 0, 0, []), (1, 0, 1, 0, []), (1, 2, 0, 0, []), (36, 81, 2, 0, [7]), (13, 15, 0, 0, []), (0, 0, 0, 1, []), (11, 16, 0, 0, []), (0, 0, 0, 0, []), (3, 0, 0, 0, []), (2, 1, 0, 0, []), (10, 2, 0, 1, []), (11, 4, 0, 0, []), (1, 1, 0, 0, []), (33, 0, 0, 0, [])]
def bp_82 : List Nat := [0, 1, 2, 3, 4, 5, 6, 9, 12, 13, 14, 15, 18, 21, 22, 25, 26, 27, 28, 31, 34, 35]
/-- ByInitials$Town.suits.(III)Z -/
def bc_83 : List Ins := [(1, 1, 0, 0, []), (0, 0, 0, (-4), []), (12, 6, 0, 0, []), (1, 2, 0, 0, []), (0, 0, 0, (-4), []), (12, 8, 1, 0, []), (0, 0, 0, 1, []), (33, 1, 0, 0, []), (1, 0, 1, 0, []), (15, 7, 12, 0, []), (1, 1, 0, 0, []), (18, 0, 0, 0, []), (1, 0, 1, 0, []), (15, 7, 12, 0, []), (1, 2, 0, 0, []), (18, 0, 0, 0, []), (3, 1, 0, 0, []), (38, 2, 0, 0, []), (1, 3, 0, 0, []), (12, 27, 4, 0, []), (1, 0, 1, 0, []), (1, 1, 0, 0, []), (1, 2, 0, 0, []), (36, 72, 3, 0, [7]), (13, 27, 1, 0, []), (0, 0, 0, 1, []), (11, 28, 0, 0, []), (0, 0, 0, 0, []), (33, 1, 0, 0, [])]
def bp_83 : List Nat := [0, 1, 3, 6, 7, 9, 12, 13, 14, 15, 18, 19, 20, 21, 24, 25, 26, 27, 30, 31, 34, 35, 36, 37, 40, 43, 44, 47, 48]
/-- ByInitials$Town.mayWed.(III)Z -/
def bc_84 : List Ins := [(1, 0, 1, 0, []), (15, 7, 9, 0, []), (1, 1, 0, 0, []), (18, 0, 0, 0, []), (0, 0, 0, (-4), []), (12, 24, 1, 0, []), (1, 0, 1, 0, []), (15, 7, 9, 0, []), (1, 2, 0, 0, []), (18, 0, 0, 0, []), (0, 0, 0, (-4), []), (12, 24, 1, 0, []), (1, 0, 1, 0, []), (1, 0, 1, 0, []), (1, 1, 0, 0, []), (36, 76, 2, 0, [7]), (1, 0, 1, 0, []), (1, 2, 0, 0, []), (36, 76, 2, 0, [7]), (1, 3, 0, 0, []), (36, 83, 4, 0, [7]), (13, 24, 0, 0, []), (0, 0, 0, 1, []), (11, 25, 0, 0, []), (0, 0, 0, 0, []), (33, 1, 0, 0, [])]
def bp_84 : List Nat := [0, 1, 4, 5, 6, 8, 11, 12, 15, 16, 17, 19, 22, 23, 24, 25, 28, 29, 30, 33, 34, 37, 40, 41, 44, 45]
/-- ByInitials$Town.countWed.()I -/
def bc_85 : List Ins := [(0, 0, 0, 0, []), (2, 1, 0, 0, []), (0, 0, 0, 0, []), (2, 2, 0, 0, []), (1, 2, 0, 0, []), (1, 0, 1, 0, []), (14, 7, 0, 0, []), (12, 22, 3, 0, []), (1, 1, 0, 0, []), (1, 0, 1, 0, []), (15, 7, 9, 0, []), (1, 2, 0, 0, []), (18, 0, 0, 0, []), (0, 0, 0, (-4), []), (12, 17, 1, 0, []), (0, 0, 0, 0, []), (11, 18, 0, 0, []), (0, 0, 0, 1, []), (3, 0, 0, 0, []), (2, 1, 0, 0, []), (10, 2, 0, 1, []), (11, 4, 0, 0, []), (1, 1, 0, 0, []), (33, 0, 0, 0, [])]
def bp_85 : List Nat := [0, 1, 2, 3, 4, 5, 6, 9, 12, 13, 14, 17, 18, 19, 21, 24, 25, 28, 29, 30, 31, 34, 37, 38]
/-- ByInitials$Town.mayLend.(II)Z -/
def bc_86 : List Ins := [(1, 0, 1, 0, []), (1, 1, 0, 0, []), (36, 74, 2, 0, [7]), (13, 21, 1, 0, []), (1, 0, 1, 0, []), (1, 2, 0, 0, []), (36, 74, 2, 0, [7]), (13, 21, 1, 0, []), (1, 0, 1, 0, []), (15, 7, 12, 0, []), (1, 0, 1, 0, []), (1, 1, 0, 0, []), (36, 76, 2, 0, [7]), (18, 0, 0, 0, []), (1, 0, 1, 0, []), (15, 7, 12, 0, []), (1, 0, 1, 0, []), (1, 2, 0, 0, []), (36, 76, 2, 0, [7]), (18, 0, 0, 0, []), (12, 23, 3, 0, []), (0, 0, 0, 1, []), (11, 24, 0, 0, []), (0, 0, 0, 0, []), (33, 1, 0, 0, [])]
def bp_86 : List Nat := [0, 1, 2, 5, 8, 9, 10, 13, 16, 17, 20, 21, 22, 25, 26, 27, 30, 31, 32, 35, 36, 39, 40, 43, 44]
/-- ByInitials$Town.pay.(III)V -/
def bc_87 : List Ins := [(1, 0, 1, 0, []), (15, 7, 8, 0, []), (1, 1, 0, 0, []), (29, 0, 0, 0, []), (18, 0, 0, 0, []), (1, 3, 0, 0, []), (3, 1, 0, 0, []), (19, 0, 0, 0, []), (1, 0, 1, 0, []), (15, 7, 8, 0, []), (1, 2, 0, 0, []), (29, 0, 0, 0, []), (18, 0, 0, 0, []), (1, 3, 0, 0, []), (3, 0, 0, 0, []), (19, 0, 0, 0, []), (34, 0, 0, 0, [])]
def bp_87 : List Nat := [0, 1, 4, 5, 6, 7, 8, 9, 10, 11, 14, 15, 16, 17, 18, 19, 20]
/-- ByInitials$Town.debt.(II)I -/
def bc_88 : List Ins := [(1, 0, 1, 0, []), (15, 7, 11, 0, []), (1, 1, 0, 0, []), (0, 0, 0, 8, []), (3, 2, 0, 0, []), (1, 2, 0, 0, []), (3, 0, 0, 0, []), (18, 0, 0, 0, []), (33, 0, 0, 0, [])]
def bp_88 : List Nat := [0, 1, 4, 5, 7, 8, 9, 10, 11]
/-- ByInitials$Town.setDebt.(III)V -/
def bc_89 : List Ins := [(1, 0, 1, 0, []), (15, 7, 11, 0, []), (1, 1, 0, 0, []), (0, 0, 0, 8, []), (3, 2, 0, 0, []), (1, 2, 0, 0, []), (3, 0, 0, 0, []), (1, 3, 0, 0, []), (19, 0, 0, 0, []), (34, 0, 0, 0, [])]
def bp_89 : List Nat := [0, 1, 4, 5, 7, 8, 9, 10, 11, 12]
/-- ByInitials$Town.balance.(I)I -/
def bc_90 : List Ins := [(0, 0, 0, 0, []), (2, 2, 0, 0, []), (0, 0, 0, 0, []), (2, 3, 0, 0, []), (1, 3, 0, 0, []), (1, 0, 1, 0, []), (14, 7, 0, 0, []), (12, 22, 3, 0, []), (1, 2, 0, 0, []), (1, 0, 1, 0, []), (1, 1, 0, 0, []), (1, 3, 0, 0, []), (36, 88, 3, 0, [7]), (1, 0, 1, 0, []), (1, 3, 0, 0, []), (1, 1, 0, 0, []), (36, 88, 3, 0, [7]), (3, 1, 0, 0, []), (3, 0, 0, 0, []), (2, 2, 0, 0, []), (10, 3, 0, 1, []), (11, 4, 0, 0, []), (1, 2, 0, 0, []), (33, 0, 0, 0, [])]
def bp_90 : List Nat := [0, 1, 2, 3, 4, 5, 6, 9, 12, 13, 14, 15, 16, 19, 20, 21, 22, 25, 26, 27, 28, 31, 34, 35]
/-- ByInitials$Town.quarrelAtTable.(II)Z -/
def bc_91 : List Ins := [(1, 0, 1, 0, []), (1, 1, 0, 0, []), (36, 74, 2, 0, [7]), (13, 19, 1, 0, []), (1, 0, 1, 0, []), (1, 2, 0, 0, []), (36, 74, 2, 0, [7]), (13, 19, 1, 0, []), (1, 0, 1, 0, []), (1, 0, 1, 0, []), (1, 1, 0, 0, []), (36, 76, 2, 0, [7]), (1, 0, 1, 0, []), (1, 2, 0, 0, []), (36, 76, 2, 0, [7]), (36, 72, 3, 0, [7]), (13, 19, 0, 0, []), (0, 0, 0, 1, []), (11, 20, 0, 0, []), (0, 0, 0, 0, []), (33, 1, 0, 0, [])]
def bp_91 : List Nat := [0, 1, 2, 5, 8, 9, 10, 13, 16, 17, 18, 19, 22, 23, 24, 27, 30, 33, 34, 37, 38]
/-- ByInitials$Town.drawFirstLetters.(I)V -/
def bc_92 : List Ins := [(0, 0, 0, 0, []), (2, 2, 0, 0, []), (1, 2, 0, 0, []), (1, 0, 1, 0, []), (14, 7, 0, 0, []), (12, 31, 3, 0, []), (9, 0, 0, 7919, []), (1, 1, 0, 0, []), (5, 0, 0, 0, []), (7, 1, 0, 0, []), (9, 0, 0, 6151, []), (1, 2, 0, 0, []), (5, 0, 0, 0, []), (7, 1, 0, 0, []), (7, 0, 0, 0, []), (9, 0, 0, 1, []), (7, 0, 0, 0, []), (2, 3, 2, 0, []), (1, 0, 1, 0, []), (1, 2, 0, 0, []), (1, 3, 2, 0, []), (1, 3, 2, 0, []), (7, 1, 0, 0, []), (9, 0, 0, 65521, []), (7, 2, 0, 0, []), (9, 0, 0, 26, []), (7, 2, 0, 0, []), (6, 0, 0, 0, []), (36, 77, 3, 0, [7]), (10, 2, 0, 1, []), (11, 2, 0, 0, []), (34, 0, 0, 0, [])]
def bp_92 : List Nat := [0, 1, 2, 3, 4, 7, 10, 13, 14, 15, 16, 19, 20, 21, 22, 23, 24, 25, 26, 27, 28, 29, 30, 31, 34, 35, 38, 39, 40, 43, 46, 49]
/-- ByInitials.<init>.()V -/
def bc_93 : List Ins := [(1, 0, 1, 0, []), (37, 0, 0, 0, []), (1, 0, 1, 0, []), (25, 5, 5, 0, []), (28, 0, 0, 0, []), (36, 36, 1, 2, []), (17, 8, 0, 0, []), (1, 0, 1, 0, []), (25, 7, 15, 0, []), (28, 0, 0, 0, []), (36, 63, 1, 2, []), (17, 8, 1, 0, []), (1, 0, 1, 0, []), (25, 7, 15, 0, []), (28, 0, 0, 0, []), (36, 63, 1, 2, []), (17, 8, 2, 0, []), (1, 0, 1, 0, []), (25, 4, 2, 0, []), (28, 0, 0, 0, []), (0, 0, 0, 8, []), (36, 31, 2, 2, []), (17, 8, 3, 0, []), (1, 0, 1, 0, []), (25, 4, 2, 0, []), (28, 0, 0, 0, []), (0, 0, 0, 2, []), (36, 31, 2, 2, []), (17, 8, 4, 0, []), (1, 0, 1, 0, []), (25, 2, 2, 0, []), (28, 0, 0, 0, []), (36, 12, 1, 2, []), (17, 8, 5, 0, []), (1, 0, 1, 0, []), (25, 3, 2, 0, []), (28, 0, 0, 0, []), (36, 25, 1, 2, []), (17, 8, 6, 0, []), (1, 0, 1, 0, []), (25, 6, 4, 0, []), (28, 0, 0, 0, []), (36, 53, 1, 2, []), (17, 8, 7, 0, []), (1, 0, 1, 0, []), (25, 0, 3, 0, []), (28, 0, 0, 0, []), (36, 0, 1, 2, []), (17, 8, 8, 0, []), (1, 0, 1, 0, []), (25, 1, 3, 0, []), (28, 0, 0, 0, []), (36, 5, 1, 2, []), (17, 8, 9, 0, []), (1, 0, 1, 0, []), (0, 0, 0, 6, []), (26, 0, 0, 0, []), (17, 8, 10, 0, []), (0, 0, 0, 0, []), (2, 1, 0, 0, []), (1, 1, 0, 0, []), (40, 0, 0, 0, []), (36, 220, 1, 0, [10]), (12, 73, 3, 0, []), (1, 0, 1, 0, []), (15, 8, 0, 0, []), (40, 0, 0, 0, []), (1, 1, 0, 0, []), (36, 221, 2, 0, [10]), (36, 37, 2, 0, [5]), (30, 0, 0, 0, []), (10, 1, 0, 1, []), (11, 60, 0, 0, []), (1, 0, 1, 0, []), (15, 8, 0, 0, []), (1, 0, 1, 0, []), (15, 8, 1, 0, []), (36, 38, 2, 0, [5]), (30, 0, 0, 0, []), (1, 0, 1, 0, []), (15, 8, 0, 0, []), (0, 0, 0, 0, []), (16, 5, 2, 0, []), (34, 0, 0, 0, [])]
def bp_93 : List Nat := [0, 1, 4, 5, 8, 9, 12, 15, 16, 19, 20, 23, 26, 27, 30, 31, 34, 37, 38, 41, 42, 44, 47, 50, 51, 54, 55, 56, 59, 62, 63, 66, 67, 70, 73, 74, 77, 78, 81, 84, 85, 88, 89, 92, 95, 96, 99, 100, 103, 106, 107, 110, 111, 114, 117, 118, 120, 122, 125, 126, 127, 128, 130, 133, 136, 137, 140, 142, 143, 146, 149, 150, 153, 156, 157, 160, 161, 164, 167, 168, 169, 172, 173, 176]
/-- ByInitials.write.(I)I -/
def bc_94 : List Ins := [(1, 1, 0, 0, []), (0, 0, 0, 32, []), (12, 6, 2, 0, []), (1, 1, 0, 0, []), (0, 0, 0, 126, []), (12, 8, 5, 0, []), (0, 0, 0, (-1), []), (33, 0, 0, 0, []), (1, 0, 1, 0, []), (15, 8, 0, 0, []), (1, 1, 0, 0, []), (36, 37, 2, 0, [5]), (13, 17, 0, 0, []), (1, 0, 1, 0, []), (15, 8, 0, 0, []), (14, 5, 2, 0, []), (11, 18, 0, 0, []), (0, 0, 0, (-3), []), (33, 0, 0, 0, [])]
def bp_94 : List Nat := [0, 1, 3, 6, 7, 9, 12, 13, 14, 15, 18, 19, 22, 25, 26, 29, 32, 35, 37]
/-- ByInitials.wipe.()I -/
def bc_95 : List Ins := [(1, 0, 1, 0, []), (15, 8, 0, 0, []), (14, 5, 2, 0, []), (2, 1, 0, 0, []), (1, 0, 1, 0, []), (15, 8, 0, 0, []), (0, 0, 0, 0, []), (16, 5, 2, 0, []), (1, 1, 0, 0, []), (33, 0, 0, 0, [])]
def bp_95 : List Nat := [0, 1, 4, 7, 8, 9, 12, 13, 16, 17]
/-- ByInitials.fault.()I -/
def bc_96 : List Ins := [(1, 0, 1, 0, []), (15, 8, 0, 0, []), (1, 0, 1, 0, []), (15, 8, 2, 0, []), (36, 38, 2, 0, [5]), (33, 0, 0, 0, [])]
def bp_96 : List Nat := [0, 1, 4, 5, 8, 11]
/-- ByInitials.lay.()I -/
def bc_97 : List Ins := [(1, 0, 1, 0, []), (15, 8, 0, 0, []), (1, 0, 1, 0, []), (15, 8, 2, 0, []), (36, 38, 2, 0, [5]), (0, 0, 0, (-4), []), (12, 11, 1, 0, []), (1, 0, 1, 0, []), (15, 8, 2, 0, []), (14, 7, 0, 0, []), (13, 13, 1, 0, []), (0, 0, 0, (-2), []), (33, 0, 0, 0, []), (1, 0, 1, 0, []), (15, 8, 1, 0, []), (1, 0, 1, 0, []), (15, 8, 2, 0, []), (36, 65, 2, 0, [7]), (1, 0, 1, 0, []), (0, 0, 0, 0, []), (16, 8, 11, 0, []), (1, 0, 1, 0, []), (15, 8, 9, 0, []), (0, 0, 0, 0, []), (16, 1, 2, 0, []), (1, 0, 1, 0, []), (15, 8, 3, 0, []), (0, 0, 0, 0, []), (16, 4, 1, 0, []), (1, 0, 1, 0, []), (15, 8, 4, 0, []), (0, 0, 0, 0, []), (16, 4, 1, 0, []), (1, 0, 1, 0, []), (15, 8, 1, 0, []), (14, 7, 0, 0, []), (33, 0, 0, 0, [])]
def bp_97 : List Nat := [0, 1, 4, 5, 8, 11, 13, 16, 17, 20, 23, 26, 28, 29, 30, 33, 34, 37, 40, 41, 42, 45, 46, 49, 50, 53, 54, 57, 58, 61, 62, 65, 66, 69, 70, 73, 76]
/-- ByInitials.person.(II)I -/
def bc_98 : List Ins := [(1, 0, 1, 0, []), (1, 1, 0, 0, []), (36, 132, 2, 0, [8]), (13, 6, 1, 0, []), (0, 0, 0, (-1), []), (33, 0, 0, 0, []), (1, 2, 0, 0, []), (31, 57, 0, 0, [8, 14, 20, 26, 32, 38, 43, 48]), (1, 0, 1, 0, []), (15, 8, 1, 0, []), (15, 7, 5, 0, []), (1, 1, 0, 0, []), (18, 0, 0, 0, []), (33, 0, 0, 0, []), (1, 0, 1, 0, []), (15, 8, 1, 0, []), (15, 7, 7, 0, []), (1, 1, 0, 0, []), (18, 0, 0, 0, []), (33, 0, 0, 0, []), (1, 0, 1, 0, []), (15, 8, 1, 0, []), (15, 7, 8, 0, []), (1, 1, 0, 0, []), (18, 0, 0, 0, []), (33, 0, 0, 0, []), (1, 0, 1, 0, []), (15, 8, 1, 0, []), (15, 7, 9, 0, []), (1, 1, 0, 0, []), (18, 0, 0, 0, []), (33, 0, 0, 0, []), (1, 0, 1, 0, []), (15, 8, 1, 0, []), (15, 7, 10, 0, []), (1, 1, 0, 0, []), (18, 0, 0, 0, []), (33, 0, 0, 0, []), (1, 0, 1, 0, []), (36, 136, 1, 0, [8]), (1, 1, 0, 0, []), (36, 16, 2, 0, [2]), (33, 0, 0, 0, []), (1, 0, 1, 0, []), (36, 136, 1, 0, [8]), (1, 1, 0, 0, []), (36, 18, 2, 0, [2]), (33, 0, 0, 0, []), (1, 0, 1, 0, []), (15, 8, 1, 0, []), (1, 1, 0, 0, []), (36, 81, 2, 0, [7]), (13, 55, 0, 0, []), (0, 0, 0, 1, []), (11, 56, 0, 0, []), (0, 0, 0, 0, []), (33, 0, 0, 0, []), (0, 0, 0, (-1), []), (33, 0, 0, 0, [])]
def bp_98 : List Nat := [0, 1, 2, 5, 8, 9, 10, 11, 56, 57, 60, 63, 64, 65, 66, 67, 70, 73, 74, 75, 76, 77, 80, 83, 84, 85, 86, 87, 90, 93, 94, 95, 96, 97, 100, 103, 104, 105, 106, 107, 110, 111, 114, 115, 116, 119, 120, 123, 124, 125, 128, 129, 132, 135, 136, 139, 140, 141, 142]
/-- ByInitials.letter.(II)I -/
def bc_99 : List Ins := [(1, 0, 1, 0, []), (1, 1, 0, 0, []), (36, 132, 2, 0, [8]), (13, 6, 0, 0, []), (1, 2, 0, 0, []), (13, 8, 3, 0, []), (0, 0, 0, (-1), []), (33, 0, 0, 0, []), (1, 0, 1, 0, []), (15, 8, 1, 0, []), (1, 1, 0, 0, []), (1, 2, 0, 0, []), (36, 75, 3, 0, [7]), (33, 0, 0, 0, [])]
def bp_99 : List Nat := [0, 1, 2, 5, 8, 9, 12, 13, 14, 15, 18, 19, 20, 23]
/-- ByInitials.alphabet.(II)I -/
def bc_100 : List Ins := [(1, 1, 0, 0, []), (36, 134, 1, 1, []), (13, 5, 1, 0, []), (0, 0, 0, (-1), []), (33, 0, 0, 0, []), (1, 2, 0, 0, []), (31, 28, 0, 0, [7, 13, 19]), (1, 0, 1, 0, []), (15, 8, 1, 0, []), (15, 7, 12, 0, []), (1, 1, 0, 0, []), (18, 0, 0, 0, []), (33, 0, 0, 0, []), (1, 0, 1, 0, []), (15, 8, 1, 0, []), (15, 7, 13, 0, []), (1, 1, 0, 0, []), (18, 0, 0, 0, []), (33, 0, 0, 0, []), (1, 0, 1, 0, []), (15, 8, 1, 0, []), (1, 1, 0, 0, []), (36, 73, 2, 0, [7]), (13, 26, 0, 0, []), (0, 0, 0, 1, []), (11, 27, 0, 0, []), (0, 0, 0, 0, []), (33, 0, 0, 0, []), (0, 0, 0, (-1), []), (33, 0, 0, 0, [])]
def bp_100 : List Nat := [0, 1, 4, 7, 8, 9, 10, 36, 37, 40, 43, 44, 45, 46, 47, 50, 53, 54, 55, 56, 57, 60, 61, 64, 67, 68, 71, 72, 73, 74]
/-- ByInitials.quarrel.(II)I -/
def bc_101 : List Ins := [(1, 1, 0, 0, []), (36, 134, 1, 1, []), (13, 6, 0, 0, []), (1, 2, 0, 0, []), (36, 134, 1, 1, []), (13, 8, 1, 0, []), (0, 0, 0, (-1), []), (33, 0, 0, 0, []), (1, 0, 1, 0, []), (15, 8, 1, 0, []), (1, 1, 0, 0, []), (1, 2, 0, 0, []), (36, 72, 3, 0, [7]), (13, 16, 0, 0, []), (0, 0, 0, 1, []), (11, 17, 0, 0, []), (0, 0, 0, 0, []), (33, 0, 0, 0, [])]
def bp_101 : List Nat := [0, 1, 4, 7, 8, 11, 14, 15, 16, 17, 20, 21, 22, 25, 28, 29, 32, 33]
/-- ByInitials.spell.(I)I -/
def bc_102 : List Ins := [(1, 1, 0, 0, []), (36, 134, 1, 1, []), (13, 5, 1, 0, []), (0, 0, 0, (-1), []), (33, 0, 0, 0, []), (1, 0, 1, 0, []), (14, 8, 11, 0, []), (0, 0, 0, 6, []), (12, 11, 2, 0, []), (0, 0, 0, (-3), []), (33, 0, 0, 0, []), (1, 0, 1, 0, []), (15, 8, 10, 0, []), (1, 0, 1, 0, []), (14, 8, 11, 0, []), (1, 1, 0, 0, []), (19, 0, 0, 0, []), (1, 0, 1, 0, []), (28, 0, 0, 0, []), (14, 8, 11, 0, []), (0, 0, 0, 1, []), (3, 0, 0, 0, []), (16, 8, 11, 0, []), (1, 0, 1, 0, []), (14, 8, 11, 0, []), (33, 0, 0, 0, [])]
def bp_102 : List Nat := [0, 1, 4, 7, 8, 9, 10, 13, 15, 18, 20, 21, 22, 25, 26, 29, 30, 31, 32, 33, 36, 37, 38, 41, 42, 45]
/-- ByInitials.unspell.()I -/
def bc_103 : List Ins := [(1, 0, 1, 0, []), (14, 8, 11, 0, []), (2, 1, 0, 0, []), (1, 0, 1, 0, []), (0, 0, 0, 0, []), (16, 8, 11, 0, []), (1, 1, 0, 0, []), (33, 0, 0, 0, [])]
def bp_103 : List Nat := [0, 1, 4, 5, 6, 7, 10, 11]
/-- ByInitials.price.(I)I -/
def bc_104 : List Ins := [(1, 0, 1, 0, []), (1, 1, 0, 0, []), (36, 132, 2, 0, [8]), (13, 8, 0, 0, []), (1, 0, 1, 0, []), (1, 1, 0, 0, []), (36, 137, 2, 0, [8]), (11, 9, 0, 0, []), (0, 0, 0, (-1), []), (33, 0, 0, 0, [])]
def bp_104 : List Nat := [0, 1, 2, 5, 8, 9, 10, 13, 16, 17]
/-- ByInitials.rename.(I)I -/
def bc_105 : List Ins := [(1, 0, 1, 0, []), (1, 1, 0, 0, []), (36, 132, 2, 0, [8]), (13, 6, 1, 0, []), (0, 0, 0, (-1), []), (33, 0, 0, 0, []), (1, 0, 1, 0, []), (1, 1, 0, 0, []), (36, 137, 2, 0, [8]), (2, 2, 0, 0, []), (1, 0, 1, 0, []), (15, 8, 1, 0, []), (15, 7, 10, 0, []), (1, 1, 0, 0, []), (18, 0, 0, 0, []), (0, 0, 0, 1, []), (12, 24, 0, 0, []), (1, 0, 1, 0, []), (15, 8, 1, 0, []), (15, 7, 8, 0, []), (1, 1, 0, 0, []), (18, 0, 0, 0, []), (1, 2, 0, 0, []), (12, 26, 3, 0, []), (0, 0, 0, (-2), []), (33, 0, 0, 0, []), (1, 0, 1, 0, []), (15, 8, 3, 0, []), (1, 0, 1, 0, []), (15, 8, 1, 0, []), (36, 33, 2, 0, [4]), (1, 0, 1, 0, []), (15, 8, 1, 0, []), (1, 1, 0, 0, []), (1, 0, 1, 0, []), (15, 8, 10, 0, []), (1, 0, 1, 0, []), (14, 8, 11, 0, []), (36, 67, 4, 0, [7]), (1, 0, 1, 0, []), (15, 8, 1, 0, []), (15, 7, 10, 0, []), (1, 1, 0, 0, []), (0, 0, 0, 1, []), (19, 0, 0, 0, []), (1, 0, 1, 0, []), (15, 8, 1, 0, []), (15, 7, 8, 0, []), (1, 1, 0, 0, []), (29, 0, 0, 0, []), (18, 0, 0, 0, []), (1, 2, 0, 0, []), (3, 1, 0, 0, []), (19, 0, 0, 0, []), (1, 0, 1, 0, []), (15, 8, 1, 0, []), (15, 7, 8, 0, []), (1, 1, 0, 0, []), (18, 0, 0, 0, []), (33, 0, 0, 0, [])]
def bp_105 : List Nat := [0, 1, 2, 5, 8, 9, 10, 11, 12, 15, 16, 17, 20, 23, 24, 25, 26, 29, 30, 33, 36, 37, 38, 39, 42, 44, 45, 46, 49, 50, 53, 56, 57, 60, 61, 62, 65, 66, 69, 72, 73, 76, 79, 80, 81, 82, 83, 86, 89, 90, 91, 92, 93, 94, 95, 96, 99, 102, 103, 104]
/-- ByInitials.may.(II)I -/
def bc_106 : List Ins := [(1, 0, 1, 0, []), (1, 1, 0, 0, []), (1, 2, 0, 0, []), (36, 133, 3, 0, [8]), (13, 7, 1, 0, []), (0, 0, 0, (-1), []), (33, 0, 0, 0, []), (1, 0, 1, 0, []), (15, 8, 1, 0, []), (1, 1, 0, 0, []), (1, 2, 0, 0, []), (1, 0, 1, 0, []), (15, 8, 1, 0, []), (14, 7, 2, 0, []), (36, 84, 4, 0, [7]), (13, 18, 0, 0, []), (0, 0, 0, 1, []), (11, 19, 0, 0, []), (0, 0, 0, 0, []), (33, 0, 0, 0, [])]
def bp_106 : List Nat := [0, 1, 2, 3, 6, 9, 10, 11, 12, 15, 16, 17, 18, 21, 24, 27, 30, 31, 34, 35]
/-- ByInitials.wed.(II)I -/
def bc_107 : List Ins := [(1, 0, 1, 0, []), (1, 1, 0, 0, []), (1, 2, 0, 0, []), (36, 133, 3, 0, [8]), (13, 7, 1, 0, []), (0, 0, 0, (-1), []), (33, 0, 0, 0, []), (1, 0, 1, 0, []), (15, 8, 1, 0, []), (1, 1, 0, 0, []), (1, 2, 0, 0, []), (1, 0, 1, 0, []), (15, 8, 1, 0, []), (14, 7, 2, 0, []), (36, 84, 4, 0, [7]), (13, 18, 1, 0, []), (0, 0, 0, (-2), []), (33, 0, 0, 0, []), (1, 0, 1, 0, []), (15, 8, 3, 0, []), (1, 0, 1, 0, []), (15, 8, 1, 0, []), (36, 33, 2, 0, [4]), (1, 0, 1, 0, []), (15, 8, 1, 0, []), (15, 7, 9, 0, []), (1, 1, 0, 0, []), (1, 2, 0, 0, []), (19, 0, 0, 0, []), (1, 0, 1, 0, []), (15, 8, 1, 0, []), (15, 7, 9, 0, []), (1, 2, 0, 0, []), (1, 1, 0, 0, []), (19, 0, 0, 0, []), (1, 0, 1, 0, []), (15, 8, 1, 0, []), (36, 85, 1, 0, [7]), (33, 0, 0, 0, [])]
def bp_107 : List Nat := [0, 1, 2, 3, 6, 9, 10, 11, 12, 15, 16, 17, 18, 21, 24, 27, 30, 32, 33, 34, 37, 38, 41, 44, 45, 48, 51, 52, 53, 54, 55, 58, 61, 62, 63, 64, 65, 68, 71]
/-- ByInitials.lend.(III)I -/
def bc_108 : List Ins := [(1, 0, 1, 0, []), (1, 1, 0, 0, []), (1, 2, 0, 0, []), (36, 133, 3, 0, [8]), (13, 11, 0, 0, []), (1, 3, 0, 0, []), (0, 0, 0, 1, []), (12, 11, 2, 0, []), (1, 3, 0, 0, []), (0, 0, 0, 99, []), (12, 13, 5, 0, []), (0, 0, 0, (-1), []), (33, 0, 0, 0, []), (1, 0, 1, 0, []), (15, 8, 1, 0, []), (1, 1, 0, 0, []), (1, 2, 0, 0, []), (36, 88, 3, 0, [7]), (1, 3, 0, 0, []), (3, 0, 0, 0, []), (2, 4, 0, 0, []), (1, 0, 1, 0, []), (15, 8, 1, 0, []), (15, 7, 8, 0, []), (1, 1, 0, 0, []), (18, 0, 0, 0, []), (1, 3, 0, 0, []), (12, 37, 2, 0, []), (1, 4, 0, 0, []), (0, 0, 0, 999, []), (12, 37, 4, 0, []), (1, 0, 1, 0, []), (15, 8, 1, 0, []), (1, 1, 0, 0, []), (1, 2, 0, 0, []), (36, 86, 3, 0, [7]), (13, 39, 1, 0, []), (0, 0, 0, (-2), []), (33, 0, 0, 0, []), (1, 0, 1, 0, []), (15, 8, 3, 0, []), (1, 0, 1, 0, []), (15, 8, 1, 0, []), (36, 33, 2, 0, [4]), (1, 0, 1, 0, []), (15, 8, 1, 0, []), (1, 1, 0, 0, []), (1, 2, 0, 0, []), (1, 3, 0, 0, []), (36, 87, 4, 0, [7]), (1, 0, 1, 0, []), (15, 8, 1, 0, []), (1, 1, 0, 0, []), (1, 2, 0, 0, []), (1, 4, 0, 0, []), (36, 89, 4, 0, [7]), (1, 4, 0, 0, []), (33, 0, 0, 0, [])]
def bp_108 : List Nat := [0, 1, 2, 3, 6, 9, 10, 11, 14, 15, 17, 20, 21, 22, 23, 26, 27, 28, 31, 32, 33, 35, 36, 39, 42, 43, 44, 45, 48, 50, 53, 56, 57, 60, 61, 62, 65, 68, 70, 71, 72, 75, 76, 79, 82, 83, 86, 87, 88, 89, 92, 93, 96, 97, 98, 100, 103, 105]
/-- ByInitials.repay.(III)I -/
def bc_109 : List Ins := [(1, 0, 1, 0, []), (1, 1, 0, 0, []), (1, 2, 0, 0, []), (36, 133, 3, 0, [8]), (13, 11, 0, 0, []), (1, 3, 0, 0, []), (0, 0, 0, 1, []), (12, 11, 2, 0, []), (1, 3, 0, 0, []), (0, 0, 0, 99, []), (12, 13, 5, 0, []), (0, 0, 0, (-1), []), (33, 0, 0, 0, []), (1, 0, 1, 0, []), (15, 8, 1, 0, []), (1, 1, 0, 0, []), (1, 2, 0, 0, []), (36, 88, 3, 0, [7]), (1, 3, 0, 0, []), (3, 1, 0, 0, []), (2, 4, 0, 0, []), (1, 4, 0, 0, []), (13, 30, 2, 0, []), (1, 0, 1, 0, []), (15, 8, 1, 0, []), (15, 7, 8, 0, []), (1, 2, 0, 0, []), (18, 0, 0, 0, []), (1, 3, 0, 0, []), (12, 32, 3, 0, []), (0, 0, 0, (-2), []), (33, 0, 0, 0, []), (1, 0, 1, 0, []), (15, 8, 3, 0, []), (1, 0, 1, 0, []), (15, 8, 1, 0, []), (36, 33, 2, 0, [4]), (1, 0, 1, 0, []), (15, 8, 1, 0, []), (1, 2, 0, 0, []), (1, 1, 0, 0, []), (1, 3, 0, 0, []), (36, 87, 4, 0, [7]), (1, 0, 1, 0, []), (15, 8, 1, 0, []), (1, 1, 0, 0, []), (1, 2, 0, 0, []), (1, 4, 0, 0, []), (36, 89, 4, 0, [7]), (1, 4, 0, 0, []), (33, 0, 0, 0, [])]
def bp_109 : List Nat := [0, 1, 2, 3, 6, 9, 10, 11, 14, 15, 17, 20, 21, 22, 23, 26, 27, 28, 31, 32, 33, 35, 37, 40, 41, 44, 47, 48, 49, 50, 53, 55, 56, 57, 60, 61, 64, 67, 68, 71, 72, 73, 74, 77, 78, 81, 82, 83, 85, 88, 90]
/-- ByInitials.swap.(II)I -/
def bc_110 : List Ins := [(1, 1, 0, 0, []), (36, 134, 1, 1, []), (13, 9, 0, 0, []), (1, 2, 0, 0, []), (36, 134, 1, 1, []), (13, 9, 0, 0, []), (1, 1, 0, 0, []), (1, 2, 0, 0, []), (12, 11, 1, 0, []), (0, 0, 0, (-1), []), (33, 0, 0, 0, []), (1, 0, 1, 0, []), (15, 8, 3, 0, []), (1, 0, 1, 0, []), (15, 8, 1, 0, []), (36, 33, 2, 0, [4]), (1, 0, 1, 0, []), (15, 8, 1, 0, []), (1, 1, 0, 0, []), (1, 2, 0, 0, []), (36, 70, 3, 0, [7]), (1, 0, 1, 0, []), (15, 8, 1, 0, []), (15, 7, 12, 0, []), (1, 1, 0, 0, []), (18, 0, 0, 0, []), (33, 0, 0, 0, [])]
def bp_110 : List Nat := [0, 1, 4, 7, 8, 11, 14, 15, 16, 19, 20, 21, 22, 25, 26, 29, 32, 33, 36, 37, 38, 41, 42, 45, 48, 49, 50]
/-- ByInitials.newYear.()I -/
def bc_111 : List Ins := [(1, 0, 1, 0, []), (15, 8, 3, 0, []), (1, 0, 1, 0, []), (15, 8, 1, 0, []), (36, 33, 2, 0, [4]), (0, 0, 0, 0, []), (2, 1, 0, 0, []), (0, 0, 0, 0, []), (2, 2, 0, 0, []), (1, 2, 0, 0, []), (1, 0, 1, 0, []), (15, 8, 1, 0, []), (14, 7, 0, 0, []), (12, 30, 3, 0, []), (1, 1, 0, 0, []), (1, 0, 1, 0, []), (15, 8, 1, 0, []), (15, 7, 10, 0, []), (1, 2, 0, 0, []), (18, 0, 0, 0, []), (3, 0, 0, 0, []), (2, 1, 0, 0, []), (1, 0, 1, 0, []), (15, 8, 1, 0, []), (15, 7, 10, 0, []), (1, 2, 0, 0, []), (0, 0, 0, 0, []), (19, 0, 0, 0, []), (10, 2, 0, 1, []), (11, 9, 0, 0, []), (1, 1, 0, 0, []), (33, 0, 0, 0, [])]
def bp_111 : List Nat := [0, 1, 4, 5, 8, 11, 12, 13, 14, 15, 16, 17, 20, 23, 26, 27, 28, 31, 34, 35, 36, 37, 38, 39, 42, 45, 46, 47, 48, 51, 54, 55]
/-- ByInitials.undo.()I -/
def bc_112 : List Ins := [(1, 0, 1, 0, []), (15, 8, 3, 0, []), (1, 0, 1, 0, []), (15, 8, 1, 0, []), (36, 34, 2, 0, [4]), (13, 10, 0, 0, []), (1, 0, 1, 0, []), (15, 8, 3, 0, []), (14, 4, 1, 0, []), (11, 11, 0, 0, []), (0, 0, 0, (-2), []), (33, 0, 0, 0, [])]
def bp_112 : List Nat := [0, 1, 4, 5, 8, 11, 14, 15, 18, 21, 24, 26]
/-- ByInitials.change.(II)I -/
def bc_113 : List Ins := [(1, 0, 1, 0, []), (1, 1, 0, 0, []), (36, 132, 2, 0, [8]), (13, 9, 0, 0, []), (1, 2, 0, 0, []), (13, 9, 2, 0, []), (1, 2, 0, 0, []), (0, 0, 0, 1, []), (12, 11, 5, 0, []), (0, 0, 0, (-1), []), (33, 0, 0, 0, []), (1, 0, 1, 0, []), (15, 8, 1, 0, []), (1, 1, 0, 0, []), (36, 74, 2, 0, [7]), (13, 18, 0, 0, []), (0, 0, 0, (-2), []), (33, 0, 0, 0, []), (1, 0, 1, 0, []), (36, 136, 1, 0, [8]), (30, 0, 0, 0, []), (1, 0, 1, 0, []), (15, 8, 5, 0, []), (1, 1, 0, 0, []), (36, 23, 2, 0, [2]), (2, 3, 0, 0, []), (1, 2, 0, 0, []), (13, 30, 1, 0, []), (1, 3, 0, 0, []), (11, 37, 0, 0, []), (1, 0, 1, 0, []), (15, 8, 5, 0, []), (1, 1, 0, 0, []), (1, 3, 0, 0, []), (36, 22, 3, 0, [2]), (0, 0, 0, 100, []), (3, 0, 0, 0, []), (33, 0, 0, 0, [])]
def bp_113 : List Nat := [0, 1, 2, 5, 8, 9, 12, 13, 14, 17, 18, 19, 20, 23, 24, 27, 30, 32, 33, 34, 37, 38, 39, 42, 43, 46, 47, 48, 51, 52, 55, 56, 59, 60, 61, 64, 66, 67]
/-- ByInitials.run.(I)I -/
def bc_114 : List Ins := [(1, 1, 0, 0, []), (0, 0, 0, (-1), []), (12, 9, 0, 0, []), (1, 0, 1, 0, []), (1, 1, 0, 0, []), (36, 132, 2, 0, [8]), (13, 9, 1, 0, []), (0, 0, 0, (-1), []), (33, 0, 0, 0, []), (1, 1, 0, 0, []), (0, 0, 0, (-1), []), (12, 19, 0, 0, []), (1, 0, 1, 0, []), (15, 8, 1, 0, []), (1, 1, 0, 0, []), (36, 74, 2, 0, [7]), (13, 19, 0, 0, []), (0, 0, 0, (-4), []), (33, 0, 0, 0, []), (1, 0, 1, 0, []), (36, 136, 1, 0, [8]), (30, 0, 0, 0, []), (0, 0, 0, 0, []), (2, 2, 0, 0, []), (1, 2, 0, 0, []), (0, 0, 0, 20, []), (12, 33, 3, 0, []), (1, 0, 1, 0, []), (15, 8, 5, 0, []), (36, 24, 1, 0, [2]), (13, 33, 0, 0, []), (10, 2, 0, 1, []), (11, 24, 0, 0, []), (1, 1, 0, 0, []), (0, 0, 0, (-1), []), (12, 42, 0, 0, []), (1, 0, 1, 0, []), (15, 8, 5, 0, []), (15, 2, 1, 0, []), (1, 1, 0, 0, []), (36, 76, 2, 0, [7]), (33, 0, 0, 0, []), (1, 2, 0, 0, []), (0, 0, 0, 20, []), (12, 51, 1, 0, []), (1, 0, 1, 0, []), (15, 8, 5, 0, []), (36, 24, 1, 0, [2]), (13, 51, 0, 0, []), (0, 0, 0, (-4), []), (11, 52, 0, 0, []), (1, 2, 0, 0, []), (33, 0, 0, 0, [])]
def bp_114 : List Nat := [0, 1, 2, 5, 6, 7, 10, 13, 14, 15, 16, 17, 20, 21, 24, 25, 28, 31, 33, 34, 35, 38, 39, 40, 41, 42, 44, 47, 48, 51, 54, 57, 60, 63, 64, 65, 68, 69, 72, 75, 76, 79, 80, 81, 83, 86, 87, 90, 93, 96, 98, 101, 102]
/-- ByInitials.shortest.(IIIII)I -/
def bc_115 : List Ins := [(1, 0, 1, 0, []), (1, 1, 0, 0, []), (36, 132, 2, 0, [8]), (13, 12, 0, 0, []), (1, 0, 1, 0, []), (1, 3, 0, 0, []), (36, 132, 2, 0, [8]), (13, 12, 0, 0, []), (1, 0, 1, 0, []), (1, 4, 0, 0, []), (36, 132, 2, 0, [8]), (13, 14, 1, 0, []), (0, 0, 0, (-1), []), (33, 0, 0, 0, []), (1, 2, 0, 0, []), (13, 24, 2, 0, []), (1, 2, 0, 0, []), (0, 0, 0, 7, []), (12, 24, 4, 0, []), (1, 5, 0, 0, []), (13, 24, 2, 0, []), (1, 5, 0, 0, []), (0, 0, 0, 3, []), (12, 26, 5, 0, []), (0, 0, 0, (-1), []), (33, 0, 0, 0, []), (1, 5, 0, 0, []), (0, 0, 0, 1, []), (12, 31, 5, 0, []), (0, 0, 0, (-4), []), (11, 37, 0, 0, []), (1, 0, 1, 0, []), (1, 1, 0, 0, []), (1, 2, 0, 0, []), (1, 3, 0, 0, []), (1, 4, 0, 0, []), (36, 138, 5, 0, [8]), (2, 6, 0, 0, []), (1, 6, 0, 0, []), (0, 0, 0, (-4), []), (12, 43, 1, 0, []), (0, 0, 0, (-4), []), (33, 0, 0, 0, []), (1, 5, 0, 0, []), (13, 47, 1, 0, []), (0, 0, 0, 1, []), (11, 48, 0, 0, []), (1, 6, 0, 0, []), (33, 0, 0, 0, [])]
def bp_115 : List Nat := [0, 1, 2, 5, 8, 9, 10, 13, 16, 17, 19, 22, 25, 26, 27, 28, 31, 32, 34, 37, 39, 42, 44, 45, 48, 49, 50, 52, 53, 56, 58, 61, 62, 63, 64, 65, 67, 70, 72, 74, 76, 79, 81, 82, 84, 87, 88, 91, 93]
/-- ByInitials.match.(I)I -/
def bc_116 : List Ins := [(1, 1, 0, 0, []), (0, 0, 0, (-1), []), (12, 9, 0, 0, []), (1, 0, 1, 0, []), (1, 1, 0, 0, []), (36, 132, 2, 0, [8]), (13, 9, 1, 0, []), (0, 0, 0, (-1), []), (33, 0, 0, 0, []), (1, 0, 1, 0, []), (15, 8, 6, 0, []), (1, 0, 1, 0, []), (15, 8, 1, 0, []), (1, 0, 1, 0, []), (15, 8, 1, 0, []), (14, 7, 2, 0, []), (36, 26, 3, 0, [3]), (2, 2, 0, 0, []), (1, 1, 0, 0, []), (0, 0, 0, (-1), []), (12, 23, 1, 0, []), (1, 2, 0, 0, []), (11, 30, 0, 0, []), (1, 0, 1, 0, []), (15, 8, 6, 0, []), (1, 1, 0, 0, []), (1, 0, 1, 0, []), (15, 8, 1, 0, []), (14, 7, 0, 0, []), (36, 29, 3, 0, [3]), (33, 0, 0, 0, [])]
def bp_116 : List Nat := [0, 1, 2, 5, 6, 7, 10, 13, 14, 15, 16, 19, 20, 23, 24, 27, 30, 33, 34, 35, 36, 39, 40, 43, 44, 47, 48, 49, 52, 55, 58]
/-- ByInitials.wide.(I)I -/
def bc_117 : List Ins := [(1, 1, 0, 0, []), (0, 0, 0, 1, []), (12, 6, 2, 0, []), (1, 1, 0, 0, []), (0, 0, 0, 4, []), (12, 8, 5, 0, []), (0, 0, 0, (-1), []), (33, 0, 0, 0, []), (1, 0, 1, 0, []), (15, 8, 6, 0, []), (1, 0, 1, 0, []), (15, 8, 1, 0, []), (0, 0, 0, 25, []), (36, 26, 3, 0, [3]), (1, 1, 0, 0, []), (12, 18, 3, 0, []), (0, 0, 0, (-4), []), (33, 0, 0, 0, []), (0, 0, 0, 0, []), (2, 2, 0, 0, []), (0, 0, 0, 25, []), (2, 3, 0, 0, []), (0, 0, 0, 0, []), (2, 4, 0, 0, []), (1, 4, 0, 0, []), (0, 0, 0, 26, []), (12, 53, 3, 0, []), (1, 2, 0, 0, []), (1, 3, 0, 0, []), (12, 53, 3, 0, []), (1, 2, 0, 0, []), (1, 3, 0, 0, []), (3, 0, 0, 0, []), (0, 0, 0, 1, []), (3, 6, 0, 0, []), (2, 5, 0, 0, []), (1, 0, 1, 0, []), (15, 8, 6, 0, []), (1, 0, 1, 0, []), (15, 8, 1, 0, []), (1, 5, 0, 0, []), (36, 26, 3, 0, [3]), (1, 1, 0, 0, []), (12, 47, 2, 0, []), (1, 5, 0, 0, []), (2, 3, 0, 0, []), (11, 51, 0, 0, []), (1, 5, 0, 0, []), (0, 0, 0, 1, []), (3, 0, 0, 0, []), (2, 2, 0, 0, []), (10, 4, 0, 1, []), (11, 24, 0, 0, []), (1, 3, 0, 0, []), (33, 0, 0, 0, [])]
def bp_117 : List Nat := [0, 1, 2, 5, 6, 7, 10, 11, 12, 13, 16, 17, 20, 22, 25, 26, 29, 31, 32, 33, 34, 36, 37, 38, 40, 42, 44, 47, 48, 49, 52, 53, 54, 55, 56, 57, 59, 60, 63, 64, 67, 69, 72, 73, 76, 78, 79, 82, 84, 85, 86, 87, 90, 93, 94]
/-- ByInitials.owed.(II)I -/
def bc_118 : List Ins := [(1, 0, 1, 0, []), (1, 1, 0, 0, []), (36, 132, 2, 0, [8]), (13, 14, 0, 0, []), (1, 0, 1, 0, []), (1, 2, 0, 0, []), (36, 132, 2, 0, [8]), (13, 14, 0, 0, []), (1, 0, 1, 0, []), (15, 8, 1, 0, []), (1, 1, 0, 0, []), (1, 2, 0, 0, []), (36, 88, 3, 0, [7]), (11, 15, 0, 0, []), (0, 0, 0, (-1), []), (33, 0, 0, 0, [])]
def bp_118 : List Nat := [0, 1, 2, 5, 8, 9, 10, 13, 16, 17, 20, 21, 22, 25, 28, 29]
/-- ByInitials.net.(I)I -/
def bc_119 : List Ins := [(1, 0, 1, 0, []), (1, 1, 0, 0, []), (36, 132, 2, 0, [8]), (13, 11, 0, 0, []), (1, 0, 1, 0, []), (15, 8, 1, 0, []), (1, 1, 0, 0, []), (36, 90, 2, 0, [7]), (0, 0, 0, 10000, []), (3, 0, 0, 0, []), (11, 12, 0, 0, []), (0, 0, 0, (-1), []), (33, 0, 0, 0, [])]
def bp_119 : List Nat := [0, 1, 2, 5, 8, 9, 12, 13, 16, 19, 20, 23, 24]
/-- ByInitials.chain.()I -/
def bc_120 : List Ins := [(1, 0, 1, 0, []), (15, 8, 8, 0, []), (1, 0, 1, 0, []), (15, 8, 1, 0, []), (36, 1, 2, 0, [0]), (33, 0, 0, 0, [])]
def bp_120 : List Nat := [0, 1, 4, 5, 8, 11]
/-- ByInitials.payments.()I -/
def bc_121 : List Ins := [(1, 0, 1, 0, []), (15, 8, 8, 0, []), (1, 0, 1, 0, []), (15, 8, 1, 0, []), (36, 3, 2, 0, [0]), (33, 0, 0, 0, [])]
def bp_121 : List Nat := [0, 1, 4, 5, 8, 11]
/-- ByInitials.seats.(I)I -/
def bc_122 : List Ins := [(1, 1, 0, 0, []), (0, 0, 0, (-2), []), (12, 8, 2, 0, []), (1, 1, 0, 0, []), (1, 0, 1, 0, []), (15, 8, 1, 0, []), (14, 7, 0, 0, []), (12, 10, 2, 0, []), (0, 0, 0, (-1), []), (33, 0, 0, 0, []), (1, 0, 1, 0, []), (15, 8, 7, 0, []), (1, 0, 1, 0, []), (15, 8, 1, 0, []), (36, 54, 2, 0, [6]), (1, 1, 0, 0, []), (0, 0, 0, (-1), []), (12, 22, 1, 0, []), (1, 0, 1, 0, []), (15, 8, 7, 0, []), (36, 59, 1, 0, [6]), (33, 0, 0, 0, []), (1, 1, 0, 0, []), (0, 0, 0, (-2), []), (12, 29, 1, 0, []), (1, 0, 1, 0, []), (15, 8, 7, 0, []), (36, 60, 1, 0, [6]), (11, 33, 0, 0, []), (1, 0, 1, 0, []), (15, 8, 7, 0, []), (1, 1, 0, 0, []), (36, 61, 2, 0, [6]), (33, 0, 0, 0, [])]
def bp_122 : List Nat := [0, 1, 3, 6, 7, 8, 11, 14, 17, 18, 19, 20, 23, 24, 27, 30, 31, 32, 35, 36, 39, 42, 43, 44, 46, 49, 50, 53, 56, 59, 60, 63, 64, 67]
/-- ByInitials.bestSwap.(I)I -/
def bc_123 : List Ins := [(1, 1, 0, 0, []), (13, 5, 2, 0, []), (1, 1, 0, 0, []), (0, 0, 0, 1, []), (12, 7, 5, 0, []), (0, 0, 0, (-1), []), (33, 0, 0, 0, []), (1, 0, 1, 0, []), (36, 136, 1, 0, [8]), (36, 19, 1, 0, [2]), (2, 2, 0, 0, []), (0, 0, 0, (-4), []), (2, 3, 0, 0, []), (1, 0, 1, 0, []), (15, 8, 1, 0, []), (36, 78, 1, 0, [7]), (2, 4, 0, 0, []), (0, 0, 0, 0, []), (2, 5, 0, 0, []), (1, 5, 0, 0, []), (0, 0, 0, 26, []), (12, 58, 3, 0, []), (1, 5, 0, 0, []), (0, 0, 0, 1, []), (3, 0, 0, 0, []), (2, 6, 0, 0, []), (1, 6, 0, 0, []), (0, 0, 0, 26, []), (12, 56, 3, 0, []), (1, 4, 0, 0, []), (1, 5, 0, 0, []), (36, 135, 2, 1, []), (13, 54, 0, 0, []), (1, 4, 0, 0, []), (1, 6, 0, 0, []), (36, 135, 2, 1, []), (13, 54, 0, 0, []), (1, 0, 1, 0, []), (15, 8, 5, 0, []), (1, 5, 0, 0, []), (1, 6, 0, 0, []), (36, 20, 3, 0, [2]), (2, 7, 0, 0, []), (1, 7, 0, 0, []), (1, 2, 0, 0, []), (12, 54, 5, 0, []), (1, 7, 0, 0, []), (2, 2, 0, 0, []), (0, 0, 0, 26, []), (1, 5, 0, 0, []), (3, 2, 0, 0, []), (1, 6, 0, 0, []), (3, 0, 0, 0, []), (2, 3, 0, 0, []), (10, 6, 0, 1, []), (11, 26, 0, 0, []), (10, 5, 0, 1, []), (11, 19, 0, 0, []), (1, 3, 0, 0, []), (0, 0, 0, (-4), []), (12, 63, 0, 0, []), (1, 1, 0, 0, []), (13, 65, 1, 0, []), (1, 3, 0, 0, []), (11, 66, 0, 0, []), (1, 2, 0, 0, []), (33, 0, 0, 0, [])]
def bp_123 : List Nat := [0, 1, 4, 5, 6, 9, 10, 11, 12, 15, 18, 19, 21, 22, 23, 26, 29, 31, 32, 34, 36, 38, 41, 43, 44, 45, 47, 49, 51, 54, 56, 58, 61, 64, 66, 68, 71, 74, 75, 78, 80, 82, 85, 87, 89, 90, 93, 95, 96, 98, 100, 101, 103, 104, 105, 108, 111, 114, 117, 118, 120, 123, 124, 127, 128, 131, 132]
/-- ByInitials.enter.(II)I -/
def bc_124 : List Ins := [(1, 1, 0, 0, []), (36, 134, 1, 1, []), (13, 8, 0, 0, []), (1, 2, 0, 0, []), (13, 8, 2, 0, []), (1, 2, 0, 0, []), (0, 0, 0, 9, []), (12, 10, 5, 0, []), (0, 0, 0, (-1), []), (33, 0, 0, 0, []), (1, 0, 1, 0, []), (15, 8, 9, 0, []), (1, 1, 0, 0, []), (1, 2, 0, 0, []), (36, 6, 3, 0, [1]), (13, 20, 0, 0, []), (1, 0, 1, 0, []), (15, 8, 9, 0, []), (14, 1, 2, 0, []), (11, 21, 0, 0, []), (0, 0, 0, (-3), []), (33, 0, 0, 0, [])]
def bp_124 : List Nat := [0, 1, 4, 7, 8, 11, 12, 14, 17, 18, 19, 20, 23, 24, 25, 28, 31, 32, 35, 38, 41, 43]
/-- ByInitials.close.()I -/
def bc_125 : List Ins := [(1, 0, 1, 0, []), (15, 8, 9, 0, []), (14, 1, 2, 0, []), (2, 1, 0, 0, []), (1, 0, 1, 0, []), (15, 8, 9, 0, []), (0, 0, 0, 0, []), (16, 1, 2, 0, []), (1, 1, 0, 0, []), (33, 0, 0, 0, [])]
def bp_125 : List Nat := [0, 1, 4, 7, 8, 9, 12, 13, 16, 17]
/-- ByInitials.fits.()I -/
def bc_126 : List Ins := [(1, 0, 1, 0, []), (15, 8, 9, 0, []), (1, 0, 1, 0, []), (36, 136, 1, 0, [8]), (36, 10, 2, 0, [1]), (33, 0, 0, 0, [])]
def bp_126 : List Nat := [0, 1, 4, 5, 8, 11]
/-- ByInitials.sure.(I)I -/
def bc_127 : List Ins := [(1, 1, 0, 0, []), (13, 7, 2, 0, []), (1, 1, 0, 0, []), (1, 0, 1, 0, []), (15, 8, 9, 0, []), (14, 1, 2, 0, []), (12, 9, 2, 0, []), (0, 0, 0, (-1), []), (33, 0, 0, 0, []), (1, 0, 1, 0, []), (15, 8, 9, 0, []), (1, 0, 1, 0, []), (36, 136, 1, 0, [8]), (36, 10, 2, 0, [1]), (13, 17, 1, 0, []), (0, 0, 0, (-4), []), (11, 23, 0, 0, []), (1, 0, 1, 0, []), (15, 8, 9, 0, []), (1, 1, 0, 0, []), (1, 0, 1, 0, []), (15, 8, 5, 0, []), (36, 11, 3, 0, [1]), (33, 0, 0, 0, [])]
def bp_127 : List Nat := [0, 1, 4, 5, 6, 9, 12, 15, 16, 17, 18, 21, 22, 25, 28, 31, 33, 36, 37, 40, 41, 42, 45, 48]
/-- ByInitials.year.(II)I -/
def bc_128 : List Ins := [(1, 1, 0, 0, []), (13, 10, 2, 0, []), (1, 1, 0, 0, []), (0, 0, 0, 9999, []), (12, 10, 4, 0, []), (1, 2, 0, 0, []), (13, 10, 2, 0, []), (1, 2, 0, 0, []), (0, 0, 0, 1, []), (12, 12, 5, 0, []), (0, 0, 0, (-1), []), (33, 0, 0, 0, []), (1, 0, 1, 0, []), (36, 136, 1, 0, [8]), (30, 0, 0, 0, []), (1, 0, 1, 0, []), (15, 8, 5, 0, []), (15, 2, 1, 0, []), (1, 1, 0, 0, []), (36, 92, 2, 0, [7]), (1, 0, 1, 0, []), (15, 8, 5, 0, []), (36, 14, 1, 0, [2]), (1, 2, 0, 0, []), (13, 29, 1, 0, []), (1, 0, 1, 0, []), (15, 8, 5, 0, []), (36, 19, 1, 0, [2]), (11, 33, 0, 0, []), (1, 0, 1, 0, []), (15, 8, 5, 0, []), (15, 2, 1, 0, []), (36, 82, 1, 0, [7]), (33, 0, 0, 0, [])]
def bp_128 : List Nat := [0, 1, 4, 5, 8, 11, 12, 15, 16, 17, 20, 21, 22, 23, 26, 27, 28, 31, 34, 35, 38, 39, 42, 45, 46, 49, 50, 53, 56, 59, 60, 63, 66, 69]
/-- ByInitials.keep.()I -/
def bc_129 : List Ins := [(1, 0, 1, 0, []), (15, 8, 4, 0, []), (36, 32, 1, 0, [4]), (13, 6, 0, 0, []), (0, 0, 0, (-3), []), (33, 0, 0, 0, []), (1, 0, 1, 0, []), (15, 8, 4, 0, []), (1, 0, 1, 0, []), (15, 8, 1, 0, []), (36, 33, 2, 0, [4]), (1, 0, 1, 0, []), (15, 8, 4, 0, []), (14, 4, 1, 0, []), (33, 0, 0, 0, [])]
def bp_129 : List Nat := [0, 1, 4, 7, 10, 12, 13, 14, 17, 18, 21, 24, 25, 28, 31]
/-- ByInitials.back.()I -/
def bc_130 : List Ins := [(1, 0, 1, 0, []), (15, 8, 4, 0, []), (1, 0, 1, 0, []), (15, 8, 1, 0, []), (36, 34, 2, 0, [4]), (13, 8, 1, 0, []), (0, 0, 0, (-2), []), (33, 0, 0, 0, []), (1, 0, 1, 0, []), (15, 8, 3, 0, []), (0, 0, 0, 0, []), (16, 4, 1, 0, []), (1, 0, 1, 0, []), (15, 8, 4, 0, []), (14, 4, 1, 0, []), (33, 0, 0, 0, [])]
def bp_130 : List Nat := [0, 1, 4, 5, 8, 11, 14, 16, 17, 18, 21, 22, 25, 26, 29, 32]
/-- ByInitials.count.(I)I -/
def bc_131 : List Ins := [(1, 1, 0, 0, []), (31, 45, 0, 0, [2, 6, 10, 14, 18, 21, 25, 29, 33, 37, 41]), (1, 0, 1, 0, []), (15, 8, 1, 0, []), (14, 7, 0, 0, []), (33, 0, 0, 0, []), (1, 0, 1, 0, []), (15, 8, 1, 0, []), (14, 7, 1, 0, []), (33, 0, 0, 0, []), (1, 0, 1, 0, []), (15, 8, 1, 0, []), (14, 7, 2, 0, []), (33, 0, 0, 0, []), (1, 0, 1, 0, []), (15, 8, 1, 0, []), (14, 7, 3, 0, []), (33, 0, 0, 0, []), (1, 0, 1, 0, []), (14, 8, 11, 0, []), (33, 0, 0, 0, []), (1, 0, 1, 0, []), (15, 8, 1, 0, []), (36, 85, 1, 0, [7]), (33, 0, 0, 0, []), (1, 0, 1, 0, []), (15, 8, 9, 0, []), (14, 1, 2, 0, []), (33, 0, 0, 0, []), (1, 0, 1, 0, []), (15, 8, 3, 0, []), (14, 4, 1, 0, []), (33, 0, 0, 0, []), (1, 0, 1, 0, []), (15, 8, 4, 0, []), (14, 4, 1, 0, []), (33, 0, 0, 0, []), (1, 0, 1, 0, []), (15, 8, 0, 0, []), (14, 5, 2, 0, []), (33, 0, 0, 0, []), (1, 0, 1, 0, []), (36, 136, 1, 0, [8]), (36, 19, 1, 0, [2]), (33, 0, 0, 0, []), (0, 0, 0, (-1), []), (33, 0, 0, 0, [])]
def bp_131 : List Nat := [0, 1, 60, 61, 64, 67, 68, 69, 72, 75, 76, 77, 80, 83, 84, 85, 88, 91, 92, 93, 96, 97, 98, 101, 104, 105, 106, 109, 112, 113, 114, 117, 120, 121, 122, 125, 128, 129, 130, 133, 136, 137, 138, 141, 144, 145, 146]
/-- ByInitials.isPerson.(I)Z -/
def bc_132 : List Ins := [(1, 1, 0, 0, []), (13, 9, 2, 0, []), (1, 1, 0, 0, []), (1, 0, 1, 0, []), (15, 8, 1, 0, []), (14, 7, 0, 0, []), (12, 9, 3, 0, []), (0, 0, 0, 1, []), (11, 10, 0, 0, []), (0, 0, 0, 0, []), (33, 1, 0, 0, [])]
def bp_132 : List Nat := [0, 1, 4, 5, 6, 9, 12, 15, 16, 19, 20]
/-- ByInitials.areTwo.(II)Z -/
def bc_133 : List Ins := [(1, 0, 1, 0, []), (1, 1, 0, 0, []), (36, 132, 2, 0, [8]), (13, 13, 0, 0, []), (1, 0, 1, 0, []), (1, 2, 0, 0, []), (36, 132, 2, 0, [8]), (13, 13, 0, 0, []), (1, 1, 0, 0, []), (1, 2, 0, 0, []), (12, 13, 0, 0, []), (0, 0, 0, 1, []), (11, 14, 0, 0, []), (0, 0, 0, 0, []), (33, 1, 0, 0, [])]
def bp_133 : List Nat := [0, 1, 2, 5, 8, 9, 10, 13, 16, 17, 18, 21, 22, 25, 26]
/-- ByInitials.isLetter.(I)Z -/
def bc_134 : List Ins := [(1, 0, 0, 0, []), (13, 7, 2, 0, []), (1, 0, 0, 0, []), (0, 0, 0, 26, []), (12, 7, 3, 0, []), (0, 0, 0, 1, []), (11, 8, 0, 0, []), (0, 0, 0, 0, []), (33, 1, 0, 0, [])]
def bp_134 : List Nat := [0, 1, 4, 5, 7, 10, 11, 14, 15]
/-- ByInitials.holds.(II)Z -/
def bc_135 : List Ins := [(1, 0, 0, 0, []), (1, 1, 0, 0, []), (3, 6, 0, 0, []), (0, 0, 0, 1, []), (3, 8, 0, 0, []), (0, 0, 0, 1, []), (12, 9, 1, 0, []), (0, 0, 0, 1, []), (11, 10, 0, 0, []), (0, 0, 0, 0, []), (33, 1, 0, 0, [])]
def bp_135 : List Nat := [0, 1, 2, 3, 4, 5, 6, 9, 10, 13, 14]
/-- ByInitials.lineNow.()LByInitials$Line; -/
def bc_136 : List Ins := [(1, 0, 1, 0, []), (15, 8, 5, 0, []), (1, 0, 1, 0, []), (15, 8, 1, 0, []), (36, 13, 2, 0, [2]), (1, 0, 1, 0, []), (15, 8, 5, 0, []), (35, 0, 0, 0, [])]
def bp_136 : List Nat := [0, 1, 4, 5, 8, 11, 12, 15]
/-- ByInitials.priceOfWord.(I)I -/
def bc_137 : List Ins := [(0, 0, 0, 0, []), (2, 2, 0, 0, []), (0, 0, 0, 0, []), (2, 3, 0, 0, []), (1, 3, 0, 0, []), (0, 0, 0, 6, []), (12, 28, 3, 0, []), (1, 3, 0, 0, []), (1, 0, 1, 0, []), (14, 8, 11, 0, []), (12, 16, 3, 0, []), (1, 0, 1, 0, []), (15, 8, 10, 0, []), (1, 3, 0, 0, []), (18, 0, 0, 0, []), (11, 17, 0, 0, []), (0, 0, 0, (-4), []), (2, 4, 0, 0, []), (1, 4, 0, 0, []), (1, 0, 1, 0, []), (15, 8, 1, 0, []), (1, 1, 0, 0, []), (1, 3, 0, 0, []), (36, 75, 3, 0, [7]), (12, 26, 0, 0, []), (10, 2, 0, 1, []), (10, 3, 0, 1, []), (11, 4, 0, 0, []), (1, 2, 0, 0, []), (1, 0, 1, 0, []), (15, 8, 1, 0, []), (14, 7, 3, 0, []), (3, 2, 0, 0, []), (33, 0, 0, 0, [])]
def bp_137 : List Nat := [0, 1, 2, 3, 4, 5, 7, 10, 11, 12, 15, 18, 19, 22, 23, 24, 27, 29, 31, 33, 34, 37, 38, 39, 42, 45, 48, 51, 54, 55, 56, 59, 62, 63]
/-- ByInitials.firstWithRights.(IIII)I -/
def bc_138 : List Ins := [(1, 0, 1, 0, []), (36, 136, 1, 0, [8]), (30, 0, 0, 0, []), (0, 0, 0, 0, []), (2, 5, 0, 0, []), (1, 5, 0, 0, []), (0, 0, 0, 26, []), (12, 78, 3, 0, []), (1, 0, 1, 0, []), (15, 8, 1, 0, []), (15, 7, 13, 0, []), (1, 5, 0, 0, []), (18, 0, 0, 0, []), (2, 6, 0, 0, []), (1, 2, 0, 0, []), (0, 0, 0, 1, []), (3, 8, 0, 0, []), (13, 23, 0, 0, []), (1, 0, 1, 0, []), (15, 8, 1, 0, []), (1, 6, 0, 0, []), (36, 73, 2, 0, [7]), (13, 25, 0, 0, []), (0, 0, 0, 1, []), (11, 26, 0, 0, []), (0, 0, 0, 0, []), (2, 7, 0, 0, []), (1, 2, 0, 0, []), (0, 0, 0, 2, []), (3, 8, 0, 0, []), (13, 44, 0, 0, []), (1, 1, 0, 0, []), (1, 3, 0, 0, []), (12, 46, 0, 0, []), (1, 0, 1, 0, []), (15, 8, 5, 0, []), (1, 3, 0, 0, []), (1, 1, 0, 0, []), (1, 0, 1, 0, []), (15, 8, 1, 0, []), (1, 6, 0, 0, []), (36, 80, 2, 0, [7]), (36, 15, 4, 0, [2]), (13, 46, 0, 0, []), (0, 0, 0, 1, []), (11, 47, 0, 0, []), (0, 0, 0, 0, []), (2, 8, 0, 0, []), (1, 2, 0, 0, []), (0, 0, 0, 4, []), (3, 8, 0, 0, []), (13, 64, 0, 0, []), (1, 0, 1, 0, []), (15, 8, 1, 0, []), (1, 6, 0, 0, []), (1, 0, 1, 0, []), (15, 8, 1, 0, []), (1, 4, 0, 0, []), (36, 76, 2, 0, [7]), (1, 0, 1, 0, []), (15, 8, 1, 0, []), (14, 7, 2, 0, []), (36, 83, 4, 0, [7]), (13, 66, 0, 0, []), (0, 0, 0, 1, []), (11, 67, 0, 0, []), (0, 0, 0, 0, []), (2, 9, 0, 0, []), (1, 7, 0, 0, []), (13, 76, 0, 0, []), (1, 8, 0, 0, []), (13, 76, 0, 0, []), (1, 9, 0, 0, []), (13, 76, 0, 0, []), (1, 6, 0, 0, []), (33, 0, 0, 0, []), (10, 5, 0, 1, []), (11, 5, 0, 0, []), (0, 0, 0, (-4), []), (33, 0, 0, 0, [])]
def bp_138 : List Nat := [0, 1, 4, 5, 6, 8, 10, 12, 15, 16, 19, 22, 24, 25, 27, 28, 29, 30, 33, 34, 37, 39, 42, 45, 46, 49, 50, 52, 53, 54, 55, 58, 59, 60, 63, 64, 67, 68, 69, 70, 73, 75, 78, 81, 84, 85, 88, 89, 91, 92, 93, 94, 97, 98, 101, 103, 104, 107, 109, 112, 113, 116, 119, 122, 125, 126, 129, 130, 132, 134, 137, 139, 142, 144, 147, 149, 150, 153, 156, 158]
/-- ByInitialsModel.<init>.()V -/
def bc_139 : List Ins := [(1, 0, 1, 0, []), (37, 0, 0, 0, []), (1, 0, 1, 0, []), (0, 0, 0, 200, []), (26, 1, 0, 0, []), (17, 9, 1, 0, []), (1, 0, 1, 0, []), (0, 0, 0, 12, []), (26, 0, 0, 0, []), (17, 9, 3, 0, []), (1, 0, 1, 0, []), (0, 0, 0, 16, []), (26, 0, 0, 0, []), (17, 9, 4, 0, []), (1, 0, 1, 0, []), (0, 0, 0, 56, []), (26, 0, 0, 0, []), (17, 9, 5, 0, []), (1, 0, 1, 0, []), (0, 0, 0, 8, []), (26, 0, 0, 0, []), (17, 9, 6, 0, []), (1, 0, 1, 0, []), (0, 0, 0, 26, []), (26, 0, 0, 0, []), (17, 9, 7, 0, []), (1, 0, 1, 0, []), (0, 0, 0, 24, []), (26, 0, 0, 0, []), (17, 9, 8, 0, []), (1, 0, 1, 0, []), (0, 0, 0, 2040, []), (26, 0, 0, 0, []), (17, 9, 9, 0, []), (1, 0, 1, 0, []), (0, 0, 0, 6, []), (26, 0, 0, 0, []), (17, 9, 13, 0, []), (1, 0, 1, 0, []), (0, 0, 0, 16, []), (26, 0, 0, 0, []), (17, 9, 15, 0, []), (1, 0, 1, 0, []), (0, 0, 0, 8, []), (26, 0, 0, 0, []), (17, 9, 16, 0, []), (1, 0, 1, 0, []), (0, 0, 0, 8, []), (26, 0, 0, 0, []), (17, 9, 17, 0, []), (1, 0, 1, 0, []), (0, 0, 0, 8, []), (26, 0, 0, 0, []), (17, 9, 18, 0, []), (1, 0, 1, 0, []), (0, 0, 0, 256, []), (26, 0, 0, 0, []), (17, 9, 19, 0, []), (1, 0, 1, 0, []), (0, 0, 0, 2, []), (26, 0, 0, 0, []), (17, 9, 21, 0, []), (1, 0, 1, 0, []), (0, 0, 0, 6, []), (26, 0, 0, 0, []), (17, 9, 22, 0, []), (1, 0, 1, 0, []), (36, 152, 1, 0, [9]), (1, 0, 1, 0, []), (0, 0, 0, 4, []), (0, 0, 0, 0, []), (0, 0, 0, 3, []), (0, 0, 0, 0, []), (0, 0, 0, 12, []), (0, 0, 0, 0, []), (36, 141, 7, 0, [9]), (1, 0, 1, 0, []), (0, 0, 0, 5, []), (0, 0, 0, 9, []), (36, 142, 3, 0, [9]), (1, 0, 1, 0, []), (0, 0, 0, 5, []), (0, 0, 0, 16, []), (0, 0, 0, 20, []), (0, 0, 0, 8, []), (0, 0, 0, 13, []), (0, 0, 0, 13, []), (36, 141, 7, 0, [9]), (1, 0, 1, 0, []), (0, 0, 0, 9, []), (0, 0, 0, 5, []), (36, 142, 3, 0, [9]), (1, 0, 1, 0, []), (0, 0, 0, 3, []), (0, 0, 0, 25, []), (0, 0, 0, 14, []), (0, 0, 0, 4, []), (0, 0, 0, 0, []), (0, 0, 0, 0, []), (36, 141, 7, 0, [9]), (1, 0, 1, 0, []), (0, 0, 0, 8, []), (0, 0, 0, 30, []), (36, 142, 3, 0, [9]), (1, 0, 1, 0, []), (0, 0, 0, 0, []), (0, 0, 0, 0, []), (0, 0, 0, 0, []), (0, 0, 0, 0, []), (0, 0, 0, 0, []), (0, 0, 0, 0, []), (36, 141, 7, 0, [9]), (1, 0, 1, 0, []), (0, 0, 0, 3, []), (0, 0, 0, 0, []), (36, 142, 3, 0, [9]), (1, 0, 1, 0, []), (15, 9, 8, 0, []), (0, 0, 0, 12, []), (0, 0, 0, 0, []), (19, 0, 0, 0, []), (1, 0, 1, 0, []), (15, 9, 8, 0, []), (0, 0, 0, 13, []), (0, 0, 0, 16, []), (19, 0, 0, 0, []), (1, 0, 1, 0, []), (15, 9, 3, 0, []), (0, 0, 0, 10, []), (0, 0, 0, 1, []), (19, 0, 0, 0, []), (1, 0, 1, 0, []), (36, 153, 1, 0, [9]), (34, 0, 0, 0, [])]
def bp_139 : List Nat := [0, 1, 4, 5, 8, 10, 13, 14, 16, 18, 21, 22, 24, 26, 29, 30, 32, 34, 37, 38, 40, 42, 45, 46, 48, 50, 53, 54, 56, 58, 61, 62, 65, 67, 70, 71, 73, 75, 78, 79, 81, 83, 86, 87, 89, 91, 94, 95, 97, 99, 102, 103, 105, 107, 110, 111, 114, 116, 119, 120, 121, 123, 126, 127, 129, 131, 134, 135, 138, 139, 140, 141, 142, 143, 145, 146, 149, 150, 151, 153, 156, 157, 158, 160, 162, 164, 166, 168, 171, 172, 174, 175, 178, 179, 180, 182, 184, 185, 186, 187, 190, 191, 193, 195, 198, 199, 200, 201, 202, 203, 204, 205, 208, 209, 210, 211, 214, 215, 218, 220, 221, 222, 223, 226, 228, 230, 231, 232, 235, 237, 238, 239, 240, 243]
/-- ByInitialsModel.in.(JJJ)Z -/
def bc_140 : List Ins := [(1, 0, 2, 0, []), (1, 2, 2, 0, []), (8, 0, 0, 0, []), (13, 10, 2, 0, []), (1, 0, 2, 0, []), (1, 4, 2, 0, []), (8, 0, 0, 0, []), (13, 10, 4, 0, []), (0, 0, 0, 1, []), (11, 11, 0, 0, []), (0, 0, 0, 0, []), (33, 1, 0, 0, [])]
def bp_140 : List Nat := [0, 1, 2, 3, 6, 7, 9, 10, 13, 14, 17, 18]
/-- ByInitialsModel.spelled.(IIIIII)V -/
def bc_141 : List Ins := [(1, 0, 1, 0, []), (1, 1, 0, 0, []), (16, 9, 23, 0, []), (1, 0, 1, 0, []), (15, 9, 22, 0, []), (0, 0, 0, 0, []), (1, 2, 0, 0, []), (19, 0, 0, 0, []), (1, 0, 1, 0, []), (15, 9, 22, 0, []), (0, 0, 0, 1, []), (1, 3, 0, 0, []), (19, 0, 0, 0, []), (1, 0, 1, 0, []), (15, 9, 22, 0, []), (0, 0, 0, 2, []), (1, 4, 0, 0, []), (19, 0, 0, 0, []), (1, 0, 1, 0, []), (15, 9, 22, 0, []), (0, 0, 0, 3, []), (1, 5, 0, 0, []), (19, 0, 0, 0, []), (1, 0, 1, 0, []), (15, 9, 22, 0, []), (0, 0, 0, 4, []), (1, 6, 0, 0, []), (19, 0, 0, 0, []), (34, 0, 0, 0, [])]
def bp_141 : List Nat := [0, 1, 2, 5, 6, 9, 10, 11, 12, 13, 16, 17, 18, 19, 20, 23, 24, 26, 27, 28, 31, 32, 34, 35, 36, 39, 40, 42, 43]
/-- ByInitialsModel.puts.(II)V -/
def bc_142 : List Ins := [(1, 0, 1, 0, []), (15, 9, 21, 0, []), (0, 0, 0, 0, []), (1, 1, 0, 0, []), (19, 0, 0, 0, []), (1, 0, 1, 0, []), (15, 9, 21, 0, []), (0, 0, 0, 1, []), (1, 2, 0, 0, []), (19, 0, 0, 0, []), (1, 0, 1, 0, []), (36, 150, 1, 0, [9]), (2, 3, 0, 0, []), (1, 0, 1, 0, []), (15, 9, 3, 0, []), (0, 0, 0, 11, []), (29, 0, 0, 0, []), (18, 0, 0, 0, []), (1, 3, 0, 0, []), (13, 22, 0, 0, []), (0, 0, 0, 0, []), (11, 23, 0, 0, []), (0, 0, 0, 1, []), (3, 0, 0, 0, []), (19, 0, 0, 0, []), (34, 0, 0, 0, [])]
def bp_142 : List Nat := [0, 1, 4, 5, 6, 7, 8, 11, 12, 13, 14, 15, 18, 19, 20, 23, 25, 26, 27, 28, 31, 32, 35, 36, 37, 38]
/-- ByInitialsModel.write.(I)I -/
def bc_143 : List Ins := [(1, 1, 0, 0, []), (5, 0, 0, 0, []), (9, 0, 0, 32, []), (9, 0, 0, 126, []), (36, 140, 3, 1, []), (13, 8, 1, 0, []), (0, 0, 0, (-1), []), (33, 0, 0, 0, []), (1, 0, 1, 0, []), (14, 9, 0, 0, []), (0, 0, 0, 200, []), (12, 14, 1, 0, []), (0, 0, 0, (-3), []), (33, 0, 0, 0, []), (1, 0, 1, 0, []), (15, 9, 1, 0, []), (1, 0, 1, 0, []), (14, 9, 0, 0, []), (1, 1, 0, 0, []), (4, 1, 0, 0, []), (21, 0, 0, 0, []), (1, 0, 1, 0, []), (28, 0, 0, 0, []), (14, 9, 0, 0, []), (0, 0, 0, 1, []), (3, 0, 0, 0, []), (16, 9, 0, 0, []), (1, 0, 1, 0, []), (14, 9, 0, 0, []), (33, 0, 0, 0, [])]
def bp_143 : List Nat := [0, 1, 2, 5, 8, 11, 14, 15, 16, 17, 20, 23, 26, 28, 29, 30, 33, 34, 37, 38, 39, 40, 41, 42, 45, 46, 47, 50, 51, 54]
/-- ByInitialsModel.wipe.()I -/
def bc_144 : List Ins := [(1, 0, 1, 0, []), (14, 9, 0, 0, []), (2, 1, 0, 0, []), (1, 0, 1, 0, []), (0, 0, 0, 0, []), (16, 9, 0, 0, []), (1, 1, 0, 0, []), (33, 0, 0, 0, [])]
def bp_144 : List Nat := [0, 1, 4, 5, 6, 7, 10, 11]
/-- ByInitialsModel.number.()I -/
def bc_145 : List Ins := [(0, 0, 0, 0, []), (2, 1, 0, 0, []), (0, 0, 0, 0, []), (2, 2, 0, 0, []), (1, 0, 1, 0, []), (14, 9, 2, 0, []), (1, 0, 1, 0, []), (14, 9, 0, 0, []), (12, 44, 3, 0, []), (1, 0, 1, 0, []), (15, 9, 1, 0, []), (1, 0, 1, 0, []), (14, 9, 2, 0, []), (20, 0, 0, 0, []), (5, 0, 0, 0, []), (9, 0, 0, 48, []), (9, 0, 0, 57, []), (36, 140, 3, 1, []), (13, 44, 0, 0, []), (1, 2, 0, 0, []), (0, 0, 0, 2, []), (12, 34, 3, 0, []), (0, 0, 0, 10, []), (1, 1, 0, 0, []), (3, 2, 0, 0, []), (1, 0, 1, 0, []), (15, 9, 1, 0, []), (1, 0, 1, 0, []), (14, 9, 2, 0, []), (20, 0, 0, 0, []), (3, 0, 0, 0, []), (0, 0, 0, 48, []), (3, 1, 0, 0, []), (11, 35, 0, 0, []), (1, 1, 0, 0, []), (2, 1, 0, 0, []), (10, 2, 0, 1, []), (1, 0, 1, 0, []), (28, 0, 0, 0, []), (14, 9, 2, 0, []), (0, 0, 0, 1, []), (3, 0, 0, 0, []), (16, 9, 2, 0, []), (11, 4, 0, 0, []), (1, 2, 0, 0, []), (5, 0, 0, 0, []), (9, 0, 0, 1, []), (9, 0, 0, 2, []), (36, 140, 3, 1, []), (13, 52, 0, 0, []), (1, 1, 0, 0, []), (11, 53, 0, 0, []), (0, 0, 0, (-1), []), (33, 0, 0, 0, [])]
def bp_145 : List Nat := [0, 1, 2, 3, 4, 5, 8, 9, 12, 15, 16, 19, 20, 23, 24, 25, 28, 31, 34, 37, 38, 39, 42, 44, 45, 46, 47, 50, 51, 54, 55, 56, 58, 59, 62, 63, 64, 67, 68, 69, 72, 73, 74, 77, 80, 81, 82, 83, 86, 89, 92, 93, 96, 97]
/-- ByInitialsModel.isSpelt.()Z -/
def bc_146 : List Ins := [(1, 0, 1, 0, []), (0, 0, 0, 0, []), (16, 9, 23, 0, []), (1, 0, 1, 0, []), (14, 9, 2, 0, []), (1, 0, 1, 0, []), (14, 9, 0, 0, []), (12, 47, 3, 0, []), (1, 0, 1, 0, []), (15, 9, 1, 0, []), (1, 0, 1, 0, []), (14, 9, 2, 0, []), (20, 0, 0, 0, []), (5, 0, 0, 0, []), (9, 0, 0, 97, []), (9, 0, 0, 122, []), (36, 140, 3, 1, []), (13, 47, 0, 0, []), (1, 0, 1, 0, []), (14, 9, 23, 0, []), (0, 0, 0, 6, []), (12, 34, 3, 0, []), (1, 0, 1, 0, []), (15, 9, 22, 0, []), (1, 0, 1, 0, []), (14, 9, 23, 0, []), (1, 0, 1, 0, []), (15, 9, 1, 0, []), (1, 0, 1, 0, []), (14, 9, 2, 0, []), (20, 0, 0, 0, []), (0, 0, 0, 97, []), (3, 1, 0, 0, []), (19, 0, 0, 0, []), (1, 0, 1, 0, []), (28, 0, 0, 0, []), (14, 9, 23, 0, []), (0, 0, 0, 1, []), (3, 0, 0, 0, []), (16, 9, 23, 0, []), (1, 0, 1, 0, []), (28, 0, 0, 0, []), (14, 9, 2, 0, []), (0, 0, 0, 1, []), (3, 0, 0, 0, []), (16, 9, 2, 0, []), (11, 3, 0, 0, []), (1, 0, 1, 0, []), (14, 9, 23, 0, []), (0, 0, 0, 7, []), (12, 53, 3, 0, []), (0, 0, 0, 1, []), (11, 54, 0, 0, []), (0, 0, 0, 0, []), (33, 1, 0, 0, [])]
def bp_146 : List Nat := [0, 1, 2, 5, 6, 9, 10, 13, 16, 17, 20, 21, 24, 25, 26, 29, 32, 35, 38, 39, 42, 44, 47, 48, 51, 52, 55, 56, 59, 60, 63, 64, 66, 67, 68, 69, 70, 73, 74, 75, 78, 79, 80, 83, 84, 85, 88, 91, 92, 95, 97, 100, 101, 104, 105]
/-- ByInitialsModel.isMore.(I)Z -/
def bc_147 : List Ins := [(1, 0, 1, 0, []), (14, 9, 2, 0, []), (1, 0, 1, 0, []), (14, 9, 0, 0, []), (12, 12, 0, 0, []), (1, 0, 1, 0, []), (15, 9, 1, 0, []), (1, 0, 1, 0, []), (14, 9, 2, 0, []), (20, 0, 0, 0, []), (0, 0, 0, 44, []), (12, 14, 0, 0, []), (0, 0, 0, 0, []), (33, 1, 0, 0, []), (1, 0, 1, 0, []), (28, 0, 0, 0, []), (14, 9, 2, 0, []), (0, 0, 0, 1, []), (3, 0, 0, 0, []), (16, 9, 2, 0, []), (1, 0, 1, 0, []), (15, 9, 21, 0, []), (1, 1, 0, 0, []), (1, 0, 1, 0, []), (36, 145, 1, 0, [9]), (19, 0, 0, 0, []), (1, 0, 1, 0, []), (15, 9, 21, 0, []), (1, 1, 0, 0, []), (18, 0, 0, 0, []), (13, 33, 2, 0, []), (0, 0, 0, 1, []), (11, 34, 0, 0, []), (0, 0, 0, 0, []), (33, 1, 0, 0, [])]
def bp_147 : List Nat := [0, 1, 4, 5, 8, 11, 12, 15, 16, 19, 20, 22, 25, 26, 27, 28, 29, 32, 33, 34, 37, 38, 41, 42, 43, 46, 47, 48, 51, 52, 53, 56, 57, 60, 61]
/-- ByInitialsModel.isItem.()Z -/
def bc_148 : List Ins := [(1, 0, 1, 0, []), (15, 9, 1, 0, []), (1, 0, 1, 0, []), (14, 9, 2, 0, []), (20, 0, 0, 0, []), (2, 1, 0, 0, []), (1, 0, 1, 0, []), (28, 0, 0, 0, []), (14, 9, 2, 0, []), (0, 0, 0, 1, []), (3, 0, 0, 0, []), (16, 9, 2, 0, []), (1, 1, 0, 0, []), (0, 0, 0, 110, []), (12, 31, 1, 0, []), (1, 0, 1, 0, []), (36, 146, 1, 0, [9]), (13, 28, 0, 0, []), (1, 0, 1, 0, []), (0, 0, 0, 0, []), (36, 147, 2, 0, [9]), (13, 28, 0, 0, []), (1, 0, 1, 0, []), (0, 0, 0, 1, []), (36, 147, 2, 0, [9]), (13, 28, 0, 0, []), (0, 0, 0, 1, []), (11, 29, 0, 0, []), (0, 0, 0, 0, []), (2, 2, 0, 0, []), (11, 77, 0, 0, []), (1, 1, 0, 0, []), (0, 0, 0, 111, []), (12, 40, 0, 0, []), (1, 1, 0, 0, []), (0, 0, 0, 118, []), (12, 40, 0, 0, []), (1, 1, 0, 0, []), (0, 0, 0, 113, []), (12, 51, 1, 0, []), (1, 0, 1, 0, []), (36, 146, 1, 0, [9]), (13, 48, 0, 0, []), (1, 0, 1, 0, []), (14, 9, 23, 0, []), (13, 48, 5, 0, []), (0, 0, 0, 1, []), (11, 49, 0, 0, []), (0, 0, 0, 0, []), (2, 2, 0, 0, []), (11, 77, 0, 0, []), (1, 0, 1, 0, []), (15, 9, 21, 0, []), (0, 0, 0, 0, []), (1, 1, 0, 0, []), (0, 0, 0, 103, []), (12, 63, 0, 0, []), (1, 1, 0, 0, []), (0, 0, 0, 119, []), (12, 63, 0, 0, []), (1, 1, 0, 0, []), (0, 0, 0, 99, []), (12, 66, 1, 0, []), (1, 0, 1, 0, []), (36, 145, 1, 0, [9]), (11, 67, 0, 0, []), (0, 0, 0, (-1), []), (19, 0, 0, 0, []), (1, 0, 1, 0, []), (15, 9, 21, 0, []), (0, 0, 0, 0, []), (18, 0, 0, 0, []), (13, 75, 2, 0, []), (0, 0, 0, 1, []), (11, 76, 0, 0, []), (0, 0, 0, 0, []), (2, 2, 0, 0, []), (1, 2, 0, 0, []), (13, 93, 0, 0, []), (1, 0, 1, 0, []), (14, 9, 2, 0, []), (1, 0, 1, 0, []), (14, 9, 0, 0, []), (12, 93, 3, 0, []), (1, 0, 1, 0, []), (15, 9, 1, 0, []), (1, 0, 1, 0, []), (14, 9, 2, 0, []), (20, 0, 0, 0, []), (0, 0, 0, 59, []), (12, 93, 1, 0, []), (0, 0, 0, 1, []), (11, 94, 0, 0, []), (0, 0, 0, 0, []), (2, 2, 0, 0, []), (1, 0, 1, 0, []), (28, 0, 0, 0, []), (14, 9, 2, 0, []), (0, 0, 0, 1, []), (3, 0, 0, 0, []), (16, 9, 2, 0, []), (1, 2, 0, 0, []), (13, 109, 0, 0, []), (1, 0, 1, 0, []), (1, 1, 0, 0, []), (36, 149, 2, 0, [9]), (13, 109, 0, 0, []), (0, 0, 0, 1, []), (11, 110, 0, 0, []), (0, 0, 0, 0, []), (33, 1, 0, 0, [])]
def bp_148 : List Nat := [0, 1, 4, 5, 8, 9, 10, 11, 12, 15, 16, 17, 20, 21, 23, 26, 27, 30, 33, 34, 35, 38, 41, 42, 43, 46, 49, 50, 53, 54, 55, 58, 59, 61, 64, 65, 67, 70, 71, 73, 76, 77, 80, 83, 84, 87, 90, 91, 94, 95, 96, 99, 100, 103, 104, 105, 107, 110, 111, 113, 116, 117, 119, 122, 123, 126, 129, 130, 131, 132, 135, 136, 137, 140, 141, 144, 145, 146, 147, 150, 151, 154, 155, 158, 161, 162, 165, 166, 169, 170, 172, 175, 176, 179, 180, 181, 182, 183, 186, 187, 188, 191, 192, 195, 196, 197, 200, 203, 204, 207, 208]
/-- ByInitialsModel.isGood.(I)Z -/
def bc_149 : List Ins := [(1, 1, 0, 0, []), (32, 98, 0, 0, [99, 49, 103, 21, 110, 2, 111, 95, 118, 67, 119, 31]), (1, 0, 1, 0, []), (15, 9, 21, 0, []), (0, 0, 0, 0, []), (18, 0, 0, 0, []), (0, 0, 0, 10, []), (12, 19, 3, 0, []), (1, 0, 1, 0, []), (15, 9, 3, 0, []), (0, 0, 0, 6, []), (18, 0, 0, 0, []), (0, 0, 0, 8, []), (12, 19, 3, 0, []), (1, 0, 1, 0, []), (36, 150, 1, 0, [9]), (13, 19, 0, 0, []), (0, 0, 0, 1, []), (11, 20, 0, 0, []), (0, 0, 0, 0, []), (33, 1, 0, 0, []), (1, 0, 1, 0, []), (15, 9, 3, 0, []), (0, 0, 0, 7, []), (1, 0, 1, 0, []), (15, 9, 21, 0, []), (0, 0, 0, 0, []), (18, 0, 0, 0, []), (19, 0, 0, 0, []), (0, 0, 0, 1, []), (33, 1, 0, 0, []), (1, 0, 1, 0, []), (15, 9, 3, 0, []), (0, 0, 0, 8, []), (1, 0, 1, 0, []), (15, 9, 21, 0, []), (0, 0, 0, 0, []), (18, 0, 0, 0, []), (19, 0, 0, 0, []), (1, 0, 1, 0, []), (15, 9, 21, 0, []), (0, 0, 0, 0, []), (18, 0, 0, 0, []), (0, 0, 0, 26, []), (12, 47, 3, 0, []), (0, 0, 0, 1, []), (11, 48, 0, 0, []), (0, 0, 0, 0, []), (33, 1, 0, 0, []), (1, 0, 1, 0, []), (15, 9, 3, 0, []), (0, 0, 0, 9, []), (1, 0, 1, 0, []), (15, 9, 21, 0, []), (0, 0, 0, 0, []), (18, 0, 0, 0, []), (19, 0, 0, 0, []), (1, 0, 1, 0, []), (15, 9, 21, 0, []), (0, 0, 0, 0, []), (18, 0, 0, 0, []), (0, 0, 0, 10, []), (12, 65, 3, 0, []), (0, 0, 0, 1, []), (11, 66, 0, 0, []), (0, 0, 0, 0, []), (33, 1, 0, 0, []), (1, 0, 1, 0, []), (15, 9, 3, 0, []), (0, 0, 0, 11, []), (0, 0, 0, 0, []), (19, 0, 0, 0, []), (0, 0, 0, 0, []), (2, 2, 0, 0, []), (1, 2, 0, 0, []), (1, 0, 1, 0, []), (14, 9, 23, 0, []), (12, 93, 3, 0, []), (1, 0, 1, 0, []), (15, 9, 3, 0, []), (0, 0, 0, 11, []), (29, 0, 0, 0, []), (18, 0, 0, 0, []), (0, 0, 0, 1, []), (1, 0, 1, 0, []), (15, 9, 22, 0, []), (1, 2, 0, 0, []), (18, 0, 0, 0, []), (3, 5, 0, 0, []), (3, 9, 0, 0, []), (19, 0, 0, 0, []), (10, 2, 0, 1, []), (11, 74, 0, 0, []), (0, 0, 0, 1, []), (33, 1, 0, 0, []), (1, 0, 1, 0, []), (36, 151, 1, 0, [9]), (33, 1, 0, 0, []), (1, 0, 1, 0, []), (14, 9, 23, 0, []), (0, 0, 0, 2, []), (12, 108, 1, 0, []), (1, 0, 1, 0, []), (15, 9, 3, 0, []), (0, 0, 0, 10, []), (18, 0, 0, 0, []), (0, 0, 0, 6, []), (12, 110, 1, 0, []), (0, 0, 0, 0, []), (33, 1, 0, 0, []), (1, 0, 1, 0, []), (15, 9, 8, 0, []), (0, 0, 0, 12, []), (0, 0, 0, 2, []), (1, 0, 1, 0, []), (15, 9, 3, 0, []), (0, 0, 0, 10, []), (18, 0, 0, 0, []), (3, 2, 0, 0, []), (3, 0, 0, 0, []), (1, 0, 1, 0, []), (15, 9, 22, 0, []), (0, 0, 0, 0, []), (18, 0, 0, 0, []), (19, 0, 0, 0, []), (1, 0, 1, 0, []), (15, 9, 8, 0, []), (0, 0, 0, 13, []), (0, 0, 0, 2, []), (1, 0, 1, 0, []), (15, 9, 3, 0, []), (0, 0, 0, 10, []), (18, 0, 0, 0, []), (3, 2, 0, 0, []), (3, 0, 0, 0, []), (1, 0, 1, 0, []), (15, 9, 22, 0, []), (0, 0, 0, 1, []), (18, 0, 0, 0, []), (19, 0, 0, 0, []), (1, 0, 1, 0, []), (15, 9, 3, 0, []), (0, 0, 0, 10, []), (29, 0, 0, 0, []), (18, 0, 0, 0, []), (0, 0, 0, 1, []), (3, 0, 0, 0, []), (19, 0, 0, 0, []), (0, 0, 0, 1, []), (33, 1, 0, 0, [])]
def bp_149 : List Nat := [0, 1, 60, 61, 64, 65, 66, 68, 71, 72, 75, 77, 78, 80, 83, 84, 87, 90, 91, 94, 95, 96, 97, 100, 102, 103, 106, 107, 108, 109, 110, 111, 112, 115, 117, 118, 121, 122, 123, 124, 125, 128, 129, 130, 132, 135, 136, 139, 140, 141, 142, 145, 147, 148, 151, 152, 153, 154, 155, 158, 159, 160, 162, 165, 166, 169, 170, 171, 172, 175, 177, 178, 179, 180, 181, 182, 183, 186, 189, 190, 193, 195, 196, 197, 198, 199, 202, 203, 204, 205, 206, 207, 210, 213, 214, 215, 216, 219, 220, 221, 224, 225, 228, 229, 232, 234, 235, 237, 240, 241, 242, 243, 246, 248, 249, 250, 253, 255, 256, 257, 258, 259, 262, 263, 264, 265, 266, 269, 271, 272, 273, 276, 278, 279, 280, 281, 282, 285, 286, 287, 288, 289, 292, 294, 295, 296, 297, 298, 299, 300]
/-- ByInitialsModel.isPersonPut.()Z -/
def bc_150 : List Ins := [(1, 0, 1, 0, []), (15, 9, 3, 0, []), (0, 0, 0, 6, []), (18, 0, 0, 0, []), (2, 1, 0, 0, []), (1, 0, 1, 0, []), (15, 9, 4, 0, []), (0, 0, 0, 8, []), (1, 1, 0, 0, []), (3, 0, 0, 0, []), (1, 0, 1, 0, []), (15, 9, 21, 0, []), (0, 0, 0, 0, []), (18, 0, 0, 0, []), (19, 0, 0, 0, []), (1, 0, 1, 0, []), (15, 9, 6, 0, []), (1, 1, 0, 0, []), (1, 0, 1, 0, []), (15, 9, 21, 0, []), (0, 0, 0, 1, []), (18, 0, 0, 0, []), (19, 0, 0, 0, []), (1, 0, 1, 0, []), (15, 9, 5, 0, []), (0, 0, 0, 7, []), (1, 1, 0, 0, []), (3, 2, 0, 0, []), (1, 0, 1, 0, []), (14, 9, 23, 0, []), (19, 0, 0, 0, []), (0, 0, 0, 0, []), (2, 2, 0, 0, []), (1, 2, 0, 0, []), (1, 0, 1, 0, []), (14, 9, 23, 0, []), (12, 53, 3, 0, []), (1, 0, 1, 0, []), (15, 9, 5, 0, []), (0, 0, 0, 7, []), (1, 1, 0, 0, []), (3, 2, 0, 0, []), (0, 0, 0, 1, []), (3, 0, 0, 0, []), (1, 2, 0, 0, []), (3, 0, 0, 0, []), (1, 0, 1, 0, []), (15, 9, 22, 0, []), (1, 2, 0, 0, []), (18, 0, 0, 0, []), (19, 0, 0, 0, []), (10, 2, 0, 1, []), (11, 33, 0, 0, []), (1, 0, 1, 0, []), (15, 9, 3, 0, []), (0, 0, 0, 6, []), (29, 0, 0, 0, []), (18, 0, 0, 0, []), (0, 0, 0, 1, []), (3, 0, 0, 0, []), (19, 0, 0, 0, []), (0, 0, 0, 1, []), (33, 1, 0, 0, [])]
def bp_150 : List Nat := [0, 1, 4, 6, 7, 8, 9, 12, 14, 15, 16, 17, 20, 21, 22, 23, 24, 27, 28, 29, 32, 33, 34, 35, 36, 39, 41, 42, 43, 44, 47, 48, 49, 50, 51, 52, 55, 58, 59, 62, 64, 65, 66, 67, 68, 69, 70, 71, 74, 75, 76, 77, 80, 83, 84, 87, 89, 90, 91, 92, 93, 94, 95]
/-- ByInitialsModel.isOrderPut.()Z -/
def bc_151 : List Ins := [(0, 0, 0, 0, []), (2, 1, 0, 0, []), (0, 0, 0, 0, []), (2, 2, 0, 0, []), (1, 2, 0, 0, []), (1, 0, 1, 0, []), (14, 9, 23, 0, []), (12, 39, 3, 0, []), (1, 1, 0, 0, []), (1, 0, 1, 0, []), (15, 9, 22, 0, []), (1, 2, 0, 0, []), (18, 0, 0, 0, []), (3, 6, 0, 0, []), (0, 0, 0, 1, []), (3, 8, 0, 0, []), (0, 0, 0, 1, []), (12, 20, 1, 0, []), (0, 0, 0, 0, []), (33, 1, 0, 0, []), (1, 1, 0, 0, []), (0, 0, 0, 1, []), (1, 0, 1, 0, []), (15, 9, 22, 0, []), (1, 2, 0, 0, []), (18, 0, 0, 0, []), (3, 5, 0, 0, []), (3, 9, 0, 0, []), (2, 1, 0, 0, []), (1, 0, 1, 0, []), (15, 9, 7, 0, []), (1, 0, 1, 0, []), (15, 9, 22, 0, []), (1, 2, 0, 0, []), (18, 0, 0, 0, []), (1, 2, 0, 0, []), (19, 0, 0, 0, []), (10, 2, 0, 1, []), (11, 4, 0, 0, []), (1, 0, 1, 0, []), (14, 9, 23, 0, []), (2, 2, 0, 0, []), (0, 0, 0, 0, []), (2, 3, 0, 0, []), (1, 3, 0, 0, []), (0, 0, 0, 26, []), (12, 61, 3, 0, []), (1, 1, 0, 0, []), (1, 3, 0, 0, []), (3, 6, 0, 0, []), (0, 0, 0, 1, []), (3, 8, 0, 0, []), (13, 59, 1, 0, []), (1, 0, 1, 0, []), (15, 9, 7, 0, []), (1, 3, 0, 0, []), (1, 2, 0, 0, []), (19, 0, 0, 0, []), (10, 2, 0, 1, []), (10, 3, 0, 1, []), (11, 44, 0, 0, []), (0, 0, 0, 1, []), (33, 1, 0, 0, [])]
def bp_151 : List Nat := [0, 1, 2, 3, 4, 5, 6, 9, 12, 13, 14, 17, 18, 19, 20, 21, 22, 23, 26, 27, 28, 29, 30, 31, 34, 35, 36, 37, 38, 39, 40, 43, 44, 47, 48, 49, 50, 51, 54, 57, 58, 61, 62, 63, 64, 65, 67, 70, 71, 72, 73, 74, 75, 78, 79, 82, 83, 84, 85, 88, 91, 94, 95]
/-- ByInitialsModel.begins.()V -/
def bc_152 : List Ins := [(1, 0, 1, 0, []), (15, 9, 3, 0, []), (0, 0, 0, 6, []), (0, 0, 0, 0, []), (19, 0, 0, 0, []), (1, 0, 1, 0, []), (15, 9, 3, 0, []), (0, 0, 0, 7, []), (0, 0, 0, 20, []), (19, 0, 0, 0, []), (1, 0, 1, 0, []), (15, 9, 3, 0, []), (0, 0, 0, 8, []), (0, 0, 0, 3, []), (19, 0, 0, 0, []), (1, 0, 1, 0, []), (15, 9, 3, 0, []), (0, 0, 0, 9, []), (0, 0, 0, 1, []), (19, 0, 0, 0, []), (1, 0, 1, 0, []), (15, 9, 3, 0, []), (0, 0, 0, 10, []), (0, 0, 0, 0, []), (19, 0, 0, 0, []), (1, 0, 1, 0, []), (15, 9, 3, 0, []), (0, 0, 0, 11, []), (0, 0, 0, 1065233, []), (19, 0, 0, 0, []), (0, 0, 0, 0, []), (2, 1, 0, 0, []), (1, 1, 0, 0, []), (0, 0, 0, 26, []), (12, 42, 3, 0, []), (1, 0, 1, 0, []), (15, 9, 7, 0, []), (1, 1, 0, 0, []), (1, 1, 0, 0, []), (19, 0, 0, 0, []), (10, 1, 0, 1, []), (11, 32, 0, 0, []), (34, 0, 0, 0, [])]
def bp_152 : List Nat := [0, 1, 4, 6, 7, 8, 9, 12, 14, 16, 17, 18, 21, 23, 24, 25, 26, 29, 31, 32, 33, 34, 37, 39, 40, 41, 42, 45, 47, 49, 50, 51, 52, 53, 55, 58, 59, 62, 63, 64, 65, 68, 71]
/-- ByInitialsModel.takes.()V -/
def bc_153 : List Ins := [(0, 0, 0, 0, []), (2, 1, 0, 0, []), (1, 1, 0, 0, []), (0, 0, 0, 6, []), (12, 17, 3, 0, []), (1, 0, 1, 0, []), (15, 9, 3, 0, []), (1, 1, 0, 0, []), (1, 0, 1, 0, []), (15, 9, 3, 0, []), (0, 0, 0, 6, []), (1, 1, 0, 0, []), (3, 0, 0, 0, []), (18, 0, 0, 0, []), (19, 0, 0, 0, []), (10, 1, 0, 1, []), (11, 2, 0, 0, []), (0, 0, 0, 0, []), (2, 1, 0, 0, []), (1, 1, 0, 0, []), (0, 0, 0, 12, []), (12, 47, 3, 0, []), (1, 0, 1, 0, []), (15, 9, 8, 0, []), (1, 1, 0, 0, []), (1, 0, 1, 0, []), (15, 9, 8, 0, []), (0, 0, 0, 12, []), (1, 1, 0, 0, []), (3, 0, 0, 0, []), (18, 0, 0, 0, []), (19, 0, 0, 0, []), (1, 1, 0, 0, []), (0, 0, 0, 8, []), (12, 45, 3, 0, []), (1, 0, 1, 0, []), (15, 9, 4, 0, []), (1, 1, 0, 0, []), (1, 0, 1, 0, []), (15, 9, 4, 0, []), (0, 0, 0, 8, []), (1, 1, 0, 0, []), (3, 0, 0, 0, []), (18, 0, 0, 0, []), (19, 0, 0, 0, []), (10, 1, 0, 1, []), (11, 19, 0, 0, []), (0, 0, 0, 0, []), (2, 1, 0, 0, []), (1, 1, 0, 0, []), (0, 0, 0, 170, []), (12, 59, 3, 0, []), (1, 0, 1, 0, []), (15, 9, 9, 0, []), (1, 1, 0, 0, []), (0, 0, 0, 0, []), (19, 0, 0, 0, []), (10, 1, 0, 1, []), (11, 49, 0, 0, []), (0, 0, 0, 0, []), (2, 1, 0, 0, []), (1, 1, 0, 0, []), (1, 0, 1, 0, []), (15, 9, 3, 0, []), (0, 0, 0, 0, []), (18, 0, 0, 0, []), (12, 119, 3, 0, []), (1, 0, 1, 0, []), (15, 9, 9, 0, []), (1, 1, 0, 0, []), (1, 0, 1, 0, []), (15, 9, 5, 0, []), (0, 0, 0, 7, []), (1, 1, 0, 0, []), (3, 2, 0, 0, []), (18, 0, 0, 0, []), (19, 0, 0, 0, []), (1, 0, 1, 0, []), (15, 9, 9, 0, []), (0, 0, 0, 56, []), (1, 1, 0, 0, []), (3, 0, 0, 0, []), (1, 0, 1, 0, []), (15, 9, 6, 0, []), (1, 1, 0, 0, []), (18, 0, 0, 0, []), (19, 0, 0, 0, []), (0, 0, 0, 0, []), (2, 2, 0, 0, []), (1, 2, 0, 0, []), (1, 0, 1, 0, []), (15, 9, 9, 0, []), (1, 1, 0, 0, []), (18, 0, 0, 0, []), (12, 117, 3, 0, []), (1, 0, 1, 0, []), (15, 9, 9, 0, []), (0, 0, 0, 8, []), (0, 0, 0, 6, []), (1, 1, 0, 0, []), (3, 2, 0, 0, []), (3, 0, 0, 0, []), (1, 2, 0, 0, []), (3, 0, 0, 0, []), (1, 0, 1, 0, []), (15, 9, 5, 0, []), (0, 0, 0, 7, []), (1, 1, 0, 0, []), (3, 2, 0, 0, []), (0, 0, 0, 1, []), (3, 0, 0, 0, []), (1, 2, 0, 0, []), (3, 0, 0, 0, []), (18, 0, 0, 0, []), (19, 0, 0, 0, []), (10, 2, 0, 1, []), (11, 89, 0, 0, []), (10, 1, 0, 1, []), (11, 61, 0, 0, []), (0, 0, 0, 0, []), (2, 1, 0, 0, []), (1, 1, 0, 0, []), (0, 0, 0, 26, []), (12, 136, 3, 0, []), (1, 0, 1, 0, []), (15, 9, 9, 0, []), (0, 0, 0, 144, []), (1, 1, 0, 0, []), (3, 0, 0, 0, []), (1, 0, 1, 0, []), (15, 9, 7, 0, []), (1, 1, 0, 0, []), (18, 0, 0, 0, []), (19, 0, 0, 0, []), (10, 1, 0, 1, []), (11, 121, 0, 0, []), (1, 0, 1, 0, []), (0, 0, 0, 0, []), (16, 9, 12, 0, []), (1, 0, 1, 0, []), (0, 0, 0, 0, []), (16, 9, 14, 0, []), (1, 0, 1, 0, []), (0, 0, 0, 0, []), (16, 9, 11, 0, []), (1, 0, 1, 0, []), (0, 0, 0, 0, []), (16, 9, 10, 0, []), (34, 0, 0, 0, [])]
def bp_153 : List Nat := [0, 1, 2, 3, 5, 8, 9, 12, 13, 14, 17, 19, 20, 21, 22, 23, 26, 29, 30, 31, 32, 34, 37, 38, 41, 42, 43, 46, 48, 49, 50, 51, 52, 53, 55, 58, 59, 62, 63, 64, 67, 69, 70, 71, 72, 73, 76, 79, 80, 81, 82, 85, 88, 89, 92, 93, 94, 95, 98, 101, 102, 103, 104, 105, 108, 109, 110, 113, 114, 117, 118, 119, 122, 124, 125, 126, 127, 128, 129, 132, 134, 135, 136, 137, 140, 141, 142, 143, 144, 145, 146, 147, 150, 151, 152, 155, 156, 159, 161, 163, 164, 165, 166, 167, 168, 169, 172, 174, 175, 176, 177, 178, 179, 180, 181, 182, 185, 188, 191, 194, 195, 196, 197, 199, 202, 203, 206, 209, 210, 211, 212, 215, 216, 217, 218, 221, 224, 225, 226, 229, 230, 231, 234, 235, 236, 239, 240, 241, 244]
/-- ByInitialsModel.fault.()I -/
def bc_154 : List Ins := [(1, 0, 1, 0, []), (0, 0, 0, 0, []), (16, 9, 2, 0, []), (1, 0, 1, 0, []), (36, 152, 1, 0, [9]), (1, 0, 1, 0, []), (14, 9, 2, 0, []), (1, 0, 1, 0, []), (14, 9, 0, 0, []), (12, 19, 3, 0, []), (1, 0, 1, 0, []), (14, 9, 2, 0, []), (2, 1, 0, 0, []), (1, 0, 1, 0, []), (36, 148, 1, 0, [9]), (13, 18, 1, 0, []), (1, 1, 0, 0, []), (33, 0, 0, 0, []), (11, 5, 0, 0, []), (0, 0, 0, (-4), []), (33, 0, 0, 0, [])]
def bp_154 : List Nat := [0, 1, 2, 5, 6, 9, 10, 13, 14, 17, 20, 21, 24, 25, 26, 29, 32, 33, 34, 37, 39]
/-- ByInitialsModel.lay.()I -/
def bc_155 : List Ins := [(1, 0, 1, 0, []), (36, 154, 1, 0, [9]), (0, 0, 0, (-4), []), (12, 9, 1, 0, []), (1, 0, 1, 0, []), (15, 9, 3, 0, []), (0, 0, 0, 6, []), (18, 0, 0, 0, []), (13, 11, 1, 0, []), (0, 0, 0, (-2), []), (33, 0, 0, 0, []), (1, 0, 1, 0, []), (36, 153, 1, 0, [9]), (1, 0, 1, 0, []), (15, 9, 3, 0, []), (0, 0, 0, 0, []), (18, 0, 0, 0, []), (33, 0, 0, 0, [])]
def bp_155 : List Nat := [0, 1, 4, 6, 9, 10, 13, 15, 16, 19, 21, 22, 23, 26, 27, 30, 31, 32]
/-- ByInitialsModel.isPerson.(I)Z -/
def bc_156 : List Ins := [(1, 1, 0, 0, []), (5, 0, 0, 0, []), (9, 0, 0, 0, []), (1, 0, 1, 0, []), (15, 9, 3, 0, []), (0, 0, 0, 0, []), (18, 0, 0, 0, []), (0, 0, 0, 1, []), (3, 1, 0, 0, []), (5, 0, 0, 0, []), (36, 140, 3, 1, []), (33, 1, 0, 0, [])]
def bp_156 : List Nat := [0, 1, 2, 3, 4, 7, 8, 9, 10, 11, 12, 15]
/-- ByInitialsModel.isLetter.(I)Z -/
def bc_157 : List Ins := [(1, 0, 0, 0, []), (5, 0, 0, 0, []), (9, 0, 0, 0, []), (9, 0, 0, 25, []), (36, 140, 3, 1, []), (33, 1, 0, 0, [])]
def bp_157 : List Nat := [0, 1, 2, 3, 6, 9]
/-- ByInitialsModel.first.(II)I -/
def bc_158 : List Ins := [(1, 0, 1, 0, []), (15, 9, 9, 0, []), (0, 0, 0, 170, []), (1, 1, 0, 0, []), (3, 2, 0, 0, []), (1, 2, 0, 0, []), (3, 0, 0, 0, []), (18, 0, 0, 0, []), (13, 11, 1, 0, []), (0, 0, 0, (-4), []), (11, 23, 0, 0, []), (1, 0, 1, 0, []), (15, 9, 9, 0, []), (0, 0, 0, 170, []), (1, 1, 0, 0, []), (3, 2, 0, 0, []), (0, 0, 0, 8, []), (3, 0, 0, 0, []), (0, 0, 0, 6, []), (1, 2, 0, 0, []), (3, 2, 0, 0, []), (3, 0, 0, 0, []), (18, 0, 0, 0, []), (33, 0, 0, 0, [])]
def bp_158 : List Nat := [0, 1, 4, 7, 8, 9, 10, 11, 12, 15, 17, 20, 21, 24, 27, 28, 29, 31, 32, 34, 35, 36, 37, 38]
/-- ByInitialsModel.isQuarrel.(II)Z -/
def bc_159 : List Ins := [(0, 0, 0, 0, []), (2, 3, 0, 0, []), (0, 0, 0, 0, []), (2, 4, 0, 0, []), (1, 4, 0, 0, []), (1, 0, 1, 0, []), (15, 9, 3, 0, []), (0, 0, 0, 4, []), (18, 0, 0, 0, []), (12, 46, 3, 0, []), (1, 0, 1, 0, []), (15, 9, 8, 0, []), (0, 0, 0, 2, []), (1, 4, 0, 0, []), (3, 2, 0, 0, []), (18, 0, 0, 0, []), (2, 5, 0, 0, []), (1, 0, 1, 0, []), (15, 9, 8, 0, []), (0, 0, 0, 2, []), (1, 4, 0, 0, []), (3, 2, 0, 0, []), (0, 0, 0, 1, []), (3, 0, 0, 0, []), (18, 0, 0, 0, []), (2, 6, 0, 0, []), (1, 3, 0, 0, []), (13, 40, 1, 0, []), (1, 5, 0, 0, []), (1, 1, 0, 0, []), (12, 34, 1, 0, []), (1, 6, 0, 0, []), (1, 2, 0, 0, []), (12, 40, 0, 0, []), (1, 5, 0, 0, []), (1, 2, 0, 0, []), (12, 42, 1, 0, []), (1, 6, 0, 0, []), (1, 1, 0, 0, []), (12, 42, 1, 0, []), (0, 0, 0, 1, []), (11, 43, 0, 0, []), (0, 0, 0, 0, []), (2, 3, 0, 0, []), (10, 4, 0, 1, []), (11, 4, 0, 0, []), (1, 3, 0, 0, []), (33, 1, 0, 0, [])]
def bp_159 : List Nat := [0, 1, 2, 3, 5, 7, 8, 11, 12, 13, 16, 17, 20, 21, 23, 24, 25, 27, 28, 31, 32, 34, 35, 36, 37, 38, 40, 41, 44, 46, 47, 50, 52, 53, 56, 58, 59, 62, 64, 65, 68, 69, 72, 73, 74, 77, 80, 81]
/-- ByInitialsModel.isVowel.(I)Z -/
def bc_160 : List Ins := [(1, 0, 1, 0, []), (15, 9, 3, 0, []), (0, 0, 0, 5, []), (18, 0, 0, 0, []), (1, 1, 0, 0, []), (3, 6, 0, 0, []), (0, 0, 0, 1, []), (3, 8, 0, 0, []), (0, 0, 0, 1, []), (12, 12, 1, 0, []), (0, 0, 0, 1, []), (11, 13, 0, 0, []), (0, 0, 0, 0, []), (33, 1, 0, 0, [])]
def bp_160 : List Nat := [0, 1, 4, 5, 6, 7, 8, 9, 10, 11, 14, 15, 18, 19]
/-- ByInitialsModel.isOffice.(II)Z -/
def bc_161 : List Ins := [(1, 0, 1, 0, []), (1, 1, 0, 0, []), (1, 2, 0, 0, []), (36, 158, 3, 0, [9]), (13, 12, 2, 0, []), (1, 0, 1, 0, []), (1, 0, 1, 0, []), (1, 1, 0, 0, []), (1, 2, 0, 0, []), (36, 158, 3, 0, [9]), (36, 160, 2, 0, [9]), (13, 14, 0, 0, []), (0, 0, 0, 1, []), (11, 15, 0, 0, []), (0, 0, 0, 0, []), (33, 1, 0, 0, [])]
def bp_161 : List Nat := [0, 1, 2, 3, 6, 9, 10, 11, 12, 13, 16, 19, 22, 23, 26, 27]
/-- ByInitialsModel.isAhead.(III)Z -/
def bc_162 : List Ins := [(1, 0, 1, 0, []), (15, 9, 9, 0, []), (0, 0, 0, 170, []), (1, 1, 0, 0, []), (3, 2, 0, 0, []), (1, 2, 0, 0, []), (3, 0, 0, 0, []), (18, 0, 0, 0, []), (2, 4, 0, 0, []), (1, 0, 1, 0, []), (15, 9, 9, 0, []), (0, 0, 0, 170, []), (1, 1, 0, 0, []), (3, 2, 0, 0, []), (1, 3, 0, 0, []), (3, 0, 0, 0, []), (18, 0, 0, 0, []), (2, 5, 0, 0, []), (1, 4, 0, 0, []), (13, 22, 0, 0, []), (1, 5, 0, 0, []), (13, 33, 1, 0, []), (1, 4, 0, 0, []), (13, 29, 4, 0, []), (1, 5, 0, 0, []), (13, 31, 1, 0, []), (1, 2, 0, 0, []), (1, 3, 0, 0, []), (12, 31, 3, 0, []), (0, 0, 0, 1, []), (11, 32, 0, 0, []), (0, 0, 0, 0, []), (33, 1, 0, 0, []), (0, 0, 0, 0, []), (2, 6, 0, 0, []), (1, 6, 0, 0, []), (1, 4, 0, 0, []), (12, 101, 3, 0, []), (1, 6, 0, 0, []), (1, 5, 0, 0, []), (12, 101, 3, 0, []), (1, 0, 1, 0, []), (15, 9, 9, 0, []), (0, 0, 0, 170, []), (1, 1, 0, 0, []), (3, 2, 0, 0, []), (0, 0, 0, 8, []), (3, 0, 0, 0, []), (0, 0, 0, 6, []), (1, 2, 0, 0, []), (3, 2, 0, 0, []), (3, 0, 0, 0, []), (1, 6, 0, 0, []), (3, 0, 0, 0, []), (18, 0, 0, 0, []), (2, 7, 0, 0, []), (1, 0, 1, 0, []), (15, 9, 9, 0, []), (0, 0, 0, 170, []), (1, 1, 0, 0, []), (3, 2, 0, 0, []), (0, 0, 0, 8, []), (3, 0, 0, 0, []), (0, 0, 0, 6, []), (1, 3, 0, 0, []), (3, 2, 0, 0, []), (3, 0, 0, 0, []), (1, 6, 0, 0, []), (3, 0, 0, 0, []), (18, 0, 0, 0, []), (2, 8, 0, 0, []), (1, 7, 0, 0, []), (1, 8, 0, 0, []), (12, 99, 0, 0, []), (1, 0, 1, 0, []), (15, 9, 9, 0, []), (0, 0, 0, 170, []), (1, 1, 0, 0, []), (3, 2, 0, 0, []), (0, 0, 0, 144, []), (3, 0, 0, 0, []), (1, 7, 0, 0, []), (3, 0, 0, 0, []), (18, 0, 0, 0, []), (1, 0, 1, 0, []), (15, 9, 9, 0, []), (0, 0, 0, 170, []), (1, 1, 0, 0, []), (3, 2, 0, 0, []), (0, 0, 0, 144, []), (3, 0, 0, 0, []), (1, 8, 0, 0, []), (3, 0, 0, 0, []), (18, 0, 0, 0, []), (12, 97, 3, 0, []), (0, 0, 0, 1, []), (11, 98, 0, 0, []), (0, 0, 0, 0, []), (33, 1, 0, 0, []), (10, 6, 0, 1, []), (11, 35, 0, 0, []), (1, 4, 0, 0, []), (1, 5, 0, 0, []), (12, 111, 1, 0, []), (1, 2, 0, 0, []), (1, 3, 0, 0, []), (12, 109, 3, 0, []), (0, 0, 0, 1, []), (11, 117, 0, 0, []), (0, 0, 0, 0, []), (11, 117, 0, 0, []), (1, 4, 0, 0, []), (1, 5, 0, 0, []), (12, 116, 3, 0, []), (0, 0, 0, 1, []), (11, 117, 0, 0, []), (0, 0, 0, 0, []), (33, 1, 0, 0, [])]
def bp_162 : List Nat := [0, 1, 4, 7, 8, 9, 10, 11, 12, 14, 15, 18, 21, 22, 23, 24, 25, 26, 28, 30, 33, 35, 38, 40, 43, 45, 48, 49, 50, 53, 54, 57, 58, 59, 60, 62, 64, 66, 69, 71, 73, 76, 77, 80, 83, 84, 85, 87, 88, 90, 91, 92, 93, 95, 96, 97, 99, 100, 103, 106, 107, 108, 110, 111, 113, 114, 115, 116, 118, 119, 120, 122, 124, 126, 129, 130, 133, 136, 137, 138, 141, 142, 144, 145, 146, 147, 150, 153, 154, 155, 158, 159, 161, 162, 163, 166, 167, 170, 171, 172, 175, 178, 180, 182, 185, 186, 187, 190, 191, 194, 195, 198, 200, 202, 205, 206, 209, 210]
/-- ByInitialsModel.aheadOf.(II)I -/
def bc_163 : List Ins := [(0, 0, 0, 0, []), (2, 3, 0, 0, []), (0, 0, 0, 0, []), (2, 4, 0, 0, []), (1, 4, 0, 0, []), (1, 0, 1, 0, []), (15, 9, 3, 0, []), (0, 0, 0, 0, []), (18, 0, 0, 0, []), (12, 27, 3, 0, []), (1, 3, 0, 0, []), (1, 4, 0, 0, []), (1, 2, 0, 0, []), (12, 22, 0, 0, []), (1, 0, 1, 0, []), (1, 1, 0, 0, []), (1, 4, 0, 0, []), (1, 2, 0, 0, []), (36, 162, 4, 0, [9]), (13, 22, 0, 0, []), (0, 0, 0, 1, []), (11, 23, 0, 0, []), (0, 0, 0, 0, []), (3, 0, 0, 0, []), (2, 3, 0, 0, []), (10, 4, 0, 1, []), (11, 4, 0, 0, []), (1, 3, 0, 0, []), (33, 0, 0, 0, [])]
def bp_163 : List Nat := [0, 1, 2, 3, 5, 7, 8, 11, 12, 13, 16, 17, 19, 20, 23, 24, 25, 27, 28, 31, 34, 35, 38, 39, 40, 41, 44, 47, 48]
/-- ByInitialsModel.morning.(I)I -/
def bc_164 : List Ins := [(1, 0, 1, 0, []), (15, 9, 3, 0, []), (0, 0, 0, 1, []), (18, 0, 0, 0, []), (2, 2, 0, 0, []), (0, 0, 0, 0, []), (2, 3, 0, 0, []), (0, 0, 0, 0, []), (2, 4, 0, 0, []), (1, 4, 0, 0, []), (1, 0, 1, 0, []), (15, 9, 3, 0, []), (0, 0, 0, 0, []), (18, 0, 0, 0, []), (12, 71, 3, 0, []), (0, 0, 0, 0, []), (2, 5, 0, 0, []), (1, 5, 0, 0, []), (1, 0, 1, 0, []), (15, 9, 3, 0, []), (0, 0, 0, 0, []), (18, 0, 0, 0, []), (12, 69, 3, 0, []), (1, 0, 1, 0, []), (1, 1, 0, 0, []), (1, 5, 0, 0, []), (36, 163, 3, 0, [9]), (1, 4, 0, 0, []), (12, 67, 1, 0, []), (1, 0, 1, 0, []), (15, 9, 16, 0, []), (1, 5, 0, 0, []), (1, 0, 1, 0, []), (15, 9, 4, 0, []), (1, 5, 0, 0, []), (18, 0, 0, 0, []), (1, 2, 0, 0, []), (12, 43, 3, 0, []), (1, 0, 1, 0, []), (15, 9, 4, 0, []), (1, 5, 0, 0, []), (18, 0, 0, 0, []), (11, 44, 0, 0, []), (1, 2, 0, 0, []), (19, 0, 0, 0, []), (1, 2, 0, 0, []), (1, 0, 1, 0, []), (15, 9, 16, 0, []), (1, 5, 0, 0, []), (18, 0, 0, 0, []), (3, 1, 0, 0, []), (2, 2, 0, 0, []), (1, 3, 0, 0, []), (1, 0, 1, 0, []), (15, 9, 16, 0, []), (1, 5, 0, 0, []), (18, 0, 0, 0, []), (1, 0, 1, 0, []), (15, 9, 4, 0, []), (1, 5, 0, 0, []), (18, 0, 0, 0, []), (12, 64, 1, 0, []), (0, 0, 0, 1, []), (11, 65, 0, 0, []), (0, 0, 0, 0, []), (3, 0, 0, 0, []), (2, 3, 0, 0, []), (10, 5, 0, 1, []), (11, 17, 0, 0, []), (10, 4, 0, 1, []), (11, 9, 0, 0, []), (1, 3, 0, 0, []), (33, 0, 0, 0, [])]
def bp_164 : List Nat := [0, 1, 4, 5, 6, 7, 8, 9, 10, 12, 14, 15, 18, 19, 20, 23, 24, 26, 28, 29, 32, 33, 34, 37, 38, 39, 41, 44, 46, 49, 50, 53, 55, 56, 59, 61, 62, 63, 66, 67, 70, 72, 73, 76, 77, 78, 79, 80, 83, 85, 86, 87, 88, 89, 90, 93, 95, 96, 97, 100, 102, 103, 106, 107, 110, 111, 112, 113, 116, 119, 122, 125, 126]
/-- ByInitialsModel.person.(II)I -/
def bc_165 : List Ins := [(1, 0, 1, 0, []), (1, 1, 0, 0, []), (36, 156, 2, 0, [9]), (13, 10, 0, 0, []), (1, 2, 0, 0, []), (5, 0, 0, 0, []), (9, 0, 0, 0, []), (9, 0, 0, 7, []), (36, 140, 3, 1, []), (13, 12, 1, 0, []), (0, 0, 0, (-1), []), (33, 0, 0, 0, []), (1, 2, 0, 0, []), (31, 72, 0, 0, [14, 19, 24, 31, 49, 56, 61]), (1, 0, 1, 0, []), (15, 9, 9, 0, []), (1, 1, 0, 0, []), (18, 0, 0, 0, []), (33, 0, 0, 0, []), (1, 0, 1, 0, []), (15, 9, 4, 0, []), (1, 1, 0, 0, []), (18, 0, 0, 0, []), (33, 0, 0, 0, []), (1, 0, 1, 0, []), (15, 9, 9, 0, []), (0, 0, 0, 56, []), (1, 1, 0, 0, []), (3, 0, 0, 0, []), (18, 0, 0, 0, []), (33, 0, 0, 0, []), (1, 0, 1, 0, []), (15, 9, 9, 0, []), (0, 0, 0, 64, []), (1, 1, 0, 0, []), (3, 0, 0, 0, []), (18, 0, 0, 0, []), (13, 40, 1, 0, []), (0, 0, 0, (-4), []), (11, 48, 0, 0, []), (1, 0, 1, 0, []), (15, 9, 9, 0, []), (0, 0, 0, 64, []), (1, 1, 0, 0, []), (3, 0, 0, 0, []), (18, 0, 0, 0, []), (0, 0, 0, 1, []), (3, 1, 0, 0, []), (33, 0, 0, 0, []), (1, 0, 1, 0, []), (15, 9, 9, 0, []), (0, 0, 0, 72, []), (1, 1, 0, 0, []), (3, 0, 0, 0, []), (18, 0, 0, 0, []), (33, 0, 0, 0, []), (1, 0, 1, 0, []), (0, 0, 0, 0, []), (1, 1, 0, 0, []), (36, 163, 3, 0, [9]), (33, 0, 0, 0, []), (1, 0, 1, 0, []), (0, 0, 0, 0, []), (36, 164, 2, 0, [9]), (13, 67, 3, 0, []), (0, 0, 0, (-1), []), (11, 71, 0, 0, []), (1, 0, 1, 0, []), (15, 9, 16, 0, []), (1, 1, 0, 0, []), (18, 0, 0, 0, []), (33, 0, 0, 0, []), (1, 0, 1, 0, []), (0, 0, 0, 0, []), (1, 1, 0, 0, []), (36, 161, 3, 0, [9]), (13, 79, 0, 0, []), (0, 0, 0, 1, []), (11, 80, 0, 0, []), (0, 0, 0, 0, []), (33, 0, 0, 0, [])]
def bp_165 : List Nat := [0, 1, 2, 5, 8, 9, 10, 11, 14, 17, 20, 21, 22, 23, 64, 65, 68, 69, 70, 71, 72, 75, 76, 77, 78, 79, 82, 84, 85, 86, 87, 88, 89, 92, 94, 95, 96, 97, 100, 102, 105, 106, 109, 111, 112, 113, 114, 115, 116, 117, 118, 121, 123, 124, 125, 126, 127, 128, 129, 130, 133, 134, 135, 136, 139, 142, 143, 146, 147, 150, 151, 152, 153, 154, 155, 156, 159, 162, 163, 166, 167]
/-- ByInitialsModel.letter.(II)I -/
def bc_166 : List Ins := [(1, 0, 1, 0, []), (1, 1, 0, 0, []), (36, 156, 2, 0, [9]), (13, 6, 0, 0, []), (1, 2, 0, 0, []), (13, 8, 3, 0, []), (0, 0, 0, (-1), []), (33, 0, 0, 0, []), (1, 2, 0, 0, []), (1, 0, 1, 0, []), (15, 9, 9, 0, []), (1, 1, 0, 0, []), (18, 0, 0, 0, []), (12, 25, 3, 0, []), (1, 0, 1, 0, []), (15, 9, 9, 0, []), (0, 0, 0, 8, []), (0, 0, 0, 6, []), (1, 1, 0, 0, []), (3, 2, 0, 0, []), (3, 0, 0, 0, []), (1, 2, 0, 0, []), (3, 0, 0, 0, []), (18, 0, 0, 0, []), (11, 26, 0, 0, []), (0, 0, 0, (-4), []), (33, 0, 0, 0, [])]
def bp_166 : List Nat := [0, 1, 2, 5, 8, 9, 12, 13, 14, 15, 16, 19, 20, 21, 24, 25, 28, 30, 32, 33, 34, 35, 36, 37, 38, 41, 43]
/-- ByInitialsModel.letterOf.(II)I -/
def bc_167 : List Ins := [(0, 0, 0, 0, []), (2, 3, 0, 0, []), (1, 0, 1, 0, []), (15, 9, 9, 0, []), (0, 0, 0, 170, []), (1, 1, 0, 0, []), (3, 2, 0, 0, []), (0, 0, 0, 144, []), (3, 0, 0, 0, []), (1, 3, 0, 0, []), (3, 0, 0, 0, []), (18, 0, 0, 0, []), (1, 2, 0, 0, []), (12, 16, 0, 0, []), (10, 3, 0, 1, []), (11, 2, 0, 0, []), (1, 3, 0, 0, []), (33, 0, 0, 0, [])]
def bp_167 : List Nat := [0, 1, 2, 3, 6, 9, 10, 11, 14, 15, 16, 17, 18, 19, 22, 25, 28, 29]
/-- ByInitialsModel.alphabet.(II)I -/
def bc_168 : List Ins := [(1, 1, 0, 0, []), (36, 157, 1, 1, []), (13, 9, 0, 0, []), (1, 2, 0, 0, []), (5, 0, 0, 0, []), (9, 0, 0, 0, []), (9, 0, 0, 2, []), (36, 140, 3, 1, []), (13, 11, 1, 0, []), (0, 0, 0, (-1), []), (33, 0, 0, 0, []), (1, 2, 0, 0, []), (13, 20, 1, 0, []), (1, 0, 1, 0, []), (15, 9, 9, 0, []), (0, 0, 0, 144, []), (1, 1, 0, 0, []), (3, 0, 0, 0, []), (18, 0, 0, 0, []), (11, 35, 0, 0, []), (1, 2, 0, 0, []), (0, 0, 0, 1, []), (12, 28, 1, 0, []), (1, 0, 1, 0, []), (0, 0, 0, 0, []), (1, 1, 0, 0, []), (36, 167, 3, 0, [9]), (11, 35, 0, 0, []), (1, 0, 1, 0, []), (1, 1, 0, 0, []), (36, 160, 2, 0, [9]), (13, 34, 0, 0, []), (0, 0, 0, 1, []), (11, 35, 0, 0, []), (0, 0, 0, 0, []), (33, 0, 0, 0, [])]
def bp_168 : List Nat := [0, 1, 4, 7, 8, 9, 10, 13, 16, 19, 20, 21, 22, 25, 26, 29, 32, 33, 34, 35, 38, 39, 40, 43, 44, 45, 46, 49, 52, 53, 54, 57, 60, 61, 64, 65]
/-- ByInitialsModel.quarrel.(II)I -/
def bc_169 : List Ins := [(1, 1, 0, 0, []), (36, 157, 1, 1, []), (13, 6, 0, 0, []), (1, 2, 0, 0, []), (36, 157, 1, 1, []), (13, 8, 1, 0, []), (0, 0, 0, (-1), []), (11, 16, 0, 0, []), (1, 0, 1, 0, []), (1, 1, 0, 0, []), (1, 2, 0, 0, []), (36, 159, 3, 0, [9]), (13, 15, 0, 0, []), (0, 0, 0, 1, []), (11, 16, 0, 0, []), (0, 0, 0, 0, []), (33, 0, 0, 0, [])]
def bp_169 : List Nat := [0, 1, 4, 7, 8, 11, 14, 15, 18, 19, 20, 21, 24, 27, 28, 31, 32]
/-- ByInitialsModel.copies.(II)V -/
def bc_170 : List Ins := [(0, 0, 0, 0, []), (2, 3, 0, 0, []), (1, 3, 0, 0, []), (0, 0, 0, 170, []), (12, 23, 3, 0, []), (1, 0, 1, 0, []), (15, 9, 9, 0, []), (0, 0, 0, 170, []), (1, 2, 0, 0, []), (3, 2, 0, 0, []), (1, 3, 0, 0, []), (3, 0, 0, 0, []), (1, 0, 1, 0, []), (15, 9, 9, 0, []), (0, 0, 0, 170, []), (1, 1, 0, 0, []), (3, 2, 0, 0, []), (1, 3, 0, 0, []), (3, 0, 0, 0, []), (18, 0, 0, 0, []), (19, 0, 0, 0, []), (10, 3, 0, 1, []), (11, 2, 0, 0, []), (34, 0, 0, 0, [])]
def bp_170 : List Nat := [0, 1, 2, 3, 6, 9, 10, 13, 16, 17, 18, 19, 20, 21, 24, 27, 28, 29, 30, 31, 32, 33, 36, 39]
/-- ByInitialsModel.known.()V -/
def bc_171 : List Ins := [(1, 0, 1, 0, []), (14, 9, 11, 0, []), (0, 0, 0, 8, []), (12, 23, 1, 0, []), (0, 0, 0, 3, []), (2, 1, 0, 0, []), (1, 1, 0, 0, []), (0, 0, 0, 10, []), (12, 17, 3, 0, []), (1, 0, 1, 0, []), (1, 1, 0, 0, []), (0, 0, 0, 1, []), (3, 0, 0, 0, []), (1, 1, 0, 0, []), (36, 170, 3, 0, [9]), (10, 1, 0, 1, []), (11, 6, 0, 0, []), (1, 0, 1, 0, []), (28, 0, 0, 0, []), (14, 9, 11, 0, []), (0, 0, 0, 1, []), (3, 1, 0, 0, []), (16, 9, 11, 0, []), (1, 0, 1, 0, []), (0, 0, 0, 0, []), (0, 0, 0, 3, []), (1, 0, 1, 0, []), (14, 9, 11, 0, []), (3, 0, 0, 0, []), (36, 170, 3, 0, [9]), (1, 0, 1, 0, []), (28, 0, 0, 0, []), (14, 9, 11, 0, []), (0, 0, 0, 1, []), (3, 0, 0, 0, []), (16, 9, 11, 0, []), (34, 0, 0, 0, [])]
def bp_171 : List Nat := [0, 1, 4, 6, 9, 10, 11, 12, 14, 17, 18, 19, 20, 21, 22, 25, 28, 31, 32, 33, 36, 37, 38, 41, 42, 43, 44, 45, 48, 49, 52, 53, 54, 57, 58, 59, 62]
/-- ByInitialsModel.spell.(I)I -/
def bc_172 : List Ins := [(1, 1, 0, 0, []), (36, 157, 1, 1, []), (13, 5, 1, 0, []), (0, 0, 0, (-1), []), (33, 0, 0, 0, []), (1, 0, 1, 0, []), (14, 9, 12, 0, []), (0, 0, 0, 6, []), (12, 11, 1, 0, []), (0, 0, 0, (-3), []), (33, 0, 0, 0, []), (1, 0, 1, 0, []), (15, 9, 13, 0, []), (1, 0, 1, 0, []), (14, 9, 12, 0, []), (1, 1, 0, 0, []), (19, 0, 0, 0, []), (1, 0, 1, 0, []), (28, 0, 0, 0, []), (14, 9, 12, 0, []), (0, 0, 0, 1, []), (3, 0, 0, 0, []), (16, 9, 12, 0, []), (1, 0, 1, 0, []), (14, 9, 12, 0, []), (33, 0, 0, 0, [])]
def bp_172 : List Nat := [0, 1, 4, 7, 8, 9, 10, 13, 15, 18, 20, 21, 22, 25, 26, 29, 30, 31, 32, 33, 36, 37, 38, 41, 42, 45]
/-- ByInitialsModel.unspell.()I -/
def bc_173 : List Ins := [(1, 0, 1, 0, []), (14, 9, 12, 0, []), (2, 1, 0, 0, []), (1, 0, 1, 0, []), (0, 0, 0, 0, []), (16, 9, 12, 0, []), (1, 1, 0, 0, []), (33, 0, 0, 0, [])]
def bp_173 : List Nat := [0, 1, 4, 5, 6, 7, 10, 11]
/-- ByInitialsModel.priceOf.(I)I -/
def bc_174 : List Ins := [(0, 0, 0, 0, []), (2, 2, 0, 0, []), (0, 0, 0, 0, []), (2, 3, 0, 0, []), (1, 3, 0, 0, []), (0, 0, 0, 6, []), (12, 60, 3, 0, []), (1, 3, 0, 0, []), (1, 0, 1, 0, []), (14, 9, 12, 0, []), (12, 19, 3, 0, []), (1, 3, 0, 0, []), (1, 0, 1, 0, []), (15, 9, 9, 0, []), (1, 1, 0, 0, []), (18, 0, 0, 0, []), (12, 19, 3, 0, []), (0, 0, 0, 1, []), (11, 20, 0, 0, []), (0, 0, 0, 0, []), (2, 4, 0, 0, []), (1, 2, 0, 0, []), (1, 4, 0, 0, []), (13, 43, 0, 0, []), (1, 0, 1, 0, []), (15, 9, 13, 0, []), (1, 3, 0, 0, []), (18, 0, 0, 0, []), (1, 0, 1, 0, []), (15, 9, 9, 0, []), (0, 0, 0, 8, []), (0, 0, 0, 6, []), (1, 1, 0, 0, []), (3, 2, 0, 0, []), (3, 0, 0, 0, []), (1, 3, 0, 0, []), (3, 0, 0, 0, []), (18, 0, 0, 0, []), (12, 41, 1, 0, []), (0, 0, 0, 0, []), (11, 56, 0, 0, []), (0, 0, 0, 1, []), (11, 56, 0, 0, []), (1, 3, 0, 0, []), (1, 0, 1, 0, []), (14, 9, 12, 0, []), (12, 53, 2, 0, []), (1, 3, 0, 0, []), (1, 0, 1, 0, []), (15, 9, 9, 0, []), (1, 1, 0, 0, []), (18, 0, 0, 0, []), (12, 55, 3, 0, []), (0, 0, 0, 1, []), (11, 56, 0, 0, []), (0, 0, 0, 0, []), (3, 0, 0, 0, []), (2, 2, 0, 0, []), (10, 3, 0, 1, []), (11, 4, 0, 0, []), (1, 2, 0, 0, []), (1, 0, 1, 0, []), (15, 9, 3, 0, []), (0, 0, 0, 3, []), (18, 0, 0, 0, []), (3, 2, 0, 0, []), (33, 0, 0, 0, [])]
def bp_174 : List Nat := [0, 1, 2, 3, 4, 5, 7, 10, 11, 12, 15, 18, 19, 20, 23, 24, 25, 28, 29, 32, 33, 35, 36, 38, 41, 42, 45, 46, 47, 48, 51, 53, 55, 56, 57, 58, 59, 60, 61, 64, 65, 68, 69, 72, 73, 74, 77, 80, 81, 82, 85, 86, 87, 90, 91, 94, 95, 96, 97, 100, 103, 104, 105, 108, 109, 110, 111]
/-- ByInitialsModel.price.(I)I -/
def bc_175 : List Ins := [(1, 0, 1, 0, []), (1, 1, 0, 0, []), (36, 156, 2, 0, [9]), (13, 8, 0, 0, []), (1, 0, 1, 0, []), (1, 1, 0, 0, []), (36, 174, 2, 0, [9]), (11, 9, 0, 0, []), (0, 0, 0, (-1), []), (33, 0, 0, 0, [])]
def bp_175 : List Nat := [0, 1, 2, 5, 8, 9, 10, 13, 16, 17]
/-- ByInitialsModel.rename.(I)I -/
def bc_176 : List Ins := [(1, 0, 1, 0, []), (1, 1, 0, 0, []), (36, 156, 2, 0, [9]), (13, 6, 1, 0, []), (0, 0, 0, (-1), []), (33, 0, 0, 0, []), (1, 0, 1, 0, []), (1, 1, 0, 0, []), (36, 174, 2, 0, [9]), (2, 2, 0, 0, []), (1, 0, 1, 0, []), (15, 9, 9, 0, []), (0, 0, 0, 72, []), (1, 1, 0, 0, []), (3, 0, 0, 0, []), (18, 0, 0, 0, []), (0, 0, 0, 1, []), (12, 26, 0, 0, []), (1, 0, 1, 0, []), (15, 9, 9, 0, []), (0, 0, 0, 56, []), (1, 1, 0, 0, []), (3, 0, 0, 0, []), (18, 0, 0, 0, []), (1, 2, 0, 0, []), (12, 28, 3, 0, []), (0, 0, 0, (-2), []), (33, 0, 0, 0, []), (1, 0, 1, 0, []), (36, 171, 1, 0, [9]), (1, 0, 1, 0, []), (15, 9, 9, 0, []), (0, 0, 0, 72, []), (1, 1, 0, 0, []), (3, 0, 0, 0, []), (0, 0, 0, 1, []), (19, 0, 0, 0, []), (1, 0, 1, 0, []), (15, 9, 9, 0, []), (0, 0, 0, 56, []), (1, 1, 0, 0, []), (3, 0, 0, 0, []), (29, 0, 0, 0, []), (18, 0, 0, 0, []), (1, 2, 0, 0, []), (3, 1, 0, 0, []), (19, 0, 0, 0, []), (1, 0, 1, 0, []), (15, 9, 9, 0, []), (1, 1, 0, 0, []), (1, 0, 1, 0, []), (14, 9, 12, 0, []), (19, 0, 0, 0, []), (0, 0, 0, 0, []), (2, 3, 0, 0, []), (1, 3, 0, 0, []), (1, 0, 1, 0, []), (14, 9, 12, 0, []), (12, 75, 3, 0, []), (1, 0, 1, 0, []), (15, 9, 9, 0, []), (0, 0, 0, 8, []), (0, 0, 0, 6, []), (1, 1, 0, 0, []), (3, 2, 0, 0, []), (3, 0, 0, 0, []), (1, 3, 0, 0, []), (3, 0, 0, 0, []), (1, 0, 1, 0, []), (15, 9, 13, 0, []), (1, 3, 0, 0, []), (18, 0, 0, 0, []), (19, 0, 0, 0, []), (10, 3, 0, 1, []), (11, 55, 0, 0, []), (1, 0, 1, 0, []), (15, 9, 9, 0, []), (0, 0, 0, 56, []), (1, 1, 0, 0, []), (3, 0, 0, 0, []), (18, 0, 0, 0, []), (33, 0, 0, 0, [])]
def bp_176 : List Nat := [0, 1, 2, 5, 8, 9, 10, 11, 12, 15, 16, 17, 20, 22, 23, 24, 25, 26, 29, 30, 33, 35, 36, 37, 38, 39, 42, 44, 45, 46, 49, 50, 53, 55, 56, 57, 58, 59, 60, 63, 65, 66, 67, 68, 69, 70, 71, 72, 73, 76, 77, 78, 81, 82, 83, 84, 85, 86, 89, 92, 93, 96, 98, 100, 101, 102, 103, 104, 105, 106, 109, 110, 111, 112, 115, 118, 119, 122, 124, 125, 126, 127]
/-- ByInitialsModel.isMay.(III)Z -/
def bc_177 : List Ins := [(1, 1, 0, 0, []), (1, 2, 0, 0, []), (12, 17, 0, 0, []), (1, 0, 1, 0, []), (15, 9, 9, 0, []), (0, 0, 0, 64, []), (1, 1, 0, 0, []), (3, 0, 0, 0, []), (18, 0, 0, 0, []), (13, 17, 4, 0, []), (1, 0, 1, 0, []), (15, 9, 9, 0, []), (0, 0, 0, 64, []), (1, 2, 0, 0, []), (3, 0, 0, 0, []), (18, 0, 0, 0, []), (13, 19, 5, 0, []), (0, 0, 0, 0, []), (33, 1, 0, 0, []), (1, 0, 1, 0, []), (0, 0, 0, 0, []), (1, 1, 0, 0, []), (36, 158, 3, 0, [9]), (2, 4, 0, 0, []), (1, 0, 1, 0, []), (0, 0, 0, 0, []), (1, 2, 0, 0, []), (36, 158, 3, 0, [9]), (2, 5, 0, 0, []), (1, 4, 0, 0, []), (13, 33, 2, 0, []), (1, 5, 0, 0, []), (13, 35, 3, 0, []), (0, 0, 0, 1, []), (33, 1, 0, 0, []), (1, 0, 1, 0, []), (15, 9, 9, 0, []), (0, 0, 0, 144, []), (1, 4, 0, 0, []), (3, 0, 0, 0, []), (18, 0, 0, 0, []), (1, 0, 1, 0, []), (15, 9, 9, 0, []), (0, 0, 0, 144, []), (1, 5, 0, 0, []), (3, 0, 0, 0, []), (18, 0, 0, 0, []), (3, 1, 0, 0, []), (5, 0, 0, 0, []), (1, 3, 0, 0, []), (4, 0, 0, 0, []), (5, 0, 0, 0, []), (1, 3, 0, 0, []), (5, 0, 0, 0, []), (36, 140, 3, 1, []), (13, 63, 0, 0, []), (1, 0, 1, 0, []), (1, 4, 0, 0, []), (1, 5, 0, 0, []), (36, 159, 3, 0, [9]), (13, 63, 1, 0, []), (0, 0, 0, 1, []), (11, 64, 0, 0, []), (0, 0, 0, 0, []), (33, 1, 0, 0, [])]
def bp_177 : List Nat := [0, 1, 2, 5, 6, 9, 11, 12, 13, 14, 17, 18, 21, 23, 24, 25, 26, 29, 30, 31, 32, 33, 34, 37, 39, 40, 41, 42, 45, 47, 49, 52, 54, 57, 58, 59, 60, 63, 66, 68, 69, 70, 71, 74, 77, 79, 80, 81, 82, 83, 84, 85, 86, 87, 88, 91, 94, 95, 97, 99, 102, 105, 106, 109, 110]
/-- ByInitialsModel.isTwo.(II)Z -/
def bc_178 : List Ins := [(1, 0, 1, 0, []), (1, 1, 0, 0, []), (36, 156, 2, 0, [9]), (13, 13, 0, 0, []), (1, 0, 1, 0, []), (1, 2, 0, 0, []), (36, 156, 2, 0, [9]), (13, 13, 0, 0, []), (1, 1, 0, 0, []), (1, 2, 0, 0, []), (12, 13, 0, 0, []), (0, 0, 0, 1, []), (11, 14, 0, 0, []), (0, 0, 0, 0, []), (33, 1, 0, 0, [])]
def bp_178 : List Nat := [0, 1, 2, 5, 8, 9, 10, 13, 16, 17, 18, 21, 22, 25, 26]
/-- ByInitialsModel.may.(II)I -/
def bc_179 : List Ins := [(1, 0, 1, 0, []), (1, 1, 0, 0, []), (1, 2, 0, 0, []), (36, 178, 3, 0, [9]), (13, 7, 1, 0, []), (0, 0, 0, (-1), []), (11, 19, 0, 0, []), (1, 0, 1, 0, []), (1, 1, 0, 0, []), (1, 2, 0, 0, []), (1, 0, 1, 0, []), (15, 9, 3, 0, []), (0, 0, 0, 2, []), (18, 0, 0, 0, []), (36, 177, 4, 0, [9]), (13, 18, 0, 0, []), (0, 0, 0, 1, []), (11, 19, 0, 0, []), (0, 0, 0, 0, []), (33, 0, 0, 0, [])]
def bp_179 : List Nat := [0, 1, 2, 3, 6, 9, 10, 13, 14, 15, 16, 17, 20, 21, 22, 25, 28, 29, 32, 33]
/-- ByInitialsModel.weds.()I -/
def bc_180 : List Ins := [(0, 0, 0, 0, []), (2, 1, 0, 0, []), (0, 0, 0, 0, []), (2, 2, 0, 0, []), (1, 2, 0, 0, []), (1, 0, 1, 0, []), (15, 9, 3, 0, []), (0, 0, 0, 0, []), (18, 0, 0, 0, []), (12, 25, 3, 0, []), (1, 1, 0, 0, []), (1, 0, 1, 0, []), (15, 9, 9, 0, []), (0, 0, 0, 64, []), (1, 2, 0, 0, []), (3, 0, 0, 0, []), (18, 0, 0, 0, []), (13, 20, 5, 0, []), (0, 0, 0, 1, []), (11, 21, 0, 0, []), (0, 0, 0, 0, []), (3, 0, 0, 0, []), (2, 1, 0, 0, []), (10, 2, 0, 1, []), (11, 4, 0, 0, []), (1, 1, 0, 0, []), (33, 0, 0, 0, [])]
def bp_180 : List Nat := [0, 1, 2, 3, 4, 5, 6, 9, 10, 11, 14, 15, 16, 19, 21, 22, 23, 24, 27, 28, 31, 32, 33, 34, 37, 40, 41]
/-- ByInitialsModel.wed.(II)I -/
def bc_181 : List Ins := [(1, 0, 1, 0, []), (1, 1, 0, 0, []), (1, 2, 0, 0, []), (36, 178, 3, 0, [9]), (13, 7, 1, 0, []), (0, 0, 0, (-1), []), (33, 0, 0, 0, []), (1, 0, 1, 0, []), (1, 1, 0, 0, []), (1, 2, 0, 0, []), (1, 0, 1, 0, []), (15, 9, 3, 0, []), (0, 0, 0, 2, []), (18, 0, 0, 0, []), (36, 177, 4, 0, [9]), (13, 18, 1, 0, []), (0, 0, 0, (-2), []), (33, 0, 0, 0, []), (1, 0, 1, 0, []), (36, 171, 1, 0, [9]), (1, 0, 1, 0, []), (15, 9, 9, 0, []), (0, 0, 0, 64, []), (1, 1, 0, 0, []), (3, 0, 0, 0, []), (1, 2, 0, 0, []), (0, 0, 0, 1, []), (3, 0, 0, 0, []), (19, 0, 0, 0, []), (1, 0, 1, 0, []), (15, 9, 9, 0, []), (0, 0, 0, 64, []), (1, 2, 0, 0, []), (3, 0, 0, 0, []), (1, 1, 0, 0, []), (0, 0, 0, 1, []), (3, 0, 0, 0, []), (19, 0, 0, 0, []), (1, 0, 1, 0, []), (36, 180, 1, 0, [9]), (33, 0, 0, 0, [])]
def bp_181 : List Nat := [0, 1, 2, 3, 6, 9, 10, 11, 12, 13, 14, 15, 18, 19, 20, 23, 26, 28, 29, 30, 33, 34, 37, 39, 40, 41, 42, 43, 44, 45, 46, 49, 51, 52, 53, 54, 55, 56, 57, 58, 61]
/-- ByInitialsModel.owes.(II)I -/
def bc_182 : List Ins := [(1, 0, 1, 0, []), (15, 9, 9, 0, []), (0, 0, 0, 80, []), (0, 0, 0, 8, []), (1, 1, 0, 0, []), (3, 2, 0, 0, []), (3, 0, 0, 0, []), (1, 2, 0, 0, []), (3, 0, 0, 0, []), (18, 0, 0, 0, []), (33, 0, 0, 0, [])]
def bp_182 : List Nat := [0, 1, 4, 6, 8, 9, 10, 11, 12, 13, 14]
/-- ByInitialsModel.lend.(III)I -/
def bc_183 : List Ins := [(1, 0, 1, 0, []), (1, 1, 0, 0, []), (1, 2, 0, 0, []), (36, 178, 3, 0, [9]), (13, 11, 0, 0, []), (1, 3, 0, 0, []), (5, 0, 0, 0, []), (9, 0, 0, 1, []), (9, 0, 0, 99, []), (36, 140, 3, 1, []), (13, 13, 1, 0, []), (0, 0, 0, (-1), []), (33, 0, 0, 0, []), (1, 0, 1, 0, []), (0, 0, 0, 0, []), (1, 1, 0, 0, []), (36, 158, 3, 0, [9]), (2, 4, 0, 0, []), (1, 0, 1, 0, []), (0, 0, 0, 0, []), (1, 2, 0, 0, []), (36, 158, 3, 0, [9]), (2, 5, 0, 0, []), (1, 4, 0, 0, []), (13, 40, 2, 0, []), (1, 5, 0, 0, []), (13, 40, 2, 0, []), (1, 0, 1, 0, []), (15, 9, 9, 0, []), (0, 0, 0, 144, []), (1, 5, 0, 0, []), (3, 0, 0, 0, []), (18, 0, 0, 0, []), (1, 0, 1, 0, []), (15, 9, 9, 0, []), (0, 0, 0, 144, []), (1, 4, 0, 0, []), (3, 0, 0, 0, []), (18, 0, 0, 0, []), (12, 42, 5, 0, []), (0, 0, 0, 1, []), (11, 43, 0, 0, []), (0, 0, 0, 0, []), (2, 6, 0, 0, []), (1, 6, 0, 0, []), (13, 62, 0, 0, []), (1, 0, 1, 0, []), (15, 9, 9, 0, []), (0, 0, 0, 56, []), (1, 1, 0, 0, []), (3, 0, 0, 0, []), (18, 0, 0, 0, []), (1, 3, 0, 0, []), (12, 62, 2, 0, []), (1, 0, 1, 0, []), (1, 2, 0, 0, []), (1, 1, 0, 0, []), (36, 182, 3, 0, [9]), (1, 3, 0, 0, []), (3, 0, 0, 0, []), (0, 0, 0, 999, []), (12, 64, 5, 0, []), (0, 0, 0, (-2), []), (33, 0, 0, 0, []), (1, 0, 1, 0, []), (36, 171, 1, 0, [9]), (1, 0, 1, 0, []), (15, 9, 9, 0, []), (0, 0, 0, 56, []), (1, 1, 0, 0, []), (3, 0, 0, 0, []), (29, 0, 0, 0, []), (18, 0, 0, 0, []), (1, 3, 0, 0, []), (3, 1, 0, 0, []), (19, 0, 0, 0, []), (1, 0, 1, 0, []), (15, 9, 9, 0, []), (0, 0, 0, 56, []), (1, 2, 0, 0, []), (3, 0, 0, 0, []), (29, 0, 0, 0, []), (18, 0, 0, 0, []), (1, 3, 0, 0, []), (3, 0, 0, 0, []), (19, 0, 0, 0, []), (1, 0, 1, 0, []), (15, 9, 9, 0, []), (0, 0, 0, 80, []), (0, 0, 0, 8, []), (1, 2, 0, 0, []), (3, 2, 0, 0, []), (3, 0, 0, 0, []), (1, 1, 0, 0, []), (3, 0, 0, 0, []), (29, 0, 0, 0, []), (18, 0, 0, 0, []), (1, 3, 0, 0, []), (3, 0, 0, 0, []), (19, 0, 0, 0, []), (1, 0, 1, 0, []), (1, 2, 0, 0, []), (1, 1, 0, 0, []), (36, 182, 3, 0, [9]), (33, 0, 0, 0, [])]
def bp_183 : List Nat := [0, 1, 2, 3, 6, 9, 10, 11, 12, 15, 18, 21, 22, 23, 24, 25, 26, 29, 31, 32, 33, 34, 37, 39, 41, 44, 46, 49, 50, 53, 56, 58, 59, 60, 61, 64, 67, 69, 70, 71, 74, 75, 78, 79, 81, 83, 86, 87, 90, 92, 93, 94, 95, 96, 99, 100, 101, 102, 105, 106, 107, 110, 113, 115, 116, 117, 120, 121, 124, 126, 127, 128, 129, 130, 131, 132, 133, 134, 137, 139, 140, 141, 142, 143, 144, 145, 146, 147, 150, 152, 154, 155, 156, 157, 158, 159, 160, 161, 162, 163, 164, 165, 166, 167, 170]
/-- ByInitialsModel.repay.(III)I -/
def bc_184 : List Ins := [(1, 0, 1, 0, []), (1, 1, 0, 0, []), (1, 2, 0, 0, []), (36, 178, 3, 0, [9]), (13, 11, 0, 0, []), (1, 3, 0, 0, []), (5, 0, 0, 0, []), (9, 0, 0, 1, []), (9, 0, 0, 99, []), (36, 140, 3, 1, []), (13, 13, 1, 0, []), (0, 0, 0, (-1), []), (33, 0, 0, 0, []), (1, 0, 1, 0, []), (1, 2, 0, 0, []), (1, 1, 0, 0, []), (36, 182, 3, 0, [9]), (1, 3, 0, 0, []), (12, 27, 2, 0, []), (1, 0, 1, 0, []), (15, 9, 9, 0, []), (0, 0, 0, 56, []), (1, 2, 0, 0, []), (3, 0, 0, 0, []), (18, 0, 0, 0, []), (1, 3, 0, 0, []), (12, 29, 3, 0, []), (0, 0, 0, (-2), []), (33, 0, 0, 0, []), (1, 0, 1, 0, []), (36, 171, 1, 0, [9]), (1, 0, 1, 0, []), (15, 9, 9, 0, []), (0, 0, 0, 56, []), (1, 1, 0, 0, []), (3, 0, 0, 0, []), (29, 0, 0, 0, []), (18, 0, 0, 0, []), (1, 3, 0, 0, []), (3, 0, 0, 0, []), (19, 0, 0, 0, []), (1, 0, 1, 0, []), (15, 9, 9, 0, []), (0, 0, 0, 56, []), (1, 2, 0, 0, []), (3, 0, 0, 0, []), (29, 0, 0, 0, []), (18, 0, 0, 0, []), (1, 3, 0, 0, []), (3, 1, 0, 0, []), (19, 0, 0, 0, []), (1, 0, 1, 0, []), (15, 9, 9, 0, []), (0, 0, 0, 80, []), (0, 0, 0, 8, []), (1, 2, 0, 0, []), (3, 2, 0, 0, []), (3, 0, 0, 0, []), (1, 1, 0, 0, []), (3, 0, 0, 0, []), (29, 0, 0, 0, []), (18, 0, 0, 0, []), (1, 3, 0, 0, []), (3, 1, 0, 0, []), (19, 0, 0, 0, []), (1, 0, 1, 0, []), (1, 2, 0, 0, []), (1, 1, 0, 0, []), (36, 182, 3, 0, [9]), (33, 0, 0, 0, [])]
def bp_184 : List Nat := [0, 1, 2, 3, 6, 9, 10, 11, 12, 15, 18, 21, 22, 23, 24, 25, 26, 29, 30, 33, 34, 37, 39, 40, 41, 42, 43, 46, 48, 49, 50, 53, 54, 57, 59, 60, 61, 62, 63, 64, 65, 66, 67, 70, 72, 73, 74, 75, 76, 77, 78, 79, 80, 83, 85, 87, 88, 89, 90, 91, 92, 93, 94, 95, 96, 97, 98, 99, 100, 103]
/-- ByInitialsModel.swaps.(III)V -/
def bc_185 : List Ins := [(1, 0, 1, 0, []), (15, 9, 9, 0, []), (0, 0, 0, 170, []), (1, 1, 0, 0, []), (3, 2, 0, 0, []), (0, 0, 0, 144, []), (3, 0, 0, 0, []), (1, 2, 0, 0, []), (3, 0, 0, 0, []), (18, 0, 0, 0, []), (2, 4, 0, 0, []), (1, 0, 1, 0, []), (15, 9, 9, 0, []), (0, 0, 0, 170, []), (1, 1, 0, 0, []), (3, 2, 0, 0, []), (0, 0, 0, 144, []), (3, 0, 0, 0, []), (1, 2, 0, 0, []), (3, 0, 0, 0, []), (1, 0, 1, 0, []), (15, 9, 9, 0, []), (0, 0, 0, 170, []), (1, 1, 0, 0, []), (3, 2, 0, 0, []), (0, 0, 0, 144, []), (3, 0, 0, 0, []), (1, 3, 0, 0, []), (3, 0, 0, 0, []), (18, 0, 0, 0, []), (19, 0, 0, 0, []), (1, 0, 1, 0, []), (15, 9, 9, 0, []), (0, 0, 0, 170, []), (1, 1, 0, 0, []), (3, 2, 0, 0, []), (0, 0, 0, 144, []), (3, 0, 0, 0, []), (1, 3, 0, 0, []), (3, 0, 0, 0, []), (1, 4, 0, 0, []), (19, 0, 0, 0, []), (34, 0, 0, 0, [])]
def bp_185 : List Nat := [0, 1, 4, 7, 8, 9, 12, 13, 14, 15, 16, 18, 19, 22, 25, 26, 27, 30, 31, 32, 33, 34, 37, 40, 41, 42, 45, 46, 47, 48, 49, 50, 51, 54, 57, 58, 59, 62, 63, 64, 65, 67, 68]
/-- ByInitialsModel.swap.(II)I -/
def bc_186 : List Ins := [(1, 1, 0, 0, []), (36, 157, 1, 1, []), (13, 9, 0, 0, []), (1, 2, 0, 0, []), (36, 157, 1, 1, []), (13, 9, 0, 0, []), (1, 1, 0, 0, []), (1, 2, 0, 0, []), (12, 11, 1, 0, []), (0, 0, 0, (-1), []), (33, 0, 0, 0, []), (1, 0, 1, 0, []), (36, 171, 1, 0, [9]), (1, 0, 1, 0, []), (0, 0, 0, 0, []), (1, 1, 0, 0, []), (1, 2, 0, 0, []), (36, 185, 4, 0, [9]), (1, 0, 1, 0, []), (15, 9, 9, 0, []), (0, 0, 0, 144, []), (1, 1, 0, 0, []), (3, 0, 0, 0, []), (18, 0, 0, 0, []), (33, 0, 0, 0, [])]
def bp_186 : List Nat := [0, 1, 4, 7, 8, 11, 14, 15, 16, 19, 20, 21, 22, 25, 26, 27, 28, 29, 32, 33, 36, 39, 40, 41, 42]
/-- ByInitialsModel.newYear.()I -/
def bc_187 : List Ins := [(1, 0, 1, 0, []), (36, 171, 1, 0, [9]), (0, 0, 0, 0, []), (2, 1, 0, 0, []), (0, 0, 0, 0, []), (2, 2, 0, 0, []), (1, 2, 0, 0, []), (0, 0, 0, 8, []), (12, 27, 3, 0, []), (1, 1, 0, 0, []), (1, 0, 1, 0, []), (15, 9, 9, 0, []), (0, 0, 0, 72, []), (1, 2, 0, 0, []), (3, 0, 0, 0, []), (18, 0, 0, 0, []), (3, 0, 0, 0, []), (2, 1, 0, 0, []), (1, 0, 1, 0, []), (15, 9, 9, 0, []), (0, 0, 0, 72, []), (1, 2, 0, 0, []), (3, 0, 0, 0, []), (0, 0, 0, 0, []), (19, 0, 0, 0, []), (10, 2, 0, 1, []), (11, 6, 0, 0, []), (1, 1, 0, 0, []), (33, 0, 0, 0, [])]
def bp_187 : List Nat := [0, 1, 4, 5, 6, 7, 8, 9, 11, 14, 15, 16, 19, 21, 22, 23, 24, 25, 26, 27, 30, 32, 33, 34, 35, 36, 39, 42, 43]
/-- ByInitialsModel.undo.()I -/
def bc_188 : List Ins := [(1, 0, 1, 0, []), (14, 9, 11, 0, []), (13, 5, 1, 0, []), (0, 0, 0, (-2), []), (33, 0, 0, 0, []), (1, 0, 1, 0, []), (28, 0, 0, 0, []), (14, 9, 11, 0, []), (0, 0, 0, 1, []), (3, 1, 0, 0, []), (16, 9, 11, 0, []), (1, 0, 1, 0, []), (0, 0, 0, 3, []), (1, 0, 1, 0, []), (14, 9, 11, 0, []), (3, 0, 0, 0, []), (0, 0, 0, 0, []), (36, 170, 3, 0, [9]), (1, 0, 1, 0, []), (14, 9, 11, 0, []), (33, 0, 0, 0, [])]
def bp_188 : List Nat := [0, 1, 4, 7, 9, 10, 11, 12, 15, 16, 17, 20, 21, 22, 23, 26, 27, 28, 31, 32, 35]
/-- ByInitialsModel.bestFirst.(I)I -/
def bc_189 : List Ins := [(1, 0, 1, 0, []), (0, 0, 0, 11, []), (1, 1, 0, 0, []), (36, 158, 3, 0, [9]), (2, 2, 0, 0, []), (0, 0, 0, (-4), []), (2, 3, 0, 0, []), (0, 0, 0, 0, []), (2, 4, 0, 0, []), (1, 4, 0, 0, []), (0, 0, 0, 26, []), (12, 60, 3, 0, []), (1, 0, 1, 0, []), (0, 0, 0, 11, []), (1, 4, 0, 0, []), (36, 167, 3, 0, [9]), (2, 5, 0, 0, []), (1, 0, 1, 0, []), (15, 9, 9, 0, []), (0, 0, 0, 1878, []), (0, 0, 0, 6, []), (1, 1, 0, 0, []), (3, 2, 0, 0, []), (3, 0, 0, 0, []), (1, 5, 0, 0, []), (19, 0, 0, 0, []), (1, 0, 1, 0, []), (0, 0, 0, 11, []), (36, 164, 2, 0, [9]), (13, 32, 3, 0, []), (0, 0, 0, 0, []), (11, 46, 0, 0, []), (1, 0, 1, 0, []), (15, 9, 16, 0, []), (1, 1, 0, 0, []), (18, 0, 0, 0, []), (1, 5, 0, 0, []), (1, 2, 0, 0, []), (12, 41, 1, 0, []), (0, 0, 0, 0, []), (11, 45, 0, 0, []), (1, 0, 1, 0, []), (15, 9, 3, 0, []), (0, 0, 0, 3, []), (18, 0, 0, 0, []), (3, 1, 0, 0, []), (2, 6, 0, 0, []), (1, 3, 0, 0, []), (13, 53, 2, 0, []), (1, 6, 0, 0, []), (1, 0, 1, 0, []), (14, 9, 24, 0, []), (12, 58, 5, 0, []), (1, 5, 0, 0, []), (2, 3, 0, 0, []), (1, 0, 1, 0, []), (1, 6, 0, 0, []), (16, 9, 24, 0, []), (10, 4, 0, 1, []), (11, 9, 0, 0, []), (1, 0, 1, 0, []), (15, 9, 9, 0, []), (0, 0, 0, 1878, []), (0, 0, 0, 6, []), (1, 1, 0, 0, []), (3, 2, 0, 0, []), (3, 0, 0, 0, []), (1, 2, 0, 0, []), (19, 0, 0, 0, []), (1, 3, 0, 0, []), (33, 0, 0, 0, [])]
def bp_189 : List Nat := [0, 1, 3, 4, 7, 8, 10, 11, 12, 14, 16, 18, 21, 22, 24, 26, 29, 31, 32, 35, 38, 40, 41, 42, 43, 45, 46, 47, 49, 52, 55, 56, 59, 60, 63, 64, 65, 67, 68, 71, 72, 75, 76, 79, 80, 81, 82, 84, 85, 88, 90, 91, 94, 97, 99, 100, 101, 103, 106, 109, 112, 113, 116, 119, 121, 122, 123, 124, 125, 126, 127]
/-- ByInitialsModel.change.(II)I -/
def bc_190 : List Ins := [(1, 0, 1, 0, []), (1, 1, 0, 0, []), (36, 156, 2, 0, [9]), (13, 10, 0, 0, []), (1, 2, 0, 0, []), (5, 0, 0, 0, []), (9, 0, 0, 0, []), (9, 0, 0, 1, []), (36, 140, 3, 1, []), (13, 12, 1, 0, []), (0, 0, 0, (-1), []), (33, 0, 0, 0, []), (1, 0, 1, 0, []), (0, 0, 0, 0, []), (1, 1, 0, 0, []), (36, 158, 3, 0, [9]), (13, 19, 3, 0, []), (0, 0, 0, (-2), []), (33, 0, 0, 0, []), (1, 0, 1, 0, []), (0, 0, 0, 0, []), (0, 0, 0, 11, []), (36, 170, 3, 0, [9]), (1, 0, 1, 0, []), (1, 1, 0, 0, []), (36, 189, 2, 0, [9]), (2, 3, 0, 0, []), (1, 2, 0, 0, []), (13, 31, 1, 0, []), (1, 3, 0, 0, []), (11, 35, 0, 0, []), (1, 0, 1, 0, []), (14, 9, 24, 0, []), (0, 0, 0, 100, []), (3, 0, 0, 0, []), (33, 0, 0, 0, [])]
def bp_190 : List Nat := [0, 1, 2, 5, 8, 9, 10, 11, 12, 15, 18, 19, 20, 21, 22, 23, 26, 29, 31, 32, 33, 34, 36, 39, 40, 41, 44, 45, 46, 49, 50, 53, 54, 57, 59, 60]
/-- ByInitialsModel.isRound.()Z -/
def bc_191 : List Ins := [(0, 0, 0, 0, []), (2, 1, 0, 0, []), (0, 0, 0, 0, []), (2, 2, 0, 0, []), (1, 2, 0, 0, []), (1, 0, 1, 0, []), (15, 9, 3, 0, []), (0, 0, 0, 0, []), (18, 0, 0, 0, []), (12, 42, 3, 0, []), (1, 0, 1, 0, []), (0, 0, 0, 11, []), (1, 2, 0, 0, []), (36, 158, 3, 0, [9]), (13, 40, 2, 0, []), (1, 0, 1, 0, []), (1, 2, 0, 0, []), (36, 189, 2, 0, [9]), (2, 3, 0, 0, []), (1, 1, 0, 0, []), (13, 27, 1, 0, []), (1, 3, 0, 0, []), (1, 0, 1, 0, []), (0, 0, 0, 11, []), (1, 2, 0, 0, []), (36, 158, 3, 0, [9]), (12, 29, 0, 0, []), (0, 0, 0, 1, []), (11, 30, 0, 0, []), (0, 0, 0, 0, []), (2, 1, 0, 0, []), (1, 0, 1, 0, []), (15, 9, 9, 0, []), (0, 0, 0, 1878, []), (0, 0, 0, 6, []), (1, 2, 0, 0, []), (3, 2, 0, 0, []), (3, 0, 0, 0, []), (1, 3, 0, 0, []), (19, 0, 0, 0, []), (10, 2, 0, 1, []), (11, 4, 0, 0, []), (1, 1, 0, 0, []), (33, 1, 0, 0, [])]
def bp_191 : List Nat := [0, 1, 2, 3, 4, 5, 6, 9, 10, 11, 14, 15, 17, 18, 21, 24, 25, 26, 29, 30, 31, 34, 35, 36, 38, 39, 42, 45, 46, 49, 50, 51, 52, 55, 58, 60, 61, 62, 63, 64, 65, 68, 71, 72]
/-- ByInitialsModel.run.(I)I -/
def bc_192 : List Ins := [(1, 1, 0, 0, []), (5, 0, 0, 0, []), (9, 0, 0, (-1), []), (1, 0, 1, 0, []), (15, 9, 3, 0, []), (0, 0, 0, 0, []), (18, 0, 0, 0, []), (0, 0, 0, 1, []), (3, 1, 0, 0, []), (5, 0, 0, 0, []), (36, 140, 3, 1, []), (13, 14, 1, 0, []), (0, 0, 0, (-1), []), (33, 0, 0, 0, []), (1, 0, 1, 0, []), (0, 0, 0, 0, []), (0, 0, 0, 11, []), (36, 170, 3, 0, [9]), (0, 0, 0, 0, []), (2, 2, 0, 0, []), (1, 2, 0, 0, []), (0, 0, 0, 20, []), (12, 37, 3, 0, []), (1, 0, 1, 0, []), (36, 191, 1, 0, [9]), (13, 35, 1, 0, []), (1, 1, 0, 0, []), (13, 30, 3, 0, []), (1, 2, 0, 0, []), (11, 34, 0, 0, []), (1, 0, 1, 0, []), (0, 0, 0, 11, []), (1, 1, 0, 0, []), (36, 158, 3, 0, [9]), (33, 0, 0, 0, []), (10, 2, 0, 1, []), (11, 20, 0, 0, []), (1, 1, 0, 0, []), (13, 44, 2, 0, []), (1, 0, 1, 0, []), (0, 0, 0, 11, []), (1, 1, 0, 0, []), (36, 158, 3, 0, [9]), (33, 0, 0, 0, []), (1, 0, 1, 0, []), (36, 191, 1, 0, [9]), (13, 49, 0, 0, []), (0, 0, 0, (-4), []), (11, 50, 0, 0, []), (0, 0, 0, 20, []), (33, 0, 0, 0, [])]
def bp_192 : List Nat := [0, 1, 2, 5, 6, 9, 10, 11, 12, 13, 14, 17, 20, 21, 22, 23, 24, 26, 29, 30, 31, 32, 34, 37, 38, 41, 44, 45, 48, 49, 52, 53, 55, 56, 59, 60, 63, 66, 67, 70, 71, 73, 74, 77, 78, 79, 82, 85, 87, 90, 92]
/-- ByInitialsModel.hasAll.(IIII)Z -/
def bc_193 : List Ins := [(1, 0, 1, 0, []), (0, 0, 0, 11, []), (1, 1, 0, 0, []), (36, 158, 3, 0, [9]), (2, 5, 0, 0, []), (1, 2, 0, 0, []), (0, 0, 0, 1, []), (3, 8, 0, 0, []), (13, 13, 0, 0, []), (1, 0, 1, 0, []), (1, 5, 0, 0, []), (36, 160, 2, 0, [9]), (13, 15, 0, 0, []), (0, 0, 0, 1, []), (11, 16, 0, 0, []), (0, 0, 0, 0, []), (2, 6, 0, 0, []), (1, 2, 0, 0, []), (0, 0, 0, 2, []), (3, 8, 0, 0, []), (13, 36, 0, 0, []), (1, 6, 0, 0, []), (13, 34, 0, 0, []), (1, 1, 0, 0, []), (1, 3, 0, 0, []), (12, 34, 0, 0, []), (1, 0, 1, 0, []), (0, 0, 0, 11, []), (1, 1, 0, 0, []), (1, 3, 0, 0, []), (36, 162, 4, 0, [9]), (13, 34, 0, 0, []), (0, 0, 0, 1, []), (11, 35, 0, 0, []), (0, 0, 0, 0, []), (2, 6, 0, 0, []), (1, 2, 0, 0, []), (0, 0, 0, 4, []), (3, 8, 0, 0, []), (13, 85, 0, 0, []), (1, 0, 1, 0, []), (0, 0, 0, 0, []), (1, 4, 0, 0, []), (36, 158, 3, 0, [9]), (2, 7, 0, 0, []), (1, 6, 0, 0, []), (13, 83, 0, 0, []), (1, 7, 0, 0, []), (13, 81, 2, 0, []), (1, 0, 1, 0, []), (15, 9, 9, 0, []), (0, 0, 0, 144, []), (1, 5, 0, 0, []), (3, 0, 0, 0, []), (18, 0, 0, 0, []), (1, 0, 1, 0, []), (15, 9, 9, 0, []), (0, 0, 0, 144, []), (1, 7, 0, 0, []), (3, 0, 0, 0, []), (18, 0, 0, 0, []), (3, 1, 0, 0, []), (5, 0, 0, 0, []), (1, 0, 1, 0, []), (15, 9, 3, 0, []), (0, 0, 0, 2, []), (18, 0, 0, 0, []), (4, 0, 0, 0, []), (5, 0, 0, 0, []), (1, 0, 1, 0, []), (15, 9, 3, 0, []), (0, 0, 0, 2, []), (18, 0, 0, 0, []), (5, 0, 0, 0, []), (36, 140, 3, 1, []), (13, 83, 0, 0, []), (1, 0, 1, 0, []), (1, 5, 0, 0, []), (1, 7, 0, 0, []), (36, 159, 3, 0, [9]), (13, 83, 1, 0, []), (0, 0, 0, 1, []), (11, 84, 0, 0, []), (0, 0, 0, 0, []), (2, 6, 0, 0, []), (1, 6, 0, 0, []), (33, 1, 0, 0, [])]
def bp_193 : List Nat := [0, 1, 3, 4, 7, 9, 10, 11, 12, 15, 16, 18, 21, 24, 25, 28, 29, 31, 32, 33, 34, 37, 39, 42, 43, 44, 47, 48, 50, 51, 52, 55, 58, 59, 62, 63, 65, 66, 67, 68, 71, 72, 73, 75, 78, 80, 82, 85, 87, 90, 91, 94, 97, 99, 100, 101, 102, 105, 108, 110, 111, 112, 113, 114, 115, 118, 119, 120, 121, 122, 123, 126, 127, 128, 129, 132, 135, 136, 138, 140, 143, 146, 147, 150, 151, 153, 155]
/-- ByInitialsModel.shortest.(IIIII)I -/
def bc_194 : List Ins := [(1, 0, 1, 0, []), (1, 1, 0, 0, []), (36, 156, 2, 0, [9]), (13, 24, 0, 0, []), (1, 2, 0, 0, []), (5, 0, 0, 0, []), (9, 0, 0, 0, []), (9, 0, 0, 7, []), (36, 140, 3, 1, []), (13, 24, 0, 0, []), (1, 0, 1, 0, []), (1, 3, 0, 0, []), (36, 156, 2, 0, [9]), (13, 24, 0, 0, []), (1, 0, 1, 0, []), (1, 4, 0, 0, []), (36, 156, 2, 0, [9]), (13, 24, 0, 0, []), (1, 5, 0, 0, []), (5, 0, 0, 0, []), (9, 0, 0, 0, []), (9, 0, 0, 3, []), (36, 140, 3, 1, []), (13, 26, 1, 0, []), (0, 0, 0, (-1), []), (33, 0, 0, 0, []), (1, 0, 1, 0, []), (0, 0, 0, 0, []), (0, 0, 0, 11, []), (36, 170, 3, 0, [9]), (0, 0, 0, 1, []), (2, 6, 0, 0, []), (0, 0, 0, 1, []), (2, 7, 0, 0, []), (1, 7, 0, 0, []), (0, 0, 0, 4, []), (12, 116, 3, 0, []), (1, 6, 0, 0, []), (0, 0, 0, 26, []), (3, 2, 0, 0, []), (2, 6, 0, 0, []), (1, 0, 1, 0, []), (15, 9, 9, 0, []), (0, 0, 0, 1870, []), (1, 1, 0, 0, []), (3, 0, 0, 0, []), (1, 7, 0, 0, []), (19, 0, 0, 0, []), (0, 0, 0, 0, []), (2, 8, 0, 0, []), (1, 8, 0, 0, []), (1, 6, 0, 0, []), (12, 114, 3, 0, []), (1, 8, 0, 0, []), (2, 9, 0, 0, []), (1, 7, 0, 0, []), (0, 0, 0, 1, []), (3, 1, 0, 0, []), (2, 10, 0, 0, []), (1, 10, 0, 0, []), (13, 83, 2, 0, []), (1, 0, 1, 0, []), (15, 9, 9, 0, []), (0, 0, 0, 1878, []), (0, 0, 0, 6, []), (1, 1, 0, 0, []), (3, 2, 0, 0, []), (3, 0, 0, 0, []), (1, 10, 0, 0, []), (3, 0, 0, 0, []), (1, 0, 1, 0, []), (0, 0, 0, 0, []), (1, 9, 0, 0, []), (0, 0, 0, 26, []), (3, 4, 0, 0, []), (36, 167, 3, 0, [9]), (19, 0, 0, 0, []), (1, 9, 0, 0, []), (0, 0, 0, 26, []), (3, 3, 0, 0, []), (2, 9, 0, 0, []), (10, 10, 0, (-1), []), (11, 59, 0, 0, []), (1, 0, 1, 0, []), (1, 1, 0, 0, []), (1, 2, 0, 0, []), (1, 3, 0, 0, []), (1, 4, 0, 0, []), (36, 193, 5, 0, [9]), (13, 112, 0, 0, []), (1, 5, 0, 0, []), (13, 94, 1, 0, []), (1, 7, 0, 0, []), (11, 111, 0, 0, []), (1, 5, 0, 0, []), (1, 7, 0, 0, []), (12, 99, 5, 0, []), (0, 0, 0, (-4), []), (11, 111, 0, 0, []), (1, 0, 1, 0, []), (15, 9, 9, 0, []), (0, 0, 0, 1878, []), (0, 0, 0, 6, []), (1, 1, 0, 0, []), (3, 2, 0, 0, []), (3, 0, 0, 0, []), (1, 5, 0, 0, []), (3, 0, 0, 0, []), (0, 0, 0, 1, []), (3, 1, 0, 0, []), (18, 0, 0, 0, []), (33, 0, 0, 0, []), (10, 8, 0, 1, []), (11, 50, 0, 0, []), (10, 7, 0, 1, []), (11, 34, 0, 0, []), (0, 0, 0, (-4), []), (33, 0, 0, 0, [])]
def bp_194 : List Nat := [0, 1, 2, 5, 8, 9, 10, 11, 14, 17, 20, 21, 22, 25, 28, 29, 31, 34, 37, 39, 40, 41, 44, 47, 50, 51, 52, 53, 54, 56, 59, 60, 62, 63, 65, 67, 68, 71, 73, 75, 76, 78, 79, 82, 85, 86, 87, 89, 90, 91, 93, 95, 97, 100, 102, 104, 106, 107, 108, 110, 112, 115, 116, 119, 122, 124, 125, 126, 127, 129, 130, 131, 132, 134, 136, 137, 140, 141, 143, 145, 146, 148, 151, 154, 155, 156, 157, 158, 160, 163, 166, 168, 171, 173, 176, 178, 180, 183, 185, 188, 189, 192, 195, 197, 198, 199, 200, 202, 203, 204, 205, 206, 207, 210, 213, 216, 219, 221]
/-- ByInitialsModel.weddings.(I)I -/
def bc_195 : List Ins := [(0, 0, 0, 0, []), (2, 2, 0, 0, []), (1, 2, 0, 0, []), (0, 0, 0, 1, []), (1, 0, 1, 0, []), (15, 9, 3, 0, []), (0, 0, 0, 0, []), (18, 0, 0, 0, []), (3, 5, 0, 0, []), (12, 117, 3, 0, []), (1, 0, 1, 0, []), (15, 9, 19, 0, []), (1, 2, 0, 0, []), (0, 0, 0, 0, []), (19, 0, 0, 0, []), (0, 0, 0, 0, []), (2, 3, 0, 0, []), (1, 3, 0, 0, []), (1, 0, 1, 0, []), (15, 9, 3, 0, []), (0, 0, 0, 0, []), (18, 0, 0, 0, []), (12, 31, 3, 0, []), (1, 2, 0, 0, []), (1, 3, 0, 0, []), (3, 6, 0, 0, []), (0, 0, 0, 1, []), (3, 8, 0, 0, []), (13, 31, 1, 0, []), (10, 3, 0, 1, []), (11, 17, 0, 0, []), (1, 3, 0, 0, []), (1, 0, 1, 0, []), (15, 9, 3, 0, []), (0, 0, 0, 0, []), (18, 0, 0, 0, []), (12, 115, 3, 0, []), (1, 2, 0, 0, []), (0, 0, 0, 1, []), (1, 3, 0, 0, []), (3, 5, 0, 0, []), (0, 0, 0, (-1), []), (3, 10, 0, 0, []), (3, 8, 0, 0, []), (2, 4, 0, 0, []), (1, 0, 1, 0, []), (15, 9, 19, 0, []), (1, 2, 0, 0, []), (1, 0, 1, 0, []), (15, 9, 19, 0, []), (1, 4, 0, 0, []), (18, 0, 0, 0, []), (19, 0, 0, 0, []), (1, 3, 0, 0, []), (0, 0, 0, 1, []), (3, 0, 0, 0, []), (2, 5, 0, 0, []), (1, 5, 0, 0, []), (1, 0, 1, 0, []), (15, 9, 3, 0, []), (0, 0, 0, 0, []), (18, 0, 0, 0, []), (12, 115, 3, 0, []), (1, 2, 0, 0, []), (1, 5, 0, 0, []), (3, 6, 0, 0, []), (0, 0, 0, 1, []), (3, 8, 0, 0, []), (0, 0, 0, 1, []), (12, 78, 1, 0, []), (1, 0, 1, 0, []), (1, 3, 0, 0, []), (1, 5, 0, 0, []), (1, 1, 0, 0, []), (36, 177, 4, 0, [9]), (13, 78, 0, 0, []), (0, 0, 0, 1, []), (11, 79, 0, 0, []), (0, 0, 0, 0, []), (2, 6, 0, 0, []), (1, 6, 0, 0, []), (13, 95, 0, 0, []), (1, 0, 1, 0, []), (15, 9, 19, 0, []), (1, 4, 0, 0, []), (0, 0, 0, 1, []), (1, 5, 0, 0, []), (3, 5, 0, 0, []), (0, 0, 0, (-1), []), (3, 10, 0, 0, []), (3, 8, 0, 0, []), (18, 0, 0, 0, []), (0, 0, 0, 1, []), (3, 0, 0, 0, []), (11, 96, 0, 0, []), (0, 0, 0, 0, []), (2, 7, 0, 0, []), (1, 0, 1, 0, []), (15, 9, 19, 0, []), (1, 2, 0, 0, []), (1, 7, 0, 0, []), (1, 0, 1, 0, []), (15, 9, 19, 0, []), (1, 2, 0, 0, []), (18, 0, 0, 0, []), (12, 108, 5, 0, []), (1, 7, 0, 0, []), (11, 112, 0, 0, []), (1, 0, 1, 0, []), (15, 9, 19, 0, []), (1, 2, 0, 0, []), (18, 0, 0, 0, []), (19, 0, 0, 0, []), (10, 5, 0, 1, []), (11, 57, 0, 0, []), (10, 2, 0, 1, []), (11, 2, 0, 0, []), (1, 0, 1, 0, []), (15, 9, 19, 0, []), (0, 0, 0, 1, []), (1, 0, 1, 0, []), (15, 9, 3, 0, []), (0, 0, 0, 0, []), (18, 0, 0, 0, []), (3, 5, 0, 0, []), (0, 0, 0, 1, []), (3, 1, 0, 0, []), (18, 0, 0, 0, []), (33, 0, 0, 0, [])]
def bp_195 : List Nat := [0, 1, 2, 3, 4, 5, 8, 9, 10, 11, 14, 15, 18, 19, 20, 21, 22, 23, 24, 25, 28, 29, 30, 33, 34, 35, 36, 37, 38, 41, 44, 47, 48, 49, 52, 53, 54, 57, 58, 59, 60, 61, 62, 63, 64, 66, 67, 70, 71, 72, 75, 77, 78, 79, 80, 81, 82, 84, 86, 87, 90, 91, 92, 95, 96, 98, 99, 100, 101, 102, 105, 106, 107, 109, 110, 113, 116, 117, 120, 121, 123, 125, 128, 129, 132, 134, 135, 137, 138, 139, 140, 141, 142, 143, 144, 147, 148, 150, 151, 154, 155, 157, 158, 161, 162, 163, 166, 168, 171, 172, 175, 176, 177, 178, 181, 184, 187, 190, 191, 194, 195, 196, 199, 200, 201, 202, 203, 204, 205]
/-- ByInitialsModel.match.(I)I -/
def bc_196 : List Ins := [(1, 1, 0, 0, []), (5, 0, 0, 0, []), (9, 0, 0, (-1), []), (1, 0, 1, 0, []), (15, 9, 3, 0, []), (0, 0, 0, 0, []), (18, 0, 0, 0, []), (0, 0, 0, 1, []), (3, 1, 0, 0, []), (5, 0, 0, 0, []), (36, 140, 3, 1, []), (13, 14, 1, 0, []), (0, 0, 0, (-1), []), (33, 0, 0, 0, []), (1, 0, 1, 0, []), (1, 0, 1, 0, []), (15, 9, 3, 0, []), (0, 0, 0, 2, []), (18, 0, 0, 0, []), (36, 195, 2, 0, [9]), (2, 2, 0, 0, []), (0, 0, 0, 1, []), (1, 0, 1, 0, []), (15, 9, 3, 0, []), (0, 0, 0, 0, []), (18, 0, 0, 0, []), (3, 5, 0, 0, []), (0, 0, 0, 1, []), (3, 1, 0, 0, []), (2, 3, 0, 0, []), (0, 0, 0, 0, []), (2, 4, 0, 0, []), (1, 4, 0, 0, []), (0, 0, 0, 8, []), (12, 42, 3, 0, []), (1, 0, 1, 0, []), (15, 9, 17, 0, []), (1, 4, 0, 0, []), (0, 0, 0, (-4), []), (19, 0, 0, 0, []), (10, 4, 0, 1, []), (11, 32, 0, 0, []), (0, 0, 0, 0, []), (2, 4, 0, 0, []), (1, 4, 0, 0, []), (1, 0, 1, 0, []), (15, 9, 3, 0, []), (0, 0, 0, 0, []), (18, 0, 0, 0, []), (12, 142, 3, 0, []), (1, 3, 0, 0, []), (1, 4, 0, 0, []), (3, 6, 0, 0, []), (0, 0, 0, 1, []), (3, 8, 0, 0, []), (0, 0, 0, 1, []), (12, 59, 1, 0, []), (0, 0, 0, 1, []), (11, 60, 0, 0, []), (0, 0, 0, 0, []), (2, 5, 0, 0, []), (1, 0, 1, 0, []), (15, 9, 19, 0, []), (1, 3, 0, 0, []), (18, 0, 0, 0, []), (2, 6, 0, 0, []), (1, 4, 0, 0, []), (0, 0, 0, 1, []), (3, 0, 0, 0, []), (2, 7, 0, 0, []), (1, 7, 0, 0, []), (1, 0, 1, 0, []), (15, 9, 3, 0, []), (0, 0, 0, 0, []), (18, 0, 0, 0, []), (12, 132, 3, 0, []), (1, 5, 0, 0, []), (13, 132, 0, 0, []), (1, 3, 0, 0, []), (0, 0, 0, 1, []), (1, 4, 0, 0, []), (3, 5, 0, 0, []), (0, 0, 0, (-1), []), (3, 10, 0, 0, []), (3, 8, 0, 0, []), (0, 0, 0, 1, []), (1, 7, 0, 0, []), (3, 5, 0, 0, []), (0, 0, 0, (-1), []), (3, 10, 0, 0, []), (3, 8, 0, 0, []), (2, 8, 0, 0, []), (1, 3, 0, 0, []), (1, 7, 0, 0, []), (3, 6, 0, 0, []), (0, 0, 0, 1, []), (3, 8, 0, 0, []), (0, 0, 0, 1, []), (12, 130, 1, 0, []), (1, 0, 1, 0, []), (1, 4, 0, 0, []), (1, 7, 0, 0, []), (1, 0, 1, 0, []), (15, 9, 3, 0, []), (0, 0, 0, 2, []), (18, 0, 0, 0, []), (36, 177, 4, 0, [9]), (13, 130, 0, 0, []), (1, 0, 1, 0, []), (15, 9, 19, 0, []), (1, 8, 0, 0, []), (18, 0, 0, 0, []), (0, 0, 0, 1, []), (3, 0, 0, 0, []), (1, 6, 0, 0, []), (12, 130, 1, 0, []), (1, 0, 1, 0, []), (15, 9, 17, 0, []), (1, 4, 0, 0, []), (1, 7, 0, 0, []), (19, 0, 0, 0, []), (1, 0, 1, 0, []), (15, 9, 17, 0, []), (1, 7, 0, 0, []), (1, 4, 0, 0, []), (19, 0, 0, 0, []), (1, 8, 0, 0, []), (2, 3, 0, 0, []), (0, 0, 0, 0, []), (2, 5, 0, 0, []), (10, 7, 0, 1, []), (11, 70, 0, 0, []), (1, 3, 0, 0, []), (0, 0, 0, 1, []), (1, 4, 0, 0, []), (3, 5, 0, 0, []), (0, 0, 0, (-1), []), (3, 10, 0, 0, []), (3, 8, 0, 0, []), (2, 3, 0, 0, []), (10, 4, 0, 1, []), (11, 44, 0, 0, []), (1, 1, 0, 0, []), (13, 146, 3, 0, []), (1, 2, 0, 0, []), (11, 150, 0, 0, []), (1, 0, 1, 0, []), (15, 9, 17, 0, []), (1, 1, 0, 0, []), (18, 0, 0, 0, []), (33, 0, 0, 0, [])]
def bp_196 : List Nat := [0, 1, 2, 5, 6, 9, 10, 11, 12, 13, 14, 17, 20, 21, 22, 23, 24, 27, 28, 29, 32, 33, 34, 35, 38, 39, 40, 41, 42, 43, 44, 45, 47, 49, 51, 54, 55, 58, 60, 62, 63, 66, 69, 70, 72, 74, 75, 78, 79, 80, 83, 84, 86, 87, 88, 89, 90, 93, 94, 97, 98, 100, 101, 104, 105, 106, 108, 110, 111, 112, 114, 116, 117, 120, 121, 122, 125, 127, 130, 131, 132, 134, 135, 136, 137, 138, 139, 141, 142, 143, 144, 145, 147, 148, 150, 151, 152, 153, 154, 157, 158, 160, 162, 163, 166, 167, 168, 171, 174, 175, 178, 180, 181, 182, 183, 185, 188, 189, 192, 194, 196, 197, 198, 201, 203, 205, 206, 208, 209, 210, 212, 215, 218, 219, 220, 222, 223, 224, 225, 226, 227, 230, 233, 234, 237, 238, 241, 242, 245, 246, 247]
/-- ByInitialsModel.wide.(I)I -/
def bc_197 : List Ins := [(1, 1, 0, 0, []), (5, 0, 0, 0, []), (9, 0, 0, 1, []), (9, 0, 0, 4, []), (36, 140, 3, 1, []), (13, 8, 1, 0, []), (0, 0, 0, (-1), []), (33, 0, 0, 0, []), (0, 0, 0, 0, []), (2, 2, 0, 0, []), (1, 2, 0, 0, []), (0, 0, 0, 26, []), (12, 22, 3, 0, []), (1, 0, 1, 0, []), (1, 2, 0, 0, []), (36, 195, 2, 0, [9]), (1, 1, 0, 0, []), (12, 20, 2, 0, []), (1, 2, 0, 0, []), (33, 0, 0, 0, []), (10, 2, 0, 1, []), (11, 10, 0, 0, []), (0, 0, 0, (-4), []), (33, 0, 0, 0, [])]
def bp_197 : List Nat := [0, 1, 2, 3, 6, 9, 12, 13, 14, 15, 16, 17, 19, 22, 23, 24, 27, 28, 31, 32, 33, 36, 39, 41]
/-- ByInitialsModel.owed.(II)I -/
def bc_198 : List Ins := [(1, 0, 1, 0, []), (1, 1, 0, 0, []), (36, 156, 2, 0, [9]), (13, 13, 0, 0, []), (1, 0, 1, 0, []), (1, 2, 0, 0, []), (36, 156, 2, 0, [9]), (13, 13, 0, 0, []), (1, 0, 1, 0, []), (1, 2, 0, 0, []), (1, 1, 0, 0, []), (36, 182, 3, 0, [9]), (11, 14, 0, 0, []), (0, 0, 0, (-1), []), (33, 0, 0, 0, [])]
def bp_198 : List Nat := [0, 1, 2, 5, 8, 9, 10, 13, 16, 17, 18, 19, 22, 25, 26]
/-- ByInitialsModel.netOf.(I)I -/
def bc_199 : List Ins := [(0, 0, 0, 0, []), (2, 2, 0, 0, []), (0, 0, 0, 0, []), (2, 3, 0, 0, []), (1, 3, 0, 0, []), (1, 0, 1, 0, []), (15, 9, 3, 0, []), (0, 0, 0, 0, []), (18, 0, 0, 0, []), (12, 24, 3, 0, []), (1, 2, 0, 0, []), (1, 0, 1, 0, []), (1, 3, 0, 0, []), (1, 1, 0, 0, []), (36, 182, 3, 0, [9]), (1, 0, 1, 0, []), (1, 1, 0, 0, []), (1, 3, 0, 0, []), (36, 182, 3, 0, [9]), (3, 1, 0, 0, []), (3, 0, 0, 0, []), (2, 2, 0, 0, []), (10, 3, 0, 1, []), (11, 4, 0, 0, []), (1, 2, 0, 0, []), (33, 0, 0, 0, [])]
def bp_199 : List Nat := [0, 1, 2, 3, 4, 5, 6, 9, 10, 11, 14, 15, 16, 17, 18, 21, 22, 23, 24, 27, 28, 29, 30, 33, 36, 37]
/-- ByInitialsModel.net.(I)I -/
def bc_200 : List Ins := [(1, 0, 1, 0, []), (1, 1, 0, 0, []), (36, 156, 2, 0, [9]), (13, 10, 0, 0, []), (1, 0, 1, 0, []), (1, 1, 0, 0, []), (36, 199, 2, 0, [9]), (0, 0, 0, 10000, []), (3, 0, 0, 0, []), (11, 11, 0, 0, []), (0, 0, 0, (-1), []), (33, 0, 0, 0, [])]
def bp_200 : List Nat := [0, 1, 2, 5, 8, 9, 10, 13, 16, 17, 20, 21]
/-- ByInitialsModel.chain.()I -/
def bc_201 : List Ins := [(0, 0, 0, 0, []), (2, 1, 0, 0, []), (1, 1, 0, 0, []), (0, 0, 0, 8, []), (12, 12, 3, 0, []), (1, 0, 1, 0, []), (15, 9, 17, 0, []), (1, 1, 0, 0, []), (0, 0, 0, 0, []), (19, 0, 0, 0, []), (10, 1, 0, 1, []), (11, 2, 0, 0, []), (0, 0, 0, 0, []), (2, 1, 0, 0, []), (0, 0, 0, 0, []), (2, 2, 0, 0, []), (1, 2, 0, 0, []), (1, 0, 1, 0, []), (15, 9, 3, 0, []), (0, 0, 0, 0, []), (18, 0, 0, 0, []), (12, 100, 4, 0, []), (0, 0, 0, 0, []), (2, 1, 0, 0, []), (0, 0, 0, 0, []), (2, 3, 0, 0, []), (1, 3, 0, 0, []), (1, 0, 1, 0, []), (15, 9, 3, 0, []), (0, 0, 0, 0, []), (18, 0, 0, 0, []), (12, 80, 3, 0, []), (0, 0, 0, 0, []), (2, 4, 0, 0, []), (0, 0, 0, 0, []), (2, 5, 0, 0, []), (1, 5, 0, 0, []), (1, 0, 1, 0, []), (15, 9, 3, 0, []), (0, 0, 0, 0, []), (18, 0, 0, 0, []), (12, 66, 3, 0, []), (1, 0, 1, 0, []), (1, 3, 0, 0, []), (1, 5, 0, 0, []), (36, 182, 3, 0, [9]), (13, 62, 5, 0, []), (1, 0, 1, 0, []), (15, 9, 17, 0, []), (1, 5, 0, 0, []), (18, 0, 0, 0, []), (0, 0, 0, 1, []), (3, 0, 0, 0, []), (1, 4, 0, 0, []), (12, 62, 5, 0, []), (1, 0, 1, 0, []), (15, 9, 17, 0, []), (1, 5, 0, 0, []), (18, 0, 0, 0, []), (0, 0, 0, 1, []), (3, 0, 0, 0, []), (11, 63, 0, 0, []), (1, 4, 0, 0, []), (2, 4, 0, 0, []), (10, 5, 0, 1, []), (11, 36, 0, 0, []), (1, 0, 1, 0, []), (15, 9, 18, 0, []), (1, 3, 0, 0, []), (1, 4, 0, 0, []), (19, 0, 0, 0, []), (1, 4, 0, 0, []), (1, 1, 0, 0, []), (12, 76, 5, 0, []), (1, 4, 0, 0, []), (11, 77, 0, 0, []), (1, 1, 0, 0, []), (2, 1, 0, 0, []), (10, 3, 0, 1, []), (11, 26, 0, 0, []), (0, 0, 0, 0, []), (2, 3, 0, 0, []), (1, 3, 0, 0, []), (1, 0, 1, 0, []), (15, 9, 3, 0, []), (0, 0, 0, 0, []), (18, 0, 0, 0, []), (12, 98, 3, 0, []), (1, 0, 1, 0, []), (15, 9, 17, 0, []), (1, 3, 0, 0, []), (1, 0, 1, 0, []), (15, 9, 18, 0, []), (1, 3, 0, 0, []), (18, 0, 0, 0, []), (19, 0, 0, 0, []), (10, 3, 0, 1, []), (11, 82, 0, 0, []), (10, 2, 0, 1, []), (11, 16, 0, 0, []), (1, 1, 0, 0, []), (1, 0, 1, 0, []), (15, 9, 3, 0, []), (0, 0, 0, 0, []), (18, 0, 0, 0, []), (12, 108, 2, 0, []), (0, 0, 0, (-4), []), (11, 109, 0, 0, []), (1, 1, 0, 0, []), (33, 0, 0, 0, [])]
def bp_201 : List Nat := [0, 1, 2, 3, 5, 8, 9, 12, 13, 14, 15, 18, 21, 22, 23, 24, 25, 26, 27, 30, 31, 32, 35, 36, 37, 38, 39, 40, 41, 44, 45, 46, 49, 50, 52, 53, 55, 57, 58, 61, 62, 63, 66, 67, 68, 70, 73, 76, 77, 80, 82, 83, 84, 85, 87, 90, 91, 94, 96, 97, 98, 99, 102, 104, 106, 109, 112, 113, 116, 117, 119, 120, 122, 123, 126, 128, 131, 132, 133, 136, 139, 140, 141, 142, 143, 146, 147, 148, 151, 152, 155, 156, 157, 160, 161, 162, 163, 166, 169, 172, 175, 176, 177, 180, 181, 182, 185, 187, 190, 191]
/-- ByInitialsModel.payments.()I -/
def bc_202 : List Ins := [(0, 0, 0, 0, []), (2, 1, 0, 0, []), (0, 0, 0, 0, []), (2, 2, 0, 0, []), (0, 0, 0, 0, []), (2, 3, 0, 0, []), (1, 3, 0, 0, []), (1, 0, 1, 0, []), (15, 9, 3, 0, []), (0, 0, 0, 0, []), (18, 0, 0, 0, []), (12, 36, 3, 0, []), (1, 1, 0, 0, []), (1, 0, 1, 0, []), (1, 3, 0, 0, []), (36, 199, 2, 0, [9]), (13, 21, 0, 0, []), (0, 0, 0, 1, []), (1, 3, 0, 0, []), (3, 5, 0, 0, []), (11, 22, 0, 0, []), (0, 0, 0, 0, []), (3, 9, 0, 0, []), (2, 1, 0, 0, []), (1, 2, 0, 0, []), (1, 0, 1, 0, []), (1, 3, 0, 0, []), (36, 199, 2, 0, [9]), (13, 31, 0, 0, []), (0, 0, 0, 1, []), (11, 32, 0, 0, []), (0, 0, 0, 0, []), (3, 0, 0, 0, []), (2, 2, 0, 0, []), (10, 3, 0, 1, []), (11, 6, 0, 0, []), (1, 0, 1, 0, []), (15, 9, 19, 0, []), (0, 0, 0, 0, []), (0, 0, 0, 0, []), (19, 0, 0, 0, []), (0, 0, 0, 1, []), (2, 3, 0, 0, []), (1, 3, 0, 0, []), (0, 0, 0, 1, []), (1, 0, 1, 0, []), (15, 9, 3, 0, []), (0, 0, 0, 0, []), (18, 0, 0, 0, []), (3, 5, 0, 0, []), (12, 128, 3, 0, []), (0, 0, 0, 0, []), (2, 4, 0, 0, []), (1, 0, 1, 0, []), (15, 9, 19, 0, []), (1, 3, 0, 0, []), (0, 0, 0, 0, []), (19, 0, 0, 0, []), (0, 0, 0, 0, []), (2, 5, 0, 0, []), (1, 5, 0, 0, []), (1, 0, 1, 0, []), (15, 9, 3, 0, []), (0, 0, 0, 0, []), (18, 0, 0, 0, []), (12, 108, 3, 0, []), (1, 3, 0, 0, []), (1, 5, 0, 0, []), (3, 6, 0, 0, []), (0, 0, 0, 1, []), (3, 8, 0, 0, []), (0, 0, 0, 1, []), (12, 106, 1, 0, []), (1, 4, 0, 0, []), (1, 0, 1, 0, []), (1, 5, 0, 0, []), (36, 199, 2, 0, [9]), (3, 0, 0, 0, []), (2, 4, 0, 0, []), (1, 0, 1, 0, []), (15, 9, 19, 0, []), (1, 3, 0, 0, []), (0, 0, 0, 1, []), (1, 5, 0, 0, []), (3, 5, 0, 0, []), (0, 0, 0, (-1), []), (3, 10, 0, 0, []), (3, 8, 0, 0, []), (18, 0, 0, 0, []), (2, 6, 0, 0, []), (1, 0, 1, 0, []), (15, 9, 19, 0, []), (1, 3, 0, 0, []), (1, 6, 0, 0, []), (1, 0, 1, 0, []), (15, 9, 19, 0, []), (1, 3, 0, 0, []), (18, 0, 0, 0, []), (12, 101, 5, 0, []), (1, 6, 0, 0, []), (11, 105, 0, 0, []), (1, 0, 1, 0, []), (15, 9, 19, 0, []), (1, 3, 0, 0, []), (18, 0, 0, 0, []), (19, 0, 0, 0, []), (10, 5, 0, 1, []), (11, 60, 0, 0, []), (1, 0, 1, 0, []), (15, 9, 19, 0, []), (1, 3, 0, 0, []), (29, 0, 0, 0, []), (18, 0, 0, 0, []), (1, 4, 0, 0, []), (13, 123, 1, 0, []), (1, 3, 0, 0, []), (1, 1, 0, 0, []), (0, 0, 0, (-1), []), (3, 10, 0, 0, []), (3, 8, 0, 0, []), (13, 123, 1, 0, []), (0, 0, 0, 1, []), (11, 124, 0, 0, []), (0, 0, 0, 0, []), (3, 0, 0, 0, []), (19, 0, 0, 0, []), (10, 3, 0, 1, []), (11, 43, 0, 0, []), (1, 2, 0, 0, []), (1, 0, 1, 0, []), (15, 9, 19, 0, []), (1, 1, 0, 0, []), (18, 0, 0, 0, []), (3, 1, 0, 0, []), (33, 0, 0, 0, [])]
def bp_202 : List Nat := [0, 1, 2, 3, 4, 5, 6, 7, 8, 11, 12, 13, 16, 17, 18, 19, 22, 25, 26, 27, 28, 31, 32, 33, 34, 35, 36, 37, 40, 43, 44, 47, 48, 49, 50, 53, 56, 57, 60, 61, 62, 63, 64, 65, 66, 67, 68, 71, 72, 73, 74, 77, 78, 80, 81, 84, 85, 86, 87, 88, 90, 92, 93, 96, 97, 98, 101, 102, 104, 105, 106, 107, 108, 111, 113, 114, 116, 119, 120, 122, 123, 126, 127, 128, 130, 131, 132, 133, 134, 135, 137, 138, 141, 142, 144, 145, 148, 149, 150, 153, 155, 158, 159, 162, 163, 164, 165, 168, 171, 172, 175, 176, 177, 178, 180, 183, 184, 185, 186, 187, 188, 191, 192, 195, 196, 197, 198, 201, 204, 205, 206, 209, 210, 211, 212]
/-- ByInitialsModel.isFoe.(II)Z -/
def bc_203 : List Ins := [(1, 0, 1, 0, []), (0, 0, 0, 0, []), (1, 1, 0, 0, []), (36, 158, 3, 0, [9]), (2, 3, 0, 0, []), (1, 0, 1, 0, []), (0, 0, 0, 0, []), (1, 2, 0, 0, []), (36, 158, 3, 0, [9]), (2, 4, 0, 0, []), (1, 1, 0, 0, []), (1, 2, 0, 0, []), (12, 24, 0, 0, []), (1, 3, 0, 0, []), (13, 24, 2, 0, []), (1, 4, 0, 0, []), (13, 24, 2, 0, []), (1, 0, 1, 0, []), (1, 3, 0, 0, []), (1, 4, 0, 0, []), (36, 159, 3, 0, [9]), (13, 24, 0, 0, []), (0, 0, 0, 1, []), (11, 25, 0, 0, []), (0, 0, 0, 0, []), (33, 1, 0, 0, [])]
def bp_203 : List Nat := [0, 1, 2, 3, 6, 7, 8, 9, 10, 13, 15, 16, 17, 20, 21, 24, 26, 29, 30, 31, 33, 36, 39, 40, 43, 44]
/-- ByInitialsModel.foes.()I -/
def bc_204 : List Ins := [(1, 0, 1, 0, []), (15, 9, 3, 0, []), (0, 0, 0, 0, []), (18, 0, 0, 0, []), (2, 1, 0, 0, []), (0, 0, 0, 0, []), (2, 2, 0, 0, []), (0, 0, 0, 0, []), (2, 3, 0, 0, []), (1, 3, 0, 0, []), (0, 0, 0, 1, []), (3, 0, 0, 0, []), (1, 1, 0, 0, []), (12, 35, 3, 0, []), (1, 2, 0, 0, []), (1, 0, 1, 0, []), (1, 0, 1, 0, []), (15, 9, 18, 0, []), (1, 3, 0, 0, []), (18, 0, 0, 0, []), (1, 0, 1, 0, []), (15, 9, 18, 0, []), (1, 3, 0, 0, []), (0, 0, 0, 1, []), (3, 0, 0, 0, []), (18, 0, 0, 0, []), (36, 203, 3, 0, [9]), (13, 30, 0, 0, []), (0, 0, 0, 1, []), (11, 31, 0, 0, []), (0, 0, 0, 0, []), (3, 0, 0, 0, []), (2, 2, 0, 0, []), (10, 3, 0, 1, []), (11, 9, 0, 0, []), (1, 2, 0, 0, []), (1, 1, 0, 0, []), (0, 0, 0, 2, []), (12, 54, 5, 0, []), (1, 0, 1, 0, []), (1, 0, 1, 0, []), (15, 9, 18, 0, []), (1, 1, 0, 0, []), (0, 0, 0, 1, []), (3, 1, 0, 0, []), (18, 0, 0, 0, []), (1, 0, 1, 0, []), (15, 9, 18, 0, []), (0, 0, 0, 0, []), (18, 0, 0, 0, []), (36, 203, 3, 0, [9]), (13, 54, 0, 0, []), (0, 0, 0, 1, []), (11, 55, 0, 0, []), (0, 0, 0, 0, []), (3, 0, 0, 0, []), (33, 0, 0, 0, [])]
def bp_204 : List Nat := [0, 1, 4, 5, 6, 7, 8, 9, 10, 11, 12, 13, 14, 15, 18, 19, 20, 21, 24, 25, 26, 27, 30, 31, 32, 33, 34, 37, 40, 41, 44, 45, 46, 47, 50, 53, 54, 55, 56, 59, 60, 61, 64, 65, 66, 67, 68, 69, 72, 73, 74, 77, 80, 81, 84, 85, 86]
/-- ByInitialsModel.follows.()Z -/
def bc_205 : List Ins := [(1, 0, 1, 0, []), (15, 9, 3, 0, []), (0, 0, 0, 0, []), (18, 0, 0, 0, []), (2, 1, 0, 0, []), (1, 1, 0, 0, []), (0, 0, 0, 2, []), (3, 1, 0, 0, []), (2, 2, 0, 0, []), (1, 2, 0, 0, []), (13, 24, 5, 0, []), (1, 0, 1, 0, []), (15, 9, 18, 0, []), (1, 2, 0, 0, []), (18, 0, 0, 0, []), (1, 0, 1, 0, []), (15, 9, 18, 0, []), (1, 2, 0, 0, []), (0, 0, 0, 1, []), (3, 0, 0, 0, []), (18, 0, 0, 0, []), (12, 24, 5, 0, []), (10, 2, 0, (-1), []), (11, 9, 0, 0, []), (1, 2, 0, 0, []), (0, 0, 0, 1, []), (12, 29, 3, 0, []), (0, 0, 0, 0, []), (33, 1, 0, 0, []), (1, 1, 0, 0, []), (0, 0, 0, 1, []), (3, 1, 0, 0, []), (2, 3, 0, 0, []), (1, 0, 1, 0, []), (15, 9, 18, 0, []), (1, 3, 0, 0, []), (18, 0, 0, 0, []), (1, 0, 1, 0, []), (15, 9, 18, 0, []), (1, 2, 0, 0, []), (18, 0, 0, 0, []), (12, 44, 3, 0, []), (10, 3, 0, (-1), []), (11, 33, 0, 0, []), (1, 0, 1, 0, []), (1, 2, 0, 0, []), (1, 3, 0, 0, []), (36, 206, 3, 0, [9]), (1, 2, 0, 0, []), (0, 0, 0, 1, []), (3, 0, 0, 0, []), (2, 4, 0, 0, []), (1, 4, 0, 0, []), (1, 1, 0, 0, []), (1, 2, 0, 0, []), (3, 0, 0, 0, []), (1, 4, 0, 0, []), (3, 1, 0, 0, []), (12, 69, 3, 0, []), (1, 0, 1, 0, []), (1, 4, 0, 0, []), (1, 1, 0, 0, []), (1, 2, 0, 0, []), (3, 0, 0, 0, []), (1, 4, 0, 0, []), (3, 1, 0, 0, []), (36, 206, 3, 0, [9]), (10, 4, 0, 1, []), (11, 52, 0, 0, []), (0, 0, 0, 1, []), (33, 1, 0, 0, [])]
def bp_205 : List Nat := [0, 1, 4, 5, 6, 7, 8, 9, 10, 11, 12, 15, 16, 19, 20, 21, 22, 25, 26, 27, 28, 29, 32, 35, 38, 39, 40, 43, 44, 45, 46, 47, 48, 49, 50, 53, 54, 55, 56, 59, 60, 61, 64, 67, 70, 71, 72, 73, 76, 77, 78, 79, 81, 83, 84, 85, 86, 88, 89, 92, 93, 95, 96, 97, 98, 100, 101, 104, 107, 110, 111]
/-- ByInitialsModel.swapsRow.(II)V -/
def bc_206 : List Ins := [(1, 0, 1, 0, []), (15, 9, 18, 0, []), (1, 1, 0, 0, []), (18, 0, 0, 0, []), (2, 3, 0, 0, []), (1, 0, 1, 0, []), (15, 9, 18, 0, []), (1, 1, 0, 0, []), (1, 0, 1, 0, []), (15, 9, 18, 0, []), (1, 2, 0, 0, []), (18, 0, 0, 0, []), (19, 0, 0, 0, []), (1, 0, 1, 0, []), (15, 9, 18, 0, []), (1, 2, 0, 0, []), (1, 3, 0, 0, []), (19, 0, 0, 0, []), (34, 0, 0, 0, [])]
def bp_206 : List Nat := [0, 1, 4, 5, 6, 7, 8, 11, 12, 13, 16, 17, 18, 19, 20, 23, 24, 25, 26]
/-- ByInitialsModel.seats.(I)I -/
def bc_207 : List Ins := [(1, 1, 0, 0, []), (5, 0, 0, 0, []), (9, 0, 0, (-2), []), (1, 0, 1, 0, []), (15, 9, 3, 0, []), (0, 0, 0, 0, []), (18, 0, 0, 0, []), (0, 0, 0, 1, []), (3, 1, 0, 0, []), (5, 0, 0, 0, []), (36, 140, 3, 1, []), (13, 14, 1, 0, []), (0, 0, 0, (-1), []), (33, 0, 0, 0, []), (0, 0, 0, 0, []), (2, 2, 0, 0, []), (1, 2, 0, 0, []), (0, 0, 0, 8, []), (12, 26, 3, 0, []), (1, 0, 1, 0, []), (15, 9, 18, 0, []), (1, 2, 0, 0, []), (1, 2, 0, 0, []), (19, 0, 0, 0, []), (10, 2, 0, 1, []), (11, 16, 0, 0, []), (0, 0, 0, 99, []), (2, 2, 0, 0, []), (0, 0, 0, 0, []), (2, 3, 0, 0, []), (0, 0, 0, 1, []), (2, 4, 0, 0, []), (1, 4, 0, 0, []), (13, 72, 0, 0, []), (1, 0, 1, 0, []), (36, 204, 1, 0, [9]), (2, 5, 0, 0, []), (1, 5, 0, 0, []), (1, 2, 0, 0, []), (12, 59, 3, 0, []), (1, 5, 0, 0, []), (2, 2, 0, 0, []), (0, 0, 0, 0, []), (2, 3, 0, 0, []), (0, 0, 0, 0, []), (2, 6, 0, 0, []), (1, 6, 0, 0, []), (0, 0, 0, 8, []), (12, 59, 3, 0, []), (1, 0, 1, 0, []), (15, 9, 17, 0, []), (1, 6, 0, 0, []), (1, 0, 1, 0, []), (15, 9, 18, 0, []), (1, 6, 0, 0, []), (18, 0, 0, 0, []), (19, 0, 0, 0, []), (10, 6, 0, 1, []), (11, 46, 0, 0, []), (1, 3, 0, 0, []), (1, 5, 0, 0, []), (1, 2, 0, 0, []), (12, 65, 1, 0, []), (0, 0, 0, 1, []), (11, 66, 0, 0, []), (0, 0, 0, 0, []), (3, 0, 0, 0, []), (2, 3, 0, 0, []), (1, 0, 1, 0, []), (36, 205, 1, 0, [9]), (2, 4, 0, 0, []), (11, 32, 0, 0, []), (1, 1, 0, 0, []), (0, 0, 0, (-1), []), (12, 77, 1, 0, []), (1, 2, 0, 0, []), (11, 86, 0, 0, []), (1, 1, 0, 0, []), (0, 0, 0, (-2), []), (12, 82, 1, 0, []), (1, 3, 0, 0, []), (11, 86, 0, 0, []), (1, 0, 1, 0, []), (15, 9, 17, 0, []), (1, 1, 0, 0, []), (18, 0, 0, 0, []), (33, 0, 0, 0, [])]
def bp_207 : List Nat := [0, 1, 2, 5, 6, 9, 10, 11, 12, 13, 14, 17, 20, 21, 22, 23, 24, 25, 27, 30, 31, 34, 35, 36, 37, 40, 43, 45, 46, 47, 48, 49, 51, 53, 56, 57, 60, 62, 64, 65, 68, 70, 71, 72, 73, 74, 76, 78, 80, 83, 84, 87, 89, 90, 93, 95, 96, 97, 100, 103, 104, 106, 107, 110, 111, 114, 115, 116, 117, 118, 121, 123, 126, 127, 128, 131, 132, 135, 136, 138, 141, 142, 145, 146, 149, 150, 151]
/-- ByInitialsModel.bestSwap.(I)I -/
def bc_208 : List Ins := [(1, 1, 0, 0, []), (5, 0, 0, 0, []), (9, 0, 0, 0, []), (9, 0, 0, 1, []), (36, 140, 3, 1, []), (13, 8, 1, 0, []), (0, 0, 0, (-1), []), (33, 0, 0, 0, []), (1, 0, 1, 0, []), (0, 0, 0, 0, []), (36, 164, 2, 0, [9]), (2, 2, 0, 0, []), (0, 0, 0, (-4), []), (2, 3, 0, 0, []), (0, 0, 0, 0, []), (2, 4, 0, 0, []), (0, 0, 0, 0, []), (2, 5, 0, 0, []), (1, 5, 0, 0, []), (1, 0, 1, 0, []), (15, 9, 3, 0, []), (0, 0, 0, 0, []), (18, 0, 0, 0, []), (12, 42, 3, 0, []), (1, 4, 0, 0, []), (1, 0, 1, 0, []), (0, 0, 0, 0, []), (1, 5, 0, 0, []), (36, 158, 3, 0, [9]), (13, 32, 3, 0, []), (0, 0, 0, 0, []), (11, 38, 0, 0, []), (0, 0, 0, 1, []), (1, 0, 1, 0, []), (0, 0, 0, 0, []), (1, 5, 0, 0, []), (36, 158, 3, 0, [9]), (3, 5, 0, 0, []), (3, 9, 0, 0, []), (2, 4, 0, 0, []), (10, 5, 0, 1, []), (11, 18, 0, 0, []), (0, 0, 0, 0, []), (2, 5, 0, 0, []), (1, 5, 0, 0, []), (0, 0, 0, 26, []), (12, 103, 3, 0, []), (1, 5, 0, 0, []), (0, 0, 0, 1, []), (3, 0, 0, 0, []), (2, 6, 0, 0, []), (1, 6, 0, 0, []), (0, 0, 0, 26, []), (12, 101, 3, 0, []), (1, 4, 0, 0, []), (1, 5, 0, 0, []), (3, 6, 0, 0, []), (0, 0, 0, 1, []), (3, 8, 0, 0, []), (0, 0, 0, 1, []), (12, 99, 1, 0, []), (1, 4, 0, 0, []), (1, 6, 0, 0, []), (3, 6, 0, 0, []), (0, 0, 0, 1, []), (3, 8, 0, 0, []), (0, 0, 0, 1, []), (12, 99, 1, 0, []), (1, 0, 1, 0, []), (0, 0, 0, 0, []), (0, 0, 0, 11, []), (36, 170, 3, 0, [9]), (1, 0, 1, 0, []), (0, 0, 0, 11, []), (1, 5, 0, 0, []), (1, 6, 0, 0, []), (36, 185, 4, 0, [9]), (1, 0, 1, 0, []), (0, 0, 0, 11, []), (36, 164, 2, 0, [9]), (2, 7, 0, 0, []), (1, 7, 0, 0, []), (1, 2, 0, 0, []), (12, 90, 5, 0, []), (0, 0, 0, 26, []), (1, 5, 0, 0, []), (3, 2, 0, 0, []), (1, 6, 0, 0, []), (3, 0, 0, 0, []), (11, 91, 0, 0, []), (1, 3, 0, 0, []), (2, 3, 0, 0, []), (1, 7, 0, 0, []), (1, 2, 0, 0, []), (12, 97, 5, 0, []), (1, 7, 0, 0, []), (11, 98, 0, 0, []), (1, 2, 0, 0, []), (2, 2, 0, 0, []), (10, 6, 0, 1, []), (11, 51, 0, 0, []), (10, 5, 0, 1, []), (11, 44, 0, 0, []), (1, 3, 0, 0, []), (13, 107, 2, 0, []), (1, 1, 0, 0, []), (13, 109, 1, 0, []), (1, 3, 0, 0, []), (11, 110, 0, 0, []), (1, 2, 0, 0, []), (33, 0, 0, 0, [])]
def bp_208 : List Nat := [0, 1, 2, 3, 4, 7, 10, 11, 12, 13, 14, 17, 18, 20, 21, 22, 24, 25, 27, 29, 30, 33, 34, 35, 38, 40, 41, 42, 44, 47, 50, 51, 54, 55, 56, 57, 59, 62, 63, 64, 66, 69, 72, 73, 75, 77, 79, 82, 84, 85, 86, 88, 90, 92, 95, 97, 99, 100, 101, 102, 103, 106, 108, 110, 111, 112, 113, 114, 117, 118, 119, 121, 124, 125, 127, 129, 131, 134, 135, 137, 140, 142, 144, 145, 148, 150, 152, 153, 155, 156, 159, 160, 161, 163, 164, 167, 169, 172, 173, 174, 177, 180, 183, 186, 187, 190, 191, 194, 195, 198, 199]
/-- ByInitialsModel.enter.(II)I -/
def bc_209 : List Ins := [(1, 1, 0, 0, []), (36, 157, 1, 1, []), (13, 9, 0, 0, []), (1, 2, 0, 0, []), (5, 0, 0, 0, []), (9, 0, 0, 0, []), (9, 0, 0, 9, []), (36, 140, 3, 1, []), (13, 11, 1, 0, []), (0, 0, 0, (-1), []), (33, 0, 0, 0, []), (1, 0, 1, 0, []), (14, 9, 14, 0, []), (0, 0, 0, 8, []), (12, 17, 1, 0, []), (0, 0, 0, (-3), []), (33, 0, 0, 0, []), (1, 0, 1, 0, []), (15, 9, 15, 0, []), (0, 0, 0, 2, []), (1, 0, 1, 0, []), (14, 9, 14, 0, []), (3, 2, 0, 0, []), (1, 1, 0, 0, []), (19, 0, 0, 0, []), (1, 0, 1, 0, []), (15, 9, 15, 0, []), (0, 0, 0, 2, []), (1, 0, 1, 0, []), (14, 9, 14, 0, []), (3, 2, 0, 0, []), (0, 0, 0, 1, []), (3, 0, 0, 0, []), (1, 2, 0, 0, []), (19, 0, 0, 0, []), (1, 0, 1, 0, []), (28, 0, 0, 0, []), (14, 9, 14, 0, []), (0, 0, 0, 1, []), (3, 0, 0, 0, []), (16, 9, 14, 0, []), (1, 0, 1, 0, []), (14, 9, 14, 0, []), (33, 0, 0, 0, [])]
def bp_209 : List Nat := [0, 1, 4, 7, 8, 9, 10, 13, 16, 19, 20, 21, 22, 25, 27, 30, 32, 33, 34, 37, 38, 39, 42, 43, 44, 45, 46, 49, 50, 51, 54, 55, 56, 57, 58, 59, 60, 61, 64, 65, 66, 69, 70, 73]
/-- ByInitialsModel.close.()I -/
def bc_210 : List Ins := [(1, 0, 1, 0, []), (14, 9, 14, 0, []), (2, 1, 0, 0, []), (1, 0, 1, 0, []), (0, 0, 0, 0, []), (16, 9, 14, 0, []), (1, 1, 0, 0, []), (33, 0, 0, 0, [])]
def bp_210 : List Nat := [0, 1, 4, 5, 6, 7, 10, 11]
/-- ByInitialsModel.ways.(I)I -/
def bc_211 : List Ins := [(1, 0, 1, 0, []), (0, 0, 0, 0, []), (36, 164, 2, 0, [9]), (2, 2, 0, 0, []), (1, 0, 1, 0, []), (1, 2, 0, 0, []), (1, 2, 0, 0, []), (3, 1, 0, 0, []), (16, 9, 20, 0, []), (0, 0, 0, 0, []), (2, 3, 0, 0, []), (0, 0, 0, 0, []), (2, 4, 0, 0, []), (0, 0, 0, 0, []), (2, 5, 0, 0, []), (1, 5, 0, 0, []), (0, 0, 0, 8, []), (12, 25, 3, 0, []), (1, 0, 1, 0, []), (15, 9, 18, 0, []), (1, 5, 0, 0, []), (0, 0, 0, (-1), []), (19, 0, 0, 0, []), (10, 5, 0, 1, []), (11, 15, 0, 0, []), (1, 4, 0, 0, []), (13, 62, 2, 0, []), (1, 4, 0, 0, []), (1, 0, 1, 0, []), (14, 9, 14, 0, []), (12, 49, 1, 0, []), (10, 3, 0, 1, []), (1, 0, 1, 0, []), (28, 0, 0, 0, []), (14, 9, 20, 0, []), (1, 1, 0, 0, []), (13, 44, 2, 0, []), (0, 0, 0, 1, []), (1, 0, 1, 0, []), (15, 9, 18, 0, []), (1, 1, 0, 0, []), (18, 0, 0, 0, []), (3, 5, 0, 0, []), (11, 45, 0, 0, []), (0, 0, 0, 0, []), (3, 9, 0, 0, []), (16, 9, 20, 0, []), (10, 4, 0, (-1), []), (11, 25, 0, 0, []), (1, 0, 1, 0, []), (1, 4, 0, 0, []), (36, 212, 2, 0, [9]), (13, 55, 0, 0, []), (10, 4, 0, 1, []), (11, 25, 0, 0, []), (1, 0, 1, 0, []), (15, 9, 18, 0, []), (1, 4, 0, 0, []), (0, 0, 0, (-1), []), (19, 0, 0, 0, []), (10, 4, 0, (-1), []), (11, 25, 0, 0, []), (1, 3, 0, 0, []), (33, 0, 0, 0, [])]
def bp_211 : List Nat := [0, 1, 2, 5, 6, 7, 8, 9, 10, 13, 14, 15, 16, 18, 19, 21, 23, 25, 28, 29, 32, 34, 35, 36, 39, 42, 44, 47, 49, 50, 53, 56, 59, 60, 61, 64, 65, 68, 69, 70, 73, 74, 75, 76, 79, 80, 81, 84, 87, 90, 91, 93, 96, 99, 102, 105, 106, 109, 111, 112, 113, 116, 119, 120]
/-- ByInitialsModel.isNext.(I)Z -/
def bc_212 : List Ins := [(1, 0, 1, 0, []), (15, 9, 18, 0, []), (1, 1, 0, 0, []), (18, 0, 0, 0, []), (0, 0, 0, 1, []), (3, 0, 0, 0, []), (2, 2, 0, 0, []), (1, 2, 0, 0, []), (1, 0, 1, 0, []), (15, 9, 3, 0, []), (0, 0, 0, 0, []), (18, 0, 0, 0, []), (12, 71, 3, 0, []), (1, 0, 1, 0, []), (0, 0, 0, 0, []), (1, 2, 0, 0, []), (36, 158, 3, 0, [9]), (1, 0, 1, 0, []), (15, 9, 15, 0, []), (0, 0, 0, 2, []), (1, 1, 0, 0, []), (3, 2, 0, 0, []), (18, 0, 0, 0, []), (12, 39, 1, 0, []), (1, 0, 1, 0, []), (15, 9, 16, 0, []), (1, 2, 0, 0, []), (18, 0, 0, 0, []), (1, 0, 1, 0, []), (15, 9, 15, 0, []), (0, 0, 0, 2, []), (1, 1, 0, 0, []), (3, 2, 0, 0, []), (0, 0, 0, 1, []), (3, 0, 0, 0, []), (18, 0, 0, 0, []), (12, 39, 1, 0, []), (0, 0, 0, 1, []), (11, 40, 0, 0, []), (0, 0, 0, 0, []), (2, 3, 0, 0, []), (0, 0, 0, 0, []), (2, 4, 0, 0, []), (1, 4, 0, 0, []), (1, 1, 0, 0, []), (12, 60, 3, 0, []), (1, 3, 0, 0, []), (13, 56, 0, 0, []), (1, 0, 1, 0, []), (15, 9, 18, 0, []), (1, 4, 0, 0, []), (18, 0, 0, 0, []), (1, 2, 0, 0, []), (12, 56, 0, 0, []), (0, 0, 0, 1, []), (11, 57, 0, 0, []), (0, 0, 0, 0, []), (2, 3, 0, 0, []), (10, 4, 0, 1, []), (11, 43, 0, 0, []), (1, 3, 0, 0, []), (13, 69, 0, 0, []), (1, 0, 1, 0, []), (15, 9, 18, 0, []), (1, 1, 0, 0, []), (1, 2, 0, 0, []), (19, 0, 0, 0, []), (0, 0, 0, 1, []), (33, 1, 0, 0, []), (10, 2, 0, 1, []), (11, 7, 0, 0, []), (0, 0, 0, 0, []), (33, 1, 0, 0, [])]
def bp_212 : List Nat := [0, 1, 4, 5, 6, 7, 8, 9, 10, 11, 14, 15, 16, 19, 20, 21, 22, 25, 26, 29, 30, 31, 32, 33, 36, 37, 40, 41, 42, 43, 46, 47, 48, 49, 50, 51, 52, 55, 56, 59, 60, 61, 62, 64, 66, 67, 70, 71, 74, 75, 78, 80, 81, 82, 85, 86, 89, 90, 91, 94, 97, 98, 101, 102, 105, 106, 107, 108, 109, 110, 113, 116, 117]
/-- ByInitialsModel.fits.()I -/
def bc_213 : List Ins := [(1, 0, 1, 0, []), (0, 0, 0, (-1), []), (36, 211, 2, 0, [9]), (33, 0, 0, 0, [])]
def bp_213 : List Nat := [0, 1, 2, 5]
/-- ByInitialsModel.sure.(I)I -/
def bc_214 : List Ins := [(1, 1, 0, 0, []), (5, 0, 0, 0, []), (9, 0, 0, 0, []), (1, 0, 1, 0, []), (14, 9, 14, 0, []), (0, 0, 0, 1, []), (3, 1, 0, 0, []), (5, 0, 0, 0, []), (36, 140, 3, 1, []), (13, 12, 1, 0, []), (0, 0, 0, (-1), []), (33, 0, 0, 0, []), (1, 0, 1, 0, []), (1, 1, 0, 0, []), (36, 211, 2, 0, [9]), (2, 2, 0, 0, []), (0, 0, 0, (-4), []), (2, 3, 0, 0, []), (0, 0, 0, 0, []), (2, 4, 0, 0, []), (1, 4, 0, 0, []), (0, 0, 0, 8, []), (12, 37, 3, 0, []), (1, 2, 0, 0, []), (13, 33, 5, 0, []), (1, 0, 1, 0, []), (14, 9, 20, 0, []), (0, 0, 0, 1, []), (1, 4, 0, 0, []), (3, 5, 0, 0, []), (12, 33, 1, 0, []), (1, 4, 0, 0, []), (11, 34, 0, 0, []), (1, 3, 0, 0, []), (2, 3, 0, 0, []), (10, 4, 0, 1, []), (11, 20, 0, 0, []), (1, 3, 0, 0, []), (33, 0, 0, 0, [])]
def bp_214 : List Nat := [0, 1, 2, 3, 4, 7, 8, 9, 10, 13, 16, 17, 18, 19, 20, 23, 24, 26, 27, 28, 30, 32, 34, 37, 38, 41, 42, 45, 46, 48, 49, 52, 54, 57, 58, 59, 62, 65, 66]
/-- ByInitialsModel.year.(II)I -/
def bc_215 : List Ins := [(1, 1, 0, 0, []), (5, 0, 0, 0, []), (9, 0, 0, 0, []), (9, 0, 0, 9999, []), (36, 140, 3, 1, []), (13, 12, 0, 0, []), (1, 2, 0, 0, []), (5, 0, 0, 0, []), (9, 0, 0, 0, []), (9, 0, 0, 1, []), (36, 140, 3, 1, []), (13, 14, 1, 0, []), (0, 0, 0, (-1), []), (33, 0, 0, 0, []), (1, 0, 1, 0, []), (0, 0, 0, 0, []), (0, 0, 0, 11, []), (36, 170, 3, 0, [9]), (0, 0, 0, 0, []), (2, 3, 0, 0, []), (0, 0, 0, 0, []), (2, 4, 0, 0, []), (1, 4, 0, 0, []), (1, 0, 1, 0, []), (15, 9, 3, 0, []), (0, 0, 0, 0, []), (18, 0, 0, 0, []), (12, 74, 3, 0, []), (9, 0, 0, 7919, []), (1, 1, 0, 0, []), (5, 0, 0, 0, []), (7, 1, 0, 0, []), (9, 0, 0, 6151, []), (1, 4, 0, 0, []), (5, 0, 0, 0, []), (7, 1, 0, 0, []), (7, 0, 0, 0, []), (9, 0, 0, 1, []), (7, 0, 0, 0, []), (2, 5, 2, 0, []), (1, 0, 1, 0, []), (0, 0, 0, 0, []), (1, 4, 0, 0, []), (36, 158, 3, 0, [9]), (13, 61, 2, 0, []), (1, 0, 1, 0, []), (15, 9, 9, 0, []), (0, 0, 0, 1878, []), (0, 0, 0, 6, []), (1, 4, 0, 0, []), (3, 2, 0, 0, []), (3, 0, 0, 0, []), (1, 5, 2, 0, []), (1, 5, 2, 0, []), (7, 1, 0, 0, []), (9, 0, 0, 65521, []), (7, 2, 0, 0, []), (9, 0, 0, 26, []), (7, 2, 0, 0, []), (6, 0, 0, 0, []), (19, 0, 0, 0, []), (1, 3, 0, 0, []), (1, 0, 1, 0, []), (0, 0, 0, 11, []), (1, 4, 0, 0, []), (36, 161, 3, 0, [9]), (13, 69, 0, 0, []), (0, 0, 0, 1, []), (11, 70, 0, 0, []), (0, 0, 0, 0, []), (3, 0, 0, 0, []), (2, 3, 0, 0, []), (10, 4, 0, 1, []), (11, 22, 0, 0, []), (1, 2, 0, 0, []), (0, 0, 0, 1, []), (12, 79, 1, 0, []), (1, 3, 0, 0, []), (11, 82, 0, 0, []), (1, 0, 1, 0, []), (0, 0, 0, 11, []), (36, 164, 2, 0, [9]), (33, 0, 0, 0, [])]
def bp_215 : List Nat := [0, 1, 2, 3, 6, 9, 12, 13, 14, 15, 16, 19, 22, 23, 24, 25, 26, 28, 31, 32, 33, 34, 36, 38, 39, 42, 43, 44, 47, 50, 51, 52, 53, 56, 58, 59, 60, 61, 62, 63, 65, 66, 67, 69, 72, 75, 76, 79, 82, 84, 86, 87, 88, 90, 92, 93, 96, 97, 100, 101, 102, 103, 104, 105, 107, 109, 112, 115, 116, 119, 120, 121, 122, 125, 128, 129, 130, 133, 134, 137, 138, 140, 143]
/-- ByInitialsModel.keep.()I -/
def bc_216 : List Ins := [(1, 0, 1, 0, []), (14, 9, 10, 0, []), (0, 0, 0, 2, []), (12, 6, 1, 0, []), (0, 0, 0, (-3), []), (33, 0, 0, 0, []), (1, 0, 1, 0, []), (28, 0, 0, 0, []), (14, 9, 10, 0, []), (0, 0, 0, 1, []), (3, 0, 0, 0, []), (16, 9, 10, 0, []), (1, 0, 1, 0, []), (0, 0, 0, 0, []), (1, 0, 1, 0, []), (14, 9, 10, 0, []), (36, 170, 3, 0, [9]), (1, 0, 1, 0, []), (14, 9, 10, 0, []), (33, 0, 0, 0, [])]
def bp_216 : List Nat := [0, 1, 4, 5, 8, 10, 11, 12, 13, 16, 17, 18, 21, 22, 23, 24, 27, 30, 31, 34]
/-- ByInitialsModel.back.()I -/
def bc_217 : List Ins := [(1, 0, 1, 0, []), (14, 9, 10, 0, []), (13, 5, 1, 0, []), (0, 0, 0, (-2), []), (33, 0, 0, 0, []), (1, 0, 1, 0, []), (1, 0, 1, 0, []), (14, 9, 10, 0, []), (0, 0, 0, 0, []), (36, 170, 3, 0, [9]), (1, 0, 1, 0, []), (28, 0, 0, 0, []), (14, 9, 10, 0, []), (0, 0, 0, 1, []), (3, 1, 0, 0, []), (16, 9, 10, 0, []), (1, 0, 1, 0, []), (0, 0, 0, 0, []), (16, 9, 11, 0, []), (1, 0, 1, 0, []), (14, 9, 10, 0, []), (33, 0, 0, 0, [])]
def bp_217 : List Nat := [0, 1, 4, 7, 9, 10, 11, 12, 15, 16, 19, 20, 21, 24, 25, 26, 29, 30, 31, 34, 35, 38]
/-- ByInitialsModel.count.(I)I -/
def bc_218 : List Ins := [(1, 1, 0, 0, []), (5, 0, 0, 0, []), (9, 0, 0, 0, []), (9, 0, 0, 10, []), (36, 140, 3, 1, []), (13, 8, 1, 0, []), (0, 0, 0, (-1), []), (33, 0, 0, 0, []), (1, 1, 0, 0, []), (0, 0, 0, 4, []), (12, 16, 3, 0, []), (1, 0, 1, 0, []), (15, 9, 3, 0, []), (1, 1, 0, 0, []), (18, 0, 0, 0, []), (33, 0, 0, 0, []), (1, 1, 0, 0, []), (31, 36, 0, 4, [18, 21, 24, 27, 30, 33]), (1, 0, 1, 0, []), (14, 9, 12, 0, []), (33, 0, 0, 0, []), (1, 0, 1, 0, []), (36, 180, 1, 0, [9]), (33, 0, 0, 0, []), (1, 0, 1, 0, []), (14, 9, 14, 0, []), (33, 0, 0, 0, []), (1, 0, 1, 0, []), (14, 9, 11, 0, []), (33, 0, 0, 0, []), (1, 0, 1, 0, []), (14, 9, 10, 0, []), (33, 0, 0, 0, []), (1, 0, 1, 0, []), (14, 9, 0, 0, []), (33, 0, 0, 0, []), (1, 0, 1, 0, []), (0, 0, 0, 0, []), (36, 164, 2, 0, [9]), (33, 0, 0, 0, [])]
def bp_218 : List Nat := [0, 1, 2, 3, 6, 9, 12, 13, 14, 15, 16, 19, 20, 23, 24, 25, 26, 27, 64, 65, 68, 69, 70, 73, 74, 75, 78, 79, 80, 83, 84, 85, 88, 89, 90, 93, 94, 95, 96, 99]
/-- java/lang/Integer.bitCount.(I)I -/
def bc_219 : List Ins := [(1, 0, 0, 0, []), (1, 0, 0, 0, []), (0, 0, 0, 1, []), (3, 7, 0, 0, []), (0, 0, 0, 1431655765, []), (3, 8, 0, 0, []), (3, 1, 0, 0, []), (2, 0, 0, 0, []), (1, 0, 0, 0, []), (0, 0, 0, 858993459, []), (3, 8, 0, 0, []), (1, 0, 0, 0, []), (0, 0, 0, 2, []), (3, 7, 0, 0, []), (0, 0, 0, 858993459, []), (3, 8, 0, 0, []), (3, 0, 0, 0, []), (2, 0, 0, 0, []), (1, 0, 0, 0, []), (1, 0, 0, 0, []), (0, 0, 0, 4, []), (3, 7, 0, 0, []), (3, 0, 0, 0, []), (0, 0, 0, 252645135, []), (3, 8, 0, 0, []), (2, 0, 0, 0, []), (1, 0, 0, 0, []), (1, 0, 0, 0, []), (0, 0, 0, 8, []), (3, 7, 0, 0, []), (3, 0, 0, 0, []), (2, 0, 0, 0, []), (1, 0, 0, 0, []), (1, 0, 0, 0, []), (0, 0, 0, 16, []), (3, 7, 0, 0, []), (3, 0, 0, 0, []), (2, 0, 0, 0, []), (1, 0, 0, 0, []), (0, 0, 0, 63, []), (3, 8, 0, 0, []), (33, 0, 0, 0, [])]
def bp_219 : List Nat := [0, 1, 2, 3, 4, 7, 8, 9, 10, 11, 14, 15, 16, 17, 18, 21, 22, 23, 24, 25, 26, 27, 28, 29, 32, 33, 34, 35, 36, 38, 39, 40, 41, 42, 43, 45, 46, 47, 48, 49, 51, 52]
/-- java/lang/String.length.()I -/
def bc_220 : List Ins := [(1, 0, 1, 0, []), (15, 10, 0, 0, []), (24, 0, 0, 0, []), (1, 0, 1, 0, []), (36, 222, 1, 0, [10]), (3, 6, 0, 0, []), (33, 0, 0, 0, [])]
def bp_220 : List Nat := [0, 1, 4, 5, 6, 9, 10]
/-- java/lang/String.charAt.(I)C -/
def bc_221 : List Ins := [(1, 0, 1, 0, []), (36, 223, 1, 0, [10]), (13, 8, 0, 0, []), (1, 0, 1, 0, []), (15, 10, 0, 0, []), (1, 1, 0, 0, []), (36, 225, 2, 1, []), (33, 2, 0, 0, []), (1, 0, 1, 0, []), (15, 10, 0, 0, []), (1, 1, 0, 0, []), (99, 0, 0, 0, []), (33, 2, 0, 0, [])]
def bp_221 : List Nat := [0, 1, 4, 7, 8, 11, 12, 15, 16, 17, 20, 21, 24]
/-- java/lang/String.coder.()B -/
def bc_222 : List Ins := [(41, 0, 0, 0, []), (13, 5, 0, 0, []), (1, 0, 1, 0, []), (14, 10, 1, 0, []), (11, 6, 0, 0, []), (0, 0, 0, 1, []), (33, 3, 0, 0, [])]
def bp_222 : List Nat := [0, 3, 6, 7, 10, 13, 14]
/-- java/lang/String.isLatin1.()Z -/
def bc_223 : List Ins := [(41, 0, 0, 0, []), (13, 7, 0, 0, []), (1, 0, 1, 0, []), (14, 10, 1, 0, []), (13, 7, 1, 0, []), (0, 0, 0, 1, []), (11, 8, 0, 0, []), (0, 0, 0, 0, []), (33, 1, 0, 0, [])]
def bp_223 : List Nat := [0, 3, 6, 7, 10, 13, 14, 17, 18]
/-- java/lang/String.checkIndex.(II)V -/
def bc_224 : List Ins := [(1, 0, 0, 0, []), (1, 1, 0, 0, []), (41, 1, 0, 0, []), (36, 226, 3, 1, []), (30, 0, 0, 0, []), (34, 0, 0, 0, [])]
def bp_224 : List Nat := [0, 1, 2, 5, 8, 9]
/-- java/lang/StringLatin1.charAt.([BI)C -/
def bc_225 : List Ins := [(1, 1, 0, 0, []), (1, 0, 1, 0, []), (24, 0, 0, 0, []), (36, 224, 2, 1, []), (1, 0, 1, 0, []), (1, 1, 0, 0, []), (20, 0, 0, 0, []), (0, 0, 0, 255, []), (3, 8, 0, 0, []), (4, 2, 0, 0, []), (33, 2, 0, 0, [])]
def bp_225 : List Nat := [0, 1, 2, 3, 6, 7, 8, 9, 12, 13, 14]
/-- jdk/internal/util/Preconditions.checkIndex.(IILjava/util/function/BiFunction;)I -/
def bc_226 : List Ins := [(1, 0, 0, 0, []), (13, 5, 2, 0, []), (1, 0, 0, 0, []), (1, 1, 0, 0, []), (12, 10, 2, 0, []), (1, 2, 1, 0, []), (1, 0, 0, 0, []), (1, 1, 0, 0, []), (99, 0, 0, 0, []), (99, 0, 0, 0, []), (1, 0, 0, 0, []), (33, 0, 0, 0, [])]
def bp_226 : List Nat := [0, 1, 4, 5, 6, 9, 10, 11, 12, 15, 16, 17]
/-- ByInitialsLaw.law.([I)Z -/
def bc_227 : List Ins := [(25, 8, 12, 0, []), (28, 0, 0, 0, []), (36, 93, 1, 2, []), (2, 1, 1, 0, []), (25, 9, 25, 0, []), (28, 0, 0, 0, []), (36, 139, 1, 2, []), (2, 2, 1, 0, []), (0, 0, 0, 0, []), (2, 3, 0, 0, []), (1, 3, 0, 0, []), (1, 0, 1, 0, []), (24, 0, 0, 0, []), (0, 0, 0, 6, []), (3, 1, 0, 0, []), (12, 740, 4, 0, []), (1, 0, 1, 0, []), (1, 3, 0, 0, []), (18, 0, 0, 0, []), (0, 0, 0, 63, []), (3, 8, 0, 0, []), (31, 738, 0, 0, [22, 39, 46, 53, 60, 87, 114, 141, 168, 185, 192, 209, 226, 253, 280, 317, 354, 381, 388, 395, 422, 439, 496, 513, 530, 557, 574, 581, 588, 605, 622, 649, 656, 663, 680, 707, 714, 721]), (1, 1, 1, 0, []), (1, 0, 1, 0, []), (1, 3, 0, 0, []), (0, 0, 0, 1, []), (3, 0, 0, 0, []), (18, 0, 0, 0, []), (36, 94, 2, 0, [8]), (1, 2, 1, 0, []), (1, 0, 1, 0, []), (1, 3, 0, 0, []), (0, 0, 0, 1, []), (3, 0, 0, 0, []), (18, 0, 0, 0, []), (36, 143, 2, 0, [9]), (12, 738, 0, 0, []), (0, 0, 0, 0, []), (33, 1, 0, 0, []), (1, 1, 1, 0, []), (36, 95, 1, 0, [8]), (1, 2, 1, 0, []), (36, 144, 1, 0, [9]), (12, 738, 0, 0, []), (0, 0, 0, 0, []), (33, 1, 0, 0, []), (1, 1, 1, 0, []), (36, 96, 1, 0, [8]), (1, 2, 1, 0, []), (36, 154, 1, 0, [9]), (12, 738, 0, 0, []), (0, 0, 0, 0, []), (33, 1, 0, 0, []), (1, 1, 1, 0, []), (36, 97, 1, 0, [8]), (1, 2, 1, 0, []), (36, 155, 1, 0, [9]), (12, 738, 0, 0, []), (0, 0, 0, 0, []), (33, 1, 0, 0, []), (1, 1, 1, 0, []), (1, 0, 1, 0, []), (1, 3, 0, 0, []), (0, 0, 0, 1, []), (3, 0, 0, 0, []), (18, 0, 0, 0, []), (1, 0, 1, 0, []), (1, 3, 0, 0, []), (0, 0, 0, 2, []), (3, 0, 0, 0, []), (18, 0, 0, 0, []), (36, 98, 3, 0, [8]), (1, 2, 1, 0, []), (1, 0, 1, 0, []), (1, 3, 0, 0, []), (0, 0, 0, 1, []), (3, 0, 0, 0, []), (18, 0, 0, 0, []), (1, 0, 1, 0, []), (1, 3, 0, 0, []), (0, 0, 0, 2, []), (3, 0, 0, 0, []), (18, 0, 0, 0, []), (36, 165, 3, 0, [9]), (12, 738, 0, 0, []), (0, 0, 0, 0, []), (33, 1, 0, 0, []), (1, 1, 1, 0, []), (1, 0, 1, 0, []), (1, 3, 0, 0, []), (0, 0, 0, 1, []), (3, 0, 0, 0, []), (18, 0, 0, 0, []), (1, 0, 1, 0, []), (1, 3, 0, 0, []), (0, 0, 0, 2, []), (3, 0, 0, 0, []), (18, 0, 0, 0, []), (36, 99, 3, 0, [8]), (1, 2, 1, 0, []), (1, 0, 1, 0, []), (1, 3, 0, 0, []), (0, 0, 0, 1, []), (3, 0, 0, 0, []), (18, 0, 0, 0, []), (1, 0, 1, 0, []), (1, 3, 0, 0, []), (0, 0, 0, 2, []), (3, 0, 0, 0, []), (18, 0, 0, 0, []), (36, 166, 3, 0, [9]), (12, 738, 0, 0, []), (0, 0, 0, 0, []), (33, 1, 0, 0, []), (1, 1, 1, 0, []), (1, 0, 1, 0, []), (1, 3, 0, 0, []), (0, 0, 0, 1, []), (3, 0, 0, 0, []), (18, 0, 0, 0, []), (1, 0, 1, 0, []), (1, 3, 0, 0, []), (0, 0, 0, 2, []), (3, 0, 0, 0, []), (18, 0, 0, 0, []), (36, 100, 3, 0, [8]), (1, 2, 1, 0, []), (1, 0, 1, 0, []), (1, 3, 0, 0, []), (0, 0, 0, 1, []), (3, 0, 0, 0, []), (18, 0, 0, 0, []), (1, 0, 1, 0, []), (1, 3, 0, 0, []), (0, 0, 0, 2, []), (3, 0, 0, 0, []), (18, 0, 0, 0, []), (36, 168, 3, 0, [9]), (12, 738, 0, 0, []), (0, 0, 0, 0, []), (33, 1, 0, 0, []), (1, 1, 1, 0, []), (1, 0, 1, 0, []), (1, 3, 0, 0, []), (0, 0, 0, 1, []), (3, 0, 0, 0, []), (18, 0, 0, 0, []), (1, 0, 1, 0, []), (1, 3, 0, 0, []), (0, 0, 0, 2, []), (3, 0, 0, 0, []), (18, 0, 0, 0, []), (36, 101, 3, 0, [8]), (1, 2, 1, 0, []), (1, 0, 1, 0, []), (1, 3, 0, 0, []), (0, 0, 0, 1, []), (3, 0, 0, 0, []), (18, 0, 0, 0, []), (1, 0, 1, 0, []), (1, 3, 0, 0, []), (0, 0, 0, 2, []), (3, 0, 0, 0, []), (18, 0, 0, 0, []), (36, 169, 3, 0, [9]), (12, 738, 0, 0, []), (0, 0, 0, 0, []), (33, 1, 0, 0, []), (1, 1, 1, 0, []), (1, 0, 1, 0, []), (1, 3, 0, 0, []), (0, 0, 0, 1, []), (3, 0, 0, 0, []), (18, 0, 0, 0, []), (36, 102, 2, 0, [8]), (1, 2, 1, 0, []), (1, 0, 1, 0, []), (1, 3, 0, 0, []), (0, 0, 0, 1, []), (3, 0, 0, 0, []), (18, 0, 0, 0, []), (36, 172, 2, 0, [9]), (12, 738, 0, 0, []), (0, 0, 0, 0, []), (33, 1, 0, 0, []), (1, 1, 1, 0, []), (36, 103, 1, 0, [8]), (1, 2, 1, 0, []), (36, 173, 1, 0, [9]), (12, 738, 0, 0, []), (0, 0, 0, 0, []), (33, 1, 0, 0, []), (1, 1, 1, 0, []), (1, 0, 1, 0, []), (1, 3, 0, 0, []), (0, 0, 0, 1, []), (3, 0, 0, 0, []), (18, 0, 0, 0, []), (36, 104, 2, 0, [8]), (1, 2, 1, 0, []), (1, 0, 1, 0, []), (1, 3, 0, 0, []), (0, 0, 0, 1, []), (3, 0, 0, 0, []), (18, 0, 0, 0, []), (36, 175, 2, 0, [9]), (12, 738, 0, 0, []), (0, 0, 0, 0, []), (33, 1, 0, 0, []), (1, 1, 1, 0, []), (1, 0, 1, 0, []), (1, 3, 0, 0, []), (0, 0, 0, 1, []), (3, 0, 0, 0, []), (18, 0, 0, 0, []), (36, 105, 2, 0, [8]), (1, 2, 1, 0, []), (1, 0, 1, 0, []), (1, 3, 0, 0, []), (0, 0, 0, 1, []), (3, 0, 0, 0, []), (18, 0, 0, 0, []), (36, 176, 2, 0, [9]), (12, 738, 0, 0, []), (0, 0, 0, 0, []), (33, 1, 0, 0, []), (1, 1, 1, 0, []), (1, 0, 1, 0, []), (1, 3, 0, 0, []), (0, 0, 0, 1, []), (3, 0, 0, 0, []), (18, 0, 0, 0, []), (1, 0, 1, 0, []), (1, 3, 0, 0, []), (0, 0, 0, 2, []), (3, 0, 0, 0, []), (18, 0, 0, 0, []), (36, 106, 3, 0, [8]), (1, 2, 1, 0, []), (1, 0, 1, 0, []), (1, 3, 0, 0, []), (0, 0, 0, 1, []), (3, 0, 0, 0, []), (18, 0, 0, 0, []), (1, 0, 1, 0, []), (1, 3, 0, 0, []), (0, 0, 0, 2, []), (3, 0, 0, 0, []), (18, 0, 0, 0, []), (36, 179, 3, 0, [9]), (12, 738, 0, 0, []), (0, 0, 0, 0, []), (33, 1, 0, 0, []), (1, 1, 1, 0, []), (1, 0, 1, 0, []), (1, 3, 0, 0, []), (0, 0, 0, 1, []), (3, 0, 0, 0, []), (18, 0, 0, 0, []), (1, 0, 1, 0, []), (1, 3, 0, 0, []), (0, 0, 0, 2, []), (3, 0, 0, 0, []), (18, 0, 0, 0, []), (36, 107, 3, 0, [8]), (1, 2, 1, 0, []), (1, 0, 1, 0, []), (1, 3, 0, 0, []), (0, 0, 0, 1, []), (3, 0, 0, 0, []), (18, 0, 0, 0, []), (1, 0, 1, 0, []), (1, 3, 0, 0, []), (0, 0, 0, 2, []), (3, 0, 0, 0, []), (18, 0, 0, 0, []), (36, 181, 3, 0, [9]), (12, 738, 0, 0, []), (0, 0, 0, 0, []), (33, 1, 0, 0, []), (1, 1, 1, 0, []), (1, 0, 1, 0, []), (1, 3, 0, 0, []), (0, 0, 0, 1, []), (3, 0, 0, 0, []), (18, 0, 0, 0, []), (1, 0, 1, 0, []), (1, 3, 0, 0, []), (0, 0, 0, 2, []), (3, 0, 0, 0, []), (18, 0, 0, 0, []), (1, 0, 1, 0, []), (1, 3, 0, 0, []), (0, 0, 0, 3, []), (3, 0, 0, 0, []), (18, 0, 0, 0, []), (36, 108, 4, 0, [8]), (1, 2, 1, 0, []), (1, 0, 1, 0, []), (1, 3, 0, 0, []), (0, 0, 0, 1, []), (3, 0, 0, 0, []), (18, 0, 0, 0, []), (1, 0, 1, 0, []), (1, 3, 0, 0, []), (0, 0, 0, 2, []), (3, 0, 0, 0, []), (18, 0, 0, 0, []), (1, 0, 1, 0, []), (1, 3, 0, 0, []), (0, 0, 0, 3, []), (3, 0, 0, 0, []), (18, 0, 0, 0, []), (36, 183, 4, 0, [9]), (12, 738, 0, 0, []), (0, 0, 0, 0, []), (33, 1, 0, 0, []), (1, 1, 1, 0, []), (1, 0, 1, 0, []), (1, 3, 0, 0, []), (0, 0, 0, 1, []), (3, 0, 0, 0, []), (18, 0, 0, 0, []), (1, 0, 1, 0, []), (1, 3, 0, 0, []), (0, 0, 0, 2, []), (3, 0, 0, 0, []), (18, 0, 0, 0, []), (1, 0, 1, 0, []), (1, 3, 0, 0, []), (0, 0, 0, 3, []), (3, 0, 0, 0, []), (18, 0, 0, 0, []), (36, 109, 4, 0, [8]), (1, 2, 1, 0, []), (1, 0, 1, 0, []), (1, 3, 0, 0, []), (0, 0, 0, 1, []), (3, 0, 0, 0, []), (18, 0, 0, 0, []), (1, 0, 1, 0, []), (1, 3, 0, 0, []), (0, 0, 0, 2, []), (3, 0, 0, 0, []), (18, 0, 0, 0, []), (1, 0, 1, 0, []), (1, 3, 0, 0, []), (0, 0, 0, 3, []), (3, 0, 0, 0, []), (18, 0, 0, 0, []), (36, 184, 4, 0, [9]), (12, 738, 0, 0, []), (0, 0, 0, 0, []), (33, 1, 0, 0, []), (1, 1, 1, 0, []), (1, 0, 1, 0, []), (1, 3, 0, 0, []), (0, 0, 0, 1, []), (3, 0, 0, 0, []), (18, 0, 0, 0, []), (1, 0, 1, 0, []), (1, 3, 0, 0, []), (0, 0, 0, 2, []), (3, 0, 0, 0, []), (18, 0, 0, 0, []), (36, 110, 3, 0, [8]), (1, 2, 1, 0, []), (1, 0, 1, 0, []), (1, 3, 0, 0, []), (0, 0, 0, 1, []), (3, 0, 0, 0, []), (18, 0, 0, 0, []), (1, 0, 1, 0, []), (1, 3, 0, 0, []), (0, 0, 0, 2, []), (3, 0, 0, 0, []), (18, 0, 0, 0, []), (36, 186, 3, 0, [9]), (12, 738, 0, 0, []), (0, 0, 0, 0, []), (33, 1, 0, 0, []), (1, 1, 1, 0, []), (36, 111, 1, 0, [8]), (1, 2, 1, 0, []), (36, 187, 1, 0, [9]), (12, 738, 0, 0, []), (0, 0, 0, 0, []), (33, 1, 0, 0, []), (1, 1, 1, 0, []), (36, 112, 1, 0, [8]), (1, 2, 1, 0, []), (36, 188, 1, 0, [9]), (12, 738, 0, 0, []), (0, 0, 0, 0, []), (33, 1, 0, 0, []), (1, 1, 1, 0, []), (1, 0, 1, 0, []), (1, 3, 0, 0, []), (0, 0, 0, 1, []), (3, 0, 0, 0, []), (18, 0, 0, 0, []), (1, 0, 1, 0, []), (1, 3, 0, 0, []), (0, 0, 0, 2, []), (3, 0, 0, 0, []), (18, 0, 0, 0, []), (36, 113, 3, 0, [8]), (1, 2, 1, 0, []), (1, 0, 1, 0, []), (1, 3, 0, 0, []), (0, 0, 0, 1, []), (3, 0, 0, 0, []), (18, 0, 0, 0, []), (1, 0, 1, 0, []), (1, 3, 0, 0, []), (0, 0, 0, 2, []), (3, 0, 0, 0, []), (18, 0, 0, 0, []), (36, 190, 3, 0, [9]), (12, 738, 0, 0, []), (0, 0, 0, 0, []), (33, 1, 0, 0, []), (1, 1, 1, 0, []), (1, 0, 1, 0, []), (1, 3, 0, 0, []), (0, 0, 0, 1, []), (3, 0, 0, 0, []), (18, 0, 0, 0, []), (36, 114, 2, 0, [8]), (1, 2, 1, 0, []), (1, 0, 1, 0, []), (1, 3, 0, 0, []), (0, 0, 0, 1, []), (3, 0, 0, 0, []), (18, 0, 0, 0, []), (36, 192, 2, 0, [9]), (12, 738, 0, 0, []), (0, 0, 0, 0, []), (33, 1, 0, 0, []), (1, 1, 1, 0, []), (1, 0, 1, 0, []), (1, 3, 0, 0, []), (0, 0, 0, 1, []), (3, 0, 0, 0, []), (18, 0, 0, 0, []), (1, 0, 1, 0, []), (1, 3, 0, 0, []), (0, 0, 0, 2, []), (3, 0, 0, 0, []), (18, 0, 0, 0, []), (1, 0, 1, 0, []), (1, 3, 0, 0, []), (0, 0, 0, 3, []), (3, 0, 0, 0, []), (18, 0, 0, 0, []), (1, 0, 1, 0, []), (1, 3, 0, 0, []), (0, 0, 0, 4, []), (3, 0, 0, 0, []), (18, 0, 0, 0, []), (1, 0, 1, 0, []), (1, 3, 0, 0, []), (0, 0, 0, 5, []), (3, 0, 0, 0, []), (18, 0, 0, 0, []), (36, 115, 6, 0, [8]), (1, 2, 1, 0, []), (1, 0, 1, 0, []), (1, 3, 0, 0, []), (0, 0, 0, 1, []), (3, 0, 0, 0, []), (18, 0, 0, 0, []), (1, 0, 1, 0, []), (1, 3, 0, 0, []), (0, 0, 0, 2, []), (3, 0, 0, 0, []), (18, 0, 0, 0, []), (1, 0, 1, 0, []), (1, 3, 0, 0, []), (0, 0, 0, 3, []), (3, 0, 0, 0, []), (18, 0, 0, 0, []), (1, 0, 1, 0, []), (1, 3, 0, 0, []), (0, 0, 0, 4, []), (3, 0, 0, 0, []), (18, 0, 0, 0, []), (1, 0, 1, 0, []), (1, 3, 0, 0, []), (0, 0, 0, 5, []), (3, 0, 0, 0, []), (18, 0, 0, 0, []), (36, 194, 6, 0, [9]), (12, 738, 0, 0, []), (0, 0, 0, 0, []), (33, 1, 0, 0, []), (1, 1, 1, 0, []), (1, 0, 1, 0, []), (1, 3, 0, 0, []), (0, 0, 0, 1, []), (3, 0, 0, 0, []), (18, 0, 0, 0, []), (36, 116, 2, 0, [8]), (1, 2, 1, 0, []), (1, 0, 1, 0, []), (1, 3, 0, 0, []), (0, 0, 0, 1, []), (3, 0, 0, 0, []), (18, 0, 0, 0, []), (36, 196, 2, 0, [9]), (12, 738, 0, 0, []), (0, 0, 0, 0, []), (33, 1, 0, 0, []), (1, 1, 1, 0, []), (1, 0, 1, 0, []), (1, 3, 0, 0, []), (0, 0, 0, 1, []), (3, 0, 0, 0, []), (18, 0, 0, 0, []), (36, 117, 2, 0, [8]), (1, 2, 1, 0, []), (1, 0, 1, 0, []), (1, 3, 0, 0, []), (0, 0, 0, 1, []), (3, 0, 0, 0, []), (18, 0, 0, 0, []), (36, 197, 2, 0, [9]), (12, 738, 0, 0, []), (0, 0, 0, 0, []), (33, 1, 0, 0, []), (1, 1, 1, 0, []), (1, 0, 1, 0, []), (1, 3, 0, 0, []), (0, 0, 0, 1, []), (3, 0, 0, 0, []), (18, 0, 0, 0, []), (1, 0, 1, 0, []), (1, 3, 0, 0, []), (0, 0, 0, 2, []), (3, 0, 0, 0, []), (18, 0, 0, 0, []), (36, 118, 3, 0, [8]), (1, 2, 1, 0, []), (1, 0, 1, 0, []), (1, 3, 0, 0, []), (0, 0, 0, 1, []), (3, 0, 0, 0, []), (18, 0, 0, 0, []), (1, 0, 1, 0, []), (1, 3, 0, 0, []), (0, 0, 0, 2, []), (3, 0, 0, 0, []), (18, 0, 0, 0, []), (36, 198, 3, 0, [9]), (12, 738, 0, 0, []), (0, 0, 0, 0, []), (33, 1, 0, 0, []), (1, 1, 1, 0, []), (1, 0, 1, 0, []), (1, 3, 0, 0, []), (0, 0, 0, 1, []), (3, 0, 0, 0, []), (18, 0, 0, 0, []), (36, 119, 2, 0, [8]), (1, 2, 1, 0, []), (1, 0, 1, 0, []), (1, 3, 0, 0, []), (0, 0, 0, 1, []), (3, 0, 0, 0, []), (18, 0, 0, 0, []), (36, 200, 2, 0, [9]), (12, 738, 0, 0, []), (0, 0, 0, 0, []), (33, 1, 0, 0, []), (1, 1, 1, 0, []), (36, 120, 1, 0, [8]), (1, 2, 1, 0, []), (36, 201, 1, 0, [9]), (12, 738, 0, 0, []), (0, 0, 0, 0, []), (33, 1, 0, 0, []), (1, 1, 1, 0, []), (36, 121, 1, 0, [8]), (1, 2, 1, 0, []), (36, 202, 1, 0, [9]), (12, 738, 0, 0, []), (0, 0, 0, 0, []), (33, 1, 0, 0, []), (1, 1, 1, 0, []), (1, 0, 1, 0, []), (1, 3, 0, 0, []), (0, 0, 0, 1, []), (3, 0, 0, 0, []), (18, 0, 0, 0, []), (36, 122, 2, 0, [8]), (1, 2, 1, 0, []), (1, 0, 1, 0, []), (1, 3, 0, 0, []), (0, 0, 0, 1, []), (3, 0, 0, 0, []), (18, 0, 0, 0, []), (36, 207, 2, 0, [9]), (12, 738, 0, 0, []), (0, 0, 0, 0, []), (33, 1, 0, 0, []), (1, 1, 1, 0, []), (1, 0, 1, 0, []), (1, 3, 0, 0, []), (0, 0, 0, 1, []), (3, 0, 0, 0, []), (18, 0, 0, 0, []), (36, 123, 2, 0, [8]), (1, 2, 1, 0, []), (1, 0, 1, 0, []), (1, 3, 0, 0, []), (0, 0, 0, 1, []), (3, 0, 0, 0, []), (18, 0, 0, 0, []), (36, 208, 2, 0, [9]), (12, 738, 0, 0, []), (0, 0, 0, 0, []), (33, 1, 0, 0, []), (1, 1, 1, 0, []), (1, 0, 1, 0, []), (1, 3, 0, 0, []), (0, 0, 0, 1, []), (3, 0, 0, 0, []), (18, 0, 0, 0, []), (1, 0, 1, 0, []), (1, 3, 0, 0, []), (0, 0, 0, 2, []), (3, 0, 0, 0, []), (18, 0, 0, 0, []), (36, 124, 3, 0, [8]), (1, 2, 1, 0, []), (1, 0, 1, 0, []), (1, 3, 0, 0, []), (0, 0, 0, 1, []), (3, 0, 0, 0, []), (18, 0, 0, 0, []), (1, 0, 1, 0, []), (1, 3, 0, 0, []), (0, 0, 0, 2, []), (3, 0, 0, 0, []), (18, 0, 0, 0, []), (36, 209, 3, 0, [9]), (12, 738, 0, 0, []), (0, 0, 0, 0, []), (33, 1, 0, 0, []), (1, 1, 1, 0, []), (36, 125, 1, 0, [8]), (1, 2, 1, 0, []), (36, 210, 1, 0, [9]), (12, 738, 0, 0, []), (0, 0, 0, 0, []), (33, 1, 0, 0, []), (1, 1, 1, 0, []), (36, 126, 1, 0, [8]), (1, 2, 1, 0, []), (36, 213, 1, 0, [9]), (12, 738, 0, 0, []), (0, 0, 0, 0, []), (33, 1, 0, 0, []), (1, 1, 1, 0, []), (1, 0, 1, 0, []), (1, 3, 0, 0, []), (0, 0, 0, 1, []), (3, 0, 0, 0, []), (18, 0, 0, 0, []), (36, 127, 2, 0, [8]), (1, 2, 1, 0, []), (1, 0, 1, 0, []), (1, 3, 0, 0, []), (0, 0, 0, 1, []), (3, 0, 0, 0, []), (18, 0, 0, 0, []), (36, 214, 2, 0, [9]), (12, 738, 0, 0, []), (0, 0, 0, 0, []), (33, 1, 0, 0, []), (1, 1, 1, 0, []), (1, 0, 1, 0, []), (1, 3, 0, 0, []), (0, 0, 0, 1, []), (3, 0, 0, 0, []), (18, 0, 0, 0, []), (1, 0, 1, 0, []), (1, 3, 0, 0, []), (0, 0, 0, 2, []), (3, 0, 0, 0, []), (18, 0, 0, 0, []), (36, 128, 3, 0, [8]), (1, 2, 1, 0, []), (1, 0, 1, 0, []), (1, 3, 0, 0, []), (0, 0, 0, 1, []), (3, 0, 0, 0, []), (18, 0, 0, 0, []), (1, 0, 1, 0, []), (1, 3, 0, 0, []), (0, 0, 0, 2, []), (3, 0, 0, 0, []), (18, 0, 0, 0, []), (36, 215, 3, 0, [9]), (12, 738, 0, 0, []), (0, 0, 0, 0, []), (33, 1, 0, 0, []), (1, 1, 1, 0, []), (36, 129, 1, 0, [8]), (1, 2, 1, 0, []), (36, 216, 1, 0, [9]), (12, 738, 0, 0, []), (0, 0, 0, 0, []), (33, 1, 0, 0, []), (1, 1, 1, 0, []), (36, 130, 1, 0, [8]), (1, 2, 1, 0, []), (36, 217, 1, 0, [9]), (12, 738, 0, 0, []), (0, 0, 0, 0, []), (33, 1, 0, 0, []), (1, 1, 1, 0, []), (1, 0, 1, 0, []), (1, 3, 0, 0, []), (0, 0, 0, 1, []), (3, 0, 0, 0, []), (18, 0, 0, 0, []), (36, 131, 2, 0, [8]), (1, 2, 1, 0, []), (1, 0, 1, 0, []), (1, 3, 0, 0, []), (0, 0, 0, 1, []), (3, 0, 0, 0, []), (18, 0, 0, 0, []), (36, 218, 2, 0, [9]), (12, 738, 0, 0, []), (0, 0, 0, 0, []), (33, 1, 0, 0, []), (10, 3, 0, 6, []), (11, 10, 0, 0, []), (0, 0, 0, 1, []), (33, 1, 0, 0, [])]
def bp_227 : List Nat := [0, 3, 4, 7, 8, 11, 12, 15, 16, 17, 18, 19, 20, 21, 23, 24, 27, 28, 29, 30, 32, 33, 200, 201, 202, 203, 204, 205, 206, 209, 210, 211, 212, 213, 214, 215, 218, 221, 222, 223, 224, 227, 228, 231, 234, 235, 236, 237, 240, 241, 244, 247, 248, 249, 250, 253, 254, 257, 260, 261, 262, 263, 264, 265, 266, 267, 268, 269, 270, 271, 272, 273, 276, 277, 278, 279, 280, 281, 282, 283, 284, 285, 286, 287, 290, 293, 294, 295, 296, 297, 298, 299, 300, 301, 302, 303, 304, 305, 306, 309, 310, 311, 312, 313, 314, 315, 316, 317, 318, 319, 320, 323, 326, 327, 328, 329, 330, 331, 332, 333, 334, 335, 336, 337, 338, 339, 342, 343, 344, 345, 346, 347, 348, 349, 350, 351, 352, 353, 356, 359, 360, 361, 362, 363, 364, 365, 366, 367, 368, 369, 370, 371, 372, 375, 376, 377, 378, 379, 380, 381, 382, 383, 384, 385, 386, 389, 392, 393, 394, 395, 396, 397, 398, 399, 400, 403, 404, 405, 406, 407, 408, 409, 412, 415, 416, 417, 418, 421, 422, 425, 428, 429, 430, 431, 432, 433, 434, 435, 436, 439, 440, 441, 442, 443, 444, 445, 448, 451, 452, 453, 454, 455, 456, 457, 458, 459, 462, 463, 464, 465, 466, 467, 468, 471, 474, 475, 476, 477, 478, 479, 480, 481, 482, 483, 484, 485, 486, 487, 490, 491, 492, 493, 494, 495, 496, 497, 498, 499, 500, 501, 504, 507, 508, 509, 510, 511, 512, 513, 514, 515, 516, 517, 518, 519, 520, 523, 524, 525, 526, 527, 528, 529, 530, 531, 532, 533, 534, 537, 540, 541, 542, 543, 544, 545, 546, 547, 548, 549, 550, 551, 552, 553, 554, 555, 556, 557, 558, 561, 562, 563, 564, 565, 566, 567, 568, 569, 570, 571, 572, 573, 574, 575, 576, 577, 580, 583, 584, 585, 586, 587, 588, 589, 590, 591, 592, 593, 594, 595, 596, 597, 598, 599, 600, 601, 604, 605, 606, 607, 608, 609, 610, 611, 612, 613, 614, 615, 616, 617, 618, 619, 620, 623, 626, 627, 628, 629, 630, 631, 632, 633, 634, 635, 636, 637, 638, 639, 642, 643, 644, 645, 646, 647, 648, 649, 650, 651, 652, 653, 656, 659, 660, 661, 662, 665, 666, 669, 672, 673, 674, 675, 678, 679, 682, 685, 686, 687, 688, 689, 690, 691, 692, 693, 694, 695, 696, 697, 698, 701, 702, 703, 704, 705, 706, 707, 708, 709, 710, 711, 712, 715, 718, 719, 720, 721, 722, 723, 724, 725, 726, 729, 730, 731, 732, 733, 734, 735, 738, 741, 742, 743, 744, 745, 746, 747, 748, 749, 750, 751, 752, 753, 754, 755, 756, 757, 758, 759, 760, 761, 762, 763, 764, 765, 766, 767, 768, 769, 772, 773, 774, 775, 776, 777, 778, 779, 780, 781, 782, 783, 784, 785, 786, 787, 788, 789, 790, 791, 792, 793, 794, 795, 796, 797, 798, 801, 804, 805, 806, 807, 808, 809, 810, 811, 812, 815, 816, 817, 818, 819, 820, 821, 824, 827, 828, 829, 830, 831, 832, 833, 834, 835, 838, 839, 840, 841, 842, 843, 844, 847, 850, 851, 852, 853, 854, 855, 856, 857, 858, 859, 860, 861, 862, 863, 866, 867, 868, 869, 870, 871, 872, 873, 874, 875, 876, 877, 880, 883, 884, 885, 886, 887, 888, 889, 890, 891, 894, 895, 896, 897, 898, 899, 900, 903, 906, 907, 908, 909, 912, 913, 916, 919, 920, 921, 922, 925, 926, 929, 932, 933, 934, 935, 936, 937, 938, 939, 940, 943, 944, 945, 946, 947, 948, 949, 952, 955, 956, 957, 958, 959, 960, 961, 962, 963, 966, 967, 968, 969, 970, 971, 972, 975, 978, 979, 980, 981, 982, 983, 984, 985, 986, 987, 988, 989, 990, 991, 994, 995, 996, 997, 998, 999, 1000, 1001, 1002, 1003, 1004, 1005, 1008, 1011, 1012, 1013, 1014, 1017, 1018, 1021, 1024, 1025, 1026, 1027, 1030, 1031, 1034, 1037, 1038, 1039, 1040, 1041, 1042, 1043, 1044, 1045, 1048, 1049, 1050, 1051, 1052, 1053, 1054, 1057, 1060, 1061, 1062, 1063, 1064, 1065, 1066, 1067, 1068, 1069, 1070, 1071, 1072, 1073, 1076, 1077, 1078, 1079, 1080, 1081, 1082, 1083, 1084, 1085, 1086, 1087, 1090, 1093, 1094, 1095, 1096, 1099, 1100, 1103, 1106, 1107, 1108, 1109, 1112, 1113, 1116, 1119, 1120, 1121, 1122, 1123, 1124, 1125, 1126, 1127, 1130, 1131, 1132, 1133, 1134, 1135, 1136, 1139, 1142, 1143, 1144, 1147, 1150, 1151]
def bi_tab : List (List Ins × Nat) := [(bc_0, 1), (bc_1, 5), (bc_2, 5), (bc_3, 7), (bc_4, 4), (bc_5, 1), (bc_6, 3), (bc_7, 4), (bc_8, 5), (bc_9, 4), (bc_10, 4), (bc_11, 4), (bc_12, 1), (bc_13, 2), (bc_14, 2), (bc_15, 4), (bc_16, 4), (bc_17, 5), (bc_18, 2), (bc_19, 3), (bc_20, 4), (bc_21, 3), (bc_22, 4), (bc_23, 7), (bc_24, 4), (bc_25, 1), (bc_26, 5), (bc_27, 6), (bc_28, 2), (bc_29, 7), (bc_30, 5), (bc_31, 3), (bc_32, 1), (bc_33, 2), (bc_34, 2), (bc_35, 3), (bc_36, 1), (bc_37, 2), (bc_38, 4), (bc_39, 3), (bc_40, 5), (bc_41, 3), (bc_42, 3), (bc_43, 3), (bc_44, 3), (bc_45, 3), (bc_46, 3), (bc_47, 1), (bc_48, 2), (bc_49, 2), (bc_50, 4), (bc_51, 3), (bc_52, 1), (bc_53, 1), (bc_54, 5), (bc_55, 3), (bc_56, 2), (bc_57, 4), (bc_58, 7), (bc_59, 1), (bc_60, 1), (bc_61, 5), (bc_62, 4), (bc_63, 1), (bc_64, 2), (bc_65, 2), (bc_66, 5), (bc_67, 5), (bc_68, 6), (bc_69, 3), (bc_70, 4), (bc_71, 3), (bc_72, 3), (bc_73, 2), (bc_74, 2), (bc_75, 3), (bc_76, 2), (bc_77, 3), (bc_78, 3), (bc_79, 5), (bc_80, 2), (bc_81, 2), (bc_82, 3), (bc_83, 4), (bc_84, 4), (bc_85, 3), (bc_86, 3), (bc_87, 4), (bc_88, 3), (bc_89, 4), (bc_90, 4), (bc_91, 3), (bc_92, 5), (bc_93, 2), (bc_94, 2), (bc_95, 2), (bc_96, 1), (bc_97, 1), (bc_98, 3), (bc_99, 3), (bc_100, 3), (bc_101, 3), (bc_102, 2), (bc_103, 2), (bc_104, 2), (bc_105, 3), (bc_106, 3), (bc_107, 3), (bc_108, 5), (bc_109, 5), (bc_110, 3), (bc_111, 3), (bc_112, 1), (bc_113, 4), (bc_114, 3), (bc_115, 7), (bc_116, 3), (bc_117, 6), (bc_118, 3), (bc_119, 2), (bc_120, 1), (bc_121, 1), (bc_122, 2), (bc_123, 8), (bc_124, 3), (bc_125, 2), (bc_126, 1), (bc_127, 2), (bc_128, 3), (bc_129, 1), (bc_130, 1), (bc_131, 2), (bc_132, 2), (bc_133, 3), (bc_134, 1), (bc_135, 2), (bc_136, 1), (bc_137, 5), (bc_138, 10), (bc_139, 1), (bc_140, 6), (bc_141, 7), (bc_142, 4), (bc_143, 2), (bc_144, 2), (bc_145, 3), (bc_146, 1), (bc_147, 2), (bc_148, 3), (bc_149, 3), (bc_150, 3), (bc_151, 4), (bc_152, 2), (bc_153, 3), (bc_154, 2), (bc_155, 1), (bc_156, 2), (bc_157, 1), (bc_158, 3), (bc_159, 7), (bc_160, 2), (bc_161, 3), (bc_162, 9), (bc_163, 5), (bc_164, 6), (bc_165, 3), (bc_166, 3), (bc_167, 4), (bc_168, 3), (bc_169, 3), (bc_170, 4), (bc_171, 2), (bc_172, 2), (bc_173, 2), (bc_174, 5), (bc_175, 2), (bc_176, 4), (bc_177, 6), (bc_178, 3), (bc_179, 3), (bc_180, 3), (bc_181, 3), (bc_182, 3), (bc_183, 7), (bc_184, 4), (bc_185, 5), (bc_186, 3), (bc_187, 3), (bc_188, 1), (bc_189, 7), (bc_190, 4), (bc_191, 4), (bc_192, 3), (bc_193, 8), (bc_194, 11), (bc_195, 8), (bc_196, 9), (bc_197, 3), (bc_198, 3), (bc_199, 4), (bc_200, 2), (bc_201, 6), (bc_202, 7), (bc_203, 5), (bc_204, 4), (bc_205, 5), (bc_206, 4), (bc_207, 7), (bc_208, 8), (bc_209, 3), (bc_210, 2), (bc_211, 6), (bc_212, 5), (bc_213, 1), (bc_214, 5), (bc_215, 7), (bc_216, 1), (bc_217, 1), (bc_218, 2), (bc_219, 1), (bc_220, 1), (bc_221, 2), (bc_222, 1), (bc_223, 1), (bc_224, 2), (bc_225, 2), (bc_226, 3), (bc_227, 4)]
def bi_pcs : List (List Nat) := [bp_0, bp_1, bp_2, bp_3, bp_4, bp_5, bp_6, bp_7, bp_8, bp_9, bp_10, bp_11, bp_12, bp_13, bp_14, bp_15, bp_16, bp_17, bp_18, bp_19, bp_20, bp_21, bp_22, bp_23, bp_24, bp_25, bp_26, bp_27, bp_28, bp_29, bp_30, bp_31, bp_32, bp_33, bp_34, bp_35, bp_36, bp_37, bp_38, bp_39, bp_40, bp_41, bp_42, bp_43, bp_44, bp_45, bp_46, bp_47, bp_48, bp_49, bp_50, bp_51, bp_52, bp_53, bp_54, bp_55, bp_56, bp_57, bp_58, bp_59, bp_60, bp_61, bp_62, bp_63, bp_64, bp_65, bp_66, bp_67, bp_68, bp_69, bp_70, bp_71, bp_72, bp_73, bp_74, bp_75, bp_76, bp_77, bp_78, bp_79, bp_80, bp_81, bp_82, bp_83, bp_84, bp_85, bp_86, bp_87, bp_88, bp_89, bp_90, bp_91, bp_92, bp_93, bp_94, bp_95, bp_96, bp_97, bp_98, bp_99, bp_100, bp_101, bp_102, bp_103, bp_104, bp_105, bp_106, bp_107, bp_108, bp_109, bp_110, bp_111, bp_112, bp_113, bp_114, bp_115, bp_116, bp_117, bp_118, bp_119, bp_120, bp_121, bp_122, bp_123, bp_124, bp_125, bp_126, bp_127, bp_128, bp_129, bp_130, bp_131, bp_132, bp_133, bp_134, bp_135, bp_136, bp_137, bp_138, bp_139, bp_140, bp_141, bp_142, bp_143, bp_144, bp_145, bp_146, bp_147, bp_148, bp_149, bp_150, bp_151, bp_152, bp_153, bp_154, bp_155, bp_156, bp_157, bp_158, bp_159, bp_160, bp_161, bp_162, bp_163, bp_164, bp_165, bp_166, bp_167, bp_168, bp_169, bp_170, bp_171, bp_172, bp_173, bp_174, bp_175, bp_176, bp_177, bp_178, bp_179, bp_180, bp_181, bp_182, bp_183, bp_184, bp_185, bp_186, bp_187, bp_188, bp_189, bp_190, bp_191, bp_192, bp_193, bp_194, bp_195, bp_196, bp_197, bp_198, bp_199, bp_200, bp_201, bp_202, bp_203, bp_204, bp_205, bp_206, bp_207, bp_208, bp_209, bp_210, bp_211, bp_212, bp_213, bp_214, bp_215, bp_216, bp_217, bp_218, bp_219, bp_220, bp_221, bp_222, bp_223, bp_224, bp_225, bp_226, bp_227]
def bi_inf : List (String × MethodName × ByteArray × Option FieldType × Nat × Nat) := [("ByInitials$Debts", ⟨"ByInitials$Debts", "<init>", "()V"⟩, prog_2_method_1_code, none, 1, 20),
  ("ByInitials$Debts", ⟨"ByInitials$Debts", "longestChain", "(LByInitials$Town;)I"⟩, prog_2_method_2_code, (some .int), 2, 46),
  ("ByInitials$Debts", ⟨"ByInitials$Debts", "stretch", "(LByInitials$Town;)Z"⟩, prog_2_method_3_code, (some .boolean), 1, 22),
  ("ByInitials$Debts", ⟨"ByInitials$Debts", "fewestPayments", "(LByInitials$Town;)I"⟩, prog_2_method_4_code, (some .int), 2, 45),
  ("ByInitials$Debts", ⟨"ByInitials$Debts", "mostGroups", "(I)I"⟩, prog_2_method_5_code, (some .int), 1, 21),
  ("ByInitials$Ledger", ⟨"ByInitials$Ledger", "<init>", "()V"⟩, prog_3_method_1_code, none, 1, 20),
  ("ByInitials$Ledger", ⟨"ByInitials$Ledger", "add", "(II)Z"⟩, prog_3_method_2_code, (some .boolean), 0, 0),
  ("ByInitials$Ledger", ⟨"ByInitials$Ledger", "canBe", "(IILByInitials$Line;)Z"⟩, prog_3_method_3_code, (some .boolean), 3, 68),
  ("ByInitials$Ledger", ⟨"ByInitials$Ledger", "candidates", "(ILByInitials$Line;)I"⟩, prog_3_method_4_code, (some .int), 4, 91),
  ("ByInitials$Ledger", ⟨"ByInitials$Ledger", "alikeAbove", "(I)I"⟩, prog_3_method_5_code, (some .int), 0, 0),
  ("ByInitials$Ledger", ⟨"ByInitials$Ledger", "countWays", "(LByInitials$Line;)I"⟩, prog_3_method_6_code, (some .int), 5, 115),
  ("ByInitials$Ledger", ⟨"ByInitials$Ledger", "onlyPerson", "(ILByInitials$Line;)I"⟩, prog_3_method_7_code, (some .int), 5, 115),
  ("ByInitials$Line", ⟨"ByInitials$Line", "<init>", "()V"⟩, prog_4_method_1_code, none, 2, 40),
  ("ByInitials$Line", ⟨"ByInitials$Line", "load", "(LByInitials$Town;)V"⟩, prog_4_method_2_code, none, 3, 67),
  ("ByInitials$Line", ⟨"ByInitials$Line", "sort", "()V"⟩, prog_4_method_3_code, none, 2, 46),
  ("ByInitials$Line", ⟨"ByInitials$Line", "isAhead", "(III)Z"⟩, prog_4_method_4_code, (some .boolean), 0, 0),
  ("ByInitials$Line", ⟨"ByInitials$Line", "placeOf", "(I)I"⟩, prog_4_method_5_code, (some .int), 1, 23),
  ("ByInitials$Line", ⟨"ByInitials$Line", "getsBy", "(II)I"⟩, prog_4_method_6_code, (some .int), 1, 23),
  ("ByInitials$Line", ⟨"ByInitials$Line", "getsNow", "(I)I"⟩, prog_4_method_7_code, (some .int), 2, 47),
  ("ByInitials$Line", ⟨"ByInitials$Line", "countFull", "()I"⟩, prog_4_method_8_code, (some .int), 3, 68),
  ("ByInitials$Line", ⟨"ByInitials$Line", "countFullIfExchanged", "(II)I"⟩, prog_4_method_9_code, (some .int), 4, 90),
  ("ByInitials$Line", ⟨"ByInitials$Line", "keyWithFirst", "(II)I"⟩, prog_4_method_10_code, (some .int), 1, 21),
  ("ByInitials$Line", ⟨"ByInitials$Line", "gainBy", "(II)I"⟩, prog_4_method_11_code, (some .int), 2, 47),
  ("ByInitials$Line", ⟨"ByInitials$Line", "bestFirst", "(I)I"⟩, prog_4_method_12_code, (some .int), 3, 70),
  ("ByInitials$Line", ⟨"ByInitials$Line", "allChange", "()Z"⟩, prog_4_method_13_code, (some .boolean), 4, 96),
  ("ByInitials$Matches", ⟨"ByInitials$Matches", "<init>", "()V"⟩, prog_5_method_1_code, none, 1, 20),
  ("ByInitials$Matches", ⟨"ByInitials$Matches", "most", "(LByInitials$Town;I)I"⟩, prog_5_method_2_code, (some .int), 4, 89),
  ("ByInitials$Matches", ⟨"ByInitials$Matches", "bestWithin", "(I)I"⟩, prog_5_method_3_code, (some .int), 2, 42),
  ("ByInitials$Matches", ⟨"ByInitials$Matches", "lowest", "(I)I"⟩, prog_5_method_4_code, (some .int), 1, 21),
  ("ByInitials$Matches", ⟨"ByInitials$Matches", "partnerOf", "(II)I"⟩, prog_5_method_5_code, (some .int), 2, 45),
  ("ByInitials$Matches", ⟨"ByInitials$Matches", "choiceOf", "(II)I"⟩, prog_5_method_6_code, (some .int), 1, 21),
  ("ByInitials$Memory", ⟨"ByInitials$Memory", "<init>", "(I)V"⟩, prog_6_method_1_code, none, 2, 40),
  ("ByInitials$Memory", ⟨"ByInitials$Memory", "isFull", "()Z"⟩, prog_6_method_2_code, (some .boolean), 0, 0),
  ("ByInitials$Memory", ⟨"ByInitials$Memory", "push", "(LByInitials$Town;)V"⟩, prog_6_method_3_code, none, 2, 53),
  ("ByInitials$Memory", ⟨"ByInitials$Memory", "popInto", "(LByInitials$Town;)Z"⟩, prog_6_method_4_code, (some .boolean), 2, 53),
  ("ByInitials$Memory", ⟨"ByInitials$Memory", "dropOldest", "()V"⟩, prog_6_method_5_code, none, 0, 0),
  ("ByInitials$Page", ⟨"ByInitials$Page", "<init>", "()V"⟩, prog_7_method_1_code, none, 1, 20),
  ("ByInitials$Page", ⟨"ByInitials$Page", "add", "(I)Z"⟩, prog_7_method_2_code, (some .boolean), 0, 0),
  ("ByInitials$Page", ⟨"ByInitials$Page", "readInto", "(LByInitials$Town;)I"⟩, prog_7_method_3_code, (some .int), 5, 108),
  ("ByInitials$Page", ⟨"ByInitials$Page", "readItem", "(LByInitials$Town;)Z"⟩, prog_7_method_4_code, (some .boolean), 4, 86),
  ("ByInitials$Page", ⟨"ByInitials$Page", "readPerson", "(LByInitials$Town;)Z"⟩, prog_7_method_5_code, (some .boolean), 3, 62),
  ("ByInitials$Page", ⟨"ByInitials$Page", "readGoods", "(LByInitials$Town;)Z"⟩, prog_7_method_6_code, (some .boolean), 3, 62),
  ("ByInitials$Page", ⟨"ByInitials$Page", "readReach", "(LByInitials$Town;)Z"⟩, prog_7_method_7_code, (some .boolean), 3, 62),
  ("ByInitials$Page", ⟨"ByInitials$Page", "readCost", "(LByInitials$Town;)Z"⟩, prog_7_method_8_code, (some .boolean), 3, 62),
  ("ByInitials$Page", ⟨"ByInitials$Page", "readOrder", "(LByInitials$Town;)Z"⟩, prog_7_method_9_code, (some .boolean), 2, 47),
  ("ByInitials$Page", ⟨"ByInitials$Page", "readVowels", "(LByInitials$Town;)Z"⟩, prog_7_method_10_code, (some .boolean), 2, 41),
  ("ByInitials$Page", ⟨"ByInitials$Page", "readQuarrel", "(LByInitials$Town;)Z"⟩, prog_7_method_11_code, (some .boolean), 2, 41),
  ("ByInitials$Page", ⟨"ByInitials$Page", "sign", "()I"⟩, prog_7_method_12_code, (some .int), 0, 0),
  ("ByInitials$Page", ⟨"ByInitials$Page", "passes", "(I)Z"⟩, prog_7_method_13_code, (some .boolean), 1, 20),
  ("ByInitials$Page", ⟨"ByInitials$Page", "readName", "()I"⟩, prog_7_method_14_code, (some .int), 1, 20),
  ("ByInitials$Page", ⟨"ByInitials$Page", "lettersRead", "(I)I"⟩, prog_7_method_15_code, (some .int), 0, 0),
  ("ByInitials$Page", ⟨"ByInitials$Page", "readNumber", "(I)I"⟩, prog_7_method_16_code, (some .int), 2, 40),
  ("ByInitials$Page", ⟨"ByInitials$Page", "atFigure", "()Z"⟩, prog_7_method_17_code, (some .boolean), 1, 20),
  ("ByInitials$Table", ⟨"ByInitials$Table", "<init>", "()V"⟩, prog_8_method_1_code, none, 1, 20),
  ("ByInitials$Table", ⟨"ByInitials$Table", "plan", "(LByInitials$Town;)V"⟩, prog_8_method_2_code, none, 4, 92),
  ("ByInitials$Table", ⟨"ByInitials$Table", "between", "(II)I"⟩, prog_8_method_3_code, (some .int), 1, 21),
  ("ByInitials$Table", ⟨"ByInitials$Table", "closing", "(I)I"⟩, prog_8_method_4_code, (some .int), 2, 43),
  ("ByInitials$Table", ⟨"ByInitials$Table", "quarrelsBy", "(III)I"⟩, prog_8_method_5_code, (some .int), 2, 43),
  ("ByInitials$Table", ⟨"ByInitials$Table", "weigh", "(II)V"⟩, prog_8_method_6_code, none, 3, 66),
  ("ByInitials$Table", ⟨"ByInitials$Table", "fewestQuarrels", "()I"⟩, prog_8_method_7_code, (some .int), 0, 0),
  ("ByInitials$Table", ⟨"ByInitials$Table", "waysOfFewest", "()I"⟩, prog_8_method_8_code, (some .int), 0, 0),
  ("ByInitials$Table", ⟨"ByInitials$Table", "sitterAt", "(I)I"⟩, prog_8_method_9_code, (some .int), 4, 89),
  ("ByInitials$Table", ⟨"ByInitials$Table", "nextBehind", "(II)I"⟩, prog_8_method_10_code, (some .int), 3, 66),
  ("ByInitials$Town", ⟨"ByInitials$Town", "<init>", "()V"⟩, prog_9_method_1_code, none, 1, 20),
  ("ByInitials$Town", ⟨"ByInitials$Town", "clear", "()V"⟩, prog_9_method_2_code, none, 0, 0),
  ("ByInitials$Town", ⟨"ByInitials$Town", "copyFrom", "(LByInitials$Town;)V"⟩, prog_9_method_3_code, none, 1, 32),
  ("ByInitials$Town", ⟨"ByInitials$Town", "settle", "([IIII)Z"⟩, prog_9_method_4_code, (some .boolean), 1, 24),
  ("ByInitials$Town", ⟨"ByInitials$Town", "giveName", "(I[II)V"⟩, prog_9_method_5_code, none, 0, 0),
  ("ByInitials$Town", ⟨"ByInitials$Town", "putFirst", "([II)V"⟩, prog_9_method_6_code, none, 1, 22),
  ("ByInitials$Town", ⟨"ByInitials$Town", "place", "(II)V"⟩, prog_9_method_7_code, none, 0, 0),
  ("ByInitials$Town", ⟨"ByInitials$Town", "exchange", "(II)V"⟩, prog_9_method_8_code, none, 1, 22),
  ("ByInitials$Town", ⟨"ByInitials$Town", "setEnemies", "(II)V"⟩, prog_9_method_9_code, none, 0, 0),
  ("ByInitials$Town", ⟨"ByInitials$Town", "areEnemies", "(II)Z"⟩, prog_9_method_10_code, (some .boolean), 1, 21),
  ("ByInitials$Town", ⟨"ByInitials$Town", "isVowel", "(I)Z"⟩, prog_9_method_11_code, (some .boolean), 1, 21),
  ("ByInitials$Town", ⟨"ByInitials$Town", "isNameless", "(I)Z"⟩, prog_9_method_12_code, (some .boolean), 0, 0),
  ("ByInitials$Town", ⟨"ByInitials$Town", "letterOf", "(II)I"⟩, prog_9_method_13_code, (some .int), 0, 0),
  ("ByInitials$Town", ⟨"ByInitials$Town", "first", "(I)I"⟩, prog_9_method_14_code, (some .int), 1, 22),
  ("ByInitials$Town", ⟨"ByInitials$Town", "setFirst", "(II)V"⟩, prog_9_method_15_code, none, 1, 21),
  ("ByInitials$Town", ⟨"ByInitials$Town", "firstLetters", "()I"⟩, prog_9_method_16_code, (some .int), 2, 43),
  ("ByInitials$Town", ⟨"ByInitials$Town", "keyOf", "(I)I"⟩, prog_9_method_17_code, (some .int), 1, 22),
  ("ByInitials$Town", ⟨"ByInitials$Town", "keyOfOne", "(I)I"⟩, prog_9_method_18_code, (some .int), 0, 0),
  ("ByInitials$Town", ⟨"ByInitials$Town", "holdsOffice", "(I)Z"⟩, prog_9_method_19_code, (some .boolean), 2, 43),
  ("ByInitials$Town", ⟨"ByInitials$Town", "countOffice", "()I"⟩, prog_9_method_20_code, (some .int), 3, 64),
  ("ByInitials$Town", ⟨"ByInitials$Town", "suits", "(III)Z"⟩, prog_9_method_21_code, (some .boolean), 2, 43),
  ("ByInitials$Town", ⟨"ByInitials$Town", "mayWed", "(III)Z"⟩, prog_9_method_22_code, (some .boolean), 3, 66),
  ("ByInitials$Town", ⟨"ByInitials$Town", "countWed", "()I"⟩, prog_9_method_23_code, (some .int), 0, 0),
  ("ByInitials$Town", ⟨"ByInitials$Town", "mayLend", "(II)Z"⟩, prog_9_method_24_code, (some .boolean), 2, 43),
  ("ByInitials$Town", ⟨"ByInitials$Town", "pay", "(III)V"⟩, prog_9_method_25_code, none, 0, 0),
  ("ByInitials$Town", ⟨"ByInitials$Town", "debt", "(II)I"⟩, prog_9_method_26_code, (some .int), 0, 0),
  ("ByInitials$Town", ⟨"ByInitials$Town", "setDebt", "(III)V"⟩, prog_9_method_27_code, none, 0, 0),
  ("ByInitials$Town", ⟨"ByInitials$Town", "balance", "(I)I"⟩, prog_9_method_28_code, (some .int), 1, 22),
  ("ByInitials$Town", ⟨"ByInitials$Town", "quarrelAtTable", "(II)Z"⟩, prog_9_method_29_code, (some .boolean), 2, 43),
  ("ByInitials$Town", ⟨"ByInitials$Town", "drawFirstLetters", "(I)V"⟩, prog_9_method_30_code, none, 2, 43),
  ("ByInitials", ⟨"ByInitials", "<init>", "()V"⟩, prog_1_method_1_code, none, 6, 131),
  ("ByInitials", ⟨"ByInitials", "write", "(I)I"⟩, prog_1_method_2_code, (some .int), 1, 21),
  ("ByInitials", ⟨"ByInitials", "wipe", "()I"⟩, prog_1_method_3_code, (some .int), 0, 0),
  ("ByInitials", ⟨"ByInitials", "fault", "()I"⟩, prog_1_method_4_code, (some .int), 6, 131),
  ("ByInitials", ⟨"ByInitials", "lay", "()I"⟩, prog_1_method_5_code, (some .int), 6, 131),
  ("ByInitials", ⟨"ByInitials", "person", "(II)I"⟩, prog_1_method_6_code, (some .int), 5, 108),
  ("ByInitials", ⟨"ByInitials", "letter", "(II)I"⟩, prog_1_method_7_code, (some .int), 1, 22),
  ("ByInitials", ⟨"ByInitials", "alphabet", "(II)I"⟩, prog_1_method_8_code, (some .int), 2, 42),
  ("ByInitials", ⟨"ByInitials", "quarrel", "(II)I"⟩, prog_1_method_9_code, (some .int), 2, 43),
  ("ByInitials", ⟨"ByInitials", "spell", "(I)I"⟩, prog_1_method_10_code, (some .int), 1, 20),
  ("ByInitials", ⟨"ByInitials", "unspell", "()I"⟩, prog_1_method_11_code, (some .int), 0, 0),
  ("ByInitials", ⟨"ByInitials", "price", "(I)I"⟩, prog_1_method_12_code, (some .int), 2, 46),
  ("ByInitials", ⟨"ByInitials", "rename", "(I)I"⟩, prog_1_method_13_code, (some .int), 3, 74),
  ("ByInitials", ⟨"ByInitials", "may", "(II)I"⟩, prog_1_method_14_code, (some .int), 4, 89),
  ("ByInitials", ⟨"ByInitials", "wed", "(II)I"⟩, prog_1_method_15_code, (some .int), 4, 89),
  ("ByInitials", ⟨"ByInitials", "lend", "(III)I"⟩, prog_1_method_16_code, (some .int), 3, 74),
  ("ByInitials", ⟨"ByInitials", "repay", "(III)I"⟩, prog_1_method_17_code, (some .int), 3, 74),
  ("ByInitials", ⟨"ByInitials", "swap", "(II)I"⟩, prog_1_method_18_code, (some .int), 3, 74),
  ("ByInitials", ⟨"ByInitials", "newYear", "()I"⟩, prog_1_method_19_code, (some .int), 3, 74),
  ("ByInitials", ⟨"ByInitials", "undo", "()I"⟩, prog_1_method_20_code, (some .int), 3, 74),
  ("ByInitials", ⟨"ByInitials", "change", "(II)I"⟩, prog_1_method_21_code, (some .int), 5, 108),
  ("ByInitials", ⟨"ByInitials", "run", "(I)I"⟩, prog_1_method_22_code, (some .int), 5, 119),
  ("ByInitials", ⟨"ByInitials", "shortest", "(IIIII)I"⟩, prog_1_method_23_code, (some .int), 6, 137),
  ("ByInitials", ⟨"ByInitials", "match", "(I)I"⟩, prog_1_method_24_code, (some .int), 5, 113),
  ("ByInitials", ⟨"ByInitials", "wide", "(I)I"⟩, prog_1_method_25_code, (some .int), 5, 113),
  ("ByInitials", ⟨"ByInitials", "owed", "(II)I"⟩, prog_1_method_26_code, (some .int), 1, 22),
  ("ByInitials", ⟨"ByInitials", "net", "(I)I"⟩, prog_1_method_27_code, (some .int), 2, 45),
  ("ByInitials", ⟨"ByInitials", "chain", "()I"⟩, prog_1_method_28_code, (some .int), 3, 70),
  ("ByInitials", ⟨"ByInitials", "payments", "()I"⟩, prog_1_method_29_code, (some .int), 3, 71),
  ("ByInitials", ⟨"ByInitials", "seats", "(I)I"⟩, prog_1_method_30_code, (some .int), 5, 116),
  ("ByInitials", ⟨"ByInitials", "bestSwap", "(I)I"⟩, prog_1_method_31_code, (some .int), 5, 113),
  ("ByInitials", ⟨"ByInitials", "enter", "(II)I"⟩, prog_1_method_32_code, (some .int), 1, 22),
  ("ByInitials", ⟨"ByInitials", "close", "()I"⟩, prog_1_method_33_code, (some .int), 0, 0),
  ("ByInitials", ⟨"ByInitials", "fits", "()I"⟩, prog_1_method_34_code, (some .int), 6, 138),
  ("ByInitials", ⟨"ByInitials", "sure", "(I)I"⟩, prog_1_method_35_code, (some .int), 6, 138),
  ("ByInitials", ⟨"ByInitials", "year", "(II)I"⟩, prog_1_method_36_code, (some .int), 5, 108),
  ("ByInitials", ⟨"ByInitials", "keep", "()I"⟩, prog_1_method_37_code, (some .int), 3, 74),
  ("ByInitials", ⟨"ByInitials", "back", "()I"⟩, prog_1_method_38_code, (some .int), 3, 74),
  ("ByInitials", ⟨"ByInitials", "count", "(I)I"⟩, prog_1_method_39_code, (some .int), 5, 108),
  ("ByInitials", ⟨"ByInitials", "isPerson", "(I)Z"⟩, prog_1_method_40_code, (some .boolean), 0, 0),
  ("ByInitials", ⟨"ByInitials", "areTwo", "(II)Z"⟩, prog_1_method_41_code, (some .boolean), 1, 21),
  ("ByInitials", ⟨"ByInitials", "isLetter", "(I)Z"⟩, prog_1_method_42_code, (some .boolean), 0, 0),
  ("ByInitials", ⟨"ByInitials", "holds", "(II)Z"⟩, prog_1_method_43_code, (some .boolean), 0, 0),
  ("ByInitials", ⟨"ByInitials", "lineNow", "()LByInitials$Line;"⟩, prog_1_method_44_code, (some (.object "ByInitials$Line")), 4, 88),
  ("ByInitials", ⟨"ByInitials", "priceOfWord", "(I)I"⟩, prog_1_method_45_code, (some .int), 1, 22),
  ("ByInitials", ⟨"ByInitials", "firstWithRights", "(IIII)I"⟩, prog_1_method_46_code, (some .int), 5, 108),
  ("ByInitialsModel", ⟨"ByInitialsModel", "<init>", "()V"⟩, prog_11_method_1_code, none, 2, 45),
  ("ByInitialsModel", ⟨"ByInitialsModel", "in", "(JJJ)Z"⟩, prog_11_method_2_code, (some .boolean), 0, 0),
  ("ByInitialsModel", ⟨"ByInitialsModel", "spelled", "(IIIIII)V"⟩, prog_11_method_3_code, none, 0, 0),
  ("ByInitialsModel", ⟨"ByInitialsModel", "puts", "(II)V"⟩, prog_11_method_4_code, none, 1, 22),
  ("ByInitialsModel", ⟨"ByInitialsModel", "write", "(I)I"⟩, prog_11_method_5_code, (some .int), 1, 25),
  ("ByInitialsModel", ⟨"ByInitialsModel", "wipe", "()I"⟩, prog_11_method_6_code, (some .int), 0, 0),
  ("ByInitialsModel", ⟨"ByInitialsModel", "number", "()I"⟩, prog_11_method_7_code, (some .int), 1, 25),
  ("ByInitialsModel", ⟨"ByInitialsModel", "isSpelt", "()Z"⟩, prog_11_method_8_code, (some .boolean), 1, 25),
  ("ByInitialsModel", ⟨"ByInitialsModel", "isMore", "(I)Z"⟩, prog_11_method_9_code, (some .boolean), 2, 47),
  ("ByInitialsModel", ⟨"ByInitialsModel", "isItem", "()Z"⟩, prog_11_method_10_code, (some .boolean), 3, 68),
  ("ByInitialsModel", ⟨"ByInitialsModel", "isGood", "(I)Z"⟩, prog_11_method_11_code, (some .boolean), 1, 23),
  ("ByInitialsModel", ⟨"ByInitialsModel", "isPersonPut", "()Z"⟩, prog_11_method_12_code, (some .boolean), 0, 0),
  ("ByInitialsModel", ⟨"ByInitialsModel", "isOrderPut", "()Z"⟩, prog_11_method_13_code, (some .boolean), 0, 0),
  ("ByInitialsModel", ⟨"ByInitialsModel", "begins", "()V"⟩, prog_11_method_14_code, none, 0, 0),
  ("ByInitialsModel", ⟨"ByInitialsModel", "takes", "()V"⟩, prog_11_method_15_code, none, 0, 0),
  ("ByInitialsModel", ⟨"ByInitialsModel", "fault", "()I"⟩, prog_11_method_16_code, (some .int), 4, 90),
  ("ByInitialsModel", ⟨"ByInitialsModel", "lay", "()I"⟩, prog_11_method_17_code, (some .int), 5, 111),
  ("ByInitialsModel", ⟨"ByInitialsModel", "isPerson", "(I)Z"⟩, prog_11_method_18_code, (some .boolean), 1, 25),
  ("ByInitialsModel", ⟨"ByInitialsModel", "isLetter", "(I)Z"⟩, prog_11_method_19_code, (some .boolean), 1, 25),
  ("ByInitialsModel", ⟨"ByInitialsModel", "first", "(II)I"⟩, prog_11_method_20_code, (some .int), 0, 0),
  ("ByInitialsModel", ⟨"ByInitialsModel", "isQuarrel", "(II)Z"⟩, prog_11_method_21_code, (some .boolean), 0, 0),
  ("ByInitialsModel", ⟨"ByInitialsModel", "isVowel", "(I)Z"⟩, prog_11_method_22_code, (some .boolean), 0, 0),
  ("ByInitialsModel", ⟨"ByInitialsModel", "isOffice", "(II)Z"⟩, prog_11_method_23_code, (some .boolean), 1, 22),
  ("ByInitialsModel", ⟨"ByInitialsModel", "isAhead", "(III)Z"⟩, prog_11_method_24_code, (some .boolean), 0, 0),
  ("ByInitialsModel", ⟨"ByInitialsModel", "aheadOf", "(II)I"⟩, prog_11_method_25_code, (some .int), 1, 28),
  ("ByInitialsModel", ⟨"ByInitialsModel", "morning", "(I)I"⟩, prog_11_method_26_code, (some .int), 2, 52),
  ("ByInitialsModel", ⟨"ByInitialsModel", "person", "(II)I"⟩, prog_11_method_27_code, (some .int), 3, 77),
  ("ByInitialsModel", ⟨"ByInitialsModel", "letter", "(II)I"⟩, prog_11_method_28_code, (some .int), 2, 46),
  ("ByInitialsModel", ⟨"ByInitialsModel", "letterOf", "(II)I"⟩, prog_11_method_29_code, (some .int), 0, 0),
  ("ByInitialsModel", ⟨"ByInitialsModel", "alphabet", "(II)I"⟩, prog_11_method_30_code, (some .int), 2, 45),
  ("ByInitialsModel", ⟨"ByInitialsModel", "quarrel", "(II)I"⟩, prog_11_method_31_code, (some .int), 2, 45),
  ("ByInitialsModel", ⟨"ByInitialsModel", "copies", "(II)V"⟩, prog_11_method_32_code, none, 0, 0),
  ("ByInitialsModel", ⟨"ByInitialsModel", "known", "()V"⟩, prog_11_method_33_code, none, 1, 23),
  ("ByInitialsModel", ⟨"ByInitialsModel", "spell", "(I)I"⟩, prog_11_method_34_code, (some .int), 2, 45),
  ("ByInitialsModel", ⟨"ByInitialsModel", "unspell", "()I"⟩, prog_11_method_35_code, (some .int), 0, 0),
  ("ByInitialsModel", ⟨"ByInitialsModel", "priceOf", "(I)I"⟩, prog_11_method_36_code, (some .int), 0, 0),
  ("ByInitialsModel", ⟨"ByInitialsModel", "price", "(I)I"⟩, prog_11_method_37_code, (some .int), 2, 46),
  ("ByInitialsModel", ⟨"ByInitialsModel", "rename", "(I)I"⟩, prog_11_method_38_code, (some .int), 2, 46),
  ("ByInitialsModel", ⟨"ByInitialsModel", "isMay", "(III)Z"⟩, prog_11_method_39_code, (some .boolean), 1, 26),
  ("ByInitialsModel", ⟨"ByInitialsModel", "isTwo", "(II)Z"⟩, prog_11_method_40_code, (some .boolean), 2, 46),
  ("ByInitialsModel", ⟨"ByInitialsModel", "may", "(II)I"⟩, prog_11_method_41_code, (some .int), 3, 68),
  ("ByInitialsModel", ⟨"ByInitialsModel", "weds", "()I"⟩, prog_11_method_42_code, (some .int), 0, 0),
  ("ByInitialsModel", ⟨"ByInitialsModel", "wed", "(II)I"⟩, prog_11_method_43_code, (some .int), 3, 68),
  ("ByInitialsModel", ⟨"ByInitialsModel", "owes", "(II)I"⟩, prog_11_method_44_code, (some .int), 0, 0),
  ("ByInitialsModel", ⟨"ByInitialsModel", "lend", "(III)I"⟩, prog_11_method_45_code, (some .int), 3, 68),
  ("ByInitialsModel", ⟨"ByInitialsModel", "repay", "(III)I"⟩, prog_11_method_46_code, (some .int), 3, 68),
  ("ByInitialsModel", ⟨"ByInitialsModel", "swaps", "(III)V"⟩, prog_11_method_47_code, none, 0, 0),
  ("ByInitialsModel", ⟨"ByInitialsModel", "swap", "(II)I"⟩, prog_11_method_48_code, (some .int), 2, 45),
  ("ByInitialsModel", ⟨"ByInitialsModel", "newYear", "()I"⟩, prog_11_method_49_code, (some .int), 2, 44),
  ("ByInitialsModel", ⟨"ByInitialsModel", "undo", "()I"⟩, prog_11_method_50_code, (some .int), 1, 23),
  ("ByInitialsModel", ⟨"ByInitialsModel", "bestFirst", "(I)I"⟩, prog_11_method_51_code, (some .int), 3, 77),
  ("ByInitialsModel", ⟨"ByInitialsModel", "change", "(II)I"⟩, prog_11_method_52_code, (some .int), 4, 103),
  ("ByInitialsModel", ⟨"ByInitialsModel", "isRound", "()Z"⟩, prog_11_method_53_code, (some .boolean), 4, 103),
  ("ByInitialsModel", ⟨"ByInitialsModel", "run", "(I)I"⟩, prog_11_method_54_code, (some .int), 5, 126),
  ("ByInitialsModel", ⟨"ByInitialsModel", "hasAll", "(IIII)Z"⟩, prog_11_method_55_code, (some .boolean), 1, 28),
  ("ByInitialsModel", ⟨"ByInitialsModel", "shortest", "(IIIII)I"⟩, prog_11_method_56_code, (some .int), 2, 55),
  ("ByInitialsModel", ⟨"ByInitialsModel", "weddings", "(I)I"⟩, prog_11_method_57_code, (some .int), 2, 51),
  ("ByInitialsModel", ⟨"ByInitialsModel", "match", "(I)I"⟩, prog_11_method_58_code, (some .int), 3, 78),
  ("ByInitialsModel", ⟨"ByInitialsModel", "wide", "(I)I"⟩, prog_11_method_59_code, (some .int), 3, 78),
  ("ByInitialsModel", ⟨"ByInitialsModel", "owed", "(II)I"⟩, prog_11_method_60_code, (some .int), 2, 46),
  ("ByInitialsModel", ⟨"ByInitialsModel", "netOf", "(I)I"⟩, prog_11_method_61_code, (some .int), 1, 22),
  ("ByInitialsModel", ⟨"ByInitialsModel", "net", "(I)I"⟩, prog_11_method_62_code, (some .int), 2, 46),
  ("ByInitialsModel", ⟨"ByInitialsModel", "chain", "()I"⟩, prog_11_method_63_code, (some .int), 1, 22),
  ("ByInitialsModel", ⟨"ByInitialsModel", "payments", "()I"⟩, prog_11_method_64_code, (some .int), 2, 45),
  ("ByInitialsModel", ⟨"ByInitialsModel", "isFoe", "(II)Z"⟩, prog_11_method_65_code, (some .boolean), 1, 26),
  ("ByInitialsModel", ⟨"ByInitialsModel", "foes", "()I"⟩, prog_11_method_66_code, (some .int), 2, 50),
  ("ByInitialsModel", ⟨"ByInitialsModel", "follows", "()Z"⟩, prog_11_method_67_code, (some .boolean), 1, 23),
  ("ByInitialsModel", ⟨"ByInitialsModel", "swapsRow", "(II)V"⟩, prog_11_method_68_code, none, 0, 0),
  ("ByInitialsModel", ⟨"ByInitialsModel", "seats", "(I)I"⟩, prog_11_method_69_code, (some .int), 3, 73),
  ("ByInitialsModel", ⟨"ByInitialsModel", "bestSwap", "(I)I"⟩, prog_11_method_70_code, (some .int), 3, 77),
  ("ByInitialsModel", ⟨"ByInitialsModel", "enter", "(II)I"⟩, prog_11_method_71_code, (some .int), 2, 45),
  ("ByInitialsModel", ⟨"ByInitialsModel", "close", "()I"⟩, prog_11_method_72_code, (some .int), 0, 0),
  ("ByInitialsModel", ⟨"ByInitialsModel", "ways", "(I)I"⟩, prog_11_method_73_code, (some .int), 3, 77),
  ("ByInitialsModel", ⟨"ByInitialsModel", "isNext", "(I)Z"⟩, prog_11_method_74_code, (some .boolean), 1, 22),
  ("ByInitialsModel", ⟨"ByInitialsModel", "fits", "()I"⟩, prog_11_method_75_code, (some .int), 4, 102),
  ("ByInitialsModel", ⟨"ByInitialsModel", "sure", "(I)I"⟩, prog_11_method_76_code, (some .int), 4, 102),
  ("ByInitialsModel", ⟨"ByInitialsModel", "year", "(II)I"⟩, prog_11_method_77_code, (some .int), 3, 77),
  ("ByInitialsModel", ⟨"ByInitialsModel", "keep", "()I"⟩, prog_11_method_78_code, (some .int), 1, 23),
  ("ByInitialsModel", ⟨"ByInitialsModel", "back", "()I"⟩, prog_11_method_79_code, (some .int), 1, 23),
  ("ByInitialsModel", ⟨"ByInitialsModel", "count", "(I)I"⟩, prog_11_method_80_code, (some .int), 3, 77),
  ("java/lang/Integer", ⟨"java/lang/Integer", "bitCount", "(I)I"⟩, prog_12_method_49_code, (some .int), 0, 0),
  ("java/lang/String", ⟨"java/lang/String", "length", "()I"⟩, prog_14_method_54_code, (some .int), 1, 20),
  ("java/lang/String", ⟨"java/lang/String", "charAt", "(I)C"⟩, prog_14_method_56_code, (some .char), 3, 64),
  ("java/lang/String", ⟨"java/lang/String", "coder", "()B"⟩, prog_14_method_152_code, (some .byte), 0, 0),
  ("java/lang/String", ⟨"java/lang/String", "isLatin1", "()Z"⟩, prog_14_method_154_code, (some .boolean), 0, 0),
  ("java/lang/String", ⟨"java/lang/String", "checkIndex", "(II)V"⟩, prog_14_method_155_code, none, 1, 22),
  ("java/lang/StringLatin1", ⟨"java/lang/StringLatin1", "charAt", "([BI)C"⟩, prog_15_method_2_code, (some .char), 2, 43),
  ("jdk/internal/util/Preconditions", ⟨"jdk/internal/util/Preconditions", "checkIndex", "(IILjava/util/function/BiFunction;)I"⟩, prog_18_method_11_code, (some .int), 0, 0),
  ("ByInitialsLaw", ⟨"ByInitialsLaw", "law", "([I)Z"⟩, code, (some .boolean), 7, 163)]
def PR (m : Nat) : List Ins × Nat := bi_tab.getD m ([], 0)
def bi_pc (m i : Nat) : Nat := (bi_pcs.getD m []).getD i 0
def bi_rec (m : Nat) : String × MethodName × ByteArray × Option FieldType × Nat × Nat := bi_inf.getD m ("", ⟨"", "", ""⟩, ⟨#[]⟩, none, 0, 0)
def bi_own (m : Nat) : String := (bi_rec m).1
def bi_y (m : Nat) : MethodName := (bi_rec m).2.1
def bi_by (m : Nat) : ByteArray := (bi_rec m).2.2.1
def bi_ret (m : Nat) : Option FieldType := (bi_rec m).2.2.2.1
def bi_fr (m : Nat) : Nat := (bi_rec m).2.2.2.2.1
def bi_lo (m : Nat) : Nat := (bi_rec m).2.2.2.2.2
def bi_mL (m : Nat) : Nat := (PR m).2
end
section
/-! WHAT MAKES AN INSTRUCTION OF THE TABLES A TRUE ONE: a check that a program decides -/
def wAll : List Cond := lw_tbl.filter goodWord
def bi_w (n : Nat) (w : Cond) : Bool := decide (lw_tbl[n]? = some w) && goodWord w
theorem bi_w_ok {n : Nat} {w : Cond} (h : bi_w n w = true) : w ∈ wAll := by
  simp only [bi_w, Bool.and_eq_true, decide_eq_true_eq] at h
  exact List.mem_filter.mpr ⟨List.mem_of_getElem? h.1, h.2⟩
/-- the instruction at a place -/
def bi_d (m i : Nat) (x : Instr) (k : Nat) : Bool := decide (decode (bi_by m) (bi_pc m i) = .ok (x, k))
/-- the same, and the next one lies behind it -/
def bi_dn (m i : Nat) (x : Instr) (k : Nat) : Bool := bi_d m i x k && decide (bi_pc m (i + 1) = bi_pc m i + k)
def bi_off (m i t : Nat) : Int := (bi_pc m t : Int) - (bi_pc m i : Int)
def bi_binI (a : Nat) : Instr := match a with
  | 0 => .iadd | 1 => .isub | 2 => .imul | 3 => .idiv | 4 => .irem | 5 => .ishl | 6 => .ishr | 7 => .iushr | 8 => .iand | 9 => .ior | _ => .ixor
def bi_unI (a : Nat) : Instr := match a with
  | 0 => .ineg | 1 => .i2b | _ => .i2c
def bi_lbinI (a : Nat) : Instr := match a with
  | 0 => .ladd | 1 => .lmul | _ => .lrem
def bi_cnd (a : Nat) : Jvm.ClassFile.Cond := match a with
  | 0 => .eq | 1 => .ne | 2 => .lt | 3 => .ge | 4 => .gt | _ => .le
def bi_cls (a : Nat) : vw_C := vwCl.getD a ("", fun _ => ("", "", "", false), 0)
def bi_fn (a b : Nat) : String × String × String × Bool := (bi_cls a).2.1 b
def bi_cfI (own : String) (m i n : Nat) (c : Int) : Bool := match lw_tbl[n]? with
  | some (.constant o j v) => decide (o = own) && bi_w n (.constant own j v) && decide (v.toInt = c) && (bi_dn m i (.ldc j) 2 || bi_dn m i (.ldc_w j) 3)
  | _ => false
def bi_cfL (own : String) (m i n : Nat) (c : Int) : Bool := match lw_tbl[n]? with
  | some (.constantLong o j v) => decide (o = own) && bi_w n (.constantLong own j v) && decide (v.toInt = c) && bi_dn m i (.ldc2_w j) 3
  | _ => false
/-- a field's word: of class a, number b; the constant pool's number j -/
def bi_fw (own : String) (n a b j : Nat) : Bool := bi_w n (.fieldLink own j (bi_fn a b).1 (bi_fn a b).2.1 (bi_fn a b).2.2.1) && decide (b < (bi_cls a).2.2) && decide (a < 10)
def bi_isI (a b : Nat) : Bool := decide ((bi_fn a b).2.2.1 = "I")
def bi_rt (a : Nat) (t : Option FieldType) : Bool := match a with
  | 0 => decide (t = some .int) | 1 => decide (t = some .boolean) | 2 => decide (t = some .char) | _ => decide (t = some .byte)
def bi_tabs (m i : Nat) (l : List Nat) (offs : List Int) : Bool := decide (l.map (fun t => bi_off m i t) = offs)
/-- a callee, by itself: its code is among the words -/
def bi_mok (m n1 n2 : Nat) : Bool := bi_w n1 (.code (bi_y m) (bi_by m) (bi_mL m) (bi_ret m)) && bi_w n2 (.initialized (bi_y m).cls) && plainName (bi_y m).cls && decide ((bi_y m).cls ≠ "java/lang/invoke/MethodHandle") && decide ((bi_y m).cls ≠ "java/lang/invoke/VarHandle") && decide (bi_own m = (bi_y m).cls)
def bi_np (m : Nat) : Option Nat := (parseMethodDescriptor (bi_y m).desc).map (fun d => d.parameters.length)
def bi_room (m a : Nat) : Bool := decide (bi_fr a + 1 ≤ bi_fr m) && decide (8 + (bi_mL a + 11) + bi_lo a ≤ bi_lo m)
def bi_mis : Nat → Nat → Bool := fun f l => decide (1 ≤ f) && decide (26 ≤ l)
def bi_jn (n : Nat) : Nat := match lw_tbl[n]? with
  | some (.methodLink _ j _) => j
  | some (.methodLinkNest _ j _ _) => j
  | some (.fieldLink _ j _ _ _) => j
  | some (.classLink _ j _) => j
  | _ => 0
/-- a call's link: plain, or of a nest mate -/
def bi_lk (m a n : Nat) (nest : Bool) : Bool := if nest then decide (lw_tbl[n]? = some (.methodLinkNest (bi_own m) (bi_jn n) (bi_y a) "ByInitials")) else bi_w n (.methodLink (bi_own m) (bi_jn n) (bi_y a))
/-- h: places of words; h = [link, selects, code, initialized, kind's word, nest] for a call -/
def bi_ok (m i : Nat) (h : List Nat) (x : Ins) : Bool := match x with
  | (0, _, _, c, _) => (bi_dn m i (.iconst c) 1 && decide ((Int32.ofInt c).toInt = c)) || (bi_dn m i (.bipush c) 2 && decide ((Int8.ofInt c).toInt32.toInt = c)) || (bi_dn m i (.sipush c) 3 && decide ((Int16.ofInt c).toInt32.toInt = c)) || bi_cfI (bi_own m) m i (h.headD 0) c
  | (1, a, 0, _, _) => bi_dn m i (.iload a) 2 || (if ha : a < 4 then bi_dn m i (.iload_n ⟨a, ha⟩) 1 else false)
  | (1, a, 1, _, _) => (if ha : a < 4 then bi_dn m i (.aload_n ⟨a, ha⟩) 1 else false)
  | (1, a, 2, _, _) => bi_dn m i (.lload a) 2 || (if ha : a < 4 then bi_dn m i (.lload_n ⟨a, ha⟩) 1 else false)
  | (2, a, 0, _, _) => bi_dn m i (.istore a) 2 || (if ha : a < 4 then bi_dn m i (.istore_n ⟨a, ha⟩) 1 else false)
  | (2, a, 1, _, _) => (if ha : a < 4 then bi_dn m i (.astore_n ⟨a, ha⟩) 1 else false)
  | (2, a, 2, _, _) => bi_dn m i (.lstore a) 2 || (if ha : a < 4 then bi_dn m i (.lstore_n ⟨a, ha⟩) 1 else false)
  | (3, a, _, _, _) => bi_dn m i (bi_binI a) 1
  | (4, a, _, _, _) => bi_dn m i (bi_unI a) 1
  | (5, _, _, _, _) => bi_dn m i .i2l 1
  | (6, _, _, _, _) => bi_dn m i .l2i 1
  | (7, a, _, _, _) => bi_dn m i (bi_lbinI a) 1
  | (8, _, _, _, _) => bi_dn m i .lcmp 1
  | (9, _, _, c, _) => (bi_dn m i (.lconst 0) 1 && decide (c = 0)) || (bi_dn m i (.lconst 1) 1 && decide (c = 1)) || bi_cfL (bi_own m) m i (h.headD 0) c
  | (10, a, _, c, _) => bi_dn m i (.iinc a c) 3 && decide ((Int32.ofInt c).toInt = c)
  | (11, a, _, _, _) => bi_d m i (.goto (bi_off m i a)) 3
  | (12, a, b, _, _) => bi_dn m i (.if_icmp (bi_cnd b) (bi_off m i a)) 3
  | (13, a, b, _, _) => bi_dn m i (.ifCond (bi_cnd b) (bi_off m i a)) 3
  | (14, 10, 1, _, _) => bi_w (h.headD 0) (.fieldLink (bi_own m) (bi_jn (h.headD 0)) "java/lang/String" "coder" "B") && bi_dn m i (.getfield (bi_jn (h.headD 0))) 3
  | (15, 10, 0, _, _) => bi_w (h.headD 0) (.fieldLink (bi_own m) (bi_jn (h.headD 0)) "java/lang/String" "value" "[B") && bi_dn m i (.getfield (bi_jn (h.headD 0))) 3
  | (14, a, b, _, _) => bi_fw (bi_own m) (h.headD 0) a b (bi_jn (h.headD 0)) && bi_isI a b && bi_dn m i (.getfield (bi_jn (h.headD 0))) 3
  | (15, a, b, _, _) => bi_fw (bi_own m) (h.headD 0) a b (bi_jn (h.headD 0)) && !bi_isI a b && bi_dn m i (.getfield (bi_jn (h.headD 0))) 3
  | (16, a, b, _, _) => bi_fw (bi_own m) (h.headD 0) a b (bi_jn (h.headD 0)) && bi_isI a b && bi_dn m i (.putfield (bi_jn (h.headD 0))) 3 && !(bi_fn a b).2.2.2
  | (17, a, b, _, _) => bi_fw (bi_own m) (h.headD 0) a b (bi_jn (h.headD 0)) && !bi_isI a b && bi_dn m i (.putfield (bi_jn (h.headD 0))) 3 && (bi_fn a b).2.2.2 && decide ((bi_fn a b).1 = bi_own m) && decide ((bi_y m).name = "<init>")
  | (18, _, _, _, _) => bi_dn m i .iaload 1
  | (19, _, _, _, _) => bi_dn m i .iastore 1
  | (20, _, _, _, _) => bi_dn m i .baload 1
  | (21, _, _, _, _) => bi_dn m i .bastore 1
  | (22, _, _, _, _) => bi_dn m i .aaload 1
  | (23, _, _, _, _) => bi_dn m i .aastore 1
  | (24, _, _, _, _) => bi_dn m i .arraylength 1
  | (25, a, b, _, _) => bi_w (h.getD 0 0) (.classLink (bi_own m) (bi_jn (h.getD 0 0)) (bi_cls a).1) && bi_w (h.getD 1 0) (.instantiable (bi_cls a).1 b) && bi_w (h.getD 2 0) (.initialized (bi_cls a).1) && decide (b = (bi_cls a).2.2) && decide (a < 10) && bi_dn m i (.new (bi_jn (h.getD 0 0))) 3
  | (26, 0, _, _, _) => bi_w (h.headD 0) (.arrayClass .int) && bi_dn m i (.newarray .int) 2
  | (26, 1, _, _, _) => bi_w (h.headD 0) (.arrayClass .byte) && bi_dn m i (.newarray .byte) 2
  | (26, _, _, _, _) => bi_w (h.headD 0) (.classLink (bi_own m) (bi_jn (h.headD 0)) "ByInitials$Town") && bi_dn m i (.anewarray (bi_jn (h.headD 0))) 3
  | (28, _, _, _, _) => bi_dn m i .dup 1
  | (29, _, _, _, _) => bi_dn m i .dup2 1
  | (30, _, _, _, _) => bi_dn m i .pop 1
  | (31, a, _, c, l) => match decode (bi_by m) (bi_pc m i) with
    | .ok (.tableswitch d lo hi offs, _) => decide (lo = c) && decide (hi = c + l.length - 1) && decide (d = bi_off m i a) && bi_tabs m i l offs.toList
    | _ => false
  | (32, a, _, _, l) => match decode (bi_by m) (bi_pc m i) with
    | .ok (.lookupswitch d ps, _) => decide (d = bi_off m i a) && (ps.toList.zip (ps.toList.drop 1)).all (fun (a, next) => a.1 < next.1) && decide (ps.toList.flatMap (fun q => [q.1, q.2 + (bi_pc m i : Int)]) = (List.range (l.length / 2)).flatMap (fun j => [(l.getD (2 * j) 0 : Int), (bi_pc m (l.getD (2 * j + 1) 0) : Int)])) && decide (l.length = 2 * (l.length / 2))
    | _ => false
  | (33, a, _, _, _) => bi_d m i .ireturn 1 && bi_rt a (bi_ret m)
  | (34, _, _, _, _) => bi_d m i .return_ 1 && decide (bi_ret m = none)
  | (35, _, _, _, _) => bi_d m i .areturn 1 && decide (bi_ret m = some (.object "ByInitials$Line"))
  | (36, a, b, 0, l) => bi_mok a (h.getD 2 0) (h.getD 3 0) && bi_room m a && bi_lk m a (h.getD 0 0) false && bi_w (h.getD 1 0) (.selects (bi_y a).cls (bi_y a) (bi_y a)) && bi_w (h.getD 4 0) (.instanceMethod (bi_y a)) && decide (bi_np a = some (b - 1)) && decide (1 ≤ b) && decide ((l.headD 0 = 10 ∧ (bi_y a).cls = "java/lang/String") ∨ (l.headD 0 < 10 ∧ (bi_y a).cls = (bi_cls (l.headD 0)).1)) && bi_dn m i (.invokevirtual (bi_jn (h.getD 0 0))) 3
  | (36, a, b, 1, _) => bi_mok a (h.getD 2 0) (h.getD 3 0) && bi_room m a && bi_lk m a (h.getD 0 0) (decide (h.getD 5 0 = 1)) && bi_w (h.getD 4 0) (.static (bi_y a)) && decide (bi_np a = some b) && bi_dn m i (.invokestatic (bi_jn (h.getD 0 0))) 3
  | (36, a, b, _, _) => bi_mok a (h.getD 2 0) (h.getD 3 0) && bi_room m a && bi_lk m a (h.getD 0 0) (decide (h.getD 5 0 = 1)) && bi_w (h.getD 4 0) (.instanceMethod (bi_y a)) && decide ((bi_y a).name = "<init>") && decide (bi_ret a = none) && decide (bi_np a = some (b - 1)) && decide (1 ≤ b) && bi_dn m i (.invokespecial (bi_jn (h.getD 0 0))) 3
  | (37, _, _, _, _) => bi_w (h.getD 0 0) (.methodLink (bi_own m) (bi_jn (h.getD 0 0)) Lib.objectInit) && bi_w (h.getD 1 0) (.instanceMethod Lib.objectInit) && bi_w (h.getD 2 0) (.code Lib.objectInit ⟨#[0xb1]⟩ 1 none) && bi_mis (bi_fr m) (bi_lo m + 6) && bi_dn m i (.invokespecial (bi_jn (h.getD 0 0))) 3
  | (38, a, _, _, _) => (match a with
    | 0 => bi_w (h.getD 0 0) (.methodLink (bi_own m) (bi_jn (h.getD 0 0)) Lib.Math.max.name) && bi_w (h.getD 1 0) (.static Lib.Math.max.name) && bi_w (h.getD 3 0) (.code Lib.Math.max.name Lib.Math.max.code 2 (some .int))
    | 1 => bi_w (h.getD 0 0) (.methodLink (bi_own m) (bi_jn (h.getD 0 0)) Lib.Math.min.name) && bi_w (h.getD 1 0) (.static Lib.Math.min.name) && bi_w (h.getD 3 0) (.code Lib.Math.min.name Lib.Math.min.code 2 (some .int))
    | _ => bi_w (h.getD 0 0) (.methodLink (bi_own m) (bi_jn (h.getD 0 0)) Lib.Math.abs.name) && bi_w (h.getD 1 0) (.static Lib.Math.abs.name) && bi_w (h.getD 3 0) (.code Lib.Math.abs.name Lib.Math.abs.code 1 (some .int))) && bi_w (h.getD 2 0) (.initialized "java/lang/Math") && bi_mis (bi_fr m) (bi_lo m + 5) && bi_dn m i (.invokestatic (bi_jn (h.getD 0 0))) 3
  | (39, _, _, _, _) => bi_w (h.getD 0 0) (.methodLink (bi_own m) (bi_jn (h.getD 0 0)) arraycopyName) && bi_w (h.getD 1 0) (.native arraycopyName) && bi_w (h.getD 2 0) (.static arraycopyName) && bi_w (h.getD 3 0) (.initialized "java/lang/System") && bi_mis (bi_fr m) (bi_lo m) && bi_dn m i (.invokestatic (bi_jn (h.getD 0 0))) 3
  | (40, _, _, _, _) => decide (bi_own m = "ByInitials") && bi_dn m i (.ldc 77) 2
  | (41, 0, _, _, _) => bi_w (h.headD 0) (.fieldLink (bi_own m) (bi_jn (h.headD 0)) "java/lang/String" "COMPACT_STRINGS" "Z") && bi_dn m i (.getstatic (bi_jn (h.headD 0))) 3
  | (41, _, _, _, _) => bi_w (h.headD 0) (.fieldLink (bi_own m) (bi_jn (h.headD 0)) "jdk/internal/util/Preconditions" "SIOOBE_FORMATTER" "Ljava/util/function/BiFunction;") && bi_dn m i (.getstatic (bi_jn (h.headD 0))) 3
  | _ => true
/-- a whole method: its hints, one a place -/
def bi_okM (m : Nat) (hs : List (List Nat)) : Nat → List Ins → Bool
  | _, [] => true
  | i, x :: l => bi_ok m i (hs.getD i []) x && bi_okM m hs (i + 1) l
theorem bi_okM_get {m : Nat} {hs : List (List Nat)} : ∀ (l : List Ins) (i j : Nat) (x : Ins), bi_okM m hs i l = true → l[j]? = some x → bi_ok m (i + j) (hs.getD (i + j) []) x = true := by
  intro l
  induction l with
  | nil => intro i j x h hj; simp at hj
  | cons y l ih =>
    intro i j x h hj
    simp only [bi_okM, Bool.and_eq_true] at h
    cases j with
    | zero => simp at hj; subst hj; exact h.1
    | succ j =>
      have := ih (i + 1) j x h.2 (by simpa using hj)
      rw [show i + (j + 1) = i + 1 + j by omega]
      exact this
end
section
/-! each instruction of the tables against the bytecode: decided by program (wip/gen/prog.py wrote the places of the words) -/
def bh_0 : List (List Nat) := [[], [268, 95, 96], [], [], [120], [269], [], [], [120], [270], [], [], [120], [271], []]
set_option maxRecDepth 100000 in
theorem bo_0 : bi_okM 0 bh_0 0 bc_0 = true := by decide +kernel
def bh_1 : List (List Nat) := [[], [], [], [], [130], [], [], [269], [], [], [], [], [], [], [], [], [], [], [], [130], [], [], [], [], [], [801, 22, 804, 79, 803, 0], [], [], [], [], [], [], [], [], [], [], [], [], [], [130], [], [], [], [269], [], [], [806, 558, 88, 559], [], [], [], [], []]
set_option maxRecDepth 100000 in
theorem bo_1 : bi_okM 1 bh_1 0 bc_1 = true := by decide +kernel
def bh_2 : List (List Nat) := [[], [], [], [], [], [], [130], [], [], [], [], [], [130], [], [], [], [], [805, 661, 662, 74, 660, 0], [], [], [269], [], [], [], [269], [], [], [], [], [], [], [269], [], [], [269], [], [], [], [], [], [], [], [], [], [], [], [], []]
set_option maxRecDepth 100000 in
theorem bo_2 : bi_okM 2 bh_2 0 bc_2 = true := by decide +kernel
def bh_3 : List (List Nat) := [[], [], [130], [], [], [], [], [], [270], [], [], [], [], [271], [], [], [], [], [], [], [], [130], [], [], [], [815, 790, 791, 74, 789, 0], [], [], [], [], [], [], [], [], [], [], [], [], [], [], [], [], [270], [], [], [270], [], [], [], [], [], [], [], [], [], [], [], [], [], [], [], [], [], [], [], [], [271], [], [], [], [816, 23, 819, 79, 818, 0], [], [], [], [], [130], [], [271], [], [], [], []]
set_option maxRecDepth 100000 in
theorem bo_3 : bi_okM 3 bh_3 0 bc_3 = true := by decide +kernel
def bh_4 : List (List Nat) := [[], [], [], [], [], [], [], [], [], [820, 0, 430, 72, 429, 1], [], [], [], [271], [], [], [], [], [], [], [806, 558, 88, 559], [], [], [], [], [270], [], [], [], [], [], [], [], [], []]
set_option maxRecDepth 100000 in
theorem bo_4 : bi_okM 4 bh_4 0 bc_4 = true := by decide +kernel
def bh_5 : List (List Nat) := [[], [284, 95, 96], [], [], [120], [285], [], [], [120], [286], []]
set_option maxRecDepth 100000 in
theorem bo_5 : bi_okM 5 bh_5 0 bc_5 = true := by decide +kernel
def bh_6 : List (List Nat) := [[], [287], [], [], [], [], [], [285], [], [287], [], [], [], [286], [], [287], [], [], [], [], [287], [], [], [287], [], []]
set_option maxRecDepth 100000 in
theorem bo_6 : bi_okM 6 bh_6 0 bc_6 = true := by decide +kernel
def bh_7 : List (List Nat) := [[], [224], [], [914, 566, 567, 74, 565, 0], [], [285], [], [], [], [], [], [915, 548, 549, 76, 547, 0], [], [286], [], [], [], [], [], [], []]
set_option maxRecDepth 100000 in
theorem bo_7 : bi_okM 7 bh_7 0 bc_7 = true := by decide +kernel
def bh_8 : List (List Nat) := [[], [], [], [], [], [], [224], [132], [], [], [], [], [], [], [910, 30, 913, 80, 912, 0], [], [], [], [], [], [], [], [], [], []]
set_option maxRecDepth 100000 in
theorem bo_8 : bi_okM 8 bh_8 0 bc_8 = true := by decide +kernel
def bh_9 : List (List Nat) := [[], [], [], [], [], [], [], [], [], [285], [], [], [], [285], [], [], [], [], [286], [], [], [], [286], [], [], [], [], [], [], [], [], [], [], [], []]
set_option maxRecDepth 100000 in
theorem bo_9 : bi_okM 9 bh_9 0 bc_9 = true := by decide +kernel
def bh_10 : List (List Nat) := [[], [], [], [], [], [], [287], [], [], [], [], [], [], [906, 29, 909, 80, 908, 0], [], [], [916, 31, 919, 80, 918, 0], [], [920, 558, 88, 559], [], [], [], [], [], []]
set_option maxRecDepth 100000 in
theorem bo_10 : bi_okM 10 bh_10 0 bc_10 = true := by decide +kernel
def bh_11 : List (List Nat) := [[], [], [], [906, 29, 909, 80, 908, 0], [], [], [], [], [], [], [], [], [224], [132], [], [], [], [], [], [910, 30, 913, 80, 912, 0], [], [], [], [], [], [], []]
set_option maxRecDepth 100000 in
theorem bo_11 : bi_okM 11 bh_11 0 bc_11 = true := by decide +kernel
def bh_12 : List (List Nat) := [[], [219, 95, 96], [], [], [120], [222], [], [220, 122, 74], [], [221, 0, 125, 74, 124, 1], [223], []]
set_option maxRecDepth 100000 in
theorem bo_12 : bi_okM 12 bh_12 0 bc_12 = true := by decide +kernel
def bh_13 : List (List Nat) := [[], [223], [], [520, 499, 500, 74, 498, 0], [], [521, 523, 524, 76, 522, 0], []]
set_option maxRecDepth 100000 in
theorem bo_13 : bi_okM 13 bh_13 0 bc_13 = true := by decide +kernel
def bh_14 : List (List Nat) := [[], [], [], [], [223], [131], [], [], [222], [], [], [223], [], [525, 527, 528, 74, 526, 0], [], [], [], []]
set_option maxRecDepth 100000 in
theorem bo_14 : bi_okM 14 bh_14 0 bc_14 = true := by decide +kernel
def bh_15 : List (List Nat) := [[], [], [222], [], [], [], [], [], [222], [], [], [], [], [], [], [], [], [], []]
set_option maxRecDepth 100000 in
theorem bo_15 : bi_okM 15 bh_15 0 bc_15 = true := by decide +kernel
def bh_16 : List (List Nat) := [[], [], [], [], [], [], [223], [131], [], [], [], [], [], [], [], [], [], [222], [], [], [542, 544, 545, 76, 543, 0], [], [], [], [], [], [], [], [], [], []]
set_option maxRecDepth 100000 in
theorem bo_16 : bi_okM 16 bh_16 0 bc_16 = true := by decide +kernel
def bh_17 : List (List Nat) := [[], [223], [135], [], [], [], [], [], [223], [131], [], [], [], [], [], [], [], [], [542, 544, 545, 76, 543, 0], [], [], [], [223], [151], [], [], [], [], [], [], [], [], [], [223], [151], [], [], [554, 555, 88, 556], [557, 558, 88, 559], []]
set_option maxRecDepth 100000 in
theorem bo_17 : bi_okM 17 bh_17 0 bc_17 = true := by decide +kernel
def bh_18 : List (List Nat) := [[], [], [], [222], [], [], [550, 552, 553, 76, 551, 0], []]
set_option maxRecDepth 100000 in
theorem bo_18 : bi_okM 18 bh_18 0 bc_18 = true := by decide +kernel
def bh_19 : List (List Nat) := [[], [], [], [], [], [], [223], [131], [], [], [], [], [874, 548, 549, 76, 547, 0], [], [223], [151], [], [], [], [], [], [], [], [], [], [], [], []]
set_option maxRecDepth 100000 in
theorem bo_19 : bi_okM 19 bh_19 0 bc_19 = true := by decide +kernel
def bh_20 : List (List Nat) := [[], [223], [], [], [884, 685, 686, 74, 684, 0], [], [521, 523, 524, 76, 522, 0], [], [885, 872, 873, 76, 871, 0], [], [], [223], [], [], [884, 685, 686, 74, 684, 0], [], [521, 523, 524, 76, 522, 0], [], []]
set_option maxRecDepth 100000 in
theorem bo_20 : bi_okM 20 bh_20 0 bc_20 = true := by decide +kernel
def bh_21 : List (List Nat) := [[], [222], [], [], [716], [], [], [223], [], [717, 719, 720, 74, 718, 0], [], []]
set_option maxRecDepth 100000 in
theorem bo_21 : bi_okM 21 bh_21 0 bc_21 = true := by decide +kernel
def bh_22 : List (List Nat) := [[], [], [], [], [], [712, 714, 715, 76, 713, 0], [550, 552, 553, 76, 551, 0], [], [], [], [223], [], [722, 566, 567, 74, 565, 0], [], [], [], [], [], [223], [143], [], []]
set_option maxRecDepth 100000 in
theorem bo_22 : bi_okM 22 bh_22 0 bc_22 = true := by decide +kernel
def bh_23 : List (List Nat) := [[], [223], [164], [], [], [], [], [], [], [708, 710, 711, 76, 709, 0], [], [], [], [], [], [], [], [223], [164], [], [], [], [], [], [], [708, 710, 711, 76, 709, 0], [], [], [], [], [], [], [], [], [], [], [], []]
set_option maxRecDepth 100000 in
theorem bo_23 : bi_okM 23 bh_23 0 bc_23 = true := by decide +kernel
def bh_24 : List (List Nat) := [[], [], [], [], [], [], [223], [131], [], [], [223], [], [732, 531, 532, 74, 530, 0], [], [], [], [733, 706, 707, 76, 705, 0], [], [], [], [], [], [223], [], [722, 566, 567, 74, 565, 0], [], [], [], [], [], [], [223], [], [], [734, 736, 737, 74, 735, 0], [], [222], [], [], [], [], [712, 714, 715, 76, 713, 0], [], [], [], [], []]
set_option maxRecDepth 100000 in
theorem bo_24 : bi_okM 24 bh_24 0 bc_24 = true := by decide +kernel
def bh_25 : List (List Nat) := [[], [236, 95, 96], [], [], [120], [237], [], [], [120], [238], []]
set_option maxRecDepth 100000 in
theorem bo_25 : bi_okM 25 bh_25 0 bc_25 = true := by decide +kernel
def bh_26 : List (List Nat) := [[], [], [], [], [129], [], [], [237], [], [], [], [], [], [], [], [129], [], [], [237], [], [], [], [], [], [], [], [], [], [], [758, 637, 638, 74, 636, 0], [], [], [], [], [], [], [], [], [], [], [], [], [], [], [129], [], [], [], [], [], [238], [], [], [], [], [], [], [], [], [], [], [], [], [238], [], [], [], [759, 20, 762, 77, 761, 0], [], [], [], [], [238], [], [], []]
set_option maxRecDepth 100000 in
theorem bo_26 : bi_okM 26 bh_26 0 bc_26 = true := by decide +kernel
def bh_27 : List (List Nat) := [[], [763, 0, 765, 77, 764, 0], [], [], [], [], [], [], [], [], [238], [], [], [], [], [], [], [], [], [], [], [], [], [237], [], [], [], [], [766, 0, 430, 72, 429, 1], [], [], [], [], [238], [], [], [], [], [], [], [], [767, 558, 88, 559], [], [], [], [], []]
set_option maxRecDepth 100000 in
theorem bo_27 : bi_okM 27 bh_27 0 bc_27 = true := by decide +kernel
def bh_28 : List (List Nat) := [[], [], [], [], [], [], [], [766, 0, 430, 72, 429, 1], [], [], [], [], []]
set_option maxRecDepth 100000 in
theorem bo_28 : bi_okM 28 bh_28 0 bc_28 = true := by decide +kernel
def bh_29 : List (List Nat) := [[], [], [], [], [], [], [], [], [], [], [], [], [], [], [763, 0, 765, 77, 764, 0], [], [], [], [], [772, 21, 775, 77, 774, 0], [], [], [], [], [], [], [], [], [], [], [], [], [], [], [], [], [], [], [], [], [], [], [], [], [], [], [], [], [], []]
set_option maxRecDepth 100000 in
theorem bo_29 : bi_okM 29 bh_29 0 bc_29 = true := by decide +kernel
def bh_30 : List (List Nat) := [[], [], [], [], [], [], [], [], [], [], [], [], [], [], [], [237], [], [], [], [], [766, 0, 430, 72, 429, 1], [], [], [], [238], [], [], [], [], [], [], [], [], [238], [], [], [], [], [], [], [], [], []]
set_option maxRecDepth 100000 in
theorem bo_30 : bi_okM 30 bh_30 0 bc_30 = true := by decide +kernel
def bh_31 : List (List Nat) := [[], [202, 95, 96], [], [], [], [], [], [], [], [203], [206], [], [], [], [], [206], [], [], [], [206], [], [203, 122, 74], [], [205, 0, 125, 74, 124, 1], [], [], [], []]
set_option maxRecDepth 100000 in
theorem bo_31 : bi_okM 31 bh_31 0 bc_31 = true := by decide +kernel
def bh_32 : List (List Nat) := [[], [207], [], [206], [], [], [], [], [], []]
set_option maxRecDepth 100000 in
theorem bo_32 : bi_okM 32 bh_32 0 bc_32 = true := by decide +kernel
def bh_33 : List (List Nat) := [[], [617, 619, 620, 75, 618, 0], [], [], [621, 17, 624, 75, 623, 0], [], [206], [], [207], [], [], [625, 499, 500, 74, 498, 0], [], [], [207], [], [], [207], []]
set_option maxRecDepth 100000 in
theorem bo_33 : bi_okM 33 bh_33 0 bc_33 = true := by decide +kernel
def bh_34 : List (List Nat) := [[], [207], [], [], [], [], [], [207], [], [], [207], [], [], [206], [], [207], [], [625, 499, 500, 74, 498, 0], [], []]
set_option maxRecDepth 100000 in
theorem bo_34 : bi_okM 34 bh_34 0 bc_34 = true := by decide +kernel
def bh_35 : List (List Nat) := [[], [206], [], [], [], [], [], [], [], [206], [], [], [], [206], [], [], [], [], [206], [], [], [], [], [], [], [206], [], [206], [], [], [], [], [], [], [], [206], [], [], [], [207], []]
set_option maxRecDepth 100000 in
theorem bo_35 : bi_okM 35 bh_35 0 bc_35 = true := by decide +kernel
def bh_36 : List (List Nat) := [[], [102, 95, 96], [], [], [120], [103], [], [], [120], [104], []]
set_option maxRecDepth 100000 in
theorem bo_36 : bi_okM 36 bh_36 0 bc_36 = true := by decide +kernel
def bh_37 : List (List Nat) := [[], [106], [], [], [], [], [], [103], [], [106], [], [], [], [], [106], [], [], [106], [], []]
set_option maxRecDepth 100000 in
theorem bo_37 : bi_okM 37 bh_37 0 bc_37 = true := by decide +kernel
def bh_38 : List (List Nat) := [[], [353, 355, 356, 74, 354, 0], [], [], [107], [], [], [108], [], [], [], [], [], [], [107], [], [106], [], [], [107], [], [], [], [358, 0, 361, 73, 360, 0], [], [], [], [], [], [], []]
set_option maxRecDepth 100000 in
theorem bo_38 : bi_okM 38 bh_38 0 bc_38 = true := by decide +kernel
def bh_39 : List (List Nat) := [[], [362, 1, 365, 73, 364, 0], [], [], [], [107], [], [], [107], [], [], [], [], [366, 2, 369, 73, 368, 0], [], [], [], [394, 7, 397, 73, 396, 0], [], [], [], [398, 8, 401, 73, 400, 0], [], [], [], [402, 9, 405, 73, 404, 0], [], [], [], [406, 10, 409, 73, 408, 0], [], [], [], [431, 12, 434, 73, 433, 0], [], [], [], [435, 13, 438, 73, 437, 0], [], [], []]
set_option maxRecDepth 100000 in
theorem bo_39 : bi_okM 39 bh_39 0 bc_39 = true := by decide +kernel
def bh_40 : List (List Nat) := [[], [370, 3, 373, 73, 372, 0], [], [], [], [374, 4, 377, 73, 376, 0], [], [], [], [], [], [378, 5, 381, 73, 380, 0], [], [], [], [], [], [], [374, 4, 377, 73, 376, 0], [], [], [], [], [], [378, 5, 381, 73, 380, 0], [], [], [], [], [], [], [374, 4, 377, 73, 376, 0], [], [], [], [104], [], [], [], [386, 388, 389, 74, 387, 0], [], [], [], [], []]
set_option maxRecDepth 100000 in
theorem bo_40 : bi_okM 40 bh_40 0 bc_40 = true := by decide +kernel
def bh_41 : List (List Nat) := [[], [], [378, 5, 381, 73, 380, 0], [], [], [], [136], [], [], [], [], [], [374, 4, 377, 73, 376, 0], [], [], [], [], []]
set_option maxRecDepth 100000 in
theorem bo_41 : bi_okM 41 bh_41 0 bc_41 = true := by decide +kernel
def bh_42 : List (List Nat) := [[], [], [378, 5, 381, 73, 380, 0], [], [], [], [139], [], [], [], [], [], [374, 4, 377, 73, 376, 0], [], [], [], [], []]
set_option maxRecDepth 100000 in
theorem bo_42 : bi_okM 42 bh_42 0 bc_42 = true := by decide +kernel
def bh_43 : List (List Nat) := [[], [], [378, 5, 381, 73, 380, 0], [], [], [], [142], [], [], [], [], [], [374, 4, 377, 73, 376, 0], [], [], [], [], []]
set_option maxRecDepth 100000 in
theorem bo_43 : bi_okM 43 bh_43 0 bc_43 = true := by decide +kernel
def bh_44 : List (List Nat) := [[], [370, 3, 373, 73, 372, 0], [], [], [], [], [], [410, 11, 413, 73, 412, 0], [414, 0, 416, 85, 415, 0], [], [], [], [], [374, 4, 377, 73, 376, 0], [], [], [], [], [], [104], [], [420, 422, 423, 74, 421, 0], [], []]
set_option maxRecDepth 100000 in
theorem bo_44 : bi_okM 44 bh_44 0 bc_44 = true := by decide +kernel
def bh_45 : List (List Nat) := [[], [370, 3, 373, 73, 372, 0], [], [], [], [], [410, 11, 413, 73, 412, 0], [146], [], [], [], [], [374, 4, 377, 73, 376, 0], [], [], [], [], []]
set_option maxRecDepth 100000 in
theorem bo_45 : bi_okM 45 bh_45 0 bc_45 = true := by decide +kernel
def bh_46 : List (List Nat) := [[], [370, 3, 373, 73, 372, 0], [], [], [], [], [], [108], [], [], [], [], [374, 4, 377, 73, 376, 0], [], [], [], [], [], [108], [], [], [108], [], [], [104], [], [], [], [104], [], [], [439, 441, 442, 74, 440, 0], [], []]
set_option maxRecDepth 100000 in
theorem bo_46 : bi_okM 46 bh_46 0 bc_46 = true := by decide +kernel
def bh_47 : List (List Nat) := [[], [107], [], [106], [], [], [103], [], [107], [], [], [], []]
set_option maxRecDepth 100000 in
theorem bo_47 : bi_okM 47 bh_47 0 bc_47 = true := by decide +kernel
def bh_48 : List (List Nat) := [[], [362, 1, 365, 73, 364, 0], [], [], [], [], [], [], [107], [], [], [107], [], []]
set_option maxRecDepth 100000 in
theorem bo_48 : bi_okM 48 bh_48 0 bc_48 = true := by decide +kernel
def bh_49 : List (List Nat) := [[], [], [], [], [], [], [362, 1, 365, 73, 364, 0], [], [], [], [362, 1, 365, 73, 364, 0], [], [], [], [104], [], [], [362, 1, 365, 73, 364, 0], [], [], [], [], [], [], [107], [], [], [107], [], [], []]
set_option maxRecDepth 100000 in
theorem bo_49 : bi_okM 49 bh_49 0 bc_49 = true := by decide +kernel
def bh_50 : List (List Nat) := [[], [], [], [], [], [], [], [], [], [], [104], [], [], [], [], [], [], [], [], []]
set_option maxRecDepth 100000 in
theorem bo_50 : bi_okM 50 bh_50 0 bc_50 = true := by decide +kernel
def bh_51 : List (List Nat) := [[], [382, 6, 385, 73, 384, 0], [], [], [], [], [362, 1, 365, 73, 364, 0], [], [], [], [], [], [107], [], [], [107], [], [382, 6, 385, 73, 384, 0], [], [], [], [], [], [362, 1, 365, 73, 364, 0], [], [], [], [], [], [], [107], [], [], [107], [], [], [], [], [], [], []]
set_option maxRecDepth 100000 in
theorem bo_51 : bi_okM 51 bh_51 0 bc_51 = true := by decide +kernel
def bh_52 : List (List Nat) := [[], [362, 1, 365, 73, 364, 0], [], [], [], [362, 1, 365, 73, 364, 0], [], [], [], [], [], []]
set_option maxRecDepth 100000 in
theorem bo_52 : bi_okM 52 bh_52 0 bc_52 = true := by decide +kernel
def bh_53 : List (List Nat) := [[], [249, 95, 96], [], [], [120], [250], [], [], [120], [251], [], [], [120], [252], []]
set_option maxRecDepth 100000 in
theorem bo_53 : bi_okM 53 bh_53 0 bc_53 = true := by decide +kernel
def bh_54 : List (List Nat) := [[], [], [128], [253], [], [], [], [], [253], [], [], [252], [], [], [], [], [], [], [], [253], [], [], [252], [], [], [], [], [], [], [], [], [], [829, 831, 832, 74, 830, 0], [], [], [], [], [], [], [], [], [], [], [], [], [], [], [253], [], [], [], [], [], [], [], [], [253], [], [], [250], [], [], [], [], [], [], [], [833, 24, 836, 78, 835, 0], [], [], [251], [], [], [], [], [], [], [], [], [], [], [], [], [], [], [], [], [], [], [], [253], [], [], [], [841, 0, 430, 72, 429, 1], [], [], [], [], [842, 26, 845, 78, 844, 0], [], [], [], [], []]
set_option maxRecDepth 100000 in
theorem bo_54 : bi_okM 54 bh_54 0 bc_54 = true := by decide +kernel
def bh_55 : List (List Nat) := [[], [252], [], [], [], [841, 0, 430, 72, 429, 1], [], [], [], [], []]
set_option maxRecDepth 100000 in
theorem bo_55 : bi_okM 55 bh_55 0 bc_55 = true := by decide +kernel
def bh_56 : List (List Nat) := [[], [253], [], [], [], [], [], [837, 25, 840, 78, 839, 0], [], [], []]
set_option maxRecDepth 100000 in
theorem bo_56 : bi_okM 56 bh_56 0 bc_56 = true := by decide +kernel
def bh_57 : List (List Nat) := [[], [], [], [837, 25, 840, 78, 839, 0], [], [250], [], [], [], [], [], [], [], [], [], [], [], []]
set_option maxRecDepth 100000 in
theorem bo_57 : bi_okM 57 bh_57 0 bc_57 = true := by decide +kernel
def bh_58 : List (List Nat) := [[], [], [], [], [], [], [], [], [253], [], [], [], [841, 0, 430, 72, 429, 1], [], [], [], [], [], [846, 27, 849, 78, 848, 0], [], [], [], [], [], [], [], [], [], [], [], [], [], [251], [], [], [], [], [], [], [], [], [], [], [], [], [], [], [], [250], [], [], [], [], [], [], [], [], [251], [], [], [], [], [], [], [], []]
set_option maxRecDepth 100000 in
theorem bo_58 : bi_okM 58 bh_58 0 bc_58 = true := by decide +kernel
def bh_59 : List (List Nat) := [[], [250], [], [], []]
set_option maxRecDepth 100000 in
theorem bo_59 : bi_okM 59 bh_59 0 bc_59 = true := by decide +kernel
def bh_60 : List (List Nat) := [[], [251], [], [], []]
set_option maxRecDepth 100000 in
theorem bo_60 : bi_okM 60 bh_60 0 bc_60 = true := by decide +kernel
def bh_61 : List (List Nat) := [[], [], [], [], [], [], [], [], [], [], [], [], [], [], [], [862, 28, 865, 78, 864, 0], [], [], [], [], [], [], [], [], [], [], []]
set_option maxRecDepth 100000 in
theorem bo_61 : bi_okM 61 bh_61 0 bc_61 = true := by decide +kernel
def bh_62 : List (List Nat) := [[], [], [], [], [253], [], [], [], [841, 0, 430, 72, 429, 1], [], [], [], [], [], [846, 27, 849, 78, 848, 0], [], [250], [], [], [], [], [], [], [], [], [], [], [], [], []]
set_option maxRecDepth 100000 in
theorem bo_62 : bi_okM 62 bh_62 0 bc_62 = true := by decide +kernel
def bh_63 : List (List Nat) := [[], [126, 95, 96], [], [], [120], [147], [], [], [120], [149], [], [], [120], [150], [], [], [120], [153], [], [], [120], [155], [], [], [120], [157], [], [], [120], [159], [], [], [120], [160], [], [], [120], [162], [], [], [120], [165], []]
set_option maxRecDepth 100000 in
theorem bo_63 : bi_okM 63 bh_63 0 bc_63 = true := by decide +kernel
def bh_64 : List (List Nat) := [[], [], [127], [], [], [134], [], [], [138], [], [], [141], [], [357], [145], [], [], [], [], [], [], [155], [], [], [], [], [157], [], [], [], [], [], [], [], [], [], [], [], [159], [], [], [], [], [], [], [], [], [], [], [], [165], [], [], [], [], [160], [], [], [], [], [162], [], [], [], [], [], []]
set_option maxRecDepth 100000 in
theorem bo_64 : bi_okM 64 bh_64 0 bc_64 = true := by decide +kernel
def bh_65 : List (List Nat) := [[], [], [127], [127], [], [], [134], [134], [], [], [138], [138], [], [], [141], [141], [], [], [145], [145], [], [147], [], [], [147], [], [], [501, 503, 502, 87], [], [149], [], [], [149], [], [], [501, 503, 502, 87], [], [150], [], [], [150], [], [], [501, 503, 502, 87], [], [153], [], [], [153], [], [], [501, 503, 502, 87], [], [155], [], [], [155], [], [], [501, 503, 502, 87], [], [157], [], [], [157], [], [], [501, 503, 502, 87], [], [159], [], [], [159], [], [], [501, 503, 502, 87], [], [160], [], [], [160], [], [], [501, 503, 502, 87], [], [162], [], [], [162], [], [], [501, 503, 502, 87], [], [165], [], [], [165], [], [], [501, 503, 502, 87], []]
set_option maxRecDepth 100000 in
theorem bo_65 : bi_okM 65 bh_65 0 bc_65 = true := by decide +kernel
def bh_66 : List (List Nat) := [[], [127], [], [], [], [], [], [], [127], [], [], [390, 392, 393, 74, 391, 0], [], [150], [], [127], [], [], [], [153], [], [127], [], [], [], [], [127], [], [], [127], [], []]
set_option maxRecDepth 100000 in
theorem bo_66 : bi_okM 66 bh_66 0 bc_66 = true := by decide +kernel
def bh_67 : List (List Nat) := [[], [147], [], [], [], [], [], [], [], [], [], [], [], [], [149], [], [], [], [], [], [], [], [], [], [], [], []]
set_option maxRecDepth 100000 in
theorem bo_67 : bi_okM 67 bh_67 0 bc_67 = true := by decide +kernel
def bh_68 : List (List Nat) := [[], [], [], [], [], [], [], [], [], [], [], [], [424, 426, 427, 74, 425, 0], [], [], [], [], [], [], [], [], [], [], [], [], [], [], [], [], [], [], [], [], [], [], [428, 0, 430, 72, 429, 1], [], [], [], [], [424, 426, 427, 74, 425, 0], [], [], [], []]
set_option maxRecDepth 100000 in
theorem bo_68 : bi_okM 68 bh_68 0 bc_68 = true := by decide +kernel
def bh_69 : List (List Nat) := [[], [160], [], [], [], [], [162], [], [], [], []]
set_option maxRecDepth 100000 in
theorem bo_69 : bi_okM 69 bh_69 0 bc_69 = true := by decide +kernel
def bh_70 : List (List Nat) := [[], [160], [], [], [], [], [], [], [160], [], [], [424, 426, 427, 74, 425, 0], [], [], [], [424, 426, 427, 74, 425, 0], []]
set_option maxRecDepth 100000 in
theorem bo_70 : bi_okM 70 bh_70 0 bc_70 = true := by decide +kernel
def bh_71 : List (List Nat) := [[], [165], [], [], [], [], [], [], [], [], [], [165], [], [], [], [], [], [], [], [], []]
set_option maxRecDepth 100000 in
theorem bo_71 : bi_okM 71 bh_71 0 bc_71 = true := by decide +kernel
def bh_72 : List (List Nat) := [[], [165], [], [], [], [428, 0, 430, 72, 429, 1], []]
set_option maxRecDepth 100000 in
theorem bo_72 : bi_okM 72 bh_72 0 bc_72 = true := by decide +kernel
def bh_73 : List (List Nat) := [[], [145], [], [428, 0, 430, 72, 429, 1], []]
set_option maxRecDepth 100000 in
theorem bo_73 : bi_okM 73 bh_73 0 bc_73 = true := by decide +kernel
def bh_74 : List (List Nat) := [[], [147], [], [], [], [], [], [], []]
set_option maxRecDepth 100000 in
theorem bo_74 : bi_okM 74 bh_74 0 bc_74 = true := by decide +kernel
def bh_75 : List (List Nat) := [[], [], [147], [], [], [], [], [], [], [], [149], [], [], [], [], [], [], [], [], []]
set_option maxRecDepth 100000 in
theorem bo_75 : bi_okM 75 bh_75 0 bc_75 = true := by decide +kernel
def bh_76 : List (List Nat) := [[], [], [], [534, 536, 537, 74, 535, 0], []]
set_option maxRecDepth 100000 in
theorem bo_76 : bi_okM 76 bh_76 0 bc_76 = true := by decide +kernel
def bh_77 : List (List Nat) := [[], [], [529, 531, 532, 74, 530, 0], [], [], [149], [], [], [], [], [], []]
set_option maxRecDepth 100000 in
theorem bo_77 : bi_okM 77 bh_77 0 bc_77 = true := by decide +kernel
def bh_78 : List (List Nat) := [[], [], [], [], [], [], [127], [], [], [], [], [529, 531, 532, 74, 530, 0], [], [], [], [], [], [], [564, 566, 567, 74, 565, 0], [], [], [], [], [], [], []]
set_option maxRecDepth 100000 in
theorem bo_78 : bi_okM 78 bh_78 0 bc_78 = true := by decide +kernel
def bh_79 : List (List Nat) := [[], [], [529, 531, 532, 74, 530, 0], [], [533], [], [], [], [], [], [], [], [], [], [], [], [534, 536, 537, 74, 535, 0], [], [], [], [], [], [], [], [], [], [], [160], [], [], [], [], [], [], [], [], [], []]
set_option maxRecDepth 100000 in
theorem bo_79 : bi_okM 79 bh_79 0 bc_79 = true := by decide +kernel
def bh_80 : List (List Nat) := [[], [160], [], [], [], [], [721], [], []]
set_option maxRecDepth 100000 in
theorem bo_80 : bi_okM 80 bh_80 0 bc_80 = true := by decide +kernel
def bh_81 : List (List Nat) := [[], [], [529, 531, 532, 74, 530, 0], [], [], [], [], [564, 566, 567, 74, 565, 0], [568, 570, 571, 74, 569, 0], [], [], [], [], []]
set_option maxRecDepth 100000 in
theorem bo_81 : bi_okM 81 bh_81 0 bc_81 = true := by decide +kernel
def bh_82 : List (List Nat) := [[], [], [], [], [], [], [127], [], [], [], [], [947, 562, 563, 74, 561, 0], [], [], [], [], [], [], [], [], [], []]
set_option maxRecDepth 100000 in
theorem bo_82 : bi_okM 82 bh_82 0 bc_82 = true := by decide +kernel
def bh_83 : List (List Nat) := [[], [], [], [], [], [], [], [], [], [160], [], [], [], [160], [], [], [], [643, 644, 88, 645], [], [], [], [], [], [646, 591, 592, 74, 590, 0], [], [], [], [], []]
set_option maxRecDepth 100000 in
theorem bo_83 : bi_okM 83 bh_83 0 bc_83 = true := by decide +kernel
def bh_84 : List (List Nat) := [[], [155], [], [], [], [], [], [155], [], [], [], [], [], [], [], [564, 566, 567, 74, 565, 0], [], [], [564, 566, 567, 74, 565, 0], [], [639, 641, 642, 74, 640, 0], [], [], [], [], []]
set_option maxRecDepth 100000 in
theorem bo_84 : bi_okM 84 bh_84 0 bc_84 = true := by decide +kernel
def bh_85 : List (List Nat) := [[], [], [], [], [], [], [127], [], [], [], [155], [], [], [], [], [], [], [], [], [], [], [], [], []]
set_option maxRecDepth 100000 in
theorem bo_85 : bi_okM 85 bh_85 0 bc_85 = true := by decide +kernel
def bh_86 : List (List Nat) := [[], [], [529, 531, 532, 74, 530, 0], [], [], [], [529, 531, 532, 74, 530, 0], [], [], [160], [], [], [564, 566, 567, 74, 565, 0], [], [], [160], [], [], [564, 566, 567, 74, 565, 0], [], [], [], [], [], []]
set_option maxRecDepth 100000 in
theorem bo_86 : bi_okM 86 bh_86 0 bc_86 = true := by decide +kernel
def bh_87 : List (List Nat) := [[], [153], [], [], [], [], [], [], [], [153], [], [], [], [], [], [], []]
set_option maxRecDepth 100000 in
theorem bo_87 : bi_okM 87 bh_87 0 bc_87 = true := by decide +kernel
def bh_88 : List (List Nat) := [[], [159], [], [], [], [], [], [], []]
set_option maxRecDepth 100000 in
theorem bo_88 : bi_okM 88 bh_88 0 bc_88 = true := by decide +kernel
def bh_89 : List (List Nat) := [[], [159], [], [], [], [], [], [], [], []]
set_option maxRecDepth 100000 in
theorem bo_89 : bi_okM 89 bh_89 0 bc_89 = true := by decide +kernel
def bh_90 : List (List Nat) := [[], [], [], [], [], [], [127], [], [], [], [], [], [792, 661, 662, 74, 660, 0], [], [], [], [792, 661, 662, 74, 660, 0], [], [], [], [], [], [], []]
set_option maxRecDepth 100000 in
theorem bo_90 : bi_okM 90 bh_90 0 bc_90 = true := by decide +kernel
def bh_91 : List (List Nat) := [[], [], [529, 531, 532, 74, 530, 0], [], [], [], [529, 531, 532, 74, 530, 0], [], [], [], [], [564, 566, 567, 74, 565, 0], [], [], [564, 566, 567, 74, 565, 0], [646, 591, 592, 74, 590, 0], [], [], [], [], []]
set_option maxRecDepth 100000 in
theorem bo_91 : bi_okM 91 bh_91 0 bc_91 = true := by decide +kernel
def bh_92 : List (List Nat) := [[], [], [], [], [127], [], [937], [], [], [], [938], [], [], [], [], [], [], [], [], [], [], [], [], [939], [], [940], [], [], [941, 736, 737, 74, 735, 0], [], [], []]
set_option maxRecDepth 100000 in
theorem bo_92 : bi_okM 92 bh_92 0 bc_92 = true := by decide +kernel
def bh_93 : List (List Nat) := [[], [94, 95, 96], [], [97, 98, 73], [], [99, 0, 101, 73, 100, 1], [443], [], [121, 122, 74], [], [123, 0, 125, 74, 124, 1], [444], [], [121, 122, 74], [], [123, 0, 125, 74, 124, 1], [445], [], [197, 198, 75], [], [], [199, 0, 201, 75, 200, 0], [446], [], [197, 198, 75], [], [], [199, 0, 201, 75, 200, 0], [447], [], [214, 215, 76], [], [216, 0, 218, 76, 217, 1], [448], [], [231, 232, 77], [], [233, 0, 235, 77, 234, 1], [449], [], [244, 245, 78], [], [246, 0, 248, 78, 247, 1], [450], [], [263, 264, 79], [], [265, 0, 267, 79, 266, 1], [451], [], [279, 280, 80], [], [281, 0, 283, 80, 282, 1], [452], [], [], [120], [453], [], [], [], [], [297, 299, 300, 81, 298, 0], [], [], [443], [], [], [307, 309, 310, 81, 308, 0], [345, 347, 348, 73, 346, 0], [], [], [], [], [443], [], [444], [349, 351, 352, 73, 350, 0], [], [], [443], [], [105], []]
set_option maxRecDepth 100000 in
theorem bo_93 : bi_okM 93 bh_93 0 bc_93 = true := by decide +kernel
def bh_94 : List (List Nat) := [[], [], [], [], [], [], [], [], [], [443], [], [345, 347, 348, 73, 346, 0], [], [], [443], [105], [], [], []]
set_option maxRecDepth 100000 in
theorem bo_94 : bi_okM 94 bh_94 0 bc_94 = true := by decide +kernel
def bh_95 : List (List Nat) := [[], [443], [105], [], [], [443], [], [105], [], []]
set_option maxRecDepth 100000 in
theorem bo_95 : bi_okM 95 bh_95 0 bc_95 = true := by decide +kernel
def bh_96 : List (List Nat) := [[], [443], [], [445], [349, 351, 352, 73, 350, 0], []]
set_option maxRecDepth 100000 in
theorem bo_96 : bi_okM 96 bh_96 0 bc_96 = true := by decide +kernel
def bh_97 : List (List Nat) := [[], [443], [], [445], [349, 351, 352, 73, 350, 0], [], [], [], [445], [133], [], [], [], [], [444], [], [445], [497, 499, 500, 74, 498, 0], [], [], [454], [], [452], [], [288], [], [446], [], [208], [], [447], [], [208], [], [444], [133], []]
set_option maxRecDepth 100000 in
theorem bo_97 : bi_okM 97 bh_97 0 bc_97 = true := by decide +kernel
def bh_98 : List (List Nat) := [[], [], [508, 14, 511, 72, 510, 0], [], [], [], [], [], [], [444], [148], [], [], [], [], [444], [152], [], [], [], [], [444], [154], [], [], [], [], [444], [156], [], [], [], [], [444], [158], [], [], [], [], [512, 15, 515, 72, 514, 0], [], [538, 540, 541, 76, 539, 0], [], [], [512, 15, 515, 72, 514, 0], [], [546, 548, 549, 76, 547, 0], [], [], [444], [], [560, 562, 563, 74, 561, 0], [], [], [], [], [], [], []]
set_option maxRecDepth 100000 in
theorem bo_98 : bi_okM 98 bh_98 0 bc_98 = true := by decide +kernel
def bh_99 : List (List Nat) := [[], [], [508, 14, 511, 72, 510, 0], [], [], [], [], [], [], [444], [], [], [576, 536, 537, 74, 535, 0], []]
set_option maxRecDepth 100000 in
theorem bo_99 : bi_okM 99 bh_99 0 bc_99 = true := by decide +kernel
def bh_100 : List (List Nat) := [[], [581, 0, 583, 72, 582, 0], [], [], [], [], [], [], [444], [161], [], [], [], [], [444], [163], [], [], [], [], [444], [], [584, 570, 571, 74, 569, 0], [], [], [], [], [], [], []]
set_option maxRecDepth 100000 in
theorem bo_100 : bi_okM 100 bh_100 0 bc_100 = true := by decide +kernel
def bh_101 : List (List Nat) := [[], [581, 0, 583, 72, 582, 0], [], [], [581, 0, 583, 72, 582, 0], [], [], [], [], [444], [], [], [589, 591, 592, 74, 590, 0], [], [], [], [], []]
set_option maxRecDepth 100000 in
theorem bo_101 : bi_okM 101 bh_101 0 bc_101 = true := by decide +kernel
def bh_102 : List (List Nat) := [[], [581, 0, 583, 72, 582, 0], [], [], [], [], [454], [], [], [], [], [], [453], [], [454], [], [], [], [], [454], [], [], [454], [], [454], []]
set_option maxRecDepth 100000 in
theorem bo_102 : bi_okM 102 bh_102 0 bc_102 = true := by decide +kernel
def bh_103 : List (List Nat) := [[], [454], [], [], [], [454], [], []]
set_option maxRecDepth 100000 in
theorem bo_103 : bi_okM 103 bh_103 0 bc_103 = true := by decide +kernel
def bh_104 : List (List Nat) := [[], [], [508, 14, 511, 72, 510, 0], [], [], [], [605, 16, 608, 72, 607, 0], [], [], []]
set_option maxRecDepth 100000 in
theorem bo_104 : bi_okM 104 bh_104 0 bc_104 = true := by decide +kernel
def bh_105 : List (List Nat) := [[], [], [508, 14, 511, 72, 510, 0], [], [], [], [], [], [605, 16, 608, 72, 607, 0], [], [], [444], [158], [], [], [], [], [], [444], [154], [], [], [], [], [], [], [], [446], [], [444], [613, 615, 616, 75, 614, 0], [], [444], [], [], [453], [], [454], [626, 392, 393, 74, 391, 0], [], [444], [158], [], [], [], [], [444], [154], [], [], [], [], [], [], [], [444], [154], [], [], []]
set_option maxRecDepth 100000 in
theorem bo_105 : bi_okM 105 bh_105 0 bc_105 = true := by decide +kernel
def bh_106 : List (List Nat) := [[], [], [], [631, 18, 634, 72, 633, 0], [], [], [], [], [444], [], [], [], [444], [140], [635, 637, 638, 74, 636, 0], [], [], [], [], []]
set_option maxRecDepth 100000 in
theorem bo_106 : bi_okM 106 bh_106 0 bc_106 = true := by decide +kernel
def bh_107 : List (List Nat) := [[], [], [], [631, 18, 634, 72, 633, 0], [], [], [], [], [444], [], [], [], [444], [140], [635, 637, 638, 74, 636, 0], [], [], [], [], [446], [], [444], [613, 615, 616, 75, 614, 0], [], [444], [156], [], [], [], [], [444], [156], [], [], [], [], [444], [651, 653, 654, 74, 652, 0], []]
set_option maxRecDepth 100000 in
theorem bo_107 : bi_okM 107 bh_107 0 bc_107 = true := by decide +kernel
def bh_108 : List (List Nat) := [[], [], [], [631, 18, 634, 72, 633, 0], [], [], [], [], [], [], [], [], [], [], [444], [], [], [659, 661, 662, 74, 660, 0], [], [], [], [], [444], [154], [], [], [], [], [], [], [], [], [444], [], [], [663, 665, 666, 74, 664, 0], [], [], [], [], [446], [], [444], [613, 615, 616, 75, 614, 0], [], [444], [], [], [], [667, 669, 670, 74, 668, 0], [], [444], [], [], [], [671, 673, 674, 74, 672, 0], [], []]
set_option maxRecDepth 100000 in
theorem bo_108 : bi_okM 108 bh_108 0 bc_108 = true := by decide +kernel
def bh_109 : List (List Nat) := [[], [], [], [631, 18, 634, 72, 633, 0], [], [], [], [], [], [], [], [], [], [], [444], [], [], [659, 661, 662, 74, 660, 0], [], [], [], [], [], [], [444], [154], [], [], [], [], [], [], [], [446], [], [444], [613, 615, 616, 75, 614, 0], [], [444], [], [], [], [667, 669, 670, 74, 668, 0], [], [444], [], [], [], [671, 673, 674, 74, 672, 0], [], []]
set_option maxRecDepth 100000 in
theorem bo_109 : bi_okM 109 bh_109 0 bc_109 = true := by decide +kernel
def bh_110 : List (List Nat) := [[], [581, 0, 583, 72, 582, 0], [], [], [581, 0, 583, 72, 582, 0], [], [], [], [], [], [], [], [446], [], [444], [613, 615, 616, 75, 614, 0], [], [444], [], [], [683, 685, 686, 74, 684, 0], [], [444], [161], [], [], []]
set_option maxRecDepth 100000 in
theorem bo_110 : bi_okM 110 bh_110 0 bc_110 = true := by decide +kernel
def bh_111 : List (List Nat) := [[], [446], [], [444], [613, 615, 616, 75, 614, 0], [], [], [], [], [], [], [444], [133], [], [], [], [444], [158], [], [], [], [], [], [444], [158], [], [], [], [], [], [], []]
set_option maxRecDepth 100000 in
theorem bo_111 : bi_okM 111 bh_111 0 bc_111 = true := by decide +kernel
def bh_112 : List (List Nat) := [[], [446], [], [444], [695, 697, 698, 75, 696, 0], [], [], [446], [208], [], [], []]
set_option maxRecDepth 100000 in
theorem bo_112 : bi_okM 112 bh_112 0 bc_112 = true := by decide +kernel
def bh_113 : List (List Nat) := [[], [], [508, 14, 511, 72, 510, 0], [], [], [], [], [], [], [], [], [], [444], [], [703, 531, 532, 74, 530, 0], [], [], [], [], [512, 15, 515, 72, 514, 0], [], [], [448], [], [704, 706, 707, 76, 705, 0], [], [], [], [], [], [], [448], [], [], [723, 710, 711, 76, 709, 0], [], [], []]
set_option maxRecDepth 100000 in
theorem bo_113 : bi_okM 113 bh_113 0 bc_113 = true := by decide +kernel
def bh_114 : List (List Nat) := [[], [], [], [], [], [508, 14, 511, 72, 510, 0], [], [], [], [], [], [], [], [444], [], [703, 531, 532, 74, 530, 0], [], [], [], [], [512, 15, 515, 72, 514, 0], [], [], [], [], [], [], [], [448], [728, 730, 731, 76, 729, 0], [], [], [], [], [], [], [], [448], [225], [], [738, 566, 567, 74, 565, 0], [], [], [], [], [], [448], [728, 730, 731, 76, 729, 0], [], [], [], [], []]
set_option maxRecDepth 100000 in
theorem bo_114 : bi_okM 114 bh_114 0 bc_114 = true := by decide +kernel
def bh_115 : List (List Nat) := [[], [], [508, 14, 511, 72, 510, 0], [], [], [], [508, 14, 511, 72, 510, 0], [], [], [], [508, 14, 511, 72, 510, 0], [], [], [], [], [], [], [], [], [], [], [], [], [], [], [], [], [], [], [], [], [], [], [], [], [], [743, 19, 746, 72, 745, 0], [], [], [], [], [], [], [], [], [], [], [], []]
set_option maxRecDepth 100000 in
theorem bo_115 : bi_okM 115 bh_115 0 bc_115 = true := by decide +kernel
def bh_116 : List (List Nat) := [[], [], [], [], [], [508, 14, 511, 72, 510, 0], [], [], [], [], [449], [], [444], [], [444], [140], [754, 756, 757, 77, 755, 0], [], [], [], [], [], [], [], [449], [], [], [444], [133], [768, 770, 771, 77, 769, 0], []]
set_option maxRecDepth 100000 in
theorem bo_116 : bi_okM 116 bh_116 0 bc_116 = true := by decide +kernel
def bh_117 : List (List Nat) := [[], [], [], [], [], [], [], [], [], [449], [], [444], [], [754, 756, 757, 77, 755, 0], [], [], [], [], [], [], [], [], [], [], [], [], [], [], [], [], [], [], [], [], [], [], [], [449], [], [444], [], [754, 756, 757, 77, 755, 0], [], [], [], [], [], [], [], [], [], [], [], [], []]
set_option maxRecDepth 100000 in
theorem bo_117 : bi_okM 117 bh_117 0 bc_117 = true := by decide +kernel
def bh_118 : List (List Nat) := [[], [], [508, 14, 511, 72, 510, 0], [], [], [], [508, 14, 511, 72, 510, 0], [], [], [444], [], [], [659, 661, 662, 74, 660, 0], [], [], []]
set_option maxRecDepth 100000 in
theorem bo_118 : bi_okM 118 bh_118 0 bc_118 = true := by decide +kernel
def bh_119 : List (List Nat) := [[], [], [508, 14, 511, 72, 510, 0], [], [], [444], [], [788, 790, 791, 74, 789, 0], [], [], [], [], []]
set_option maxRecDepth 100000 in
theorem bo_119 : bi_okM 119 bh_119 0 bc_119 = true := by decide +kernel
def bh_120 : List (List Nat) := [[], [451], [], [444], [797, 799, 800, 79, 798, 0], []]
set_option maxRecDepth 100000 in
theorem bo_120 : bi_okM 120 bh_120 0 bc_120 = true := by decide +kernel
def bh_121 : List (List Nat) := [[], [451], [], [444], [811, 813, 814, 79, 812, 0], []]
set_option maxRecDepth 100000 in
theorem bo_121 : bi_okM 121 bh_121 0 bc_121 = true := by decide +kernel
def bh_122 : List (List Nat) := [[], [], [], [], [], [444], [133], [], [], [], [], [450], [], [444], [825, 827, 828, 78, 826, 0], [], [], [], [], [450], [850, 852, 853, 78, 851, 0], [], [], [], [], [], [450], [854, 856, 857, 78, 855, 0], [], [], [450], [], [858, 860, 861, 78, 859, 0], []]
set_option maxRecDepth 100000 in
theorem bo_122 : bi_okM 122 bh_122 0 bc_122 = true := by decide +kernel
def bh_123 : List (List Nat) := [[], [], [], [], [], [], [], [], [512, 15, 515, 72, 514, 0], [870, 872, 873, 76, 871, 0], [], [], [], [], [444], [875, 877, 878, 74, 876, 0], [], [], [], [], [], [], [], [], [], [], [], [], [], [], [], [879, 0, 430, 72, 429, 0], [], [], [], [879, 0, 430, 72, 429, 0], [], [], [448], [], [], [880, 882, 883, 76, 881, 0], [], [], [], [], [], [], [], [], [], [], [], [], [], [], [], [], [], [], [], [], [], [], [], [], []]
set_option maxRecDepth 100000 in
theorem bo_123 : bi_okM 123 bh_123 0 bc_123 = true := by decide +kernel
def bh_124 : List (List Nat) := [[], [581, 0, 583, 72, 582, 0], [], [], [], [], [], [], [], [], [], [452], [], [], [890, 892, 893, 80, 891, 0], [], [], [452], [288], [], [], []]
set_option maxRecDepth 100000 in
theorem bo_124 : bi_okM 124 bh_124 0 bc_124 = true := by decide +kernel
def bh_125 : List (List Nat) := [[], [452], [288], [], [], [452], [], [288], [], []]
set_option maxRecDepth 100000 in
theorem bo_125 : bi_okM 125 bh_125 0 bc_125 = true := by decide +kernel
def bh_126 : List (List Nat) := [[], [452], [], [512, 15, 515, 72, 514, 0], [902, 904, 905, 80, 903, 0], []]
set_option maxRecDepth 100000 in
theorem bo_126 : bi_okM 126 bh_126 0 bc_126 = true := by decide +kernel
def bh_127 : List (List Nat) := [[], [], [], [], [452], [288], [], [], [], [], [452], [], [512, 15, 515, 72, 514, 0], [902, 904, 905, 80, 903, 0], [], [], [], [], [452], [], [], [448], [925, 927, 928, 80, 926, 0], []]
set_option maxRecDepth 100000 in
theorem bo_127 : bi_okM 127 bh_127 0 bc_127 = true := by decide +kernel
def bh_128 : List (List Nat) := [[], [], [], [], [], [], [], [], [], [], [], [], [], [512, 15, 515, 72, 514, 0], [], [], [448], [225], [], [933, 935, 936, 74, 934, 0], [], [448], [942, 523, 524, 76, 522, 0], [], [], [], [448], [870, 872, 873, 76, 871, 0], [], [], [448], [225], [943, 945, 946, 74, 944, 0], []]
set_option maxRecDepth 100000 in
theorem bo_128 : bi_okM 128 bh_128 0 bc_128 = true := by decide +kernel
def bh_129 : List (List Nat) := [[], [447], [952, 619, 620, 75, 618, 0], [], [], [], [], [447], [], [444], [613, 615, 616, 75, 614, 0], [], [447], [208], []]
set_option maxRecDepth 100000 in
theorem bo_129 : bi_okM 129 bh_129 0 bc_129 = true := by decide +kernel
def bh_130 : List (List Nat) := [[], [447], [], [444], [695, 697, 698, 75, 696, 0], [], [], [], [], [446], [], [208], [], [447], [208], []]
set_option maxRecDepth 100000 in
theorem bo_130 : bi_okM 130 bh_130 0 bc_130 = true := by decide +kernel
def bh_131 : List (List Nat) := [[], [], [], [444], [133], [], [], [444], [137], [], [], [444], [140], [], [], [444], [144], [], [], [454], [], [], [444], [651, 653, 654, 74, 652, 0], [], [], [452], [288], [], [], [446], [208], [], [], [447], [208], [], [], [443], [105], [], [], [512, 15, 515, 72, 514, 0], [870, 872, 873, 76, 871, 0], [], [], []]
set_option maxRecDepth 100000 in
theorem bo_131 : bi_okM 131 bh_131 0 bc_131 = true := by decide +kernel
def bh_132 : List (List Nat) := [[], [], [], [], [444], [133], [], [], [], [], []]
set_option maxRecDepth 100000 in
theorem bo_132 : bi_okM 132 bh_132 0 bc_132 = true := by decide +kernel
def bh_133 : List (List Nat) := [[], [], [508, 14, 511, 72, 510, 0], [], [], [], [508, 14, 511, 72, 510, 0], [], [], [], [], [], [], [], []]
set_option maxRecDepth 100000 in
theorem bo_133 : bi_okM 133 bh_133 0 bc_133 = true := by decide +kernel
def bh_134 : List (List Nat) := [[], [], [], [], [], [], [], [], []]
set_option maxRecDepth 100000 in
theorem bo_134 : bi_okM 134 bh_134 0 bc_134 = true := by decide +kernel
def bh_135 : List (List Nat) := [[], [], [], [], [], [], [], [], [], [], []]
set_option maxRecDepth 100000 in
theorem bo_135 : bi_okM 135 bh_135 0 bc_135 = true := by decide +kernel
def bh_136 : List (List Nat) := [[], [448], [], [444], [516, 518, 519, 76, 517, 0], [], [448], []]
set_option maxRecDepth 100000 in
theorem bo_136 : bi_okM 136 bh_136 0 bc_136 = true := by decide +kernel
def bh_137 : List (List Nat) := [[], [], [], [], [], [], [], [], [], [454], [], [], [453], [], [], [], [], [], [], [], [444], [], [], [576, 536, 537, 74, 535, 0], [], [], [], [], [], [], [444], [144], [], []]
set_option maxRecDepth 100000 in
theorem bo_137 : bi_okM 137 bh_137 0 bc_137 = true := by decide +kernel
def bh_138 : List (List Nat) := [[], [512, 15, 515, 72, 514, 0], [], [], [], [], [], [], [], [444], [163], [], [], [], [], [], [], [], [], [444], [], [584, 570, 571, 74, 569, 0], [], [], [], [], [], [], [], [], [], [], [], [], [], [448], [], [], [], [444], [], [747, 719, 720, 74, 718, 0], [748, 544, 545, 76, 543, 0], [], [], [], [], [], [], [], [], [], [], [444], [], [], [444], [], [738, 566, 567, 74, 565, 0], [], [444], [140], [749, 641, 642, 74, 640, 0], [], [], [], [], [], [], [], [], [], [], [], [], [], [], [], [], []]
set_option maxRecDepth 100000 in
theorem bo_138 : bi_okM 138 bh_138 0 bc_138 = true := by decide +kernel
def bh_139 : List (List Nat) := [[], [966, 95, 96], [], [], [480], [989], [], [], [120], [991], [], [], [120], [992], [], [], [120], [993], [], [], [120], [994], [], [], [120], [995], [], [], [120], [996], [], [], [120], [997], [], [], [120], [1001], [], [], [120], [1003], [], [], [120], [1004], [], [], [120], [1005], [], [], [120], [1006], [], [], [120], [1007], [], [], [120], [1009], [], [], [120], [1010], [], [967, 32, 970, 86, 969, 0], [], [], [], [], [], [], [], [972, 33, 975, 86, 974, 0], [], [], [], [976, 34, 979, 86, 978, 0], [], [], [], [], [], [], [], [972, 33, 975, 86, 974, 0], [], [], [], [976, 34, 979, 86, 978, 0], [], [], [], [], [], [], [], [972, 33, 975, 86, 974, 0], [], [], [], [976, 34, 979, 86, 978, 0], [], [], [], [], [], [], [], [972, 33, 975, 86, 974, 0], [], [], [], [976, 34, 979, 86, 978, 0], [], [996], [], [], [], [], [996], [], [], [], [], [991], [], [], [], [], [984, 36, 987, 86, 986, 0], []]
set_option maxRecDepth 100000 in
theorem bo_139 : bi_okM 139 bh_139 0 bc_139 = true := by decide +kernel
def bh_140 : List (List Nat) := [[], [], [], [], [], [], [], [], [], [], [], []]
set_option maxRecDepth 100000 in
theorem bo_140 : bi_okM 140 bh_140 0 bc_140 = true := by decide +kernel
def bh_141 : List (List Nat) := [[], [], [1011], [], [1010], [], [], [], [], [1010], [], [], [], [], [1010], [], [], [], [], [1010], [], [], [], [], [1010], [], [], [], []]
set_option maxRecDepth 100000 in
theorem bo_141 : bi_okM 141 bh_141 0 bc_141 = true := by decide +kernel
def bh_142 : List (List Nat) := [[], [1009], [], [], [], [], [1009], [], [], [], [], [980, 35, 983, 86, 982, 0], [], [], [991], [], [], [], [], [], [], [], [], [], [], []]
set_option maxRecDepth 100000 in
theorem bo_142 : bi_okM 142 bh_142 0 bc_142 = true := by decide +kernel
def bh_143 : List (List Nat) := [[], [], [1068], [1069], [1070, 0, 1072, 86, 1071, 0], [], [], [], [], [988], [], [], [], [], [], [989], [], [988], [], [], [], [], [], [988], [], [], [988], [], [988], []]
set_option maxRecDepth 100000 in
theorem bo_143 : bi_okM 143 bh_143 0 bc_143 = true := by decide +kernel
def bh_144 : List (List Nat) := [[], [988], [], [], [], [988], [], []]
set_option maxRecDepth 100000 in
theorem bo_144 : bi_okM 144 bh_144 0 bc_144 = true := by decide +kernel
def bh_145 : List (List Nat) := [[], [], [], [], [], [990], [], [988], [], [], [989], [], [990], [], [], [1099], [1100], [1070, 0, 1072, 86, 1071, 0], [], [], [], [], [], [], [], [], [989], [], [990], [], [], [], [], [], [], [], [], [], [], [990], [], [], [990], [], [], [], [], [1101], [1070, 0, 1072, 86, 1071, 0], [], [], [], [], []]
set_option maxRecDepth 100000 in
theorem bo_145 : bi_okM 145 bh_145 0 bc_145 = true := by decide +kernel
def bh_146 : List (List Nat) := [[], [], [1011], [], [990], [], [988], [], [], [989], [], [990], [], [], [1089], [1090], [1070, 0, 1072, 86, 1071, 0], [], [], [1011], [], [], [], [1010], [], [1011], [], [989], [], [990], [], [], [], [], [], [], [1011], [], [], [1011], [], [], [990], [], [], [990], [], [], [1011], [], [], [], [], [], []]
set_option maxRecDepth 100000 in
theorem bo_146 : bi_okM 146 bh_146 0 bc_146 = true := by decide +kernel
def bh_147 : List (List Nat) := [[], [990], [], [988], [], [], [989], [], [990], [], [], [], [], [], [], [], [990], [], [], [990], [], [1009], [], [], [1095, 40, 1098, 86, 1097, 0], [], [], [1009], [], [], [], [], [], [], []]
set_option maxRecDepth 100000 in
theorem bo_147 : bi_okM 147 bh_147 0 bc_147 = true := by decide +kernel
def bh_148 : List (List Nat) := [[], [989], [], [990], [], [], [], [], [990], [], [], [990], [], [], [], [], [1085, 38, 1088, 86, 1087, 0], [], [], [], [1091, 39, 1094, 86, 1093, 0], [], [], [], [1091, 39, 1094, 86, 1093, 0], [], [], [], [], [], [], [], [], [], [], [], [], [], [], [], [], [1085, 38, 1088, 86, 1087, 0], [], [], [1011], [], [], [], [], [], [], [], [1009], [], [], [], [], [], [], [], [], [], [], [], [1095, 40, 1098, 86, 1097, 0], [], [], [], [], [1009], [], [], [], [], [], [], [], [], [], [], [990], [], [988], [], [], [989], [], [990], [], [], [], [], [], [], [], [], [], [990], [], [], [990], [], [], [], [], [1102, 41, 1105, 86, 1104, 0], [], [], [], [], []]
set_option maxRecDepth 100000 in
theorem bo_148 : bi_okM 148 bh_148 0 bc_148 = true := by decide +kernel
def bh_149 : List (List Nat) := [[], [], [], [1009], [], [], [], [], [], [991], [], [], [], [], [], [980, 35, 983, 86, 982, 0], [], [], [], [], [], [], [991], [], [], [1009], [], [], [], [], [], [], [991], [], [], [1009], [], [], [], [], [1009], [], [], [], [], [], [], [], [], [], [991], [], [], [1009], [], [], [], [], [1009], [], [], [], [], [], [], [], [], [], [991], [], [], [], [], [], [], [], [1011], [], [], [991], [], [], [], [], [], [1010], [], [], [], [], [], [], [], [], [], [], [1106, 42, 1109, 86, 1108, 0], [], [], [1011], [], [], [], [991], [], [], [], [], [], [], [], [996], [], [], [], [991], [], [], [], [], [], [1010], [], [], [], [], [996], [], [], [], [991], [], [], [], [], [], [1010], [], [], [], [], [991], [], [], [], [], [], [], [], []]
set_option maxRecDepth 100000 in
theorem bo_149 : bi_okM 149 bh_149 0 bc_149 = true := by decide +kernel
def bh_150 : List (List Nat) := [[], [991], [], [], [], [], [992], [], [], [], [], [1009], [], [], [], [], [994], [], [], [1009], [], [], [], [], [993], [], [], [], [], [1011], [], [], [], [], [], [1011], [], [], [993], [], [], [], [], [], [], [], [], [1010], [], [], [], [], [], [], [991], [], [], [], [], [], [], [], []]
set_option maxRecDepth 100000 in
theorem bo_150 : bi_okM 150 bh_150 0 bc_150 = true := by decide +kernel
def bh_151 : List (List Nat) := [[], [], [], [], [], [], [1011], [], [], [], [1010], [], [], [], [], [], [], [], [], [], [], [], [], [1010], [], [], [], [], [], [], [995], [], [1010], [], [], [], [], [], [], [], [1011], [], [], [], [], [], [], [], [], [], [], [], [], [], [995], [], [], [], [], [], [], [], []]
set_option maxRecDepth 100000 in
theorem bo_151 : bi_okM 151 bh_151 0 bc_151 = true := by decide +kernel
def bh_152 : List (List Nat) := [[], [991], [], [], [], [], [991], [], [], [], [], [991], [], [], [], [], [991], [], [], [], [], [991], [], [], [], [], [991], [], [971], [], [], [], [], [], [], [], [995], [], [], [], [], [], []]
set_option maxRecDepth 100000 in
theorem bo_152 : bi_okM 152 bh_152 0 bc_152 = true := by decide +kernel
def bh_153 : List (List Nat) := [[], [], [], [], [], [], [991], [], [], [991], [], [], [], [], [], [], [], [], [], [], [], [], [], [996], [], [], [996], [], [], [], [], [], [], [], [], [], [992], [], [], [992], [], [], [], [], [], [], [], [], [], [], [], [], [], [997], [], [], [], [], [], [], [], [], [], [991], [], [], [], [], [997], [], [], [993], [], [], [], [], [], [], [997], [], [], [], [], [994], [], [], [], [], [], [], [], [997], [], [], [], [], [997], [], [], [], [], [], [], [], [], [993], [], [], [], [], [], [], [], [], [], [], [], [], [], [], [], [], [], [], [], [997], [], [], [], [], [995], [], [], [], [], [], [], [], [1000], [], [], [1002], [], [], [999], [], [], [998], []]
set_option maxRecDepth 100000 in
theorem bo_153 : bi_okM 153 bh_153 0 bc_153 = true := by decide +kernel
def bh_154 : List (List Nat) := [[], [], [990], [], [967, 32, 970, 86, 969, 0], [], [990], [], [988], [], [], [990], [], [], [1081, 37, 1084, 86, 1083, 0], [], [], [], [], [], []]
set_option maxRecDepth 100000 in
theorem bo_154 : bi_okM 154 bh_154 0 bc_154 = true := by decide +kernel
def bh_155 : List (List Nat) := [[], [1114, 1079, 1080, 86, 1078, 0], [], [], [], [991], [], [], [], [], [], [], [984, 36, 987, 86, 986, 0], [], [991], [], [], []]
set_option maxRecDepth 100000 in
theorem bo_155 : bi_okM 155 bh_155 0 bc_155 = true := by decide +kernel
def bh_156 : List (List Nat) := [[], [], [], [], [991], [], [], [], [], [], [1070, 0, 1072, 86, 1071, 0], []]
set_option maxRecDepth 100000 in
theorem bo_156 : bi_okM 156 bh_156 0 bc_156 = true := by decide +kernel
def bh_157 : List (List Nat) := [[], [], [], [1159], [1070, 0, 1072, 86, 1071, 0], []]
set_option maxRecDepth 100000 in
theorem bo_157 : bi_okM 157 bh_157 0 bc_157 = true := by decide +kernel
def bh_158 : List (List Nat) := [[], [997], [], [], [], [], [], [], [], [], [], [], [997], [], [], [], [], [], [], [], [], [], [], []]
set_option maxRecDepth 100000 in
theorem bo_158 : bi_okM 158 bh_158 0 bc_158 = true := by decide +kernel
def bh_159 : List (List Nat) := [[], [], [], [], [], [], [991], [], [], [], [], [996], [], [], [], [], [], [], [996], [], [], [], [], [], [], [], [], [], [], [], [], [], [], [], [], [], [], [], [], [], [], [], [], [], [], [], [], []]
set_option maxRecDepth 100000 in
theorem bo_159 : bi_okM 159 bh_159 0 bc_159 = true := by decide +kernel
def bh_160 : List (List Nat) := [[], [991], [], [], [], [], [], [], [], [], [], [], [], []]
set_option maxRecDepth 100000 in
theorem bo_160 : bi_okM 160 bh_160 0 bc_160 = true := by decide +kernel
def bh_161 : List (List Nat) := [[], [], [], [1140, 48, 1143, 86, 1142, 0], [], [], [], [], [], [1140, 48, 1143, 86, 1142, 0], [1144, 49, 1147, 86, 1146, 0], [], [], [], [], []]
set_option maxRecDepth 100000 in
theorem bo_161 : bi_okM 161 bh_161 0 bc_161 = true := by decide +kernel
def bh_162 : List (List Nat) := [[], [997], [], [], [], [], [], [], [], [], [997], [], [], [], [], [], [], [], [], [], [], [], [], [], [], [], [], [], [], [], [], [], [], [], [], [], [], [], [], [], [], [], [997], [], [], [], [], [], [], [], [], [], [], [], [], [], [], [997], [], [], [], [], [], [], [], [], [], [], [], [], [], [], [], [], [], [997], [], [], [], [], [], [], [], [], [], [997], [], [], [], [], [], [], [], [], [], [], [], [], [], [], [], [], [], [], [], [], [], [], [], [], [], [], [], [], [], [], [], []]
set_option maxRecDepth 100000 in
theorem bo_162 : bi_okM 162 bh_162 0 bc_162 = true := by decide +kernel
def bh_163 : List (List Nat) := [[], [], [], [], [], [], [991], [], [], [], [], [], [], [], [], [], [], [], [1128, 45, 1131, 86, 1130, 0], [], [], [], [], [], [], [], [], [], []]
set_option maxRecDepth 100000 in
theorem bo_163 : bi_okM 163 bh_163 0 bc_163 = true := by decide +kernel
def bh_164 : List (List Nat) := [[], [991], [], [], [], [], [], [], [], [], [], [991], [], [], [], [], [], [], [], [991], [], [], [], [], [], [], [1124, 44, 1127, 86, 1126, 0], [], [], [], [1004], [], [], [992], [], [], [], [], [], [992], [], [], [], [], [], [], [], [1004], [], [], [], [], [], [], [1004], [], [], [], [992], [], [], [], [], [], [], [], [], [], [], [], [], [], []]
set_option maxRecDepth 100000 in
theorem bo_164 : bi_okM 164 bh_164 0 bc_164 = true := by decide +kernel
def bh_165 : List (List Nat) := [[], [], [1119, 43, 1122, 86, 1121, 0], [], [], [], [], [1123], [1070, 0, 1072, 86, 1071, 0], [], [], [], [], [], [], [997], [], [], [], [], [992], [], [], [], [], [997], [], [], [], [], [], [], [997], [], [], [], [], [], [], [], [], [997], [], [], [], [], [], [], [], [], [997], [], [], [], [], [], [], [], [], [1124, 44, 1127, 86, 1126, 0], [], [], [], [1132, 46, 1135, 86, 1134, 0], [], [], [], [], [1004], [], [], [], [], [], [], [1136, 47, 1139, 86, 1138, 0], [], [], [], [], []]
set_option maxRecDepth 100000 in
theorem bo_165 : bi_okM 165 bh_165 0 bc_165 = true := by decide +kernel
def bh_166 : List (List Nat) := [[], [], [1119, 43, 1122, 86, 1121, 0], [], [], [], [], [], [], [], [997], [], [], [], [], [997], [], [], [], [], [], [], [], [], [], [], []]
set_option maxRecDepth 100000 in
theorem bo_166 : bi_okM 166 bh_166 0 bc_166 = true := by decide +kernel
def bh_167 : List (List Nat) := [[], [], [], [997], [], [], [], [], [], [], [], [], [], [], [], [], [], []]
set_option maxRecDepth 100000 in
theorem bo_167 : bi_okM 167 bh_167 0 bc_167 = true := by decide +kernel
def bh_168 : List (List Nat) := [[], [1156, 0, 1158, 86, 1157, 0], [], [], [], [], [1101], [1070, 0, 1072, 86, 1071, 0], [], [], [], [], [], [], [997], [], [], [], [], [], [], [], [], [], [], [], [1160, 50, 1163, 86, 1162, 0], [], [], [], [1144, 49, 1147, 86, 1146, 0], [], [], [], [], []]
set_option maxRecDepth 100000 in
theorem bo_168 : bi_okM 168 bh_168 0 bc_168 = true := by decide +kernel
def bh_169 : List (List Nat) := [[], [1156, 0, 1158, 86, 1157, 0], [], [], [1156, 0, 1158, 86, 1157, 0], [], [], [], [], [], [], [1168, 51, 1171, 86, 1170, 0], [], [], [], [], []]
set_option maxRecDepth 100000 in
theorem bo_169 : bi_okM 169 bh_169 0 bc_169 = true := by decide +kernel
def bh_170 : List (List Nat) := [[], [], [], [], [], [], [997], [], [], [], [], [], [], [997], [], [], [], [], [], [], [], [], [], []]
set_option maxRecDepth 100000 in
theorem bo_170 : bi_okM 170 bh_170 0 bc_170 = true := by decide +kernel
def bh_171 : List (List Nat) := [[], [999], [], [], [], [], [], [], [], [], [], [], [], [], [1196, 54, 1199, 86, 1198, 0], [], [], [], [], [999], [], [], [999], [], [], [], [], [999], [], [1196, 54, 1199, 86, 1198, 0], [], [], [999], [], [], [999], []]
set_option maxRecDepth 100000 in
theorem bo_171 : bi_okM 171 bh_171 0 bc_171 = true := by decide +kernel
def bh_172 : List (List Nat) := [[], [1156, 0, 1158, 86, 1157, 0], [], [], [], [], [1000], [], [], [], [], [], [1001], [], [1000], [], [], [], [], [1000], [], [], [1000], [], [1000], []]
set_option maxRecDepth 100000 in
theorem bo_172 : bi_okM 172 bh_172 0 bc_172 = true := by decide +kernel
def bh_173 : List (List Nat) := [[], [1000], [], [], [], [1000], [], []]
set_option maxRecDepth 100000 in
theorem bo_173 : bi_okM 173 bh_173 0 bc_173 = true := by decide +kernel
def bh_174 : List (List Nat) := [[], [], [], [], [], [], [], [], [], [1000], [], [], [], [997], [], [], [], [], [], [], [], [], [], [], [], [1001], [], [], [], [997], [], [], [], [], [], [], [], [], [], [], [], [], [], [], [], [1000], [], [], [], [997], [], [], [], [], [], [], [], [], [], [], [], [], [991], [], [], [], []]
set_option maxRecDepth 100000 in
theorem bo_174 : bi_okM 174 bh_174 0 bc_174 = true := by decide +kernel
def bh_175 : List (List Nat) := [[], [], [1119, 43, 1122, 86, 1121, 0], [], [], [], [1184, 52, 1187, 86, 1186, 0], [], [], []]
set_option maxRecDepth 100000 in
theorem bo_175 : bi_okM 175 bh_175 0 bc_175 = true := by decide +kernel
def bh_176 : List (List Nat) := [[], [], [1119, 43, 1122, 86, 1121, 0], [], [], [], [], [], [1184, 52, 1187, 86, 1186, 0], [], [], [997], [], [], [], [], [], [], [], [997], [], [], [], [], [], [], [], [], [], [1192, 53, 1195, 86, 1194, 0], [], [997], [], [], [], [], [], [], [997], [], [], [], [], [], [], [], [], [], [997], [], [], [1000], [], [], [], [], [], [1000], [], [], [997], [], [], [], [], [], [], [], [], [1001], [], [], [], [], [], [], [997], [], [], [], [], []]
set_option maxRecDepth 100000 in
theorem bo_176 : bi_okM 176 bh_176 0 bc_176 = true := by decide +kernel
def bh_177 : List (List Nat) := [[], [], [], [], [997], [], [], [], [], [], [], [997], [], [], [], [], [], [], [], [], [], [], [1140, 48, 1143, 86, 1142, 0], [], [], [], [], [1140, 48, 1143, 86, 1142, 0], [], [], [], [], [], [], [], [], [997], [], [], [], [], [], [997], [], [], [], [], [], [], [], [], [], [], [], [1070, 0, 1072, 86, 1071, 0], [], [], [], [], [1168, 51, 1171, 86, 1170, 0], [], [], [], [], []]
set_option maxRecDepth 100000 in
theorem bo_177 : bi_okM 177 bh_177 0 bc_177 = true := by decide +kernel
def bh_178 : List (List Nat) := [[], [], [1119, 43, 1122, 86, 1121, 0], [], [], [], [1119, 43, 1122, 86, 1121, 0], [], [], [], [], [], [], [], []]
set_option maxRecDepth 100000 in
theorem bo_178 : bi_okM 178 bh_178 0 bc_178 = true := by decide +kernel
def bh_179 : List (List Nat) := [[], [], [], [1204, 55, 1207, 86, 1206, 0], [], [], [], [], [], [], [], [991], [], [], [1208, 56, 1211, 86, 1210, 0], [], [], [], [], []]
set_option maxRecDepth 100000 in
theorem bo_179 : bi_okM 179 bh_179 0 bc_179 = true := by decide +kernel
def bh_180 : List (List Nat) := [[], [], [], [], [], [], [991], [], [], [], [], [], [997], [], [], [], [], [], [], [], [], [], [], [], [], [], []]
set_option maxRecDepth 100000 in
theorem bo_180 : bi_okM 180 bh_180 0 bc_180 = true := by decide +kernel
def bh_181 : List (List Nat) := [[], [], [], [1204, 55, 1207, 86, 1206, 0], [], [], [], [], [], [], [], [991], [], [], [1208, 56, 1211, 86, 1210, 0], [], [], [], [], [1192, 53, 1195, 86, 1194, 0], [], [997], [], [], [], [], [], [], [], [], [997], [], [], [], [], [], [], [], [], [1216, 57, 1219, 86, 1218, 0], []]
set_option maxRecDepth 100000 in
theorem bo_181 : bi_okM 181 bh_181 0 bc_181 = true := by decide +kernel
def bh_182 : List (List Nat) := [[], [997], [], [], [], [], [], [], [], [], []]
set_option maxRecDepth 100000 in
theorem bo_182 : bi_okM 182 bh_182 0 bc_182 = true := by decide +kernel
def bh_183 : List (List Nat) := [[], [], [], [1204, 55, 1207, 86, 1206, 0], [], [], [], [], [1224], [1070, 0, 1072, 86, 1071, 0], [], [], [], [], [], [], [1140, 48, 1143, 86, 1142, 0], [], [], [], [], [1140, 48, 1143, 86, 1142, 0], [], [], [], [], [], [], [997], [], [], [], [], [], [997], [], [], [], [], [], [], [], [], [], [], [], [], [997], [], [], [], [], [], [], [], [], [], [1225, 58, 1228, 86, 1227, 0], [], [], [], [], [], [], [], [1192, 53, 1195, 86, 1194, 0], [], [997], [], [], [], [], [], [], [], [], [], [997], [], [], [], [], [], [], [], [], [], [997], [], [], [], [], [], [], [], [], [], [], [], [], [], [], [], [1225, 58, 1228, 86, 1227, 0], []]
set_option maxRecDepth 100000 in
theorem bo_183 : bi_okM 183 bh_183 0 bc_183 = true := by decide +kernel
def bh_184 : List (List Nat) := [[], [], [], [1204, 55, 1207, 86, 1206, 0], [], [], [], [], [1224], [1070, 0, 1072, 86, 1071, 0], [], [], [], [], [], [], [1225, 58, 1228, 86, 1227, 0], [], [], [], [997], [], [], [], [], [], [], [], [], [], [1192, 53, 1195, 86, 1194, 0], [], [997], [], [], [], [], [], [], [], [], [], [997], [], [], [], [], [], [], [], [], [], [997], [], [], [], [], [], [], [], [], [], [], [], [], [], [], [], [1225, 58, 1228, 86, 1227, 0], []]
set_option maxRecDepth 100000 in
theorem bo_184 : bi_okM 184 bh_184 0 bc_184 = true := by decide +kernel
def bh_185 : List (List Nat) := [[], [997], [], [], [], [], [], [], [], [], [], [], [997], [], [], [], [], [], [], [], [], [997], [], [], [], [], [], [], [], [], [], [], [997], [], [], [], [], [], [], [], [], [], []]
set_option maxRecDepth 100000 in
theorem bo_185 : bi_okM 185 bh_185 0 bc_185 = true := by decide +kernel
def bh_186 : List (List Nat) := [[], [1156, 0, 1158, 86, 1157, 0], [], [], [1156, 0, 1158, 86, 1157, 0], [], [], [], [], [], [], [], [1192, 53, 1195, 86, 1194, 0], [], [], [], [], [1237, 59, 1240, 86, 1239, 0], [], [997], [], [], [], [], []]
set_option maxRecDepth 100000 in
theorem bo_186 : bi_okM 186 bh_186 0 bc_186 = true := by decide +kernel
def bh_187 : List (List Nat) := [[], [1192, 53, 1195, 86, 1194, 0], [], [], [], [], [], [], [], [], [], [997], [], [], [], [], [], [], [], [997], [], [], [], [], [], [], [], [], []]
set_option maxRecDepth 100000 in
theorem bo_187 : bi_okM 187 bh_187 0 bc_187 = true := by decide +kernel
def bh_188 : List (List Nat) := [[], [999], [], [], [], [], [], [999], [], [], [999], [], [], [], [999], [], [], [1196, 54, 1199, 86, 1198, 0], [], [999], []]
set_option maxRecDepth 100000 in
theorem bo_188 : bi_okM 188 bh_188 0 bc_188 = true := by decide +kernel
def bh_189 : List (List Nat) := [[], [], [], [1140, 48, 1143, 86, 1142, 0], [], [], [], [], [], [], [], [], [], [], [], [1160, 50, 1163, 86, 1162, 0], [], [], [997], [], [], [], [], [], [], [], [], [], [1132, 46, 1135, 86, 1134, 0], [], [], [], [], [1004], [], [], [], [], [], [], [], [], [991], [], [], [], [], [], [], [], [], [1012], [], [], [], [], [], [1012], [], [], [], [997], [], [], [], [], [], [], [], [], []]
set_option maxRecDepth 100000 in
theorem bo_189 : bi_okM 189 bh_189 0 bc_189 = true := by decide +kernel
def bh_190 : List (List Nat) := [[], [], [1119, 43, 1122, 86, 1121, 0], [], [], [], [], [], [1070, 0, 1072, 86, 1071, 0], [], [], [], [], [], [], [1140, 48, 1143, 86, 1142, 0], [], [], [], [], [], [], [1196, 54, 1199, 86, 1198, 0], [], [], [1253, 60, 1256, 86, 1255, 0], [], [], [], [], [], [], [1012], [], [], []]
set_option maxRecDepth 100000 in
theorem bo_190 : bi_okM 190 bh_190 0 bc_190 = true := by decide +kernel
def bh_191 : List (List Nat) := [[], [], [], [], [], [], [991], [], [], [], [], [], [], [1140, 48, 1143, 86, 1142, 0], [], [], [], [1253, 60, 1256, 86, 1255, 0], [], [], [], [], [], [], [], [1140, 48, 1143, 86, 1142, 0], [], [], [], [], [], [], [997], [], [], [], [], [], [], [], [], [], [], []]
set_option maxRecDepth 100000 in
theorem bo_191 : bi_okM 191 bh_191 0 bc_191 = true := by decide +kernel
def bh_192 : List (List Nat) := [[], [], [1261], [], [991], [], [], [], [], [], [1070, 0, 1072, 86, 1071, 0], [], [], [], [], [], [], [1196, 54, 1199, 86, 1198, 0], [], [], [], [], [], [], [1262, 61, 1265, 86, 1264, 0], [], [], [], [], [], [], [], [], [1140, 48, 1143, 86, 1142, 0], [], [], [], [], [], [], [], [], [1140, 48, 1143, 86, 1142, 0], [], [], [1262, 61, 1265, 86, 1264, 0], [], [], [], [], []]
set_option maxRecDepth 100000 in
theorem bo_192 : bi_okM 192 bh_192 0 bc_192 = true := by decide +kernel
def bh_193 : List (List Nat) := [[], [], [], [1140, 48, 1143, 86, 1142, 0], [], [], [], [], [], [], [], [1144, 49, 1147, 86, 1146, 0], [], [], [], [], [], [], [], [], [], [], [], [], [], [], [], [], [], [], [1128, 45, 1131, 86, 1130, 0], [], [], [], [], [], [], [], [], [], [], [], [], [1140, 48, 1143, 86, 1142, 0], [], [], [], [], [], [], [997], [], [], [], [], [], [997], [], [], [], [], [], [], [], [991], [], [], [], [], [], [991], [], [], [], [1070, 0, 1072, 86, 1071, 0], [], [], [], [], [1168, 51, 1171, 86, 1170, 0], [], [], [], [], [], [], []]
set_option maxRecDepth 100000 in
theorem bo_193 : bi_okM 193 bh_193 0 bc_193 = true := by decide +kernel
def bh_194 : List (List Nat) := [[], [], [1119, 43, 1122, 86, 1121, 0], [], [], [], [], [1123], [1070, 0, 1072, 86, 1071, 0], [], [], [], [1119, 43, 1122, 86, 1121, 0], [], [], [], [1119, 43, 1122, 86, 1121, 0], [], [], [], [], [1270], [1070, 0, 1072, 86, 1071, 0], [], [], [], [], [], [], [1196, 54, 1199, 86, 1198, 0], [], [], [], [], [], [], [], [], [], [], [], [], [997], [], [], [], [], [], [], [], [], [], [], [], [], [], [], [], [], [], [], [], [997], [], [], [], [], [], [], [], [], [], [], [], [], [1160, 50, 1163, 86, 1162, 0], [], [], [], [], [], [], [], [], [], [], [], [], [1271, 62, 1274, 86, 1273, 0], [], [], [], [], [], [], [], [], [], [], [], [997], [], [], [], [], [], [], [], [], [], [], [], [], [], [], [], [], []]
set_option maxRecDepth 100000 in
theorem bo_194 : bi_okM 194 bh_194 0 bc_194 = true := by decide +kernel
def bh_195 : List (List Nat) := [[], [], [], [], [], [991], [], [], [], [], [], [1007], [], [], [], [], [], [], [], [991], [], [], [], [], [], [], [], [], [], [], [], [], [], [991], [], [], [], [], [], [], [], [], [], [], [], [], [1007], [], [], [1007], [], [], [], [], [], [], [], [], [], [991], [], [], [], [], [], [], [], [], [], [], [], [], [], [], [1208, 56, 1211, 86, 1210, 0], [], [], [], [], [], [], [], [], [1007], [], [], [], [], [], [], [], [], [], [], [], [], [], [], [1007], [], [], [], [1007], [], [], [], [], [], [], [1007], [], [], [], [], [], [], [], [], [1007], [], [], [991], [], [], [], [], [], [], []]
set_option maxRecDepth 100000 in
theorem bo_195 : bi_okM 195 bh_195 0 bc_195 = true := by decide +kernel
def bh_196 : List (List Nat) := [[], [], [1261], [], [991], [], [], [], [], [], [1070, 0, 1072, 86, 1071, 0], [], [], [], [], [], [991], [], [], [1279, 63, 1282, 86, 1281, 0], [], [], [], [991], [], [], [], [], [], [], [], [], [], [], [], [], [1005], [], [], [], [], [], [], [], [], [], [991], [], [], [], [], [], [], [], [], [], [], [], [], [], [], [], [1007], [], [], [], [], [], [], [], [], [], [991], [], [], [], [], [], [], [], [], [], [], [], [], [], [], [], [], [], [], [], [], [], [], [], [], [], [], [], [], [], [], [991], [], [], [1208, 56, 1211, 86, 1210, 0], [], [], [1007], [], [], [], [], [], [], [], [1005], [], [], [], [], [1005], [], [], [], [], [], [], [], [], [], [], [], [], [], [], [], [], [], [], [], [], [], [], [], [], [1005], [], [], []]
set_option maxRecDepth 100000 in
theorem bo_196 : bi_okM 196 bh_196 0 bc_196 = true := by decide +kernel
def bh_197 : List (List Nat) := [[], [], [], [1287], [1070, 0, 1072, 86, 1071, 0], [], [], [], [], [], [], [], [], [], [], [1279, 63, 1282, 86, 1281, 0], [], [], [], [], [], [], [], []]
set_option maxRecDepth 100000 in
theorem bo_197 : bi_okM 197 bh_197 0 bc_197 = true := by decide +kernel
def bh_198 : List (List Nat) := [[], [], [1119, 43, 1122, 86, 1121, 0], [], [], [], [1119, 43, 1122, 86, 1121, 0], [], [], [], [], [1225, 58, 1228, 86, 1227, 0], [], [], []]
set_option maxRecDepth 100000 in
theorem bo_198 : bi_okM 198 bh_198 0 bc_198 = true := by decide +kernel
def bh_199 : List (List Nat) := [[], [], [], [], [], [], [991], [], [], [], [], [], [], [], [1225, 58, 1228, 86, 1227, 0], [], [], [], [1225, 58, 1228, 86, 1227, 0], [], [], [], [], [], [], []]
set_option maxRecDepth 100000 in
theorem bo_199 : bi_okM 199 bh_199 0 bc_199 = true := by decide +kernel
def bh_200 : List (List Nat) := [[], [], [1119, 43, 1122, 86, 1121, 0], [], [], [], [1296, 64, 1299, 86, 1298, 0], [], [], [], [], []]
set_option maxRecDepth 100000 in
theorem bo_200 : bi_okM 200 bh_200 0 bc_200 = true := by decide +kernel
def bh_201 : List (List Nat) := [[], [], [], [], [], [], [1005], [], [], [], [], [], [], [], [], [], [], [], [991], [], [], [], [], [], [], [], [], [], [991], [], [], [], [], [], [], [], [], [], [991], [], [], [], [], [], [], [1225, 58, 1228, 86, 1227, 0], [], [], [1005], [], [], [], [], [], [], [], [1005], [], [], [], [], [], [], [], [], [], [], [1006], [], [], [], [], [], [], [], [], [], [], [], [], [], [], [], [], [991], [], [], [], [], [1005], [], [], [1006], [], [], [], [], [], [], [], [], [], [991], [], [], [], [], [], [], []]
set_option maxRecDepth 100000 in
theorem bo_201 : bi_okM 201 bh_201 0 bc_201 = true := by decide +kernel
def bh_202 : List (List Nat) := [[], [], [], [], [], [], [], [], [991], [], [], [], [], [], [], [1296, 64, 1299, 86, 1298, 0], [], [], [], [], [], [], [], [], [], [], [], [1296, 64, 1299, 86, 1298, 0], [], [], [], [], [], [], [], [], [], [1007], [], [], [], [], [], [], [], [], [991], [], [], [], [], [], [], [], [1007], [], [], [], [], [], [], [], [991], [], [], [], [], [], [], [], [], [], [], [], [], [], [1296, 64, 1299, 86, 1298, 0], [], [], [], [1007], [], [], [], [], [], [], [], [], [], [], [1007], [], [], [], [1007], [], [], [], [], [], [], [1007], [], [], [], [], [], [], [1007], [], [], [], [], [], [], [], [], [], [], [], [], [], [], [], [], [], [], [], [], [1007], [], [], [], []]
set_option maxRecDepth 100000 in
theorem bo_202 : bi_okM 202 bh_202 0 bc_202 = true := by decide +kernel
def bh_203 : List (List Nat) := [[], [], [], [1140, 48, 1143, 86, 1142, 0], [], [], [], [], [1140, 48, 1143, 86, 1142, 0], [], [], [], [], [], [], [], [], [], [], [], [1168, 51, 1171, 86, 1170, 0], [], [], [], [], []]
set_option maxRecDepth 100000 in
theorem bo_203 : bi_okM 203 bh_203 0 bc_203 = true := by decide +kernel
def bh_204 : List (List Nat) := [[], [991], [], [], [], [], [], [], [], [], [], [], [], [], [], [], [], [1006], [], [], [], [1006], [], [], [], [], [1317, 66, 1320, 86, 1319, 0], [], [], [], [], [], [], [], [], [], [], [], [], [], [], [1006], [], [], [], [], [], [1006], [], [], [1317, 66, 1320, 86, 1319, 0], [], [], [], [], [], []]
set_option maxRecDepth 100000 in
theorem bo_204 : bi_okM 204 bh_204 0 bc_204 = true := by decide +kernel
def bh_205 : List (List Nat) := [[], [991], [], [], [], [], [], [], [], [], [], [], [1006], [], [], [], [1006], [], [], [], [], [], [], [], [], [], [], [], [], [], [], [], [], [], [1006], [], [], [], [1006], [], [], [], [], [], [], [], [], [1325, 68, 1328, 86, 1327, 0], [], [], [], [], [], [], [], [], [], [], [], [], [], [], [], [], [], [], [1325, 68, 1328, 86, 1327, 0], [], [], [], []]
set_option maxRecDepth 100000 in
theorem bo_205 : bi_okM 205 bh_205 0 bc_205 = true := by decide +kernel
def bh_206 : List (List Nat) := [[], [1006], [], [], [], [], [1006], [], [], [1006], [], [], [], [], [1006], [], [], [], []]
set_option maxRecDepth 100000 in
theorem bo_206 : bi_okM 206 bh_206 0 bc_206 = true := by decide +kernel
def bh_207 : List (List Nat) := [[], [], [1312], [], [991], [], [], [], [], [], [1070, 0, 1072, 86, 1071, 0], [], [], [], [], [], [], [], [], [], [1006], [], [], [], [], [], [], [], [], [], [], [], [], [], [], [1313, 65, 1316, 86, 1315, 0], [], [], [], [], [], [], [], [], [], [], [], [], [], [], [1005], [], [], [1006], [], [], [], [], [], [], [], [], [], [], [], [], [], [], [], [1321, 67, 1324, 86, 1323, 0], [], [], [], [], [], [], [], [], [], [], [], [], [], [1005], [], [], []]
set_option maxRecDepth 100000 in
theorem bo_207 : bi_okM 207 bh_207 0 bc_207 = true := by decide +kernel
def bh_208 : List (List Nat) := [[], [], [], [], [1070, 0, 1072, 86, 1071, 0], [], [], [], [], [], [1132, 46, 1135, 86, 1134, 0], [], [], [], [], [], [], [], [], [], [991], [], [], [], [], [], [], [], [1140, 48, 1143, 86, 1142, 0], [], [], [], [], [], [], [], [1140, 48, 1143, 86, 1142, 0], [], [], [], [], [], [], [], [], [], [], [], [], [], [], [], [], [], [], [], [], [], [], [], [], [], [], [], [], [], [], [], [], [], [], [1196, 54, 1199, 86, 1198, 0], [], [], [], [], [1237, 59, 1240, 86, 1239, 0], [], [], [1132, 46, 1135, 86, 1134, 0], [], [], [], [], [], [], [], [], [], [], [], [], [], [], [], [], [], [], [], [], [], [], [], [], [], [], [], [], [], [], []]
set_option maxRecDepth 100000 in
theorem bo_208 : bi_okM 208 bh_208 0 bc_208 = true := by decide +kernel
def bh_209 : List (List Nat) := [[], [1156, 0, 1158, 86, 1157, 0], [], [], [], [], [1337], [1070, 0, 1072, 86, 1071, 0], [], [], [], [], [1002], [], [], [], [], [], [1003], [], [], [1002], [], [], [], [], [1003], [], [], [1002], [], [], [], [], [], [], [], [1002], [], [], [1002], [], [1002], []]
set_option maxRecDepth 100000 in
theorem bo_209 : bi_okM 209 bh_209 0 bc_209 = true := by decide +kernel
def bh_210 : List (List Nat) := [[], [1002], [], [], [], [1002], [], []]
set_option maxRecDepth 100000 in
theorem bo_210 : bi_okM 210 bh_210 0 bc_210 = true := by decide +kernel
def bh_211 : List (List Nat) := [[], [], [1132, 46, 1135, 86, 1134, 0], [], [], [], [], [], [1008], [], [], [], [], [], [], [], [], [], [], [1006], [], [], [], [], [], [], [], [], [], [1002], [], [], [], [], [1008], [], [], [], [], [1006], [], [], [], [], [], [], [1008], [], [], [], [], [1350, 70, 1353, 86, 1352, 0], [], [], [], [], [1006], [], [], [], [], [], [], []]
set_option maxRecDepth 100000 in
theorem bo_211 : bi_okM 211 bh_211 0 bc_211 = true := by decide +kernel
def bh_212 : List (List Nat) := [[], [1006], [], [], [], [], [], [], [], [991], [], [], [], [], [], [], [1140, 48, 1143, 86, 1142, 0], [], [1003], [], [], [], [], [], [], [1004], [], [], [], [1003], [], [], [], [], [], [], [], [], [], [], [], [], [], [], [], [], [], [], [], [1006], [], [], [], [], [], [], [], [], [], [], [], [], [], [1006], [], [], [], [], [], [], [], [], []]
set_option maxRecDepth 100000 in
theorem bo_212 : bi_okM 212 bh_212 0 bc_212 = true := by decide +kernel
def bh_213 : List (List Nat) := [[], [], [1346, 69, 1349, 86, 1348, 0], []]
set_option maxRecDepth 100000 in
theorem bo_213 : bi_okM 213 bh_213 0 bc_213 = true := by decide +kernel
def bh_214 : List (List Nat) := [[], [], [], [], [1002], [], [], [], [1070, 0, 1072, 86, 1071, 0], [], [], [], [], [], [1346, 69, 1349, 86, 1348, 0], [], [], [], [], [], [], [], [], [], [], [], [1008], [], [], [], [], [], [], [], [], [], [], [], []]
set_option maxRecDepth 100000 in
theorem bo_214 : bi_okM 214 bh_214 0 bc_214 = true := by decide +kernel
def bh_215 : List (List Nat) := [[], [], [], [1362], [1070, 0, 1072, 86, 1071, 0], [], [], [], [], [], [1070, 0, 1072, 86, 1071, 0], [], [], [], [], [], [], [1196, 54, 1199, 86, 1198, 0], [], [], [], [], [], [], [991], [], [], [], [1363], [], [], [], [1364], [], [], [], [], [], [], [], [], [], [], [1140, 48, 1143, 86, 1142, 0], [], [], [997], [], [], [], [], [], [], [], [], [1365], [], [1366], [], [], [], [], [], [], [], [1136, 47, 1139, 86, 1138, 0], [], [], [], [], [], [], [], [], [], [], [], [], [], [], [], [1132, 46, 1135, 86, 1134, 0], []]
set_option maxRecDepth 100000 in
theorem bo_215 : bi_okM 215 bh_215 0 bc_215 = true := by decide +kernel
def bh_216 : List (List Nat) := [[], [998], [], [], [], [], [], [], [998], [], [], [998], [], [], [], [998], [1196, 54, 1199, 86, 1198, 0], [], [998], []]
set_option maxRecDepth 100000 in
theorem bo_216 : bi_okM 216 bh_216 0 bc_216 = true := by decide +kernel
def bh_217 : List (List Nat) := [[], [998], [], [], [], [], [], [998], [], [1196, 54, 1199, 86, 1198, 0], [], [], [998], [], [], [998], [], [], [999], [], [998], []]
set_option maxRecDepth 100000 in
theorem bo_217 : bi_okM 217 bh_217 0 bc_217 = true := by decide +kernel
def bh_218 : List (List Nat) := [[], [], [], [1379], [1070, 0, 1072, 86, 1071, 0], [], [], [], [], [], [], [], [991], [], [], [], [], [], [], [1000], [], [], [1216, 57, 1219, 86, 1218, 0], [], [], [1002], [], [], [999], [], [], [998], [], [], [988], [], [], [], [1132, 46, 1135, 86, 1134, 0], []]
set_option maxRecDepth 100000 in
theorem bo_218 : bi_okM 218 bh_218 0 bc_218 = true := by decide +kernel
def bh_219 : List (List Nat) := [[], [], [], [], [417], [], [], [], [], [418], [], [], [], [], [418], [], [], [], [], [], [], [], [], [419], [], [], [], [], [], [], [], [], [], [], [], [], [], [], [], [], [], []]
set_option maxRecDepth 100000 in
theorem bo_219 : bi_okM 219 bh_219 0 bc_219 = true := by decide +kernel
def bh_220 : List (List Nat) := [[], [1380], [], [], [301, 303, 304, 81, 302, 0], [], []]
set_option maxRecDepth 100000 in
theorem bo_220 : bi_okM 220 bh_220 0 bc_220 = true := by decide +kernel
def bh_221 : List (List Nat) := [[], [311, 313, 314, 81, 312, 0], [], [], [1380], [], [315, 0, 317, 82, 316, 0], [], [], [1380], [], [], []]
set_option maxRecDepth 100000 in
theorem bo_221 : bi_okM 221 bh_221 0 bc_221 = true := by decide +kernel
def bh_222 : List (List Nat) := [[305], [], [], [1381], [], [], []]
set_option maxRecDepth 100000 in
theorem bo_222 : bi_okM 222 bh_222 0 bc_222 = true := by decide +kernel
def bh_223 : List (List Nat) := [[305], [], [], [1381], [], [], [], [], []]
set_option maxRecDepth 100000 in
theorem bo_223 : bi_okM 223 bh_223 0 bc_223 = true := by decide +kernel
def bh_224 : List (List Nat) := [[], [], [321], [323, 0, 325, 83, 324, 0], [], []]
set_option maxRecDepth 100000 in
theorem bo_224 : bi_okM 224 bh_224 0 bc_224 = true := by decide +kernel
def bh_225 : List (List Nat) := [[], [], [], [318, 0, 320, 81, 319, 0], [], [], [], [], [], [], []]
set_option maxRecDepth 100000 in
theorem bo_225 : bi_okM 225 bh_225 0 bc_225 = true := by decide +kernel
def bh_226 : List (List Nat) := [[], [], [], [], [], [], [], [], [], [], [], []]
set_option maxRecDepth 100000 in
theorem bo_226 : bi_okM 226 bh_226 0 bc_226 = true := by decide +kernel
end
section
/-! the same of the law, in pieces -/
def bh_227 : List (List Nat) := [[89, 90, 72], [], [91, 0, 93, 72, 92, 0], [], [961, 962, 86], [], [963, 0, 965, 86, 964, 0], [], [], [], [], [], [], [], [], [], [], [], [], [], [], [], [], [], [], [], [], [], [481, 483, 484, 72, 482, 0], [], [], [], [], [], [], [1064, 1066, 1067, 86, 1065, 0], [], [], [], [], [485, 487, 488, 72, 486, 0], [], [1073, 1075, 1076, 86, 1074, 0], [], [], [], [], [489, 491, 492, 72, 490, 0], [], [1077, 1079, 1080, 86, 1078, 0], [], [], [], [], [493, 495, 496, 72, 494, 0], [], [1110, 1112, 1113, 86, 1111, 0], [], [], [], [], [], [], [], [], [], [], [], [], [], [], [504, 506, 507, 72, 505, 0], [], [], [], [], [], [], [], [], [], [], [], [1115, 1117, 1118, 86, 1116, 0], [], [], [], [], [], [], [], [], [], [], [], [], [], [], [572, 574, 575, 72, 573, 0], [], [], [], [], [], [], [], [], [], [], [], [1148, 1150, 1151, 86, 1149, 0], [], [], [], [], [], [], [], [], [], [], [], [], [], [], [577, 579, 580, 72, 578, 0], [], [], [], [], [], [], [], [], [], [], [], [1152, 1154, 1155, 86, 1153, 0], [], [], [], [], [], [], [], [], [], [], [], [], [], [], [585, 587, 588, 72, 586, 0], [], [], [], [], [], [], [], [], [], [], [], [1164, 1166, 1167, 86, 1165, 0], [], [], [], [], [], [], [], [], [], [593, 595, 596, 72, 594, 0], [], [], [], [], [], [], [1172, 1174, 1175, 86, 1173, 0], [], [], [], [], [597, 599, 600, 72, 598, 0], [], [1176, 1178, 1179, 86, 1177, 0], [], [], [], [], [], [], [], [], [], [601, 603, 604, 72, 602, 0], [], [], [], [], [], [], [1180, 1182, 1183, 86, 1181, 0], [], [], [], [], [], [], [], [], [], [609, 611, 612, 72, 610, 0], [], [], [], [], [], [], [1188, 1190, 1191, 86, 1189, 0], [], [], [], [], [], [], [], [], [], [], [], [], [], [], [627, 629, 630, 72, 628, 0], [], [], [], [], [], [], [], [], [], [], [], [1200, 1202, 1203, 86, 1201, 0], [], [], [], [], [], [], [], [], [], [], [], [], [], [], [647, 649, 650, 72, 648, 0], [], [], [], [], [], [], [], [], [], [], [], [1212, 1214, 1215, 86, 1213, 0], [], [], [], [], [], [], [], [], [], [], [], [], [], [], [], [], [], [], [], [655, 657, 658, 72, 656, 0], [], [], [], [], [], [], [], [], [], [], [], [], [], [], [], [], [1220, 1222, 1223, 86, 1221, 0], [], [], [], [], [], [], [], [], [], [], [], [], [], [], [], [], [], [], [], [675, 677, 678, 72, 676, 0], [], [], [], [], [], [], [], [], [], [], [], [], [], [], [], [], [1229, 1231, 1232, 86, 1230, 0], [], [], [], [], [], [], [], [], [], [], [], [], [], [], [679, 681, 682, 72, 680, 0], [], [], [], [], [], [], [], [], [], [], [], [1233, 1235, 1236, 86, 1234, 0], [], [], [], [], [687, 689, 690, 72, 688, 0], [], [1241, 1243, 1244, 86, 1242, 0], [], [], [], [], [691, 693, 694, 72, 692, 0], [], [1245, 1247, 1248, 86, 1246, 0], [], [], [], [], [], [], [], [], [], [], [], [], [], [], [699, 701, 702, 72, 700, 0], [], [], [], [], [], [], [], [], [], [], [], [1249, 1251, 1252, 86, 1250, 0], [], [], [], [], [], [], [], [], [], [724, 726, 727, 72, 725, 0], [], [], [], [], [], [], [1257, 1259, 1260, 86, 1258, 0], [], [], [], [], [], [], [], [], [], [], [], [], [], [], [], [], [], [], [], [], [], [], [], [], [], [], [], [], [], [739, 741, 742, 72, 740, 0], [], [], [], [], [], [], [], [], [], [], [], [], [], [], [], [], [], [], [], [], [], [], [], [], [], [], [1266, 1268, 1269, 86, 1267, 0], [], [], [], [], [], [], [], [], [], [750, 752, 753, 72, 751, 0], [], [], [], [], [], [], [1275, 1277, 1278, 86, 1276, 0], [], [], [], [], [], [], [], [], [], [776, 778, 779, 72, 777, 0], [], [], [], [], [], [], [1283, 1285, 1286, 86, 1284, 0], [], [], [], [], [], [], [], [], [], [], [], [], [], [], [780, 782, 783, 72, 781, 0], [], [], [], [], [], [], [], [], [], [], [], [1288, 1290, 1291, 86, 1289, 0], [], [], [], [], [], [], [], [], [], [784, 786, 787, 72, 785, 0], [], [], [], [], [], [], [1292, 1294, 1295, 86, 1293, 0], [], [], [], [], [793, 795, 796, 72, 794, 0], [], [1300, 1302, 1303, 86, 1301, 0], [], [], [], [], [807, 809, 810, 72, 808, 0], [], [1304, 1306, 1307, 86, 1305, 0], [], [], [], [], [], [], [], [], [], [821, 823, 824, 72, 822, 0], [], [], [], [], [], [], [1308, 1310, 1311, 86, 1309, 0], [], [], [], [], [], [], [], [], [], [866, 868, 869, 72, 867, 0], [], [], [], [], [], [], [1329, 1331, 1332, 86, 1330, 0], [], [], [], [], [], [], [], [], [], [], [], [], [], [], [886, 888, 889, 72, 887, 0], [], [], [], [], [], [], [], [], [], [], [], [1333, 1335, 1336, 86, 1334, 0], [], [], [], [], [894, 896, 897, 72, 895, 0], [], [1338, 1340, 1341, 86, 1339, 0], [], [], [], [], [898, 900, 901, 72, 899, 0], [], [1342, 1344, 1345, 86, 1343, 0], [], [], [], [], [], [], [], [], [], [921, 923, 924, 72, 922, 0], [], [], [], [], [], [], [1354, 1356, 1357, 86, 1355, 0], [], [], [], [], [], [], [], [], [], [], [], [], [], [], [929, 931, 932, 72, 930, 0], [], [], [], [], [], [], [], [], [], [], [], [1358, 1360, 1361, 86, 1359, 0], [], [], [], [], [948, 950, 951, 72, 949, 0], [], [1367, 1369, 1370, 86, 1368, 0], [], [], [], [], [953, 955, 956, 72, 954, 0], [], [1371, 1373, 1374, 86, 1372, 0], [], [], [], [], [], [], [], [], [], [957, 959, 960, 72, 958, 0], [], [], [], [], [], [], [1375, 1377, 1378, 86, 1376, 0], [], [], [], [], [], [], []]
set_option maxRecDepth 100000 in
theorem bo_227_0 : bi_okM 227 bh_227 0 ((bc_227.drop 0).take 30) = true := by decide +kernel
set_option maxRecDepth 100000 in
theorem bo_227_1 : bi_okM 227 bh_227 30 ((bc_227.drop 30).take 30) = true := by decide +kernel
set_option maxRecDepth 100000 in
theorem bo_227_2 : bi_okM 227 bh_227 60 ((bc_227.drop 60).take 30) = true := by decide +kernel
set_option maxRecDepth 100000 in
theorem bo_227_3 : bi_okM 227 bh_227 90 ((bc_227.drop 90).take 30) = true := by decide +kernel
set_option maxRecDepth 100000 in
theorem bo_227_4 : bi_okM 227 bh_227 120 ((bc_227.drop 120).take 30) = true := by decide +kernel
set_option maxRecDepth 100000 in
theorem bo_227_5 : bi_okM 227 bh_227 150 ((bc_227.drop 150).take 30) = true := by decide +kernel
set_option maxRecDepth 100000 in
theorem bo_227_6 : bi_okM 227 bh_227 180 ((bc_227.drop 180).take 30) = true := by decide +kernel
set_option maxRecDepth 100000 in
theorem bo_227_7 : bi_okM 227 bh_227 210 ((bc_227.drop 210).take 30) = true := by decide +kernel
set_option maxRecDepth 100000 in
theorem bo_227_8 : bi_okM 227 bh_227 240 ((bc_227.drop 240).take 30) = true := by decide +kernel
set_option maxRecDepth 100000 in
theorem bo_227_9 : bi_okM 227 bh_227 270 ((bc_227.drop 270).take 30) = true := by decide +kernel
set_option maxRecDepth 100000 in
theorem bo_227_10 : bi_okM 227 bh_227 300 ((bc_227.drop 300).take 30) = true := by decide +kernel
set_option maxRecDepth 100000 in
theorem bo_227_11 : bi_okM 227 bh_227 330 ((bc_227.drop 330).take 30) = true := by decide +kernel
set_option maxRecDepth 100000 in
theorem bo_227_12 : bi_okM 227 bh_227 360 ((bc_227.drop 360).take 30) = true := by decide +kernel
set_option maxRecDepth 100000 in
theorem bo_227_13 : bi_okM 227 bh_227 390 ((bc_227.drop 390).take 30) = true := by decide +kernel
set_option maxRecDepth 100000 in
theorem bo_227_14 : bi_okM 227 bh_227 420 ((bc_227.drop 420).take 30) = true := by decide +kernel
set_option maxRecDepth 100000 in
theorem bo_227_15 : bi_okM 227 bh_227 450 ((bc_227.drop 450).take 30) = true := by decide +kernel
set_option maxRecDepth 100000 in
theorem bo_227_16 : bi_okM 227 bh_227 480 ((bc_227.drop 480).take 30) = true := by decide +kernel
set_option maxRecDepth 100000 in
theorem bo_227_17 : bi_okM 227 bh_227 510 ((bc_227.drop 510).take 30) = true := by decide +kernel
set_option maxRecDepth 100000 in
theorem bo_227_18 : bi_okM 227 bh_227 540 ((bc_227.drop 540).take 30) = true := by decide +kernel
set_option maxRecDepth 100000 in
theorem bo_227_19 : bi_okM 227 bh_227 570 ((bc_227.drop 570).take 30) = true := by decide +kernel
set_option maxRecDepth 100000 in
theorem bo_227_20 : bi_okM 227 bh_227 600 ((bc_227.drop 600).take 30) = true := by decide +kernel
set_option maxRecDepth 100000 in
theorem bo_227_21 : bi_okM 227 bh_227 630 ((bc_227.drop 630).take 30) = true := by decide +kernel
set_option maxRecDepth 100000 in
theorem bo_227_22 : bi_okM 227 bh_227 660 ((bc_227.drop 660).take 30) = true := by decide +kernel
set_option maxRecDepth 100000 in
theorem bo_227_23 : bi_okM 227 bh_227 690 ((bc_227.drop 690).take 30) = true := by decide +kernel
set_option maxRecDepth 100000 in
theorem bo_227_24 : bi_okM 227 bh_227 720 ((bc_227.drop 720).take 30) = true := by decide +kernel
end
