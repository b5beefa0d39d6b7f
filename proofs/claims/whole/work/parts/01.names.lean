-- ===== PART A: goes FIRST, ahead of the names: the tables' words, and 'selects' of the private methods out of them =====
/-- a private method of a class that the tables say can be made, by its rows of tables_1 -/
def lw_okq (q : MethodName × Nat) : Prop := (q.1.cls ≠ "java/lang/invoke/MethodHandle" ∧ q.1.cls ≠ "java/lang/invoke/VarHandle") ∧ Cond.instantiable q.1.cls q.2 ∈ tables_1 ∧ Cond.privateMethod q.1 ∈ tables_1 ∧ Cond.instanceMethod q.1 ∈ tables_1
theorem lw_p0 : lw_okq (⟨"ScrawlHouse$Lore", "isWordText", "(LScrawlHouse$Tape;)Z"⟩, 8) := ⟨⟨by decide +kernel, by decide +kernel⟩, List.mem_of_getElem? (i := 52) (by decide +kernel), List.mem_of_getElem? (i := 573) (by decide +kernel), List.mem_of_getElem? (i := 574) (by decide +kernel)⟩
theorem lw_p1 : lw_okq (⟨"ScrawlHouse$Lore", "hasText", "(ILScrawlHouse$Tape;)Z"⟩, 8) := ⟨⟨by decide +kernel, by decide +kernel⟩, List.mem_of_getElem? (i := 52) (by decide +kernel), List.mem_of_getElem? (i := 584) (by decide +kernel), List.mem_of_getElem? (i := 585) (by decide +kernel)⟩
theorem lw_p2 : lw_okq (⟨"ScrawlHouse$Town", "shorten", "(III)V"⟩, 8) := ⟨⟨by decide +kernel, by decide +kernel⟩, List.mem_of_getElem? (i := 90) (by decide +kernel), List.mem_of_getElem? (i := 599) (by decide +kernel), List.mem_of_getElem? (i := 600) (by decide +kernel)⟩
theorem lw_p3 : lw_okq (⟨"ScrawlHouse$PatternText", "startPattern", "()V"⟩, 9) := ⟨⟨by decide +kernel, by decide +kernel⟩, List.mem_of_getElem? (i := 129) (by decide +kernel), List.mem_of_getElem? (i := 634) (by decide +kernel), List.mem_of_getElem? (i := 635) (by decide +kernel)⟩
theorem lw_p4 : lw_okq (⟨"ScrawlHouse$PatternText", "takeToken", "(I)I"⟩, 9) := ⟨⟨by decide +kernel, by decide +kernel⟩, List.mem_of_getElem? (i := 129) (by decide +kernel), List.mem_of_getElem? (i := 638) (by decide +kernel), List.mem_of_getElem? (i := 639) (by decide +kernel)⟩
theorem lw_p5 : lw_okq (⟨"ScrawlHouse$PatternText", "takeItem", "(I)I"⟩, 9) := ⟨⟨by decide +kernel, by decide +kernel⟩, List.mem_of_getElem? (i := 129) (by decide +kernel), List.mem_of_getElem? (i := 644) (by decide +kernel), List.mem_of_getElem? (i := 645) (by decide +kernel)⟩
theorem lw_p6 : lw_okq (⟨"ScrawlHouse$PatternText", "sortOf", "(II)I"⟩, 9) := ⟨⟨by decide +kernel, by decide +kernel⟩, List.mem_of_getElem? (i := 129) (by decide +kernel), List.mem_of_getElem? (i := 648) (by decide +kernel), List.mem_of_getElem? (i := 649) (by decide +kernel)⟩
theorem lw_p7 : lw_okq (⟨"ScrawlHouse$PatternText", "spells", "(Ljava/lang/String;II)Z"⟩, 9) := ⟨⟨by decide +kernel, by decide +kernel⟩, List.mem_of_getElem? (i := 129) (by decide +kernel), List.mem_of_getElem? (i := 660) (by decide +kernel), List.mem_of_getElem? (i := 661) (by decide +kernel)⟩
theorem lw_p8 : lw_okq (⟨"ScrawlHouse$PatternText", "refuse", "(II)V"⟩, 9) := ⟨⟨by decide +kernel, by decide +kernel⟩, List.mem_of_getElem? (i := 129) (by decide +kernel), List.mem_of_getElem? (i := 712) (by decide +kernel), List.mem_of_getElem? (i := 713) (by decide +kernel)⟩
theorem lw_p9 : lw_okq (⟨"ScrawlHouse$PatternText", "takeAsk", "(I)V"⟩, 9) := ⟨⟨by decide +kernel, by decide +kernel⟩, List.mem_of_getElem? (i := 129) (by decide +kernel), List.mem_of_getElem? (i := 716) (by decide +kernel), List.mem_of_getElem? (i := 717) (by decide +kernel)⟩
theorem lw_p10 : lw_okq (⟨"ScrawlHouse$PatternText", "takeStop", "(I)V"⟩, 9) := ⟨⟨by decide +kernel, by decide +kernel⟩, List.mem_of_getElem? (i := 129) (by decide +kernel), List.mem_of_getElem? (i := 720) (by decide +kernel), List.mem_of_getElem? (i := 721) (by decide +kernel)⟩
theorem lw_p11 : lw_okq (⟨"ScrawlHouse$Machine", "addState", "(LScrawlHouse$PatternText;J)I"⟩, 5) := ⟨⟨by decide +kernel, by decide +kernel⟩, List.mem_of_getElem? (i := 170) (by decide +kernel), List.mem_of_getElem? (i := 734) (by decide +kernel), List.mem_of_getElem? (i := 735) (by decide +kernel)⟩
theorem lw_p12 : lw_okq (⟨"ScrawlHouse$Machine", "moved", "(LScrawlHouse$PatternText;JI)J"⟩, 5) := ⟨⟨by decide +kernel, by decide +kernel⟩, List.mem_of_getElem? (i := 170) (by decide +kernel), List.mem_of_getElem? (i := 738) (by decide +kernel), List.mem_of_getElem? (i := 739) (by decide +kernel)⟩
theorem lw_p13 : lw_okq (⟨"ScrawlHouse$Machine", "stateOf", "(LScrawlHouse$PatternText;JI)I"⟩, 5) := ⟨⟨by decide +kernel, by decide +kernel⟩, List.mem_of_getElem? (i := 170) (by decide +kernel), List.mem_of_getElem? (i := 742) (by decide +kernel), List.mem_of_getElem? (i := 743) (by decide +kernel)⟩
theorem lw_p14 : lw_okq (⟨"ScrawlHouse$Reader", "formCost", "(II)I"⟩, 16) := ⟨⟨by decide +kernel, by decide +kernel⟩, List.mem_of_getElem? (i := 316) (by decide +kernel), List.mem_of_getElem? (i := 811) (by decide +kernel), List.mem_of_getElem? (i := 812) (by decide +kernel)⟩
theorem lw_p15 : lw_okq (⟨"ScrawlHouse$Reader", "mayForm", "(III)Z"⟩, 16) := ⟨⟨by decide +kernel, by decide +kernel⟩, List.mem_of_getElem? (i := 316) (by decide +kernel), List.mem_of_getElem? (i := 815) (by decide +kernel), List.mem_of_getElem? (i := 816) (by decide +kernel)⟩
def lw_privs_1 : List (MethodName × Nat) := [(⟨"ScrawlHouse$Lore", "isWordText", "(LScrawlHouse$Tape;)Z"⟩, 8), (⟨"ScrawlHouse$Lore", "hasText", "(ILScrawlHouse$Tape;)Z"⟩, 8), (⟨"ScrawlHouse$Town", "shorten", "(III)V"⟩, 8), (⟨"ScrawlHouse$PatternText", "startPattern", "()V"⟩, 9), (⟨"ScrawlHouse$PatternText", "takeToken", "(I)I"⟩, 9), (⟨"ScrawlHouse$PatternText", "takeItem", "(I)I"⟩, 9), (⟨"ScrawlHouse$PatternText", "sortOf", "(II)I"⟩, 9), (⟨"ScrawlHouse$PatternText", "spells", "(Ljava/lang/String;II)Z"⟩, 9), (⟨"ScrawlHouse$PatternText", "refuse", "(II)V"⟩, 9), (⟨"ScrawlHouse$PatternText", "takeAsk", "(I)V"⟩, 9), (⟨"ScrawlHouse$PatternText", "takeStop", "(I)V"⟩, 9), (⟨"ScrawlHouse$Machine", "addState", "(LScrawlHouse$PatternText;J)I"⟩, 5), (⟨"ScrawlHouse$Machine", "moved", "(LScrawlHouse$PatternText;JI)J"⟩, 5), (⟨"ScrawlHouse$Machine", "stateOf", "(LScrawlHouse$PatternText;JI)I"⟩, 5), (⟨"ScrawlHouse$Reader", "formCost", "(II)I"⟩, 16), (⟨"ScrawlHouse$Reader", "mayForm", "(III)Z"⟩, 16)]
theorem lw_r1 : ∀ q ∈ lw_privs_1, lw_okq q := List.forall_mem_cons.mpr ⟨lw_p0, List.forall_mem_cons.mpr ⟨lw_p1, List.forall_mem_cons.mpr ⟨lw_p2, List.forall_mem_cons.mpr ⟨lw_p3, List.forall_mem_cons.mpr ⟨lw_p4, List.forall_mem_cons.mpr ⟨lw_p5, List.forall_mem_cons.mpr ⟨lw_p6, List.forall_mem_cons.mpr ⟨lw_p7, List.forall_mem_cons.mpr ⟨lw_p8, List.forall_mem_cons.mpr ⟨lw_p9, List.forall_mem_cons.mpr ⟨lw_p10, List.forall_mem_cons.mpr ⟨lw_p11, List.forall_mem_cons.mpr ⟨lw_p12, List.forall_mem_cons.mpr ⟨lw_p13, List.forall_mem_cons.mpr ⟨lw_p14, List.forall_mem_cons.mpr ⟨lw_p15, fun _ h => absurd h List.not_mem_nil⟩⟩⟩⟩⟩⟩⟩⟩⟩⟩⟩⟩⟩⟩⟩⟩
theorem lw_p16 : lw_okq (⟨"ScrawlHouse$Reader", "isSameEvidence", "(I)Z"⟩, 16) := ⟨⟨by decide +kernel, by decide +kernel⟩, List.mem_of_getElem? (i := 316) (by decide +kernel), List.mem_of_getElem? (i := 836) (by decide +kernel), List.mem_of_getElem? (i := 837) (by decide +kernel)⟩
theorem lw_p17 : lw_okq (⟨"ScrawlHouse$Reader", "keepEvidence", "(I)V"⟩, 16) := ⟨⟨by decide +kernel, by decide +kernel⟩, List.mem_of_getElem? (i := 316) (by decide +kernel), List.mem_of_getElem? (i := 840) (by decide +kernel), List.mem_of_getElem? (i := 841) (by decide +kernel)⟩
theorem lw_p18 : lw_okq (⟨"ScrawlHouse$Reader", "weighLetters", "()V"⟩, 16) := ⟨⟨by decide +kernel, by decide +kernel⟩, List.mem_of_getElem? (i := 316) (by decide +kernel), List.mem_of_getElem? (i := 854) (by decide +kernel), List.mem_of_getElem? (i := 855) (by decide +kernel)⟩
theorem lw_p19 : lw_okq (⟨"ScrawlHouse$Reader", "startSearch", "()V"⟩, 16) := ⟨⟨by decide +kernel, by decide +kernel⟩, List.mem_of_getElem? (i := 316) (by decide +kernel), List.mem_of_getElem? (i := 859) (by decide +kernel), List.mem_of_getElem? (i := 860) (by decide +kernel)⟩
theorem lw_p20 : lw_okq (⟨"ScrawlHouse$Reader", "search", "(III)I"⟩, 16) := ⟨⟨by decide +kernel, by decide +kernel⟩, List.mem_of_getElem? (i := 316) (by decide +kernel), List.mem_of_getElem? (i := 867) (by decide +kernel), List.mem_of_getElem? (i := 868) (by decide +kernel)⟩
theorem lw_p21 : lw_okq (⟨"ScrawlHouse$Reader", "listFits", "(I)V"⟩, 16) := ⟨⟨by decide +kernel, by decide +kernel⟩, List.mem_of_getElem? (i := 316) (by decide +kernel), List.mem_of_getElem? (i := 871) (by decide +kernel), List.mem_of_getElem? (i := 872) (by decide +kernel)⟩
theorem lw_p22 : lw_okq (⟨"ScrawlHouse$Reader", "wordCost", "(II)I"⟩, 16) := ⟨⟨by decide +kernel, by decide +kernel⟩, List.mem_of_getElem? (i := 316) (by decide +kernel), List.mem_of_getElem? (i := 875) (by decide +kernel), List.mem_of_getElem? (i := 876) (by decide +kernel)⟩
theorem lw_p23 : lw_okq (⟨"ScrawlHouse$Reader", "weigh", "(III)V"⟩, 16) := ⟨⟨by decide +kernel, by decide +kernel⟩, List.mem_of_getElem? (i := 316) (by decide +kernel), List.mem_of_getElem? (i := 883) (by decide +kernel), List.mem_of_getElem? (i := 884) (by decide +kernel)⟩
theorem lw_p24 : lw_okq (⟨"ScrawlHouse$Reader", "keepBest", "(I)V"⟩, 16) := ⟨⟨by decide +kernel, by decide +kernel⟩, List.mem_of_getElem? (i := 316) (by decide +kernel), List.mem_of_getElem? (i := 887) (by decide +kernel), List.mem_of_getElem? (i := 888) (by decide +kernel)⟩
theorem lw_p25 : lw_okq (⟨"ScrawlHouse$Reader", "keepFirst", "(II)V"⟩, 16) := ⟨⟨by decide +kernel, by decide +kernel⟩, List.mem_of_getElem? (i := 316) (by decide +kernel), List.mem_of_getElem? (i := 891) (by decide +kernel), List.mem_of_getElem? (i := 892) (by decide +kernel)⟩
theorem lw_p26 : lw_okq (⟨"ScrawlHouse$Reader", "keepForms", "(I)V"⟩, 16) := ⟨⟨by decide +kernel, by decide +kernel⟩, List.mem_of_getElem? (i := 316) (by decide +kernel), List.mem_of_getElem? (i := 899) (by decide +kernel), List.mem_of_getElem? (i := 900) (by decide +kernel)⟩
theorem lw_p27 : lw_okq (⟨"ScrawlHouse$Reader", "formsThatMay", "(II)I"⟩, 16) := ⟨⟨by decide +kernel, by decide +kernel⟩, List.mem_of_getElem? (i := 316) (by decide +kernel), List.mem_of_getElem? (i := 904) (by decide +kernel), List.mem_of_getElem? (i := 905) (by decide +kernel)⟩
theorem lw_p28 : lw_okq (⟨"ScrawlHouse$Years", "begin", "(I)V"⟩, 13) := ⟨⟨by decide +kernel, by decide +kernel⟩, List.mem_of_getElem? (i := 405) (by decide +kernel), List.mem_of_getElem? (i := 945) (by decide +kernel), List.mem_of_getElem? (i := 946) (by decide +kernel)⟩
theorem lw_p29 : lw_okq (⟨"ScrawlHouse$Years", "hear", "(I)V"⟩, 13) := ⟨⟨by decide +kernel, by decide +kernel⟩, List.mem_of_getElem? (i := 405) (by decide +kernel), List.mem_of_getElem? (i := 958) (by decide +kernel), List.mem_of_getElem? (i := 959) (by decide +kernel)⟩
theorem lw_p30 : lw_okq (⟨"ScrawlHouse$Years", "narrow", "(II)V"⟩, 13) := ⟨⟨by decide +kernel, by decide +kernel⟩, List.mem_of_getElem? (i := 405) (by decide +kernel), List.mem_of_getElem? (i := 966) (by decide +kernel), List.mem_of_getElem? (i := 967) (by decide +kernel)⟩
theorem lw_p31 : lw_okq (⟨"ScrawlHouse$Years", "hearStood", "(I)V"⟩, 13) := ⟨⟨by decide +kernel, by decide +kernel⟩, List.mem_of_getElem? (i := 405) (by decide +kernel), List.mem_of_getElem? (i := 972) (by decide +kernel), List.mem_of_getElem? (i := 973) (by decide +kernel)⟩
def lw_privs_2 : List (MethodName × Nat) := [(⟨"ScrawlHouse$Reader", "isSameEvidence", "(I)Z"⟩, 16), (⟨"ScrawlHouse$Reader", "keepEvidence", "(I)V"⟩, 16), (⟨"ScrawlHouse$Reader", "weighLetters", "()V"⟩, 16), (⟨"ScrawlHouse$Reader", "startSearch", "()V"⟩, 16), (⟨"ScrawlHouse$Reader", "search", "(III)I"⟩, 16), (⟨"ScrawlHouse$Reader", "listFits", "(I)V"⟩, 16), (⟨"ScrawlHouse$Reader", "wordCost", "(II)I"⟩, 16), (⟨"ScrawlHouse$Reader", "weigh", "(III)V"⟩, 16), (⟨"ScrawlHouse$Reader", "keepBest", "(I)V"⟩, 16), (⟨"ScrawlHouse$Reader", "keepFirst", "(II)V"⟩, 16), (⟨"ScrawlHouse$Reader", "keepForms", "(I)V"⟩, 16), (⟨"ScrawlHouse$Reader", "formsThatMay", "(II)I"⟩, 16), (⟨"ScrawlHouse$Years", "begin", "(I)V"⟩, 13), (⟨"ScrawlHouse$Years", "hear", "(I)V"⟩, 13), (⟨"ScrawlHouse$Years", "narrow", "(II)V"⟩, 13), (⟨"ScrawlHouse$Years", "hearStood", "(I)V"⟩, 13)]
theorem lw_r2 : ∀ q ∈ lw_privs_2, lw_okq q := List.forall_mem_cons.mpr ⟨lw_p16, List.forall_mem_cons.mpr ⟨lw_p17, List.forall_mem_cons.mpr ⟨lw_p18, List.forall_mem_cons.mpr ⟨lw_p19, List.forall_mem_cons.mpr ⟨lw_p20, List.forall_mem_cons.mpr ⟨lw_p21, List.forall_mem_cons.mpr ⟨lw_p22, List.forall_mem_cons.mpr ⟨lw_p23, List.forall_mem_cons.mpr ⟨lw_p24, List.forall_mem_cons.mpr ⟨lw_p25, List.forall_mem_cons.mpr ⟨lw_p26, List.forall_mem_cons.mpr ⟨lw_p27, List.forall_mem_cons.mpr ⟨lw_p28, List.forall_mem_cons.mpr ⟨lw_p29, List.forall_mem_cons.mpr ⟨lw_p30, List.forall_mem_cons.mpr ⟨lw_p31, fun _ h => absurd h List.not_mem_nil⟩⟩⟩⟩⟩⟩⟩⟩⟩⟩⟩⟩⟩⟩⟩⟩
theorem lw_p32 : lw_okq (⟨"ScrawlHouse$Years", "allow", "(III)V"⟩, 13) := ⟨⟨by decide +kernel, by decide +kernel⟩, List.mem_of_getElem? (i := 405) (by decide +kernel), List.mem_of_getElem? (i := 977) (by decide +kernel), List.mem_of_getElem? (i := 978) (by decide +kernel)⟩
theorem lw_p33 : lw_okq (⟨"ScrawlHouse$Years", "hearThing", "(I)V"⟩, 13) := ⟨⟨by decide +kernel, by decide +kernel⟩, List.mem_of_getElem? (i := 405) (by decide +kernel), List.mem_of_getElem? (i := 981) (by decide +kernel), List.mem_of_getElem? (i := 982) (by decide +kernel)⟩
theorem lw_p34 : lw_okq (⟨"ScrawlHouse$Years", "settleLeast", "()Z"⟩, 13) := ⟨⟨by decide +kernel, by decide +kernel⟩, List.mem_of_getElem? (i := 405) (by decide +kernel), List.mem_of_getElem? (i := 985) (by decide +kernel), List.mem_of_getElem? (i := 986) (by decide +kernel)⟩
theorem lw_p35 : lw_okq (⟨"ScrawlHouse$Years", "firstYear", "(II)I"⟩, 13) := ⟨⟨by decide +kernel, by decide +kernel⟩, List.mem_of_getElem? (i := 405) (by decide +kernel), List.mem_of_getElem? (i := 989) (by decide +kernel), List.mem_of_getElem? (i := 990) (by decide +kernel)⟩
theorem lw_p36 : lw_okq (⟨"ScrawlHouse$Years", "mayBe", "(II)Z"⟩, 13) := ⟨⟨by decide +kernel, by decide +kernel⟩, List.mem_of_getElem? (i := 405) (by decide +kernel), List.mem_of_getElem? (i := 993) (by decide +kernel), List.mem_of_getElem? (i := 994) (by decide +kernel)⟩
theorem lw_p37 : lw_okq (⟨"ScrawlHouse$Years", "allHaveYears", "()Z"⟩, 13) := ⟨⟨by decide +kernel, by decide +kernel⟩, List.mem_of_getElem? (i := 405) (by decide +kernel), List.mem_of_getElem? (i := 997) (by decide +kernel), List.mem_of_getElem? (i := 998) (by decide +kernel)⟩
theorem lw_p38 : lw_okq (⟨"ScrawlHouse$Years", "sweepUp", "()Z"⟩, 13) := ⟨⟨by decide +kernel, by decide +kernel⟩, List.mem_of_getElem? (i := 405) (by decide +kernel), List.mem_of_getElem? (i := 1001) (by decide +kernel), List.mem_of_getElem? (i := 1002) (by decide +kernel)⟩
theorem lw_p39 : lw_okq (⟨"ScrawlHouse$Years", "raise", "(II)Z"⟩, 13) := ⟨⟨by decide +kernel, by decide +kernel⟩, List.mem_of_getElem? (i := 405) (by decide +kernel), List.mem_of_getElem? (i := 1005) (by decide +kernel), List.mem_of_getElem? (i := 1006) (by decide +kernel)⟩
theorem lw_p40 : lw_okq (⟨"ScrawlHouse$Years", "isCovered", "(I)Z"⟩, 13) := ⟨⟨by decide +kernel, by decide +kernel⟩, List.mem_of_getElem? (i := 405) (by decide +kernel), List.mem_of_getElem? (i := 1009) (by decide +kernel), List.mem_of_getElem? (i := 1010) (by decide +kernel)⟩
theorem lw_p41 : lw_okq (⟨"ScrawlHouse$Years", "settleGreatest", "()V"⟩, 13) := ⟨⟨by decide +kernel, by decide +kernel⟩, List.mem_of_getElem? (i := 405) (by decide +kernel), List.mem_of_getElem? (i := 1014) (by decide +kernel), List.mem_of_getElem? (i := 1015) (by decide +kernel)⟩
theorem lw_p42 : lw_okq (⟨"ScrawlHouse$Years", "lastYear", "(II)I"⟩, 13) := ⟨⟨by decide +kernel, by decide +kernel⟩, List.mem_of_getElem? (i := 405) (by decide +kernel), List.mem_of_getElem? (i := 1018) (by decide +kernel), List.mem_of_getElem? (i := 1019) (by decide +kernel)⟩
theorem lw_p43 : lw_okq (⟨"ScrawlHouse$Years", "sweepDown", "()Z"⟩, 13) := ⟨⟨by decide +kernel, by decide +kernel⟩, List.mem_of_getElem? (i := 405) (by decide +kernel), List.mem_of_getElem? (i := 1022) (by decide +kernel), List.mem_of_getElem? (i := 1023) (by decide +kernel)⟩
theorem lw_p44 : lw_okq (⟨"ScrawlHouse$Years", "lower", "(II)Z"⟩, 13) := ⟨⟨by decide +kernel, by decide +kernel⟩, List.mem_of_getElem? (i := 405) (by decide +kernel), List.mem_of_getElem? (i := 1026) (by decide +kernel), List.mem_of_getElem? (i := 1027) (by decide +kernel)⟩
theorem lw_p45 : lw_okq (⟨"ScrawlHouse$Folk", "leastHand", "(I)I"⟩, 10) := ⟨⟨by decide +kernel, by decide +kernel⟩, List.mem_of_getElem? (i := 452) (by decide +kernel), List.mem_of_getElem? (i := 1035) (by decide +kernel), List.mem_of_getElem? (i := 1036) (by decide +kernel)⟩
theorem lw_p46 : lw_okq (⟨"ScrawlHouse$Folk", "isOfHand", "(II)Z"⟩, 10) := ⟨⟨by decide +kernel, by decide +kernel⟩, List.mem_of_getElem? (i := 452) (by decide +kernel), List.mem_of_getElem? (i := 1039) (by decide +kernel), List.mem_of_getElem? (i := 1040) (by decide +kernel)⟩
theorem lw_p47 : lw_okq (⟨"ScrawlHouse", "isAbout", "(III)Z"⟩, 14) := ⟨⟨by decide +kernel, by decide +kernel⟩, List.mem_of_getElem? (i := 26) (by decide +kernel), List.mem_of_getElem? (i := 1053) (by decide +kernel), List.mem_of_getElem? (i := 1054) (by decide +kernel)⟩
def lw_privs_3 : List (MethodName × Nat) := [(⟨"ScrawlHouse$Years", "allow", "(III)V"⟩, 13), (⟨"ScrawlHouse$Years", "hearThing", "(I)V"⟩, 13), (⟨"ScrawlHouse$Years", "settleLeast", "()Z"⟩, 13), (⟨"ScrawlHouse$Years", "firstYear", "(II)I"⟩, 13), (⟨"ScrawlHouse$Years", "mayBe", "(II)Z"⟩, 13), (⟨"ScrawlHouse$Years", "allHaveYears", "()Z"⟩, 13), (⟨"ScrawlHouse$Years", "sweepUp", "()Z"⟩, 13), (⟨"ScrawlHouse$Years", "raise", "(II)Z"⟩, 13), (⟨"ScrawlHouse$Years", "isCovered", "(I)Z"⟩, 13), (⟨"ScrawlHouse$Years", "settleGreatest", "()V"⟩, 13), (⟨"ScrawlHouse$Years", "lastYear", "(II)I"⟩, 13), (⟨"ScrawlHouse$Years", "sweepDown", "()Z"⟩, 13), (⟨"ScrawlHouse$Years", "lower", "(II)Z"⟩, 13), (⟨"ScrawlHouse$Folk", "leastHand", "(I)I"⟩, 10), (⟨"ScrawlHouse$Folk", "isOfHand", "(II)Z"⟩, 10), (⟨"ScrawlHouse", "isAbout", "(III)Z"⟩, 14)]
theorem lw_r3 : ∀ q ∈ lw_privs_3, lw_okq q := List.forall_mem_cons.mpr ⟨lw_p32, List.forall_mem_cons.mpr ⟨lw_p33, List.forall_mem_cons.mpr ⟨lw_p34, List.forall_mem_cons.mpr ⟨lw_p35, List.forall_mem_cons.mpr ⟨lw_p36, List.forall_mem_cons.mpr ⟨lw_p37, List.forall_mem_cons.mpr ⟨lw_p38, List.forall_mem_cons.mpr ⟨lw_p39, List.forall_mem_cons.mpr ⟨lw_p40, List.forall_mem_cons.mpr ⟨lw_p41, List.forall_mem_cons.mpr ⟨lw_p42, List.forall_mem_cons.mpr ⟨lw_p43, List.forall_mem_cons.mpr ⟨lw_p44, List.forall_mem_cons.mpr ⟨lw_p45, List.forall_mem_cons.mpr ⟨lw_p46, List.forall_mem_cons.mpr ⟨lw_p47, fun _ h => absurd h List.not_mem_nil⟩⟩⟩⟩⟩⟩⟩⟩⟩⟩⟩⟩⟩⟩⟩⟩
theorem lw_p48 : lw_okq (⟨"ScrawlHouse$Folk", "gatherMembers", "(II)V"⟩, 10) := ⟨⟨by decide +kernel, by decide +kernel⟩, List.mem_of_getElem? (i := 452) (by decide +kernel), List.mem_of_getElem? (i := 1098) (by decide +kernel), List.mem_of_getElem? (i := 1099) (by decide +kernel)⟩
theorem lw_p49 : lw_okq (⟨"ScrawlHouse$Folk", "clashesOf", "(I)I"⟩, 10) := ⟨⟨by decide +kernel, by decide +kernel⟩, List.mem_of_getElem? (i := 452) (by decide +kernel), List.mem_of_getElem? (i := 1103) (by decide +kernel), List.mem_of_getElem? (i := 1104) (by decide +kernel)⟩
theorem lw_p50 : lw_okq (⟨"ScrawlHouse$Folk", "cantBeOne", "(II)Z"⟩, 10) := ⟨⟨by decide +kernel, by decide +kernel⟩, List.mem_of_getElem? (i := 452) (by decide +kernel), List.mem_of_getElem? (i := 1107) (by decide +kernel), List.mem_of_getElem? (i := 1108) (by decide +kernel)⟩
theorem lw_p51 : lw_okq (⟨"ScrawlHouse$Folk", "canNumber", "(III)Z"⟩, 10) := ⟨⟨by decide +kernel, by decide +kernel⟩, List.mem_of_getElem? (i := 452) (by decide +kernel), List.mem_of_getElem? (i := 1111) (by decide +kernel), List.mem_of_getElem? (i := 1112) (by decide +kernel)⟩
theorem lw_p52 : lw_okq (⟨"ScrawlHouse$Folk", "mayJoin", "(II)Z"⟩, 10) := ⟨⟨by decide +kernel, by decide +kernel⟩, List.mem_of_getElem? (i := 452) (by decide +kernel), List.mem_of_getElem? (i := 1115) (by decide +kernel), List.mem_of_getElem? (i := 1116) (by decide +kernel)⟩
theorem lw_p53 : lw_okq (⟨"ScrawlHouse$Town", "gatherStops", "(I)V"⟩, 8) := ⟨⟨by decide +kernel, by decide +kernel⟩, List.mem_of_getElem? (i := 90) (by decide +kernel), List.mem_of_getElem? (i := 1139) (by decide +kernel), List.mem_of_getElem? (i := 1140) (by decide +kernel)⟩
theorem lw_p54 : lw_okq (⟨"ScrawlHouse$Town", "way", "(II)I"⟩, 8) := ⟨⟨by decide +kernel, by decide +kernel⟩, List.mem_of_getElem? (i := 90) (by decide +kernel), List.mem_of_getElem? (i := 1143) (by decide +kernel), List.mem_of_getElem? (i := 1144) (by decide +kernel)⟩
theorem lw_p55 : lw_okq (⟨"ScrawlHouse$Town", "shortestTour", "(II)I"⟩, 8) := ⟨⟨by decide +kernel, by decide +kernel⟩, List.mem_of_getElem? (i := 90) (by decide +kernel), List.mem_of_getElem? (i := 1147) (by decide +kernel), List.mem_of_getElem? (i := 1148) (by decide +kernel)⟩
theorem lw_p56 : lw_okq (⟨"java/lang/Throwable", "fillInStackTrace", "(I)Ljava/lang/Throwable;"⟩, 6) := ⟨⟨by decide +kernel, by decide +kernel⟩, List.mem_of_getElem? (i := 1199) (by decide +kernel), List.mem_of_getElem? (i := 1197) (by decide +kernel), List.mem_of_getElem? (i := 1198) (by decide +kernel)⟩
theorem lw_p57 : lw_okq (⟨"ScrawlHouseModel", "come", "(I)V"⟩, 87) := ⟨⟨by decide +kernel, by decide +kernel⟩, List.mem_of_getElem? (i := 1228) (by decide +kernel), List.mem_of_getElem? (i := 1505) (by decide +kernel), List.mem_of_getElem? (i := 1506) (by decide +kernel)⟩
theorem lw_p58 : lw_okq (⟨"ScrawlHouseModel", "take", "()I"⟩, 87) := ⟨⟨by decide +kernel, by decide +kernel⟩, List.mem_of_getElem? (i := 1228) (by decide +kernel), List.mem_of_getElem? (i := 1528) (by decide +kernel), List.mem_of_getElem? (i := 1529) (by decide +kernel)⟩
theorem lw_p59 : lw_okq (⟨"ScrawlHouseModel", "isThere", "(II)Z"⟩, 87) := ⟨⟨by decide +kernel, by decide +kernel⟩, List.mem_of_getElem? (i := 1228) (by decide +kernel), List.mem_of_getElem? (i := 1535) (by decide +kernel), List.mem_of_getElem? (i := 1536) (by decide +kernel)⟩
theorem lw_p60 : lw_okq (⟨"ScrawlHouseModel", "isHabit", "(III)Z"⟩, 87) := ⟨⟨by decide +kernel, by decide +kernel⟩, List.mem_of_getElem? (i := 1228) (by decide +kernel), List.mem_of_getElem? (i := 1554) (by decide +kernel), List.mem_of_getElem? (i := 1555) (by decide +kernel)⟩
theorem lw_p61 : lw_okq (⟨"ScrawlHouseModel", "go", "()V"⟩, 87) := ⟨⟨by decide +kernel, by decide +kernel⟩, List.mem_of_getElem? (i := 1228) (by decide +kernel), List.mem_of_getElem? (i := 1562) (by decide +kernel), List.mem_of_getElem? (i := 1563) (by decide +kernel)⟩
theorem lw_p62 : lw_okq (⟨"ScrawlHouseModel", "readPattern", "()Z"⟩, 87) := ⟨⟨by decide +kernel, by decide +kernel⟩, List.mem_of_getElem? (i := 1228) (by decide +kernel), List.mem_of_getElem? (i := 1569) (by decide +kernel), List.mem_of_getElem? (i := 1570) (by decide +kernel)⟩
theorem lw_p63 : lw_okq (⟨"ScrawlHouseModel", "sortAtHand", "()I"⟩, 87) := ⟨⟨by decide +kernel, by decide +kernel⟩, List.mem_of_getElem? (i := 1228) (by decide +kernel), List.mem_of_getElem? (i := 1573) (by decide +kernel), List.mem_of_getElem? (i := 1574) (by decide +kernel)⟩
def lw_privs_4 : List (MethodName × Nat) := [(⟨"ScrawlHouse$Folk", "gatherMembers", "(II)V"⟩, 10), (⟨"ScrawlHouse$Folk", "clashesOf", "(I)I"⟩, 10), (⟨"ScrawlHouse$Folk", "cantBeOne", "(II)Z"⟩, 10), (⟨"ScrawlHouse$Folk", "canNumber", "(III)Z"⟩, 10), (⟨"ScrawlHouse$Folk", "mayJoin", "(II)Z"⟩, 10), (⟨"ScrawlHouse$Town", "gatherStops", "(I)V"⟩, 8), (⟨"ScrawlHouse$Town", "way", "(II)I"⟩, 8), (⟨"ScrawlHouse$Town", "shortestTour", "(II)I"⟩, 8), (⟨"java/lang/Throwable", "fillInStackTrace", "(I)Ljava/lang/Throwable;"⟩, 6), (⟨"ScrawlHouseModel", "come", "(I)V"⟩, 87), (⟨"ScrawlHouseModel", "take", "()I"⟩, 87), (⟨"ScrawlHouseModel", "isThere", "(II)Z"⟩, 87), (⟨"ScrawlHouseModel", "isHabit", "(III)Z"⟩, 87), (⟨"ScrawlHouseModel", "go", "()V"⟩, 87), (⟨"ScrawlHouseModel", "readPattern", "()Z"⟩, 87), (⟨"ScrawlHouseModel", "sortAtHand", "()I"⟩, 87)]
theorem lw_r4 : ∀ q ∈ lw_privs_4, lw_okq q := List.forall_mem_cons.mpr ⟨lw_p48, List.forall_mem_cons.mpr ⟨lw_p49, List.forall_mem_cons.mpr ⟨lw_p50, List.forall_mem_cons.mpr ⟨lw_p51, List.forall_mem_cons.mpr ⟨lw_p52, List.forall_mem_cons.mpr ⟨lw_p53, List.forall_mem_cons.mpr ⟨lw_p54, List.forall_mem_cons.mpr ⟨lw_p55, List.forall_mem_cons.mpr ⟨lw_p56, List.forall_mem_cons.mpr ⟨lw_p57, List.forall_mem_cons.mpr ⟨lw_p58, List.forall_mem_cons.mpr ⟨lw_p59, List.forall_mem_cons.mpr ⟨lw_p60, List.forall_mem_cons.mpr ⟨lw_p61, List.forall_mem_cons.mpr ⟨lw_p62, List.forall_mem_cons.mpr ⟨lw_p63, fun _ h => absurd h List.not_mem_nil⟩⟩⟩⟩⟩⟩⟩⟩⟩⟩⟩⟩⟩⟩⟩⟩
theorem lw_p64 : lw_okq (⟨"ScrawlHouseModel", "bad", "(I)Z"⟩, 87) := ⟨⟨by decide +kernel, by decide +kernel⟩, List.mem_of_getElem? (i := 1228) (by decide +kernel), List.mem_of_getElem? (i := 1581) (by decide +kernel), List.mem_of_getElem? (i := 1582) (by decide +kernel)⟩
theorem lw_p65 : lw_okq (⟨"ScrawlHouseModel", "addRow", "(II)V"⟩, 87) := ⟨⟨by decide +kernel, by decide +kernel⟩, List.mem_of_getElem? (i := 1228) (by decide +kernel), List.mem_of_getElem? (i := 1585) (by decide +kernel), List.mem_of_getElem? (i := 1586) (by decide +kernel)⟩
theorem lw_p66 : lw_okq (⟨"ScrawlHouseModel", "isScrawl", "(I)Z"⟩, 87) := ⟨⟨by decide +kernel, by decide +kernel⟩, List.mem_of_getElem? (i := 1228) (by decide +kernel), List.mem_of_getElem? (i := 1601) (by decide +kernel), List.mem_of_getElem? (i := 1602) (by decide +kernel)⟩
theorem lw_p67 : lw_okq (⟨"ScrawlHouseModel", "isKnown", "(II)Z"⟩, 87) := ⟨⟨by decide +kernel, by decide +kernel⟩, List.mem_of_getElem? (i := 1228) (by decide +kernel), List.mem_of_getElem? (i := 1613) (by decide +kernel), List.mem_of_getElem? (i := 1614) (by decide +kernel)⟩
theorem lw_p68 : lw_okq (⟨"ScrawlHouseModel", "costOf", "(IIII)I"⟩, 87) := ⟨⟨by decide +kernel, by decide +kernel⟩, List.mem_of_getElem? (i := 1228) (by decide +kernel), List.mem_of_getElem? (i := 1617) (by decide +kernel), List.mem_of_getElem? (i := 1618) (by decide +kernel)⟩
theorem lw_p69 : lw_okq (⟨"ScrawlHouseModel", "photoAt", "(II)I"⟩, 87) := ⟨⟨by decide +kernel, by decide +kernel⟩, List.mem_of_getElem? (i := 1228) (by decide +kernel), List.mem_of_getElem? (i := 1621) (by decide +kernel), List.mem_of_getElem? (i := 1622) (by decide +kernel)⟩
theorem lw_p70 : lw_okq (⟨"ScrawlHouseModel", "mayForm", "(III)Z"⟩, 87) := ⟨⟨by decide +kernel, by decide +kernel⟩, List.mem_of_getElem? (i := 1228) (by decide +kernel), List.mem_of_getElem? (i := 1626) (by decide +kernel), List.mem_of_getElem? (i := 1627) (by decide +kernel)⟩
theorem lw_p71 : lw_okq (⟨"ScrawlHouseModel", "workAll", "(I)V"⟩, 87) := ⟨⟨by decide +kernel, by decide +kernel⟩, List.mem_of_getElem? (i := 1228) (by decide +kernel), List.mem_of_getElem? (i := 1637) (by decide +kernel), List.mem_of_getElem? (i := 1638) (by decide +kernel)⟩
theorem lw_p72 : lw_okq (⟨"ScrawlHouseModel", "workOut", "(II)V"⟩, 87) := ⟨⟨by decide +kernel, by decide +kernel⟩, List.mem_of_getElem? (i := 1228) (by decide +kernel), List.mem_of_getElem? (i := 1641) (by decide +kernel), List.mem_of_getElem? (i := 1642) (by decide +kernel)⟩
theorem lw_p73 : lw_okq (⟨"ScrawlHouseModel", "fillRow", "(II)V"⟩, 87) := ⟨⟨by decide +kernel, by decide +kernel⟩, List.mem_of_getElem? (i := 1228) (by decide +kernel), List.mem_of_getElem? (i := 1645) (by decide +kernel), List.mem_of_getElem? (i := 1646) (by decide +kernel)⟩
theorem lw_p74 : lw_okq (⟨"ScrawlHouseModel", "walkBest", "(III)V"⟩, 87) := ⟨⟨by decide +kernel, by decide +kernel⟩, List.mem_of_getElem? (i := 1228) (by decide +kernel), List.mem_of_getElem? (i := 1652) (by decide +kernel), List.mem_of_getElem? (i := 1653) (by decide +kernel)⟩
theorem lw_p75 : lw_okq (⟨"ScrawlHouseModel", "goesOn", "(IIII)Z"⟩, 87) := ⟨⟨by decide +kernel, by decide +kernel⟩, List.mem_of_getElem? (i := 1228) (by decide +kernel), List.mem_of_getElem? (i := 1656) (by decide +kernel), List.mem_of_getElem? (i := 1657) (by decide +kernel)⟩
theorem lw_p76 : lw_okq (⟨"ScrawlHouseModel", "isBy", "(IIIII)Z"⟩, 87) := ⟨⟨by decide +kernel, by decide +kernel⟩, List.mem_of_getElem? (i := 1228) (by decide +kernel), List.mem_of_getElem? (i := 1660) (by decide +kernel), List.mem_of_getElem? (i := 1661) (by decide +kernel)⟩
theorem lw_p77 : lw_okq (⟨"ScrawlHouseModel", "refuse", "()I"⟩, 87) := ⟨⟨by decide +kernel, by decide +kernel⟩, List.mem_of_getElem? (i := 1228) (by decide +kernel), List.mem_of_getElem? (i := 1668) (by decide +kernel), List.mem_of_getElem? (i := 1669) (by decide +kernel)⟩
theorem lw_p78 : lw_okq (⟨"ScrawlHouseModel", "usedForm", "(III)I"⟩, 87) := ⟨⟨by decide +kernel, by decide +kernel⟩, List.mem_of_getElem? (i := 1228) (by decide +kernel), List.mem_of_getElem? (i := 1676) (by decide +kernel), List.mem_of_getElem? (i := 1677) (by decide +kernel)⟩
theorem lw_p79 : lw_okq (⟨"ScrawlHouseModel", "firstOf", "(II)I"⟩, 87) := ⟨⟨by decide +kernel, by decide +kernel⟩, List.mem_of_getElem? (i := 1228) (by decide +kernel), List.mem_of_getElem? (i := 1680) (by decide +kernel), List.mem_of_getElem? (i := 1681) (by decide +kernel)⟩
def lw_privs_5 : List (MethodName × Nat) := [(⟨"ScrawlHouseModel", "bad", "(I)Z"⟩, 87), (⟨"ScrawlHouseModel", "addRow", "(II)V"⟩, 87), (⟨"ScrawlHouseModel", "isScrawl", "(I)Z"⟩, 87), (⟨"ScrawlHouseModel", "isKnown", "(II)Z"⟩, 87), (⟨"ScrawlHouseModel", "costOf", "(IIII)I"⟩, 87), (⟨"ScrawlHouseModel", "photoAt", "(II)I"⟩, 87), (⟨"ScrawlHouseModel", "mayForm", "(III)Z"⟩, 87), (⟨"ScrawlHouseModel", "workAll", "(I)V"⟩, 87), (⟨"ScrawlHouseModel", "workOut", "(II)V"⟩, 87), (⟨"ScrawlHouseModel", "fillRow", "(II)V"⟩, 87), (⟨"ScrawlHouseModel", "walkBest", "(III)V"⟩, 87), (⟨"ScrawlHouseModel", "goesOn", "(IIII)Z"⟩, 87), (⟨"ScrawlHouseModel", "isBy", "(IIIII)Z"⟩, 87), (⟨"ScrawlHouseModel", "refuse", "()I"⟩, 87), (⟨"ScrawlHouseModel", "usedForm", "(III)I"⟩, 87), (⟨"ScrawlHouseModel", "firstOf", "(II)I"⟩, 87)]
theorem lw_r5 : ∀ q ∈ lw_privs_5, lw_okq q := List.forall_mem_cons.mpr ⟨lw_p64, List.forall_mem_cons.mpr ⟨lw_p65, List.forall_mem_cons.mpr ⟨lw_p66, List.forall_mem_cons.mpr ⟨lw_p67, List.forall_mem_cons.mpr ⟨lw_p68, List.forall_mem_cons.mpr ⟨lw_p69, List.forall_mem_cons.mpr ⟨lw_p70, List.forall_mem_cons.mpr ⟨lw_p71, List.forall_mem_cons.mpr ⟨lw_p72, List.forall_mem_cons.mpr ⟨lw_p73, List.forall_mem_cons.mpr ⟨lw_p74, List.forall_mem_cons.mpr ⟨lw_p75, List.forall_mem_cons.mpr ⟨lw_p76, List.forall_mem_cons.mpr ⟨lw_p77, List.forall_mem_cons.mpr ⟨lw_p78, List.forall_mem_cons.mpr ⟨lw_p79, fun _ h => absurd h List.not_mem_nil⟩⟩⟩⟩⟩⟩⟩⟩⟩⟩⟩⟩⟩⟩⟩⟩
theorem lw_p80 : lw_okq (⟨"ScrawlHouseModel", "agreement", "(III)I"⟩, 87) := ⟨⟨by decide +kernel, by decide +kernel⟩, List.mem_of_getElem? (i := 1228) (by decide +kernel), List.mem_of_getElem? (i := 1692) (by decide +kernel), List.mem_of_getElem? (i := 1693) (by decide +kernel)⟩
theorem lw_p81 : lw_okq (⟨"ScrawlHouseModel", "isWordOf", "(II)Z"⟩, 87) := ⟨⟨by decide +kernel, by decide +kernel⟩, List.mem_of_getElem? (i := 1228) (by decide +kernel), List.mem_of_getElem? (i := 1700) (by decide +kernel), List.mem_of_getElem? (i := 1701) (by decide +kernel)⟩
theorem lw_p82 : lw_okq (⟨"ScrawlHouseModel", "settle", "(II)V"⟩, 87) := ⟨⟨by decide +kernel, by decide +kernel⟩, List.mem_of_getElem? (i := 1228) (by decide +kernel), List.mem_of_getElem? (i := 1708) (by decide +kernel), List.mem_of_getElem? (i := 1709) (by decide +kernel)⟩
theorem lw_p83 : lw_okq (⟨"ScrawlHouseModel", "counts", "(IIII)Z"⟩, 87) := ⟨⟨by decide +kernel, by decide +kernel⟩, List.mem_of_getElem? (i := 1228) (by decide +kernel), List.mem_of_getElem? (i := 1712) (by decide +kernel), List.mem_of_getElem? (i := 1713) (by decide +kernel)⟩
theorem lw_p84 : lw_okq (⟨"ScrawlHouseModel", "keepYears", "(III)V"⟩, 87) := ⟨⟨by decide +kernel, by decide +kernel⟩, List.mem_of_getElem? (i := 1228) (by decide +kernel), List.mem_of_getElem? (i := 1719) (by decide +kernel), List.mem_of_getElem? (i := 1720) (by decide +kernel)⟩
theorem lw_p85 : lw_okq (⟨"ScrawlHouseModel", "keepByReading", "(III)V"⟩, 87) := ⟨⟨by decide +kernel, by decide +kernel⟩, List.mem_of_getElem? (i := 1228) (by decide +kernel), List.mem_of_getElem? (i := 1723) (by decide +kernel), List.mem_of_getElem? (i := 1724) (by decide +kernel)⟩
theorem lw_p86 : lw_okq (⟨"ScrawlHouseModel", "keepSome", "(I)V"⟩, 87) := ⟨⟨by decide +kernel, by decide +kernel⟩, List.mem_of_getElem? (i := 1228) (by decide +kernel), List.mem_of_getElem? (i := 1727) (by decide +kernel), List.mem_of_getElem? (i := 1728) (by decide +kernel)⟩
theorem lw_p87 : lw_okq (⟨"ScrawlHouseModel", "follows", "(II)V"⟩, 87) := ⟨⟨by decide +kernel, by decide +kernel⟩, List.mem_of_getElem? (i := 1228) (by decide +kernel), List.mem_of_getElem? (i := 1731) (by decide +kernel), List.mem_of_getElem? (i := 1732) (by decide +kernel)⟩
theorem lw_p88 : lw_okq (⟨"ScrawlHouseModel", "leastYear", "(I)I"⟩, 87) := ⟨⟨by decide +kernel, by decide +kernel⟩, List.mem_of_getElem? (i := 1228) (by decide +kernel), List.mem_of_getElem? (i := 1735) (by decide +kernel), List.mem_of_getElem? (i := 1736) (by decide +kernel)⟩
theorem lw_p89 : lw_okq (⟨"ScrawlHouseModel", "greatestYear", "(I)I"⟩, 87) := ⟨⟨by decide +kernel, by decide +kernel⟩, List.mem_of_getElem? (i := 1228) (by decide +kernel), List.mem_of_getElem? (i := 1739) (by decide +kernel), List.mem_of_getElem? (i := 1740) (by decide +kernel)⟩
theorem lw_p90 : lw_okq (⟨"ScrawlHouseModel", "isEmpty", "(I)Z"⟩, 87) := ⟨⟨by decide +kernel, by decide +kernel⟩, List.mem_of_getElem? (i := 1228) (by decide +kernel), List.mem_of_getElem? (i := 1743) (by decide +kernel), List.mem_of_getElem? (i := 1744) (by decide +kernel)⟩
theorem lw_p91 : lw_okq (⟨"ScrawlHouseModel", "takeSpans", "(I)V"⟩, 87) := ⟨⟨by decide +kernel, by decide +kernel⟩, List.mem_of_getElem? (i := 1228) (by decide +kernel), List.mem_of_getElem? (i := 1759) (by decide +kernel), List.mem_of_getElem? (i := 1760) (by decide +kernel)⟩
theorem lw_p92 : lw_okq (⟨"ScrawlHouseModel", "hasUsed", "(II)Z"⟩, 87) := ⟨⟨by decide +kernel, by decide +kernel⟩, List.mem_of_getElem? (i := 1228) (by decide +kernel), List.mem_of_getElem? (i := 1763) (by decide +kernel), List.mem_of_getElem? (i := 1764) (by decide +kernel)⟩
theorem lw_p93 : lw_okq (⟨"ScrawlHouseModel", "mayBeOf", "(III)Z"⟩, 87) := ⟨⟨by decide +kernel, by decide +kernel⟩, List.mem_of_getElem? (i := 1228) (by decide +kernel), List.mem_of_getElem? (i := 1767) (by decide +kernel), List.mem_of_getElem? (i := 1768) (by decide +kernel)⟩
theorem lw_p94 : lw_okq (⟨"ScrawlHouseModel", "areApart", "(II)Z"⟩, 87) := ⟨⟨by decide +kernel, by decide +kernel⟩, List.mem_of_getElem? (i := 1228) (by decide +kernel), List.mem_of_getElem? (i := 1771) (by decide +kernel), List.mem_of_getElem? (i := 1772) (by decide +kernel)⟩
theorem lw_p95 : lw_okq (⟨"ScrawlHouseModel", "partAll", "(II)V"⟩, 87) := ⟨⟨by decide +kernel, by decide +kernel⟩, List.mem_of_getElem? (i := 1228) (by decide +kernel), List.mem_of_getElem? (i := 1779) (by decide +kernel), List.mem_of_getElem? (i := 1780) (by decide +kernel)⟩
def lw_privs_6 : List (MethodName × Nat) := [(⟨"ScrawlHouseModel", "agreement", "(III)I"⟩, 87), (⟨"ScrawlHouseModel", "isWordOf", "(II)Z"⟩, 87), (⟨"ScrawlHouseModel", "settle", "(II)V"⟩, 87), (⟨"ScrawlHouseModel", "counts", "(IIII)Z"⟩, 87), (⟨"ScrawlHouseModel", "keepYears", "(III)V"⟩, 87), (⟨"ScrawlHouseModel", "keepByReading", "(III)V"⟩, 87), (⟨"ScrawlHouseModel", "keepSome", "(I)V"⟩, 87), (⟨"ScrawlHouseModel", "follows", "(II)V"⟩, 87), (⟨"ScrawlHouseModel", "leastYear", "(I)I"⟩, 87), (⟨"ScrawlHouseModel", "greatestYear", "(I)I"⟩, 87), (⟨"ScrawlHouseModel", "isEmpty", "(I)Z"⟩, 87), (⟨"ScrawlHouseModel", "takeSpans", "(I)V"⟩, 87), (⟨"ScrawlHouseModel", "hasUsed", "(II)Z"⟩, 87), (⟨"ScrawlHouseModel", "mayBeOf", "(III)Z"⟩, 87), (⟨"ScrawlHouseModel", "areApart", "(II)Z"⟩, 87), (⟨"ScrawlHouseModel", "partAll", "(II)V"⟩, 87)]
theorem lw_r6 : ∀ q ∈ lw_privs_6, lw_okq q := List.forall_mem_cons.mpr ⟨lw_p80, List.forall_mem_cons.mpr ⟨lw_p81, List.forall_mem_cons.mpr ⟨lw_p82, List.forall_mem_cons.mpr ⟨lw_p83, List.forall_mem_cons.mpr ⟨lw_p84, List.forall_mem_cons.mpr ⟨lw_p85, List.forall_mem_cons.mpr ⟨lw_p86, List.forall_mem_cons.mpr ⟨lw_p87, List.forall_mem_cons.mpr ⟨lw_p88, List.forall_mem_cons.mpr ⟨lw_p89, List.forall_mem_cons.mpr ⟨lw_p90, List.forall_mem_cons.mpr ⟨lw_p91, List.forall_mem_cons.mpr ⟨lw_p92, List.forall_mem_cons.mpr ⟨lw_p93, List.forall_mem_cons.mpr ⟨lw_p94, List.forall_mem_cons.mpr ⟨lw_p95, fun _ h => absurd h List.not_mem_nil⟩⟩⟩⟩⟩⟩⟩⟩⟩⟩⟩⟩⟩⟩⟩⟩
theorem lw_p96 : lw_okq (⟨"ScrawlHouseModel", "partInto", "(I)Z"⟩, 87) := ⟨⟨by decide +kernel, by decide +kernel⟩, List.mem_of_getElem? (i := 1228) (by decide +kernel), List.mem_of_getElem? (i := 1783) (by decide +kernel), List.mem_of_getElem? (i := 1784) (by decide +kernel)⟩
theorem lw_p97 : lw_okq (⟨"ScrawlHouseModel", "mayJoin", "(II)Z"⟩, 87) := ⟨⟨by decide +kernel, by decide +kernel⟩, List.mem_of_getElem? (i := 1228) (by decide +kernel), List.mem_of_getElem? (i := 1787) (by decide +kernel), List.mem_of_getElem? (i := 1788) (by decide +kernel)⟩
theorem lw_p98 : lw_okq (⟨"ScrawlHouseModel", "areTwo", "(II)Z"⟩, 87) := ⟨⟨by decide +kernel, by decide +kernel⟩, List.mem_of_getElem? (i := 1228) (by decide +kernel), List.mem_of_getElem? (i := 1791) (by decide +kernel), List.mem_of_getElem? (i := 1792) (by decide +kernel)⟩
theorem lw_p99 : lw_okq (⟨"ScrawlHouseModel", "measure", "()V"⟩, 87) := ⟨⟨by decide +kernel, by decide +kernel⟩, List.mem_of_getElem? (i := 1228) (by decide +kernel), List.mem_of_getElem? (i := 1803) (by decide +kernel), List.mem_of_getElem? (i := 1804) (by decide +kernel)⟩
def lw_privs_7 : List (MethodName × Nat) := [(⟨"ScrawlHouseModel", "partInto", "(I)Z"⟩, 87), (⟨"ScrawlHouseModel", "mayJoin", "(II)Z"⟩, 87), (⟨"ScrawlHouseModel", "areTwo", "(II)Z"⟩, 87), (⟨"ScrawlHouseModel", "measure", "()V"⟩, 87)]
theorem lw_r7 : ∀ q ∈ lw_privs_7, lw_okq q := List.forall_mem_cons.mpr ⟨lw_p96, List.forall_mem_cons.mpr ⟨lw_p97, List.forall_mem_cons.mpr ⟨lw_p98, List.forall_mem_cons.mpr ⟨lw_p99, fun _ h => absurd h List.not_mem_nil⟩⟩⟩⟩
def lw_privs : List (MethodName × Nat) := lw_privs_1 ++ (lw_privs_2 ++ (lw_privs_3 ++ (lw_privs_4 ++ (lw_privs_5 ++ (lw_privs_6 ++ (lw_privs_7))))))
def lw_tbl : List Cond := k2_sels lw_privs ++ tables_1
theorem lw_privs_ok : ∀ q ∈ lw_privs, lw_okq q := by
  show ∀ q ∈ lw_privs_1 ++ (lw_privs_2 ++ (lw_privs_3 ++ (lw_privs_4 ++ (lw_privs_5 ++ (lw_privs_6 ++ (lw_privs_7)))))), lw_okq q
  exact List.forall_mem_append.mpr ⟨lw_r1, List.forall_mem_append.mpr ⟨lw_r2, List.forall_mem_append.mpr ⟨lw_r3, List.forall_mem_append.mpr ⟨lw_r4, List.forall_mem_append.mpr ⟨lw_r5, List.forall_mem_append.mpr ⟨lw_r6, lw_r7⟩⟩⟩⟩⟩⟩

def vx_L (C n d : String) (A : Nat → Prop) (U : State) (H : Heap) : Prop := ∃ (c : ClassId) (k : Class) (i : Nat) (f : Field) (a : Nat) (cell : Cell), U.vm.findClass C = some c ∧ U.fieldFound? C n d = some (c, k, i, f) ∧ f.isStatic = true ∧ k.statics = some a ∧ H[a]? = some cell ∧ cell.vm.isStatics = true ∧ cell.cls = c ∧ f.slot < cell.slots.size ∧ k.staticTypes[f.slot]? = some f.type ∧ ¬ A a
theorem vx_L.moved {C n d : String} {A : Nat → Prop} {u U : State} {H : Heap} (hvm : u.vm.Alike U.vm) (h : vx_L C n d A u H) : vx_L C n d A U H := by
  obtain ⟨c, k, i, f, a, cell, h1, h2, h3, h4, h5, h6, h7, h8, h9, h10⟩ := h
  obtain ⟨k', hi', he⟩ := State.fieldFound?_setVm hvm h2
  exact ⟨c, k', i, f, a, cell, by rw [hvm.findClass]; exact h1, hi', h3, by rw [he]; exact h4, h5, h6, h7, h8, by rw [he]; exact h9, h10⟩
theorem vx_L.kept {C n d : String} {A : Nat → Prop} {U : State} {H H1 : Heap} (h : vx_L C n d A U H) (hq : ∀ a : Nat, a < H.size → ¬ A a → H1[a]? = H[a]?) : vx_L C n d A U H1 := by
  obtain ⟨c, k, i, f, a, cell, h1, h2, h3, h4, h5, h6, h7, h8, h9, h10⟩ := h
  exact ⟨c, k, i, f, a, cell, h1, h2, h3, h4, by rw [hq a (Array.getElem?_eq_some_iff.mp h5).1 h10]; exact h5, h6, h7, h8, h9, h10⟩
theorem vx_L.narrow {C n d : String} {A B : Nat → Prop} {U : State} {H : Heap} (h : vx_L C n d A U H) (hAB : ∀ q, B q → A q) : vx_L C n d B U H := by
  obtain ⟨c, k, i, f, a, cell, h1, h2, h3, h4, h5, h6, h7, h8, h9, h10⟩ := h
  exact ⟨c, k, i, f, a, cell, h1, h2, h3, h4, h5, h6, h7, h8, h9, fun z => h10 (hAB _ z)⟩
theorem vx_L.word {C n d : String} {A : Nat → Prop} {s : State} {args : Array Value} (h : vx_L C n d A s s.heap) : (Cond.laysStatic C n d).before args s = true := by
  obtain ⟨c, k, i, f, a, cell, h1, h2, h3, h4, h5, h6, h7, h8, h9, -⟩ := h
  show (Cond.laysStatic C n d).holds args s none s [] = true
  exact Cond.laysStatic_of h1 h2 h3 h4 h5 h6 h7 h8 h9
/-- .. and what it holds: null or some reference -/
def vx_Zq (C n d : String) (A : Nat → Prop) (U : State) (H : Heap) : Prop := va_Zq C n d A U H ∧ vx_L C n d A U H
theorem vx_Zq.moved {C n d : String} {A : Nat → Prop} {u U : State} {H : Heap} (hvm : u.vm.Alike U.vm) (h : vx_Zq C n d A u H) : vx_Zq C n d A U H := ⟨va_Zq.moved hvm h.1, vx_L.moved hvm h.2⟩
theorem vx_Zq.kept {C n d : String} {A : Nat → Prop} {U : State} {H H1 : Heap} (h : vx_Zq C n d A U H) (hq : ∀ a : Nat, a < H.size → ¬ A a → H1[a]? = H[a]?) : vx_Zq C n d A U H1 := ⟨va_Zq.kept h.1 hq, vx_L.kept h.2 hq⟩
theorem vx_Zq.narrow {C n d : String} {A B : Nat → Prop} {U : State} {H : Heap} (h : vx_Zq C n d A U H) (hAB : ∀ q, B q → A q) : vx_Zq C n d B U H := ⟨va_Zq.narrow h.1 hAB, vx_L.narrow h.2 hAB⟩
def RX0 : String := "ScrawlHouse$Facts"
def TX0 : u_T := fun k => match k with
  | 0 => ("ScrawlHouse$Facts", "kinds", "[I", true)
  | 1 => ("ScrawlHouse$Facts", "firsts", "[I", true)
  | 2 => ("ScrawlHouse$Facts", "seconds", "[I", true)
  | 3 => ("ScrawlHouse$Facts", "froms", "[I", true)
  | 4 => ("ScrawlHouse$Facts", "tos", "[I", true)
  | 5 => ("ScrawlHouse$Facts", "days", "[I", true)
  | _ => ("ScrawlHouse$Facts", "count", "I", false)
def tyX0 : Nat → FieldType := fun k => match k with
  | 0 => .array .int
  | 1 => .array .int
  | 2 => .array .int
  | 3 => .array .int
  | 4 => .array .int
  | 5 => .array .int
  | _ => .int
theorem nmX0 : ∀ a, a < 7 → ∀ b, b < 7 → a ≠ b → (TX0 a).2.1 ≠ (TX0 b).2.1 := by decide +kernel
theorem tyX0_ok : ∀ k, k < 7 → parseFieldDescriptor (TX0 k).2.2.1 = some (tyX0 k) := by decide +kernel
def RX1 : String := "ScrawlHouse$Finds"
def TX1 : u_T := fun k => match k with
  | 0 => ("ScrawlHouse$Finds", "wallOf", "[I", true)
  | 1 => ("ScrawlHouse$Finds", "layerOf", "[I", true)
  | 2 => ("ScrawlHouse$Finds", "places", "[I", true)
  | 3 => ("ScrawlHouse$Finds", "days", "[I", true)
  | 4 => ("ScrawlHouse$Finds", "photoScrawls", "[I", true)
  | 5 => ("ScrawlHouse$Finds", "photoDays", "[I", true)
  | 6 => ("ScrawlHouse$Finds", "seen", "[I", true)
  | 7 => ("ScrawlHouse$Finds", "gone", "[I", true)
  | 8 => ("ScrawlHouse$Finds", "drawingScrawls", "[I", true)
  | 9 => ("ScrawlHouse$Finds", "drawingDrawers", "[I", true)
  | 10 => ("ScrawlHouse$Finds", "drawingDays", "[I", true)
  | 11 => ("ScrawlHouse$Finds", "drawn", "[I", true)
  | 12 => ("ScrawlHouse$Finds", "scrawls", "I", false)
  | 13 => ("ScrawlHouse$Finds", "photos", "I", false)
  | _ => ("ScrawlHouse$Finds", "drawings", "I", false)
def tyX1 : Nat → FieldType := fun k => match k with
  | 0 => .array .int
  | 1 => .array .int
  | 2 => .array .int
  | 3 => .array .int
  | 4 => .array .int
  | 5 => .array .int
  | 6 => .array .int
  | 7 => .array .int
  | 8 => .array .int
  | 9 => .array .int
  | 10 => .array .int
  | 11 => .array .int
  | 12 => .int
  | 13 => .int
  | _ => .int
theorem nmX1 : ∀ a, a < 15 → ∀ b, b < 15 → a ≠ b → (TX1 a).2.1 ≠ (TX1 b).2.1 := by decide +kernel
theorem tyX1_ok : ∀ k, k < 15 → parseFieldDescriptor (TX1 k).2.2.1 = some (tyX1 k) := by decide +kernel
def RX2 : String := "ScrawlHouse$Folk"
def TX2 : u_T := fun k => match k with
  | 0 => ("ScrawlHouse$Folk", "finds", "LScrawlHouse$Finds;", true)
  | 1 => ("ScrawlHouse$Folk", "readings", "LScrawlHouse$Readings;", true)
  | 2 => ("ScrawlHouse$Folk", "years", "LScrawlHouse$Years;", true)
  | 3 => ("ScrawlHouse$Folk", "handOf", "[I", true)
  | 4 => ("ScrawlHouse$Folk", "hands", "I", false)
  | 5 => ("ScrawlHouse$Folk", "members", "[I", true)
  | 6 => ("ScrawlHouse$Folk", "clashes", "[I", true)
  | 7 => ("ScrawlHouse$Folk", "numbers", "[I", true)
  | 8 => ("ScrawlHouse$Folk", "size", "I", false)
  | _ => ("ScrawlHouse$Folk", "people", "I", false)
def tyX2 : Nat → FieldType := fun k => match k with
  | 0 => .object "ScrawlHouse$Finds"
  | 1 => .object "ScrawlHouse$Readings"
  | 2 => .object "ScrawlHouse$Years"
  | 3 => .array .int
  | 4 => .int
  | 5 => .array .int
  | 6 => .array .int
  | 7 => .array .int
  | 8 => .int
  | _ => .int
theorem nmX2 : ∀ a, a < 10 → ∀ b, b < 10 → a ≠ b → (TX2 a).2.1 ≠ (TX2 b).2.1 := by decide +kernel
theorem tyX2_ok : ∀ k, k < 10 → parseFieldDescriptor (TX2 k).2.2.1 = some (tyX2 k) := by decide +kernel
def RX3 : String := "ScrawlHouse$Lore"
def TX3 : u_T := fun k => match k with
  | 0 => ("ScrawlHouse$Lore", "strokes", "[I", true)
  | 1 => ("ScrawlHouse$Lore", "formCounts", "[I", true)
  | 2 => ("ScrawlHouse$Lore", "letters", "[I", true)
  | 3 => ("ScrawlHouse$Lore", "lengths", "[I", true)
  | 4 => ("ScrawlHouse$Lore", "sorts", "[I", true)
  | 5 => ("ScrawlHouse$Lore", "drawnAs", "[I", true)
  | 6 => ("ScrawlHouse$Lore", "habitCounts", "[I", true)
  | _ => ("ScrawlHouse$Lore", "words", "I", false)
def tyX3 : Nat → FieldType := fun k => match k with
  | 0 => .array .int
  | 1 => .array .int
  | 2 => .array .int
  | 3 => .array .int
  | 4 => .array .int
  | 5 => .array .int
  | 6 => .array .int
  | _ => .int
theorem nmX3 : ∀ a, a < 8 → ∀ b, b < 8 → a ≠ b → (TX3 a).2.1 ≠ (TX3 b).2.1 := by decide +kernel
theorem tyX3_ok : ∀ k, k < 8 → parseFieldDescriptor (TX3 k).2.2.1 = some (tyX3 k) := by decide +kernel
def RX4 : String := "ScrawlHouse$Machine"
def TX4 : u_T := fun k => match k with
  | 0 => ("ScrawlHouse$Machine", "stands", "[J", true)
  | 1 => ("ScrawlHouse$Machine", "steps", "[I", true)
  | 2 => ("ScrawlHouse$Machine", "ends", "[Z", true)
  | 3 => ("ScrawlHouse$Machine", "states", "I", false)
  | _ => ("ScrawlHouse$Machine", "patternCount", "I", false)
def tyX4 : Nat → FieldType := fun k => match k with
  | 0 => .array .long
  | 1 => .array .int
  | 2 => .array .boolean
  | 3 => .int
  | _ => .int
theorem nmX4 : ∀ a, a < 5 → ∀ b, b < 5 → a ≠ b → (TX4 a).2.1 ≠ (TX4 b).2.1 := by decide +kernel
theorem tyX4_ok : ∀ k, k < 5 → parseFieldDescriptor (TX4 k).2.2.1 = some (tyX4 k) := by decide +kernel
def RX5 : String := "ScrawlHouse$PatternText"
def TX5 : u_T := fun k => match k with
  | 0 => ("ScrawlHouse$PatternText", "tape", "LScrawlHouse$Tape;", true)
  | 1 => ("ScrawlHouse$PatternText", "sorts", "[I", true)
  | 2 => ("ScrawlHouse$PatternText", "optional", "[Z", true)
  | 3 => ("ScrawlHouse$PatternText", "sizes", "[I", true)
  | 4 => ("ScrawlHouse$PatternText", "patternCount", "I", false)
  | 5 => ("ScrawlHouse$PatternText", "faultKind", "I", false)
  | 6 => ("ScrawlHouse$PatternText", "faultPlace", "I", false)
  | 7 => ("ScrawlHouse$PatternText", "items", "I", false)
  | _ => ("ScrawlHouse$PatternText", "mayAsk", "Z", false)
def tyX5 : Nat → FieldType := fun k => match k with
  | 0 => .object "ScrawlHouse$Tape"
  | 1 => .array .int
  | 2 => .array .boolean
  | 3 => .array .int
  | 4 => .int
  | 5 => .int
  | 6 => .int
  | 7 => .int
  | _ => .boolean
theorem nmX5 : ∀ a, a < 9 → ∀ b, b < 9 → a ≠ b → (TX5 a).2.1 ≠ (TX5 b).2.1 := by decide +kernel
theorem tyX5_ok : ∀ k, k < 9 → parseFieldDescriptor (TX5 k).2.2.1 = some (tyX5 k) := by decide +kernel
def RX6 : String := "ScrawlHouse$Reader"
def TX6 : u_T := fun k => match k with
  | 0 => ("ScrawlHouse$Reader", "lore", "LScrawlHouse$Lore;", true)
  | 1 => ("ScrawlHouse$Reader", "machine", "LScrawlHouse$Machine;", true)
  | 2 => ("ScrawlHouse$Reader", "finds", "LScrawlHouse$Finds;", true)
  | 3 => ("ScrawlHouse$Reader", "readings", "LScrawlHouse$Readings;", true)
  | 4 => ("ScrawlHouse$Reader", "drawings", "[I", true)
  | 5 => ("ScrawlHouse$Reader", "letterCosts", "[I", true)
  | 6 => ("ScrawlHouse$Reader", "listed", "[Z", true)
  | 7 => ("ScrawlHouse$Reader", "fitCosts", "[I", true)
  | 8 => ("ScrawlHouse$Reader", "fitCounts", "[I", true)
  | 9 => ("ScrawlHouse$Reader", "fitWords", "[I", true)
  | 10 => ("ScrawlHouse$Reader", "formBits", "[I", true)
  | 11 => ("ScrawlHouse$Reader", "best", "[I", false)
  | 12 => ("ScrawlHouse$Reader", "ways", "[I", false)
  | 13 => ("ScrawlHouse$Reader", "picks", "[I", false)
  | 14 => ("ScrawlHouse$Reader", "photo", "I", false)
  | _ => ("ScrawlHouse$Reader", "places", "I", false)
def tyX6 : Nat → FieldType := fun k => match k with
  | 0 => .object "ScrawlHouse$Lore"
  | 1 => .object "ScrawlHouse$Machine"
  | 2 => .object "ScrawlHouse$Finds"
  | 3 => .object "ScrawlHouse$Readings"
  | 4 => .array .int
  | 5 => .array .int
  | 6 => .array .boolean
  | 7 => .array .int
  | 8 => .array .int
  | 9 => .array .int
  | 10 => .array .int
  | 11 => .array .int
  | 12 => .array .int
  | 13 => .array .int
  | 14 => .int
  | _ => .int
theorem nmX6 : ∀ a, a < 16 → ∀ b, b < 16 → a ≠ b → (TX6 a).2.1 ≠ (TX6 b).2.1 := by decide +kernel
theorem tyX6_ok : ∀ k, k < 16 → parseFieldDescriptor (TX6 k).2.2.1 = some (tyX6 k) := by decide +kernel
def RX7 : String := "ScrawlHouse$Readings"
def TX7 : u_T := fun k => match k with
  | 0 => ("ScrawlHouse$Readings", "valid", "[Z", true)
  | 1 => ("ScrawlHouse$Readings", "photos", "[I", true)
  | 2 => ("ScrawlHouse$Readings", "drawings", "[I", true)
  | 3 => ("ScrawlHouse$Readings", "costs", "[I", true)
  | 4 => ("ScrawlHouse$Readings", "rivals", "[I", true)
  | 5 => ("ScrawlHouse$Readings", "sizes", "[I", true)
  | 6 => ("ScrawlHouse$Readings", "words", "[I", true)
  | 7 => ("ScrawlHouse$Readings", "firsts", "[I", true)
  | 8 => ("ScrawlHouse$Readings", "forms", "[I", true)
  | _ => ("ScrawlHouse$Readings", "usedCounts", "[I", true)
def tyX7 : Nat → FieldType := fun k => match k with
  | 0 => .array .boolean
  | 1 => .array .int
  | 2 => .array .int
  | 3 => .array .int
  | 4 => .array .int
  | 5 => .array .int
  | 6 => .array .int
  | 7 => .array .int
  | 8 => .array .int
  | _ => .array .int
theorem nmX7 : ∀ a, a < 10 → ∀ b, b < 10 → a ≠ b → (TX7 a).2.1 ≠ (TX7 b).2.1 := by decide +kernel
theorem tyX7_ok : ∀ k, k < 10 → parseFieldDescriptor (TX7 k).2.2.1 = some (tyX7 k) := by decide +kernel
def RX8 : String := "ScrawlHouse$Tape"
def TX8 : u_T := fun k => match k with
  | 0 => ("ScrawlHouse$Tape", "bytes", "[I", true)
  | _ => ("ScrawlHouse$Tape", "size", "I", false)
def tyX8 : Nat → FieldType := fun k => match k with
  | 0 => .array .int
  | _ => .int
theorem nmX8 : ∀ a, a < 2 → ∀ b, b < 2 → a ≠ b → (TX8 a).2.1 ≠ (TX8 b).2.1 := by decide +kernel
theorem tyX8_ok : ∀ k, k < 2 → parseFieldDescriptor (TX8 k).2.2.1 = some (tyX8 k) := by decide +kernel
def RX9 : String := "ScrawlHouse$Town"
def TX9 : u_T := fun k => match k with
  | 0 => ("ScrawlHouse$Town", "ways", "[I", true)
  | 1 => ("ScrawlHouse$Town", "wallCorners", "[I", true)
  | 2 => ("ScrawlHouse$Town", "wallLayers", "[I", true)
  | 3 => ("ScrawlHouse$Town", "stops", "[I", true)
  | 4 => ("ScrawlHouse$Town", "tours", "[I", true)
  | 5 => ("ScrawlHouse$Town", "stopCount", "I", false)
  | 6 => ("ScrawlHouse$Town", "streets", "I", false)
  | _ => ("ScrawlHouse$Town", "walls", "I", false)
def tyX9 : Nat → FieldType := fun k => match k with
  | 0 => .array .int
  | 1 => .array .int
  | 2 => .array .int
  | 3 => .array .int
  | 4 => .array .int
  | 5 => .int
  | 6 => .int
  | _ => .int
theorem nmX9 : ∀ a, a < 8 → ∀ b, b < 8 → a ≠ b → (TX9 a).2.1 ≠ (TX9 b).2.1 := by decide +kernel
theorem tyX9_ok : ∀ k, k < 8 → parseFieldDescriptor (TX9 k).2.2.1 = some (tyX9 k) := by decide +kernel
def RX10 : String := "ScrawlHouse$Years"
def TX10 : u_T := fun k => match k with
  | 0 => ("ScrawlHouse$Years", "town", "LScrawlHouse$Town;", true)
  | 1 => ("ScrawlHouse$Years", "finds", "LScrawlHouse$Finds;", true)
  | 2 => ("ScrawlHouse$Years", "facts", "LScrawlHouse$Facts;", true)
  | 3 => ("ScrawlHouse$Years", "readings", "LScrawlHouse$Readings;", true)
  | 4 => ("ScrawlHouse$Years", "froms", "[I", true)
  | 5 => ("ScrawlHouse$Years", "tos", "[I", true)
  | 6 => ("ScrawlHouse$Years", "held", "[Z", true)
  | 7 => ("ScrawlHouse$Years", "allowed", "[J", true)
  | 8 => ("ScrawlHouse$Years", "least", "[I", true)
  | 9 => ("ScrawlHouse$Years", "greatest", "[I", true)
  | 10 => ("ScrawlHouse$Years", "scrawls", "I", false)
  | 11 => ("ScrawlHouse$Years", "heard", "I", false)
  | _ => ("ScrawlHouse$Years", "canBe", "Z", false)
def tyX10 : Nat → FieldType := fun k => match k with
  | 0 => .object "ScrawlHouse$Town"
  | 1 => .object "ScrawlHouse$Finds"
  | 2 => .object "ScrawlHouse$Facts"
  | 3 => .object "ScrawlHouse$Readings"
  | 4 => .array .int
  | 5 => .array .int
  | 6 => .array .boolean
  | 7 => .array .long
  | 8 => .array .int
  | 9 => .array .int
  | 10 => .int
  | 11 => .int
  | _ => .boolean
theorem nmX10 : ∀ a, a < 13 → ∀ b, b < 13 → a ≠ b → (TX10 a).2.1 ≠ (TX10 b).2.1 := by decide +kernel
theorem tyX10_ok : ∀ k, k < 13 → parseFieldDescriptor (TX10 k).2.2.1 = some (tyX10 k) := by decide +kernel
def RX11 : String := "ScrawlHouse"
def TX11 : u_T := fun k => match k with
  | 0 => ("ScrawlHouse", "tape", "LScrawlHouse$Tape;", true)
  | 1 => ("ScrawlHouse", "lore", "LScrawlHouse$Lore;", true)
  | 2 => ("ScrawlHouse", "town", "LScrawlHouse$Town;", true)
  | 3 => ("ScrawlHouse", "text", "LScrawlHouse$PatternText;", true)
  | 4 => ("ScrawlHouse", "machine", "LScrawlHouse$Machine;", true)
  | 5 => ("ScrawlHouse", "finds", "LScrawlHouse$Finds;", true)
  | 6 => ("ScrawlHouse", "readings", "LScrawlHouse$Readings;", true)
  | 7 => ("ScrawlHouse", "reader", "LScrawlHouse$Reader;", true)
  | 8 => ("ScrawlHouse", "facts", "LScrawlHouse$Facts;", true)
  | 9 => ("ScrawlHouse", "years", "LScrawlHouse$Years;", true)
  | 10 => ("ScrawlHouse", "folk", "LScrawlHouse$Folk;", true)
  | 11 => ("ScrawlHouse", "out", "[I", true)
  | 12 => ("ScrawlHouse", "outSize", "I", false)
  | _ => ("ScrawlHouse", "today", "I", false)
def tyX11 : Nat → FieldType := fun k => match k with
  | 0 => .object "ScrawlHouse$Tape"
  | 1 => .object "ScrawlHouse$Lore"
  | 2 => .object "ScrawlHouse$Town"
  | 3 => .object "ScrawlHouse$PatternText"
  | 4 => .object "ScrawlHouse$Machine"
  | 5 => .object "ScrawlHouse$Finds"
  | 6 => .object "ScrawlHouse$Readings"
  | 7 => .object "ScrawlHouse$Reader"
  | 8 => .object "ScrawlHouse$Facts"
  | 9 => .object "ScrawlHouse$Years"
  | 10 => .object "ScrawlHouse$Folk"
  | 11 => .array .int
  | 12 => .int
  | _ => .int
theorem nmX11 : ∀ a, a < 14 → ∀ b, b < 14 → a ≠ b → (TX11 a).2.1 ≠ (TX11 b).2.1 := by decide +kernel
theorem tyX11_ok : ∀ k, k < 14 → parseFieldDescriptor (TX11 k).2.2.1 = some (tyX11 k) := by decide +kernel
def RX12 : String := "ScrawlHouseModel"
def TX12 : u_T := fun k => match k with
  | 0 => ("ScrawlHouseModel", "thrown", "I", false)
  | 1 => ("ScrawlHouseModel", "tape", "[I", true)
  | 2 => ("ScrawlHouseModel", "out", "[I", true)
  | 3 => ("ScrawlHouseModel", "taped", "I", false)
  | 4 => ("ScrawlHouseModel", "outs", "I", false)
  | 5 => ("ScrawlHouseModel", "today", "I", false)
  | 6 => ("ScrawlHouseModel", "stamp", "I", false)
  | 7 => ("ScrawlHouseModel", "forms", "[I", true)
  | 8 => ("ScrawlHouseModel", "strokes", "[I", true)
  | 9 => ("ScrawlHouseModel", "wordAt", "[I", true)
  | 10 => ("ScrawlHouseModel", "wordLength", "[I", true)
  | 11 => ("ScrawlHouseModel", "sortOf", "[I", true)
  | 12 => ("ScrawlHouseModel", "streetA", "[I", true)
  | 13 => ("ScrawlHouseModel", "streetB", "[I", true)
  | 14 => ("ScrawlHouseModel", "streetLong", "[I", true)
  | 15 => ("ScrawlHouseModel", "corner", "[I", true)
  | 16 => ("ScrawlHouseModel", "layersOf", "[I", true)
  | 17 => ("ScrawlHouseModel", "habits", "[I", true)
  | 18 => ("ScrawlHouseModel", "habitLetter", "[I", true)
  | 19 => ("ScrawlHouseModel", "habitDrawn", "[I", true)
  | 20 => ("ScrawlHouseModel", "words", "I", false)
  | 21 => ("ScrawlHouseModel", "streets", "I", false)
  | 22 => ("ScrawlHouseModel", "walls", "I", false)
  | 23 => ("ScrawlHouseModel", "size", "I", false)
  | 24 => ("ScrawlHouseModel", "to", "I", false)
  | 25 => ("ScrawlHouseModel", "from", "I", false)
  | 26 => ("ScrawlHouseModel", "kind", "I", false)
  | 27 => ("ScrawlHouseModel", "fault", "I", false)
  | 28 => ("ScrawlHouseModel", "place", "I", false)
  | 29 => ("ScrawlHouseModel", "patterns", "I", false)
  | 30 => ("ScrawlHouseModel", "rows", "I", false)
  | 31 => ("ScrawlHouseModel", "readRows", "I", false)
  | 32 => ("ScrawlHouseModel", "word", "J", false)
  | 33 => ("ScrawlHouseModel", "rowLength", "[I", true)
  | 34 => ("ScrawlHouseModel", "rowSort", "[I", true)
  | 35 => ("ScrawlHouseModel", "item", "[I", true)
  | 36 => ("ScrawlHouseModel", "mayGo", "[Z", true)
  | 37 => ("ScrawlHouseModel", "patternsNow", "I", false)
  | 38 => ("ScrawlHouseModel", "wallOf", "[I", true)
  | 39 => ("ScrawlHouseModel", "layerOf", "[I", true)
  | 40 => ("ScrawlHouseModel", "places", "[I", true)
  | 41 => ("ScrawlHouseModel", "scrawlKnown", "[I", true)
  | 42 => ("ScrawlHouseModel", "photoOf", "[I", true)
  | 43 => ("ScrawlHouseModel", "photoKnown", "[I", true)
  | 44 => ("ScrawlHouseModel", "seen", "[I", true)
  | 45 => ("ScrawlHouseModel", "gone", "[I", true)
  | 46 => ("ScrawlHouseModel", "drawnOf", "[I", true)
  | 47 => ("ScrawlHouseModel", "drawnBy", "[I", true)
  | 48 => ("ScrawlHouseModel", "drawnKnown", "[I", true)
  | 49 => ("ScrawlHouseModel", "drawn", "[I", true)
  | 50 => ("ScrawlHouseModel", "scrawls", "I", false)
  | 51 => ("ScrawlHouseModel", "photos", "I", false)
  | 52 => ("ScrawlHouseModel", "drawings", "I", false)
  | 53 => ("ScrawlHouseModel", "letterCost", "[I", true)
  | 54 => ("ScrawlHouseModel", "wordCost", "[I", true)
  | 55 => ("ScrawlHouseModel", "least", "[I", true)
  | 56 => ("ScrawlHouseModel", "ways", "[I", true)
  | 57 => ("ScrawlHouseModel", "best", "[I", true)
  | 58 => ("ScrawlHouseModel", "bestMany", "[I", true)
  | 59 => ("ScrawlHouseModel", "bestCost", "[I", true)
  | 60 => ("ScrawlHouseModel", "rivals", "[I", true)
  | 61 => ("ScrawlHouseModel", "workedAt", "I", false)
  | 62 => ("ScrawlHouseModel", "workedStamp", "I", false)
  | 63 => ("ScrawlHouseModel", "isLeft", "[Z", true)
  | 64 => ("ScrawlHouseModel", "factKind", "[I", true)
  | 65 => ("ScrawlHouseModel", "factA", "[I", true)
  | 66 => ("ScrawlHouseModel", "factB", "[I", true)
  | 67 => ("ScrawlHouseModel", "factFrom", "[I", true)
  | 68 => ("ScrawlHouseModel", "factTo", "[I", true)
  | 69 => ("ScrawlHouseModel", "factKnown", "[I", true)
  | 70 => ("ScrawlHouseModel", "facts", "I", false)
  | 71 => ("ScrawlHouseModel", "year", "[Z", true)
  | 72 => ("ScrawlHouseModel", "canBe", "Z", false)
  | 73 => ("ScrawlHouseModel", "isLess", "Z", false)
  | 74 => ("ScrawlHouseModel", "some", "[Z", true)
  | 75 => ("ScrawlHouseModel", "handOf", "[I", true)
  | 76 => ("ScrawlHouseModel", "spanLeast", "[I", true)
  | 77 => ("ScrawlHouseModel", "spanMost", "[I", true)
  | 78 => ("ScrawlHouseModel", "named", "[I", true)
  | 79 => ("ScrawlHouseModel", "personOf", "[I", true)
  | 80 => ("ScrawlHouseModel", "trying", "[I", true)
  | 81 => ("ScrawlHouseModel", "highest", "[I", true)
  | 82 => ("ScrawlHouseModel", "namedMany", "I", false)
  | 83 => ("ScrawlHouseModel", "personsMany", "I", false)
  | 84 => ("ScrawlHouseModel", "way", "[I", true)
  | 85 => ("ScrawlHouseModel", "stop", "[I", true)
  | _ => ("ScrawlHouseModel", "walked", "[I", true)
def tyX12 : Nat → FieldType := fun k => match k with
  | 0 => .int
  | 1 => .array .int
  | 2 => .array .int
  | 3 => .int
  | 4 => .int
  | 5 => .int
  | 6 => .int
  | 7 => .array .int
  | 8 => .array .int
  | 9 => .array .int
  | 10 => .array .int
  | 11 => .array .int
  | 12 => .array .int
  | 13 => .array .int
  | 14 => .array .int
  | 15 => .array .int
  | 16 => .array .int
  | 17 => .array .int
  | 18 => .array .int
  | 19 => .array .int
  | 20 => .int
  | 21 => .int
  | 22 => .int
  | 23 => .int
  | 24 => .int
  | 25 => .int
  | 26 => .int
  | 27 => .int
  | 28 => .int
  | 29 => .int
  | 30 => .int
  | 31 => .int
  | 32 => .long
  | 33 => .array .int
  | 34 => .array .int
  | 35 => .array .int
  | 36 => .array .boolean
  | 37 => .int
  | 38 => .array .int
  | 39 => .array .int
  | 40 => .array .int
  | 41 => .array .int
  | 42 => .array .int
  | 43 => .array .int
  | 44 => .array .int
  | 45 => .array .int
  | 46 => .array .int
  | 47 => .array .int
  | 48 => .array .int
  | 49 => .array .int
  | 50 => .int
  | 51 => .int
  | 52 => .int
  | 53 => .array .int
  | 54 => .array .int
  | 55 => .array .int
  | 56 => .array .int
  | 57 => .array .int
  | 58 => .array .int
  | 59 => .array .int
  | 60 => .array .int
  | 61 => .int
  | 62 => .int
  | 63 => .array .boolean
  | 64 => .array .int
  | 65 => .array .int
  | 66 => .array .int
  | 67 => .array .int
  | 68 => .array .int
  | 69 => .array .int
  | 70 => .int
  | 71 => .array .boolean
  | 72 => .boolean
  | 73 => .boolean
  | 74 => .array .boolean
  | 75 => .array .int
  | 76 => .array .int
  | 77 => .array .int
  | 78 => .array .int
  | 79 => .array .int
  | 80 => .array .int
  | 81 => .array .int
  | 82 => .int
  | 83 => .int
  | 84 => .array .int
  | 85 => .array .int
  | _ => .array .int
theorem nmX12 : ∀ a, a < 87 → ∀ b, b < 87 → a ≠ b → (TX12 a).2.1 ≠ (TX12 b).2.1 := by decide +kernel
theorem tyX12_ok : ∀ k, k < 87 → parseFieldDescriptor (TX12 k).2.2.1 = some (tyX12 k) := by decide +kernel
def RL : String := "ScrawlHouseLaw"
abbrev vwCl : List vw_C := [(RX0, TX0, 7), (RX1, TX1, 15), (RX2, TX2, 10), (RX3, TX3, 8), (RX4, TX4, 5), (RX5, TX5, 9), (RX6, TX6, 16), (RX7, TX7, 10), (RX8, TX8, 2), (RX9, TX9, 8), (RX10, TX10, 13), (RX11, TX11, 14), (RX12, TX12, 87)]
