section
-- ===== PART A: goes FIRST, ahead of the names: the tables' words, and 'selects' of the private methods out of them =====
/-- a private method of a class that the tables say can be made, by its rows of tables_1 -/
def lw_okq (q : MethodName × Nat) : Prop := (q.1.cls ≠ "java/lang/invoke/MethodHandle" ∧ q.1.cls ≠ "java/lang/invoke/VarHandle") ∧ Cond.instantiable q.1.cls q.2 ∈ tables_1 ∧ Cond.privateMethod q.1 ∈ tables_1 ∧ Cond.instanceMethod q.1 ∈ tables_1
theorem lw_p0 : lw_okq (⟨"ScrawlHouse$Lore", "isWordText", "(LScrawlHouse$Tape;)Z"⟩, 8) := ⟨⟨by decide +kernel, by decide +kernel⟩, List.mem_of_getElem? (i := 52) (by decide +kernel), List.mem_of_getElem? (i := 573) (by decide +kernel), List.mem_of_getElem? (i := 574) (by decide +kernel)⟩
theorem lw_p1 : lw_okq (⟨"ScrawlHouse$Lore", "hasText", "(ILScrawlHouse$Tape;)Z"⟩, 8) := ⟨⟨by decide +kernel, by decide +kernel⟩, List.mem_of_getElem? (i := 52) (by decide +kernel), List.mem_of_getElem? (i := 584) (by decide +kernel), List.mem_of_getElem? (i := 585) (by decide +kernel)⟩
theorem lw_p2 : lw_okq (⟨"ScrawlHouse$Town", "shorten", "(III)V"⟩, 8) := ⟨⟨by decide +kernel, by decide +kernel⟩, List.mem_of_getElem? (i := 90) (by decide +kernel), List.mem_of_getElem? (i := 599) (by decide +kernel), List.mem_of_getElem? (i := 600) (by decide +kernel)⟩
theorem lw_p3 : lw_okq (⟨"ScrawlHouse$PatternText", "startPattern", "()V"⟩, 9) := ⟨⟨by decide +kernel, by decide +kernel⟩, List.mem_of_getElem? (i := 129) (by decide +kernel), List.mem_of_getElem? (i := 634) (by decide +kernel), List.mem_of_getElem? (i := 635) (by decide +kernel)⟩
theorem lw_p4 : lw_okq (⟨"ScrawlHouse$PatternText", "takeToken", "(I)I"⟩, 9) := ⟨⟨by decide +kernel, by decide +kernel⟩, List.mem_of_getElem? (i := 129) (by decide +kernel), List.mem_of_getElem? (i := 638) (by decide +kernel), List.mem_of_getElem? (i := 639) (by decide +kernel)⟩
theorem lw_p5 : lw_okq (⟨"ScrawlHouse$PatternText", "takeItem", "(I)I"⟩, 9) := ⟨⟨by decide +kernel, by decide +kernel⟩, List.mem_of_getElem? (i := 129) (by decide +kernel), List.mem_of_getElem? (i := 644) (by decide +kernel), List.mem_of_getElem? (i := 645) (by decide +kernel)⟩
theorem lw_p6 : lw_okq (⟨"ScrawlHouse$PatternText", "sortOf", "(II)I"⟩, 9) := ⟨⟨by decide +kernel, by decide +kernel⟩, List.mem_of_getElem? (i := 129) (by decide +kernel), List.mem_of_getElem? (i := 648) (by decide +kernel), List.mem_of_getElem? (i := 649) (by decide +kernel)⟩
theorem lw_p7 : lw_okq (⟨"ScrawlHouse$PatternText", "spells", "(Ljava/lang/String;II)Z"⟩, 9) := ⟨⟨by decide +kernel, by decide +kernel⟩, List.mem_of_getElem? (i := 129) (by decide +kernel), List.mem_of_getElem? (i := 660) (by decide +kernel), List.mem_of_getElem? (i := 661) (by decide +kernel)⟩
theorem lw_p8 : lw_okq (⟨"ScrawlHouse$PatternText", "refuse", "(II)V"⟩, 9) := ⟨⟨by decide +kernel, by decide +kernel⟩, List.mem_of_getElem? (i := 129) (by decide +kernel), List.mem_of_getElem? (i := 712) (by decide +kernel), List.mem_of_getElem? (i := 713) (by decide +kernel)⟩
theorem lw_p9 : lw_okq (⟨"ScrawlHouse$PatternText", "takeAsk", "(I)V"⟩, 9) := ⟨⟨by decide +kernel, by decide +kernel⟩, List.mem_of_getElem? (i := 129) (by decide +kernel), List.mem_of_getElem? (i := 716) (by decide +kernel), List.mem_of_getElem? (i := 717) (by decide +kernel)⟩
theorem lw_p10 : lw_okq (⟨"ScrawlHouse$PatternText", "takeStop", "(I)V"⟩, 9) := ⟨⟨by decide +kernel, by decide +kernel⟩, List.mem_of_getElem? (i := 129) (by decide +kernel), List.mem_of_getElem? (i := 720) (by decide +kernel), List.mem_of_getElem? (i := 721) (by decide +kernel)⟩
theorem lw_p11 : lw_okq (⟨"ScrawlHouse$Machine", "addState", "(LScrawlHouse$PatternText;J)I"⟩, 5) := ⟨⟨by decide +kernel, by decide +kernel⟩, List.mem_of_getElem? (i := 170) (by decide +kernel), List.mem_of_getElem? (i := 734) (by decide +kernel), List.mem_of_getElem? (i := 735) (by decide +kernel)⟩
theorem lw_p12 : lw_okq (⟨"ScrawlHouse$Machine", "moved", "(LScrawlHouse$PatternText;JI)J"⟩, 5) := ⟨⟨by decide +kernel, by decide +kernel⟩, List.mem_of_getElem? (i := 170) (by decide +kernel), List.mem_of_getElem? (i := 738) (by decide +kernel), List.mem_of_getElem? (i := 739) (by decide +kernel)⟩
theorem lw_p13 : lw_okq (⟨"ScrawlHouse$Machine", "stateOf", "(LScrawlHouse$PatternText;JI)I"⟩, 5) := ⟨⟨by decide +kernel, by decide +kernel⟩, List.mem_of_getElem? (i := 170) (by decide +kernel), List.mem_of_getElem? (i := 742) (by decide +kernel), List.mem_of_getElem? (i := 743) (by decide +kernel)⟩
theorem lw_p14 : lw_okq (⟨"ScrawlHouse$Reader", "formCost", "(II)I"⟩, 16) := ⟨⟨by decide +kernel, by decide +kernel⟩, List.mem_of_getElem? (i := 316) (by decide +kernel), List.mem_of_getElem? (i := 811) (by decide +kernel), List.mem_of_getElem? (i := 812) (by decide +kernel)⟩
theorem lw_p15 : lw_okq (⟨"ScrawlHouse$Reader", "mayForm", "(III)Z"⟩, 16) := ⟨⟨by decide +kernel, by decide +kernel⟩, List.mem_of_getElem? (i := 316) (by decide +kernel), List.mem_of_getElem? (i := 815) (by decide +kernel), List.mem_of_getElem? (i := 816) (by decide +kernel)⟩
def lw_privs_1 : List (MethodName × Nat) := [(⟨"ScrawlHouse$Lore", "isWordText", "(LScrawlHouse$Tape;)Z"⟩, 8), (⟨"ScrawlHouse$Lore", "hasText", "(ILScrawlHouse$Tape;)Z"⟩, 8), (⟨"ScrawlHouse$Town", "shorten", "(III)V"⟩, 8), (⟨"ScrawlHouse$PatternText", "startPattern", "()V"⟩, 9), (⟨"ScrawlHouse$PatternText", "takeToken", "(I)I"⟩, 9), (⟨"ScrawlHouse$PatternText", "takeItem", "(I)I"⟩, 9), (⟨"ScrawlHouse$PatternText", "sortOf", "(II)I"⟩, 9), (⟨"ScrawlHouse$PatternText", "spells", "(Ljava/lang/String;II)Z"⟩, 9), (⟨"ScrawlHouse$PatternText", "refuse", "(II)V"⟩, 9), (⟨"ScrawlHouse$PatternText", "takeAsk", "(I)V"⟩, 9), (⟨"ScrawlHouse$PatternText", "takeStop", "(I)V"⟩, 9), (⟨"ScrawlHouse$Machine", "addState", "(LScrawlHouse$PatternText;J)I"⟩, 5), (⟨"ScrawlHouse$Machine", "moved", "(LScrawlHouse$PatternText;JI)J"⟩, 5), (⟨"ScrawlHouse$Machine", "stateOf", "(LScrawlHouse$PatternText;JI)I"⟩, 5), (⟨"ScrawlHouse$Reader", "formCost", "(II)I"⟩, 16), (⟨"ScrawlHouse$Reader", "mayForm", "(III)Z"⟩, 16)]
theorem lw_r1 : ∀ q ∈ lw_privs_1, lw_okq q := List.forall_mem_cons.mpr ⟨lw_p0, List.forall_mem_cons.mpr ⟨lw_p1, List.forall_mem_cons.mpr ⟨lw_p2, List.forall_mem_cons.mpr ⟨lw_p3, List.forall_mem_cons.mpr ⟨lw_p4, List.forall_mem_cons.mpr ⟨lw_p5, List.forall_mem_cons.mpr ⟨lw_p6, List.forall_mem_cons.mpr ⟨lw_p7, List.forall_mem_cons.mpr ⟨lw_p8, List.forall_mem_cons.mpr ⟨lw_p9, List.forall_mem_cons.mpr ⟨lw_p10, List.forall_mem_cons.mpr ⟨lw_p11, List.forall_mem_cons.mpr ⟨lw_p12, List.forall_mem_cons.mpr ⟨lw_p13, List.forall_mem_cons.mpr ⟨lw_p14, List.forall_mem_cons.mpr ⟨lw_p15, fun _ h => absurd h List.not_mem_nil⟩⟩⟩⟩⟩⟩⟩⟩⟩⟩⟩⟩⟩⟩⟩⟩
theorem lw_p16 : lw_okq (⟨"ScrawlHouse$Reader", "isSameEvidence", "(I)Z"⟩, 16) := ⟨⟨by decide +kernel, by decide +kernel⟩, List.mem_of_getElem? (i := 316) (by decide +kernel), List.mem_of_getElem? (i := 836) (by decide +kernel), List.mem_of_getElem? (i := 837) (by decide +kernel)⟩
theorem lw_p17 : lw_okq (⟨"ScrawlHouse$Reader", "keepEvidence", "(I)V"⟩, 16) := ⟨⟨by decide +kernel, by decide +kernel⟩, List.mem_of_getElem? (i := 316) (by decide +kernel), List.mem_of_getElem? (i := 840) (by decide +kernel), List.mem_of_getElem? (i := 841) (by decide +kernel)⟩
theorem lw_p18 : lw_okq (⟨"ScrawlHouse$Reader", "weighLetters", "()V"⟩, 16) := ⟨⟨by decide +kernel, by decide +kernel⟩, List.mem_of_getElem? (i := 316) (by decide +kernel), List.mem_of_getElem? (i := 854) (by decide +kernel), List.mem_of_getElem? (i := 855) (by decide +kernel)⟩
theorem lw_p19 : lw_okq (⟨"ScrawlHouse$Reader", "startSearch", "()V"⟩, 16) := ⟨⟨by decide +kernel, by decide +kernel⟩, List.mem_of_getElem? (i := 316) (by decide +kernel), List.mem_of_getElem? (i := 859) (by decide +kernel), List.mem_of_getElem? (i := 860) (by decide +kernel)⟩
theorem lw_p20 : lw_okq (⟨"ScrawlHouse$Reader", "search", "(III)I"⟩, 16) := ⟨⟨by decide +kernel, by decide +kernel⟩, List.mem_of_getElem? (i := 316) (by decide +kernel), List.mem_of_getElem? (i := 867) (by decide +kernel), List.mem_of_getElem? (i := 868) (by decide +kernel)⟩
theorem lw_p21 : lw_okq (⟨"ScrawlHouse$Reader", "listFits", "(I)V"⟩, 16) := ⟨⟨by decide +kernel, by decide +kernel⟩, List.mem_of_getElem? (i := 316) (by decide +kernel), List.mem_of_getElem? (i := 871) (by decide +kernel), List.mem_of_getElem? (i := 872) (by decide +kernel)⟩
theorem lw_p22 : lw_okq (⟨"ScrawlHouse$Reader", "wordCost", "(II)I"⟩, 16) := ⟨⟨by decide +kernel, by decide +kernel⟩, List.mem_of_getElem? (i := 316) (by decide +kernel), List.mem_of_getElem? (i := 875) (by decide +kernel), List.mem_of_getElem? (i := 876) (by decide +kernel)⟩
theorem lw_p23 : lw_okq (⟨"ScrawlHouse$Reader", "weigh", "(III)V"⟩, 16) := ⟨⟨by decide +kernel, by decide +kernel⟩, List.mem_of_getElem? (i := 316) (by decide +kernel), List.mem_of_getElem? (i := 883) (by decide +kernel), List.mem_of_getElem? (i := 884) (by decide +kernel)⟩
theorem lw_p24 : lw_okq (⟨"ScrawlHouse$Reader", "keepBest", "(I)V"⟩, 16) := ⟨⟨by decide +kernel, by decide +kernel⟩, List.mem_of_getElem? (i := 316) (by decide +kernel), List.mem_of_getElem? (i := 887) (by decide +kernel), List.mem_of_getElem? (i := 888) (by decide +kernel)⟩
theorem lw_p25 : lw_okq (⟨"ScrawlHouse$Reader", "keepFirst", "(II)V"⟩, 16) := ⟨⟨by decide +kernel, by decide +kernel⟩, List.mem_of_getElem? (i := 316) (by decide +kernel), List.mem_of_getElem? (i := 891) (by decide +kernel), List.mem_of_getElem? (i := 892) (by decide +kernel)⟩
theorem lw_p26 : lw_okq (⟨"ScrawlHouse$Reader", "keepForms", "(I)V"⟩, 16) := ⟨⟨by decide +kernel, by decide +kernel⟩, List.mem_of_getElem? (i := 316) (by decide +kernel), List.mem_of_getElem? (i := 899) (by decide +kernel), List.mem_of_getElem? (i := 900) (by decide +kernel)⟩
theorem lw_p27 : lw_okq (⟨"ScrawlHouse$Reader", "formsThatMay", "(II)I"⟩, 16) := ⟨⟨by decide +kernel, by decide +kernel⟩, List.mem_of_getElem? (i := 316) (by decide +kernel), List.mem_of_getElem? (i := 904) (by decide +kernel), List.mem_of_getElem? (i := 905) (by decide +kernel)⟩
theorem lw_p28 : lw_okq (⟨"ScrawlHouse$Years", "begin", "(I)V"⟩, 13) := ⟨⟨by decide +kernel, by decide +kernel⟩, List.mem_of_getElem? (i := 405) (by decide +kernel), List.mem_of_getElem? (i := 945) (by decide +kernel), List.mem_of_getElem? (i := 946) (by decide +kernel)⟩
theorem lw_p29 : lw_okq (⟨"ScrawlHouse$Years", "hear", "(I)V"⟩, 13) := ⟨⟨by decide +kernel, by decide +kernel⟩, List.mem_of_getElem? (i := 405) (by decide +kernel), List.mem_of_getElem? (i := 958) (by decide +kernel), List.mem_of_getElem? (i := 959) (by decide +kernel)⟩
theorem lw_p30 : lw_okq (⟨"ScrawlHouse$Years", "narrow", "(II)V"⟩, 13) := ⟨⟨by decide +kernel, by decide +kernel⟩, List.mem_of_getElem? (i := 405) (by decide +kernel), List.mem_of_getElem? (i := 966) (by decide +kernel), List.mem_of_getElem? (i := 967) (by decide +kernel)⟩
theorem lw_p31 : lw_okq (⟨"ScrawlHouse$Years", "hearStood", "(I)V"⟩, 13) := ⟨⟨by decide +kernel, by decide +kernel⟩, List.mem_of_getElem? (i := 405) (by decide +kernel), List.mem_of_getElem? (i := 972) (by decide +kernel), List.mem_of_getElem? (i := 973) (by decide +kernel)⟩
def lw_privs_2 : List (MethodName × Nat) := [(⟨"ScrawlHouse$Reader", "isSameEvidence", "(I)Z"⟩, 16), (⟨"ScrawlHouse$Reader", "keepEvidence", "(I)V"⟩, 16), (⟨"ScrawlHouse$Reader", "weighLetters", "()V"⟩, 16), (⟨"ScrawlHouse$Reader", "startSearch", "()V"⟩, 16), (⟨"ScrawlHouse$Reader", "search", "(III)I"⟩, 16), (⟨"ScrawlHouse$Reader", "listFits", "(I)V"⟩, 16), (⟨"ScrawlHouse$Reader", "wordCost", "(II)I"⟩, 16), (⟨"ScrawlHouse$Reader", "weigh", "(III)V"⟩, 16), (⟨"ScrawlHouse$Reader", "keepBest", "(I)V"⟩, 16), (⟨"ScrawlHouse$Reader", "keepFirst", "(II)V"⟩, 16), (⟨"ScrawlHouse$Reader", "keepForms", "(I)V"⟩, 16), (⟨"ScrawlHouse$Reader", "formsThatMay", "(II)I"⟩, 16), (⟨"ScrawlHouse$Years", "begin", "(I)V"⟩, 13), (⟨"ScrawlHouse$Years", "hear", "(I)V"⟩, 13), (⟨"ScrawlHouse$Years", "narrow", "(II)V"⟩, 13), (⟨"ScrawlHouse$Years", "hearStood", "(I)V"⟩, 13)]
theorem lw_r2 : ∀ q ∈ lw_privs_2, lw_okq q := List.forall_mem_cons.mpr ⟨lw_p16, List.forall_mem_cons.mpr ⟨lw_p17, List.forall_mem_cons.mpr ⟨lw_p18, List.forall_mem_cons.mpr ⟨lw_p19, List.forall_mem_cons.mpr ⟨lw_p20, List.forall_mem_cons.mpr ⟨lw_p21, List.forall_mem_cons.mpr ⟨lw_p22, List.forall_mem_cons.mpr ⟨lw_p23, List.forall_mem_cons.mpr ⟨lw_p24, List.forall_mem_cons.mpr ⟨lw_p25, List.forall_mem_cons.mpr ⟨lw_p26, List.forall_mem_cons.mpr ⟨lw_p27, List.forall_mem_cons.mpr ⟨lw_p28, List.forall_mem_cons.mpr ⟨lw_p29, List.forall_mem_cons.mpr ⟨lw_p30, List.forall_mem_cons.mpr ⟨lw_p31, fun _ h => absurd h List.not_mem_nil⟩⟩⟩⟩⟩⟩⟩⟩⟩⟩⟩⟩⟩⟩⟩⟩
theorem lw_p32 : lw_okq (⟨"ScrawlHouse$Years", "allow", "(III)V"⟩, 13) := ⟨⟨by decide +kernel, by decide +kernel⟩, List.mem_of_getElem? (i := 405) (by decide +kernel), List.mem_of_getElem? (i := 977) (by decide +kernel), List.mem_of_getElem? (i := 978) (by decide +kernel)⟩
theorem lw_p33 : lw_okq (⟨"ScrawlHouse$Years", "hearThing", "(I)V"⟩, 13) := ⟨⟨by decide +kernel, by decide +kernel⟩, List.mem_of_getElem? (i := 405) (by decide +kernel), List.mem_of_getElem? (i := 981) (by decide +kernel), List.mem_of_getElem? (i := 982) (by decide +kernel)⟩
theorem lw_p34 : lw_okq (⟨"ScrawlHouse$Years", "settleLeast", "()Z"⟩, 13) := ⟨⟨by decide +kernel, by decide +kernel⟩, List.mem_of_getElem? (i := 405) (by decide +kernel), List.mem_of_getElem? (i := 985) (by decide +kernel), List.mem_of_getElem? (i := 986) (by decide +kernel)⟩
theorem lw_p35 : lw_okq (⟨"ScrawlHouse$Years", "firstYear", "(II)I"⟩, 13) := ⟨⟨by decide +kernel, by decide +kernel⟩, List.mem_of_getElem? (i := 405) (by decide +kernel), List.mem_of_getElem? (i := 989) (by decide +kernel), List.mem_of_getElem? (i := 990) (by decide +kernel)⟩
theorem lw_p36 : lw_okq (⟨"ScrawlHouse$Years", "mayBe", "(II)Z"⟩, 13) := ⟨⟨by decide +kernel, by decide +kernel⟩, List.mem_of_getElem? (i := 405) (by decide +kernel), List.mem_of_getElem? (i := 993) (by decide +kernel), List.mem_of_getElem? (i := 994) (by decide +kernel)⟩
theorem lw_p37 : lw_okq (⟨"ScrawlHouse$Years", "allHaveYears", "()Z"⟩, 13) := ⟨⟨by decide +kernel, by decide +kernel⟩, List.mem_of_getElem? (i := 405) (by decide +kernel), List.mem_of_getElem? (i := 997) (by decide +kernel), List.mem_of_getElem? (i := 998) (by decide +kernel)⟩
theorem lw_p38 : lw_okq (⟨"ScrawlHouse$Years", "sweepUp", "()Z"⟩, 13) := ⟨⟨by decide +kernel, by decide +kernel⟩, List.mem_of_getElem? (i := 405) (by decide +kernel), List.mem_of_getElem? (i := 1001) (by decide +kernel), List.mem_of_getElem? (i := 1002) (by decide +kernel)⟩
theorem lw_p39 : lw_okq (⟨"ScrawlHouse$Years", "raise", "(II)Z"⟩, 13) := ⟨⟨by decide +kernel, by decide +kernel⟩, List.mem_of_getElem? (i := 405) (by decide +kernel), List.mem_of_getElem? (i := 1005) (by decide +kernel), List.mem_of_getElem? (i := 1006) (by decide +kernel)⟩
theorem lw_p40 : lw_okq (⟨"ScrawlHouse$Years", "isCovered", "(I)Z"⟩, 13) := ⟨⟨by decide +kernel, by decide +kernel⟩, List.mem_of_getElem? (i := 405) (by decide +kernel), List.mem_of_getElem? (i := 1009) (by decide +kernel), List.mem_of_getElem? (i := 1010) (by decide +kernel)⟩
theorem lw_p41 : lw_okq (⟨"ScrawlHouse$Years", "settleGreatest", "()V"⟩, 13) := ⟨⟨by decide +kernel, by decide +kernel⟩, List.mem_of_getElem? (i := 405) (by decide +kernel), List.mem_of_getElem? (i := 1014) (by decide +kernel), List.mem_of_getElem? (i := 1015) (by decide +kernel)⟩
theorem lw_p42 : lw_okq (⟨"ScrawlHouse$Years", "lastYear", "(II)I"⟩, 13) := ⟨⟨by decide +kernel, by decide +kernel⟩, List.mem_of_getElem? (i := 405) (by decide +kernel), List.mem_of_getElem? (i := 1018) (by decide +kernel), List.mem_of_getElem? (i := 1019) (by decide +kernel)⟩
theorem lw_p43 : lw_okq (⟨"ScrawlHouse$Years", "sweepDown", "()Z"⟩, 13) := ⟨⟨by decide +kernel, by decide +kernel⟩, List.mem_of_getElem? (i := 405) (by decide +kernel), List.mem_of_getElem? (i := 1022) (by decide +kernel), List.mem_of_getElem? (i := 1023) (by decide +kernel)⟩
theorem lw_p44 : lw_okq (⟨"ScrawlHouse$Years", "lower", "(II)Z"⟩, 13) := ⟨⟨by decide +kernel, by decide +kernel⟩, List.mem_of_getElem? (i := 405) (by decide +kernel), List.mem_of_getElem? (i := 1026) (by decide +kernel), List.mem_of_getElem? (i := 1027) (by decide +kernel)⟩
theorem lw_p45 : lw_okq (⟨"ScrawlHouse$Folk", "leastHand", "(I)I"⟩, 10) := ⟨⟨by decide +kernel, by decide +kernel⟩, List.mem_of_getElem? (i := 452) (by decide +kernel), List.mem_of_getElem? (i := 1035) (by decide +kernel), List.mem_of_getElem? (i := 1036) (by decide +kernel)⟩
theorem lw_p46 : lw_okq (⟨"ScrawlHouse$Folk", "isOfHand", "(II)Z"⟩, 10) := ⟨⟨by decide +kernel, by decide +kernel⟩, List.mem_of_getElem? (i := 452) (by decide +kernel), List.mem_of_getElem? (i := 1039) (by decide +kernel), List.mem_of_getElem? (i := 1040) (by decide +kernel)⟩
theorem lw_p47 : lw_okq (⟨"ScrawlHouse", "isAbout", "(III)Z"⟩, 14) := ⟨⟨by decide +kernel, by decide +kernel⟩, List.mem_of_getElem? (i := 26) (by decide +kernel), List.mem_of_getElem? (i := 1053) (by decide +kernel), List.mem_of_getElem? (i := 1054) (by decide +kernel)⟩
def lw_privs_3 : List (MethodName × Nat) := [(⟨"ScrawlHouse$Years", "allow", "(III)V"⟩, 13), (⟨"ScrawlHouse$Years", "hearThing", "(I)V"⟩, 13), (⟨"ScrawlHouse$Years", "settleLeast", "()Z"⟩, 13), (⟨"ScrawlHouse$Years", "firstYear", "(II)I"⟩, 13), (⟨"ScrawlHouse$Years", "mayBe", "(II)Z"⟩, 13), (⟨"ScrawlHouse$Years", "allHaveYears", "()Z"⟩, 13), (⟨"ScrawlHouse$Years", "sweepUp", "()Z"⟩, 13), (⟨"ScrawlHouse$Years", "raise", "(II)Z"⟩, 13), (⟨"ScrawlHouse$Years", "isCovered", "(I)Z"⟩, 13), (⟨"ScrawlHouse$Years", "settleGreatest", "()V"⟩, 13), (⟨"ScrawlHouse$Years", "lastYear", "(II)I"⟩, 13), (⟨"ScrawlHouse$Years", "sweepDown", "()Z"⟩, 13), (⟨"ScrawlHouse$Years", "lower", "(II)Z"⟩, 13), (⟨"ScrawlHouse$Folk", "leastHand", "(I)I"⟩, 10), (⟨"ScrawlHouse$Folk", "isOfHand", "(II)Z"⟩, 10), (⟨"ScrawlHouse", "isAbout", "(III)Z"⟩, 14)]
theorem lw_r3 : ∀ q ∈ lw_privs_3, lw_okq q := List.forall_mem_cons.mpr ⟨lw_p32, List.forall_mem_cons.mpr ⟨lw_p33, List.forall_mem_cons.mpr ⟨lw_p34, List.forall_mem_cons.mpr ⟨lw_p35, List.forall_mem_cons.mpr ⟨lw_p36, List.forall_mem_cons.mpr ⟨lw_p37, List.forall_mem_cons.mpr ⟨lw_p38, List.forall_mem_cons.mpr ⟨lw_p39, List.forall_mem_cons.mpr ⟨lw_p40, List.forall_mem_cons.mpr ⟨lw_p41, List.forall_mem_cons.mpr ⟨lw_p42, List.forall_mem_cons.mpr ⟨lw_p43, List.forall_mem_cons.mpr ⟨lw_p44, List.forall_mem_cons.mpr ⟨lw_p45, List.forall_mem_cons.mpr ⟨lw_p46, List.forall_mem_cons.mpr ⟨lw_p47, fun _ h => absurd h List.not_mem_nil⟩⟩⟩⟩⟩⟩⟩⟩⟩⟩⟩⟩⟩⟩⟩⟩
theorem lw_p48 : lw_okq (⟨"ScrawlHouse$Folk", "gatherMembers", "(II)V"⟩, 10) := ⟨⟨by decide +kernel, by decide +kernel⟩, List.mem_of_getElem? (i := 452) (by decide +kernel), List.mem_of_getElem? (i := 1098) (by decide +kernel), List.mem_of_getElem? (i := 1099) (by decide +kernel)⟩
theorem lw_p49 : lw_okq (⟨"ScrawlHouse$Folk", "clashesOf", "(I)I"⟩, 10) := ⟨⟨by decide +kernel, by decide +kernel⟩, List.mem_of_getElem? (i := 452) (by decide +kernel), List.mem_of_getElem? (i := 1103) (by decide +kernel), List.mem_of_getElem? (i := 1104) (by decide +kernel)⟩
theorem lw_p50 : lw_okq (⟨"ScrawlHouse$Folk", "cantBeOne", "(II)Z"⟩, 10) := ⟨⟨by decide +kernel, by decide +kernel⟩, List.mem_of_getElem? (i := 452) (by decide +kernel), List.mem_of_getElem? (i := 1107) (by decide +kernel), List.mem_of_getElem? (i := 1108) (by decide +kernel)⟩
theorem lw_p51 : lw_okq (⟨"ScrawlHouse$Folk", "canNumber", "(III)Z"⟩, 10) := ⟨⟨by decide +kernel, by decide +kernel⟩, List.mem_of_getElem? (i := 452) (by decide +kernel), List.mem_of_getElem? (i := 1111) (by decide +kernel), List.mem_of_getElem? (i := 1112) (by decide +kernel)⟩
theorem lw_p52 : lw_okq (⟨"ScrawlHouse$Folk", "mayJoin", "(II)Z"⟩, 10) := ⟨⟨by decide +kernel, by decide +kernel⟩, List.mem_of_getElem? (i := 452) (by decide +kernel), List.mem_of_getElem? (i := 1115) (by decide +kernel), List.mem_of_getElem? (i := 1116) (by decide +kernel)⟩
theorem lw_p53 : lw_okq (⟨"ScrawlHouse$Town", "gatherStops", "(I)V"⟩, 8) := ⟨⟨by decide +kernel, by decide +kernel⟩, List.mem_of_getElem? (i := 90) (by decide +kernel), List.mem_of_getElem? (i := 1139) (by decide +kernel), List.mem_of_getElem? (i := 1140) (by decide +kernel)⟩
theorem lw_p54 : lw_okq (⟨"ScrawlHouse$Town", "way", "(II)I"⟩, 8) := ⟨⟨by decide +kernel, by decide +kernel⟩, List.mem_of_getElem? (i := 90) (by decide +kernel), List.mem_of_getElem? (i := 1143) (by decide +kernel), List.mem_of_getElem? (i := 1144) (by decide +kernel)⟩
theorem lw_p55 : lw_okq (⟨"ScrawlHouse$Town", "shortestTour", "(II)I"⟩, 8) := ⟨⟨by decide +kernel, by decide +kernel⟩, List.mem_of_getElem? (i := 90) (by decide +kernel), List.mem_of_getElem? (i := 1147) (by decide +kernel), List.mem_of_getElem? (i := 1148) (by decide +kernel)⟩
theorem lw_p56 : lw_okq (⟨"java/lang/Throwable", "fillInStackTrace", "(I)Ljava/lang/Throwable;"⟩, 6) := ⟨⟨by decide +kernel, by decide +kernel⟩, List.mem_of_getElem? (i := 1199) (by decide +kernel), List.mem_of_getElem? (i := 1197) (by decide +kernel), List.mem_of_getElem? (i := 1198) (by decide +kernel)⟩
theorem lw_p57 : lw_okq (⟨"ScrawlHouseModel", "come", "(I)V"⟩, 87) := ⟨⟨by decide +kernel, by decide +kernel⟩, List.mem_of_getElem? (i := 1228) (by decide +kernel), List.mem_of_getElem? (i := 1505) (by decide +kernel), List.mem_of_getElem? (i := 1506) (by decide +kernel)⟩
theorem lw_p58 : lw_okq (⟨"ScrawlHouseModel", "take", "()I"⟩, 87) := ⟨⟨by decide +kernel, by decide +kernel⟩, List.mem_of_getElem? (i := 1228) (by decide +kernel), List.mem_of_getElem? (i := 1528) (by decide +kernel), List.mem_of_getElem? (i := 1529) (by decide +kernel)⟩
theorem lw_p59 : lw_okq (⟨"ScrawlHouseModel", "isThere", "(II)Z"⟩, 87) := ⟨⟨by decide +kernel, by decide +kernel⟩, List.mem_of_getElem? (i := 1228) (by decide +kernel), List.mem_of_getElem? (i := 1535) (by decide +kernel), List.mem_of_getElem? (i := 1536) (by decide +kernel)⟩
theorem lw_p60 : lw_okq (⟨"ScrawlHouseModel", "isHabit", "(III)Z"⟩, 87) := ⟨⟨by decide +kernel, by decide +kernel⟩, List.mem_of_getElem? (i := 1228) (by decide +kernel), List.mem_of_getElem? (i := 1554) (by decide +kernel), List.mem_of_getElem? (i := 1555) (by decide +kernel)⟩
theorem lw_p61 : lw_okq (⟨"ScrawlHouseModel", "go", "()V"⟩, 87) := ⟨⟨by decide +kernel, by decide +kernel⟩, List.mem_of_getElem? (i := 1228) (by decide +kernel), List.mem_of_getElem? (i := 1562) (by decide +kernel), List.mem_of_getElem? (i := 1563) (by decide +kernel)⟩
theorem lw_p62 : lw_okq (⟨"ScrawlHouseModel", "readPattern", "()Z"⟩, 87) := ⟨⟨by decide +kernel, by decide +kernel⟩, List.mem_of_getElem? (i := 1228) (by decide +kernel), List.mem_of_getElem? (i := 1569) (by decide +kernel), List.mem_of_getElem? (i := 1570) (by decide +kernel)⟩
theorem lw_p63 : lw_okq (⟨"ScrawlHouseModel", "sortAtHand", "()I"⟩, 87) := ⟨⟨by decide +kernel, by decide +kernel⟩, List.mem_of_getElem? (i := 1228) (by decide +kernel), List.mem_of_getElem? (i := 1573) (by decide +kernel), List.mem_of_getElem? (i := 1574) (by decide +kernel)⟩
def lw_privs_4 : List (MethodName × Nat) := [(⟨"ScrawlHouse$Folk", "gatherMembers", "(II)V"⟩, 10), (⟨"ScrawlHouse$Folk", "clashesOf", "(I)I"⟩, 10), (⟨"ScrawlHouse$Folk", "cantBeOne", "(II)Z"⟩, 10), (⟨"ScrawlHouse$Folk", "canNumber", "(III)Z"⟩, 10), (⟨"ScrawlHouse$Folk", "mayJoin", "(II)Z"⟩, 10), (⟨"ScrawlHouse$Town", "gatherStops", "(I)V"⟩, 8), (⟨"ScrawlHouse$Town", "way", "(II)I"⟩, 8), (⟨"ScrawlHouse$Town", "shortestTour", "(II)I"⟩, 8), (⟨"java/lang/Throwable", "fillInStackTrace", "(I)Ljava/lang/Throwable;"⟩, 6), (⟨"ScrawlHouseModel", "come", "(I)V"⟩, 87), (⟨"ScrawlHouseModel", "take", "()I"⟩, 87), (⟨"ScrawlHouseModel", "isThere", "(II)Z"⟩, 87), (⟨"ScrawlHouseModel", "isHabit", "(III)Z"⟩, 87), (⟨"ScrawlHouseModel", "go", "()V"⟩, 87), (⟨"ScrawlHouseModel", "readPattern", "()Z"⟩, 87), (⟨"ScrawlHouseModel", "sortAtHand", "()I"⟩, 87)]
theorem lw_r4 : ∀ q ∈ lw_privs_4, lw_okq q := List.forall_mem_cons.mpr ⟨lw_p48, List.forall_mem_cons.mpr ⟨lw_p49, List.forall_mem_cons.mpr ⟨lw_p50, List.forall_mem_cons.mpr ⟨lw_p51, List.forall_mem_cons.mpr ⟨lw_p52, List.forall_mem_cons.mpr ⟨lw_p53, List.forall_mem_cons.mpr ⟨lw_p54, List.forall_mem_cons.mpr ⟨lw_p55, List.forall_mem_cons.mpr ⟨lw_p56, List.forall_mem_cons.mpr ⟨lw_p57, List.forall_mem_cons.mpr ⟨lw_p58, List.forall_mem_cons.mpr ⟨lw_p59, List.forall_mem_cons.mpr ⟨lw_p60, List.forall_mem_cons.mpr ⟨lw_p61, List.forall_mem_cons.mpr ⟨lw_p62, List.forall_mem_cons.mpr ⟨lw_p63, fun _ h => absurd h List.not_mem_nil⟩⟩⟩⟩⟩⟩⟩⟩⟩⟩⟩⟩⟩⟩⟩⟩
theorem lw_p64 : lw_okq (⟨"ScrawlHouseModel", "bad", "(I)Z"⟩, 87) := ⟨⟨by decide +kernel, by decide +kernel⟩, List.mem_of_getElem? (i := 1228) (by decide +kernel), List.mem_of_getElem? (i := 1581) (by decide +kernel), List.mem_of_getElem? (i := 1582) (by decide +kernel)⟩
theorem lw_p65 : lw_okq (⟨"ScrawlHouseModel", "addRow", "(II)V"⟩, 87) := ⟨⟨by decide +kernel, by decide +kernel⟩, List.mem_of_getElem? (i := 1228) (by decide +kernel), List.mem_of_getElem? (i := 1585) (by decide +kernel), List.mem_of_getElem? (i := 1586) (by decide +kernel)⟩
theorem lw_p66 : lw_okq (⟨"ScrawlHouseModel", "isScrawl", "(I)Z"⟩, 87) := ⟨⟨by decide +kernel, by decide +kernel⟩, List.mem_of_getElem? (i := 1228) (by decide +kernel), List.mem_of_getElem? (i := 1601) (by decide +kernel), List.mem_of_getElem? (i := 1602) (by decide +kernel)⟩
theorem lw_p67 : lw_okq (⟨"ScrawlHouseModel", "isKnown", "(II)Z"⟩, 87) := ⟨⟨by decide +kernel, by decide +kernel⟩, List.mem_of_getElem? (i := 1228) (by decide +kernel), List.mem_of_getElem? (i := 1613) (by decide +kernel), List.mem_of_getElem? (i := 1614) (by decide +kernel)⟩
theorem lw_p68 : lw_okq (⟨"ScrawlHouseModel", "costOf", "(IIII)I"⟩, 87) := ⟨⟨by decide +kernel, by decide +kernel⟩, List.mem_of_getElem? (i := 1228) (by decide +kernel), List.mem_of_getElem? (i := 1617) (by decide +kernel), List.mem_of_getElem? (i := 1618) (by decide +kernel)⟩
theorem lw_p69 : lw_okq (⟨"ScrawlHouseModel", "photoAt", "(II)I"⟩, 87) := ⟨⟨by decide +kernel, by decide +kernel⟩, List.mem_of_getElem? (i := 1228) (by decide +kernel), List.mem_of_getElem? (i := 1621) (by decide +kernel), List.mem_of_getElem? (i := 1622) (by decide +kernel)⟩
theorem lw_p70 : lw_okq (⟨"ScrawlHouseModel", "mayForm", "(III)Z"⟩, 87) := ⟨⟨by decide +kernel, by decide +kernel⟩, List.mem_of_getElem? (i := 1228) (by decide +kernel), List.mem_of_getElem? (i := 1626) (by decide +kernel), List.mem_of_getElem? (i := 1627) (by decide +kernel)⟩
theorem lw_p71 : lw_okq (⟨"ScrawlHouseModel", "workAll", "(I)V"⟩, 87) := ⟨⟨by decide +kernel, by decide +kernel⟩, List.mem_of_getElem? (i := 1228) (by decide +kernel), List.mem_of_getElem? (i := 1637) (by decide +kernel), List.mem_of_getElem? (i := 1638) (by decide +kernel)⟩
theorem lw_p72 : lw_okq (⟨"ScrawlHouseModel", "workOut", "(II)V"⟩, 87) := ⟨⟨by decide +kernel, by decide +kernel⟩, List.mem_of_getElem? (i := 1228) (by decide +kernel), List.mem_of_getElem? (i := 1641) (by decide +kernel), List.mem_of_getElem? (i := 1642) (by decide +kernel)⟩
theorem lw_p73 : lw_okq (⟨"ScrawlHouseModel", "fillRow", "(II)V"⟩, 87) := ⟨⟨by decide +kernel, by decide +kernel⟩, List.mem_of_getElem? (i := 1228) (by decide +kernel), List.mem_of_getElem? (i := 1645) (by decide +kernel), List.mem_of_getElem? (i := 1646) (by decide +kernel)⟩
theorem lw_p74 : lw_okq (⟨"ScrawlHouseModel", "walkBest", "(III)V"⟩, 87) := ⟨⟨by decide +kernel, by decide +kernel⟩, List.mem_of_getElem? (i := 1228) (by decide +kernel), List.mem_of_getElem? (i := 1652) (by decide +kernel), List.mem_of_getElem? (i := 1653) (by decide +kernel)⟩
theorem lw_p75 : lw_okq (⟨"ScrawlHouseModel", "goesOn", "(IIII)Z"⟩, 87) := ⟨⟨by decide +kernel, by decide +kernel⟩, List.mem_of_getElem? (i := 1228) (by decide +kernel), List.mem_of_getElem? (i := 1656) (by decide +kernel), List.mem_of_getElem? (i := 1657) (by decide +kernel)⟩
theorem lw_p76 : lw_okq (⟨"ScrawlHouseModel", "isBy", "(IIIII)Z"⟩, 87) := ⟨⟨by decide +kernel, by decide +kernel⟩, List.mem_of_getElem? (i := 1228) (by decide +kernel), List.mem_of_getElem? (i := 1660) (by decide +kernel), List.mem_of_getElem? (i := 1661) (by decide +kernel)⟩
theorem lw_p77 : lw_okq (⟨"ScrawlHouseModel", "refuse", "()I"⟩, 87) := ⟨⟨by decide +kernel, by decide +kernel⟩, List.mem_of_getElem? (i := 1228) (by decide +kernel), List.mem_of_getElem? (i := 1668) (by decide +kernel), List.mem_of_getElem? (i := 1669) (by decide +kernel)⟩
theorem lw_p78 : lw_okq (⟨"ScrawlHouseModel", "usedForm", "(III)I"⟩, 87) := ⟨⟨by decide +kernel, by decide +kernel⟩, List.mem_of_getElem? (i := 1228) (by decide +kernel), List.mem_of_getElem? (i := 1676) (by decide +kernel), List.mem_of_getElem? (i := 1677) (by decide +kernel)⟩
theorem lw_p79 : lw_okq (⟨"ScrawlHouseModel", "firstOf", "(II)I"⟩, 87) := ⟨⟨by decide +kernel, by decide +kernel⟩, List.mem_of_getElem? (i := 1228) (by decide +kernel), List.mem_of_getElem? (i := 1680) (by decide +kernel), List.mem_of_getElem? (i := 1681) (by decide +kernel)⟩
def lw_privs_5 : List (MethodName × Nat) := [(⟨"ScrawlHouseModel", "bad", "(I)Z"⟩, 87), (⟨"ScrawlHouseModel", "addRow", "(II)V"⟩, 87), (⟨"ScrawlHouseModel", "isScrawl", "(I)Z"⟩, 87), (⟨"ScrawlHouseModel", "isKnown", "(II)Z"⟩, 87), (⟨"ScrawlHouseModel", "costOf", "(IIII)I"⟩, 87), (⟨"ScrawlHouseModel", "photoAt", "(II)I"⟩, 87), (⟨"ScrawlHouseModel", "mayForm", "(III)Z"⟩, 87), (⟨"ScrawlHouseModel", "workAll", "(I)V"⟩, 87), (⟨"ScrawlHouseModel", "workOut", "(II)V"⟩, 87), (⟨"ScrawlHouseModel", "fillRow", "(II)V"⟩, 87), (⟨"ScrawlHouseModel", "walkBest", "(III)V"⟩, 87), (⟨"ScrawlHouseModel", "goesOn", "(IIII)Z"⟩, 87), (⟨"ScrawlHouseModel", "isBy", "(IIIII)Z"⟩, 87), (⟨"ScrawlHouseModel", "refuse", "()I"⟩, 87), (⟨"ScrawlHouseModel", "usedForm", "(III)I"⟩, 87), (⟨"ScrawlHouseModel", "firstOf", "(II)I"⟩, 87)]
theorem lw_r5 : ∀ q ∈ lw_privs_5, lw_okq q := List.forall_mem_cons.mpr ⟨lw_p64, List.forall_mem_cons.mpr ⟨lw_p65, List.forall_mem_cons.mpr ⟨lw_p66, List.forall_mem_cons.mpr ⟨lw_p67, List.forall_mem_cons.mpr ⟨lw_p68, List.forall_mem_cons.mpr ⟨lw_p69, List.forall_mem_cons.mpr ⟨lw_p70, List.forall_mem_cons.mpr ⟨lw_p71, List.forall_mem_cons.mpr ⟨lw_p72, List.forall_mem_cons.mpr ⟨lw_p73, List.forall_mem_cons.mpr ⟨lw_p74, List.forall_mem_cons.mpr ⟨lw_p75, List.forall_mem_cons.mpr ⟨lw_p76, List.forall_mem_cons.mpr ⟨lw_p77, List.forall_mem_cons.mpr ⟨lw_p78, List.forall_mem_cons.mpr ⟨lw_p79, fun _ h => absurd h List.not_mem_nil⟩⟩⟩⟩⟩⟩⟩⟩⟩⟩⟩⟩⟩⟩⟩⟩
theorem lw_p80 : lw_okq (⟨"ScrawlHouseModel", "agreement", "(III)I"⟩, 87) := ⟨⟨by decide +kernel, by decide +kernel⟩, List.mem_of_getElem? (i := 1228) (by decide +kernel), List.mem_of_getElem? (i := 1692) (by decide +kernel), List.mem_of_getElem? (i := 1693) (by decide +kernel)⟩
theorem lw_p81 : lw_okq (⟨"ScrawlHouseModel", "isWordOf", "(II)Z"⟩, 87) := ⟨⟨by decide +kernel, by decide +kernel⟩, List.mem_of_getElem? (i := 1228) (by decide +kernel), List.mem_of_getElem? (i := 1700) (by decide +kernel), List.mem_of_getElem? (i := 1701) (by decide +kernel)⟩
theorem lw_p82 : lw_okq (⟨"ScrawlHouseModel", "settle", "(II)V"⟩, 87) := ⟨⟨by decide +kernel, by decide +kernel⟩, List.mem_of_getElem? (i := 1228) (by decide +kernel), List.mem_of_getElem? (i := 1708) (by decide +kernel), List.mem_of_getElem? (i := 1709) (by decide +kernel)⟩
theorem lw_p83 : lw_okq (⟨"ScrawlHouseModel", "counts", "(IIII)Z"⟩, 87) := ⟨⟨by decide +kernel, by decide +kernel⟩, List.mem_of_getElem? (i := 1228) (by decide +kernel), List.mem_of_getElem? (i := 1712) (by decide +kernel), List.mem_of_getElem? (i := 1713) (by decide +kernel)⟩
theorem lw_p84 : lw_okq (⟨"ScrawlHouseModel", "keepYears", "(III)V"⟩, 87) := ⟨⟨by decide +kernel, by decide +kernel⟩, List.mem_of_getElem? (i := 1228) (by decide +kernel), List.mem_of_getElem? (i := 1719) (by decide +kernel), List.mem_of_getElem? (i := 1720) (by decide +kernel)⟩
theorem lw_p85 : lw_okq (⟨"ScrawlHouseModel", "keepByReading", "(III)V"⟩, 87) := ⟨⟨by decide +kernel, by decide +kernel⟩, List.mem_of_getElem? (i := 1228) (by decide +kernel), List.mem_of_getElem? (i := 1723) (by decide +kernel), List.mem_of_getElem? (i := 1724) (by decide +kernel)⟩
theorem lw_p86 : lw_okq (⟨"ScrawlHouseModel", "keepSome", "(I)V"⟩, 87) := ⟨⟨by decide +kernel, by decide +kernel⟩, List.mem_of_getElem? (i := 1228) (by decide +kernel), List.mem_of_getElem? (i := 1727) (by decide +kernel), List.mem_of_getElem? (i := 1728) (by decide +kernel)⟩
theorem lw_p87 : lw_okq (⟨"ScrawlHouseModel", "follows", "(II)V"⟩, 87) := ⟨⟨by decide +kernel, by decide +kernel⟩, List.mem_of_getElem? (i := 1228) (by decide +kernel), List.mem_of_getElem? (i := 1731) (by decide +kernel), List.mem_of_getElem? (i := 1732) (by decide +kernel)⟩
theorem lw_p88 : lw_okq (⟨"ScrawlHouseModel", "leastYear", "(I)I"⟩, 87) := ⟨⟨by decide +kernel, by decide +kernel⟩, List.mem_of_getElem? (i := 1228) (by decide +kernel), List.mem_of_getElem? (i := 1735) (by decide +kernel), List.mem_of_getElem? (i := 1736) (by decide +kernel)⟩
theorem lw_p89 : lw_okq (⟨"ScrawlHouseModel", "greatestYear", "(I)I"⟩, 87) := ⟨⟨by decide +kernel, by decide +kernel⟩, List.mem_of_getElem? (i := 1228) (by decide +kernel), List.mem_of_getElem? (i := 1739) (by decide +kernel), List.mem_of_getElem? (i := 1740) (by decide +kernel)⟩
theorem lw_p90 : lw_okq (⟨"ScrawlHouseModel", "isEmpty", "(I)Z"⟩, 87) := ⟨⟨by decide +kernel, by decide +kernel⟩, List.mem_of_getElem? (i := 1228) (by decide +kernel), List.mem_of_getElem? (i := 1743) (by decide +kernel), List.mem_of_getElem? (i := 1744) (by decide +kernel)⟩
theorem lw_p91 : lw_okq (⟨"ScrawlHouseModel", "takeSpans", "(I)V"⟩, 87) := ⟨⟨by decide +kernel, by decide +kernel⟩, List.mem_of_getElem? (i := 1228) (by decide +kernel), List.mem_of_getElem? (i := 1759) (by decide +kernel), List.mem_of_getElem? (i := 1760) (by decide +kernel)⟩
theorem lw_p92 : lw_okq (⟨"ScrawlHouseModel", "hasUsed", "(II)Z"⟩, 87) := ⟨⟨by decide +kernel, by decide +kernel⟩, List.mem_of_getElem? (i := 1228) (by decide +kernel), List.mem_of_getElem? (i := 1763) (by decide +kernel), List.mem_of_getElem? (i := 1764) (by decide +kernel)⟩
theorem lw_p93 : lw_okq (⟨"ScrawlHouseModel", "mayBeOf", "(III)Z"⟩, 87) := ⟨⟨by decide +kernel, by decide +kernel⟩, List.mem_of_getElem? (i := 1228) (by decide +kernel), List.mem_of_getElem? (i := 1767) (by decide +kernel), List.mem_of_getElem? (i := 1768) (by decide +kernel)⟩
theorem lw_p94 : lw_okq (⟨"ScrawlHouseModel", "areApart", "(II)Z"⟩, 87) := ⟨⟨by decide +kernel, by decide +kernel⟩, List.mem_of_getElem? (i := 1228) (by decide +kernel), List.mem_of_getElem? (i := 1771) (by decide +kernel), List.mem_of_getElem? (i := 1772) (by decide +kernel)⟩
theorem lw_p95 : lw_okq (⟨"ScrawlHouseModel", "partAll", "(II)V"⟩, 87) := ⟨⟨by decide +kernel, by decide +kernel⟩, List.mem_of_getElem? (i := 1228) (by decide +kernel), List.mem_of_getElem? (i := 1779) (by decide +kernel), List.mem_of_getElem? (i := 1780) (by decide +kernel)⟩
def lw_privs_6 : List (MethodName × Nat) := [(⟨"ScrawlHouseModel", "agreement", "(III)I"⟩, 87), (⟨"ScrawlHouseModel", "isWordOf", "(II)Z"⟩, 87), (⟨"ScrawlHouseModel", "settle", "(II)V"⟩, 87), (⟨"ScrawlHouseModel", "counts", "(IIII)Z"⟩, 87), (⟨"ScrawlHouseModel", "keepYears", "(III)V"⟩, 87), (⟨"ScrawlHouseModel", "keepByReading", "(III)V"⟩, 87), (⟨"ScrawlHouseModel", "keepSome", "(I)V"⟩, 87), (⟨"ScrawlHouseModel", "follows", "(II)V"⟩, 87), (⟨"ScrawlHouseModel", "leastYear", "(I)I"⟩, 87), (⟨"ScrawlHouseModel", "greatestYear", "(I)I"⟩, 87), (⟨"ScrawlHouseModel", "isEmpty", "(I)Z"⟩, 87), (⟨"ScrawlHouseModel", "takeSpans", "(I)V"⟩, 87), (⟨"ScrawlHouseModel", "hasUsed", "(II)Z"⟩, 87), (⟨"ScrawlHouseModel", "mayBeOf", "(III)Z"⟩, 87), (⟨"ScrawlHouseModel", "areApart", "(II)Z"⟩, 87), (⟨"ScrawlHouseModel", "partAll", "(II)V"⟩, 87)]
theorem lw_r6 : ∀ q ∈ lw_privs_6, lw_okq q := List.forall_mem_cons.mpr ⟨lw_p80, List.forall_mem_cons.mpr ⟨lw_p81, List.forall_mem_cons.mpr ⟨lw_p82, List.forall_mem_cons.mpr ⟨lw_p83, List.forall_mem_cons.mpr ⟨lw_p84, List.forall_mem_cons.mpr ⟨lw_p85, List.forall_mem_cons.mpr ⟨lw_p86, List.forall_mem_cons.mpr ⟨lw_p87, List.forall_mem_cons.mpr ⟨lw_p88, List.forall_mem_cons.mpr ⟨lw_p89, List.forall_mem_cons.mpr ⟨lw_p90, List.forall_mem_cons.mpr ⟨lw_p91, List.forall_mem_cons.mpr ⟨lw_p92, List.forall_mem_cons.mpr ⟨lw_p93, List.forall_mem_cons.mpr ⟨lw_p94, List.forall_mem_cons.mpr ⟨lw_p95, fun _ h => absurd h List.not_mem_nil⟩⟩⟩⟩⟩⟩⟩⟩⟩⟩⟩⟩⟩⟩⟩⟩
theorem lw_p96 : lw_okq (⟨"ScrawlHouseModel", "partInto", "(I)Z"⟩, 87) := ⟨⟨by decide +kernel, by decide +kernel⟩, List.mem_of_getElem? (i := 1228) (by decide +kernel), List.mem_of_getElem? (i := 1783) (by decide +kernel), List.mem_of_getElem? (i := 1784) (by decide +kernel)⟩
theorem lw_p97 : lw_okq (⟨"ScrawlHouseModel", "mayJoin", "(II)Z"⟩, 87) := ⟨⟨by decide +kernel, by decide +kernel⟩, List.mem_of_getElem? (i := 1228) (by decide +kernel), List.mem_of_getElem? (i := 1787) (by decide +kernel), List.mem_of_getElem? (i := 1788) (by decide +kernel)⟩
theorem lw_p98 : lw_okq (⟨"ScrawlHouseModel", "areTwo", "(II)Z"⟩, 87) := ⟨⟨by decide +kernel, by decide +kernel⟩, List.mem_of_getElem? (i := 1228) (by decide +kernel), List.mem_of_getElem? (i := 1791) (by decide +kernel), List.mem_of_getElem? (i := 1792) (by decide +kernel)⟩
theorem lw_p99 : lw_okq (⟨"ScrawlHouseModel", "measure", "()V"⟩, 87) := ⟨⟨by decide +kernel, by decide +kernel⟩, List.mem_of_getElem? (i := 1228) (by decide +kernel), List.mem_of_getElem? (i := 1803) (by decide +kernel), List.mem_of_getElem? (i := 1804) (by decide +kernel)⟩
def lw_privs_7 : List (MethodName × Nat) := [(⟨"ScrawlHouseModel", "partInto", "(I)Z"⟩, 87), (⟨"ScrawlHouseModel", "mayJoin", "(II)Z"⟩, 87), (⟨"ScrawlHouseModel", "areTwo", "(II)Z"⟩, 87), (⟨"ScrawlHouseModel", "measure", "()V"⟩, 87)]
theorem lw_r7 : ∀ q ∈ lw_privs_7, lw_okq q := List.forall_mem_cons.mpr ⟨lw_p96, List.forall_mem_cons.mpr ⟨lw_p97, List.forall_mem_cons.mpr ⟨lw_p98, List.forall_mem_cons.mpr ⟨lw_p99, fun _ h => absurd h List.not_mem_nil⟩⟩⟩⟩
def lw_privs : List (MethodName × Nat) := lw_privs_1 ++ (lw_privs_2 ++ (lw_privs_3 ++ (lw_privs_4 ++ (lw_privs_5 ++ (lw_privs_6 ++ (lw_privs_7))))))
def lw_tbl : List Cond := k2_sels lw_privs ++ tables_1
theorem lw_privs_ok : ∀ q ∈ lw_privs, lw_okq q := by
  show ∀ q ∈ lw_privs_1 ++ (lw_privs_2 ++ (lw_privs_3 ++ (lw_privs_4 ++ (lw_privs_5 ++ (lw_privs_6 ++ (lw_privs_7)))))), lw_okq q
  exact List.forall_mem_append.mpr ⟨lw_r1, List.forall_mem_append.mpr ⟨lw_r2, List.forall_mem_append.mpr ⟨lw_r3, List.forall_mem_append.mpr ⟨lw_r4, List.forall_mem_append.mpr ⟨lw_r5, List.forall_mem_append.mpr ⟨lw_r6, lw_r7⟩⟩⟩⟩⟩⟩

def vx_L (C n d : String) (A : Nat → Prop) (U : State) (H : Heap) : Prop := ∃ (c : ClassId) (k : Class) (i : Nat) (f : Field) (a : Nat) (cell : Cell), U.vm.findClass C = some c ∧ U.fieldFound? C n d = some (c, k, i, f) ∧ f.isStatic = true ∧ k.statics = some a ∧ H[a]? = some cell ∧ cell.vm.isStatics = true ∧ cell.cls = c ∧ f.slot < cell.slots.size ∧ k.staticTypes[f.slot]? = some f.type ∧ ¬ A a
theorem vx_L.moved {C n d : String} {A : Nat → Prop} {u U : State} {H : Heap} (hvm : u.vm.Alike U.vm) (h : vx_L C n d A u H) : vx_L C n d A U H := by
  obtain ⟨c, k, i, f, a, cell, h1, h2, h3, h4, h5, h6, h7, h8, h9, h10⟩ := h
  obtain ⟨k', hi', he⟩ := State.fieldFound?_setVm hvm h2
  exact ⟨c, k', i, f, a, cell, by rw [hvm.findClass]; exact h1, hi', h3, by rw [he]; exact h4, h5, h6, h7, h8, by rw [he]; exact h9, h10⟩
theorem vx_L.kept {C n d : String} {A : Nat → Prop} {U : State} {H H1 : Heap} (h : vx_L C n d A U H) (hq : ∀ a : Nat, a < H.size → ¬ A a → H1[a]? = H[a]?) : vx_L C n d A U H1 := by
  obtain ⟨c, k, i, f, a, cell, h1, h2, h3, h4, h5, h6, h7, h8, h9, h10⟩ := h
  exact ⟨c, k, i, f, a, cell, h1, h2, h3, h4, by rw [hq a (Array.getElem?_eq_some_iff.mp h5).1 h10]; exact h5, h6, h7, h8, h9, h10⟩
theorem vx_L.narrow {C n d : String} {A B : Nat → Prop} {U : State} {H : Heap} (h : vx_L C n d A U H) (hAB : ∀ q, B q → A q) : vx_L C n d B U H := by
  obtain ⟨c, k, i, f, a, cell, h1, h2, h3, h4, h5, h6, h7, h8, h9, h10⟩ := h
  exact ⟨c, k, i, f, a, cell, h1, h2, h3, h4, h5, h6, h7, h8, h9, fun z => h10 (hAB _ z)⟩
theorem vx_L.word {C n d : String} {A : Nat → Prop} {s : State} {args : Array Value} (h : vx_L C n d A s s.heap) : (Cond.laysStatic C n d).before args s = true := by
  obtain ⟨c, k, i, f, a, cell, h1, h2, h3, h4, h5, h6, h7, h8, h9, -⟩ := h
  show (Cond.laysStatic C n d).holds args s none s [] = true
  exact Cond.laysStatic_of h1 h2 h3 h4 h5 h6 h7 h8 h9
/-- .. and what it holds: null or some reference -/
def vx_Zq (C n d : String) (A : Nat → Prop) (U : State) (H : Heap) : Prop := va_Zq C n d A U H ∧ vx_L C n d A U H
theorem vx_Zq.moved {C n d : String} {A : Nat → Prop} {u U : State} {H : Heap} (hvm : u.vm.Alike U.vm) (h : vx_Zq C n d A u H) : vx_Zq C n d A U H := ⟨va_Zq.moved hvm h.1, vx_L.moved hvm h.2⟩
theorem vx_Zq.kept {C n d : String} {A : Nat → Prop} {U : State} {H H1 : Heap} (h : vx_Zq C n d A U H) (hq : ∀ a : Nat, a < H.size → ¬ A a → H1[a]? = H[a]?) : vx_Zq C n d A U H1 := ⟨va_Zq.kept h.1 hq, vx_L.kept h.2 hq⟩
theorem vx_Zq.narrow {C n d : String} {A B : Nat → Prop} {U : State} {H : Heap} (h : vx_Zq C n d A U H) (hAB : ∀ q, B q → A q) : vx_Zq C n d B U H := ⟨va_Zq.narrow h.1 hAB, vx_L.narrow h.2 hAB⟩
def RX0 : String := "ScrawlHouse$Facts"
def TX0 : u_T := fun k => match k with
  | 0 => ("ScrawlHouse$Facts", "kinds", "[I", true)
  | 1 => ("ScrawlHouse$Facts", "firsts", "[I", true)
  | 2 => ("ScrawlHouse$Facts", "seconds", "[I", true)
  | 3 => ("ScrawlHouse$Facts", "froms", "[I", true)
  | 4 => ("ScrawlHouse$Facts", "tos", "[I", true)
  | 5 => ("ScrawlHouse$Facts", "days", "[I", true)
  | _ => ("ScrawlHouse$Facts", "count", "I", false)
def tyX0 : Nat → FieldType := fun k => match k with
  | 0 => .array .int
  | 1 => .array .int
  | 2 => .array .int
  | 3 => .array .int
  | 4 => .array .int
  | 5 => .array .int
  | _ => .int
theorem nmX0 : ∀ a, a < 7 → ∀ b, b < 7 → a ≠ b → (TX0 a).2.1 ≠ (TX0 b).2.1 := by decide +kernel
theorem tyX0_ok : ∀ k, k < 7 → parseFieldDescriptor (TX0 k).2.2.1 = some (tyX0 k) := by decide +kernel
def RX1 : String := "ScrawlHouse$Finds"
def TX1 : u_T := fun k => match k with
  | 0 => ("ScrawlHouse$Finds", "wallOf", "[I", true)
  | 1 => ("ScrawlHouse$Finds", "layerOf", "[I", true)
  | 2 => ("ScrawlHouse$Finds", "places", "[I", true)
  | 3 => ("ScrawlHouse$Finds", "days", "[I", true)
  | 4 => ("ScrawlHouse$Finds", "photoScrawls", "[I", true)
  | 5 => ("ScrawlHouse$Finds", "photoDays", "[I", true)
  | 6 => ("ScrawlHouse$Finds", "seen", "[I", true)
  | 7 => ("ScrawlHouse$Finds", "gone", "[I", true)
  | 8 => ("ScrawlHouse$Finds", "drawingScrawls", "[I", true)
  | 9 => ("ScrawlHouse$Finds", "drawingDrawers", "[I", true)
  | 10 => ("ScrawlHouse$Finds", "drawingDays", "[I", true)
  | 11 => ("ScrawlHouse$Finds", "drawn", "[I", true)
  | 12 => ("ScrawlHouse$Finds", "scrawls", "I", false)
  | 13 => ("ScrawlHouse$Finds", "photos", "I", false)
  | _ => ("ScrawlHouse$Finds", "drawings", "I", false)
def tyX1 : Nat → FieldType := fun k => match k with
  | 0 => .array .int
  | 1 => .array .int
  | 2 => .array .int
  | 3 => .array .int
  | 4 => .array .int
  | 5 => .array .int
  | 6 => .array .int
  | 7 => .array .int
  | 8 => .array .int
  | 9 => .array .int
  | 10 => .array .int
  | 11 => .array .int
  | 12 => .int
  | 13 => .int
  | _ => .int
theorem nmX1 : ∀ a, a < 15 → ∀ b, b < 15 → a ≠ b → (TX1 a).2.1 ≠ (TX1 b).2.1 := by decide +kernel
theorem tyX1_ok : ∀ k, k < 15 → parseFieldDescriptor (TX1 k).2.2.1 = some (tyX1 k) := by decide +kernel
def RX2 : String := "ScrawlHouse$Folk"
def TX2 : u_T := fun k => match k with
  | 0 => ("ScrawlHouse$Folk", "finds", "LScrawlHouse$Finds;", true)
  | 1 => ("ScrawlHouse$Folk", "readings", "LScrawlHouse$Readings;", true)
  | 2 => ("ScrawlHouse$Folk", "years", "LScrawlHouse$Years;", true)
  | 3 => ("ScrawlHouse$Folk", "handOf", "[I", true)
  | 4 => ("ScrawlHouse$Folk", "hands", "I", false)
  | 5 => ("ScrawlHouse$Folk", "members", "[I", true)
  | 6 => ("ScrawlHouse$Folk", "clashes", "[I", true)
  | 7 => ("ScrawlHouse$Folk", "numbers", "[I", true)
  | 8 => ("ScrawlHouse$Folk", "size", "I", false)
  | _ => ("ScrawlHouse$Folk", "people", "I", false)
def tyX2 : Nat → FieldType := fun k => match k with
  | 0 => .object "ScrawlHouse$Finds"
  | 1 => .object "ScrawlHouse$Readings"
  | 2 => .object "ScrawlHouse$Years"
  | 3 => .array .int
  | 4 => .int
  | 5 => .array .int
  | 6 => .array .int
  | 7 => .array .int
  | 8 => .int
  | _ => .int
theorem nmX2 : ∀ a, a < 10 → ∀ b, b < 10 → a ≠ b → (TX2 a).2.1 ≠ (TX2 b).2.1 := by decide +kernel
theorem tyX2_ok : ∀ k, k < 10 → parseFieldDescriptor (TX2 k).2.2.1 = some (tyX2 k) := by decide +kernel
def RX3 : String := "ScrawlHouse$Lore"
def TX3 : u_T := fun k => match k with
  | 0 => ("ScrawlHouse$Lore", "strokes", "[I", true)
  | 1 => ("ScrawlHouse$Lore", "formCounts", "[I", true)
  | 2 => ("ScrawlHouse$Lore", "letters", "[I", true)
  | 3 => ("ScrawlHouse$Lore", "lengths", "[I", true)
  | 4 => ("ScrawlHouse$Lore", "sorts", "[I", true)
  | 5 => ("ScrawlHouse$Lore", "drawnAs", "[I", true)
  | 6 => ("ScrawlHouse$Lore", "habitCounts", "[I", true)
  | _ => ("ScrawlHouse$Lore", "words", "I", false)
def tyX3 : Nat → FieldType := fun k => match k with
  | 0 => .array .int
  | 1 => .array .int
  | 2 => .array .int
  | 3 => .array .int
  | 4 => .array .int
  | 5 => .array .int
  | 6 => .array .int
  | _ => .int
theorem nmX3 : ∀ a, a < 8 → ∀ b, b < 8 → a ≠ b → (TX3 a).2.1 ≠ (TX3 b).2.1 := by decide +kernel
theorem tyX3_ok : ∀ k, k < 8 → parseFieldDescriptor (TX3 k).2.2.1 = some (tyX3 k) := by decide +kernel
def RX4 : String := "ScrawlHouse$Machine"
def TX4 : u_T := fun k => match k with
  | 0 => ("ScrawlHouse$Machine", "stands", "[J", true)
  | 1 => ("ScrawlHouse$Machine", "steps", "[I", true)
  | 2 => ("ScrawlHouse$Machine", "ends", "[Z", true)
  | 3 => ("ScrawlHouse$Machine", "states", "I", false)
  | _ => ("ScrawlHouse$Machine", "patternCount", "I", false)
def tyX4 : Nat → FieldType := fun k => match k with
  | 0 => .array .long
  | 1 => .array .int
  | 2 => .array .boolean
  | 3 => .int
  | _ => .int
theorem nmX4 : ∀ a, a < 5 → ∀ b, b < 5 → a ≠ b → (TX4 a).2.1 ≠ (TX4 b).2.1 := by decide +kernel
theorem tyX4_ok : ∀ k, k < 5 → parseFieldDescriptor (TX4 k).2.2.1 = some (tyX4 k) := by decide +kernel
def RX5 : String := "ScrawlHouse$PatternText"
def TX5 : u_T := fun k => match k with
  | 0 => ("ScrawlHouse$PatternText", "tape", "LScrawlHouse$Tape;", true)
  | 1 => ("ScrawlHouse$PatternText", "sorts", "[I", true)
  | 2 => ("ScrawlHouse$PatternText", "optional", "[Z", true)
  | 3 => ("ScrawlHouse$PatternText", "sizes", "[I", true)
  | 4 => ("ScrawlHouse$PatternText", "patternCount", "I", false)
  | 5 => ("ScrawlHouse$PatternText", "faultKind", "I", false)
  | 6 => ("ScrawlHouse$PatternText", "faultPlace", "I", false)
  | 7 => ("ScrawlHouse$PatternText", "items", "I", false)
  | _ => ("ScrawlHouse$PatternText", "mayAsk", "Z", false)
def tyX5 : Nat → FieldType := fun k => match k with
  | 0 => .object "ScrawlHouse$Tape"
  | 1 => .array .int
  | 2 => .array .boolean
  | 3 => .array .int
  | 4 => .int
  | 5 => .int
  | 6 => .int
  | 7 => .int
  | _ => .boolean
theorem nmX5 : ∀ a, a < 9 → ∀ b, b < 9 → a ≠ b → (TX5 a).2.1 ≠ (TX5 b).2.1 := by decide +kernel
theorem tyX5_ok : ∀ k, k < 9 → parseFieldDescriptor (TX5 k).2.2.1 = some (tyX5 k) := by decide +kernel
def RX6 : String := "ScrawlHouse$Reader"
def TX6 : u_T := fun k => match k with
  | 0 => ("ScrawlHouse$Reader", "lore", "LScrawlHouse$Lore;", true)
  | 1 => ("ScrawlHouse$Reader", "machine", "LScrawlHouse$Machine;", true)
  | 2 => ("ScrawlHouse$Reader", "finds", "LScrawlHouse$Finds;", true)
  | 3 => ("ScrawlHouse$Reader", "readings", "LScrawlHouse$Readings;", true)
  | 4 => ("ScrawlHouse$Reader", "drawings", "[I", true)
  | 5 => ("ScrawlHouse$Reader", "letterCosts", "[I", true)
  | 6 => ("ScrawlHouse$Reader", "listed", "[Z", true)
  | 7 => ("ScrawlHouse$Reader", "fitCosts", "[I", true)
  | 8 => ("ScrawlHouse$Reader", "fitCounts", "[I", true)
  | 9 => ("ScrawlHouse$Reader", "fitWords", "[I", true)
  | 10 => ("ScrawlHouse$Reader", "formBits", "[I", true)
  | 11 => ("ScrawlHouse$Reader", "best", "[I", false)
  | 12 => ("ScrawlHouse$Reader", "ways", "[I", false)
  | 13 => ("ScrawlHouse$Reader", "picks", "[I", false)
  | 14 => ("ScrawlHouse$Reader", "photo", "I", false)
  | _ => ("ScrawlHouse$Reader", "places", "I", false)
def tyX6 : Nat → FieldType := fun k => match k with
  | 0 => .object "ScrawlHouse$Lore"
  | 1 => .object "ScrawlHouse$Machine"
  | 2 => .object "ScrawlHouse$Finds"
  | 3 => .object "ScrawlHouse$Readings"
  | 4 => .array .int
  | 5 => .array .int
  | 6 => .array .boolean
  | 7 => .array .int
  | 8 => .array .int
  | 9 => .array .int
  | 10 => .array .int
  | 11 => .array .int
  | 12 => .array .int
  | 13 => .array .int
  | 14 => .int
  | _ => .int
theorem nmX6 : ∀ a, a < 16 → ∀ b, b < 16 → a ≠ b → (TX6 a).2.1 ≠ (TX6 b).2.1 := by decide +kernel
theorem tyX6_ok : ∀ k, k < 16 → parseFieldDescriptor (TX6 k).2.2.1 = some (tyX6 k) := by decide +kernel
def RX7 : String := "ScrawlHouse$Readings"
def TX7 : u_T := fun k => match k with
  | 0 => ("ScrawlHouse$Readings", "valid", "[Z", true)
  | 1 => ("ScrawlHouse$Readings", "photos", "[I", true)
  | 2 => ("ScrawlHouse$Readings", "drawings", "[I", true)
  | 3 => ("ScrawlHouse$Readings", "costs", "[I", true)
  | 4 => ("ScrawlHouse$Readings", "rivals", "[I", true)
  | 5 => ("ScrawlHouse$Readings", "sizes", "[I", true)
  | 6 => ("ScrawlHouse$Readings", "words", "[I", true)
  | 7 => ("ScrawlHouse$Readings", "firsts", "[I", true)
  | 8 => ("ScrawlHouse$Readings", "forms", "[I", true)
  | _ => ("ScrawlHouse$Readings", "usedCounts", "[I", true)
def tyX7 : Nat → FieldType := fun k => match k with
  | 0 => .array .boolean
  | 1 => .array .int
  | 2 => .array .int
  | 3 => .array .int
  | 4 => .array .int
  | 5 => .array .int
  | 6 => .array .int
  | 7 => .array .int
  | 8 => .array .int
  | _ => .array .int
theorem nmX7 : ∀ a, a < 10 → ∀ b, b < 10 → a ≠ b → (TX7 a).2.1 ≠ (TX7 b).2.1 := by decide +kernel
theorem tyX7_ok : ∀ k, k < 10 → parseFieldDescriptor (TX7 k).2.2.1 = some (tyX7 k) := by decide +kernel
def RX8 : String := "ScrawlHouse$Tape"
def TX8 : u_T := fun k => match k with
  | 0 => ("ScrawlHouse$Tape", "bytes", "[I", true)
  | _ => ("ScrawlHouse$Tape", "size", "I", false)
def tyX8 : Nat → FieldType := fun k => match k with
  | 0 => .array .int
  | _ => .int
theorem nmX8 : ∀ a, a < 2 → ∀ b, b < 2 → a ≠ b → (TX8 a).2.1 ≠ (TX8 b).2.1 := by decide +kernel
theorem tyX8_ok : ∀ k, k < 2 → parseFieldDescriptor (TX8 k).2.2.1 = some (tyX8 k) := by decide +kernel
def RX9 : String := "ScrawlHouse$Town"
def TX9 : u_T := fun k => match k with
  | 0 => ("ScrawlHouse$Town", "ways", "[I", true)
  | 1 => ("ScrawlHouse$Town", "wallCorners", "[I", true)
  | 2 => ("ScrawlHouse$Town", "wallLayers", "[I", true)
  | 3 => ("ScrawlHouse$Town", "stops", "[I", true)
  | 4 => ("ScrawlHouse$Town", "tours", "[I", true)
  | 5 => ("ScrawlHouse$Town", "stopCount", "I", false)
  | 6 => ("ScrawlHouse$Town", "streets", "I", false)
  | _ => ("ScrawlHouse$Town", "walls", "I", false)
def tyX9 : Nat → FieldType := fun k => match k with
  | 0 => .array .int
  | 1 => .array .int
  | 2 => .array .int
  | 3 => .array .int
  | 4 => .array .int
  | 5 => .int
  | 6 => .int
  | _ => .int
theorem nmX9 : ∀ a, a < 8 → ∀ b, b < 8 → a ≠ b → (TX9 a).2.1 ≠ (TX9 b).2.1 := by decide +kernel
theorem tyX9_ok : ∀ k, k < 8 → parseFieldDescriptor (TX9 k).2.2.1 = some (tyX9 k) := by decide +kernel
def RX10 : String := "ScrawlHouse$Years"
def TX10 : u_T := fun k => match k with
  | 0 => ("ScrawlHouse$Years", "town", "LScrawlHouse$Town;", true)
  | 1 => ("ScrawlHouse$Years", "finds", "LScrawlHouse$Finds;", true)
  | 2 => ("ScrawlHouse$Years", "facts", "LScrawlHouse$Facts;", true)
  | 3 => ("ScrawlHouse$Years", "readings", "LScrawlHouse$Readings;", true)
  | 4 => ("ScrawlHouse$Years", "froms", "[I", true)
  | 5 => ("ScrawlHouse$Years", "tos", "[I", true)
  | 6 => ("ScrawlHouse$Years", "held", "[Z", true)
  | 7 => ("ScrawlHouse$Years", "allowed", "[J", true)
  | 8 => ("ScrawlHouse$Years", "least", "[I", true)
  | 9 => ("ScrawlHouse$Years", "greatest", "[I", true)
  | 10 => ("ScrawlHouse$Years", "scrawls", "I", false)
  | 11 => ("ScrawlHouse$Years", "heard", "I", false)
  | _ => ("ScrawlHouse$Years", "canBe", "Z", false)
def tyX10 : Nat → FieldType := fun k => match k with
  | 0 => .object "ScrawlHouse$Town"
  | 1 => .object "ScrawlHouse$Finds"
  | 2 => .object "ScrawlHouse$Facts"
  | 3 => .object "ScrawlHouse$Readings"
  | 4 => .array .int
  | 5 => .array .int
  | 6 => .array .boolean
  | 7 => .array .long
  | 8 => .array .int
  | 9 => .array .int
  | 10 => .int
  | 11 => .int
  | _ => .boolean
theorem nmX10 : ∀ a, a < 13 → ∀ b, b < 13 → a ≠ b → (TX10 a).2.1 ≠ (TX10 b).2.1 := by decide +kernel
theorem tyX10_ok : ∀ k, k < 13 → parseFieldDescriptor (TX10 k).2.2.1 = some (tyX10 k) := by decide +kernel
def RX11 : String := "ScrawlHouse"
def TX11 : u_T := fun k => match k with
  | 0 => ("ScrawlHouse", "tape", "LScrawlHouse$Tape;", true)
  | 1 => ("ScrawlHouse", "lore", "LScrawlHouse$Lore;", true)
  | 2 => ("ScrawlHouse", "town", "LScrawlHouse$Town;", true)
  | 3 => ("ScrawlHouse", "text", "LScrawlHouse$PatternText;", true)
  | 4 => ("ScrawlHouse", "machine", "LScrawlHouse$Machine;", true)
  | 5 => ("ScrawlHouse", "finds", "LScrawlHouse$Finds;", true)
  | 6 => ("ScrawlHouse", "readings", "LScrawlHouse$Readings;", true)
  | 7 => ("ScrawlHouse", "reader", "LScrawlHouse$Reader;", true)
  | 8 => ("ScrawlHouse", "facts", "LScrawlHouse$Facts;", true)
  | 9 => ("ScrawlHouse", "years", "LScrawlHouse$Years;", true)
  | 10 => ("ScrawlHouse", "folk", "LScrawlHouse$Folk;", true)
  | 11 => ("ScrawlHouse", "out", "[I", true)
  | 12 => ("ScrawlHouse", "outSize", "I", false)
  | _ => ("ScrawlHouse", "today", "I", false)
def tyX11 : Nat → FieldType := fun k => match k with
  | 0 => .object "ScrawlHouse$Tape"
  | 1 => .object "ScrawlHouse$Lore"
  | 2 => .object "ScrawlHouse$Town"
  | 3 => .object "ScrawlHouse$PatternText"
  | 4 => .object "ScrawlHouse$Machine"
  | 5 => .object "ScrawlHouse$Finds"
  | 6 => .object "ScrawlHouse$Readings"
  | 7 => .object "ScrawlHouse$Reader"
  | 8 => .object "ScrawlHouse$Facts"
  | 9 => .object "ScrawlHouse$Years"
  | 10 => .object "ScrawlHouse$Folk"
  | 11 => .array .int
  | 12 => .int
  | _ => .int
theorem nmX11 : ∀ a, a < 14 → ∀ b, b < 14 → a ≠ b → (TX11 a).2.1 ≠ (TX11 b).2.1 := by decide +kernel
theorem tyX11_ok : ∀ k, k < 14 → parseFieldDescriptor (TX11 k).2.2.1 = some (tyX11 k) := by decide +kernel
def RX12 : String := "ScrawlHouseModel"
def TX12 : u_T := fun k => match k with
  | 0 => ("ScrawlHouseModel", "thrown", "I", false)
  | 1 => ("ScrawlHouseModel", "tape", "[I", true)
  | 2 => ("ScrawlHouseModel", "out", "[I", true)
  | 3 => ("ScrawlHouseModel", "taped", "I", false)
  | 4 => ("ScrawlHouseModel", "outs", "I", false)
  | 5 => ("ScrawlHouseModel", "today", "I", false)
  | 6 => ("ScrawlHouseModel", "stamp", "I", false)
  | 7 => ("ScrawlHouseModel", "forms", "[I", true)
  | 8 => ("ScrawlHouseModel", "strokes", "[I", true)
  | 9 => ("ScrawlHouseModel", "wordAt", "[I", true)
  | 10 => ("ScrawlHouseModel", "wordLength", "[I", true)
  | 11 => ("ScrawlHouseModel", "sortOf", "[I", true)
  | 12 => ("ScrawlHouseModel", "streetA", "[I", true)
  | 13 => ("ScrawlHouseModel", "streetB", "[I", true)
  | 14 => ("ScrawlHouseModel", "streetLong", "[I", true)
  | 15 => ("ScrawlHouseModel", "corner", "[I", true)
  | 16 => ("ScrawlHouseModel", "layersOf", "[I", true)
  | 17 => ("ScrawlHouseModel", "habits", "[I", true)
  | 18 => ("ScrawlHouseModel", "habitLetter", "[I", true)
  | 19 => ("ScrawlHouseModel", "habitDrawn", "[I", true)
  | 20 => ("ScrawlHouseModel", "words", "I", false)
  | 21 => ("ScrawlHouseModel", "streets", "I", false)
  | 22 => ("ScrawlHouseModel", "walls", "I", false)
  | 23 => ("ScrawlHouseModel", "size", "I", false)
  | 24 => ("ScrawlHouseModel", "to", "I", false)
  | 25 => ("ScrawlHouseModel", "from", "I", false)
  | 26 => ("ScrawlHouseModel", "kind", "I", false)
  | 27 => ("ScrawlHouseModel", "fault", "I", false)
  | 28 => ("ScrawlHouseModel", "place", "I", false)
  | 29 => ("ScrawlHouseModel", "patterns", "I", false)
  | 30 => ("ScrawlHouseModel", "rows", "I", false)
  | 31 => ("ScrawlHouseModel", "readRows", "I", false)
  | 32 => ("ScrawlHouseModel", "word", "J", false)
  | 33 => ("ScrawlHouseModel", "rowLength", "[I", true)
  | 34 => ("ScrawlHouseModel", "rowSort", "[I", true)
  | 35 => ("ScrawlHouseModel", "item", "[I", true)
  | 36 => ("ScrawlHouseModel", "mayGo", "[Z", true)
  | 37 => ("ScrawlHouseModel", "patternsNow", "I", false)
  | 38 => ("ScrawlHouseModel", "wallOf", "[I", true)
  | 39 => ("ScrawlHouseModel", "layerOf", "[I", true)
  | 40 => ("ScrawlHouseModel", "places", "[I", true)
  | 41 => ("ScrawlHouseModel", "scrawlKnown", "[I", true)
  | 42 => ("ScrawlHouseModel", "photoOf", "[I", true)
  | 43 => ("ScrawlHouseModel", "photoKnown", "[I", true)
  | 44 => ("ScrawlHouseModel", "seen", "[I", true)
  | 45 => ("ScrawlHouseModel", "gone", "[I", true)
  | 46 => ("ScrawlHouseModel", "drawnOf", "[I", true)
  | 47 => ("ScrawlHouseModel", "drawnBy", "[I", true)
  | 48 => ("ScrawlHouseModel", "drawnKnown", "[I", true)
  | 49 => ("ScrawlHouseModel", "drawn", "[I", true)
  | 50 => ("ScrawlHouseModel", "scrawls", "I", false)
  | 51 => ("ScrawlHouseModel", "photos", "I", false)
  | 52 => ("ScrawlHouseModel", "drawings", "I", false)
  | 53 => ("ScrawlHouseModel", "letterCost", "[I", true)
  | 54 => ("ScrawlHouseModel", "wordCost", "[I", true)
  | 55 => ("ScrawlHouseModel", "least", "[I", true)
  | 56 => ("ScrawlHouseModel", "ways", "[I", true)
  | 57 => ("ScrawlHouseModel", "best", "[I", true)
  | 58 => ("ScrawlHouseModel", "bestMany", "[I", true)
  | 59 => ("ScrawlHouseModel", "bestCost", "[I", true)
  | 60 => ("ScrawlHouseModel", "rivals", "[I", true)
  | 61 => ("ScrawlHouseModel", "workedAt", "I", false)
  | 62 => ("ScrawlHouseModel", "workedStamp", "I", false)
  | 63 => ("ScrawlHouseModel", "isLeft", "[Z", true)
  | 64 => ("ScrawlHouseModel", "factKind", "[I", true)
  | 65 => ("ScrawlHouseModel", "factA", "[I", true)
  | 66 => ("ScrawlHouseModel", "factB", "[I", true)
  | 67 => ("ScrawlHouseModel", "factFrom", "[I", true)
  | 68 => ("ScrawlHouseModel", "factTo", "[I", true)
  | 69 => ("ScrawlHouseModel", "factKnown", "[I", true)
  | 70 => ("ScrawlHouseModel", "facts", "I", false)
  | 71 => ("ScrawlHouseModel", "year", "[Z", true)
  | 72 => ("ScrawlHouseModel", "canBe", "Z", false)
  | 73 => ("ScrawlHouseModel", "isLess", "Z", false)
  | 74 => ("ScrawlHouseModel", "some", "[Z", true)
  | 75 => ("ScrawlHouseModel", "handOf", "[I", true)
  | 76 => ("ScrawlHouseModel", "spanLeast", "[I", true)
  | 77 => ("ScrawlHouseModel", "spanMost", "[I", true)
  | 78 => ("ScrawlHouseModel", "named", "[I", true)
  | 79 => ("ScrawlHouseModel", "personOf", "[I", true)
  | 80 => ("ScrawlHouseModel", "trying", "[I", true)
  | 81 => ("ScrawlHouseModel", "highest", "[I", true)
  | 82 => ("ScrawlHouseModel", "namedMany", "I", false)
  | 83 => ("ScrawlHouseModel", "personsMany", "I", false)
  | 84 => ("ScrawlHouseModel", "way", "[I", true)
  | 85 => ("ScrawlHouseModel", "stop", "[I", true)
  | _ => ("ScrawlHouseModel", "walked", "[I", true)
def tyX12 : Nat → FieldType := fun k => match k with
  | 0 => .int
  | 1 => .array .int
  | 2 => .array .int
  | 3 => .int
  | 4 => .int
  | 5 => .int
  | 6 => .int
  | 7 => .array .int
  | 8 => .array .int
  | 9 => .array .int
  | 10 => .array .int
  | 11 => .array .int
  | 12 => .array .int
  | 13 => .array .int
  | 14 => .array .int
  | 15 => .array .int
  | 16 => .array .int
  | 17 => .array .int
  | 18 => .array .int
  | 19 => .array .int
  | 20 => .int
  | 21 => .int
  | 22 => .int
  | 23 => .int
  | 24 => .int
  | 25 => .int
  | 26 => .int
  | 27 => .int
  | 28 => .int
  | 29 => .int
  | 30 => .int
  | 31 => .int
  | 32 => .long
  | 33 => .array .int
  | 34 => .array .int
  | 35 => .array .int
  | 36 => .array .boolean
  | 37 => .int
  | 38 => .array .int
  | 39 => .array .int
  | 40 => .array .int
  | 41 => .array .int
  | 42 => .array .int
  | 43 => .array .int
  | 44 => .array .int
  | 45 => .array .int
  | 46 => .array .int
  | 47 => .array .int
  | 48 => .array .int
  | 49 => .array .int
  | 50 => .int
  | 51 => .int
  | 52 => .int
  | 53 => .array .int
  | 54 => .array .int
  | 55 => .array .int
  | 56 => .array .int
  | 57 => .array .int
  | 58 => .array .int
  | 59 => .array .int
  | 60 => .array .int
  | 61 => .int
  | 62 => .int
  | 63 => .array .boolean
  | 64 => .array .int
  | 65 => .array .int
  | 66 => .array .int
  | 67 => .array .int
  | 68 => .array .int
  | 69 => .array .int
  | 70 => .int
  | 71 => .array .boolean
  | 72 => .boolean
  | 73 => .boolean
  | 74 => .array .boolean
  | 75 => .array .int
  | 76 => .array .int
  | 77 => .array .int
  | 78 => .array .int
  | 79 => .array .int
  | 80 => .array .int
  | 81 => .array .int
  | 82 => .int
  | 83 => .int
  | 84 => .array .int
  | 85 => .array .int
  | _ => .array .int
theorem nmX12 : ∀ a, a < 87 → ∀ b, b < 87 → a ≠ b → (TX12 a).2.1 ≠ (TX12 b).2.1 := by decide +kernel
theorem tyX12_ok : ∀ k, k < 87 → parseFieldDescriptor (TX12 k).2.2.1 = some (tyX12 k) := by decide +kernel
def RL : String := "ScrawlHouseLaw"
abbrev vwCl : List vw_C := [(RX0, TX0, 7), (RX1, TX1, 15), (RX2, TX2, 10), (RX3, TX3, 8), (RX4, TX4, 5), (RX5, TX5, 9), (RX6, TX6, 16), (RX7, TX7, 10), (RX8, TX8, 2), (RX9, TX9, 8), (RX10, TX10, 13), (RX11, TX11, 14), (RX12, TX12, 87)]
end
section
def x_O : List String := [RX0, RX1, RX2, RX3, RX4, RX5, RX6, RX7, RX8, RX9, RX10, RX11, RX12, RL, "java/lang/Math", "java/lang/Integer", "java/util/Arrays", "java/lang/String", "java/lang/StringLatin1", "jdk/internal/util/Preconditions"]
def x_o (o : Nat) : String := x_O.getD o ""
def x_M0 : List (Nat × MethodName × ByteArray × Nat × Option FieldType × Nat) := [(0, ⟨RX0, "<init>", "()V"⟩, prog_2_method_1_code, 1, none, 0),
  (0, ⟨RX0, "add", "(IIIIII)I"⟩, prog_2_method_2_code, 7, some .int, 6),
  (0, ⟨RX0, "knownCount", "(I)I"⟩, prog_2_method_3_code, 4, some .int, 1),
  (1, ⟨RX1, "<init>", "()V"⟩, prog_3_method_1_code, 1, none, 0),
  (1, ⟨RX1, "addScrawl", "(IIII)I"⟩, prog_3_method_2_code, 5, some .int, 4),
  (1, ⟨RX1, "addPhoto", "(ILScrawlHouse$Tape;I)Z"⟩, prog_3_method_3_code, 5, some .boolean, 3),
  (1, ⟨RX1, "addDrawing", "(IILScrawlHouse$Tape;I)Z"⟩, prog_3_method_4_code, 6, some .boolean, 4),
  (1, ⟨RX1, "isScrawl", "(I)Z"⟩, prog_3_method_5_code, 2, some .boolean, 1),
  (1, ⟨RX1, "isKnown", "(II)Z"⟩, prog_3_method_6_code, 3, some .boolean, 2),
  (1, ⟨RX1, "knownCount", "(I)I"⟩, prog_3_method_7_code, 4, some .int, 1),
  (1, ⟨RX1, "lastPhoto", "(II)I"⟩, prog_3_method_8_code, 4, some .int, 2),
  (1, ⟨RX1, "lastDrawings", "(II[I)V"⟩, prog_3_method_9_code, 6, none, 3),
  (2, ⟨RX2, "<init>", "(LScrawlHouse$Finds;LScrawlHouse$Readings;LScrawlHouse$Years;)V"⟩, prog_4_method_1_code, 4, none, 3),
  (2, ⟨RX2, "giveHands", "(I)V"⟩, prog_4_method_2_code, 4, none, 1),
  (2, ⟨RX2, "leastHand", "(I)I"⟩, prog_4_method_3_code, 3, some .int, 1),
  (2, ⟨RX2, "isOfHand", "(II)Z"⟩, prog_4_method_4_code, 6, some .boolean, 2),
  (2, ⟨RX2, "part", "(II)V"⟩, prog_4_method_5_code, 4, none, 2),
  (2, ⟨RX2, "gatherMembers", "(II)V"⟩, prog_4_method_6_code, 4, none, 2),
  (2, ⟨RX2, "clashesOf", "(I)I"⟩, prog_4_method_7_code, 4, some .int, 1),
  (2, ⟨RX2, "cantBeOne", "(II)Z"⟩, prog_4_method_8_code, 5, some .boolean, 2),
  (2, ⟨RX2, "canNumber", "(III)Z"⟩, prog_4_method_9_code, 5, some .boolean, 3),
  (2, ⟨RX2, "mayJoin", "(II)Z"⟩, prog_4_method_10_code, 4, some .boolean, 2),
  (2, ⟨RX2, "numberOf", "(I)I"⟩, prog_4_method_11_code, 3, some .int, 1),
  (2, ⟨RX2, "wallsOf", "(I)I"⟩, prog_4_method_12_code, 4, some .int, 1),
  (3, ⟨RX3, "<init>", "()V"⟩, prog_5_method_1_code, 1, none, 0),
  (3, ⟨RX3, "addForm", "(II)I"⟩, prog_5_method_2_code, 5, some .int, 2),
  (3, ⟨RX3, "addWord", "(LScrawlHouse$Tape;I)I"⟩, prog_5_method_3_code, 4, some .int, 2),
  (3, ⟨RX3, "isWordText", "(LScrawlHouse$Tape;)Z"⟩, prog_5_method_4_code, 3, some .boolean, 1),
  (3, ⟨RX3, "hasText", "(ILScrawlHouse$Tape;)Z"⟩, prog_5_method_5_code, 4, some .boolean, 2),
  (3, ⟨RX3, "addHabit", "(III)I"⟩, prog_5_method_6_code, 4, some .int, 3),
  (3, ⟨RX3, "hasHabit", "(III)Z"⟩, prog_5_method_7_code, 4, some .boolean, 3),
  (3, ⟨RX3, "isOfSort", "(II)Z"⟩, prog_5_method_8_code, 3, some .boolean, 2),
  (4, ⟨RX4, "<init>", "()V"⟩, prog_6_method_1_code, 1, none, 0),
  (4, ⟨RX4, "build", "(LScrawlHouse$PatternText;)V"⟩, prog_6_method_2_code, 9, none, 1),
  (4, ⟨RX4, "step", "(II)I"⟩, prog_6_method_3_code, 3, some .int, 2),
  (4, ⟨RX4, "stateOf", "(LScrawlHouse$PatternText;JI)I"⟩, prog_6_method_4_code, 6, some .int, 3),
  (4, ⟨RX4, "addState", "(LScrawlHouse$PatternText;J)I"⟩, prog_6_method_5_code, 6, some .int, 2),
  (4, ⟨RX4, "moved", "(LScrawlHouse$PatternText;JI)J"⟩, prog_6_method_6_code, 9, some .long, 3),
  (4, ⟨RX4, "standsFrom", "(LScrawlHouse$PatternText;II)J"⟩, prog_6_method_7_code, 6, some .long, 3),
  (4, ⟨RX4, "standBit", "(II)J"⟩, prog_6_method_8_code, 2, some .long, 2)]
def x_M1 : List (Nat × MethodName × ByteArray × Nat × Option FieldType × Nat) := [(5, ⟨RX5, "<init>", "(LScrawlHouse$Tape;)V"⟩, prog_7_method_1_code, 2, none, 1),
  (5, ⟨RX5, "parse", "()Z"⟩, prog_7_method_2_code, 3, some .boolean, 0),
  (5, ⟨RX5, "startPattern", "()V"⟩, prog_7_method_3_code, 1, none, 0),
  (5, ⟨RX5, "refuse", "(II)V"⟩, prog_7_method_4_code, 3, none, 2),
  (5, ⟨RX5, "takeToken", "(I)I"⟩, prog_7_method_5_code, 3, some .int, 1),
  (5, ⟨RX5, "takeItem", "(I)I"⟩, prog_7_method_6_code, 4, some .int, 1),
  (5, ⟨RX5, "takeAsk", "(I)V"⟩, prog_7_method_7_code, 2, none, 1),
  (5, ⟨RX5, "takeStop", "(I)V"⟩, prog_7_method_8_code, 4, none, 1),
  (5, ⟨RX5, "sortOf", "(II)I"⟩, prog_7_method_9_code, 4, some .int, 2),
  (5, ⟨RX5, "spells", "(Ljava/lang/String;II)Z"⟩, prog_7_method_10_code, 5, some .boolean, 3),
  (5, ⟨RX5, "sortName", "(I)Ljava/lang/String;"⟩, prog_7_method_11_code, 1, some (.object "java/lang/String"), 1),
  (6, ⟨RX6, "<init>", "(LScrawlHouse$Lore;LScrawlHouse$Machine;LScrawlHouse$Finds;LScrawlHouse$Readings;)V"⟩, prog_8_method_1_code, 5, none, 4),
  (6, ⟨RX6, "lookAll", "(I)V"⟩, prog_8_method_2_code, 4, none, 1),
  (6, ⟨RX6, "look", "(II)V"⟩, prog_8_method_3_code, 3, none, 2),
  (6, ⟨RX6, "gather", "(II)V"⟩, prog_8_method_4_code, 3, none, 2),
  (6, ⟨RX6, "isSameEvidence", "(I)Z"⟩, prog_8_method_5_code, 3, some .boolean, 1),
  (6, ⟨RX6, "keepEvidence", "(I)V"⟩, prog_8_method_6_code, 3, none, 1),
  (6, ⟨RX6, "letterCost", "(II)I"⟩, prog_8_method_7_code, 6, some .int, 2),
  (6, ⟨RX6, "formCost", "(II)I"⟩, prog_8_method_8_code, 7, some .int, 2),
  (6, ⟨RX6, "mayForm", "(III)Z"⟩, prog_8_method_9_code, 7, some .boolean, 3),
  (6, ⟨RX6, "weighLetters", "()V"⟩, prog_8_method_10_code, 3, none, 0),
  (6, ⟨RX6, "startSearch", "()V"⟩, prog_8_method_11_code, 3, none, 0),
  (6, ⟨RX6, "search", "(III)I"⟩, prog_8_method_12_code, 9, some .int, 3),
  (6, ⟨RX6, "weigh", "(III)V"⟩, prog_8_method_13_code, 5, none, 3),
  (6, ⟨RX6, "listFits", "(I)V"⟩, prog_8_method_14_code, 5, none, 1),
  (6, ⟨RX6, "wordCost", "(II)I"⟩, prog_8_method_15_code, 7, some .int, 2),
  (6, ⟨RX6, "keepBest", "(I)V"⟩, prog_8_method_16_code, 7, none, 1),
  (6, ⟨RX6, "keepFirst", "(II)V"⟩, prog_8_method_17_code, 4, none, 2),
  (6, ⟨RX6, "keepForms", "(I)V"⟩, prog_8_method_18_code, 7, none, 1),
  (6, ⟨RX6, "formsThatMay", "(II)I"⟩, prog_8_method_19_code, 5, some .int, 2),
  (6, ⟨RX6, "onlyForm", "(I)I"⟩, prog_8_method_20_code, 2, some .int, 1),
  (7, ⟨RX7, "<init>", "()V"⟩, prog_9_method_1_code, 1, none, 0),
  (7, ⟨RX7, "forget", "()V"⟩, prog_9_method_2_code, 2, none, 0),
  (7, ⟨RX7, "clear", "(I)V"⟩, prog_9_method_3_code, 2, none, 1),
  (7, ⟨RX7, "firstOf", "(II)I"⟩, prog_9_method_4_code, 3, some .int, 2),
  (7, ⟨RX7, "compare", "(II)I"⟩, prog_9_method_5_code, 8, some .int, 2),
  (8, ⟨RX8, "<init>", "()V"⟩, prog_10_method_1_code, 1, none, 0),
  (8, ⟨RX8, "addNumber", "(I)V"⟩, prog_10_method_2_code, 3, none, 1),
  (8, ⟨RX8, "at", "(I)I"⟩, prog_10_method_3_code, 2, some .int, 1),
  (9, ⟨RX9, "<init>", "()V"⟩, prog_11_method_1_code, 2, none, 0)]
def x_M2 : List (Nat × MethodName × ByteArray × Nat × Option FieldType × Nat) := [(9, ⟨RX9, "addStreet", "(III)Z"⟩, prog_11_method_2_code, 4, some .boolean, 3),
  (9, ⟨RX9, "shorten", "(III)V"⟩, prog_11_method_3_code, 9, none, 3),
  (9, ⟨RX9, "addWall", "(II)I"⟩, prog_11_method_4_code, 3, some .int, 2),
  (9, ⟨RX9, "isLayer", "(II)Z"⟩, prog_11_method_5_code, 3, some .boolean, 2),
  (9, ⟨RX9, "isCorner", "(I)Z"⟩, prog_11_method_6_code, 1, some .boolean, 1),
  (9, ⟨RX9, "leastWay", "(I)I"⟩, prog_11_method_7_code, 5, some .int, 1),
  (9, ⟨RX9, "gatherStops", "(I)V"⟩, prog_11_method_8_code, 5, none, 1),
  (9, ⟨RX9, "way", "(II)I"⟩, prog_11_method_9_code, 3, some .int, 2),
  (9, ⟨RX9, "shortestTour", "(II)I"⟩, prog_11_method_10_code, 7, some .int, 2),
  (10, ⟨RX10, "<init>", "(LScrawlHouse$Town;LScrawlHouse$Finds;LScrawlHouse$Facts;LScrawlHouse$Readings;)V"⟩, prog_12_method_1_code, 5, none, 4),
  (10, ⟨RX10, "settle", "(I)V"⟩, prog_12_method_2_code, 4, none, 1),
  (10, ⟨RX10, "firstSpoilt", "(I)I"⟩, prog_12_method_3_code, 4, some .int, 1),
  (10, ⟨RX10, "endOf", "(IZ)I"⟩, prog_12_method_4_code, 3, some .int, 2),
  (10, ⟨RX10, "areApart", "(II)Z"⟩, prog_12_method_5_code, 3, some .boolean, 2),
  (10, ⟨RX10, "datedLayer", "(II)I"⟩, prog_12_method_6_code, 3, some .int, 2),
  (10, ⟨RX10, "begin", "(I)V"⟩, prog_12_method_7_code, 3, none, 1),
  (10, ⟨RX10, "hear", "(I)V"⟩, prog_12_method_8_code, 2, none, 1),
  (10, ⟨RX10, "narrow", "(II)V"⟩, prog_12_method_9_code, 3, none, 2),
  (10, ⟨RX10, "hearStood", "(I)V"⟩, prog_12_method_10_code, 4, none, 1),
  (10, ⟨RX10, "hearThing", "(I)V"⟩, prog_12_method_11_code, 4, none, 1),
  (10, ⟨RX10, "allow", "(III)V"⟩, prog_12_method_12_code, 5, none, 3),
  (10, ⟨RX10, "mayBe", "(II)Z"⟩, prog_12_method_13_code, 4, some .boolean, 2),
  (10, ⟨RX10, "firstYear", "(II)I"⟩, prog_12_method_14_code, 4, some .int, 2),
  (10, ⟨RX10, "lastYear", "(II)I"⟩, prog_12_method_15_code, 4, some .int, 2),
  (10, ⟨RX10, "settleLeast", "()Z"⟩, prog_12_method_16_code, 3, some .boolean, 0),
  (10, ⟨RX10, "allHaveYears", "()Z"⟩, prog_12_method_17_code, 2, some .boolean, 0),
  (10, ⟨RX10, "settleGreatest", "()V"⟩, prog_12_method_18_code, 3, none, 0),
  (10, ⟨RX10, "sweepUp", "()Z"⟩, prog_12_method_19_code, 4, some .boolean, 0),
  (10, ⟨RX10, "sweepDown", "()Z"⟩, prog_12_method_20_code, 4, some .boolean, 0),
  (10, ⟨RX10, "isCovered", "(I)Z"⟩, prog_12_method_21_code, 2, some .boolean, 1),
  (10, ⟨RX10, "raise", "(II)Z"⟩, prog_12_method_22_code, 3, some .boolean, 2),
  (10, ⟨RX10, "lower", "(II)Z"⟩, prog_12_method_23_code, 3, some .boolean, 2),
  (11, ⟨RX11, "<init>", "()V"⟩, prog_1_method_1_code, 1, none, 0),
  (11, ⟨RX11, "feed", "(IIIII)I"⟩, prog_1_method_2_code, 6, some .int, 5),
  (11, ⟨RX11, "end", "(I)Z"⟩, prog_1_method_3_code, 2, some .boolean, 1),
  (11, ⟨RX11, "next", "(I)I"⟩, prog_1_method_4_code, 2, some .int, 1),
  (11, ⟨RX11, "form", "(II)I"⟩, prog_1_method_5_code, 4, some .int, 2),
  (11, ⟨RX11, "word", "(I)I"⟩, prog_1_method_6_code, 3, some .int, 1),
  (11, ⟨RX11, "street", "(III)Z"⟩, prog_1_method_7_code, 4, some .boolean, 3),
  (11, ⟨RX11, "wall", "(II)I"⟩, prog_1_method_8_code, 3, some .int, 2)]
def x_M3 : List (Nat × MethodName × ByteArray × Nat × Option FieldType × Nat) := [(11, ⟨RX11, "habit", "(III)I"⟩, prog_1_method_9_code, 5, some .int, 3),
  (11, ⟨RX11, "patterns", "()I"⟩, prog_1_method_10_code, 2, some .int, 0),
  (11, ⟨RX11, "fault", "()I"⟩, prog_1_method_11_code, 1, some .int, 0),
  (11, ⟨RX11, "scrawl", "(III)I"⟩, prog_1_method_12_code, 4, some .int, 3),
  (11, ⟨RX11, "photo", "(I)Z"⟩, prog_1_method_13_code, 3, some .boolean, 1),
  (11, ⟨RX11, "drawing", "(II)Z"⟩, prog_1_method_14_code, 4, some .boolean, 2),
  (11, ⟨RX11, "cost", "(IIII)I"⟩, prog_1_method_15_code, 5, some .int, 4),
  (11, ⟨RX11, "read", "(II)I"⟩, prog_1_method_16_code, 5, some .int, 2),
  (11, ⟨RX11, "octet", "(I)I"⟩, prog_1_method_17_code, 2, some .int, 1),
  (11, ⟨RX11, "reading", "(III)I"⟩, prog_1_method_18_code, 4, some .int, 3),
  (11, ⟨RX11, "used", "(III)I"⟩, prog_1_method_19_code, 4, some .int, 3),
  (11, ⟨RX11, "agree", "(III)I"⟩, prog_1_method_20_code, 4, some .int, 3),
  (11, ⟨RX11, "hand", "(II)I"⟩, prog_1_method_21_code, 3, some .int, 2),
  (11, ⟨RX11, "fact", "(IIIII)I"⟩, prog_1_method_22_code, 6, some .int, 5),
  (11, ⟨RX11, "span", "(IIZ)I"⟩, prog_1_method_23_code, 4, some .int, 3),
  (11, ⟨RX11, "laid", "(IIIZ)I"⟩, prog_1_method_24_code, 5, some .int, 4),
  (11, ⟨RX11, "spoilt", "(I)I"⟩, prog_1_method_25_code, 2, some .int, 1),
  (11, ⟨RX11, "persons", "(II)I"⟩, prog_1_method_26_code, 3, some .int, 2),
  (11, ⟨RX11, "person", "(II)I"⟩, prog_1_method_27_code, 4, some .int, 2),
  (11, ⟨RX11, "walk", "(III)I"⟩, prog_1_method_28_code, 4, some .int, 3),
  (11, ⟨RX11, "count", "(I)I"⟩, prog_1_method_29_code, 2, some .int, 1),
  (11, ⟨RX11, "isAbout", "(III)Z"⟩, prog_1_method_30_code, 4, some .boolean, 3),
  (11, ⟨RX11, "areYears", "(III)Z"⟩, prog_1_method_31_code, 3, some .boolean, 3),
  (11, ⟨RX11, "isLetter", "(I)Z"⟩, prog_1_method_32_code, 1, some .boolean, 1),
  (11, ⟨RX11, "isSmallSign", "(I)Z"⟩, prog_1_method_33_code, 1, some .boolean, 1),
  (12, ⟨RX12, "<init>", "()V"⟩, prog_14_method_1_code, 1, none, 0),
  (12, ⟨RX12, "thrown", "()I"⟩, prog_14_method_2_code, 1, some .int, 0),
  (12, ⟨RX12, "refuse", "()I"⟩, prog_14_method_3_code, 1, some .int, 0),
  (12, ⟨RX12, "come", "(I)V"⟩, prog_14_method_4_code, 3, none, 1),
  (12, ⟨RX12, "feed", "(IIIII)I"⟩, prog_14_method_5_code, 6, some .int, 5),
  (12, ⟨RX12, "end", "(I)Z"⟩, prog_14_method_6_code, 2, some .boolean, 1),
  (12, ⟨RX12, "take", "()I"⟩, prog_14_method_7_code, 2, some .int, 0),
  (12, ⟨RX12, "isIn", "(III)Z"⟩, prog_14_method_8_code, 3, some .boolean, 3),
  (12, ⟨RX12, "next", "(I)I"⟩, prog_14_method_9_code, 2, some .int, 1),
  (12, ⟨RX12, "isLetter", "(I)Z"⟩, prog_14_method_10_code, 1, some .boolean, 1),
  (12, ⟨RX12, "form", "(II)I"⟩, prog_14_method_11_code, 4, some .int, 2),
  (12, ⟨RX12, "isThere", "(II)Z"⟩, prog_14_method_12_code, 6, some .boolean, 2),
  (12, ⟨RX12, "word", "(I)I"⟩, prog_14_method_13_code, 4, some .int, 1),
  (12, ⟨RX12, "isCorner", "(I)Z"⟩, prog_14_method_14_code, 1, some .boolean, 1),
  (12, ⟨RX12, "street", "(III)Z"⟩, prog_14_method_15_code, 4, some .boolean, 3)]
def x_M4 : List (Nat × MethodName × ByteArray × Nat × Option FieldType × Nat) := [(12, ⟨RX12, "wall", "(II)I"⟩, prog_14_method_16_code, 3, some .int, 2),
  (12, ⟨RX12, "habit", "(III)I"⟩, prog_14_method_17_code, 4, some .int, 3),
  (12, ⟨RX12, "isHabit", "(III)Z"⟩, prog_14_method_18_code, 5, some .boolean, 3),
  (12, ⟨RX12, "go", "()V"⟩, prog_14_method_19_code, 2, none, 0),
  (12, ⟨RX12, "spelt", "(IIIII)J"⟩, prog_14_method_20_code, 7, some .long, 5),
  (12, ⟨RX12, "sortAtHand", "()I"⟩, prog_14_method_21_code, 1, some .int, 0),
  (12, ⟨RX12, "bad", "(I)Z"⟩, prog_14_method_22_code, 2, some .boolean, 1),
  (12, ⟨RX12, "addRow", "(II)V"⟩, prog_14_method_23_code, 8, none, 2),
  (12, ⟨RX12, "readPattern", "()Z"⟩, prog_14_method_24_code, 4, some .boolean, 0),
  (12, ⟨RX12, "patterns", "()I"⟩, prog_14_method_25_code, 3, some .int, 0),
  (12, ⟨RX12, "fault", "()I"⟩, prog_14_method_26_code, 1, some .int, 0),
  (12, ⟨RX12, "scrawl", "(III)I"⟩, prog_14_method_27_code, 4, some .int, 3),
  (12, ⟨RX12, "isScrawl", "(I)Z"⟩, prog_14_method_28_code, 2, some .boolean, 1),
  (12, ⟨RX12, "isKnown", "(II)Z"⟩, prog_14_method_29_code, 3, some .boolean, 2),
  (12, ⟨RX12, "photo", "(I)Z"⟩, prog_14_method_30_code, 4, some .boolean, 1),
  (12, ⟨RX12, "drawing", "(II)Z"⟩, prog_14_method_31_code, 5, some .boolean, 2),
  (12, ⟨RX12, "photoAt", "(II)I"⟩, prog_14_method_32_code, 5, some .int, 2),
  (12, ⟨RX12, "bitsOf", "(I)I"⟩, prog_14_method_33_code, 3, some .int, 1),
  (12, ⟨RX12, "mayForm", "(III)Z"⟩, prog_14_method_34_code, 4, some .boolean, 3),
  (12, ⟨RX12, "costOf", "(IIII)I"⟩, prog_14_method_35_code, 10, some .int, 4),
  (12, ⟨RX12, "cost", "(IIII)I"⟩, prog_14_method_36_code, 6, some .int, 4),
  (12, ⟨RX12, "cellOf", "(III)I"⟩, prog_14_method_37_code, 3, some .int, 3),
  (12, ⟨RX12, "workAll", "(I)V"⟩, prog_14_method_38_code, 3, none, 1),
  (12, ⟨RX12, "workOut", "(II)V"⟩, prog_14_method_39_code, 8, none, 2),
  (12, ⟨RX12, "fillRow", "(II)V"⟩, prog_14_method_40_code, 11, none, 2),
  (12, ⟨RX12, "walkBest", "(III)V"⟩, prog_14_method_41_code, 9, none, 3),
  (12, ⟨RX12, "isBy", "(IIIII)Z"⟩, prog_14_method_42_code, 6, some .boolean, 5),
  (12, ⟨RX12, "goesOn", "(IIII)Z"⟩, prog_14_method_43_code, 6, some .boolean, 4),
  (12, ⟨RX12, "read", "(II)I"⟩, prog_14_method_44_code, 4, some .int, 2),
  (12, ⟨RX12, "octet", "(I)I"⟩, prog_14_method_45_code, 2, some .int, 1),
  (12, ⟨RX12, "firstOf", "(II)I"⟩, prog_14_method_46_code, 4, some .int, 2),
  (12, ⟨RX12, "usedForm", "(III)I"⟩, prog_14_method_47_code, 13, some .int, 3),
  (12, ⟨RX12, "reading", "(III)I"⟩, prog_14_method_48_code, 6, some .int, 3),
  (12, ⟨RX12, "used", "(III)I"⟩, prog_14_method_49_code, 4, some .int, 3),
  (12, ⟨RX12, "agreement", "(III)I"⟩, prog_14_method_50_code, 9, some .int, 3),
  (12, ⟨RX12, "agree", "(III)I"⟩, prog_14_method_51_code, 4, some .int, 3),
  (12, ⟨RX12, "isWordOf", "(II)Z"⟩, prog_14_method_52_code, 3, some .boolean, 2),
  (12, ⟨RX12, "fact", "(IIIII)I"⟩, prog_14_method_53_code, 7, some .int, 5),
  (12, ⟨RX12, "layerVar", "(II)I"⟩, prog_14_method_54_code, 2, some .int, 2),
  (12, ⟨RX12, "keepYears", "(III)V"⟩, prog_14_method_55_code, 5, none, 3)]
def x_M5 : List (Nat × MethodName × ByteArray × Nat × Option FieldType × Nat) := [(12, ⟨RX12, "leastYear", "(I)I"⟩, prog_14_method_56_code, 3, some .int, 1),
  (12, ⟨RX12, "greatestYear", "(I)I"⟩, prog_14_method_57_code, 3, some .int, 1),
  (12, ⟨RX12, "follows", "(II)V"⟩, prog_14_method_58_code, 6, none, 2),
  (12, ⟨RX12, "counts", "(IIII)Z"⟩, prog_14_method_59_code, 5, some .boolean, 4),
  (12, ⟨RX12, "settle", "(II)V"⟩, prog_14_method_60_code, 5, none, 2),
  (12, ⟨RX12, "isEmpty", "(I)Z"⟩, prog_14_method_61_code, 4, some .boolean, 1),
  (12, ⟨RX12, "keepByReading", "(III)V"⟩, prog_14_method_62_code, 11, none, 3),
  (12, ⟨RX12, "keepSome", "(I)V"⟩, prog_14_method_63_code, 3, none, 1),
  (12, ⟨RX12, "span", "(IIZ)I"⟩, prog_14_method_64_code, 4, some .int, 3),
  (12, ⟨RX12, "laid", "(IIIZ)I"⟩, prog_14_method_65_code, 6, some .int, 4),
  (12, ⟨RX12, "spoilt", "(I)I"⟩, prog_14_method_66_code, 3, some .int, 1),
  (12, ⟨RX12, "takeSpans", "(I)V"⟩, prog_14_method_67_code, 3, none, 1),
  (12, ⟨RX12, "areApart", "(II)Z"⟩, prog_14_method_68_code, 3, some .boolean, 2),
  (12, ⟨RX12, "hasUsed", "(II)Z"⟩, prog_14_method_69_code, 4, some .boolean, 2),
  (12, ⟨RX12, "mayBeOf", "(III)Z"⟩, prog_14_method_70_code, 7, some .boolean, 3),
  (12, ⟨RX12, "hand", "(II)I"⟩, prog_14_method_71_code, 6, some .int, 2),
  (12, ⟨RX12, "areTwo", "(II)Z"⟩, prog_14_method_72_code, 5, some .boolean, 2),
  (12, ⟨RX12, "mayJoin", "(II)Z"⟩, prog_14_method_73_code, 4, some .boolean, 2),
  (12, ⟨RX12, "partInto", "(I)Z"⟩, prog_14_method_74_code, 5, some .boolean, 1),
  (12, ⟨RX12, "partAll", "(II)V"⟩, prog_14_method_75_code, 4, none, 2),
  (12, ⟨RX12, "persons", "(II)I"⟩, prog_14_method_76_code, 3, some .int, 2),
  (12, ⟨RX12, "person", "(II)I"⟩, prog_14_method_77_code, 5, some .int, 2),
  (12, ⟨RX12, "measure", "()V"⟩, prog_14_method_78_code, 4, none, 0),
  (12, ⟨RX12, "walk", "(III)I"⟩, prog_14_method_79_code, 13, some .int, 3),
  (12, ⟨RX12, "count", "(I)I"⟩, prog_14_method_80_code, 2, some .int, 1),
  (15, ⟨"java/lang/Integer", "bitCount", "(I)I"⟩, prog_19_method_49_code, 1, some .int, 1),
  (14, ⟨"java/lang/Math", "max", "(II)I"⟩, prog_20_method_65_code, 2, some .int, 2),
  (14, ⟨"java/lang/Math", "min", "(II)I"⟩, prog_20_method_69_code, 2, some .int, 2),
  (16, ⟨"java/util/Arrays", "rangeCheck", "(III)V"⟩, prog_28_method_30_code, 3, none, 3),
  (16, ⟨"java/util/Arrays", "fill", "([JJ)V"⟩, prog_28_method_101_code, 5, none, 2),
  (16, ⟨"java/util/Arrays", "fill", "([II)V"⟩, prog_28_method_103_code, 4, none, 2),
  (16, ⟨"java/util/Arrays", "fill", "([IIII)V"⟩, prog_28_method_104_code, 5, none, 4),
  (17, ⟨"java/lang/String", "length", "()I"⟩, prog_22_method_54_code, 1, some .int, 0),
  (17, ⟨"java/lang/String", "charAt", "(I)C"⟩, prog_22_method_56_code, 2, some .char, 1),
  (17, ⟨"java/lang/String", "coder", "()B"⟩, prog_22_method_152_code, 1, some .byte, 0),
  (17, ⟨"java/lang/String", "isLatin1", "()Z"⟩, prog_22_method_154_code, 1, some .boolean, 0),
  (17, ⟨"java/lang/String", "checkIndex", "(II)V"⟩, prog_22_method_155_code, 2, none, 2),
  (18, ⟨"java/lang/StringLatin1", "charAt", "([BI)C"⟩, prog_23_method_2_code, 2, some .char, 2),
  (19, ⟨"jdk/internal/util/Preconditions", "checkIndex", "(IILjava/util/function/BiFunction;)I"⟩, prog_30_method_11_code, 3, some .int, 3),
  (13, x, code, 7, ret, 1)]
def x_Ms : List (List (Nat × MethodName × ByteArray × Nat × Option FieldType × Nat)) := [x_M0, x_M1, x_M2, x_M3, x_M4, x_M5]
def x_md : Nat × MethodName × ByteArray × Nat × Option FieldType × Nat := (0, x, code, 0, none, 0)
def x_m (m : Nat) : Nat × MethodName × ByteArray × Nat × Option FieldType × Nat := (x_Ms.getD (m / 40) []).getD (m % 40) x_md
def x_mo (m : Nat) : Nat := (x_m m).1
def x_mY (m : Nat) : MethodName := (x_m m).2.1
def x_mB (m : Nat) : ByteArray := (x_m m).2.2.1
def x_mL (m : Nat) : Nat := (x_m m).2.2.2.1
def x_mR (m : Nat) : Option FieldType := (x_m m).2.2.2.2.1
def x_mN (m : Nat) : Nat := (x_m m).2.2.2.2.2
def x_law : Nat := 239
def x_tbl : List Cond := lw_tbl.filter goodWord
def x_at (p : Nat) (w : Cond) : Bool := decide (lw_tbl[p]? = some w) && goodWord w
theorem x_at_mem {p : Nat} {w : Cond} (h : x_at p w = true) : w ∈ x_tbl := by
  simp only [x_at, Bool.and_eq_true, decide_eq_true_eq] at h
  exact List.mem_filter.mpr ⟨List.mem_of_getElem? h.1, h.2⟩
def x_ats : List Nat → List Cond → Bool
  | [], [] => true
  | p :: ps, w :: ws => x_at p w && x_ats ps ws
  | _, _ => false
theorem x_ats_mem : ∀ {ps : List Nat} {ws : List Cond}, x_ats ps ws = true → ∀ w ∈ ws, w ∈ x_tbl
  | [], [], _, w, h => absurd h List.not_mem_nil
  | [], _ :: _, h, _, _ => by simp [x_ats] at h
  | _ :: _, [], h, _, _ => by simp [x_ats] at h
  | p :: ps, v :: vs, h, w, hw => by
    simp only [x_ats, Bool.and_eq_true] at h
    rcases List.mem_cons.mp hw with rfl | hw
    · exact x_at_mem h.1
    · exact x_ats_mem h.2 w hw
def x_C (ci : Nat) : vw_C := vwCl.getD ci ("", fun _ => ("", "", "", false), 0)
def x_TC : List (List Nat) := [[2, 2, 2, 2, 2, 2, 0], [2, 2, 2, 2, 2, 2, 2, 2, 2, 2, 2, 2, 0, 0, 0], [2, 2, 2, 2, 0, 2, 2, 2, 0, 0], [2, 2, 2, 2, 2, 2, 2, 0], [2, 2, 2, 0, 0], [2, 2, 2, 2, 0, 0, 0, 0, 3], [2, 2, 2, 2, 2, 2, 2, 2, 2, 2, 2, 2, 2, 2, 0, 0], [2, 2, 2, 2, 2, 2, 2, 2, 2, 2], [2, 0], [2, 2, 2, 2, 2, 0, 0, 0], [2, 2, 2, 2, 2, 2, 2, 2, 2, 2, 0, 0, 3], [2, 2, 2, 2, 2, 2, 2, 2, 2, 2, 2, 2, 0, 0], [0, 2, 2, 0, 0, 0, 0, 2, 2, 2, 2, 2, 2, 2, 2, 2, 2, 2, 2, 2, 0, 0, 0, 0, 0, 0, 0, 0, 0, 0, 0, 0, 1, 2, 2, 2, 2, 0, 2, 2, 2, 2, 2, 2, 2, 2, 2, 2, 2, 2, 0, 0, 0, 2, 2, 2, 2, 2, 2, 2, 2, 0, 0, 2, 2, 2, 2, 2, 2, 2, 0, 2, 3, 3, 2, 2, 2, 2, 2, 2, 2, 2, 0, 0, 2, 2, 2]]
def x_tc (ci k : Nat) : Nat := (x_TC.getD ci []).getD k 9
def x_nf (ci : Nat) : Nat := (x_TC.getD ci []).length
theorem x_u0 : ∀ w ∈ u_ws RX0 TX0 7, w ∈ x_tbl := x_ats_mem (ps := [489, 491, 493, 495, 497, 499, 501]) (by decide +kernel)
theorem x_u1 : ∀ w ∈ u_ws RX1 TX1 15, w ∈ x_tbl := x_ats_mem (ps := [328, 330, 332, 334, 336, 338, 340, 342, 344, 346, 348, 350, 352, 354, 356]) (by decide +kernel)
theorem x_u2 : ∀ w ∈ u_ws RX2 TX2 10, w ∈ x_tbl := x_ats_mem (ps := [569, 571, 573, 575, 577, 579, 581, 583, 585, 587]) (by decide +kernel)
theorem x_u3 : ∀ w ∈ u_ws RX3 TX3 8, w ∈ x_tbl := x_ats_mem (ps := [172, 174, 176, 178, 180, 182, 184, 186]) (by decide +kernel)
theorem x_u4 : ∀ w ∈ u_ws RX4 TX4 5, w ∈ x_tbl := x_ats_mem (ps := [284, 286, 288, 290, 292]) (by decide +kernel)
theorem x_u5 : ∀ w ∈ u_ws RX5 TX5 9, w ∈ x_tbl := x_ats_mem (ps := [249, 251, 253, 255, 257, 259, 261, 263, 265]) (by decide +kernel)
theorem x_u6 : ∀ w ∈ u_ws RX6 TX6 16, w ∈ x_tbl := x_ats_mem (ps := [437, 439, 441, 443, 445, 447, 449, 451, 453, 455, 457, 459, 461, 463, 465, 467]) (by decide +kernel)
theorem x_u7 : ∀ w ∈ u_ws RX7 TX7 10, w ∈ x_tbl := x_ats_mem (ps := [394, 396, 398, 400, 402, 404, 406, 408, 410, 412]) (by decide +kernel)
theorem x_u8 : ∀ w ∈ u_ws RX8 TX8 2, w ∈ x_tbl := x_ats_mem (ps := [145, 147]) (by decide +kernel)
theorem x_u9 : ∀ w ∈ u_ws RX9 TX9 8, w ∈ x_tbl := x_ats_mem (ps := [211, 213, 215, 217, 219, 221, 223, 225]) (by decide +kernel)
theorem x_u10 : ∀ w ∈ u_ws RX10 TX10 13, w ∈ x_tbl := x_ats_mem (ps := [524, 526, 528, 530, 532, 534, 536, 538, 540, 542, 544, 546, 548]) (by decide +kernel)
theorem x_u11 : ∀ w ∈ u_ws RX11 TX11 14, w ∈ x_tbl := x_ats_mem (ps := [604, 606, 608, 610, 612, 614, 616, 618, 620, 622, 624, 626, 628, 630]) (by decide +kernel)
theorem x_u12 : ∀ w ∈ u_ws RX12 TX12 87, w ∈ x_tbl := x_ats_mem (ps := [1421, 1423, 1425, 1427, 1429, 1431, 1433, 1435, 1437, 1439, 1441, 1443, 1445, 1447, 1449, 1451, 1453, 1455, 1457, 1459, 1461, 1463, 1465, 1467, 1469, 1471, 1473, 1475, 1477, 1479, 1481, 1483, 1485, 1487, 1489, 1491, 1493, 1495, 1497, 1499, 1501, 1503, 1505, 1507, 1509, 1511, 1513, 1515, 1517, 1519, 1521, 1523, 1525, 1527, 1529, 1531, 1533, 1535, 1537, 1539, 1541, 1543, 1545, 1547, 1549, 1551, 1553, 1555, 1557, 1559, 1561, 1563, 1565, 1567, 1569, 1571, 1573, 1575, 1577, 1579, 1581, 1583, 1585, 1587, 1589, 1591, 1593]) (by decide +kernel)
def x_FL : List (List (Nat × Nat × Nat × Nat)) := [[(9, 0, 0, 476), (15, 0, 1, 478), (18, 0, 2, 480), (21, 0, 3, 482), (24, 0, 4, 484), (27, 0, 5, 486), (30, 0, 6, 487)],
  [(62, 8, 1, 143), (9, 1, 0, 302), (15, 1, 1, 305), (18, 1, 2, 307), (21, 1, 3, 310), (24, 1, 4, 311), (27, 1, 5, 312), (30, 1, 6, 313), (33, 1, 7, 315), (36, 1, 8, 317), (39, 1, 9, 318), (42, 1, 10, 319), (45, 1, 11, 320), (48, 1, 12, 322), (52, 1, 13, 324), (55, 1, 14, 326)],
  [(98, 1, 0, 303), (52, 7, 9, 391), (34, 2, 0, 557), (38, 2, 1, 558), (42, 2, 2, 559), (9, 2, 3, 560), (15, 2, 4, 562), (19, 2, 5, 563), (22, 2, 6, 564), (25, 2, 7, 565), (28, 2, 8, 566), (31, 2, 9, 567)],
  [(49, 8, 1, 144), (9, 3, 0, 157), (15, 3, 1, 159), (18, 3, 2, 161), (21, 3, 3, 163), (24, 3, 4, 165), (27, 3, 5, 167), (30, 3, 6, 168), (33, 3, 7, 169)],
  [(62, 5, 1, 236), (65, 5, 2, 238), (55, 5, 3, 240), (36, 5, 4, 242), (9, 4, 0, 276), (15, 4, 1, 277), (19, 4, 2, 278), (23, 4, 3, 280), (27, 4, 4, 282)],
  [(46, 8, 1, 142), (39, 5, 0, 234), (9, 5, 1, 235), (15, 5, 2, 237), (19, 5, 3, 239), (22, 5, 4, 241), (26, 5, 5, 243), (29, 5, 6, 245), (32, 5, 7, 247), (35, 5, 8, 248)],
  [(146, 3, 0, 158), (137, 3, 1, 160), (204, 3, 2, 162), (201, 3, 3, 164), (198, 3, 4, 166), (192, 3, 7, 170), (179, 4, 2, 279), (165, 4, 3, 281), (108, 1, 2, 308), (143, 1, 6, 314), (159, 1, 7, 316), (128, 1, 11, 321), (118, 7, 0, 366), (121, 7, 1, 368), (124, 7, 2, 370), (207, 7, 3, 372), (210, 7, 4, 375), (218, 7, 5, 380), (213, 7, 6, 384), (224, 7, 7, 386), (236, 7, 8, 388), (239, 7, 9, 393), (50, 6, 0, 421), (54, 6, 1, 422), (58, 6, 2, 423), (62, 6, 3, 424), (9, 6, 4, 425), (15, 6, 5, 426), (18, 6, 6, 427), (22, 6, 7, 428), (25, 6, 8, 429), (28, 6, 9, 430), (31, 6, 10, 431), (34, 6, 11, 432), (37, 6, 12, 433), (40, 6, 13, 434), (43, 6, 14, 435), (47, 6, 15, 436)],
  [(9, 7, 0, 365), (15, 7, 1, 367), (19, 7, 2, 369), (22, 7, 3, 371), (25, 7, 4, 374), (28, 7, 5, 377), (31, 7, 6, 381), (34, 7, 7, 385), (37, 7, 8, 387), (40, 7, 9, 390)],
  [(9, 8, 0, 139), (15, 8, 1, 140)],
  [(9, 9, 0, 199), (15, 9, 1, 200), (18, 9, 2, 201), (21, 9, 3, 203), (24, 9, 4, 204), (27, 9, 5, 205), (31, 9, 6, 206), (34, 9, 7, 208)],
  [(163, 9, 2, 202), (158, 9, 7, 209), (169, 1, 0, 304), (172, 1, 1, 306), (133, 7, 5, 378), (136, 7, 6, 382), (91, 0, 0, 477), (94, 0, 1, 479), (97, 0, 2, 481), (114, 0, 3, 483), (120, 0, 4, 485), (43, 10, 0, 510), (47, 10, 1, 511), (51, 10, 2, 512), (55, 10, 3, 513), (9, 10, 4, 514), (15, 10, 5, 515), (18, 10, 6, 516), (22, 10, 7, 517), (26, 10, 8, 518), (29, 10, 9, 519), (32, 10, 10, 520), (36, 10, 11, 521), (39, 10, 12, 522)],
  [(105, 8, 1, 141), (276, 3, 7, 171), (278, 9, 6, 207), (281, 9, 7, 210), (148, 5, 5, 244), (138, 5, 6, 246), (145, 4, 4, 283), (170, 1, 2, 309), (284, 1, 12, 323), (287, 1, 13, 325), (290, 1, 14, 327), (200, 7, 3, 373), (203, 7, 4, 376), (187, 7, 5, 379), (190, 7, 6, 383), (212, 7, 8, 389), (209, 7, 9, 392), (236, 0, 6, 488), (250, 10, 12, 523), (227, 2, 3, 561), (264, 2, 9, 568), (12, 11, 0, 590), (19, 11, 1, 591), (26, 11, 2, 592), (35, 11, 3, 593), (42, 11, 4, 594), (49, 11, 5, 595), (56, 11, 6, 596), (65, 11, 7, 597), (72, 11, 8, 598), (81, 11, 9, 599), (90, 11, 10, 600), (94, 11, 11, 601), (98, 11, 12, 602), (102, 11, 13, 603)],
  [(190, 12, 0, 1334), (7, 12, 1, 1335), (13, 12, 2, 1336), (193, 12, 3, 1337), (359, 12, 4, 1338), (204, 12, 5, 1339), (16, 12, 6, 1340), (20, 12, 7, 1341), (23, 12, 8, 1342), (26, 12, 9, 1343), (29, 12, 10, 1344), (32, 12, 11, 1345), (35, 12, 12, 1346), (38, 12, 13, 1347), (41, 12, 14, 1348), (44, 12, 15, 1349), (47, 12, 16, 1350), (50, 12, 17, 1351), (53, 12, 18, 1352), (56, 12, 19, 1353), (207, 12, 20, 1354), (222, 12, 21, 1355), (228, 12, 22, 1356), (237, 12, 23, 1357), (234, 12, 24, 1358), (240, 12, 25, 1359), (243, 12, 26, 1360), (262, 12, 27, 1361), (265, 12, 28, 1362), (277, 12, 29, 1363), (291, 12, 30, 1364), (268, 12, 31, 1365), (246, 12, 32, 1366), (59, 12, 33, 1367), (62, 12, 34, 1368), (65, 12, 35, 1369), (68, 12, 36, 1370), (294, 12, 37, 1371), (72, 12, 38, 1372), (75, 12, 39, 1373), (78, 12, 40, 1374), (81, 12, 41, 1375), (84, 12, 42, 1376), (87, 12, 43, 1377), (90, 12, 44, 1378), (93, 12, 45, 1379), (96, 12, 46, 1380), (99, 12, 47, 1381), (102, 12, 48, 1382), (105, 12, 49, 1383), (297, 12, 50, 1384), (303, 12, 51, 1385), (306, 12, 52, 1386), (108, 12, 53, 1387), (111, 12, 54, 1388), (115, 12, 55, 1389), (118, 12, 56, 1390), (121, 12, 57, 1391), (124, 12, 58, 1392), (127, 12, 59, 1393), (130, 12, 60, 1394), (331, 12, 61, 1395), (328, 12, 62, 1396), (133, 12, 63, 1397), (136, 12, 64, 1398), (139, 12, 65, 1399), (142, 12, 66, 1400), (145, 12, 67, 1401), (148, 12, 68, 1402), (151, 12, 69, 1403), (377, 12, 70, 1404), (154, 12, 71, 1405), (408, 12, 72, 1406), (386, 12, 73, 1407), (157, 12, 74, 1408), (160, 12, 75, 1409), (163, 12, 76, 1410), (166, 12, 77, 1411), (169, 12, 78, 1412), (172, 12, 79, 1413), (175, 12, 80, 1414), (178, 12, 81, 1415), (435, 12, 82, 1416), (438, 12, 83, 1417), (181, 12, 84, 1418), (184, 12, 85, 1419), (187, 12, 86, 1420)],
  [],
  [],
  [],
  [],
  [],
  [],
  []]
def x_fc (o : Nat) (e : Nat × Nat × Nat × Nat) : Cond := .fieldLink (x_o o) e.1 ((x_C e.2.1).2.1 e.2.2.1).1 ((x_C e.2.1).2.1 e.2.2.1).2.1 ((x_C e.2.1).2.1 e.2.2.1).2.2.1
def x_fok (o : Nat) : Bool := (x_FL.getD o []).all (fun e => x_at e.2.2.2 (x_fc o e) && decide (e.2.1 < 13) && decide (e.2.2.1 < x_nf e.2.1))
theorem x_fok0 : x_fok 0 = true := by decide +kernel
theorem x_fok1 : x_fok 1 = true := by decide +kernel
theorem x_fok2 : x_fok 2 = true := by decide +kernel
theorem x_fok3 : x_fok 3 = true := by decide +kernel
theorem x_fok4 : x_fok 4 = true := by decide +kernel
theorem x_fok5 : x_fok 5 = true := by decide +kernel
theorem x_fok6 : x_fok 6 = true := by decide +kernel
theorem x_fok7 : x_fok 7 = true := by decide +kernel
theorem x_fok8 : x_fok 8 = true := by decide +kernel
theorem x_fok9 : x_fok 9 = true := by decide +kernel
theorem x_fok10 : x_fok 10 = true := by decide +kernel
theorem x_fok11 : x_fok 11 = true := by decide +kernel
theorem x_fok12 : x_fok 12 = true := by decide +kernel
theorem x_fok13 : x_fok 13 = true := by decide +kernel
theorem x_fok14 : x_fok 14 = true := by decide +kernel
theorem x_fok15 : x_fok 15 = true := by decide +kernel
theorem x_fok16 : x_fok 16 = true := by decide +kernel
theorem x_fok17 : x_fok 17 = true := by decide +kernel
theorem x_fok18 : x_fok 18 = true := by decide +kernel
theorem x_fok19 : x_fok 19 = true := by decide +kernel
theorem x_foks : ∀ o, o < 20 → x_fok o = true := by
  intro o h
  match o, h with
  | 0, _ => exact x_fok0
  | 1, _ => exact x_fok1
  | 2, _ => exact x_fok2
  | 3, _ => exact x_fok3
  | 4, _ => exact x_fok4
  | 5, _ => exact x_fok5
  | 6, _ => exact x_fok6
  | 7, _ => exact x_fok7
  | 8, _ => exact x_fok8
  | 9, _ => exact x_fok9
  | 10, _ => exact x_fok10
  | 11, _ => exact x_fok11
  | 12, _ => exact x_fok12
  | 13, _ => exact x_fok13
  | 14, _ => exact x_fok14
  | 15, _ => exact x_fok15
  | 16, _ => exact x_fok16
  | 17, _ => exact x_fok17
  | 18, _ => exact x_fok18
  | 19, _ => exact x_fok19
  | o + 20, h => exact absurd h (by omega)
def x_fl (o idx : Nat) : Option (Nat × Nat × Nat × Nat) := (x_FL.getD o []).find? (fun e => e.1 == idx)
def x_CL : List (List (Nat × Nat × Nat × List Nat)) := [[(3, 4, 0, [475, 131, 132])],
  [(3, 4, 0, [301, 131, 132]), (58, 0, 7, [870, 871, 872]), (67, 0, 78, [874, 677, 678]), (71, 5, 144, [681]), (74, 1, 230, [905, 197])],
  [(3, 4, 0, [556, 131, 132]), (46, 0, 9, [1133, 1036, 1037]), (57, 0, 14, [1134, 1136, 45]), (66, 0, 15, [1138, 1140, 46]), (70, 0, 75, [1142, 1024, 1025]), (73, 0, 93, [1143, 1144, 1145]), (60, 1, 226, [1147, 963]), (78, 0, 17, [1197, 1199, 48]), (86, 0, 74, [1201, 995, 996]), (89, 0, 18, [1202, 1204, 49]), (92, 0, 19, [1206, 1208, 50]), (82, 0, 20, [1210, 1212, 51]), (95, 0, 21, [1214, 1216, 52])],
  [(3, 4, 0, [156, 131, 132]), (37, 5, 143, [658]), (41, 0, 27, [672, 674, 0]), (54, 0, 78, [676, 677, 678]), (58, 5, 144, [681]), (45, 0, 28, [683, 685, 1]), (61, 0, 30, [721, 722, 723])],
  [(3, 4, 0, [274, 131, 132]), (30, 1, 230, [275, 197]), (39, 1, 38, [827, 828]), (58, 1, 39, [830, 831]), (43, 0, 36, [833, 835, 11]), (47, 0, 37, [837, 839, 12]), (51, 0, 35, [841, 843, 13])],
  [(3, 4, 0, [233, 131, 132]), (43, 0, 42, [733, 735, 3]), (51, 0, 44, [737, 739, 4]), (59, 0, 78, [741, 677, 678]), (62, 5, 144, [681]), (66, 0, 45, [743, 745, 5]), (76, 0, 48, [747, 749, 6]), (80, 1, 50, [751, 752]), (84, 0, 49, [759, 761, 7]), (88, 0, 232, [763, 764, 765]), (94, 0, 233, [773, 774, 775]), (55, 0, 43, [811, 813, 8]), (69, 0, 46, [815, 817, 9]), (73, 0, 47, [819, 821, 10])],
  [(3, 4, 0, [420, 131, 132]), (110, 0, 10, [897, 898, 899]), (114, 0, 11, [901, 902, 903]), (125, 0, 58, [910, 912, 14]), (140, 0, 59, [914, 916, 15]), (149, 1, 225, [918, 919]), (154, 1, 227, [924, 703]), (131, 0, 30, [925, 722, 723]), (76, 0, 54, [934, 894, 895]), (79, 0, 55, [935, 937, 16]), (83, 0, 56, [939, 941, 17]), (87, 0, 73, [943, 944, 945]), (92, 0, 60, [953, 955, 18]), (162, 0, 57, [957, 907, 908]), (95, 0, 61, [958, 960, 19]), (170, 1, 226, [962, 963]), (173, 1, 231, [965, 948]), (98, 0, 62, [966, 968, 20]), (182, 0, 64, [970, 972, 21]), (195, 0, 65, [974, 976, 22]), (185, 0, 34, [978, 979, 980]), (188, 0, 63, [982, 984, 23]), (102, 0, 66, [986, 988, 24]), (215, 0, 67, [990, 992, 25]), (221, 0, 74, [994, 995, 996]), (105, 0, 68, [998, 1000, 26]), (227, 1, 230, [1002, 197]), (230, 0, 69, [1003, 1005, 27]), (233, 1, 70, [1007, 1008]), (66, 0, 9, [1035, 1036, 1037]), (72, 0, 53, [1039, 931, 932])],
  [(3, 4, 0, [364, 131, 132]), (43, 1, 231, [947, 948])],
  [(3, 4, 0, [138, 131, 132])],
  [(3, 4, 0, [194, 131, 132]), (38, 1, 230, [196, 197]), (44, 1, 84, [695, 696]), (48, 0, 81, [698, 700, 2]), (52, 1, 227, [702, 703]), (58, 0, 86, [1238, 1240, 53]), (62, 0, 87, [1242, 1244, 54]), (65, 0, 88, [1246, 1248, 55])],
  [(3, 4, 0, [509, 131, 132]), (59, 0, 95, [1044, 1046, 28]), (79, 0, 9, [1048, 1036, 1037]), (82, 1, 230, [1049, 197]), (88, 1, 229, [1050, 1051]), (63, 0, 2, [1053, 1054, 1055]), (69, 0, 96, [1057, 1059, 29]), (100, 0, 94, [1061, 1062, 1063]), (104, 0, 97, [1065, 1067, 30]), (115, 1, 226, [1069, 963]), (121, 1, 227, [1070, 703]), (108, 0, 98, [1071, 1073, 31]), (124, 0, 74, [1075, 995, 996]), (129, 0, 100, [1076, 1078, 32]), (111, 0, 99, [1080, 1082, 33]), (72, 0, 104, [1084, 1086, 34]), (143, 0, 102, [1088, 1090, 35]), (139, 0, 101, [1092, 1094, 36]), (146, 0, 105, [1096, 1098, 37]), (149, 0, 107, [1100, 1102, 38]), (166, 0, 110, [1104, 1106, 39]), (175, 0, 109, [1108, 1110, 40]), (182, 0, 83, [1112, 855, 856]), (76, 0, 106, [1113, 1115, 41]), (152, 0, 103, [1117, 1119, 42]), (155, 0, 108, [1121, 1123, 43]), (179, 0, 111, [1125, 1127, 44])],
  [(3, 4, 0, [130, 131, 132]), (11, 3, 76, [136]), (18, 3, 24, [154]), (25, 2, 79, [191, 192]), (32, 2, 40, [230, 231]), (41, 2, 32, [271, 272]), (48, 3, 3, [299]), (55, 3, 71, [362]), (62, 2, 51, [417, 418]), (71, 3, 0, [473]), (78, 2, 89, [506, 507]), (87, 2, 12, [553, 554]), (108, 0, 77, [637, 638, 639]), (112, 0, 25, [653, 654, 655]), (116, 0, 72, [660, 661, 662]), (119, 0, 26, [668, 669, 670]), (123, 0, 80, [691, 692, 693]), (127, 0, 82, [709, 710, 711]), (130, 0, 29, [717, 718, 719]), (134, 0, 41, [729, 730, 731]), (141, 0, 33, [823, 824, 825]), (151, 0, 83, [854, 855, 856]), (155, 0, 4, [858, 859, 860]), (159, 0, 5, [866, 867, 868]), (163, 0, 6, [879, 880, 881]), (167, 0, 8, [888, 889, 890]), (173, 1, 143, [892, 658]), (177, 0, 54, [893, 894, 895]), (181, 0, 57, [906, 907, 908]), (184, 0, 53, [930, 931, 932]), (206, 0, 74, [1014, 995, 996]), (215, 0, 75, [1023, 1024, 1025]), (218, 0, 52, [1031, 1032, 1033]), (221, 0, 90, [1040, 1041, 1042]), (224, 0, 13, [1129, 1130, 1131]), (230, 0, 141, [1152, 1154, 47]), (293, 0, 7, [1156, 871, 872]), (258, 0, 31, [1157, 1158, 1159]), (233, 1, 142, [1161, 1162]), (239, 0, 1, [1164, 1165, 1166]), (243, 0, 92, [1172, 1173, 1174]), (247, 0, 94, [1180, 1062, 1063]), (254, 0, 91, [1185, 1186, 1187]), (261, 0, 16, [1193, 1194, 1195]), (267, 0, 22, [1222, 1223, 1224]), (270, 0, 23, [1230, 1231, 1232]), (273, 0, 85, [1234, 1235, 1236])],
  [(1, 4, 0, [1332, 131, 132]), (196, 0, 148, [1604, 1606, 57]), (200, 1, 152, [1616, 1617]), (210, 0, 151, [1627, 1629, 58]), (214, 1, 154, [1631, 1632]), (218, 0, 156, [1634, 1636, 59]), (225, 1, 158, [1642, 1643]), (231, 0, 162, [1653, 1655, 60]), (280, 0, 163, [1661, 1663, 61]), (287, 0, 168, [1668, 1670, 62]), (271, 0, 165, [1672, 1674, 63]), (256, 1, 164, [1676, 1677]), (274, 0, 166, [1680, 1682, 64]), (283, 0, 167, [1684, 1686, 65]), (300, 0, 172, [1700, 1702, 66]), (321, 0, 173, [1712, 1714, 67]), (324, 0, 179, [1716, 1718, 68]), (309, 0, 176, [1720, 1722, 69]), (314, 0, 178, [1725, 1727, 70]), (317, 1, 177, [1729, 1730]), (356, 0, 182, [1736, 1738, 71]), (334, 0, 183, [1740, 1742, 72]), (337, 0, 184, [1744, 1746, 73]), (340, 1, 181, [1748, 1749]), (344, 0, 185, [1751, 1753, 74]), (348, 0, 187, [1755, 1757, 75]), (352, 0, 186, [1759, 1761, 76]), (362, 0, 147, [1767, 1769, 77]), (365, 0, 191, [1775, 1777, 78]), (368, 0, 190, [1779, 1781, 79]), (371, 0, 194, [1791, 1793, 80]), (374, 0, 196, [1799, 1801, 81]), (414, 0, 204, [1807, 1809, 82]), (390, 0, 203, [1811, 1813, 83]), (393, 1, 198, [1815, 1816]), (396, 0, 199, [1818, 1820, 84]), (399, 0, 206, [1822, 1824, 85]), (411, 0, 207, [1826, 1828, 86]), (402, 0, 202, [1830, 1832, 87]), (380, 0, 200, [1834, 1836, 88]), (383, 0, 201, [1838, 1840, 89]), (405, 0, 205, [1842, 1844, 90]), (420, 0, 211, [1858, 1860, 91]), (423, 0, 213, [1862, 1864, 92]), (426, 0, 214, [1866, 1868, 93]), (417, 0, 212, [1870, 1872, 94]), (444, 0, 219, [1878, 1880, 95]), (441, 0, 218, [1882, 1884, 96]), (432, 0, 217, [1886, 1888, 97]), (429, 0, 216, [1890, 1892, 98]), (447, 0, 222, [1902, 1904, 99])],
  [(15, 2, 112, [127, 128]), (19, 0, 113, [633, 634, 635]), (24, 0, 114, [641, 642, 643]), (29, 0, 115, [645, 646, 647]), (33, 0, 116, [649, 650, 651]), (38, 0, 117, [664, 665, 666]), (42, 0, 118, [687, 688, 689]), (47, 0, 119, [705, 706, 707]), (51, 0, 120, [713, 714, 715]), (56, 0, 121, [725, 726, 727]), (61, 0, 122, [846, 847, 848]), (65, 0, 123, [850, 851, 852]), (69, 0, 124, [862, 863, 864]), (73, 0, 125, [875, 876, 877]), (78, 0, 126, [884, 885, 886]), (83, 0, 127, [926, 927, 928]), (96, 0, 129, [1010, 1011, 1012]), (100, 0, 130, [1015, 1016, 1017]), (104, 0, 131, [1019, 1020, 1021]), (108, 0, 132, [1027, 1028, 1029]), (112, 0, 133, [1148, 1149, 1150]), (116, 0, 134, [1168, 1169, 1170]), (121, 0, 135, [1176, 1177, 1178]), (126, 0, 136, [1181, 1182, 1183]), (130, 0, 137, [1189, 1190, 1191]), (134, 0, 138, [1218, 1219, 1220]), (138, 0, 139, [1226, 1227, 1228]), (142, 0, 140, [1250, 1251, 1252]), (7, 0, 128, [1258, 1259, 1260]), (18, 2, 145, [1329, 1330]), (93, 0, 146, [1596, 1597, 1598]), (23, 0, 149, [1600, 1601, 1602]), (28, 0, 150, [1608, 1609, 1610]), (32, 0, 153, [1612, 1613, 1614]), (37, 0, 155, [1619, 1620, 1621]), (41, 0, 157, [1623, 1624, 1625]), (46, 0, 159, [1638, 1639, 1640]), (50, 0, 160, [1645, 1646, 1647]), (55, 0, 161, [1649, 1650, 1651]), (60, 0, 169, [1657, 1658, 1659]), (64, 0, 170, [1688, 1689, 1690]), (68, 0, 171, [1692, 1693, 1694]), (72, 0, 174, [1696, 1697, 1698]), (77, 0, 175, [1704, 1705, 1706]), (82, 0, 180, [1708, 1709, 1710]), (86, 0, 188, [1732, 1733, 1734]), (92, 0, 189, [1763, 1764, 1765]), (99, 0, 192, [1771, 1772, 1773]), (103, 0, 193, [1783, 1784, 1785]), (107, 0, 195, [1787, 1788, 1789]), (115, 0, 197, [1795, 1796, 1797]), (120, 0, 208, [1803, 1804, 1805]), (125, 0, 209, [1846, 1847, 1848]), (129, 0, 210, [1850, 1851, 1852]), (111, 0, 215, [1854, 1855, 1856]), (133, 0, 220, [1874, 1875, 1876]), (137, 0, 221, [1894, 1895, 1896]), (141, 0, 223, [1898, 1899, 1900]), (145, 0, 224, [1906, 1907, 1908])],
  [],
  [],
  [(13, 1, 228, [950, 951])],
  [(335, 0, 234, [767, 768, 769]), (492, 0, 235, [777, 778, 779]), (495, 1, 237, [781, 782]), (1059, 1, 238, [789, 790])],
  [(9, 1, 236, [784, 785])],
  []]
def x_oi : MethodName := ⟨"java/lang/Object", "<init>", "()V"⟩
def x_cc (o : Nat) (e : Nat × Nat × Nat × List Nat) : List Cond := match e.2.1 with
  | 0 => [.methodLink (x_o o) e.1 (x_mY e.2.2.1), .instanceMethod (x_mY e.2.2.1), .selects (x_mY e.2.2.1).cls (x_mY e.2.2.1) (x_mY e.2.2.1)]
  | 1 => [.methodLink (x_o o) e.1 (x_mY e.2.2.1), .static (x_mY e.2.2.1)]
  | 2 => [.methodLink (x_o o) e.1 (x_mY e.2.2.1), .instanceMethod (x_mY e.2.2.1)]
  | 3 => [.instanceMethod (x_mY e.2.2.1)]
  | 4 => [.methodLink (x_o o) e.1 x_oi, .instanceMethod x_oi, .code x_oi ⟨#[0xb1]⟩ 1 none]
  | _ => [.static (x_mY e.2.2.1)]
def x_NL : List (Nat × Nat × Nat) := [(11, 11, 76), (11, 18, 24), (11, 48, 3), (11, 55, 71), (11, 71, 0), (3, 37, 143), (3, 58, 144), (5, 62, 144), (1, 71, 144)]
def x_nc (q : Nat × Nat × Nat) : Cond := .methodLinkNest (x_o q.1) q.2.1 (x_mY q.2.2) "ScrawlHouse"
theorem x_nok : x_NL.map (fun q => some (x_nc q)) = [135, 153, 298, 361, 472, 657, 680, 742, 883].map (fun p => lw_tbl[p]?) := by decide +kernel
def x_cok (o : Nat) : Bool := (x_CL.getD o []).all (fun e => x_ats e.2.2.2 (x_cc o e) && decide (e.2.2.1 < 239) && (if e.2.1 = 3 ∨ e.2.1 = 5 then decide ((o, e.1, e.2.2.1) ∈ x_NL) else true) && (if e.2.1 = 2 ∨ e.2.1 = 3 then decide ((x_mY e.2.2.1).name = "<init>") && decide (x_mR e.2.2.1 = none) else true))
theorem x_cok0 : x_cok 0 = true := by decide +kernel
theorem x_cok1 : x_cok 1 = true := by decide +kernel
theorem x_cok2 : x_cok 2 = true := by decide +kernel
theorem x_cok3 : x_cok 3 = true := by decide +kernel
theorem x_cok4 : x_cok 4 = true := by decide +kernel
theorem x_cok5 : x_cok 5 = true := by decide +kernel
theorem x_cok6 : x_cok 6 = true := by decide +kernel
theorem x_cok7 : x_cok 7 = true := by decide +kernel
theorem x_cok8 : x_cok 8 = true := by decide +kernel
theorem x_cok9 : x_cok 9 = true := by decide +kernel
theorem x_cok10 : x_cok 10 = true := by decide +kernel
theorem x_cok11 : x_cok 11 = true := by decide +kernel
theorem x_cok12 : x_cok 12 = true := by decide +kernel
theorem x_cok13 : x_cok 13 = true := by decide +kernel
theorem x_cok14 : x_cok 14 = true := by decide +kernel
theorem x_cok15 : x_cok 15 = true := by decide +kernel
theorem x_cok16 : x_cok 16 = true := by decide +kernel
theorem x_cok17 : x_cok 17 = true := by decide +kernel
theorem x_cok18 : x_cok 18 = true := by decide +kernel
theorem x_cok19 : x_cok 19 = true := by decide +kernel
theorem x_coks : ∀ o, o < 20 → x_cok o = true := by
  intro o h
  match o, h with
  | 0, _ => exact x_cok0
  | 1, _ => exact x_cok1
  | 2, _ => exact x_cok2
  | 3, _ => exact x_cok3
  | 4, _ => exact x_cok4
  | 5, _ => exact x_cok5
  | 6, _ => exact x_cok6
  | 7, _ => exact x_cok7
  | 8, _ => exact x_cok8
  | 9, _ => exact x_cok9
  | 10, _ => exact x_cok10
  | 11, _ => exact x_cok11
  | 12, _ => exact x_cok12
  | 13, _ => exact x_cok13
  | 14, _ => exact x_cok14
  | 15, _ => exact x_cok15
  | 16, _ => exact x_cok16
  | 17, _ => exact x_cok17
  | 18, _ => exact x_cok18
  | 19, _ => exact x_cok19
  | o + 20, h => exact absurd h (by omega)
def x_cl (o idx : Nat) : Option (Nat × Nat × Nat × List Nat) := (x_CL.getD o []).find? (fun e => e.1 == idx)
def x_mc (m : Nat) : Cond := .code (x_mY m) (x_mB m) (x_mL m) (x_mR m)
def x_mk (m : Nat) (p : Nat) : Bool := x_at p (.initialized (x_mY m).cls) && plainName (x_mY m).cls && decide ((x_mY m).cls ≠ "java/lang/invoke/MethodHandle") && decide ((x_mY m).cls ≠ "java/lang/invoke/VarHandle") && decide ((parseMethodDescriptor (x_mY m).desc).map (fun d => d.parameters.length) = some (x_mN m)) && decide (x_mL m ≤ 31) && decide ((x_mY m).cls = x_o (x_mo m)) && decide (x_mo m < 20)
def x_mOK (m : Nat) : Prop := x_mc m ∈ x_tbl ∧ ∃ p, x_mk m p = true
def x_KC : List (List (Nat × Value × Nat)) := [[], [], [], [], [], [], [], [], [], [(37, .int 1000000, 195)], [], [], [(114, .int 44800, 1333), (250, .long 27, 1665), (252, .long 96, 1666), (254, .long (-1), 1667), (260, .long 5, 1679), (313, .int 100000000, 1724)], [], [], [(265, .int 1431655765, 921), (266, .int 858993459, 922), (267, .int 252645135, 923)], [], [], [], []]
def x_kcc (o : Nat) (e : Nat × Value × Nat) : Cond := match e.2.1 with
  | .int v => .constant (x_o o) e.1 v
  | .long v => .constantLong (x_o o) e.1 v
  | _ => .tt
def x_kok : Bool := (List.range 20).all (fun o => (x_KC.getD o []).all (fun e => x_at e.2.2 (x_kcc o e)))
theorem x_koks : x_kok = true := by decide +kernel
def x_kc (o idx : Nat) : Option (Nat × Value × Nat) := (x_KC.getD o []).find? (fun e => e.1 == idx)
def x_NW : List (List (Nat × Nat × Nat)) := [[], [], [], [], [], [], [], [], [], [], [], [(9, 8, 133), (16, 3, 151), (23, 9, 189), (30, 5, 228), (39, 4, 269), (46, 1, 296), (53, 7, 359), (60, 6, 415), (69, 0, 470), (76, 10, 504), (85, 2, 551)], [], [(8, 11, 125), (16, 12, 1327)], [], [], [], [], [], []]
def x_CP : List (Nat × Nat) := [(471, 111), (297, 108), (552, 113), (152, 103), (270, 107), (229, 106), (416, 110), (360, 109), (134, 102), (190, 104), (505, 112), (126, 101), (1328, 114)]
def x_nwok : Bool := (List.range 20).all (fun o => (x_NW.getD o []).all (fun e => x_at e.2.2 (.classLink (x_o o) e.1 (x_C e.2.1).1) && x_at (x_CP.getD e.2.1 (0, 0)).1 (.instantiable (x_C e.2.1).1 (x_nf e.2.1)) && x_at (x_CP.getD e.2.1 (0, 0)).2 (.initialized (x_C e.2.1).1) && decide (e.2.1 < 13)))
theorem x_nwoks : x_nwok = true := by decide +kernel
def x_nw (o idx : Nat) : Option (Nat × Nat × Nat) := (x_NW.getD o []).find? (fun e => e.1 == idx)
theorem x_acI : Cond.arrayClass .int ∈ x_tbl := x_at_mem (p := 150) (by decide +kernel)
theorem x_acZ : Cond.arrayClass .boolean ∈ x_tbl := x_at_mem (p := 268) (by decide +kernel)
theorem x_acJ : Cond.arrayClass .long ∈ x_tbl := x_at_mem (p := 295) (by decide +kernel)
end
section
/-! The abstract state: int fields, long fields, reference fields, int (and boolean) arrays, long arrays, lengths, kinds, how many cells; cells and slots made so far -/
abbrev xS : Type := (Nat → Nat → Int32) × (Nat → Nat → Int64) × (Nat → Nat → Option Nat) × (Nat → Nat → Int32) × (Nat → Nat → Int64) × (Nat → Nat) × (Nat → Nat) × Nat × Nat × Nat
abbrev x_I (S : xS) : Nat → Nat → Int32 := S.1
abbrev x_L (S : xS) : Nat → Nat → Int64 := S.2.1
abbrev x_P (S : xS) : Nat → Nat → Option Nat := S.2.2.1
abbrev x_A (S : xS) : Nat → Nat → Int32 := S.2.2.2.1
abbrev x_B (S : xS) : Nat → Nat → Int64 := S.2.2.2.2.1
abbrev x_N (S : xS) : Nat → Nat := S.2.2.2.2.2.1
abbrev x_K (S : xS) : Nat → Nat := S.2.2.2.2.2.2.1
abbrev x_n (S : xS) : Nat := S.2.2.2.2.2.2.2.1
abbrev x_k (S : xS) : Nat := S.2.2.2.2.2.2.2.2.1
abbrev x_z (S : xS) : Nat := S.2.2.2.2.2.2.2.2.2
def xu1 {α : Type} (f : Nat → α) (i : Nat) (v : α) : Nat → α := fun a => if a = i then v else f a
def xu2 {α : Type} (f : Nat → Nat → α) (i k : Nat) (v : α) : Nat → Nat → α := fun a b => if a = i then (if b = k then v else f a b) else f a b
theorem xu1_s {α : Type} (f : Nat → α) (i : Nat) (v : α) : xu1 f i v i = v := by simp [xu1]
theorem xu1_n {α : Type} (f : Nat → α) {i j : Nat} (v : α) (h : j ≠ i) : xu1 f i v j = f j := by simp [xu1, h]
theorem xu2_s {α : Type} (f : Nat → Nat → α) (i k : Nat) (v : α) : xu2 f i k v i k = v := by simp [xu2]
theorem xu2_n {α : Type} (f : Nat → Nat → α) {i k a b : Nat} (v : α) (h : ¬ (a = i ∧ b = k)) : xu2 f i k v a b = f a b := by
  unfold xu2
  by_cases h1 : a = i
  · by_cases h2 : b = k
    · exact absurd ⟨h1, h2⟩ h
    · simp [h1, h2]
  · simp [h1]
abbrev x_ext0 : Nat := 1000000
def x_c (al : Nat → Nat) : Value → Value
  | .ref i => .ref (al i)
  | v => v
def x_fv (al : Nat → Nat) (S : xS) (i k t : Nat) : Value := if t = 1 then .long (x_L S i k) else if t = 2 then va_rf ((x_P S i k).map al) else .int (x_I S i k)
def x_fs (al : Nat → Nat) (S : xS) (i c : Nat) : List Value := (List.range (x_nf c)).map (fun k => x_fv al S i k (x_tc c k))
def x_cell (cs : ClassId × ClassId × ClassId) (al : Nat → Nat) (S : xS) (i : Nat) : va_E :=
  if x_K S i < 100 then .inr (x_K S i, x_fs al S i (x_K S i)) else if x_K S i = 100 then .inl (cs.1, x_N S i, .inl (x_A S i)) else if x_K S i = 101 then .inl (cs.2.1, x_N S i, .inl (x_A S i)) else .inl (cs.2.2, x_N S i, .inr (.inl (x_B S i)))
def x_w (cs : ClassId × ClassId × ClassId) (al : Nat → Nat) (S : xS) : va_W := (List.range (x_n S)).map (fun i => (al i, x_cell cs al S i))
abbrev x_tys (cs : ClassId × ClassId × ClassId) : List (ClassId × FieldType) := [(cs.1, .int), (cs.2.1, .boolean), (cs.2.2, .long)]
theorem x_w_get {cs : ClassId × ClassId × ClassId} {al : Nat → Nat} {S : xS} {i : Nat} (h : i < x_n S) : (x_w cs al S)[i]? = some (al i, x_cell cs al S i) := by simp [x_w, h]
theorem x_rset {α : Type} {N k : Nat} {f g : Nat → α} {v : α} (h : g k = v) (h2 : ∀ j, j ≠ k → g j = f j) : ((List.range N).map f).set k v = (List.range N).map g := by
  apply List.ext_getElem?
  intro j
  by_cases hj : j < N
  · by_cases e : k = j
    · subst e
      simp [hj, h]
    · rw [List.getElem?_set_ne e]
      simp [hj, h2 j (fun q => e q.symm)]
  · simp [hj]
theorem x_w_set {cs : ClassId × ClassId × ClassId} {al : Nat → Nat} {S S' : xS} {i : Nat} {e : va_E} (hn : x_n S' = x_n S) (he : x_cell cs al S' i = e) (h2 : ∀ j, j ≠ i → x_cell cs al S' j = x_cell cs al S j) : (x_w cs al S).set i (al i, e) = x_w cs al S' := by
  unfold x_w
  rw [hn]
  exact x_rset (by rw [he]) (fun j hj => by rw [h2 j hj])
theorem x_w_len {cs : ClassId × ClassId × ClassId} {al : Nat → Nat} {S : xS} : (x_w cs al S).length = x_n S := by simp [x_w]
/-- valid references -/
def x_vr (n r : Nat) : Prop := r < n ∨ x_ext0 ≤ r
def x_vv (n : Nat) : Value → Prop
  | .ref r => x_vr n r
  | _ => True
def x_wf (S : xS) : Prop := x_n S ≤ x_ext0 ∧ (∀ j, x_K S j < 200 → j < x_n S) ∧ ∀ i k r, x_P S i k = some r → x_vr (x_n S) r
def x_wfs (n : Nat) (st : List Value) : Prop := ∀ v ∈ st, x_vv n v
def x_wfl (n : Nat) (lv : List (Nat × Value)) : Prop := ∀ q ∈ lv, x_vv n q.2
def x_ext (al al' : Nat → Nat) (n : Nat) : Prop := ∀ r, x_vr n r → al' r = al r
theorem x_vr.mono {n n' r : Nat} (h : x_vr n r) (hn : n ≤ n') : x_vr n' r := h.elim (fun h => Or.inl (by omega)) Or.inr
theorem x_vv.mono {n n' : Nat} {v : Value} (h : x_vv n v) (hn : n ≤ n') : x_vv n' v := by
  cases v <;> first | exact trivial | exact x_vr.mono h hn
theorem x_wfs.mono {n n' : Nat} {st : List Value} (h : x_wfs n st) (hn : n ≤ n') : x_wfs n' st := fun v hv => (h v hv).mono hn
theorem x_wfl.mono {n n' : Nat} {lv : List (Nat × Value)} (h : x_wfl n lv) (hn : n ≤ n') : x_wfl n' lv := fun v hv => (h v hv).mono hn
theorem x_ext.rf {al : Nat → Nat} {n : Nat} : x_ext al al n := fun _ _ => rfl
theorem x_ext.tr {a b c : Nat → Nat} {n m : Nat} (h : x_ext a b n) (h2 : x_ext b c m) (hn : n ≤ m) : x_ext a c n := fun r hr => (h2 r (hr.mono hn)).trans (h r hr)
theorem x_c_ext {al al' : Nat → Nat} {n : Nat} (h : x_ext al al' n) {v : Value} (hv : x_vv n v) : x_c al' v = x_c al v := by
  cases v <;> first | rfl | exact congrArg Value.ref (h _ hv)
theorem x_cs_ext {al al' : Nat → Nat} {n : Nat} (h : x_ext al al' n) : ∀ {st : List Value}, x_wfs n st → st.map (x_c al') = st.map (x_c al)
  | [], _ => rfl
  | v :: st, hs => by
    rw [List.map_cons, List.map_cons, x_c_ext h (hs v List.mem_cons_self), x_cs_ext h (fun w hw => hs w (List.mem_cons_of_mem _ hw))]
abbrev x_q (al : Nat → Nat) (q : Nat × Value) : Nat × Value := (q.1, x_c al q.2)
theorem x_ql_ext {al al' : Nat → Nat} {n : Nat} (h : x_ext al al' n) : ∀ {lv : List (Nat × Value)}, x_wfl n lv → lv.map (x_q al') = lv.map (x_q al)
  | [], _ => rfl
  | v :: st, hs => by
    rw [List.map_cons, List.map_cons, x_ql_ext h (fun w hw => hs w (List.mem_cons_of_mem _ hw))]
    simp only [x_q, x_c_ext h (hs v List.mem_cons_self)]
theorem x_c_cat (al : Nat → Nat) (v : Value) : (x_c al v).category = v.category := by cases v <;> rfl
theorem x_cs_cat (al : Nat → Nat) (st : List Value) : ((st.map (x_c al)).map fun v => v.category) = st.map fun v => v.category := by
  rw [List.map_map]
  exact List.map_congr_left (fun v _ => x_c_cat al v)
theorem x_wfs_c {n : Nat} {v : Value} {st : List Value} : x_wfs n (v :: st) ↔ x_vv n v ∧ x_wfs n st := by simp [x_wfs]
theorem x_wfs_a {n : Nat} {a b : List Value} : x_wfs n (a ++ b) ↔ x_wfs n a ∧ x_wfs n b := by
  simp only [x_wfs, List.mem_append]
  exact ⟨fun h => ⟨fun v hv => h v (Or.inl hv), fun v hv => h v (Or.inr hv)⟩, fun h v hv => hv.elim (h.1 v) (h.2 v)⟩
theorem x_wfs_r {n : Nat} {a : List Value} : x_wfs n a.reverse ↔ x_wfs n a := by simp [x_wfs]
theorem x_wfs_n {n : Nat} : x_wfs n [] := fun v hv => absurd hv List.not_mem_nil
/-! what lies outside: the script, String constants, nest links, statics -/
def x_lens : List Nat := [4, 5, 6, 5, 5]
def x_byts : List (List Int32) := [[110, 97, 109, 101], [116, 114, 97, 100, 101], [111, 102, 102, 105, 99, 101], [116, 104, 105, 110, 103], [111, 116, 104, 101, 114]]
def x_stx : List (Nat × String) := [(98, "name"), (100, "trade"), (102, "office"), (104, "thing"), (106, "other")]
abbrev xQ : Type := Nat × (Nat → Nat) × (Nat → Nat) × Nat
/-- the cells outside: the script 0, String constants 1 to 5 -/
def x_qa (q : xQ) (i : Nat) : Nat := if i = 0 then q.1 else q.2.1 (i - 1)
def x_xt (al : Nat → Nat) (q : xQ) : Prop := ∀ i, i < 6 → al (x_ext0 + i) = x_qa q i
def x_Ex (E : Nat × (Nat → Int32)) (q : xQ) (A : Nat → Prop) (U : State) : Prop :=
  (va_X q.1 E.1 E.2 U U.heap ∧ q.1 < U.heap.size ∧ ¬ A q.1) ∧ vk_S 5 x_lens x_byts q.2.1 q.2.2.1 A U U.heap ∧ (∀ i, i < 5 → vk_R "ScrawlHouse$PatternText" (x_stx.getD i (0, "")).1 (x_stx.getD i (0, "")).2 (q.2.1 i) U) ∧ (∀ r ∈ x_NL, va_Nw (x_nc r) U) ∧
  vx_Zq "java/lang/Throwable" "UNASSIGNED_STACK" "[Ljava/lang/StackTraceElement;" A U U.heap ∧ vx_Zq "java/lang/Throwable" "SUPPRESSED_SENTINEL" "Ljava/util/List;" A U U.heap ∧ vk_R "ScrawlHouse" 195 "OUT has no such byte" q.2.2.2 U ∧
  va_Z "java/lang/String" "COMPACT_STRINGS" "Z" (.int 1) A U U.heap ∧ vx_Zq "jdk/internal/util/Preconditions" "SIOOBE_FORMATTER" "Ljava/util/function/BiFunction;" A U U.heap
theorem x_Ex.move {E : Nat × (Nat → Int32)} {q : xQ} {A B : Nat → Prop} {s U : State} {locs : List Loc} (h : x_Ex E q A s) (hS : va_S A s.heap U.heap locs) (hW : s.WarmedH U.vm) (hAB : ∀ q, B q → A q) : x_Ex E q B U := by
  obtain ⟨⟨a1, a2, a3⟩, h2, h3, h4, h5, h6, h7, h8, h9⟩ := h
  have hvm := hW.alike
  exact ⟨⟨(a1.kept (hS.2.1 _ a2 a3)).moved hvm, Nat.lt_of_lt_of_le a2 hS.1, fun z => a3 (hAB _ z)⟩, (vk_S.moved hvm (h2.kept hS.2.1)).narrow hAB, fun i hi => (h3 i hi).warm hW, fun r hr => va_Nw.warmM hW (h4 r hr),
    (vx_Zq.moved hvm (h5.kept hS.2.1)).narrow hAB, (vx_Zq.moved hvm (h6.kept hS.2.1)).narrow hAB, h7.warm hW, (va_Z.moved hvm (h8.kept hS.2.1)).narrow hAB, (vx_Zq.moved hvm (h9.kept hS.2.1)).narrow hAB⟩
/-! contexts -/
def x_Ctx (E : Nat × (Nat → Int32)) (d m : Nat) (l : Launch) (p : Program) (R : Room) (s : State) (mid : MethodId) (args : Array Value) (meth : Method) (c : Code) (A : Nat → Prop) (D : va_G) (cs : ClassId × ClassId × ClassId) (q : xQ) : Prop :=
  l.stackTraces = false ∧ p.tables.exec = Jvm.exec ∧ c.code = x_mB m ∧ c.maxLocals = x_mL m ∧ s.vm.findClass (x_o (x_mo m)) = some mid.cls ∧ meth.name = (x_mY m).name ∧ (∀ w ∈ x_tbl, w.before args s = true) ∧ va_K D vwCl (x_tys cs) s ∧ (∀ q, s.heap.size ≤ q → A q) ∧ d ≤ R.frames ∧ 50 * d ≤ R.locals ∧ x_Ex E q A s
def x_Hp (s : State) (A : Nat → Prop) (D : va_G) (cs : ClassId × ClassId × ClassId) (q : xQ) (al : Nat → Nat) (S : xS) (H : Heap) (locs : List Loc) : Prop :=
  va_P D vwCl (x_w cs al S) H ∧ va_D A (x_w cs al S) ∧ va_S A s.heap H locs ∧ x_xt al q ∧ x_wf S
/-- the return that ends a method with r -/
def x_rp (m pc : Nat) (r : Option Value) : Prop := match r with
  | none => decode (x_mB m) pc = .ok (.return_, 1) ∧ x_mR m = none
  | some (.int x) => decode (x_mB m) pc = .ok (.ireturn, 1) ∧ ∃ ty, x_mR m = some ty ∧ narrow ty (.int x) = .int x
  | some (.long _) => decode (x_mB m) pc = .ok (.lreturn, 1) ∧ x_mR m = some .long
  | some (.ref _) => decode (x_mB m) pc = .ok (.areturn, 1) ∧ ∃ n, x_mR m = some (.object n)
  | _ => False
/-- from pc, with these locals and this stack, in state S, method m comes to its return with r, in state S' -/
def x_Rw (E : Nat × (Nat → Int32)) (d m pc : Nat) (lv : List (Nat × Value)) (st : List Value) (S : xS) (r : Option Value) (S' : xS) : Prop :=
  (x_n S ≤ x_n S' ∧ x_k S ≤ x_k S' ∧ x_z S ≤ x_z S') ∧
  ∀ (l : Launch) (p : Program) (e : Env) (R : Room) (s : State) (mid : MethodId) (args : Array Value) (below : List Frame) (meth : Method) (c : Code) (A : Nat → Prop) (D : va_G) (cs : ClassId × ClassId × ClassId) (q : xQ) (al : Nat → Nat) (H : Heap) (locs : List Loc) (ls : Array Slot) (cells slots : Nat) (Q : State → Prop),
    x_Ctx E d m l p R s mid args meth c A D cs q → x_Hp s A D cs q al S H locs → lv_has ls (x_mL m) (lv.map (x_q al)) → x_wfl (x_n S) lv → x_wfs (x_n S) st →
    cells + (x_k S' - x_k S) ≤ R.cells → slots + (x_z S' - x_z S) ≤ R.slots →
    (∀ (al' : Nat → Nat) (H' : Heap) (locs' : List Loc) (ls' : Array Slot) (pc' : Nat), x_ext al al' (x_n S) → x_Hp s A D cs q al' S' H' locs' → x_wfs (x_n S') r.toList → x_rp m pc' r →
      W p l e R s mid args below meth c H' locs' (cells + (x_k S' - x_k S)) (slots + (x_z S' - x_z S)) Q (F0 mid pc' ls' (r.toList.map (x_c al')))) →
    W p l e R s mid args below meth c H locs cells slots Q (F0 mid pc ls (st.map (x_c al)))
/-- a pure step: the state stays -/
theorem x_step {E : Nat × (Nat → Int32)} {d m pc pc1 : Nat} {lv lv1 : List (Nat × Value)} {st st1 : List Value} {S S' : xS} {r : Option Value} (h : x_Rw E d m pc1 lv1 st1 S r S')
    (hw : x_wfl (x_n S) lv → x_wfs (x_n S) st → x_wfl (x_n S) lv1 ∧ x_wfs (x_n S) st1)
    (hs : ∀ (l : Launch) (p : Program) (e : Env) (R : Room) (s : State) (mid : MethodId) (args : Array Value) (below : List Frame) (meth : Method) (c : Code) (A : Nat → Prop) (D : va_G) (cs : ClassId × ClassId × ClassId) (q : xQ) (al : Nat → Nat) (H : Heap) (locs : List Loc) (ls : Array Slot) (cells slots : Nat) (Q : State → Prop),
      x_Ctx E d m l p R s mid args meth c A D cs q → x_Hp s A D cs q al S H locs → lv_has ls (x_mL m) (lv.map (x_q al)) →
      (∀ ls1, lv_has ls1 (x_mL m) (lv1.map (x_q al)) → W p l e R s mid args below meth c H locs cells slots Q (F0 mid pc1 ls1 (st1.map (x_c al)))) →
      W p l e R s mid args below meth c H locs cells slots Q (F0 mid pc ls (st.map (x_c al)))) : x_Rw E d m pc lv st S r S' := by
  refine ⟨h.1, ?_⟩
  intro l p e R s mid args below meth c A D cs q al H locs ls cells slots Q C X hl w1 w2 hc hz kk
  obtain ⟨v1, v2⟩ := hw w1 w2
  exact hs l p e R s mid args below meth c A D cs q al H locs ls cells slots Q C X hl (fun ls1 hl1 => h.2 l p e R s mid args below meth c A D cs q al H locs ls1 cells slots Q C X hl1 v1 v2 hc hz kk)
/-- fewer locals -/
theorem x_sub {E : Nat × (Nat → Int32)} {d m pc : Nat} {lv lv1 : List (Nat × Value)} {st : List Value} {S S' : xS} {r : Option Value} (ks : List Nat) (hk : lv_pick lv ks = lv1) (h : x_Rw E d m pc lv1 st S r S') : x_Rw E d m pc lv st S r S' := by
  have hm : ∀ q ∈ lv1, q ∈ lv := by
    intro q hq
    rw [← hk] at hq
    obtain ⟨k, -, h2⟩ := List.mem_filterMap.mp hq
    exact List.mem_of_getElem? h2
  refine x_step h (fun w1 w2 => ⟨fun q hq => w1 q (hm q hq), w2⟩) ?_
  intro l p e R s mid args below meth c A D cs q al H locs ls cells slots Q C X hl k
  refine k ls ⟨hl.1, hl.2.1, fun q hq => ?_⟩
  obtain ⟨q', h1, rfl⟩ := List.mem_map.mp hq
  exact hl.2.2 _ (List.mem_map.mpr ⟨q', hm q' h1, rfl⟩)
/-- a step that changes the state -/
theorem x_stepS {E : Nat × (Nat → Int32)} {d m pc pc1 : Nat} {lv lv1 : List (Nat × Value)} {st st1 : List Value} {S S1 S' : xS} {r : Option Value} (h : x_Rw E d m pc1 lv1 st1 S1 r S') (hm : x_n S ≤ x_n S1 ∧ x_k S ≤ x_k S1 ∧ x_z S ≤ x_z S1)
    (hw : x_wfl (x_n S) lv → x_wfs (x_n S) st → x_wfl (x_n S1) lv1 ∧ x_wfs (x_n S1) st1)
    (hs : ∀ (l : Launch) (p : Program) (e : Env) (R : Room) (s : State) (mid : MethodId) (args : Array Value) (below : List Frame) (meth : Method) (c : Code) (A : Nat → Prop) (D : va_G) (cs : ClassId × ClassId × ClassId) (q : xQ) (al : Nat → Nat) (H : Heap) (locs : List Loc) (ls : Array Slot) (cells slots : Nat) (Q : State → Prop),
      x_Ctx E d m l p R s mid args meth c A D cs q → x_Hp s A D cs q al S H locs → lv_has ls (x_mL m) (lv.map (x_q al)) → x_wfl (x_n S) lv → x_wfs (x_n S) st → cells + (x_k S1 - x_k S) ≤ R.cells → slots + (x_z S1 - x_z S) ≤ R.slots →
      (∀ (al1 : Nat → Nat) (H1 : Heap) (locs1 : List Loc) (ls1 : Array Slot), x_ext al al1 (x_n S) → x_Hp s A D cs q al1 S1 H1 locs1 → lv_has ls1 (x_mL m) (lv1.map (x_q al1)) → W p l e R s mid args below meth c H1 locs1 (cells + (x_k S1 - x_k S)) (slots + (x_z S1 - x_z S)) Q (F0 mid pc1 ls1 (st1.map (x_c al1)))) →
      W p l e R s mid args below meth c H locs cells slots Q (F0 mid pc ls (st.map (x_c al)))) : x_Rw E d m pc lv st S r S' := by
  obtain ⟨⟨m1, m2, m3⟩, h2⟩ := h
  obtain ⟨n1, n2, n3⟩ := hm
  refine ⟨⟨by omega, by omega, by omega⟩, ?_⟩
  intro l p e R s mid args below meth c A D cs q al H locs ls cells slots Q C X hl w1 w2 hc hz kk
  obtain ⟨v1, v2⟩ := hw w1 w2
  have e1 : cells + (x_k S1 - x_k S) + (x_k S' - x_k S1) = cells + (x_k S' - x_k S) := by omega
  have e2 : slots + (x_z S1 - x_z S) + (x_z S' - x_z S1) = slots + (x_z S' - x_z S) := by omega
  refine hs l p e R s mid args below meth c A D cs q al H locs ls cells slots Q C X hl w1 w2 (by omega) (by omega) (fun al1 H1 locs1 ls1 x1 X1 hl1 => ?_)
  refine h2 l p e R s mid args below meth c A D cs q al1 H1 locs1 ls1 _ _ Q C X1 hl1 v1 v2 (by omega) (by omega) (fun al2 H2 locs2 ls2 pc2 x2 X2 w3 hr => ?_)
  rw [e1, e2]
  exact kk al2 H2 locs2 ls2 pc2 (x1.tr x2 n1) X2 w3 hr
end
section
theorem xw1 {n : Nat} {a : Value} {st : List Value} (h : x_wfs n (a :: st)) : x_wfs n st := (x_wfs_c.mp h).2
theorem xw2 {n : Nat} {a b : Value} {st : List Value} (h : x_wfs n (a :: b :: st)) : x_wfs n st := xw1 (xw1 h)
theorem xw3 {n : Nat} {a b c : Value} {st : List Value} (h : x_wfs n (a :: b :: c :: st)) : x_wfs n st := xw1 (xw2 h)
theorem xwi {n : Nat} {x : Int32} {st : List Value} (h : x_wfs n st) : x_wfs n (.int x :: st) := x_wfs_c.mpr ⟨trivial, h⟩
theorem xwl {n : Nat} {x : Int64} {st : List Value} (h : x_wfs n st) : x_wfs n (.long x :: st) := x_wfs_c.mpr ⟨trivial, h⟩
theorem xwr {n : Nat} {x : Nat} {st : List Value} (hx : x_vr n x) (h : x_wfs n st) : x_wfs n (.ref x :: st) := x_wfs_c.mpr ⟨hx, h⟩
def x_lk : List (Nat × Value) → Nat → Option Value
  | [], _ => none
  | q :: t, i => if q.1 = i then some q.2 else x_lk t i
theorem x_lk_mem : ∀ {lv : List (Nat × Value)} {i : Nat} {v : Value}, x_lk lv i = some v → (i, v) ∈ lv
  | [], _, _, h => by simp [x_lk] at h
  | q :: t, i, v, h => by
    unfold x_lk at h
    by_cases e : q.1 = i
    · rw [if_pos e] at h
      cases h
      subst e
      exact List.mem_cons_self
    · rw [if_neg e] at h
      exact List.mem_cons_of_mem _ (x_lk_mem h)
theorem x_lk_at {ls : Array Slot} {nL : Nat} {al : Nat → Nat} {lv : List (Nat × Value)} {i : Nat} {v : Value} (hl : lv_has ls nL (lv.map (x_q al))) (h : x_lk lv i = some v) : ls[i]? = some (.val (x_c al v)) := hl.2.2 (i, x_c al v) (List.mem_map.mpr ⟨(i, v), x_lk_mem h, rfl⟩)
def x_p1 (i : Nat) (q : Nat × Value) : Bool := !(q.1 == i) && !(q.1 + 1 == i && q.2.category == 2)
def x_p2 (i : Nat) (q : Nat × Value) : Bool := !(q.1 == i) && (!(q.1 == i + 1) && !(q.1 + 1 == i && q.2.category == 2))
def x_s1 (lv : List (Nat × Value)) (i : Nat) (v : Value) : List (Nat × Value) := (i, v) :: lv.filter (x_p1 i)
def x_s2 (lv : List (Nat × Value)) (i : Nat) (v : Value) : List (Nat × Value) := (i, v) :: lv.filter (x_p2 i)
theorem x_s1_map (al : Nat → Nat) (lv : List (Nat × Value)) (i : Nat) (v : Value) : (i, x_c al v) :: (lv.map (x_q al)).filter (fun q => !(q.1 == i) && !(q.1 + 1 == i && q.2.category == 2)) = (x_s1 lv i v).map (x_q al) := by
  unfold x_s1
  rw [List.map_cons, List.filter_map]
  have e : ((fun q : Nat × Value => !(q.1 == i) && !(q.1 + 1 == i && q.2.category == 2)) ∘ x_q al) = x_p1 i := by
    funext q
    simp only [Function.comp, x_q, x_c_cat, x_p1]
  rw [e]
theorem x_s2_map (al : Nat → Nat) (lv : List (Nat × Value)) (i : Nat) (v : Value) : (i, x_c al v) :: (lv.map (x_q al)).filter (fun q => !(q.1 == i) && (!(q.1 == i + 1) && !(q.1 + 1 == i && q.2.category == 2))) = (x_s2 lv i v).map (x_q al) := by
  unfold x_s2
  rw [List.map_cons, List.filter_map]
  have e : ((fun q : Nat × Value => !(q.1 == i) && (!(q.1 == i + 1) && !(q.1 + 1 == i && q.2.category == 2))) ∘ x_q al) = x_p2 i := by
    funext q
    simp only [Function.comp, x_q, x_c_cat, x_p2]
  rw [e]
theorem x_s1_wf {n : Nat} {lv : List (Nat × Value)} {i : Nat} {v : Value} (h : x_wfl n lv) (hv : x_vv n v) : x_wfl n (x_s1 lv i v) := fun q hq => by
  rcases List.mem_cons.mp hq with rfl | hq
  · exact hv
  · exact h q (List.mem_filter.mp hq).1
theorem x_s2_wf {n : Nat} {lv : List (Nat × Value)} {i : Nat} {v : Value} (h : x_wfl n lv) (hv : x_vv n v) : x_wfl n (x_s2 lv i v) := fun q hq => by
  rcases List.mem_cons.mp hq with rfl | hq
  · exact hv
  · exact h q (List.mem_filter.mp hq).1
theorem xi_iconst {E : Nat × (Nat → Int32)} {d m pc : Nat} {lv : List (Nat × Value)} {st : List Value} {S S' : xS} {r : Option Value} {n : Int} {v : Int32} (hdg : decode (x_mB m) pc = .ok (.iconst n, 1)) (hv : Int32.ofInt n = v) (h : x_Rw E d m (pc + 1) lv (.int v :: st) S r S') : x_Rw E d m pc lv (st) S r S' :=
  x_step h (fun w1 w2 => ⟨w1, xwi w2⟩) (fun l p e R s mid args below meth c A D cs q al H locs ls cells slots Q C X hl k => lv_iconst C.2.1 C.2.2.1 hdg hv (k ls hl))
theorem xi_bipush {E : Nat × (Nat → Int32)} {d m pc : Nat} {lv : List (Nat × Value)} {st : List Value} {S S' : xS} {r : Option Value} {n : Int} {v : Int32} (hdg : decode (x_mB m) pc = .ok (.bipush n, 2)) (hv : (Int8.ofInt n).toInt32 = v) (h : x_Rw E d m (pc + 2) lv (.int v :: st) S r S') : x_Rw E d m pc lv (st) S r S' :=
  x_step h (fun w1 w2 => ⟨w1, xwi w2⟩) (fun l p e R s mid args below meth c A D cs q al H locs ls cells slots Q C X hl k => lv_bipush C.2.1 C.2.2.1 hdg hv (k ls hl))
theorem xi_sipush {E : Nat × (Nat → Int32)} {d m pc : Nat} {lv : List (Nat × Value)} {st : List Value} {S S' : xS} {r : Option Value} {n : Int} {v : Int32} (hdg : decode (x_mB m) pc = .ok (.sipush n, 3)) (hv : (Int16.ofInt n).toInt32 = v) (h : x_Rw E d m (pc + 3) lv (.int v :: st) S r S') : x_Rw E d m pc lv (st) S r S' :=
  x_step h (fun w1 w2 => ⟨w1, xwi w2⟩) (fun l p e R s mid args below meth c A D cs q al H locs ls cells slots Q C X hl k => lv_sipush C.2.1 C.2.2.1 hdg hv (k ls hl))
theorem xi_lconst {E : Nat × (Nat → Int32)} {d m pc : Nat} {lv : List (Nat × Value)} {st : List Value} {S S' : xS} {r : Option Value} {n : Fin 2} {v : Int64} (hdg : decode (x_mB m) pc = .ok (.lconst n, 1)) (hv : Int64.ofNat (n : Nat) = v) (h : x_Rw E d m (pc + 1) lv (.long v :: st) S r S') : x_Rw E d m pc lv (st) S r S' :=
  x_step h (fun w1 w2 => ⟨w1, xwl w2⟩) (fun l p e R s mid args below meth c A D cs q al H locs ls cells slots Q C X hl k => lv_lconst C.2.1 C.2.2.1 hdg hv (k ls hl))
theorem xi_ldc {E : Nat × (Nat → Int32)} {d m pc : Nat} {lv : List (Nat × Value)} {st : List Value} {S S' : xS} {r : Option Value} {n : Nat} {v : Int32} (hdg : decode (x_mB m) pc = .ok (.ldc n, 2)) (hv : Cond.constant (x_o (x_mo m)) n v ∈ x_tbl) (h : x_Rw E d m (pc + 2) lv (.int v :: st) S r S') : x_Rw E d m pc lv (st) S r S' :=
  x_step h (fun w1 w2 => ⟨w1, xwi w2⟩) (fun l p e R s mid args below meth c A D cs q al H locs ls cells slots Q C X hl k => lv_ldc C.2.1 C.2.2.1 C.2.2.2.2.1 (C.2.2.2.2.2.2.1 _ hv) hdg (k ls hl))
theorem xi_ldcw {E : Nat × (Nat → Int32)} {d m pc : Nat} {lv : List (Nat × Value)} {st : List Value} {S S' : xS} {r : Option Value} {n : Nat} {v : Int32} (hdg : decode (x_mB m) pc = .ok (.ldc_w n, 3)) (hv : Cond.constant (x_o (x_mo m)) n v ∈ x_tbl) (h : x_Rw E d m (pc + 3) lv (.int v :: st) S r S') : x_Rw E d m pc lv (st) S r S' :=
  x_step h (fun w1 w2 => ⟨w1, xwi w2⟩) (fun l p e R s mid args below meth c A D cs q al H locs ls cells slots Q C X hl k => lv_ldcw C.2.1 C.2.2.1 C.2.2.2.2.1 (C.2.2.2.2.2.2.1 _ hv) hdg (k ls hl))
theorem xi_ldc2 {E : Nat × (Nat → Int32)} {d m pc : Nat} {lv : List (Nat × Value)} {st : List Value} {S S' : xS} {r : Option Value} {n : Nat} {v : Int64} (hdg : decode (x_mB m) pc = .ok (.ldc2_w n, 3)) (hv : Cond.constantLong (x_o (x_mo m)) n v ∈ x_tbl) (h : x_Rw E d m (pc + 3) lv (.long v :: st) S r S') : x_Rw E d m pc lv (st) S r S' :=
  x_step h (fun w1 w2 => ⟨w1, xwl w2⟩) (fun l p e R s mid args below meth c A D cs q al H locs ls cells slots Q C X hl k => lv_ldc2 C.2.1 C.2.2.1 C.2.2.2.2.1 (C.2.2.2.2.2.2.1 _ hv) hdg (k ls hl))
theorem xi_iload {E : Nat × (Nat → Int32)} {d m pc : Nat} {lv : List (Nat × Value)} {st : List Value} {S S' : xS} {r : Option Value} {i : Nat} {x : Int32} (hdg : decode (x_mB m) pc = .ok (.iload i, 2)) (hk : x_lk lv i = some (.int x)) (h : x_Rw E d m (pc + 2) lv (.int x :: st) S r S') : x_Rw E d m pc lv (st) S r S' :=
  x_step h (fun w1 w2 => ⟨w1, xwi w2⟩) (fun l p e R s mid args below meth c A D cs q al H locs ls cells slots Q C X hl k => lv_iload C.2.1 C.2.2.1 hdg (x_lk_at hl hk) (k ls hl))
theorem xi_iload_n {E : Nat × (Nat → Int32)} {d m pc : Nat} {lv : List (Nat × Value)} {st : List Value} {S S' : xS} {r : Option Value} {i : Fin 4} {x : Int32} (hdg : decode (x_mB m) pc = .ok (.iload_n i, 1)) (hk : x_lk lv (i : Nat) = some (.int x)) (h : x_Rw E d m (pc + 1) lv (.int x :: st) S r S') : x_Rw E d m pc lv (st) S r S' :=
  x_step h (fun w1 w2 => ⟨w1, xwi w2⟩) (fun l p e R s mid args below meth c A D cs q al H locs ls cells slots Q C X hl k => lv_iload_n C.2.1 C.2.2.1 hdg rfl (x_lk_at hl hk) (k ls hl))
theorem xi_lload {E : Nat × (Nat → Int32)} {d m pc : Nat} {lv : List (Nat × Value)} {st : List Value} {S S' : xS} {r : Option Value} {i : Nat} {x : Int64} (hdg : decode (x_mB m) pc = .ok (.lload i, 2)) (hk : x_lk lv i = some (.long x)) (h : x_Rw E d m (pc + 2) lv (.long x :: st) S r S') : x_Rw E d m pc lv (st) S r S' :=
  x_step h (fun w1 w2 => ⟨w1, xwl w2⟩) (fun l p e R s mid args below meth c A D cs q al H locs ls cells slots Q C X hl k => lv_lload C.2.1 C.2.2.1 hdg (x_lk_at hl hk) (k ls hl))
theorem xi_lload_n {E : Nat × (Nat → Int32)} {d m pc : Nat} {lv : List (Nat × Value)} {st : List Value} {S S' : xS} {r : Option Value} {i : Fin 4} {x : Int64} (hdg : decode (x_mB m) pc = .ok (.lload_n i, 1)) (hk : x_lk lv (i : Nat) = some (.long x)) (h : x_Rw E d m (pc + 1) lv (.long x :: st) S r S') : x_Rw E d m pc lv (st) S r S' :=
  x_step h (fun w1 w2 => ⟨w1, xwl w2⟩) (fun l p e R s mid args below meth c A D cs q al H locs ls cells slots Q C X hl k => lv_lload_n C.2.1 C.2.2.1 hdg rfl (x_lk_at hl hk) (k ls hl))
theorem xi_aload {E : Nat × (Nat → Int32)} {d m pc : Nat} {lv : List (Nat × Value)} {st : List Value} {S S' : xS} {r : Option Value} {i : Nat} {x : Nat} (hdg : decode (x_mB m) pc = .ok (.aload i, 2)) (hk : x_lk lv i = some (.ref x)) (h : x_Rw E d m (pc + 2) lv (.ref x :: st) S r S') : x_Rw E d m pc lv (st) S r S' :=
  x_step h (fun w1 w2 => ⟨w1, xwr (w1 _ (x_lk_mem hk)) w2⟩) (fun l p e R s mid args below meth c A D cs q al H locs ls cells slots Q C X hl k => lv_aload C.2.1 C.2.2.1 hdg (x_lk_at hl hk) (k ls hl))
theorem xi_aload_n {E : Nat × (Nat → Int32)} {d m pc : Nat} {lv : List (Nat × Value)} {st : List Value} {S S' : xS} {r : Option Value} {i : Fin 4} {x : Nat} (hdg : decode (x_mB m) pc = .ok (.aload_n i, 1)) (hk : x_lk lv (i : Nat) = some (.ref x)) (h : x_Rw E d m (pc + 1) lv (.ref x :: st) S r S') : x_Rw E d m pc lv (st) S r S' :=
  x_step h (fun w1 w2 => ⟨w1, xwr (w1 _ (x_lk_mem hk)) w2⟩) (fun l p e R s mid args below meth c A D cs q al H locs ls cells slots Q C X hl k => lv_aload_n C.2.1 C.2.2.1 hdg rfl (x_lk_at hl hk) (k ls hl))
theorem xi_istore {E : Nat × (Nat → Int32)} {d m pc : Nat} {lv : List (Nat × Value)} {st : List Value} {S S' : xS} {r : Option Value} {i : Nat} {x : Int32} (hdg : decode (x_mB m) pc = .ok (.istore i, 2)) (hn : i < x_mL m) (h : x_Rw E d m (pc + 2) (x_s1 lv i (.int x)) st S r S') : x_Rw E d m pc lv (.int x :: st) S r S' :=
  x_step h (fun w1 w2 => ⟨x_s1_wf w1 trivial, xw1 w2⟩) (fun l p e R s mid args below meth c A D cs q al H locs ls cells slots Q C X hl k => lv_istore C.2.1 C.2.2.1 hdg hl hn (x_s1_map al lv i (.int x)) k)
theorem xi_istore_n {E : Nat × (Nat → Int32)} {d m pc : Nat} {lv : List (Nat × Value)} {st : List Value} {S S' : xS} {r : Option Value} {i : Fin 4} {x : Int32} (hdg : decode (x_mB m) pc = .ok (.istore_n i, 1)) (hn : (i : Nat) < x_mL m) (h : x_Rw E d m (pc + 1) (x_s1 lv (i : Nat) (.int x)) st S r S') : x_Rw E d m pc lv (.int x :: st) S r S' :=
  x_step h (fun w1 w2 => ⟨x_s1_wf w1 trivial, xw1 w2⟩) (fun l p e R s mid args below meth c A D cs q al H locs ls cells slots Q C X hl k => lv_istore_n C.2.1 C.2.2.1 hdg rfl hl hn (x_s1_map al lv (i : Nat) (.int x)) k)
theorem xi_lstore {E : Nat × (Nat → Int32)} {d m pc : Nat} {lv : List (Nat × Value)} {st : List Value} {S S' : xS} {r : Option Value} {i : Nat} {x : Int64} (hdg : decode (x_mB m) pc = .ok (.lstore i, 2)) (hn : i + 1 < x_mL m) (h : x_Rw E d m (pc + 2) (x_s2 lv i (.long x)) st S r S') : x_Rw E d m pc lv (.long x :: st) S r S' :=
  x_step h (fun w1 w2 => ⟨x_s2_wf w1 trivial, xw1 w2⟩) (fun l p e R s mid args below meth c A D cs q al H locs ls cells slots Q C X hl k => lv_lstore C.2.1 C.2.2.1 hdg hl hn (x_s2_map al lv i (.long x)) k)
theorem xi_lstore_n {E : Nat × (Nat → Int32)} {d m pc : Nat} {lv : List (Nat × Value)} {st : List Value} {S S' : xS} {r : Option Value} {i : Fin 4} {x : Int64} (hdg : decode (x_mB m) pc = .ok (.lstore_n i, 1)) (hn : (i : Nat) + 1 < x_mL m) (h : x_Rw E d m (pc + 1) (x_s2 lv (i : Nat) (.long x)) st S r S') : x_Rw E d m pc lv (.long x :: st) S r S' :=
  x_step h (fun w1 w2 => ⟨x_s2_wf w1 trivial, xw1 w2⟩) (fun l p e R s mid args below meth c A D cs q al H locs ls cells slots Q C X hl k => lv_lstore_n C.2.1 C.2.2.1 hdg rfl hl hn (x_s2_map al lv (i : Nat) (.long x)) k)
theorem xi_astore {E : Nat × (Nat → Int32)} {d m pc : Nat} {lv : List (Nat × Value)} {st : List Value} {S S' : xS} {r : Option Value} {i : Nat} {x : Nat} (hdg : decode (x_mB m) pc = .ok (.astore i, 2)) (hn : i < x_mL m) (h : x_Rw E d m (pc + 2) (x_s1 lv i (.ref x)) st S r S') : x_Rw E d m pc lv (.ref x :: st) S r S' :=
  x_step h (fun w1 w2 => ⟨x_s1_wf w1 (x_wfs_c.mp w2).1, xw1 w2⟩) (fun l p e R s mid args below meth c A D cs q al H locs ls cells slots Q C X hl k => lv_astore C.2.1 C.2.2.1 hdg hl hn (x_s1_map al lv i (.ref x)) k)
theorem xi_astore_n {E : Nat × (Nat → Int32)} {d m pc : Nat} {lv : List (Nat × Value)} {st : List Value} {S S' : xS} {r : Option Value} {i : Fin 4} {x : Nat} (hdg : decode (x_mB m) pc = .ok (.astore_n i, 1)) (hn : (i : Nat) < x_mL m) (h : x_Rw E d m (pc + 1) (x_s1 lv (i : Nat) (.ref x)) st S r S') : x_Rw E d m pc lv (.ref x :: st) S r S' :=
  x_step h (fun w1 w2 => ⟨x_s1_wf w1 (x_wfs_c.mp w2).1, xw1 w2⟩) (fun l p e R s mid args below meth c A D cs q al H locs ls cells slots Q C X hl k => lv_astore_n C.2.1 C.2.2.1 hdg rfl hl hn (x_s1_map al lv (i : Nat) (.ref x)) k)
theorem xi_iinc {E : Nat × (Nat → Int32)} {d m pc : Nat} {lv : List (Nat × Value)} {st : List Value} {S S' : xS} {r : Option Value} {i : Nat} {n : Int} {x v : Int32} (hdg : decode (x_mB m) pc = .ok (.iinc i n, 3)) (hn : i < x_mL m) (hk : x_lk lv i = some (.int x)) (hv : Int32.ofInt n = v) (h : x_Rw E d m (pc + 3) (x_s1 lv i (.int (x + v))) st S r S') : x_Rw E d m pc lv st S r S' := by
  subst hv
  refine x_step h (fun w1 w2 => ⟨x_s1_wf w1 trivial, w2⟩) (fun l p e R s mid args below meth c A D cs q al H locs ls cells slots Q C X hl k => ?_)
  obtain ⟨j, hj⟩ := List.getElem?_of_mem (List.mem_map.mpr ⟨(i, Value.int x), x_lk_mem hk, rfl⟩ : (i, Value.int x) ∈ lv.map (x_q al))
  exact lv_iinc C.2.1 C.2.2.1 hdg hl hj rfl hn (x_s1_map al lv i (.int (x + Int32.ofInt n))) k
theorem xi_dup {E : Nat × (Nat → Int32)} {d m pc : Nat} {lv : List (Nat × Value)} {st : List Value} {S S' : xS} {r : Option Value} {v : Value} (hdg : decode (x_mB m) pc = .ok (.dup, 1)) (hv : v.category = 1) (h : x_Rw E d m (pc + 1) lv (v :: v :: st) S r S') : x_Rw E d m pc lv (v :: st) S r S' :=
  x_step h (fun w1 w2 => ⟨w1, x_wfs_c.mpr ⟨(x_wfs_c.mp w2).1, w2⟩⟩) (fun l p e R s mid args below meth c A D cs q al H locs ls cells slots Q C X hl k => lv_dup C.2.1 C.2.2.1 hdg ((x_c_cat al v).trans hv) (k ls hl))
theorem xi_pop {E : Nat × (Nat → Int32)} {d m pc : Nat} {lv : List (Nat × Value)} {st : List Value} {S S' : xS} {r : Option Value} {v : Value} (hdg : decode (x_mB m) pc = .ok (.pop, 1)) (hv : v.category = 1) (h : x_Rw E d m (pc + 1) lv (st) S r S') : x_Rw E d m pc lv (v :: st) S r S' :=
  x_step h (fun w1 w2 => ⟨w1, xw1 w2⟩) (fun l p e R s mid args below meth c A D cs q al H locs ls cells slots Q C X hl k => lv_pop C.2.1 C.2.2.1 hdg ((x_c_cat al v).trans hv) (k ls hl))
theorem xi_dup2 {E : Nat × (Nat → Int32)} {d m pc : Nat} {lv : List (Nat × Value)} {st : List Value} {S S' : xS} {r : Option Value} {v w : Value} (hdg : decode (x_mB m) pc = .ok (.dup2, 1)) (hv : v.category = 1) (hw : w.category = 1) (h : x_Rw E d m (pc + 1) lv (v :: w :: v :: w :: st) S r S') : x_Rw E d m pc lv (v :: w :: st) S r S' :=
  x_step h (fun w1 w2 => ⟨w1, x_wfs_c.mpr ⟨(x_wfs_c.mp w2).1, x_wfs_c.mpr ⟨(x_wfs_c.mp (x_wfs_c.mp w2).2).1, w2⟩⟩⟩) (fun l p e R s mid args below meth c A D cs q al H locs ls cells slots Q C X hl k => lv_dup2_11 C.2.1 C.2.2.1 hdg ((x_c_cat al v).trans hv) ((x_c_cat al w).trans hw) (k ls hl))
theorem xi_iadd {E : Nat × (Nat → Int32)} {d m pc : Nat} {lv : List (Nat × Value)} {st : List Value} {S S' : xS} {r : Option Value} {x y : Int32} (hdg : decode (x_mB m) pc = .ok (.iadd, 1))  (h : x_Rw E d m (pc + 1) lv (.int (x + y) :: st) S r S') : x_Rw E d m pc lv (.int y :: .int x :: st) S r S' :=
  x_step h (fun w1 w2 => ⟨w1, xwi (xw2 w2)⟩) (fun l p e R s mid args below meth c A D cs q al H locs ls cells slots Q C X hl k => lv_iadd C.2.1 C.2.2.1 hdg (k ls hl))
theorem xi_isub {E : Nat × (Nat → Int32)} {d m pc : Nat} {lv : List (Nat × Value)} {st : List Value} {S S' : xS} {r : Option Value} {x y : Int32} (hdg : decode (x_mB m) pc = .ok (.isub, 1))  (h : x_Rw E d m (pc + 1) lv (.int (x - y) :: st) S r S') : x_Rw E d m pc lv (.int y :: .int x :: st) S r S' :=
  x_step h (fun w1 w2 => ⟨w1, xwi (xw2 w2)⟩) (fun l p e R s mid args below meth c A D cs q al H locs ls cells slots Q C X hl k => lv_isub C.2.1 C.2.2.1 hdg (k ls hl))
theorem xi_imul {E : Nat × (Nat → Int32)} {d m pc : Nat} {lv : List (Nat × Value)} {st : List Value} {S S' : xS} {r : Option Value} {x y : Int32} (hdg : decode (x_mB m) pc = .ok (.imul, 1))  (h : x_Rw E d m (pc + 1) lv (.int (x * y) :: st) S r S') : x_Rw E d m pc lv (.int y :: .int x :: st) S r S' :=
  x_step h (fun w1 w2 => ⟨w1, xwi (xw2 w2)⟩) (fun l p e R s mid args below meth c A D cs q al H locs ls cells slots Q C X hl k => lv_imul C.2.1 C.2.2.1 hdg (k ls hl))
theorem xi_iand {E : Nat × (Nat → Int32)} {d m pc : Nat} {lv : List (Nat × Value)} {st : List Value} {S S' : xS} {r : Option Value} {x y : Int32} (hdg : decode (x_mB m) pc = .ok (.iand, 1))  (h : x_Rw E d m (pc + 1) lv (.int (x &&& y) :: st) S r S') : x_Rw E d m pc lv (.int y :: .int x :: st) S r S' :=
  x_step h (fun w1 w2 => ⟨w1, xwi (xw2 w2)⟩) (fun l p e R s mid args below meth c A D cs q al H locs ls cells slots Q C X hl k => lv_iand C.2.1 C.2.2.1 hdg (k ls hl))
theorem xi_ior {E : Nat × (Nat → Int32)} {d m pc : Nat} {lv : List (Nat × Value)} {st : List Value} {S S' : xS} {r : Option Value} {x y : Int32} (hdg : decode (x_mB m) pc = .ok (.ior, 1))  (h : x_Rw E d m (pc + 1) lv (.int (x ||| y) :: st) S r S') : x_Rw E d m pc lv (.int y :: .int x :: st) S r S' :=
  x_step h (fun w1 w2 => ⟨w1, xwi (xw2 w2)⟩) (fun l p e R s mid args below meth c A D cs q al H locs ls cells slots Q C X hl k => lv_ior C.2.1 C.2.2.1 hdg (k ls hl))
theorem xi_ixor {E : Nat × (Nat → Int32)} {d m pc : Nat} {lv : List (Nat × Value)} {st : List Value} {S S' : xS} {r : Option Value} {x y : Int32} (hdg : decode (x_mB m) pc = .ok (.ixor, 1))  (h : x_Rw E d m (pc + 1) lv (.int (x ^^^ y) :: st) S r S') : x_Rw E d m pc lv (.int y :: .int x :: st) S r S' :=
  x_step h (fun w1 w2 => ⟨w1, xwi (xw2 w2)⟩) (fun l p e R s mid args below meth c A D cs q al H locs ls cells slots Q C X hl k => lv_ixor C.2.1 C.2.2.1 hdg (k ls hl))
theorem xi_ishl {E : Nat × (Nat → Int32)} {d m pc : Nat} {lv : List (Nat × Value)} {st : List Value} {S S' : xS} {r : Option Value} {x y : Int32} (hdg : decode (x_mB m) pc = .ok (.ishl, 1))  (h : x_Rw E d m (pc + 1) lv (.int (x <<< (y &&& 31)) :: st) S r S') : x_Rw E d m pc lv (.int y :: .int x :: st) S r S' :=
  x_step h (fun w1 w2 => ⟨w1, xwi (xw2 w2)⟩) (fun l p e R s mid args below meth c A D cs q al H locs ls cells slots Q C X hl k => lv_ishl C.2.1 C.2.2.1 hdg (k ls hl))
theorem xi_ishr {E : Nat × (Nat → Int32)} {d m pc : Nat} {lv : List (Nat × Value)} {st : List Value} {S S' : xS} {r : Option Value} {x y : Int32} (hdg : decode (x_mB m) pc = .ok (.ishr, 1))  (h : x_Rw E d m (pc + 1) lv (.int (x >>> (y &&& 31)) :: st) S r S') : x_Rw E d m pc lv (.int y :: .int x :: st) S r S' :=
  x_step h (fun w1 w2 => ⟨w1, xwi (xw2 w2)⟩) (fun l p e R s mid args below meth c A D cs q al H locs ls cells slots Q C X hl k => lv_ishr C.2.1 C.2.2.1 hdg (k ls hl))
theorem xi_iushr {E : Nat × (Nat → Int32)} {d m pc : Nat} {lv : List (Nat × Value)} {st : List Value} {S S' : xS} {r : Option Value} {x y : Int32} (hdg : decode (x_mB m) pc = .ok (.iushr, 1))  (h : x_Rw E d m (pc + 1) lv (.int ((x.toUInt32 >>> (y.toUInt32 &&& Int32.toUInt32 31)).toInt32) :: st) S r S') : x_Rw E d m pc lv (.int y :: .int x :: st) S r S' :=
  x_step h (fun w1 w2 => ⟨w1, xwi (xw2 w2)⟩) (fun l p e R s mid args below meth c A D cs q al H locs ls cells slots Q C X hl k => lv_iushr C.2.1 C.2.2.1 hdg rfl (k ls hl))
theorem xi_ladd {E : Nat × (Nat → Int32)} {d m pc : Nat} {lv : List (Nat × Value)} {st : List Value} {S S' : xS} {r : Option Value} {x y : Int64} (hdg : decode (x_mB m) pc = .ok (.ladd, 1))  (h : x_Rw E d m (pc + 1) lv (.long (x + y) :: st) S r S') : x_Rw E d m pc lv (.long y :: .long x :: st) S r S' :=
  x_step h (fun w1 w2 => ⟨w1, xwl (xw2 w2)⟩) (fun l p e R s mid args below meth c A D cs q al H locs ls cells slots Q C X hl k => lv_ladd C.2.1 C.2.2.1 hdg (k ls hl))
theorem xi_lsub {E : Nat × (Nat → Int32)} {d m pc : Nat} {lv : List (Nat × Value)} {st : List Value} {S S' : xS} {r : Option Value} {x y : Int64} (hdg : decode (x_mB m) pc = .ok (.lsub, 1))  (h : x_Rw E d m (pc + 1) lv (.long (x - y) :: st) S r S') : x_Rw E d m pc lv (.long y :: .long x :: st) S r S' :=
  x_step h (fun w1 w2 => ⟨w1, xwl (xw2 w2)⟩) (fun l p e R s mid args below meth c A D cs q al H locs ls cells slots Q C X hl k => lv_lsub C.2.1 C.2.2.1 hdg (k ls hl))
theorem xi_lmul {E : Nat × (Nat → Int32)} {d m pc : Nat} {lv : List (Nat × Value)} {st : List Value} {S S' : xS} {r : Option Value} {x y : Int64} (hdg : decode (x_mB m) pc = .ok (.lmul, 1))  (h : x_Rw E d m (pc + 1) lv (.long (x * y) :: st) S r S') : x_Rw E d m pc lv (.long y :: .long x :: st) S r S' :=
  x_step h (fun w1 w2 => ⟨w1, xwl (xw2 w2)⟩) (fun l p e R s mid args below meth c A D cs q al H locs ls cells slots Q C X hl k => lv_lmul C.2.1 C.2.2.1 hdg (k ls hl))
theorem xi_land {E : Nat × (Nat → Int32)} {d m pc : Nat} {lv : List (Nat × Value)} {st : List Value} {S S' : xS} {r : Option Value} {x y : Int64} (hdg : decode (x_mB m) pc = .ok (.land, 1))  (h : x_Rw E d m (pc + 1) lv (.long (x &&& y) :: st) S r S') : x_Rw E d m pc lv (.long y :: .long x :: st) S r S' :=
  x_step h (fun w1 w2 => ⟨w1, xwl (xw2 w2)⟩) (fun l p e R s mid args below meth c A D cs q al H locs ls cells slots Q C X hl k => lv_land C.2.1 C.2.2.1 hdg (k ls hl))
theorem xi_lor {E : Nat × (Nat → Int32)} {d m pc : Nat} {lv : List (Nat × Value)} {st : List Value} {S S' : xS} {r : Option Value} {x y : Int64} (hdg : decode (x_mB m) pc = .ok (.lor, 1))  (h : x_Rw E d m (pc + 1) lv (.long (x ||| y) :: st) S r S') : x_Rw E d m pc lv (.long y :: .long x :: st) S r S' :=
  x_step h (fun w1 w2 => ⟨w1, xwl (xw2 w2)⟩) (fun l p e R s mid args below meth c A D cs q al H locs ls cells slots Q C X hl k => lv_lor C.2.1 C.2.2.1 hdg (k ls hl))
theorem xi_lushr {E : Nat × (Nat → Int32)} {d m pc : Nat} {lv : List (Nat × Value)} {st : List Value} {S S' : xS} {r : Option Value} {x : Int64} {y : Int32} (hdg : decode (x_mB m) pc = .ok (.lushr, 1))  (h : x_Rw E d m (pc + 1) lv (.long ((x.toUInt64 >>> (y.toInt64.toUInt64 &&& Int64.toUInt64 63)).toInt64) :: st) S r S') : x_Rw E d m pc lv (.int y :: .long x :: st) S r S' :=
  x_step h (fun w1 w2 => ⟨w1, xwl (xw2 w2)⟩) (fun l p e R s mid args below meth c A D cs q al H locs ls cells slots Q C X hl k => lv_lushr C.2.1 C.2.2.1 hdg rfl (k ls hl))
theorem xi_lshl {E : Nat × (Nat → Int32)} {d m pc : Nat} {lv : List (Nat × Value)} {st : List Value} {S S' : xS} {r : Option Value} {x : Int64} {y : Int32} (hdg : decode (x_mB m) pc = .ok (.lshl, 1))  (h : x_Rw E d m (pc + 1) lv (.long (x <<< (y.toInt64 &&& 63)) :: st) S r S') : x_Rw E d m pc lv (.int y :: .long x :: st) S r S' :=
  x_step h (fun w1 w2 => ⟨w1, xwl (xw2 w2)⟩) (fun l p e R s mid args below meth c A D cs q al H locs ls cells slots Q C X hl k => lv_lshl C.2.1 C.2.2.1 hdg rfl (k ls hl))
theorem xi_i2l {E : Nat × (Nat → Int32)} {d m pc : Nat} {lv : List (Nat × Value)} {st : List Value} {S S' : xS} {r : Option Value} {x : Int32} (hdg : decode (x_mB m) pc = .ok (.i2l, 1))  (h : x_Rw E d m (pc + 1) lv (.long x.toInt64 :: st) S r S') : x_Rw E d m pc lv (.int x :: st) S r S' :=
  x_step h (fun w1 w2 => ⟨w1, xwl (xw1 w2)⟩) (fun l p e R s mid args below meth c A D cs q al H locs ls cells slots Q C X hl k => lv_i2l C.2.1 C.2.2.1 hdg rfl (k ls hl))
theorem xi_lcmp {E : Nat × (Nat → Int32)} {d m pc : Nat} {lv : List (Nat × Value)} {st : List Value} {S S' : xS} {r : Option Value} {x y : Int64} (hdg : decode (x_mB m) pc = .ok (.lcmp, 1))  (h : x_Rw E d m (pc + 1) lv (.int (lg_cmp x y) :: st) S r S') : x_Rw E d m pc lv (.long y :: .long x :: st) S r S' :=
  x_step h (fun w1 w2 => ⟨w1, xwi (xw2 w2)⟩) (fun l p e R s mid args below meth c A D cs q al H locs ls cells slots Q C X hl k => W.lcmp C.2.1 C.2.2.1 hdg (k ls hl))
end
section
theorem xi_ret0 {E : Nat × (Nat → Int32)} {d m pc : Nat} {lv : List (Nat × Value)} {S : xS} (hdg : decode (x_mB m) pc = .ok (.return_, 1)) (hr : x_mR m = none) : x_Rw E d m pc lv [] S none S := by
  refine ⟨⟨Nat.le_refl _, Nat.le_refl _, Nat.le_refl _⟩, ?_⟩
  intro l p e R s mid args below meth c A D cs q al H locs ls cells slots Q C X hl w1 w2 hc hz kk
  have h := kk al H locs ls pc x_ext.rf X w2 ⟨hdg, hr⟩
  rw [Nat.sub_self, Nat.sub_self] at h
  exact h
theorem xi_iret {E : Nat × (Nat → Int32)} {d m pc : Nat} {lv : List (Nat × Value)} {S : xS} {x : Int32} (hdg : decode (x_mB m) pc = .ok (.ireturn, 1)) (hr : ∃ ty, x_mR m = some ty ∧ narrow ty (.int x) = .int x) : x_Rw E d m pc lv [.int x] S (some (.int x)) S := by
  refine ⟨⟨Nat.le_refl _, Nat.le_refl _, Nat.le_refl _⟩, ?_⟩
  intro l p e R s mid args below meth c A D cs q al H locs ls cells slots Q C X hl w1 w2 hc hz kk
  have h := kk al H locs ls pc x_ext.rf X w2 ⟨hdg, hr⟩
  rw [Nat.sub_self, Nat.sub_self] at h
  exact h
theorem xi_lret {E : Nat × (Nat → Int32)} {d m pc : Nat} {lv : List (Nat × Value)} {S : xS} {x : Int64} (hdg : decode (x_mB m) pc = .ok (.lreturn, 1)) (hr : x_mR m = some .long) : x_Rw E d m pc lv [.long x] S (some (.long x)) S := by
  refine ⟨⟨Nat.le_refl _, Nat.le_refl _, Nat.le_refl _⟩, ?_⟩
  intro l p e R s mid args below meth c A D cs q al H locs ls cells slots Q C X hl w1 w2 hc hz kk
  have h := kk al H locs ls pc x_ext.rf X w2 ⟨hdg, hr⟩
  rw [Nat.sub_self, Nat.sub_self] at h
  exact h
theorem xi_aret {E : Nat × (Nat → Int32)} {d m pc : Nat} {lv : List (Nat × Value)} {S : xS} {x : Nat} {n : String} (hdg : decode (x_mB m) pc = .ok (.areturn, 1)) (hr : x_mR m = some (.object n)) : x_Rw E d m pc lv [.ref x] S (some (.ref x)) S := by
  refine ⟨⟨Nat.le_refl _, Nat.le_refl _, Nat.le_refl _⟩, ?_⟩
  intro l p e R s mid args below meth c A D cs q al H locs ls cells slots Q C X hl w1 w2 hc hz kk
  have h := kk al H locs ls pc x_ext.rf X w2 ⟨hdg, n, hr⟩
  rw [Nat.sub_self, Nat.sub_self] at h
  exact h
theorem xi_goto {E : Nat × (Nat → Int32)} {d m pc tgt : Nat} {off : Int} {lv : List (Nat × Value)} {st : List Value} {S S' : xS} {r : Option Value} (hdg : decode (x_mB m) pc = .ok (.goto off, 3)) (ht : (pc : Int) + off = (tgt : Int)) (h : x_Rw E d m tgt lv st S r S') : x_Rw E d m pc lv st S r S' :=
  x_step h (fun w1 w2 => ⟨w1, w2⟩) (fun l p e R s mid args below meth c A D cs q al H locs ls cells slots Q C X hl k => lv_goto C.2.1 C.2.2.1 hdg ht (k ls hl))
theorem xi_tswO {E : Nat × (Nat → Int32)} {d m pc tgt ln : Nat} {df lo hi : Int} {offs : Array Int} {x : Int32} {lv : List (Nat × Value)} {st : List Value} {S S' : xS} {r : Option Value} (hdg : decode (x_mB m) pc = .ok (.tableswitch df lo hi offs, ln)) (hx : x.toInt < lo ∨ hi < x.toInt) (ht : (pc : Int) + df = (tgt : Int)) (h : x_Rw E d m tgt lv st S r S') : x_Rw E d m pc lv (.int x :: st) S r S' :=
  x_step h (fun w1 w2 => ⟨w1, xw1 w2⟩) (fun l p e R s mid args below meth c A D cs q al H locs ls cells slots Q C X hl k => lv_tableOut C.2.1 C.2.2.1 hdg hx ht (k ls hl))
theorem xi_tswI {E : Nat × (Nat → Int32)} {d m pc tgt ln : Nat} {df lo hi off : Int} {offs : Array Int} {x : Int32} {lv : List (Nat × Value)} {st : List Value} {S S' : xS} {r : Option Value} (hdg : decode (x_mB m) pc = .ok (.tableswitch df lo hi offs, ln)) (h1 : ¬ x.toInt < lo) (h2 : ¬ hi < x.toInt) (ho : offs[(x.toInt - lo).toNat]? = some off) (ht : (pc : Int) + off = (tgt : Int)) (h : x_Rw E d m tgt lv st S r S') : x_Rw E d m pc lv (.int x :: st) S r S' :=
  x_step h (fun w1 w2 => ⟨w1, xw1 w2⟩) (fun l p e R s mid args below meth c A D cs q al H locs ls cells slots Q C X hl k => lv_tableIn C.2.1 C.2.2.1 hdg h1 h2 ho ht (k ls hl))
/-! fields -/
def x_tyok (ty : FieldType) (t : Nat) : Bool := match ty with
  | .int => t == 0
  | .boolean => t == 3
  | .long => t == 1
  | .object _ => t == 2
  | .array _ => t == 2
  | _ => false
def x_clsP (ci : Nat) : Prop := ∃ ty0 : Nat → FieldType, vwCl[ci]? = some ((x_C ci).1, (x_C ci).2.1, (x_C ci).2.2) ∧ (x_C ci).2.2 = x_nf ci ∧ (∀ w ∈ u_ws (x_C ci).1 (x_C ci).2.1 (x_C ci).2.2, w ∈ x_tbl) ∧ (∀ a, a < (x_C ci).2.2 → ∀ b, b < (x_C ci).2.2 → a ≠ b → ((x_C ci).2.1 a).2.1 ≠ ((x_C ci).2.1 b).2.1) ∧ (∀ k, k < (x_C ci).2.2 → parseFieldDescriptor ((x_C ci).2.1 k).2.2.1 = some (ty0 k)) ∧ ∀ k, k < (x_C ci).2.2 → x_tyok (ty0 k) (x_tc ci k) = true
theorem x_cls0 : x_clsP 0 := ⟨tyX0, rfl, rfl, x_u0, nmX0, tyX0_ok, by decide +kernel⟩
theorem x_cls1 : x_clsP 1 := ⟨tyX1, rfl, rfl, x_u1, nmX1, tyX1_ok, by decide +kernel⟩
theorem x_cls2 : x_clsP 2 := ⟨tyX2, rfl, rfl, x_u2, nmX2, tyX2_ok, by decide +kernel⟩
theorem x_cls3 : x_clsP 3 := ⟨tyX3, rfl, rfl, x_u3, nmX3, tyX3_ok, by decide +kernel⟩
theorem x_cls4 : x_clsP 4 := ⟨tyX4, rfl, rfl, x_u4, nmX4, tyX4_ok, by decide +kernel⟩
theorem x_cls5 : x_clsP 5 := ⟨tyX5, rfl, rfl, x_u5, nmX5, tyX5_ok, by decide +kernel⟩
theorem x_cls6 : x_clsP 6 := ⟨tyX6, rfl, rfl, x_u6, nmX6, tyX6_ok, by decide +kernel⟩
theorem x_cls7 : x_clsP 7 := ⟨tyX7, rfl, rfl, x_u7, nmX7, tyX7_ok, by decide +kernel⟩
theorem x_cls8 : x_clsP 8 := ⟨tyX8, rfl, rfl, x_u8, nmX8, tyX8_ok, by decide +kernel⟩
theorem x_cls9 : x_clsP 9 := ⟨tyX9, rfl, rfl, x_u9, nmX9, tyX9_ok, by decide +kernel⟩
theorem x_cls10 : x_clsP 10 := ⟨tyX10, rfl, rfl, x_u10, nmX10, tyX10_ok, by decide +kernel⟩
theorem x_cls11 : x_clsP 11 := ⟨tyX11, rfl, rfl, x_u11, nmX11, tyX11_ok, by decide +kernel⟩
theorem x_cls12 : x_clsP 12 := ⟨tyX12, rfl, rfl, x_u12, nmX12, tyX12_ok, by decide +kernel⟩
theorem x_clss : ∀ ci, ci < 13 → x_clsP ci := by
  intro ci h
  match ci, h with
  | 0, _ => exact x_cls0
  | 1, _ => exact x_cls1
  | 2, _ => exact x_cls2
  | 3, _ => exact x_cls3
  | 4, _ => exact x_cls4
  | 5, _ => exact x_cls5
  | 6, _ => exact x_cls6
  | 7, _ => exact x_cls7
  | 8, _ => exact x_cls8
  | 9, _ => exact x_cls9
  | 10, _ => exact x_cls10
  | 11, _ => exact x_cls11
  | 12, _ => exact x_cls12
  | ci + 13, h => exact absurd h (by omega)
theorem x_fl_ok {o idx : Nat} {e : Nat × Nat × Nat × Nat} (h : x_fl o idx = some e) (ho : o < 20) : x_fc o e ∈ x_tbl ∧ e.1 = idx ∧ e.2.1 < 13 ∧ e.2.2.1 < x_nf e.2.1 := by
  have h1 := List.mem_of_find?_eq_some h
  have h2 := List.find?_some h
  have h3 := List.all_eq_true.mp (x_foks o ho) e h1
  simp only [Bool.and_eq_true, decide_eq_true_eq] at h3
  exact ⟨x_at_mem h3.1.1, by simpa using h2, h3.1.2, h3.2⟩
def x_fr (S : xS) (j ci k : Nat) : Option Value := if x_tc ci k = 1 then some (.long (x_L S j k)) else if x_tc ci k = 2 then (match x_P S j k with | some r => some (.ref r) | none => none) else some (.int (x_I S j k))
theorem x_fr_c {S : xS} {j ci k : Nat} {v : Value} (h : x_fr S j ci k = some v) (al : Nat → Nat) : x_fv al S j k (x_tc ci k) = x_c al v := by
  unfold x_fr at h
  unfold x_fv
  by_cases h1 : x_tc ci k = 1
  · rw [if_pos h1] at h ⊢
    cases h
    rfl
  · rw [if_neg h1] at h ⊢
    by_cases h2 : x_tc ci k = 2
    · rw [if_pos h2] at h ⊢
      cases hp : x_P S j k with
      | none => rw [hp] at h; cases h
      | some r => rw [hp] at h; cases h; rfl
    · rw [if_neg h2] at h ⊢
      cases h
      rfl
theorem x_fr_wf {S : xS} {j ci k : Nat} {v : Value} (h : x_fr S j ci k = some v) (hw : x_wf S) : x_vv (x_n S) v := by
  unfold x_fr at h
  by_cases h1 : x_tc ci k = 1
  · rw [if_pos h1] at h
    cases h
    trivial
  · rw [if_neg h1] at h
    by_cases h2 : x_tc ci k = 2
    · rw [if_pos h2] at h
      cases hp : x_P S j k with
      | none => rw [hp] at h; cases h
      | some r => rw [hp] at h; cases h; exact hw.2.2 j k r hp
    · rw [if_neg h2] at h
      cases h
      trivial
theorem x_cell_o {cs : ClassId × ClassId × ClassId} {al : Nat → Nat} {S : xS} {j ci : Nat} (hK : x_K S j = ci) (hc : ci < 13) : x_cell cs al S j = .inr (ci, x_fs al S j ci) := by
  unfold x_cell
  rw [hK, if_pos (by omega)]
theorem x_fs_get {al : Nat → Nat} {S : xS} {j ci k : Nat} (hk : k < x_nf ci) : (x_fs al S j ci)[k]? = some (x_fv al S j k (x_tc ci k)) := by simp [x_fs, hk]
theorem xi_getf {E : Nat × (Nat → Int32)} {d m pc idx i0 j ci k p0 : Nat} {lv : List (Nat × Value)} {st : List Value} {S S' : xS} {r : Option Value} {v : Value} (hdg : decode (x_mB m) pc = .ok (.getfield idx, 3)) (hf : x_fl (x_mo m) idx = some (i0, ci, k, p0)) (ho : x_mo m < 20) (hK : x_K S j = ci) (hv : x_fr S j ci k = some v) (h : x_Rw E d m (pc + 3) lv (v :: st) S r S') : x_Rw E d m pc lv (.ref j :: st) S r S' := by
  obtain ⟨f1, f2, f3, f4⟩ := x_fl_ok hf ho
  dsimp only at f1 f2 f3 f4
  subst f2
  refine ⟨h.1, ?_⟩
  intro l p e R s mid args below meth c A D cs q al H locs ls cells slots Q C X hl w1 w2 hc hz kk
  obtain ⟨ty0, g1, g2, g3, g4, g5, g6⟩ := x_clss ci f3
  have hj : j < x_n S := X.2.2.2.2.2.1 j (by omega)
  have hlk : (Cond.fieldLink (x_o (x_mo m)) i0 ((x_C ci).2.1 k).1 ((x_C ci).2.1 k).2.1 ((x_C ci).2.1 k).2.2.1).before args s = true := C.2.2.2.2.2.2.1 _ f1
  have he : (x_w cs al S)[j]? = some (al j, .inr (ci, x_fs al S j ci)) := by rw [x_w_get hj, x_cell_o hK f3]
  have hfs : (x_fs al S j ci)[k]? = some (x_c al v) := by rw [x_fs_get f4, x_fr_c hv]
  refine va_get C.2.1 C.2.2.1 (C := (x_C ci).1) (T := (x_C ci).2.1) (N := (x_C ci).2.2) C.2.2.2.2.2.2.1 g3 C.2.2.2.2.1 C.2.2.2.2.2.2.2.1 X.1 j he g1 k (by rw [g2]; exact f4) hlk (fun _ h => h) hfs hdg ?_
  exact h.2 l p e R s mid args below meth c A D cs q al H locs ls cells slots Q C X hl w1 (x_wfs_c.mpr ⟨x_fr_wf hv X.2.2.2.2, xw1 w2⟩) hc hz kk
end
section
def x_pI (S : xS) (j k : Nat) (x : Int32) : xS := (xu2 S.1 j k x, S.2)
def x_pL (S : xS) (j k : Nat) (x : Int64) : xS := (S.1, xu2 S.2.1 j k x, S.2.2)
def x_pP (S : xS) (j k : Nat) (x : Nat) : xS := (S.1, S.2.1, xu2 S.2.2.1 j k (some x), S.2.2.2)
def x_pA (S : xS) (j : Nat) (f : Nat → Int32) : xS := (S.1, S.2.1, S.2.2.1, xu1 S.2.2.2.1 j f, S.2.2.2.2)
def x_pB (S : xS) (j : Nat) (f : Nat → Int64) : xS := (S.1, S.2.1, S.2.2.1, S.2.2.2.1, xu1 S.2.2.2.2.1 j f, S.2.2.2.2.2)
theorem x_in2 {x : Int32} (h : vp_in x 2) : x = 0 ∨ x = 1 := by
  obtain ⟨j, hj, rfl⟩ := vp_in_of h (by decide)
  rcases (show j = 0 ∨ j = 1 by omega) with rfl | rfl
  · exact Or.inl rfl
  · exact Or.inr rfl
theorem x_nar {x : Int32} (h : vp_in x 2) : narrow .boolean (.int x) = .int x ∧ fits .boolean (.int x) = true ∧ vp_nar .boolean x = x := by
  rcases x_in2 h with rfl | rfl <;> exact ⟨by decide, by decide, by decide⟩
/-- what a field of this kind takes -/
def x_takes (t : Nat) (v : Value) : Prop := match v with
  | .int x => t = 0 ∨ (t = 3 ∧ vp_in x 2)
  | .long _ => t = 1
  | .ref _ => t = 2
  | _ => False
theorem x_takes_ok {ty : FieldType} {t : Nat} {v : Value} (h : x_tyok ty t = true) (hv : x_takes t v) (al : Nat → Nat) : narrow ty (x_c al v) = x_c al v ∧ fits ty (x_c al v) = true := by
  cases v with
  | int x =>
    rcases hv with rfl | ⟨rfl, hx⟩
    · cases ty <;> first | exact ⟨rfl, rfl⟩ | (simp [x_tyok] at h)
    · cases ty <;> first | exact ⟨(x_nar hx).1, (x_nar hx).2.1⟩ | (simp [x_tyok] at h)
  | long x =>
    have hv : t = 1 := hv
    subst hv
    cases ty <;> first | exact ⟨rfl, rfl⟩ | (simp [x_tyok] at h)
  | ref x =>
    have hv : t = 2 := hv
    subst hv
    cases ty <;> first | exact ⟨rfl, rfl⟩ | (simp [x_tyok] at h)
  | float x => exact absurd hv (fun h => h)
  | double x => exact absurd hv (fun h => h)
  | null => exact absurd hv (fun h => h)
  | retAddr x => exact absurd hv (fun h => h)
theorem x_put {E : Nat × (Nat → Int32)} {d m pc idx i0 j ci k p0 : Nat} {lv : List (Nat × Value)} {st : List Value} {S S1 S' : xS} {r : Option Value} {v : Value} (hdg : decode (x_mB m) pc = .ok (.putfield idx, 3)) (hf : x_fl (x_mo m) idx = some (i0, ci, k, p0)) (ho : x_mo m < 20) (hK : x_K S j = ci) (hfin : ((x_C ci).2.1 k).2.2.2 = false ∨ ((x_mY m).name = "<init>" ∧ ((x_C ci).2.1 k).1 = x_o (x_mo m)))
    (hv : x_takes (x_tc ci k) v) (h1 : ∀ (al : Nat → Nat) (a b t : Nat), ¬ (a = j ∧ b = k) → x_fv al S1 a b t = x_fv al S a b t) (h2 : ∀ al : Nat → Nat, x_fv al S1 j k (x_tc ci k) = x_c al v) (h3 : S1.2.2.2 = S.2.2.2) (h4 : x_wf S → x_vv (x_n S) v → x_wf S1)
    (h : x_Rw E d m (pc + 3) lv st S1 r S') : x_Rw E d m pc lv (v :: .ref j :: st) S r S' := by
  obtain ⟨f1, f2, f3, f4⟩ := x_fl_ok hf ho
  dsimp only at f1 f2 f3 f4
  subst f2
  have en : x_n S1 = x_n S := congrArg (fun z => z.2.2.2.2.1) h3
  have ek : x_k S1 = x_k S := congrArg (fun z => z.2.2.2.2.2.1) h3
  have ez : x_z S1 = x_z S := congrArg (fun z => z.2.2.2.2.2.2) h3
  have eK : x_K S1 = x_K S := congrArg (fun z => z.2.2.2.1) h3
  have eN : x_N S1 = x_N S := congrArg (fun z => z.2.2.1) h3
  have eA : x_A S1 = x_A S := congrArg (fun z => z.1) h3
  have eB : x_B S1 = x_B S := congrArg (fun z => z.2.1) h3
  refine x_stepS h ⟨by omega, by omega, by omega⟩ (fun w1 w2 => ⟨by rw [en]; exact w1, by rw [en]; exact xw2 w2⟩) ?_
  intro l p e R s mid args below meth c A D cs q al H locs ls cells slots Q C X hl w1 w2 hc hz kk
  obtain ⟨ty0, g1, g2, g3, g4, g5, g6⟩ := x_clss ci f3
  have hj : j < x_n S := X.2.2.2.2.2.1 j (by omega)
  have hk : k < (x_C ci).2.2 := by rw [g2]; exact f4
  have hlk : (Cond.fieldLink (x_o (x_mo m)) i0 ((x_C ci).2.1 k).1 ((x_C ci).2.1 k).2.1 ((x_C ci).2.1 k).2.2.1).before args s = true := C.2.2.2.2.2.2.1 _ f1
  have he : (x_w cs al S)[j]? = some (al j, .inr (ci, x_fs al S j ci)) := by rw [x_w_get hj, x_cell_o hK f3]
  have hl2 : k < (x_fs al S j ci).length := by simp [x_fs, f4]
  obtain ⟨nr, ft⟩ := x_takes_ok (g6 k hk) hv al
  have hset : (x_fs al S j ci).set k (x_c al v) = x_fs al S1 j ci := by
    unfold x_fs
    exact x_rset (h2 al) (fun b hb => h1 al j b _ (fun z => hb z.2))
  have hcell : x_cell cs al S1 j = .inr (ci, (x_fs al S j ci).set k (x_c al v)) := by rw [hset]; exact x_cell_o (by rw [eK]; exact hK) f3
  have hoth : ∀ a, a ≠ j → x_cell cs al S1 a = x_cell cs al S a := by
    intro a ha
    have hfs : ∀ c0, x_fs al S1 a c0 = x_fs al S a c0 := fun c0 => by
      unfold x_fs
      exact List.map_congr_left (fun b _ => h1 al a b _ (fun z => ha z.1))
    unfold x_cell
    rw [eK, eN, eA, eB, hfs]
  have hws := x_w_set (cs := cs) (al := al) en hcell hoth
  have fin : ∀ (H1 : Heap) (locs1 : List Loc), va_P D vwCl ((x_w cs al S).set j (al j, .inr (ci, (x_fs al S j ci).set k (x_c al v)))) H1 → va_D A ((x_w cs al S).set j (al j, .inr (ci, (x_fs al S j ci).set k (x_c al v)))) → va_S A s.heap H1 locs1 → W p l e R s mid args below meth c H1 locs1 cells slots Q (F0 mid (pc + 3) ls (st.map (x_c al))) := by
    intro H1 locs1 p1 p2 p3
    rw [hws] at p1 p2
    have := kk al H1 locs1 ls x_ext.rf ⟨p1, p2, p3, X.2.2.2.1, h4 X.2.2.2.2 (x_wfs_c.mp w2).1⟩ hl
    rw [ek, ez, Nat.sub_self, Nat.sub_self] at this
    exact this
  cases hb : ((x_C ci).2.1 k).2.2.2 with
  | false => exact va_put C.2.1 C.2.2.1 (C := (x_C ci).1) (T := (x_C ci).2.1) (N := (x_C ci).2.2) C.2.2.2.2.2.2.1 g3 ty0 g5 g4 C.2.2.2.2.1 C.2.2.2.2.2.2.2.1 X.1 X.2.1 X.2.2.1 j he g1 k hk hlk (fun _ h => h) hb (g5 k hk) nr ft hl2 hdg fin
  | true =>
    rcases hfin with hfin | ⟨q1, q2⟩
    · rw [hb] at hfin; cases hfin
    · exact va_putF C.2.1 C.2.2.1 (C := (x_C ci).1) (T := (x_C ci).2.1) (N := (x_C ci).2.2) C.2.2.2.2.2.2.1 g3 ty0 g5 g4 C.2.2.2.2.1 C.2.2.2.2.2.2.2.1 X.1 X.2.1 X.2.2.1 j he g1 k hk hlk (fun _ h => h) hb (C.2.2.2.2.2.1.trans q1) q2 (g5 k hk) nr ft hl2 hdg fin
theorem xi_putI {E : Nat × (Nat → Int32)} {d m pc idx i0 j ci k p0 : Nat} {lv : List (Nat × Value)} {st : List Value} {S S' : xS} {r : Option Value} {x : Int32} (hdg : decode (x_mB m) pc = .ok (.putfield idx, 3)) (hf : x_fl (x_mo m) idx = some (i0, ci, k, p0)) (ho : x_mo m < 20) (hK : x_K S j = ci) (hfin : ((x_C ci).2.1 k).2.2.2 = false ∨ ((x_mY m).name = "<init>" ∧ ((x_C ci).2.1 k).1 = x_o (x_mo m)))
    (hv : x_tc ci k = 0 ∨ (x_tc ci k = 3 ∧ vp_in x 2)) (h : x_Rw E d m (pc + 3) lv st (x_pI S j k x) r S') : x_Rw E d m pc lv (.int x :: .ref j :: st) S r S' := by
  refine x_put (S1 := x_pI S j k x) hdg hf ho hK hfin (v := .int x) hv (fun al a b t hn => ?_) (fun al => ?_) rfl (fun w _ => w) h
  · unfold x_fv x_pI
    simp only [x_I, x_L, x_P, xu2_n _ _ hn]
  · unfold x_fv x_pI
    rw [if_neg (by omega), if_neg (by omega)]
    simp only [x_I, xu2_s]
    rfl
theorem xi_putL {E : Nat × (Nat → Int32)} {d m pc idx i0 j ci k p0 : Nat} {lv : List (Nat × Value)} {st : List Value} {S S' : xS} {r : Option Value} {x : Int64} (hdg : decode (x_mB m) pc = .ok (.putfield idx, 3)) (hf : x_fl (x_mo m) idx = some (i0, ci, k, p0)) (ho : x_mo m < 20) (hK : x_K S j = ci) (hfin : ((x_C ci).2.1 k).2.2.2 = false ∨ ((x_mY m).name = "<init>" ∧ ((x_C ci).2.1 k).1 = x_o (x_mo m)))
    (hv : x_tc ci k = 1) (h : x_Rw E d m (pc + 3) lv st (x_pL S j k x) r S') : x_Rw E d m pc lv (.long x :: .ref j :: st) S r S' := by
  refine x_put (S1 := x_pL S j k x) hdg hf ho hK hfin (v := .long x) hv (fun al a b t hn => ?_) (fun al => ?_) rfl (fun w _ => w) h
  · unfold x_fv x_pL
    simp only [x_I, x_L, x_P, xu2_n _ _ hn]
  · unfold x_fv x_pL
    rw [if_pos hv]
    simp only [x_L, xu2_s]
    rfl
theorem xi_putR {E : Nat × (Nat → Int32)} {d m pc idx i0 j ci k p0 : Nat} {lv : List (Nat × Value)} {st : List Value} {S S' : xS} {r : Option Value} {x : Nat} (hdg : decode (x_mB m) pc = .ok (.putfield idx, 3)) (hf : x_fl (x_mo m) idx = some (i0, ci, k, p0)) (ho : x_mo m < 20) (hK : x_K S j = ci) (hfin : ((x_C ci).2.1 k).2.2.2 = false ∨ ((x_mY m).name = "<init>" ∧ ((x_C ci).2.1 k).1 = x_o (x_mo m)))
    (hv : x_tc ci k = 2) (h : x_Rw E d m (pc + 3) lv st (x_pP S j k x) r S') : x_Rw E d m pc lv (.ref x :: .ref j :: st) S r S' := by
  refine x_put (S1 := x_pP S j k x) hdg hf ho hK hfin (v := .ref x) hv (fun al a b t hn => ?_) (fun al => ?_) rfl (fun w hx => ⟨w.1, w.2.1, fun a b r hr => ?_⟩) h
  · unfold x_fv x_pP
    simp only [x_I, x_L, x_P, xu2_n _ _ hn]
  · unfold x_fv x_pP
    rw [if_neg (by omega), if_pos hv]
    simp only [x_P, xu2_s]
    rfl
  · by_cases hn : a = j ∧ b = k
    · obtain ⟨rfl, rfl⟩ := hn
      have : x_P (x_pP S a b x) a b = some x := xu2_s _ _ _ _
      rw [this] at hr
      cases hr
      exact hx
    · have : x_P (x_pP S j k x) a b = x_P S a b := xu2_n _ _ hn
      rw [this] at hr
      exact w.2.2 a b r hr
/-! arrays -/
theorem x_cell_i {cs : ClassId × ClassId × ClassId} {al : Nat → Nat} {S : xS} {j : Nat} (hK : x_K S j = 100) : x_cell cs al S j = .inl (cs.1, x_N S j, .inl (x_A S j)) := by
  unfold x_cell
  rw [hK, if_neg (by omega), if_pos rfl]
theorem x_cell_z {cs : ClassId × ClassId × ClassId} {al : Nat → Nat} {S : xS} {j : Nat} (hK : x_K S j = 101) : x_cell cs al S j = .inl (cs.2.1, x_N S j, .inl (x_A S j)) := by
  unfold x_cell
  rw [hK, if_neg (by omega), if_neg (by omega), if_pos rfl]
theorem x_cell_l {cs : ClassId × ClassId × ClassId} {al : Nat → Nat} {S : xS} {j : Nat} (hK : x_K S j = 102) : x_cell cs al S j = .inl (cs.2.2, x_N S j, .inr (.inl (x_B S j))) := by
  unfold x_cell
  rw [hK, if_neg (by omega), if_neg (by omega), if_neg (by omega)]
theorem xi_iald {E : Nat × (Nat → Int32)} {d m pc j : Nat} {i : Int32} {lv : List (Nat × Value)} {st : List Value} {S S' : xS} {r : Option Value} (hdg : decode (x_mB m) pc = .ok (.iaload, 1)) (hK : x_K S j = 100) (hb : vp_in i (x_N S j)) (h : x_Rw E d m (pc + 1) lv (.int (x_A S j i.toNatClampNeg) :: st) S r S') : x_Rw E d m pc lv (.int i :: .ref j :: st) S r S' :=
  x_step h (fun w1 w2 => ⟨w1, xwi (xw2 w2)⟩) (fun l p e R s mid args below meth c A D cs q al H locs ls cells slots Q C X hl k => va_iald C.2.1 C.2.2.1 C.2.2.2.2.2.2.2.1 X.1 j 0 ((x_w_get (X.2.2.2.2.2.1 j (by omega))).trans (by rw [x_cell_i hK])) rfl hb hdg (k ls hl))
theorem xi_zald {E : Nat × (Nat → Int32)} {d m pc j : Nat} {i : Int32} {lv : List (Nat × Value)} {st : List Value} {S S' : xS} {r : Option Value} (hdg : decode (x_mB m) pc = .ok (.baload, 1)) (hK : x_K S j = 101) (hb : vp_in i (x_N S j)) (h : x_Rw E d m (pc + 1) lv (.int (x_A S j i.toNatClampNeg) :: st) S r S') : x_Rw E d m pc lv (.int i :: .ref j :: st) S r S' :=
  x_step h (fun w1 w2 => ⟨w1, xwi (xw2 w2)⟩) (fun l p e R s mid args below meth c A D cs q al H locs ls cells slots Q C X hl k => va_zald C.2.1 C.2.2.1 C.2.2.2.2.2.2.2.1 X.1 j 1 ((x_w_get (X.2.2.2.2.2.1 j (by omega))).trans (by rw [x_cell_z hK])) rfl hb hdg (k ls hl))
theorem xi_lald {E : Nat × (Nat → Int32)} {d m pc j : Nat} {i : Int32} {lv : List (Nat × Value)} {st : List Value} {S S' : xS} {r : Option Value} (hdg : decode (x_mB m) pc = .ok (.laload, 1)) (hK : x_K S j = 102) (hb : vp_in i (x_N S j)) (h : x_Rw E d m (pc + 1) lv (.long (x_B S j i.toNatClampNeg) :: st) S r S') : x_Rw E d m pc lv (.int i :: .ref j :: st) S r S' :=
  x_step h (fun w1 w2 => ⟨w1, xwl (xw2 w2)⟩) (fun l p e R s mid args below meth c A D cs q al H locs ls cells slots Q C X hl k => va_lald C.2.1 C.2.2.1 C.2.2.2.2.2.2.2.1 X.1 j 2 ((x_w_get (X.2.2.2.2.2.1 j (by omega))).trans (by rw [x_cell_l hK])) rfl hb hdg (k ls hl))
theorem xi_alen {E : Nat × (Nat → Int32)} {d m pc j : Nat} {lv : List (Nat × Value)} {st : List Value} {S S' : xS} {r : Option Value} (hdg : decode (x_mB m) pc = .ok (.arraylength, 1)) (hK : x_K S j = 100 ∨ x_K S j = 101 ∨ x_K S j = 102) (h : x_Rw E d m (pc + 1) lv (.int (Int32.ofNat (x_N S j)) :: st) S r S') : x_Rw E d m pc lv (.ref j :: st) S r S' := by
  refine x_step h (fun w1 w2 => ⟨w1, xwi (xw1 w2)⟩) (fun l p e R s mid args below meth c A D cs q al H locs ls cells slots Q C X hl k => ?_)
  have hj : j < x_n S := X.2.2.2.2.2.1 j (by omega)
  rcases hK with hK | hK | hK
  · exact va_alen C.2.1 C.2.2.1 C.2.2.2.2.2.2.2.1 X.1 j 0 (x := (x_N S j, .inl (x_A S j))) ((x_w_get hj).trans (by rw [x_cell_i hK])) rfl rfl hdg (k ls hl)
  · exact va_alen C.2.1 C.2.2.1 C.2.2.2.2.2.2.2.1 X.1 j 1 (x := (x_N S j, .inl (x_A S j))) ((x_w_get hj).trans (by rw [x_cell_z hK])) rfl rfl hdg (k ls hl)
  · exact va_alen C.2.1 C.2.2.1 C.2.2.2.2.2.2.2.1 X.1 j 2 (x := (x_N S j, .inr (.inl (x_B S j)))) ((x_w_get hj).trans (by rw [x_cell_l hK])) rfl rfl hdg (k ls hl)
theorem xi_sld {E : Nat × (Nat → Int32)} {d m pc : Nat} {i : Int32} {lv : List (Nat × Value)} {st : List Value} {S S' : xS} {r : Option Value} (hdg : decode (x_mB m) pc = .ok (.iaload, 1)) (hb : vp_in i E.1) (h : x_Rw E d m (pc + 1) lv (.int (E.2 i.toNatClampNeg) :: st) S r S') : x_Rw E d m pc lv (.int i :: .ref x_ext0 :: st) S r S' :=
  x_step h (fun w1 w2 => ⟨w1, xwi (xw2 w2)⟩) (fun l p e R s mid args below meth c A D cs q al H locs ls cells slots Q C X hl k => by
    obtain ⟨⟨a1, a2, a3⟩, -⟩ := C.2.2.2.2.2.2.2.2.2.2.2
    have e0 : al x_ext0 = q.1 := X.2.2.2.1 0 (by decide)
    show W p l e R s mid args below meth c H locs cells slots Q (F0 mid pc ls (.int i :: .ref (al x_ext0) :: st.map (x_c al)))
    rw [e0]
    exact va_sld C.2.1 C.2.2.1 a1 a2 a3 X.2.2.1 hb hdg (k ls hl))
theorem xi_slen {E : Nat × (Nat → Int32)} {d m pc : Nat} {lv : List (Nat × Value)} {st : List Value} {S S' : xS} {r : Option Value} (hdg : decode (x_mB m) pc = .ok (.arraylength, 1)) (h : x_Rw E d m (pc + 1) lv (.int (Int32.ofNat E.1) :: st) S r S') : x_Rw E d m pc lv (.ref x_ext0 :: st) S r S' :=
  x_step h (fun w1 w2 => ⟨w1, xwi (xw1 w2)⟩) (fun l p e R s mid args below meth c A D cs q al H locs ls cells slots Q C X hl k => by
    obtain ⟨⟨a1, a2, a3⟩, -⟩ := C.2.2.2.2.2.2.2.2.2.2.2
    have e0 : al x_ext0 = q.1 := X.2.2.2.1 0 (by decide)
    show W p l e R s mid args below meth c H locs cells slots Q (F0 mid pc ls (.ref (al x_ext0) :: st.map (x_c al)))
    rw [e0]
    exact va_slen C.2.1 C.2.2.1 a1 a2 a3 X.2.2.1 hdg (k ls hl))
theorem x_pA_cell {cs : ClassId × ClassId × ClassId} {al : Nat → Nat} {S : xS} {j : Nat} {f : Nat → Int32} : ∀ a, a ≠ j → x_cell cs al (x_pA S j f) a = x_cell cs al S a := by
  intro a ha
  have e : x_A (x_pA S j f) a = x_A S a := xu1_n _ _ ha
  unfold x_cell
  rw [e]
  rfl
theorem x_pB_cell {cs : ClassId × ClassId × ClassId} {al : Nat → Nat} {S : xS} {j : Nat} {f : Nat → Int64} : ∀ a, a ≠ j → x_cell cs al (x_pB S j f) a = x_cell cs al S a := by
  intro a ha
  have e : x_B (x_pB S j f) a = x_B S a := xu1_n _ _ ha
  unfold x_cell
  rw [e]
  rfl
theorem x_sub0 (a b : Nat) : a + (b - b) = a := by omega
theorem xi_iast {E : Nat × (Nat → Int32)} {d m pc j : Nat} {i x : Int32} {lv : List (Nat × Value)} {st : List Value} {S S' : xS} {r : Option Value} (hdg : decode (x_mB m) pc = .ok (.iastore, 1)) (hK : x_K S j = 100) (hb : vp_in i (x_N S j)) (h : x_Rw E d m (pc + 1) lv st (x_pA S j (upd (x_A S j) i.toNatClampNeg x)) r S') : x_Rw E d m pc lv (.int x :: .int i :: .ref j :: st) S r S' := by
  refine x_stepS h ⟨Nat.le_refl _, Nat.le_refl _, Nat.le_refl _⟩ (fun w1 w2 => ⟨w1, xw3 w2⟩) ?_
  intro l p e R s mid args below meth c A D cs q al H locs ls cells slots Q C X hl w1 w2 hc hz kk
  have hws := x_w_set (cs := cs) (al := al) (S := S) (S' := x_pA S j (upd (x_A S j) i.toNatClampNeg x)) (i := j) (e := .inl (cs.1, x_N S j, .inl (upd (x_A S j) i.toNatClampNeg x))) rfl ((x_cell_i (S := x_pA S j (upd (x_A S j) i.toNatClampNeg x)) hK).trans (by rw [show x_A (x_pA S j (upd (x_A S j) i.toNatClampNeg x)) j = upd (x_A S j) i.toNatClampNeg x from xu1_s _ _ _]; rfl)) x_pA_cell
  refine va_iast C.2.1 C.2.2.1 C.2.2.2.2.2.2.2.1 X.1 X.2.1 X.2.2.1 j 0 ((x_w_get (X.2.2.2.2.2.1 j (by omega))).trans (by rw [x_cell_i hK])) rfl hb hdg (fun H1 locs1 p1 p2 p3 => ?_)
  rw [hws] at p1 p2
  have := kk al H1 locs1 ls x_ext.rf ⟨p1, p2, p3, X.2.2.2.1, X.2.2.2.2⟩ hl
  rw [show cells + (x_k (x_pA S j (upd (x_A S j) i.toNatClampNeg x)) - x_k S) = cells from x_sub0 _ _, show slots + (x_z (x_pA S j (upd (x_A S j) i.toNatClampNeg x)) - x_z S) = slots from x_sub0 _ _] at this
  exact this
theorem xi_zast {E : Nat × (Nat → Int32)} {d m pc j : Nat} {i x : Int32} {lv : List (Nat × Value)} {st : List Value} {S S' : xS} {r : Option Value} (hdg : decode (x_mB m) pc = .ok (.bastore, 1)) (hK : x_K S j = 101) (hb : vp_in i (x_N S j)) (hx : vp_in x 2) (h : x_Rw E d m (pc + 1) lv st (x_pA S j (upd (x_A S j) i.toNatClampNeg x)) r S') : x_Rw E d m pc lv (.int x :: .int i :: .ref j :: st) S r S' := by
  refine x_stepS h ⟨Nat.le_refl _, Nat.le_refl _, Nat.le_refl _⟩ (fun w1 w2 => ⟨w1, xw3 w2⟩) ?_
  intro l p e R s mid args below meth c A D cs q al H locs ls cells slots Q C X hl w1 w2 hc hz kk
  have hws := x_w_set (cs := cs) (al := al) (S := S) (S' := x_pA S j (upd (x_A S j) i.toNatClampNeg x)) (i := j) (e := .inl (cs.2.1, x_N S j, .inl (upd (x_A S j) i.toNatClampNeg x))) rfl ((x_cell_z (S := x_pA S j (upd (x_A S j) i.toNatClampNeg x)) hK).trans (by rw [show x_A (x_pA S j (upd (x_A S j) i.toNatClampNeg x)) j = upd (x_A S j) i.toNatClampNeg x from xu1_s _ _ _]; rfl)) x_pA_cell
  refine va_zast C.2.1 C.2.2.1 C.2.2.2.2.2.2.2.1 X.1 X.2.1 X.2.2.1 j 1 ((x_w_get (X.2.2.2.2.2.1 j (by omega))).trans (by rw [x_cell_z hK])) rfl hb hdg (fun H1 locs1 p1 p2 p3 => ?_)
  rw [(x_nar hx).2.2, hws] at p1 p2
  have := kk al H1 locs1 ls x_ext.rf ⟨p1, p2, p3, X.2.2.2.1, X.2.2.2.2⟩ hl
  rw [show cells + (x_k (x_pA S j (upd (x_A S j) i.toNatClampNeg x)) - x_k S) = cells from x_sub0 _ _, show slots + (x_z (x_pA S j (upd (x_A S j) i.toNatClampNeg x)) - x_z S) = slots from x_sub0 _ _] at this
  exact this
theorem xi_last {E : Nat × (Nat → Int32)} {d m pc j : Nat} {i : Int32} {x : Int64} {lv : List (Nat × Value)} {st : List Value} {S S' : xS} {r : Option Value} (hdg : decode (x_mB m) pc = .ok (.lastore, 1)) (hK : x_K S j = 102) (hb : vp_in i (x_N S j)) (h : x_Rw E d m (pc + 1) lv st (x_pB S j (vp_updL (x_B S j) i.toNatClampNeg x)) r S') : x_Rw E d m pc lv (.long x :: .int i :: .ref j :: st) S r S' := by
  refine x_stepS h ⟨Nat.le_refl _, Nat.le_refl _, Nat.le_refl _⟩ (fun w1 w2 => ⟨w1, xw3 w2⟩) ?_
  intro l p e R s mid args below meth c A D cs q al H locs ls cells slots Q C X hl w1 w2 hc hz kk
  have hws := x_w_set (cs := cs) (al := al) (S := S) (S' := x_pB S j (vp_updL (x_B S j) i.toNatClampNeg x)) (i := j) (e := .inl (cs.2.2, x_N S j, .inr (.inl (vp_updL (x_B S j) i.toNatClampNeg x)))) rfl ((x_cell_l (S := x_pB S j (vp_updL (x_B S j) i.toNatClampNeg x)) hK).trans (by rw [show x_B (x_pB S j (vp_updL (x_B S j) i.toNatClampNeg x)) j = vp_updL (x_B S j) i.toNatClampNeg x from xu1_s _ _ _]; rfl)) x_pB_cell
  refine va_last C.2.1 C.2.2.1 C.2.2.2.2.2.2.2.1 X.1 X.2.1 X.2.2.1 j 2 ((x_w_get (X.2.2.2.2.2.1 j (by omega))).trans (by rw [x_cell_l hK])) rfl hb hdg (fun H1 locs1 p1 p2 p3 => ?_)
  rw [hws] at p1 p2
  have := kk al H1 locs1 ls x_ext.rf ⟨p1, p2, p3, X.2.2.2.1, X.2.2.2.2⟩ hl
  rw [show cells + (x_k (x_pB S j (vp_updL (x_B S j) i.toNatClampNeg x)) - x_k S) = cells from x_sub0 _ _, show slots + (x_z (x_pB S j (vp_updL (x_B S j) i.toNatClampNeg x)) - x_z S) = slots from x_sub0 _ _] at this
  exact this
end
section
/-! new cells -/
def x_new (S : xS) (ci : Nat) : xS := (xu1 S.1 (x_n S) (fun _ => 0), xu1 S.2.1 (x_n S) (fun _ => 0), xu1 S.2.2.1 (x_n S) (fun _ => none), S.2.2.2.1, S.2.2.2.2.1, S.2.2.2.2.2.1, xu1 (x_K S) (x_n S) ci, x_n S + 1, x_k S + 1, x_z S + x_nf ci)
def x_newA (S : xS) (kd len : Nat) : xS := (S.1, S.2.1, S.2.2.1, xu1 S.2.2.2.1 (x_n S) (fun _ => 0), xu1 S.2.2.2.2.1 (x_n S) (fun _ => 0), xu1 S.2.2.2.2.2.1 (x_n S) len, xu1 (x_K S) (x_n S) kd, x_n S + 1, x_k S + 1, x_z S + len)
theorem x_al1 {al : Nat → Nat} {n a : Nat} (hn : n < x_ext0) : x_ext al (xu1 al n a) n := by
  intro r hr
  refine xu1_n _ _ ?_
  rcases hr with h | h
  · omega
  · omega
/-- the cells that were there look the same -/
theorem x_cell_old {cs : ClassId × ClassId × ClassId} {al al1 : Nat → Nat} {S S1 : xS} (he : x_ext al al1 (x_n S)) (hw : x_wf S) {i : Nat} (e1 : x_I S1 i = x_I S i) (e2 : x_L S1 i = x_L S i) (e3 : x_P S1 i = x_P S i) (e4 : x_A S1 i = x_A S i) (e5 : x_B S1 i = x_B S i) (e6 : x_N S1 i = x_N S i) (e7 : x_K S1 i = x_K S i) : x_cell cs al1 S1 i = x_cell cs al S i := by
  have hfv : ∀ k t, x_fv al1 S1 i k t = x_fv al S i k t := by
    intro k t
    unfold x_fv
    rw [e1, e2, e3]
    cases hp : x_P S i k with
    | none => rfl
    | some r => simp only [Option.map_some, he r (hw.2.2 i k r hp)]
  have hfs : ∀ c, x_fs al1 S1 i c = x_fs al S i c := fun c => by
    unfold x_fs
    exact List.map_congr_left (fun k _ => hfv k _)
  unfold x_cell
  rw [e4, e5, e6, e7, hfs]
theorem x_w_push {cs : ClassId × ClassId × ClassId} {al al1 : Nat → Nat} {S S1 : xS} {a : Nat} {e : va_E} (hn : x_n S1 = x_n S + 1) (ha : ∀ i, i < x_n S → al1 i = al i) (hc : ∀ i, i < x_n S → x_cell cs al1 S1 i = x_cell cs al S i) (h1 : al1 (x_n S) = a) (h2 : x_cell cs al1 S1 (x_n S) = e) : x_w cs al S ++ [(a, e)] = x_w cs al1 S1 := by
  unfold x_w
  rw [hn, List.range_succ, List.map_append]
  have : (List.range (x_n S)).map (fun i => (al1 i, x_cell cs al1 S1 i)) = (List.range (x_n S)).map (fun i => (al i, x_cell cs al S i)) := List.map_congr_left (fun i hi => by rw [ha i (List.mem_range.mp hi), hc i (List.mem_range.mp hi)])
  rw [this]
  simp [h1, h2]
theorem x_wf_K {S S1 : xS} (hw : x_wf S) (hn : x_n S1 = x_n S + 1) (hlt : x_n S < x_ext0) (kd : Nat) (hK : x_K S1 = xu1 (x_K S) (x_n S) kd) (hP : ∀ i k r, x_P S1 i k = some r → x_P S i k = some r) : x_wf S1 := by
  refine ⟨by omega, fun j hj => ?_, fun i k r hr => (hw.2.2 i k r (hP i k r hr)).mono (by omega)⟩
  rw [hK] at hj
  by_cases e : j = x_n S
  · omega
  · rw [xu1_n _ _ e] at hj
    have := hw.2.1 j hj
    omega
theorem x_nw_ok {o idx : Nat} {e : Nat × Nat × Nat} (h : x_nw o idx = some e) (ho : o < 20) : Cond.classLink (x_o o) idx (x_C e.2.1).1 ∈ x_tbl ∧ Cond.instantiable (x_C e.2.1).1 (x_nf e.2.1) ∈ x_tbl ∧ Cond.initialized (x_C e.2.1).1 ∈ x_tbl ∧ e.2.1 < 13 := by
  have h1 := List.mem_of_find?_eq_some h
  have h2 : e.1 = idx := by simpa using List.find?_some h
  have h3 := List.all_eq_true.mp (List.all_eq_true.mp x_nwoks o (List.mem_range.mpr ho)) e h1
  simp only [Bool.and_eq_true, decide_eq_true_eq] at h3
  rw [h2] at h3
  exact ⟨x_at_mem h3.1.1.1, x_at_mem h3.1.1.2, x_at_mem h3.1.2, h3.2⟩
theorem x_dflt {ty : FieldType} {t : Nat} (h : x_tyok ty t = true) : defaultValue ty = (if t = 1 then .long 0 else if t = 2 then .null else .int 0) := by
  cases ty <;> simp [x_tyok] at h <;> subst h <;> rfl
theorem xi_new {E : Nat × (Nat → Int32)} {d m pc idx i0 ci p0 : Nat} {lv : List (Nat × Value)} {st : List Value} {S S' : xS} {r : Option Value} (hdg : decode (x_mB m) pc = .ok (.new idx, 3)) (hf : x_nw (x_mo m) idx = some (i0, ci, p0)) (ho : x_mo m < 20) (hn : x_n S < x_ext0) (h : x_Rw E d m (pc + 3) lv (.ref (x_n S) :: st) (x_new S ci) r S') : x_Rw E d m pc lv st S r S' := by
  obtain ⟨f1, f2, f3, f4⟩ := x_nw_ok hf ho
  dsimp only at f1 f2 f3 f4
  have en : x_n (x_new S ci) = x_n S + 1 := rfl
  refine x_stepS h ⟨by rw [en]; omega, Nat.le_succ _, Nat.le_add_right _ _⟩ (fun w1 w2 => ⟨by rw [en]; exact w1.mono (by omega), xwr (Or.inl (by rw [en]; omega)) (by rw [en]; exact w2.mono (by omega))⟩) ?_
  intro l p e R s mid args below meth c A D cs q al H locs ls cells slots Q C X hl w1 w2 hc hz kk
  obtain ⟨ty0, g1, g2, g3, g4, g5, g6⟩ := x_clss ci f4
  have hcc : cells + 1 ≤ R.cells := by
    have : x_k (x_new S ci) = x_k S + 1 := rfl
    omega
  have hzz : slots + (x_C ci).2.2 ≤ R.slots := by
    have : x_z (x_new S ci) = x_z S + x_nf ci := rfl
    omega
  have hfs : ∀ j, j < (x_C ci).2.2 → defaultValue (ty0 j) = vp_V (x_fs al (x_new S ci) (x_n S) ci) j := by
    intro j hj
    have hj2 : j < x_nf ci := by rw [← g2]; exact hj
    unfold vp_V
    rw [List.getD_eq_getElem?_getD, x_fs_get hj2, x_dflt (g6 j hj)]
    have e1 : x_L (x_new S ci) (x_n S) j = 0 := by show xu1 S.2.1 (x_n S) (fun _ => 0) (x_n S) j = 0; rw [xu1_s]
    have e2 : x_P (x_new S ci) (x_n S) j = none := by show xu1 S.2.2.1 (x_n S) (fun _ => none) (x_n S) j = none; rw [xu1_s]
    have e3 : x_I (x_new S ci) (x_n S) j = 0 := by show xu1 S.1 (x_n S) (fun _ => 0) (x_n S) j = 0; rw [xu1_s]
    unfold x_fv
    rw [e1, e2, e3]
    rfl
  refine va_new (C := (x_C ci).1) (T := (x_C ci).2.1) (N := (x_C ci).2.2) (fs := x_fs al (x_new S ci) (x_n S) ci) C.2.1 C.2.2.1 C.2.2.2.2.2.2.1 g3 ty0 g5 C.2.2.2.2.1 (C.2.2.2.2.2.2.1 _ f1) (by rw [g2]; exact C.2.2.2.2.2.2.1 _ f2) (C.2.2.2.2.2.2.1 _ f3) C.2.2.2.2.2.2.2.1 X.1 X.2.1 X.2.2.1 C.2.2.2.2.2.2.2.2.1 g1 hfs hcc hzz hdg (fun a H1 p1 p2 p3 => ?_)
  have hx := x_al1 (al := al) (a := a) hn
  have hP0 : ∀ k, x_P (x_new S ci) (x_n S) k = none := fun k => by show xu1 S.2.2.1 (x_n S) (fun _ => none) (x_n S) k = none; rw [xu1_s]
  have hnew : x_cell cs (xu1 al (x_n S) a) (x_new S ci) (x_n S) = .inr (ci, x_fs al (x_new S ci) (x_n S) ci) := by
    rw [x_cell_o (show x_K (x_new S ci) (x_n S) = ci from xu1_s _ _ _) f4]
    have : x_fs (xu1 al (x_n S) a) (x_new S ci) (x_n S) ci = x_fs al (x_new S ci) (x_n S) ci := by
      unfold x_fs
      refine List.map_congr_left (fun k _ => ?_)
      unfold x_fv
      rw [hP0]
      rfl
    rw [this]
  have hws := x_w_push (cs := cs) (al := al) (al1 := xu1 al (x_n S) a) (S := S) (S1 := x_new S ci) (a := a) (e := .inr (ci, x_fs al (x_new S ci) (x_n S) ci)) rfl (fun i hi => xu1_n _ _ (by omega)) (fun i hi => x_cell_old hx X.2.2.2.2 (show xu1 S.1 (x_n S) (fun _ => 0) i = _ from xu1_n _ _ (by omega)) (show xu1 S.2.1 (x_n S) (fun _ => 0) i = _ from xu1_n _ _ (by omega)) (show xu1 S.2.2.1 (x_n S) (fun _ => none) i = _ from xu1_n _ _ (by omega)) rfl rfl rfl (show xu1 (x_K S) (x_n S) ci i = _ from xu1_n _ _ (by omega))) (xu1_s _ _ _) hnew
  rw [hws] at p1 p2
  have hwf : x_wf (x_new S ci) := x_wf_K X.2.2.2.2 rfl hn ci rfl (fun i k r hr => by
    have hr' : xu1 S.2.2.1 (x_n S) (fun _ => none) i k = some r := hr
    by_cases e : i = x_n S
    · rw [e, xu1_s] at hr'; cases hr'
    · rw [xu1_n _ _ e] at hr'; exact hr')
  have := kk (xu1 al (x_n S) a) H1 locs ls hx ⟨p1, p2, p3, fun i hi => (hx _ (Or.inr (Nat.le_add_right _ _))).trans (X.2.2.2.1 i hi), hwf⟩ (by rw [x_ql_ext hx w1]; exact hl)
  have ec : cells + (x_k (x_new S ci) - x_k S) = cells + 1 := by
    have : x_k (x_new S ci) = x_k S + 1 := rfl
    omega
  have ez : slots + (x_z (x_new S ci) - x_z S) = slots + (x_C ci).2.2 := by
    have : x_z (x_new S ci) = x_z S + x_nf ci := rfl
    omega
  rw [ec, ez, List.map_cons, x_cs_ext hx w2] at this
  have e0 : x_c (xu1 al (x_n S) a) (.ref (x_n S)) = .ref a := congrArg Value.ref (xu1_s _ _ _)
  rw [e0] at this
  exact this
/-- a new array of ints (100), booleans (101) or longs (102) -/
def x_at0 (kd : Nat) : ArrayType × FieldType := if kd = 100 then (.int, .int) else if kd = 101 then (.boolean, .boolean) else (.long, .long)
theorem x_arr_ac {kd : Nat} : Cond.arrayClass (x_at0 kd).2 ∈ x_tbl := by
  unfold x_at0
  by_cases h : kd = 100
  · rw [if_pos h]; exact x_acI
  · rw [if_neg h]
    by_cases h : kd = 101
    · rw [if_pos h]; exact x_acZ
    · rw [if_neg h]; exact x_acJ
def x_arr0 (cs : ClassId × ClassId × ClassId) (kd : Nat) : ClassId := if kd = 100 then cs.1 else if kd = 101 then cs.2.1 else cs.2.2
theorem xi_newa {E : Nat × (Nat → Int32)} {d m pc kd : Nat} {n : Int32} {N : Nat} {lv : List (Nat × Value)} {st : List Value} {S S' : xS} {r : Option Value} (hdg : decode (x_mB m) pc = .ok (.newarray (x_at0 kd).1, 2)) (hkd : kd = 100 ∨ kd = 101 ∨ kd = 102) (hn : x_n S < x_ext0) (h0 : ¬ n < 0) (hN : n.toNatClampNeg = N) (hb : N * 8 ≤ 536870912) (h : x_Rw E d m (pc + 2) lv (.ref (x_n S) :: st) (x_newA S kd N) r S') : x_Rw E d m pc lv (.int n :: st) S r S' := by
  have en : x_n (x_newA S kd N) = x_n S + 1 := rfl
  refine x_stepS h ⟨by rw [en]; omega, Nat.le_succ _, Nat.le_add_right _ _⟩ (fun w1 w2 => ⟨by rw [en]; exact w1.mono (by omega), xwr (Or.inl (by rw [en]; omega)) (by rw [en]; exact (xw1 w2).mono (by omega))⟩) ?_
  intro l p e R s mid args below meth c A D cs q al H locs ls cells slots Q C X hl w1 w2 hc hz kk
  have hcc : cells + 1 ≤ R.cells := by
    have : x_k (x_newA S kd N) = x_k S + 1 := rfl
    omega
  have hzz : slots + N ≤ R.slots := by
    have : x_z (x_newA S kd N) = x_z S + N := rfl
    omega
  have hty : newarray.typeOf (x_at0 kd).1 = (x_at0 kd).2 := by rcases hkd with rfl | rfl | rfl <;> rfl
  obtain ⟨a0, ha0, hcell0⟩ : ∃ a0 : vp_A, (∀ cA : ClassId, vp_cell cA a0 = arrV cA N (fun _ => defaultValue (x_at0 kd).2)) ∧ ∀ al1, x_cell cs al1 (x_newA S kd N) (x_n S) = .inl (x_arr0 cs kd, a0) := by
    have hK : x_K (x_newA S kd N) (x_n S) = kd := xu1_s _ _ _
    have hA : x_A (x_newA S kd N) (x_n S) = fun _ => 0 := xu1_s _ _ _
    have hB : x_B (x_newA S kd N) (x_n S) = fun _ => 0 := xu1_s _ _ _
    have hNN : x_N (x_newA S kd N) (x_n S) = N := xu1_s _ _ _
    rcases hkd with rfl | rfl | rfl
    · exact ⟨(N, .inl (fun _ => 0)), fun cA => rfl, fun al1 => by rw [x_cell_i hK, hA, hNN]; rfl⟩
    · exact ⟨(N, .inl (fun _ => 0)), fun cA => rfl, fun al1 => by rw [x_cell_z hK, hA, hNN]; rfl⟩
    · exact ⟨(N, .inr (.inl (fun _ => 0))), fun cA => rfl, fun al1 => by rw [x_cell_l hK, hB, hNN]; rfl⟩
  have hcb : componentBytes (x_at0 kd).2 ≤ 8 := by rcases hkd with rfl | rfl | rfl <;> decide
  have hac : (Cond.arrayClass (newarray.typeOf (x_at0 kd).1)).before args s = true := by rw [hty]; exact C.2.2.2.2.2.2.1 _ x_arr_ac
  refine va_newa C.2.1 C.2.2.1 hac hty C.2.2.2.2.2.2.2.1 X.1 X.2.1 X.2.2.1 C.2.2.2.2.2.2.2.2.1 ha0 h0 hN (Nat.le_trans (Nat.mul_le_mul_left N hcb) hb) hcc hzz hdg (fun a cA H1 p0 p1 p2 p3 => ?_)
  have hcA : cA = x_arr0 cs kd := by
    have h1 := (p0.2 3 (cA, (x_at0 kd).2) rfl).2
    have hk := C.2.2.2.2.2.2.2.1.2
    rcases hkd with rfl | rfl | rfl
    · exact Option.some.inj ((show s.vm.findClass _ = some cA from h1).symm.trans (show s.vm.findClass _ = some cs.1 from (hk 0 _ rfl).2))
    · exact Option.some.inj ((show s.vm.findClass _ = some cA from h1).symm.trans (show s.vm.findClass _ = some cs.2.1 from (hk 1 _ rfl).2))
    · exact Option.some.inj ((show s.vm.findClass _ = some cA from h1).symm.trans (show s.vm.findClass _ = some cs.2.2 from (hk 2 _ rfl).2))
  subst hcA
  have hx := x_al1 (al := al) (a := a) hn
  have hws := x_w_push (cs := cs) (al := al) (al1 := xu1 al (x_n S) a) (S := S) (S1 := x_newA S kd N) (a := a) (e := .inl (x_arr0 cs kd, a0)) rfl (fun i hi => xu1_n _ _ (by omega)) (fun i hi => x_cell_old hx X.2.2.2.2 rfl rfl rfl (show xu1 S.2.2.2.1 (x_n S) (fun _ => 0) i = _ from xu1_n _ _ (by omega)) (show xu1 S.2.2.2.2.1 (x_n S) (fun _ => 0) i = _ from xu1_n _ _ (by omega)) (show xu1 S.2.2.2.2.2.1 (x_n S) N i = _ from xu1_n _ _ (by omega)) (show xu1 (x_K S) (x_n S) kd i = _ from xu1_n _ _ (by omega))) (xu1_s _ _ _) (hcell0 _)
  rw [hws] at p1 p2
  have hwf : x_wf (x_newA S kd N) := x_wf_K X.2.2.2.2 rfl hn kd rfl (fun i k r hr => hr)
  have := kk (xu1 al (x_n S) a) H1 locs ls hx ⟨p1, p2, p3, fun i hi => (hx _ (Or.inr (Nat.le_add_right _ _))).trans (X.2.2.2.1 i hi), hwf⟩ (by rw [x_ql_ext hx w1]; exact hl)
  have ec : cells + (x_k (x_newA S kd N) - x_k S) = cells + 1 := by
    have : x_k (x_newA S kd N) = x_k S + 1 := rfl
    omega
  have ez : slots + (x_z (x_newA S kd N) - x_z S) = slots + N := by
    have : x_z (x_newA S kd N) = x_z S + N := rfl
    omega
  rw [ec, ez, List.map_cons, x_cs_ext hx (xw1 w2)] at this
  have e0 : x_c (xu1 al (x_n S) a) (.ref (x_n S)) = .ref a := congrArg Value.ref (xu1_s _ _ _)
  rw [e0] at this
  exact this
end
section
/-! contracts -/
def x_ws (m : Nat) : List Cond := x_mc m :: x_tbl
def x_Pc (E : Nat × (Nat → Int32)) (D : va_G) (cs : ClassId × ClassId × ClassId) (q : xQ) (al : Nat → Nat) (sz : Nat) (S : xS) (U : State) : Prop :=
  U.heap.size = sz ∧ va_P D vwCl (x_w cs al S) U.heap ∧ va_K D vwCl (x_tys cs) U ∧ va_D (fun _ => True) (x_w cs al S) ∧ x_Ex E q (va_A (x_w cs al S) sz) U
def x_Qc (D : va_G) (cs : ClassId × ClassId × ClassId) (al : Nat → Nat) (sz : Nat) (S : xS) (r : Option Value) (S' : xS) : Array Value → State → Outcome → State → Prop := fun _ st oc t =>
  ∃ al', x_ext al al' (x_n S) ∧ oc = .returned (r.map (x_c al')) ∧ va_P D vwCl (x_w cs al' S') t.heap ∧ va_D (va_A (x_w cs al S) sz) (x_w cs al' S') ∧ va_F (va_A (x_w cs al S) sz) st t ∧ x_wf S' ∧ x_wfs (x_n S') r.toList
def x_rm (d : Nat) (S S' : xS) : Room := { frames := d, cells := x_k S' - x_k S, slots := x_z S' - x_z S, locals := 50 * d }
def x_Call (E : Nat × (Nat → Int32)) (d m : Nat) (args : List Value) (S : xS) (r : Option Value) (S' : xS) : Prop :=
  x_mOK m ∧ (x_n S ≤ x_n S' ∧ x_k S ≤ x_k S' ∧ x_z S ≤ x_z S') ∧
  ∀ (l : Launch) (D : va_G) (cs : ClassId × ClassId × ClassId) (q : xQ) (al : Nat → Nat) (sz : Nat), l.stackTraces = false → x_wf S → x_wfs (x_n S) args → x_xt al q →
    Met l (x_mY m) (x_ws m) (x_rm d S S') (va_Pc (args.map (x_c al)) (x_Pc E D cs q al sz S)) (x_Qc D cs al sz S r S') (x_k S' - x_k S) (x_z S' - x_z S) (va_A (x_w cs al S) sz)
theorem x_args_map (al : Nat → Nat) : ∀ (i : Nat) (vs : List Value), lv_args i (vs.map (x_c al)) = (lv_args i vs).map (x_q al)
  | _, [] => rfl
  | i, v :: vs => by
    show (i, x_c al v) :: lv_args (if (x_c al v).category = 2 then i + 2 else i + 1) (vs.map (x_c al)) = _
    rw [x_c_cat, x_args_map al]
    rfl
theorem x_sl_len (al : Nat → Nat) : ∀ (vs : List Value), (lg_sl (vs.map (x_c al))).length = (lg_sl vs).length
  | [] => rfl
  | v :: vs => by
    have h := x_sl_len al vs
    unfold lg_sl at h ⊢
    rw [List.map_cons, List.flatMap_cons, List.flatMap_cons, List.length_append, List.length_append, h, x_c_cat]
    by_cases e : v.category = 2
    · simp [e]
    · simp [e]
theorem x_args_wf {n : Nat} : ∀ {i : Nat} {vs : List Value}, x_wfs n vs → x_wfl n (lv_args i vs)
  | _, [], _ => fun q hq => by simp [lv_args] at hq
  | i, v :: vs, h => fun q hq => by
    rcases List.mem_cons.mp hq with rfl | hq
    · exact h v List.mem_cons_self
    · exact x_args_wf (fun w hw => h w (List.mem_cons_of_mem _ hw)) q hq
theorem x_mk_spec {m : Nat} (h : x_mOK m) : x_mc m ∈ x_tbl ∧ Cond.initialized (x_mY m).cls ∈ x_tbl ∧ plainName (x_mY m).cls = true ∧ (x_mY m).cls ≠ "java/lang/invoke/MethodHandle" ∧ (x_mY m).cls ≠ "java/lang/invoke/VarHandle" ∧ (parseMethodDescriptor (x_mY m).desc).map (fun d => d.parameters.length) = some (x_mN m) ∧ x_mL m ≤ 31 ∧ (x_mY m).cls = x_o (x_mo m) ∧ x_mo m < 20 := by
  obtain ⟨h1, p, h2⟩ := h
  simp only [x_mk, Bool.and_eq_true, decide_eq_true_eq] at h2
  obtain ⟨⟨⟨⟨⟨⟨⟨a1, a2⟩, a3⟩, a4⟩, a5⟩, a6⟩, a7⟩, a8⟩ := h2
  exact ⟨h1, x_at_mem a1, a2, a3, a4, a5, a6, a7, a8⟩
theorem x_tbl_good {w : Cond} (h : w ∈ x_tbl) : (w.onTables && w.keeps) = true ∨ ∃ ty, w = .arrayClass ty := good_of_word (List.mem_filter.mp h).2
theorem x_ws_good {m : Nat} (h : x_mOK m) : GoodIn x_tbl (x_ws m) := by
  intro w hw
  rcases List.mem_cons.mp hw with rfl | hw
  · exact ⟨h.1, x_tbl_good h.1⟩
  · exact ⟨hw, x_tbl_good hw⟩
/-- a method's contract out of its body -/
theorem x_meth {E : Nat × (Nat → Int32)} {d m : Nat} {args : List Value} {S S' : xS} {r : Option Value} (hok : x_mOK m) (hlen : (lg_sl args).length ≤ x_mL m) (h : x_Rw E d m 0 (lv_args 0 args) [] S r S') : x_Call E d m args S r S' := by
  refine ⟨hok, h.1, ?_⟩
  intro l D cs q al sz htr hwf hwa hext
  obtain ⟨k1, k2, k3, k4, k5, k6, k7, k8, k9⟩ := x_mk_spec hok
  refine Met.ofW (cc := x_mB m) (maxL := x_mL m) (ret := x_mR m) k3 rfl ?_
  intro p e s mid args' below meth c s₁ B hml hv
  obtain ⟨rfl, hsz, hP, hK, hD0, hE⟩ := hv
  have hts := atoms_spec (ws := x_ws m) B.pre
  have hown : s.vm.findClass (x_mY m).cls = some mid.cls := findClass_of_methodNamed B.named
  have hb := B.bytes
  have hr := B.returns
  have hlocks := B.notSynchronized
  rw [k8] at hown
  have hl := lv_entry (args.map (x_c al)) (n := x_mL m) (by rw [x_sl_len]; exact hlen)
  rw [lg_entry_eq]
  rw [x_args_map] at hl
  generalize (lg_sl (args.map (x_c al)) ++ List.replicate (x_mL m - (lg_sl (args.map (x_c al))).length) Slot.unset).toArray = ls at hl ⊢
  have C : x_Ctx E d m l p (headSpec (x_ws m) (x_rm d S S')).room s mid (args.map (x_c al)).toArray meth c (va_A (x_w cs al S) sz) D cs q :=
    ⟨htr, B.exec, hb, hml, hown, (name_of_methodNamed B.named B.method).1, fun w hw => hts w (List.mem_cons_of_mem _ hw), hK, fun z hz => Or.inr (by rw [← hsz]; exact hz), Nat.le_refl _, Nat.le_refl _, hE⟩
  have X : x_Hp s (va_A (x_w cs al S) sz) D cs q al S s.heap [] := ⟨hP, hD0.self, va_S.rf, hext, hwf⟩
  have rc : 0 + (x_k S' - x_k S) ≤ (headSpec (x_ws m) (x_rm d S S')).room.cells := by rw [Nat.zero_add]; exact Nat.le_refl _
  have rz : 0 + (x_z S' - x_z S) ≤ (headSpec (x_ws m) (x_rm d S S')).room.slots := by rw [Nat.zero_add]; exact Nat.le_refl _
  refine h.2 l p e _ s mid _ below meth c _ D cs q al s.heap [] ls 0 0 _ C X hl (x_args_wf hwa) x_wfs_n rc rz ?_
  intro al' H' locs' ls' pc' x1 X1 w1 hrp
  rw [Nat.zero_add, Nat.zero_add]
  have hq : ∀ t : State, t.heap = H' → s.WarmedH t.vm → x_Qc D cs al sz S r S' (args.map (x_c al)).toArray s (.returned (r.map (x_c al'))) t := fun t ht _ => ⟨al', x1, rfl, by rw [ht]; exact X1.1, X1.2.1, X1.2.2.1.F ht, X1.2.2.2.2, w1⟩
  have hf : ∀ z ∈ locs', (va_A (x_w cs al S) sz) z.base := X1.2.2.1.2.2
  cases r with
  | none =>
    obtain ⟨d1, d2⟩ := hrp
    exact W.vret B.exec hb (hr.trans d2) hq hf d1 hlocks
  | some v =>
    cases v with
    | int x =>
      obtain ⟨d1, ty, d2, d3⟩ := hrp
      exact W.zret B.exec hb (hr.trans d2) d3 hq hf d1 hlocks
    | long x =>
      obtain ⟨d1, d2⟩ := hrp
      exact W.lret B.exec hb (hr.trans d2) hq hf d1 hlocks
    | ref x =>
      obtain ⟨d1, n, d2⟩ := hrp
      exact W.aret B.exec hb (hr.trans d2) (Or.inl ⟨n, rfl⟩) (Or.inr ⟨_, rfl⟩) hq hf d1 hlocks
    | float x => exact absurd hrp (fun h => h)
    | double x => exact absurd hrp (fun h => h)
    | null => exact absurd hrp (fun h => h)
    | retAddr x => exact absurd hrp (fun h => h)
theorem x_free {E : Nat × (Nat → Int32)} {d m : Nat} {l : Launch} {p : Program} {R : Room} {s : State} {mid : MethodId} {args : Array Value} {meth : Method} {c : Code} {A : Nat → Prop} {D : va_G} {cs : ClassId × ClassId × ClassId} {q : xQ} {al : Nat → Nat} {S : xS} {H : Heap} {locs : List Loc} (C : x_Ctx E d m l p R s mid args meth c A D cs q) (X : x_Hp s A D cs q al S H locs) : ∀ z, va_A (x_w cs al S) H.size z → A z := by
  intro z hz
  rcases hz with ⟨k, e, h⟩ | h
  · exact X.2.1.2 k _ h
  · exact C.2.2.2.2.2.2.2.2.1 z (Nat.le_trans X.2.2.1.1 h)
/-- behind a call -/
theorem x_cont {E : Nat × (Nat → Int32)} {d m pc : Nat} {l : Launch} {p : Program} {e : Env} {R : Room} {s : State} {mid : MethodId} {args : Array Value} {below : List Frame} {meth : Method} {c : Code} {A : Nat → Prop} {D : va_G} {cs : ClassId × ClassId × ClassId} {q : xQ} {al : Nat → Nat} {S S1 : xS} {H : Heap} {locs : List Loc} {cells slots : Nat} {Q : State → Prop} {ls : Array Slot} {st0 rest : List Value} {r : Option Value} {a : Array Value}
    (C : x_Ctx E d m l p R s mid args meth c A D cs q) (X : x_Hp s A D cs q al S H locs)
    (hr : va_Run p l e R s mid args below meth c H locs cells slots (x_k S1 - x_k S) (x_z S1 - x_z S) (F0 mid pc ls st0) rest (x_Qc D cs al H.size S r S1 a) (va_A (x_w cs al S) H.size))
    (kk : ∀ (al1 : Nat → Nat) (H1 : Heap) (locs1 : List Loc), x_ext al al1 (x_n S) → x_Hp s A D cs q al1 S1 H1 locs1 → x_wfs (x_n S1) r.toList → W p l e R s mid args below meth c H1 locs1 (cells + (x_k S1 - x_k S)) (slots + (x_z S1 - x_z S)) Q (F0 mid (pc + 3) ls ((r.map (x_c al1)).toList ++ rest))) :
    W p l e R s mid args below meth c H locs cells slots Q (F0 mid pc ls st0) := by
  intro T hT XX
  obtain ⟨v, st₀, t, T', L, h0, X', hL, e1, e2, ⟨al1, x1, hv, p1, p2, p3, w1, w2⟩, go⟩ := hr T hT XX
  cases Outcome.returned.inj hv
  have hfr := x_free C X
  obtain ⟨f1, f2⟩ := p3
  rw [h0] at f1 f2
  have hS := X.2.2.1
  obtain ⟨tt, a1, b1⟩ := kk al1 T'.heap (locs ++ L) x1 ⟨by rw [e1]; exact p1, p2.weaken (fun k z _ h => hfr _ h), ⟨by rw [e1]; exact Nat.le_trans hS.1 f1, fun z h1 h2 => by
      rw [e1, f2 z (Nat.lt_of_lt_of_le h1 hS.1) (fun h => h2 (hfr z h))]
      exact hS.2.1 z h1 h2, fun z hz => by
      rcases List.mem_append.mp hz with h | h
      · exact hS.2.2 z h
      · exact hfr _ (hL z h)⟩, fun i hi => (x1 _ (Or.inr (Nat.le_add_right _ _))).trans (X.2.2.2.1 i hi), w1⟩ w2 T' rfl X'
  exact ⟨tt, go tt a1, b1⟩
theorem x_Pc_blind {E : Nat × (Nat → Int32)} {D : va_G} {cs : ClassId × ClassId × ClassId} {q : xQ} {al : Nat → Nat} {sz : Nat} {S : xS} {vs : List Value} : FrameBlind (va_Pc vs (x_Pc E D cs q al sz S)) := by
  intro a U g mk h
  obtain ⟨h1, h2, h3, h4, h5, h6⟩ := h
  refine ⟨h1, h2, h3, va_K.moved (u := U) (U := U.calling g mk a) (Vm.Alike.refl U.vm) h4, h5, ?_⟩
  obtain ⟨⟨b1, b2, b3⟩, c2, c3, c4, c5, c6, c7, c8, c9⟩ := h6
  have hvm : U.vm.Alike (U.calling g mk a).vm := Vm.Alike.refl U.vm
  exact ⟨⟨b1.moved hvm, b2, b3⟩, vk_S.moved hvm c2, fun i hi => (c3 i hi).same rfl, fun r hr => (c4 r hr).same rfl rfl, vx_Zq.moved hvm c5, vx_Zq.moved hvm c6, c7.same rfl, va_Z.moved hvm c8, vx_Zq.moved hvm c9⟩
theorem x_Pc_at {E : Nat × (Nat → Int32)} {d m : Nat} {l : Launch} {p : Program} {R : Room} {s : State} {mid : MethodId} {args : Array Value} {meth : Method} {c : Code} {A : Nat → Prop} {D : va_G} {cs : ClassId × ClassId × ClassId} {q : xQ} {al : Nat → Nat} {S : xS} {H : Heap} {locs : List Loc} (C : x_Ctx E d m l p R s mid args meth c A D cs q) (X : x_Hp s A D cs q al S H locs) (vs : List Value) : ∀ U : State, U.heap = H → s.WarmedH U.vm → va_Pc vs (x_Pc E D cs q al H.size S) vs.toArray U := by
  intro U hU hW
  refine ⟨rfl, by rw [hU], by rw [hU]; exact X.1, va_K.moved hW.alike C.2.2.2.2.2.2.2.1, X.2.1.weaken (fun _ _ _ _ => trivial), C.2.2.2.2.2.2.2.2.2.2.2.move (locs := locs) (by rw [hU]; exact X.2.2.1) hW (x_free C X)⟩
theorem x_cl_ok {o idx : Nat} {e : Nat × Nat × Nat × List Nat} (h : x_cl o idx = some e) (ho : o < 20) : (∀ w ∈ x_cc o e, w ∈ x_tbl) ∧ e.1 = idx ∧ (e.2.1 = 3 ∨ e.2.1 = 5 → (o, e.1, e.2.2.1) ∈ x_NL) ∧ (e.2.1 = 2 ∨ e.2.1 = 3 → (x_mY e.2.2.1).name = "<init>" ∧ x_mR e.2.2.1 = none) := by
  have h1 := List.mem_of_find?_eq_some h
  have h2 : e.1 = idx := by simpa using List.find?_some h
  have h3 := List.all_eq_true.mp (x_coks o ho) e h1
  simp only [Bool.and_eq_true] at h3
  obtain ⟨⟨⟨a1, a2⟩, a3⟩, a4⟩ := h3
  refine ⟨x_ats_mem a1, h2, fun hh => ?_, fun hh => ?_⟩
  · rw [if_pos hh] at a3
    exact of_decide_eq_true a3
  · rw [if_pos hh] at a4
    simp only [Bool.and_eq_true, decide_eq_true_eq] at a4
    exact a4
theorem x_o_C : ∀ ci, ci < 13 → x_o ci = (x_C ci).1 := by decide +kernel
theorem x_room {m : Nat} {d : Nat} {R : Room} {S S1 : xS} (h1 : d + 1 ≤ R.frames) (h2 : 50 * (d + 1) ≤ R.locals) (h3 : x_mL m ≤ 31) : (x_rm d S S1).frames + 1 ≤ R.frames ∧ 8 + (x_mL m + 11) + (x_rm d S S1).locals ≤ R.locals := by
  unfold x_rm
  dsimp only
  exact ⟨h1, by omega⟩
theorem x_map_st (al : Nat → Nat) (As rest : List Value) (v : Value) : (As.reverse ++ v :: rest).map (x_c al) = (As.map (x_c al)).reverse ++ x_c al v :: rest.map (x_c al) := by
  rw [List.map_append, List.map_reverse, List.map_cons]
theorem x_opt_map (al : Nat → Nat) (r : Option Value) (rest : List Value) : (r.toList ++ rest).map (x_c al) = (r.map (x_c al)).toList ++ rest.map (x_c al) := by
  cases r <;> rfl
/-- a step that changes the state; what comes is known to be valid only there -/
theorem x_stepC {E : Nat × (Nat → Int32)} {d m pc pc1 : Nat} {lv lv1 : List (Nat × Value)} {st st1 : List Value} {S S1 S' : xS} {r : Option Value} (h : x_Rw E d m pc1 lv1 st1 S1 r S') (hm : x_n S ≤ x_n S1 ∧ x_k S ≤ x_k S1 ∧ x_z S ≤ x_z S1)
    (hs : ∀ (l : Launch) (p : Program) (e : Env) (R : Room) (s : State) (mid : MethodId) (args : Array Value) (below : List Frame) (meth : Method) (c : Code) (A : Nat → Prop) (D : va_G) (cs : ClassId × ClassId × ClassId) (q : xQ) (al : Nat → Nat) (H : Heap) (locs : List Loc) (ls : Array Slot) (cells slots : Nat) (Q : State → Prop),
      x_Ctx E d m l p R s mid args meth c A D cs q → x_Hp s A D cs q al S H locs → lv_has ls (x_mL m) (lv.map (x_q al)) → x_wfl (x_n S) lv → x_wfs (x_n S) st → cells + (x_k S1 - x_k S) ≤ R.cells → slots + (x_z S1 - x_z S) ≤ R.slots →
      (∀ (al1 : Nat → Nat) (H1 : Heap) (locs1 : List Loc) (ls1 : Array Slot), x_ext al al1 (x_n S) → x_Hp s A D cs q al1 S1 H1 locs1 → lv_has ls1 (x_mL m) (lv1.map (x_q al1)) → x_wfl (x_n S1) lv1 → x_wfs (x_n S1) st1 → W p l e R s mid args below meth c H1 locs1 (cells + (x_k S1 - x_k S)) (slots + (x_z S1 - x_z S)) Q (F0 mid pc1 ls1 (st1.map (x_c al1)))) →
      W p l e R s mid args below meth c H locs cells slots Q (F0 mid pc ls (st.map (x_c al)))) : x_Rw E d m pc lv st S r S' := by
  obtain ⟨⟨m1, m2, m3⟩, h2⟩ := h
  obtain ⟨n1, n2, n3⟩ := hm
  refine ⟨⟨by omega, by omega, by omega⟩, ?_⟩
  intro l p e R s mid args below meth c A D cs q al H locs ls cells slots Q C X hl w1 w2 hc hz kk
  have e1 : cells + (x_k S1 - x_k S) + (x_k S' - x_k S1) = cells + (x_k S' - x_k S) := by omega
  have e2 : slots + (x_z S1 - x_z S) + (x_z S' - x_z S1) = slots + (x_z S' - x_z S) := by omega
  refine hs l p e R s mid args below meth c A D cs q al H locs ls cells slots Q C X hl w1 w2 (by omega) (by omega) (fun al1 H1 locs1 ls1 x1 X1 hl1 v1 v2 => ?_)
  refine h2 l p e R s mid args below meth c A D cs q al1 H1 locs1 ls1 _ _ Q C X1 hl1 v1 v2 (by omega) (by omega) (fun al2 H2 locs2 ls2 pc2 x2 X2 w3 hr => ?_)
  rw [e1, e2]
  exact kk al2 H2 locs2 ls2 pc2 (x1.tr x2 n1) X2 w3 hr
/-- invokevirtual -/
theorem xi_callV {E : Nat × (Nat → Int32)} {d m pc idx i0 m1 bb : Nat} {ps : List Nat} {lv : List (Nat × Value)} {As rest : List Value} {S S1 S' : xS} {r1 r : Option Value} (hdg : decode (x_mB m) pc = .ok (.invokevirtual idx, 3)) (hf : x_cl (x_mo m) idx = some (i0, 0, m1, ps)) (ho : x_mo m < 20) (hn : As.length = x_mN m1) (hK : x_K S bb = x_mo m1) (hK2 : x_mo m1 < 13) (hst : (rest.map fun v => v.category).sum ≤ 8)
    (hc : x_Call E d m1 (.ref bb :: As) S r1 S1) (h : x_Rw E (d + 1) m (pc + 3) lv (r1.toList ++ rest) S1 r S') : x_Rw E (d + 1) m pc lv (As.reverse ++ .ref bb :: rest) S r S' := by
  obtain ⟨f1, f2, -, -⟩ := x_cl_ok hf ho
  dsimp only at f2
  subst f2
  have hl : Cond.methodLink (x_o (x_mo m)) i0 (x_mY m1) ∈ x_tbl := f1 _ (by simp [x_cc])
  have hi : Cond.instanceMethod (x_mY m1) ∈ x_tbl := f1 _ (by simp [x_cc])
  have hs : Cond.selects (x_mY m1).cls (x_mY m1) (x_mY m1) ∈ x_tbl := f1 _ (by simp [x_cc])
  obtain ⟨k1, k2, k3, k4, k5, k6, k7, k8, k9⟩ := x_mk_spec hc.1
  obtain ⟨hm1, hm2, hm3⟩ := hc.2.1
  refine x_stepC h ⟨hm1, hm2, hm3⟩ ?_
  intro l p e R s mid args below meth c A D cs q al H locs ls cells slots Q C X hl0 w1 w2 hcc hzz kk
  obtain ⟨wa, wb⟩ := x_wfs_a.mp w2
  have wargs : x_wfs (x_n S) (.ref bb :: As) := x_wfs_c.mpr ⟨(x_wfs_c.mp wb).1, x_wfs_r.mp wa⟩
  have hM := hc.2.2 l D cs q al H.size C.1 X.2.2.2.2 wargs X.2.2.2.1
  have hts := C.2.2.2.2.2.2.1
  have hj : bb < x_n S := X.2.2.2.2.2.1 bb (by omega)
  have he : (x_w cs al S)[bb]? = some (al bb, .inr (x_mo m1, x_fs al S bb (x_mo m1))) := by rw [x_w_get hj, x_cell_o hK hK2]
  obtain ⟨ty0, g1, -⟩ := x_clss _ hK2
  have hrecv := va_recv C.2.2.2.2.2.2.2.1 X.1 g1 he
  have hrecv2 : ∃ cellB : Cell, H[al bb]? = some cellB ∧ cellB.vm.isStatics = false ∧ s.vm.findClass (x_mY m1).cls = some cellB.cls := by
    rw [k8, x_o_C _ hK2]
    exact hrecv
  have hrm := x_room (S := S) (S1 := S1) (m := m1) C.2.2.2.2.2.2.2.2.2.1 C.2.2.2.2.2.2.2.2.2.2.1 k7
  have cw : CallW R s args (x_o (x_mo m)) (x_mY m1).cls i0 (x_mY m1) (x_mB m1) (x_mL m1) (x_mR m1) (x_ws m1) (x_rm d S S1) (x_k S1 - x_k S) (x_z S1 - x_z S) (x_mN m1) :=
    ⟨callB_of (x_mN m1) hts (x_ws_good hc.1) rfl rfl rfl (hts _ k2) (hts _ hl) ⟨k4, k5, k6⟩ hrm, hts _ hi, hts _ hs⟩
  rw [x_map_st]
  refine x_cont C X (va_runV (As := As.map (x_c al)) (rest := rest.map (x_c al)) ⟨C.2.1, C.2.2.1, C.2.2.2.1, C.2.2.2.2.1, hts⟩ hM cw ⟨x_Pc_blind, hrecv2, x_Pc_at C X ((Value.ref bb :: As).map (x_c al))⟩ rfl (by rw [List.length_map]; exact hn) hl0.1 rfl (lv_room (by rw [x_cs_cat]; exact hst)) hdg ⟨hcc, hzz⟩) ?_
  intro al1 H1 locs1 x1 X1 wr
  have := kk al1 H1 locs1 ls x1 X1 (by rw [x_ql_ext x1 w1]; exact hl0) (w1.mono hm1) (x_wfs_a.mpr ⟨wr, (xw1 wb).mono hm1⟩)
  rw [x_opt_map, x_cs_ext x1 (xw1 wb)] at this
  exact this
/-- invokestatic -/
theorem xi_callS {E : Nat × (Nat → Int32)} {d m pc idx i0 m1 : Nat} {ps : List Nat} {lv : List (Nat × Value)} {As rest : List Value} {S S1 S' : xS} {r1 r : Option Value} (hdg : decode (x_mB m) pc = .ok (.invokestatic idx, 3)) (hf : x_cl (x_mo m) idx = some (i0, 1, m1, ps)) (ho : x_mo m < 20) (hn : As.length = x_mN m1) (hst : (rest.map fun v => v.category).sum ≤ 8)
    (hc : x_Call E d m1 As S r1 S1) (h : x_Rw E (d + 1) m (pc + 3) lv (r1.toList ++ rest) S1 r S') : x_Rw E (d + 1) m pc lv (As.reverse ++ rest) S r S' := by
  obtain ⟨f1, f2, -, -⟩ := x_cl_ok hf ho
  dsimp only at f2
  subst f2
  have hl : Cond.methodLink (x_o (x_mo m)) i0 (x_mY m1) ∈ x_tbl := f1 _ (by simp [x_cc])
  have hi : Cond.static (x_mY m1) ∈ x_tbl := f1 _ (by simp [x_cc])
  obtain ⟨k1, k2, k3, k4, k5, k6, k7, k8, k9⟩ := x_mk_spec hc.1
  obtain ⟨hm1, hm2, hm3⟩ := hc.2.1
  refine x_stepC h ⟨hm1, hm2, hm3⟩ ?_
  intro l p e R s mid args below meth c A D cs q al H locs ls cells slots Q C X hl0 w1 w2 hcc hzz kk
  obtain ⟨wa, wb⟩ := x_wfs_a.mp w2
  have hM := hc.2.2 l D cs q al H.size C.1 X.2.2.2.2 (x_wfs_r.mp wa) X.2.2.2.1
  have hts := C.2.2.2.2.2.2.1
  have hrm := x_room (S := S) (S1 := S1) (m := m1) C.2.2.2.2.2.2.2.2.2.1 C.2.2.2.2.2.2.2.2.2.2.1 k7
  have cw : CallB R s args (x_o (x_mo m)) i0 (x_mY m1) (x_mB m1) (x_mL m1) (x_mR m1) (x_ws m1) (x_rm d S S1) (x_k S1 - x_k S) (x_z S1 - x_z S) (x_mN m1) ∧ (Cond.static (x_mY m1)).before args s = true :=
    ⟨callB_of (x_mN m1) hts (x_ws_good hc.1) rfl rfl rfl (hts _ k2) (hts _ hl) ⟨k4, k5, k6⟩ hrm, hts _ hi⟩
  rw [List.map_append, List.map_reverse]
  refine x_cont C X (va_runS (As := As.map (x_c al)) (rest := rest.map (x_c al)) ⟨C.2.1, C.2.2.1, C.2.2.2.1, C.2.2.2.2.1, hts⟩ hM cw ⟨x_Pc_blind, x_Pc_at C X (As.map (x_c al))⟩ rfl (by rw [List.length_map]; exact hn) hl0.1 rfl (lv_room (by rw [x_cs_cat]; exact hst)) hdg ⟨hcc, hzz⟩) ?_
  intro al1 H1 locs1 x1 X1 wr
  have := kk al1 H1 locs1 ls x1 X1 (by rw [x_ql_ext x1 w1]; exact hl0) (w1.mono hm1) (x_wfs_a.mpr ⟨wr, wb.mono hm1⟩)
  rw [x_opt_map, x_cs_ext x1 wb] at this
  exact this
/-- invokestatic of a nest mate's private method -/
theorem xi_callSN {E : Nat × (Nat → Int32)} {d m pc idx i0 m1 : Nat} {ps : List Nat} {lv : List (Nat × Value)} {As rest : List Value} {S S1 S' : xS} {r1 r : Option Value} (hdg : decode (x_mB m) pc = .ok (.invokestatic idx, 3)) (hf : x_cl (x_mo m) idx = some (i0, 5, m1, ps)) (ho : x_mo m < 20) (hn : As.length = x_mN m1) (hst : (rest.map fun v => v.category).sum ≤ 8)
    (hc : x_Call E d m1 As S r1 S1) (h : x_Rw E (d + 1) m (pc + 3) lv (r1.toList ++ rest) S1 r S') : x_Rw E (d + 1) m pc lv (As.reverse ++ rest) S r S' := by
  obtain ⟨f1, f2, f3, -⟩ := x_cl_ok hf ho
  dsimp only at f2
  subst f2
  have hnl := f3 (Or.inr rfl)
  dsimp only at hnl
  have hi : Cond.static (x_mY m1) ∈ x_tbl := f1 _ (by simp [x_cc])
  obtain ⟨k1, k2, k3, k4, k5, k6, k7, k8, k9⟩ := x_mk_spec hc.1
  obtain ⟨hm1, hm2, hm3⟩ := hc.2.1
  refine x_stepC h ⟨hm1, hm2, hm3⟩ ?_
  intro l p e R s mid args below meth c A D cs q al H locs ls cells slots Q C X hl0 w1 w2 hcc hzz kk
  obtain ⟨wa, wb⟩ := x_wfs_a.mp w2
  have hM := hc.2.2 l D cs q al H.size C.1 X.2.2.2.2 (x_wfs_r.mp wa) X.2.2.2.1
  have hts := C.2.2.2.2.2.2.1
  have hnw : va_Nw (x_nc (x_mo m, i0, m1)) s := C.2.2.2.2.2.2.2.2.2.2.2.2.2.2.1 _ hnl
  have hrm := x_room (S := S) (S1 := S1) (m := m1) C.2.2.2.2.2.2.2.2.2.1 C.2.2.2.2.2.2.2.2.2.2.1 k7
  have cw := va_cnB (R := R) (own := x_o (x_mo m)) (host := "ScrawlHouse") (index := i0) (y := x_mY m1) (bytes := x_mB m1) (maxL := x_mL m1) (ret := x_mR m1) (rm := x_rm d S S1) (mc := x_k S1 - x_k S) (ms := x_z S1 - x_z S) (x_mN m1) hts (x_ws_good hc.1) rfl rfl rfl hnw (hts _ k2) ⟨k4, k5, k6⟩ hrm
  rw [List.map_append, List.map_reverse]
  refine x_cont C X (va_runSN (As := As.map (x_c al)) (rest := rest.map (x_c al)) ⟨C.2.1, C.2.2.1, C.2.2.2.1, C.2.2.2.2.1, hts⟩ hM ⟨cw, hts _ hi, trivial⟩ ⟨x_Pc_blind, x_Pc_at C X (As.map (x_c al))⟩ rfl (by rw [List.length_map]; exact hn) hl0.1 rfl (lv_room (by rw [x_cs_cat]; exact hst)) hdg ⟨hcc, hzz⟩) ?_
  intro al1 H1 locs1 x1 X1 wr
  have := kk al1 H1 locs1 ls x1 X1 (by rw [x_ql_ext x1 w1]; exact hl0) (w1.mono hm1) (x_wfs_a.mpr ⟨wr, wb.mono hm1⟩)
  rw [x_opt_map, x_cs_ext x1 wb] at this
  exact this
/-- invokespecial of a constructor -/
theorem xi_callI {E : Nat × (Nat → Int32)} {d m pc idx i0 m1 bb : Nat} {ps : List Nat} {lv : List (Nat × Value)} {As rest : List Value} {S S1 S' : xS} {r : Option Value} (hdg : decode (x_mB m) pc = .ok (.invokespecial idx, 3)) (hf : x_cl (x_mo m) idx = some (i0, 2, m1, ps)) (ho : x_mo m < 20) (hn : As.length = x_mN m1) (hst : (rest.map fun v => v.category).sum ≤ 8)
    (hc : x_Call E d m1 (.ref bb :: As) S none S1) (h : x_Rw E (d + 1) m (pc + 3) lv rest S1 r S') : x_Rw E (d + 1) m pc lv (As.reverse ++ .ref bb :: rest) S r S' := by
  obtain ⟨f1, f2, -, f4⟩ := x_cl_ok hf ho
  dsimp only at f2
  subst f2
  obtain ⟨n1, n2⟩ := f4 (Or.inl rfl)
  dsimp only at n1 n2
  have hl : Cond.methodLink (x_o (x_mo m)) i0 (x_mY m1) ∈ x_tbl := f1 _ (by simp [x_cc])
  have hi : Cond.instanceMethod (x_mY m1) ∈ x_tbl := f1 _ (by simp [x_cc])
  obtain ⟨k1, k2, k3, k4, k5, k6, k7, k8, k9⟩ := x_mk_spec hc.1
  obtain ⟨hm1, hm2, hm3⟩ := hc.2.1
  refine x_stepC h ⟨hm1, hm2, hm3⟩ ?_
  intro l p e R s mid args below meth c A D cs q al H locs ls cells slots Q C X hl0 w1 w2 hcc hzz kk
  obtain ⟨wa, wb⟩ := x_wfs_a.mp w2
  have wargs : x_wfs (x_n S) (.ref bb :: As) := x_wfs_c.mpr ⟨(x_wfs_c.mp wb).1, x_wfs_r.mp wa⟩
  have hM := hc.2.2 l D cs q al H.size C.1 X.2.2.2.2 wargs X.2.2.2.1
  have hts := C.2.2.2.2.2.2.1
  have hrm := x_room (S := S) (S1 := S1) (m := m1) C.2.2.2.2.2.2.2.2.2.1 C.2.2.2.2.2.2.2.2.2.2.1 k7
  have cw := cwI (R := R) (own := x_o (x_mo m)) (index := i0) (y := x_mY m1) (bytes := x_mB m1) (maxL := x_mL m1) (rm := x_rm d S S1) (mc := x_k S1 - x_k S) (ms := x_z S1 - x_z S) (x_mN m1) hts (x_ws_good hc.1) (ws' := x_tbl) (by unfold x_ws x_mc; rw [n2]) rfl rfl (hts _ k2) (hts _ hl) (hts _ hi) n1 ⟨k4, k5, k6⟩ hrm
  rw [x_map_st]
  refine x_cont C X (va_runI (As := As.map (x_c al)) (rest := rest.map (x_c al)) ⟨C.2.1, C.2.2.1, C.2.2.2.1, C.2.2.2.2.1, hts⟩ hM cw ⟨x_Pc_blind, x_Pc_at C X ((Value.ref bb :: As).map (x_c al))⟩ rfl (by rw [List.length_map]; exact hn) hl0.1 rfl (lv_room (by rw [x_cs_cat]; exact hst)) hdg ⟨hcc, hzz⟩) ?_
  intro al1 H1 locs1 x1 X1 wr
  have := kk al1 H1 locs1 ls x1 X1 (by rw [x_ql_ext x1 w1]; exact hl0) (w1.mono hm1) ((xw1 wb).mono hm1)
  rw [x_cs_ext x1 (xw1 wb)] at this
  exact this
theorem xi_callIN {E : Nat × (Nat → Int32)} {d m pc idx i0 m1 bb : Nat} {ps : List Nat} {lv : List (Nat × Value)} {As rest : List Value} {S S1 S' : xS} {r : Option Value} (hdg : decode (x_mB m) pc = .ok (.invokespecial idx, 3)) (hf : x_cl (x_mo m) idx = some (i0, 3, m1, ps)) (ho : x_mo m < 20) (hn : As.length = x_mN m1) (hst : (rest.map fun v => v.category).sum ≤ 8)
    (hc : x_Call E d m1 (.ref bb :: As) S none S1) (h : x_Rw E (d + 1) m (pc + 3) lv rest S1 r S') : x_Rw E (d + 1) m pc lv (As.reverse ++ .ref bb :: rest) S r S' := by
  obtain ⟨f1, f2, f3, f4⟩ := x_cl_ok hf ho
  dsimp only at f2
  subst f2
  obtain ⟨n1, n2⟩ := f4 (Or.inr rfl)
  dsimp only at n1 n2
  have hnl := f3 (Or.inl rfl)
  dsimp only at hnl
  have hi : Cond.instanceMethod (x_mY m1) ∈ x_tbl := f1 _ (by simp [x_cc])
  obtain ⟨k1, k2, k3, k4, k5, k6, k7, k8, k9⟩ := x_mk_spec hc.1
  obtain ⟨hm1, hm2, hm3⟩ := hc.2.1
  refine x_stepC h ⟨hm1, hm2, hm3⟩ ?_
  intro l p e R s mid args below meth c A D cs q al H locs ls cells slots Q C X hl0 w1 w2 hcc hzz kk
  obtain ⟨wa, wb⟩ := x_wfs_a.mp w2
  have wargs : x_wfs (x_n S) (.ref bb :: As) := x_wfs_c.mpr ⟨(x_wfs_c.mp wb).1, x_wfs_r.mp wa⟩
  have hM := hc.2.2 l D cs q al H.size C.1 X.2.2.2.2 wargs X.2.2.2.1
  have hts := C.2.2.2.2.2.2.1
  have hnw : va_Nw (x_nc (x_mo m, i0, m1)) s := C.2.2.2.2.2.2.2.2.2.2.2.2.2.2.1 _ hnl
  have hrm := x_room (S := S) (S1 := S1) (m := m1) C.2.2.2.2.2.2.2.2.2.1 C.2.2.2.2.2.2.2.2.2.2.1 k7
  have cw := va_cnB (R := R) (own := x_o (x_mo m)) (host := "ScrawlHouse") (index := i0) (y := x_mY m1) (bytes := x_mB m1) (maxL := x_mL m1) (ret := none) (rm := x_rm d S S1) (mc := x_k S1 - x_k S) (ms := x_z S1 - x_z S) (x_mN m1) hts (x_ws_good hc.1) (ws' := x_tbl) (by unfold x_ws x_mc; rw [n2]) rfl rfl hnw (hts _ k2) ⟨k4, k5, k6⟩ hrm
  rw [x_map_st]
  refine x_cont C X (va_runIN (As := As.map (x_c al)) (rest := rest.map (x_c al)) ⟨C.2.1, C.2.2.1, C.2.2.2.1, C.2.2.2.2.1, hts⟩ hM ⟨cw, n1, hts _ hi⟩ ⟨x_Pc_blind, x_Pc_at C X ((Value.ref bb :: As).map (x_c al))⟩ rfl (by rw [List.length_map]; exact hn) hl0.1 rfl (lv_room (by rw [x_cs_cat]; exact hst)) hdg ⟨hcc, hzz⟩) ?_
  intro al1 H1 locs1 x1 X1 wr
  have := kk al1 H1 locs1 ls x1 X1 (by rw [x_ql_ext x1 w1]; exact hl0) (w1.mono hm1) ((xw1 wb).mono hm1)
  rw [x_cs_ext x1 (xw1 wb)] at this
  exact this
/-- Object's own constructor -/
theorem xi_obj {E : Nat × (Nat → Int32)} {d m pc idx i0 bb m1 : Nat} {ps : List Nat} {lv : List (Nat × Value)} {rest : List Value} {S S' : xS} {r : Option Value} (hdg : decode (x_mB m) pc = .ok (.invokespecial idx, 3)) (hf : x_cl (x_mo m) idx = some (i0, 4, m1, ps)) (ho : x_mo m < 20) (hst : (rest.map fun v => v.category).sum ≤ 8) (h : x_Rw E (d + 1) m (pc + 3) lv rest S r S') : x_Rw E (d + 1) m pc lv (.ref bb :: rest) S r S' := by
  obtain ⟨f1, f2, -, -⟩ := x_cl_ok hf ho
  dsimp only at f2
  subst f2
  have hl : Cond.methodLink (x_o (x_mo m)) i0 x_oi ∈ x_tbl := f1 _ (by simp [x_cc])
  have hi : Cond.instanceMethod x_oi ∈ x_tbl := f1 _ (by simp [x_cc])
  have hc : Cond.code x_oi ⟨#[0xb1]⟩ 1 none ∈ x_tbl := f1 _ (by simp [x_cc])
  refine x_step h (fun w1 w2 => ⟨w1, xw1 w2⟩) (fun l p e R s mid args below meth c A D cs q al H locs ls cells slots Q C X hl0 k => ?_)
  have hts := C.2.2.2.2.2.2.1
  have hlo := C.2.2.2.2.2.2.2.2.2.2.1
  refine W.objInit C.2.1 C.2.2.1 C.2.2.2.2.1 (hts _ hl) (hts _ hi) (hts _ hc) rfl (hl0.1.trans C.2.2.2.1.symm) rfl hdg (Nat.le_trans (by omega) C.2.2.2.2.2.2.2.2.2.1) ?_ (k ls hl0)
  have e1 := x_cs_cat al rest
  rw [e1]
  show 2 * 0 + _ + 12 ≤ _
  omega
end
section
theorem xb_if_eq_t {E : Nat × (Nat → Int32)} {d m pc tgt : Nat} {off : Int} {lv : List (Nat × Value)} {st : List Value} {S S' : xS} {r : Option Value} {x : Int32} (hdg : decode (x_mB m) pc = .ok (.ifCond .eq off, 3)) (ht : (pc : Int) + off = (tgt : Int)) (hc : x = 0) (h : x_Rw E d m tgt lv st S r S') : x_Rw E d m pc lv (.int x :: st) S r S' :=
  x_step h (fun w1 w2 => ⟨w1, xw1 w2⟩) (fun l p e R s mid args below meth c A D cs q al H locs ls cells slots Q C X hl k => lv_if_eq C.2.1 C.2.2.1 hdg ht (fun _ => k ls hl) (fun h0 => absurd hc (by first | exact h0 | exact fun z => z h0 | (intro z; exact z h0))))
theorem xb_if_eq_f {E : Nat × (Nat → Int32)} {d m pc tgt : Nat} {off : Int} {lv : List (Nat × Value)} {st : List Value} {S S' : xS} {r : Option Value} {x : Int32} (hdg : decode (x_mB m) pc = .ok (.ifCond .eq off, 3)) (ht : (pc : Int) + off = (tgt : Int)) (hc : ¬ x = 0) (h : x_Rw E d m (pc + 3) lv st S r S') : x_Rw E d m pc lv (.int x :: st) S r S' :=
  x_step h (fun w1 w2 => ⟨w1, xw1 w2⟩) (fun l p e R s mid args below meth c A D cs q al H locs ls cells slots Q C X hl k => lv_if_eq C.2.1 C.2.2.1 hdg ht (fun h0 => absurd h0 (by first | exact hc | exact fun z => z hc | (intro z; exact z hc))) (fun _ => k ls hl))
theorem xb_ic_eq_t {E : Nat × (Nat → Int32)} {d m pc tgt : Nat} {off : Int} {lv : List (Nat × Value)} {st : List Value} {S S' : xS} {r : Option Value} {x y : Int32} (hdg : decode (x_mB m) pc = .ok (.if_icmp .eq off, 3)) (ht : (pc : Int) + off = (tgt : Int)) (hc : x = y) (h : x_Rw E d m tgt lv st S r S') : x_Rw E d m pc lv (.int y :: .int x :: st) S r S' :=
  x_step h (fun w1 w2 => ⟨w1, xw2 w2⟩) (fun l p e R s mid args below meth c A D cs q al H locs ls cells slots Q C X hl k => lv_icmp_eq C.2.1 C.2.2.1 hdg ht (fun _ => k ls hl) (fun h0 => absurd hc (by first | exact h0 | exact fun z => z h0 | (intro z; exact z h0))))
theorem xb_ic_eq_f {E : Nat × (Nat → Int32)} {d m pc tgt : Nat} {off : Int} {lv : List (Nat × Value)} {st : List Value} {S S' : xS} {r : Option Value} {x y : Int32} (hdg : decode (x_mB m) pc = .ok (.if_icmp .eq off, 3)) (ht : (pc : Int) + off = (tgt : Int)) (hc : ¬ x = y) (h : x_Rw E d m (pc + 3) lv st S r S') : x_Rw E d m pc lv (.int y :: .int x :: st) S r S' :=
  x_step h (fun w1 w2 => ⟨w1, xw2 w2⟩) (fun l p e R s mid args below meth c A D cs q al H locs ls cells slots Q C X hl k => lv_icmp_eq C.2.1 C.2.2.1 hdg ht (fun h0 => absurd h0 (by first | exact hc | exact fun z => z hc | (intro z; exact z hc))) (fun _ => k ls hl))
theorem xb_if_ne_t {E : Nat × (Nat → Int32)} {d m pc tgt : Nat} {off : Int} {lv : List (Nat × Value)} {st : List Value} {S S' : xS} {r : Option Value} {x : Int32} (hdg : decode (x_mB m) pc = .ok (.ifCond .ne off, 3)) (ht : (pc : Int) + off = (tgt : Int)) (hc : ¬ x = 0) (h : x_Rw E d m tgt lv st S r S') : x_Rw E d m pc lv (.int x :: st) S r S' :=
  x_step h (fun w1 w2 => ⟨w1, xw1 w2⟩) (fun l p e R s mid args below meth c A D cs q al H locs ls cells slots Q C X hl k => lv_if_ne C.2.1 C.2.2.1 hdg ht (fun _ => k ls hl) (fun h0 => absurd hc (by first | exact h0 | exact fun z => z h0 | (intro z; exact z h0))))
theorem xb_if_ne_f {E : Nat × (Nat → Int32)} {d m pc tgt : Nat} {off : Int} {lv : List (Nat × Value)} {st : List Value} {S S' : xS} {r : Option Value} {x : Int32} (hdg : decode (x_mB m) pc = .ok (.ifCond .ne off, 3)) (ht : (pc : Int) + off = (tgt : Int)) (hc : x = 0) (h : x_Rw E d m (pc + 3) lv st S r S') : x_Rw E d m pc lv (.int x :: st) S r S' :=
  x_step h (fun w1 w2 => ⟨w1, xw1 w2⟩) (fun l p e R s mid args below meth c A D cs q al H locs ls cells slots Q C X hl k => lv_if_ne C.2.1 C.2.2.1 hdg ht (fun h0 => absurd h0 (by first | exact hc | exact fun z => z hc | (intro z; exact z hc))) (fun _ => k ls hl))
theorem xb_ic_ne_t {E : Nat × (Nat → Int32)} {d m pc tgt : Nat} {off : Int} {lv : List (Nat × Value)} {st : List Value} {S S' : xS} {r : Option Value} {x y : Int32} (hdg : decode (x_mB m) pc = .ok (.if_icmp .ne off, 3)) (ht : (pc : Int) + off = (tgt : Int)) (hc : ¬ x = y) (h : x_Rw E d m tgt lv st S r S') : x_Rw E d m pc lv (.int y :: .int x :: st) S r S' :=
  x_step h (fun w1 w2 => ⟨w1, xw2 w2⟩) (fun l p e R s mid args below meth c A D cs q al H locs ls cells slots Q C X hl k => lv_icmp_ne C.2.1 C.2.2.1 hdg ht (fun _ => k ls hl) (fun h0 => absurd hc (by first | exact h0 | exact fun z => z h0 | (intro z; exact z h0))))
theorem xb_ic_ne_f {E : Nat × (Nat → Int32)} {d m pc tgt : Nat} {off : Int} {lv : List (Nat × Value)} {st : List Value} {S S' : xS} {r : Option Value} {x y : Int32} (hdg : decode (x_mB m) pc = .ok (.if_icmp .ne off, 3)) (ht : (pc : Int) + off = (tgt : Int)) (hc : x = y) (h : x_Rw E d m (pc + 3) lv st S r S') : x_Rw E d m pc lv (.int y :: .int x :: st) S r S' :=
  x_step h (fun w1 w2 => ⟨w1, xw2 w2⟩) (fun l p e R s mid args below meth c A D cs q al H locs ls cells slots Q C X hl k => lv_icmp_ne C.2.1 C.2.2.1 hdg ht (fun h0 => absurd h0 (by first | exact hc | exact fun z => z hc | (intro z; exact z hc))) (fun _ => k ls hl))
theorem xb_if_lt_t {E : Nat × (Nat → Int32)} {d m pc tgt : Nat} {off : Int} {lv : List (Nat × Value)} {st : List Value} {S S' : xS} {r : Option Value} {x : Int32} (hdg : decode (x_mB m) pc = .ok (.ifCond .lt off, 3)) (ht : (pc : Int) + off = (tgt : Int)) (hc : x < 0) (h : x_Rw E d m tgt lv st S r S') : x_Rw E d m pc lv (.int x :: st) S r S' :=
  x_step h (fun w1 w2 => ⟨w1, xw1 w2⟩) (fun l p e R s mid args below meth c A D cs q al H locs ls cells slots Q C X hl k => lv_if_lt C.2.1 C.2.2.1 hdg ht (fun _ => k ls hl) (fun h0 => absurd hc (by first | exact h0 | exact fun z => z h0 | (intro z; exact z h0))))
theorem xb_if_lt_f {E : Nat × (Nat → Int32)} {d m pc tgt : Nat} {off : Int} {lv : List (Nat × Value)} {st : List Value} {S S' : xS} {r : Option Value} {x : Int32} (hdg : decode (x_mB m) pc = .ok (.ifCond .lt off, 3)) (ht : (pc : Int) + off = (tgt : Int)) (hc : ¬ x < 0) (h : x_Rw E d m (pc + 3) lv st S r S') : x_Rw E d m pc lv (.int x :: st) S r S' :=
  x_step h (fun w1 w2 => ⟨w1, xw1 w2⟩) (fun l p e R s mid args below meth c A D cs q al H locs ls cells slots Q C X hl k => lv_if_lt C.2.1 C.2.2.1 hdg ht (fun h0 => absurd h0 (by first | exact hc | exact fun z => z hc | (intro z; exact z hc))) (fun _ => k ls hl))
theorem xb_ic_lt_t {E : Nat × (Nat → Int32)} {d m pc tgt : Nat} {off : Int} {lv : List (Nat × Value)} {st : List Value} {S S' : xS} {r : Option Value} {x y : Int32} (hdg : decode (x_mB m) pc = .ok (.if_icmp .lt off, 3)) (ht : (pc : Int) + off = (tgt : Int)) (hc : x < y) (h : x_Rw E d m tgt lv st S r S') : x_Rw E d m pc lv (.int y :: .int x :: st) S r S' :=
  x_step h (fun w1 w2 => ⟨w1, xw2 w2⟩) (fun l p e R s mid args below meth c A D cs q al H locs ls cells slots Q C X hl k => lv_icmp_lt C.2.1 C.2.2.1 hdg ht (fun _ => k ls hl) (fun h0 => absurd hc (by first | exact h0 | exact fun z => z h0 | (intro z; exact z h0))))
theorem xb_ic_lt_f {E : Nat × (Nat → Int32)} {d m pc tgt : Nat} {off : Int} {lv : List (Nat × Value)} {st : List Value} {S S' : xS} {r : Option Value} {x y : Int32} (hdg : decode (x_mB m) pc = .ok (.if_icmp .lt off, 3)) (ht : (pc : Int) + off = (tgt : Int)) (hc : ¬ x < y) (h : x_Rw E d m (pc + 3) lv st S r S') : x_Rw E d m pc lv (.int y :: .int x :: st) S r S' :=
  x_step h (fun w1 w2 => ⟨w1, xw2 w2⟩) (fun l p e R s mid args below meth c A D cs q al H locs ls cells slots Q C X hl k => lv_icmp_lt C.2.1 C.2.2.1 hdg ht (fun h0 => absurd h0 (by first | exact hc | exact fun z => z hc | (intro z; exact z hc))) (fun _ => k ls hl))
theorem xb_if_ge_t {E : Nat × (Nat → Int32)} {d m pc tgt : Nat} {off : Int} {lv : List (Nat × Value)} {st : List Value} {S S' : xS} {r : Option Value} {x : Int32} (hdg : decode (x_mB m) pc = .ok (.ifCond .ge off, 3)) (ht : (pc : Int) + off = (tgt : Int)) (hc : 0 ≤ x) (h : x_Rw E d m tgt lv st S r S') : x_Rw E d m pc lv (.int x :: st) S r S' :=
  x_step h (fun w1 w2 => ⟨w1, xw1 w2⟩) (fun l p e R s mid args below meth c A D cs q al H locs ls cells slots Q C X hl k => lv_if_ge C.2.1 C.2.2.1 hdg ht (fun _ => k ls hl) (fun h0 => absurd hc (by first | exact h0 | exact fun z => z h0 | (intro z; exact z h0))))
theorem xb_if_ge_f {E : Nat × (Nat → Int32)} {d m pc tgt : Nat} {off : Int} {lv : List (Nat × Value)} {st : List Value} {S S' : xS} {r : Option Value} {x : Int32} (hdg : decode (x_mB m) pc = .ok (.ifCond .ge off, 3)) (ht : (pc : Int) + off = (tgt : Int)) (hc : ¬ 0 ≤ x) (h : x_Rw E d m (pc + 3) lv st S r S') : x_Rw E d m pc lv (.int x :: st) S r S' :=
  x_step h (fun w1 w2 => ⟨w1, xw1 w2⟩) (fun l p e R s mid args below meth c A D cs q al H locs ls cells slots Q C X hl k => lv_if_ge C.2.1 C.2.2.1 hdg ht (fun h0 => absurd h0 (by first | exact hc | exact fun z => z hc | (intro z; exact z hc))) (fun _ => k ls hl))
theorem xb_ic_ge_t {E : Nat × (Nat → Int32)} {d m pc tgt : Nat} {off : Int} {lv : List (Nat × Value)} {st : List Value} {S S' : xS} {r : Option Value} {x y : Int32} (hdg : decode (x_mB m) pc = .ok (.if_icmp .ge off, 3)) (ht : (pc : Int) + off = (tgt : Int)) (hc : y ≤ x) (h : x_Rw E d m tgt lv st S r S') : x_Rw E d m pc lv (.int y :: .int x :: st) S r S' :=
  x_step h (fun w1 w2 => ⟨w1, xw2 w2⟩) (fun l p e R s mid args below meth c A D cs q al H locs ls cells slots Q C X hl k => lv_icmp_ge C.2.1 C.2.2.1 hdg ht (fun _ => k ls hl) (fun h0 => absurd hc (by first | exact h0 | exact fun z => z h0 | (intro z; exact z h0))))
theorem xb_ic_ge_f {E : Nat × (Nat → Int32)} {d m pc tgt : Nat} {off : Int} {lv : List (Nat × Value)} {st : List Value} {S S' : xS} {r : Option Value} {x y : Int32} (hdg : decode (x_mB m) pc = .ok (.if_icmp .ge off, 3)) (ht : (pc : Int) + off = (tgt : Int)) (hc : ¬ y ≤ x) (h : x_Rw E d m (pc + 3) lv st S r S') : x_Rw E d m pc lv (.int y :: .int x :: st) S r S' :=
  x_step h (fun w1 w2 => ⟨w1, xw2 w2⟩) (fun l p e R s mid args below meth c A D cs q al H locs ls cells slots Q C X hl k => lv_icmp_ge C.2.1 C.2.2.1 hdg ht (fun h0 => absurd h0 (by first | exact hc | exact fun z => z hc | (intro z; exact z hc))) (fun _ => k ls hl))
theorem xb_if_gt_t {E : Nat × (Nat → Int32)} {d m pc tgt : Nat} {off : Int} {lv : List (Nat × Value)} {st : List Value} {S S' : xS} {r : Option Value} {x : Int32} (hdg : decode (x_mB m) pc = .ok (.ifCond .gt off, 3)) (ht : (pc : Int) + off = (tgt : Int)) (hc : 0 < x) (h : x_Rw E d m tgt lv st S r S') : x_Rw E d m pc lv (.int x :: st) S r S' :=
  x_step h (fun w1 w2 => ⟨w1, xw1 w2⟩) (fun l p e R s mid args below meth c A D cs q al H locs ls cells slots Q C X hl k => lv_if_gt C.2.1 C.2.2.1 hdg ht (fun _ => k ls hl) (fun h0 => absurd hc (by first | exact h0 | exact fun z => z h0 | (intro z; exact z h0))))
theorem xb_if_gt_f {E : Nat × (Nat → Int32)} {d m pc tgt : Nat} {off : Int} {lv : List (Nat × Value)} {st : List Value} {S S' : xS} {r : Option Value} {x : Int32} (hdg : decode (x_mB m) pc = .ok (.ifCond .gt off, 3)) (ht : (pc : Int) + off = (tgt : Int)) (hc : ¬ 0 < x) (h : x_Rw E d m (pc + 3) lv st S r S') : x_Rw E d m pc lv (.int x :: st) S r S' :=
  x_step h (fun w1 w2 => ⟨w1, xw1 w2⟩) (fun l p e R s mid args below meth c A D cs q al H locs ls cells slots Q C X hl k => lv_if_gt C.2.1 C.2.2.1 hdg ht (fun h0 => absurd h0 (by first | exact hc | exact fun z => z hc | (intro z; exact z hc))) (fun _ => k ls hl))
theorem xb_ic_gt_t {E : Nat × (Nat → Int32)} {d m pc tgt : Nat} {off : Int} {lv : List (Nat × Value)} {st : List Value} {S S' : xS} {r : Option Value} {x y : Int32} (hdg : decode (x_mB m) pc = .ok (.if_icmp .gt off, 3)) (ht : (pc : Int) + off = (tgt : Int)) (hc : y < x) (h : x_Rw E d m tgt lv st S r S') : x_Rw E d m pc lv (.int y :: .int x :: st) S r S' :=
  x_step h (fun w1 w2 => ⟨w1, xw2 w2⟩) (fun l p e R s mid args below meth c A D cs q al H locs ls cells slots Q C X hl k => lv_icmp_gt C.2.1 C.2.2.1 hdg ht (fun _ => k ls hl) (fun h0 => absurd hc (by first | exact h0 | exact fun z => z h0 | (intro z; exact z h0))))
theorem xb_ic_gt_f {E : Nat × (Nat → Int32)} {d m pc tgt : Nat} {off : Int} {lv : List (Nat × Value)} {st : List Value} {S S' : xS} {r : Option Value} {x y : Int32} (hdg : decode (x_mB m) pc = .ok (.if_icmp .gt off, 3)) (ht : (pc : Int) + off = (tgt : Int)) (hc : ¬ y < x) (h : x_Rw E d m (pc + 3) lv st S r S') : x_Rw E d m pc lv (.int y :: .int x :: st) S r S' :=
  x_step h (fun w1 w2 => ⟨w1, xw2 w2⟩) (fun l p e R s mid args below meth c A D cs q al H locs ls cells slots Q C X hl k => lv_icmp_gt C.2.1 C.2.2.1 hdg ht (fun h0 => absurd h0 (by first | exact hc | exact fun z => z hc | (intro z; exact z hc))) (fun _ => k ls hl))
theorem xb_if_le_t {E : Nat × (Nat → Int32)} {d m pc tgt : Nat} {off : Int} {lv : List (Nat × Value)} {st : List Value} {S S' : xS} {r : Option Value} {x : Int32} (hdg : decode (x_mB m) pc = .ok (.ifCond .le off, 3)) (ht : (pc : Int) + off = (tgt : Int)) (hc : x ≤ 0) (h : x_Rw E d m tgt lv st S r S') : x_Rw E d m pc lv (.int x :: st) S r S' :=
  x_step h (fun w1 w2 => ⟨w1, xw1 w2⟩) (fun l p e R s mid args below meth c A D cs q al H locs ls cells slots Q C X hl k => lv_if_le C.2.1 C.2.2.1 hdg ht (fun _ => k ls hl) (fun h0 => absurd hc (by first | exact h0 | exact fun z => z h0 | (intro z; exact z h0))))
theorem xb_if_le_f {E : Nat × (Nat → Int32)} {d m pc tgt : Nat} {off : Int} {lv : List (Nat × Value)} {st : List Value} {S S' : xS} {r : Option Value} {x : Int32} (hdg : decode (x_mB m) pc = .ok (.ifCond .le off, 3)) (ht : (pc : Int) + off = (tgt : Int)) (hc : ¬ x ≤ 0) (h : x_Rw E d m (pc + 3) lv st S r S') : x_Rw E d m pc lv (.int x :: st) S r S' :=
  x_step h (fun w1 w2 => ⟨w1, xw1 w2⟩) (fun l p e R s mid args below meth c A D cs q al H locs ls cells slots Q C X hl k => lv_if_le C.2.1 C.2.2.1 hdg ht (fun h0 => absurd h0 (by first | exact hc | exact fun z => z hc | (intro z; exact z hc))) (fun _ => k ls hl))
theorem xb_ic_le_t {E : Nat × (Nat → Int32)} {d m pc tgt : Nat} {off : Int} {lv : List (Nat × Value)} {st : List Value} {S S' : xS} {r : Option Value} {x y : Int32} (hdg : decode (x_mB m) pc = .ok (.if_icmp .le off, 3)) (ht : (pc : Int) + off = (tgt : Int)) (hc : x ≤ y) (h : x_Rw E d m tgt lv st S r S') : x_Rw E d m pc lv (.int y :: .int x :: st) S r S' :=
  x_step h (fun w1 w2 => ⟨w1, xw2 w2⟩) (fun l p e R s mid args below meth c A D cs q al H locs ls cells slots Q C X hl k => lv_icmp_le C.2.1 C.2.2.1 hdg ht (fun _ => k ls hl) (fun h0 => absurd hc (by first | exact h0 | exact fun z => z h0 | (intro z; exact z h0))))
theorem xb_ic_le_f {E : Nat × (Nat → Int32)} {d m pc tgt : Nat} {off : Int} {lv : List (Nat × Value)} {st : List Value} {S S' : xS} {r : Option Value} {x y : Int32} (hdg : decode (x_mB m) pc = .ok (.if_icmp .le off, 3)) (ht : (pc : Int) + off = (tgt : Int)) (hc : ¬ x ≤ y) (h : x_Rw E d m (pc + 3) lv st S r S') : x_Rw E d m pc lv (.int y :: .int x :: st) S r S' :=
  x_step h (fun w1 w2 => ⟨w1, xw2 w2⟩) (fun l p e R s mid args below meth c A D cs q al H locs ls cells slots Q C X hl k => lv_icmp_le C.2.1 C.2.2.1 hdg ht (fun h0 => absurd h0 (by first | exact hc | exact fun z => z hc | (intro z; exact z hc))) (fun _ => k ls hl))
/-- from here the method comes to its return with Q of answer and state -/
def x_R (E : Nat × (Nat → Int32)) (d m pc : Nat) (lv : List (Nat × Value)) (st : List Value) (S : xS) (Q : Option Value → xS → Prop) : Prop := ∃ r S', x_Rw E d m pc lv st S r S' ∧ Q r S'
theorem x_R.step {E : Nat × (Nat → Int32)} {d m pc pc1 : Nat} {lv lv1 : List (Nat × Value)} {st st1 : List Value} {S S1 : xS} {Q : Option Value → xS → Prop} (h : ∀ r S', x_Rw E d m pc1 lv1 st1 S1 r S' → x_Rw E d m pc lv st S r S') (k : x_R E d m pc1 lv1 st1 S1 Q) : x_R E d m pc lv st S Q := by
  obtain ⟨r, S', h1, h2⟩ := k
  exact ⟨r, S', h _ _ h1, h2⟩
theorem x_R.sub {E : Nat × (Nat → Int32)} {d m pc : Nat} {lv lv1 : List (Nat × Value)} {st : List Value} {S : xS} {Q : Option Value → xS → Prop} (ks : List Nat) (hk : lv_pick lv ks = lv1) (k : x_R E d m pc lv1 st S Q) : x_R E d m pc lv st S Q := x_R.step (fun _ _ h => x_sub ks hk h) k
theorem x_R.mono {E : Nat × (Nat → Int32)} {d m pc : Nat} {lv : List (Nat × Value)} {st : List Value} {S : xS} {Q Q' : Option Value → xS → Prop} (k : x_R E d m pc lv st S Q) (h : ∀ r S', Q r S' → Q' r S') : x_R E d m pc lv st S Q' := by
  obtain ⟨r, S', h1, h2⟩ := k
  exact ⟨r, S', h1, h _ _ h2⟩
theorem xr_goto {E : Nat × (Nat → Int32)} {d m pc tgt : Nat} {off : Int} {lv : List (Nat × Value)} {st : List Value} {S : xS} {Q : Option Value → xS → Prop} (hdg : decode (x_mB m) pc = .ok (.goto off, 3)) (ht : (pc : Int) + off = (tgt : Int)) (k : x_R E d m tgt lv st S Q) : x_R E d m pc lv st S Q := x_R.step (fun _ _ h => xi_goto hdg ht h) k
theorem xr_ret0 {E : Nat × (Nat → Int32)} {d m pc : Nat} {lv : List (Nat × Value)} {S : xS} {Q : Option Value → xS → Prop} (hdg : decode (x_mB m) pc = .ok (.return_, 1)) (hr : x_mR m = none) (k : Q none S) : x_R E d m pc lv [] S Q := ⟨none, S, xi_ret0 hdg hr, k⟩
theorem xr_iret {E : Nat × (Nat → Int32)} {d m pc : Nat} {lv : List (Nat × Value)} {x : Int32} {S : xS} {Q : Option Value → xS → Prop} (hdg : decode (x_mB m) pc = .ok (.ireturn, 1)) (hr : x_mR m = some .int) (k : Q (some (.int x)) S) : x_R E d m pc lv [.int x] S Q := ⟨_, S, xi_iret hdg ⟨_, hr, rfl⟩, k⟩
theorem xr_nret {E : Nat × (Nat → Int32)} {d m pc : Nat} {lv : List (Nat × Value)} {x : Int32} {ty : FieldType} {S : xS} {Q : Option Value → xS → Prop} (hdg : decode (x_mB m) pc = .ok (.ireturn, 1)) (hr : x_mR m = some ty) (hn : narrow ty (.int x) = .int x) (k : Q (some (.int x)) S) : x_R E d m pc lv [.int x] S Q := ⟨_, S, xi_iret hdg ⟨_, hr, hn⟩, k⟩
theorem xr_aret {E : Nat × (Nat → Int32)} {d m pc x : Nat} {lv : List (Nat × Value)} {n : String} {S : xS} {Q : Option Value → xS → Prop} (hdg : decode (x_mB m) pc = .ok (.areturn, 1)) (hr : x_mR m = some (.object n)) (k : Q (some (.ref x)) S) : x_R E d m pc lv [.ref x] S Q := ⟨_, S, xi_aret hdg hr, k⟩
theorem xr_zret {E : Nat × (Nat → Int32)} {d m pc : Nat} {lv : List (Nat × Value)} {x : Int32} {S : xS} {Q : Option Value → xS → Prop} (hdg : decode (x_mB m) pc = .ok (.ireturn, 1)) (hr : x_mR m = some .boolean) (hx : vp_in x 2) (k : Q (some (.int x)) S) : x_R E d m pc lv [.int x] S Q := ⟨_, S, xi_iret hdg ⟨_, hr, (x_nar hx).1⟩, k⟩
theorem xr_lret {E : Nat × (Nat → Int32)} {d m pc : Nat} {lv : List (Nat × Value)} {x : Int64} {S : xS} {Q : Option Value → xS → Prop} (hdg : decode (x_mB m) pc = .ok (.lreturn, 1)) (hr : x_mR m = some .long) (k : Q (some (.long x)) S) : x_R E d m pc lv [.long x] S Q := ⟨_, S, xi_lret hdg hr, k⟩
theorem x_in2_0 : vp_in 0 2 := by unfold vp_in; decide
theorem x_in2_1 : vp_in 1 2 := by unfold vp_in; decide
/-- a contract with a condition on what comes -/
def x_K1 (E : Nat × (Nat → Int32)) (d m : Nat) (args : List Value) (S : xS) (Q : Option Value → xS → Prop) : Prop := ∃ r S', x_Call E d m args S r S' ∧ Q r S'
theorem x_K1.of {E : Nat × (Nat → Int32)} {d m : Nat} {args : List Value} {S : xS} {Q : Option Value → xS → Prop} (hok : x_mOK m) (hlen : (lg_sl args).length ≤ x_mL m) (h : x_R E d m 0 (lv_args 0 args) [] S Q) : x_K1 E d m args S Q := by
  obtain ⟨r, S', h1, h2⟩ := h
  exact ⟨r, S', x_meth hok hlen h1, h2⟩
theorem x_K1.mono {E : Nat × (Nat → Int32)} {d m : Nat} {args : List Value} {S : xS} {Q Q' : Option Value → xS → Prop} (k : x_K1 E d m args S Q) (h : ∀ r S', Q r S' → Q' r S') : x_K1 E d m args S Q' := by
  obtain ⟨r, S', h1, h2⟩ := k
  exact ⟨r, S', h1, h _ _ h2⟩
theorem xr_callV {E : Nat × (Nat → Int32)} {d m pc idx i0 m1 bb : Nat} {ps : List Nat} {lv : List (Nat × Value)} {As rest st : List Value} {S : xS} {Q : Option Value → xS → Prop} (hdg : decode (x_mB m) pc = .ok (.invokevirtual idx, 3)) (hf : x_cl (x_mo m) idx = some (i0, 0, m1, ps)) (ho : x_mo m < 20) (hn : As.length = x_mN m1) (hK : x_K S bb = x_mo m1) (hK2 : x_mo m1 < 13) (hst : (rest.map fun v => v.category).sum ≤ 8) (hs : As.reverse ++ .ref bb :: rest = st)
    (k : x_K1 E d m1 (.ref bb :: As) S (fun r S1 => x_R E (d + 1) m (pc + 3) lv (r.toList ++ rest) S1 Q)) : x_R E (d + 1) m pc lv st S Q := by
  subst hs
  obtain ⟨r1, S1, h1, r, S', h2, h3⟩ := k
  exact ⟨r, S', xi_callV hdg hf ho hn hK hK2 hst h1 h2, h3⟩
theorem xr_callS {E : Nat × (Nat → Int32)} {d m pc idx i0 m1 : Nat} {ps : List Nat} {lv : List (Nat × Value)} {As rest st : List Value} {S : xS} {Q : Option Value → xS → Prop} (hdg : decode (x_mB m) pc = .ok (.invokestatic idx, 3)) (hf : x_cl (x_mo m) idx = some (i0, 1, m1, ps)) (ho : x_mo m < 20) (hn : As.length = x_mN m1) (hst : (rest.map fun v => v.category).sum ≤ 8) (hs : As.reverse ++ rest = st)
    (k : x_K1 E d m1 As S (fun r S1 => x_R E (d + 1) m (pc + 3) lv (r.toList ++ rest) S1 Q)) : x_R E (d + 1) m pc lv st S Q := by
  subst hs
  obtain ⟨r1, S1, h1, r, S', h2, h3⟩ := k
  exact ⟨r, S', xi_callS hdg hf ho hn hst h1 h2, h3⟩
theorem xr_callSN {E : Nat × (Nat → Int32)} {d m pc idx i0 m1 : Nat} {ps : List Nat} {lv : List (Nat × Value)} {As rest st : List Value} {S : xS} {Q : Option Value → xS → Prop} (hdg : decode (x_mB m) pc = .ok (.invokestatic idx, 3)) (hf : x_cl (x_mo m) idx = some (i0, 5, m1, ps)) (ho : x_mo m < 20) (hn : As.length = x_mN m1) (hst : (rest.map fun v => v.category).sum ≤ 8) (hs : As.reverse ++ rest = st)
    (k : x_K1 E d m1 As S (fun r S1 => x_R E (d + 1) m (pc + 3) lv (r.toList ++ rest) S1 Q)) : x_R E (d + 1) m pc lv st S Q := by
  subst hs
  obtain ⟨r1, S1, h1, r, S', h2, h3⟩ := k
  exact ⟨r, S', xi_callSN hdg hf ho hn hst h1 h2, h3⟩
theorem xr_callI {E : Nat × (Nat → Int32)} {d m pc idx i0 m1 bb : Nat} {ps : List Nat} {lv : List (Nat × Value)} {As rest st : List Value} {S : xS} {Q : Option Value → xS → Prop} (hdg : decode (x_mB m) pc = .ok (.invokespecial idx, 3)) (hf : x_cl (x_mo m) idx = some (i0, 2, m1, ps)) (ho : x_mo m < 20) (hn : As.length = x_mN m1) (hst : (rest.map fun v => v.category).sum ≤ 8) (hs : As.reverse ++ .ref bb :: rest = st)
    (k : x_K1 E d m1 (.ref bb :: As) S (fun r S1 => r = none ∧ x_R E (d + 1) m (pc + 3) lv rest S1 Q)) : x_R E (d + 1) m pc lv st S Q := by
  subst hs
  obtain ⟨r1, S1, h1, rfl, r, S', h2, h3⟩ := k
  exact ⟨r, S', xi_callI hdg hf ho hn hst h1 h2, h3⟩
theorem xr_callIN {E : Nat × (Nat → Int32)} {d m pc idx i0 m1 bb : Nat} {ps : List Nat} {lv : List (Nat × Value)} {As rest st : List Value} {S : xS} {Q : Option Value → xS → Prop} (hdg : decode (x_mB m) pc = .ok (.invokespecial idx, 3)) (hf : x_cl (x_mo m) idx = some (i0, 3, m1, ps)) (ho : x_mo m < 20) (hn : As.length = x_mN m1) (hst : (rest.map fun v => v.category).sum ≤ 8) (hs : As.reverse ++ .ref bb :: rest = st)
    (k : x_K1 E d m1 (.ref bb :: As) S (fun r S1 => r = none ∧ x_R E (d + 1) m (pc + 3) lv rest S1 Q)) : x_R E (d + 1) m pc lv st S Q := by
  subst hs
  obtain ⟨r1, S1, h1, rfl, r, S', h2, h3⟩ := k
  exact ⟨r, S', xi_callIN hdg hf ho hn hst h1 h2, h3⟩
theorem xr_obj {E : Nat × (Nat → Int32)} {d m pc idx i0 bb m1 : Nat} {ps : List Nat} {lv : List (Nat × Value)} {rest : List Value} {S : xS} {Q : Option Value → xS → Prop} (hdg : decode (x_mB m) pc = .ok (.invokespecial idx, 3)) (hf : x_cl (x_mo m) idx = some (i0, 4, m1, ps)) (ho : x_mo m < 20) (hst : (rest.map fun v => v.category).sum ≤ 8) (k : x_R E (d + 1) m (pc + 3) lv rest S Q) : x_R E (d + 1) m pc lv (.ref bb :: rest) S Q := x_R.step (fun _ _ h => xi_obj hdg hf ho hst h) k
theorem xr_if_eq {E : Nat × (Nat → Int32)} {d m pc tgt : Nat} {off : Int} {lv : List (Nat × Value)} {st : List Value} {S : xS} {Q : Option Value → xS → Prop} {x : Int32} (hdg : decode (x_mB m) pc = .ok (.ifCond .eq off, 3)) (ht : (pc : Int) + off = (tgt : Int)) (kt : x = 0 → x_R E d m tgt lv st S Q) (kf : ¬ x = 0 → x_R E d m (pc + 3) lv st S Q) : x_R E d m pc lv (.int x :: st) S Q := by
  by_cases hc : x = 0
  · exact x_R.step (fun _ _ h => xb_if_eq_t hdg ht hc h) (kt hc)
  · exact x_R.step (fun _ _ h => xb_if_eq_f hdg ht hc h) (kf hc)
theorem xr_ic_eq {E : Nat × (Nat → Int32)} {d m pc tgt : Nat} {off : Int} {lv : List (Nat × Value)} {st : List Value} {S : xS} {Q : Option Value → xS → Prop} {x y : Int32} (hdg : decode (x_mB m) pc = .ok (.if_icmp .eq off, 3)) (ht : (pc : Int) + off = (tgt : Int)) (kt : x = y → x_R E d m tgt lv st S Q) (kf : ¬ x = y → x_R E d m (pc + 3) lv st S Q) : x_R E d m pc lv (.int y :: .int x :: st) S Q := by
  by_cases hc : x = y
  · exact x_R.step (fun _ _ h => xb_ic_eq_t hdg ht hc h) (kt hc)
  · exact x_R.step (fun _ _ h => xb_ic_eq_f hdg ht hc h) (kf hc)
theorem xr_if_ne {E : Nat × (Nat → Int32)} {d m pc tgt : Nat} {off : Int} {lv : List (Nat × Value)} {st : List Value} {S : xS} {Q : Option Value → xS → Prop} {x : Int32} (hdg : decode (x_mB m) pc = .ok (.ifCond .ne off, 3)) (ht : (pc : Int) + off = (tgt : Int)) (kt : ¬ x = 0 → x_R E d m tgt lv st S Q) (kf : x = 0 → x_R E d m (pc + 3) lv st S Q) : x_R E d m pc lv (.int x :: st) S Q := by
  by_cases hc : x = 0
  · exact x_R.step (fun _ _ h => xb_if_ne_f hdg ht hc h) (kf hc)
  · exact x_R.step (fun _ _ h => xb_if_ne_t hdg ht hc h) (kt hc)
theorem xr_ic_ne {E : Nat × (Nat → Int32)} {d m pc tgt : Nat} {off : Int} {lv : List (Nat × Value)} {st : List Value} {S : xS} {Q : Option Value → xS → Prop} {x y : Int32} (hdg : decode (x_mB m) pc = .ok (.if_icmp .ne off, 3)) (ht : (pc : Int) + off = (tgt : Int)) (kt : ¬ x = y → x_R E d m tgt lv st S Q) (kf : x = y → x_R E d m (pc + 3) lv st S Q) : x_R E d m pc lv (.int y :: .int x :: st) S Q := by
  by_cases hc : x = y
  · exact x_R.step (fun _ _ h => xb_ic_ne_f hdg ht hc h) (kf hc)
  · exact x_R.step (fun _ _ h => xb_ic_ne_t hdg ht hc h) (kt hc)
theorem xr_if_lt {E : Nat × (Nat → Int32)} {d m pc tgt : Nat} {off : Int} {lv : List (Nat × Value)} {st : List Value} {S : xS} {Q : Option Value → xS → Prop} {x : Int32} (hdg : decode (x_mB m) pc = .ok (.ifCond .lt off, 3)) (ht : (pc : Int) + off = (tgt : Int)) (kt : x < 0 → x_R E d m tgt lv st S Q) (kf : ¬ x < 0 → x_R E d m (pc + 3) lv st S Q) : x_R E d m pc lv (.int x :: st) S Q := by
  by_cases hc : x < 0
  · exact x_R.step (fun _ _ h => xb_if_lt_t hdg ht hc h) (kt hc)
  · exact x_R.step (fun _ _ h => xb_if_lt_f hdg ht hc h) (kf hc)
theorem xr_ic_lt {E : Nat × (Nat → Int32)} {d m pc tgt : Nat} {off : Int} {lv : List (Nat × Value)} {st : List Value} {S : xS} {Q : Option Value → xS → Prop} {x y : Int32} (hdg : decode (x_mB m) pc = .ok (.if_icmp .lt off, 3)) (ht : (pc : Int) + off = (tgt : Int)) (kt : x < y → x_R E d m tgt lv st S Q) (kf : ¬ x < y → x_R E d m (pc + 3) lv st S Q) : x_R E d m pc lv (.int y :: .int x :: st) S Q := by
  by_cases hc : x < y
  · exact x_R.step (fun _ _ h => xb_ic_lt_t hdg ht hc h) (kt hc)
  · exact x_R.step (fun _ _ h => xb_ic_lt_f hdg ht hc h) (kf hc)
theorem xr_if_ge {E : Nat × (Nat → Int32)} {d m pc tgt : Nat} {off : Int} {lv : List (Nat × Value)} {st : List Value} {S : xS} {Q : Option Value → xS → Prop} {x : Int32} (hdg : decode (x_mB m) pc = .ok (.ifCond .ge off, 3)) (ht : (pc : Int) + off = (tgt : Int)) (kt : 0 ≤ x → x_R E d m tgt lv st S Q) (kf : ¬ 0 ≤ x → x_R E d m (pc + 3) lv st S Q) : x_R E d m pc lv (.int x :: st) S Q := by
  by_cases hc : 0 ≤ x
  · exact x_R.step (fun _ _ h => xb_if_ge_t hdg ht hc h) (kt hc)
  · exact x_R.step (fun _ _ h => xb_if_ge_f hdg ht hc h) (kf hc)
theorem xr_ic_ge {E : Nat × (Nat → Int32)} {d m pc tgt : Nat} {off : Int} {lv : List (Nat × Value)} {st : List Value} {S : xS} {Q : Option Value → xS → Prop} {x y : Int32} (hdg : decode (x_mB m) pc = .ok (.if_icmp .ge off, 3)) (ht : (pc : Int) + off = (tgt : Int)) (kt : y ≤ x → x_R E d m tgt lv st S Q) (kf : ¬ y ≤ x → x_R E d m (pc + 3) lv st S Q) : x_R E d m pc lv (.int y :: .int x :: st) S Q := by
  by_cases hc : y ≤ x
  · exact x_R.step (fun _ _ h => xb_ic_ge_t hdg ht hc h) (kt hc)
  · exact x_R.step (fun _ _ h => xb_ic_ge_f hdg ht hc h) (kf hc)
theorem xr_if_gt {E : Nat × (Nat → Int32)} {d m pc tgt : Nat} {off : Int} {lv : List (Nat × Value)} {st : List Value} {S : xS} {Q : Option Value → xS → Prop} {x : Int32} (hdg : decode (x_mB m) pc = .ok (.ifCond .gt off, 3)) (ht : (pc : Int) + off = (tgt : Int)) (kt : 0 < x → x_R E d m tgt lv st S Q) (kf : ¬ 0 < x → x_R E d m (pc + 3) lv st S Q) : x_R E d m pc lv (.int x :: st) S Q := by
  by_cases hc : 0 < x
  · exact x_R.step (fun _ _ h => xb_if_gt_t hdg ht hc h) (kt hc)
  · exact x_R.step (fun _ _ h => xb_if_gt_f hdg ht hc h) (kf hc)
theorem xr_ic_gt {E : Nat × (Nat → Int32)} {d m pc tgt : Nat} {off : Int} {lv : List (Nat × Value)} {st : List Value} {S : xS} {Q : Option Value → xS → Prop} {x y : Int32} (hdg : decode (x_mB m) pc = .ok (.if_icmp .gt off, 3)) (ht : (pc : Int) + off = (tgt : Int)) (kt : y < x → x_R E d m tgt lv st S Q) (kf : ¬ y < x → x_R E d m (pc + 3) lv st S Q) : x_R E d m pc lv (.int y :: .int x :: st) S Q := by
  by_cases hc : y < x
  · exact x_R.step (fun _ _ h => xb_ic_gt_t hdg ht hc h) (kt hc)
  · exact x_R.step (fun _ _ h => xb_ic_gt_f hdg ht hc h) (kf hc)
theorem xr_if_le {E : Nat × (Nat → Int32)} {d m pc tgt : Nat} {off : Int} {lv : List (Nat × Value)} {st : List Value} {S : xS} {Q : Option Value → xS → Prop} {x : Int32} (hdg : decode (x_mB m) pc = .ok (.ifCond .le off, 3)) (ht : (pc : Int) + off = (tgt : Int)) (kt : x ≤ 0 → x_R E d m tgt lv st S Q) (kf : ¬ x ≤ 0 → x_R E d m (pc + 3) lv st S Q) : x_R E d m pc lv (.int x :: st) S Q := by
  by_cases hc : x ≤ 0
  · exact x_R.step (fun _ _ h => xb_if_le_t hdg ht hc h) (kt hc)
  · exact x_R.step (fun _ _ h => xb_if_le_f hdg ht hc h) (kf hc)
theorem xr_ic_le {E : Nat × (Nat → Int32)} {d m pc tgt : Nat} {off : Int} {lv : List (Nat × Value)} {st : List Value} {S : xS} {Q : Option Value → xS → Prop} {x y : Int32} (hdg : decode (x_mB m) pc = .ok (.if_icmp .le off, 3)) (ht : (pc : Int) + off = (tgt : Int)) (kt : x ≤ y → x_R E d m tgt lv st S Q) (kf : ¬ x ≤ y → x_R E d m (pc + 3) lv st S Q) : x_R E d m pc lv (.int y :: .int x :: st) S Q := by
  by_cases hc : x ≤ y
  · exact x_R.step (fun _ _ h => xb_ic_le_t hdg ht hc h) (kt hc)
  · exact x_R.step (fun _ _ h => xb_ic_le_f hdg ht hc h) (kf hc)
/-! straight code -/
abbrev xe : Type := Instr × Value × Nat × Nat
abbrev xR : Type := List (Int32 × Nat) × List (Nat × Value) × List Value × xS
def x_ln : Instr → Nat
  | .bipush _ => 2
  | .sipush _ => 3
  | .ldc _ => 2
  | .ldc_w _ => 3
  | .ldc2_w _ => 3
  | .iload _ => 2
  | .lload _ => 2
  | .aload _ => 2
  | .istore _ => 2
  | .lstore _ => 2
  | .astore _ => 2
  | .iinc _ _ => 3
  | .getfield _ => 3
  | .putfield _ => 3
  | .new _ => 3
  | .newarray _ => 2
  | _ => 1
def x_b2 (f : Int32 → Int32 → Int32) (lv : List (Nat × Value)) (st : List Value) (S : xS) : Option xR := match st with
  | .int y :: .int x :: t => some ([], lv, .int (f x y) :: t, S)
  | _ => none
def x_l2 (f : Int64 → Int64 → Int64) (lv : List (Nat × Value)) (st : List Value) (S : xS) : Option xR := match st with
  | .long y :: .long x :: t => some ([], lv, .long (f x y) :: t, S)
  | _ => none
def x_li (f : Int64 → Int32 → Int64) (lv : List (Nat × Value)) (st : List Value) (S : xS) : Option xR := match st with
  | .int y :: .long x :: t => some ([], lv, .long (f x y) :: t, S)
  | _ => none
def x_lc (lv : List (Nat × Value)) (st : List Value) (S : xS) : Option xR := match st with
  | .long y :: .long x :: t => some ([], lv, .int (lg_cmp x y) :: t, S)
  | _ => none
def x_il (lv : List (Nat × Value)) (st : List Value) (S : xS) : Option xR := match st with
  | .int x :: t => some ([], lv, .long x.toInt64 :: t, S)
  | _ => none
def x_dI (lv : List (Nat × Value)) (n : Nat) (st : List Value) (S : xS) : Option xR := match x_lk lv n with
  | some (.int x) => some ([], lv, .int x :: st, S)
  | _ => none
def x_dL (lv : List (Nat × Value)) (n : Nat) (st : List Value) (S : xS) : Option xR := match x_lk lv n with
  | some (.long x) => some ([], lv, .long x :: st, S)
  | _ => none
def x_dR (lv : List (Nat × Value)) (n : Nat) (st : List Value) (S : xS) : Option xR := match x_lk lv n with
  | some (.ref x) => some ([], lv, .ref x :: st, S)
  | _ => none
def x_tI (lv : List (Nat × Value)) (n : Nat) (st : List Value) (S : xS) : Option xR := match st with
  | .int x :: t => some ([], x_s1 lv n (.int x), t, S)
  | _ => none
def x_tL (lv : List (Nat × Value)) (n : Nat) (st : List Value) (S : xS) : Option xR := match st with
  | .long x :: t => some ([], x_s2 lv n (.long x), t, S)
  | _ => none
def x_tR (lv : List (Nat × Value)) (n : Nat) (st : List Value) (S : xS) : Option xR := match st with
  | .ref x :: t => some ([], x_s1 lv n (.ref x), t, S)
  | _ => none
def x_inc (lv : List (Nat × Value)) (n : Nat) (e : Value) (st : List Value) (S : xS) : Option xR := match x_lk lv n, e with
  | some (.int x), .int v => some ([], x_s1 lv n (.int (x + v)), st, S)
  | _, _ => none
def x_dup (lv : List (Nat × Value)) (st : List Value) (S : xS) : Option xR := match st with
  | v :: t => if v.category = 1 then some ([], lv, v :: v :: t, S) else none
  | _ => none
def x_pop (lv : List (Nat × Value)) (st : List Value) (S : xS) : Option xR := match st with
  | v :: t => if v.category = 1 then some ([], lv, t, S) else none
  | _ => none
def x_dup2 (lv : List (Nat × Value)) (st : List Value) (S : xS) : Option xR := match st with
  | v :: w :: t => if v.category = 1 then (if w.category = 1 then some ([], lv, v :: w :: v :: w :: t, S) else none) else none
  | _ => none
def x_gf (a b : Nat) (lv : List (Nat × Value)) (st : List Value) (S : xS) : Option xR := match st with
  | .ref j :: t => if x_K S j = a then (match x_fr S j a b with | some v => some ([], lv, v :: t, S) | none => none) else none
  | _ => none
def x_pf (a b : Nat) (lv : List (Nat × Value)) (st : List Value) (S : xS) : Option xR := match st with
  | .int x :: .ref j :: t => if x_K S j = a then (if x_tc a b = 0 then some ([], lv, t, x_pI S j b x) else if x_tc a b = 3 then some ([(x, 2)], lv, t, x_pI S j b x) else none) else none
  | .long x :: .ref j :: t => if x_K S j = a then (if x_tc a b = 1 then some ([], lv, t, x_pL S j b x) else none) else none
  | .ref x :: .ref j :: t => if x_K S j = a then (if x_tc a b = 2 then some ([], lv, t, x_pP S j b x) else none) else none
  | _ => none
def x_al (E : Nat × (Nat → Int32)) (lv : List (Nat × Value)) (st : List Value) (S : xS) : Option xR := match st with
  | .int i :: .ref j :: t => if x_K S j = 100 then some ([(i, x_N S j)], lv, .int (x_A S j i.toNatClampNeg) :: t, S) else if j = x_ext0 then some ([(i, E.1)], lv, .int (E.2 i.toNatClampNeg) :: t, S) else none
  | _ => none
def x_zl (lv : List (Nat × Value)) (st : List Value) (S : xS) : Option xR := match st with
  | .int i :: .ref j :: t => if x_K S j = 101 then some ([(i, x_N S j)], lv, .int (x_A S j i.toNatClampNeg) :: t, S) else none
  | _ => none
def x_ll (lv : List (Nat × Value)) (st : List Value) (S : xS) : Option xR := match st with
  | .int i :: .ref j :: t => if x_K S j = 102 then some ([(i, x_N S j)], lv, .long (x_B S j i.toNatClampNeg) :: t, S) else none
  | _ => none
def x_as (lv : List (Nat × Value)) (st : List Value) (S : xS) : Option xR := match st with
  | .int x :: .int i :: .ref j :: t => if x_K S j = 100 then some ([(i, x_N S j)], lv, t, x_pA S j (upd (x_A S j) i.toNatClampNeg x)) else none
  | _ => none
def x_zs (lv : List (Nat × Value)) (st : List Value) (S : xS) : Option xR := match st with
  | .int x :: .int i :: .ref j :: t => if x_K S j = 101 then some ([(i, x_N S j), (x, 2)], lv, t, x_pA S j (upd (x_A S j) i.toNatClampNeg x)) else none
  | _ => none
def x_lls (lv : List (Nat × Value)) (st : List Value) (S : xS) : Option xR := match st with
  | .long x :: .int i :: .ref j :: t => if x_K S j = 102 then some ([(i, x_N S j)], lv, t, x_pB S j (vp_updL (x_B S j) i.toNatClampNeg x)) else none
  | _ => none
def x_len (E : Nat × (Nat → Int32)) (lv : List (Nat × Value)) (st : List Value) (S : xS) : Option xR := match st with
  | .ref j :: t => if x_K S j = 100 ∨ x_K S j = 101 ∨ x_K S j = 102 then some ([], lv, .int (Int32.ofNat (x_N S j)) :: t, S) else if j = x_ext0 then some ([], lv, .int (Int32.ofNat E.1) :: t, S) else none
  | _ => none
def x_mkN (a : Nat) (lv : List (Nat × Value)) (st : List Value) (S : xS) : Option xR := if x_n S < x_ext0 then some ([], lv, .ref (x_n S) :: st, x_new S a) else none
def x_mkA (a b : Nat) (lv : List (Nat × Value)) (st : List Value) (S : xS) : Option xR := match st with
  | .int n :: t => if x_n S < x_ext0 ∧ (¬ n < 0) ∧ n.toNatClampNeg = b ∧ b * 8 ≤ 536870912 ∧ (a = 100 ∨ a = 101 ∨ a = 102) then some ([], lv, .ref (x_n S) :: t, x_newA S a b) else none
  | _ => none
def x_ex (E : Nat × (Nat → Int32)) (i : xe) (lv : List (Nat × Value)) (st : List Value) (S : xS) : Option xR := match i.1 with
  | .iconst _ => some ([], lv, i.2.1 :: st, S)
  | .bipush _ => some ([], lv, i.2.1 :: st, S)
  | .sipush _ => some ([], lv, i.2.1 :: st, S)
  | .lconst _ => some ([], lv, i.2.1 :: st, S)
  | .ldc _ => some ([], lv, i.2.1 :: st, S)
  | .ldc_w _ => some ([], lv, i.2.1 :: st, S)
  | .ldc2_w _ => some ([], lv, i.2.1 :: st, S)
  | .iload n => x_dI lv n st S
  | .iload_n n => x_dI lv n st S
  | .lload n => x_dL lv n st S
  | .lload_n n => x_dL lv n st S
  | .aload n => x_dR lv n st S
  | .aload_n n => x_dR lv n st S
  | .istore n => x_tI lv n st S
  | .istore_n n => x_tI lv n st S
  | .lstore n => x_tL lv n st S
  | .lstore_n n => x_tL lv n st S
  | .astore n => x_tR lv n st S
  | .astore_n n => x_tR lv n st S
  | .iinc n _ => x_inc lv n i.2.1 st S
  | .dup => x_dup lv st S
  | .pop => x_pop lv st S
  | .dup2 => x_dup2 lv st S
  | .iadd => x_b2 (fun x y => x + y) lv st S
  | .isub => x_b2 (fun x y => x - y) lv st S
  | .imul => x_b2 (fun x y => x * y) lv st S
  | .iand => x_b2 (fun x y => x &&& y) lv st S
  | .ior => x_b2 (fun x y => x ||| y) lv st S
  | .ixor => x_b2 (fun x y => x ^^^ y) lv st S
  | .ishl => x_b2 (fun x y => x <<< (y &&& 31)) lv st S
  | .ishr => x_b2 (fun x y => x >>> (y &&& 31)) lv st S
  | .iushr => x_b2 (fun x y => (x.toUInt32 >>> (y.toUInt32 &&& Int32.toUInt32 31)).toInt32) lv st S
  | .ladd => x_l2 (fun x y => x + y) lv st S
  | .lsub => x_l2 (fun x y => x - y) lv st S
  | .lmul => x_l2 (fun x y => x * y) lv st S
  | .land => x_l2 (fun x y => x &&& y) lv st S
  | .lor => x_l2 (fun x y => x ||| y) lv st S
  | .lushr => x_li (fun x y => (x.toUInt64 >>> (y.toInt64.toUInt64 &&& Int64.toUInt64 63)).toInt64) lv st S
  | .lshl => x_li (fun x y => x <<< (y.toInt64 &&& 63)) lv st S
  | .i2l => x_il lv st S
  | .lcmp => x_lc lv st S
  | .getfield _ => x_gf i.2.2.1 i.2.2.2 lv st S
  | .putfield _ => x_pf i.2.2.1 i.2.2.2 lv st S
  | .iaload => x_al E lv st S
  | .baload => x_zl lv st S
  | .laload => x_ll lv st S
  | .iastore => x_as lv st S
  | .bastore => x_zs lv st S
  | .lastore => x_lls lv st S
  | .arraylength => x_len E lv st S
  | .new _ => x_mkN i.2.2.1 lv st S
  | .newarray _ => x_mkA i.2.2.1 i.2.2.2 lv st S
  | _ => none
def x_chk (m pc : Nat) (i : xe) : Bool := decide (decode (x_mB m) pc = .ok (i.1, x_ln i.1)) && (match i.1 with
  | .iconst n => decide (i.2.1 = .int (Int32.ofInt n))
  | .bipush n => decide (i.2.1 = .int (Int8.ofInt n).toInt32)
  | .sipush n => decide (i.2.1 = .int (Int16.ofInt n).toInt32)
  | .lconst n => decide (i.2.1 = .long (Int64.ofNat (n : Nat)))
  | .ldc k => (match x_kc (x_mo m) k, i.2.1 with | some e, .int _ => decide (e.2.1 = i.2.1 ∧ x_mo m < 20) | _, _ => false)
  | .ldc_w k => (match x_kc (x_mo m) k, i.2.1 with | some e, .int _ => decide (e.2.1 = i.2.1 ∧ x_mo m < 20) | _, _ => false)
  | .ldc2_w k => (match x_kc (x_mo m) k, i.2.1 with | some e, .long _ => decide (e.2.1 = i.2.1 ∧ x_mo m < 20) | _, _ => false)
  | .istore n => decide (n < x_mL m)
  | .istore_n n => decide ((n : Nat) < x_mL m)
  | .astore n => decide (n < x_mL m)
  | .astore_n n => decide ((n : Nat) < x_mL m)
  | .lstore n => decide (n + 1 < x_mL m)
  | .lstore_n n => decide ((n : Nat) + 1 < x_mL m)
  | .iinc n k => decide (n < x_mL m) && decide (i.2.1 = .int (Int32.ofInt k))
  | .getfield k => (match x_fl (x_mo m) k with | some e => decide (e.2.1 = i.2.2.1 ∧ e.2.2.1 = i.2.2.2 ∧ x_mo m < 20) | none => false)
  | .putfield k => (match x_fl (x_mo m) k with | some e => decide (e.2.1 = i.2.2.1 ∧ e.2.2.1 = i.2.2.2 ∧ x_mo m < 20) | none => false) && (decide (((x_C i.2.2.1).2.1 i.2.2.2).2.2.2 = false) || decide ((x_mY m).name = "<init>" ∧ ((x_C i.2.2.1).2.1 i.2.2.2).1 = x_o (x_mo m)))
  | .new k => (match x_nw (x_mo m) k with | some e => decide (e.2.1 = i.2.2.1 ∧ x_mo m < 20) | none => false)
  | .newarray t => decide (t = (x_at0 i.2.2.1).1)
  | _ => true)
def x_chks (m : Nat) : Nat → List xe → Nat → Bool
  | pc, [], e => pc == e
  | pc, i :: t, e => x_chk m pc i && x_chks m (pc + x_ln i.1) t e
def x_exs (E : Nat × (Nat → Int32)) : List xe → List (Nat × Value) → List Value → xS → Option xR
  | [], lv, st, S => some ([], lv, st, S)
  | i :: t, lv, st, S => match x_ex E i lv st S with
    | none => none
    | some (b, lv1, st1, S1) => match x_exs E t lv1 st1 S1 with
      | none => none
      | some (b2, lv2, st2, S2) => some (b ++ b2, lv2, st2, S2)
def x_bds : List (Int32 × Nat) → Prop
  | [] => True
  | q :: t => vp_in q.1 q.2 ∧ x_bds t
theorem x_bds_app : ∀ {a b : List (Int32 × Nat)}, x_bds (a ++ b) → x_bds a ∧ x_bds b
  | [], _, h => ⟨trivial, h⟩
  | _ :: _, _, h => ⟨⟨h.1, (x_bds_app h.2).1⟩, (x_bds_app h.2).2⟩
end
section
theorem x_b2_inv {f : Int32 → Int32 → Int32} {lv : List (Nat × Value)} {st : List Value} {S : xS} {R : xR} (h : x_b2 f lv st S = some R) : ∃ y x t, st = .int y :: .int x :: t ∧ R = ([], lv, .int (f x y) :: t, S) := by
  unfold x_b2 at h
  split at h
  · exact ⟨_, _, _, rfl, (Option.some.inj h).symm⟩
  · cases h
theorem x_l2_inv {f : Int64 → Int64 → Int64} {lv : List (Nat × Value)} {st : List Value} {S : xS} {R : xR} (h : x_l2 f lv st S = some R) : ∃ y x t, st = .long y :: .long x :: t ∧ R = ([], lv, .long (f x y) :: t, S) := by
  unfold x_l2 at h
  split at h
  · exact ⟨_, _, _, rfl, (Option.some.inj h).symm⟩
  · cases h
theorem x_li_inv {f : Int64 → Int32 → Int64} {lv : List (Nat × Value)} {st : List Value} {S : xS} {R : xR} (h : x_li f lv st S = some R) : ∃ y x t, st = .int y :: .long x :: t ∧ R = ([], lv, .long (f x y) :: t, S) := by
  unfold x_li at h
  split at h
  · exact ⟨_, _, _, rfl, (Option.some.inj h).symm⟩
  · cases h
theorem x_lc_inv  {lv : List (Nat × Value)} {st : List Value} {S : xS} {R : xR} (h : x_lc lv st S = some R) : ∃ y x t, st = .long y :: .long x :: t ∧ R = ([], lv, .int (lg_cmp x y) :: t, S) := by
  unfold x_lc at h
  split at h
  · exact ⟨_, _, _, rfl, (Option.some.inj h).symm⟩
  · cases h
theorem x_il_inv  {lv : List (Nat × Value)} {st : List Value} {S : xS} {R : xR} (h : x_il lv st S = some R) : ∃ x t, st = .int x :: t ∧ R = ([], lv, .long x.toInt64 :: t, S) := by
  unfold x_il at h
  split at h
  · exact ⟨_, _, rfl, (Option.some.inj h).symm⟩
  · cases h
theorem x_dI_inv {n : Nat} {lv : List (Nat × Value)} {st : List Value} {S : xS} {R : xR} (h : x_dI lv n st S = some R) : ∃ x, x_lk lv n = some (.int x) ∧ R = ([], lv, .int x :: st, S) := by
  unfold x_dI at h
  split at h
  · rename_i x hx
    exact ⟨x, hx, (Option.some.inj h).symm⟩
  · cases h
theorem x_dL_inv {n : Nat} {lv : List (Nat × Value)} {st : List Value} {S : xS} {R : xR} (h : x_dL lv n st S = some R) : ∃ x, x_lk lv n = some (.long x) ∧ R = ([], lv, .long x :: st, S) := by
  unfold x_dL at h
  split at h
  · rename_i x hx
    exact ⟨x, hx, (Option.some.inj h).symm⟩
  · cases h
theorem x_dR_inv {n : Nat} {lv : List (Nat × Value)} {st : List Value} {S : xS} {R : xR} (h : x_dR lv n st S = some R) : ∃ x, x_lk lv n = some (.ref x) ∧ R = ([], lv, .ref x :: st, S) := by
  unfold x_dR at h
  split at h
  · rename_i x hx
    exact ⟨x, hx, (Option.some.inj h).symm⟩
  · cases h
theorem x_tI_inv {n : Nat} {lv : List (Nat × Value)} {st : List Value} {S : xS} {R : xR} (h : x_tI lv n st S = some R) : ∃ x t, st = .int x :: t ∧ R = ([], x_s1 lv n (.int x), t, S) := by
  unfold x_tI at h
  split at h
  · exact ⟨_, _, rfl, (Option.some.inj h).symm⟩
  · cases h
theorem x_tL_inv {n : Nat} {lv : List (Nat × Value)} {st : List Value} {S : xS} {R : xR} (h : x_tL lv n st S = some R) : ∃ x t, st = .long x :: t ∧ R = ([], x_s2 lv n (.long x), t, S) := by
  unfold x_tL at h
  split at h
  · exact ⟨_, _, rfl, (Option.some.inj h).symm⟩
  · cases h
theorem x_tR_inv {n : Nat} {lv : List (Nat × Value)} {st : List Value} {S : xS} {R : xR} (h : x_tR lv n st S = some R) : ∃ x t, st = .ref x :: t ∧ R = ([], x_s1 lv n (.ref x), t, S) := by
  unfold x_tR at h
  split at h
  · exact ⟨_, _, rfl, (Option.some.inj h).symm⟩
  · cases h
theorem x_inc_inv {n : Nat} {e : Value} {lv : List (Nat × Value)} {st : List Value} {S : xS} {R : xR} (h : x_inc lv n e st S = some R) : ∃ x v, x_lk lv n = some (.int x) ∧ e = .int v ∧ R = ([], x_s1 lv n (.int (x + v)), st, S) := by
  unfold x_inc at h
  split at h
  · rename_i x v hx
    exact ⟨x, v, hx, rfl, (Option.some.inj h).symm⟩
  · cases h
theorem x_dup_inv  {lv : List (Nat × Value)} {st : List Value} {S : xS} {R : xR} (h : x_dup lv st S = some R) : ∃ v t, st = v :: t ∧ v.category = 1 ∧ R = ([], lv, v :: v :: t, S) := by
  unfold x_dup at h
  split at h
  · split at h
    · rename_i hv
      exact ⟨_, _, rfl, hv, (Option.some.inj h).symm⟩
    · cases h
  · cases h
theorem x_pop_inv  {lv : List (Nat × Value)} {st : List Value} {S : xS} {R : xR} (h : x_pop lv st S = some R) : ∃ v t, st = v :: t ∧ v.category = 1 ∧ R = ([], lv, t, S) := by
  unfold x_pop at h
  split at h
  · split at h
    · rename_i hv
      exact ⟨_, _, rfl, hv, (Option.some.inj h).symm⟩
    · cases h
  · cases h
theorem x_dup2_inv  {lv : List (Nat × Value)} {st : List Value} {S : xS} {R : xR} (h : x_dup2 lv st S = some R) : ∃ v w t, st = v :: w :: t ∧ v.category = 1 ∧ w.category = 1 ∧ R = ([], lv, v :: w :: v :: w :: t, S) := by
  unfold x_dup2 at h
  split at h
  · split at h
    · rename_i hv
      split at h
      · rename_i hw
        exact ⟨_, _, _, rfl, hv, hw, (Option.some.inj h).symm⟩
      · cases h
    · cases h
  · cases h
theorem x_gf_inv {a b : Nat} {lv : List (Nat × Value)} {st : List Value} {S : xS} {R : xR} (h : x_gf a b lv st S = some R) : ∃ j t v, st = .ref j :: t ∧ x_K S j = a ∧ x_fr S j a b = some v ∧ R = ([], lv, v :: t, S) := by
  unfold x_gf at h
  split at h
  · split at h
    · rename_i hk
      split at h
      · rename_i v hv
        exact ⟨_, _, v, rfl, hk, hv, (Option.some.inj h).symm⟩
      · cases h
    · cases h
  · cases h
theorem x_pf_inv {a b : Nat} {lv : List (Nat × Value)} {st : List Value} {S : xS} {R : xR} (h : x_pf a b lv st S = some R) : (∃ x j t, st = .int x :: .ref j :: t ∧ x_K S j = a ∧ x_tc a b = 0 ∧ R = ([], lv, t, x_pI S j b x)) ∨ (∃ x j t, st = .int x :: .ref j :: t ∧ x_K S j = a ∧ x_tc a b = 3 ∧ R = ([(x, 2)], lv, t, x_pI S j b x)) ∨ (∃ x j t, st = .long x :: .ref j :: t ∧ x_K S j = a ∧ x_tc a b = 1 ∧ R = ([], lv, t, x_pL S j b x)) ∨ (∃ x j t, st = .ref x :: .ref j :: t ∧ x_K S j = a ∧ x_tc a b = 2 ∧ R = ([], lv, t, x_pP S j b x)) := by
  unfold x_pf at h
  split at h
  · split at h
    · rename_i hk
      split at h
      · rename_i h0
        exact Or.inl ⟨_, _, _, rfl, hk, h0, (Option.some.inj h).symm⟩
      · split at h
        · rename_i h3
          exact Or.inr (Or.inl ⟨_, _, _, rfl, hk, h3, (Option.some.inj h).symm⟩)
        · cases h
    · cases h
  · split at h
    · rename_i hk
      split at h
      · rename_i h0
        exact Or.inr (Or.inr (Or.inl ⟨_, _, _, rfl, hk, h0, (Option.some.inj h).symm⟩))
      · cases h
    · cases h
  · split at h
    · rename_i hk
      split at h
      · rename_i h0
        exact Or.inr (Or.inr (Or.inr ⟨_, _, _, rfl, hk, h0, (Option.some.inj h).symm⟩))
      · cases h
    · cases h
  · cases h
theorem x_al_inv {E : Nat × (Nat → Int32)} {lv : List (Nat × Value)} {st : List Value} {S : xS} {R : xR} (h : x_al E lv st S = some R) : ∃ i j t, st = .int i :: .ref j :: t ∧ ((x_K S j = 100 ∧ R = ([(i, x_N S j)], lv, .int (x_A S j i.toNatClampNeg) :: t, S)) ∨ (j = x_ext0 ∧ R = ([(i, E.1)], lv, .int (E.2 i.toNatClampNeg) :: t, S))) := by
  unfold x_al at h
  split at h
  · split at h
    · rename_i hk
      exact ⟨_, _, _, rfl, Or.inl ⟨hk, (Option.some.inj h).symm⟩⟩
    · split at h
      · rename_i hk
        exact ⟨_, _, _, rfl, Or.inr ⟨hk, (Option.some.inj h).symm⟩⟩
      · cases h
  · cases h
theorem x_zl_inv  {lv : List (Nat × Value)} {st : List Value} {S : xS} {R : xR} (h : x_zl lv st S = some R) : ∃ i j t, st = .int i :: .ref j :: t ∧ x_K S j = 101 ∧ R = ([(i, x_N S j)], lv, .int (x_A S j i.toNatClampNeg) :: t, S) := by
  unfold x_zl at h
  split at h
  · split at h
    · rename_i hk
      exact ⟨_, _, _, rfl, hk, (Option.some.inj h).symm⟩
    · cases h
  · cases h
theorem x_ll_inv  {lv : List (Nat × Value)} {st : List Value} {S : xS} {R : xR} (h : x_ll lv st S = some R) : ∃ i j t, st = .int i :: .ref j :: t ∧ x_K S j = 102 ∧ R = ([(i, x_N S j)], lv, .long (x_B S j i.toNatClampNeg) :: t, S) := by
  unfold x_ll at h
  split at h
  · split at h
    · rename_i hk
      exact ⟨_, _, _, rfl, hk, (Option.some.inj h).symm⟩
    · cases h
  · cases h
theorem x_as_inv  {lv : List (Nat × Value)} {st : List Value} {S : xS} {R : xR} (h : x_as lv st S = some R) : ∃ x i j t, st = .int x :: .int i :: .ref j :: t ∧ x_K S j = 100 ∧ R = ([(i, x_N S j)], lv, t, x_pA S j (upd (x_A S j) i.toNatClampNeg x)) := by
  unfold x_as at h
  split at h
  · split at h
    · rename_i hk
      exact ⟨_, _, _, _, rfl, hk, (Option.some.inj h).symm⟩
    · cases h
  · cases h
theorem x_zs_inv  {lv : List (Nat × Value)} {st : List Value} {S : xS} {R : xR} (h : x_zs lv st S = some R) : ∃ x i j t, st = .int x :: .int i :: .ref j :: t ∧ x_K S j = 101 ∧ R = ([(i, x_N S j), (x, 2)], lv, t, x_pA S j (upd (x_A S j) i.toNatClampNeg x)) := by
  unfold x_zs at h
  split at h
  · split at h
    · rename_i hk
      exact ⟨_, _, _, _, rfl, hk, (Option.some.inj h).symm⟩
    · cases h
  · cases h
theorem x_lls_inv  {lv : List (Nat × Value)} {st : List Value} {S : xS} {R : xR} (h : x_lls lv st S = some R) : ∃ x i j t, st = .long x :: .int i :: .ref j :: t ∧ x_K S j = 102 ∧ R = ([(i, x_N S j)], lv, t, x_pB S j (vp_updL (x_B S j) i.toNatClampNeg x)) := by
  unfold x_lls at h
  split at h
  · split at h
    · rename_i hk
      exact ⟨_, _, _, _, rfl, hk, (Option.some.inj h).symm⟩
    · cases h
  · cases h
theorem x_len_inv {E : Nat × (Nat → Int32)} {lv : List (Nat × Value)} {st : List Value} {S : xS} {R : xR} (h : x_len E lv st S = some R) : ∃ j t, st = .ref j :: t ∧ (((x_K S j = 100 ∨ x_K S j = 101 ∨ x_K S j = 102) ∧ R = ([], lv, .int (Int32.ofNat (x_N S j)) :: t, S)) ∨ (j = x_ext0 ∧ R = ([], lv, .int (Int32.ofNat E.1) :: t, S))) := by
  unfold x_len at h
  split at h
  · split at h
    · rename_i hk
      exact ⟨_, _, rfl, Or.inl ⟨hk, (Option.some.inj h).symm⟩⟩
    · split at h
      · rename_i hk
        exact ⟨_, _, rfl, Or.inr ⟨hk, (Option.some.inj h).symm⟩⟩
      · cases h
  · cases h
theorem x_mkN_inv {a : Nat} {lv : List (Nat × Value)} {st : List Value} {S : xS} {R : xR} (h : x_mkN a lv st S = some R) : x_n S < x_ext0 ∧ R = ([], lv, .ref (x_n S) :: st, x_new S a) := by
  unfold x_mkN at h
  split at h
  · rename_i hk
    exact ⟨hk, (Option.some.inj h).symm⟩
  · cases h
theorem x_mkA_inv {a b : Nat} {lv : List (Nat × Value)} {st : List Value} {S : xS} {R : xR} (h : x_mkA a b lv st S = some R) : ∃ n t, st = .int n :: t ∧ (x_n S < x_ext0 ∧ (¬ n < 0) ∧ n.toNatClampNeg = b ∧ b * 8 ≤ 536870912 ∧ (a = 100 ∨ a = 101 ∨ a = 102)) ∧ R = ([], lv, .ref (x_n S) :: t, x_newA S a b) := by
  unfold x_mkA at h
  split at h
  · split at h
    · rename_i hk
      exact ⟨_, _, rfl, hk, (Option.some.inj h).symm⟩
    · cases h
  · cases h
theorem x_kc_ok {o idx : Nat} {e : Nat × Value × Nat} (h : x_kc o idx = some e) (ho : o < 20) : (∀ v, e.2.1 = .int v → Cond.constant (x_o o) idx v ∈ x_tbl) ∧ (∀ v, e.2.1 = .long v → Cond.constantLong (x_o o) idx v ∈ x_tbl) := by
  have h1 := List.mem_of_find?_eq_some h
  have h2 : e.1 = idx := by simpa using List.find?_some h
  have h3 := x_at_mem (List.all_eq_true.mp (List.all_eq_true.mp x_koks o (List.mem_range.mpr ho)) e h1)
  refine ⟨fun v hv => ?_, fun v hv => ?_⟩
  · unfold x_kcc at h3
    rw [hv, h2] at h3
    exact h3
  · unfold x_kcc at h3
    rw [hv, h2] at h3
    exact h3
theorem x_kc_int {o k : Nat} {v : Value} (hc : (match x_kc o k, v with | some e, .int _ => decide (e.2.1 = v ∧ o < 20) | _, _ => false) = true) : ∃ (e : Nat × Value × Nat) (w : Int32), x_kc o k = some e ∧ v = .int w ∧ e.2.1 = .int w ∧ o < 20 := by
  split at hc
  · rename_i e w he
    have hc := of_decide_eq_true hc
    exact ⟨e, w, he, rfl, hc.1, hc.2⟩
  · cases hc
theorem x_kc_long {o k : Nat} {v : Value} (hc : (match x_kc o k, v with | some e, .long _ => decide (e.2.1 = v ∧ o < 20) | _, _ => false) = true) : ∃ (e : Nat × Value × Nat) (w : Int64), x_kc o k = some e ∧ v = .long w ∧ e.2.1 = .long w ∧ o < 20 := by
  split at hc
  · rename_i e w he
    have hc := of_decide_eq_true hc
    exact ⟨e, w, he, rfl, hc.1, hc.2⟩
  · cases hc
set_option maxHeartbeats 4000000 in
theorem x_ex_ok {E : Nat × (Nat → Int32)} {d m pc : Nat} {i : xe} {lv : List (Nat × Value)} {st : List Value} {S S' : xS} {R : xR} {r : Option Value} (hc : x_chk m pc i = true) (hx : x_ex E i lv st S = some R) (hb : x_bds R.1) (h : x_Rw E d m (pc + x_ln i.1) R.2.1 R.2.2.1 R.2.2.2 r S') : x_Rw E d m pc lv st S r S' := by
  obtain ⟨ins, v, a, b⟩ := i
  unfold x_chk at hc
  obtain ⟨hdg, hc⟩ := (Bool.and_eq_true _ _).mp hc
  replace hdg := of_decide_eq_true hdg
  cases ins with
  | iconst n =>
    cases (Option.some.inj hx)
    have hc : v = _ := of_decide_eq_true hc
    subst hc
    exact xi_iconst hdg rfl h
  | bipush n =>
    cases (Option.some.inj hx)
    have hc : v = _ := of_decide_eq_true hc
    subst hc
    exact xi_bipush hdg rfl h
  | sipush n =>
    cases (Option.some.inj hx)
    have hc : v = _ := of_decide_eq_true hc
    subst hc
    exact xi_sipush hdg rfl h
  | lconst n =>
    cases (Option.some.inj hx)
    have hc : v = _ := of_decide_eq_true hc
    subst hc
    exact xi_lconst hdg rfl h
  | ldc k =>
    obtain ⟨e, w, he, hv, h1, h2⟩ := x_kc_int hc
    dsimp only at hv
    subst hv
    cases (Option.some.inj hx)
    exact xi_ldc hdg ((x_kc_ok he h2).1 _ h1) h
  | ldc_w k =>
    obtain ⟨e, w, he, hv, h1, h2⟩ := x_kc_int hc
    dsimp only at hv
    subst hv
    cases (Option.some.inj hx)
    exact xi_ldcw hdg ((x_kc_ok he h2).1 _ h1) h
  | ldc2_w k =>
    obtain ⟨e, w, he, hv, h1, h2⟩ := x_kc_long hc
    dsimp only at hv
    subst hv
    cases (Option.some.inj hx)
    exact xi_ldc2 hdg ((x_kc_ok he h2).2 _ h1) h
  | iload n =>
    obtain ⟨x, hk, rfl⟩ := x_dI_inv (show x_dI lv n st S = some R from hx)
    exact xi_iload hdg hk h
  | iload_n n =>
    obtain ⟨x, hk, rfl⟩ := x_dI_inv (show x_dI lv n st S = some R from hx)
    exact xi_iload_n hdg hk h
  | lload n =>
    obtain ⟨x, hk, rfl⟩ := x_dL_inv (show x_dL lv n st S = some R from hx)
    exact xi_lload hdg hk h
  | lload_n n =>
    obtain ⟨x, hk, rfl⟩ := x_dL_inv (show x_dL lv n st S = some R from hx)
    exact xi_lload_n hdg hk h
  | aload n =>
    obtain ⟨x, hk, rfl⟩ := x_dR_inv (show x_dR lv n st S = some R from hx)
    exact xi_aload hdg hk h
  | aload_n n =>
    obtain ⟨x, hk, rfl⟩ := x_dR_inv (show x_dR lv n st S = some R from hx)
    exact xi_aload_n hdg hk h
  | istore n =>
    obtain ⟨x, t, rfl, rfl⟩ := x_tI_inv (show x_tI lv n st S = some R from hx)
    exact xi_istore hdg (of_decide_eq_true hc) h
  | istore_n n =>
    obtain ⟨x, t, rfl, rfl⟩ := x_tI_inv (show x_tI lv n st S = some R from hx)
    exact xi_istore_n hdg (of_decide_eq_true hc) h
  | lstore n =>
    obtain ⟨x, t, rfl, rfl⟩ := x_tL_inv (show x_tL lv n st S = some R from hx)
    exact xi_lstore hdg (of_decide_eq_true hc) h
  | lstore_n n =>
    obtain ⟨x, t, rfl, rfl⟩ := x_tL_inv (show x_tL lv n st S = some R from hx)
    exact xi_lstore_n hdg (of_decide_eq_true hc) h
  | astore n =>
    obtain ⟨x, t, rfl, rfl⟩ := x_tR_inv (show x_tR lv n st S = some R from hx)
    exact xi_astore hdg (of_decide_eq_true hc) h
  | astore_n n =>
    obtain ⟨x, t, rfl, rfl⟩ := x_tR_inv (show x_tR lv n st S = some R from hx)
    exact xi_astore_n hdg (of_decide_eq_true hc) h
  | iinc n k =>
    obtain ⟨x, w, hk, he, rfl⟩ := x_inc_inv (show x_inc lv n v st S = some R from hx)
    subst he
    obtain ⟨c1, c2⟩ := (Bool.and_eq_true _ _).mp hc
    have c2 : Value.int w = .int (Int32.ofInt k) := of_decide_eq_true c2
    exact xi_iinc hdg (of_decide_eq_true c1) hk (Value.int.inj c2).symm h
  | dup =>
    obtain ⟨w, t, rfl, hv, rfl⟩ := x_dup_inv (show x_dup lv st S = some R from hx)
    exact xi_dup hdg hv h
  | pop =>
    obtain ⟨w, t, rfl, hv, rfl⟩ := x_pop_inv (show x_pop lv st S = some R from hx)
    exact xi_pop hdg hv h
  | dup2 =>
    obtain ⟨w, u, t, rfl, hv, hw, rfl⟩ := x_dup2_inv (show x_dup2 lv st S = some R from hx)
    exact xi_dup2 hdg hv hw h
  | iadd =>
    obtain ⟨y, x, t, rfl, rfl⟩ := x_b2_inv (show x_b2 _ lv st S = some R from hx)
    exact xi_iadd hdg h
  | isub =>
    obtain ⟨y, x, t, rfl, rfl⟩ := x_b2_inv (show x_b2 _ lv st S = some R from hx)
    exact xi_isub hdg h
  | imul =>
    obtain ⟨y, x, t, rfl, rfl⟩ := x_b2_inv (show x_b2 _ lv st S = some R from hx)
    exact xi_imul hdg h
  | iand =>
    obtain ⟨y, x, t, rfl, rfl⟩ := x_b2_inv (show x_b2 _ lv st S = some R from hx)
    exact xi_iand hdg h
  | ior =>
    obtain ⟨y, x, t, rfl, rfl⟩ := x_b2_inv (show x_b2 _ lv st S = some R from hx)
    exact xi_ior hdg h
  | ixor =>
    obtain ⟨y, x, t, rfl, rfl⟩ := x_b2_inv (show x_b2 _ lv st S = some R from hx)
    exact xi_ixor hdg h
  | ishl =>
    obtain ⟨y, x, t, rfl, rfl⟩ := x_b2_inv (show x_b2 _ lv st S = some R from hx)
    exact xi_ishl hdg h
  | ishr =>
    obtain ⟨y, x, t, rfl, rfl⟩ := x_b2_inv (show x_b2 _ lv st S = some R from hx)
    exact xi_ishr hdg h
  | iushr =>
    obtain ⟨y, x, t, rfl, rfl⟩ := x_b2_inv (show x_b2 _ lv st S = some R from hx)
    exact xi_iushr hdg h
  | ladd =>
    obtain ⟨y, x, t, rfl, rfl⟩ := x_l2_inv (show x_l2 _ lv st S = some R from hx)
    exact xi_ladd hdg h
  | lsub =>
    obtain ⟨y, x, t, rfl, rfl⟩ := x_l2_inv (show x_l2 _ lv st S = some R from hx)
    exact xi_lsub hdg h
  | lmul =>
    obtain ⟨y, x, t, rfl, rfl⟩ := x_l2_inv (show x_l2 _ lv st S = some R from hx)
    exact xi_lmul hdg h
  | land =>
    obtain ⟨y, x, t, rfl, rfl⟩ := x_l2_inv (show x_l2 _ lv st S = some R from hx)
    exact xi_land hdg h
  | lor =>
    obtain ⟨y, x, t, rfl, rfl⟩ := x_l2_inv (show x_l2 _ lv st S = some R from hx)
    exact xi_lor hdg h
  | lushr =>
    obtain ⟨y, x, t, rfl, rfl⟩ := x_li_inv (show x_li _ lv st S = some R from hx)
    exact xi_lushr hdg h
  | lshl =>
    obtain ⟨y, x, t, rfl, rfl⟩ := x_li_inv (show x_li _ lv st S = some R from hx)
    exact xi_lshl hdg h
  | i2l =>
    obtain ⟨x, t, rfl, rfl⟩ := x_il_inv (show x_il lv st S = some R from hx)
    exact xi_i2l hdg h
  | lcmp =>
    obtain ⟨y, x, t, rfl, rfl⟩ := x_lc_inv (show x_lc lv st S = some R from hx)
    exact xi_lcmp hdg h
  | getfield k =>
    obtain ⟨j, t, w, rfl, hK, hv, rfl⟩ := x_gf_inv (show x_gf a b lv st S = some R from hx)
    have hc : (match x_fl (x_mo m) k with | some e => decide (e.2.1 = a ∧ e.2.2.1 = b ∧ x_mo m < 20) | none => false) = true := hc
    split at hc
    · rename_i e he
      obtain ⟨q1, q2, q3⟩ := of_decide_eq_true hc
      obtain ⟨e1, e2, e3, e4⟩ := e
      dsimp only at q1 q2
      subst q1
      subst q2
      exact xi_getf hdg he q3 hK hv h
    · cases hc
  | putfield k =>
    obtain ⟨hc, hf⟩ := (Bool.and_eq_true _ _).mp hc
    have hf : ((x_C a).2.1 b).2.2.2 = false ∨ ((x_mY m).name = "<init>" ∧ ((x_C a).2.1 b).1 = x_o (x_mo m)) := by
      rcases (Bool.or_eq_true _ _).mp hf with h1 | h1
      · exact Or.inl (of_decide_eq_true h1)
      · exact Or.inr (of_decide_eq_true h1)
    have hx := x_pf_inv (show x_pf a b lv st S = some R from hx)
    have hc : (match x_fl (x_mo m) k with | some e => decide (e.2.1 = a ∧ e.2.2.1 = b ∧ x_mo m < 20) | none => false) = true := hc
    split at hc
    · rename_i e he
      obtain ⟨q1, q2, q3⟩ := of_decide_eq_true hc
      obtain ⟨e1, e2, e3, e4⟩ := e
      dsimp only at q1 q2
      subst q1
      subst q2
      rcases hx with ⟨x, j, t, rfl, hK, ht, rfl⟩ | ⟨x, j, t, rfl, hK, ht, rfl⟩ | ⟨x, j, t, rfl, hK, ht, rfl⟩ | ⟨x, j, t, rfl, hK, ht, rfl⟩
      · exact xi_putI hdg he q3 hK hf (Or.inl ht) h
      · exact xi_putI hdg he q3 hK hf (Or.inr ⟨ht, hb.1⟩) h
      · exact xi_putL hdg he q3 hK hf ht h
      · exact xi_putR hdg he q3 hK hf ht h
    · cases hc
  | iaload =>
    obtain ⟨i, j, t, rfl, ⟨hK, rfl⟩ | ⟨rfl, rfl⟩⟩ := x_al_inv (show x_al E lv st S = some R from hx)
    · exact xi_iald hdg hK hb.1 h
    · exact xi_sld hdg hb.1 h
  | baload =>
    obtain ⟨i, j, t, rfl, hK, rfl⟩ := x_zl_inv (show x_zl lv st S = some R from hx)
    exact xi_zald hdg hK hb.1 h
  | laload =>
    obtain ⟨i, j, t, rfl, hK, rfl⟩ := x_ll_inv (show x_ll lv st S = some R from hx)
    exact xi_lald hdg hK hb.1 h
  | iastore =>
    obtain ⟨x, i, j, t, rfl, hK, rfl⟩ := x_as_inv (show x_as lv st S = some R from hx)
    exact xi_iast hdg hK hb.1 h
  | bastore =>
    obtain ⟨x, i, j, t, rfl, hK, rfl⟩ := x_zs_inv (show x_zs lv st S = some R from hx)
    exact xi_zast hdg hK hb.1 hb.2.1 h
  | lastore =>
    obtain ⟨x, i, j, t, rfl, hK, rfl⟩ := x_lls_inv (show x_lls lv st S = some R from hx)
    exact xi_last hdg hK hb.1 h
  | arraylength =>
    obtain ⟨j, t, rfl, ⟨hK, rfl⟩ | ⟨rfl, rfl⟩⟩ := x_len_inv (show x_len E lv st S = some R from hx)
    · exact xi_alen hdg hK h
    · exact xi_slen hdg h
  | new k =>
    obtain ⟨hn, rfl⟩ := x_mkN_inv (show x_mkN a lv st S = some R from hx)
    have hc : (match x_nw (x_mo m) k with | some e => decide (e.2.1 = a ∧ x_mo m < 20) | none => false) = true := hc
    split at hc
    · rename_i e he
      obtain ⟨q1, q3⟩ := of_decide_eq_true hc
      obtain ⟨e1, e2, e3⟩ := e
      dsimp only at q1
      subst q1
      exact xi_new hdg he q3 hn h
    · cases hc
  | newarray ty =>
    obtain ⟨n, t, rfl, ⟨hn, h0, hN, hb8, hkd⟩, rfl⟩ := x_mkA_inv (show x_mkA a b lv st S = some R from hx)
    have hc : ty = (x_at0 a).1 := of_decide_eq_true hc
    subst hc
    exact xi_newa hdg hkd hn h0 hN hb8 h
  | _ => exact absurd hx (by simp [x_ex])
theorem x_exs_ok {E : Nat × (Nat → Int32)} {d m : Nat} {r : Option Value} {S' : xS} : ∀ {is : List xe} {pc pc1 : Nat} {lv : List (Nat × Value)} {st : List Value} {S : xS} {R : xR}, x_chks m pc is pc1 = true → x_exs E is lv st S = some R → x_bds R.1 → x_Rw E d m pc1 R.2.1 R.2.2.1 R.2.2.2 r S' → x_Rw E d m pc lv st S r S'
  | [], pc, pc1, lv, st, S, R, hc, hx, _, h => by
    cases (Option.some.inj hx)
    have hc : pc = pc1 := by simpa [x_chks] using hc
    subst hc
    exact h
  | i :: t, pc, pc1, lv, st, S, R, hc, hx, hb, h => by
    unfold x_chks at hc
    obtain ⟨hc1, hc2⟩ := (Bool.and_eq_true _ _).mp hc
    unfold x_exs at hx
    split at hx
    · cases hx
    · rename_i b lv1 st1 S1 h1
      split at hx
      · cases hx
      · rename_i b2 lv2 st2 S2 h2
        cases (Option.some.inj hx)
        obtain ⟨hb1, hb2⟩ := x_bds_app hb
        exact x_ex_ok hc1 h1 hb1 (x_exs_ok hc2 h2 hb2 h)
/-- a block of straight code -/
theorem xr_blk {E : Nat × (Nat → Int32)} {d m pc pc1 : Nat} {lv lv1 : List (Nat × Value)} {st st1 : List Value} {S S1 : xS} {Q : Option Value → xS → Prop} (is : List xe) (bs : List (Int32 × Nat)) (hc : x_chks m pc is pc1 = true) (hx : x_exs E is lv st S = some (bs, lv1, st1, S1)) (hb : x_bds bs) (k : x_R E d m pc1 lv1 st1 S1 Q) : x_R E d m pc lv st S Q := x_R.step (fun _ _ h => x_exs_ok hc hx hb h) k
end
section
/-! The layout: 140 cells after the constructors. Reader (49): best 11, ways 12, picks 13 are made anew by startSearch. -/
def x_PT : List (List (Option Nat)) := [[some 1, some 3, some 11, some 17, some 21, some 25, some 38, some 49, some 60, some 67, some 74, some 79, none, none],
  [some 2, none],
  [],
  [some 4, some 5, some 6, some 7, some 8, some 9, some 10, none],
  [],
  [],
  [],
  [],
  [],
  [],
  [],
  [some 12, some 13, some 14, some 15, some 16, none, none, none],
  [],
  [],
  [],
  [],
  [],
  [some 1, some 18, some 19, some 20, none, none, none, none, none],
  [],
  [],
  [],
  [some 22, some 23, some 24, none, none],
  [],
  [],
  [],
  [some 26, some 27, some 28, some 29, some 30, some 31, some 32, some 33, some 34, some 35, some 36, some 37, none, none, none],
  [],
  [],
  [],
  [],
  [],
  [],
  [],
  [],
  [],
  [],
  [],
  [],
  [some 39, some 40, some 41, some 42, some 43, some 44, some 45, some 46, some 47, some 48],
  [],
  [],
  [],
  [],
  [],
  [],
  [],
  [],
  [],
  [],
  [some 3, some 21, some 25, some 38, some 50, some 51, some 52, some 53, some 54, some 55, some 56, some 57, some 58, some 59, none, none],
  [],
  [],
  [],
  [],
  [],
  [],
  [],
  [],
  [],
  [],
  [some 61, some 62, some 63, some 64, some 65, some 66, none],
  [],
  [],
  [],
  [],
  [],
  [],
  [some 11, some 25, some 60, some 38, some 68, some 69, some 70, some 71, some 72, some 73, none, none, none],
  [],
  [],
  [],
  [],
  [],
  [],
  [some 25, some 38, some 67, some 75, none, some 76, some 77, some 78, none, none],
  [],
  [],
  [],
  [],
  [],
  [none, some 81, some 82, none, none, none, none, some 83, some 84, some 85, some 86, some 87, some 88, some 89, some 90, some 91, some 92, some 93, some 94, some 95, none, none, none, none, none, none, none, none, none, none, none, none, none, some 96, some 97, some 98, some 99, none, some 100, some 101, some 102, some 103, some 104, some 105, some 106, some 107, some 108, some 109, some 110, some 111, none, none, none, some 112, some 113, some 114, some 115, some 116, some 117, some 118, some 119, none, none, some 120, some 121, some 122, some 123, some 124, some 125, some 126, none, some 127, none, none, some 128, some 129, some 130, some 131, some 132, some 133, some 134, some 135, none, none, some 136, some 137, some 138],
  [],
  [],
  [],
  [],
  [],
  [],
  [],
  [],
  [],
  [],
  [],
  [],
  [],
  [],
  [],
  [],
  [],
  [],
  [],
  [],
  [],
  [],
  [],
  [],
  [],
  [],
  [],
  [],
  [],
  [],
  [],
  [],
  [],
  [],
  [],
  [],
  [],
  [],
  [],
  [],
  [],
  [],
  [],
  [],
  [],
  [],
  [],
  [],
  [],
  [],
  [],
  [],
  [],
  [],
  [],
  [],
  [],
  [],
  []]
def x_KT : List Nat := [11, 8, 100, 3, 100, 100, 100, 100, 100, 100, 100, 9, 100, 100, 100, 100, 100, 5, 100, 101, 100, 4, 102, 100, 101, 1, 100, 100, 100, 100, 100, 100, 100, 100, 100, 100, 100, 100, 7, 101, 100, 100, 100, 100, 100, 100, 100, 100, 100, 6, 100, 100, 101, 100, 100, 100, 100, 100, 100, 100, 0, 100, 100, 100, 100, 100, 100, 10, 100, 100, 101, 102, 100, 100, 2, 100, 100, 100, 100, 100, 12, 100, 100, 100, 100, 100, 100, 100, 100, 100, 100, 100, 100, 100, 100, 100, 100, 100, 100, 101, 100, 100, 100, 100, 100, 100, 100, 100, 100, 100, 100, 100, 100, 100, 100, 100, 100, 100, 100, 100, 101, 100, 100, 100, 100, 100, 100, 101, 101, 100, 100, 100, 100, 100, 100, 100, 100, 100, 100, 102]
def x_NT : List Nat := [0, 0, 240, 0, 78, 26, 800, 80, 80, 104, 4, 0, 144, 8, 8, 8, 2048, 0, 48, 48, 8, 0, 512, 2560, 512, 0, 20, 20, 20, 20, 60, 60, 1440, 1440, 40, 40, 40, 960, 0, 20, 20, 80, 20, 20, 20, 120, 60, 520, 20, 0, 4, 624, 24, 1200, 1200, 1200, 26, 0, 0, 0, 0, 80, 80, 80, 80, 80, 80, 0, 52, 52, 140, 560, 52, 52, 0, 20, 10, 10, 10, 6, 0, 240, 6, 26, 78, 800, 80, 80, 30, 30, 30, 8, 8, 4, 48, 48, 512, 3072, 6, 6, 20, 20, 20, 20, 60, 60, 1440, 1440, 40, 40, 40, 960, 624, 1920, 44800, 44800, 120, 20, 20, 20, 256, 80, 80, 80, 80, 80, 80, 10400, 200, 20, 20, 20, 10, 10, 10, 10, 144, 8, 2048, 1]
def x_P0 (b i k : Nat) : Option Nat := if i = 49 then (if k = 11 then some b else if k = 12 then some (b + 1) else if k = 13 then some (b + 2) else (x_PT.getD 49 []).getD k none) else (x_PT.getD i []).getD k none
def x_N0 (i : Nat) : Nat := x_NT.getD i 0
def x_K0 (i : Nat) : Nat := x_KT.getD i 999
/-- a state of the run: int fields, long fields, int arrays, long arrays, lengths of later arrays, where best lies, cells, cells and slots made -/
abbrev xV : Type := (Nat → Nat → Int32) × (Nat → Nat → Int64) × (Nat → Nat → Int32) × (Nat → Nat → Int64) × (Nat → Nat) × Nat × Nat × Nat × Nat
abbrev gI (v : xV) : Nat → Nat → Int32 := v.1
abbrev gL (v : xV) : Nat → Nat → Int64 := v.2.1
abbrev gA (v : xV) : Nat → Nat → Int32 := v.2.2.1
abbrev gB (v : xV) : Nat → Nat → Int64 := v.2.2.2.1
abbrev gb (v : xV) : Nat := v.2.2.2.2.2.1
abbrev gn (v : xV) : Nat := v.2.2.2.2.2.2.1
abbrev gk (v : xV) : Nat := v.2.2.2.2.2.2.2.1
abbrev gz (v : xV) : Nat := v.2.2.2.2.2.2.2.2
def gN (v : xV) (i : Nat) : Nat := if i < 140 then x_N0 i else v.2.2.2.2.1 i
def gK (v : xV) (i : Nat) : Nat := if i < 140 then x_K0 i else if i < gn v then 100 else 999
def rt (v : xV) : xS := (v.1, v.2.1, x_P0 (gb v), v.2.2.1, v.2.2.2.1, gN v, gK v, gn v, gk v, gz v)
def v_I (v : xV) (j k : Nat) (x : Int32) : xV := (xu2 v.1 j k x, v.2)
def v_L (v : xV) (j k : Nat) (x : Int64) : xV := (v.1, xu2 v.2.1 j k x, v.2.2)
def v_A (v : xV) (j : Nat) (f : Nat → Int32) : xV := (v.1, v.2.1, xu1 v.2.2.1 j f, v.2.2.2)
def v_B (v : xV) (j : Nat) (f : Nat → Int64) : xV := (v.1, v.2.1, v.2.2.1, xu1 v.2.2.2.1 j f, v.2.2.2.2)
/-- the dynamic arrays are int arrays -/
def dynOK (v : xV) : Prop := gK v (gb v) = 100 ∧ gK v (gb v + 1) = 100 ∧ gK v (gb v + 2) = 100
def RI (E : Nat × (Nat → Int32)) (d m pc : Nat) (lv : List (Nat × Value)) (v : xV) (Q : Int32 → xV → Prop) : Prop := x_R E d m pc lv [] (rt v) (fun r S => ∃ (y : Int32) (w : xV), r = some (.int y) ∧ S = rt w ∧ Q y w)
def KI (E : Nat × (Nat → Int32)) (d m : Nat) (args : List Value) (v : xV) (Q : Int32 → xV → Prop) : Prop := x_K1 E d m args (rt v) (fun r S => ∃ (y : Int32) (w : xV), r = some (.int y) ∧ S = rt w ∧ Q y w)
theorem KI.of {E : Nat × (Nat → Int32)} {d m : Nat} {args : List Value} {v : xV} {Q : Int32 → xV → Prop} (hok : x_mOK m) (hlen : (lg_sl args).length ≤ x_mL m) (h : RI E d m 0 (lv_args 0 args) v Q) : KI E d m args v Q := x_K1.of hok hlen h
theorem KI.mono {E : Nat × (Nat → Int32)} {d m : Nat} {args : List Value} {v : xV} {Q Q' : Int32 → xV → Prop} (k : KI E d m args v Q) (h : ∀ y w, Q y w → Q' y w) : KI E d m args v Q' := x_K1.mono k (fun r S ⟨y, w, h1, h2, h3⟩ => ⟨y, w, h1, h2, h y w h3⟩)
theorem RI.mono {E : Nat × (Nat → Int32)} {d m pc : Nat} {lv : List (Nat × Value)} {v : xV} {Q Q' : Int32 → xV → Prop} (k : RI E d m pc lv v Q) (h : ∀ y w, Q y w → Q' y w) : RI E d m pc lv v Q' := x_R.mono k (fun r S ⟨y, w, h1, h2, h3⟩ => ⟨y, w, h1, h2, h y w h3⟩)
def RJ (E : Nat × (Nat → Int32)) (d m pc : Nat) (lv : List (Nat × Value)) (v : xV) (Q : Int64 → xV → Prop) : Prop := x_R E d m pc lv [] (rt v) (fun r S => ∃ (y : Int64) (w : xV), r = some (.long y) ∧ S = rt w ∧ Q y w)
def KJ (E : Nat × (Nat → Int32)) (d m : Nat) (args : List Value) (v : xV) (Q : Int64 → xV → Prop) : Prop := x_K1 E d m args (rt v) (fun r S => ∃ (y : Int64) (w : xV), r = some (.long y) ∧ S = rt w ∧ Q y w)
theorem KJ.of {E : Nat × (Nat → Int32)} {d m : Nat} {args : List Value} {v : xV} {Q : Int64 → xV → Prop} (hok : x_mOK m) (hlen : (lg_sl args).length ≤ x_mL m) (h : RJ E d m 0 (lv_args 0 args) v Q) : KJ E d m args v Q := x_K1.of hok hlen h
theorem KJ.mono {E : Nat × (Nat → Int32)} {d m : Nat} {args : List Value} {v : xV} {Q Q' : Int64 → xV → Prop} (k : KJ E d m args v Q) (h : ∀ y w, Q y w → Q' y w) : KJ E d m args v Q' := x_K1.mono k (fun r S ⟨y, w, h1, h2, h3⟩ => ⟨y, w, h1, h2, h y w h3⟩)
theorem RJ.mono {E : Nat × (Nat → Int32)} {d m pc : Nat} {lv : List (Nat × Value)} {v : xV} {Q Q' : Int64 → xV → Prop} (k : RJ E d m pc lv v Q) (h : ∀ y w, Q y w → Q' y w) : RJ E d m pc lv v Q' := x_R.mono k (fun r S ⟨y, w, h1, h2, h3⟩ => ⟨y, w, h1, h2, h y w h3⟩)
def RV (E : Nat × (Nat → Int32)) (d m pc : Nat) (lv : List (Nat × Value)) (v : xV) (Q : xV → Prop) : Prop := x_R E d m pc lv [] (rt v) (fun r S => ∃ w : xV, r = none ∧ S = rt w ∧ Q w)
def KV (E : Nat × (Nat → Int32)) (d m : Nat) (args : List Value) (v : xV) (Q : xV → Prop) : Prop := x_K1 E d m args (rt v) (fun r S => ∃ w : xV, r = none ∧ S = rt w ∧ Q w)
theorem KV.of {E : Nat × (Nat → Int32)} {d m : Nat} {args : List Value} {v : xV} {Q : xV → Prop} (hok : x_mOK m) (hlen : (lg_sl args).length ≤ x_mL m) (h : RV E d m 0 (lv_args 0 args) v Q) : KV E d m args v Q := x_K1.of hok hlen h
theorem KV.mono {E : Nat × (Nat → Int32)} {d m : Nat} {args : List Value} {v : xV} {Q Q' : xV → Prop} (k : KV E d m args v Q) (h : ∀ w, Q w → Q' w) : KV E d m args v Q' := x_K1.mono k (fun r S ⟨w, h1, h2, h3⟩ => ⟨w, h1, h2, h w h3⟩)
theorem RV.mono {E : Nat × (Nat → Int32)} {d m pc : Nat} {lv : List (Nat × Value)} {v : xV} {Q Q' : xV → Prop} (k : RV E d m pc lv v Q) (h : ∀ w, Q w → Q' w) : RV E d m pc lv v Q' := x_R.mono k (fun r S ⟨w, h1, h2, h3⟩ => ⟨w, h1, h2, h w h3⟩)
/-- a number on the stack gets a name -/
theorem xr_topi {E : Nat × (Nat → Int32)} {d m pc : Nat} {lv : List (Nat × Value)} {st : List Value} {S : xS} {Q : Option Value → xS → Prop} {x : Int32} (k : ∀ y : Int32, y = x → x_R E d m pc lv (.int y :: st) S Q) : x_R E d m pc lv (.int x :: st) S Q := k x rfl
theorem xr_topl {E : Nat × (Nat → Int32)} {d m pc : Nat} {lv : List (Nat × Value)} {st : List Value} {S : xS} {Q : Option Value → xS → Prop} {x : Int64} (k : ∀ y : Int64, y = x → x_R E d m pc lv (.long y :: st) S Q) : x_R E d m pc lv (.long x :: st) S Q := k x rfl
theorem xr_iald {E : Nat × (Nat → Int32)} {d m pc j : Nat} {i : Int32} {lv : List (Nat × Value)} {st : List Value} {S : xS} {Q : Option Value → xS → Prop} (hdg : decode (x_mB m) pc = .ok (.iaload, 1)) (hK : x_K S j = 100) (hb : vp_in i (x_N S j)) (k : x_R E d m (pc + 1) lv (.int (x_A S j i.toNatClampNeg) :: st) S Q) : x_R E d m pc lv (.int i :: .ref j :: st) S Q := x_R.step (fun _ _ h => xi_iald hdg hK hb h) k
theorem xr_iast {E : Nat × (Nat → Int32)} {d m pc j : Nat} {i x : Int32} {lv : List (Nat × Value)} {st : List Value} {S : xS} {Q : Option Value → xS → Prop} (hdg : decode (x_mB m) pc = .ok (.iastore, 1)) (hK : x_K S j = 100) (hb : vp_in i (x_N S j)) (k : x_R E d m (pc + 1) lv st (x_pA S j (upd (x_A S j) i.toNatClampNeg x)) Q) : x_R E d m pc lv (.int x :: .int i :: .ref j :: st) S Q := x_R.step (fun _ _ h => xi_iast hdg hK hb h) k
theorem xr_alen {E : Nat × (Nat → Int32)} {d m pc j : Nat} {lv : List (Nat × Value)} {st : List Value} {S : xS} {Q : Option Value → xS → Prop} (hdg : decode (x_mB m) pc = .ok (.arraylength, 1)) (hK : x_K S j = 100) (k : x_R E d m (pc + 1) lv (.int (Int32.ofNat (x_N S j)) :: st) S Q) : x_R E d m pc lv (.ref j :: st) S Q := x_R.step (fun _ _ h => xi_alen hdg (Or.inl hK) h) k
theorem xr_tsw {E : Nat × (Nat → Int32)} {d m pc ln : Nat} {df lo hi : Int} {offs : Array Int} {x : Int32} {lv : List (Nat × Value)} {st : List Value} {S : xS} {Q : Option Value → xS → Prop} (hdg : decode (x_mB m) pc = .ok (.tableswitch df lo hi offs, ln)) (tgt : Nat) (ht : (pc : Int) + df = (tgt : Int)) (k1 : (x.toInt < lo ∨ hi < x.toInt) → x_R E d m tgt lv st S Q) (k2 : ¬ (x.toInt < lo ∨ hi < x.toInt) → ∃ (off : Int) (t : Nat), offs[(x.toInt - lo).toNat]? = some off ∧ (pc : Int) + off = (t : Int) ∧ x_R E d m t lv st S Q) : x_R E d m pc lv (.int x :: st) S Q := by
  by_cases h : x.toInt < lo ∨ hi < x.toInt
  · exact x_R.step (fun _ _ h0 => xi_tswO hdg h ht h0) (k1 h)
  · obtain ⟨off, t, h1, h2, h3⟩ := k2 h
    exact x_R.step (fun _ _ h0 => xi_tswI hdg (fun z => h (Or.inl z)) (fun z => h (Or.inr z)) h1 h2 h0) h3
end
section
theorem x_tm1 {w : Cond} (h : w ∈ tables_1_1) (hg : goodWord w = true) : w ∈ x_tbl := List.mem_filter.mpr ⟨List.mem_append_right _ (List.mem_append_left _ h), hg⟩
theorem x_tm2 {w : Cond} (h : w ∈ tables_1_2) (hg : goodWord w = true) : w ∈ x_tbl := List.mem_filter.mpr ⟨List.mem_append_right _ (List.mem_append_right _ (List.mem_append_left _ h)), hg⟩
theorem x_tm3 {w : Cond} (h : w ∈ tables_1_3) (hg : goodWord w = true) : w ∈ x_tbl := List.mem_filter.mpr ⟨List.mem_append_right _ (List.mem_append_right _ (List.mem_append_right _ (List.mem_append_left _ h))), hg⟩
theorem x_tm4 {w : Cond} (h : w ∈ tables_1_4) (hg : goodWord w = true) : w ∈ x_tbl := List.mem_filter.mpr ⟨List.mem_append_right _ (List.mem_append_right _ (List.mem_append_right _ (List.mem_append_right _ (List.mem_append_left _ h)))), hg⟩
theorem x_tm5 {w : Cond} (h : w ∈ tables_1_5) (hg : goodWord w = true) : w ∈ x_tbl := List.mem_filter.mpr ⟨List.mem_append_right _ (List.mem_append_right _ (List.mem_append_right _ (List.mem_append_right _ (List.mem_append_right _ (List.mem_append_left _ h))))), hg⟩
theorem x_tm6 {w : Cond} (h : w ∈ tables_1_6) (hg : goodWord w = true) : w ∈ x_tbl := List.mem_filter.mpr ⟨List.mem_append_right _ (List.mem_append_right _ (List.mem_append_right _ (List.mem_append_right _ (List.mem_append_right _ (List.mem_append_right _ (List.mem_append_left _ h)))))), hg⟩
theorem x_tm7 {w : Cond} (h : w ∈ tables_1_7) (hg : goodWord w = true) : w ∈ x_tbl := List.mem_filter.mpr ⟨List.mem_append_right _ (List.mem_append_right _ (List.mem_append_right _ (List.mem_append_right _ (List.mem_append_right _ (List.mem_append_right _ (List.mem_append_right _ (List.mem_append_left _ h))))))), hg⟩
theorem x_tm8 {w : Cond} (h : w ∈ tables_1_8) (hg : goodWord w = true) : w ∈ x_tbl := List.mem_filter.mpr ⟨List.mem_append_right _ (List.mem_append_right _ (List.mem_append_right _ (List.mem_append_right _ (List.mem_append_right _ (List.mem_append_right _ (List.mem_append_right _ (List.mem_append_right _ (h)))))))), hg⟩
theorem gK_s {v : xV} {i : Nat} (h : i < 140) : x_K (rt v) i = x_K0 i := if_pos h
theorem gN_s {v : xV} {i : Nat} (h : i < 140) : gN v i = x_N0 i := if_pos h
theorem x_inl {i : Int32} {n : Nat} (h : decide (¬ (i < 0 ∨ n ≤ i.toNatClampNeg)) = true) : vp_in i n := by
  have h1 := of_decide_eq_true h
  exact h1
theorem xk_VI {E : Nat × (Nat → Int32)} {d m pc idx i0 m1 bb : Nat} {ps : List Nat} {lv : List (Nat × Value)} {As rest st : List Value} {v : xV} {Q : Option Value → xS → Prop} (hdg : decode (x_mB m) pc = .ok (.invokevirtual idx, 3)) (hf : x_cl (x_mo m) idx = some (i0, 0, m1, ps)) (ho : x_mo m < 20) (hn : As.length = x_mN m1) (hK : x_K (rt v) bb = x_mo m1) (hK2 : x_mo m1 < 13) (hst : (rest.map fun v => v.category).sum ≤ 8) (hs : As.reverse ++ .ref bb :: rest = st) {P : Int32 → xV → Prop} (h : KI E d m1 (.ref bb :: As) v P) (k : ∀ y w, P y w → x_R E (d + 1) m (pc + 3) lv (.int y :: rest) (rt w) Q) : x_R E (d + 1) m pc lv st (rt v) Q := xr_callV hdg hf ho hn hK hK2 hst hs (x_K1.mono h (fun r S ⟨y, w, h1, h2, h3⟩ => by
  subst h1
  subst h2
  exact k y w h3))
theorem xk_VJ {E : Nat × (Nat → Int32)} {d m pc idx i0 m1 bb : Nat} {ps : List Nat} {lv : List (Nat × Value)} {As rest st : List Value} {v : xV} {Q : Option Value → xS → Prop} (hdg : decode (x_mB m) pc = .ok (.invokevirtual idx, 3)) (hf : x_cl (x_mo m) idx = some (i0, 0, m1, ps)) (ho : x_mo m < 20) (hn : As.length = x_mN m1) (hK : x_K (rt v) bb = x_mo m1) (hK2 : x_mo m1 < 13) (hst : (rest.map fun v => v.category).sum ≤ 8) (hs : As.reverse ++ .ref bb :: rest = st) {P : Int64 → xV → Prop} (h : KJ E d m1 (.ref bb :: As) v P) (k : ∀ y w, P y w → x_R E (d + 1) m (pc + 3) lv (.long y :: rest) (rt w) Q) : x_R E (d + 1) m pc lv st (rt v) Q := xr_callV hdg hf ho hn hK hK2 hst hs (x_K1.mono h (fun r S ⟨y, w, h1, h2, h3⟩ => by
  subst h1
  subst h2
  exact k y w h3))
theorem xk_VV {E : Nat × (Nat → Int32)} {d m pc idx i0 m1 bb : Nat} {ps : List Nat} {lv : List (Nat × Value)} {As rest st : List Value} {v : xV} {Q : Option Value → xS → Prop} (hdg : decode (x_mB m) pc = .ok (.invokevirtual idx, 3)) (hf : x_cl (x_mo m) idx = some (i0, 0, m1, ps)) (ho : x_mo m < 20) (hn : As.length = x_mN m1) (hK : x_K (rt v) bb = x_mo m1) (hK2 : x_mo m1 < 13) (hst : (rest.map fun v => v.category).sum ≤ 8) (hs : As.reverse ++ .ref bb :: rest = st) {P : xV → Prop} (h : KV E d m1 (.ref bb :: As) v P) (k : ∀ w, P w → x_R E (d + 1) m (pc + 3) lv (rest) (rt w) Q) : x_R E (d + 1) m pc lv st (rt v) Q := xr_callV hdg hf ho hn hK hK2 hst hs (x_K1.mono h (fun r S ⟨w, h1, h2, h3⟩ => by
  subst h1
  subst h2
  exact k w h3))
theorem xk_SI {E : Nat × (Nat → Int32)} {d m pc idx i0 m1 : Nat} {ps : List Nat} {lv : List (Nat × Value)} {As rest st : List Value} {v : xV} {Q : Option Value → xS → Prop} (hdg : decode (x_mB m) pc = .ok (.invokestatic idx, 3)) (hf : x_cl (x_mo m) idx = some (i0, 1, m1, ps)) (ho : x_mo m < 20) (hn : As.length = x_mN m1) (hst : (rest.map fun v => v.category).sum ≤ 8) (hs : As.reverse ++ rest = st) {P : Int32 → xV → Prop} (h : KI E d m1 As v P) (k : ∀ y w, P y w → x_R E (d + 1) m (pc + 3) lv (.int y :: rest) (rt w) Q) : x_R E (d + 1) m pc lv st (rt v) Q := xr_callS hdg hf ho hn hst hs (x_K1.mono h (fun r S ⟨y, w, h1, h2, h3⟩ => by
  subst h1
  subst h2
  exact k y w h3))
theorem xk_SJ {E : Nat × (Nat → Int32)} {d m pc idx i0 m1 : Nat} {ps : List Nat} {lv : List (Nat × Value)} {As rest st : List Value} {v : xV} {Q : Option Value → xS → Prop} (hdg : decode (x_mB m) pc = .ok (.invokestatic idx, 3)) (hf : x_cl (x_mo m) idx = some (i0, 1, m1, ps)) (ho : x_mo m < 20) (hn : As.length = x_mN m1) (hst : (rest.map fun v => v.category).sum ≤ 8) (hs : As.reverse ++ rest = st) {P : Int64 → xV → Prop} (h : KJ E d m1 As v P) (k : ∀ y w, P y w → x_R E (d + 1) m (pc + 3) lv (.long y :: rest) (rt w) Q) : x_R E (d + 1) m pc lv st (rt v) Q := xr_callS hdg hf ho hn hst hs (x_K1.mono h (fun r S ⟨y, w, h1, h2, h3⟩ => by
  subst h1
  subst h2
  exact k y w h3))
theorem xk_SV {E : Nat × (Nat → Int32)} {d m pc idx i0 m1 : Nat} {ps : List Nat} {lv : List (Nat × Value)} {As rest st : List Value} {v : xV} {Q : Option Value → xS → Prop} (hdg : decode (x_mB m) pc = .ok (.invokestatic idx, 3)) (hf : x_cl (x_mo m) idx = some (i0, 1, m1, ps)) (ho : x_mo m < 20) (hn : As.length = x_mN m1) (hst : (rest.map fun v => v.category).sum ≤ 8) (hs : As.reverse ++ rest = st) {P : xV → Prop} (h : KV E d m1 As v P) (k : ∀ w, P w → x_R E (d + 1) m (pc + 3) lv (rest) (rt w) Q) : x_R E (d + 1) m pc lv st (rt v) Q := xr_callS hdg hf ho hn hst hs (x_K1.mono h (fun r S ⟨w, h1, h2, h3⟩ => by
  subst h1
  subst h2
  exact k w h3))
theorem xk_NI {E : Nat × (Nat → Int32)} {d m pc idx i0 m1 : Nat} {ps : List Nat} {lv : List (Nat × Value)} {As rest st : List Value} {v : xV} {Q : Option Value → xS → Prop} (hdg : decode (x_mB m) pc = .ok (.invokestatic idx, 3)) (hf : x_cl (x_mo m) idx = some (i0, 5, m1, ps)) (ho : x_mo m < 20) (hn : As.length = x_mN m1) (hst : (rest.map fun v => v.category).sum ≤ 8) (hs : As.reverse ++ rest = st) {P : Int32 → xV → Prop} (h : KI E d m1 As v P) (k : ∀ y w, P y w → x_R E (d + 1) m (pc + 3) lv (.int y :: rest) (rt w) Q) : x_R E (d + 1) m pc lv st (rt v) Q := xr_callSN hdg hf ho hn hst hs (x_K1.mono h (fun r S ⟨y, w, h1, h2, h3⟩ => by
  subst h1
  subst h2
  exact k y w h3))
theorem xk_NJ {E : Nat × (Nat → Int32)} {d m pc idx i0 m1 : Nat} {ps : List Nat} {lv : List (Nat × Value)} {As rest st : List Value} {v : xV} {Q : Option Value → xS → Prop} (hdg : decode (x_mB m) pc = .ok (.invokestatic idx, 3)) (hf : x_cl (x_mo m) idx = some (i0, 5, m1, ps)) (ho : x_mo m < 20) (hn : As.length = x_mN m1) (hst : (rest.map fun v => v.category).sum ≤ 8) (hs : As.reverse ++ rest = st) {P : Int64 → xV → Prop} (h : KJ E d m1 As v P) (k : ∀ y w, P y w → x_R E (d + 1) m (pc + 3) lv (.long y :: rest) (rt w) Q) : x_R E (d + 1) m pc lv st (rt v) Q := xr_callSN hdg hf ho hn hst hs (x_K1.mono h (fun r S ⟨y, w, h1, h2, h3⟩ => by
  subst h1
  subst h2
  exact k y w h3))
theorem xk_NV {E : Nat × (Nat → Int32)} {d m pc idx i0 m1 : Nat} {ps : List Nat} {lv : List (Nat × Value)} {As rest st : List Value} {v : xV} {Q : Option Value → xS → Prop} (hdg : decode (x_mB m) pc = .ok (.invokestatic idx, 3)) (hf : x_cl (x_mo m) idx = some (i0, 5, m1, ps)) (ho : x_mo m < 20) (hn : As.length = x_mN m1) (hst : (rest.map fun v => v.category).sum ≤ 8) (hs : As.reverse ++ rest = st) {P : xV → Prop} (h : KV E d m1 As v P) (k : ∀ w, P w → x_R E (d + 1) m (pc + 3) lv (rest) (rt w) Q) : x_R E (d + 1) m pc lv st (rt v) Q := xr_callSN hdg hf ho hn hst hs (x_K1.mono h (fun r S ⟨w, h1, h2, h3⟩ => by
  subst h1
  subst h2
  exact k w h3))
theorem x_sw4 {x : Int32} (h : ¬ (x.toInt < 0 ∨ 3 < x.toInt)) : x = 0 ∨ x = 1 ∨ x = 2 ∨ x = 3 := by
  have e : x = Int32.ofInt x.toInt := by simp
  have h1 : 0 ≤ x.toInt ∧ x.toInt ≤ 3 := by omega
  generalize x.toInt = z at e h1
  rcases (show z = 0 ∨ z = 1 ∨ z = 2 ∨ z = 3 by omega) with h0 | h0 | h0 | h0 <;> subst h0 <;> subst e <;> simp
theorem x_sw5 {x : Int32} (h : ¬ (x.toInt < 0 ∨ 4 < x.toInt)) : x = 0 ∨ x = 1 ∨ x = 2 ∨ x = 3 ∨ x = 4 := by
  have e : x = Int32.ofInt x.toInt := by simp
  have h1 : 0 ≤ x.toInt ∧ x.toInt ≤ 4 := by omega
  generalize x.toInt = z at e h1
  rcases (show z = 0 ∨ z = 1 ∨ z = 2 ∨ z = 3 ∨ z = 4 by omega) with h0 | h0 | h0 | h0 | h0 <;> subst h0 <;> subst e <;> simp
theorem x_sw6 {x : Int32} (h : ¬ (x.toInt < 0 ∨ 5 < x.toInt)) : x = 0 ∨ x = 1 ∨ x = 2 ∨ x = 3 ∨ x = 4 ∨ x = 5 := by
  have e : x = Int32.ofInt x.toInt := by simp
  have h1 : 0 ≤ x.toInt ∧ x.toInt ≤ 5 := by omega
  generalize x.toInt = z at e h1
  rcases (show z = 0 ∨ z = 1 ∨ z = 2 ∨ z = 3 ∨ z = 4 ∨ z = 5 by omega) with h0 | h0 | h0 | h0 | h0 | h0 <;> subst h0 <;> subst e <;> simp
theorem x_sw11 {x : Int32} (h : ¬ (x.toInt < 0 ∨ 10 < x.toInt)) : x = 0 ∨ x = 1 ∨ x = 2 ∨ x = 3 ∨ x = 4 ∨ x = 5 ∨ x = 6 ∨ x = 7 ∨ x = 8 ∨ x = 9 ∨ x = 10 := by
  have e : x = Int32.ofInt x.toInt := by simp
  have h1 : 0 ≤ x.toInt ∧ x.toInt ≤ 10 := by omega
  generalize x.toInt = z at e h1
  rcases (show z = 0 ∨ z = 1 ∨ z = 2 ∨ z = 3 ∨ z = 4 ∨ z = 5 ∨ z = 6 ∨ z = 7 ∨ z = 8 ∨ z = 9 ∨ z = 10 by omega) with h0 | h0 | h0 | h0 | h0 | h0 | h0 | h0 | h0 | h0 | h0 <;> subst h0 <;> subst e <;> simp
theorem x_sw28 {x : Int32} (h : ¬ (x.toInt < 0 ∨ 27 < x.toInt)) : x = 0 ∨ x = 1 ∨ x = 2 ∨ x = 3 ∨ x = 4 ∨ x = 5 ∨ x = 6 ∨ x = 7 ∨ x = 8 ∨ x = 9 ∨ x = 10 ∨ x = 11 ∨ x = 12 ∨ x = 13 ∨ x = 14 ∨ x = 15 ∨ x = 16 ∨ x = 17 ∨ x = 18 ∨ x = 19 ∨ x = 20 ∨ x = 21 ∨ x = 22 ∨ x = 23 ∨ x = 24 ∨ x = 25 ∨ x = 26 ∨ x = 27 := by
  have e : x = Int32.ofInt x.toInt := by simp
  have h1 : 0 ≤ x.toInt ∧ x.toInt ≤ 27 := by omega
  generalize x.toInt = z at e h1
  rcases (show z = 0 ∨ z = 1 ∨ z = 2 ∨ z = 3 ∨ z = 4 ∨ z = 5 ∨ z = 6 ∨ z = 7 ∨ z = 8 ∨ z = 9 ∨ z = 10 ∨ z = 11 ∨ z = 12 ∨ z = 13 ∨ z = 14 ∨ z = 15 ∨ z = 16 ∨ z = 17 ∨ z = 18 ∨ z = 19 ∨ z = 20 ∨ z = 21 ∨ z = 22 ∨ z = 23 ∨ z = 24 ∨ z = 25 ∨ z = 26 ∨ z = 27 by omega) with h0 | h0 | h0 | h0 | h0 | h0 | h0 | h0 | h0 | h0 | h0 | h0 | h0 | h0 | h0 | h0 | h0 | h0 | h0 | h0 | h0 | h0 | h0 | h0 | h0 | h0 | h0 | h0 <;> subst h0 <;> subst e <;> simp
theorem x_mmax_c : Cond.code Lib.Math.max.name Lib.Math.max.code 2 (some .int) ∈ x_tbl := x_tm4 (List.mem_of_getElem? (i := 144) rfl) rfl
theorem xi_mmax {E : Nat × (Nat → Int32)} {d m pc idx i0 : Nat} {ps : List Nat} {x y : Int32} {lv : List (Nat × Value)} {rest : List Value} {S S' : xS} {r : Option Value} (hdg : decode (x_mB m) pc = .ok (.invokestatic idx, 3)) (hf : x_cl (x_mo m) idx = some (i0, 1, 226, ps)) (ho : x_mo m < 20) (hst : (rest.map fun v => v.category).sum ≤ 8) (h : x_Rw E (d + 1) m (pc + 3) lv (.int (if x < y then y else x) :: rest) S r S') : x_Rw E (d + 1) m pc lv (.int y :: .int x :: rest) S r S' := by
  obtain ⟨f1, f2, -, -⟩ := x_cl_ok hf ho
  dsimp only at f2
  subst f2
  have hl : Cond.methodLink (x_o (x_mo m)) i0 Lib.Math.max.name ∈ x_tbl := f1 (Cond.methodLink (x_o (x_mo m)) i0 (x_mY 226)) (by simp [x_cc])
  have hi : Cond.static Lib.Math.max.name ∈ x_tbl := f1 (Cond.static (x_mY 226)) (by simp [x_cc])
  have hini : Cond.initialized "java/lang/Math" ∈ x_tbl := x_at_mem (p := 115) (by decide +kernel)
  refine ⟨h.1, ?_⟩
  intro l p e R s mid args below meth c A D cs q al H locs ls cells slots Q C X hl0 w1 w2 hcc hzz kk
  have hts := C.2.2.2.2.2.2.1
  have hlo := C.2.2.2.2.2.2.2.2.2.2.1
  refine va_mmax C.2.1 C.2.2.1 (by rw [hl0.1]; exact C.2.2.2.1) C.2.2.2.2.1 (hts _ hl) (hts _ hi) (hts _ hini) (hts _ x_mmax_c) (Nat.le_trans (by omega) C.2.2.2.2.2.2.2.2.2.1) (by rw [x_cs_cat]; omega) (by omega) (by omega) hdg ?_
  exact h.2 l p e R s mid args below meth c A D cs q al H locs ls cells slots Q C X hl0 w1 (xwi (xw2 w2)) hcc hzz kk
theorem xr_mmax {E : Nat × (Nat → Int32)} {d m pc idx i0 : Nat} {ps : List Nat} {x y : Int32} {lv : List (Nat × Value)} {rest : List Value} {S : xS} {Q : Option Value → xS → Prop} (hdg : decode (x_mB m) pc = .ok (.invokestatic idx, 3)) (hf : x_cl (x_mo m) idx = some (i0, 1, 226, ps)) (ho : x_mo m < 20) (hst : (rest.map fun v => v.category).sum ≤ 8) (k : x_R E (d + 1) m (pc + 3) lv (.int (if x < y then y else x) :: rest) S Q) : x_R E (d + 1) m pc lv (.int y :: .int x :: rest) S Q := x_R.step (fun _ _ h => xi_mmax hdg hf ho hst h) k
theorem x_mmin_c : Cond.code Lib.Math.min.name Lib.Math.min.code 2 (some .int) ∈ x_tbl := x_tm3 (List.mem_of_getElem? (i := 124) rfl) rfl
theorem xi_mmin {E : Nat × (Nat → Int32)} {d m pc idx i0 : Nat} {ps : List Nat} {x y : Int32} {lv : List (Nat × Value)} {rest : List Value} {S S' : xS} {r : Option Value} (hdg : decode (x_mB m) pc = .ok (.invokestatic idx, 3)) (hf : x_cl (x_mo m) idx = some (i0, 1, 227, ps)) (ho : x_mo m < 20) (hst : (rest.map fun v => v.category).sum ≤ 8) (h : x_Rw E (d + 1) m (pc + 3) lv (.int (if y < x then y else x) :: rest) S r S') : x_Rw E (d + 1) m pc lv (.int y :: .int x :: rest) S r S' := by
  obtain ⟨f1, f2, -, -⟩ := x_cl_ok hf ho
  dsimp only at f2
  subst f2
  have hl : Cond.methodLink (x_o (x_mo m)) i0 Lib.Math.min.name ∈ x_tbl := f1 (Cond.methodLink (x_o (x_mo m)) i0 (x_mY 227)) (by simp [x_cc])
  have hi : Cond.static Lib.Math.min.name ∈ x_tbl := f1 (Cond.static (x_mY 227)) (by simp [x_cc])
  have hini : Cond.initialized "java/lang/Math" ∈ x_tbl := x_at_mem (p := 115) (by decide +kernel)
  refine ⟨h.1, ?_⟩
  intro l p e R s mid args below meth c A D cs q al H locs ls cells slots Q C X hl0 w1 w2 hcc hzz kk
  have hts := C.2.2.2.2.2.2.1
  have hlo := C.2.2.2.2.2.2.2.2.2.2.1
  refine va_mmin C.2.1 C.2.2.1 (by rw [hl0.1]; exact C.2.2.2.1) C.2.2.2.2.1 (hts _ hl) (hts _ hi) (hts _ hini) (hts _ x_mmin_c) (Nat.le_trans (by omega) C.2.2.2.2.2.2.2.2.2.1) (by rw [x_cs_cat]; omega) (by omega) (by omega) hdg ?_
  exact h.2 l p e R s mid args below meth c A D cs q al H locs ls cells slots Q C X hl0 w1 (xwi (xw2 w2)) hcc hzz kk
theorem xr_mmin {E : Nat × (Nat → Int32)} {d m pc idx i0 : Nat} {ps : List Nat} {x y : Int32} {lv : List (Nat × Value)} {rest : List Value} {S : xS} {Q : Option Value → xS → Prop} (hdg : decode (x_mB m) pc = .ok (.invokestatic idx, 3)) (hf : x_cl (x_mo m) idx = some (i0, 1, 227, ps)) (ho : x_mo m < 20) (hst : (rest.map fun v => v.category).sum ≤ 8) (k : x_R E (d + 1) m (pc + 3) lv (.int (if y < x then y else x) :: rest) S Q) : x_R E (d + 1) m pc lv (.int y :: .int x :: rest) S Q := x_R.step (fun _ _ h => xi_mmin hdg hf ho hst h) k
end
section
/-! String constants: length() and charAt() of the JDK, by hand over the machine -/
theorem x_Ex_call {E : Nat × (Nat → Int32)} {q : xQ} {A : Nat → Prop} {U : State} {g : JFrame} {mk : MethodId} {a : Array Value} (h : x_Ex E q A U) : x_Ex E q A (U.calling g mk a) := by
  obtain ⟨⟨b1, b2, b3⟩, c2, c3, c4, c5, c6, c7, c8, c9⟩ := h
  have hvm : U.vm.Alike (U.calling g mk a).vm := Vm.Alike.refl U.vm
  exact ⟨⟨b1.moved hvm, b2, b3⟩, vk_S.moved hvm c2, fun i hi => (c3 i hi).same rfl, fun r hr => (c4 r hr).same rfl rfl, vx_Zq.moved hvm c5, vx_Zq.moved hvm c6, c7.same rfl, va_Z.moved hvm c8, vx_Zq.moved hvm c9⟩
def x_pQ (r : Option Value) : Array Value → State → Outcome → State → Prop := fun _ st oc t => oc = .returned r ∧ t.heap = st.heap
def x_pr (d : Nat) : Room := { frames := d, cells := 0, slots := 0, locals := 50 * d }
/-- a method that only reads what lies outside -/
def x_PM (E : Nat × (Nat → Int32)) (l : Launch) (d m : Nat) (q : xQ) (A : Nat → Prop) (args : List Value) (r : Option Value) : Prop := Met l (x_mY m) (x_ws m) (x_pr d) (va_Pc args (x_Ex E q A)) (x_pQ r) 0 0 (fun _ => False)
theorem x_pblind {E : Nat × (Nat → Int32)} {q : xQ} {A : Nat → Prop} {vs : List Value} : FrameBlind (va_Pc vs (x_Ex E q A)) := fun _ _ _ _ h => ⟨h.1, x_Ex_call h.2⟩
theorem x_pcont {p : Program} {l : Launch} {e : Env} {R : Room} {s : State} {m : MethodId} {args : Array Value} {below : List Frame} {meth : Method} {c : Code} {H : Heap} {locs : List Loc} {cells slots pc : Nat} {Q : State → Prop} {ls : Array Slot} {st0 rest : List Value} {r : Option Value} {a : Array Value}
    (hr : va_Run p l e R s m args below meth c H locs cells slots 0 0 (F0 m pc ls st0) rest (x_pQ r a) (fun _ => False)) (kk : W p l e R s m args below meth c H locs cells slots Q (F0 m (pc + 3) ls (r.toList ++ rest))) : W p l e R s m args below meth c H locs cells slots Q (F0 m pc ls st0) := by
  intro T hT X
  obtain ⟨v, st₀, t, T', L, h0, X', hL, e1, e2, ⟨hv, hh⟩, go⟩ := hr T hT X
  cases Outcome.returned.inj hv
  have hLn : L = [] := by
    cases L with
    | nil => rfl
    | cons z L => exact (hL z List.mem_cons_self).elim
  subst hLn
  rw [List.append_nil] at X'
  obtain ⟨tt, a1, b1⟩ := kk T' (by rw [e1, hh, h0]) X'
  exact ⟨tt, go tt a1, b1⟩
theorem x_prm {m d : Nat} {R : Room} (h1 : d + 1 ≤ R.frames) (h2 : 50 * (d + 1) ≤ R.locals) (h3 : x_mL m ≤ 31) : (x_pr d).frames + 1 ≤ R.frames ∧ 8 + (x_mL m + 11) + (x_pr d).locals ≤ R.locals := by
  unfold x_pr
  dsimp only
  exact ⟨h1, by omega⟩
/-- a static reader called -/
theorem x_pS {E : Nat × (Nat → Int32)} {p : Program} {l : Launch} {e : Env} {R : Room} {s : State} {m : MethodId} {args : Array Value} {below : List Frame} {meth : Method} {c : Code} {H : Heap} {locs : List Loc} {cells slots pc d o idx i0 m1 nL : Nat} {ps : List Nat} {Q : State → Prop} {ls : Array Slot} {As rest : List Value} {r : Option Value} {q : xQ} {A : Nat → Prop} {cc : ByteArray}
    (hx : p.tables.exec = Jvm.exec) (hb : c.code = cc) (hml : c.maxLocals = nL) (hown : s.vm.findClass (x_o o) = some m.cls) (hts : ∀ w ∈ x_tbl, w.before args s = true) (hE : x_Ex E q A s) (hS : va_S A s.heap H locs) (hfr : d + 1 ≤ R.frames) (hlo : 50 * (d + 1) ≤ R.locals) (hce : cells ≤ R.cells) (hsl : slots ≤ R.slots) (hsz : ls.size = nL)
    (hok : x_mOK m1) (hf : x_cl o idx = some (i0, 1, m1, ps)) (ho : o < 20) (hn : As.length = x_mN m1) (hst : (rest.map fun v => v.category).sum ≤ 8) (hdg : decode cc pc = .ok (.invokestatic idx, 3)) (hM : x_PM E l d m1 q A As r)
    (kk : W p l e R s m args below meth c H locs cells slots Q (F0 m (pc + 3) ls (r.toList ++ rest))) : W p l e R s m args below meth c H locs cells slots Q (F0 m pc ls (As.reverse ++ rest)) := by
  obtain ⟨f1, f2, -, -⟩ := x_cl_ok hf ho
  dsimp only at f2
  subst f2
  have hl : Cond.methodLink (x_o o) i0 (x_mY m1) ∈ x_tbl := f1 _ (by simp [x_cc])
  have hi : Cond.static (x_mY m1) ∈ x_tbl := f1 _ (by simp [x_cc])
  obtain ⟨k1, k2, k3, k4, k5, k6, k7, k8, k9⟩ := x_mk_spec hok
  have cw : CallB R s args (x_o o) i0 (x_mY m1) (x_mB m1) (x_mL m1) (x_mR m1) (x_ws m1) (x_pr d) 0 0 (x_mN m1) ∧ (Cond.static (x_mY m1)).before args s = true :=
    ⟨callB_of (x_mN m1) hts (x_ws_good hok) rfl rfl rfl (hts _ k2) (hts _ hl) ⟨k4, k5, k6⟩ (x_prm hfr hlo k7), hts _ hi⟩
  exact x_pcont (va_runS (As := As) (rest := rest) ⟨hx, hb, hml, hown, hts⟩ hM cw ⟨x_pblind, fun U hU hW => ⟨rfl, hE.move (locs := locs) (by rw [hU]; exact hS) hW (fun _ h => h)⟩⟩ rfl hn hsz rfl (lv_room hst) hdg ⟨hce, hsl⟩) kk
/-- a reader of a String constant called -/
theorem x_pV {E : Nat × (Nat → Int32)} {p : Program} {l : Launch} {e : Env} {R : Room} {s : State} {m : MethodId} {args : Array Value} {below : List Frame} {meth : Method} {c : Code} {H : Heap} {locs : List Loc} {cells slots pc d o idx i0 m1 nL i : Nat} {ps : List Nat} {Q : State → Prop} {ls : Array Slot} {As rest : List Value} {r : Option Value} {q : xQ} {A : Nat → Prop} {cc : ByteArray}
    (hx : p.tables.exec = Jvm.exec) (hb : c.code = cc) (hml : c.maxLocals = nL) (hown : s.vm.findClass (x_o o) = some m.cls) (hts : ∀ w ∈ x_tbl, w.before args s = true) (hE : x_Ex E q A s) (hS : va_S A s.heap H locs) (hfr : d + 1 ≤ R.frames) (hlo : 50 * (d + 1) ≤ R.locals) (hce : cells ≤ R.cells) (hsl : slots ≤ R.slots) (hsz : ls.size = nL)
    (hok : x_mOK m1) (hf : x_cl o idx = some (i0, 0, m1, ps)) (ho : o < 20) (hn : As.length = x_mN m1) (hst : (rest.map fun v => v.category).sum ≤ 8) (hdg : decode cc pc = .ok (.invokevirtual idx, 3)) (hi5 : i < 5) (hcls : (x_mY m1).cls = "java/lang/String") (hM : x_PM E l d m1 q A (.ref (q.2.1 i) :: As) r)
    (kk : W p l e R s m args below meth c H locs cells slots Q (F0 m (pc + 3) ls (r.toList ++ rest))) : W p l e R s m args below meth c H locs cells slots Q (F0 m pc ls (As.reverse ++ .ref (q.2.1 i) :: rest)) := by
  obtain ⟨f1, f2, -, -⟩ := x_cl_ok hf ho
  dsimp only at f2
  subst f2
  have hl : Cond.methodLink (x_o o) i0 (x_mY m1) ∈ x_tbl := f1 _ (by simp [x_cc])
  have hi : Cond.instanceMethod (x_mY m1) ∈ x_tbl := f1 _ (by simp [x_cc])
  have hs : Cond.selects (x_mY m1).cls (x_mY m1) (x_mY m1) ∈ x_tbl := f1 _ (by simp [x_cc])
  obtain ⟨k1, k2, k3, k4, k5, k6, k7, k8, k9⟩ := x_mk_spec hok
  have cw : CallW R s args (x_o o) (x_mY m1).cls i0 (x_mY m1) (x_mB m1) (x_mL m1) (x_mR m1) (x_ws m1) (x_pr d) 0 0 (x_mN m1) :=
    ⟨callB_of (x_mN m1) hts (x_ws_good hok) rfl rfl rfl (hts _ k2) (hts _ hl) ⟨k4, k5, k6⟩ (x_prm hfr hlo k7), hts _ hi, hts _ hs⟩
  exact x_pcont (va_runV (As := As) (rest := rest) ⟨hx, hb, hml, hown, hts⟩ hM cw ⟨x_pblind, by rw [hcls]; exact vk_recv hE.2.1 hi5 hS, fun U hU hW => ⟨rfl, hE.move (locs := locs) (by rw [hU]; exact hS) hW (fun _ h => h)⟩⟩ rfl hn hsz rfl (lv_room hst) hdg ⟨hce, hsl⟩) kk
theorem ok_232 : x_mOK 232 := ⟨x_tm3 (List.mem_of_getElem? (i := 186) rfl) rfl, 116, by decide +kernel⟩
theorem ok_233 : x_mOK 233 := ⟨x_tm3 (List.mem_of_getElem? (i := 196) rfl) rfl, 116, by decide +kernel⟩
theorem ok_234 : x_mOK 234 := ⟨x_tm3 (List.mem_of_getElem? (i := 190) rfl) rfl, 116, by decide +kernel⟩
theorem ok_235 : x_mOK 235 := ⟨x_tm3 (List.mem_of_getElem? (i := 200) rfl) rfl, 116, by decide +kernel⟩
theorem ok_236 : x_mOK 236 := ⟨x_tm3 (List.mem_of_getElem? (i := 206) rfl) rfl, 116, by decide +kernel⟩
theorem ok_237 : x_mOK 237 := ⟨x_tm3 (List.mem_of_getElem? (i := 203) rfl) rfl, 117, by decide +kernel⟩
theorem ok_238 : x_mOK 238 := ⟨x_tm3 (List.mem_of_getElem? (i := 211) rfl) rfl, 118, by decide +kernel⟩
theorem x_lkZ : Cond.fieldLink (x_o 17) 38 "java/lang/String" "COMPACT_STRINGS" "Z" ∈ x_tbl := x_at_mem (p := 771) (by decide +kernel)
theorem x_lkV : Cond.fieldLink (x_o 17) 9 "java/lang/String" "value" "[B" ∈ x_tbl := x_at_mem (p := 1927) (by decide +kernel)
theorem x_lkC : Cond.fieldLink (x_o 17) 15 "java/lang/String" "coder" "B" ∈ x_tbl := x_at_mem (p := 1928) (by decide +kernel)
theorem x_lkF : Cond.fieldLink (x_o 17) 1053 "jdk/internal/util/Preconditions" "SIOOBE_FORMATTER" "Ljava/util/function/BiFunction;" ∈ x_tbl := x_at_mem (p := 787) (by decide +kernel)
theorem x_coder {E : Nat × (Nat → Int32)} (l : Launch) (d : Nat) (q : xQ) (A : Nat → Prop) {i : Nat} (hi : i < 5) : x_PM E l d 234 q A [.ref (q.2.1 i)] (some (.int 0)) := by
  obtain ⟨k1, k2, k3, k4, k5, k6, k7, k8, k9⟩ := x_mk_spec ok_234
  refine Met.ofW (cc := x_mB 234) (maxL := 1) (ret := some .byte) k3 rfl ?_
  intro p e s mid args' below meth c s₁ B hml hv
  obtain ⟨rfl, hE⟩ := hv
  have hx := B.exec
  have hb := B.bytes
  have hr := B.returns
  have hlocks := B.notSynchronized
  have hts0 := atoms_spec (ws := x_ws 234) B.pre
  have hts : ∀ w ∈ x_tbl, w.before _ s = true := fun w hw => hts0 w (List.mem_cons_of_mem _ hw)
  have hown : s.vm.findClass (x_mY 234).cls = some mid.cls := findClass_of_methodNamed B.named
  rw [k8] at hown
  rw [lg_entry_eq]
  have hl := lv_entry [.ref (q.2.1 i)] (n := 1) (Nat.le_of_ble_eq_true rfl)
  generalize (lg_sl [.ref (q.2.1 i)] ++ List.replicate (1 - (lg_sl [.ref (q.2.1 i)]).length) Slot.unset).toArray = ls at hl ⊢
  refine va_gets hx hb hE.2.2.2.2.2.2.2.1 va_S.rf hown (hts _ x_lkZ) (fun _ h => h) (by decide +kernel : decode (x_mB 234) 0 = .ok (.getstatic 38, 3)) ?_
  refine lv_if_eq (tgt := 13) hx hb (by decide +kernel : decode (x_mB 234) 3 = .ok (.ifCond .eq 10, 3)) (by decide) (fun h => absurd h (by decide)) (fun _ => ?_)
  refine lv_aload_n hx hb (by decide +kernel : decode (x_mB 234) 6 = .ok (.aload_n 0, 1)) rfl (lv_at hl 0 rfl) ?_
  refine vk_getf hx hb ((hE.2.1.1 i hi).2.1) va_S.rf hown (hts _ x_lkC) (fun _ h => h) (by decide +kernel : decode (x_mB 234) 7 = .ok (.getfield 15, 3)) ?_
  refine lv_goto (tgt := 14) hx hb (by decide +kernel : decode (x_mB 234) 10 = .ok (.goto 4, 3)) (by decide) ?_
  exact W.zret hx hb hr rfl (fun t ht _ => ⟨rfl, ht⟩) (fun z hz => absurd hz List.not_mem_nil) (by decide +kernel : decode (x_mB 234) 14 = .ok (.ireturn, 1)) hlocks
theorem x_isLatin1 {E : Nat × (Nat → Int32)} (l : Launch) (d : Nat) (q : xQ) (A : Nat → Prop) {i : Nat} (hi : i < 5) : x_PM E l d 235 q A [.ref (q.2.1 i)] (some (.int 1)) := by
  obtain ⟨k1, k2, k3, k4, k5, k6, k7, k8, k9⟩ := x_mk_spec ok_235
  refine Met.ofW (cc := x_mB 235) (maxL := 1) (ret := some .boolean) k3 rfl ?_
  intro p e s mid args' below meth c s₁ B hml hv
  obtain ⟨rfl, hE⟩ := hv
  have hx := B.exec
  have hb := B.bytes
  have hr := B.returns
  have hlocks := B.notSynchronized
  have hts0 := atoms_spec (ws := x_ws 235) B.pre
  have hts : ∀ w ∈ x_tbl, w.before _ s = true := fun w hw => hts0 w (List.mem_cons_of_mem _ hw)
  have hown : s.vm.findClass (x_mY 235).cls = some mid.cls := findClass_of_methodNamed B.named
  rw [k8] at hown
  rw [lg_entry_eq]
  have hl := lv_entry [.ref (q.2.1 i)] (n := 1) (Nat.le_of_ble_eq_true rfl)
  generalize (lg_sl [.ref (q.2.1 i)] ++ List.replicate (1 - (lg_sl [.ref (q.2.1 i)]).length) Slot.unset).toArray = ls at hl ⊢
  refine va_gets hx hb hE.2.2.2.2.2.2.2.1 va_S.rf hown (hts _ x_lkZ) (fun _ h => h) (by decide +kernel : decode (x_mB 235) 0 = .ok (.getstatic 38, 3)) ?_
  refine lv_if_eq (tgt := 17) hx hb (by decide +kernel : decode (x_mB 235) 3 = .ok (.ifCond .eq 14, 3)) (by decide) (fun h => absurd h (by decide)) (fun _ => ?_)
  refine lv_aload_n hx hb (by decide +kernel : decode (x_mB 235) 6 = .ok (.aload_n 0, 1)) rfl (lv_at hl 0 rfl) ?_
  refine vk_getf hx hb ((hE.2.1.1 i hi).2.1) va_S.rf hown (hts _ x_lkC) (fun _ h => h) (by decide +kernel : decode (x_mB 235) 7 = .ok (.getfield 15, 3)) ?_
  refine lv_if_ne (tgt := 17) hx hb (by decide +kernel : decode (x_mB 235) 10 = .ok (.ifCond .ne 7, 3)) (by decide) (fun h => absurd rfl h) (fun _ => ?_)
  refine lv_iconst (v := 1) hx hb (by decide +kernel : decode (x_mB 235) 13 = .ok (.iconst 1, 1)) (by decide) ?_
  refine lv_goto (tgt := 18) hx hb (by decide +kernel : decode (x_mB 235) 14 = .ok (.goto 4, 3)) (by decide) ?_
  exact W.zret hx hb hr rfl (fun t ht _ => ⟨rfl, ht⟩) (fun z hz => absurd hz List.not_mem_nil) (by decide +kernel : decode (x_mB 235) 18 = .ok (.ireturn, 1)) hlocks
theorem x_pcheck {E : Nat × (Nat → Int32)} (l : Launch) (d : Nat) (q : xQ) (A : Nat → Prop) {i n : Int32} {w : Value} (hw : w.category = 1) (h0 : ¬ i < 0) (h1 : i < n) : x_PM E l d 238 q A [.int i, .int n, w] (some (.int i)) := by
  obtain ⟨k1, k2, k3, k4, k5, k6, k7, k8, k9⟩ := x_mk_spec ok_238
  refine Met.ofW (cc := x_mB 238) (maxL := 3) (ret := some .int) k3 rfl ?_
  intro p e s mid args' below meth c s₁ B hml hv
  obtain ⟨rfl, hE⟩ := hv
  have hx := B.exec
  have hb := B.bytes
  have hr := B.returns
  have hlocks := B.notSynchronized
  rw [lg_entry_eq]
  have hl := lv_entry [.int i, .int n, w] (n := 3) (by cases w <;> first | exact Nat.le_of_ble_eq_true rfl | exact absurd hw (by simp [Value.category]))
  generalize (lg_sl [.int i, .int n, w] ++ List.replicate (3 - (lg_sl [.int i, .int n, w]).length) Slot.unset).toArray = ls at hl ⊢
  refine lv_iload_n hx hb (by decide +kernel : decode (x_mB 238) 0 = .ok (.iload_n 0, 1)) rfl (lv_at hl 0 rfl) ?_
  refine lv_if_lt (tgt := 9) hx hb (by decide +kernel : decode (x_mB 238) 1 = .ok (.ifCond .lt 8, 3)) (by decide) (fun h => absurd h h0) (fun _ => ?_)
  refine lv_iload_n hx hb (by decide +kernel : decode (x_mB 238) 4 = .ok (.iload_n 0, 1)) rfl (lv_at hl 0 rfl) ?_
  refine lv_iload_n hx hb (by decide +kernel : decode (x_mB 238) 5 = .ok (.iload_n 1, 1)) rfl (lv_at hl 1 rfl) ?_
  refine lv_icmp_lt (tgt := 16) hx hb (by decide +kernel : decode (x_mB 238) 6 = .ok (.if_icmp .lt 10, 3)) (by decide) (fun _ => ?_) (fun h => absurd h1 h)
  refine lv_iload_n hx hb (by decide +kernel : decode (x_mB 238) 16 = .ok (.iload_n 0, 1)) rfl (lv_at hl 0 rfl) ?_
  exact W.iret hx hb hr (fun t ht _ => ⟨rfl, ht⟩) (fun z hz => absurd hz List.not_mem_nil) (by decide +kernel : decode (x_mB 238) 17 = .ok (.ireturn, 1)) hlocks
theorem x_scheck {E : Nat × (Nat → Int32)} (l : Launch) (d : Nat) (q : xQ) (A : Nat → Prop) {i n : Int32} (h0 : ¬ i < 0) (h1 : i < n) : x_PM E l (d + 1) 236 q A [.int i, .int n] none := by
  obtain ⟨k1, k2, k3, k4, k5, k6, k7, k8, k9⟩ := x_mk_spec ok_236
  refine Met.ofW (cc := x_mB 236) (maxL := 2) (ret := none) k3 rfl ?_
  intro p e s mid args' below meth c s₁ B hml hv
  obtain ⟨rfl, hE⟩ := hv
  have hx := B.exec
  have hb := B.bytes
  have hr := B.returns
  have hlocks := B.notSynchronized
  have hts0 := atoms_spec (ws := x_ws 236) B.pre
  have hts : ∀ w ∈ x_tbl, w.before _ s = true := fun w hw => hts0 w (List.mem_cons_of_mem _ hw)
  have hown : s.vm.findClass (x_mY 236).cls = some mid.cls := findClass_of_methodNamed B.named
  rw [k8] at hown
  rw [lg_entry_eq]
  have hl := lv_entry [.int i, .int n] (n := 2) (Nat.le_of_ble_eq_true rfl)
  generalize (lg_sl [.int i, .int n] ++ List.replicate (2 - (lg_sl [.int i, .int n]).length) Slot.unset).toArray = ls at hl ⊢
  have go : ∀ w : Value, w.category = 1 → W p l e (headSpec (x_ws 236) (x_pr (d + 1))).room s mid [Value.int i, .int n].toArray below meth c s.heap [] 0 0 (MQ below (x_pQ none) [Value.int i, .int n].toArray s 0 0 (fun _ => False)) (F0 mid 5 ls [w, .int n, .int i]) := by
    intro w hw
    refine x_pS (As := [.int i, .int n, w]) (rest := []) (m1 := 238) (d := d) (idx := 1059) (i0 := 1059) (ps := [789, 790]) hx hb hml hown hts hE va_S.rf (Nat.le_refl _) (Nat.le_refl _) (Nat.zero_le _) (Nat.zero_le _) hl.1 ok_238 (by decide +kernel) (by decide) rfl (Nat.le_of_ble_eq_true rfl) (by decide +kernel : decode (x_mB 236) 5 = .ok (.invokestatic 1059, 3)) (x_pcheck l d q A hw h0 h1) ?_
    refine lv_pop hx hb (by decide +kernel : decode (x_mB 236) 8 = .ok (.pop, 1)) rfl ?_
    exact W.vret hx hb hr (fun t ht _ => ⟨rfl, ht⟩) (fun z hz => absurd hz List.not_mem_nil) (by decide +kernel : decode (x_mB 236) 9 = .ok (.return_, 1)) hlocks
  refine lv_iload_n hx hb (by decide +kernel : decode (x_mB 236) 0 = .ok (.iload_n 0, 1)) rfl (lv_at hl 0 rfl) ?_
  refine lv_iload_n hx hb (by decide +kernel : decode (x_mB 236) 1 = .ok (.iload_n 1, 1)) rfl (lv_at hl 1 rfl) ?_
  rcases hE.2.2.2.2.2.2.2.2.1 with hz | ⟨t, hz⟩
  · exact va_gets hx hb hz va_S.rf hown (hts _ x_lkF) (fun _ h => h) (by decide +kernel : decode (x_mB 236) 2 = .ok (.getstatic 1053, 3)) (go _ rfl)
  · exact va_gets hx hb hz va_S.rf hown (hts _ x_lkF) (fun _ h => h) (by decide +kernel : decode (x_mB 236) 2 = .ok (.getstatic 1053, 3)) (go _ rfl)
theorem x_length {E : Nat × (Nat → Int32)} (l : Launch) (d : Nat) (q : xQ) (A : Nat → Prop) {i : Nat} (hi : i < 5) : x_PM E l (d + 1) 232 q A [.ref (q.2.1 i)] (some (.int (nI (x_lens.getD i 0)))) := by
  obtain ⟨k1, k2, k3, k4, k5, k6, k7, k8, k9⟩ := x_mk_spec ok_232
  refine Met.ofW (cc := x_mB 232) (maxL := 1) (ret := some .int) k3 rfl ?_
  intro p e s mid args' below meth c s₁ B hml hv
  obtain ⟨rfl, hE⟩ := hv
  have hx := B.exec
  have hb := B.bytes
  have hr := B.returns
  have hlocks := B.notSynchronized
  have hts0 := atoms_spec (ws := x_ws 232) B.pre
  have hts : ∀ w ∈ x_tbl, w.before _ s = true := fun w hw => hts0 w (List.mem_cons_of_mem _ hw)
  have hown : s.vm.findClass (x_mY 232).cls = some mid.cls := findClass_of_methodNamed B.named
  rw [k8] at hown
  rw [lg_entry_eq]
  have hl := lv_entry [.ref (q.2.1 i)] (n := 1) (Nat.le_of_ble_eq_true rfl)
  generalize (lg_sl [.ref (q.2.1 i)] ++ List.replicate (1 - (lg_sl [.ref (q.2.1 i)]).length) Slot.unset).toArray = ls at hl ⊢
  refine lv_aload_n hx hb (by decide +kernel : decode (x_mB 232) 0 = .ok (.aload_n 0, 1)) rfl (lv_at hl 0 rfl) ?_
  refine vk_getf hx hb ((hE.2.1.1 i hi).2.2.1) va_S.rf hown (hts _ x_lkV) (fun _ h => h) (by decide +kernel : decode (x_mB 232) 1 = .ok (.getfield 9, 3)) ?_
  refine va_tlen hx hb ((hE.2.1.1 i hi).2.2.2) va_S.rf rfl (by decide +kernel : decode (x_mB 232) 4 = .ok (.arraylength, 1)) ?_
  refine lv_aload_n hx hb (by decide +kernel : decode (x_mB 232) 5 = .ok (.aload_n 0, 1)) rfl (lv_at hl 0 rfl) ?_
  refine x_pV (As := []) (rest := [.int (Int32.ofNat (x_lens.getD i 0))]) (m1 := 234) (d := d) (i := i) (idx := 335) (i0 := 335) (ps := [767, 768, 769]) hx hb hml hown hts hE va_S.rf (Nat.le_refl _) (Nat.le_refl _) (Nat.zero_le _) (Nat.zero_le _) hl.1 ok_234 (by decide +kernel) (by decide) rfl (Nat.le_of_ble_eq_true rfl) (by decide +kernel : decode (x_mB 232) 6 = .ok (.invokevirtual 335, 3)) hi rfl (x_coder l d q A hi) ?_
  refine lv_ishr hx hb (by decide +kernel : decode (x_mB 232) 9 = .ok (.ishr, 1)) ?_
  rw [show Int32.ofNat (x_lens.getD i 0) >>> ((0 : Int32) &&& 31) = nI (x_lens.getD i 0) from sb_shr0 _]
  exact W.iret hx hb hr (fun t ht _ => ⟨rfl, ht⟩) (fun z hz => absurd hz List.not_mem_nil) (by decide +kernel : decode (x_mB 232) 10 = .ok (.ireturn, 1)) hlocks
def x_ch (i k : Nat) : Int32 := (x_byts.getD i []).getD k 0
theorem x_ch_ok : ∀ i, i < 5 → ∀ k, k < x_lens.getD i 0 → ((x_ch i k &&& 255).toUInt32 % 65536).toInt32 = x_ch i k ∧ narrow .char (.int (x_ch i k)) = .int (x_ch i k) := by decide +kernel
theorem x_latin {E : Nat × (Nat → Int32)} (l : Launch) (d : Nat) (q : xQ) (A : Nat → Prop) {i k : Nat} (hi : i < 5) (hk : k < x_lens.getD i 0) : x_PM E l (d + 2) 237 q A [.ref (q.2.2.1 i), .int (nI k)] (some (.int (x_ch i k))) := by
  obtain ⟨k1, k2, k3, k4, k5, k6, k7, k8, k9⟩ := x_mk_spec ok_237
  refine Met.ofW (cc := x_mB 237) (maxL := 2) (ret := some .char) k3 rfl ?_
  intro p e s mid args' below meth c s₁ B hml hv
  obtain ⟨rfl, hE⟩ := hv
  have hx := B.exec
  have hb := B.bytes
  have hr := B.returns
  have hlocks := B.notSynchronized
  have hts0 := atoms_spec (ws := x_ws 237) B.pre
  have hts : ∀ w ∈ x_tbl, w.before _ s = true := fun w hw => hts0 w (List.mem_cons_of_mem _ hw)
  have hown : s.vm.findClass (x_mY 237).cls = some mid.cls := findClass_of_methodNamed B.named
  rw [k8] at hown
  rw [lg_entry_eq]
  have hl := lv_entry [.ref (q.2.2.1 i), .int (nI k)] (n := 2) (Nat.le_of_ble_eq_true rfl)
  generalize (lg_sl [.ref (q.2.2.1 i), .int (nI k)] ++ List.replicate (2 - (lg_sl [.ref (q.2.2.1 i), .int (nI k)]).length) Slot.unset).toArray = ls at hl ⊢
  have hlen : x_lens.getD i 0 < 2 ^ 31 := by
    have : ∀ i, i < 5 → x_lens.getD i 0 < 2 ^ 31 := by decide +kernel
    exact this i hi
  have hk31 : k < 2 ^ 31 := by omega
  refine lv_iload_n hx hb (by decide +kernel : decode (x_mB 237) 0 = .ok (.iload_n 1, 1)) rfl (lv_at hl 1 rfl) ?_
  refine lv_aload_n hx hb (by decide +kernel : decode (x_mB 237) 1 = .ok (.aload_n 0, 1)) rfl (lv_at hl 0 rfl) ?_
  refine va_tlen hx hb ((hE.2.1.1 i hi).2.2.2) va_S.rf rfl (by decide +kernel : decode (x_mB 237) 2 = .ok (.arraylength, 1)) ?_
  refine x_pS (As := [.int (nI k), .int (nI (x_lens.getD i 0))]) (rest := []) (m1 := 236) (d := d + 1) (idx := 9) (i0 := 9) (ps := [784, 785]) hx hb hml hown hts hE va_S.rf (Nat.le_refl _) (Nat.le_refl _) (Nat.zero_le _) (Nat.zero_le _) hl.1 ok_236 (by decide +kernel) (by decide) rfl (Nat.le_of_ble_eq_true rfl) (by decide +kernel : decode (x_mB 237) 3 = .ok (.invokestatic 9, 3)) (x_scheck l d q A (nI_pos hk31) (nI_lt hk hlen)) ?_
  refine lv_aload_n hx hb (by decide +kernel : decode (x_mB 237) 6 = .ok (.aload_n 0, 1)) rfl (lv_at hl 0 rfl) ?_
  refine lv_iload_n hx hb (by decide +kernel : decode (x_mB 237) 7 = .ok (.iload_n 1, 1)) rfl (lv_at hl 1 rfl) ?_
  refine va_tb hx hb ((hE.2.1.1 i hi).2.2.2) va_S.rf (vp_in_nI hk hlen) (v := .int (x_ch i k)) (by rw [nI_clamp hk31]; rfl) (by decide +kernel : decode (x_mB 237) 8 = .ok (.baload, 1)) ?_
  refine lv_sipush (v := 255) hx hb (by decide +kernel : decode (x_mB 237) 9 = .ok (.sipush 255, 3)) (by decide) ?_
  refine lv_iand hx hb (by decide +kernel : decode (x_mB 237) 12 = .ok (.iand, 1)) ?_
  refine lv_i2c (v := x_ch i k) hx hb (by decide +kernel : decode (x_mB 237) 13 = .ok (.i2c, 1)) (x_ch_ok i hi k hk).1 ?_
  exact W.zret hx hb hr (x_ch_ok i hi k hk).2 (fun t ht _ => ⟨rfl, ht⟩) (fun z hz => absurd hz List.not_mem_nil) (by decide +kernel : decode (x_mB 237) 14 = .ok (.ireturn, 1)) hlocks
theorem x_charAt {E : Nat × (Nat → Int32)} (l : Launch) (d : Nat) (q : xQ) (A : Nat → Prop) {i k : Nat} (hi : i < 5) (hk : k < x_lens.getD i 0) : x_PM E l (d + 3) 233 q A [.ref (q.2.1 i), .int (nI k)] (some (.int (x_ch i k))) := by
  obtain ⟨k1, k2, k3, k4, k5, k6, k7, k8, k9⟩ := x_mk_spec ok_233
  refine Met.ofW (cc := x_mB 233) (maxL := 2) (ret := some .char) k3 rfl ?_
  intro p e s mid args' below meth c s₁ B hml hv
  obtain ⟨rfl, hE⟩ := hv
  have hx := B.exec
  have hb := B.bytes
  have hr := B.returns
  have hlocks := B.notSynchronized
  have hts0 := atoms_spec (ws := x_ws 233) B.pre
  have hts : ∀ w ∈ x_tbl, w.before _ s = true := fun w hw => hts0 w (List.mem_cons_of_mem _ hw)
  have hown : s.vm.findClass (x_mY 233).cls = some mid.cls := findClass_of_methodNamed B.named
  rw [k8] at hown
  rw [lg_entry_eq]
  have hl := lv_entry [.ref (q.2.1 i), .int (nI k)] (n := 2) (Nat.le_of_ble_eq_true rfl)
  generalize (lg_sl [.ref (q.2.1 i), .int (nI k)] ++ List.replicate (2 - (lg_sl [.ref (q.2.1 i), .int (nI k)]).length) Slot.unset).toArray = ls at hl ⊢
  refine lv_aload_n hx hb (by decide +kernel : decode (x_mB 233) 0 = .ok (.aload_n 0, 1)) rfl (lv_at hl 0 rfl) ?_
  refine x_pV (As := []) (rest := []) (m1 := 235) (d := d + 2) (i := i) (idx := 492) (i0 := 492) (ps := [777, 778, 779]) hx hb hml hown hts hE va_S.rf (Nat.le_refl _) (Nat.le_refl _) (Nat.zero_le _) (Nat.zero_le _) hl.1 ok_235 (by decide +kernel) (by decide) rfl (Nat.le_of_ble_eq_true rfl) (by decide +kernel : decode (x_mB 233) 1 = .ok (.invokevirtual 492, 3)) hi rfl (x_isLatin1 l (d + 2) q A hi) ?_
  refine lv_if_eq (tgt := 16) hx hb (by decide +kernel : decode (x_mB 233) 4 = .ok (.ifCond .eq 12, 3)) (by decide) (fun h => absurd h (by decide)) (fun _ => ?_)
  refine lv_aload_n hx hb (by decide +kernel : decode (x_mB 233) 7 = .ok (.aload_n 0, 1)) rfl (lv_at hl 0 rfl) ?_
  refine vk_getf hx hb ((hE.2.1.1 i hi).2.2.1) va_S.rf hown (hts _ x_lkV) (fun _ h => h) (by decide +kernel : decode (x_mB 233) 8 = .ok (.getfield 9, 3)) ?_
  refine lv_iload_n hx hb (by decide +kernel : decode (x_mB 233) 11 = .ok (.iload_n 1, 1)) rfl (lv_at hl 1 rfl) ?_
  refine x_pS (As := [.ref (q.2.2.1 i), .int (nI k)]) (rest := []) (m1 := 237) (d := d + 2) (idx := 495) (i0 := 495) (ps := [781, 782]) hx hb hml hown hts hE va_S.rf (Nat.le_refl _) (Nat.le_refl _) (Nat.zero_le _) (Nat.zero_le _) hl.1 ok_237 (by decide +kernel) (by decide) rfl (Nat.le_of_ble_eq_true rfl) (by decide +kernel : decode (x_mB 233) 12 = .ok (.invokestatic 495, 3)) (x_latin l d q A hi hk) ?_
  exact W.zret hx hb hr (x_ch_ok i hi k hk).2 (fun t ht _ => ⟨rfl, ht⟩) (fun z hz => absurd hz List.not_mem_nil) (by decide +kernel : decode (x_mB 233) 15 = .ok (.ireturn, 1)) hlocks
end
section
theorem x_al_str {al : Nat → Nat} {q : xQ} (h : x_xt al q) {i : Nat} (hi : i < 5) : al (x_ext0 + (i + 1)) = q.2.1 i := by
  rw [h (i + 1) (by omega)]
  unfold x_qa
  rw [if_neg (by omega)]
  rfl
theorem x_vr_str {n i : Nat} : x_vr n (x_ext0 + (i + 1)) := Or.inr (by omega)
theorem xi_ldcS {E : Nat × (Nat → Int32)} {d m pc i idx : Nat} {lv : List (Nat × Value)} {st : List Value} {S S' : xS} {r : Option Value} (hi : i < 5) (ho : x_mo m = 5) (hk : (x_stx.getD i (0, "")).1 = idx) (hdg : decode (x_mB m) pc = .ok (.ldc idx, 2)) (h : x_Rw E d m (pc + 2) lv (.ref (x_ext0 + (i + 1)) :: st) S r S') : x_Rw E d m pc lv st S r S' := by
  subst hk
  refine x_step h (fun w1 w2 => ⟨w1, xwr x_vr_str w2⟩) (fun l p e R s mid args below meth c A D cs q al H locs ls cells slots Q C X hl k => ?_)
  have hown := C.2.2.2.2.1
  rw [ho] at hown
  have hz := C.2.2.2.2.2.2.2.2.2.2.2.2.2.1 i hi
  refine va_ldcS C.2.1 C.2.2.1 hown hz hdg ?_
  have := k ls hl
  rw [List.map_cons, show x_c al (.ref (x_ext0 + (i + 1))) = .ref (q.2.1 i) from congrArg Value.ref (x_al_str X.2.2.2.1 hi)] at this
  exact this
theorem xi_strlen {E : Nat × (Nat → Int32)} {d m pc i idx i0 : Nat} {ps : List Nat} {lv : List (Nat × Value)} {rest : List Value} {S S' : xS} {r : Option Value} (hi : i < 5) (hdg : decode (x_mB m) pc = .ok (.invokevirtual idx, 3)) (hf : x_cl (x_mo m) idx = some (i0, 0, 232, ps)) (ho : x_mo m < 20) (hst : (rest.map fun v => v.category).sum ≤ 8) (h : x_Rw E (d + 2) m (pc + 3) lv (.int (nI (x_lens.getD i 0)) :: rest) S r S') : x_Rw E (d + 2) m pc lv (.ref (x_ext0 + (i + 1)) :: rest) S r S' := by
  refine ⟨h.1, ?_⟩
  intro l p e R s mid args below meth c A D cs q al H locs ls cells slots Q C X hl w1 w2 hcc hzz kk
  rw [List.map_cons, show x_c al (.ref (x_ext0 + (i + 1))) = .ref (q.2.1 i) from congrArg Value.ref (x_al_str X.2.2.2.1 hi)]
  refine x_pV (As := []) (rest := rest.map (x_c al)) (m1 := 232) (d := d + 1) (i := i) C.2.1 C.2.2.1 C.2.2.2.1 C.2.2.2.2.1 C.2.2.2.2.2.2.1 C.2.2.2.2.2.2.2.2.2.2.2 X.2.2.1 C.2.2.2.2.2.2.2.2.2.1 C.2.2.2.2.2.2.2.2.2.2.1 (by omega) (by omega) hl.1 ok_232 hf ho rfl (by rw [x_cs_cat]; exact hst) hdg hi rfl (x_length l d q A hi) ?_
  exact h.2 l p e R s mid args below meth c A D cs q al H locs ls cells slots Q C X hl w1 (xwi (xw1 w2)) hcc hzz kk
theorem xi_strch {E : Nat × (Nat → Int32)} {d m pc i idx i0 : Nat} {x : Int32} {ps : List Nat} {lv : List (Nat × Value)} {rest : List Value} {S S' : xS} {r : Option Value} (hi : i < 5) (hb : vp_in x (x_lens.getD i 0)) (hdg : decode (x_mB m) pc = .ok (.invokevirtual idx, 3)) (hf : x_cl (x_mo m) idx = some (i0, 0, 233, ps)) (ho : x_mo m < 20) (hst : (rest.map fun v => v.category).sum ≤ 8) (h : x_Rw E (d + 4) m (pc + 3) lv (.int (x_ch i x.toNatClampNeg) :: rest) S r S') : x_Rw E (d + 4) m pc lv (.int x :: .ref (x_ext0 + (i + 1)) :: rest) S r S' := by
  have hlen : x_lens.getD i 0 < 2 ^ 31 := by
    have : ∀ i, i < 5 → x_lens.getD i 0 < 2 ^ 31 := by decide +kernel
    exact this i hi
  obtain ⟨k, hk, rfl⟩ := vp_in_of hb hlen
  rw [nI_clamp (by omega)] at h
  refine ⟨h.1, ?_⟩
  intro l p e R s mid args below meth c A D cs q al H locs ls cells slots Q C X hl w1 w2 hcc hzz kk
  rw [List.map_cons, List.map_cons, show x_c al (.ref (x_ext0 + (i + 1))) = .ref (q.2.1 i) from congrArg Value.ref (x_al_str X.2.2.2.1 hi)]
  refine x_pV (As := [.int (nI k)]) (rest := rest.map (x_c al)) (m1 := 233) (d := d + 3) (i := i) C.2.1 C.2.2.1 C.2.2.2.1 C.2.2.2.2.1 C.2.2.2.2.2.2.1 C.2.2.2.2.2.2.2.2.2.2.2 X.2.2.1 C.2.2.2.2.2.2.2.2.2.1 C.2.2.2.2.2.2.2.2.2.2.1 (by omega) (by omega) hl.1 ok_233 hf ho rfl (by rw [x_cs_cat]; exact hst) hdg hi rfl (x_charAt l d q A hi hk) ?_
  exact h.2 l p e R s mid args below meth c A D cs q al H locs ls cells slots Q C X hl w1 (xwi (xw2 w2)) hcc hzz kk
theorem xr_ldcS {E : Nat × (Nat → Int32)} {d m pc i idx : Nat} {lv : List (Nat × Value)} {st : List Value} {S : xS} {Q : Option Value → xS → Prop} (hi : i < 5) (ho : x_mo m = 5) (hk : (x_stx.getD i (0, "")).1 = idx) (hdg : decode (x_mB m) pc = .ok (.ldc idx, 2)) (k : x_R E d m (pc + 2) lv (.ref (x_ext0 + (i + 1)) :: st) S Q) : x_R E d m pc lv st S Q := x_R.step (fun _ _ h => xi_ldcS hi ho hk hdg h) k
theorem xr_strlen {E : Nat × (Nat → Int32)} {d m pc i idx i0 : Nat} {ps : List Nat} {lv : List (Nat × Value)} {rest : List Value} {S : xS} {Q : Option Value → xS → Prop} (hi : i < 5) (hdg : decode (x_mB m) pc = .ok (.invokevirtual idx, 3)) (hf : x_cl (x_mo m) idx = some (i0, 0, 232, ps)) (ho : x_mo m < 20) (hst : (rest.map fun v => v.category).sum ≤ 8) (k : x_R E (d + 2) m (pc + 3) lv (.int (nI (x_lens.getD i 0)) :: rest) S Q) : x_R E (d + 2) m pc lv (.ref (x_ext0 + (i + 1)) :: rest) S Q := x_R.step (fun _ _ h => xi_strlen hi hdg hf ho hst h) k
theorem xr_strch {E : Nat × (Nat → Int32)} {d m pc i idx i0 : Nat} {x : Int32} {ps : List Nat} {lv : List (Nat × Value)} {rest : List Value} {S : xS} {Q : Option Value → xS → Prop} (hi : i < 5) (hb : vp_in x (x_lens.getD i 0)) (hdg : decode (x_mB m) pc = .ok (.invokevirtual idx, 3)) (hf : x_cl (x_mo m) idx = some (i0, 0, 233, ps)) (ho : x_mo m < 20) (hst : (rest.map fun v => v.category).sum ≤ 8) (k : x_R E (d + 4) m (pc + 3) lv (.int (x_ch i x.toNatClampNeg) :: rest) S Q) : x_R E (d + 4) m pc lv (.int x :: .ref (x_ext0 + (i + 1)) :: rest) S Q := x_R.step (fun _ _ h => xi_strch hi hb hdg hf ho hst h) k
/-- a method that answers a cell -/
def RA (E : Nat × (Nat → Int32)) (d m pc : Nat) (lv : List (Nat × Value)) (v : xV) (Q : Nat → xV → Prop) : Prop := x_R E d m pc lv [] (rt v) (fun r S => ∃ (y : Nat) (w : xV), r = some (.ref y) ∧ S = rt w ∧ Q y w)
def KA (E : Nat × (Nat → Int32)) (d m : Nat) (args : List Value) (v : xV) (Q : Nat → xV → Prop) : Prop := x_K1 E d m args (rt v) (fun r S => ∃ (y : Nat) (w : xV), r = some (.ref y) ∧ S = rt w ∧ Q y w)
theorem KA.of {E : Nat × (Nat → Int32)} {d m : Nat} {args : List Value} {v : xV} {Q : Nat → xV → Prop} (hok : x_mOK m) (hlen : (lg_sl args).length ≤ x_mL m) (h : RA E d m 0 (lv_args 0 args) v Q) : KA E d m args v Q := x_K1.of hok hlen h
theorem xk_SA {E : Nat × (Nat → Int32)} {d m pc idx i0 m1 : Nat} {ps : List Nat} {lv : List (Nat × Value)} {As rest st : List Value} {v : xV} {Q : Option Value → xS → Prop} (hdg : decode (x_mB m) pc = .ok (.invokestatic idx, 3)) (hf : x_cl (x_mo m) idx = some (i0, 1, m1, ps)) (ho : x_mo m < 20) (hn : As.length = x_mN m1) (hst : (rest.map fun v => v.category).sum ≤ 8) (hs : As.reverse ++ rest = st) {P : Nat → xV → Prop} (h : KA E d m1 As v P) (k : ∀ y w, P y w → x_R E (d + 1) m (pc + 3) lv (.ref y :: rest) (rt w) Q) : x_R E (d + 1) m pc lv st (rt v) Q := xr_callS hdg hf ho hn hst hs (x_K1.mono h (fun r S ⟨y, w, h1, h2, h3⟩ => by
  subst h1
  subst h2
  exact k y w h3))
end
section
/-- three new int arrays of N places: best, ways, picks -/
def v_grow (v : xV) (N : Nat) : xV := (v.1, v.2.1, xu1 (xu1 (xu1 v.2.2.1 (gn v) (fun _ => 0)) (gn v + 1) (fun _ => 0)) (gn v + 2) (fun _ => 0), xu1 (xu1 (xu1 v.2.2.2.1 (gn v) (fun _ => 0)) (gn v + 1) (fun _ => 0)) (gn v + 2) (fun _ => 0), xu1 (xu1 (xu1 v.2.2.2.2.1 (gn v) N) (gn v + 1) N) (gn v + 2) N, gn v, gn v + 3, gk v + 3, gz v + 3 * N)
theorem x_grow_eq {v : xV} {N : Nat} (hn : 140 ≤ gn v) : x_pP (x_newA (x_pP (x_newA (x_pP (x_newA (rt v) 100 N) 49 11 (gn v)) 100 N) 49 12 (gn v + 1)) 100 N) 49 13 (gn v + 2) = rt (v_grow v N) := by
  have hP : xu2 (xu2 (xu2 (x_P0 (gb v)) 49 11 (some (gn v))) 49 12 (some (gn v + 1))) 49 13 (some (gn v + 2)) = x_P0 (gn v) := by
    funext i k
    unfold xu2 x_P0
    by_cases hi : i = 49
    · by_cases h1 : k = 13
      · subst h1; simp [hi]
      · by_cases h2 : k = 12
        · subst h2; simp [hi]
        · by_cases h3 : k = 11
          · subst h3; simp [hi]
          · simp [hi, h1, h2, h3]
    · simp [hi]
  have hN : xu1 (xu1 (xu1 (gN v) (gn v) N) (gn v + 1) N) (gn v + 2) N = gN (v_grow v N) := by
    funext i
    unfold xu1 gN v_grow
    by_cases hi : i < 140
    · simp [hi, show ¬ i = gn v by omega, show ¬ i = gn v + 1 by omega, show ¬ i = gn v + 2 by omega]
    · simp [hi, xu1]
  have hK : xu1 (xu1 (xu1 (gK v) (gn v) 100) (gn v + 1) 100) (gn v + 2) 100 = gK (v_grow v N) := by
    funext i
    unfold xu1 gK
    have e : gn (v_grow v N) = gn v + 3 := rfl
    rw [e]
    by_cases hi : i < 140
    · simp [hi, show ¬ i = gn v by omega, show ¬ i = gn v + 1 by omega, show ¬ i = gn v + 2 by omega]
    · by_cases h2 : i < gn v
      · simp [hi, h2, show i < gn v + 3 by omega, show ¬ i = gn v by omega, show ¬ i = gn v + 1 by omega, show ¬ i = gn v + 2 by omega]
      · by_cases h3 : i < gn v + 3
        · have : i = gn v ∨ i = gn v + 1 ∨ i = gn v + 2 := by omega
          rcases this with h | h | h <;> (simp [hi, h]; intro; omega)
        · simp [hi, h2, h3, show ¬ i = gn v by omega, show ¬ i = gn v + 1 by omega, show ¬ i = gn v + 2 by omega]
  have hz : gz v + N + N + N = gz v + 3 * N := by omega
  show (v.1, v.2.1, xu2 (xu2 (xu2 (x_P0 (gb v)) 49 11 (some (gn v))) 49 12 (some (gn v + 1))) 49 13 (some (gn v + 2)), _, _, xu1 (xu1 (xu1 (gN v) (gn v) N) (gn v + 1) N) (gn v + 2) N, xu1 (xu1 (xu1 (gK v) (gn v) 100) (gn v + 1) 100) (gn v + 2) 100, gn v + 1 + 1 + 1, gk v + 1 + 1 + 1, gz v + N + N + N) = _
  rw [hP, hN, hK, hz]
  rfl
theorem xr_newa {E : Nat × (Nat → Int32)} {d m pc kd : Nat} {n : Int32} {N : Nat} {lv : List (Nat × Value)} {st : List Value} {S : xS} {Q : Option Value → xS → Prop} (hdg : decode (x_mB m) pc = .ok (.newarray (x_at0 kd).1, 2)) (hkd : kd = 100 ∨ kd = 101 ∨ kd = 102) (hn : x_n S < x_ext0) (h0 : ¬ n < 0) (hN : n.toNatClampNeg = N) (hb : N * 8 ≤ 536870912) (k : x_R E d m (pc + 2) lv (.ref (x_n S) :: st) (x_newA S kd N) Q) : x_R E d m pc lv (.int n :: st) S Q := x_R.step (fun _ _ h => xi_newa hdg hkd hn h0 hN hb h) k
theorem xr_putR {E : Nat × (Nat → Int32)} {d m pc idx i0 j ci k p0 : Nat} {lv : List (Nat × Value)} {st : List Value} {S : xS} {Q : Option Value → xS → Prop} {x : Nat} (hdg : decode (x_mB m) pc = .ok (.putfield idx, 3)) (hf : x_fl (x_mo m) idx = some (i0, ci, k, p0)) (ho : x_mo m < 20) (hK : x_K S j = ci) (hfin : ((x_C ci).2.1 k).2.2.2 = false ∨ ((x_mY m).name = "<init>" ∧ ((x_C ci).2.1 k).1 = x_o (x_mo m))) (hv : x_tc ci k = 2) (kk : x_R E d m (pc + 3) lv st (x_pP S j k x) Q) : x_R E d m pc lv (.ref x :: .ref j :: st) S Q := x_R.step (fun _ _ h => xi_putR hdg hf ho hK hfin hv h) kk
theorem xr_grow {E : Nat × (Nat → Int32)} {d N : Nat} {x1 : Int32} {v : xV} {Q : Option Value → xS → Prop} (hn : 140 ≤ gn v) (hn2 : gn v + 3 < x_ext0) (hN8 : N * 8 ≤ 536870912) (k : x_R E d 61 53 [(0, .ref 49), (1, .int x1), (2, .int (nI N))] [] (rt (v_grow v N)) Q) : x_R E d 61 32 [(0, .ref 49), (1, .int x1), (2, .int (nI N))] [] (rt v) Q := by
  have hk0 : x_K (x_newA (rt v) 100 N) 49 = 6 := (xu1_n _ _ (by show (49 : Nat) ≠ gn v; omega)).trans (gK_s (by decide))
  have hk1 : x_K (x_newA (x_pP (x_newA (rt v) 100 N) 49 11 (gn v)) 100 N) 49 = 6 := (xu1_n _ _ (by show (49 : Nat) ≠ gn v + 1; omega)).trans hk0
  have hk2 : x_K (x_newA (x_pP (x_newA (x_pP (x_newA (rt v) 100 N) 49 11 (gn v)) 100 N) 49 12 (gn v + 1)) 100 N) 49 = 6 := (xu1_n _ _ (by show (49 : Nat) ≠ gn v + 2; omega)).trans hk1
  refine xr_blk (lv1 := [(0, .ref 49), (1, .int x1), (2, .int (nI N))]) (st1 := [.int (nI N), .ref 49]) (S1 := (rt v)) (pc1 := 34) [(.aload_n 0, .null, 0, 0), (.iload_n 2, .null, 0, 0)] [] (by decide +kernel) rfl trivial ?_
  refine xr_newa (kd := 100) (N := N) (by decide +kernel) (Or.inl rfl) (show gn v + 0 < x_ext0 by omega) (nI_pos (by omega)) (nI_clamp (by omega)) hN8 ?_
  refine xr_putR (idx := 34) (i0 := 34) (ci := 6) (k := 11) (p0 := 432) (j := 49) (by decide +kernel) (by decide +kernel) (by decide) (by show x_K (x_newA (rt v) 100 N) 49 = 6; exact hk0) (Or.inl (by decide +kernel)) (by decide) ?_
  refine xr_blk (lv1 := [(0, .ref 49), (1, .int x1), (2, .int (nI N))]) (st1 := [.int (nI N), .ref 49]) (S1 := (x_pP (x_newA (rt v) 100 N) 49 11 (gn v))) (pc1 := 41) [(.aload_n 0, .null, 0, 0), (.iload_n 2, .null, 0, 0)] [] (by decide +kernel) rfl trivial ?_
  refine xr_newa (kd := 100) (N := N) (by decide +kernel) (Or.inl rfl) (show gn v + 1 < x_ext0 by omega) (nI_pos (by omega)) (nI_clamp (by omega)) hN8 ?_
  refine xr_putR (idx := 37) (i0 := 37) (ci := 6) (k := 12) (p0 := 433) (j := 49) (by decide +kernel) (by decide +kernel) (by decide) (by show x_K (x_newA (x_pP (x_newA (rt v) 100 N) 49 11 (gn v)) 100 N) 49 = 6; exact hk1) (Or.inl (by decide +kernel)) (by decide) ?_
  refine xr_blk (lv1 := [(0, .ref 49), (1, .int x1), (2, .int (nI N))]) (st1 := [.int (nI N), .ref 49]) (S1 := (x_pP (x_newA (x_pP (x_newA (rt v) 100 N) 49 11 (gn v)) 100 N) 49 12 (gn v + 1))) (pc1 := 48) [(.aload_n 0, .null, 0, 0), (.iload_n 2, .null, 0, 0)] [] (by decide +kernel) rfl trivial ?_
  refine xr_newa (kd := 100) (N := N) (by decide +kernel) (Or.inl rfl) (show gn v + 2 < x_ext0 by omega) (nI_pos (by omega)) (nI_clamp (by omega)) hN8 ?_
  refine xr_putR (idx := 40) (i0 := 40) (ci := 6) (k := 13) (p0 := 434) (j := 49) (by decide +kernel) (by decide +kernel) (by decide) (by show x_K (x_newA (x_pP (x_newA (x_pP (x_newA (rt v) 100 N) 49 11 (gn v)) 100 N) 49 12 (gn v + 1)) 100 N) 49 = 6; exact hk2) (Or.inl (by decide +kernel)) (by decide) ?_
  rw [← x_grow_eq hn] at k
  exact k
def KO (E : Nat × (Nat → Int32)) (d pc : Nat) (args : List Value) (v : xV) (Q : Int32 → xV → Prop) : Prop := ∀ (lv : List (Nat × Value)) (Q' : Option Value → xS → Prop), (∀ y w, Q y w → x_R E (d + 1) 239 (pc + 3) lv [.int y] (rt w) Q') → x_R E (d + 1) 239 pc lv args.reverse (rt v) Q'
end
section
def bB (b : Bool) : Int32 := if b = true then nI 1 else nI 0
theorem bB_t : bB true = nI 1 := rfl
theorem bB_f : bB false = nI 0 := rfl
theorem nI_01 : ¬ nI 1 = nI 0 := by decide
theorem bB_0 {b : Bool} : bB b = nI 0 ↔ b = false := by cases b <;> simp [bB_t, bB_f, nI_01]
theorem bB_1 {b : Bool} : bB b = nI 1 ↔ b = true := by
  cases b
  · simp only [bB_f]
    exact ⟨fun h => absurd h.symm nI_01, fun h => by cases h⟩
  · simp [bB_t]
theorem bB_in {b : Bool} : vp_in (bB b) 2 := by cases b <;> exact x_inl (by decide)
theorem bB_inj {a b : Bool} (h : bB a = bB b) : a = b := by
  cases a <;> cases b <;> first | rfl | exact absurd h nI_01 | exact absurd h.symm nI_01
theorem nz_lt {n : Nat} (h : n < 2 ^ 31) : ¬ nI n < nI 0 := by rw [nI_ltI h (by decide)]; omega
theorem nz_le {n : Nat} (h : n < 2 ^ 31) : nI 0 ≤ nI n := by rw [nI_leI (by decide) h]; omega
theorem m1_lt : (-1 : Int32) < nI 0 := by decide
theorem m1_nle : ¬ nI 0 ≤ (-1 : Int32) := by decide
theorem m1_ne {n : Nat} (h : n < 2 ^ 31) : ¬ nI n = (-1 : Int32) := fun e => nz_lt h (by rw [e]; exact m1_lt)
theorem m1_ne' {n : Nat} (h : n < 2 ^ 31) : ¬ (-1 : Int32) = nI n := fun e => m1_ne h e.symm
/-- any int: below 0, or a number -/
theorem i_of (x : Int32) : x < nI 0 ∨ ∃ n : Nat, n < 2 ^ 31 ∧ x = nI n := by
  by_cases h : x < nI 0
  · exact Or.inl h
  · exact Or.inr (nI_of h)
theorem i_neg {x : Int32} (h : x < nI 0) {n : Nat} (hn : n < 2 ^ 31) : ¬ x = nI n := fun e => nz_lt hn (by rw [← e]; exact h)
theorem i_negle {x : Int32} (h : x < nI 0) {n : Nat} (hn : n < 2 ^ 31) : ¬ nI n ≤ x := fun e => by
  rw [Int32.le_iff_toInt_le, nI_toInt hn] at e
  rw [Int32.lt_iff_toInt_lt, nI_toInt (by decide)] at h
  omega
theorem i_neglt {x : Int32} (h : x < nI 0) {n : Nat} (hn : n < 2 ^ 31) : x < nI n := by
  rw [Int32.lt_iff_toInt_lt, nI_toInt hn]
  rw [Int32.lt_iff_toInt_lt, nI_toInt (by decide)] at h
  omega
theorem i_neglt' {x : Int32} (h : x < nI 0) {n : Nat} (hn : n < 2 ^ 31) : ¬ nI n < x := fun e => by
  rw [Int32.lt_iff_toInt_lt, nI_toInt hn] at e
  rw [Int32.lt_iff_toInt_lt, nI_toInt (by decide)] at h
  omega
theorem i_nle {x y : Int32} : ¬ x ≤ y ↔ y < x := by rw [Int32.le_iff_toInt_le, Int32.lt_iff_toInt_lt]; omega
theorem i_nlt {x y : Int32} : ¬ x < y ↔ y ≤ x := by rw [Int32.le_iff_toInt_le, Int32.lt_iff_toInt_lt]; omega
theorem i_comm (a b : Int32) : a * b = b * a := Int32.mul_comm a b
theorem upd_s (f : Nat → Int32) (k : Nat) (x : Int32) : upd f k x k = x := pk_us
theorem upd_n (f : Nat → Int32) {k j : Nat} (x : Int32) (h : j ≠ k) : upd f k x j = f j := pk_un h
theorem upd_i (f : Nat → Int32) (k : Nat) (x : Int32) (j : Nat) : upd f k x j = if j = k then x else f j := rfl
theorem gI_I (v : xV) (j k : Nat) (x : Int32) (a b : Nat) : gI (v_I v j k x) a b = if a = j then (if b = k then x else gI v a b) else gI v a b := rfl
theorem gI_L (v : xV) (j k : Nat) (x : Int64) : gI (v_L v j k x) = gI v := rfl
theorem gI_A (v : xV) (j : Nat) (f : Nat → Int32) : gI (v_A v j f) = gI v := rfl
theorem gI_B (v : xV) (j : Nat) (f : Nat → Int64) : gI (v_B v j f) = gI v := rfl
theorem gL_I (v : xV) (j k : Nat) (x : Int32) : gL (v_I v j k x) = gL v := rfl
theorem gL_L (v : xV) (j k : Nat) (x : Int64) (a b : Nat) : gL (v_L v j k x) a b = if a = j then (if b = k then x else gL v a b) else gL v a b := rfl
theorem gL_A (v : xV) (j : Nat) (f : Nat → Int32) : gL (v_A v j f) = gL v := rfl
theorem gL_B (v : xV) (j : Nat) (f : Nat → Int64) : gL (v_B v j f) = gL v := rfl
theorem gA_I (v : xV) (j k : Nat) (x : Int32) : gA (v_I v j k x) = gA v := rfl
theorem gA_L (v : xV) (j k : Nat) (x : Int64) : gA (v_L v j k x) = gA v := rfl
theorem gA_A (v : xV) (j : Nat) (f : Nat → Int32) (a : Nat) : gA (v_A v j f) a = if a = j then f else gA v a := rfl
theorem gA_B (v : xV) (j : Nat) (f : Nat → Int64) : gA (v_B v j f) = gA v := rfl
theorem gB_I (v : xV) (j k : Nat) (x : Int32) : gB (v_I v j k x) = gB v := rfl
theorem gB_L (v : xV) (j k : Nat) (x : Int64) : gB (v_L v j k x) = gB v := rfl
theorem gB_A (v : xV) (j : Nat) (f : Nat → Int32) : gB (v_A v j f) = gB v := rfl
theorem gB_B (v : xV) (j : Nat) (f : Nat → Int64) (a : Nat) : gB (v_B v j f) a = if a = j then f else gB v a := rfl
theorem gb_I (v : xV) (j k : Nat) (x : Int32) : gb (v_I v j k x) = gb v := rfl
theorem gb_L (v : xV) (j k : Nat) (x : Int64) : gb (v_L v j k x) = gb v := rfl
theorem gb_A (v : xV) (j : Nat) (f : Nat → Int32) : gb (v_A v j f) = gb v := rfl
theorem gb_B (v : xV) (j : Nat) (f : Nat → Int64) : gb (v_B v j f) = gb v := rfl
theorem gn_I (v : xV) (j k : Nat) (x : Int32) : gn (v_I v j k x) = gn v := rfl
theorem gn_L (v : xV) (j k : Nat) (x : Int64) : gn (v_L v j k x) = gn v := rfl
theorem gn_A (v : xV) (j : Nat) (f : Nat → Int32) : gn (v_A v j f) = gn v := rfl
theorem gn_B (v : xV) (j : Nat) (f : Nat → Int64) : gn (v_B v j f) = gn v := rfl
theorem gk_I (v : xV) (j k : Nat) (x : Int32) : gk (v_I v j k x) = gk v := rfl
theorem gk_L (v : xV) (j k : Nat) (x : Int64) : gk (v_L v j k x) = gk v := rfl
theorem gk_A (v : xV) (j : Nat) (f : Nat → Int32) : gk (v_A v j f) = gk v := rfl
theorem gk_B (v : xV) (j : Nat) (f : Nat → Int64) : gk (v_B v j f) = gk v := rfl
theorem gz_I (v : xV) (j k : Nat) (x : Int32) : gz (v_I v j k x) = gz v := rfl
theorem gz_L (v : xV) (j k : Nat) (x : Int64) : gz (v_L v j k x) = gz v := rfl
theorem gz_A (v : xV) (j : Nat) (f : Nat → Int32) : gz (v_A v j f) = gz v := rfl
theorem gz_B (v : xV) (j : Nat) (f : Nat → Int64) : gz (v_B v j f) = gz v := rfl
theorem gN_I (v : xV) (j k : Nat) (x : Int32) : gN (v_I v j k x) = gN v := rfl
theorem gN_L (v : xV) (j k : Nat) (x : Int64) : gN (v_L v j k x) = gN v := rfl
theorem gN_A (v : xV) (j : Nat) (f : Nat → Int32) : gN (v_A v j f) = gN v := rfl
theorem gN_B (v : xV) (j : Nat) (f : Nat → Int64) : gN (v_B v j f) = gN v := rfl
theorem gK_I (v : xV) (j k : Nat) (x : Int32) : gK (v_I v j k x) = gK v := rfl
theorem gK_L (v : xV) (j k : Nat) (x : Int64) : gK (v_L v j k x) = gK v := rfl
theorem gK_A (v : xV) (j : Nat) (f : Nat → Int32) : gK (v_A v j f) = gK v := rfl
theorem gK_B (v : xV) (j : Nat) (f : Nat → Int64) : gK (v_B v j f) = gK v := rfl
theorem vA_s (v : xV) (j : Nat) (f g : Nat → Int32) : v_A (v_A v j f) j g = v_A v j g := by
  unfold v_A
  have : xu1 (xu1 v.2.2.1 j f) j g = xu1 v.2.2.1 j g := by funext a; unfold xu1; by_cases h : a = j <;> simp [h]
  simp only [this]
theorem vA_c (v : xV) {i j : Nat} (h : i < j) (f g : Nat → Int32) : v_A (v_A v j f) i g = v_A (v_A v i g) j f := by
  unfold v_A
  have : xu1 (xu1 v.2.2.1 j f) i g = xu1 (xu1 v.2.2.1 i g) j f := by
    funext a; unfold xu1
    by_cases h1 : a = i
    · have h2 : ¬ a = j := by omega
      simp [h1, show ¬ i = j by omega]
    · simp [h1]
  simp only [this]
theorem vI_s (v : xV) (j k : Nat) (x y : Int32) : v_I (v_I v j k x) j k y = v_I v j k y := by
  unfold v_I
  have : xu2 (xu2 v.1 j k x) j k y = xu2 v.1 j k y := by
    funext a b; unfold xu2
    by_cases h : a = j
    · by_cases h2 : b = k <;> simp [h, h2]
    · simp [h]
  simp only [this]
theorem vI_c (v : xV) {j k j2 k2 : Nat} (h : j2 < j ∨ (j2 = j ∧ k2 < k)) (x y : Int32) : v_I (v_I v j k x) j2 k2 y = v_I (v_I v j2 k2 y) j k x := by
  unfold v_I
  have : xu2 (xu2 v.1 j k x) j2 k2 y = xu2 (xu2 v.1 j2 k2 y) j k x := by
    funext a b; unfold xu2
    repeat' split
    all_goals first | rfl | (exfalso; omega)
  simp only [this]
theorem vIA (v : xV) (j k : Nat) (x : Int32) (i : Nat) (f : Nat → Int32) : v_I (v_A v i f) j k x = v_A (v_I v j k x) i f := rfl
theorem vAself (v : xV) (j : Nat) : v_A v j (gA v j) = v := by
  unfold v_A
  have : xu1 v.2.2.1 j (gA v j) = v.2.2.1 := by funext a; unfold xu1; by_cases h : a = j <;> simp [h]
  simp only [this]
theorem vIself (v : xV) (j k : Nat) : v_I v j k (gI v j k) = v := by
  unfold v_I
  have : xu2 v.1 j k (gI v j k) = v.1 := by
    funext a b; unfold xu2
    by_cases h : a = j
    · by_cases h2 : b = k <;> simp [h, h2]
    · simp [h]
  simp only [this]
end
section
theorem ok_0 : x_mOK 0 := ⟨x_tm2 (List.mem_of_getElem? (i := 134) rfl) rfl, 111, by decide +kernel⟩
theorem ok_3 : x_mOK 3 := ⟨x_tm1 (List.mem_of_getElem? (i := 200) rfl) rfl, 108, by decide +kernel⟩
theorem ok_12 : x_mOK 12 := ⟨x_tm2 (List.mem_of_getElem? (i := 215) rfl) rfl, 113, by decide +kernel⟩
theorem ok_24 : x_mOK 24 := ⟨x_tm1 (List.mem_of_getElem? (i := 55) rfl) rfl, 103, by decide +kernel⟩
theorem ok_32 : x_mOK 32 := ⟨x_tm1 (List.mem_of_getElem? (i := 173) rfl) rfl, 107, by decide +kernel⟩
theorem ok_40 : x_mOK 40 := ⟨x_tm1 (List.mem_of_getElem? (i := 132) rfl) rfl, 106, by decide +kernel⟩
theorem ok_51 : x_mOK 51 := ⟨x_tm2 (List.mem_of_getElem? (i := 79) rfl) rfl, 110, by decide +kernel⟩
theorem ok_71 : x_mOK 71 := ⟨x_tm2 (List.mem_of_getElem? (i := 23) rfl) rfl, 109, by decide +kernel⟩
theorem ok_76 : x_mOK 76 := ⟨x_tm1 (List.mem_of_getElem? (i := 37) rfl) rfl, 102, by decide +kernel⟩
theorem ok_79 : x_mOK 79 := ⟨x_tm1 (List.mem_of_getElem? (i := 93) rfl) rfl, 104, by decide +kernel⟩
theorem ok_89 : x_mOK 89 := ⟨x_tm2 (List.mem_of_getElem? (i := 168) rfl) rfl, 112, by decide +kernel⟩
theorem ok_112 : x_mOK 112 := ⟨x_tm1 (List.mem_of_getElem? (i := 29) rfl) rfl, 101, by decide +kernel⟩
theorem ok_145 : x_mOK 145 := ⟨x_tm6 (List.mem_of_getElem? (i := 31) rfl) rfl, 114, by decide +kernel⟩
def x_ctors : List Nat := [0, 3, 12, 24, 32, 40, 51, 71, 76, 79, 89, 112, 145]
theorem x_ctok : ∀ m ∈ x_ctors, x_mOK m := List.forall_mem_cons.mpr ⟨ok_0, List.forall_mem_cons.mpr ⟨ok_3, List.forall_mem_cons.mpr ⟨ok_12, List.forall_mem_cons.mpr ⟨ok_24, List.forall_mem_cons.mpr ⟨ok_32, List.forall_mem_cons.mpr ⟨ok_40, List.forall_mem_cons.mpr ⟨ok_51, List.forall_mem_cons.mpr ⟨ok_71, List.forall_mem_cons.mpr ⟨ok_76, List.forall_mem_cons.mpr ⟨ok_79, List.forall_mem_cons.mpr ⟨ok_89, List.forall_mem_cons.mpr ⟨ok_112, List.forall_mem_cons.mpr ⟨ok_145, fun _ h => absurd h List.not_mem_nil⟩⟩⟩⟩⟩⟩⟩⟩⟩⟩⟩⟩⟩
def x_kd (t : ArrayType) : Nat := if t = .int then 100 else if t = .boolean then 101 else if t = .long then 102 else 0
def x_ann (m : Nat) (ins : Instr) (st : List Value) : xe := match ins with
  | .iconst n => (ins, .int (Int32.ofInt n), 0, 0)
  | .bipush n => (ins, .int (Int8.ofInt n).toInt32, 0, 0)
  | .sipush n => (ins, .int (Int16.ofInt n).toInt32, 0, 0)
  | .lconst n => (ins, .long (Int64.ofNat (n : Nat)), 0, 0)
  | .ldc k => (ins, (match x_kc (x_mo m) k with | some e => e.2.1 | none => .null), 0, 0)
  | .ldc_w k => (ins, (match x_kc (x_mo m) k with | some e => e.2.1 | none => .null), 0, 0)
  | .iinc _ k => (ins, .int (Int32.ofInt k), 0, 0)
  | .getfield k => (match x_fl (x_mo m) k with | some e => (ins, .null, e.2.1, e.2.2.1) | none => (ins, .null, 0, 0))
  | .putfield k => (match x_fl (x_mo m) k with | some e => (ins, .null, e.2.1, e.2.2.1) | none => (ins, .null, 0, 0))
  | .new k => (match x_nw (x_mo m) k with | some e => (ins, .null, e.2.1, 0) | none => (ins, .null, 0, 0))
  | .newarray t => (ins, .null, x_kd t, (match st with | .int n :: _ => n.toNatClampNeg | _ => 0))
  | _ => (ins, .null, 0, 0)
def x_cmp (c : ClassFile.Cond) (x y : Int32) : Bool := match c with
  | .eq => decide (x = y)
  | .ne => decide (¬ x = y)
  | .lt => decide (x < y)
  | .ge => decide (y ≤ x)
  | .gt => decide (y < x)
  | .le => decide (x ≤ y)
def x_fillS (S : xS) (j : Nat) (x : Int32) : xS := x_pA S j (fun a => if a < x_N S j then x else x_A S j a)
def x_E0 : Nat × (Nat → Int32) := (0, fun _ => 0)
def x_bdb (bs : List (Int32 × Nat)) : Bool := bs.all (fun q => decide (¬ (q.1 < 0 ∨ q.2 ≤ q.1.toNatClampNeg)))
abbrev xG : Type := List (Nat × Value) × List Value × xS × Nat
def x_zok (ins : Instr) (st : List Value) : Bool := match ins with
  | .iastore => (match st with
    | _ :: _ :: .ref j :: _ => decide (j = 12)
    | _ => false)
  | .bastore => false
  | .lastore => false
  | _ => true
def x_go : Nat → Nat → Nat → Option Nat → Nat → List (Nat × Value) → List Value → xS → Option xG
  | 0, _, _, _, _, _, _, _ => none
  | k + 1, d, m, stop, pc, lv, st, S => if stop = some pc then some (lv, st, S, pc) else match decode (x_mB m) pc with
    | .error _ => none
    | .ok (ins, _) => match ins with
      | .return_ => if stop = none ∧ st = [] ∧ x_mR m = none ∧ decode (x_mB m) pc = .ok (.return_, 1) then some (lv, st, S, pc) else none
      | .goto off => if ((pc : Int) + off = ((((pc : Int) + off).toNat : Nat) : Int)) ∧ decode (x_mB m) pc = .ok (.goto off, 3) then x_go k d m stop ((pc : Int) + off).toNat lv st S else none
      | .if_icmp c off => (match st with
        | .int y :: .int x :: t => if ((pc : Int) + off = ((((pc : Int) + off).toNat : Nat) : Int)) ∧ decode (x_mB m) pc = .ok (.if_icmp c off, 3) then (if x_cmp c x y then x_go k d m stop ((pc : Int) + off).toNat lv t S else x_go k d m stop (pc + 3) lv t S) else none
        | _ => none)
      | .invokespecial idx => (match d, x_cl (x_mo m) idx with
        | d1 + 1, some (i0, kind, m1, ps) => if decode (x_mB m) pc = .ok (.invokespecial idx, 3) ∧ x_mo m < 20 then (if kind = 4 then (match st with
            | .ref _ :: t => if (t.map fun v => v.category).sum ≤ 8 then x_go k (d1 + 1) m stop (pc + 3) lv t S else none
            | _ => none)
          else if (kind = 2 ∨ kind = 3) ∧ m1 ∈ x_ctors then (match st.drop (x_mN m1) with
            | .ref b :: t => if (st.take (x_mN m1)).length = x_mN m1 ∧ (t.map fun v => v.category).sum ≤ 8 ∧ (lg_sl (.ref b :: (st.take (x_mN m1)).reverse)).length ≤ x_mL m1 then (match x_go k d1 m1 none 0 (lv_args 0 (.ref b :: (st.take (x_mN m1)).reverse)) [] S with
              | some (_, _, S1, _) => x_go k (d1 + 1) m stop (pc + 3) lv t S1
              | none => none) else none
            | _ => none)
          else none) else none
        | _, _ => none)
      | .invokestatic idx => (match d, x_cl (x_mo m) idx with
        | d1 + 1, some (i0, kind, m1, ps) => if decode (x_mB m) pc = .ok (.invokestatic idx, 3) ∧ x_mo m < 20 ∧ kind = 1 ∧ m1 = 230 then (match st with
            | .int x :: .ref j :: t => if x_K S j = 100 ∧ x_N S j < 2 ^ 31 ∧ (t.map fun v => v.category).sum ≤ 8 ∧ (j = 12 ∨ j = 23) then x_go k (d1 + 1) m stop (pc + 3) lv t (x_fillS S j x) else none
            | _ => none) else none
        | _, _ => none)
      | .iaload => none
      | .arraylength => none
      | _ => if x_chk m pc (x_ann m ins st) = true ∧ x_zok ins st = true then (match x_ex x_E0 (x_ann m ins st) lv st S with
        | some (bs, lv1, st1, S1) => if x_bdb bs = true then x_go k d m stop (pc + x_ln (x_ann m ins st).1) lv1 st1 S1 else none
        | none => none) else none
theorem x_ex_E {E E' : Nat × (Nat → Int32)} {i : xe} {lv : List (Nat × Value)} {st : List Value} {S : xS} (h1 : i.1 ≠ .iaload) (h2 : i.1 ≠ .arraylength) : x_ex E i lv st S = x_ex E' i lv st S := by
  obtain ⟨ins, v, a, b⟩ := i
  cases ins <;> first | rfl | exact absurd rfl h1 | exact absurd rfl h2
theorem x_bdb_ok : ∀ {bs : List (Int32 × Nat)}, x_bdb bs = true → x_bds bs
  | [], _ => trivial
  | q :: t, h => by
    unfold x_bdb at h
    rw [List.all_cons, Bool.and_eq_true] at h
    have h1 := of_decide_eq_true h.1
    exact ⟨h1, x_bdb_ok h.2⟩
theorem x_ann_1 {m : Nat} {ins : Instr} {st : List Value} : (x_ann m ins st).1 = ins := by
  unfold x_ann
  cases ins <;> first | rfl | (dsimp only; split <;> rfl)
theorem x_cmp_t {E : Nat × (Nat → Int32)} {d m pc tgt : Nat} {off : Int} {c : ClassFile.Cond} {lv : List (Nat × Value)} {st : List Value} {S S' : xS} {r : Option Value} {x y : Int32} (hdg : decode (x_mB m) pc = .ok (.if_icmp c off, 3)) (ht : (pc : Int) + off = (tgt : Int)) (hc : x_cmp c x y = true) (h : x_Rw E d m tgt lv st S r S') : x_Rw E d m pc lv (.int y :: .int x :: st) S r S' := by
  cases c
  all_goals (have hc := of_decide_eq_true hc)
  · exact xb_ic_eq_t hdg ht hc h
  · exact xb_ic_ne_t hdg ht hc h
  · exact xb_ic_lt_t hdg ht hc h
  · exact xb_ic_ge_t hdg ht hc h
  · exact xb_ic_gt_t hdg ht hc h
  · exact xb_ic_le_t hdg ht hc h
theorem x_cmp_f {E : Nat × (Nat → Int32)} {d m pc tgt : Nat} {off : Int} {c : ClassFile.Cond} {lv : List (Nat × Value)} {st : List Value} {S S' : xS} {r : Option Value} {x y : Int32} (hdg : decode (x_mB m) pc = .ok (.if_icmp c off, 3)) (ht : (pc : Int) + off = (tgt : Int)) (hc : ¬ x_cmp c x y = true) (h : x_Rw E d m (pc + 3) lv st S r S') : x_Rw E d m pc lv (.int y :: .int x :: st) S r S' := by
  cases c
  all_goals (have hc := of_decide_eq_false (Bool.eq_false_iff.mpr hc))
  · exact xb_ic_eq_f hdg ht hc h
  · exact xb_ic_ne_f hdg ht (Classical.not_not.mp hc) h
  · exact xb_ic_lt_f hdg ht hc h
  · exact xb_ic_ge_f hdg ht hc h
  · exact xb_ic_gt_f hdg ht hc h
  · exact xb_ic_le_f hdg ht hc h
def x_goP (E : Nat × (Nat → Int32)) (d m : Nat) (stop : Option Nat) (pc : Nat) (lv : List (Nat × Value)) (st : List Value) (S : xS) (G : xG) : Prop :=
  (stop = some G.2.2.2 → ∀ r S', x_Rw E d m G.2.2.2 G.1 G.2.1 G.2.2.1 r S' → x_Rw E d m pc lv st S r S') ∧ (stop = none → x_Rw E d m pc lv st S none G.2.2.1)
theorem x_goP.step {E : Nat × (Nat → Int32)} {d m pc pc1 : Nat} {stop : Option Nat} {lv lv1 : List (Nat × Value)} {st st1 : List Value} {S S1 : xS} {G : xG} (h : ∀ r S', x_Rw E d m pc1 lv1 st1 S1 r S' → x_Rw E d m pc lv st S r S') (k : x_goP E d m stop pc1 lv1 st1 S1 G) : x_goP E d m stop pc lv st S G := ⟨fun hs r S' hr => h _ _ (k.1 hs r S' hr), fun hs => h _ _ (k.2 hs)⟩
set_option maxHeartbeats 4000000 in
theorem x_go_ok {E : Nat × (Nat → Int32)} : ∀ (k d m : Nat) (stop : Option Nat) (pc : Nat) (lv : List (Nat × Value)) (st : List Value) (S : xS) (G : xG), x_go k d m stop pc lv st S = some G → (stop = none ∨ stop = some G.2.2.2) ∧ x_goP E d m stop pc lv st S G
  | 0, d, m, stop, pc, lv, st, S, G, h => by simp [x_go] at h
  | k + 1, d, m, stop, pc, lv, st, S, G, h => by
    unfold x_go at h
    split at h
    · rename_i hs
      cases (Option.some.inj h)
      exact ⟨Or.inr hs, fun _ r S' hr => hr, fun h0 => by rw [hs] at h0; cases h0⟩
    · split at h
      · cases h
      · rename_i ins ln hd
        split at h
        · split at h
          · rename_i hc
            cases (Option.some.inj h)
            obtain ⟨c1, c2, c3, c4⟩ := hc
            subst c2
            exact ⟨Or.inl c1, fun h0 => (by rw [c1] at h0; cases h0), fun _ => xi_ret0 c4 c3⟩
          · cases h
        · split at h
          · rename_i off hc
            obtain ⟨i1, i2⟩ := x_go_ok k _ _ _ _ _ _ _ _ h
            exact ⟨i1, i2.step (fun r S' hr => xi_goto hc.2 hc.1 hr)⟩
          · cases h
        · split at h
          · split at h
            · rename_i hc
              split at h
              · rename_i hq
                obtain ⟨i1, i2⟩ := x_go_ok k _ _ _ _ _ _ _ _ h
                exact ⟨i1, i2.step (fun r S' hr => x_cmp_t hc.2 hc.1 hq hr)⟩
              · rename_i hq
                obtain ⟨i1, i2⟩ := x_go_ok k _ _ _ _ _ _ _ _ h
                exact ⟨i1, i2.step (fun r S' hr => x_cmp_f hc.2 hc.1 hq hr)⟩
            · cases h
          · cases h
        · split at h
          · rename_i d1 i0 kind m1 ps hcl
            split at h
            · rename_i hdg
              split at h
              · rename_i hk4
                subst hk4
                split at h
                · split at h
                  · rename_i hst
                    obtain ⟨i1, i2⟩ := x_go_ok k _ _ _ _ _ _ _ _ h
                    exact ⟨i1, i2.step (fun r S' hr => xi_obj hdg.1 hcl hdg.2 hst hr)⟩
                  · cases h
                · cases h
              · split at h
                · rename_i hkk
                  split at h
                  · rename_i b t htk
                    split at h
                    · rename_i hst
                      split at h
                      · rename_i q1 q2 S1 q3 hgo
                        obtain ⟨j1, j2⟩ := x_go_ok k _ _ _ _ _ _ _ _ hgo
                        obtain ⟨i1, i2⟩ := x_go_ok k _ _ _ _ _ _ _ _ h
                        have hcall : x_Call E d1 m1 (.ref b :: (st.take (x_mN m1)).reverse) S none S1 := x_meth (x_ctok m1 hkk.2) hst.2.2 (j2.2 rfl)
                        have hsplit : st = (st.take (x_mN m1)).reverse.reverse ++ .ref b :: t := by
                          rw [List.reverse_reverse, ← htk, List.take_append_drop]
                        refine ⟨i1, i2.step (fun r S' hr => ?_)⟩
                        rw [hsplit]
                        rcases hkk.1 with rfl | rfl
                        · exact xi_callI hdg.1 hcl hdg.2 (by rw [List.length_reverse]; exact hst.1) hst.2.1 hcall hr
                        · exact xi_callIN hdg.1 hcl hdg.2 (by rw [List.length_reverse]; exact hst.1) hst.2.1 hcall hr
                      · cases h
                    · cases h
                  · cases h
                · cases h
            · cases h
          · cases h
        · split at h
          · rename_i d1 i0 kind m1 ps hcl
            split at h
            · rename_i hdg
              obtain ⟨g1, g2, rfl, rfl⟩ := hdg
              split at h
              · rename_i x j t
                split at h
                · rename_i hst
                  obtain ⟨i1, i2⟩ := x_go_ok k _ _ _ _ _ _ _ _ h
                  exact ⟨i1, i2.step (fun r S' hr => xi_callS (As := [.ref j, .int x]) (r1 := none) g1 hcl g2 rfl hst.2.2.1 (x_fillC hst.1 hst.2.1) hr)⟩
                · cases h
              · cases h
            · cases h
          · cases h
        · cases h
        · cases h
        · rename_i hn1 hn2 _ _ _ hia hal
          split at h
          · rename_i hc
            split at h
            · rename_i bs lv1 st1 S1 hx
              split at h
              · rename_i hb
                obtain ⟨i1, i2⟩ := x_go_ok k _ _ _ _ _ _ _ _ h
                refine ⟨i1, i2.step (fun r S' hr => ?_)⟩
                rw [x_ex_E (E' := E) (by rw [x_ann_1]; exact hia) (by rw [x_ann_1]; exact hal)] at hx
                exact x_ex_ok hc.1 hx (x_bdb_ok hb) hr
              · cases h
            · cases h
          · cases h
/-- no array but 12 and 23 is written -/
def x_Z (S : xS) : Prop := (∀ i, i = 12 ∨ i = 23 ∨ x_A S i = fun _ => 0) ∧ ∀ i, x_B S i = fun _ => 0
theorem x_Z_new {S : xS} (h : x_Z S) (a b : Nat) : x_Z (x_newA S a b) := by
  refine ⟨fun i => ?_, fun i => ?_⟩
  · by_cases e : i = x_n S
    · exact Or.inr (Or.inr (by rw [e]; exact xu1_s _ _ _))
    · have : x_A (x_newA S a b) i = x_A S i := xu1_n _ _ e
      rw [this]
      exact h.1 i
  · by_cases e : i = x_n S
    · rw [e]
      exact xu1_s _ _ _
    · have : x_B (x_newA S a b) i = x_B S i := xu1_n _ _ e
      rw [this]
      exact h.2 i
theorem x_Z_A {S : xS} (h : x_Z S) {j : Nat} (hj : j = 12 ∨ j = 23) (f : Nat → Int32) : x_Z (x_pA S j f) := by
  refine ⟨fun i => ?_, h.2⟩
  by_cases e : i = j
  · rcases hj with hj | hj
    · exact Or.inl (e.trans hj)
    · exact Or.inr (Or.inl (e.trans hj))
  · have : x_A (x_pA S j f) i = x_A S i := xu1_n _ _ e
    rw [this]
    exact h.1 i
theorem x_ex_Z {E : Nat × (Nat → Int32)} {i : xe} {lv : List (Nat × Value)} {st : List Value} {S : xS} {R : xR} (hx : x_ex E i lv st S = some R) (hk : x_zok i.1 st = true) (hz : x_Z S) : x_Z R.2.2.2 := by
  obtain ⟨ins, v, a, b⟩ := i
  cases ins with
  | iconst n =>
    cases (Option.some.inj hx)
    exact hz
  | bipush n =>
    cases (Option.some.inj hx)
    exact hz
  | sipush n =>
    cases (Option.some.inj hx)
    exact hz
  | lconst n =>
    cases (Option.some.inj hx)
    exact hz
  | ldc n =>
    cases (Option.some.inj hx)
    exact hz
  | ldc_w n =>
    cases (Option.some.inj hx)
    exact hz
  | ldc2_w n =>
    cases (Option.some.inj hx)
    exact hz
  | iload n =>
    obtain ⟨x, hk, rfl⟩ := x_dI_inv (show x_dI lv n st S = some R from hx)
    exact hz
  | iload_n n =>
    obtain ⟨x, hk, rfl⟩ := x_dI_inv (show x_dI lv n st S = some R from hx)
    exact hz
  | lload n =>
    obtain ⟨x, hk, rfl⟩ := x_dL_inv (show x_dL lv n st S = some R from hx)
    exact hz
  | lload_n n =>
    obtain ⟨x, hk, rfl⟩ := x_dL_inv (show x_dL lv n st S = some R from hx)
    exact hz
  | aload n =>
    obtain ⟨x, hk, rfl⟩ := x_dR_inv (show x_dR lv n st S = some R from hx)
    exact hz
  | aload_n n =>
    obtain ⟨x, hk, rfl⟩ := x_dR_inv (show x_dR lv n st S = some R from hx)
    exact hz
  | istore n =>
    obtain ⟨x, t, rfl, rfl⟩ := x_tI_inv (show x_tI lv n st S = some R from hx)
    exact hz
  | istore_n n =>
    obtain ⟨x, t, rfl, rfl⟩ := x_tI_inv (show x_tI lv n st S = some R from hx)
    exact hz
  | lstore n =>
    obtain ⟨x, t, rfl, rfl⟩ := x_tL_inv (show x_tL lv n st S = some R from hx)
    exact hz
  | lstore_n n =>
    obtain ⟨x, t, rfl, rfl⟩ := x_tL_inv (show x_tL lv n st S = some R from hx)
    exact hz
  | astore n =>
    obtain ⟨x, t, rfl, rfl⟩ := x_tR_inv (show x_tR lv n st S = some R from hx)
    exact hz
  | astore_n n =>
    obtain ⟨x, t, rfl, rfl⟩ := x_tR_inv (show x_tR lv n st S = some R from hx)
    exact hz
  | iinc n k =>
    obtain ⟨x, w, hk, he, rfl⟩ := x_inc_inv (show x_inc lv n v st S = some R from hx)
    exact hz
  | dup =>
    obtain ⟨w, t, rfl, hv, rfl⟩ := x_dup_inv (show x_dup lv st S = some R from hx)
    exact hz
  | pop =>
    obtain ⟨w, t, rfl, hv, rfl⟩ := x_pop_inv (show x_pop lv st S = some R from hx)
    exact hz
  | dup2 =>
    obtain ⟨w, u, t, rfl, hv, hw, rfl⟩ := x_dup2_inv (show x_dup2 lv st S = some R from hx)
    exact hz
  | iadd =>
    obtain ⟨y, x, t, rfl, rfl⟩ := x_b2_inv (show x_b2 _ lv st S = some R from hx)
    exact hz
  | isub =>
    obtain ⟨y, x, t, rfl, rfl⟩ := x_b2_inv (show x_b2 _ lv st S = some R from hx)
    exact hz
  | imul =>
    obtain ⟨y, x, t, rfl, rfl⟩ := x_b2_inv (show x_b2 _ lv st S = some R from hx)
    exact hz
  | iand =>
    obtain ⟨y, x, t, rfl, rfl⟩ := x_b2_inv (show x_b2 _ lv st S = some R from hx)
    exact hz
  | ior =>
    obtain ⟨y, x, t, rfl, rfl⟩ := x_b2_inv (show x_b2 _ lv st S = some R from hx)
    exact hz
  | ixor =>
    obtain ⟨y, x, t, rfl, rfl⟩ := x_b2_inv (show x_b2 _ lv st S = some R from hx)
    exact hz
  | ishl =>
    obtain ⟨y, x, t, rfl, rfl⟩ := x_b2_inv (show x_b2 _ lv st S = some R from hx)
    exact hz
  | ishr =>
    obtain ⟨y, x, t, rfl, rfl⟩ := x_b2_inv (show x_b2 _ lv st S = some R from hx)
    exact hz
  | iushr =>
    obtain ⟨y, x, t, rfl, rfl⟩ := x_b2_inv (show x_b2 _ lv st S = some R from hx)
    exact hz
  | ladd =>
    obtain ⟨y, x, t, rfl, rfl⟩ := x_l2_inv (show x_l2 _ lv st S = some R from hx)
    exact hz
  | lsub =>
    obtain ⟨y, x, t, rfl, rfl⟩ := x_l2_inv (show x_l2 _ lv st S = some R from hx)
    exact hz
  | lmul =>
    obtain ⟨y, x, t, rfl, rfl⟩ := x_l2_inv (show x_l2 _ lv st S = some R from hx)
    exact hz
  | land =>
    obtain ⟨y, x, t, rfl, rfl⟩ := x_l2_inv (show x_l2 _ lv st S = some R from hx)
    exact hz
  | lor =>
    obtain ⟨y, x, t, rfl, rfl⟩ := x_l2_inv (show x_l2 _ lv st S = some R from hx)
    exact hz
  | lushr =>
    obtain ⟨y, x, t, rfl, rfl⟩ := x_li_inv (show x_li _ lv st S = some R from hx)
    exact hz
  | lshl =>
    obtain ⟨y, x, t, rfl, rfl⟩ := x_li_inv (show x_li _ lv st S = some R from hx)
    exact hz
  | i2l =>
    obtain ⟨x, t, rfl, rfl⟩ := x_il_inv (show x_il lv st S = some R from hx)
    exact hz
  | lcmp =>
    obtain ⟨y, x, t, rfl, rfl⟩ := x_lc_inv (show x_lc lv st S = some R from hx)
    exact hz
  | getfield k =>
    obtain ⟨j, t, w, rfl, hK, hv, rfl⟩ := x_gf_inv (show x_gf a b lv st S = some R from hx)
    exact hz
  | putfield k =>
    rcases x_pf_inv (show x_pf a b lv st S = some R from hx) with ⟨x, j, t, rfl, hK, ht, rfl⟩ | ⟨x, j, t, rfl, hK, ht, rfl⟩ | ⟨x, j, t, rfl, hK, ht, rfl⟩ | ⟨x, j, t, rfl, hK, ht, rfl⟩ <;> exact hz
  | iaload =>
    obtain ⟨i, j, t, rfl, ⟨hK, rfl⟩ | ⟨rfl, rfl⟩⟩ := x_al_inv (show x_al E lv st S = some R from hx) <;> exact hz
  | baload =>
    obtain ⟨i, j, t, rfl, hK, rfl⟩ := x_zl_inv (show x_zl lv st S = some R from hx)
    exact hz
  | laload =>
    obtain ⟨i, j, t, rfl, hK, rfl⟩ := x_ll_inv (show x_ll lv st S = some R from hx)
    exact hz
  | iastore =>
    obtain ⟨x, i, j, t, rfl, hK, rfl⟩ := x_as_inv (show x_as lv st S = some R from hx)
    have hj : j = 12 := of_decide_eq_true hk
    exact x_Z_A hz (Or.inl hj) _
  | bastore =>
    exact absurd hk (by simp [x_zok])
  | lastore =>
    exact absurd hk (by simp [x_zok])
  | arraylength =>
    obtain ⟨j, t, rfl, ⟨hK, rfl⟩ | ⟨rfl, rfl⟩⟩ := x_len_inv (show x_len E lv st S = some R from hx) <;> exact hz
  | new k =>
    obtain ⟨hn, rfl⟩ := x_mkN_inv (show x_mkN a lv st S = some R from hx)
    exact hz
  | newarray ty =>
    obtain ⟨n, t, rfl, _, rfl⟩ := x_mkA_inv (show x_mkA a b lv st S = some R from hx)
    exact x_Z_new hz a b
  | _ => exact absurd hx (by simp [x_ex])
set_option maxHeartbeats 4000000 in
theorem x_go_Z : ∀ (k d m : Nat) (stop : Option Nat) (pc : Nat) (lv : List (Nat × Value)) (st : List Value) (S : xS) (G : xG), x_go k d m stop pc lv st S = some G → x_Z S → x_Z G.2.2.1
  | 0, d, m, stop, pc, lv, st, S, G, h, hz => by simp [x_go] at h
  | k + 1, d, m, stop, pc, lv, st, S, G, h, hz => by
    unfold x_go at h
    split at h
    · cases (Option.some.inj h)
      exact hz
    · split at h
      · cases h
      · split at h
        · split at h
          · cases (Option.some.inj h)
            exact hz
          · cases h
        · split at h
          · exact x_go_Z k _ _ _ _ _ _ _ _ h hz
          · cases h
        · split at h
          · split at h
            · split at h
              · exact x_go_Z k _ _ _ _ _ _ _ _ h hz
              · exact x_go_Z k _ _ _ _ _ _ _ _ h hz
            · cases h
          · cases h
        · split at h
          · split at h
            · split at h
              · split at h
                · split at h
                  · exact x_go_Z k _ _ _ _ _ _ _ _ h hz
                  · cases h
                · cases h
              · split at h
                · split at h
                  · split at h
                    · split at h
                      · rename_i hgo
                        exact x_go_Z k _ _ _ _ _ _ _ _ h (x_go_Z k _ _ _ _ _ _ _ _ hgo hz)
                      · cases h
                    · cases h
                  · cases h
                · cases h
            · cases h
          · cases h
        · split at h
          · split at h
            · split at h
              · split at h
                · rename_i hst
                  exact x_go_Z k _ _ _ _ _ _ _ _ h (x_Z_A hz hst.2.2.2 _)
                · cases h
              · cases h
            · cases h
          · cases h
        · cases h
        · cases h
        · split at h
          · rename_i hc
            split at h
            · rename_i hx
              split at h
              · exact x_go_Z k _ _ _ _ _ _ _ _ h (x_ex_Z hx (by rw [x_ann_1]; exact hc.2) hz)
              · cases h
            · cases h
          · cases h
end
section
def x_S0 : xS := (fun _ _ => 0, fun _ _ => 0, fun _ _ => none, fun _ _ => 0, fun _ _ => 0, fun _ => 0, fun _ => 999, 0, 0, 0)
def x_G1 : Option xG := x_go 3000 40 239 (some 23) 0 [(0, .ref 1000000)] [] x_S0
def x_lv1 : List (Nat × Value) := [(4, .int (nI 0)), (3, .ref 139), (2, .ref 80), (1, .ref 0), (0, .ref 1000000)]
def x_ints : List (Nat × Nat × Int32) := [(0, 12, nI 0), (0, 13, nI 0), (1, 1, nI 0), (3, 7, nI 0), (11, 5, nI 0), (11, 6, nI 0), (11, 7, nI 0), (17, 4, nI 0), (17, 5, nI 0), (17, 6, nI 0), (17, 7, nI 0), (17, 8, nI 0), (21, 3, nI 1), (21, 4, nI 0), (25, 12, nI 0), (25, 13, nI 0), (25, 14, nI 0), (49, 14, (-1)), (49, 15, nI 0), (60, 6, nI 0), (67, 10, nI 0), (67, 11, nI 0), (67, 12, nI 1), (74, 4, nI 0), (74, 8, nI 0), (74, 9, nI 0), (80, 0, nI 0), (80, 3, nI 0), (80, 4, nI 0), (80, 5, nI 0), (80, 6, nI 1), (80, 20, nI 0), (80, 21, nI 0), (80, 22, nI 0), (80, 23, nI 0), (80, 24, nI 0), (80, 25, nI 0), (80, 26, nI 0), (80, 27, nI 0), (80, 28, nI 0), (80, 29, nI 0), (80, 30, nI 0), (80, 31, nI 0), (80, 37, nI 0), (80, 50, nI 0), (80, 51, nI 0), (80, 52, nI 0), (80, 61, nI 0), (80, 62, nI 0), (80, 70, nI 0), (80, 72, nI 0), (80, 73, nI 0), (80, 82, nI 0), (80, 83, nI 0)]
def x_chkG (g : xG) : Bool := decide (g.1 = x_lv1 ∧ g.2.1 = [] ∧ g.2.2.2 = 23) && decide (x_n g.2.2.1 = 140 ∧ x_k g.2.2.1 = 140 ∧ x_z g.2.2.1 = 133535)
  && (List.range 140).all (fun i => decide (x_K g.2.2.1 i = x_K0 i) && decide (x_N g.2.2.1 i = x_N0 i) && (List.range (x_nf (x_K0 i))).all (fun k => decide (x_P g.2.2.1 i k = x_P0 57 i k)))
  && x_ints.all (fun q => decide (x_I g.2.2.1 q.1 q.2.1 = q.2.2)) && decide (x_L g.2.2.1 80 32 = 0)
  && (List.range 12).all (fun a => (List.range 12).all (fun b => decide (x_A g.2.2.1 12 (12 * a + b) = if a = b then nI 0 else nI 1000000)))
  && (List.range 5).all (fun a => decide (x_A g.2.2.1 23 a = -1))
theorem x_G1_ok : (match x_G1 with
  | some g => x_chkG g
  | none => false) = true := by decide +kernel
def x_S1 : xS := match x_G1 with
  | some g => g.2.2.1
  | none => x_S0
theorem x_G1_g : ∃ g, x_G1 = some g ∧ x_S1 = g.2.2.1 ∧ x_chkG g = true := by
  have h := x_G1_ok
  unfold x_S1
  cases hg : x_G1 with
  | none => rw [hg] at h; cases h
  | some g => rw [hg] at h; exact ⟨g, rfl, rfl, h⟩
def v0 : xV := (x_I x_S1, x_L x_S1, x_A x_S1, x_B x_S1, fun _ => 0, 57, 140, 140, 133535)
theorem x_S1_all : (x_n x_S1 = 140 ∧ x_k x_S1 = 140 ∧ x_z x_S1 = 133535) ∧ (∀ i, i < 140 → x_K x_S1 i = x_K0 i ∧ x_N x_S1 i = x_N0 i ∧ ∀ k, k < x_nf (x_K0 i) → x_P x_S1 i k = x_P0 57 i k) ∧ (∀ q ∈ x_ints, x_I x_S1 q.1 q.2.1 = q.2.2) ∧ x_L x_S1 80 32 = 0 ∧ (∀ a, a < 12 → ∀ b, b < 12 → x_A x_S1 12 (12 * a + b) = if a = b then nI 0 else nI 1000000) ∧ (∀ a, a < 5 → x_A x_S1 23 a = -1) := by
  obtain ⟨g, h1, h2, h3⟩ := x_G1_g
  rw [h2]
  simp only [x_chkG, Bool.and_eq_true, List.all_eq_true, decide_eq_true_eq, List.mem_range] at h3
  obtain ⟨⟨⟨⟨⟨⟨a1, a2⟩, a3⟩, a4⟩, a5⟩, a6⟩, a7⟩ := h3
  exact ⟨a2, fun i hi => ⟨(a3 i hi).1.1, (a3 i hi).1.2, (a3 i hi).2⟩, a4, a5, a6, a7⟩
theorem x_S1_Z : x_Z x_S1 := by
  obtain ⟨g, h1, h2, h3⟩ := x_G1_g
  rw [h2]
  exact x_go_Z _ _ _ _ _ _ _ _ _ h1 ⟨fun _ => Or.inr (Or.inr rfl), fun _ => rfl⟩
theorem x_PT_lt : x_PT.all (fun l => l.all (fun o => match o with
  | some r => decide (r < 140)
  | none => true)) = true := by decide +kernel
theorem x_P0_lt {n b i k r : Nat} (hb : b + 2 < n) (hn : 140 ≤ n) (h : x_P0 b i k = some r) : r < n := by
  have tb : ∀ i k r, (x_PT.getD i []).getD k none = some r → r < 140 := by
    intro i k r h
    simp only [List.getD_eq_getElem?_getD] at h
    cases h1 : x_PT[i]? with
    | none => rw [h1] at h; simp at h
    | some l =>
      rw [h1, Option.getD_some] at h
      cases h2 : l[k]? with
      | none => rw [h2] at h; simp at h
      | some o =>
        rw [h2, Option.getD_some] at h
        have q1 := List.all_eq_true.mp (List.all_eq_true.mp x_PT_lt l (List.mem_of_getElem? h1)) o (List.mem_of_getElem? h2)
        rw [h] at q1
        exact of_decide_eq_true q1
  unfold x_P0 at h
  split at h
  · split at h
    · cases h; omega
    · split at h
      · cases h; omega
      · split at h
        · cases h; omega
        · have := tb _ _ _ h; omega
  · have := tb _ _ _ h; omega
theorem x_wf_rt {v : xV} (h1 : 140 ≤ gn v) (h2 : gn v ≤ x_ext0) (h3 : gb v + 2 < gn v) : x_wf (rt v) := by
  refine ⟨h2, fun j hj => ?_, fun i k r hr => Or.inl (x_P0_lt h3 h1 hr)⟩
  have hj : gK v j < 200 := hj
  show j < gn v
  unfold gK at hj
  by_cases a : j < 140
  · omega
  · rw [if_neg a] at hj
    by_cases b : j < gn v
    · exact b
    · rw [if_neg b] at hj; omega
/-- states that look the same -/
theorem x_same {E : Nat × (Nat → Int32)} {d m pc : Nat} {lv : List (Nat × Value)} {st : List Value} {S T S' : xS} {r : Option Value} (hw : ∀ cs al, x_w cs al S = x_w cs al T) (hn : x_n S = x_n T) (hk : x_k S = x_k T) (hz : x_z S = x_z T) (hf : x_wf T) (h : x_Rw E d m pc lv st T r S') : x_Rw E d m pc lv st S r S' := by
  refine ⟨by rw [hn, hk, hz]; exact h.1, ?_⟩
  intro l p e R s mid args below meth c A D cs q al H locs ls cells slots Q C X hl w1 w2 hc hs kk
  rw [hk] at hc
  rw [hz] at hs
  rw [hn] at w1 w2
  refine h.2 l p e R s mid args below meth c A D cs q al H locs ls cells slots Q C ⟨by rw [← hw]; exact X.1, by rw [← hw]; exact X.2.1, X.2.2.1, X.2.2.2.1, hf⟩ hl w1 w2 hc hs (fun al' H' locs' ls' pc' x1 X1 w3 hr => ?_)
  have := kk al' H' locs' ls' pc' (by rw [hn]; exact x1) X1 w3 hr
  rw [hk, hz] at this
  exact this
theorem x_toV {S : xS} {z : Nat} (n1 : x_n S = 140) (n4 : ∀ i, i < 140 → x_K S i = x_K0 i ∧ x_N S i = x_N0 i ∧ ∀ k, k < x_nf (x_K0 i) → x_P S i k = x_P0 57 i k) (cs : ClassId × ClassId × ClassId) (al : Nat → Nat) : x_w cs al S = x_w cs al (rt (x_I S, x_L S, x_A S, x_B S, fun _ => 0, 57, 140, 140, z)) := by
  unfold x_w
  rw [n1]
  refine List.map_congr_left (fun i hi => ?_)
  have hi : i < 140 := List.mem_range.mp hi
  obtain ⟨m1, m2, m3⟩ := n4 i hi
  have e1 : x_K (rt (x_I S, x_L S, x_A S, x_B S, fun _ => 0, 57, 140, 140, z)) i = x_K0 i := gK_s hi
  have e2 : x_N (rt (x_I S, x_L S, x_A S, x_B S, fun _ => 0, 57, 140, 140, z)) i = x_N0 i := gN_s hi
  have hfs : x_fs al S i (x_K0 i) = x_fs al (rt (x_I S, x_L S, x_A S, x_B S, fun _ => 0, 57, 140, 140, z)) i (x_K0 i) := by
    unfold x_fs
    refine List.map_congr_left (fun k hk => ?_)
    unfold x_fv
    rw [m3 k (List.mem_range.mp hk)]
    rfl
  unfold x_cell
  rw [m1, m2, e1, e2, hfs]
  rfl
theorem x_begin {E : Nat × (Nat → Int32)} {S' : xS} {r : Option Value} (h : x_Rw E 40 239 23 [(0, .ref 1000000), (1, .ref 0), (2, .ref 80), (3, .ref 139), (4, .int (nI 0))] [] (rt v0) r S') : x_Rw E 40 239 0 [(0, .ref 1000000)] [] x_S0 r S' := by
  obtain ⟨g, h1, h2, h3⟩ := x_G1_g
  have hall := x_S1_all
  obtain ⟨i1, i2⟩ := x_go_ok (E := E) _ _ _ _ _ _ _ _ _ h1
  simp only [x_chkG, Bool.and_eq_true, decide_eq_true_eq] at h3
  obtain ⟨⟨⟨⟨⟨⟨⟨b1, b2, b3⟩, -⟩, -⟩, -⟩, -⟩, -⟩, -⟩ := h3
  have := i2.1 (by rw [b3]) r S'
  rw [b1, b2, b3, ← h2] at this
  refine this (x_sub [4, 3, 2, 1, 0] rfl ?_)
  obtain ⟨⟨n1, n2, n3⟩, n4, -⟩ := hall
  refine x_same (T := rt v0) (fun cs al => ?_) n1 n2 n3 (x_wf_rt (Nat.le_refl _) (by decide) (by decide)) h
  exact x_toV n1 n4 cs al
end
section
theorem x_probe : True := trivial
end
