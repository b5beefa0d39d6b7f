def x_O : List String := [RX0, RX1, RX2, RX3, RX4, RX5, RX6, RX7, RX8, RX9, RX10, RX11, RX12, RL, "java/lang/Math", "java/lang/Integer", "java/util/Arrays", "java/lang/String", "java/lang/StringLatin1", "jdk/internal/util/Preconditions"]
def x_o (o : Nat) : String := x_O.getD o ""
def x_M0 : List (Nat × MethodName × ByteArray × Nat × Option FieldType × Nat) := [(0, ⟨RX0, "<init>", "()V"⟩, prog_2_method_1_code, 1, none, 0),
  (0, ⟨RX0, "add", "(IIIIII)I"⟩, prog_2_method_2_code, 7, some .int, 6),
  (0, ⟨RX0, "knownCount", "(I)I"⟩, prog_2_method_3_code, 4, some .int, 1),
  (1, ⟨RX1, "<init>", "()V"⟩, prog_3_method_1_code, 1, none, 0),
  (1, ⟨RX1, "addScrawl", "(IIII)I"⟩, prog_3_method_2_code, 5, some .int, 4),
  (1, ⟨RX1, "addPhoto", "(ILScrawlHouse$Tape;I)Z"⟩, prog_3_method_3_code, 5, some .boolean, 3),
  (1, ⟨RX1, "addDrawing", "(IILScrawlHouse$Tape;I)Z"⟩, prog_3_method_4_code, 6, some .boolean, 4),
  (1, ⟨RX1, "isScrawl", "(I)Z"⟩, prog_3_method_5_code, 2, some .boolean, 1),
  (1, ⟨RX1, "isKnown", "(II)Z"⟩, prog_3_method_6_code, 3, some .boolean, 2),
  (1, ⟨RX1, "knownCount", "(I)I"⟩, prog_3_method_7_code, 4, some .int, 1),
  (1, ⟨RX1, "lastPhoto", "(II)I"⟩, prog_3_method_8_code, 4, some .int, 2),
  (1, ⟨RX1, "lastDrawings", "(II[I)V"⟩, prog_3_method_9_code, 6, none, 3),
  (2, ⟨RX2, "<init>", "(LScrawlHouse$Finds;LScrawlHouse$Readings;LScrawlHouse$Years;)V"⟩, prog_4_method_1_code, 4, none, 3),
  (2, ⟨RX2, "giveHands", "(I)V"⟩, prog_4_method_2_code, 4, none, 1),
  (2, ⟨RX2, "leastHand", "(I)I"⟩, prog_4_method_3_code, 3, some .int, 1),
  (2, ⟨RX2, "isOfHand", "(II)Z"⟩, prog_4_method_4_code, 6, some .boolean, 2),
  (2, ⟨RX2, "part", "(II)V"⟩, prog_4_method_5_code, 4, none, 2),
  (2, ⟨RX2, "gatherMembers", "(II)V"⟩, prog_4_method_6_code, 4, none, 2),
  (2, ⟨RX2, "clashesOf", "(I)I"⟩, prog_4_method_7_code, 4, some .int, 1),
  (2, ⟨RX2, "cantBeOne", "(II)Z"⟩, prog_4_method_8_code, 5, some .boolean, 2),
  (2, ⟨RX2, "canNumber", "(III)Z"⟩, prog_4_method_9_code, 5, some .boolean, 3),
  (2, ⟨RX2, "mayJoin", "(II)Z"⟩, prog_4_method_10_code, 4, some .boolean, 2),
  (2, ⟨RX2, "numberOf", "(I)I"⟩, prog_4_method_11_code, 3, some .int, 1),
  (2, ⟨RX2, "wallsOf", "(I)I"⟩, prog_4_method_12_code, 4, some .int, 1),
  (3, ⟨RX3, "<init>", "()V"⟩, prog_5_method_1_code, 1, none, 0),
  (3, ⟨RX3, "addForm", "(II)I"⟩, prog_5_method_2_code, 5, some .int, 2),
  (3, ⟨RX3, "addWord", "(LScrawlHouse$Tape;I)I"⟩, prog_5_method_3_code, 4, some .int, 2),
  (3, ⟨RX3, "isWordText", "(LScrawlHouse$Tape;)Z"⟩, prog_5_method_4_code, 3, some .boolean, 1),
  (3, ⟨RX3, "hasText", "(ILScrawlHouse$Tape;)Z"⟩, prog_5_method_5_code, 4, some .boolean, 2),
  (3, ⟨RX3, "addHabit", "(III)I"⟩, prog_5_method_6_code, 4, some .int, 3),
  (3, ⟨RX3, "hasHabit", "(III)Z"⟩, prog_5_method_7_code, 4, some .boolean, 3),
  (3, ⟨RX3, "isOfSort", "(II)Z"⟩, prog_5_method_8_code, 3, some .boolean, 2),
  (4, ⟨RX4, "<init>", "()V"⟩, prog_6_method_1_code, 1, none, 0),
  (4, ⟨RX4, "build", "(LScrawlHouse$PatternText;)V"⟩, prog_6_method_2_code, 9, none, 1),
  (4, ⟨RX4, "step", "(II)I"⟩, prog_6_method_3_code, 3, some .int, 2),
  (4, ⟨RX4, "stateOf", "(LScrawlHouse$PatternText;JI)I"⟩, prog_6_method_4_code, 6, some .int, 3),
  (4, ⟨RX4, "addState", "(LScrawlHouse$PatternText;J)I"⟩, prog_6_method_5_code, 6, some .int, 2),
  (4, ⟨RX4, "moved", "(LScrawlHouse$PatternText;JI)J"⟩, prog_6_method_6_code, 9, some .long, 3),
  (4, ⟨RX4, "standsFrom", "(LScrawlHouse$PatternText;II)J"⟩, prog_6_method_7_code, 6, some .long, 3),
  (4, ⟨RX4, "standBit", "(II)J"⟩, prog_6_method_8_code, 2, some .long, 2)]
def x_M1 : List (Nat × MethodName × ByteArray × Nat × Option FieldType × Nat) := [(5, ⟨RX5, "<init>", "(LScrawlHouse$Tape;)V"⟩, prog_7_method_1_code, 2, none, 1),
  (5, ⟨RX5, "parse", "()Z"⟩, prog_7_method_2_code, 3, some .boolean, 0),
  (5, ⟨RX5, "startPattern", "()V"⟩, prog_7_method_3_code, 1, none, 0),
  (5, ⟨RX5, "refuse", "(II)V"⟩, prog_7_method_4_code, 3, none, 2),
  (5, ⟨RX5, "takeToken", "(I)I"⟩, prog_7_method_5_code, 3, some .int, 1),
  (5, ⟨RX5, "takeItem", "(I)I"⟩, prog_7_method_6_code, 4, some .int, 1),
  (5, ⟨RX5, "takeAsk", "(I)V"⟩, prog_7_method_7_code, 2, none, 1),
  (5, ⟨RX5, "takeStop", "(I)V"⟩, prog_7_method_8_code, 4, none, 1),
  (5, ⟨RX5, "sortOf", "(II)I"⟩, prog_7_method_9_code, 4, some .int, 2),
  (5, ⟨RX5, "spells", "(Ljava/lang/String;II)Z"⟩, prog_7_method_10_code, 5, some .boolean, 3),
  (5, ⟨RX5, "sortName", "(I)Ljava/lang/String;"⟩, prog_7_method_11_code, 1, some (.object "java/lang/String"), 1),
  (6, ⟨RX6, "<init>", "(LScrawlHouse$Lore;LScrawlHouse$Machine;LScrawlHouse$Finds;LScrawlHouse$Readings;)V"⟩, prog_8_method_1_code, 5, none, 4),
  (6, ⟨RX6, "lookAll", "(I)V"⟩, prog_8_method_2_code, 4, none, 1),
  (6, ⟨RX6, "look", "(II)V"⟩, prog_8_method_3_code, 3, none, 2),
  (6, ⟨RX6, "gather", "(II)V"⟩, prog_8_method_4_code, 3, none, 2),
  (6, ⟨RX6, "isSameEvidence", "(I)Z"⟩, prog_8_method_5_code, 3, some .boolean, 1),
  (6, ⟨RX6, "keepEvidence", "(I)V"⟩, prog_8_method_6_code, 3, none, 1),
  (6, ⟨RX6, "letterCost", "(II)I"⟩, prog_8_method_7_code, 6, some .int, 2),
  (6, ⟨RX6, "formCost", "(II)I"⟩, prog_8_method_8_code, 7, some .int, 2),
  (6, ⟨RX6, "mayForm", "(III)Z"⟩, prog_8_method_9_code, 7, some .boolean, 3),
  (6, ⟨RX6, "weighLetters", "()V"⟩, prog_8_method_10_code, 3, none, 0),
  (6, ⟨RX6, "startSearch", "()V"⟩, prog_8_method_11_code, 3, none, 0),
  (6, ⟨RX6, "search", "(III)I"⟩, prog_8_method_12_code, 9, some .int, 3),
  (6, ⟨RX6, "weigh", "(III)V"⟩, prog_8_method_13_code, 5, none, 3),
  (6, ⟨RX6, "listFits", "(I)V"⟩, prog_8_method_14_code, 5, none, 1),
  (6, ⟨RX6, "wordCost", "(II)I"⟩, prog_8_method_15_code, 7, some .int, 2),
  (6, ⟨RX6, "keepBest", "(I)V"⟩, prog_8_method_16_code, 7, none, 1),
  (6, ⟨RX6, "keepFirst", "(II)V"⟩, prog_8_method_17_code, 4, none, 2),
  (6, ⟨RX6, "keepForms", "(I)V"⟩, prog_8_method_18_code, 7, none, 1),
  (6, ⟨RX6, "formsThatMay", "(II)I"⟩, prog_8_method_19_code, 5, some .int, 2),
  (6, ⟨RX6, "onlyForm", "(I)I"⟩, prog_8_method_20_code, 2, some .int, 1),
  (7, ⟨RX7, "<init>", "()V"⟩, prog_9_method_1_code, 1, none, 0),
  (7, ⟨RX7, "forget", "()V"⟩, prog_9_method_2_code, 2, none, 0),
  (7, ⟨RX7, "clear", "(I)V"⟩, prog_9_method_3_code, 2, none, 1),
  (7, ⟨RX7, "firstOf", "(II)I"⟩, prog_9_method_4_code, 3, some .int, 2),
  (7, ⟨RX7, "compare", "(II)I"⟩, prog_9_method_5_code, 8, some .int, 2),
  (8, ⟨RX8, "<init>", "()V"⟩, prog_10_method_1_code, 1, none, 0),
  (8, ⟨RX8, "addNumber", "(I)V"⟩, prog_10_method_2_code, 3, none, 1),
  (8, ⟨RX8, "at", "(I)I"⟩, prog_10_method_3_code, 2, some .int, 1),
  (9, ⟨RX9, "<init>", "()V"⟩, prog_11_method_1_code, 2, none, 0)]
def x_M2 : List (Nat × MethodName × ByteArray × Nat × Option FieldType × Nat) := [(9, ⟨RX9, "addStreet", "(III)Z"⟩, prog_11_method_2_code, 4, some .boolean, 3),
  (9, ⟨RX9, "shorten", "(III)V"⟩, prog_11_method_3_code, 9, none, 3),
  (9, ⟨RX9, "addWall", "(II)I"⟩, prog_11_method_4_code, 3, some .int, 2),
  (9, ⟨RX9, "isLayer", "(II)Z"⟩, prog_11_method_5_code, 3, some .boolean, 2),
  (9, ⟨RX9, "isCorner", "(I)Z"⟩, prog_11_method_6_code, 1, some .boolean, 1),
  (9, ⟨RX9, "leastWay", "(I)I"⟩, prog_11_method_7_code, 5, some .int, 1),
  (9, ⟨RX9, "gatherStops", "(I)V"⟩, prog_11_method_8_code, 5, none, 1),
  (9, ⟨RX9, "way", "(II)I"⟩, prog_11_method_9_code, 3, some .int, 2),
  (9, ⟨RX9, "shortestTour", "(II)I"⟩, prog_11_method_10_code, 7, some .int, 2),
  (10, ⟨RX10, "<init>", "(LScrawlHouse$Town;LScrawlHouse$Finds;LScrawlHouse$Facts;LScrawlHouse$Readings;)V"⟩, prog_12_method_1_code, 5, none, 4),
  (10, ⟨RX10, "settle", "(I)V"⟩, prog_12_method_2_code, 4, none, 1),
  (10, ⟨RX10, "firstSpoilt", "(I)I"⟩, prog_12_method_3_code, 4, some .int, 1),
  (10, ⟨RX10, "endOf", "(IZ)I"⟩, prog_12_method_4_code, 3, some .int, 2),
  (10, ⟨RX10, "areApart", "(II)Z"⟩, prog_12_method_5_code, 3, some .boolean, 2),
  (10, ⟨RX10, "datedLayer", "(II)I"⟩, prog_12_method_6_code, 3, some .int, 2),
  (10, ⟨RX10, "begin", "(I)V"⟩, prog_12_method_7_code, 3, none, 1),
  (10, ⟨RX10, "hear", "(I)V"⟩, prog_12_method_8_code, 2, none, 1),
  (10, ⟨RX10, "narrow", "(II)V"⟩, prog_12_method_9_code, 3, none, 2),
  (10, ⟨RX10, "hearStood", "(I)V"⟩, prog_12_method_10_code, 4, none, 1),
  (10, ⟨RX10, "hearThing", "(I)V"⟩, prog_12_method_11_code, 4, none, 1),
  (10, ⟨RX10, "allow", "(III)V"⟩, prog_12_method_12_code, 5, none, 3),
  (10, ⟨RX10, "mayBe", "(II)Z"⟩, prog_12_method_13_code, 4, some .boolean, 2),
  (10, ⟨RX10, "firstYear", "(II)I"⟩, prog_12_method_14_code, 4, some .int, 2),
  (10, ⟨RX10, "lastYear", "(II)I"⟩, prog_12_method_15_code, 4, some .int, 2),
  (10, ⟨RX10, "settleLeast", "()Z"⟩, prog_12_method_16_code, 3, some .boolean, 0),
  (10, ⟨RX10, "allHaveYears", "()Z"⟩, prog_12_method_17_code, 2, some .boolean, 0),
  (10, ⟨RX10, "settleGreatest", "()V"⟩, prog_12_method_18_code, 3, none, 0),
  (10, ⟨RX10, "sweepUp", "()Z"⟩, prog_12_method_19_code, 4, some .boolean, 0),
  (10, ⟨RX10, "sweepDown", "()Z"⟩, prog_12_method_20_code, 4, some .boolean, 0),
  (10, ⟨RX10, "isCovered", "(I)Z"⟩, prog_12_method_21_code, 2, some .boolean, 1),
  (10, ⟨RX10, "raise", "(II)Z"⟩, prog_12_method_22_code, 3, some .boolean, 2),
  (10, ⟨RX10, "lower", "(II)Z"⟩, prog_12_method_23_code, 3, some .boolean, 2),
  (11, ⟨RX11, "<init>", "()V"⟩, prog_1_method_1_code, 1, none, 0),
  (11, ⟨RX11, "feed", "(IIIII)I"⟩, prog_1_method_2_code, 6, some .int, 5),
  (11, ⟨RX11, "end", "(I)Z"⟩, prog_1_method_3_code, 2, some .boolean, 1),
  (11, ⟨RX11, "next", "(I)I"⟩, prog_1_method_4_code, 2, some .int, 1),
  (11, ⟨RX11, "form", "(II)I"⟩, prog_1_method_5_code, 4, some .int, 2),
  (11, ⟨RX11, "word", "(I)I"⟩, prog_1_method_6_code, 3, some .int, 1),
  (11, ⟨RX11, "street", "(III)Z"⟩, prog_1_method_7_code, 4, some .boolean, 3),
  (11, ⟨RX11, "wall", "(II)I"⟩, prog_1_method_8_code, 3, some .int, 2)]
def x_M3 : List (Nat × MethodName × ByteArray × Nat × Option FieldType × Nat) := [(11, ⟨RX11, "habit", "(III)I"⟩, prog_1_method_9_code, 5, some .int, 3),
  (11, ⟨RX11, "patterns", "()I"⟩, prog_1_method_10_code, 2, some .int, 0),
  (11, ⟨RX11, "fault", "()I"⟩, prog_1_method_11_code, 1, some .int, 0),
  (11, ⟨RX11, "scrawl", "(III)I"⟩, prog_1_method_12_code, 4, some .int, 3),
  (11, ⟨RX11, "photo", "(I)Z"⟩, prog_1_method_13_code, 3, some .boolean, 1),
  (11, ⟨RX11, "drawing", "(II)Z"⟩, prog_1_method_14_code, 4, some .boolean, 2),
  (11, ⟨RX11, "cost", "(IIII)I"⟩, prog_1_method_15_code, 5, some .int, 4),
  (11, ⟨RX11, "read", "(II)I"⟩, prog_1_method_16_code, 5, some .int, 2),
  (11, ⟨RX11, "octet", "(I)I"⟩, prog_1_method_17_code, 2, some .int, 1),
  (11, ⟨RX11, "reading", "(III)I"⟩, prog_1_method_18_code, 4, some .int, 3),
  (11, ⟨RX11, "used", "(III)I"⟩, prog_1_method_19_code, 4, some .int, 3),
  (11, ⟨RX11, "agree", "(III)I"⟩, prog_1_method_20_code, 4, some .int, 3),
  (11, ⟨RX11, "hand", "(II)I"⟩, prog_1_method_21_code, 3, some .int, 2),
  (11, ⟨RX11, "fact", "(IIIII)I"⟩, prog_1_method_22_code, 6, some .int, 5),
  (11, ⟨RX11, "span", "(IIZ)I"⟩, prog_1_method_23_code, 4, some .int, 3),
  (11, ⟨RX11, "laid", "(IIIZ)I"⟩, prog_1_method_24_code, 5, some .int, 4),
  (11, ⟨RX11, "spoilt", "(I)I"⟩, prog_1_method_25_code, 2, some .int, 1),
  (11, ⟨RX11, "persons", "(II)I"⟩, prog_1_method_26_code, 3, some .int, 2),
  (11, ⟨RX11, "person", "(II)I"⟩, prog_1_method_27_code, 4, some .int, 2),
  (11, ⟨RX11, "walk", "(III)I"⟩, prog_1_method_28_code, 4, some .int, 3),
  (11, ⟨RX11, "count", "(I)I"⟩, prog_1_method_29_code, 2, some .int, 1),
  (11, ⟨RX11, "isAbout", "(III)Z"⟩, prog_1_method_30_code, 4, some .boolean, 3),
  (11, ⟨RX11, "areYears", "(III)Z"⟩, prog_1_method_31_code, 3, some .boolean, 3),
  (11, ⟨RX11, "isLetter", "(I)Z"⟩, prog_1_method_32_code, 1, some .boolean, 1),
  (11, ⟨RX11, "isSmallSign", "(I)Z"⟩, prog_1_method_33_code, 1, some .boolean, 1),
  (12, ⟨RX12, "<init>", "()V"⟩, prog_14_method_1_code, 1, none, 0),
  (12, ⟨RX12, "thrown", "()I"⟩, prog_14_method_2_code, 1, some .int, 0),
  (12, ⟨RX12, "refuse", "()I"⟩, prog_14_method_3_code, 1, some .int, 0),
  (12, ⟨RX12, "come", "(I)V"⟩, prog_14_method_4_code, 3, none, 1),
  (12, ⟨RX12, "feed", "(IIIII)I"⟩, prog_14_method_5_code, 6, some .int, 5),
  (12, ⟨RX12, "end", "(I)Z"⟩, prog_14_method_6_code, 2, some .boolean, 1),
  (12, ⟨RX12, "take", "()I"⟩, prog_14_method_7_code, 2, some .int, 0),
  (12, ⟨RX12, "isIn", "(III)Z"⟩, prog_14_method_8_code, 3, some .boolean, 3),
  (12, ⟨RX12, "next", "(I)I"⟩, prog_14_method_9_code, 2, some .int, 1),
  (12, ⟨RX12, "isLetter", "(I)Z"⟩, prog_14_method_10_code, 1, some .boolean, 1),
  (12, ⟨RX12, "form", "(II)I"⟩, prog_14_method_11_code, 4, some .int, 2),
  (12, ⟨RX12, "isThere", "(II)Z"⟩, prog_14_method_12_code, 6, some .boolean, 2),
  (12, ⟨RX12, "word", "(I)I"⟩, prog_14_method_13_code, 4, some .int, 1),
  (12, ⟨RX12, "isCorner", "(I)Z"⟩, prog_14_method_14_code, 1, some .boolean, 1),
  (12, ⟨RX12, "street", "(III)Z"⟩, prog_14_method_15_code, 4, some .boolean, 3)]
def x_M4 : List (Nat × MethodName × ByteArray × Nat × Option FieldType × Nat) := [(12, ⟨RX12, "wall", "(II)I"⟩, prog_14_method_16_code, 3, some .int, 2),
  (12, ⟨RX12, "habit", "(III)I"⟩, prog_14_method_17_code, 4, some .int, 3),
  (12, ⟨RX12, "isHabit", "(III)Z"⟩, prog_14_method_18_code, 5, some .boolean, 3),
  (12, ⟨RX12, "go", "()V"⟩, prog_14_method_19_code, 2, none, 0),
  (12, ⟨RX12, "spelt", "(IIIII)J"⟩, prog_14_method_20_code, 7, some .long, 5),
  (12, ⟨RX12, "sortAtHand", "()I"⟩, prog_14_method_21_code, 1, some .int, 0),
  (12, ⟨RX12, "bad", "(I)Z"⟩, prog_14_method_22_code, 2, some .boolean, 1),
  (12, ⟨RX12, "addRow", "(II)V"⟩, prog_14_method_23_code, 8, none, 2),
  (12, ⟨RX12, "readPattern", "()Z"⟩, prog_14_method_24_code, 4, some .boolean, 0),
  (12, ⟨RX12, "patterns", "()I"⟩, prog_14_method_25_code, 3, some .int, 0),
  (12, ⟨RX12, "fault", "()I"⟩, prog_14_method_26_code, 1, some .int, 0),
  (12, ⟨RX12, "scrawl", "(III)I"⟩, prog_14_method_27_code, 4, some .int, 3),
  (12, ⟨RX12, "isScrawl", "(I)Z"⟩, prog_14_method_28_code, 2, some .boolean, 1),
  (12, ⟨RX12, "isKnown", "(II)Z"⟩, prog_14_method_29_code, 3, some .boolean, 2),
  (12, ⟨RX12, "photo", "(I)Z"⟩, prog_14_method_30_code, 4, some .boolean, 1),
  (12, ⟨RX12, "drawing", "(II)Z"⟩, prog_14_method_31_code, 5, some .boolean, 2),
  (12, ⟨RX12, "photoAt", "(II)I"⟩, prog_14_method_32_code, 5, some .int, 2),
  (12, ⟨RX12, "bitsOf", "(I)I"⟩, prog_14_method_33_code, 3, some .int, 1),
  (12, ⟨RX12, "mayForm", "(III)Z"⟩, prog_14_method_34_code, 4, some .boolean, 3),
  (12, ⟨RX12, "costOf", "(IIII)I"⟩, prog_14_method_35_code, 10, some .int, 4),
  (12, ⟨RX12, "cost", "(IIII)I"⟩, prog_14_method_36_code, 6, some .int, 4),
  (12, ⟨RX12, "cellOf", "(III)I"⟩, prog_14_method_37_code, 3, some .int, 3),
  (12, ⟨RX12, "workAll", "(I)V"⟩, prog_14_method_38_code, 3, none, 1),
  (12, ⟨RX12, "workOut", "(II)V"⟩, prog_14_method_39_code, 8, none, 2),
  (12, ⟨RX12, "fillRow", "(II)V"⟩, prog_14_method_40_code, 11, none, 2),
  (12, ⟨RX12, "walkBest", "(III)V"⟩, prog_14_method_41_code, 9, none, 3),
  (12, ⟨RX12, "isBy", "(IIIII)Z"⟩, prog_14_method_42_code, 6, some .boolean, 5),
  (12, ⟨RX12, "goesOn", "(IIII)Z"⟩, prog_14_method_43_code, 6, some .boolean, 4),
  (12, ⟨RX12, "read", "(II)I"⟩, prog_14_method_44_code, 4, some .int, 2),
  (12, ⟨RX12, "octet", "(I)I"⟩, prog_14_method_45_code, 2, some .int, 1),
  (12, ⟨RX12, "firstOf", "(II)I"⟩, prog_14_method_46_code, 4, some .int, 2),
  (12, ⟨RX12, "usedForm", "(III)I"⟩, prog_14_method_47_code, 13, some .int, 3),
  (12, ⟨RX12, "reading", "(III)I"⟩, prog_14_method_48_code, 6, some .int, 3),
  (12, ⟨RX12, "used", "(III)I"⟩, prog_14_method_49_code, 4, some .int, 3),
  (12, ⟨RX12, "agreement", "(III)I"⟩, prog_14_method_50_code, 9, some .int, 3),
  (12, ⟨RX12, "agree", "(III)I"⟩, prog_14_method_51_code, 4, some .int, 3),
  (12, ⟨RX12, "isWordOf", "(II)Z"⟩, prog_14_method_52_code, 3, some .boolean, 2),
  (12, ⟨RX12, "fact", "(IIIII)I"⟩, prog_14_method_53_code, 7, some .int, 5),
  (12, ⟨RX12, "layerVar", "(II)I"⟩, prog_14_method_54_code, 2, some .int, 2),
  (12, ⟨RX12, "keepYears", "(III)V"⟩, prog_14_method_55_code, 5, none, 3)]
def x_M5 : List (Nat × MethodName × ByteArray × Nat × Option FieldType × Nat) := [(12, ⟨RX12, "leastYear", "(I)I"⟩, prog_14_method_56_code, 3, some .int, 1),
  (12, ⟨RX12, "greatestYear", "(I)I"⟩, prog_14_method_57_code, 3, some .int, 1),
  (12, ⟨RX12, "follows", "(II)V"⟩, prog_14_method_58_code, 6, none, 2),
  (12, ⟨RX12, "counts", "(IIII)Z"⟩, prog_14_method_59_code, 5, some .boolean, 4),
  (12, ⟨RX12, "settle", "(II)V"⟩, prog_14_method_60_code, 5, none, 2),
  (12, ⟨RX12, "isEmpty", "(I)Z"⟩, prog_14_method_61_code, 4, some .boolean, 1),
  (12, ⟨RX12, "keepByReading", "(III)V"⟩, prog_14_method_62_code, 11, none, 3),
  (12, ⟨RX12, "keepSome", "(I)V"⟩, prog_14_method_63_code, 3, none, 1),
  (12, ⟨RX12, "span", "(IIZ)I"⟩, prog_14_method_64_code, 4, some .int, 3),
  (12, ⟨RX12, "laid", "(IIIZ)I"⟩, prog_14_method_65_code, 6, some .int, 4),
  (12, ⟨RX12, "spoilt", "(I)I"⟩, prog_14_method_66_code, 3, some .int, 1),
  (12, ⟨RX12, "takeSpans", "(I)V"⟩, prog_14_method_67_code, 3, none, 1),
  (12, ⟨RX12, "areApart", "(II)Z"⟩, prog_14_method_68_code, 3, some .boolean, 2),
  (12, ⟨RX12, "hasUsed", "(II)Z"⟩, prog_14_method_69_code, 4, some .boolean, 2),
  (12, ⟨RX12, "mayBeOf", "(III)Z"⟩, prog_14_method_70_code, 7, some .boolean, 3),
  (12, ⟨RX12, "hand", "(II)I"⟩, prog_14_method_71_code, 6, some .int, 2),
  (12, ⟨RX12, "areTwo", "(II)Z"⟩, prog_14_method_72_code, 5, some .boolean, 2),
  (12, ⟨RX12, "mayJoin", "(II)Z"⟩, prog_14_method_73_code, 4, some .boolean, 2),
  (12, ⟨RX12, "partInto", "(I)Z"⟩, prog_14_method_74_code, 5, some .boolean, 1),
  (12, ⟨RX12, "partAll", "(II)V"⟩, prog_14_method_75_code, 4, none, 2),
  (12, ⟨RX12, "persons", "(II)I"⟩, prog_14_method_76_code, 3, some .int, 2),
  (12, ⟨RX12, "person", "(II)I"⟩, prog_14_method_77_code, 5, some .int, 2),
  (12, ⟨RX12, "measure", "()V"⟩, prog_14_method_78_code, 4, none, 0),
  (12, ⟨RX12, "walk", "(III)I"⟩, prog_14_method_79_code, 13, some .int, 3),
  (12, ⟨RX12, "count", "(I)I"⟩, prog_14_method_80_code, 2, some .int, 1),
  (15, ⟨"java/lang/Integer", "bitCount", "(I)I"⟩, prog_19_method_49_code, 1, some .int, 1),
  (14, ⟨"java/lang/Math", "max", "(II)I"⟩, prog_20_method_65_code, 2, some .int, 2),
  (14, ⟨"java/lang/Math", "min", "(II)I"⟩, prog_20_method_69_code, 2, some .int, 2),
  (16, ⟨"java/util/Arrays", "rangeCheck", "(III)V"⟩, prog_28_method_30_code, 3, none, 3),
  (16, ⟨"java/util/Arrays", "fill", "([JJ)V"⟩, prog_28_method_101_code, 5, none, 2),
  (16, ⟨"java/util/Arrays", "fill", "([II)V"⟩, prog_28_method_103_code, 4, none, 2),
  (16, ⟨"java/util/Arrays", "fill", "([IIII)V"⟩, prog_28_method_104_code, 5, none, 4),
  (17, ⟨"java/lang/String", "length", "()I"⟩, prog_22_method_54_code, 1, some .int, 0),
  (17, ⟨"java/lang/String", "charAt", "(I)C"⟩, prog_22_method_56_code, 2, some .char, 1),
  (17, ⟨"java/lang/String", "coder", "()B"⟩, prog_22_method_152_code, 1, some .byte, 0),
  (17, ⟨"java/lang/String", "isLatin1", "()Z"⟩, prog_22_method_154_code, 1, some .boolean, 0),
  (17, ⟨"java/lang/String", "checkIndex", "(II)V"⟩, prog_22_method_155_code, 2, none, 2),
  (18, ⟨"java/lang/StringLatin1", "charAt", "([BI)C"⟩, prog_23_method_2_code, 2, some .char, 2),
  (19, ⟨"jdk/internal/util/Preconditions", "checkIndex", "(IILjava/util/function/BiFunction;)I"⟩, prog_30_method_11_code, 3, some .int, 3),
  (13, x, code, 7, ret, 1)]
def x_Ms : List (List (Nat × MethodName × ByteArray × Nat × Option FieldType × Nat)) := [x_M0, x_M1, x_M2, x_M3, x_M4, x_M5]
def x_md : Nat × MethodName × ByteArray × Nat × Option FieldType × Nat := (0, x, code, 0, none, 0)
def x_m (m : Nat) : Nat × MethodName × ByteArray × Nat × Option FieldType × Nat := (x_Ms.getD (m / 40) []).getD (m % 40) x_md
def x_mo (m : Nat) : Nat := (x_m m).1
def x_mY (m : Nat) : MethodName := (x_m m).2.1
def x_mB (m : Nat) : ByteArray := (x_m m).2.2.1
def x_mL (m : Nat) : Nat := (x_m m).2.2.2.1
def x_mR (m : Nat) : Option FieldType := (x_m m).2.2.2.2.1
def x_mN (m : Nat) : Nat := (x_m m).2.2.2.2.2
def x_law : Nat := 239
def x_tbl : List Cond := lw_tbl.filter goodWord
def x_at (p : Nat) (w : Cond) : Bool := decide (lw_tbl[p]? = some w) && goodWord w
theorem x_at_mem {p : Nat} {w : Cond} (h : x_at p w = true) : w ∈ x_tbl := by
  simp only [x_at, Bool.and_eq_true, decide_eq_true_eq] at h
  exact List.mem_filter.mpr ⟨List.mem_of_getElem? h.1, h.2⟩
def x_ats : List Nat → List Cond → Bool
  | [], [] => true
  | p :: ps, w :: ws => x_at p w && x_ats ps ws
  | _, _ => false
theorem x_ats_mem : ∀ {ps : List Nat} {ws : List Cond}, x_ats ps ws = true → ∀ w ∈ ws, w ∈ x_tbl
  | [], [], _, w, h => absurd h List.not_mem_nil
  | [], _ :: _, h, _, _ => by simp [x_ats] at h
  | _ :: _, [], h, _, _ => by simp [x_ats] at h
  | p :: ps, v :: vs, h, w, hw => by
    simp only [x_ats, Bool.and_eq_true] at h
    rcases List.mem_cons.mp hw with rfl | hw
    · exact x_at_mem h.1
    · exact x_ats_mem h.2 w hw
def x_C (ci : Nat) : vw_C := vwCl.getD ci ("", fun _ => ("", "", "", false), 0)
def x_TC : List (List Nat) := [[2, 2, 2, 2, 2, 2, 0], [2, 2, 2, 2, 2, 2, 2, 2, 2, 2, 2, 2, 0, 0, 0], [2, 2, 2, 2, 0, 2, 2, 2, 0, 0], [2, 2, 2, 2, 2, 2, 2, 0], [2, 2, 2, 0, 0], [2, 2, 2, 2, 0, 0, 0, 0, 3], [2, 2, 2, 2, 2, 2, 2, 2, 2, 2, 2, 2, 2, 2, 0, 0], [2, 2, 2, 2, 2, 2, 2, 2, 2, 2], [2, 0], [2, 2, 2, 2, 2, 0, 0, 0], [2, 2, 2, 2, 2, 2, 2, 2, 2, 2, 0, 0, 3], [2, 2, 2, 2, 2, 2, 2, 2, 2, 2, 2, 2, 0, 0], [0, 2, 2, 0, 0, 0, 0, 2, 2, 2, 2, 2, 2, 2, 2, 2, 2, 2, 2, 2, 0, 0, 0, 0, 0, 0, 0, 0, 0, 0, 0, 0, 1, 2, 2, 2, 2, 0, 2, 2, 2, 2, 2, 2, 2, 2, 2, 2, 2, 2, 0, 0, 0, 2, 2, 2, 2, 2, 2, 2, 2, 0, 0, 2, 2, 2, 2, 2, 2, 2, 0, 2, 3, 3, 2, 2, 2, 2, 2, 2, 2, 2, 0, 0, 2, 2, 2]]
def x_tc (ci k : Nat) : Nat := (x_TC.getD ci []).getD k 9
def x_nf (ci : Nat) : Nat := (x_TC.getD ci []).length
theorem x_u0 : ∀ w ∈ u_ws RX0 TX0 7, w ∈ x_tbl := x_ats_mem (ps := [489, 491, 493, 495, 497, 499, 501]) (by decide +kernel)
theorem x_u1 : ∀ w ∈ u_ws RX1 TX1 15, w ∈ x_tbl := x_ats_mem (ps := [328, 330, 332, 334, 336, 338, 340, 342, 344, 346, 348, 350, 352, 354, 356]) (by decide +kernel)
theorem x_u2 : ∀ w ∈ u_ws RX2 TX2 10, w ∈ x_tbl := x_ats_mem (ps := [569, 571, 573, 575, 577, 579, 581, 583, 585, 587]) (by decide +kernel)
theorem x_u3 : ∀ w ∈ u_ws RX3 TX3 8, w ∈ x_tbl := x_ats_mem (ps := [172, 174, 176, 178, 180, 182, 184, 186]) (by decide +kernel)
theorem x_u4 : ∀ w ∈ u_ws RX4 TX4 5, w ∈ x_tbl := x_ats_mem (ps := [284, 286, 288, 290, 292]) (by decide +kernel)
theorem x_u5 : ∀ w ∈ u_ws RX5 TX5 9, w ∈ x_tbl := x_ats_mem (ps := [249, 251, 253, 255, 257, 259, 261, 263, 265]) (by decide +kernel)
theorem x_u6 : ∀ w ∈ u_ws RX6 TX6 16, w ∈ x_tbl := x_ats_mem (ps := [437, 439, 441, 443, 445, 447, 449, 451, 453, 455, 457, 459, 461, 463, 465, 467]) (by decide +kernel)
theorem x_u7 : ∀ w ∈ u_ws RX7 TX7 10, w ∈ x_tbl := x_ats_mem (ps := [394, 396, 398, 400, 402, 404, 406, 408, 410, 412]) (by decide +kernel)
theorem x_u8 : ∀ w ∈ u_ws RX8 TX8 2, w ∈ x_tbl := x_ats_mem (ps := [145, 147]) (by decide +kernel)
theorem x_u9 : ∀ w ∈ u_ws RX9 TX9 8, w ∈ x_tbl := x_ats_mem (ps := [211, 213, 215, 217, 219, 221, 223, 225]) (by decide +kernel)
theorem x_u10 : ∀ w ∈ u_ws RX10 TX10 13, w ∈ x_tbl := x_ats_mem (ps := [524, 526, 528, 530, 532, 534, 536, 538, 540, 542, 544, 546, 548]) (by decide +kernel)
theorem x_u11 : ∀ w ∈ u_ws RX11 TX11 14, w ∈ x_tbl := x_ats_mem (ps := [604, 606, 608, 610, 612, 614, 616, 618, 620, 622, 624, 626, 628, 630]) (by decide +kernel)
theorem x_u12 : ∀ w ∈ u_ws RX12 TX12 87, w ∈ x_tbl := x_ats_mem (ps := [1421, 1423, 1425, 1427, 1429, 1431, 1433, 1435, 1437, 1439, 1441, 1443, 1445, 1447, 1449, 1451, 1453, 1455, 1457, 1459, 1461, 1463, 1465, 1467, 1469, 1471, 1473, 1475, 1477, 1479, 1481, 1483, 1485, 1487, 1489, 1491, 1493, 1495, 1497, 1499, 1501, 1503, 1505, 1507, 1509, 1511, 1513, 1515, 1517, 1519, 1521, 1523, 1525, 1527, 1529, 1531, 1533, 1535, 1537, 1539, 1541, 1543, 1545, 1547, 1549, 1551, 1553, 1555, 1557, 1559, 1561, 1563, 1565, 1567, 1569, 1571, 1573, 1575, 1577, 1579, 1581, 1583, 1585, 1587, 1589, 1591, 1593]) (by decide +kernel)
def x_FL : List (List (Nat × Nat × Nat × Nat)) := [[(9, 0, 0, 476), (15, 0, 1, 478), (18, 0, 2, 480), (21, 0, 3, 482), (24, 0, 4, 484), (27, 0, 5, 486), (30, 0, 6, 487)],
  [(62, 8, 1, 143), (9, 1, 0, 302), (15, 1, 1, 305), (18, 1, 2, 307), (21, 1, 3, 310), (24, 1, 4, 311), (27, 1, 5, 312), (30, 1, 6, 313), (33, 1, 7, 315), (36, 1, 8, 317), (39, 1, 9, 318), (42, 1, 10, 319), (45, 1, 11, 320), (48, 1, 12, 322), (52, 1, 13, 324), (55, 1, 14, 326)],
  [(98, 1, 0, 303), (52, 7, 9, 391), (34, 2, 0, 557), (38, 2, 1, 558), (42, 2, 2, 559), (9, 2, 3, 560), (15, 2, 4, 562), (19, 2, 5, 563), (22, 2, 6, 564), (25, 2, 7, 565), (28, 2, 8, 566), (31, 2, 9, 567)],
  [(49, 8, 1, 144), (9, 3, 0, 157), (15, 3, 1, 159), (18, 3, 2, 161), (21, 3, 3, 163), (24, 3, 4, 165), (27, 3, 5, 167), (30, 3, 6, 168), (33, 3, 7, 169)],
  [(62, 5, 1, 236), (65, 5, 2, 238), (55, 5, 3, 240), (36, 5, 4, 242), (9, 4, 0, 276), (15, 4, 1, 277), (19, 4, 2, 278), (23, 4, 3, 280), (27, 4, 4, 282)],
  [(46, 8, 1, 142), (39, 5, 0, 234), (9, 5, 1, 235), (15, 5, 2, 237), (19, 5, 3, 239), (22, 5, 4, 241), (26, 5, 5, 243), (29, 5, 6, 245), (32, 5, 7, 247), (35, 5, 8, 248)],
  [(146, 3, 0, 158), (137, 3, 1, 160), (204, 3, 2, 162), (201, 3, 3, 164), (198, 3, 4, 166), (192, 3, 7, 170), (179, 4, 2, 279), (165, 4, 3, 281), (108, 1, 2, 308), (143, 1, 6, 314), (159, 1, 7, 316), (128, 1, 11, 321), (118, 7, 0, 366), (121, 7, 1, 368), (124, 7, 2, 370), (207, 7, 3, 372), (210, 7, 4, 375), (218, 7, 5, 380), (213, 7, 6, 384), (224, 7, 7, 386), (236, 7, 8, 388), (239, 7, 9, 393), (50, 6, 0, 421), (54, 6, 1, 422), (58, 6, 2, 423), (62, 6, 3, 424), (9, 6, 4, 425), (15, 6, 5, 426), (18, 6, 6, 427), (22, 6, 7, 428), (25, 6, 8, 429), (28, 6, 9, 430), (31, 6, 10, 431), (34, 6, 11, 432), (37, 6, 12, 433), (40, 6, 13, 434), (43, 6, 14, 435), (47, 6, 15, 436)],
  [(9, 7, 0, 365), (15, 7, 1, 367), (19, 7, 2, 369), (22, 7, 3, 371), (25, 7, 4, 374), (28, 7, 5, 377), (31, 7, 6, 381), (34, 7, 7, 385), (37, 7, 8, 387), (40, 7, 9, 390)],
  [(9, 8, 0, 139), (15, 8, 1, 140)],
  [(9, 9, 0, 199), (15, 9, 1, 200), (18, 9, 2, 201), (21, 9, 3, 203), (24, 9, 4, 204), (27, 9, 5, 205), (31, 9, 6, 206), (34, 9, 7, 208)],
  [(163, 9, 2, 202), (158, 9, 7, 209), (169, 1, 0, 304), (172, 1, 1, 306), (133, 7, 5, 378), (136, 7, 6, 382), (91, 0, 0, 477), (94, 0, 1, 479), (97, 0, 2, 481), (114, 0, 3, 483), (120, 0, 4, 485), (43, 10, 0, 510), (47, 10, 1, 511), (51, 10, 2, 512), (55, 10, 3, 513), (9, 10, 4, 514), (15, 10, 5, 515), (18, 10, 6, 516), (22, 10, 7, 517), (26, 10, 8, 518), (29, 10, 9, 519), (32, 10, 10, 520), (36, 10, 11, 521), (39, 10, 12, 522)],
  [(105, 8, 1, 141), (276, 3, 7, 171), (278, 9, 6, 207), (281, 9, 7, 210), (148, 5, 5, 244), (138, 5, 6, 246), (145, 4, 4, 283), (170, 1, 2, 309), (284, 1, 12, 323), (287, 1, 13, 325), (290, 1, 14, 327), (200, 7, 3, 373), (203, 7, 4, 376), (187, 7, 5, 379), (190, 7, 6, 383), (212, 7, 8, 389), (209, 7, 9, 392), (236, 0, 6, 488), (250, 10, 12, 523), (227, 2, 3, 561), (264, 2, 9, 568), (12, 11, 0, 590), (19, 11, 1, 591), (26, 11, 2, 592), (35, 11, 3, 593), (42, 11, 4, 594), (49, 11, 5, 595), (56, 11, 6, 596), (65, 11, 7, 597), (72, 11, 8, 598), (81, 11, 9, 599), (90, 11, 10, 600), (94, 11, 11, 601), (98, 11, 12, 602), (102, 11, 13, 603)],
  [(190, 12, 0, 1334), (7, 12, 1, 1335), (13, 12, 2, 1336), (193, 12, 3, 1337), (359, 12, 4, 1338), (204, 12, 5, 1339), (16, 12, 6, 1340), (20, 12, 7, 1341), (23, 12, 8, 1342), (26, 12, 9, 1343), (29, 12, 10, 1344), (32, 12, 11, 1345), (35, 12, 12, 1346), (38, 12, 13, 1347), (41, 12, 14, 1348), (44, 12, 15, 1349), (47, 12, 16, 1350), (50, 12, 17, 1351), (53, 12, 18, 1352), (56, 12, 19, 1353), (207, 12, 20, 1354), (222, 12, 21, 1355), (228, 12, 22, 1356), (237, 12, 23, 1357), (234, 12, 24, 1358), (240, 12, 25, 1359), (243, 12, 26, 1360), (262, 12, 27, 1361), (265, 12, 28, 1362), (277, 12, 29, 1363), (291, 12, 30, 1364), (268, 12, 31, 1365), (246, 12, 32, 1366), (59, 12, 33, 1367), (62, 12, 34, 1368), (65, 12, 35, 1369), (68, 12, 36, 1370), (294, 12, 37, 1371), (72, 12, 38, 1372), (75, 12, 39, 1373), (78, 12, 40, 1374), (81, 12, 41, 1375), (84, 12, 42, 1376), (87, 12, 43, 1377), (90, 12, 44, 1378), (93, 12, 45, 1379), (96, 12, 46, 1380), (99, 12, 47, 1381), (102, 12, 48, 1382), (105, 12, 49, 1383), (297, 12, 50, 1384), (303, 12, 51, 1385), (306, 12, 52, 1386), (108, 12, 53, 1387), (111, 12, 54, 1388), (115, 12, 55, 1389), (118, 12, 56, 1390), (121, 12, 57, 1391), (124, 12, 58, 1392), (127, 12, 59, 1393), (130, 12, 60, 1394), (331, 12, 61, 1395), (328, 12, 62, 1396), (133, 12, 63, 1397), (136, 12, 64, 1398), (139, 12, 65, 1399), (142, 12, 66, 1400), (145, 12, 67, 1401), (148, 12, 68, 1402), (151, 12, 69, 1403), (377, 12, 70, 1404), (154, 12, 71, 1405), (408, 12, 72, 1406), (386, 12, 73, 1407), (157, 12, 74, 1408), (160, 12, 75, 1409), (163, 12, 76, 1410), (166, 12, 77, 1411), (169, 12, 78, 1412), (172, 12, 79, 1413), (175, 12, 80, 1414), (178, 12, 81, 1415), (435, 12, 82, 1416), (438, 12, 83, 1417), (181, 12, 84, 1418), (184, 12, 85, 1419), (187, 12, 86, 1420)],
  [],
  [],
  [],
  [],
  [],
  [],
  []]
def x_fc (o : Nat) (e : Nat × Nat × Nat × Nat) : Cond := .fieldLink (x_o o) e.1 ((x_C e.2.1).2.1 e.2.2.1).1 ((x_C e.2.1).2.1 e.2.2.1).2.1 ((x_C e.2.1).2.1 e.2.2.1).2.2.1
def x_fok (o : Nat) : Bool := (x_FL.getD o []).all (fun e => x_at e.2.2.2 (x_fc o e) && decide (e.2.1 < 13) && decide (e.2.2.1 < x_nf e.2.1))
theorem x_fok0 : x_fok 0 = true := by decide +kernel
theorem x_fok1 : x_fok 1 = true := by decide +kernel
theorem x_fok2 : x_fok 2 = true := by decide +kernel
theorem x_fok3 : x_fok 3 = true := by decide +kernel
theorem x_fok4 : x_fok 4 = true := by decide +kernel
theorem x_fok5 : x_fok 5 = true := by decide +kernel
theorem x_fok6 : x_fok 6 = true := by decide +kernel
theorem x_fok7 : x_fok 7 = true := by decide +kernel
theorem x_fok8 : x_fok 8 = true := by decide +kernel
theorem x_fok9 : x_fok 9 = true := by decide +kernel
theorem x_fok10 : x_fok 10 = true := by decide +kernel
theorem x_fok11 : x_fok 11 = true := by decide +kernel
theorem x_fok12 : x_fok 12 = true := by decide +kernel
theorem x_fok13 : x_fok 13 = true := by decide +kernel
theorem x_fok14 : x_fok 14 = true := by decide +kernel
theorem x_fok15 : x_fok 15 = true := by decide +kernel
theorem x_fok16 : x_fok 16 = true := by decide +kernel
theorem x_fok17 : x_fok 17 = true := by decide +kernel
theorem x_fok18 : x_fok 18 = true := by decide +kernel
theorem x_fok19 : x_fok 19 = true := by decide +kernel
theorem x_foks : ∀ o, o < 20 → x_fok o = true := by
  intro o h
  match o, h with
  | 0, _ => exact x_fok0
  | 1, _ => exact x_fok1
  | 2, _ => exact x_fok2
  | 3, _ => exact x_fok3
  | 4, _ => exact x_fok4
  | 5, _ => exact x_fok5
  | 6, _ => exact x_fok6
  | 7, _ => exact x_fok7
  | 8, _ => exact x_fok8
  | 9, _ => exact x_fok9
  | 10, _ => exact x_fok10
  | 11, _ => exact x_fok11
  | 12, _ => exact x_fok12
  | 13, _ => exact x_fok13
  | 14, _ => exact x_fok14
  | 15, _ => exact x_fok15
  | 16, _ => exact x_fok16
  | 17, _ => exact x_fok17
  | 18, _ => exact x_fok18
  | 19, _ => exact x_fok19
  | o + 20, h => exact absurd h (by omega)
def x_fl (o idx : Nat) : Option (Nat × Nat × Nat × Nat) := (x_FL.getD o []).find? (fun e => e.1 == idx)
def x_CL : List (List (Nat × Nat × Nat × List Nat)) := [[(3, 4, 0, [475, 131, 132])],
  [(3, 4, 0, [301, 131, 132]), (58, 0, 7, [870, 871, 872]), (67, 0, 78, [874, 677, 678]), (71, 5, 144, [681]), (74, 1, 230, [905, 197])],
  [(3, 4, 0, [556, 131, 132]), (46, 0, 9, [1133, 1036, 1037]), (57, 0, 14, [1134, 1136, 45]), (66, 0, 15, [1138, 1140, 46]), (70, 0, 75, [1142, 1024, 1025]), (73, 0, 93, [1143, 1144, 1145]), (60, 1, 226, [1147, 963]), (78, 0, 17, [1197, 1199, 48]), (86, 0, 74, [1201, 995, 996]), (89, 0, 18, [1202, 1204, 49]), (92, 0, 19, [1206, 1208, 50]), (82, 0, 20, [1210, 1212, 51]), (95, 0, 21, [1214, 1216, 52])],
  [(3, 4, 0, [156, 131, 132]), (37, 5, 143, [658]), (41, 0, 27, [672, 674, 0]), (54, 0, 78, [676, 677, 678]), (58, 5, 144, [681]), (45, 0, 28, [683, 685, 1]), (61, 0, 30, [721, 722, 723])],
  [(3, 4, 0, [274, 131, 132]), (30, 1, 230, [275, 197]), (39, 1, 38, [827, 828]), (58, 1, 39, [830, 831]), (43, 0, 36, [833, 835, 11]), (47, 0, 37, [837, 839, 12]), (51, 0, 35, [841, 843, 13])],
  [(3, 4, 0, [233, 131, 132]), (43, 0, 42, [733, 735, 3]), (51, 0, 44, [737, 739, 4]), (59, 0, 78, [741, 677, 678]), (62, 5, 144, [681]), (66, 0, 45, [743, 745, 5]), (76, 0, 48, [747, 749, 6]), (80, 1, 50, [751, 752]), (84, 0, 49, [759, 761, 7]), (88, 0, 232, [763, 764, 765]), (94, 0, 233, [773, 774, 775]), (55, 0, 43, [811, 813, 8]), (69, 0, 46, [815, 817, 9]), (73, 0, 47, [819, 821, 10])],
  [(3, 4, 0, [420, 131, 132]), (110, 0, 10, [897, 898, 899]), (114, 0, 11, [901, 902, 903]), (125, 0, 58, [910, 912, 14]), (140, 0, 59, [914, 916, 15]), (149, 1, 225, [918, 919]), (154, 1, 227, [924, 703]), (131, 0, 30, [925, 722, 723]), (76, 0, 54, [934, 894, 895]), (79, 0, 55, [935, 937, 16]), (83, 0, 56, [939, 941, 17]), (87, 0, 73, [943, 944, 945]), (92, 0, 60, [953, 955, 18]), (162, 0, 57, [957, 907, 908]), (95, 0, 61, [958, 960, 19]), (170, 1, 226, [962, 963]), (173, 1, 231, [965, 948]), (98, 0, 62, [966, 968, 20]), (182, 0, 64, [970, 972, 21]), (195, 0, 65, [974, 976, 22]), (185, 0, 34, [978, 979, 980]), (188, 0, 63, [982, 984, 23]), (102, 0, 66, [986, 988, 24]), (215, 0, 67, [990, 992, 25]), (221, 0, 74, [994, 995, 996]), (105, 0, 68, [998, 1000, 26]), (227, 1, 230, [1002, 197]), (230, 0, 69, [1003, 1005, 27]), (233, 1, 70, [1007, 1008]), (66, 0, 9, [1035, 1036, 1037]), (72, 0, 53, [1039, 931, 932])],
  [(3, 4, 0, [364, 131, 132]), (43, 1, 231, [947, 948])],
  [(3, 4, 0, [138, 131, 132])],
  [(3, 4, 0, [194, 131, 132]), (38, 1, 230, [196, 197]), (44, 1, 84, [695, 696]), (48, 0, 81, [698, 700, 2]), (52, 1, 227, [702, 703]), (58, 0, 86, [1238, 1240, 53]), (62, 0, 87, [1242, 1244, 54]), (65, 0, 88, [1246, 1248, 55])],
  [(3, 4, 0, [509, 131, 132]), (59, 0, 95, [1044, 1046, 28]), (79, 0, 9, [1048, 1036, 1037]), (82, 1, 230, [1049, 197]), (88, 1, 229, [1050, 1051]), (63, 0, 2, [1053, 1054, 1055]), (69, 0, 96, [1057, 1059, 29]), (100, 0, 94, [1061, 1062, 1063]), (104, 0, 97, [1065, 1067, 30]), (115, 1, 226, [1069, 963]), (121, 1, 227, [1070, 703]), (108, 0, 98, [1071, 1073, 31]), (124, 0, 74, [1075, 995, 996]), (129, 0, 100, [1076, 1078, 32]), (111, 0, 99, [1080, 1082, 33]), (72, 0, 104, [1084, 1086, 34]), (143, 0, 102, [1088, 1090, 35]), (139, 0, 101, [1092, 1094, 36]), (146, 0, 105, [1096, 1098, 37]), (149, 0, 107, [1100, 1102, 38]), (166, 0, 110, [1104, 1106, 39]), (175, 0, 109, [1108, 1110, 40]), (182, 0, 83, [1112, 855, 856]), (76, 0, 106, [1113, 1115, 41]), (152, 0, 103, [1117, 1119, 42]), (155, 0, 108, [1121, 1123, 43]), (179, 0, 111, [1125, 1127, 44])],
  [(3, 4, 0, [130, 131, 132]), (11, 3, 76, [136]), (18, 3, 24, [154]), (25, 2, 79, [191, 192]), (32, 2, 40, [230, 231]), (41, 2, 32, [271, 272]), (48, 3, 3, [299]), (55, 3, 71, [362]), (62, 2, 51, [417, 418]), (71, 3, 0, [473]), (78, 2, 89, [506, 507]), (87, 2, 12, [553, 554]), (108, 0, 77, [637, 638, 639]), (112, 0, 25, [653, 654, 655]), (116, 0, 72, [660, 661, 662]), (119, 0, 26, [668, 669, 670]), (123, 0, 80, [691, 692, 693]), (127, 0, 82, [709, 710, 711]), (130, 0, 29, [717, 718, 719]), (134, 0, 41, [729, 730, 731]), (141, 0, 33, [823, 824, 825]), (151, 0, 83, [854, 855, 856]), (155, 0, 4, [858, 859, 860]), (159, 0, 5, [866, 867, 868]), (163, 0, 6, [879, 880, 881]), (167, 0, 8, [888, 889, 890]), (173, 1, 143, [892, 658]), (177, 0, 54, [893, 894, 895]), (181, 0, 57, [906, 907, 908]), (184, 0, 53, [930, 931, 932]), (206, 0, 74, [1014, 995, 996]), (215, 0, 75, [1023, 1024, 1025]), (218, 0, 52, [1031, 1032, 1033]), (221, 0, 90, [1040, 1041, 1042]), (224, 0, 13, [1129, 1130, 1131]), (230, 0, 141, [1152, 1154, 47]), (293, 0, 7, [1156, 871, 872]), (258, 0, 31, [1157, 1158, 1159]), (233, 1, 142, [1161, 1162]), (239, 0, 1, [1164, 1165, 1166]), (243, 0, 92, [1172, 1173, 1174]), (247, 0, 94, [1180, 1062, 1063]), (254, 0, 91, [1185, 1186, 1187]), (261, 0, 16, [1193, 1194, 1195]), (267, 0, 22, [1222, 1223, 1224]), (270, 0, 23, [1230, 1231, 1232]), (273, 0, 85, [1234, 1235, 1236])],
  [(1, 4, 0, [1332, 131, 132]), (196, 0, 148, [1604, 1606, 57]), (200, 1, 152, [1616, 1617]), (210, 0, 151, [1627, 1629, 58]), (214, 1, 154, [1631, 1632]), (218, 0, 156, [1634, 1636, 59]), (225, 1, 158, [1642, 1643]), (231, 0, 162, [1653, 1655, 60]), (280, 0, 163, [1661, 1663, 61]), (287, 0, 168, [1668, 1670, 62]), (271, 0, 165, [1672, 1674, 63]), (256, 1, 164, [1676, 1677]), (274, 0, 166, [1680, 1682, 64]), (283, 0, 167, [1684, 1686, 65]), (300, 0, 172, [1700, 1702, 66]), (321, 0, 173, [1712, 1714, 67]), (324, 0, 179, [1716, 1718, 68]), (309, 0, 176, [1720, 1722, 69]), (314, 0, 178, [1725, 1727, 70]), (317, 1, 177, [1729, 1730]), (356, 0, 182, [1736, 1738, 71]), (334, 0, 183, [1740, 1742, 72]), (337, 0, 184, [1744, 1746, 73]), (340, 1, 181, [1748, 1749]), (344, 0, 185, [1751, 1753, 74]), (348, 0, 187, [1755, 1757, 75]), (352, 0, 186, [1759, 1761, 76]), (362, 0, 147, [1767, 1769, 77]), (365, 0, 191, [1775, 1777, 78]), (368, 0, 190, [1779, 1781, 79]), (371, 0, 194, [1791, 1793, 80]), (374, 0, 196, [1799, 1801, 81]), (414, 0, 204, [1807, 1809, 82]), (390, 0, 203, [1811, 1813, 83]), (393, 1, 198, [1815, 1816]), (396, 0, 199, [1818, 1820, 84]), (399, 0, 206, [1822, 1824, 85]), (411, 0, 207, [1826, 1828, 86]), (402, 0, 202, [1830, 1832, 87]), (380, 0, 200, [1834, 1836, 88]), (383, 0, 201, [1838, 1840, 89]), (405, 0, 205, [1842, 1844, 90]), (420, 0, 211, [1858, 1860, 91]), (423, 0, 213, [1862, 1864, 92]), (426, 0, 214, [1866, 1868, 93]), (417, 0, 212, [1870, 1872, 94]), (444, 0, 219, [1878, 1880, 95]), (441, 0, 218, [1882, 1884, 96]), (432, 0, 217, [1886, 1888, 97]), (429, 0, 216, [1890, 1892, 98]), (447, 0, 222, [1902, 1904, 99])],
  [(15, 2, 112, [127, 128]), (19, 0, 113, [633, 634, 635]), (24, 0, 114, [641, 642, 643]), (29, 0, 115, [645, 646, 647]), (33, 0, 116, [649, 650, 651]), (38, 0, 117, [664, 665, 666]), (42, 0, 118, [687, 688, 689]), (47, 0, 119, [705, 706, 707]), (51, 0, 120, [713, 714, 715]), (56, 0, 121, [725, 726, 727]), (61, 0, 122, [846, 847, 848]), (65, 0, 123, [850, 851, 852]), (69, 0, 124, [862, 863, 864]), (73, 0, 125, [875, 876, 877]), (78, 0, 126, [884, 885, 886]), (83, 0, 127, [926, 927, 928]), (96, 0, 129, [1010, 1011, 1012]), (100, 0, 130, [1015, 1016, 1017]), (104, 0, 131, [1019, 1020, 1021]), (108, 0, 132, [1027, 1028, 1029]), (112, 0, 133, [1148, 1149, 1150]), (116, 0, 134, [1168, 1169, 1170]), (121, 0, 135, [1176, 1177, 1178]), (126, 0, 136, [1181, 1182, 1183]), (130, 0, 137, [1189, 1190, 1191]), (134, 0, 138, [1218, 1219, 1220]), (138, 0, 139, [1226, 1227, 1228]), (142, 0, 140, [1250, 1251, 1252]), (7, 0, 128, [1258, 1259, 1260]), (18, 2, 145, [1329, 1330]), (93, 0, 146, [1596, 1597, 1598]), (23, 0, 149, [1600, 1601, 1602]), (28, 0, 150, [1608, 1609, 1610]), (32, 0, 153, [1612, 1613, 1614]), (37, 0, 155, [1619, 1620, 1621]), (41, 0, 157, [1623, 1624, 1625]), (46, 0, 159, [1638, 1639, 1640]), (50, 0, 160, [1645, 1646, 1647]), (55, 0, 161, [1649, 1650, 1651]), (60, 0, 169, [1657, 1658, 1659]), (64, 0, 170, [1688, 1689, 1690]), (68, 0, 171, [1692, 1693, 1694]), (72, 0, 174, [1696, 1697, 1698]), (77, 0, 175, [1704, 1705, 1706]), (82, 0, 180, [1708, 1709, 1710]), (86, 0, 188, [1732, 1733, 1734]), (92, 0, 189, [1763, 1764, 1765]), (99, 0, 192, [1771, 1772, 1773]), (103, 0, 193, [1783, 1784, 1785]), (107, 0, 195, [1787, 1788, 1789]), (115, 0, 197, [1795, 1796, 1797]), (120, 0, 208, [1803, 1804, 1805]), (125, 0, 209, [1846, 1847, 1848]), (129, 0, 210, [1850, 1851, 1852]), (111, 0, 215, [1854, 1855, 1856]), (133, 0, 220, [1874, 1875, 1876]), (137, 0, 221, [1894, 1895, 1896]), (141, 0, 223, [1898, 1899, 1900]), (145, 0, 224, [1906, 1907, 1908])],
  [],
  [],
  [(13, 1, 228, [950, 951])],
  [(335, 0, 234, [767, 768, 769]), (492, 0, 235, [777, 778, 779]), (495, 1, 237, [781, 782]), (1059, 1, 238, [789, 790])],
  [(9, 1, 236, [784, 785])],
  []]
def x_oi : MethodName := ⟨"java/lang/Object", "<init>", "()V"⟩
def x_cc (o : Nat) (e : Nat × Nat × Nat × List Nat) : List Cond := match e.2.1 with
  | 0 => [.methodLink (x_o o) e.1 (x_mY e.2.2.1), .instanceMethod (x_mY e.2.2.1), .selects (x_mY e.2.2.1).cls (x_mY e.2.2.1) (x_mY e.2.2.1)]
  | 1 => [.methodLink (x_o o) e.1 (x_mY e.2.2.1), .static (x_mY e.2.2.1)]
  | 2 => [.methodLink (x_o o) e.1 (x_mY e.2.2.1), .instanceMethod (x_mY e.2.2.1)]
  | 3 => [.instanceMethod (x_mY e.2.2.1)]
  | 4 => [.methodLink (x_o o) e.1 x_oi, .instanceMethod x_oi, .code x_oi ⟨#[0xb1]⟩ 1 none]
  | _ => [.static (x_mY e.2.2.1)]
def x_NL : List (Nat × Nat × Nat) := [(11, 11, 76), (11, 18, 24), (11, 48, 3), (11, 55, 71), (11, 71, 0), (3, 37, 143), (3, 58, 144), (5, 62, 144), (1, 71, 144)]
def x_nc (q : Nat × Nat × Nat) : Cond := .methodLinkNest (x_o q.1) q.2.1 (x_mY q.2.2) "ScrawlHouse"
theorem x_nok : x_NL.map (fun q => some (x_nc q)) = [135, 153, 298, 361, 472, 657, 680, 742, 883].map (fun p => lw_tbl[p]?) := by decide +kernel
def x_cok (o : Nat) : Bool := (x_CL.getD o []).all (fun e => x_ats e.2.2.2 (x_cc o e) && decide (e.2.2.1 < 239) && (if e.2.1 = 3 ∨ e.2.1 = 5 then decide ((o, e.1, e.2.2.1) ∈ x_NL) else true) && (if e.2.1 = 2 ∨ e.2.1 = 3 then decide ((x_mY e.2.2.1).name = "<init>") && decide (x_mR e.2.2.1 = none) else true))
theorem x_cok0 : x_cok 0 = true := by decide +kernel
theorem x_cok1 : x_cok 1 = true := by decide +kernel
theorem x_cok2 : x_cok 2 = true := by decide +kernel
theorem x_cok3 : x_cok 3 = true := by decide +kernel
theorem x_cok4 : x_cok 4 = true := by decide +kernel
theorem x_cok5 : x_cok 5 = true := by decide +kernel
theorem x_cok6 : x_cok 6 = true := by decide +kernel
theorem x_cok7 : x_cok 7 = true := by decide +kernel
theorem x_cok8 : x_cok 8 = true := by decide +kernel
theorem x_cok9 : x_cok 9 = true := by decide +kernel
theorem x_cok10 : x_cok 10 = true := by decide +kernel
theorem x_cok11 : x_cok 11 = true := by decide +kernel
theorem x_cok12 : x_cok 12 = true := by decide +kernel
theorem x_cok13 : x_cok 13 = true := by decide +kernel
theorem x_cok14 : x_cok 14 = true := by decide +kernel
theorem x_cok15 : x_cok 15 = true := by decide +kernel
theorem x_cok16 : x_cok 16 = true := by decide +kernel
theorem x_cok17 : x_cok 17 = true := by decide +kernel
theorem x_cok18 : x_cok 18 = true := by decide +kernel
theorem x_cok19 : x_cok 19 = true := by decide +kernel
theorem x_coks : ∀ o, o < 20 → x_cok o = true := by
  intro o h
  match o, h with
  | 0, _ => exact x_cok0
  | 1, _ => exact x_cok1
  | 2, _ => exact x_cok2
  | 3, _ => exact x_cok3
  | 4, _ => exact x_cok4
  | 5, _ => exact x_cok5
  | 6, _ => exact x_cok6
  | 7, _ => exact x_cok7
  | 8, _ => exact x_cok8
  | 9, _ => exact x_cok9
  | 10, _ => exact x_cok10
  | 11, _ => exact x_cok11
  | 12, _ => exact x_cok12
  | 13, _ => exact x_cok13
  | 14, _ => exact x_cok14
  | 15, _ => exact x_cok15
  | 16, _ => exact x_cok16
  | 17, _ => exact x_cok17
  | 18, _ => exact x_cok18
  | 19, _ => exact x_cok19
  | o + 20, h => exact absurd h (by omega)
def x_cl (o idx : Nat) : Option (Nat × Nat × Nat × List Nat) := (x_CL.getD o []).find? (fun e => e.1 == idx)
def x_mc (m : Nat) : Cond := .code (x_mY m) (x_mB m) (x_mL m) (x_mR m)
def x_mk (m : Nat) (p : Nat) : Bool := x_at p (.initialized (x_mY m).cls) && plainName (x_mY m).cls && decide ((x_mY m).cls ≠ "java/lang/invoke/MethodHandle") && decide ((x_mY m).cls ≠ "java/lang/invoke/VarHandle") && decide ((parseMethodDescriptor (x_mY m).desc).map (fun d => d.parameters.length) = some (x_mN m)) && decide (x_mL m ≤ 31) && decide ((x_mY m).cls = x_o (x_mo m)) && decide (x_mo m < 20)
def x_mOK (m : Nat) : Prop := x_mc m ∈ x_tbl ∧ ∃ p, x_mk m p = true
def x_KC : List (List (Nat × Value × Nat)) := [[], [], [], [], [], [], [], [], [], [(37, .int 1000000, 195)], [], [], [(114, .int 44800, 1333), (250, .long 27, 1665), (252, .long 96, 1666), (254, .long (-1), 1667), (260, .long 5, 1679), (313, .int 100000000, 1724)], [], [], [(265, .int 1431655765, 921), (266, .int 858993459, 922), (267, .int 252645135, 923)], [], [], [], []]
def x_kcc (o : Nat) (e : Nat × Value × Nat) : Cond := match e.2.1 with
  | .int v => .constant (x_o o) e.1 v
  | .long v => .constantLong (x_o o) e.1 v
  | _ => .tt
def x_kok : Bool := (List.range 20).all (fun o => (x_KC.getD o []).all (fun e => x_at e.2.2 (x_kcc o e)))
theorem x_koks : x_kok = true := by decide +kernel
def x_kc (o idx : Nat) : Option (Nat × Value × Nat) := (x_KC.getD o []).find? (fun e => e.1 == idx)
def x_NW : List (List (Nat × Nat × Nat)) := [[], [], [], [], [], [], [], [], [], [], [], [(9, 8, 133), (16, 3, 151), (23, 9, 189), (30, 5, 228), (39, 4, 269), (46, 1, 296), (53, 7, 359), (60, 6, 415), (69, 0, 470), (76, 10, 504), (85, 2, 551)], [], [(8, 11, 125), (16, 12, 1327)], [], [], [], [], [], []]
def x_CP : List (Nat × Nat) := [(471, 111), (297, 108), (552, 113), (152, 103), (270, 107), (229, 106), (416, 110), (360, 109), (134, 102), (190, 104), (505, 112), (126, 101), (1328, 114)]
def x_nwok : Bool := (List.range 20).all (fun o => (x_NW.getD o []).all (fun e => x_at e.2.2 (.classLink (x_o o) e.1 (x_C e.2.1).1) && x_at (x_CP.getD e.2.1 (0, 0)).1 (.instantiable (x_C e.2.1).1 (x_nf e.2.1)) && x_at (x_CP.getD e.2.1 (0, 0)).2 (.initialized (x_C e.2.1).1) && decide (e.2.1 < 13)))
theorem x_nwoks : x_nwok = true := by decide +kernel
def x_nw (o idx : Nat) : Option (Nat × Nat × Nat) := (x_NW.getD o []).find? (fun e => e.1 == idx)
theorem x_acI : Cond.arrayClass .int ∈ x_tbl := x_at_mem (p := 150) (by decide +kernel)
theorem x_acZ : Cond.arrayClass .boolean ∈ x_tbl := x_at_mem (p := 268) (by decide +kernel)
theorem x_acJ : Cond.arrayClass .long ∈ x_tbl := x_at_mem (p := 295) (by decide +kernel)
