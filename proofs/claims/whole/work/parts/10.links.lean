theorem wd_0 : Cond.selects "TurnedRivers$Tokens" ⟨"TurnedRivers$Tokens", "takeNumber", "([BII)V"⟩ ⟨"TurnedRivers$Tokens", "takeNumber", "([BII)V"⟩ ∈ gw := gm_0 0 rfl rfl
theorem wd_1 : Cond.selects "TurnedRivers$Tokens" ⟨"TurnedRivers$Tokens", "takeWord", "([BII)V"⟩ ⟨"TurnedRivers$Tokens", "takeWord", "([BII)V"⟩ ∈ gw := gm_0 1 rfl rfl
theorem wd_2 : Cond.selects "TurnedRivers$Reader" ⟨"TurnedRivers$Reader", "readItem", "(LTurnedRivers$Land;Z)Z"⟩ ⟨"TurnedRivers$Reader", "readItem", "(LTurnedRivers$Land;Z)Z"⟩ ∈ gw := gm_0 2 rfl rfl
theorem wd_3 : Cond.selects "TurnedRivers$Reader" ⟨"TurnedRivers$Reader", "readFacts", "(LTurnedRivers$Land;)Z"⟩ ⟨"TurnedRivers$Reader", "readFacts", "(LTurnedRivers$Land;)Z"⟩ ∈ gw := gm_0 3 rfl rfl
theorem wd_4 : Cond.selects "TurnedRivers$Reader" ⟨"TurnedRivers$Reader", "readPlaces", "(LTurnedRivers$Land;)Z"⟩ ⟨"TurnedRivers$Reader", "readPlaces", "(LTurnedRivers$Land;)Z"⟩ ∈ gw := gm_0 4 rfl rfl
theorem wd_5 : Cond.selects "TurnedRivers$Reader" ⟨"TurnedRivers$Reader", "readNumber", "(II)Z"⟩ ⟨"TurnedRivers$Reader", "readNumber", "(II)Z"⟩ ∈ gw := gm_0 5 rfl rfl
theorem wd_6 : Cond.selects "TurnedRivers$Reader" ⟨"TurnedRivers$Reader", "step", "()V"⟩ ⟨"TurnedRivers$Reader", "step", "()V"⟩ ∈ gw := gm_0 6 rfl rfl
theorem wd_7 : Cond.selects "TurnedRivers$Reader" ⟨"TurnedRivers$Reader", "number", "()I"⟩ ⟨"TurnedRivers$Reader", "number", "()I"⟩ ∈ gw := gm_0 7 rfl rfl
theorem wd_8 : Cond.selects "TurnedRivers$Reader" ⟨"TurnedRivers$Reader", "readRiver", "(LTurnedRivers$Land;)Z"⟩ ⟨"TurnedRivers$Reader", "readRiver", "(LTurnedRivers$Land;)Z"⟩ ∈ gw := gm_0 8 rfl rfl
theorem wd_9 : Cond.selects "TurnedRivers$Reader" ⟨"TurnedRivers$Reader", "readInto", "([IIII)Z"⟩ ⟨"TurnedRivers$Reader", "readInto", "([IIII)Z"⟩ ∈ gw := gm_0 9 rfl rfl
theorem wd_10 : Cond.selects "TurnedRivers$Reader" ⟨"TurnedRivers$Reader", "readTown", "(LTurnedRivers$Land;)Z"⟩ ⟨"TurnedRivers$Reader", "readTown", "(LTurnedRivers$Land;)Z"⟩ ∈ gw := gm_0 10 rfl rfl
theorem wd_11 : Cond.selects "TurnedRivers$Reader" ⟨"TurnedRivers$Reader", "readWork", "(LTurnedRivers$Land;)Z"⟩ ⟨"TurnedRivers$Reader", "readWork", "(LTurnedRivers$Land;)Z"⟩ ∈ gw := gm_0 11 rfl rfl
theorem wd_12 : Cond.selects "TurnedRivers$Reader" ⟨"TurnedRivers$Reader", "readDam", "(LTurnedRivers$Land;)Z"⟩ ⟨"TurnedRivers$Reader", "readDam", "(LTurnedRivers$Land;)Z"⟩ ∈ gw := gm_0 12 rfl rfl
theorem wd_13 : Cond.selects "TurnedRivers$Reader" ⟨"TurnedRivers$Reader", "readFollow", "(LTurnedRivers$Land;)Z"⟩ ⟨"TurnedRivers$Reader", "readFollow", "(LTurnedRivers$Land;)Z"⟩ ∈ gw := gm_0 13 rfl rfl
theorem wd_14 : Cond.selects "TurnedRivers" ⟨"TurnedRivers", "isPlace", "(I)Z"⟩ ⟨"TurnedRivers", "isPlace", "(I)Z"⟩ ∈ gw := gm_0 14 rfl rfl
theorem wd_15 : Cond.selects "TurnedRivers" ⟨"TurnedRivers", "isRiver", "(I)Z"⟩ ⟨"TurnedRivers", "isRiver", "(I)Z"⟩ ∈ gw := gm_0 15 rfl rfl
theorem wd_16 : Cond.selects "TurnedRivers" ⟨"TurnedRivers", "isTown", "(I)Z"⟩ ⟨"TurnedRivers", "isTown", "(I)Z"⟩ ∈ gw := gm_0 16 rfl rfl
theorem wd_17 : Cond.selects "TurnedRivers" ⟨"TurnedRivers", "isWork", "(I)Z"⟩ ⟨"TurnedRivers", "isWork", "(I)Z"⟩ ∈ gw := gm_0 17 rfl rfl
theorem wd_18 : Cond.selects "TurnedRivers" ⟨"TurnedRivers", "plainMost", "(III)I"⟩ ⟨"TurnedRivers", "plainMost", "(III)I"⟩ ∈ gw := gm_0 18 rfl rfl
theorem wd_19 : Cond.selects "TurnedRivers$Flow" ⟨"TurnedRivers$Flow", "openWorks", "(LTurnedRivers$Land;II)V"⟩ ⟨"TurnedRivers$Flow", "openWorks", "(LTurnedRivers$Land;II)V"⟩ ∈ gw := gm_0 19 rfl rfl
theorem wd_20 : Cond.selects "TurnedRivers$Flow" ⟨"TurnedRivers$Flow", "openTowns", "(LTurnedRivers$Land;I)V"⟩ ⟨"TurnedRivers$Flow", "openTowns", "(LTurnedRivers$Land;I)V"⟩ ∈ gw := gm_0 20 rfl rfl
theorem wd_21 : Cond.selects "TurnedRivers$Flow" ⟨"TurnedRivers$Flow", "findPaths", "()V"⟩ ⟨"TurnedRivers$Flow", "findPaths", "()V"⟩ ∈ gw := gm_0 21 rfl rfl
theorem wd_22 : Cond.selects "TurnedRivers$Flow" ⟨"TurnedRivers$Flow", "cheapen", "(I)Z"⟩ ⟨"TurnedRivers$Flow", "cheapen", "(I)Z"⟩ ∈ gw := gm_0 22 rfl rfl
theorem wd_23 : Cond.selects "TurnedRivers$Flow" ⟨"TurnedRivers$Flow", "bestWant", "()I"⟩ ⟨"TurnedRivers$Flow", "bestWant", "()I"⟩ ∈ gw := gm_0 23 rfl rfl
theorem wd_24 : Cond.selects "TurnedRivers$Flow" ⟨"TurnedRivers$Flow", "gainOf", "(I)I"⟩ ⟨"TurnedRivers$Flow", "gainOf", "(I)I"⟩ ∈ gw := gm_0 24 rfl rfl
theorem wd_25 : Cond.selects "TurnedRivers$Flow" ⟨"TurnedRivers$Flow", "sendFor", "(I)I"⟩ ⟨"TurnedRivers$Flow", "sendFor", "(I)I"⟩ ∈ gw := gm_0 25 rfl rfl
theorem wd_26 : Cond.selects "TurnedRivers$Flow" ⟨"TurnedRivers$Flow", "moveAlong", "(II)V"⟩ ⟨"TurnedRivers$Flow", "moveAlong", "(II)V"⟩ ∈ gw := gm_0 26 rfl rfl
theorem wd_27 : Cond.selects "TurnedRivers" ⟨"TurnedRivers", "brings", "(II)I"⟩ ⟨"TurnedRivers", "brings", "(II)I"⟩ ∈ gw := gm_0 27 rfl rfl
theorem wd_28 : Cond.selects "TurnedRivers" ⟨"TurnedRivers", "staysAt", "(III)I"⟩ ⟨"TurnedRivers", "staysAt", "(III)I"⟩ ∈ gw := gm_0 28 rfl rfl
theorem wd_29 : Cond.selects "TurnedRivers" ⟨"TurnedRivers", "tooFullWork", "()I"⟩ ⟨"TurnedRivers", "tooFullWork", "()I"⟩ ∈ gw := gm_0 29 rfl rfl
theorem wd_30 : Cond.selects "TurnedRivers" ⟨"TurnedRivers", "tooEmptyPlace", "(II)I"⟩ ⟨"TurnedRivers", "tooEmptyPlace", "(II)I"⟩ ∈ gw := gm_0 30 rfl rfl
theorem wd_31 : Cond.selects "TurnedRivers$Land" ⟨"TurnedRivers$Land", "sumOf", "(II)I"⟩ ⟨"TurnedRivers$Land", "sumOf", "(II)I"⟩ ∈ gw := gm_0 31 rfl rfl
theorem wd_32 : Cond.selects "TurnedRivers" ⟨"TurnedRivers", "mostOfThreeYears", "(I)I"⟩ ⟨"TurnedRivers", "mostOfThreeYears", "(I)I"⟩ ∈ gw := gm_0 32 rfl rfl
theorem wd_33 : Cond.selects "TurnedRivers$Digging" ⟨"TurnedRivers$Digging", "greatestBehind", "(LTurnedRivers$Land;III)I"⟩ ⟨"TurnedRivers$Digging", "greatestBehind", "(LTurnedRivers$Land;III)I"⟩ ∈ gw := gm_0 33 rfl rfl
theorem wd_34 : Cond.selects "TurnedRivers$Digging" ⟨"TurnedRivers$Digging", "sumIfNext", "(LTurnedRivers$Land;III)I"⟩ ⟨"TurnedRivers$Digging", "sumIfNext", "(LTurnedRivers$Land;III)I"⟩ ∈ gw := gm_0 34 rfl rfl
theorem wd_35 : Cond.selects "TurnedRivers$Digging" ⟨"TurnedRivers$Digging", "leastNext", "(LTurnedRivers$Land;III)I"⟩ ⟨"TurnedRivers$Digging", "leastNext", "(LTurnedRivers$Land;III)I"⟩ ∈ gw := gm_0 35 rfl rfl
theorem wd_36 : Cond.selects "TurnedRivers$Years" ⟨"TurnedRivers$Years", "followed", "(LTurnedRivers$Land;I)J"⟩ ⟨"TurnedRivers$Years", "followed", "(LTurnedRivers$Land;I)J"⟩ ∈ gw := gm_0 36 rfl rfl
theorem wd_37 : Cond.selects "TurnedRivers$DamPlan" ⟨"TurnedRivers$DamPlan", "planSeason", "(LTurnedRivers$Land;LTurnedRivers$Flow;III)V"⟩ ⟨"TurnedRivers$DamPlan", "planSeason", "(LTurnedRivers$Land;LTurnedRivers$Flow;III)V"⟩ ∈ gw := gm_0 37 rfl rfl
theorem wd_38 : Cond.selects "TurnedRivers$DamPlan" ⟨"TurnedRivers$DamPlan", "mostWith", "(LTurnedRivers$Land;LTurnedRivers$Flow;IIII)I"⟩ ⟨"TurnedRivers$DamPlan", "mostWith", "(LTurnedRivers$Land;LTurnedRivers$Flow;IIII)I"⟩ ∈ gw := gm_0 38 rfl rfl
theorem wd_39 : Cond.selects "TurnedRivers" ⟨"TurnedRivers", "levelBehind", "(II)I"⟩ ⟨"TurnedRivers", "levelBehind", "(II)I"⟩ ∈ gw := gm_0 39 rfl rfl
theorem wd_40 : Cond.selects "TurnedRivers" ⟨"TurnedRivers", "holds", "(III)Z"⟩ ⟨"TurnedRivers", "holds", "(III)Z"⟩ ∈ gw := gm_0 40 rfl rfl
theorem wd_41 : Cond.selects "TurnedRivers" ⟨"TurnedRivers", "mostOfTowns", "(II)I"⟩ ⟨"TurnedRivers", "mostOfTowns", "(II)I"⟩ ∈ gw := gm_0 41 rfl rfl
theorem wd_42 : Cond.selects "TurnedRivers" ⟨"TurnedRivers", "complaint", "(II)I"⟩ ⟨"TurnedRivers", "complaint", "(II)I"⟩ ∈ gw := gm_0 42 rfl rfl
theorem wd_43 : Cond.selects "TurnedRivers" ⟨"TurnedRivers", "asWork", "(I)I"⟩ ⟨"TurnedRivers", "asWork", "(I)I"⟩ ∈ gw := gm_0 43 rfl rfl
theorem wd_44 : Cond.selects "TurnedRivers" ⟨"TurnedRivers", "asCanal", "(I)I"⟩ ⟨"TurnedRivers", "asCanal", "(I)I"⟩ ∈ gw := gm_0 44 rfl rfl
theorem wd_45 : Cond.selects "TurnedRivers" ⟨"TurnedRivers", "asLift", "(I)I"⟩ ⟨"TurnedRivers", "asLift", "(I)I"⟩ ∈ gw := gm_0 45 rfl rfl
theorem wd_46 : Cond.selects "TurnedRivers" ⟨"TurnedRivers", "asTunnel", "(I)I"⟩ ⟨"TurnedRivers", "asTunnel", "(I)I"⟩ ∈ gw := gm_0 46 rfl rfl
theorem wd_47 : Cond.selects "TurnedRivers" ⟨"TurnedRivers", "asFall", "(I)I"⟩ ⟨"TurnedRivers", "asFall", "(I)I"⟩ ∈ gw := gm_0 47 rfl rfl
theorem wd_48 : Cond.selects "TurnedRivers" ⟨"TurnedRivers", "asSaving", "(I)I"⟩ ⟨"TurnedRivers", "asSaving", "(I)I"⟩ ∈ gw := gm_0 48 rfl rfl
theorem wd_49 : Cond.selects "TurnedRiversModel" ⟨"TurnedRiversModel", "next", "()V"⟩ ⟨"TurnedRiversModel", "next", "()V"⟩ ∈ gw := gm_0 49 rfl rfl
theorem wd_50 : Cond.selects "TurnedRiversModel" ⟨"TurnedRiversModel", "here", "()I"⟩ ⟨"TurnedRiversModel", "here", "()I"⟩ ∈ gw := gm_0 50 rfl rfl
theorem wd_51 : Cond.selects "TurnedRiversModel" ⟨"TurnedRiversModel", "item", "(II)V"⟩ ⟨"TurnedRiversModel", "item", "(II)V"⟩ ∈ gw := gm_0 51 rfl rfl
theorem wd_52 : Cond.selects "TurnedRiversModel" ⟨"TurnedRiversModel", "due", "(Z)I"⟩ ⟨"TurnedRiversModel", "due", "(Z)I"⟩ ∈ gw := gm_0 52 rfl rfl
theorem wd_53 : Cond.selects "TurnedRiversModel" ⟨"TurnedRiversModel", "number", "(II)I"⟩ ⟨"TurnedRiversModel", "number", "(II)I"⟩ ∈ gw := gm_0 53 rfl rfl
theorem wd_54 : Cond.selects "TurnedRiversModel" ⟨"TurnedRiversModel", "readRiver", "()V"⟩ ⟨"TurnedRiversModel", "readRiver", "()V"⟩ ∈ gw := gm_0 54 rfl rfl
theorem wd_55 : Cond.selects "TurnedRiversModel" ⟨"TurnedRiversModel", "isPlaceTold", "()Z"⟩ ⟨"TurnedRiversModel", "isPlaceTold", "()Z"⟩ ∈ gw := gm_0 55 rfl rfl
theorem wd_56 : Cond.selects "TurnedRiversModel" ⟨"TurnedRiversModel", "readTown", "()V"⟩ ⟨"TurnedRiversModel", "readTown", "()V"⟩ ∈ gw := gm_0 56 rfl rfl
theorem wd_57 : Cond.selects "TurnedRiversModel" ⟨"TurnedRiversModel", "isTownless", "(I)Z"⟩ ⟨"TurnedRiversModel", "isTownless", "(I)Z"⟩ ∈ gw := gm_0 57 rfl rfl
theorem wd_58 : Cond.selects "TurnedRiversModel" ⟨"TurnedRiversModel", "readWork", "()V"⟩ ⟨"TurnedRiversModel", "readWork", "()V"⟩ ∈ gw := gm_0 58 rfl rfl
theorem wd_59 : Cond.selects "TurnedRiversModel" ⟨"TurnedRiversModel", "isPlace", "(I)Z"⟩ ⟨"TurnedRiversModel", "isPlace", "(I)Z"⟩ ∈ gw := gm_0 59 rfl rfl
theorem wd_60 : Cond.selects "TurnedRiversModel" ⟨"TurnedRiversModel", "isTown", "(I)Z"⟩ ⟨"TurnedRiversModel", "isTown", "(I)Z"⟩ ∈ gw := gm_0 60 rfl rfl
theorem wd_61 : Cond.selects "TurnedRiversModel" ⟨"TurnedRiversModel", "isWork", "(I)Z"⟩ ⟨"TurnedRiversModel", "isWork", "(I)Z"⟩ ∈ gw := gm_0 61 rfl rfl
theorem wd_62 : Cond.selects "TurnedRiversModel" ⟨"TurnedRiversModel", "seasonMost", "(IIII)I"⟩ ⟨"TurnedRiversModel", "seasonMost", "(IIII)I"⟩ ∈ gw := gm_0 62 rfl rfl
theorem wd_63 : Cond.selects "TurnedRiversModel" ⟨"TurnedRiversModel", "fill", "(II)V"⟩ ⟨"TurnedRiversModel", "fill", "(II)V"⟩ ∈ gw := gm_0 63 rfl rfl
theorem wd_64 : Cond.selects "TurnedRiversModel" ⟨"TurnedRiversModel", "mostOf", "(III)I"⟩ ⟨"TurnedRiversModel", "mostOf", "(III)I"⟩ ∈ gw := gm_0 64 rfl rfl
theorem wd_65 : Cond.selects "TurnedRiversModel" ⟨"TurnedRiversModel", "way", "(IIII)V"⟩ ⟨"TurnedRiversModel", "way", "(IIII)V"⟩ ∈ gw := gm_0 65 rfl rfl
theorem wd_66 : Cond.selects "TurnedRiversModel" ⟨"TurnedRiversModel", "findWay", "()I"⟩ ⟨"TurnedRiversModel", "findWay", "()I"⟩ ∈ gw := gm_0 66 rfl rfl
theorem wd_67 : Cond.selects "TurnedRiversModel" ⟨"TurnedRiversModel", "goWay", "()I"⟩ ⟨"TurnedRiversModel", "goWay", "()I"⟩ ∈ gw := gm_0 67 rfl rfl
theorem wd_68 : Cond.selects "TurnedRiversModel" ⟨"TurnedRiversModel", "staysAt", "(I)I"⟩ ⟨"TurnedRiversModel", "staysAt", "(I)I"⟩ ∈ gw := gm_0 68 rfl rfl
theorem wd_69 : Cond.selects "TurnedRiversModel" ⟨"TurnedRiversModel", "yearMost", "(III)I"⟩ ⟨"TurnedRiversModel", "yearMost", "(III)I"⟩ ∈ gw := gm_0 69 rfl rfl
theorem wd_70 : Cond.selects "TurnedRiversModel" ⟨"TurnedRiversModel", "costOf", "(I)I"⟩ ⟨"TurnedRiversModel", "costOf", "(I)I"⟩ ∈ gw := gm_0 70 rfl rfl
theorem wd_71 : Cond.selects "TurnedRiversModel" ⟨"TurnedRiversModel", "isOrderOf", "(III)Z"⟩ ⟨"TurnedRiversModel", "isOrderOf", "(III)Z"⟩ ∈ gw := gm_0 71 rfl rfl
theorem wd_72 : Cond.selects "TurnedRiversModel" ⟨"TurnedRiversModel", "orderMost", "(III)I"⟩ ⟨"TurnedRiversModel", "orderMost", "(III)I"⟩ ∈ gw := gm_0 72 rfl rfl
theorem wd_73 : Cond.selects "TurnedRiversModel" ⟨"TurnedRiversModel", "workSeason", "(II)I"⟩ ⟨"TurnedRiversModel", "workSeason", "(II)I"⟩ ∈ gw := gm_0 73 rfl rfl
theorem wd_74 : Cond.selects "TurnedRiversModel" ⟨"TurnedRiversModel", "levelOf", "(II)I"⟩ ⟨"TurnedRiversModel", "levelOf", "(II)I"⟩ ∈ gw := gm_0 74 rfl rfl
theorem wd_75 : Cond.selects "TurnedRiversModel" ⟨"TurnedRiversModel", "allTowns", "()I"⟩ ⟨"TurnedRiversModel", "allTowns", "()I"⟩ ∈ gw := gm_0 75 rfl rfl
theorem wd_76 : Cond.selects "TurnedRiversModel" ⟨"TurnedRiversModel", "sharesOf", "(I)I"⟩ ⟨"TurnedRiversModel", "sharesOf", "(I)I"⟩ ∈ gw := gm_0 76 rfl rfl
theorem wd_77 : Cond.selects "TurnedRiversModel" ⟨"TurnedRiversModel", "copy", "(II)V"⟩ ⟨"TurnedRiversModel", "copy", "(II)V"⟩ ∈ gw := gm_0 77 rfl rfl
theorem wd_79 : Cond.initialized "TurnedRivers" ∈ gw := gm_1 1 rfl rfl
theorem wd_80 : Cond.initialized "TurnedRivers$Reader" ∈ gw := gm_1 2 rfl rfl
theorem wd_81 : Cond.initialized "TurnedRivers$Tokens" ∈ gw := gm_1 3 rfl rfl
theorem wd_82 : Cond.initialized "TurnedRivers$Land" ∈ gw := gm_1 4 rfl rfl
theorem wd_83 : Cond.initialized "java/util/Arrays" ∈ gw := gm_1 5 rfl rfl
theorem wd_84 : Cond.initialized "TurnedRivers$Flow" ∈ gw := gm_1 6 rfl rfl
theorem wd_85 : Cond.initialized "TurnedRivers$Years" ∈ gw := gm_1 7 rfl rfl
theorem wd_86 : Cond.initialized "TurnedRivers$Digging" ∈ gw := gm_1 8 rfl rfl
theorem wd_87 : Cond.initialized "TurnedRivers$DamPlan" ∈ gw := gm_1 9 rfl rfl
theorem wd_88 : Cond.initialized "TurnedRivers$Standing" ∈ gw := gm_1 10 rfl rfl
theorem wd_89 : Cond.initialized "TurnedRiversModel" ∈ gw := gm_1 11 rfl rfl
theorem wd_90 : Cond.initialized "java/lang/Math" ∈ gw := gm_1 12 rfl rfl
theorem wd_91 : Cond.initialized "java/lang/String" ∈ gw := gm_1 13 rfl rfl
theorem wd_92 : Cond.initialized "java/lang/StringLatin1" ∈ gw := gm_1 14 rfl rfl
theorem wd_93 : Cond.initialized "jdk/internal/util/Preconditions" ∈ gw := gm_1 15 rfl rfl
theorem wd_95 : Cond.initialized "java/lang/System" ∈ gw := gm_1 17 rfl rfl
theorem wd_96 : Cond.initialized "java/lang/Integer" ∈ gw := gm_1 18 rfl rfl
theorem wd_117 : Cond.fieldLink "TurnedRivers$Tokens" 9 "TurnedRivers$Tokens" "kinds" "[I" ∈ gw := gm_1 39 rfl rfl
theorem wd_118 : Cond.fieldLink "TurnedRivers$Reader" 31 "TurnedRivers$Tokens" "kinds" "[I" ∈ gw := gm_1 40 rfl rfl
theorem wd_119 : Cond.fieldLink "TurnedRivers$Tokens" 15 "TurnedRivers$Tokens" "starts" "[I" ∈ gw := gm_1 41 rfl rfl
theorem wd_120 : Cond.fieldLink "TurnedRivers$Reader" 39 "TurnedRivers$Tokens" "starts" "[I" ∈ gw := gm_1 42 rfl rfl
theorem wd_121 : Cond.fieldLink "TurnedRivers$Tokens" 18 "TurnedRivers$Tokens" "meanings" "[I" ∈ gw := gm_1 43 rfl rfl
theorem wd_122 : Cond.fieldLink "TurnedRivers$Reader" 42 "TurnedRivers$Tokens" "meanings" "[I" ∈ gw := gm_1 44 rfl rfl
theorem wd_123 : Cond.fieldLink "TurnedRivers$Tokens" 21 "TurnedRivers$Tokens" "at" "I" ∈ gw := gm_1 45 rfl rfl
theorem wd_135 : Cond.fieldLink "TurnedRivers$Reader" 12 "TurnedRivers$Reader" "tokens" "LTurnedRivers$Tokens;" ∈ gw := gm_1 57 rfl rfl
theorem wd_136 : Cond.fieldLink "TurnedRivers$Reader" 27 "TurnedRivers$Reader" "at" "I" ∈ gw := gm_1 58 rfl rfl
theorem wd_149 : Cond.instanceMethod ⟨"TurnedRivers$Land", "empty", "()V"⟩ ∈ gw := gm_1 71 rfl rfl
theorem wd_150 : Cond.selects "TurnedRivers$Land" ⟨"TurnedRivers$Land", "empty", "()V"⟩ ⟨"TurnedRivers$Land", "empty", "()V"⟩ ∈ gw := gm_1 72 rfl rfl
theorem wd_151 : Cond.code ⟨"TurnedRivers$Land", "empty", "()V"⟩ prog_5_method_2_code 2 none ∈ gw := gm_1 73 rfl rfl
theorem wd_152 : Cond.methodLink "TurnedRivers$Land" 46 ⟨"java/util/Arrays", "fill", "([II)V"⟩ ∈ gw := gm_1 74 rfl rfl
theorem wd_153 : Cond.static ⟨"java/util/Arrays", "fill", "([II)V"⟩ ∈ gw := gm_1 75 rfl rfl
theorem wd_154 : Cond.code ⟨"java/util/Arrays", "fill", "([II)V"⟩ prog_18_method_103_code 4 none ∈ gw := gm_1 76 rfl rfl
theorem wd_155 : Cond.fieldLink "TurnedRivers$Land" 30 "TurnedRivers$Land" "places" "I" ∈ gw := gm_1 77 rfl rfl
theorem wd_156 : Cond.fieldLink "TurnedRivers$Flow" 48 "TurnedRivers$Land" "places" "I" ∈ gw := gm_1 78 rfl rfl
theorem wd_157 : Cond.fieldLink "TurnedRivers$Reader" 78 "TurnedRivers$Land" "places" "I" ∈ gw := gm_1 79 rfl rfl
theorem wd_158 : Cond.fieldLink "TurnedRivers" 249 "TurnedRivers$Land" "places" "I" ∈ gw := gm_1 80 rfl rfl
theorem wd_159 : Cond.fieldLink "TurnedRivers$Land" 34 "TurnedRivers$Land" "towns" "I" ∈ gw := gm_1 81 rfl rfl
theorem wd_160 : Cond.fieldLink "TurnedRivers$Flow" 100 "TurnedRivers$Land" "towns" "I" ∈ gw := gm_1 82 rfl rfl
theorem wd_161 : Cond.fieldLink "TurnedRivers$Reader" 95 "TurnedRivers$Land" "towns" "I" ∈ gw := gm_1 83 rfl rfl
theorem wd_162 : Cond.fieldLink "TurnedRivers" 221 "TurnedRivers$Land" "towns" "I" ∈ gw := gm_1 84 rfl rfl
theorem wd_163 : Cond.fieldLink "TurnedRivers$Land" 37 "TurnedRivers$Land" "works" "I" ∈ gw := gm_1 85 rfl rfl
theorem wd_164 : Cond.fieldLink "TurnedRivers$Flow" 90 "TurnedRivers$Land" "works" "I" ∈ gw := gm_1 86 rfl rfl
theorem wd_165 : Cond.fieldLink "TurnedRivers$Reader" 104 "TurnedRivers$Land" "works" "I" ∈ gw := gm_1 87 rfl rfl
theorem wd_166 : Cond.fieldLink "TurnedRivers" 252 "TurnedRivers$Land" "works" "I" ∈ gw := gm_1 88 rfl rfl
theorem wd_167 : Cond.fieldLink "TurnedRivers$Land" 40 "TurnedRivers$Land" "damPlace" "I" ∈ gw := gm_1 89 rfl rfl
theorem wd_168 : Cond.fieldLink "TurnedRivers$DamPlan" 31 "TurnedRivers$Land" "damPlace" "I" ∈ gw := gm_1 90 rfl rfl
theorem wd_169 : Cond.fieldLink "TurnedRivers$Reader" 113 "TurnedRivers$Land" "damPlace" "I" ∈ gw := gm_1 91 rfl rfl
theorem wd_170 : Cond.fieldLink "TurnedRivers$Land" 43 "TurnedRivers$Land" "damHolds" "I" ∈ gw := gm_1 92 rfl rfl
theorem wd_171 : Cond.fieldLink "TurnedRivers$DamPlan" 41 "TurnedRivers$Land" "damHolds" "I" ∈ gw := gm_1 93 rfl rfl
theorem wd_172 : Cond.fieldLink "TurnedRivers$Reader" 110 "TurnedRivers$Land" "damHolds" "I" ∈ gw := gm_1 94 rfl rfl
theorem wd_173 : Cond.fieldLink "TurnedRivers" 197 "TurnedRivers$Land" "damHolds" "I" ∈ gw := gm_1 95 rfl rfl
theorem wd_174 : Cond.fieldLink "TurnedRivers$Land" 9 "TurnedRivers$Land" "keeps" "[I" ∈ gw := gm_1 96 rfl rfl
theorem wd_175 : Cond.fieldLink "TurnedRivers" 106 "TurnedRivers$Land" "keeps" "[I" ∈ gw := gm_1 97 rfl rfl
theorem wd_176 : Cond.fieldLink "TurnedRivers$Reader" 85 "TurnedRivers$Land" "keeps" "[I" ∈ gw := gm_1 98 rfl rfl
theorem wd_177 : Cond.fieldLink "TurnedRivers$Land" 15 "TurnedRivers$Land" "waters" "[I" ∈ gw := gm_1 99 rfl rfl
theorem wd_178 : Cond.fieldLink "TurnedRivers$Reader" 92 "TurnedRivers$Land" "waters" "[I" ∈ gw := gm_1 100 rfl rfl
theorem wd_179 : Cond.fieldLink "TurnedRivers$Land" 18 "TurnedRivers$Land" "townFacts" "[I" ∈ gw := gm_1 101 rfl rfl
theorem wd_180 : Cond.fieldLink "TurnedRivers$Reader" 101 "TurnedRivers$Land" "townFacts" "[I" ∈ gw := gm_1 102 rfl rfl
theorem wd_181 : Cond.fieldLink "TurnedRivers$Land" 21 "TurnedRivers$Land" "workFacts" "[I" ∈ gw := gm_1 103 rfl rfl
theorem wd_182 : Cond.fieldLink "TurnedRivers$Reader" 107 "TurnedRivers$Land" "workFacts" "[I" ∈ gw := gm_1 104 rfl rfl
theorem wd_183 : Cond.fieldLink "TurnedRivers$Land" 24 "TurnedRivers$Land" "follows" "[I" ∈ gw := gm_1 105 rfl rfl
theorem wd_184 : Cond.fieldLink "TurnedRivers$Years" 65 "TurnedRivers$Land" "follows" "[I" ∈ gw := gm_1 106 rfl rfl
theorem wd_185 : Cond.fieldLink "TurnedRivers$Reader" 116 "TurnedRivers$Land" "follows" "[I" ∈ gw := gm_1 107 rfl rfl
theorem wd_213 : Cond.fieldLink "TurnedRivers$Flow" 9 "TurnedRivers$Flow" "supplies" "[I" ∈ gw := gm_1 135 rfl rfl
theorem wd_214 : Cond.fieldLink "TurnedRivers$DamPlan" 63 "TurnedRivers$Flow" "supplies" "[I" ∈ gw := gm_1 136 rfl rfl
theorem wd_215 : Cond.fieldLink "TurnedRivers" 130 "TurnedRivers$Flow" "supplies" "[I" ∈ gw := gm_1 137 rfl rfl
theorem wd_216 : Cond.fieldLink "TurnedRivers$Flow" 15 "TurnedRivers$Flow" "left" "[I" ∈ gw := gm_1 138 rfl rfl
theorem wd_217 : Cond.fieldLink "TurnedRivers$Flow" 58 "TurnedRivers$Flow" "places" "I" ∈ gw := gm_1 139 rfl rfl
theorem wd_218 : Cond.fieldLink "TurnedRivers$Flow" 87 "TurnedRivers$Flow" "arcs" "I" ∈ gw := gm_1 140 rfl rfl
theorem wd_219 : Cond.fieldLink "TurnedRivers$Flow" 18 "TurnedRivers$Flow" "from" "[I" ∈ gw := gm_1 141 rfl rfl
theorem wd_220 : Cond.fieldLink "TurnedRivers$Flow" 21 "TurnedRivers$Flow" "to" "[I" ∈ gw := gm_1 142 rfl rfl
theorem wd_221 : Cond.fieldLink "TurnedRivers$Flow" 24 "TurnedRivers$Flow" "toll" "[I" ∈ gw := gm_1 143 rfl rfl
theorem wd_222 : Cond.fieldLink "TurnedRivers$Flow" 27 "TurnedRivers$Flow" "room" "[I" ∈ gw := gm_1 144 rfl rfl
theorem wd_223 : Cond.fieldLink "TurnedRivers$Flow" 30 "TurnedRivers$Flow" "used" "[I" ∈ gw := gm_1 145 rfl rfl
theorem wd_224 : Cond.fieldLink "TurnedRivers$Flow" 97 "TurnedRivers$Flow" "towns" "I" ∈ gw := gm_1 146 rfl rfl
theorem wd_225 : Cond.fieldLink "TurnedRivers$Flow" 33 "TurnedRivers$Flow" "townPlace" "[I" ∈ gw := gm_1 147 rfl rfl
theorem wd_226 : Cond.fieldLink "TurnedRivers$Flow" 36 "TurnedRivers$Flow" "wants" "[I" ∈ gw := gm_1 148 rfl rfl
theorem wd_227 : Cond.fieldLink "TurnedRivers$Flow" 39 "TurnedRivers$Flow" "worths" "[I" ∈ gw := gm_1 149 rfl rfl
theorem wd_228 : Cond.fieldLink "TurnedRivers$Flow" 42 "TurnedRivers$Flow" "cost" "[I" ∈ gw := gm_1 150 rfl rfl
set_option maxRecDepth 4000 in
theorem wd_229 : Cond.fieldLink "TurnedRivers$Flow" 45 "TurnedRivers$Flow" "cameBy" "[I" ∈ gw := gm_1 151 rfl rfl
set_option maxRecDepth 4000 in
theorem wd_268 : Cond.instanceMethod ⟨"TurnedRivers$Years", "forget", "()V"⟩ ∈ gw := gm_1 190 rfl rfl
set_option maxRecDepth 4000 in
theorem wd_269 : Cond.selects "TurnedRivers$Years" ⟨"TurnedRivers$Years", "forget", "()V"⟩ ⟨"TurnedRivers$Years", "forget", "()V"⟩ ∈ gw := gm_1 191 rfl rfl
set_option maxRecDepth 4000 in
theorem wd_270 : Cond.code ⟨"TurnedRivers$Years", "forget", "()V"⟩ prog_9_method_2_code 1 none ∈ gw := gm_1 192 rfl rfl
set_option maxRecDepth 4000 in
theorem wd_271 : Cond.methodLink "TurnedRivers$Years" 25 ⟨"java/util/Arrays", "fill", "([II)V"⟩ ∈ gw := gm_1 193 rfl rfl
set_option maxRecDepth 4000 in
theorem wd_272 : Cond.fieldLink "TurnedRivers$Years" 9 "TurnedRivers$Years" "known" "[I" ∈ gw := gm_1 194 rfl rfl
set_option maxRecDepth 4000 in
theorem wd_273 : Cond.fieldLink "TurnedRivers$Years" 15 "TurnedRivers$Years" "behind" "[J" ∈ gw := gm_1 195 rfl rfl
set_option maxRecDepth 4000 in
theorem wd_274 : Cond.fieldLink "TurnedRivers$Years" 19 "TurnedRivers$Years" "longer" "[J" ∈ gw := gm_1 196 rfl rfl
set_option maxRecDepth 4000 in
theorem wd_289 : Cond.fieldLink "TurnedRivers$Digging" 9 "TurnedRivers$Digging" "brings" "[I" ∈ gw := gm_1 211 rfl rfl
set_option maxRecDepth 4000 in
theorem wd_290 : Cond.fieldLink "TurnedRivers" 180 "TurnedRivers$Digging" "brings" "[I" ∈ gw := gm_1 212 rfl rfl
set_option maxRecDepth 4000 in
theorem wd_291 : Cond.fieldLink "TurnedRivers$Digging" 15 "TurnedRivers$Digging" "toCome" "[I" ∈ gw := gm_1 213 rfl rfl
set_option maxRecDepth 4000 in
theorem wd_303 : Cond.fieldLink "TurnedRivers$DamPlan" 48 "TurnedRivers$DamPlan" "keptFirst" "I" ∈ gw := gm_1 225 rfl rfl
set_option maxRecDepth 4000 in
theorem wd_304 : Cond.fieldLink "TurnedRivers" 203 "TurnedRivers$DamPlan" "keptFirst" "I" ∈ gw := gm_1 226 rfl rfl
set_option maxRecDepth 4000 in
theorem wd_305 : Cond.fieldLink "TurnedRivers$DamPlan" 11 "TurnedRivers$DamPlan" "mosts" "[I" ∈ gw := gm_1 227 rfl rfl
set_option maxRecDepth 4000 in
theorem wd_306 : Cond.fieldLink "TurnedRivers$DamPlan" 15 "TurnedRivers$DamPlan" "later" "[I" ∈ gw := gm_1 228 rfl rfl
set_option maxRecDepth 4000 in
theorem wd_307 : Cond.fieldLink "TurnedRivers$DamPlan" 18 "TurnedRivers$DamPlan" "sums" "[I" ∈ gw := gm_1 229 rfl rfl
theorem wd_323 : Cond.fieldLink "TurnedRivers$Standing" 9 "TurnedRivers$Standing" "sending" "[I" ∈ gw := gm_2 5 rfl rfl
theorem wd_324 : Cond.fieldLink "TurnedRivers" 146 "TurnedRivers$Standing" "sending" "[I" ∈ gw := gm_2 6 rfl rfl
theorem wd_325 : Cond.fieldLink "TurnedRivers$Standing" 15 "TurnedRivers$Standing" "lakeFacts" "[I" ∈ gw := gm_2 7 rfl rfl
theorem wd_326 : Cond.fieldLink "TurnedRivers" 206 "TurnedRivers$Standing" "lakeFacts" "[I" ∈ gw := gm_2 8 rfl rfl
theorem wd_327 : Cond.fieldLink "TurnedRivers$Standing" 18 "TurnedRivers$Standing" "shares" "[I" ∈ gw := gm_2 9 rfl rfl
theorem wd_328 : Cond.fieldLink "TurnedRivers" 218 "TurnedRivers$Standing" "shares" "[I" ∈ gw := gm_2 10 rfl rfl
theorem wd_337 : Cond.fieldLink "TurnedRivers" 9 "TurnedRivers" "text" "[B" ∈ gw := gm_2 19 rfl rfl
theorem wd_338 : Cond.fieldLink "TurnedRivers" 77 "TurnedRivers" "textLength" "I" ∈ gw := gm_2 20 rfl rfl
theorem wd_339 : Cond.fieldLink "TurnedRivers" 16 "TurnedRivers" "reader" "LTurnedRivers$Reader;" ∈ gw := gm_2 21 rfl rfl
theorem wd_340 : Cond.fieldLink "TurnedRivers" 23 "TurnedRivers" "told" "LTurnedRivers$Land;" ∈ gw := gm_2 22 rfl rfl
theorem wd_341 : Cond.fieldLink "TurnedRivers" 27 "TurnedRivers" "draft" "LTurnedRivers$Land;" ∈ gw := gm_2 23 rfl rfl
theorem wd_342 : Cond.fieldLink "TurnedRivers" 33 "TurnedRivers" "flow" "LTurnedRivers$Flow;" ∈ gw := gm_2 24 rfl rfl
theorem wd_343 : Cond.fieldLink "TurnedRivers" 40 "TurnedRivers" "years" "LTurnedRivers$Years;" ∈ gw := gm_2 25 rfl rfl
theorem wd_344 : Cond.fieldLink "TurnedRivers" 47 "TurnedRivers" "digging" "LTurnedRivers$Digging;" ∈ gw := gm_2 26 rfl rfl
theorem wd_345 : Cond.fieldLink "TurnedRivers" 54 "TurnedRivers" "damPlan" "LTurnedRivers$DamPlan;" ∈ gw := gm_2 27 rfl rfl
theorem wd_346 : Cond.fieldLink "TurnedRivers" 61 "TurnedRivers" "now" "LTurnedRivers$Standing;" ∈ gw := gm_2 28 rfl rfl
theorem wd_347 : Cond.fieldLink "TurnedRivers" 65 "TurnedRivers" "images" "[LTurnedRivers$Standing;" ∈ gw := gm_2 29 rfl rfl
theorem wd_348 : Cond.fieldLink "TurnedRivers" 69 "TurnedRivers" "imageKept" "[Z" ∈ gw := gm_2 30 rfl rfl
theorem wd_349 : Cond.fieldLink "TurnedRivers" 255 "TurnedRivers" "traced" "J" ∈ gw := gm_2 31 rfl rfl
theorem wd_382 : Cond.methodLink "TurnedRivers" 73 ⟨"TurnedRivers", "isWithin", "(III)Z"⟩ ∈ gw := gm_2 64 rfl rfl
theorem wd_383 : Cond.static ⟨"TurnedRivers", "isWithin", "(III)Z"⟩ ∈ gw := gm_2 65 rfl rfl
theorem wd_384 : Cond.code ⟨"TurnedRivers", "isWithin", "(III)Z"⟩ prog_1_method_32_code 3 (some .boolean) ∈ gw := gm_2 66 rfl rfl
theorem wd_393 : Cond.methodLink "TurnedRivers" 81 ⟨"TurnedRivers$Reader", "read", "([BILTurnedRivers$Land;)I"⟩ ∈ gw := gm_2 75 rfl rfl
theorem wd_394 : Cond.instanceMethod ⟨"TurnedRivers$Reader", "read", "([BILTurnedRivers$Land;)I"⟩ ∈ gw := gm_2 76 rfl rfl
theorem wd_395 : Cond.selects "TurnedRivers$Reader" ⟨"TurnedRivers$Reader", "read", "([BILTurnedRivers$Land;)I"⟩ ⟨"TurnedRivers$Reader", "read", "([BILTurnedRivers$Land;)I"⟩ ∈ gw := gm_2 77 rfl rfl
theorem wd_396 : Cond.code ⟨"TurnedRivers$Reader", "read", "([BILTurnedRivers$Land;)I"⟩ prog_6_method_2_code 5 (some .int) ∈ gw := gm_2 78 rfl rfl
theorem wd_397 : Cond.methodLink "TurnedRivers$Reader" 18 ⟨"TurnedRivers$Tokens", "scan", "([BI)V"⟩ ∈ gw := gm_2 79 rfl rfl
theorem wd_398 : Cond.instanceMethod ⟨"TurnedRivers$Tokens", "scan", "([BI)V"⟩ ∈ gw := gm_2 80 rfl rfl
theorem wd_399 : Cond.selects "TurnedRivers$Tokens" ⟨"TurnedRivers$Tokens", "scan", "([BI)V"⟩ ⟨"TurnedRivers$Tokens", "scan", "([BI)V"⟩ ∈ gw := gm_2 81 rfl rfl
theorem wd_400 : Cond.code ⟨"TurnedRivers$Tokens", "scan", "([BI)V"⟩ prog_8_method_2_code 4 none ∈ gw := gm_2 82 rfl rfl
theorem wd_401 : Cond.methodLink "TurnedRivers$Tokens" 25 ⟨"TurnedRivers$Tokens", "isDigit", "(I)Z"⟩ ∈ gw := gm_2 83 rfl rfl
theorem wd_402 : Cond.static ⟨"TurnedRivers$Tokens", "isDigit", "(I)Z"⟩ ∈ gw := gm_2 84 rfl rfl
theorem wd_403 : Cond.code ⟨"TurnedRivers$Tokens", "isDigit", "(I)Z"⟩ prog_8_method_7_code 1 (some .boolean) ∈ gw := gm_2 85 rfl rfl
theorem wd_404 : Cond.methodLink "TurnedRivers$Tokens" 29 ⟨"TurnedRivers$Tokens", "takeNumber", "([BII)V"⟩ ∈ gw := gm_2 86 rfl rfl
theorem wd_406 : Cond.instanceMethod ⟨"TurnedRivers$Tokens", "takeNumber", "([BII)V"⟩ ∈ gw := gm_2 88 rfl rfl
theorem wd_407 : Cond.code ⟨"TurnedRivers$Tokens", "takeNumber", "([BII)V"⟩ prog_8_method_3_code 7 none ∈ gw := gm_2 89 rfl rfl
theorem wd_408 : Cond.methodLink "TurnedRivers$Tokens" 39 ⟨"java/lang/Math", "min", "(II)I"⟩ ∈ gw := gm_2 90 rfl rfl
theorem wd_409 : Cond.static ⟨"java/lang/Math", "min", "(II)I"⟩ ∈ gw := gm_2 91 rfl rfl
theorem wd_410 : Cond.code Lib.Math.min.name Lib.Math.min.code 2 (some .int) ∈ gw := gm_2 92 rfl rfl
theorem wd_411 : Cond.methodLink "TurnedRivers$Tokens" 33 ⟨"TurnedRivers$Tokens", "isLetter", "(I)Z"⟩ ∈ gw := gm_2 93 rfl rfl
theorem wd_412 : Cond.static ⟨"TurnedRivers$Tokens", "isLetter", "(I)Z"⟩ ∈ gw := gm_2 94 rfl rfl
theorem wd_413 : Cond.code ⟨"TurnedRivers$Tokens", "isLetter", "(I)Z"⟩ prog_8_method_8_code 1 (some .boolean) ∈ gw := gm_2 95 rfl rfl
theorem wd_414 : Cond.methodLink "TurnedRivers$Tokens" 36 ⟨"TurnedRivers$Tokens", "takeWord", "([BII)V"⟩ ∈ gw := gm_2 96 rfl rfl
theorem wd_416 : Cond.instanceMethod ⟨"TurnedRivers$Tokens", "takeWord", "([BII)V"⟩ ∈ gw := gm_2 98 rfl rfl
theorem wd_417 : Cond.code ⟨"TurnedRivers$Tokens", "takeWord", "([BII)V"⟩ prog_8_method_4_code 6 none ∈ gw := gm_2 99 rfl rfl
theorem wd_418 : Cond.methodLink "TurnedRivers$Tokens" 45 ⟨"TurnedRivers$Tokens", "knownWord", "([BII)I"⟩ ∈ gw := gm_2 100 rfl rfl
theorem wd_419 : Cond.static ⟨"TurnedRivers$Tokens", "knownWord", "([BII)I"⟩ ∈ gw := gm_2 101 rfl rfl
theorem wd_420 : Cond.code ⟨"TurnedRivers$Tokens", "knownWord", "([BII)I"⟩ prog_8_method_5_code 3 (some .int) ∈ gw := gm_2 102 rfl rfl
theorem wd_422 : Cond.methodLink "TurnedRivers$Tokens" 51 ⟨"TurnedRivers$Tokens", "spells", "([BIILjava/lang/String;)Z"⟩ ∈ gw := gm_2 104 rfl rfl
theorem wd_423 : Cond.static ⟨"TurnedRivers$Tokens", "spells", "([BIILjava/lang/String;)Z"⟩ ∈ gw := gm_2 105 rfl rfl
theorem wd_424 : Cond.code ⟨"TurnedRivers$Tokens", "spells", "([BIILjava/lang/String;)Z"⟩ prog_8_method_6_code 5 (some .boolean) ∈ gw := gm_2 106 rfl rfl
theorem wd_425 : Cond.methodLink "TurnedRivers$Tokens" 65 ⟨"java/lang/String", "length", "()I"⟩ ∈ gw := gm_2 107 rfl rfl
theorem wd_426 : Cond.instanceMethod ⟨"java/lang/String", "length", "()I"⟩ ∈ gw := gm_2 108 rfl rfl
theorem wd_427 : Cond.selects "java/lang/String" ⟨"java/lang/String", "length", "()I"⟩ ⟨"java/lang/String", "length", "()I"⟩ ∈ gw := gm_2 109 rfl rfl
theorem wd_428 : Cond.code ⟨"java/lang/String", "length", "()I"⟩ prog_14_method_54_code 1 (some .int) ∈ gw := gm_2 110 rfl rfl
theorem wd_429 : Cond.methodLink "java/lang/String" 335 ⟨"java/lang/String", "coder", "()B"⟩ ∈ gw := gm_2 111 rfl rfl
theorem wd_430 : Cond.instanceMethod ⟨"java/lang/String", "coder", "()B"⟩ ∈ gw := gm_2 112 rfl rfl
theorem wd_431 : Cond.selects "java/lang/String" ⟨"java/lang/String", "coder", "()B"⟩ ⟨"java/lang/String", "coder", "()B"⟩ ∈ gw := gm_2 113 rfl rfl
theorem wd_432 : Cond.code ⟨"java/lang/String", "coder", "()B"⟩ prog_14_method_152_code 1 (some .byte) ∈ gw := gm_2 114 rfl rfl
theorem wd_433 : Cond.fieldLink "java/lang/String" 38 "java/lang/String" "COMPACT_STRINGS" "Z" ∈ gw := gm_2 115 rfl rfl
theorem wd_435 : Cond.methodLink "TurnedRivers$Tokens" 71 ⟨"java/lang/String", "charAt", "(I)C"⟩ ∈ gw := gm_2 117 rfl rfl
theorem wd_436 : Cond.instanceMethod ⟨"java/lang/String", "charAt", "(I)C"⟩ ∈ gw := gm_2 118 rfl rfl
theorem wd_437 : Cond.selects "java/lang/String" ⟨"java/lang/String", "charAt", "(I)C"⟩ ⟨"java/lang/String", "charAt", "(I)C"⟩ ∈ gw := gm_2 119 rfl rfl
theorem wd_438 : Cond.code ⟨"java/lang/String", "charAt", "(I)C"⟩ prog_14_method_56_code 2 (some .char) ∈ gw := gm_2 120 rfl rfl
theorem wd_439 : Cond.methodLink "java/lang/String" 492 ⟨"java/lang/String", "isLatin1", "()Z"⟩ ∈ gw := gm_2 121 rfl rfl
theorem wd_440 : Cond.instanceMethod ⟨"java/lang/String", "isLatin1", "()Z"⟩ ∈ gw := gm_2 122 rfl rfl
theorem wd_441 : Cond.selects "java/lang/String" ⟨"java/lang/String", "isLatin1", "()Z"⟩ ⟨"java/lang/String", "isLatin1", "()Z"⟩ ∈ gw := gm_2 123 rfl rfl
theorem wd_442 : Cond.code ⟨"java/lang/String", "isLatin1", "()Z"⟩ prog_14_method_154_code 1 (some .boolean) ∈ gw := gm_2 124 rfl rfl
theorem wd_443 : Cond.methodLink "java/lang/String" 495 ⟨"java/lang/StringLatin1", "charAt", "([BI)C"⟩ ∈ gw := gm_2 125 rfl rfl
theorem wd_444 : Cond.static ⟨"java/lang/StringLatin1", "charAt", "([BI)C"⟩ ∈ gw := gm_2 126 rfl rfl
theorem wd_445 : Cond.code ⟨"java/lang/StringLatin1", "charAt", "([BI)C"⟩ prog_15_method_2_code 2 (some .char) ∈ gw := gm_2 127 rfl rfl
theorem wd_446 : Cond.methodLink "java/lang/StringLatin1" 9 ⟨"java/lang/String", "checkIndex", "(II)V"⟩ ∈ gw := gm_2 128 rfl rfl
theorem wd_447 : Cond.static ⟨"java/lang/String", "checkIndex", "(II)V"⟩ ∈ gw := gm_2 129 rfl rfl
theorem wd_448 : Cond.code ⟨"java/lang/String", "checkIndex", "(II)V"⟩ prog_14_method_155_code 2 none ∈ gw := gm_2 130 rfl rfl
theorem wd_449 : Cond.fieldLink "java/lang/String" 1053 "jdk/internal/util/Preconditions" "SIOOBE_FORMATTER" "Ljava/util/function/BiFunction;" ∈ gw := gm_2 131 rfl rfl
theorem wd_451 : Cond.methodLink "java/lang/String" 1059 ⟨"jdk/internal/util/Preconditions", "checkIndex", "(IILjava/util/function/BiFunction;)I"⟩ ∈ gw := gm_2 133 rfl rfl
theorem wd_452 : Cond.static ⟨"jdk/internal/util/Preconditions", "checkIndex", "(IILjava/util/function/BiFunction;)I"⟩ ∈ gw := gm_2 134 rfl rfl
theorem wd_453 : Cond.code ⟨"jdk/internal/util/Preconditions", "checkIndex", "(IILjava/util/function/BiFunction;)I"⟩ prog_19_method_11_code 3 (some .int) ∈ gw := gm_2 135 rfl rfl
set_option maxRecDepth 4000 in
theorem wd_478 : Cond.methodLink "TurnedRivers$Reader" 22 ⟨"TurnedRivers$Land", "empty", "()V"⟩ ∈ gw := gm_2 160 rfl rfl
set_option maxRecDepth 4000 in
theorem wd_479 : Cond.methodLink "TurnedRivers$Reader" 35 ⟨"TurnedRivers$Reader", "readItem", "(LTurnedRivers$Land;Z)Z"⟩ ∈ gw := gm_2 161 rfl rfl
set_option maxRecDepth 4000 in
theorem wd_481 : Cond.instanceMethod ⟨"TurnedRivers$Reader", "readItem", "(LTurnedRivers$Land;Z)Z"⟩ ∈ gw := gm_2 163 rfl rfl
set_option maxRecDepth 4000 in
theorem wd_482 : Cond.code ⟨"TurnedRivers$Reader", "readItem", "(LTurnedRivers$Land;Z)Z"⟩ prog_6_method_3_code 3 (some .boolean) ∈ gw := gm_2 164 rfl rfl
set_option maxRecDepth 4000 in
theorem wd_483 : Cond.methodLink "TurnedRivers$Reader" 45 ⟨"TurnedRivers$Reader", "readFacts", "(LTurnedRivers$Land;)Z"⟩ ∈ gw := gm_2 165 rfl rfl
set_option maxRecDepth 4000 in
theorem wd_485 : Cond.instanceMethod ⟨"TurnedRivers$Reader", "readFacts", "(LTurnedRivers$Land;)Z"⟩ ∈ gw := gm_2 167 rfl rfl
set_option maxRecDepth 4000 in
theorem wd_486 : Cond.code ⟨"TurnedRivers$Reader", "readFacts", "(LTurnedRivers$Land;)Z"⟩ prog_6_method_4_code 2 (some .boolean) ∈ gw := gm_2 168 rfl rfl
set_option maxRecDepth 4000 in
theorem wd_487 : Cond.methodLink "TurnedRivers$Reader" 52 ⟨"TurnedRivers$Reader", "readPlaces", "(LTurnedRivers$Land;)Z"⟩ ∈ gw := gm_2 169 rfl rfl
set_option maxRecDepth 4000 in
theorem wd_489 : Cond.instanceMethod ⟨"TurnedRivers$Reader", "readPlaces", "(LTurnedRivers$Land;)Z"⟩ ∈ gw := gm_2 171 rfl rfl
set_option maxRecDepth 4000 in
theorem wd_490 : Cond.code ⟨"TurnedRivers$Reader", "readPlaces", "(LTurnedRivers$Land;)Z"⟩ prog_6_method_5_code 2 (some .boolean) ∈ gw := gm_2 172 rfl rfl
set_option maxRecDepth 4000 in
theorem wd_491 : Cond.methodLink "TurnedRivers$Reader" 70 ⟨"TurnedRivers$Reader", "readNumber", "(II)Z"⟩ ∈ gw := gm_2 173 rfl rfl
set_option maxRecDepth 4000 in
theorem wd_493 : Cond.instanceMethod ⟨"TurnedRivers$Reader", "readNumber", "(II)Z"⟩ ∈ gw := gm_2 175 rfl rfl
set_option maxRecDepth 4000 in
theorem wd_494 : Cond.code ⟨"TurnedRivers$Reader", "readNumber", "(II)Z"⟩ prog_6_method_12_code 4 (some .boolean) ∈ gw := gm_2 176 rfl rfl
set_option maxRecDepth 4000 in
theorem wd_495 : Cond.methodLink "TurnedRivers$Reader" 49 ⟨"TurnedRivers$Reader", "step", "()V"⟩ ∈ gw := gm_2 177 rfl rfl
set_option maxRecDepth 4000 in
theorem wd_497 : Cond.instanceMethod ⟨"TurnedRivers$Reader", "step", "()V"⟩ ∈ gw := gm_2 179 rfl rfl
set_option maxRecDepth 4000 in
theorem wd_498 : Cond.code ⟨"TurnedRivers$Reader", "step", "()V"⟩ prog_6_method_14_code 1 none ∈ gw := gm_2 180 rfl rfl
set_option maxRecDepth 4000 in
theorem wd_499 : Cond.methodLink "TurnedRivers$Reader" 74 ⟨"TurnedRivers$Reader", "number", "()I"⟩ ∈ gw := gm_2 181 rfl rfl
set_option maxRecDepth 4000 in
theorem wd_501 : Cond.instanceMethod ⟨"TurnedRivers$Reader", "number", "()I"⟩ ∈ gw := gm_2 183 rfl rfl
set_option maxRecDepth 4000 in
theorem wd_502 : Cond.code ⟨"TurnedRivers$Reader", "number", "()I"⟩ prog_6_method_13_code 1 (some .int) ∈ gw := gm_2 184 rfl rfl
set_option maxRecDepth 4000 in
theorem wd_503 : Cond.methodLink "TurnedRivers$Reader" 55 ⟨"TurnedRivers$Reader", "readRiver", "(LTurnedRivers$Land;)Z"⟩ ∈ gw := gm_2 185 rfl rfl
set_option maxRecDepth 4000 in
theorem wd_505 : Cond.instanceMethod ⟨"TurnedRivers$Reader", "readRiver", "(LTurnedRivers$Land;)Z"⟩ ∈ gw := gm_2 187 rfl rfl
set_option maxRecDepth 4000 in
theorem wd_506 : Cond.code ⟨"TurnedRivers$Reader", "readRiver", "(LTurnedRivers$Land;)Z"⟩ prog_6_method_6_code 4 (some .boolean) ∈ gw := gm_2 188 rfl rfl
set_option maxRecDepth 4000 in
theorem wd_507 : Cond.methodLink "TurnedRivers$Reader" 81 ⟨"TurnedRivers$Land", "hasRiver", "(I)Z"⟩ ∈ gw := gm_2 189 rfl rfl
set_option maxRecDepth 4000 in
theorem wd_508 : Cond.instanceMethod ⟨"TurnedRivers$Land", "hasRiver", "(I)Z"⟩ ∈ gw := gm_2 190 rfl rfl
set_option maxRecDepth 4000 in
theorem wd_509 : Cond.selects "TurnedRivers$Land" ⟨"TurnedRivers$Land", "hasRiver", "(I)Z"⟩ ⟨"TurnedRivers$Land", "hasRiver", "(I)Z"⟩ ∈ gw := gm_2 191 rfl rfl
set_option maxRecDepth 4000 in
theorem wd_510 : Cond.code ⟨"TurnedRivers$Land", "hasRiver", "(I)Z"⟩ prog_5_method_3_code 2 (some .boolean) ∈ gw := gm_2 192 rfl rfl
set_option maxRecDepth 4000 in
theorem wd_511 : Cond.methodLink "TurnedRivers$Reader" 88 ⟨"TurnedRivers$Reader", "readInto", "([IIII)Z"⟩ ∈ gw := gm_2 193 rfl rfl
set_option maxRecDepth 4000 in
theorem wd_513 : Cond.instanceMethod ⟨"TurnedRivers$Reader", "readInto", "([IIII)Z"⟩ ∈ gw := gm_2 195 rfl rfl
set_option maxRecDepth 4000 in
theorem wd_514 : Cond.code ⟨"TurnedRivers$Reader", "readInto", "([IIII)Z"⟩ prog_6_method_11_code 5 (some .boolean) ∈ gw := gm_2 196 rfl rfl
set_option maxRecDepth 4000 in
theorem wd_515 : Cond.methodLink "TurnedRivers$Reader" 58 ⟨"TurnedRivers$Reader", "readTown", "(LTurnedRivers$Land;)Z"⟩ ∈ gw := gm_2 197 rfl rfl
set_option maxRecDepth 4000 in
theorem wd_517 : Cond.instanceMethod ⟨"TurnedRivers$Reader", "readTown", "(LTurnedRivers$Land;)Z"⟩ ∈ gw := gm_2 199 rfl rfl
set_option maxRecDepth 4000 in
theorem wd_518 : Cond.code ⟨"TurnedRivers$Reader", "readTown", "(LTurnedRivers$Land;)Z"⟩ prog_6_method_7_code 3 (some .boolean) ∈ gw := gm_2 200 rfl rfl
set_option maxRecDepth 4000 in
theorem wd_519 : Cond.methodLink "TurnedRivers$Reader" 98 ⟨"TurnedRivers$Land", "hasTown", "(I)Z"⟩ ∈ gw := gm_2 201 rfl rfl
set_option maxRecDepth 4000 in
theorem wd_520 : Cond.instanceMethod ⟨"TurnedRivers$Land", "hasTown", "(I)Z"⟩ ∈ gw := gm_2 202 rfl rfl
set_option maxRecDepth 4000 in
theorem wd_521 : Cond.selects "TurnedRivers$Land" ⟨"TurnedRivers$Land", "hasTown", "(I)Z"⟩ ⟨"TurnedRivers$Land", "hasTown", "(I)Z"⟩ ∈ gw := gm_2 203 rfl rfl
set_option maxRecDepth 4000 in
theorem wd_522 : Cond.code ⟨"TurnedRivers$Land", "hasTown", "(I)Z"⟩ prog_5_method_4_code 3 (some .boolean) ∈ gw := gm_2 204 rfl rfl
set_option maxRecDepth 4000 in
theorem wd_523 : Cond.methodLink "TurnedRivers$Land" 52 ⟨"TurnedRivers$Land", "townFact", "(II)I"⟩ ∈ gw := gm_2 205 rfl rfl
set_option maxRecDepth 4000 in
theorem wd_524 : Cond.instanceMethod ⟨"TurnedRivers$Land", "townFact", "(II)I"⟩ ∈ gw := gm_2 206 rfl rfl
set_option maxRecDepth 4000 in
theorem wd_525 : Cond.selects "TurnedRivers$Land" ⟨"TurnedRivers$Land", "townFact", "(II)I"⟩ ⟨"TurnedRivers$Land", "townFact", "(II)I"⟩ ∈ gw := gm_2 207 rfl rfl
set_option maxRecDepth 4000 in
theorem wd_526 : Cond.code ⟨"TurnedRivers$Land", "townFact", "(II)I"⟩ prog_5_method_7_code 3 (some .int) ∈ gw := gm_2 208 rfl rfl
set_option maxRecDepth 4000 in
theorem wd_527 : Cond.methodLink "TurnedRivers$Reader" 61 ⟨"TurnedRivers$Reader", "readWork", "(LTurnedRivers$Land;)Z"⟩ ∈ gw := gm_2 209 rfl rfl
set_option maxRecDepth 4000 in
theorem wd_529 : Cond.instanceMethod ⟨"TurnedRivers$Reader", "readWork", "(LTurnedRivers$Land;)Z"⟩ ∈ gw := gm_2 211 rfl rfl
set_option maxRecDepth 4000 in
theorem wd_530 : Cond.code ⟨"TurnedRivers$Reader", "readWork", "(LTurnedRivers$Land;)Z"⟩ prog_6_method_8_code 3 (some .boolean) ∈ gw := gm_2 212 rfl rfl
set_option maxRecDepth 4000 in
theorem wd_531 : Cond.methodLink "TurnedRivers$Reader" 64 ⟨"TurnedRivers$Reader", "readDam", "(LTurnedRivers$Land;)Z"⟩ ∈ gw := gm_2 213 rfl rfl
set_option maxRecDepth 4000 in
theorem wd_533 : Cond.instanceMethod ⟨"TurnedRivers$Reader", "readDam", "(LTurnedRivers$Land;)Z"⟩ ∈ gw := gm_2 215 rfl rfl
set_option maxRecDepth 4000 in
theorem wd_534 : Cond.code ⟨"TurnedRivers$Reader", "readDam", "(LTurnedRivers$Land;)Z"⟩ prog_6_method_9_code 2 (some .boolean) ∈ gw := gm_2 216 rfl rfl
set_option maxRecDepth 4000 in
theorem wd_535 : Cond.methodLink "TurnedRivers$Reader" 67 ⟨"TurnedRivers$Reader", "readFollow", "(LTurnedRivers$Land;)Z"⟩ ∈ gw := gm_2 217 rfl rfl
set_option maxRecDepth 4000 in
theorem wd_537 : Cond.instanceMethod ⟨"TurnedRivers$Reader", "readFollow", "(LTurnedRivers$Land;)Z"⟩ ∈ gw := gm_2 219 rfl rfl
set_option maxRecDepth 4000 in
theorem wd_538 : Cond.code ⟨"TurnedRivers$Reader", "readFollow", "(LTurnedRivers$Land;)Z"⟩ prog_6_method_10_code 5 (some .boolean) ∈ gw := gm_2 220 rfl rfl
set_option maxRecDepth 4000 in
theorem wd_539 : Cond.methodLink "TurnedRivers" 85 ⟨"TurnedRivers$Years", "forget", "()V"⟩ ∈ gw := gm_2 221 rfl rfl
set_option maxRecDepth 4000 in
theorem wd_540 : Cond.methodLink "TurnedRivers" 88 ⟨"TurnedRivers$Standing", "forgetLand", "()V"⟩ ∈ gw := gm_2 222 rfl rfl
set_option maxRecDepth 4000 in
theorem wd_541 : Cond.instanceMethod ⟨"TurnedRivers$Standing", "forgetLand", "()V"⟩ ∈ gw := gm_2 223 rfl rfl
set_option maxRecDepth 4000 in
theorem wd_542 : Cond.selects "TurnedRivers$Standing" ⟨"TurnedRivers$Standing", "forgetLand", "()V"⟩ ⟨"TurnedRivers$Standing", "forgetLand", "()V"⟩ ∈ gw := gm_2 224 rfl rfl
set_option maxRecDepth 4000 in
theorem wd_543 : Cond.code ⟨"TurnedRivers$Standing", "forgetLand", "()V"⟩ prog_7_method_3_code 1 none ∈ gw := gm_2 225 rfl rfl
set_option maxRecDepth 4000 in
theorem wd_544 : Cond.methodLink "TurnedRivers$Standing" 27 ⟨"java/util/Arrays", "fill", "([II)V"⟩ ∈ gw := gm_2 226 rfl rfl
set_option maxRecDepth 4000 in
theorem wd_549 : Cond.methodLink "TurnedRivers" 91 ⟨"TurnedRivers", "isPlace", "(I)Z"⟩ ∈ gw := gm_2 231 rfl rfl
set_option maxRecDepth 4000 in
theorem wd_551 : Cond.instanceMethod ⟨"TurnedRivers", "isPlace", "(I)Z"⟩ ∈ gw := gm_2 233 rfl rfl
set_option maxRecDepth 4000 in
theorem wd_552 : Cond.code ⟨"TurnedRivers", "isPlace", "(I)Z"⟩ prog_1_method_35_code 2 (some .boolean) ∈ gw := gm_2 234 rfl rfl
set_option maxRecDepth 4000 in
theorem wd_553 : Cond.methodLink "TurnedRivers" 95 ⟨"TurnedRivers", "isSeason", "(II)Z"⟩ ∈ gw := gm_2 235 rfl rfl
set_option maxRecDepth 4000 in
theorem wd_554 : Cond.static ⟨"TurnedRivers", "isSeason", "(II)Z"⟩ ∈ gw := gm_2 236 rfl rfl
set_option maxRecDepth 4000 in
theorem wd_555 : Cond.code ⟨"TurnedRivers", "isSeason", "(II)Z"⟩ prog_1_method_34_code 2 (some .boolean) ∈ gw := gm_2 237 rfl rfl
set_option maxRecDepth 4000 in
theorem wd_556 : Cond.methodLink "TurnedRivers" 159 ⟨"TurnedRivers", "isYearKind", "(I)Z"⟩ ∈ gw := gm_2 238 rfl rfl
set_option maxRecDepth 4000 in
theorem wd_557 : Cond.static ⟨"TurnedRivers", "isYearKind", "(I)Z"⟩ ∈ gw := gm_2 239 rfl rfl
theorem wd_558 : Cond.code ⟨"TurnedRivers", "isYearKind", "(I)Z"⟩ prog_1_method_33_code 1 (some .boolean) ∈ gw := gm_3 0 rfl rfl
theorem wd_559 : Cond.methodLink "TurnedRivers" 99 ⟨"TurnedRivers$Land", "waterOf", "(III)I"⟩ ∈ gw := gm_3 1 rfl rfl
theorem wd_560 : Cond.instanceMethod ⟨"TurnedRivers$Land", "waterOf", "(III)I"⟩ ∈ gw := gm_3 2 rfl rfl
theorem wd_561 : Cond.selects "TurnedRivers$Land" ⟨"TurnedRivers$Land", "waterOf", "(III)I"⟩ ⟨"TurnedRivers$Land", "waterOf", "(III)I"⟩ ∈ gw := gm_3 3 rfl rfl
theorem wd_562 : Cond.code ⟨"TurnedRivers$Land", "waterOf", "(III)I"⟩ prog_5_method_5_code 4 (some .int) ∈ gw := gm_3 4 rfl rfl
theorem wd_567 : Cond.methodLink "TurnedRivers" 103 ⟨"TurnedRivers", "isRiver", "(I)Z"⟩ ∈ gw := gm_3 9 rfl rfl
theorem wd_569 : Cond.instanceMethod ⟨"TurnedRivers", "isRiver", "(I)Z"⟩ ∈ gw := gm_3 11 rfl rfl
theorem wd_570 : Cond.code ⟨"TurnedRivers", "isRiver", "(I)Z"⟩ prog_1_method_36_code 2 (some .boolean) ∈ gw := gm_3 12 rfl rfl
theorem wd_571 : Cond.methodLink "TurnedRivers" 259 ⟨"TurnedRivers$Land", "hasRiver", "(I)Z"⟩ ∈ gw := gm_3 13 rfl rfl
theorem wd_576 : Cond.methodLink "TurnedRivers" 110 ⟨"TurnedRivers", "isTown", "(I)Z"⟩ ∈ gw := gm_3 18 rfl rfl
theorem wd_578 : Cond.instanceMethod ⟨"TurnedRivers", "isTown", "(I)Z"⟩ ∈ gw := gm_3 20 rfl rfl
theorem wd_579 : Cond.code ⟨"TurnedRivers", "isTown", "(I)Z"⟩ prog_1_method_37_code 2 (some .boolean) ∈ gw := gm_3 21 rfl rfl
theorem wd_580 : Cond.methodLink "TurnedRivers" 113 ⟨"TurnedRivers$Land", "townFact", "(II)I"⟩ ∈ gw := gm_3 22 rfl rfl
theorem wd_585 : Cond.methodLink "TurnedRivers" 117 ⟨"TurnedRivers", "isWork", "(I)Z"⟩ ∈ gw := gm_3 27 rfl rfl
theorem wd_587 : Cond.instanceMethod ⟨"TurnedRivers", "isWork", "(I)Z"⟩ ∈ gw := gm_3 29 rfl rfl
theorem wd_588 : Cond.code ⟨"TurnedRivers", "isWork", "(I)Z"⟩ prog_1_method_38_code 2 (some .boolean) ∈ gw := gm_3 30 rfl rfl
theorem wd_589 : Cond.methodLink "TurnedRivers" 120 ⟨"TurnedRivers$Land", "workFact", "(II)I"⟩ ∈ gw := gm_3 31 rfl rfl
theorem wd_590 : Cond.instanceMethod ⟨"TurnedRivers$Land", "workFact", "(II)I"⟩ ∈ gw := gm_3 32 rfl rfl
theorem wd_591 : Cond.selects "TurnedRivers$Land" ⟨"TurnedRivers$Land", "workFact", "(II)I"⟩ ⟨"TurnedRivers$Land", "workFact", "(II)I"⟩ ∈ gw := gm_3 33 rfl rfl
theorem wd_592 : Cond.code ⟨"TurnedRivers$Land", "workFact", "(II)I"⟩ prog_5_method_8_code 3 (some .int) ∈ gw := gm_3 34 rfl rfl
theorem wd_597 : Cond.methodLink "TurnedRivers" 123 ⟨"TurnedRivers", "plainMost", "(III)I"⟩ ∈ gw := gm_3 39 rfl rfl
theorem wd_599 : Cond.instanceMethod ⟨"TurnedRivers", "plainMost", "(III)I"⟩ ∈ gw := gm_3 41 rfl rfl
theorem wd_600 : Cond.code ⟨"TurnedRivers", "plainMost", "(III)I"⟩ prog_1_method_40_code 4 (some .int) ∈ gw := gm_3 42 rfl rfl
theorem wd_601 : Cond.methodLink "TurnedRivers" 126 ⟨"TurnedRivers$Flow", "supply", "(LTurnedRivers$Land;II)V"⟩ ∈ gw := gm_3 43 rfl rfl
theorem wd_602 : Cond.instanceMethod ⟨"TurnedRivers$Flow", "supply", "(LTurnedRivers$Land;II)V"⟩ ∈ gw := gm_3 44 rfl rfl
theorem wd_603 : Cond.selects "TurnedRivers$Flow" ⟨"TurnedRivers$Flow", "supply", "(LTurnedRivers$Land;II)V"⟩ ⟨"TurnedRivers$Flow", "supply", "(LTurnedRivers$Land;II)V"⟩ ∈ gw := gm_3 45 rfl rfl
theorem wd_604 : Cond.code ⟨"TurnedRivers$Flow", "supply", "(LTurnedRivers$Land;II)V"⟩ prog_4_method_2_code 5 none ∈ gw := gm_3 46 rfl rfl
theorem wd_605 : Cond.methodLink "TurnedRivers$Flow" 54 ⟨"TurnedRivers$Land", "spareOf", "(III)I"⟩ ∈ gw := gm_3 47 rfl rfl
theorem wd_606 : Cond.instanceMethod ⟨"TurnedRivers$Land", "spareOf", "(III)I"⟩ ∈ gw := gm_3 48 rfl rfl
theorem wd_607 : Cond.selects "TurnedRivers$Land" ⟨"TurnedRivers$Land", "spareOf", "(III)I"⟩ ⟨"TurnedRivers$Land", "spareOf", "(III)I"⟩ ∈ gw := gm_3 49 rfl rfl
theorem wd_608 : Cond.code ⟨"TurnedRivers$Land", "spareOf", "(III)I"⟩ prog_5_method_6_code 4 (some .int) ∈ gw := gm_3 50 rfl rfl
theorem wd_609 : Cond.methodLink "TurnedRivers$Land" 56 ⟨"TurnedRivers$Land", "hasRiver", "(I)Z"⟩ ∈ gw := gm_3 51 rfl rfl
theorem wd_610 : Cond.methodLink "TurnedRivers$Land" 60 ⟨"TurnedRivers$Land", "waterOf", "(III)I"⟩ ∈ gw := gm_3 52 rfl rfl
theorem wd_611 : Cond.methodLink "TurnedRivers$Land" 64 ⟨"java/lang/Math", "max", "(II)I"⟩ ∈ gw := gm_3 53 rfl rfl
theorem wd_612 : Cond.static ⟨"java/lang/Math", "max", "(II)I"⟩ ∈ gw := gm_3 54 rfl rfl
theorem wd_613 : Cond.code Lib.Math.max.name Lib.Math.max.code 2 (some .int) ∈ gw := gm_3 55 rfl rfl
theorem wd_614 : Cond.methodLink "TurnedRivers" 133 ⟨"TurnedRivers$Land", "allTowns", "()I"⟩ ∈ gw := gm_3 56 rfl rfl
theorem wd_615 : Cond.instanceMethod ⟨"TurnedRivers$Land", "allTowns", "()I"⟩ ∈ gw := gm_3 57 rfl rfl
theorem wd_616 : Cond.selects "TurnedRivers$Land" ⟨"TurnedRivers$Land", "allTowns", "()I"⟩ ⟨"TurnedRivers$Land", "allTowns", "()I"⟩ ∈ gw := gm_3 58 rfl rfl
theorem wd_617 : Cond.code ⟨"TurnedRivers$Land", "allTowns", "()I"⟩ prog_5_method_9_code 1 (some .int) ∈ gw := gm_3 59 rfl rfl
theorem wd_618 : Cond.methodLink "TurnedRivers" 137 ⟨"TurnedRivers$Flow", "greatest", "(LTurnedRivers$Land;III)I"⟩ ∈ gw := gm_3 60 rfl rfl
theorem wd_619 : Cond.instanceMethod ⟨"TurnedRivers$Flow", "greatest", "(LTurnedRivers$Land;III)I"⟩ ∈ gw := gm_3 61 rfl rfl
theorem wd_620 : Cond.selects "TurnedRivers$Flow" ⟨"TurnedRivers$Flow", "greatest", "(LTurnedRivers$Land;III)I"⟩ ⟨"TurnedRivers$Flow", "greatest", "(LTurnedRivers$Land;III)I"⟩ ∈ gw := gm_3 62 rfl rfl
theorem wd_621 : Cond.code ⟨"TurnedRivers$Flow", "greatest", "(LTurnedRivers$Land;III)I"⟩ prog_4_method_3_code 9 (some .int) ∈ gw := gm_3 63 rfl rfl
theorem wd_622 : Cond.methodLink "TurnedRivers$Flow" 59 ⟨"java/lang/System", "arraycopy", "(Ljava/lang/Object;ILjava/lang/Object;II)V"⟩ ∈ gw := gm_3 64 rfl rfl
theorem wd_623 : Cond.static ⟨"java/lang/System", "arraycopy", "(Ljava/lang/Object;ILjava/lang/Object;II)V"⟩ ∈ gw := gm_3 65 rfl rfl
theorem wd_624 : Cond.native ⟨"java/lang/System", "arraycopy", "(Ljava/lang/Object;ILjava/lang/Object;II)V"⟩ ∈ gw := gm_3 66 rfl rfl
theorem wd_625 : Cond.methodLink "TurnedRivers$Flow" 65 ⟨"TurnedRivers$Flow", "openWorks", "(LTurnedRivers$Land;II)V"⟩ ∈ gw := gm_3 67 rfl rfl
theorem wd_627 : Cond.instanceMethod ⟨"TurnedRivers$Flow", "openWorks", "(LTurnedRivers$Land;II)V"⟩ ∈ gw := gm_3 69 rfl rfl
theorem wd_628 : Cond.code ⟨"TurnedRivers$Flow", "openWorks", "(LTurnedRivers$Land;II)V"⟩ prog_4_method_4_code 5 none ∈ gw := gm_3 70 rfl rfl
theorem wd_629 : Cond.methodLink "TurnedRivers$Flow" 93 ⟨"TurnedRivers$Land", "workFact", "(II)I"⟩ ∈ gw := gm_3 71 rfl rfl
theorem wd_630 : Cond.methodLink "TurnedRivers$Flow" 69 ⟨"TurnedRivers$Flow", "openTowns", "(LTurnedRivers$Land;I)V"⟩ ∈ gw := gm_3 72 rfl rfl
theorem wd_632 : Cond.instanceMethod ⟨"TurnedRivers$Flow", "openTowns", "(LTurnedRivers$Land;I)V"⟩ ∈ gw := gm_3 74 rfl rfl
theorem wd_633 : Cond.code ⟨"TurnedRivers$Flow", "openTowns", "(LTurnedRivers$Land;I)V"⟩ prog_4_method_5_code 4 none ∈ gw := gm_3 75 rfl rfl
theorem wd_634 : Cond.methodLink "TurnedRivers$Flow" 101 ⟨"TurnedRivers$Land", "townFact", "(II)I"⟩ ∈ gw := gm_3 76 rfl rfl
theorem wd_635 : Cond.methodLink "TurnedRivers$Flow" 73 ⟨"TurnedRivers$Flow", "findPaths", "()V"⟩ ∈ gw := gm_3 77 rfl rfl
theorem wd_637 : Cond.instanceMethod ⟨"TurnedRivers$Flow", "findPaths", "()V"⟩ ∈ gw := gm_3 79 rfl rfl
theorem wd_638 : Cond.code ⟨"TurnedRivers$Flow", "findPaths", "()V"⟩ prog_4_method_6_code 4 none ∈ gw := gm_3 80 rfl rfl
theorem wd_639 : Cond.constant "TurnedRivers$Flow" 104 1000000 ∈ gw := gm_3 81 rfl rfl
theorem wd_640 : Cond.methodLink "TurnedRivers$Flow" 105 ⟨"TurnedRivers$Flow", "cheapen", "(I)Z"⟩ ∈ gw := gm_3 82 rfl rfl
theorem wd_642 : Cond.instanceMethod ⟨"TurnedRivers$Flow", "cheapen", "(I)Z"⟩ ∈ gw := gm_3 84 rfl rfl
theorem wd_643 : Cond.code ⟨"TurnedRivers$Flow", "cheapen", "(I)Z"⟩ prog_4_method_7_code 4 (some .boolean) ∈ gw := gm_3 85 rfl rfl
theorem wd_644 : Cond.methodLink "TurnedRivers$Flow" 76 ⟨"TurnedRivers$Flow", "bestWant", "()I"⟩ ∈ gw := gm_3 86 rfl rfl
theorem wd_646 : Cond.instanceMethod ⟨"TurnedRivers$Flow", "bestWant", "()I"⟩ ∈ gw := gm_3 88 rfl rfl
theorem wd_647 : Cond.code ⟨"TurnedRivers$Flow", "bestWant", "()I"⟩ prog_4_method_8_code 4 (some .int) ∈ gw := gm_3 89 rfl rfl
theorem wd_648 : Cond.methodLink "TurnedRivers$Flow" 80 ⟨"TurnedRivers$Flow", "gainOf", "(I)I"⟩ ∈ gw := gm_3 90 rfl rfl
theorem wd_650 : Cond.instanceMethod ⟨"TurnedRivers$Flow", "gainOf", "(I)I"⟩ ∈ gw := gm_3 92 rfl rfl
theorem wd_651 : Cond.code ⟨"TurnedRivers$Flow", "gainOf", "(I)I"⟩ prog_4_method_9_code 2 (some .int) ∈ gw := gm_3 93 rfl rfl
theorem wd_652 : Cond.methodLink "TurnedRivers$Flow" 84 ⟨"TurnedRivers$Flow", "sendFor", "(I)I"⟩ ∈ gw := gm_3 94 rfl rfl
theorem wd_654 : Cond.instanceMethod ⟨"TurnedRivers$Flow", "sendFor", "(I)I"⟩ ∈ gw := gm_3 96 rfl rfl
theorem wd_655 : Cond.code ⟨"TurnedRivers$Flow", "sendFor", "(I)I"⟩ prog_4_method_10_code 7 (some .int) ∈ gw := gm_3 97 rfl rfl
theorem wd_656 : Cond.methodLink "TurnedRivers$Flow" 109 ⟨"java/lang/Math", "min", "(II)I"⟩ ∈ gw := gm_3 98 rfl rfl
theorem wd_657 : Cond.methodLink "TurnedRivers$Flow" 114 ⟨"TurnedRivers$Flow", "moveAlong", "(II)V"⟩ ∈ gw := gm_3 99 rfl rfl
theorem wd_659 : Cond.instanceMethod ⟨"TurnedRivers$Flow", "moveAlong", "(II)V"⟩ ∈ gw := gm_3 101 rfl rfl
theorem wd_660 : Cond.code ⟨"TurnedRivers$Flow", "moveAlong", "(II)V"⟩ prog_4_method_11_code 8 none ∈ gw := gm_3 102 rfl rfl
theorem wd_673 : Cond.methodLink "TurnedRivers" 141 ⟨"java/lang/Math", "max", "(II)I"⟩ ∈ gw := gm_3 115 rfl rfl
theorem wd_682 : Cond.constant "TurnedRivers" 149 (-1000000) ∈ gw := gm_3 124 rfl rfl
theorem wd_683 : Cond.methodLink "TurnedRivers" 150 ⟨"TurnedRivers", "brings", "(II)I"⟩ ∈ gw := gm_3 125 rfl rfl
theorem wd_685 : Cond.instanceMethod ⟨"TurnedRivers", "brings", "(II)I"⟩ ∈ gw := gm_3 127 rfl rfl
theorem wd_686 : Cond.code ⟨"TurnedRivers", "brings", "(II)I"⟩ prog_1_method_46_code 8 (some .int) ∈ gw := gm_3 128 rfl rfl
theorem wd_687 : Cond.methodLink "TurnedRivers" 262 ⟨"TurnedRivers", "staysAt", "(III)I"⟩ ∈ gw := gm_3 129 rfl rfl
theorem wd_689 : Cond.instanceMethod ⟨"TurnedRivers", "staysAt", "(III)I"⟩ ∈ gw := gm_3 131 rfl rfl
theorem wd_690 : Cond.code ⟨"TurnedRivers", "staysAt", "(III)I"⟩ prog_1_method_45_code 6 (some .int) ∈ gw := gm_3 132 rfl rfl
theorem wd_691 : Cond.methodLink "TurnedRivers" 265 ⟨"TurnedRivers$Land", "spareOf", "(III)I"⟩ ∈ gw := gm_3 133 rfl rfl
theorem wd_692 : Cond.methodLink "TurnedRivers" 268 ⟨"java/lang/Math", "min", "(II)I"⟩ ∈ gw := gm_3 134 rfl rfl
theorem wd_693 : Cond.methodLink "TurnedRivers" 153 ⟨"TurnedRivers", "tooFullWork", "()I"⟩ ∈ gw := gm_3 135 rfl rfl
theorem wd_695 : Cond.instanceMethod ⟨"TurnedRivers", "tooFullWork", "()I"⟩ ∈ gw := gm_3 137 rfl rfl
theorem wd_696 : Cond.code ⟨"TurnedRivers", "tooFullWork", "()I"⟩ prog_1_method_43_code 2 (some .int) ∈ gw := gm_3 138 rfl rfl
theorem wd_697 : Cond.methodLink "TurnedRivers" 156 ⟨"TurnedRivers", "tooEmptyPlace", "(II)I"⟩ ∈ gw := gm_3 139 rfl rfl
theorem wd_699 : Cond.instanceMethod ⟨"TurnedRivers", "tooEmptyPlace", "(II)I"⟩ ∈ gw := gm_3 141 rfl rfl
theorem wd_700 : Cond.code ⟨"TurnedRivers", "tooEmptyPlace", "(II)I"⟩ prog_1_method_44_code 4 (some .int) ∈ gw := gm_3 142 rfl rfl
theorem wd_705 : Cond.methodLink "TurnedRivers" 162 ⟨"TurnedRivers$Land", "allWorks", "()I"⟩ ∈ gw := gm_3 147 rfl rfl
theorem wd_706 : Cond.instanceMethod ⟨"TurnedRivers$Land", "allWorks", "()I"⟩ ∈ gw := gm_3 148 rfl rfl
theorem wd_707 : Cond.selects "TurnedRivers$Land" ⟨"TurnedRivers$Land", "allWorks", "()I"⟩ ⟨"TurnedRivers$Land", "allWorks", "()I"⟩ ∈ gw := gm_3 149 rfl rfl
theorem wd_708 : Cond.code ⟨"TurnedRivers$Land", "allWorks", "()I"⟩ prog_5_method_10_code 1 (some .int) ∈ gw := gm_3 150 rfl rfl
set_option maxRecDepth 4000 in
theorem wd_709 : Cond.methodLink "TurnedRivers" 165 ⟨"TurnedRivers$Years", "greatest", "(LTurnedRivers$Land;LTurnedRivers$Flow;II)I"⟩ ∈ gw := gm_3 151 rfl rfl
set_option maxRecDepth 4000 in
theorem wd_710 : Cond.instanceMethod ⟨"TurnedRivers$Years", "greatest", "(LTurnedRivers$Land;LTurnedRivers$Flow;II)I"⟩ ∈ gw := gm_3 152 rfl rfl
set_option maxRecDepth 4000 in
theorem wd_711 : Cond.selects "TurnedRivers$Years" ⟨"TurnedRivers$Years", "greatest", "(LTurnedRivers$Land;LTurnedRivers$Flow;II)I"⟩ ⟨"TurnedRivers$Years", "greatest", "(LTurnedRivers$Land;LTurnedRivers$Flow;II)I"⟩ ∈ gw := gm_3 153 rfl rfl
set_option maxRecDepth 4000 in
theorem wd_712 : Cond.code ⟨"TurnedRivers$Years", "greatest", "(LTurnedRivers$Land;LTurnedRivers$Flow;II)I"⟩ prog_9_method_3_code 8 (some .int) ∈ gw := gm_3 154 rfl rfl
set_option maxRecDepth 4000 in
theorem wd_713 : Cond.methodLink "TurnedRivers$Years" 31 ⟨"TurnedRivers$Flow", "supply", "(LTurnedRivers$Land;II)V"⟩ ∈ gw := gm_3 155 rfl rfl
set_option maxRecDepth 4000 in
theorem wd_714 : Cond.methodLink "TurnedRivers$Years" 37 ⟨"TurnedRivers$Land", "allTowns", "()I"⟩ ∈ gw := gm_3 156 rfl rfl
set_option maxRecDepth 4000 in
theorem wd_715 : Cond.methodLink "TurnedRivers$Years" 43 ⟨"TurnedRivers$Flow", "greatest", "(LTurnedRivers$Land;III)I"⟩ ∈ gw := gm_3 157 rfl rfl
set_option maxRecDepth 4000 in
theorem wd_720 : Cond.methodLink "TurnedRivers" 168 ⟨"TurnedRivers$Land", "costOf", "(I)I"⟩ ∈ gw := gm_3 162 rfl rfl
set_option maxRecDepth 4000 in
theorem wd_721 : Cond.instanceMethod ⟨"TurnedRivers$Land", "costOf", "(I)I"⟩ ∈ gw := gm_3 163 rfl rfl
set_option maxRecDepth 4000 in
theorem wd_722 : Cond.selects "TurnedRivers$Land" ⟨"TurnedRivers$Land", "costOf", "(I)I"⟩ ⟨"TurnedRivers$Land", "costOf", "(I)I"⟩ ∈ gw := gm_3 164 rfl rfl
set_option maxRecDepth 4000 in
theorem wd_723 : Cond.code ⟨"TurnedRivers$Land", "costOf", "(I)I"⟩ prog_5_method_11_code 2 (some .int) ∈ gw := gm_3 165 rfl rfl
set_option maxRecDepth 4000 in
theorem wd_724 : Cond.methodLink "TurnedRivers$Land" 69 ⟨"TurnedRivers$Land", "sumOf", "(II)I"⟩ ∈ gw := gm_3 166 rfl rfl
set_option maxRecDepth 4000 in
theorem wd_726 : Cond.instanceMethod ⟨"TurnedRivers$Land", "sumOf", "(II)I"⟩ ∈ gw := gm_3 168 rfl rfl
set_option maxRecDepth 4000 in
theorem wd_727 : Cond.code ⟨"TurnedRivers$Land", "sumOf", "(II)I"⟩ prog_5_method_13_code 5 (some .int) ∈ gw := gm_3 169 rfl rfl
set_option maxRecDepth 4000 in
theorem wd_728 : Cond.methodLink "TurnedRivers$Land" 72 ⟨"TurnedRivers$Land", "workFact", "(II)I"⟩ ∈ gw := gm_3 170 rfl rfl
set_option maxRecDepth 4000 in
theorem wd_729 : Cond.methodLink "TurnedRivers" 172 ⟨"TurnedRivers", "mostOfThreeYears", "(I)I"⟩ ∈ gw := gm_3 171 rfl rfl
set_option maxRecDepth 4000 in
theorem wd_731 : Cond.instanceMethod ⟨"TurnedRivers", "mostOfThreeYears", "(I)I"⟩ ∈ gw := gm_3 173 rfl rfl
set_option maxRecDepth 4000 in
theorem wd_732 : Cond.code ⟨"TurnedRivers", "mostOfThreeYears", "(I)I"⟩ prog_1_method_41_code 4 (some .int) ∈ gw := gm_3 174 rfl rfl
set_option maxRecDepth 4000 in
theorem wd_737 : Cond.methodLink "TurnedRivers" 175 ⟨"java/lang/Integer", "bitCount", "(I)I"⟩ ∈ gw := gm_3 179 rfl rfl
set_option maxRecDepth 4000 in
theorem wd_738 : Cond.static ⟨"java/lang/Integer", "bitCount", "(I)I"⟩ ∈ gw := gm_3 180 rfl rfl
set_option maxRecDepth 4000 in
theorem wd_739 : Cond.code ⟨"java/lang/Integer", "bitCount", "(I)I"⟩ prog_12_method_49_code 1 (some .int) ∈ gw := gm_3 181 rfl rfl
set_option maxRecDepth 4000 in
theorem wd_740 : Cond.constant "java/lang/Integer" 265 1431655765 ∈ gw := gm_3 182 rfl rfl
set_option maxRecDepth 4000 in
theorem wd_741 : Cond.constant "java/lang/Integer" 266 858993459 ∈ gw := gm_3 183 rfl rfl
set_option maxRecDepth 4000 in
theorem wd_742 : Cond.constant "java/lang/Integer" 267 252645135 ∈ gw := gm_3 184 rfl rfl
set_option maxRecDepth 4000 in
theorem wd_743 : Cond.methodLink "TurnedRivers" 182 ⟨"TurnedRivers$Digging", "greatest", "(LTurnedRivers$Land;II)I"⟩ ∈ gw := gm_3 185 rfl rfl
set_option maxRecDepth 4000 in
theorem wd_744 : Cond.instanceMethod ⟨"TurnedRivers$Digging", "greatest", "(LTurnedRivers$Land;II)I"⟩ ∈ gw := gm_3 186 rfl rfl
set_option maxRecDepth 4000 in
theorem wd_745 : Cond.selects "TurnedRivers$Digging" ⟨"TurnedRivers$Digging", "greatest", "(LTurnedRivers$Land;II)I"⟩ ⟨"TurnedRivers$Digging", "greatest", "(LTurnedRivers$Land;II)I"⟩ ∈ gw := gm_3 187 rfl rfl
set_option maxRecDepth 4000 in
theorem wd_746 : Cond.code ⟨"TurnedRivers$Digging", "greatest", "(LTurnedRivers$Land;II)I"⟩ prog_3_method_2_code 5 (some .int) ∈ gw := gm_3 188 rfl rfl
set_option maxRecDepth 4000 in
theorem wd_747 : Cond.methodLink "TurnedRivers$Digging" 18 ⟨"TurnedRivers$Digging", "greatestBehind", "(LTurnedRivers$Land;III)I"⟩ ∈ gw := gm_3 189 rfl rfl
set_option maxRecDepth 4000 in
theorem wd_749 : Cond.instanceMethod ⟨"TurnedRivers$Digging", "greatestBehind", "(LTurnedRivers$Land;III)I"⟩ ∈ gw := gm_3 191 rfl rfl
set_option maxRecDepth 4000 in
theorem wd_750 : Cond.code ⟨"TurnedRivers$Digging", "greatestBehind", "(LTurnedRivers$Land;III)I"⟩ prog_3_method_4_code 7 (some .int) ∈ gw := gm_3 192 rfl rfl
set_option maxRecDepth 4000 in
theorem wd_751 : Cond.methodLink "TurnedRivers$Digging" 25 ⟨"TurnedRivers$Land", "yearsToDig", "(I)I"⟩ ∈ gw := gm_3 193 rfl rfl
set_option maxRecDepth 4000 in
theorem wd_752 : Cond.instanceMethod ⟨"TurnedRivers$Land", "yearsToDig", "(I)I"⟩ ∈ gw := gm_3 194 rfl rfl
set_option maxRecDepth 4000 in
theorem wd_753 : Cond.selects "TurnedRivers$Land" ⟨"TurnedRivers$Land", "yearsToDig", "(I)I"⟩ ⟨"TurnedRivers$Land", "yearsToDig", "(I)I"⟩ ∈ gw := gm_3 195 rfl rfl
set_option maxRecDepth 4000 in
theorem wd_754 : Cond.code ⟨"TurnedRivers$Land", "yearsToDig", "(I)I"⟩ prog_5_method_12_code 2 (some .int) ∈ gw := gm_3 196 rfl rfl
set_option maxRecDepth 4000 in
theorem wd_755 : Cond.methodLink "TurnedRivers$Digging" 31 ⟨"java/lang/Math", "max", "(II)I"⟩ ∈ gw := gm_3 197 rfl rfl
set_option maxRecDepth 4000 in
theorem wd_756 : Cond.methodLink "TurnedRivers$Digging" 37 ⟨"TurnedRivers$Digging", "sumIfNext", "(LTurnedRivers$Land;III)I"⟩ ∈ gw := gm_3 198 rfl rfl
set_option maxRecDepth 4000 in
theorem wd_758 : Cond.instanceMethod ⟨"TurnedRivers$Digging", "sumIfNext", "(LTurnedRivers$Land;III)I"⟩ ∈ gw := gm_3 200 rfl rfl
set_option maxRecDepth 4000 in
theorem wd_759 : Cond.code ⟨"TurnedRivers$Digging", "sumIfNext", "(LTurnedRivers$Land;III)I"⟩ prog_3_method_6_code 8 (some .int) ∈ gw := gm_3 201 rfl rfl
set_option maxRecDepth 4000 in
theorem wd_760 : Cond.methodLink "TurnedRivers$Digging" 40 ⟨"java/lang/Math", "min", "(II)I"⟩ ∈ gw := gm_3 202 rfl rfl
set_option maxRecDepth 4000 in
theorem wd_761 : Cond.methodLink "TurnedRivers" 185 ⟨"TurnedRivers$Digging", "leastOrder", "(LTurnedRivers$Land;II)I"⟩ ∈ gw := gm_3 203 rfl rfl
set_option maxRecDepth 4000 in
theorem wd_762 : Cond.instanceMethod ⟨"TurnedRivers$Digging", "leastOrder", "(LTurnedRivers$Land;II)I"⟩ ∈ gw := gm_3 204 rfl rfl
set_option maxRecDepth 4000 in
theorem wd_763 : Cond.selects "TurnedRivers$Digging" ⟨"TurnedRivers$Digging", "leastOrder", "(LTurnedRivers$Land;II)I"⟩ ⟨"TurnedRivers$Digging", "leastOrder", "(LTurnedRivers$Land;II)I"⟩ ∈ gw := gm_3 205 rfl rfl
set_option maxRecDepth 4000 in
theorem wd_764 : Cond.code ⟨"TurnedRivers$Digging", "leastOrder", "(LTurnedRivers$Land;II)I"⟩ prog_3_method_3_code 8 (some .int) ∈ gw := gm_3 206 rfl rfl
set_option maxRecDepth 4000 in
theorem wd_765 : Cond.methodLink "TurnedRivers$Digging" 22 ⟨"TurnedRivers$Digging", "leastNext", "(LTurnedRivers$Land;III)I"⟩ ∈ gw := gm_3 207 rfl rfl
set_option maxRecDepth 4000 in
theorem wd_767 : Cond.instanceMethod ⟨"TurnedRivers$Digging", "leastNext", "(LTurnedRivers$Land;III)I"⟩ ∈ gw := gm_3 209 rfl rfl
set_option maxRecDepth 4000 in
theorem wd_768 : Cond.code ⟨"TurnedRivers$Digging", "leastNext", "(LTurnedRivers$Land;III)I"⟩ prog_3_method_5_code 7 (some .int) ∈ gw := gm_3 210 rfl rfl
set_option maxRecDepth 4000 in
theorem wd_773 : Cond.constantLong "TurnedRivers" 188 (-1) ∈ gw := gm_3 215 rfl rfl
set_option maxRecDepth 4000 in
theorem wd_774 : Cond.methodLink "TurnedRivers" 190 ⟨"TurnedRivers$Years", "meanTimesTens", "(LTurnedRivers$Land;LTurnedRivers$Flow;III)J"⟩ ∈ gw := gm_3 216 rfl rfl
set_option maxRecDepth 4000 in
theorem wd_775 : Cond.instanceMethod ⟨"TurnedRivers$Years", "meanTimesTens", "(LTurnedRivers$Land;LTurnedRivers$Flow;III)J"⟩ ∈ gw := gm_3 217 rfl rfl
set_option maxRecDepth 4000 in
theorem wd_776 : Cond.selects "TurnedRivers$Years" ⟨"TurnedRivers$Years", "meanTimesTens", "(LTurnedRivers$Land;LTurnedRivers$Flow;III)J"⟩ ⟨"TurnedRivers$Years", "meanTimesTens", "(LTurnedRivers$Land;LTurnedRivers$Flow;III)J"⟩ ∈ gw := gm_3 218 rfl rfl
set_option maxRecDepth 4000 in
theorem wd_777 : Cond.code ⟨"TurnedRivers$Years", "meanTimesTens", "(LTurnedRivers$Land;LTurnedRivers$Flow;III)J"⟩ prog_9_method_4_code 10 (some .long) ∈ gw := gm_3 219 rfl rfl
set_option maxRecDepth 4000 in
theorem wd_778 : Cond.methodLink "TurnedRivers$Years" 47 ⟨"java/util/Arrays", "fill", "([JJ)V"⟩ ∈ gw := gm_3 220 rfl rfl
set_option maxRecDepth 4000 in
theorem wd_779 : Cond.static ⟨"java/util/Arrays", "fill", "([JJ)V"⟩ ∈ gw := gm_3 221 rfl rfl
set_option maxRecDepth 4000 in
theorem wd_780 : Cond.code ⟨"java/util/Arrays", "fill", "([JJ)V"⟩ prog_18_method_101_code 5 none ∈ gw := gm_3 222 rfl rfl
set_option maxRecDepth 4000 in
theorem wd_781 : Cond.methodLink "TurnedRivers$Years" 50 ⟨"TurnedRivers$Years", "greatest", "(LTurnedRivers$Land;LTurnedRivers$Flow;II)I"⟩ ∈ gw := gm_3 223 rfl rfl
set_option maxRecDepth 4000 in
theorem wd_782 : Cond.methodLink "TurnedRivers$Years" 53 ⟨"TurnedRivers$Years", "followed", "(LTurnedRivers$Land;I)J"⟩ ∈ gw := gm_3 224 rfl rfl
set_option maxRecDepth 4000 in
theorem wd_784 : Cond.instanceMethod ⟨"TurnedRivers$Years", "followed", "(LTurnedRivers$Land;I)J"⟩ ∈ gw := gm_3 226 rfl rfl
set_option maxRecDepth 4000 in
theorem wd_785 : Cond.code ⟨"TurnedRivers$Years", "followed", "(LTurnedRivers$Land;I)J"⟩ prog_9_method_5_code 6 (some .long) ∈ gw := gm_3 227 rfl rfl
set_option maxRecDepth 4000 in
theorem wd_786 : Cond.methodLink "TurnedRivers$Years" 57 ⟨"java/lang/System", "arraycopy", "(Ljava/lang/Object;ILjava/lang/Object;II)V"⟩ ∈ gw := gm_3 228 rfl rfl
set_option maxRecDepth 4000 in
theorem wd_787 : Cond.constantLong "TurnedRivers$Years" 63 10 ∈ gw := gm_3 229 rfl rfl
set_option maxRecDepth 4000 in
theorem wd_792 : Cond.methodLink "TurnedRivers" 194 ⟨"TurnedRivers", "rowsOf", "(I)I"⟩ ∈ gw := gm_3 234 rfl rfl
set_option maxRecDepth 4000 in
theorem wd_793 : Cond.static ⟨"TurnedRivers", "rowsOf", "(I)I"⟩ ∈ gw := gm_3 235 rfl rfl
set_option maxRecDepth 4000 in
theorem wd_794 : Cond.code ⟨"TurnedRivers", "rowsOf", "(I)I"⟩ prog_1_method_39_code 3 (some .int) ∈ gw := gm_3 236 rfl rfl
set_option maxRecDepth 4000 in
theorem wd_795 : Cond.methodLink "TurnedRivers" 200 ⟨"TurnedRivers$DamPlan", "greatest", "(LTurnedRivers$Land;LTurnedRivers$Flow;III)I"⟩ ∈ gw := gm_3 237 rfl rfl
set_option maxRecDepth 4000 in
theorem wd_796 : Cond.instanceMethod ⟨"TurnedRivers$DamPlan", "greatest", "(LTurnedRivers$Land;LTurnedRivers$Flow;III)I"⟩ ∈ gw := gm_3 238 rfl rfl
set_option maxRecDepth 4000 in
theorem wd_797 : Cond.selects "TurnedRivers$DamPlan" ⟨"TurnedRivers$DamPlan", "greatest", "(LTurnedRivers$Land;LTurnedRivers$Flow;III)I"⟩ ⟨"TurnedRivers$DamPlan", "greatest", "(LTurnedRivers$Land;LTurnedRivers$Flow;III)I"⟩ ∈ gw := gm_3 239 rfl rfl
theorem wd_798 : Cond.code ⟨"TurnedRivers$DamPlan", "greatest", "(LTurnedRivers$Land;LTurnedRivers$Flow;III)I"⟩ prog_2_method_2_code 10 (some .int) ∈ gw := gm_4 0 rfl rfl
theorem wd_799 : Cond.methodLink "TurnedRivers$DamPlan" 21 ⟨"java/util/Arrays", "fill", "([II)V"⟩ ∈ gw := gm_4 1 rfl rfl
theorem wd_800 : Cond.methodLink "TurnedRivers$DamPlan" 27 ⟨"TurnedRivers$DamPlan", "planSeason", "(LTurnedRivers$Land;LTurnedRivers$Flow;III)V"⟩ ∈ gw := gm_4 2 rfl rfl
theorem wd_802 : Cond.instanceMethod ⟨"TurnedRivers$DamPlan", "planSeason", "(LTurnedRivers$Land;LTurnedRivers$Flow;III)V"⟩ ∈ gw := gm_4 4 rfl rfl
theorem wd_803 : Cond.code ⟨"TurnedRivers$DamPlan", "planSeason", "(LTurnedRivers$Land;LTurnedRivers$Flow;III)V"⟩ prog_2_method_3_code 11 none ∈ gw := gm_4 5 rfl rfl
theorem wd_804 : Cond.methodLink "TurnedRivers$DamPlan" 37 ⟨"TurnedRivers$Land", "spareOf", "(III)I"⟩ ∈ gw := gm_4 6 rfl rfl
theorem wd_805 : Cond.methodLink "TurnedRivers$DamPlan" 44 ⟨"TurnedRivers$DamPlan", "mostWith", "(LTurnedRivers$Land;LTurnedRivers$Flow;IIII)I"⟩ ∈ gw := gm_4 7 rfl rfl
theorem wd_807 : Cond.instanceMethod ⟨"TurnedRivers$DamPlan", "mostWith", "(LTurnedRivers$Land;LTurnedRivers$Flow;IIII)I"⟩ ∈ gw := gm_4 9 rfl rfl
theorem wd_808 : Cond.code ⟨"TurnedRivers$DamPlan", "mostWith", "(LTurnedRivers$Land;LTurnedRivers$Flow;IIII)I"⟩ prog_2_method_4_code 8 (some .int) ∈ gw := gm_4 10 rfl rfl
theorem wd_809 : Cond.methodLink "TurnedRivers$DamPlan" 57 ⟨"TurnedRivers$Flow", "supply", "(LTurnedRivers$Land;II)V"⟩ ∈ gw := gm_4 11 rfl rfl
theorem wd_810 : Cond.methodLink "TurnedRivers$DamPlan" 66 ⟨"TurnedRivers$Land", "allTowns", "()I"⟩ ∈ gw := gm_4 12 rfl rfl
theorem wd_811 : Cond.methodLink "TurnedRivers$DamPlan" 70 ⟨"TurnedRivers$Flow", "greatest", "(LTurnedRivers$Land;III)I"⟩ ∈ gw := gm_4 13 rfl rfl
theorem wd_812 : Cond.methodLink "TurnedRivers$DamPlan" 51 ⟨"java/lang/System", "arraycopy", "(Ljava/lang/Object;ILjava/lang/Object;II)V"⟩ ∈ gw := gm_4 14 rfl rfl
theorem wd_821 : Cond.methodLink "TurnedRivers" 209 ⟨"TurnedRivers", "levelBehind", "(II)I"⟩ ∈ gw := gm_4 23 rfl rfl
theorem wd_823 : Cond.instanceMethod ⟨"TurnedRivers", "levelBehind", "(II)I"⟩ ∈ gw := gm_4 25 rfl rfl
theorem wd_824 : Cond.code ⟨"TurnedRivers", "levelBehind", "(II)I"⟩ prog_1_method_47_code 3 (some .int) ∈ gw := gm_4 26 rfl rfl
theorem wd_829 : Cond.methodLink "TurnedRivers" 212 ⟨"TurnedRivers", "holds", "(III)Z"⟩ ∈ gw := gm_4 31 rfl rfl
theorem wd_831 : Cond.instanceMethod ⟨"TurnedRivers", "holds", "(III)Z"⟩ ∈ gw := gm_4 33 rfl rfl
theorem wd_832 : Cond.code ⟨"TurnedRivers", "holds", "(III)Z"⟩ prog_1_method_48_code 6 (some .boolean) ∈ gw := gm_4 34 rfl rfl
theorem wd_841 : Cond.methodLink "TurnedRivers" 215 ⟨"TurnedRivers", "mostOfTowns", "(II)I"⟩ ∈ gw := gm_4 43 rfl rfl
theorem wd_843 : Cond.instanceMethod ⟨"TurnedRivers", "mostOfTowns", "(II)I"⟩ ∈ gw := gm_4 45 rfl rfl
theorem wd_844 : Cond.code ⟨"TurnedRivers", "mostOfTowns", "(II)I"⟩ prog_1_method_42_code 5 (some .int) ∈ gw := gm_4 46 rfl rfl
theorem wd_853 : Cond.methodLink "TurnedRivers" 224 ⟨"TurnedRivers", "complaint", "(II)I"⟩ ∈ gw := gm_4 55 rfl rfl
theorem wd_855 : Cond.instanceMethod ⟨"TurnedRivers", "complaint", "(II)I"⟩ ∈ gw := gm_4 57 rfl rfl
theorem wd_856 : Cond.code ⟨"TurnedRivers", "complaint", "(II)I"⟩ prog_1_method_49_code 5 (some .int) ∈ gw := gm_4 58 rfl rfl
theorem wd_861 : Cond.methodLink "TurnedRivers" 227 ⟨"TurnedRivers", "asWork", "(I)I"⟩ ∈ gw := gm_4 63 rfl rfl
theorem wd_863 : Cond.instanceMethod ⟨"TurnedRivers", "asWork", "(I)I"⟩ ∈ gw := gm_4 65 rfl rfl
theorem wd_864 : Cond.code ⟨"TurnedRivers", "asWork", "(I)I"⟩ prog_1_method_50_code 2 (some .int) ∈ gw := gm_4 66 rfl rfl
theorem wd_865 : Cond.methodLink "TurnedRivers" 230 ⟨"TurnedRivers", "asCanal", "(I)I"⟩ ∈ gw := gm_4 67 rfl rfl
theorem wd_867 : Cond.instanceMethod ⟨"TurnedRivers", "asCanal", "(I)I"⟩ ∈ gw := gm_4 69 rfl rfl
theorem wd_868 : Cond.code ⟨"TurnedRivers", "asCanal", "(I)I"⟩ prog_1_method_51_code 2 (some .int) ∈ gw := gm_4 70 rfl rfl
theorem wd_869 : Cond.constantLong "TurnedRivers" 271 10 ∈ gw := gm_4 71 rfl rfl
theorem wd_870 : Cond.methodLink "TurnedRivers" 233 ⟨"TurnedRivers", "asLift", "(I)I"⟩ ∈ gw := gm_4 72 rfl rfl
theorem wd_872 : Cond.instanceMethod ⟨"TurnedRivers", "asLift", "(I)I"⟩ ∈ gw := gm_4 74 rfl rfl
theorem wd_873 : Cond.code ⟨"TurnedRivers", "asLift", "(I)I"⟩ prog_1_method_52_code 2 (some .int) ∈ gw := gm_4 75 rfl rfl
theorem wd_874 : Cond.constantLong "TurnedRivers" 273 100 ∈ gw := gm_4 76 rfl rfl
theorem wd_875 : Cond.methodLink "TurnedRivers" 236 ⟨"TurnedRivers", "asTunnel", "(I)I"⟩ ∈ gw := gm_4 77 rfl rfl
theorem wd_877 : Cond.instanceMethod ⟨"TurnedRivers", "asTunnel", "(I)I"⟩ ∈ gw := gm_4 79 rfl rfl
theorem wd_878 : Cond.code ⟨"TurnedRivers", "asTunnel", "(I)I"⟩ prog_1_method_53_code 2 (some .int) ∈ gw := gm_4 80 rfl rfl
theorem wd_879 : Cond.constantLong "TurnedRivers" 275 1000 ∈ gw := gm_4 81 rfl rfl
theorem wd_880 : Cond.methodLink "TurnedRivers" 239 ⟨"TurnedRivers", "asFall", "(I)I"⟩ ∈ gw := gm_4 82 rfl rfl
theorem wd_882 : Cond.instanceMethod ⟨"TurnedRivers", "asFall", "(I)I"⟩ ∈ gw := gm_4 84 rfl rfl
theorem wd_883 : Cond.code ⟨"TurnedRivers", "asFall", "(I)I"⟩ prog_1_method_54_code 2 (some .int) ∈ gw := gm_4 85 rfl rfl
theorem wd_884 : Cond.constantLong "TurnedRivers" 277 10000 ∈ gw := gm_4 86 rfl rfl
theorem wd_885 : Cond.methodLink "TurnedRivers" 242 ⟨"TurnedRivers", "asSaving", "(I)I"⟩ ∈ gw := gm_4 87 rfl rfl
theorem wd_887 : Cond.instanceMethod ⟨"TurnedRivers", "asSaving", "(I)I"⟩ ∈ gw := gm_4 89 rfl rfl
theorem wd_888 : Cond.code ⟨"TurnedRivers", "asSaving", "(I)I"⟩ prog_1_method_55_code 2 (some .int) ∈ gw := gm_4 90 rfl rfl
theorem wd_889 : Cond.constantLong "TurnedRivers" 279 100000 ∈ gw := gm_4 91 rfl rfl
theorem wd_894 : Cond.methodLink "TurnedRivers" 245 ⟨"TurnedRivers$Standing", "become", "(LTurnedRivers$Standing;)V"⟩ ∈ gw := gm_4 96 rfl rfl
theorem wd_895 : Cond.instanceMethod ⟨"TurnedRivers$Standing", "become", "(LTurnedRivers$Standing;)V"⟩ ∈ gw := gm_4 97 rfl rfl
theorem wd_896 : Cond.selects "TurnedRivers$Standing" ⟨"TurnedRivers$Standing", "become", "(LTurnedRivers$Standing;)V"⟩ ⟨"TurnedRivers$Standing", "become", "(LTurnedRivers$Standing;)V"⟩ ∈ gw := gm_4 98 rfl rfl
theorem wd_897 : Cond.code ⟨"TurnedRivers$Standing", "become", "(LTurnedRivers$Standing;)V"⟩ prog_7_method_2_code 2 none ∈ gw := gm_4 99 rfl rfl
theorem wd_898 : Cond.methodLink "TurnedRivers$Standing" 21 ⟨"java/lang/System", "arraycopy", "(Ljava/lang/Object;ILjava/lang/Object;II)V"⟩ ∈ gw := gm_4 100 rfl rfl
theorem wd_917 : Cond.fieldLink "TurnedRiversModel" 243 "TurnedRiversModel" "trace" "J" ∈ gw := gm_4 119 rfl rfl
theorem wd_918 : Cond.fieldLink "TurnedRiversModel" 7 "TurnedRiversModel" "text" "[B" ∈ gw := gm_4 120 rfl rfl
theorem wd_919 : Cond.fieldLink "TurnedRiversModel" 104 "TurnedRiversModel" "typed" "I" ∈ gw := gm_4 121 rfl rfl
theorem wd_920 : Cond.fieldLink "TurnedRiversModel" 13 "TurnedRiversModel" "places" "[I" ∈ gw := gm_4 122 rfl rfl
theorem wd_921 : Cond.fieldLink "TurnedRiversModel" 17 "TurnedRiversModel" "hasRiver" "[I" ∈ gw := gm_4 123 rfl rfl
theorem wd_922 : Cond.fieldLink "TurnedRiversModel" 20 "TurnedRiversModel" "keeps" "[I" ∈ gw := gm_4 124 rfl rfl
theorem wd_923 : Cond.fieldLink "TurnedRiversModel" 23 "TurnedRiversModel" "given" "[I" ∈ gw := gm_4 125 rfl rfl
theorem wd_924 : Cond.fieldLink "TurnedRiversModel" 26 "TurnedRiversModel" "towns" "[I" ∈ gw := gm_4 126 rfl rfl
theorem wd_925 : Cond.fieldLink "TurnedRiversModel" 29 "TurnedRiversModel" "town" "[I" ∈ gw := gm_4 127 rfl rfl
theorem wd_926 : Cond.fieldLink "TurnedRiversModel" 32 "TurnedRiversModel" "works" "[I" ∈ gw := gm_4 128 rfl rfl
theorem wd_927 : Cond.fieldLink "TurnedRiversModel" 35 "TurnedRiversModel" "work" "[I" ∈ gw := gm_4 129 rfl rfl
theorem wd_928 : Cond.fieldLink "TurnedRiversModel" 38 "TurnedRiversModel" "damAt" "[I" ∈ gw := gm_4 130 rfl rfl
theorem wd_929 : Cond.fieldLink "TurnedRiversModel" 41 "TurnedRiversModel" "holds" "[I" ∈ gw := gm_4 131 rfl rfl
theorem wd_930 : Cond.fieldLink "TurnedRiversModel" 44 "TurnedRiversModel" "follow" "[I" ∈ gw := gm_4 132 rfl rfl
theorem wd_931 : Cond.fieldLink "TurnedRiversModel" 110 "TurnedRiversModel" "at" "I" ∈ gw := gm_4 133 rfl rfl
theorem wd_932 : Cond.fieldLink "TurnedRiversModel" 117 "TurnedRiversModel" "start" "I" ∈ gw := gm_4 134 rfl rfl
theorem wd_933 : Cond.fieldLink "TurnedRiversModel" 123 "TurnedRiversModel" "sort" "I" ∈ gw := gm_4 135 rfl rfl
theorem wd_934 : Cond.fieldLink "TurnedRiversModel" 120 "TurnedRiversModel" "value" "I" ∈ gw := gm_4 136 rfl rfl
theorem wd_935 : Cond.fieldLink "TurnedRiversModel" 131 "TurnedRiversModel" "fault" "I" ∈ gw := gm_4 137 rfl rfl
theorem wd_936 : Cond.fieldLink "TurnedRiversModel" 47 "TurnedRiversModel" "there" "[I" ∈ gw := gm_4 138 rfl rfl
theorem wd_937 : Cond.fieldLink "TurnedRiversModel" 179 "TurnedRiversModel" "arcs" "I" ∈ gw := gm_4 139 rfl rfl
theorem wd_938 : Cond.fieldLink "TurnedRiversModel" 50 "TurnedRiversModel" "from" "[I" ∈ gw := gm_4 140 rfl rfl
theorem wd_939 : Cond.fieldLink "TurnedRiversModel" 53 "TurnedRiversModel" "to" "[I" ∈ gw := gm_4 141 rfl rfl
theorem wd_940 : Cond.fieldLink "TurnedRiversModel" 56 "TurnedRiversModel" "room" "[I" ∈ gw := gm_4 142 rfl rfl
theorem wd_941 : Cond.fieldLink "TurnedRiversModel" 59 "TurnedRiversModel" "brings" "[I" ∈ gw := gm_4 143 rfl rfl
theorem wd_942 : Cond.fieldLink "TurnedRiversModel" 62 "TurnedRiversModel" "best" "[I" ∈ gw := gm_4 144 rfl rfl
theorem wd_943 : Cond.fieldLink "TurnedRiversModel" 65 "TurnedRiversModel" "by" "[I" ∈ gw := gm_4 145 rfl rfl
theorem wd_944 : Cond.fieldLink "TurnedRiversModel" 68 "TurnedRiversModel" "sent" "[I" ∈ gw := gm_4 146 rfl rfl
theorem wd_945 : Cond.fieldLink "TurnedRiversModel" 71 "TurnedRiversModel" "means" "[I" ∈ gw := gm_4 147 rfl rfl
theorem wd_946 : Cond.fieldLink "TurnedRiversModel" 74 "TurnedRiversModel" "chance" "[J" ∈ gw := gm_4 148 rfl rfl
theorem wd_947 : Cond.fieldLink "TurnedRiversModel" 78 "TurnedRiversModel" "ahead" "[J" ∈ gw := gm_4 149 rfl rfl
theorem wd_948 : Cond.fieldLink "TurnedRiversModel" 81 "TurnedRiversModel" "byUnits" "[I" ∈ gw := gm_4 150 rfl rfl
set_option maxRecDepth 4000 in
theorem wd_949 : Cond.fieldLink "TurnedRiversModel" 84 "TurnedRiversModel" "held" "[I" ∈ gw := gm_4 151 rfl rfl
set_option maxRecDepth 4000 in
theorem wd_950 : Cond.fieldLink "TurnedRiversModel" 87 "TurnedRiversModel" "heldNext" "[I" ∈ gw := gm_4 152 rfl rfl
set_option maxRecDepth 4000 in
theorem wd_951 : Cond.fieldLink "TurnedRiversModel" 90 "TurnedRiversModel" "lake" "[I" ∈ gw := gm_4 153 rfl rfl
set_option maxRecDepth 4000 in
theorem wd_952 : Cond.fieldLink "TurnedRiversModel" 231 "TurnedRiversModel" "lowest" "I" ∈ gw := gm_4 154 rfl rfl
set_option maxRecDepth 4000 in
theorem wd_953 : Cond.fieldLink "TurnedRiversModel" 93 "TurnedRiversModel" "shares" "[I" ∈ gw := gm_4 155 rfl rfl
set_option maxRecDepth 4000 in
theorem wd_954 : Cond.fieldLink "TurnedRiversModel" 96 "TurnedRiversModel" "isKept" "[Z" ∈ gw := gm_4 156 rfl rfl
set_option maxRecDepth 4000 in
theorem wd_1036 : Cond.methodLink "TurnedRiversModel" 100 ⟨"TurnedRiversModel", "in", "(III)Z"⟩ ∈ gw := gm_4 238 rfl rfl
set_option maxRecDepth 4000 in
theorem wd_1037 : Cond.static ⟨"TurnedRiversModel", "in", "(III)Z"⟩ ∈ gw := gm_4 239 rfl rfl
theorem wd_1038 : Cond.code ⟨"TurnedRiversModel", "in", "(III)Z"⟩ prog_11_method_3_code 3 (some .boolean) ∈ gw := gm_5 0 rfl rfl
theorem wd_1039 : Cond.constantLong "TurnedRiversModel" 108 255 ∈ gw := gm_5 1 rfl rfl
theorem wd_1048 : Cond.methodLink "TurnedRiversModel" 134 ⟨"TurnedRiversModel", "next", "()V"⟩ ∈ gw := gm_5 10 rfl rfl
theorem wd_1050 : Cond.instanceMethod ⟨"TurnedRiversModel", "next", "()V"⟩ ∈ gw := gm_5 12 rfl rfl
theorem wd_1051 : Cond.code ⟨"TurnedRiversModel", "next", "()V"⟩ prog_11_method_7_code 3 none ∈ gw := gm_5 13 rfl rfl
theorem wd_1052 : Cond.methodLink "TurnedRiversModel" 113 ⟨"TurnedRiversModel", "here", "()I"⟩ ∈ gw := gm_5 14 rfl rfl
theorem wd_1054 : Cond.instanceMethod ⟨"TurnedRiversModel", "here", "()I"⟩ ∈ gw := gm_5 16 rfl rfl
theorem wd_1055 : Cond.code ⟨"TurnedRiversModel", "here", "()I"⟩ prog_11_method_6_code 1 (some .int) ∈ gw := gm_5 17 rfl rfl
theorem wd_1056 : Cond.constant "TurnedRiversModel" 126 235981828 ∈ gw := gm_5 18 rfl rfl
theorem wd_1057 : Cond.constant "TurnedRiversModel" 127 9759276 ∈ gw := gm_5 19 rfl rfl
theorem wd_1058 : Cond.constant "TurnedRiversModel" 128 405230 ∈ gw := gm_5 20 rfl rfl
theorem wd_1059 : Cond.constant "TurnedRiversModel" 129 464141 ∈ gw := gm_5 21 rfl rfl
theorem wd_1060 : Cond.constant "TurnedRiversModel" 130 94310429 ∈ gw := gm_5 22 rfl rfl
theorem wd_1061 : Cond.methodLink "TurnedRiversModel" 162 ⟨"TurnedRiversModel", "item", "(II)V"⟩ ∈ gw := gm_5 23 rfl rfl
theorem wd_1063 : Cond.instanceMethod ⟨"TurnedRiversModel", "item", "(II)V"⟩ ∈ gw := gm_5 25 rfl rfl
theorem wd_1064 : Cond.code ⟨"TurnedRiversModel", "item", "(II)V"⟩ prog_11_method_15_code 9 none ∈ gw := gm_5 26 rfl rfl
theorem wd_1065 : Cond.methodLink "TurnedRiversModel" 137 ⟨"TurnedRiversModel", "due", "(Z)I"⟩ ∈ gw := gm_5 27 rfl rfl
theorem wd_1067 : Cond.instanceMethod ⟨"TurnedRiversModel", "due", "(Z)I"⟩ ∈ gw := gm_5 29 rfl rfl
theorem wd_1068 : Cond.code ⟨"TurnedRiversModel", "due", "(Z)I"⟩ prog_11_method_8_code 3 (some .int) ∈ gw := gm_5 30 rfl rfl
theorem wd_1069 : Cond.methodLink "TurnedRiversModel" 145 ⟨"TurnedRiversModel", "number", "(II)I"⟩ ∈ gw := gm_5 31 rfl rfl
theorem wd_1071 : Cond.instanceMethod ⟨"TurnedRiversModel", "number", "(II)I"⟩ ∈ gw := gm_5 33 rfl rfl
theorem wd_1072 : Cond.code ⟨"TurnedRiversModel", "number", "(II)I"⟩ prog_11_method_9_code 3 (some .int) ∈ gw := gm_5 34 rfl rfl
theorem wd_1073 : Cond.methodLink "TurnedRiversModel" 153 ⟨"TurnedRiversModel", "readRiver", "()V"⟩ ∈ gw := gm_5 35 rfl rfl
theorem wd_1075 : Cond.instanceMethod ⟨"TurnedRiversModel", "readRiver", "()V"⟩ ∈ gw := gm_5 37 rfl rfl
theorem wd_1076 : Cond.code ⟨"TurnedRiversModel", "readRiver", "()V"⟩ prog_11_method_11_code 5 none ∈ gw := gm_5 38 rfl rfl
theorem wd_1077 : Cond.methodLink "TurnedRiversModel" 141 ⟨"TurnedRiversModel", "isPlaceTold", "()Z"⟩ ∈ gw := gm_5 39 rfl rfl
theorem wd_1079 : Cond.instanceMethod ⟨"TurnedRiversModel", "isPlaceTold", "()Z"⟩ ∈ gw := gm_5 41 rfl rfl
theorem wd_1080 : Cond.code ⟨"TurnedRiversModel", "isPlaceTold", "()Z"⟩ prog_11_method_10_code 1 (some .boolean) ∈ gw := gm_5 42 rfl rfl
theorem wd_1081 : Cond.methodLink "TurnedRiversModel" 156 ⟨"TurnedRiversModel", "readTown", "()V"⟩ ∈ gw := gm_5 43 rfl rfl
theorem wd_1083 : Cond.instanceMethod ⟨"TurnedRiversModel", "readTown", "()V"⟩ ∈ gw := gm_5 45 rfl rfl
theorem wd_1084 : Cond.code ⟨"TurnedRiversModel", "readTown", "()V"⟩ prog_11_method_13_code 2 none ∈ gw := gm_5 46 rfl rfl
theorem wd_1085 : Cond.methodLink "TurnedRiversModel" 149 ⟨"TurnedRiversModel", "isTownless", "(I)Z"⟩ ∈ gw := gm_5 47 rfl rfl
theorem wd_1087 : Cond.instanceMethod ⟨"TurnedRiversModel", "isTownless", "(I)Z"⟩ ∈ gw := gm_5 49 rfl rfl
theorem wd_1088 : Cond.code ⟨"TurnedRiversModel", "isTownless", "(I)Z"⟩ prog_11_method_12_code 4 (some .boolean) ∈ gw := gm_5 50 rfl rfl
theorem wd_1089 : Cond.methodLink "TurnedRiversModel" 159 ⟨"TurnedRiversModel", "readWork", "()V"⟩ ∈ gw := gm_5 51 rfl rfl
theorem wd_1091 : Cond.instanceMethod ⟨"TurnedRiversModel", "readWork", "()V"⟩ ∈ gw := gm_5 53 rfl rfl
theorem wd_1092 : Cond.code ⟨"TurnedRiversModel", "readWork", "()V"⟩ prog_11_method_14_code 2 none ∈ gw := gm_5 54 rfl rfl
theorem wd_1097 : Cond.methodLink "TurnedRiversModel" 166 ⟨"TurnedRiversModel", "isPlace", "(I)Z"⟩ ∈ gw := gm_5 59 rfl rfl
theorem wd_1099 : Cond.instanceMethod ⟨"TurnedRiversModel", "isPlace", "(I)Z"⟩ ∈ gw := gm_5 61 rfl rfl
theorem wd_1100 : Cond.code ⟨"TurnedRiversModel", "isPlace", "(I)Z"⟩ prog_11_method_17_code 2 (some .boolean) ∈ gw := gm_5 62 rfl rfl
theorem wd_1101 : Cond.methodLink "TurnedRiversModel" 169 ⟨"TurnedRiversModel", "isSeason", "(II)Z"⟩ ∈ gw := gm_5 63 rfl rfl
theorem wd_1102 : Cond.static ⟨"TurnedRiversModel", "isSeason", "(II)Z"⟩ ∈ gw := gm_5 64 rfl rfl
theorem wd_1103 : Cond.code ⟨"TurnedRiversModel", "isSeason", "(II)Z"⟩ prog_11_method_18_code 2 (some .boolean) ∈ gw := gm_5 65 rfl rfl
theorem wd_1112 : Cond.methodLink "TurnedRiversModel" 173 ⟨"TurnedRiversModel", "isTown", "(I)Z"⟩ ∈ gw := gm_5 74 rfl rfl
theorem wd_1114 : Cond.instanceMethod ⟨"TurnedRiversModel", "isTown", "(I)Z"⟩ ∈ gw := gm_5 76 rfl rfl
theorem wd_1115 : Cond.code ⟨"TurnedRiversModel", "isTown", "(I)Z"⟩ prog_11_method_19_code 2 (some .boolean) ∈ gw := gm_5 77 rfl rfl
theorem wd_1120 : Cond.methodLink "TurnedRiversModel" 176 ⟨"TurnedRiversModel", "isWork", "(I)Z"⟩ ∈ gw := gm_5 82 rfl rfl
theorem wd_1122 : Cond.instanceMethod ⟨"TurnedRiversModel", "isWork", "(I)Z"⟩ ∈ gw := gm_5 84 rfl rfl
theorem wd_1123 : Cond.code ⟨"TurnedRiversModel", "isWork", "(I)Z"⟩ prog_11_method_20_code 2 (some .boolean) ∈ gw := gm_5 85 rfl rfl
theorem wd_1128 : Cond.methodLink "TurnedRiversModel" 201 ⟨"TurnedRiversModel", "seasonMost", "(IIII)I"⟩ ∈ gw := gm_5 90 rfl rfl
theorem wd_1130 : Cond.instanceMethod ⟨"TurnedRiversModel", "seasonMost", "(IIII)I"⟩ ∈ gw := gm_5 92 rfl rfl
theorem wd_1131 : Cond.code ⟨"TurnedRiversModel", "seasonMost", "(IIII)I"⟩ prog_11_method_30_code 5 (some .int) ∈ gw := gm_5 93 rfl rfl
theorem wd_1132 : Cond.methodLink "TurnedRiversModel" 194 ⟨"TurnedRiversModel", "fill", "(II)V"⟩ ∈ gw := gm_5 94 rfl rfl
theorem wd_1134 : Cond.instanceMethod ⟨"TurnedRiversModel", "fill", "(II)V"⟩ ∈ gw := gm_5 96 rfl rfl
theorem wd_1135 : Cond.code ⟨"TurnedRiversModel", "fill", "(II)V"⟩ prog_11_method_25_code 5 none ∈ gw := gm_5 97 rfl rfl
theorem wd_1136 : Cond.methodLink "TurnedRiversModel" 197 ⟨"TurnedRiversModel", "mostOf", "(III)I"⟩ ∈ gw := gm_5 98 rfl rfl
theorem wd_1138 : Cond.instanceMethod ⟨"TurnedRiversModel", "mostOf", "(III)I"⟩ ∈ gw := gm_5 100 rfl rfl
theorem wd_1139 : Cond.code ⟨"TurnedRiversModel", "mostOf", "(III)I"⟩ prog_11_method_29_code 6 (some .int) ∈ gw := gm_5 101 rfl rfl
theorem wd_1140 : Cond.methodLink "TurnedRiversModel" 184 ⟨"TurnedRiversModel", "way", "(IIII)V"⟩ ∈ gw := gm_5 102 rfl rfl
theorem wd_1142 : Cond.instanceMethod ⟨"TurnedRiversModel", "way", "(IIII)V"⟩ ∈ gw := gm_5 104 rfl rfl
theorem wd_1143 : Cond.code ⟨"TurnedRiversModel", "way", "(IIII)V"⟩ prog_11_method_26_code 5 none ∈ gw := gm_5 105 rfl rfl
theorem wd_1144 : Cond.methodLink "TurnedRiversModel" 188 ⟨"TurnedRiversModel", "findWay", "()I"⟩ ∈ gw := gm_5 106 rfl rfl
theorem wd_1146 : Cond.instanceMethod ⟨"TurnedRiversModel", "findWay", "()I"⟩ ∈ gw := gm_5 108 rfl rfl
theorem wd_1147 : Cond.code ⟨"TurnedRiversModel", "findWay", "()I"⟩ prog_11_method_27_code 3 (some .int) ∈ gw := gm_5 109 rfl rfl
theorem wd_1148 : Cond.constant "TurnedRiversModel" 182 (-1000000) ∈ gw := gm_5 110 rfl rfl
theorem wd_1149 : Cond.methodLink "TurnedRiversModel" 191 ⟨"TurnedRiversModel", "goWay", "()I"⟩ ∈ gw := gm_5 111 rfl rfl
theorem wd_1151 : Cond.instanceMethod ⟨"TurnedRiversModel", "goWay", "()I"⟩ ∈ gw := gm_5 113 rfl rfl
theorem wd_1152 : Cond.code ⟨"TurnedRiversModel", "goWay", "()I"⟩ prog_11_method_28_code 5 (some .int) ∈ gw := gm_5 114 rfl rfl
theorem wd_1153 : Cond.constant "TurnedRiversModel" 183 1000000 ∈ gw := gm_5 115 rfl rfl
theorem wd_1174 : Cond.methodLink "TurnedRiversModel" 205 ⟨"TurnedRiversModel", "staysAt", "(I)I"⟩ ∈ gw := gm_5 136 rfl rfl
theorem wd_1176 : Cond.instanceMethod ⟨"TurnedRiversModel", "staysAt", "(I)I"⟩ ∈ gw := gm_5 138 rfl rfl
theorem wd_1177 : Cond.code ⟨"TurnedRiversModel", "staysAt", "(I)I"⟩ prog_11_method_36_code 4 (some .int) ∈ gw := gm_5 139 rfl rfl
theorem wd_1182 : Cond.methodLink "TurnedRiversModel" 209 ⟨"TurnedRiversModel", "yearMost", "(III)I"⟩ ∈ gw := gm_5 144 rfl rfl
theorem wd_1184 : Cond.instanceMethod ⟨"TurnedRiversModel", "yearMost", "(III)I"⟩ ∈ gw := gm_5 146 rfl rfl
theorem wd_1185 : Cond.code ⟨"TurnedRiversModel", "yearMost", "(III)I"⟩ prog_11_method_38_code 6 (some .int) ∈ gw := gm_5 147 rfl rfl
set_option maxRecDepth 4000 in
theorem wd_1190 : Cond.methodLink "TurnedRiversModel" 212 ⟨"TurnedRiversModel", "costOf", "(I)I"⟩ ∈ gw := gm_5 152 rfl rfl
set_option maxRecDepth 4000 in
theorem wd_1192 : Cond.instanceMethod ⟨"TurnedRiversModel", "costOf", "(I)I"⟩ ∈ gw := gm_5 154 rfl rfl
set_option maxRecDepth 4000 in
theorem wd_1193 : Cond.code ⟨"TurnedRiversModel", "costOf", "(I)I"⟩ prog_11_method_40_code 4 (some .int) ∈ gw := gm_5 155 rfl rfl
set_option maxRecDepth 4000 in
theorem wd_1198 : Cond.methodLink "TurnedRiversModel" 215 ⟨"TurnedRiversModel", "bitsIn", "(I)I"⟩ ∈ gw := gm_5 160 rfl rfl
set_option maxRecDepth 4000 in
theorem wd_1199 : Cond.static ⟨"TurnedRiversModel", "bitsIn", "(I)I"⟩ ∈ gw := gm_5 161 rfl rfl
set_option maxRecDepth 4000 in
theorem wd_1200 : Cond.code ⟨"TurnedRiversModel", "bitsIn", "(I)I"⟩ prog_11_method_42_code 3 (some .int) ∈ gw := gm_5 162 rfl rfl
set_option maxRecDepth 4000 in
theorem wd_1201 : Cond.methodLink "TurnedRiversModel" 218 ⟨"TurnedRiversModel", "isOrderOf", "(III)Z"⟩ ∈ gw := gm_5 163 rfl rfl
set_option maxRecDepth 4000 in
theorem wd_1203 : Cond.instanceMethod ⟨"TurnedRiversModel", "isOrderOf", "(III)Z"⟩ ∈ gw := gm_5 165 rfl rfl
set_option maxRecDepth 4000 in
theorem wd_1204 : Cond.code ⟨"TurnedRiversModel", "isOrderOf", "(III)Z"⟩ prog_11_method_44_code 7 (some .boolean) ∈ gw := gm_5 166 rfl rfl
set_option maxRecDepth 4000 in
theorem wd_1205 : Cond.methodLink "TurnedRiversModel" 221 ⟨"TurnedRiversModel", "orderMost", "(III)I"⟩ ∈ gw := gm_5 167 rfl rfl
set_option maxRecDepth 4000 in
theorem wd_1207 : Cond.instanceMethod ⟨"TurnedRiversModel", "orderMost", "(III)I"⟩ ∈ gw := gm_5 169 rfl rfl
set_option maxRecDepth 4000 in
theorem wd_1208 : Cond.code ⟨"TurnedRiversModel", "orderMost", "(III)I"⟩ prog_11_method_43_code 9 (some .int) ∈ gw := gm_5 170 rfl rfl
set_option maxRecDepth 4000 in
theorem wd_1213 : Cond.constantLong "TurnedRiversModel" 224 (-1) ∈ gw := gm_5 175 rfl rfl
set_option maxRecDepth 4000 in
theorem wd_1214 : Cond.constantLong "TurnedRiversModel" 226 10 ∈ gw := gm_5 176 rfl rfl
set_option maxRecDepth 4000 in
theorem wd_1219 : Cond.methodLink "TurnedRiversModel" 228 ⟨"TurnedRiversModel", "workSeason", "(II)I"⟩ ∈ gw := gm_5 181 rfl rfl
set_option maxRecDepth 4000 in
theorem wd_1221 : Cond.instanceMethod ⟨"TurnedRiversModel", "workSeason", "(II)I"⟩ ∈ gw := gm_5 183 rfl rfl
set_option maxRecDepth 4000 in
theorem wd_1222 : Cond.code ⟨"TurnedRiversModel", "workSeason", "(II)I"⟩ prog_11_method_48_code 8 (some .int) ∈ gw := gm_5 184 rfl rfl
set_option maxRecDepth 4000 in
theorem wd_1231 : Cond.methodLink "TurnedRiversModel" 234 ⟨"TurnedRiversModel", "levelOf", "(II)I"⟩ ∈ gw := gm_5 193 rfl rfl
set_option maxRecDepth 4000 in
theorem wd_1233 : Cond.instanceMethod ⟨"TurnedRiversModel", "levelOf", "(II)I"⟩ ∈ gw := gm_5 195 rfl rfl
set_option maxRecDepth 4000 in
theorem wd_1234 : Cond.code ⟨"TurnedRiversModel", "levelOf", "(II)I"⟩ prog_11_method_50_code 5 (some .int) ∈ gw := gm_5 196 rfl rfl
set_option maxRecDepth 4000 in
theorem wd_1247 : Cond.methodLink "TurnedRiversModel" 237 ⟨"TurnedRiversModel", "allTowns", "()I"⟩ ∈ gw := gm_5 209 rfl rfl
set_option maxRecDepth 4000 in
theorem wd_1249 : Cond.instanceMethod ⟨"TurnedRiversModel", "allTowns", "()I"⟩ ∈ gw := gm_5 211 rfl rfl
set_option maxRecDepth 4000 in
theorem wd_1250 : Cond.code ⟨"TurnedRiversModel", "allTowns", "()I"⟩ prog_11_method_54_code 1 (some .int) ∈ gw := gm_5 212 rfl rfl
set_option maxRecDepth 4000 in
theorem wd_1259 : Cond.methodLink "TurnedRiversModel" 240 ⟨"TurnedRiversModel", "sharesOf", "(I)I"⟩ ∈ gw := gm_5 221 rfl rfl
set_option maxRecDepth 4000 in
theorem wd_1261 : Cond.instanceMethod ⟨"TurnedRiversModel", "sharesOf", "(I)I"⟩ ∈ gw := gm_5 223 rfl rfl
set_option maxRecDepth 4000 in
theorem wd_1262 : Cond.code ⟨"TurnedRiversModel", "sharesOf", "(I)I"⟩ prog_11_method_57_code 4 (some .int) ∈ gw := gm_5 224 rfl rfl
set_option maxRecDepth 4000 in
theorem wd_1267 : Cond.constantLong "TurnedRiversModel" 247 11 ∈ gw := gm_5 229 rfl rfl
set_option maxRecDepth 4000 in
theorem wd_1268 : Cond.constantLong "TurnedRiversModel" 249 101 ∈ gw := gm_5 230 rfl rfl
set_option maxRecDepth 4000 in
theorem wd_1269 : Cond.constantLong "TurnedRiversModel" 251 1011 ∈ gw := gm_5 231 rfl rfl
set_option maxRecDepth 4000 in
theorem wd_1270 : Cond.constantLong "TurnedRiversModel" 253 10101 ∈ gw := gm_5 232 rfl rfl
set_option maxRecDepth 4000 in
theorem wd_1271 : Cond.constantLong "TurnedRiversModel" 255 100001 ∈ gw := gm_5 233 rfl rfl
set_option maxRecDepth 4000 in
theorem wd_1276 : Cond.methodLink "TurnedRiversModel" 257 ⟨"TurnedRiversModel", "copy", "(II)V"⟩ ∈ gw := gm_5 238 rfl rfl
theorem wd_1278 : Cond.instanceMethod ⟨"TurnedRiversModel", "copy", "(II)V"⟩ ∈ gw := gm_6 0 rfl rfl
theorem wd_1279 : Cond.code ⟨"TurnedRiversModel", "copy", "(II)V"⟩ prog_11_method_60_code 4 none ∈ gw := gm_6 1 rfl rfl
theorem wd_1293 : Cond.fieldLink "java/lang/String" 9 "java/lang/String" "value" "[B" ∈ gw := gm_6 15 rfl rfl
theorem wd_1294 : Cond.fieldLink "java/lang/String" 15 "java/lang/String" "coder" "B" ∈ gw := gm_6 16 rfl rfl
