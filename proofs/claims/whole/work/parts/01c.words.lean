theorem w_0 : (Cond.selects "DoubleTurns$Closing" ⟨"DoubleTurns$Closing", "step", "(II)Z"⟩ ⟨"DoubleTurns$Closing", "step", "(II)Z"⟩) ∈ lwW := lwW_in 0 (by decide +kernel) rfl
theorem w_1 : (Cond.selects "DoubleTurns$Closing" ⟨"DoubleTurns$Closing", "multiply", "(II)Z"⟩ ⟨"DoubleTurns$Closing", "multiply", "(II)Z"⟩) ∈ lwW := lwW_in 1 (by decide +kernel) rfl
theorem w_2 : (Cond.selects "DoubleTurns$Closing" ⟨"DoubleTurns$Closing", "fail", "(III)Z"⟩ ⟨"DoubleTurns$Closing", "fail", "(III)Z"⟩) ∈ lwW := lwW_in 2 (by decide +kernel) rfl
theorem w_3 : (Cond.selects "DoubleTurns$Closing" ⟨"DoubleTurns$Closing", "isSame", "(I[I)Z"⟩ ⟨"DoubleTurns$Closing", "isSame", "(I[I)Z"⟩) ∈ lwW := lwW_in 3 (by decide +kernel) rfl
theorem w_4 : (Cond.selects "DoubleTurns$Closing" ⟨"DoubleTurns$Closing", "takeNext", "(II)V"⟩ ⟨"DoubleTurns$Closing", "takeNext", "(II)V"⟩) ∈ lwW := lwW_in 4 (by decide +kernel) rfl
theorem w_5 : (Cond.selects "DoubleTurns$Group" ⟨"DoubleTurns$Group", "fillProducts", "(LDoubleTurns$Closing;)V"⟩ ⟨"DoubleTurns$Group", "fillProducts", "(LDoubleTurns$Closing;)V"⟩) ∈ lwW := lwW_in 5 (by decide +kernel) rfl
theorem w_6 : (Cond.selects "DoubleTurns$Group" ⟨"DoubleTurns$Group", "fillOrders", "()V"⟩ ⟨"DoubleTurns$Group", "fillOrders", "()V"⟩) ∈ lwW := lwW_in 6 (by decide +kernel) rfl
theorem w_7 : (Cond.selects "DoubleTurns$Group" ⟨"DoubleTurns$Group", "fillClasses", "()V"⟩ ⟨"DoubleTurns$Group", "fillClasses", "()V"⟩) ∈ lwW := lwW_in 7 (by decide +kernel) rfl
theorem w_8 : (Cond.selects "DoubleTurns$Group" ⟨"DoubleTurns$Group", "fillClass", "(I)V"⟩ ⟨"DoubleTurns$Group", "fillClass", "(I)V"⟩) ∈ lwW := lwW_in 8 (by decide +kernel) rfl
theorem w_9 : (Cond.selects "DoubleTurns" ⟨"DoubleTurns", "takeTrial", "()V"⟩ ⟨"DoubleTurns", "takeTrial", "()V"⟩) ∈ lwW := lwW_in 9 (by decide +kernel) rfl
theorem w_10 : (Cond.selects "DoubleTurns" ⟨"DoubleTurns", "askHalf", "(IIIII)V"⟩ ⟨"DoubleTurns", "askHalf", "(IIIII)V"⟩) ∈ lwW := lwW_in 10 (by decide +kernel) rfl
theorem w_11 : (Cond.selects "DoubleTurns" ⟨"DoubleTurns", "forgetReasons", "()V"⟩ ⟨"DoubleTurns", "forgetReasons", "()V"⟩) ∈ lwW := lwW_in 11 (by decide +kernel) rfl
theorem w_12 : (Cond.selects "DoubleTurns" ⟨"DoubleTurns", "needBetween", "(III)V"⟩ ⟨"DoubleTurns", "needBetween", "(III)V"⟩) ∈ lwW := lwW_in 12 (by decide +kernel) rfl
theorem w_14 : (Cond.selects "DoubleTurns$Reader" ⟨"DoubleTurns$Reader", "readWord", "(Ljava/lang/String;)Z"⟩ ⟨"DoubleTurns$Reader", "readWord", "(Ljava/lang/String;)Z"⟩) ∈ lwW := lwW_in 14 (by decide +kernel) rfl
theorem w_15 : (Cond.selects "DoubleTurns$Reader" ⟨"DoubleTurns$Reader", "skipBlanks", "()V"⟩ ⟨"DoubleTurns$Reader", "skipBlanks", "()V"⟩) ∈ lwW := lwW_in 15 (by decide +kernel) rfl
theorem w_16 : (Cond.selects "DoubleTurns$Reader" ⟨"DoubleTurns$Reader", "here", "()I"⟩ ⟨"DoubleTurns$Reader", "here", "()I"⟩) ∈ lwW := lwW_in 16 (by decide +kernel) rfl
theorem w_17 : (Cond.selects "DoubleTurns$Reader" ⟨"DoubleTurns$Reader", "fail", "(II)Z"⟩ ⟨"DoubleTurns$Reader", "fail", "(II)Z"⟩) ∈ lwW := lwW_in 17 (by decide +kernel) rfl
theorem w_18 : (Cond.selects "DoubleTurns$Reader" ⟨"DoubleTurns$Reader", "readRoot", "(LDoubleTurns$Closing;)Z"⟩ ⟨"DoubleTurns$Reader", "readRoot", "(LDoubleTurns$Closing;)Z"⟩) ∈ lwW := lwW_in 18 (by decide +kernel) rfl
theorem w_19 : (Cond.selects "DoubleTurns$Reader" ⟨"DoubleTurns$Reader", "readNumber", "()I"⟩ ⟨"DoubleTurns$Reader", "readNumber", "()I"⟩) ∈ lwW := lwW_in 19 (by decide +kernel) rfl
theorem w_20 : (Cond.selects "DoubleTurns$Reader" ⟨"DoubleTurns$Reader", "readSign", "(C)Z"⟩ ⟨"DoubleTurns$Reader", "readSign", "(C)Z"⟩) ∈ lwW := lwW_in 20 (by decide +kernel) rfl
theorem w_21 : (Cond.selects "DoubleTurns$Reader" ⟨"DoubleTurns$Reader", "readTurn", "(LDoubleTurns$Closing;)Z"⟩ ⟨"DoubleTurns$Reader", "readTurn", "(LDoubleTurns$Closing;)Z"⟩) ∈ lwW := lwW_in 21 (by decide +kernel) rfl
theorem w_22 : (Cond.selects "DoubleTurns$Reader" ⟨"DoubleTurns$Reader", "readTold", "(I)Z"⟩ ⟨"DoubleTurns$Reader", "readTold", "(I)Z"⟩) ∈ lwW := lwW_in 22 (by decide +kernel) rfl
theorem w_23 : (Cond.selects "DoubleTurns" ⟨"DoubleTurns", "keepReasons", "()V"⟩ ⟨"DoubleTurns", "keepReasons", "()V"⟩) ∈ lwW := lwW_in 23 (by decide +kernel) rfl
theorem w_24 : (Cond.selects "DoubleTurns$Past" ⟨"DoubleTurns$Past", "forgetFirst", "()V"⟩ ⟨"DoubleTurns$Past", "forgetFirst", "()V"⟩) ∈ lwW := lwW_in 24 (by decide +kernel) rfl
theorem w_25 : (Cond.selects "DoubleTurns" ⟨"DoubleTurns", "needIndex", "(II)V"⟩ ⟨"DoubleTurns", "needIndex", "(II)V"⟩) ∈ lwW := lwW_in 25 (by decide +kernel) rfl
theorem w_26 : (Cond.selects "DoubleTurns" ⟨"DoubleTurns", "needCharacters", "()V"⟩ ⟨"DoubleTurns", "needCharacters", "()V"⟩) ∈ lwW := lwW_in 26 (by decide +kernel) rfl
theorem w_27 : (Cond.selects "DoubleTurns$Splitting" ⟨"DoubleTurns$Splitting", "fillTable", "(I)V"⟩ ⟨"DoubleTurns$Splitting", "fillTable", "(I)V"⟩) ∈ lwW := lwW_in 27 (by decide +kernel) rfl
theorem w_28 : (Cond.selects "DoubleTurns$Splitting" ⟨"DoubleTurns$Splitting", "firstFilled", "([I)I"⟩ ⟨"DoubleTurns$Splitting", "firstFilled", "([I)I"⟩) ∈ lwW := lwW_in 28 (by decide +kernel) rfl
theorem w_29 : (Cond.selects "DoubleTurns$Splitting" ⟨"DoubleTurns$Splitting", "fillEquation", "()V"⟩ ⟨"DoubleTurns$Splitting", "fillEquation", "()V"⟩) ∈ lwW := lwW_in 29 (by decide +kernel) rfl
theorem w_30 : (Cond.selects "DoubleTurns$Splitting" ⟨"DoubleTurns$Splitting", "multiplyColumn", "(I)V"⟩ ⟨"DoubleTurns$Splitting", "multiplyColumn", "(I)V"⟩) ∈ lwW := lwW_in 30 (by decide +kernel) rfl
theorem w_31 : (Cond.selects "DoubleTurns$Splitting" ⟨"DoubleTurns$Splitting", "solves", "(I)Z"⟩ ⟨"DoubleTurns$Splitting", "solves", "(I)Z"⟩) ∈ lwW := lwW_in 31 (by decide +kernel) rfl
theorem w_32 : (Cond.selects "DoubleTurns$Splitting" ⟨"DoubleTurns$Splitting", "placeSpace", "(I)V"⟩ ⟨"DoubleTurns$Splitting", "placeSpace", "(I)V"⟩) ∈ lwW := lwW_in 32 (by decide +kernel) rfl
theorem w_33 : (Cond.selects "DoubleTurns$Splitting" ⟨"DoubleTurns$Splitting", "clear", "([[IIII)I"⟩ ⟨"DoubleTurns$Splitting", "clear", "([[IIII)I"⟩) ∈ lwW := lwW_in 33 (by decide +kernel) rfl
theorem w_34 : (Cond.selects "DoubleTurns$Splitting" ⟨"DoubleTurns$Splitting", "stretchRow", "([II)V"⟩ ⟨"DoubleTurns$Splitting", "stretchRow", "([II)V"⟩) ∈ lwW := lwW_in 34 (by decide +kernel) rfl
theorem w_35 : (Cond.selects "DoubleTurns$Splitting" ⟨"DoubleTurns$Splitting", "takeAway", "([I[II)V"⟩ ⟨"DoubleTurns$Splitting", "takeAway", "([I[II)V"⟩) ∈ lwW := lwW_in 35 (by decide +kernel) rfl
theorem w_36 : (Cond.selects "DoubleTurns$Splitting" ⟨"DoubleTurns$Splitting", "mixRows", "([I[I)V"⟩ ⟨"DoubleTurns$Splitting", "mixRows", "([I[I)V"⟩) ∈ lwW := lwW_in 36 (by decide +kernel) rfl
theorem w_37 : (Cond.selects "DoubleTurns$Splitting" ⟨"DoubleTurns$Splitting", "takeParts", "()V"⟩ ⟨"DoubleTurns$Splitting", "takeParts", "()V"⟩) ∈ lwW := lwW_in 37 (by decide +kernel) rfl
theorem w_38 : (Cond.selects "DoubleTurns$Characters" ⟨"DoubleTurns$Characters", "fillCharacter", "(I[I)V"⟩ ⟨"DoubleTurns$Characters", "fillCharacter", "(I[I)V"⟩) ∈ lwW := lwW_in 38 (by decide +kernel) rfl
theorem w_39 : (Cond.selects "DoubleTurns$Characters" ⟨"DoubleTurns$Characters", "degreeBy", "(I)I"⟩ ⟨"DoubleTurns$Characters", "degreeBy", "(I)I"⟩) ∈ lwW := lwW_in 39 (by decide +kernel) rfl
theorem w_40 : (Cond.selects "DoubleTurns$Characters" ⟨"DoubleTurns$Characters", "sort", "()V"⟩ ⟨"DoubleTurns$Characters", "sort", "()V"⟩) ∈ lwW := lwW_in 40 (by decide +kernel) rfl
theorem w_41 : (Cond.selects "DoubleTurns$Characters" ⟨"DoubleTurns$Characters", "comesAhead", "(II)Z"⟩ ⟨"DoubleTurns$Characters", "comesAhead", "(II)Z"⟩) ∈ lwW := lwW_in 41 (by decide +kernel) rfl
theorem w_42 : (Cond.selects "DoubleTurns$Characters" ⟨"DoubleTurns$Characters", "isOneEverywhere", "(I)Z"⟩ ⟨"DoubleTurns$Characters", "isOneEverywhere", "(I)Z"⟩) ∈ lwW := lwW_in 42 (by decide +kernel) rfl
theorem w_43 : (Cond.selects "DoubleTurns$Graph" ⟨"DoubleTurns$Graph", "shortenBy", "(I)V"⟩ ⟨"DoubleTurns$Graph", "shortenBy", "(I)V"⟩) ∈ lwW := lwW_in 43 (by decide +kernel) rfl
theorem w_44 : (Cond.selects "DoubleTurns$Powers" ⟨"DoubleTurns$Powers", "begin", "(I)V"⟩ ⟨"DoubleTurns$Powers", "begin", "(I)V"⟩) ∈ lwW := lwW_in 44 (by decide +kernel) rfl
theorem w_45 : (Cond.selects "DoubleTurns$Powers" ⟨"DoubleTurns$Powers", "goOn", "(LDoubleTurns$Characters;)V"⟩ ⟨"DoubleTurns$Powers", "goOn", "(LDoubleTurns$Characters;)V"⟩) ∈ lwW := lwW_in 45 (by decide +kernel) rfl
theorem w_46 : (Cond.selects "DoubleTurns$Subgroup" ⟨"DoubleTurns$Subgroup", "take", "(I)V"⟩ ⟨"DoubleTurns$Subgroup", "take", "(I)V"⟩) ∈ lwW := lwW_in 46 (by decide +kernel) rfl
theorem w_47 : (Cond.selects "DoubleTurns$Subgroup" ⟨"DoubleTurns$Subgroup", "searchSecond", "(LDoubleTurns$Group;I)V"⟩ ⟨"DoubleTurns$Subgroup", "searchSecond", "(LDoubleTurns$Group;I)V"⟩) ∈ lwW := lwW_in 47 (by decide +kernel) rfl
theorem w_48 : (Cond.selects "DoubleTurnsModel" ⟨"DoubleTurnsModel", "closes", "(I)Z"⟩ ⟨"DoubleTurnsModel", "closes", "(I)Z"⟩) ∈ lwW := lwW_in 48 (by decide +kernel) rfl
theorem w_49 : (Cond.selects "DoubleTurnsModel" ⟨"DoubleTurnsModel", "root", "(I)I"⟩ ⟨"DoubleTurnsModel", "root", "(I)I"⟩) ∈ lwW := lwW_in 49 (by decide +kernel) rfl
theorem w_50 : (Cond.selects "DoubleTurnsModel" ⟨"DoubleTurnsModel", "multiplies", "([II[III)Z"⟩ ⟨"DoubleTurnsModel", "multiplies", "([II[III)Z"⟩) ∈ lwW := lwW_in 50 (by decide +kernel) rfl
theorem w_51 : (Cond.selects "DoubleTurnsModel" ⟨"DoubleTurnsModel", "stops", "(IIII)Z"⟩ ⟨"DoubleTurnsModel", "stops", "(IIII)Z"⟩) ∈ lwW := lwW_in 51 (by decide +kernel) rfl
theorem w_52 : (Cond.selects "DoubleTurnsModel" ⟨"DoubleTurnsModel", "keepsGroup", "()V"⟩ ⟨"DoubleTurnsModel", "keepsGroup", "()V"⟩) ∈ lwW := lwW_in 52 (by decide +kernel) rfl
theorem w_53 : (Cond.selects "DoubleTurnsModel" ⟨"DoubleTurnsModel", "laysPrime", "()V"⟩ ⟨"DoubleTurnsModel", "laysPrime", "()V"⟩) ∈ lwW := lwW_in 53 (by decide +kernel) rfl
theorem w_54 : (Cond.selects "DoubleTurnsModel" ⟨"DoubleTurnsModel", "nothingWhy", "()V"⟩ ⟨"DoubleTurnsModel", "nothingWhy", "()V"⟩) ∈ lwW := lwW_in 54 (by decide +kernel) rfl
theorem w_55 : (Cond.selects "DoubleTurnsModel" ⟨"DoubleTurnsModel", "bad", "(ZII)Z"⟩ ⟨"DoubleTurnsModel", "bad", "(ZII)Z"⟩) ∈ lwW := lwW_in 55 (by decide +kernel) rfl
theorem w_56 : (Cond.selects "DoubleTurnsModel" ⟨"DoubleTurnsModel", "here", "()I"⟩ ⟨"DoubleTurnsModel", "here", "()I"⟩) ∈ lwW := lwW_in 56 (by decide +kernel) rfl
theorem w_57 : (Cond.selects "DoubleTurnsModel" ⟨"DoubleTurnsModel", "byteAt", "(I)I"⟩ ⟨"DoubleTurnsModel", "byteAt", "(I)I"⟩) ∈ lwW := lwW_in 57 (by decide +kernel) rfl
theorem w_58 : (Cond.selects "DoubleTurnsModel" ⟨"DoubleTurnsModel", "takes", "(Ljava/lang/String;)Z"⟩ ⟨"DoubleTurnsModel", "takes", "(Ljava/lang/String;)Z"⟩) ∈ lwW := lwW_in 58 (by decide +kernel) rfl
theorem w_59 : (Cond.selects "DoubleTurnsModel" ⟨"DoubleTurnsModel", "fine", "()Z"⟩ ⟨"DoubleTurnsModel", "fine", "()Z"⟩) ∈ lwW := lwW_in 59 (by decide +kernel) rfl
theorem w_60 : (Cond.selects "DoubleTurnsModel" ⟨"DoubleTurnsModel", "wrong", "(II)V"⟩ ⟨"DoubleTurnsModel", "wrong", "(II)V"⟩) ∈ lwW := lwW_in 60 (by decide +kernel) rfl
theorem w_61 : (Cond.selects "DoubleTurnsModel" ⟨"DoubleTurnsModel", "number", "(Z)I"⟩ ⟨"DoubleTurnsModel", "number", "(Z)I"⟩) ∈ lwW := lwW_in 61 (by decide +kernel) rfl
theorem w_62 : (Cond.selects "DoubleTurnsModel" ⟨"DoubleTurnsModel", "ends", "()V"⟩ ⟨"DoubleTurnsModel", "ends", "()V"⟩) ∈ lwW := lwW_in 62 (by decide +kernel) rfl
theorem w_63 : (Cond.selects "DoubleTurnsModel" ⟨"DoubleTurnsModel", "readsTurn", "()V"⟩ ⟨"DoubleTurnsModel", "readsTurn", "()V"⟩) ∈ lwW := lwW_in 63 (by decide +kernel) rfl
theorem w_64 : (Cond.selects "DoubleTurnsModel" ⟨"DoubleTurnsModel", "isTurn", "(II)Z"⟩ ⟨"DoubleTurnsModel", "isTurn", "(II)Z"⟩) ∈ lwW := lwW_in 64 (by decide +kernel) rfl
theorem w_65 : (Cond.selects "DoubleTurnsModel" ⟨"DoubleTurnsModel", "copies", "(II)V"⟩ ⟨"DoubleTurnsModel", "copies", "(II)V"⟩) ∈ lwW := lwW_in 65 (by decide +kernel) rfl
theorem w_66 : (Cond.selects "DoubleTurnsModel" ⟨"DoubleTurnsModel", "remembers", "()V"⟩ ⟨"DoubleTurnsModel", "remembers", "()V"⟩) ∈ lwW := lwW_in 66 (by decide +kernel) rfl
theorem w_67 : (Cond.selects "DoubleTurnsModel" ⟨"DoubleTurnsModel", "makesAnew", "()V"⟩ ⟨"DoubleTurnsModel", "makesAnew", "()V"⟩) ∈ lwW := lwW_in 67 (by decide +kernel) rfl
theorem w_68 : (Cond.selects "DoubleTurnsModel" ⟨"DoubleTurnsModel", "laysRows", "()V"⟩ ⟨"DoubleTurnsModel", "laysRows", "()V"⟩) ∈ lwW := lwW_in 68 (by decide +kernel) rfl
theorem w_69 : (Cond.selects "DoubleTurnsModel" ⟨"DoubleTurnsModel", "laysCouples", "()V"⟩ ⟨"DoubleTurnsModel", "laysCouples", "()V"⟩) ∈ lwW := lwW_in 69 (by decide +kernel) rfl
theorem w_70 : (Cond.selects "DoubleTurnsModel" ⟨"DoubleTurnsModel", "laysSheet", "(I)V"⟩ ⟨"DoubleTurnsModel", "laysSheet", "(I)V"⟩) ∈ lwW := lwW_in 70 (by decide +kernel) rfl
theorem w_71 : (Cond.selects "DoubleTurnsModel" ⟨"DoubleTurnsModel", "mod", "(J)I"⟩ ⟨"DoubleTurnsModel", "mod", "(J)I"⟩) ∈ lwW := lwW_in 71 (by decide +kernel) rfl
theorem w_72 : (Cond.selects "DoubleTurnsModel" ⟨"DoubleTurnsModel", "freeOf", "()I"⟩ ⟨"DoubleTurnsModel", "freeOf", "()I"⟩) ∈ lwW := lwW_in 72 (by decide +kernel) rfl
theorem w_73 : (Cond.selects "DoubleTurnsModel" ⟨"DoubleTurnsModel", "over", "(II)I"⟩ ⟨"DoubleTurnsModel", "over", "(II)I"⟩) ∈ lwW := lwW_in 73 (by decide +kernel) rfl
theorem w_74 : (Cond.selects "DoubleTurnsModel" ⟨"DoubleTurnsModel", "takesRow", "()V"⟩ ⟨"DoubleTurnsModel", "takesRow", "()V"⟩) ∈ lwW := lwW_in 74 (by decide +kernel) rfl
theorem w_75 : (Cond.selects "DoubleTurnsModel" ⟨"DoubleTurnsModel", "sortsRows", "()V"⟩ ⟨"DoubleTurnsModel", "sortsRows", "()V"⟩) ∈ lwW := lwW_in 75 (by decide +kernel) rfl
theorem w_76 : (Cond.selects "DoubleTurnsModel" ⟨"DoubleTurnsModel", "isAhead", "(II)Z"⟩ ⟨"DoubleTurnsModel", "isAhead", "(II)Z"⟩) ∈ lwW := lwW_in 76 (by decide +kernel) rfl
theorem w_77 : (Cond.selects "DoubleTurnsModel" ⟨"DoubleTurnsModel", "isOneAll", "(I)Z"⟩ ⟨"DoubleTurnsModel", "isOneAll", "(I)Z"⟩) ∈ lwW := lwW_in 77 (by decide +kernel) rfl
theorem w_78 : (Cond.selects "DoubleTurnsModel" ⟨"DoubleTurnsModel", "centre", "()I"⟩ ⟨"DoubleTurnsModel", "centre", "()I"⟩) ∈ lwW := lwW_in 78 (by decide +kernel) rfl
theorem w_79 : (Cond.selects "DoubleTurnsModel" ⟨"DoubleTurnsModel", "kind", "()I"⟩ ⟨"DoubleTurnsModel", "kind", "()I"⟩) ∈ lwW := lwW_in 79 (by decide +kernel) rfl
theorem w_80 : (Cond.selects "DoubleTurnsModel" ⟨"DoubleTurnsModel", "hasOrder", "(I)Z"⟩ ⟨"DoubleTurnsModel", "hasOrder", "(I)Z"⟩) ∈ lwW := lwW_in 80 (by decide +kernel) rfl
theorem w_81 : (Cond.selects "DoubleTurnsModel" ⟨"DoubleTurnsModel", "kindNumber", "()I"⟩ ⟨"DoubleTurnsModel", "kindNumber", "()I"⟩) ∈ lwW := lwW_in 81 (by decide +kernel) rfl
theorem w_82 : (Cond.selects "DoubleTurnsModel" ⟨"DoubleTurnsModel", "turned", "()I"⟩ ⟨"DoubleTurnsModel", "turned", "()I"⟩) ∈ lwW := lwW_in 82 (by decide +kernel) rfl
theorem w_83 : (Cond.selects "DoubleTurnsModel" ⟨"DoubleTurnsModel", "minus", "()I"⟩ ⟨"DoubleTurnsModel", "minus", "()I"⟩) ∈ lwW := lwW_in 83 (by decide +kernel) rfl
theorem w_84 : (Cond.selects "DoubleTurnsModel" ⟨"DoubleTurnsModel", "diagram", "()I"⟩ ⟨"DoubleTurnsModel", "diagram", "()I"⟩) ∈ lwW := lwW_in 84 (by decide +kernel) rfl
theorem w_85 : (Cond.selects "DoubleTurnsModel" ⟨"DoubleTurnsModel", "withWaysOf", "(I)I"⟩ ⟨"DoubleTurnsModel", "withWaysOf", "(I)I"⟩) ∈ lwW := lwW_in 85 (by decide +kernel) rfl
theorem w_86 : (Cond.selects "DoubleTurnsModel" ⟨"DoubleTurnsModel", "waysInAll", "(I)I"⟩ ⟨"DoubleTurnsModel", "waysInAll", "(I)I"⟩) ∈ lwW := lwW_in 86 (by decide +kernel) rfl
theorem w_87 : (Cond.selects "DoubleTurnsModel" ⟨"DoubleTurnsModel", "waysOf", "(II)I"⟩ ⟨"DoubleTurnsModel", "waysOf", "(II)I"⟩) ∈ lwW := lwW_in 87 (by decide +kernel) rfl
theorem w_88 : (Cond.selects "DoubleTurnsModel" ⟨"DoubleTurnsModel", "natural", "(I)I"⟩ ⟨"DoubleTurnsModel", "natural", "(I)I"⟩) ∈ lwW := lwW_in 88 (by decide +kernel) rfl
theorem w_89 : (Cond.selects "DoubleTurnsModel" ⟨"DoubleTurnsModel", "oftenIn", "([II)I"⟩ ⟨"DoubleTurnsModel", "oftenIn", "([II)I"⟩) ∈ lwW := lwW_in 89 (by decide +kernel) rfl
theorem w_90 : (Cond.selects "DoubleTurnsModel" ⟨"DoubleTurnsModel", "isElement", "(I)Z"⟩ ⟨"DoubleTurnsModel", "isElement", "(I)Z"⟩) ∈ lwW := lwW_in 90 (by decide +kernel) rfl
theorem w_91 : (Cond.selects "DoubleTurnsModel" ⟨"DoubleTurnsModel", "isClass", "(I)Z"⟩ ⟨"DoubleTurnsModel", "isClass", "(I)Z"⟩) ∈ lwW := lwW_in 91 (by decide +kernel) rfl
theorem w_92 : (Cond.selects "DoubleTurnsModel" ⟨"DoubleTurnsModel", "isStill", "(I)Z"⟩ ⟨"DoubleTurnsModel", "isStill", "(I)Z"⟩) ∈ lwW := lwW_in 92 (by decide +kernel) rfl
theorem w_93 : (Cond.selects "DoubleTurnsModel" ⟨"DoubleTurnsModel", "areParallel", "(II)Z"⟩ ⟨"DoubleTurnsModel", "areParallel", "(II)Z"⟩) ∈ lwW := lwW_in 93 (by decide +kernel) rfl
theorem w_94 : (Cond.selects "DoubleTurnsModel" ⟨"DoubleTurnsModel", "oftenOf", "(III)I"⟩ ⟨"DoubleTurnsModel", "oftenOf", "(III)I"⟩) ∈ lwW := lwW_in 94 (by decide +kernel) rfl
theorem w_95 : (Cond.selects "DoubleTurnsModel" ⟨"DoubleTurnsModel", "laysPower", "(I)V"⟩ ⟨"DoubleTurnsModel", "laysPower", "(I)V"⟩) ∈ lwW := lwW_in 95 (by decide +kernel) rfl
theorem w_96 : (Cond.selects "DoubleTurnsModel" ⟨"DoubleTurnsModel", "makes", "(II)V"⟩ ⟨"DoubleTurnsModel", "makes", "(II)V"⟩) ∈ lwW := lwW_in 96 (by decide +kernel) rfl
theorem w_97 : (Jvm.Cond.initialized "DoubleTurnsLaw") ∈ lwW := lwW_in 97 (by decide +kernel) rfl
theorem w_98 : (Jvm.Cond.initialized "DoubleTurns") ∈ lwW := lwW_in 98 (by decide +kernel) rfl
theorem w_99 : (Jvm.Cond.initialized "DoubleTurns$Tape") ∈ lwW := lwW_in 99 (by decide +kernel) rfl
theorem w_100 : (Jvm.Cond.initialized "DoubleTurns$Reader") ∈ lwW := lwW_in 100 (by decide +kernel) rfl
theorem w_101 : (Jvm.Cond.initialized "DoubleTurns$Past") ∈ lwW := lwW_in 101 (by decide +kernel) rfl
theorem w_102 : (Jvm.Cond.initialized "DoubleTurns$Group") ∈ lwW := lwW_in 102 (by decide +kernel) rfl
theorem w_103 : (Jvm.Cond.initialized "DoubleTurns$Subgroup") ∈ lwW := lwW_in 103 (by decide +kernel) rfl
theorem w_104 : (Jvm.Cond.initialized "DoubleTurns$Characters") ∈ lwW := lwW_in 104 (by decide +kernel) rfl
theorem w_105 : (Jvm.Cond.initialized "DoubleTurns$Field") ∈ lwW := lwW_in 105 (by decide +kernel) rfl
theorem w_106 : (Jvm.Cond.initialized "DoubleTurns$Splitting") ∈ lwW := lwW_in 106 (by decide +kernel) rfl
theorem w_107 : (Jvm.Cond.initialized "DoubleTurns$Graph") ∈ lwW := lwW_in 107 (by decide +kernel) rfl
theorem w_108 : (Jvm.Cond.initialized "DoubleTurns$Powers") ∈ lwW := lwW_in 108 (by decide +kernel) rfl
theorem w_109 : (Jvm.Cond.initialized "DoubleTurns$Closing") ∈ lwW := lwW_in 109 (by decide +kernel) rfl
theorem w_110 : (Jvm.Cond.initialized "java/lang/System") ∈ lwW := lwW_in 110 (by decide +kernel) rfl
theorem w_111 : (Jvm.Cond.initialized "java/lang/Math") ∈ lwW := lwW_in 111 (by decide +kernel) rfl
theorem w_112 : (Jvm.Cond.initialized "DoubleTurnsModel") ∈ lwW := lwW_in 112 (by decide +kernel) rfl
theorem w_116 : (Jvm.Cond.initialized "java/lang/IllegalArgumentException") ∈ lwW := lwW_in 116 (by decide +kernel) rfl
theorem w_117 : (Jvm.Cond.initialized "java/lang/String") ∈ lwW := lwW_in 117 (by decide +kernel) rfl
theorem w_118 : (Jvm.Cond.initialized "java/lang/StringLatin1") ∈ lwW := lwW_in 118 (by decide +kernel) rfl
theorem w_121 : (Jvm.Cond.initialized "java/lang/IllegalStateException") ∈ lwW := lwW_in 121 (by decide +kernel) rfl
theorem w_122 : (Jvm.Cond.initialized "java/util/NoSuchElementException") ∈ lwW := lwW_in 122 (by decide +kernel) rfl
theorem w_123 : (Jvm.Cond.classLink "DoubleTurnsLaw" (8 : Nat) "DoubleTurns") ∈ lwW := lwW_in 123 (by decide +kernel) rfl
theorem w_124 : (Jvm.Cond.instantiable "DoubleTurns" (17 : Nat)) ∈ lwW := lwW_in 124 (by decide +kernel) rfl
theorem w_125 : (Jvm.Cond.methodLink "DoubleTurnsLaw" (96 : Nat) ({ cls := "DoubleTurns", name := "<init>", desc := "()V" } : Jvm.MethodName)) ∈ lwW := lwW_in 125 (by decide +kernel) rfl
theorem w_126 : (Jvm.Cond.instanceMethod ({ cls := "DoubleTurns", name := "<init>", desc := "()V" } : Jvm.MethodName)) ∈ lwW := lwW_in 126 (by decide +kernel) rfl
theorem w_127 : (Jvm.Cond.code ({ cls := "DoubleTurns", name := "<init>", desc := "()V" } : Jvm.MethodName) prog_1_method_1_code (1 : Nat) (Option.none : Option Jvm.ClassFile.FieldType)) ∈ lwW := lwW_in 127 (by decide +kernel) rfl
theorem w_128 : (Jvm.Cond.methodLink "DoubleTurns" (1 : Nat) ({ cls := "java/lang/Object", name := "<init>", desc := "()V" } : Jvm.MethodName)) ∈ lwW := lwW_in 128 (by decide +kernel) rfl
theorem w_129 : (Jvm.Cond.instanceMethod ({ cls := "java/lang/Object", name := "<init>", desc := "()V" } : Jvm.MethodName)) ∈ lwW := lwW_in 129 (by decide +kernel) rfl
theorem w_130 : (Jvm.Cond.code ({ cls := "java/lang/Object", name := "<init>", desc := "()V" } : Jvm.MethodName) object_method_1_code (1 : Nat) (Option.none : Option Jvm.ClassFile.FieldType)) ∈ lwW := lwW_in 130 (by decide +kernel) rfl
theorem w_131 : (Jvm.Cond.classLink "DoubleTurns" (7 : Nat) "DoubleTurns$Tape") ∈ lwW := lwW_in 131 (by decide +kernel) rfl
theorem w_132 : (Jvm.Cond.instantiable "DoubleTurns$Tape" (2 : Nat)) ∈ lwW := lwW_in 132 (by decide +kernel) rfl
theorem w_134 : (Jvm.Cond.instanceMethod ({ cls := "DoubleTurns$Tape", name := "<init>", desc := "()V" } : Jvm.MethodName)) ∈ lwW := lwW_in 134 (by decide +kernel) rfl
theorem w_135 : (Jvm.Cond.code ({ cls := "DoubleTurns$Tape", name := "<init>", desc := "()V" } : Jvm.MethodName) prog_12_method_1_code (1 : Nat) (Option.none : Option Jvm.ClassFile.FieldType)) ∈ lwW := lwW_in 135 (by decide +kernel) rfl
theorem w_136 : (Jvm.Cond.methodLink "DoubleTurns$Tape" (3 : Nat) ({ cls := "java/lang/Object", name := "<init>", desc := "()V" } : Jvm.MethodName)) ∈ lwW := lwW_in 136 (by decide +kernel) rfl
theorem w_137 : (Jvm.Cond.fieldLink "DoubleTurns$Tape" (9 : Nat) "DoubleTurns$Tape" "bytes" "[B") ∈ lwW := lwW_in 137 (by decide +kernel) rfl
theorem w_138 : (Jvm.Cond.fieldLink "DoubleTurns$Reader" (110 : Nat) "DoubleTurns$Tape" "bytes" "[B") ∈ lwW := lwW_in 138 (by decide +kernel) rfl
theorem w_139 : (Jvm.Cond.fieldLink "DoubleTurns$Tape" (15 : Nat) "DoubleTurns$Tape" "count" "I") ∈ lwW := lwW_in 139 (by decide +kernel) rfl
theorem w_140 : (Jvm.Cond.fieldLink "DoubleTurns" (122 : Nat) "DoubleTurns$Tape" "count" "I") ∈ lwW := lwW_in 140 (by decide +kernel) rfl
theorem w_141 : (Jvm.Cond.fieldLink "DoubleTurns$Reader" (105 : Nat) "DoubleTurns$Tape" "count" "I") ∈ lwW := lwW_in 141 (by decide +kernel) rfl
theorem w_147 : (Jvm.Cond.arrayClass Jvm.ClassFile.FieldType.byte) ∈ lwW := lwW_in 147 (by decide +kernel) rfl
theorem w_148 : (Jvm.Cond.classLink "DoubleTurns" (16 : Nat) "DoubleTurns$Reader") ∈ lwW := lwW_in 148 (by decide +kernel) rfl
theorem w_149 : (Jvm.Cond.instantiable "DoubleTurns$Reader" (6 : Nat)) ∈ lwW := lwW_in 149 (by decide +kernel) rfl
theorem w_150 : (Jvm.Cond.methodLink "DoubleTurns" (18 : Nat) ({ cls := "DoubleTurns$Reader", name := "<init>", desc := "(LDoubleTurns$Tape;)V" } : Jvm.MethodName)) ∈ lwW := lwW_in 150 (by decide +kernel) rfl
theorem w_151 : (Jvm.Cond.instanceMethod ({ cls := "DoubleTurns$Reader", name := "<init>", desc := "(LDoubleTurns$Tape;)V" } : Jvm.MethodName)) ∈ lwW := lwW_in 151 (by decide +kernel) rfl
theorem w_152 : (Jvm.Cond.code ({ cls := "DoubleTurns$Reader", name := "<init>", desc := "(LDoubleTurns$Tape;)V" } : Jvm.MethodName) prog_9_method_1_code (2 : Nat) (Option.none : Option Jvm.ClassFile.FieldType)) ∈ lwW := lwW_in 152 (by decide +kernel) rfl
theorem w_153 : (Jvm.Cond.methodLink "DoubleTurns$Reader" (3 : Nat) ({ cls := "java/lang/Object", name := "<init>", desc := "()V" } : Jvm.MethodName)) ∈ lwW := lwW_in 153 (by decide +kernel) rfl
theorem w_154 : (Jvm.Cond.fieldLink "DoubleTurns$Reader" (15 : Nat) "DoubleTurns$Reader" "tape" "LDoubleTurns$Tape;") ∈ lwW := lwW_in 154 (by decide +kernel) rfl
theorem w_155 : (Jvm.Cond.fieldLink "DoubleTurns$Reader" (9 : Nat) "DoubleTurns$Reader" "turn" "[I") ∈ lwW := lwW_in 155 (by decide +kernel) rfl
theorem w_156 : (Jvm.Cond.fieldLink "DoubleTurns$Reader" (19 : Nat) "DoubleTurns$Reader" "length" "I") ∈ lwW := lwW_in 156 (by decide +kernel) rfl
theorem w_157 : (Jvm.Cond.fieldLink "DoubleTurns$Reader" (23 : Nat) "DoubleTurns$Reader" "place" "I") ∈ lwW := lwW_in 157 (by decide +kernel) rfl
theorem w_158 : (Jvm.Cond.fieldLink "DoubleTurns$Reader" (26 : Nat) "DoubleTurns$Reader" "fault" "I") ∈ lwW := lwW_in 158 (by decide +kernel) rfl
theorem w_159 : (Jvm.Cond.fieldLink "DoubleTurns" (140 : Nat) "DoubleTurns$Reader" "fault" "I") ∈ lwW := lwW_in 159 (by decide +kernel) rfl
theorem w_160 : (Jvm.Cond.fieldLink "DoubleTurns$Reader" (29 : Nat) "DoubleTurns$Reader" "faultPlace" "I") ∈ lwW := lwW_in 160 (by decide +kernel) rfl
theorem w_161 : (Jvm.Cond.fieldLink "DoubleTurns" (139 : Nat) "DoubleTurns$Reader" "faultPlace" "I") ∈ lwW := lwW_in 161 (by decide +kernel) rfl
theorem w_175 : (Jvm.Cond.arrayClass Jvm.ClassFile.FieldType.int) ∈ lwW := lwW_in 175 (by decide +kernel) rfl
theorem w_176 : (Jvm.Cond.classLink "DoubleTurns" (25 : Nat) "DoubleTurns$Past") ∈ lwW := lwW_in 176 (by decide +kernel) rfl
theorem w_177 : (Jvm.Cond.instantiable "DoubleTurns$Past" (3 : Nat)) ∈ lwW := lwW_in 177 (by decide +kernel) rfl
theorem w_179 : (Jvm.Cond.instanceMethod ({ cls := "DoubleTurns$Past", name := "<init>", desc := "()V" } : Jvm.MethodName)) ∈ lwW := lwW_in 179 (by decide +kernel) rfl
theorem w_180 : (Jvm.Cond.code ({ cls := "DoubleTurns$Past", name := "<init>", desc := "()V" } : Jvm.MethodName) prog_7_method_1_code (1 : Nat) (Option.none : Option Jvm.ClassFile.FieldType)) ∈ lwW := lwW_in 180 (by decide +kernel) rfl
theorem w_181 : (Jvm.Cond.methodLink "DoubleTurns$Past" (3 : Nat) ({ cls := "java/lang/Object", name := "<init>", desc := "()V" } : Jvm.MethodName)) ∈ lwW := lwW_in 181 (by decide +kernel) rfl
theorem w_182 : (Jvm.Cond.fieldLink "DoubleTurns$Past" (11 : Nat) "DoubleTurns$Past" "toldNumbers" "[I") ∈ lwW := lwW_in 182 (by decide +kernel) rfl
theorem w_183 : (Jvm.Cond.fieldLink "DoubleTurns$Past" (15 : Nat) "DoubleTurns$Past" "toldCounts" "[I") ∈ lwW := lwW_in 183 (by decide +kernel) rfl
theorem w_184 : (Jvm.Cond.fieldLink "DoubleTurns$Past" (18 : Nat) "DoubleTurns$Past" "count" "I") ∈ lwW := lwW_in 184 (by decide +kernel) rfl
theorem w_185 : (Jvm.Cond.fieldLink "DoubleTurns" (200 : Nat) "DoubleTurns$Past" "count" "I") ∈ lwW := lwW_in 185 (by decide +kernel) rfl
theorem w_193 : (Jvm.Cond.classLink "DoubleTurns" (32 : Nat) "DoubleTurns$Group") ∈ lwW := lwW_in 193 (by decide +kernel) rfl
theorem w_194 : (Jvm.Cond.instantiable "DoubleTurns$Group" (12 : Nat)) ∈ lwW := lwW_in 194 (by decide +kernel) rfl
theorem w_196 : (Jvm.Cond.instanceMethod ({ cls := "DoubleTurns$Group", name := "<init>", desc := "()V" } : Jvm.MethodName)) ∈ lwW := lwW_in 196 (by decide +kernel) rfl
theorem w_197 : (Jvm.Cond.code ({ cls := "DoubleTurns$Group", name := "<init>", desc := "()V" } : Jvm.MethodName) prog_6_method_1_code (1 : Nat) (Option.none : Option Jvm.ClassFile.FieldType)) ∈ lwW := lwW_in 197 (by decide +kernel) rfl
theorem w_198 : (Jvm.Cond.methodLink "DoubleTurns$Group" (3 : Nat) ({ cls := "java/lang/Object", name := "<init>", desc := "()V" } : Jvm.MethodName)) ∈ lwW := lwW_in 198 (by decide +kernel) rfl
theorem w_199 : (Jvm.Cond.fieldLink "DoubleTurns$Group" (9 : Nat) "DoubleTurns$Group" "products" "[I") ∈ lwW := lwW_in 199 (by decide +kernel) rfl
theorem w_200 : (Jvm.Cond.fieldLink "DoubleTurns$Group" (15 : Nat) "DoubleTurns$Group" "inverses" "[I") ∈ lwW := lwW_in 200 (by decide +kernel) rfl
theorem w_201 : (Jvm.Cond.fieldLink "DoubleTurns$Splitting" (64 : Nat) "DoubleTurns$Group" "inverses" "[I") ∈ lwW := lwW_in 201 (by decide +kernel) rfl
theorem w_202 : (Jvm.Cond.fieldLink "DoubleTurns" (247 : Nat) "DoubleTurns$Group" "inverses" "[I") ∈ lwW := lwW_in 202 (by decide +kernel) rfl
theorem w_203 : (Jvm.Cond.fieldLink "DoubleTurns$Group" (18 : Nat) "DoubleTurns$Group" "orders" "[I") ∈ lwW := lwW_in 203 (by decide +kernel) rfl
theorem w_204 : (Jvm.Cond.fieldLink "DoubleTurns" (240 : Nat) "DoubleTurns$Group" "orders" "[I") ∈ lwW := lwW_in 204 (by decide +kernel) rfl
theorem w_205 : (Jvm.Cond.fieldLink "DoubleTurns$Group" (21 : Nat) "DoubleTurns$Group" "classOf" "[I") ∈ lwW := lwW_in 205 (by decide +kernel) rfl
theorem w_206 : (Jvm.Cond.fieldLink "DoubleTurns$Splitting" (77 : Nat) "DoubleTurns$Group" "classOf" "[I") ∈ lwW := lwW_in 206 (by decide +kernel) rfl
theorem w_207 : (Jvm.Cond.fieldLink "DoubleTurns" (250 : Nat) "DoubleTurns$Group" "classOf" "[I") ∈ lwW := lwW_in 207 (by decide +kernel) rfl
theorem w_208 : (Jvm.Cond.fieldLink "DoubleTurns$Group" (24 : Nat) "DoubleTurns$Group" "leasts" "[I") ∈ lwW := lwW_in 208 (by decide +kernel) rfl
theorem w_209 : (Jvm.Cond.fieldLink "DoubleTurns$Characters" (77 : Nat) "DoubleTurns$Group" "leasts" "[I") ∈ lwW := lwW_in 209 (by decide +kernel) rfl
theorem w_210 : (Jvm.Cond.fieldLink "DoubleTurns$Splitting" (71 : Nat) "DoubleTurns$Group" "leasts" "[I") ∈ lwW := lwW_in 210 (by decide +kernel) rfl
theorem w_211 : (Jvm.Cond.fieldLink "DoubleTurns$Powers" (41 : Nat) "DoubleTurns$Group" "leasts" "[I") ∈ lwW := lwW_in 211 (by decide +kernel) rfl
theorem w_212 : (Jvm.Cond.fieldLink "DoubleTurns" (269 : Nat) "DoubleTurns$Group" "leasts" "[I") ∈ lwW := lwW_in 212 (by decide +kernel) rfl
theorem w_213 : (Jvm.Cond.fieldLink "DoubleTurns$Group" (27 : Nat) "DoubleTurns$Group" "sizes" "[I") ∈ lwW := lwW_in 213 (by decide +kernel) rfl
theorem w_214 : (Jvm.Cond.fieldLink "DoubleTurns$Characters" (94 : Nat) "DoubleTurns$Group" "sizes" "[I") ∈ lwW := lwW_in 214 (by decide +kernel) rfl
theorem w_215 : (Jvm.Cond.fieldLink "DoubleTurns$Powers" (52 : Nat) "DoubleTurns$Group" "sizes" "[I") ∈ lwW := lwW_in 215 (by decide +kernel) rfl
theorem w_216 : (Jvm.Cond.fieldLink "DoubleTurns" (272 : Nat) "DoubleTurns$Group" "sizes" "[I") ∈ lwW := lwW_in 216 (by decide +kernel) rfl
theorem w_217 : (Jvm.Cond.fieldLink "DoubleTurns$Characters" (39 : Nat) "DoubleTurns$Group" "count" "I") ∈ lwW := lwW_in 217 (by decide +kernel) rfl
theorem w_218 : (Jvm.Cond.fieldLink "DoubleTurns$Group" (42 : Nat) "DoubleTurns$Group" "count" "I") ∈ lwW := lwW_in 218 (by decide +kernel) rfl
theorem w_219 : (Jvm.Cond.fieldLink "DoubleTurns$Splitting" (63 : Nat) "DoubleTurns$Group" "count" "I") ∈ lwW := lwW_in 219 (by decide +kernel) rfl
theorem w_220 : (Jvm.Cond.fieldLink "DoubleTurns$Subgroup" (38 : Nat) "DoubleTurns$Group" "count" "I") ∈ lwW := lwW_in 220 (by decide +kernel) rfl
theorem w_221 : (Jvm.Cond.fieldLink "DoubleTurns$Powers" (62 : Nat) "DoubleTurns$Group" "count" "I") ∈ lwW := lwW_in 221 (by decide +kernel) rfl
theorem w_222 : (Jvm.Cond.fieldLink "DoubleTurns" (207 : Nat) "DoubleTurns$Group" "count" "I") ∈ lwW := lwW_in 222 (by decide +kernel) rfl
theorem w_223 : (Jvm.Cond.fieldLink "DoubleTurns$Splitting" (48 : Nat) "DoubleTurns$Group" "classes" "I") ∈ lwW := lwW_in 223 (by decide +kernel) rfl
theorem w_224 : (Jvm.Cond.fieldLink "DoubleTurns$Characters" (57 : Nat) "DoubleTurns$Group" "classes" "I") ∈ lwW := lwW_in 224 (by decide +kernel) rfl
theorem w_225 : (Jvm.Cond.fieldLink "DoubleTurns$Powers" (36 : Nat) "DoubleTurns$Group" "classes" "I") ∈ lwW := lwW_in 225 (by decide +kernel) rfl
theorem w_226 : (Jvm.Cond.fieldLink "DoubleTurns$Group" (88 : Nat) "DoubleTurns$Group" "classes" "I") ∈ lwW := lwW_in 226 (by decide +kernel) rfl
theorem w_227 : (Jvm.Cond.fieldLink "DoubleTurns" (208 : Nat) "DoubleTurns$Group" "classes" "I") ∈ lwW := lwW_in 227 (by decide +kernel) rfl
theorem w_228 : (Jvm.Cond.fieldLink "DoubleTurns$Group" (91 : Nat) "DoubleTurns$Group" "central" "I") ∈ lwW := lwW_in 228 (by decide +kernel) rfl
theorem w_229 : (Jvm.Cond.fieldLink "DoubleTurns" (211 : Nat) "DoubleTurns$Group" "central" "I") ∈ lwW := lwW_in 229 (by decide +kernel) rfl
theorem w_230 : (Jvm.Cond.fieldLink "DoubleTurns$Characters" (45 : Nat) "DoubleTurns$Group" "exponent" "I") ∈ lwW := lwW_in 230 (by decide +kernel) rfl
theorem w_231 : (Jvm.Cond.fieldLink "DoubleTurns$Group" (76 : Nat) "DoubleTurns$Group" "exponent" "I") ∈ lwW := lwW_in 231 (by decide +kernel) rfl
theorem w_232 : (Jvm.Cond.fieldLink "DoubleTurns" (214 : Nat) "DoubleTurns$Group" "exponent" "I") ∈ lwW := lwW_in 232 (by decide +kernel) rfl
theorem w_233 : (Jvm.Cond.fieldLink "DoubleTurns$Group" (79 : Nat) "DoubleTurns$Group" "longest" "I") ∈ lwW := lwW_in 233 (by decide +kernel) rfl
theorem w_234 : (Jvm.Cond.fieldLink "DoubleTurns$Group" (57 : Nat) "DoubleTurns$Group" "minus" "I") ∈ lwW := lwW_in 234 (by decide +kernel) rfl
theorem w_235 : (Jvm.Cond.fieldLink "DoubleTurns" (227 : Nat) "DoubleTurns$Group" "minus" "I") ∈ lwW := lwW_in 235 (by decide +kernel) rfl
theorem w_261 : (Jvm.Cond.classLink "DoubleTurns" (39 : Nat) "DoubleTurns$Subgroup") ∈ lwW := lwW_in 261 (by decide +kernel) rfl
theorem w_262 : (Jvm.Cond.instantiable "DoubleTurns$Subgroup" (5 : Nat)) ∈ lwW := lwW_in 262 (by decide +kernel) rfl
theorem w_264 : (Jvm.Cond.instanceMethod ({ cls := "DoubleTurns$Subgroup", name := "<init>", desc := "()V" } : Jvm.MethodName)) ∈ lwW := lwW_in 264 (by decide +kernel) rfl
theorem w_265 : (Jvm.Cond.code ({ cls := "DoubleTurns$Subgroup", name := "<init>", desc := "()V" } : Jvm.MethodName) prog_11_method_1_code (1 : Nat) (Option.none : Option Jvm.ClassFile.FieldType)) ∈ lwW := lwW_in 265 (by decide +kernel) rfl
theorem w_266 : (Jvm.Cond.methodLink "DoubleTurns$Subgroup" (3 : Nat) ({ cls := "java/lang/Object", name := "<init>", desc := "()V" } : Jvm.MethodName)) ∈ lwW := lwW_in 266 (by decide +kernel) rfl
theorem w_267 : (Jvm.Cond.fieldLink "DoubleTurns$Subgroup" (9 : Nat) "DoubleTurns$Subgroup" "places" "[I") ∈ lwW := lwW_in 267 (by decide +kernel) rfl
theorem w_268 : (Jvm.Cond.fieldLink "DoubleTurns$Subgroup" (15 : Nat) "DoubleTurns$Subgroup" "members" "[I") ∈ lwW := lwW_in 268 (by decide +kernel) rfl
theorem w_269 : (Jvm.Cond.fieldLink "DoubleTurns$Subgroup" (25 : Nat) "DoubleTurns$Subgroup" "count" "I") ∈ lwW := lwW_in 269 (by decide +kernel) rfl
theorem w_270 : (Jvm.Cond.fieldLink "DoubleTurns" (328 : Nat) "DoubleTurns$Subgroup" "count" "I") ∈ lwW := lwW_in 270 (by decide +kernel) rfl
theorem w_271 : (Jvm.Cond.fieldLink "DoubleTurns$Subgroup" (18 : Nat) "DoubleTurns$Subgroup" "firstMaker" "I") ∈ lwW := lwW_in 271 (by decide +kernel) rfl
theorem w_272 : (Jvm.Cond.fieldLink "DoubleTurns" (354 : Nat) "DoubleTurns$Subgroup" "firstMaker" "I") ∈ lwW := lwW_in 272 (by decide +kernel) rfl
theorem w_273 : (Jvm.Cond.fieldLink "DoubleTurns$Subgroup" (22 : Nat) "DoubleTurns$Subgroup" "secondMaker" "I") ∈ lwW := lwW_in 273 (by decide +kernel) rfl
theorem w_274 : (Jvm.Cond.fieldLink "DoubleTurns" (357 : Nat) "DoubleTurns$Subgroup" "secondMaker" "I") ∈ lwW := lwW_in 274 (by decide +kernel) rfl
theorem w_286 : (Jvm.Cond.classLink "DoubleTurns" (46 : Nat) "DoubleTurns$Characters") ∈ lwW := lwW_in 286 (by decide +kernel) rfl
theorem w_287 : (Jvm.Cond.instantiable "DoubleTurns$Characters" (10 : Nat)) ∈ lwW := lwW_in 287 (by decide +kernel) rfl
theorem w_289 : (Jvm.Cond.instanceMethod ({ cls := "DoubleTurns$Characters", name := "<init>", desc := "()V" } : Jvm.MethodName)) ∈ lwW := lwW_in 289 (by decide +kernel) rfl
theorem w_290 : (Jvm.Cond.code ({ cls := "DoubleTurns$Characters", name := "<init>", desc := "()V" } : Jvm.MethodName) prog_2_method_1_code (1 : Nat) (Option.none : Option Jvm.ClassFile.FieldType)) ∈ lwW := lwW_in 290 (by decide +kernel) rfl
theorem w_291 : (Jvm.Cond.methodLink "DoubleTurns$Characters" (3 : Nat) ({ cls := "java/lang/Object", name := "<init>", desc := "()V" } : Jvm.MethodName)) ∈ lwW := lwW_in 291 (by decide +kernel) rfl
theorem w_292 : (Jvm.Cond.classLink "DoubleTurns$Characters" (9 : Nat) "DoubleTurns$Field") ∈ lwW := lwW_in 292 (by decide +kernel) rfl
theorem w_293 : (Jvm.Cond.instantiable "DoubleTurns$Field" (2 : Nat)) ∈ lwW := lwW_in 293 (by decide +kernel) rfl
theorem w_295 : (Jvm.Cond.instanceMethod ({ cls := "DoubleTurns$Field", name := "<init>", desc := "()V" } : Jvm.MethodName)) ∈ lwW := lwW_in 295 (by decide +kernel) rfl
theorem w_296 : (Jvm.Cond.code ({ cls := "DoubleTurns$Field", name := "<init>", desc := "()V" } : Jvm.MethodName) prog_4_method_1_code (1 : Nat) (Option.none : Option Jvm.ClassFile.FieldType)) ∈ lwW := lwW_in 296 (by decide +kernel) rfl
theorem w_297 : (Jvm.Cond.methodLink "DoubleTurns$Field" (3 : Nat) ({ cls := "java/lang/Object", name := "<init>", desc := "()V" } : Jvm.MethodName)) ∈ lwW := lwW_in 297 (by decide +kernel) rfl
theorem w_298 : (Jvm.Cond.fieldLink "DoubleTurns$Field" (9 : Nat) "DoubleTurns$Field" "prime" "I") ∈ lwW := lwW_in 298 (by decide +kernel) rfl
theorem w_299 : (Jvm.Cond.fieldLink "DoubleTurns$Splitting" (100 : Nat) "DoubleTurns$Field" "prime" "I") ∈ lwW := lwW_in 299 (by decide +kernel) rfl
theorem w_300 : (Jvm.Cond.fieldLink "DoubleTurns" (230 : Nat) "DoubleTurns$Field" "prime" "I") ∈ lwW := lwW_in 300 (by decide +kernel) rfl
theorem w_301 : (Jvm.Cond.fieldLink "DoubleTurns$Field" (15 : Nat) "DoubleTurns$Field" "root" "I") ∈ lwW := lwW_in 301 (by decide +kernel) rfl
theorem w_302 : (Jvm.Cond.fieldLink "DoubleTurns$Characters" (87 : Nat) "DoubleTurns$Field" "root" "I") ∈ lwW := lwW_in 302 (by decide +kernel) rfl
theorem w_303 : (Jvm.Cond.fieldLink "DoubleTurns" (235 : Nat) "DoubleTurns$Field" "root" "I") ∈ lwW := lwW_in 303 (by decide +kernel) rfl
theorem w_309 : (Jvm.Cond.classLink "DoubleTurns$Characters" (18 : Nat) "[[I") ∈ lwW := lwW_in 309 (by decide +kernel) rfl
theorem w_311 : (Jvm.Cond.fieldLink "DoubleTurns$Characters" (12 : Nat) "DoubleTurns$Characters" "field" "LDoubleTurns$Field;") ∈ lwW := lwW_in 311 (by decide +kernel) rfl
theorem w_312 : (Jvm.Cond.fieldLink "DoubleTurns" (55 : Nat) "DoubleTurns$Characters" "field" "LDoubleTurns$Field;") ∈ lwW := lwW_in 312 (by decide +kernel) rfl
theorem w_313 : (Jvm.Cond.fieldLink "DoubleTurns$Powers" (63 : Nat) "DoubleTurns$Characters" "field" "LDoubleTurns$Field;") ∈ lwW := lwW_in 313 (by decide +kernel) rfl
theorem w_314 : (Jvm.Cond.fieldLink "DoubleTurns$Characters" (20 : Nat) "DoubleTurns$Characters" "values" "[[I") ∈ lwW := lwW_in 314 (by decide +kernel) rfl
theorem w_315 : (Jvm.Cond.fieldLink "DoubleTurns$Graph" (30 : Nat) "DoubleTurns$Characters" "values" "[[I") ∈ lwW := lwW_in 315 (by decide +kernel) rfl
theorem w_316 : (Jvm.Cond.fieldLink "DoubleTurns" (292 : Nat) "DoubleTurns$Characters" "values" "[[I") ∈ lwW := lwW_in 316 (by decide +kernel) rfl
theorem w_317 : (Jvm.Cond.fieldLink "DoubleTurns$Characters" (23 : Nat) "DoubleTurns$Characters" "degrees" "[I") ∈ lwW := lwW_in 317 (by decide +kernel) rfl
theorem w_318 : (Jvm.Cond.fieldLink "DoubleTurns" (289 : Nat) "DoubleTurns$Characters" "degrees" "[I") ∈ lwW := lwW_in 318 (by decide +kernel) rfl
theorem w_319 : (Jvm.Cond.fieldLink "DoubleTurns$Characters" (27 : Nat) "DoubleTurns$Characters" "natural" "[I") ∈ lwW := lwW_in 319 (by decide +kernel) rfl
theorem w_320 : (Jvm.Cond.fieldLink "DoubleTurns$Graph" (26 : Nat) "DoubleTurns$Characters" "natural" "[I") ∈ lwW := lwW_in 320 (by decide +kernel) rfl
theorem w_321 : (Jvm.Cond.fieldLink "DoubleTurns$Powers" (67 : Nat) "DoubleTurns$Characters" "natural" "[I") ∈ lwW := lwW_in 321 (by decide +kernel) rfl
theorem w_322 : (Jvm.Cond.fieldLink "DoubleTurns" (279 : Nat) "DoubleTurns$Characters" "natural" "[I") ∈ lwW := lwW_in 322 (by decide +kernel) rfl
theorem w_323 : (Jvm.Cond.fieldLink "DoubleTurns$Characters" (30 : Nat) "DoubleTurns$Characters" "sizes" "[I") ∈ lwW := lwW_in 323 (by decide +kernel) rfl
theorem w_324 : (Jvm.Cond.fieldLink "DoubleTurns$Characters" (33 : Nat) "DoubleTurns$Characters" "inverses" "[I") ∈ lwW := lwW_in 324 (by decide +kernel) rfl
theorem w_325 : (Jvm.Cond.fieldLink "DoubleTurns$Characters" (36 : Nat) "DoubleTurns$Characters" "mixed" "[I") ∈ lwW := lwW_in 325 (by decide +kernel) rfl
theorem w_326 : (Jvm.Cond.fieldLink "DoubleTurns$Graph" (19 : Nat) "DoubleTurns$Characters" "count" "I") ∈ lwW := lwW_in 326 (by decide +kernel) rfl
theorem w_327 : (Jvm.Cond.fieldLink "DoubleTurns$Powers" (18 : Nat) "DoubleTurns$Characters" "count" "I") ∈ lwW := lwW_in 327 (by decide +kernel) rfl
theorem w_328 : (Jvm.Cond.fieldLink "DoubleTurns$Characters" (66 : Nat) "DoubleTurns$Characters" "count" "I") ∈ lwW := lwW_in 328 (by decide +kernel) rfl
theorem w_329 : (Jvm.Cond.fieldLink "DoubleTurns" (239 : Nat) "DoubleTurns$Characters" "count" "I") ∈ lwW := lwW_in 329 (by decide +kernel) rfl
theorem w_330 : (Jvm.Cond.fieldLink "DoubleTurns$Characters" (67 : Nat) "DoubleTurns$Characters" "elements" "I") ∈ lwW := lwW_in 330 (by decide +kernel) rfl
theorem w_331 : (Jvm.Cond.fieldLink "DoubleTurns$Characters" (74 : Nat) "DoubleTurns$Characters" "oneOfAll" "I") ∈ lwW := lwW_in 331 (by decide +kernel) rfl
theorem w_353 : (Jvm.Cond.classLink "DoubleTurns" (53 : Nat) "DoubleTurns$Splitting") ∈ lwW := lwW_in 353 (by decide +kernel) rfl
theorem w_354 : (Jvm.Cond.instantiable "DoubleTurns$Splitting" (15 : Nat)) ∈ lwW := lwW_in 354 (by decide +kernel) rfl
theorem w_355 : (Jvm.Cond.methodLink "DoubleTurns" (59 : Nat) ({ cls := "DoubleTurns$Splitting", name := "<init>", desc := "(LDoubleTurns$Field;)V" } : Jvm.MethodName)) ∈ lwW := lwW_in 355 (by decide +kernel) rfl
theorem w_356 : (Jvm.Cond.instanceMethod ({ cls := "DoubleTurns$Splitting", name := "<init>", desc := "(LDoubleTurns$Field;)V" } : Jvm.MethodName)) ∈ lwW := lwW_in 356 (by decide +kernel) rfl
theorem w_357 : (Jvm.Cond.code ({ cls := "DoubleTurns$Splitting", name := "<init>", desc := "(LDoubleTurns$Field;)V" } : Jvm.MethodName) prog_10_method_1_code (2 : Nat) (Option.none : Option Jvm.ClassFile.FieldType)) ∈ lwW := lwW_in 357 (by decide +kernel) rfl
theorem w_358 : (Jvm.Cond.methodLink "DoubleTurns$Splitting" (3 : Nat) ({ cls := "java/lang/Object", name := "<init>", desc := "()V" } : Jvm.MethodName)) ∈ lwW := lwW_in 358 (by decide +kernel) rfl
theorem w_359 : (Jvm.Cond.classLink "DoubleTurns$Splitting" (15 : Nat) "[[I") ∈ lwW := lwW_in 359 (by decide +kernel) rfl
theorem w_360 : (Jvm.Cond.fieldLink "DoubleTurns$Splitting" (9 : Nat) "DoubleTurns$Splitting" "couples" "[I") ∈ lwW := lwW_in 360 (by decide +kernel) rfl
theorem w_361 : (Jvm.Cond.fieldLink "DoubleTurns$Splitting" (17 : Nat) "DoubleTurns$Splitting" "rows" "[[I") ∈ lwW := lwW_in 361 (by decide +kernel) rfl
theorem w_362 : (Jvm.Cond.fieldLink "DoubleTurns" (390 : Nat) "DoubleTurns$Splitting" "rows" "[[I") ∈ lwW := lwW_in 362 (by decide +kernel) rfl
theorem w_363 : (Jvm.Cond.fieldLink "DoubleTurns$Splitting" (20 : Nat) "DoubleTurns$Splitting" "parts" "[[I") ∈ lwW := lwW_in 363 (by decide +kernel) rfl
theorem w_364 : (Jvm.Cond.fieldLink "DoubleTurns$Splitting" (23 : Nat) "DoubleTurns$Splitting" "table" "[[I") ∈ lwW := lwW_in 364 (by decide +kernel) rfl
theorem w_365 : (Jvm.Cond.fieldLink "DoubleTurns$Splitting" (26 : Nat) "DoubleTurns$Splitting" "sums" "[[I") ∈ lwW := lwW_in 365 (by decide +kernel) rfl
theorem w_366 : (Jvm.Cond.fieldLink "DoubleTurns$Splitting" (29 : Nat) "DoubleTurns$Splitting" "lines" "[[I") ∈ lwW := lwW_in 366 (by decide +kernel) rfl
theorem w_367 : (Jvm.Cond.fieldLink "DoubleTurns$Splitting" (32 : Nat) "DoubleTurns$Splitting" "column" "[I") ∈ lwW := lwW_in 367 (by decide +kernel) rfl
theorem w_368 : (Jvm.Cond.fieldLink "DoubleTurns$Splitting" (35 : Nat) "DoubleTurns$Splitting" "pivots" "[I") ∈ lwW := lwW_in 368 (by decide +kernel) rfl
theorem w_369 : (Jvm.Cond.fieldLink "DoubleTurns$Splitting" (38 : Nat) "DoubleTurns$Splitting" "equation" "[I") ∈ lwW := lwW_in 369 (by decide +kernel) rfl
theorem w_370 : (Jvm.Cond.fieldLink "DoubleTurns$Splitting" (41 : Nat) "DoubleTurns$Splitting" "spaces" "[I") ∈ lwW := lwW_in 370 (by decide +kernel) rfl
theorem w_371 : (Jvm.Cond.fieldLink "DoubleTurns$Splitting" (44 : Nat) "DoubleTurns$Splitting" "field" "LDoubleTurns$Field;") ∈ lwW := lwW_in 371 (by decide +kernel) rfl
theorem w_372 : (Jvm.Cond.fieldLink "DoubleTurns$Splitting" (60 : Nat) "DoubleTurns$Splitting" "count" "I") ∈ lwW := lwW_in 372 (by decide +kernel) rfl
theorem w_373 : (Jvm.Cond.fieldLink "DoubleTurns" (386 : Nat) "DoubleTurns$Splitting" "count" "I") ∈ lwW := lwW_in 373 (by decide +kernel) rfl
theorem w_374 : (Jvm.Cond.fieldLink "DoubleTurns$Splitting" (84 : Nat) "DoubleTurns$Splitting" "from" "I") ∈ lwW := lwW_in 374 (by decide +kernel) rfl
theorem w_375 : (Jvm.Cond.fieldLink "DoubleTurns$Splitting" (87 : Nat) "DoubleTurns$Splitting" "size" "I") ∈ lwW := lwW_in 375 (by decide +kernel) rfl
theorem w_376 : (Jvm.Cond.fieldLink "DoubleTurns$Splitting" (90 : Nat) "DoubleTurns$Splitting" "placed" "I") ∈ lwW := lwW_in 376 (by decide +kernel) rfl
theorem w_408 : (Jvm.Cond.classLink "DoubleTurns" (66 : Nat) "DoubleTurns$Graph") ∈ lwW := lwW_in 408 (by decide +kernel) rfl
theorem w_409 : (Jvm.Cond.instantiable "DoubleTurns$Graph" (3 : Nat)) ∈ lwW := lwW_in 409 (by decide +kernel) rfl
theorem w_411 : (Jvm.Cond.instanceMethod ({ cls := "DoubleTurns$Graph", name := "<init>", desc := "()V" } : Jvm.MethodName)) ∈ lwW := lwW_in 411 (by decide +kernel) rfl
theorem w_412 : (Jvm.Cond.code ({ cls := "DoubleTurns$Graph", name := "<init>", desc := "()V" } : Jvm.MethodName) prog_5_method_1_code (1 : Nat) (Option.none : Option Jvm.ClassFile.FieldType)) ∈ lwW := lwW_in 412 (by decide +kernel) rfl
theorem w_413 : (Jvm.Cond.methodLink "DoubleTurns$Graph" (3 : Nat) ({ cls := "java/lang/Object", name := "<init>", desc := "()V" } : Jvm.MethodName)) ∈ lwW := lwW_in 413 (by decide +kernel) rfl
theorem w_414 : (Jvm.Cond.classLink "DoubleTurns$Graph" (9 : Nat) "[[I") ∈ lwW := lwW_in 414 (by decide +kernel) rfl
theorem w_415 : (Jvm.Cond.fieldLink "DoubleTurns$Graph" (11 : Nat) "DoubleTurns$Graph" "lines" "[[I") ∈ lwW := lwW_in 415 (by decide +kernel) rfl
theorem w_416 : (Jvm.Cond.fieldLink "DoubleTurns" (304 : Nat) "DoubleTurns$Graph" "lines" "[[I") ∈ lwW := lwW_in 416 (by decide +kernel) rfl
theorem w_417 : (Jvm.Cond.fieldLink "DoubleTurns$Graph" (16 : Nat) "DoubleTurns$Graph" "distances" "[[I") ∈ lwW := lwW_in 417 (by decide +kernel) rfl
theorem w_418 : (Jvm.Cond.fieldLink "DoubleTurns" (307 : Nat) "DoubleTurns$Graph" "distances" "[[I") ∈ lwW := lwW_in 418 (by decide +kernel) rfl
theorem w_419 : (Jvm.Cond.fieldLink "DoubleTurns$Graph" (25 : Nat) "DoubleTurns$Graph" "count" "I") ∈ lwW := lwW_in 419 (by decide +kernel) rfl
theorem w_420 : (Jvm.Cond.fieldLink "DoubleTurns" (303 : Nat) "DoubleTurns$Graph" "count" "I") ∈ lwW := lwW_in 420 (by decide +kernel) rfl
theorem w_428 : (Jvm.Cond.classLink "DoubleTurns" (73 : Nat) "DoubleTurns$Powers") ∈ lwW := lwW_in 428 (by decide +kernel) rfl
theorem w_429 : (Jvm.Cond.instantiable "DoubleTurns$Powers" (2 : Nat)) ∈ lwW := lwW_in 429 (by decide +kernel) rfl
theorem w_431 : (Jvm.Cond.instanceMethod ({ cls := "DoubleTurns$Powers", name := "<init>", desc := "()V" } : Jvm.MethodName)) ∈ lwW := lwW_in 431 (by decide +kernel) rfl
theorem w_432 : (Jvm.Cond.code ({ cls := "DoubleTurns$Powers", name := "<init>", desc := "()V" } : Jvm.MethodName) prog_8_method_1_code (1 : Nat) (Option.none : Option Jvm.ClassFile.FieldType)) ∈ lwW := lwW_in 432 (by decide +kernel) rfl
theorem w_433 : (Jvm.Cond.methodLink "DoubleTurns$Powers" (3 : Nat) ({ cls := "java/lang/Object", name := "<init>", desc := "()V" } : Jvm.MethodName)) ∈ lwW := lwW_in 433 (by decide +kernel) rfl
theorem w_434 : (Jvm.Cond.fieldLink "DoubleTurns$Powers" (9 : Nat) "DoubleTurns$Powers" "current" "[I") ∈ lwW := lwW_in 434 (by decide +kernel) rfl
theorem w_435 : (Jvm.Cond.fieldLink "DoubleTurns$Powers" (15 : Nat) "DoubleTurns$Powers" "before" "[I") ∈ lwW := lwW_in 435 (by decide +kernel) rfl
theorem w_441 : (Jvm.Cond.classLink "DoubleTurns" (90 : Nat) "DoubleTurns$Closing") ∈ lwW := lwW_in 441 (by decide +kernel) rfl
theorem w_442 : (Jvm.Cond.instantiable "DoubleTurns$Closing" (12 : Nat)) ∈ lwW := lwW_in 442 (by decide +kernel) rfl
theorem w_444 : (Jvm.Cond.instanceMethod ({ cls := "DoubleTurns$Closing", name := "<init>", desc := "()V" } : Jvm.MethodName)) ∈ lwW := lwW_in 444 (by decide +kernel) rfl
theorem w_445 : (Jvm.Cond.code ({ cls := "DoubleTurns$Closing", name := "<init>", desc := "()V" } : Jvm.MethodName) prog_3_method_1_code (1 : Nat) (Option.none : Option Jvm.ClassFile.FieldType)) ∈ lwW := lwW_in 445 (by decide +kernel) rfl
theorem w_446 : (Jvm.Cond.methodLink "DoubleTurns$Closing" (3 : Nat) ({ cls := "java/lang/Object", name := "<init>", desc := "()V" } : Jvm.MethodName)) ∈ lwW := lwW_in 446 (by decide +kernel) rfl
theorem w_447 : (Jvm.Cond.fieldLink "DoubleTurns$Closing" (9 : Nat) "DoubleTurns$Closing" "toldNumbers" "[I") ∈ lwW := lwW_in 447 (by decide +kernel) rfl
theorem w_448 : (Jvm.Cond.fieldLink "DoubleTurns$Past" (25 : Nat) "DoubleTurns$Closing" "toldNumbers" "[I") ∈ lwW := lwW_in 448 (by decide +kernel) rfl
theorem w_449 : (Jvm.Cond.fieldLink "DoubleTurns" (197 : Nat) "DoubleTurns$Closing" "toldNumbers" "[I") ∈ lwW := lwW_in 449 (by decide +kernel) rfl
theorem w_450 : (Jvm.Cond.fieldLink "DoubleTurns$Closing" (15 : Nat) "DoubleTurns$Closing" "numbers" "[I") ∈ lwW := lwW_in 450 (by decide +kernel) rfl
theorem w_451 : (Jvm.Cond.fieldLink "DoubleTurns$Characters" (84 : Nat) "DoubleTurns$Closing" "numbers" "[I") ∈ lwW := lwW_in 451 (by decide +kernel) rfl
theorem w_452 : (Jvm.Cond.fieldLink "DoubleTurns$Powers" (47 : Nat) "DoubleTurns$Closing" "numbers" "[I") ∈ lwW := lwW_in 452 (by decide +kernel) rfl
theorem w_453 : (Jvm.Cond.fieldLink "DoubleTurns" (253 : Nat) "DoubleTurns$Closing" "numbers" "[I") ∈ lwW := lwW_in 453 (by decide +kernel) rfl
theorem w_454 : (Jvm.Cond.fieldLink "DoubleTurns$Closing" (18 : Nat) "DoubleTurns$Closing" "steps" "[I") ∈ lwW := lwW_in 454 (by decide +kernel) rfl
theorem w_455 : (Jvm.Cond.fieldLink "DoubleTurns$Group" (70 : Nat) "DoubleTurns$Closing" "steps" "[I") ∈ lwW := lwW_in 455 (by decide +kernel) rfl
theorem w_456 : (Jvm.Cond.fieldLink "DoubleTurns$Closing" (21 : Nat) "DoubleTurns$Closing" "cameFrom" "[I") ∈ lwW := lwW_in 456 (by decide +kernel) rfl
theorem w_457 : (Jvm.Cond.fieldLink "DoubleTurns$Group" (67 : Nat) "DoubleTurns$Closing" "cameFrom" "[I") ∈ lwW := lwW_in 457 (by decide +kernel) rfl
theorem w_458 : (Jvm.Cond.fieldLink "DoubleTurns$Closing" (24 : Nat) "DoubleTurns$Closing" "cameBy" "[I") ∈ lwW := lwW_in 458 (by decide +kernel) rfl
theorem w_459 : (Jvm.Cond.fieldLink "DoubleTurns$Group" (73 : Nat) "DoubleTurns$Closing" "cameBy" "[I") ∈ lwW := lwW_in 459 (by decide +kernel) rfl
theorem w_460 : (Jvm.Cond.fieldLink "DoubleTurns$Closing" (27 : Nat) "DoubleTurns$Closing" "next" "[I") ∈ lwW := lwW_in 460 (by decide +kernel) rfl
theorem w_461 : (Jvm.Cond.fieldLink "DoubleTurns$Closing" (30 : Nat) "DoubleTurns$Closing" "root" "I") ∈ lwW := lwW_in 461 (by decide +kernel) rfl
theorem w_462 : (Jvm.Cond.fieldLink "DoubleTurns$Characters" (48 : Nat) "DoubleTurns$Closing" "root" "I") ∈ lwW := lwW_in 462 (by decide +kernel) rfl
theorem w_463 : (Jvm.Cond.fieldLink "DoubleTurns$Powers" (55 : Nat) "DoubleTurns$Closing" "root" "I") ∈ lwW := lwW_in 463 (by decide +kernel) rfl
theorem w_464 : (Jvm.Cond.fieldLink "DoubleTurns$Reader" (78 : Nat) "DoubleTurns$Closing" "root" "I") ∈ lwW := lwW_in 464 (by decide +kernel) rfl
theorem w_465 : (Jvm.Cond.fieldLink "DoubleTurns" (159 : Nat) "DoubleTurns$Closing" "root" "I") ∈ lwW := lwW_in 465 (by decide +kernel) rfl
theorem w_466 : (Jvm.Cond.fieldLink "DoubleTurns$Closing" (34 : Nat) "DoubleTurns$Closing" "toldCount" "I") ∈ lwW := lwW_in 466 (by decide +kernel) rfl
theorem w_467 : (Jvm.Cond.fieldLink "DoubleTurns$Past" (34 : Nat) "DoubleTurns$Closing" "toldCount" "I") ∈ lwW := lwW_in 467 (by decide +kernel) rfl
theorem w_468 : (Jvm.Cond.fieldLink "DoubleTurns$Reader" (71 : Nat) "DoubleTurns$Closing" "toldCount" "I") ∈ lwW := lwW_in 468 (by decide +kernel) rfl
theorem w_469 : (Jvm.Cond.fieldLink "DoubleTurns" (173 : Nat) "DoubleTurns$Closing" "toldCount" "I") ∈ lwW := lwW_in 469 (by decide +kernel) rfl
theorem w_470 : (Jvm.Cond.fieldLink "DoubleTurns$Group" (30 : Nat) "DoubleTurns$Closing" "count" "I") ∈ lwW := lwW_in 470 (by decide +kernel) rfl
theorem w_471 : (Jvm.Cond.fieldLink "DoubleTurns" (150 : Nat) "DoubleTurns$Closing" "count" "I") ∈ lwW := lwW_in 471 (by decide +kernel) rfl
theorem w_472 : (Jvm.Cond.fieldLink "DoubleTurns$Closing" (55 : Nat) "DoubleTurns$Closing" "count" "I") ∈ lwW := lwW_in 472 (by decide +kernel) rfl
theorem w_473 : (Jvm.Cond.fieldLink "DoubleTurns$Closing" (58 : Nat) "DoubleTurns$Closing" "failure" "I") ∈ lwW := lwW_in 473 (by decide +kernel) rfl
theorem w_474 : (Jvm.Cond.fieldLink "DoubleTurns" (369 : Nat) "DoubleTurns$Closing" "failure" "I") ∈ lwW := lwW_in 474 (by decide +kernel) rfl
theorem w_475 : (Jvm.Cond.fieldLink "DoubleTurns$Closing" (84 : Nat) "DoubleTurns$Closing" "failedElement" "I") ∈ lwW := lwW_in 475 (by decide +kernel) rfl
theorem w_476 : (Jvm.Cond.fieldLink "DoubleTurns" (372 : Nat) "DoubleTurns$Closing" "failedElement" "I") ∈ lwW := lwW_in 476 (by decide +kernel) rfl
theorem w_477 : (Jvm.Cond.fieldLink "DoubleTurns$Closing" (87 : Nat) "DoubleTurns$Closing" "failedTold" "I") ∈ lwW := lwW_in 477 (by decide +kernel) rfl
theorem w_478 : (Jvm.Cond.fieldLink "DoubleTurns" (375 : Nat) "DoubleTurns$Closing" "failedTold" "I") ∈ lwW := lwW_in 478 (by decide +kernel) rfl
theorem w_504 : (Jvm.Cond.methodLink "DoubleTurns" (104 : Nat) ({ cls := "DoubleTurns$Closing", name := "begin", desc := "(I)V" } : Jvm.MethodName)) ∈ lwW := lwW_in 504 (by decide +kernel) rfl
theorem w_505 : (Jvm.Cond.instanceMethod ({ cls := "DoubleTurns$Closing", name := "begin", desc := "(I)V" } : Jvm.MethodName)) ∈ lwW := lwW_in 505 (by decide +kernel) rfl
theorem w_506 : (Jvm.Cond.selects "DoubleTurns$Closing" ({ cls := "DoubleTurns$Closing", name := "begin", desc := "(I)V" } : Jvm.MethodName) ({ cls := "DoubleTurns$Closing", name := "begin", desc := "(I)V" } : Jvm.MethodName)) ∈ lwW := lwW_in 506 (by decide +kernel) rfl
theorem w_507 : (Jvm.Cond.code ({ cls := "DoubleTurns$Closing", name := "begin", desc := "(I)V" } : Jvm.MethodName) prog_3_method_2_code (2 : Nat) (Option.none : Option Jvm.ClassFile.FieldType)) ∈ lwW := lwW_in 507 (by decide +kernel) rfl
theorem w_508 : (Jvm.Cond.methodLink "DoubleTurns" (108 : Nat) ({ cls := "DoubleTurns$Closing", name := "close", desc := "()Z" } : Jvm.MethodName)) ∈ lwW := lwW_in 508 (by decide +kernel) rfl
theorem w_509 : (Jvm.Cond.instanceMethod ({ cls := "DoubleTurns$Closing", name := "close", desc := "()Z" } : Jvm.MethodName)) ∈ lwW := lwW_in 509 (by decide +kernel) rfl
theorem w_510 : (Jvm.Cond.selects "DoubleTurns$Closing" ({ cls := "DoubleTurns$Closing", name := "close", desc := "()Z" } : Jvm.MethodName) ({ cls := "DoubleTurns$Closing", name := "close", desc := "()Z" } : Jvm.MethodName)) ∈ lwW := lwW_in 510 (by decide +kernel) rfl
theorem w_511 : (Jvm.Cond.code ({ cls := "DoubleTurns$Closing", name := "close", desc := "()Z" } : Jvm.MethodName) prog_3_method_5_code (3 : Nat) (Option.some Jvm.ClassFile.FieldType.boolean)) ∈ lwW := lwW_in 511 (by decide +kernel) rfl
theorem w_512 : (Jvm.Cond.methodLink "DoubleTurns$Closing" (61 : Nat) ({ cls := "DoubleTurns$Closing", name := "step", desc := "(II)Z" } : Jvm.MethodName)) ∈ lwW := lwW_in 512 (by decide +kernel) rfl
theorem w_514 : (Jvm.Cond.instanceMethod ({ cls := "DoubleTurns$Closing", name := "step", desc := "(II)Z" } : Jvm.MethodName)) ∈ lwW := lwW_in 514 (by decide +kernel) rfl
theorem w_515 : (Jvm.Cond.code ({ cls := "DoubleTurns$Closing", name := "step", desc := "(II)Z" } : Jvm.MethodName) prog_3_method_8_code (4 : Nat) (Option.some Jvm.ClassFile.FieldType.boolean)) ∈ lwW := lwW_in 515 (by decide +kernel) rfl
theorem w_516 : (Jvm.Cond.methodLink "DoubleTurns$Closing" (73 : Nat) ({ cls := "DoubleTurns$Closing", name := "multiply", desc := "(II)Z" } : Jvm.MethodName)) ∈ lwW := lwW_in 516 (by decide +kernel) rfl
theorem w_518 : (Jvm.Cond.instanceMethod ({ cls := "DoubleTurns$Closing", name := "multiply", desc := "(II)Z" } : Jvm.MethodName)) ∈ lwW := lwW_in 518 (by decide +kernel) rfl
theorem w_519 : (Jvm.Cond.code ({ cls := "DoubleTurns$Closing", name := "multiply", desc := "(II)Z" } : Jvm.MethodName) prog_3_method_12_code (12 : Nat) (Option.some Jvm.ClassFile.FieldType.boolean)) ∈ lwW := lwW_in 519 (by decide +kernel) rfl
theorem w_520 : (Jvm.Cond.methodLink "DoubleTurns$Closing" (45 : Nat) ({ cls := "DoubleTurns$Closing", name := "holdsTurn", desc := "([II)Z" } : Jvm.MethodName)) ∈ lwW := lwW_in 520 (by decide +kernel) rfl
theorem w_521 : (Jvm.Cond.static ({ cls := "DoubleTurns$Closing", name := "holdsTurn", desc := "([II)Z" } : Jvm.MethodName)) ∈ lwW := lwW_in 521 (by decide +kernel) rfl
theorem w_522 : (Jvm.Cond.code ({ cls := "DoubleTurns$Closing", name := "holdsTurn", desc := "([II)Z" } : Jvm.MethodName) prog_3_method_13_code (2 : Nat) (Option.some Jvm.ClassFile.FieldType.boolean)) ∈ lwW := lwW_in 522 (by decide +kernel) rfl
theorem w_525 : (Jvm.Cond.methodLink "DoubleTurns$Closing" (76 : Nat) ({ cls := "DoubleTurns$Closing", name := "fail", desc := "(III)Z" } : Jvm.MethodName)) ∈ lwW := lwW_in 525 (by decide +kernel) rfl
theorem w_527 : (Jvm.Cond.instanceMethod ({ cls := "DoubleTurns$Closing", name := "fail", desc := "(III)Z" } : Jvm.MethodName)) ∈ lwW := lwW_in 527 (by decide +kernel) rfl
theorem w_528 : (Jvm.Cond.code ({ cls := "DoubleTurns$Closing", name := "fail", desc := "(III)Z" } : Jvm.MethodName) prog_3_method_10_code (4 : Nat) (Option.some Jvm.ClassFile.FieldType.boolean)) ∈ lwW := lwW_in 528 (by decide +kernel) rfl
theorem w_529 : (Jvm.Cond.methodLink "DoubleTurns$Closing" (69 : Nat) ({ cls := "DoubleTurns$Closing", name := "numberOf", desc := "([I)I" } : Jvm.MethodName)) ∈ lwW := lwW_in 529 (by decide +kernel) rfl
theorem w_530 : (Jvm.Cond.instanceMethod ({ cls := "DoubleTurns$Closing", name := "numberOf", desc := "([I)I" } : Jvm.MethodName)) ∈ lwW := lwW_in 530 (by decide +kernel) rfl
theorem w_531 : (Jvm.Cond.selects "DoubleTurns$Closing" ({ cls := "DoubleTurns$Closing", name := "numberOf", desc := "([I)I" } : Jvm.MethodName) ({ cls := "DoubleTurns$Closing", name := "numberOf", desc := "([I)I" } : Jvm.MethodName)) ∈ lwW := lwW_in 531 (by decide +kernel) rfl
theorem w_532 : (Jvm.Cond.code ({ cls := "DoubleTurns$Closing", name := "numberOf", desc := "([I)I" } : Jvm.MethodName) prog_3_method_6_code (3 : Nat) (Option.some Jvm.ClassFile.FieldType.int)) ∈ lwW := lwW_in 532 (by decide +kernel) rfl
theorem w_533 : (Jvm.Cond.methodLink "DoubleTurns$Closing" (65 : Nat) ({ cls := "DoubleTurns$Closing", name := "isSame", desc := "(I[I)Z" } : Jvm.MethodName)) ∈ lwW := lwW_in 533 (by decide +kernel) rfl
theorem w_535 : (Jvm.Cond.instanceMethod ({ cls := "DoubleTurns$Closing", name := "isSame", desc := "(I[I)Z" } : Jvm.MethodName)) ∈ lwW := lwW_in 535 (by decide +kernel) rfl
theorem w_536 : (Jvm.Cond.code ({ cls := "DoubleTurns$Closing", name := "isSame", desc := "(I[I)Z" } : Jvm.MethodName) prog_3_method_11_code (4 : Nat) (Option.some Jvm.ClassFile.FieldType.boolean)) ∈ lwW := lwW_in 536 (by decide +kernel) rfl
theorem w_537 : (Jvm.Cond.methodLink "DoubleTurns$Closing" (80 : Nat) ({ cls := "DoubleTurns$Closing", name := "takeNext", desc := "(II)V" } : Jvm.MethodName)) ∈ lwW := lwW_in 537 (by decide +kernel) rfl
theorem w_539 : (Jvm.Cond.instanceMethod ({ cls := "DoubleTurns$Closing", name := "takeNext", desc := "(II)V" } : Jvm.MethodName)) ∈ lwW := lwW_in 539 (by decide +kernel) rfl
theorem w_540 : (Jvm.Cond.code ({ cls := "DoubleTurns$Closing", name := "takeNext", desc := "(II)V" } : Jvm.MethodName) prog_3_method_9_code (3 : Nat) (Option.none : Option Jvm.ClassFile.FieldType)) ∈ lwW := lwW_in 540 (by decide +kernel) rfl
theorem w_541 : (Jvm.Cond.methodLink "DoubleTurns$Closing" (49 : Nat) ({ cls := "java/lang/System", name := "arraycopy", desc := "(Ljava/lang/Object;ILjava/lang/Object;II)V" } : Jvm.MethodName)) ∈ lwW := lwW_in 541 (by decide +kernel) rfl
theorem w_542 : (Jvm.Cond.static ({ cls := "java/lang/System", name := "arraycopy", desc := "(Ljava/lang/Object;ILjava/lang/Object;II)V" } : Jvm.MethodName)) ∈ lwW := lwW_in 542 (by decide +kernel) rfl
theorem w_543 : (Jvm.Cond.native ({ cls := "java/lang/System", name := "arraycopy", desc := "(Ljava/lang/Object;ILjava/lang/Object;II)V" } : Jvm.MethodName)) ∈ lwW := lwW_in 543 (by decide +kernel) rfl
theorem w_544 : (Jvm.Cond.methodLink "DoubleTurns" (112 : Nat) ({ cls := "DoubleTurns$Group", name := "build", desc := "(LDoubleTurns$Closing;)V" } : Jvm.MethodName)) ∈ lwW := lwW_in 544 (by decide +kernel) rfl
theorem w_545 : (Jvm.Cond.instanceMethod ({ cls := "DoubleTurns$Group", name := "build", desc := "(LDoubleTurns$Closing;)V" } : Jvm.MethodName)) ∈ lwW := lwW_in 545 (by decide +kernel) rfl
theorem w_546 : (Jvm.Cond.selects "DoubleTurns$Group" ({ cls := "DoubleTurns$Group", name := "build", desc := "(LDoubleTurns$Closing;)V" } : Jvm.MethodName) ({ cls := "DoubleTurns$Group", name := "build", desc := "(LDoubleTurns$Closing;)V" } : Jvm.MethodName)) ∈ lwW := lwW_in 546 (by decide +kernel) rfl
theorem w_547 : (Jvm.Cond.code ({ cls := "DoubleTurns$Group", name := "build", desc := "(LDoubleTurns$Closing;)V" } : Jvm.MethodName) prog_6_method_2_code (2 : Nat) (Option.none : Option Jvm.ClassFile.FieldType)) ∈ lwW := lwW_in 547 (by decide +kernel) rfl
theorem w_548 : (Jvm.Cond.methodLink "DoubleTurns$Group" (36 : Nat) ({ cls := "java/lang/Math", name := "min", desc := "(II)I" } : Jvm.MethodName)) ∈ lwW := lwW_in 548 (by decide +kernel) rfl
theorem w_549 : (Jvm.Cond.static ({ cls := "java/lang/Math", name := "min", desc := "(II)I" } : Jvm.MethodName)) ∈ lwW := lwW_in 549 (by decide +kernel) rfl
theorem w_550 : (Jvm.Cond.code ({ cls := "java/lang/Math", name := "min", desc := "(II)I" } : Jvm.MethodName) prog_21_method_69_code (2 : Nat) (Option.some Jvm.ClassFile.FieldType.int)) ∈ lwW := lwW_in 550 (by decide +kernel) rfl
theorem w_551 : (Jvm.Cond.methodLink "DoubleTurns$Group" (43 : Nat) ({ cls := "DoubleTurns$Group", name := "fillProducts", desc := "(LDoubleTurns$Closing;)V" } : Jvm.MethodName)) ∈ lwW := lwW_in 551 (by decide +kernel) rfl
theorem w_553 : (Jvm.Cond.instanceMethod ({ cls := "DoubleTurns$Group", name := "fillProducts", desc := "(LDoubleTurns$Closing;)V" } : Jvm.MethodName)) ∈ lwW := lwW_in 553 (by decide +kernel) rfl
theorem w_554 : (Jvm.Cond.code ({ cls := "DoubleTurns$Group", name := "fillProducts", desc := "(LDoubleTurns$Closing;)V" } : Jvm.MethodName) prog_6_method_5_code (6 : Nat) (Option.none : Option Jvm.ClassFile.FieldType)) ∈ lwW := lwW_in 554 (by decide +kernel) rfl
theorem w_556 : (Jvm.Cond.static ({ cls := "DoubleTurns", name := "at", desc := "([II)I" } : Jvm.MethodName)) ∈ lwW := lwW_in 556 (by decide +kernel) rfl
theorem w_557 : (Jvm.Cond.code ({ cls := "DoubleTurns", name := "at", desc := "([II)I" } : Jvm.MethodName) prog_1_method_41_code (2 : Nat) (Option.some Jvm.ClassFile.FieldType.int)) ∈ lwW := lwW_in 557 (by decide +kernel) rfl
theorem w_558 : (Jvm.Cond.methodLink "DoubleTurns$Group" (47 : Nat) ({ cls := "DoubleTurns$Group", name := "fillOrders", desc := "()V" } : Jvm.MethodName)) ∈ lwW := lwW_in 558 (by decide +kernel) rfl
theorem w_560 : (Jvm.Cond.instanceMethod ({ cls := "DoubleTurns$Group", name := "fillOrders", desc := "()V" } : Jvm.MethodName)) ∈ lwW := lwW_in 560 (by decide +kernel) rfl
theorem w_561 : (Jvm.Cond.code ({ cls := "DoubleTurns$Group", name := "fillOrders", desc := "()V" } : Jvm.MethodName) prog_6_method_6_code (5 : Nat) (Option.none : Option Jvm.ClassFile.FieldType)) ∈ lwW := lwW_in 561 (by decide +kernel) rfl
theorem w_562 : (Jvm.Cond.methodLink "DoubleTurns$Group" (64 : Nat) ({ cls := "DoubleTurns$Group", name := "times", desc := "(II)I" } : Jvm.MethodName)) ∈ lwW := lwW_in 562 (by decide +kernel) rfl
theorem w_563 : (Jvm.Cond.instanceMethod ({ cls := "DoubleTurns$Group", name := "times", desc := "(II)I" } : Jvm.MethodName)) ∈ lwW := lwW_in 563 (by decide +kernel) rfl
theorem w_564 : (Jvm.Cond.selects "DoubleTurns$Group" ({ cls := "DoubleTurns$Group", name := "times", desc := "(II)I" } : Jvm.MethodName) ({ cls := "DoubleTurns$Group", name := "times", desc := "(II)I" } : Jvm.MethodName)) ∈ lwW := lwW_in 564 (by decide +kernel) rfl
theorem w_565 : (Jvm.Cond.code ({ cls := "DoubleTurns$Group", name := "times", desc := "(II)I" } : Jvm.MethodName) prog_6_method_3_code (3 : Nat) (Option.some Jvm.ClassFile.FieldType.int)) ∈ lwW := lwW_in 565 (by decide +kernel) rfl
theorem w_566 : (Jvm.Cond.methodLink "DoubleTurns$Group" (82 : Nat) ({ cls := "java/lang/Math", name := "max", desc := "(II)I" } : Jvm.MethodName)) ∈ lwW := lwW_in 566 (by decide +kernel) rfl
theorem w_567 : (Jvm.Cond.static ({ cls := "java/lang/Math", name := "max", desc := "(II)I" } : Jvm.MethodName)) ∈ lwW := lwW_in 567 (by decide +kernel) rfl
theorem w_568 : (Jvm.Cond.code ({ cls := "java/lang/Math", name := "max", desc := "(II)I" } : Jvm.MethodName) prog_21_method_65_code (2 : Nat) (Option.some Jvm.ClassFile.FieldType.int)) ∈ lwW := lwW_in 568 (by decide +kernel) rfl
theorem w_569 : (Jvm.Cond.methodLink "DoubleTurns$Group" (85 : Nat) ({ cls := "DoubleTurns$Group", name := "greatestShared", desc := "(II)I" } : Jvm.MethodName)) ∈ lwW := lwW_in 569 (by decide +kernel) rfl
theorem w_570 : (Jvm.Cond.static ({ cls := "DoubleTurns$Group", name := "greatestShared", desc := "(II)I" } : Jvm.MethodName)) ∈ lwW := lwW_in 570 (by decide +kernel) rfl
theorem w_571 : (Jvm.Cond.code ({ cls := "DoubleTurns$Group", name := "greatestShared", desc := "(II)I" } : Jvm.MethodName) prog_6_method_17_code (6 : Nat) (Option.some Jvm.ClassFile.FieldType.int)) ∈ lwW := lwW_in 571 (by decide +kernel) rfl
theorem w_572 : (Jvm.Cond.methodLink "DoubleTurns$Group" (50 : Nat) ({ cls := "DoubleTurns$Group", name := "fillClasses", desc := "()V" } : Jvm.MethodName)) ∈ lwW := lwW_in 572 (by decide +kernel) rfl
theorem w_574 : (Jvm.Cond.instanceMethod ({ cls := "DoubleTurns$Group", name := "fillClasses", desc := "()V" } : Jvm.MethodName)) ∈ lwW := lwW_in 574 (by decide +kernel) rfl
theorem w_575 : (Jvm.Cond.code ({ cls := "DoubleTurns$Group", name := "fillClasses", desc := "()V" } : Jvm.MethodName) prog_6_method_7_code (2 : Nat) (Option.none : Option Jvm.ClassFile.FieldType)) ∈ lwW := lwW_in 575 (by decide +kernel) rfl
theorem w_576 : (Jvm.Cond.methodLink "DoubleTurns$Group" (94 : Nat) ({ cls := "DoubleTurns$Group", name := "fillClass", desc := "(I)V" } : Jvm.MethodName)) ∈ lwW := lwW_in 576 (by decide +kernel) rfl
theorem w_578 : (Jvm.Cond.instanceMethod ({ cls := "DoubleTurns$Group", name := "fillClass", desc := "(I)V" } : Jvm.MethodName)) ∈ lwW := lwW_in 578 (by decide +kernel) rfl
theorem w_579 : (Jvm.Cond.code ({ cls := "DoubleTurns$Group", name := "fillClass", desc := "(I)V" } : Jvm.MethodName) prog_6_method_8_code (5 : Nat) (Option.none : Option Jvm.ClassFile.FieldType)) ∈ lwW := lwW_in 579 (by decide +kernel) rfl
theorem w_580 : (Jvm.Cond.methodLink "DoubleTurns$Group" (98 : Nat) ({ cls := "DoubleTurns$Group", name := "turned", desc := "(II)I" } : Jvm.MethodName)) ∈ lwW := lwW_in 580 (by decide +kernel) rfl
theorem w_581 : (Jvm.Cond.instanceMethod ({ cls := "DoubleTurns$Group", name := "turned", desc := "(II)I" } : Jvm.MethodName)) ∈ lwW := lwW_in 581 (by decide +kernel) rfl
theorem w_582 : (Jvm.Cond.selects "DoubleTurns$Group" ({ cls := "DoubleTurns$Group", name := "turned", desc := "(II)I" } : Jvm.MethodName) ({ cls := "DoubleTurns$Group", name := "turned", desc := "(II)I" } : Jvm.MethodName)) ∈ lwW := lwW_in 582 (by decide +kernel) rfl
theorem w_583 : (Jvm.Cond.code ({ cls := "DoubleTurns$Group", name := "turned", desc := "(II)I" } : Jvm.MethodName) prog_6_method_4_code (3 : Nat) (Option.some Jvm.ClassFile.FieldType.int)) ∈ lwW := lwW_in 583 (by decide +kernel) rfl
theorem w_584 : (Jvm.Cond.methodLink "DoubleTurns$Group" (53 : Nat) ({ cls := "DoubleTurns$Closing", name := "numberOfWhole", desc := "(I)I" } : Jvm.MethodName)) ∈ lwW := lwW_in 584 (by decide +kernel) rfl
theorem w_585 : (Jvm.Cond.instanceMethod ({ cls := "DoubleTurns$Closing", name := "numberOfWhole", desc := "(I)I" } : Jvm.MethodName)) ∈ lwW := lwW_in 585 (by decide +kernel) rfl
theorem w_586 : (Jvm.Cond.selects "DoubleTurns$Closing" ({ cls := "DoubleTurns$Closing", name := "numberOfWhole", desc := "(I)I" } : Jvm.MethodName) ({ cls := "DoubleTurns$Closing", name := "numberOfWhole", desc := "(I)I" } : Jvm.MethodName)) ∈ lwW := lwW_in 586 (by decide +kernel) rfl
theorem w_587 : (Jvm.Cond.code ({ cls := "DoubleTurns$Closing", name := "numberOfWhole", desc := "(I)I" } : Jvm.MethodName) prog_3_method_7_code (3 : Nat) (Option.some Jvm.ClassFile.FieldType.int)) ∈ lwW := lwW_in 587 (by decide +kernel) rfl
theorem w_588 : (Jvm.Cond.fieldLink "DoubleTurns" (10 : Nat) "DoubleTurns" "tape" "LDoubleTurns$Tape;") ∈ lwW := lwW_in 588 (by decide +kernel) rfl
theorem w_589 : (Jvm.Cond.fieldLink "DoubleTurns" (21 : Nat) "DoubleTurns" "reader" "LDoubleTurns$Reader;") ∈ lwW := lwW_in 589 (by decide +kernel) rfl
theorem w_590 : (Jvm.Cond.fieldLink "DoubleTurns" (28 : Nat) "DoubleTurns" "past" "LDoubleTurns$Past;") ∈ lwW := lwW_in 590 (by decide +kernel) rfl
theorem w_591 : (Jvm.Cond.fieldLink "DoubleTurns" (35 : Nat) "DoubleTurns" "group" "LDoubleTurns$Group;") ∈ lwW := lwW_in 591 (by decide +kernel) rfl
theorem w_592 : (Jvm.Cond.fieldLink "DoubleTurns" (42 : Nat) "DoubleTurns" "subgroup" "LDoubleTurns$Subgroup;") ∈ lwW := lwW_in 592 (by decide +kernel) rfl
theorem w_593 : (Jvm.Cond.fieldLink "DoubleTurns" (49 : Nat) "DoubleTurns" "characters" "LDoubleTurns$Characters;") ∈ lwW := lwW_in 593 (by decide +kernel) rfl
theorem w_594 : (Jvm.Cond.fieldLink "DoubleTurns" (62 : Nat) "DoubleTurns" "splitting" "LDoubleTurns$Splitting;") ∈ lwW := lwW_in 594 (by decide +kernel) rfl
theorem w_595 : (Jvm.Cond.fieldLink "DoubleTurns" (69 : Nat) "DoubleTurns" "graph" "LDoubleTurns$Graph;") ∈ lwW := lwW_in 595 (by decide +kernel) rfl
theorem w_596 : (Jvm.Cond.fieldLink "DoubleTurns" (76 : Nat) "DoubleTurns" "powers" "LDoubleTurns$Powers;") ∈ lwW := lwW_in 596 (by decide +kernel) rfl
theorem w_597 : (Jvm.Cond.fieldLink "DoubleTurns" (80 : Nat) "DoubleTurns" "asked" "[I") ∈ lwW := lwW_in 597 (by decide +kernel) rfl
theorem w_598 : (Jvm.Cond.fieldLink "DoubleTurns" (84 : Nat) "DoubleTurns" "reasons" "[I") ∈ lwW := lwW_in 598 (by decide +kernel) rfl
theorem w_599 : (Jvm.Cond.fieldLink "DoubleTurns" (87 : Nat) "DoubleTurns" "refusals" "[I") ∈ lwW := lwW_in 599 (by decide +kernel) rfl
theorem w_600 : (Jvm.Cond.fieldLink "DoubleTurns" (93 : Nat) "DoubleTurns" "closing" "LDoubleTurns$Closing;") ∈ lwW := lwW_in 600 (by decide +kernel) rfl
theorem w_601 : (Jvm.Cond.fieldLink "DoubleTurns" (97 : Nat) "DoubleTurns" "trial" "LDoubleTurns$Closing;") ∈ lwW := lwW_in 601 (by decide +kernel) rfl
theorem w_602 : (Jvm.Cond.fieldLink "DoubleTurns" (378 : Nat) "DoubleTurns" "charactersStand" "Z") ∈ lwW := lwW_in 602 (by decide +kernel) rfl
theorem w_603 : (Jvm.Cond.fieldLink "DoubleTurns" (346 : Nat) "DoubleTurns" "makersStand" "Z") ∈ lwW := lwW_in 603 (by decide +kernel) rfl
theorem w_604 : (Jvm.Cond.fieldLink "DoubleTurns" (100 : Nat) "DoubleTurns" "faultPlace" "I") ∈ lwW := lwW_in 604 (by decide +kernel) rfl
theorem w_640 : (Jvm.Cond.methodLink "DoubleTurnsLaw" (100 : Nat) ({ cls := "DoubleTurns", name := "feed", desc := "(IIIII)I" } : Jvm.MethodName)) ∈ lwW := lwW_in 640 (by decide +kernel) rfl
theorem w_641 : (Jvm.Cond.instanceMethod ({ cls := "DoubleTurns", name := "feed", desc := "(IIIII)I" } : Jvm.MethodName)) ∈ lwW := lwW_in 641 (by decide +kernel) rfl
theorem w_642 : (Jvm.Cond.selects "DoubleTurns" ({ cls := "DoubleTurns", name := "feed", desc := "(IIIII)I" } : Jvm.MethodName) ({ cls := "DoubleTurns", name := "feed", desc := "(IIIII)I" } : Jvm.MethodName)) ∈ lwW := lwW_in 642 (by decide +kernel) rfl
theorem w_643 : (Jvm.Cond.code ({ cls := "DoubleTurns", name := "feed", desc := "(IIIII)I" } : Jvm.MethodName) prog_1_method_2_code (6 : Nat) (Option.some Jvm.ClassFile.FieldType.int)) ∈ lwW := lwW_in 643 (by decide +kernel) rfl
theorem w_644 : (Jvm.Cond.methodLink "DoubleTurns" (116 : Nat) ({ cls := "DoubleTurns$Tape", name := "hasRoom", desc := "()Z" } : Jvm.MethodName)) ∈ lwW := lwW_in 644 (by decide +kernel) rfl
theorem w_645 : (Jvm.Cond.instanceMethod ({ cls := "DoubleTurns$Tape", name := "hasRoom", desc := "()Z" } : Jvm.MethodName)) ∈ lwW := lwW_in 645 (by decide +kernel) rfl
theorem w_646 : (Jvm.Cond.selects "DoubleTurns$Tape" ({ cls := "DoubleTurns$Tape", name := "hasRoom", desc := "()Z" } : Jvm.MethodName) ({ cls := "DoubleTurns$Tape", name := "hasRoom", desc := "()Z" } : Jvm.MethodName)) ∈ lwW := lwW_in 646 (by decide +kernel) rfl
theorem w_647 : (Jvm.Cond.code ({ cls := "DoubleTurns$Tape", name := "hasRoom", desc := "()Z" } : Jvm.MethodName) prog_12_method_2_code (1 : Nat) (Option.some Jvm.ClassFile.FieldType.boolean)) ∈ lwW := lwW_in 647 (by decide +kernel) rfl
theorem w_648 : (Jvm.Cond.methodLink "DoubleTurns" (119 : Nat) ({ cls := "DoubleTurns$Tape", name := "take", desc := "(I)V" } : Jvm.MethodName)) ∈ lwW := lwW_in 648 (by decide +kernel) rfl
theorem w_649 : (Jvm.Cond.instanceMethod ({ cls := "DoubleTurns$Tape", name := "take", desc := "(I)V" } : Jvm.MethodName)) ∈ lwW := lwW_in 649 (by decide +kernel) rfl
theorem w_650 : (Jvm.Cond.selects "DoubleTurns$Tape" ({ cls := "DoubleTurns$Tape", name := "take", desc := "(I)V" } : Jvm.MethodName) ({ cls := "DoubleTurns$Tape", name := "take", desc := "(I)V" } : Jvm.MethodName)) ∈ lwW := lwW_in 650 (by decide +kernel) rfl
theorem w_651 : (Jvm.Cond.code ({ cls := "DoubleTurns$Tape", name := "take", desc := "(I)V" } : Jvm.MethodName) prog_12_method_3_code (3 : Nat) (Option.none : Option Jvm.ClassFile.FieldType)) ∈ lwW := lwW_in 651 (by decide +kernel) rfl
theorem w_652 : (Jvm.Cond.methodLink "DoubleTurnsLaw" (115 : Nat) ({ cls := "DoubleTurns", name := "fault", desc := "()I" } : Jvm.MethodName)) ∈ lwW := lwW_in 652 (by decide +kernel) rfl
theorem w_653 : (Jvm.Cond.instanceMethod ({ cls := "DoubleTurns", name := "fault", desc := "()I" } : Jvm.MethodName)) ∈ lwW := lwW_in 653 (by decide +kernel) rfl
theorem w_654 : (Jvm.Cond.selects "DoubleTurns" ({ cls := "DoubleTurns", name := "fault", desc := "()I" } : Jvm.MethodName) ({ cls := "DoubleTurns", name := "fault", desc := "()I" } : Jvm.MethodName)) ∈ lwW := lwW_in 654 (by decide +kernel) rfl
theorem w_655 : (Jvm.Cond.code ({ cls := "DoubleTurns", name := "fault", desc := "()I" } : Jvm.MethodName) prog_1_method_4_code (1 : Nat) (Option.some Jvm.ClassFile.FieldType.int)) ∈ lwW := lwW_in 655 (by decide +kernel) rfl
theorem w_656 : (Jvm.Cond.methodLink "DoubleTurnsLaw" (126 : Nat) ({ cls := "DoubleTurns", name := "undo", desc := "()I" } : Jvm.MethodName)) ∈ lwW := lwW_in 656 (by decide +kernel) rfl
theorem w_657 : (Jvm.Cond.instanceMethod ({ cls := "DoubleTurns", name := "undo", desc := "()I" } : Jvm.MethodName)) ∈ lwW := lwW_in 657 (by decide +kernel) rfl
theorem w_658 : (Jvm.Cond.selects "DoubleTurns" ({ cls := "DoubleTurns", name := "undo", desc := "()I" } : Jvm.MethodName) ({ cls := "DoubleTurns", name := "undo", desc := "()I" } : Jvm.MethodName)) ∈ lwW := lwW_in 658 (by decide +kernel) rfl
theorem w_659 : (Jvm.Cond.code ({ cls := "DoubleTurns", name := "undo", desc := "()I" } : Jvm.MethodName) prog_1_method_7_code (1 : Nat) (Option.some Jvm.ClassFile.FieldType.int)) ∈ lwW := lwW_in 659 (by decide +kernel) rfl
theorem w_660 : (Jvm.Cond.methodLink "DoubleTurns" (201 : Nat) ({ cls := "DoubleTurns$Past", name := "giveBack", desc := "(LDoubleTurns$Closing;)V" } : Jvm.MethodName)) ∈ lwW := lwW_in 660 (by decide +kernel) rfl
theorem w_661 : (Jvm.Cond.instanceMethod ({ cls := "DoubleTurns$Past", name := "giveBack", desc := "(LDoubleTurns$Closing;)V" } : Jvm.MethodName)) ∈ lwW := lwW_in 661 (by decide +kernel) rfl
theorem w_662 : (Jvm.Cond.selects "DoubleTurns$Past" ({ cls := "DoubleTurns$Past", name := "giveBack", desc := "(LDoubleTurns$Closing;)V" } : Jvm.MethodName) ({ cls := "DoubleTurns$Past", name := "giveBack", desc := "(LDoubleTurns$Closing;)V" } : Jvm.MethodName)) ∈ lwW := lwW_in 662 (by decide +kernel) rfl
theorem w_663 : (Jvm.Cond.code ({ cls := "DoubleTurns$Past", name := "giveBack", desc := "(LDoubleTurns$Closing;)V" } : Jvm.MethodName) prog_7_method_3_code (3 : Nat) (Option.none : Option Jvm.ClassFile.FieldType)) ∈ lwW := lwW_in 663 (by decide +kernel) rfl
theorem w_664 : (Jvm.Cond.methodLink "DoubleTurns$Past" (37 : Nat) ({ cls := "DoubleTurns$Closing", name := "tell", desc := "([II)V" } : Jvm.MethodName)) ∈ lwW := lwW_in 664 (by decide +kernel) rfl
theorem w_665 : (Jvm.Cond.instanceMethod ({ cls := "DoubleTurns$Closing", name := "tell", desc := "([II)V" } : Jvm.MethodName)) ∈ lwW := lwW_in 665 (by decide +kernel) rfl
theorem w_666 : (Jvm.Cond.selects "DoubleTurns$Closing" ({ cls := "DoubleTurns$Closing", name := "tell", desc := "([II)V" } : Jvm.MethodName) ({ cls := "DoubleTurns$Closing", name := "tell", desc := "([II)V" } : Jvm.MethodName)) ∈ lwW := lwW_in 666 (by decide +kernel) rfl
theorem w_667 : (Jvm.Cond.code ({ cls := "DoubleTurns$Closing", name := "tell", desc := "([II)V" } : Jvm.MethodName) prog_3_method_4_code (3 : Nat) (Option.none : Option Jvm.ClassFile.FieldType)) ∈ lwW := lwW_in 667 (by decide +kernel) rfl
theorem w_668 : (Jvm.Cond.methodLink "DoubleTurns" (147 : Nat) ({ cls := "DoubleTurns", name := "takeTrial", desc := "()V" } : Jvm.MethodName)) ∈ lwW := lwW_in 668 (by decide +kernel) rfl
theorem w_670 : (Jvm.Cond.instanceMethod ({ cls := "DoubleTurns", name := "takeTrial", desc := "()V" } : Jvm.MethodName)) ∈ lwW := lwW_in 670 (by decide +kernel) rfl
theorem w_671 : (Jvm.Cond.code ({ cls := "DoubleTurns", name := "takeTrial", desc := "()V" } : Jvm.MethodName) prog_1_method_39_code (2 : Nat) (Option.none : Option Jvm.ClassFile.FieldType)) ∈ lwW := lwW_in 671 (by decide +kernel) rfl
theorem w_672 : (Jvm.Cond.methodLink "DoubleTurnsLaw" (130 : Nat) ({ cls := "DoubleTurns", name := "why", desc := "(I)I" } : Jvm.MethodName)) ∈ lwW := lwW_in 672 (by decide +kernel) rfl
theorem w_673 : (Jvm.Cond.instanceMethod ({ cls := "DoubleTurns", name := "why", desc := "(I)I" } : Jvm.MethodName)) ∈ lwW := lwW_in 673 (by decide +kernel) rfl
theorem w_674 : (Jvm.Cond.selects "DoubleTurns" ({ cls := "DoubleTurns", name := "why", desc := "(I)I" } : Jvm.MethodName) ({ cls := "DoubleTurns", name := "why", desc := "(I)I" } : Jvm.MethodName)) ∈ lwW := lwW_in 674 (by decide +kernel) rfl
theorem w_675 : (Jvm.Cond.code ({ cls := "DoubleTurns", name := "why", desc := "(I)I" } : Jvm.MethodName) prog_1_method_8_code (2 : Nat) (Option.some Jvm.ClassFile.FieldType.int)) ∈ lwW := lwW_in 675 (by decide +kernel) rfl
theorem w_676 : (Jvm.Cond.methodLink "DoubleTurnsLaw" (141 : Nat) ({ cls := "DoubleTurns", name := "find", desc := "(IIIIIIII)I" } : Jvm.MethodName)) ∈ lwW := lwW_in 676 (by decide +kernel) rfl
theorem w_677 : (Jvm.Cond.instanceMethod ({ cls := "DoubleTurns", name := "find", desc := "(IIIIIIII)I" } : Jvm.MethodName)) ∈ lwW := lwW_in 677 (by decide +kernel) rfl
theorem w_678 : (Jvm.Cond.selects "DoubleTurns" ({ cls := "DoubleTurns", name := "find", desc := "(IIIIIIII)I" } : Jvm.MethodName) ({ cls := "DoubleTurns", name := "find", desc := "(IIIIIIII)I" } : Jvm.MethodName)) ∈ lwW := lwW_in 678 (by decide +kernel) rfl
theorem w_679 : (Jvm.Cond.code ({ cls := "DoubleTurns", name := "find", desc := "(IIIIIIII)I" } : Jvm.MethodName) prog_1_method_11_code (9 : Nat) (Option.some Jvm.ClassFile.FieldType.int)) ∈ lwW := lwW_in 679 (by decide +kernel) rfl
theorem w_680 : (Jvm.Cond.methodLink "DoubleTurns" (151 : Nat) ({ cls := "DoubleTurns", name := "askHalf", desc := "(IIIII)V" } : Jvm.MethodName)) ∈ lwW := lwW_in 680 (by decide +kernel) rfl
theorem w_682 : (Jvm.Cond.instanceMethod ({ cls := "DoubleTurns", name := "askHalf", desc := "(IIIII)V" } : Jvm.MethodName)) ∈ lwW := lwW_in 682 (by decide +kernel) rfl
theorem w_683 : (Jvm.Cond.code ({ cls := "DoubleTurns", name := "askHalf", desc := "(IIIII)V" } : Jvm.MethodName) prog_1_method_36_code (6 : Nat) (Option.none : Option Jvm.ClassFile.FieldType)) ∈ lwW := lwW_in 683 (by decide +kernel) rfl
theorem w_684 : (Jvm.Cond.methodLink "DoubleTurns" (256 : Nat) ({ cls := "DoubleTurns$Closing", name := "numberOf", desc := "([I)I" } : Jvm.MethodName)) ∈ lwW := lwW_in 684 (by decide +kernel) rfl
theorem w_685 : (Jvm.Cond.methodLink "DoubleTurnsLaw" (206 : Nat) ({ cls := "DoubleTurns", name := "print", desc := "()J" } : Jvm.MethodName)) ∈ lwW := lwW_in 685 (by decide +kernel) rfl
theorem w_686 : (Jvm.Cond.instanceMethod ({ cls := "DoubleTurns", name := "print", desc := "()J" } : Jvm.MethodName)) ∈ lwW := lwW_in 686 (by decide +kernel) rfl
theorem w_687 : (Jvm.Cond.selects "DoubleTurns" ({ cls := "DoubleTurns", name := "print", desc := "()J" } : Jvm.MethodName) ({ cls := "DoubleTurns", name := "print", desc := "()J" } : Jvm.MethodName)) ∈ lwW := lwW_in 687 (by decide +kernel) rfl
theorem w_688 : (Jvm.Cond.code ({ cls := "DoubleTurns", name := "print", desc := "()J" } : Jvm.MethodName) prog_1_method_32_code (4 : Nat) (Option.some Jvm.ClassFile.FieldType.long)) ∈ lwW := lwW_in 688 (by decide +kernel) rfl
theorem w_689 : (Jvm.Cond.constantLong "DoubleTurns" (360 : Nat) (31 : Int64)) ∈ lwW := lwW_in 689 (by decide +kernel) rfl
theorem w_690 : (Jvm.Cond.methodLink "DoubleTurns" (243 : Nat) ({ cls := "DoubleTurns", name := "at", desc := "([II)I" } : Jvm.MethodName)) ∈ lwW := lwW_in 690 (by decide +kernel) rfl
theorem w_691 : (Jvm.Cond.methodLink "DoubleTurnsLaw" (211 : Nat) ({ cls := "DoubleTurns", name := "status", desc := "(I)I" } : Jvm.MethodName)) ∈ lwW := lwW_in 691 (by decide +kernel) rfl
theorem w_692 : (Jvm.Cond.instanceMethod ({ cls := "DoubleTurns", name := "status", desc := "(I)I" } : Jvm.MethodName)) ∈ lwW := lwW_in 692 (by decide +kernel) rfl
theorem w_693 : (Jvm.Cond.selects "DoubleTurns" ({ cls := "DoubleTurns", name := "status", desc := "(I)I" } : Jvm.MethodName) ({ cls := "DoubleTurns", name := "status", desc := "(I)I" } : Jvm.MethodName)) ∈ lwW := lwW_in 693 (by decide +kernel) rfl
theorem w_694 : (Jvm.Cond.code ({ cls := "DoubleTurns", name := "status", desc := "(I)I" } : Jvm.MethodName) prog_1_method_33_code (2 : Nat) (Option.some Jvm.ClassFile.FieldType.int)) ∈ lwW := lwW_in 694 (by decide +kernel) rfl
theorem w_695 : (Jvm.Cond.methodLink "DoubleTurnsLaw" (105 : Nat) ({ cls := "DoubleTurnsLaw", name := "text", desc := "(LDoubleTurns;I[J)I" } : Jvm.MethodName)) ∈ lwW := lwW_in 695 (by decide +kernel) rfl
theorem w_696 : (Jvm.Cond.static ({ cls := "DoubleTurnsLaw", name := "text", desc := "(LDoubleTurns;I[J)I" } : Jvm.MethodName)) ∈ lwW := lwW_in 696 (by decide +kernel) rfl
theorem w_697 : (Jvm.Cond.codeWith ({ cls := "DoubleTurnsLaw", name := "text", desc := "(LDoubleTurns;I[J)I" } : Jvm.MethodName) method_3_code (4 : Nat) (Option.some Jvm.ClassFile.FieldType.int) [((0 : Nat), (9 : Nat), (12 : Nat), (13 : Nat))]) ∈ lwW := lwW_in 697 (by decide +kernel) rfl
theorem w_698 : (Jvm.Cond.classLink "DoubleTurnsLaw" (13 : Nat) "java/lang/IllegalArgumentException") ∈ lwW := lwW_in 698 (by decide +kernel) rfl
theorem w_699 : (Jvm.Cond.methodLink "DoubleTurnsLaw" (7 : Nat) ({ cls := "DoubleTurns", name := "text", desc := "(I)I" } : Jvm.MethodName)) ∈ lwW := lwW_in 699 (by decide +kernel) rfl
theorem w_700 : (Jvm.Cond.instanceMethod ({ cls := "DoubleTurns", name := "text", desc := "(I)I" } : Jvm.MethodName)) ∈ lwW := lwW_in 700 (by decide +kernel) rfl
theorem w_701 : (Jvm.Cond.selects "DoubleTurns" ({ cls := "DoubleTurns", name := "text", desc := "(I)I" } : Jvm.MethodName) ({ cls := "DoubleTurns", name := "text", desc := "(I)I" } : Jvm.MethodName)) ∈ lwW := lwW_in 701 (by decide +kernel) rfl
theorem w_702 : (Jvm.Cond.code ({ cls := "DoubleTurns", name := "text", desc := "(I)I" } : Jvm.MethodName) prog_1_method_3_code (3 : Nat) (Option.some Jvm.ClassFile.FieldType.int)) ∈ lwW := lwW_in 702 (by decide +kernel) rfl
theorem w_703 : (Jvm.Cond.methodLink "DoubleTurns" (125 : Nat) ({ cls := "DoubleTurns", name := "forgetReasons", desc := "()V" } : Jvm.MethodName)) ∈ lwW := lwW_in 703 (by decide +kernel) rfl
theorem w_705 : (Jvm.Cond.instanceMethod ({ cls := "DoubleTurns", name := "forgetReasons", desc := "()V" } : Jvm.MethodName)) ∈ lwW := lwW_in 705 (by decide +kernel) rfl
theorem w_706 : (Jvm.Cond.code ({ cls := "DoubleTurns", name := "forgetReasons", desc := "()V" } : Jvm.MethodName) prog_1_method_37_code (2 : Nat) (Option.none : Option Jvm.ClassFile.FieldType)) ∈ lwW := lwW_in 706 (by decide +kernel) rfl
theorem w_707 : (Jvm.Cond.methodLink "DoubleTurns" (128 : Nat) ({ cls := "DoubleTurns", name := "needBetween", desc := "(III)V" } : Jvm.MethodName)) ∈ lwW := lwW_in 707 (by decide +kernel) rfl
theorem w_709 : (Jvm.Cond.instanceMethod ({ cls := "DoubleTurns", name := "needBetween", desc := "(III)V" } : Jvm.MethodName)) ∈ lwW := lwW_in 709 (by decide +kernel) rfl
theorem w_710 : (Jvm.Cond.code ({ cls := "DoubleTurns", name := "needBetween", desc := "(III)V" } : Jvm.MethodName) prog_1_method_35_code (4 : Nat) (Option.none : Option Jvm.ClassFile.FieldType)) ∈ lwW := lwW_in 710 (by decide +kernel) rfl
theorem w_711 : (Jvm.Cond.classLink "DoubleTurns" (166 : Nat) "java/lang/IllegalArgumentException") ∈ lwW := lwW_in 711 (by decide +kernel) rfl
theorem w_778 : (Jvm.Cond.methodLink "DoubleTurns" (132 : Nat) ({ cls := "DoubleTurns$Reader", name := "read", desc := "(ILDoubleTurns$Closing;)Z" } : Jvm.MethodName)) ∈ lwW := lwW_in 778 (by decide +kernel) rfl
theorem w_779 : (Jvm.Cond.instanceMethod ({ cls := "DoubleTurns$Reader", name := "read", desc := "(ILDoubleTurns$Closing;)Z" } : Jvm.MethodName)) ∈ lwW := lwW_in 779 (by decide +kernel) rfl
theorem w_780 : (Jvm.Cond.selects "DoubleTurns$Reader" ({ cls := "DoubleTurns$Reader", name := "read", desc := "(ILDoubleTurns$Closing;)Z" } : Jvm.MethodName) ({ cls := "DoubleTurns$Reader", name := "read", desc := "(ILDoubleTurns$Closing;)Z" } : Jvm.MethodName)) ∈ lwW := lwW_in 780 (by decide +kernel) rfl
theorem w_781 : (Jvm.Cond.code ({ cls := "DoubleTurns$Reader", name := "read", desc := "(ILDoubleTurns$Closing;)Z" } : Jvm.MethodName) prog_9_method_2_code (4 : Nat) (Option.some Jvm.ClassFile.FieldType.boolean)) ∈ lwW := lwW_in 781 (by decide +kernel) rfl
theorem w_783 : (Jvm.Cond.methodLink "DoubleTurns$Reader" (34 : Nat) ({ cls := "DoubleTurns$Reader", name := "readWord", desc := "(Ljava/lang/String;)Z" } : Jvm.MethodName)) ∈ lwW := lwW_in 783 (by decide +kernel) rfl
theorem w_785 : (Jvm.Cond.instanceMethod ({ cls := "DoubleTurns$Reader", name := "readWord", desc := "(Ljava/lang/String;)Z" } : Jvm.MethodName)) ∈ lwW := lwW_in 785 (by decide +kernel) rfl
theorem w_786 : (Jvm.Cond.code ({ cls := "DoubleTurns$Reader", name := "readWord", desc := "(Ljava/lang/String;)Z" } : Jvm.MethodName) prog_9_method_7_code (5 : Nat) (Option.some Jvm.ClassFile.FieldType.boolean)) ∈ lwW := lwW_in 786 (by decide +kernel) rfl
theorem w_787 : (Jvm.Cond.methodLink "DoubleTurns$Reader" (52 : Nat) ({ cls := "DoubleTurns$Reader", name := "skipBlanks", desc := "()V" } : Jvm.MethodName)) ∈ lwW := lwW_in 787 (by decide +kernel) rfl
theorem w_789 : (Jvm.Cond.instanceMethod ({ cls := "DoubleTurns$Reader", name := "skipBlanks", desc := "()V" } : Jvm.MethodName)) ∈ lwW := lwW_in 789 (by decide +kernel) rfl
theorem w_790 : (Jvm.Cond.code ({ cls := "DoubleTurns$Reader", name := "skipBlanks", desc := "()V" } : Jvm.MethodName) prog_9_method_9_code (1 : Nat) (Option.none : Option Jvm.ClassFile.FieldType)) ∈ lwW := lwW_in 790 (by decide +kernel) rfl
theorem w_791 : (Jvm.Cond.methodLink "DoubleTurns$Reader" (88 : Nat) ({ cls := "DoubleTurns$Reader", name := "here", desc := "()I" } : Jvm.MethodName)) ∈ lwW := lwW_in 791 (by decide +kernel) rfl
theorem w_793 : (Jvm.Cond.instanceMethod ({ cls := "DoubleTurns$Reader", name := "here", desc := "()I" } : Jvm.MethodName)) ∈ lwW := lwW_in 793 (by decide +kernel) rfl
theorem w_794 : (Jvm.Cond.code ({ cls := "DoubleTurns$Reader", name := "here", desc := "()I" } : Jvm.MethodName) prog_9_method_10_code (1 : Nat) (Option.some Jvm.ClassFile.FieldType.int)) ∈ lwW := lwW_in 794 (by decide +kernel) rfl
theorem w_795 : (Jvm.Cond.methodLink "DoubleTurns$Reader" (94 : Nat) ({ cls := "DoubleTurns$Reader", name := "isSmallLetter", desc := "(I)Z" } : Jvm.MethodName)) ∈ lwW := lwW_in 795 (by decide +kernel) rfl
theorem w_796 : (Jvm.Cond.static ({ cls := "DoubleTurns$Reader", name := "isSmallLetter", desc := "(I)Z" } : Jvm.MethodName)) ∈ lwW := lwW_in 796 (by decide +kernel) rfl
theorem w_797 : (Jvm.Cond.code ({ cls := "DoubleTurns$Reader", name := "isSmallLetter", desc := "(I)Z" } : Jvm.MethodName) prog_9_method_13_code (1 : Nat) (Option.some Jvm.ClassFile.FieldType.boolean)) ∈ lwW := lwW_in 797 (by decide +kernel) rfl
theorem w_798 : (Jvm.Cond.methodLink "DoubleTurns$Reader" (97 : Nat) ({ cls := "java/lang/String", name := "length", desc := "()I" } : Jvm.MethodName)) ∈ lwW := lwW_in 798 (by decide +kernel) rfl
theorem w_799 : (Jvm.Cond.instanceMethod ({ cls := "java/lang/String", name := "length", desc := "()I" } : Jvm.MethodName)) ∈ lwW := lwW_in 799 (by decide +kernel) rfl
theorem w_800 : (Jvm.Cond.selects "java/lang/String" ({ cls := "java/lang/String", name := "length", desc := "()I" } : Jvm.MethodName) ({ cls := "java/lang/String", name := "length", desc := "()I" } : Jvm.MethodName)) ∈ lwW := lwW_in 800 (by decide +kernel) rfl
theorem w_801 : (Jvm.Cond.code ({ cls := "java/lang/String", name := "length", desc := "()I" } : Jvm.MethodName) prog_23_method_54_code (1 : Nat) (Option.some Jvm.ClassFile.FieldType.int)) ∈ lwW := lwW_in 801 (by decide +kernel) rfl
theorem w_802 : (Jvm.Cond.methodLink "java/lang/String" (335 : Nat) ({ cls := "java/lang/String", name := "coder", desc := "()B" } : Jvm.MethodName)) ∈ lwW := lwW_in 802 (by decide +kernel) rfl
theorem w_803 : (Jvm.Cond.instanceMethod ({ cls := "java/lang/String", name := "coder", desc := "()B" } : Jvm.MethodName)) ∈ lwW := lwW_in 803 (by decide +kernel) rfl
theorem w_804 : (Jvm.Cond.selects "java/lang/String" ({ cls := "java/lang/String", name := "coder", desc := "()B" } : Jvm.MethodName) ({ cls := "java/lang/String", name := "coder", desc := "()B" } : Jvm.MethodName)) ∈ lwW := lwW_in 804 (by decide +kernel) rfl
theorem w_805 : (Jvm.Cond.code ({ cls := "java/lang/String", name := "coder", desc := "()B" } : Jvm.MethodName) prog_23_method_152_code (1 : Nat) (Option.some Jvm.ClassFile.FieldType.byte)) ∈ lwW := lwW_in 805 (by decide +kernel) rfl
theorem w_806 : (Jvm.Cond.fieldLink "java/lang/String" (38 : Nat) "java/lang/String" "COMPACT_STRINGS" "Z") ∈ lwW := lwW_in 806 (by decide +kernel) rfl
theorem w_808 : (Jvm.Cond.methodLink "DoubleTurns$Reader" (101 : Nat) ({ cls := "java/lang/String", name := "charAt", desc := "(I)C" } : Jvm.MethodName)) ∈ lwW := lwW_in 808 (by decide +kernel) rfl
theorem w_809 : (Jvm.Cond.instanceMethod ({ cls := "java/lang/String", name := "charAt", desc := "(I)C" } : Jvm.MethodName)) ∈ lwW := lwW_in 809 (by decide +kernel) rfl
theorem w_810 : (Jvm.Cond.selects "java/lang/String" ({ cls := "java/lang/String", name := "charAt", desc := "(I)C" } : Jvm.MethodName) ({ cls := "java/lang/String", name := "charAt", desc := "(I)C" } : Jvm.MethodName)) ∈ lwW := lwW_in 810 (by decide +kernel) rfl
theorem w_811 : (Jvm.Cond.code ({ cls := "java/lang/String", name := "charAt", desc := "(I)C" } : Jvm.MethodName) prog_23_method_56_code (2 : Nat) (Option.some Jvm.ClassFile.FieldType.char)) ∈ lwW := lwW_in 811 (by decide +kernel) rfl
theorem w_812 : (Jvm.Cond.methodLink "java/lang/String" (492 : Nat) ({ cls := "java/lang/String", name := "isLatin1", desc := "()Z" } : Jvm.MethodName)) ∈ lwW := lwW_in 812 (by decide +kernel) rfl
theorem w_813 : (Jvm.Cond.instanceMethod ({ cls := "java/lang/String", name := "isLatin1", desc := "()Z" } : Jvm.MethodName)) ∈ lwW := lwW_in 813 (by decide +kernel) rfl
theorem w_814 : (Jvm.Cond.selects "java/lang/String" ({ cls := "java/lang/String", name := "isLatin1", desc := "()Z" } : Jvm.MethodName) ({ cls := "java/lang/String", name := "isLatin1", desc := "()Z" } : Jvm.MethodName)) ∈ lwW := lwW_in 814 (by decide +kernel) rfl
theorem w_815 : (Jvm.Cond.code ({ cls := "java/lang/String", name := "isLatin1", desc := "()Z" } : Jvm.MethodName) prog_23_method_154_code (1 : Nat) (Option.some Jvm.ClassFile.FieldType.boolean)) ∈ lwW := lwW_in 815 (by decide +kernel) rfl
theorem w_816 : (Jvm.Cond.methodLink "java/lang/String" (495 : Nat) ({ cls := "java/lang/StringLatin1", name := "charAt", desc := "([BI)C" } : Jvm.MethodName)) ∈ lwW := lwW_in 816 (by decide +kernel) rfl
theorem w_817 : (Jvm.Cond.static ({ cls := "java/lang/StringLatin1", name := "charAt", desc := "([BI)C" } : Jvm.MethodName)) ∈ lwW := lwW_in 817 (by decide +kernel) rfl
theorem w_818 : (Jvm.Cond.code ({ cls := "java/lang/StringLatin1", name := "charAt", desc := "([BI)C" } : Jvm.MethodName) prog_24_method_2_code (2 : Nat) (Option.some Jvm.ClassFile.FieldType.char)) ∈ lwW := lwW_in 818 (by decide +kernel) rfl
theorem w_819 : (Jvm.Cond.methodLink "java/lang/StringLatin1" (9 : Nat) ({ cls := "java/lang/String", name := "checkIndex", desc := "(II)V" } : Jvm.MethodName)) ∈ lwW := lwW_in 819 (by decide +kernel) rfl
theorem w_820 : (Jvm.Cond.static ({ cls := "java/lang/String", name := "checkIndex", desc := "(II)V" } : Jvm.MethodName)) ∈ lwW := lwW_in 820 (by decide +kernel) rfl
theorem w_821 : (Jvm.Cond.code ({ cls := "java/lang/String", name := "checkIndex", desc := "(II)V" } : Jvm.MethodName) prog_23_method_155_code (2 : Nat) (Option.none : Option Jvm.ClassFile.FieldType)) ∈ lwW := lwW_in 821 (by decide +kernel) rfl
theorem w_822 : (Jvm.Cond.fieldLink "java/lang/String" (1053 : Nat) "jdk/internal/util/Preconditions" "SIOOBE_FORMATTER" "Ljava/util/function/BiFunction;") ∈ lwW := lwW_in 822 (by decide +kernel) rfl
theorem w_846 : (Jvm.Cond.methodLink "DoubleTurns$Reader" (62 : Nat) ({ cls := "DoubleTurns$Reader", name := "fail", desc := "(II)Z" } : Jvm.MethodName)) ∈ lwW := lwW_in 846 (by decide +kernel) rfl
theorem w_848 : (Jvm.Cond.instanceMethod ({ cls := "DoubleTurns$Reader", name := "fail", desc := "(II)Z" } : Jvm.MethodName)) ∈ lwW := lwW_in 848 (by decide +kernel) rfl
theorem w_849 : (Jvm.Cond.code ({ cls := "DoubleTurns$Reader", name := "fail", desc := "(II)Z" } : Jvm.MethodName) prog_9_method_11_code (3 : Nat) (Option.some Jvm.ClassFile.FieldType.boolean)) ∈ lwW := lwW_in 849 (by decide +kernel) rfl
theorem w_850 : (Jvm.Cond.methodLink "DoubleTurns$Reader" (38 : Nat) ({ cls := "DoubleTurns$Reader", name := "readRoot", desc := "(LDoubleTurns$Closing;)Z" } : Jvm.MethodName)) ∈ lwW := lwW_in 850 (by decide +kernel) rfl
theorem w_852 : (Jvm.Cond.instanceMethod ({ cls := "DoubleTurns$Reader", name := "readRoot", desc := "(LDoubleTurns$Closing;)Z" } : Jvm.MethodName)) ∈ lwW := lwW_in 852 (by decide +kernel) rfl
theorem w_853 : (Jvm.Cond.code ({ cls := "DoubleTurns$Reader", name := "readRoot", desc := "(LDoubleTurns$Closing;)Z" } : Jvm.MethodName) prog_9_method_3_code (4 : Nat) (Option.some Jvm.ClassFile.FieldType.boolean)) ∈ lwW := lwW_in 853 (by decide +kernel) rfl
theorem w_854 : (Jvm.Cond.methodLink "DoubleTurns$Reader" (58 : Nat) ({ cls := "DoubleTurns$Reader", name := "readNumber", desc := "()I" } : Jvm.MethodName)) ∈ lwW := lwW_in 854 (by decide +kernel) rfl
theorem w_856 : (Jvm.Cond.instanceMethod ({ cls := "DoubleTurns$Reader", name := "readNumber", desc := "()I" } : Jvm.MethodName)) ∈ lwW := lwW_in 856 (by decide +kernel) rfl
theorem w_857 : (Jvm.Cond.code ({ cls := "DoubleTurns$Reader", name := "readNumber", desc := "()I" } : Jvm.MethodName) prog_9_method_6_code (2 : Nat) (Option.some Jvm.ClassFile.FieldType.int)) ∈ lwW := lwW_in 857 (by decide +kernel) rfl
theorem w_858 : (Jvm.Cond.methodLink "DoubleTurns$Reader" (91 : Nat) ({ cls := "DoubleTurns$Reader", name := "isDigit", desc := "(I)Z" } : Jvm.MethodName)) ∈ lwW := lwW_in 858 (by decide +kernel) rfl
theorem w_859 : (Jvm.Cond.static ({ cls := "DoubleTurns$Reader", name := "isDigit", desc := "(I)Z" } : Jvm.MethodName)) ∈ lwW := lwW_in 859 (by decide +kernel) rfl
theorem w_860 : (Jvm.Cond.code ({ cls := "DoubleTurns$Reader", name := "isDigit", desc := "(I)Z" } : Jvm.MethodName) prog_9_method_12_code (1 : Nat) (Option.some Jvm.ClassFile.FieldType.boolean)) ∈ lwW := lwW_in 860 (by decide +kernel) rfl
theorem w_861 : (Jvm.Cond.methodLink "DoubleTurns$Reader" (66 : Nat) ({ cls := "DoubleTurns$Closing", name := "begin", desc := "(I)V" } : Jvm.MethodName)) ∈ lwW := lwW_in 861 (by decide +kernel) rfl
theorem w_862 : (Jvm.Cond.methodLink "DoubleTurns$Reader" (42 : Nat) ({ cls := "DoubleTurns$Reader", name := "readSign", desc := "(C)Z" } : Jvm.MethodName)) ∈ lwW := lwW_in 862 (by decide +kernel) rfl
theorem w_864 : (Jvm.Cond.instanceMethod ({ cls := "DoubleTurns$Reader", name := "readSign", desc := "(C)Z" } : Jvm.MethodName)) ∈ lwW := lwW_in 864 (by decide +kernel) rfl
theorem w_865 : (Jvm.Cond.code ({ cls := "DoubleTurns$Reader", name := "readSign", desc := "(C)Z" } : Jvm.MethodName) prog_9_method_8_code (2 : Nat) (Option.some Jvm.ClassFile.FieldType.boolean)) ∈ lwW := lwW_in 865 (by decide +kernel) rfl
theorem w_866 : (Jvm.Cond.methodLink "DoubleTurns$Reader" (46 : Nat) ({ cls := "DoubleTurns$Closing", name := "close", desc := "()Z" } : Jvm.MethodName)) ∈ lwW := lwW_in 866 (by decide +kernel) rfl
theorem w_867 : (Jvm.Cond.methodLink "DoubleTurns$Reader" (55 : Nat) ({ cls := "DoubleTurns$Reader", name := "readTurn", desc := "(LDoubleTurns$Closing;)Z" } : Jvm.MethodName)) ∈ lwW := lwW_in 867 (by decide +kernel) rfl
theorem w_869 : (Jvm.Cond.instanceMethod ({ cls := "DoubleTurns$Reader", name := "readTurn", desc := "(LDoubleTurns$Closing;)Z" } : Jvm.MethodName)) ∈ lwW := lwW_in 869 (by decide +kernel) rfl
theorem w_870 : (Jvm.Cond.code ({ cls := "DoubleTurns$Reader", name := "readTurn", desc := "(LDoubleTurns$Closing;)Z" } : Jvm.MethodName) prog_9_method_4_code (4 : Nat) (Option.some Jvm.ClassFile.FieldType.boolean)) ∈ lwW := lwW_in 870 (by decide +kernel) rfl
theorem w_872 : (Jvm.Cond.methodLink "DoubleTurns$Reader" (74 : Nat) ({ cls := "DoubleTurns$Reader", name := "readTold", desc := "(I)Z" } : Jvm.MethodName)) ∈ lwW := lwW_in 872 (by decide +kernel) rfl
theorem w_874 : (Jvm.Cond.instanceMethod ({ cls := "DoubleTurns$Reader", name := "readTold", desc := "(I)Z" } : Jvm.MethodName)) ∈ lwW := lwW_in 874 (by decide +kernel) rfl
theorem w_875 : (Jvm.Cond.code ({ cls := "DoubleTurns$Reader", name := "readTold", desc := "(I)Z" } : Jvm.MethodName) prog_9_method_5_code (5 : Nat) (Option.some Jvm.ClassFile.FieldType.boolean)) ∈ lwW := lwW_in 875 (by decide +kernel) rfl
theorem w_877 : (Jvm.Cond.static ({ cls := "DoubleTurns", name := "isTurn", desc := "([II)Z" } : Jvm.MethodName)) ∈ lwW := lwW_in 877 (by decide +kernel) rfl
theorem w_878 : (Jvm.Cond.code ({ cls := "DoubleTurns", name := "isTurn", desc := "([II)Z" } : Jvm.MethodName) prog_1_method_43_code (5 : Nat) (Option.some Jvm.ClassFile.FieldType.boolean)) ∈ lwW := lwW_in 878 (by decide +kernel) rfl
theorem w_879 : (Jvm.Cond.methodLink "DoubleTurns$Reader" (84 : Nat) ({ cls := "DoubleTurns$Closing", name := "tell", desc := "([II)V" } : Jvm.MethodName)) ∈ lwW := lwW_in 879 (by decide +kernel) rfl
theorem w_880 : (Jvm.Cond.methodLink "DoubleTurns" (136 : Nat) ({ cls := "DoubleTurns$Tape", name := "clear", desc := "()V" } : Jvm.MethodName)) ∈ lwW := lwW_in 880 (by decide +kernel) rfl
theorem w_881 : (Jvm.Cond.instanceMethod ({ cls := "DoubleTurns$Tape", name := "clear", desc := "()V" } : Jvm.MethodName)) ∈ lwW := lwW_in 881 (by decide +kernel) rfl
theorem w_882 : (Jvm.Cond.selects "DoubleTurns$Tape" ({ cls := "DoubleTurns$Tape", name := "clear", desc := "()V" } : Jvm.MethodName) ({ cls := "DoubleTurns$Tape", name := "clear", desc := "()V" } : Jvm.MethodName)) ∈ lwW := lwW_in 882 (by decide +kernel) rfl
theorem w_883 : (Jvm.Cond.code ({ cls := "DoubleTurns$Tape", name := "clear", desc := "()V" } : Jvm.MethodName) prog_12_method_4_code (1 : Nat) (Option.none : Option Jvm.ClassFile.FieldType)) ∈ lwW := lwW_in 883 (by decide +kernel) rfl
theorem w_884 : (Jvm.Cond.methodLink "DoubleTurns" (143 : Nat) ({ cls := "DoubleTurns", name := "keepReasons", desc := "()V" } : Jvm.MethodName)) ∈ lwW := lwW_in 884 (by decide +kernel) rfl
theorem w_886 : (Jvm.Cond.instanceMethod ({ cls := "DoubleTurns", name := "keepReasons", desc := "()V" } : Jvm.MethodName)) ∈ lwW := lwW_in 886 (by decide +kernel) rfl
theorem w_887 : (Jvm.Cond.code ({ cls := "DoubleTurns", name := "keepReasons", desc := "()V" } : Jvm.MethodName) prog_1_method_38_code (1 : Nat) (Option.none : Option Jvm.ClassFile.FieldType)) ∈ lwW := lwW_in 887 (by decide +kernel) rfl
theorem w_888 : (Jvm.Cond.methodLink "DoubleTurns" (146 : Nat) ({ cls := "DoubleTurns$Past", name := "clear", desc := "()V" } : Jvm.MethodName)) ∈ lwW := lwW_in 888 (by decide +kernel) rfl
theorem w_889 : (Jvm.Cond.instanceMethod ({ cls := "DoubleTurns$Past", name := "clear", desc := "()V" } : Jvm.MethodName)) ∈ lwW := lwW_in 889 (by decide +kernel) rfl
theorem w_890 : (Jvm.Cond.selects "DoubleTurns$Past" ({ cls := "DoubleTurns$Past", name := "clear", desc := "()V" } : Jvm.MethodName) ({ cls := "DoubleTurns$Past", name := "clear", desc := "()V" } : Jvm.MethodName)) ∈ lwW := lwW_in 890 (by decide +kernel) rfl
theorem w_891 : (Jvm.Cond.code ({ cls := "DoubleTurns$Past", name := "clear", desc := "()V" } : Jvm.MethodName) prog_7_method_4_code (1 : Nat) (Option.none : Option Jvm.ClassFile.FieldType)) ∈ lwW := lwW_in 891 (by decide +kernel) rfl
theorem w_892 : (Jvm.Cond.methodLink "DoubleTurnsLaw" (119 : Nat) ({ cls := "DoubleTurnsLaw", name := "add", desc := "(LDoubleTurns;IIIIIIII[J)I" } : Jvm.MethodName)) ∈ lwW := lwW_in 892 (by decide +kernel) rfl
theorem w_893 : (Jvm.Cond.static ({ cls := "DoubleTurnsLaw", name := "add", desc := "(LDoubleTurns;IIIIIIII[J)I" } : Jvm.MethodName)) ∈ lwW := lwW_in 893 (by decide +kernel) rfl
theorem w_894 : (Jvm.Cond.codeWith ({ cls := "DoubleTurnsLaw", name := "add", desc := "(LDoubleTurns;IIIIIIII[J)I" } : Jvm.MethodName) method_4_code (11 : Nat) (Option.some Jvm.ClassFile.FieldType.int) [((0 : Nat), (22 : Nat), (25 : Nat), (13 : Nat)), ((0 : Nat), (22 : Nat), (29 : Nat), (19 : Nat))]) ∈ lwW := lwW_in 894 (by decide +kernel) rfl
theorem w_895 : (Jvm.Cond.classLink "DoubleTurnsLaw" (19 : Nat) "java/lang/IllegalStateException") ∈ lwW := lwW_in 895 (by decide +kernel) rfl
theorem w_896 : (Jvm.Cond.methodLink "DoubleTurnsLaw" (15 : Nat) ({ cls := "DoubleTurns", name := "add", desc := "(IIIIIIII)I" } : Jvm.MethodName)) ∈ lwW := lwW_in 896 (by decide +kernel) rfl
theorem w_897 : (Jvm.Cond.instanceMethod ({ cls := "DoubleTurns", name := "add", desc := "(IIIIIIII)I" } : Jvm.MethodName)) ∈ lwW := lwW_in 897 (by decide +kernel) rfl
theorem w_898 : (Jvm.Cond.selects "DoubleTurns" ({ cls := "DoubleTurns", name := "add", desc := "(IIIIIIII)I" } : Jvm.MethodName) ({ cls := "DoubleTurns", name := "add", desc := "(IIIIIIII)I" } : Jvm.MethodName)) ∈ lwW := lwW_in 898 (by decide +kernel) rfl
theorem w_899 : (Jvm.Cond.code ({ cls := "DoubleTurns", name := "add", desc := "(IIIIIIII)I" } : Jvm.MethodName) prog_1_method_5_code (9 : Nat) (Option.some Jvm.ClassFile.FieldType.int)) ∈ lwW := lwW_in 899 (by decide +kernel) rfl
theorem w_900 : (Jvm.Cond.methodLink "DoubleTurns" (155 : Nat) ({ cls := "DoubleTurns", name := "canBeTold", desc := "([I)Z" } : Jvm.MethodName)) ∈ lwW := lwW_in 900 (by decide +kernel) rfl
theorem w_901 : (Jvm.Cond.static ({ cls := "DoubleTurns", name := "canBeTold", desc := "([I)Z" } : Jvm.MethodName)) ∈ lwW := lwW_in 901 (by decide +kernel) rfl
theorem w_902 : (Jvm.Cond.code ({ cls := "DoubleTurns", name := "canBeTold", desc := "([I)Z" } : Jvm.MethodName) prog_1_method_42_code (2 : Nat) (Option.some Jvm.ClassFile.FieldType.boolean)) ∈ lwW := lwW_in 902 (by decide +kernel) rfl
theorem w_903 : (Jvm.Cond.methodLink "DoubleTurns" (162 : Nat) ({ cls := "DoubleTurns", name := "isTurn", desc := "([II)Z" } : Jvm.MethodName)) ∈ lwW := lwW_in 903 (by decide +kernel) rfl
theorem w_905 : (Jvm.Cond.classLink "DoubleTurns" (176 : Nat) "java/lang/IllegalStateException") ∈ lwW := lwW_in 905 (by decide +kernel) rfl
theorem w_921 : (Jvm.Cond.methodLink "DoubleTurns" (181 : Nat) ({ cls := "DoubleTurns$Closing", name := "copyTold", desc := "(LDoubleTurns$Closing;)V" } : Jvm.MethodName)) ∈ lwW := lwW_in 921 (by decide +kernel) rfl
theorem w_922 : (Jvm.Cond.instanceMethod ({ cls := "DoubleTurns$Closing", name := "copyTold", desc := "(LDoubleTurns$Closing;)V" } : Jvm.MethodName)) ∈ lwW := lwW_in 922 (by decide +kernel) rfl
theorem w_923 : (Jvm.Cond.selects "DoubleTurns$Closing" ({ cls := "DoubleTurns$Closing", name := "copyTold", desc := "(LDoubleTurns$Closing;)V" } : Jvm.MethodName) ({ cls := "DoubleTurns$Closing", name := "copyTold", desc := "(LDoubleTurns$Closing;)V" } : Jvm.MethodName)) ∈ lwW := lwW_in 923 (by decide +kernel) rfl
theorem w_924 : (Jvm.Cond.code ({ cls := "DoubleTurns$Closing", name := "copyTold", desc := "(LDoubleTurns$Closing;)V" } : Jvm.MethodName) prog_3_method_3_code (3 : Nat) (Option.none : Option Jvm.ClassFile.FieldType)) ∈ lwW := lwW_in 924 (by decide +kernel) rfl
theorem w_925 : (Jvm.Cond.methodLink "DoubleTurns$Closing" (37 : Nat) ({ cls := "DoubleTurns$Closing", name := "begin", desc := "(I)V" } : Jvm.MethodName)) ∈ lwW := lwW_in 925 (by decide +kernel) rfl
theorem w_926 : (Jvm.Cond.methodLink "DoubleTurns$Closing" (41 : Nat) ({ cls := "DoubleTurns$Closing", name := "tell", desc := "([II)V" } : Jvm.MethodName)) ∈ lwW := lwW_in 926 (by decide +kernel) rfl
theorem w_927 : (Jvm.Cond.methodLink "DoubleTurns" (184 : Nat) ({ cls := "DoubleTurns$Closing", name := "tell", desc := "([II)V" } : Jvm.MethodName)) ∈ lwW := lwW_in 927 (by decide +kernel) rfl
theorem w_929 : (Jvm.Cond.methodLink "DoubleTurns" (190 : Nat) ({ cls := "DoubleTurns$Past", name := "keep", desc := "(LDoubleTurns$Closing;)V" } : Jvm.MethodName)) ∈ lwW := lwW_in 929 (by decide +kernel) rfl
theorem w_930 : (Jvm.Cond.instanceMethod ({ cls := "DoubleTurns$Past", name := "keep", desc := "(LDoubleTurns$Closing;)V" } : Jvm.MethodName)) ∈ lwW := lwW_in 930 (by decide +kernel) rfl
theorem w_931 : (Jvm.Cond.selects "DoubleTurns$Past" ({ cls := "DoubleTurns$Past", name := "keep", desc := "(LDoubleTurns$Closing;)V" } : Jvm.MethodName) ({ cls := "DoubleTurns$Past", name := "keep", desc := "(LDoubleTurns$Closing;)V" } : Jvm.MethodName)) ∈ lwW := lwW_in 931 (by decide +kernel) rfl
theorem w_932 : (Jvm.Cond.code ({ cls := "DoubleTurns$Past", name := "keep", desc := "(LDoubleTurns$Closing;)V" } : Jvm.MethodName) prog_7_method_2_code (2 : Nat) (Option.none : Option Jvm.ClassFile.FieldType)) ∈ lwW := lwW_in 932 (by decide +kernel) rfl
theorem w_933 : (Jvm.Cond.methodLink "DoubleTurns$Past" (22 : Nat) ({ cls := "DoubleTurns$Past", name := "forgetFirst", desc := "()V" } : Jvm.MethodName)) ∈ lwW := lwW_in 933 (by decide +kernel) rfl
theorem w_935 : (Jvm.Cond.instanceMethod ({ cls := "DoubleTurns$Past", name := "forgetFirst", desc := "()V" } : Jvm.MethodName)) ∈ lwW := lwW_in 935 (by decide +kernel) rfl
theorem w_936 : (Jvm.Cond.code ({ cls := "DoubleTurns$Past", name := "forgetFirst", desc := "()V" } : Jvm.MethodName) prog_7_method_5_code (1 : Nat) (Option.none : Option Jvm.ClassFile.FieldType)) ∈ lwW := lwW_in 936 (by decide +kernel) rfl
theorem w_937 : (Jvm.Cond.methodLink "DoubleTurns$Past" (28 : Nat) ({ cls := "java/lang/System", name := "arraycopy", desc := "(Ljava/lang/Object;ILjava/lang/Object;II)V" } : Jvm.MethodName)) ∈ lwW := lwW_in 937 (by decide +kernel) rfl
theorem w_938 : (Jvm.Cond.methodLink "DoubleTurnsLaw" (123 : Nat) ({ cls := "DoubleTurnsLaw", name := "drop", desc := "(LDoubleTurns;I[J)I" } : Jvm.MethodName)) ∈ lwW := lwW_in 938 (by decide +kernel) rfl
theorem w_939 : (Jvm.Cond.static ({ cls := "DoubleTurnsLaw", name := "drop", desc := "(LDoubleTurns;I[J)I" } : Jvm.MethodName)) ∈ lwW := lwW_in 939 (by decide +kernel) rfl
theorem w_940 : (Jvm.Cond.codeWith ({ cls := "DoubleTurnsLaw", name := "drop", desc := "(LDoubleTurns;I[J)I" } : Jvm.MethodName) method_5_code (4 : Nat) (Option.some Jvm.ClassFile.FieldType.int) [((0 : Nat), (9 : Nat), (12 : Nat), (24 : Nat))]) ∈ lwW := lwW_in 940 (by decide +kernel) rfl
theorem w_941 : (Jvm.Cond.classLink "DoubleTurnsLaw" (24 : Nat) "java/util/NoSuchElementException") ∈ lwW := lwW_in 941 (by decide +kernel) rfl
theorem w_942 : (Jvm.Cond.methodLink "DoubleTurnsLaw" (21 : Nat) ({ cls := "DoubleTurns", name := "drop", desc := "(I)I" } : Jvm.MethodName)) ∈ lwW := lwW_in 942 (by decide +kernel) rfl
theorem w_943 : (Jvm.Cond.instanceMethod ({ cls := "DoubleTurns", name := "drop", desc := "(I)I" } : Jvm.MethodName)) ∈ lwW := lwW_in 943 (by decide +kernel) rfl
theorem w_944 : (Jvm.Cond.selects "DoubleTurns" ({ cls := "DoubleTurns", name := "drop", desc := "(I)I" } : Jvm.MethodName) ({ cls := "DoubleTurns", name := "drop", desc := "(I)I" } : Jvm.MethodName)) ∈ lwW := lwW_in 944 (by decide +kernel) rfl
theorem w_945 : (Jvm.Cond.code ({ cls := "DoubleTurns", name := "drop", desc := "(I)I" } : Jvm.MethodName) prog_1_method_6_code (3 : Nat) (Option.some Jvm.ClassFile.FieldType.int)) ∈ lwW := lwW_in 945 (by decide +kernel) rfl
theorem w_946 : (Jvm.Cond.methodLink "DoubleTurns" (193 : Nat) ({ cls := "DoubleTurns", name := "needIndex", desc := "(II)V" } : Jvm.MethodName)) ∈ lwW := lwW_in 946 (by decide +kernel) rfl
theorem w_948 : (Jvm.Cond.instanceMethod ({ cls := "DoubleTurns", name := "needIndex", desc := "(II)V" } : Jvm.MethodName)) ∈ lwW := lwW_in 948 (by decide +kernel) rfl
theorem w_949 : (Jvm.Cond.code ({ cls := "DoubleTurns", name := "needIndex", desc := "(II)V" } : Jvm.MethodName) prog_1_method_34_code (3 : Nat) (Option.none : Option Jvm.ClassFile.FieldType)) ∈ lwW := lwW_in 949 (by decide +kernel) rfl
theorem w_950 : (Jvm.Cond.classLink "DoubleTurns" (362 : Nat) "java/util/NoSuchElementException") ∈ lwW := lwW_in 950 (by decide +kernel) rfl
theorem w_966 : (Jvm.Cond.methodLink "DoubleTurnsLaw" (134 : Nat) ({ cls := "DoubleTurnsLaw", name := "told", desc := "(LDoubleTurns;I[J)I" } : Jvm.MethodName)) ∈ lwW := lwW_in 966 (by decide +kernel) rfl
theorem w_967 : (Jvm.Cond.static ({ cls := "DoubleTurnsLaw", name := "told", desc := "(LDoubleTurns;I[J)I" } : Jvm.MethodName)) ∈ lwW := lwW_in 967 (by decide +kernel) rfl
theorem w_968 : (Jvm.Cond.codeWith ({ cls := "DoubleTurnsLaw", name := "told", desc := "(LDoubleTurns;I[J)I" } : Jvm.MethodName) method_6_code (4 : Nat) (Option.some Jvm.ClassFile.FieldType.int) [((0 : Nat), (9 : Nat), (12 : Nat), (13 : Nat))]) ∈ lwW := lwW_in 968 (by decide +kernel) rfl
theorem w_969 : (Jvm.Cond.methodLink "DoubleTurnsLaw" (26 : Nat) ({ cls := "DoubleTurns", name := "told", desc := "(I)I" } : Jvm.MethodName)) ∈ lwW := lwW_in 969 (by decide +kernel) rfl
theorem w_970 : (Jvm.Cond.instanceMethod ({ cls := "DoubleTurns", name := "told", desc := "(I)I" } : Jvm.MethodName)) ∈ lwW := lwW_in 970 (by decide +kernel) rfl
theorem w_971 : (Jvm.Cond.selects "DoubleTurns" ({ cls := "DoubleTurns", name := "told", desc := "(I)I" } : Jvm.MethodName) ({ cls := "DoubleTurns", name := "told", desc := "(I)I" } : Jvm.MethodName)) ∈ lwW := lwW_in 971 (by decide +kernel) rfl
theorem w_972 : (Jvm.Cond.code ({ cls := "DoubleTurns", name := "told", desc := "(I)I" } : Jvm.MethodName) prog_1_method_9_code (2 : Nat) (Option.some Jvm.ClassFile.FieldType.int)) ∈ lwW := lwW_in 972 (by decide +kernel) rfl
theorem w_973 : (Jvm.Cond.methodLink "DoubleTurns" (204 : Nat) ({ cls := "DoubleTurns", name := "needCharacters", desc := "()V" } : Jvm.MethodName)) ∈ lwW := lwW_in 973 (by decide +kernel) rfl
theorem w_975 : (Jvm.Cond.instanceMethod ({ cls := "DoubleTurns", name := "needCharacters", desc := "()V" } : Jvm.MethodName)) ∈ lwW := lwW_in 975 (by decide +kernel) rfl
theorem w_976 : (Jvm.Cond.code ({ cls := "DoubleTurns", name := "needCharacters", desc := "()V" } : Jvm.MethodName) prog_1_method_40_code (2 : Nat) (Option.none : Option Jvm.ClassFile.FieldType)) ∈ lwW := lwW_in 976 (by decide +kernel) rfl
theorem w_977 : (Jvm.Cond.methodLink "DoubleTurns" (381 : Nat) ({ cls := "DoubleTurns$Characters", name := "begin", desc := "(LDoubleTurns$Group;LDoubleTurns$Closing;)V" } : Jvm.MethodName)) ∈ lwW := lwW_in 977 (by decide +kernel) rfl
theorem w_978 : (Jvm.Cond.instanceMethod ({ cls := "DoubleTurns$Characters", name := "begin", desc := "(LDoubleTurns$Group;LDoubleTurns$Closing;)V" } : Jvm.MethodName)) ∈ lwW := lwW_in 978 (by decide +kernel) rfl
theorem w_979 : (Jvm.Cond.selects "DoubleTurns$Characters" ({ cls := "DoubleTurns$Characters", name := "begin", desc := "(LDoubleTurns$Group;LDoubleTurns$Closing;)V" } : Jvm.MethodName) ({ cls := "DoubleTurns$Characters", name := "begin", desc := "(LDoubleTurns$Group;LDoubleTurns$Closing;)V" } : Jvm.MethodName)) ∈ lwW := lwW_in 979 (by decide +kernel) rfl
theorem w_980 : (Jvm.Cond.code ({ cls := "DoubleTurns$Characters", name := "begin", desc := "(LDoubleTurns$Group;LDoubleTurns$Closing;)V" } : Jvm.MethodName) prog_2_method_2_code (7 : Nat) (Option.none : Option Jvm.ClassFile.FieldType)) ∈ lwW := lwW_in 980 (by decide +kernel) rfl
theorem w_981 : (Jvm.Cond.methodLink "DoubleTurns$Characters" (53 : Nat) ({ cls := "DoubleTurns$Field", name := "choose", desc := "(III)V" } : Jvm.MethodName)) ∈ lwW := lwW_in 981 (by decide +kernel) rfl
theorem w_982 : (Jvm.Cond.instanceMethod ({ cls := "DoubleTurns$Field", name := "choose", desc := "(III)V" } : Jvm.MethodName)) ∈ lwW := lwW_in 982 (by decide +kernel) rfl
theorem w_983 : (Jvm.Cond.selects "DoubleTurns$Field" ({ cls := "DoubleTurns$Field", name := "choose", desc := "(III)V" } : Jvm.MethodName) ({ cls := "DoubleTurns$Field", name := "choose", desc := "(III)V" } : Jvm.MethodName)) ∈ lwW := lwW_in 983 (by decide +kernel) rfl
theorem w_984 : (Jvm.Cond.code ({ cls := "DoubleTurns$Field", name := "choose", desc := "(III)V" } : Jvm.MethodName) prog_4_method_2_code (5 : Nat) (Option.none : Option Jvm.ClassFile.FieldType)) ∈ lwW := lwW_in 984 (by decide +kernel) rfl
theorem w_985 : (Jvm.Cond.methodLink "DoubleTurns$Field" (18 : Nat) ({ cls := "DoubleTurns$Field", name := "isPrime", desc := "(I)Z" } : Jvm.MethodName)) ∈ lwW := lwW_in 985 (by decide +kernel) rfl
theorem w_986 : (Jvm.Cond.static ({ cls := "DoubleTurns$Field", name := "isPrime", desc := "(I)Z" } : Jvm.MethodName)) ∈ lwW := lwW_in 986 (by decide +kernel) rfl
theorem w_987 : (Jvm.Cond.code ({ cls := "DoubleTurns$Field", name := "isPrime", desc := "(I)Z" } : Jvm.MethodName) prog_4_method_6_code (2 : Nat) (Option.some Jvm.ClassFile.FieldType.boolean)) ∈ lwW := lwW_in 987 (by decide +kernel) rfl
theorem w_988 : (Jvm.Cond.methodLink "DoubleTurns$Field" (22 : Nat) ({ cls := "DoubleTurns$Field", name := "leastRoot", desc := "(II)I" } : Jvm.MethodName)) ∈ lwW := lwW_in 988 (by decide +kernel) rfl
theorem w_989 : (Jvm.Cond.static ({ cls := "DoubleTurns$Field", name := "leastRoot", desc := "(II)I" } : Jvm.MethodName)) ∈ lwW := lwW_in 989 (by decide +kernel) rfl
theorem w_990 : (Jvm.Cond.code ({ cls := "DoubleTurns$Field", name := "leastRoot", desc := "(II)I" } : Jvm.MethodName) prog_4_method_7_code (3 : Nat) (Option.some Jvm.ClassFile.FieldType.int)) ∈ lwW := lwW_in 990 (by decide +kernel) rfl
theorem w_991 : (Jvm.Cond.methodLink "DoubleTurns$Characters" (60 : Nat) ({ cls := "java/lang/Math", name := "min", desc := "(II)I" } : Jvm.MethodName)) ∈ lwW := lwW_in 991 (by decide +kernel) rfl
theorem w_992 : (Jvm.Cond.methodLink "DoubleTurns$Characters" (70 : Nat) ({ cls := "DoubleTurns$Field", name := "inverse", desc := "(I)I" } : Jvm.MethodName)) ∈ lwW := lwW_in 992 (by decide +kernel) rfl
theorem w_993 : (Jvm.Cond.instanceMethod ({ cls := "DoubleTurns$Field", name := "inverse", desc := "(I)I" } : Jvm.MethodName)) ∈ lwW := lwW_in 993 (by decide +kernel) rfl
theorem w_994 : (Jvm.Cond.selects "DoubleTurns$Field" ({ cls := "DoubleTurns$Field", name := "inverse", desc := "(I)I" } : Jvm.MethodName) ({ cls := "DoubleTurns$Field", name := "inverse", desc := "(I)I" } : Jvm.MethodName)) ∈ lwW := lwW_in 994 (by decide +kernel) rfl
theorem w_995 : (Jvm.Cond.code ({ cls := "DoubleTurns$Field", name := "inverse", desc := "(I)I" } : Jvm.MethodName) prog_4_method_5_code (5 : Nat) (Option.some Jvm.ClassFile.FieldType.int)) ∈ lwW := lwW_in 995 (by decide +kernel) rfl
theorem w_996 : (Jvm.Cond.methodLink "DoubleTurns$Field" (26 : Nat) ({ cls := "DoubleTurns$Field", name := "mod", desc := "(I)I" } : Jvm.MethodName)) ∈ lwW := lwW_in 996 (by decide +kernel) rfl
theorem w_997 : (Jvm.Cond.instanceMethod ({ cls := "DoubleTurns$Field", name := "mod", desc := "(I)I" } : Jvm.MethodName)) ∈ lwW := lwW_in 997 (by decide +kernel) rfl
theorem w_998 : (Jvm.Cond.selects "DoubleTurns$Field" ({ cls := "DoubleTurns$Field", name := "mod", desc := "(I)I" } : Jvm.MethodName) ({ cls := "DoubleTurns$Field", name := "mod", desc := "(I)I" } : Jvm.MethodName)) ∈ lwW := lwW_in 998 (by decide +kernel) rfl
theorem w_999 : (Jvm.Cond.code ({ cls := "DoubleTurns$Field", name := "mod", desc := "(I)I" } : Jvm.MethodName) prog_4_method_3_code (3 : Nat) (Option.some Jvm.ClassFile.FieldType.int)) ∈ lwW := lwW_in 999 (by decide +kernel) rfl
theorem w_1001 : (Jvm.Cond.methodLink "DoubleTurns$Characters" (88 : Nat) ({ cls := "DoubleTurns$Field", name := "mod", desc := "(I)I" } : Jvm.MethodName)) ∈ lwW := lwW_in 1001 (by decide +kernel) rfl
theorem w_1002 : (Jvm.Cond.methodLink "DoubleTurns$Characters" (91 : Nat) ({ cls := "DoubleTurns$Field", name := "times", desc := "(II)I" } : Jvm.MethodName)) ∈ lwW := lwW_in 1002 (by decide +kernel) rfl
theorem w_1003 : (Jvm.Cond.instanceMethod ({ cls := "DoubleTurns$Field", name := "times", desc := "(II)I" } : Jvm.MethodName)) ∈ lwW := lwW_in 1003 (by decide +kernel) rfl
theorem w_1004 : (Jvm.Cond.selects "DoubleTurns$Field" ({ cls := "DoubleTurns$Field", name := "times", desc := "(II)I" } : Jvm.MethodName) ({ cls := "DoubleTurns$Field", name := "times", desc := "(II)I" } : Jvm.MethodName)) ∈ lwW := lwW_in 1004 (by decide +kernel) rfl
theorem w_1005 : (Jvm.Cond.code ({ cls := "DoubleTurns$Field", name := "times", desc := "(II)I" } : Jvm.MethodName) prog_4_method_4_code (3 : Nat) (Option.some Jvm.ClassFile.FieldType.int)) ∈ lwW := lwW_in 1005 (by decide +kernel) rfl
theorem w_1006 : (Jvm.Cond.methodLink "DoubleTurns$Characters" (95 : Nat) ({ cls := "DoubleTurns$Group", name := "inverseClass", desc := "(I)I" } : Jvm.MethodName)) ∈ lwW := lwW_in 1006 (by decide +kernel) rfl
theorem w_1007 : (Jvm.Cond.instanceMethod ({ cls := "DoubleTurns$Group", name := "inverseClass", desc := "(I)I" } : Jvm.MethodName)) ∈ lwW := lwW_in 1007 (by decide +kernel) rfl
theorem w_1008 : (Jvm.Cond.selects "DoubleTurns$Group" ({ cls := "DoubleTurns$Group", name := "inverseClass", desc := "(I)I" } : Jvm.MethodName) ({ cls := "DoubleTurns$Group", name := "inverseClass", desc := "(I)I" } : Jvm.MethodName)) ∈ lwW := lwW_in 1008 (by decide +kernel) rfl
theorem w_1009 : (Jvm.Cond.code ({ cls := "DoubleTurns$Group", name := "inverseClass", desc := "(I)I" } : Jvm.MethodName) prog_6_method_9_code (2 : Nat) (Option.some Jvm.ClassFile.FieldType.int)) ∈ lwW := lwW_in 1009 (by decide +kernel) rfl
theorem w_1010 : (Jvm.Cond.methodLink "DoubleTurns" (384 : Nat) ({ cls := "DoubleTurns$Splitting", name := "begin", desc := "(LDoubleTurns$Group;)V" } : Jvm.MethodName)) ∈ lwW := lwW_in 1010 (by decide +kernel) rfl
theorem w_1011 : (Jvm.Cond.instanceMethod ({ cls := "DoubleTurns$Splitting", name := "begin", desc := "(LDoubleTurns$Group;)V" } : Jvm.MethodName)) ∈ lwW := lwW_in 1011 (by decide +kernel) rfl
theorem w_1012 : (Jvm.Cond.selects "DoubleTurns$Splitting" ({ cls := "DoubleTurns$Splitting", name := "begin", desc := "(LDoubleTurns$Group;)V" } : Jvm.MethodName) ({ cls := "DoubleTurns$Splitting", name := "begin", desc := "(LDoubleTurns$Group;)V" } : Jvm.MethodName)) ∈ lwW := lwW_in 1012 (by decide +kernel) rfl
theorem w_1013 : (Jvm.Cond.code ({ cls := "DoubleTurns$Splitting", name := "begin", desc := "(LDoubleTurns$Group;)V" } : Jvm.MethodName) prog_10_method_2_code (6 : Nat) (Option.none : Option Jvm.ClassFile.FieldType)) ∈ lwW := lwW_in 1013 (by decide +kernel) rfl
theorem w_1014 : (Jvm.Cond.methodLink "DoubleTurns$Splitting" (54 : Nat) ({ cls := "java/lang/Math", name := "min", desc := "(II)I" } : Jvm.MethodName)) ∈ lwW := lwW_in 1014 (by decide +kernel) rfl
theorem w_1016 : (Jvm.Cond.methodLink "DoubleTurns$Splitting" (74 : Nat) ({ cls := "DoubleTurns$Group", name := "times", desc := "(II)I" } : Jvm.MethodName)) ∈ lwW := lwW_in 1016 (by decide +kernel) rfl
theorem w_1017 : (Jvm.Cond.methodLink "DoubleTurns$Splitting" (80 : Nat) ({ cls := "DoubleTurns$Splitting", name := "placeOf", desc := "(III)I" } : Jvm.MethodName)) ∈ lwW := lwW_in 1017 (by decide +kernel) rfl
theorem w_1018 : (Jvm.Cond.static ({ cls := "DoubleTurns$Splitting", name := "placeOf", desc := "(III)I" } : Jvm.MethodName)) ∈ lwW := lwW_in 1018 (by decide +kernel) rfl
theorem w_1019 : (Jvm.Cond.code ({ cls := "DoubleTurns$Splitting", name := "placeOf", desc := "(III)I" } : Jvm.MethodName) prog_10_method_4_code (3 : Nat) (Option.some Jvm.ClassFile.FieldType.int)) ∈ lwW := lwW_in 1019 (by decide +kernel) rfl
theorem w_1020 : (Jvm.Cond.methodLink "DoubleTurns" (387 : Nat) ({ cls := "DoubleTurns$Splitting", name := "splitBy", desc := "(I)V" } : Jvm.MethodName)) ∈ lwW := lwW_in 1020 (by decide +kernel) rfl
theorem w_1021 : (Jvm.Cond.instanceMethod ({ cls := "DoubleTurns$Splitting", name := "splitBy", desc := "(I)V" } : Jvm.MethodName)) ∈ lwW := lwW_in 1021 (by decide +kernel) rfl
theorem w_1022 : (Jvm.Cond.selects "DoubleTurns$Splitting" ({ cls := "DoubleTurns$Splitting", name := "splitBy", desc := "(I)V" } : Jvm.MethodName) ({ cls := "DoubleTurns$Splitting", name := "splitBy", desc := "(I)V" } : Jvm.MethodName)) ∈ lwW := lwW_in 1022 (by decide +kernel) rfl
theorem w_1023 : (Jvm.Cond.code ({ cls := "DoubleTurns$Splitting", name := "splitBy", desc := "(I)V" } : Jvm.MethodName) prog_10_method_3_code (4 : Nat) (Option.none : Option Jvm.ClassFile.FieldType)) ∈ lwW := lwW_in 1023 (by decide +kernel) rfl
theorem w_1024 : (Jvm.Cond.methodLink "DoubleTurns$Splitting" (93 : Nat) ({ cls := "DoubleTurns$Splitting", name := "fillTable", desc := "(I)V" } : Jvm.MethodName)) ∈ lwW := lwW_in 1024 (by decide +kernel) rfl
theorem w_1026 : (Jvm.Cond.instanceMethod ({ cls := "DoubleTurns$Splitting", name := "fillTable", desc := "(I)V" } : Jvm.MethodName)) ∈ lwW := lwW_in 1026 (by decide +kernel) rfl
theorem w_1027 : (Jvm.Cond.code ({ cls := "DoubleTurns$Splitting", name := "fillTable", desc := "(I)V" } : Jvm.MethodName) prog_10_method_5_code (6 : Nat) (Option.none : Option Jvm.ClassFile.FieldType)) ∈ lwW := lwW_in 1027 (by decide +kernel) rfl
theorem w_1028 : (Jvm.Cond.methodLink "DoubleTurns$Splitting" (115 : Nat) ({ cls := "DoubleTurns$Splitting", name := "firstFilled", desc := "([I)I" } : Jvm.MethodName)) ∈ lwW := lwW_in 1028 (by decide +kernel) rfl
theorem w_1030 : (Jvm.Cond.instanceMethod ({ cls := "DoubleTurns$Splitting", name := "firstFilled", desc := "([I)I" } : Jvm.MethodName)) ∈ lwW := lwW_in 1030 (by decide +kernel) rfl
theorem w_1031 : (Jvm.Cond.code ({ cls := "DoubleTurns$Splitting", name := "firstFilled", desc := "([I)I" } : Jvm.MethodName) prog_10_method_6_code (3 : Nat) (Option.some Jvm.ClassFile.FieldType.int)) ∈ lwW := lwW_in 1031 (by decide +kernel) rfl
theorem w_1032 : (Jvm.Cond.methodLink "DoubleTurns$Splitting" (119 : Nat) ({ cls := "DoubleTurns$Field", name := "mod", desc := "(I)I" } : Jvm.MethodName)) ∈ lwW := lwW_in 1032 (by decide +kernel) rfl
theorem w_1033 : (Jvm.Cond.methodLink "DoubleTurns$Splitting" (97 : Nat) ({ cls := "DoubleTurns$Splitting", name := "fillEquation", desc := "()V" } : Jvm.MethodName)) ∈ lwW := lwW_in 1033 (by decide +kernel) rfl
theorem w_1035 : (Jvm.Cond.instanceMethod ({ cls := "DoubleTurns$Splitting", name := "fillEquation", desc := "()V" } : Jvm.MethodName)) ∈ lwW := lwW_in 1035 (by decide +kernel) rfl
theorem w_1036 : (Jvm.Cond.code ({ cls := "DoubleTurns$Splitting", name := "fillEquation", desc := "()V" } : Jvm.MethodName) prog_10_method_7_code (5 : Nat) (Option.none : Option Jvm.ClassFile.FieldType)) ∈ lwW := lwW_in 1036 (by decide +kernel) rfl
theorem w_1037 : (Jvm.Cond.methodLink "DoubleTurns$Splitting" (123 : Nat) ({ cls := "DoubleTurns$Splitting", name := "multiplyColumn", desc := "(I)V" } : Jvm.MethodName)) ∈ lwW := lwW_in 1037 (by decide +kernel) rfl
theorem w_1039 : (Jvm.Cond.instanceMethod ({ cls := "DoubleTurns$Splitting", name := "multiplyColumn", desc := "(I)V" } : Jvm.MethodName)) ∈ lwW := lwW_in 1039 (by decide +kernel) rfl
theorem w_1040 : (Jvm.Cond.code ({ cls := "DoubleTurns$Splitting", name := "multiplyColumn", desc := "(I)V" } : Jvm.MethodName) prog_10_method_8_code (5 : Nat) (Option.none : Option Jvm.ClassFile.FieldType)) ∈ lwW := lwW_in 1040 (by decide +kernel) rfl
theorem w_1041 : (Jvm.Cond.methodLink "DoubleTurns$Splitting" (126 : Nat) ({ cls := "DoubleTurns$Field", name := "inverse", desc := "(I)I" } : Jvm.MethodName)) ∈ lwW := lwW_in 1041 (by decide +kernel) rfl
theorem w_1042 : (Jvm.Cond.methodLink "DoubleTurns$Splitting" (129 : Nat) ({ cls := "DoubleTurns$Field", name := "times", desc := "(II)I" } : Jvm.MethodName)) ∈ lwW := lwW_in 1042 (by decide +kernel) rfl
theorem w_1043 : (Jvm.Cond.methodLink "DoubleTurns$Splitting" (105 : Nat) ({ cls := "DoubleTurns$Splitting", name := "solves", desc := "(I)Z" } : Jvm.MethodName)) ∈ lwW := lwW_in 1043 (by decide +kernel) rfl
theorem w_1045 : (Jvm.Cond.instanceMethod ({ cls := "DoubleTurns$Splitting", name := "solves", desc := "(I)Z" } : Jvm.MethodName)) ∈ lwW := lwW_in 1045 (by decide +kernel) rfl
theorem w_1046 : (Jvm.Cond.code ({ cls := "DoubleTurns$Splitting", name := "solves", desc := "(I)Z" } : Jvm.MethodName) prog_10_method_9_code (4 : Nat) (Option.some Jvm.ClassFile.FieldType.boolean)) ∈ lwW := lwW_in 1046 (by decide +kernel) rfl
theorem w_1047 : (Jvm.Cond.methodLink "DoubleTurns$Splitting" (109 : Nat) ({ cls := "DoubleTurns$Splitting", name := "placeSpace", desc := "(I)V" } : Jvm.MethodName)) ∈ lwW := lwW_in 1047 (by decide +kernel) rfl
theorem w_1049 : (Jvm.Cond.instanceMethod ({ cls := "DoubleTurns$Splitting", name := "placeSpace", desc := "(I)V" } : Jvm.MethodName)) ∈ lwW := lwW_in 1049 (by decide +kernel) rfl
theorem w_1050 : (Jvm.Cond.code ({ cls := "DoubleTurns$Splitting", name := "placeSpace", desc := "(I)V" } : Jvm.MethodName) prog_10_method_10_code (4 : Nat) (Option.none : Option Jvm.ClassFile.FieldType)) ∈ lwW := lwW_in 1050 (by decide +kernel) rfl
theorem w_1051 : (Jvm.Cond.methodLink "DoubleTurns$Splitting" (130 : Nat) ({ cls := "DoubleTurns$Splitting", name := "clear", desc := "([[IIII)I" } : Jvm.MethodName)) ∈ lwW := lwW_in 1051 (by decide +kernel) rfl
theorem w_1053 : (Jvm.Cond.instanceMethod ({ cls := "DoubleTurns$Splitting", name := "clear", desc := "([[IIII)I" } : Jvm.MethodName)) ∈ lwW := lwW_in 1053 (by decide +kernel) rfl
theorem w_1054 : (Jvm.Cond.code ({ cls := "DoubleTurns$Splitting", name := "clear", desc := "([[IIII)I" } : Jvm.MethodName) prog_10_method_13_code (10 : Nat) (Option.some Jvm.ClassFile.FieldType.int)) ∈ lwW := lwW_in 1054 (by decide +kernel) rfl
theorem w_1055 : (Jvm.Cond.methodLink "DoubleTurns$Splitting" (144 : Nat) ({ cls := "DoubleTurns$Splitting", name := "stretchRow", desc := "([II)V" } : Jvm.MethodName)) ∈ lwW := lwW_in 1055 (by decide +kernel) rfl
theorem w_1057 : (Jvm.Cond.instanceMethod ({ cls := "DoubleTurns$Splitting", name := "stretchRow", desc := "([II)V" } : Jvm.MethodName)) ∈ lwW := lwW_in 1057 (by decide +kernel) rfl
theorem w_1058 : (Jvm.Cond.code ({ cls := "DoubleTurns$Splitting", name := "stretchRow", desc := "([II)V" } : Jvm.MethodName) prog_10_method_14_code (4 : Nat) (Option.none : Option Jvm.ClassFile.FieldType)) ∈ lwW := lwW_in 1058 (by decide +kernel) rfl
theorem w_1059 : (Jvm.Cond.methodLink "DoubleTurns$Splitting" (148 : Nat) ({ cls := "DoubleTurns$Splitting", name := "takeAway", desc := "([I[II)V" } : Jvm.MethodName)) ∈ lwW := lwW_in 1059 (by decide +kernel) rfl
theorem w_1061 : (Jvm.Cond.instanceMethod ({ cls := "DoubleTurns$Splitting", name := "takeAway", desc := "([I[II)V" } : Jvm.MethodName)) ∈ lwW := lwW_in 1061 (by decide +kernel) rfl
theorem w_1062 : (Jvm.Cond.code ({ cls := "DoubleTurns$Splitting", name := "takeAway", desc := "([I[II)V" } : Jvm.MethodName) prog_10_method_15_code (5 : Nat) (Option.none : Option Jvm.ClassFile.FieldType)) ∈ lwW := lwW_in 1062 (by decide +kernel) rfl
theorem w_1063 : (Jvm.Cond.methodLink "DoubleTurns$Splitting" (134 : Nat) ({ cls := "DoubleTurns$Splitting", name := "mixRows", desc := "([I[I)V" } : Jvm.MethodName)) ∈ lwW := lwW_in 1063 (by decide +kernel) rfl
theorem w_1065 : (Jvm.Cond.instanceMethod ({ cls := "DoubleTurns$Splitting", name := "mixRows", desc := "([I[I)V" } : Jvm.MethodName)) ∈ lwW := lwW_in 1065 (by decide +kernel) rfl
theorem w_1066 : (Jvm.Cond.code ({ cls := "DoubleTurns$Splitting", name := "mixRows", desc := "([I[I)V" } : Jvm.MethodName) prog_10_method_11_code (6 : Nat) (Option.none : Option Jvm.ClassFile.FieldType)) ∈ lwW := lwW_in 1066 (by decide +kernel) rfl
theorem w_1067 : (Jvm.Cond.methodLink "DoubleTurns$Splitting" (112 : Nat) ({ cls := "DoubleTurns$Splitting", name := "takeParts", desc := "()V" } : Jvm.MethodName)) ∈ lwW := lwW_in 1067 (by decide +kernel) rfl
theorem w_1069 : (Jvm.Cond.instanceMethod ({ cls := "DoubleTurns$Splitting", name := "takeParts", desc := "()V" } : Jvm.MethodName)) ∈ lwW := lwW_in 1069 (by decide +kernel) rfl
theorem w_1070 : (Jvm.Cond.code ({ cls := "DoubleTurns$Splitting", name := "takeParts", desc := "()V" } : Jvm.MethodName) prog_10_method_12_code (2 : Nat) (Option.none : Option Jvm.ClassFile.FieldType)) ∈ lwW := lwW_in 1070 (by decide +kernel) rfl
theorem w_1071 : (Jvm.Cond.methodLink "DoubleTurns$Splitting" (138 : Nat) ({ cls := "java/lang/System", name := "arraycopy", desc := "(Ljava/lang/Object;ILjava/lang/Object;II)V" } : Jvm.MethodName)) ∈ lwW := lwW_in 1071 (by decide +kernel) rfl
theorem w_1072 : (Jvm.Cond.methodLink "DoubleTurns" (393 : Nat) ({ cls := "DoubleTurns$Characters", name := "take", desc := "([[I)V" } : Jvm.MethodName)) ∈ lwW := lwW_in 1072 (by decide +kernel) rfl
theorem w_1073 : (Jvm.Cond.instanceMethod ({ cls := "DoubleTurns$Characters", name := "take", desc := "([[I)V" } : Jvm.MethodName)) ∈ lwW := lwW_in 1073 (by decide +kernel) rfl
theorem w_1074 : (Jvm.Cond.selects "DoubleTurns$Characters" ({ cls := "DoubleTurns$Characters", name := "take", desc := "([[I)V" } : Jvm.MethodName) ({ cls := "DoubleTurns$Characters", name := "take", desc := "([[I)V" } : Jvm.MethodName)) ∈ lwW := lwW_in 1074 (by decide +kernel) rfl
theorem w_1075 : (Jvm.Cond.code ({ cls := "DoubleTurns$Characters", name := "take", desc := "([[I)V" } : Jvm.MethodName) prog_2_method_3_code (3 : Nat) (Option.none : Option Jvm.ClassFile.FieldType)) ∈ lwW := lwW_in 1075 (by decide +kernel) rfl
theorem w_1076 : (Jvm.Cond.methodLink "DoubleTurns$Characters" (98 : Nat) ({ cls := "DoubleTurns$Characters", name := "fillCharacter", desc := "(I[I)V" } : Jvm.MethodName)) ∈ lwW := lwW_in 1076 (by decide +kernel) rfl
theorem w_1078 : (Jvm.Cond.instanceMethod ({ cls := "DoubleTurns$Characters", name := "fillCharacter", desc := "(I[I)V" } : Jvm.MethodName)) ∈ lwW := lwW_in 1078 (by decide +kernel) rfl
theorem w_1079 : (Jvm.Cond.code ({ cls := "DoubleTurns$Characters", name := "fillCharacter", desc := "(I[I)V" } : Jvm.MethodName) prog_2_method_4_code (7 : Nat) (Option.none : Option Jvm.ClassFile.FieldType)) ∈ lwW := lwW_in 1079 (by decide +kernel) rfl
theorem w_1080 : (Jvm.Cond.methodLink "DoubleTurns$Characters" (105 : Nat) ({ cls := "DoubleTurns$Characters", name := "degreeBy", desc := "(I)I" } : Jvm.MethodName)) ∈ lwW := lwW_in 1080 (by decide +kernel) rfl
theorem w_1082 : (Jvm.Cond.instanceMethod ({ cls := "DoubleTurns$Characters", name := "degreeBy", desc := "(I)I" } : Jvm.MethodName)) ∈ lwW := lwW_in 1082 (by decide +kernel) rfl
theorem w_1083 : (Jvm.Cond.code ({ cls := "DoubleTurns$Characters", name := "degreeBy", desc := "(I)I" } : Jvm.MethodName) prog_2_method_5_code (3 : Nat) (Option.some Jvm.ClassFile.FieldType.int)) ∈ lwW := lwW_in 1083 (by decide +kernel) rfl
theorem w_1084 : (Jvm.Cond.methodLink "DoubleTurns$Characters" (102 : Nat) ({ cls := "DoubleTurns$Characters", name := "sort", desc := "()V" } : Jvm.MethodName)) ∈ lwW := lwW_in 1084 (by decide +kernel) rfl
theorem w_1086 : (Jvm.Cond.instanceMethod ({ cls := "DoubleTurns$Characters", name := "sort", desc := "()V" } : Jvm.MethodName)) ∈ lwW := lwW_in 1086 (by decide +kernel) rfl
theorem w_1087 : (Jvm.Cond.code ({ cls := "DoubleTurns$Characters", name := "sort", desc := "()V" } : Jvm.MethodName) prog_2_method_6_code (5 : Nat) (Option.none : Option Jvm.ClassFile.FieldType)) ∈ lwW := lwW_in 1087 (by decide +kernel) rfl
theorem w_1088 : (Jvm.Cond.methodLink "DoubleTurns$Characters" (108 : Nat) ({ cls := "DoubleTurns$Characters", name := "comesAhead", desc := "(II)Z" } : Jvm.MethodName)) ∈ lwW := lwW_in 1088 (by decide +kernel) rfl
theorem w_1090 : (Jvm.Cond.instanceMethod ({ cls := "DoubleTurns$Characters", name := "comesAhead", desc := "(II)Z" } : Jvm.MethodName)) ∈ lwW := lwW_in 1090 (by decide +kernel) rfl
theorem w_1091 : (Jvm.Cond.code ({ cls := "DoubleTurns$Characters", name := "comesAhead", desc := "(II)Z" } : Jvm.MethodName) prog_2_method_7_code (4 : Nat) (Option.some Jvm.ClassFile.FieldType.boolean)) ∈ lwW := lwW_in 1091 (by decide +kernel) rfl
theorem w_1092 : (Jvm.Cond.methodLink "DoubleTurns$Characters" (112 : Nat) ({ cls := "DoubleTurns$Characters", name := "isOneEverywhere", desc := "(I)Z" } : Jvm.MethodName)) ∈ lwW := lwW_in 1092 (by decide +kernel) rfl
theorem w_1094 : (Jvm.Cond.instanceMethod ({ cls := "DoubleTurns$Characters", name := "isOneEverywhere", desc := "(I)Z" } : Jvm.MethodName)) ∈ lwW := lwW_in 1094 (by decide +kernel) rfl
theorem w_1095 : (Jvm.Cond.code ({ cls := "DoubleTurns$Characters", name := "isOneEverywhere", desc := "(I)Z" } : Jvm.MethodName) prog_2_method_8_code (3 : Nat) (Option.some Jvm.ClassFile.FieldType.boolean)) ∈ lwW := lwW_in 1095 (by decide +kernel) rfl
theorem w_1096 : (Jvm.Cond.methodLink "DoubleTurns" (396 : Nat) ({ cls := "DoubleTurns$Graph", name := "build", desc := "(LDoubleTurns$Characters;)V" } : Jvm.MethodName)) ∈ lwW := lwW_in 1096 (by decide +kernel) rfl
theorem w_1097 : (Jvm.Cond.instanceMethod ({ cls := "DoubleTurns$Graph", name := "build", desc := "(LDoubleTurns$Characters;)V" } : Jvm.MethodName)) ∈ lwW := lwW_in 1097 (by decide +kernel) rfl
theorem w_1098 : (Jvm.Cond.selects "DoubleTurns$Graph" ({ cls := "DoubleTurns$Graph", name := "build", desc := "(LDoubleTurns$Characters;)V" } : Jvm.MethodName) ({ cls := "DoubleTurns$Graph", name := "build", desc := "(LDoubleTurns$Characters;)V" } : Jvm.MethodName)) ∈ lwW := lwW_in 1098 (by decide +kernel) rfl
theorem w_1099 : (Jvm.Cond.code ({ cls := "DoubleTurns$Graph", name := "build", desc := "(LDoubleTurns$Characters;)V" } : Jvm.MethodName) prog_5_method_2_code (4 : Nat) (Option.none : Option Jvm.ClassFile.FieldType)) ∈ lwW := lwW_in 1099 (by decide +kernel) rfl
theorem w_1100 : (Jvm.Cond.methodLink "DoubleTurns$Graph" (33 : Nat) ({ cls := "DoubleTurns$Characters", name := "inProduct", desc := "([I[II)I" } : Jvm.MethodName)) ∈ lwW := lwW_in 1100 (by decide +kernel) rfl
theorem w_1101 : (Jvm.Cond.instanceMethod ({ cls := "DoubleTurns$Characters", name := "inProduct", desc := "([I[II)I" } : Jvm.MethodName)) ∈ lwW := lwW_in 1101 (by decide +kernel) rfl
theorem w_1102 : (Jvm.Cond.selects "DoubleTurns$Characters" ({ cls := "DoubleTurns$Characters", name := "inProduct", desc := "([I[II)I" } : Jvm.MethodName) ({ cls := "DoubleTurns$Characters", name := "inProduct", desc := "([I[II)I" } : Jvm.MethodName)) ∈ lwW := lwW_in 1102 (by decide +kernel) rfl
theorem w_1103 : (Jvm.Cond.code ({ cls := "DoubleTurns$Characters", name := "inProduct", desc := "([I[II)I" } : Jvm.MethodName) prog_2_method_10_code (5 : Nat) (Option.some Jvm.ClassFile.FieldType.int)) ∈ lwW := lwW_in 1103 (by decide +kernel) rfl
theorem w_1104 : (Jvm.Cond.methodLink "DoubleTurns$Characters" (116 : Nat) ({ cls := "DoubleTurns$Characters", name := "inRowOf", desc := "([II)I" } : Jvm.MethodName)) ∈ lwW := lwW_in 1104 (by decide +kernel) rfl
theorem w_1105 : (Jvm.Cond.instanceMethod ({ cls := "DoubleTurns$Characters", name := "inRowOf", desc := "([II)I" } : Jvm.MethodName)) ∈ lwW := lwW_in 1105 (by decide +kernel) rfl
theorem w_1106 : (Jvm.Cond.selects "DoubleTurns$Characters" ({ cls := "DoubleTurns$Characters", name := "inRowOf", desc := "([II)I" } : Jvm.MethodName) ({ cls := "DoubleTurns$Characters", name := "inRowOf", desc := "([II)I" } : Jvm.MethodName)) ∈ lwW := lwW_in 1106 (by decide +kernel) rfl
theorem w_1107 : (Jvm.Cond.code ({ cls := "DoubleTurns$Characters", name := "inRowOf", desc := "([II)I" } : Jvm.MethodName) prog_2_method_9_code (5 : Nat) (Option.some Jvm.ClassFile.FieldType.int)) ∈ lwW := lwW_in 1107 (by decide +kernel) rfl
theorem w_1108 : (Jvm.Cond.methodLink "DoubleTurns$Graph" (37 : Nat) ({ cls := "DoubleTurns$Graph", name := "shortenBy", desc := "(I)V" } : Jvm.MethodName)) ∈ lwW := lwW_in 1108 (by decide +kernel) rfl
theorem w_1110 : (Jvm.Cond.instanceMethod ({ cls := "DoubleTurns$Graph", name := "shortenBy", desc := "(I)V" } : Jvm.MethodName)) ∈ lwW := lwW_in 1110 (by decide +kernel) rfl
theorem w_1111 : (Jvm.Cond.code ({ cls := "DoubleTurns$Graph", name := "shortenBy", desc := "(I)V" } : Jvm.MethodName) prog_5_method_5_code (7 : Nat) (Option.none : Option Jvm.ClassFile.FieldType)) ∈ lwW := lwW_in 1111 (by decide +kernel) rfl
theorem w_1112 : (Jvm.Cond.methodLink "DoubleTurns" (217 : Nat) ({ cls := "DoubleTurns$Group", name := "kind", desc := "()I" } : Jvm.MethodName)) ∈ lwW := lwW_in 1112 (by decide +kernel) rfl
theorem w_1113 : (Jvm.Cond.instanceMethod ({ cls := "DoubleTurns$Group", name := "kind", desc := "()I" } : Jvm.MethodName)) ∈ lwW := lwW_in 1113 (by decide +kernel) rfl
theorem w_1114 : (Jvm.Cond.selects "DoubleTurns$Group" ({ cls := "DoubleTurns$Group", name := "kind", desc := "()I" } : Jvm.MethodName) ({ cls := "DoubleTurns$Group", name := "kind", desc := "()I" } : Jvm.MethodName)) ∈ lwW := lwW_in 1114 (by decide +kernel) rfl
theorem w_1115 : (Jvm.Cond.code ({ cls := "DoubleTurns$Group", name := "kind", desc := "()I" } : Jvm.MethodName) prog_6_method_11_code (1 : Nat) (Option.some Jvm.ClassFile.FieldType.int)) ∈ lwW := lwW_in 1115 (by decide +kernel) rfl
theorem w_1116 : (Jvm.Cond.methodLink "DoubleTurns" (221 : Nat) ({ cls := "DoubleTurns$Group", name := "kindNumber", desc := "()I" } : Jvm.MethodName)) ∈ lwW := lwW_in 1116 (by decide +kernel) rfl
theorem w_1117 : (Jvm.Cond.instanceMethod ({ cls := "DoubleTurns$Group", name := "kindNumber", desc := "()I" } : Jvm.MethodName)) ∈ lwW := lwW_in 1117 (by decide +kernel) rfl
theorem w_1118 : (Jvm.Cond.selects "DoubleTurns$Group" ({ cls := "DoubleTurns$Group", name := "kindNumber", desc := "()I" } : Jvm.MethodName) ({ cls := "DoubleTurns$Group", name := "kindNumber", desc := "()I" } : Jvm.MethodName)) ∈ lwW := lwW_in 1118 (by decide +kernel) rfl
theorem w_1119 : (Jvm.Cond.code ({ cls := "DoubleTurns$Group", name := "kindNumber", desc := "()I" } : Jvm.MethodName) prog_6_method_12_code (1 : Nat) (Option.some Jvm.ClassFile.FieldType.int)) ∈ lwW := lwW_in 1119 (by decide +kernel) rfl
theorem w_1120 : (Jvm.Cond.methodLink "DoubleTurns$Group" (101 : Nat) ({ cls := "DoubleTurns$Group", name := "kind", desc := "()I" } : Jvm.MethodName)) ∈ lwW := lwW_in 1120 (by decide +kernel) rfl
theorem w_1121 : (Jvm.Cond.methodLink "DoubleTurns" (224 : Nat) ({ cls := "DoubleTurns$Group", name := "halves", desc := "()I" } : Jvm.MethodName)) ∈ lwW := lwW_in 1121 (by decide +kernel) rfl
theorem w_1122 : (Jvm.Cond.instanceMethod ({ cls := "DoubleTurns$Group", name := "halves", desc := "()I" } : Jvm.MethodName)) ∈ lwW := lwW_in 1122 (by decide +kernel) rfl
theorem w_1123 : (Jvm.Cond.selects "DoubleTurns$Group" ({ cls := "DoubleTurns$Group", name := "halves", desc := "()I" } : Jvm.MethodName) ({ cls := "DoubleTurns$Group", name := "halves", desc := "()I" } : Jvm.MethodName)) ∈ lwW := lwW_in 1123 (by decide +kernel) rfl
theorem w_1124 : (Jvm.Cond.code ({ cls := "DoubleTurns$Group", name := "halves", desc := "()I" } : Jvm.MethodName) prog_6_method_10_code (1 : Nat) (Option.some Jvm.ClassFile.FieldType.int)) ∈ lwW := lwW_in 1124 (by decide +kernel) rfl
theorem w_1125 : (Jvm.Cond.methodLink "DoubleTurns" (236 : Nat) ({ cls := "DoubleTurns$Graph", name := "diagram", desc := "()I" } : Jvm.MethodName)) ∈ lwW := lwW_in 1125 (by decide +kernel) rfl
theorem w_1126 : (Jvm.Cond.instanceMethod ({ cls := "DoubleTurns$Graph", name := "diagram", desc := "()I" } : Jvm.MethodName)) ∈ lwW := lwW_in 1126 (by decide +kernel) rfl
theorem w_1127 : (Jvm.Cond.selects "DoubleTurns$Graph" ({ cls := "DoubleTurns$Graph", name := "diagram", desc := "()I" } : Jvm.MethodName) ({ cls := "DoubleTurns$Graph", name := "diagram", desc := "()I" } : Jvm.MethodName)) ∈ lwW := lwW_in 1127 (by decide +kernel) rfl
theorem w_1128 : (Jvm.Cond.code ({ cls := "DoubleTurns$Graph", name := "diagram", desc := "()I" } : Jvm.MethodName) prog_5_method_4_code (2 : Nat) (Option.some Jvm.ClassFile.FieldType.int)) ∈ lwW := lwW_in 1128 (by decide +kernel) rfl
theorem w_1129 : (Jvm.Cond.methodLink "DoubleTurns$Graph" (41 : Nat) ({ cls := "DoubleTurns$Graph", name := "countWith", desc := "(I)I" } : Jvm.MethodName)) ∈ lwW := lwW_in 1129 (by decide +kernel) rfl
theorem w_1130 : (Jvm.Cond.instanceMethod ({ cls := "DoubleTurns$Graph", name := "countWith", desc := "(I)I" } : Jvm.MethodName)) ∈ lwW := lwW_in 1130 (by decide +kernel) rfl
theorem w_1131 : (Jvm.Cond.selects "DoubleTurns$Graph" ({ cls := "DoubleTurns$Graph", name := "countWith", desc := "(I)I" } : Jvm.MethodName) ({ cls := "DoubleTurns$Graph", name := "countWith", desc := "(I)I" } : Jvm.MethodName)) ∈ lwW := lwW_in 1131 (by decide +kernel) rfl
theorem w_1132 : (Jvm.Cond.code ({ cls := "DoubleTurns$Graph", name := "countWith", desc := "(I)I" } : Jvm.MethodName) prog_5_method_3_code (6 : Nat) (Option.some Jvm.ClassFile.FieldType.int)) ∈ lwW := lwW_in 1132 (by decide +kernel) rfl
theorem w_1133 : (Jvm.Cond.methodLink "DoubleTurnsLaw" (137 : Nat) ({ cls := "DoubleTurnsLaw", name := "element", desc := "(LDoubleTurns;II[J)I" } : Jvm.MethodName)) ∈ lwW := lwW_in 1133 (by decide +kernel) rfl
theorem w_1134 : (Jvm.Cond.static ({ cls := "DoubleTurnsLaw", name := "element", desc := "(LDoubleTurns;II[J)I" } : Jvm.MethodName)) ∈ lwW := lwW_in 1134 (by decide +kernel) rfl
theorem w_1135 : (Jvm.Cond.codeWith ({ cls := "DoubleTurnsLaw", name := "element", desc := "(LDoubleTurns;II[J)I" } : Jvm.MethodName) method_7_code (5 : Nat) (Option.some Jvm.ClassFile.FieldType.int) [((0 : Nat), (10 : Nat), (13 : Nat), (24 : Nat)), ((0 : Nat), (10 : Nat), (17 : Nat), (13 : Nat))]) ∈ lwW := lwW_in 1135 (by decide +kernel) rfl
theorem w_1136 : (Jvm.Cond.methodLink "DoubleTurnsLaw" (29 : Nat) ({ cls := "DoubleTurns", name := "element", desc := "(II)I" } : Jvm.MethodName)) ∈ lwW := lwW_in 1136 (by decide +kernel) rfl
theorem w_1137 : (Jvm.Cond.instanceMethod ({ cls := "DoubleTurns", name := "element", desc := "(II)I" } : Jvm.MethodName)) ∈ lwW := lwW_in 1137 (by decide +kernel) rfl
theorem w_1138 : (Jvm.Cond.selects "DoubleTurns" ({ cls := "DoubleTurns", name := "element", desc := "(II)I" } : Jvm.MethodName) ({ cls := "DoubleTurns", name := "element", desc := "(II)I" } : Jvm.MethodName)) ∈ lwW := lwW_in 1138 (by decide +kernel) rfl
theorem w_1139 : (Jvm.Cond.code ({ cls := "DoubleTurns", name := "element", desc := "(II)I" } : Jvm.MethodName) prog_1_method_10_code (3 : Nat) (Option.some Jvm.ClassFile.FieldType.int)) ∈ lwW := lwW_in 1139 (by decide +kernel) rfl
theorem w_1140 : (Jvm.Cond.methodLink "DoubleTurnsLaw" (145 : Nat) ({ cls := "DoubleTurnsLaw", name := "product", desc := "(LDoubleTurns;II[J)I" } : Jvm.MethodName)) ∈ lwW := lwW_in 1140 (by decide +kernel) rfl
theorem w_1141 : (Jvm.Cond.static ({ cls := "DoubleTurnsLaw", name := "product", desc := "(LDoubleTurns;II[J)I" } : Jvm.MethodName)) ∈ lwW := lwW_in 1141 (by decide +kernel) rfl
theorem w_1142 : (Jvm.Cond.codeWith ({ cls := "DoubleTurnsLaw", name := "product", desc := "(LDoubleTurns;II[J)I" } : Jvm.MethodName) method_8_code (5 : Nat) (Option.some Jvm.ClassFile.FieldType.int) [((0 : Nat), (10 : Nat), (13 : Nat), (24 : Nat))]) ∈ lwW := lwW_in 1142 (by decide +kernel) rfl
theorem w_1143 : (Jvm.Cond.methodLink "DoubleTurnsLaw" (33 : Nat) ({ cls := "DoubleTurns", name := "product", desc := "(II)I" } : Jvm.MethodName)) ∈ lwW := lwW_in 1143 (by decide +kernel) rfl
theorem w_1144 : (Jvm.Cond.instanceMethod ({ cls := "DoubleTurns", name := "product", desc := "(II)I" } : Jvm.MethodName)) ∈ lwW := lwW_in 1144 (by decide +kernel) rfl
theorem w_1145 : (Jvm.Cond.selects "DoubleTurns" ({ cls := "DoubleTurns", name := "product", desc := "(II)I" } : Jvm.MethodName) ({ cls := "DoubleTurns", name := "product", desc := "(II)I" } : Jvm.MethodName)) ∈ lwW := lwW_in 1145 (by decide +kernel) rfl
theorem w_1146 : (Jvm.Cond.code ({ cls := "DoubleTurns", name := "product", desc := "(II)I" } : Jvm.MethodName) prog_1_method_12_code (3 : Nat) (Option.some Jvm.ClassFile.FieldType.int)) ∈ lwW := lwW_in 1146 (by decide +kernel) rfl
theorem w_1147 : (Jvm.Cond.methodLink "DoubleTurns" (260 : Nat) ({ cls := "DoubleTurns$Group", name := "times", desc := "(II)I" } : Jvm.MethodName)) ∈ lwW := lwW_in 1147 (by decide +kernel) rfl
theorem w_1148 : (Jvm.Cond.methodLink "DoubleTurnsLaw" (148 : Nat) ({ cls := "DoubleTurnsLaw", name := "power", desc := "(LDoubleTurns;II[J)I" } : Jvm.MethodName)) ∈ lwW := lwW_in 1148 (by decide +kernel) rfl
theorem w_1149 : (Jvm.Cond.static ({ cls := "DoubleTurnsLaw", name := "power", desc := "(LDoubleTurns;II[J)I" } : Jvm.MethodName)) ∈ lwW := lwW_in 1149 (by decide +kernel) rfl
theorem w_1150 : (Jvm.Cond.codeWith ({ cls := "DoubleTurnsLaw", name := "power", desc := "(LDoubleTurns;II[J)I" } : Jvm.MethodName) method_9_code (5 : Nat) (Option.some Jvm.ClassFile.FieldType.int) [((0 : Nat), (10 : Nat), (13 : Nat), (24 : Nat))]) ∈ lwW := lwW_in 1150 (by decide +kernel) rfl
theorem w_1151 : (Jvm.Cond.methodLink "DoubleTurnsLaw" (36 : Nat) ({ cls := "DoubleTurns", name := "power", desc := "(II)I" } : Jvm.MethodName)) ∈ lwW := lwW_in 1151 (by decide +kernel) rfl
theorem w_1152 : (Jvm.Cond.instanceMethod ({ cls := "DoubleTurns", name := "power", desc := "(II)I" } : Jvm.MethodName)) ∈ lwW := lwW_in 1152 (by decide +kernel) rfl
theorem w_1153 : (Jvm.Cond.selects "DoubleTurns" ({ cls := "DoubleTurns", name := "power", desc := "(II)I" } : Jvm.MethodName) ({ cls := "DoubleTurns", name := "power", desc := "(II)I" } : Jvm.MethodName)) ∈ lwW := lwW_in 1153 (by decide +kernel) rfl
theorem w_1154 : (Jvm.Cond.code ({ cls := "DoubleTurns", name := "power", desc := "(II)I" } : Jvm.MethodName) prog_1_method_13_code (7 : Nat) (Option.some Jvm.ClassFile.FieldType.int)) ∈ lwW := lwW_in 1154 (by decide +kernel) rfl
theorem w_1155 : (Jvm.Cond.methodLink "DoubleTurns" (264 : Nat) ({ cls := "java/lang/Math", name := "floorMod", desc := "(II)I" } : Jvm.MethodName)) ∈ lwW := lwW_in 1155 (by decide +kernel) rfl
theorem w_1156 : (Jvm.Cond.static ({ cls := "java/lang/Math", name := "floorMod", desc := "(II)I" } : Jvm.MethodName)) ∈ lwW := lwW_in 1156 (by decide +kernel) rfl
theorem w_1157 : (Jvm.Cond.code ({ cls := "java/lang/Math", name := "floorMod", desc := "(II)I" } : Jvm.MethodName) prog_21_method_50_code (3 : Nat) (Option.some Jvm.ClassFile.FieldType.int)) ∈ lwW := lwW_in 1157 (by decide +kernel) rfl
theorem w_1158 : (Jvm.Cond.methodLink "DoubleTurnsLaw" (151 : Nat) ({ cls := "DoubleTurnsLaw", name := "of", desc := "(LDoubleTurns;II[J)I" } : Jvm.MethodName)) ∈ lwW := lwW_in 1158 (by decide +kernel) rfl
theorem w_1159 : (Jvm.Cond.static ({ cls := "DoubleTurnsLaw", name := "of", desc := "(LDoubleTurns;II[J)I" } : Jvm.MethodName)) ∈ lwW := lwW_in 1159 (by decide +kernel) rfl
theorem w_1160 : (Jvm.Cond.codeWith ({ cls := "DoubleTurnsLaw", name := "of", desc := "(LDoubleTurns;II[J)I" } : Jvm.MethodName) method_10_code (5 : Nat) (Option.some Jvm.ClassFile.FieldType.int) [((0 : Nat), (10 : Nat), (13 : Nat), (24 : Nat)), ((0 : Nat), (10 : Nat), (17 : Nat), (13 : Nat))]) ∈ lwW := lwW_in 1160 (by decide +kernel) rfl
theorem w_1161 : (Jvm.Cond.methodLink "DoubleTurnsLaw" (39 : Nat) ({ cls := "DoubleTurns", name := "of", desc := "(II)I" } : Jvm.MethodName)) ∈ lwW := lwW_in 1161 (by decide +kernel) rfl
theorem w_1162 : (Jvm.Cond.instanceMethod ({ cls := "DoubleTurns", name := "of", desc := "(II)I" } : Jvm.MethodName)) ∈ lwW := lwW_in 1162 (by decide +kernel) rfl
theorem w_1163 : (Jvm.Cond.selects "DoubleTurns" ({ cls := "DoubleTurns", name := "of", desc := "(II)I" } : Jvm.MethodName) ({ cls := "DoubleTurns", name := "of", desc := "(II)I" } : Jvm.MethodName)) ∈ lwW := lwW_in 1163 (by decide +kernel) rfl
theorem w_1164 : (Jvm.Cond.code ({ cls := "DoubleTurns", name := "of", desc := "(II)I" } : Jvm.MethodName) prog_1_method_14_code (4 : Nat) (Option.some Jvm.ClassFile.FieldType.int)) ∈ lwW := lwW_in 1164 (by decide +kernel) rfl
theorem w_1165 : (Jvm.Cond.methodLink "DoubleTurns" (275 : Nat) ({ cls := "DoubleTurns$Group", name := "inverseClass", desc := "(I)I" } : Jvm.MethodName)) ∈ lwW := lwW_in 1165 (by decide +kernel) rfl
theorem w_1166 : (Jvm.Cond.methodLink "DoubleTurnsLaw" (154 : Nat) ({ cls := "DoubleTurnsLaw", name := "couples", desc := "(LDoubleTurns;III[J)I" } : Jvm.MethodName)) ∈ lwW := lwW_in 1166 (by decide +kernel) rfl
theorem w_1167 : (Jvm.Cond.static ({ cls := "DoubleTurnsLaw", name := "couples", desc := "(LDoubleTurns;III[J)I" } : Jvm.MethodName)) ∈ lwW := lwW_in 1167 (by decide +kernel) rfl
theorem w_1168 : (Jvm.Cond.codeWith ({ cls := "DoubleTurnsLaw", name := "couples", desc := "(LDoubleTurns;III[J)I" } : Jvm.MethodName) method_11_code (6 : Nat) (Option.some Jvm.ClassFile.FieldType.int) [((0 : Nat), (12 : Nat), (15 : Nat), (24 : Nat))]) ∈ lwW := lwW_in 1168 (by decide +kernel) rfl
theorem w_1169 : (Jvm.Cond.methodLink "DoubleTurnsLaw" (42 : Nat) ({ cls := "DoubleTurns", name := "couples", desc := "(III)I" } : Jvm.MethodName)) ∈ lwW := lwW_in 1169 (by decide +kernel) rfl
theorem w_1170 : (Jvm.Cond.instanceMethod ({ cls := "DoubleTurns", name := "couples", desc := "(III)I" } : Jvm.MethodName)) ∈ lwW := lwW_in 1170 (by decide +kernel) rfl
theorem w_1171 : (Jvm.Cond.selects "DoubleTurns" ({ cls := "DoubleTurns", name := "couples", desc := "(III)I" } : Jvm.MethodName) ({ cls := "DoubleTurns", name := "couples", desc := "(III)I" } : Jvm.MethodName)) ∈ lwW := lwW_in 1171 (by decide +kernel) rfl
theorem w_1172 : (Jvm.Cond.code ({ cls := "DoubleTurns", name := "couples", desc := "(III)I" } : Jvm.MethodName) prog_1_method_15_code (4 : Nat) (Option.some Jvm.ClassFile.FieldType.int)) ∈ lwW := lwW_in 1172 (by decide +kernel) rfl
theorem w_1173 : (Jvm.Cond.methodLink "DoubleTurns" (282 : Nat) ({ cls := "DoubleTurns$Group", name := "countCouples", desc := "(III)I" } : Jvm.MethodName)) ∈ lwW := lwW_in 1173 (by decide +kernel) rfl
theorem w_1174 : (Jvm.Cond.instanceMethod ({ cls := "DoubleTurns$Group", name := "countCouples", desc := "(III)I" } : Jvm.MethodName)) ∈ lwW := lwW_in 1174 (by decide +kernel) rfl
theorem w_1175 : (Jvm.Cond.selects "DoubleTurns$Group" ({ cls := "DoubleTurns$Group", name := "countCouples", desc := "(III)I" } : Jvm.MethodName) ({ cls := "DoubleTurns$Group", name := "countCouples", desc := "(III)I" } : Jvm.MethodName)) ∈ lwW := lwW_in 1175 (by decide +kernel) rfl
theorem w_1176 : (Jvm.Cond.code ({ cls := "DoubleTurns$Group", name := "countCouples", desc := "(III)I" } : Jvm.MethodName) prog_6_method_13_code (7 : Nat) (Option.some Jvm.ClassFile.FieldType.int)) ∈ lwW := lwW_in 1176 (by decide +kernel) rfl
theorem w_1177 : (Jvm.Cond.methodLink "DoubleTurnsLaw" (158 : Nat) ({ cls := "DoubleTurnsLaw", name := "axes", desc := "(LDoubleTurns;I[J)I" } : Jvm.MethodName)) ∈ lwW := lwW_in 1177 (by decide +kernel) rfl
theorem w_1178 : (Jvm.Cond.static ({ cls := "DoubleTurnsLaw", name := "axes", desc := "(LDoubleTurns;I[J)I" } : Jvm.MethodName)) ∈ lwW := lwW_in 1178 (by decide +kernel) rfl
theorem w_1179 : (Jvm.Cond.codeWith ({ cls := "DoubleTurnsLaw", name := "axes", desc := "(LDoubleTurns;I[J)I" } : Jvm.MethodName) method_12_code (4 : Nat) (Option.some Jvm.ClassFile.FieldType.int) [((0 : Nat), (9 : Nat), (12 : Nat), (13 : Nat))]) ∈ lwW := lwW_in 1179 (by decide +kernel) rfl
theorem w_1180 : (Jvm.Cond.methodLink "DoubleTurnsLaw" (46 : Nat) ({ cls := "DoubleTurns", name := "axes", desc := "(I)I" } : Jvm.MethodName)) ∈ lwW := lwW_in 1180 (by decide +kernel) rfl
theorem w_1181 : (Jvm.Cond.instanceMethod ({ cls := "DoubleTurns", name := "axes", desc := "(I)I" } : Jvm.MethodName)) ∈ lwW := lwW_in 1181 (by decide +kernel) rfl
theorem w_1182 : (Jvm.Cond.selects "DoubleTurns" ({ cls := "DoubleTurns", name := "axes", desc := "(I)I" } : Jvm.MethodName) ({ cls := "DoubleTurns", name := "axes", desc := "(I)I" } : Jvm.MethodName)) ∈ lwW := lwW_in 1182 (by decide +kernel) rfl
theorem w_1183 : (Jvm.Cond.code ({ cls := "DoubleTurns", name := "axes", desc := "(I)I" } : Jvm.MethodName) prog_1_method_16_code (2 : Nat) (Option.some Jvm.ClassFile.FieldType.int)) ∈ lwW := lwW_in 1183 (by decide +kernel) rfl
theorem w_1184 : (Jvm.Cond.methodLink "DoubleTurns" (286 : Nat) ({ cls := "DoubleTurns$Group", name := "countAxes", desc := "(I)I" } : Jvm.MethodName)) ∈ lwW := lwW_in 1184 (by decide +kernel) rfl
theorem w_1185 : (Jvm.Cond.instanceMethod ({ cls := "DoubleTurns$Group", name := "countAxes", desc := "(I)I" } : Jvm.MethodName)) ∈ lwW := lwW_in 1185 (by decide +kernel) rfl
theorem w_1186 : (Jvm.Cond.selects "DoubleTurns$Group" ({ cls := "DoubleTurns$Group", name := "countAxes", desc := "(I)I" } : Jvm.MethodName) ({ cls := "DoubleTurns$Group", name := "countAxes", desc := "(I)I" } : Jvm.MethodName)) ∈ lwW := lwW_in 1186 (by decide +kernel) rfl
theorem w_1187 : (Jvm.Cond.code ({ cls := "DoubleTurns$Group", name := "countAxes", desc := "(I)I" } : Jvm.MethodName) prog_6_method_14_code (4 : Nat) (Option.some Jvm.ClassFile.FieldType.int)) ∈ lwW := lwW_in 1187 (by decide +kernel) rfl
theorem w_1188 : (Jvm.Cond.methodLink "DoubleTurns$Group" (105 : Nat) ({ cls := "DoubleTurns$Group", name := "halves", desc := "()I" } : Jvm.MethodName)) ∈ lwW := lwW_in 1188 (by decide +kernel) rfl
theorem w_1189 : (Jvm.Cond.methodLink "DoubleTurnsLaw" (161 : Nat) ({ cls := "DoubleTurnsLaw", name := "degree", desc := "(LDoubleTurns;I[J)I" } : Jvm.MethodName)) ∈ lwW := lwW_in 1189 (by decide +kernel) rfl
theorem w_1190 : (Jvm.Cond.static ({ cls := "DoubleTurnsLaw", name := "degree", desc := "(LDoubleTurns;I[J)I" } : Jvm.MethodName)) ∈ lwW := lwW_in 1190 (by decide +kernel) rfl
theorem w_1191 : (Jvm.Cond.codeWith ({ cls := "DoubleTurnsLaw", name := "degree", desc := "(LDoubleTurns;I[J)I" } : Jvm.MethodName) method_13_code (4 : Nat) (Option.some Jvm.ClassFile.FieldType.int) [((0 : Nat), (9 : Nat), (12 : Nat), (24 : Nat))]) ∈ lwW := lwW_in 1191 (by decide +kernel) rfl
theorem w_1192 : (Jvm.Cond.methodLink "DoubleTurnsLaw" (49 : Nat) ({ cls := "DoubleTurns", name := "degree", desc := "(I)I" } : Jvm.MethodName)) ∈ lwW := lwW_in 1192 (by decide +kernel) rfl
theorem w_1193 : (Jvm.Cond.instanceMethod ({ cls := "DoubleTurns", name := "degree", desc := "(I)I" } : Jvm.MethodName)) ∈ lwW := lwW_in 1193 (by decide +kernel) rfl
theorem w_1194 : (Jvm.Cond.selects "DoubleTurns" ({ cls := "DoubleTurns", name := "degree", desc := "(I)I" } : Jvm.MethodName) ({ cls := "DoubleTurns", name := "degree", desc := "(I)I" } : Jvm.MethodName)) ∈ lwW := lwW_in 1194 (by decide +kernel) rfl
theorem w_1195 : (Jvm.Cond.code ({ cls := "DoubleTurns", name := "degree", desc := "(I)I" } : Jvm.MethodName) prog_1_method_17_code (2 : Nat) (Option.some Jvm.ClassFile.FieldType.int)) ∈ lwW := lwW_in 1195 (by decide +kernel) rfl
theorem w_1196 : (Jvm.Cond.methodLink "DoubleTurnsLaw" (164 : Nat) ({ cls := "DoubleTurnsLaw", name := "value", desc := "(LDoubleTurns;II[J)I" } : Jvm.MethodName)) ∈ lwW := lwW_in 1196 (by decide +kernel) rfl
theorem w_1197 : (Jvm.Cond.static ({ cls := "DoubleTurnsLaw", name := "value", desc := "(LDoubleTurns;II[J)I" } : Jvm.MethodName)) ∈ lwW := lwW_in 1197 (by decide +kernel) rfl
theorem w_1198 : (Jvm.Cond.codeWith ({ cls := "DoubleTurnsLaw", name := "value", desc := "(LDoubleTurns;II[J)I" } : Jvm.MethodName) method_14_code (5 : Nat) (Option.some Jvm.ClassFile.FieldType.int) [((0 : Nat), (10 : Nat), (13 : Nat), (24 : Nat))]) ∈ lwW := lwW_in 1198 (by decide +kernel) rfl
theorem w_1199 : (Jvm.Cond.methodLink "DoubleTurnsLaw" (52 : Nat) ({ cls := "DoubleTurns", name := "value", desc := "(II)I" } : Jvm.MethodName)) ∈ lwW := lwW_in 1199 (by decide +kernel) rfl
theorem w_1200 : (Jvm.Cond.instanceMethod ({ cls := "DoubleTurns", name := "value", desc := "(II)I" } : Jvm.MethodName)) ∈ lwW := lwW_in 1200 (by decide +kernel) rfl
theorem w_1201 : (Jvm.Cond.selects "DoubleTurns" ({ cls := "DoubleTurns", name := "value", desc := "(II)I" } : Jvm.MethodName) ({ cls := "DoubleTurns", name := "value", desc := "(II)I" } : Jvm.MethodName)) ∈ lwW := lwW_in 1201 (by decide +kernel) rfl
theorem w_1202 : (Jvm.Cond.code ({ cls := "DoubleTurns", name := "value", desc := "(II)I" } : Jvm.MethodName) prog_1_method_18_code (3 : Nat) (Option.some Jvm.ClassFile.FieldType.int)) ∈ lwW := lwW_in 1202 (by decide +kernel) rfl
theorem w_1203 : (Jvm.Cond.methodLink "DoubleTurnsLaw" (167 : Nat) ({ cls := "DoubleTurnsLaw", name := "often", desc := "(LDoubleTurns;III[J)I" } : Jvm.MethodName)) ∈ lwW := lwW_in 1203 (by decide +kernel) rfl
theorem w_1204 : (Jvm.Cond.static ({ cls := "DoubleTurnsLaw", name := "often", desc := "(LDoubleTurns;III[J)I" } : Jvm.MethodName)) ∈ lwW := lwW_in 1204 (by decide +kernel) rfl
theorem w_1205 : (Jvm.Cond.codeWith ({ cls := "DoubleTurnsLaw", name := "often", desc := "(LDoubleTurns;III[J)I" } : Jvm.MethodName) method_15_code (6 : Nat) (Option.some Jvm.ClassFile.FieldType.int) [((0 : Nat), (12 : Nat), (15 : Nat), (24 : Nat))]) ∈ lwW := lwW_in 1205 (by decide +kernel) rfl
theorem w_1206 : (Jvm.Cond.methodLink "DoubleTurnsLaw" (55 : Nat) ({ cls := "DoubleTurns", name := "often", desc := "(III)I" } : Jvm.MethodName)) ∈ lwW := lwW_in 1206 (by decide +kernel) rfl
theorem w_1207 : (Jvm.Cond.instanceMethod ({ cls := "DoubleTurns", name := "often", desc := "(III)I" } : Jvm.MethodName)) ∈ lwW := lwW_in 1207 (by decide +kernel) rfl
theorem w_1208 : (Jvm.Cond.selects "DoubleTurns" ({ cls := "DoubleTurns", name := "often", desc := "(III)I" } : Jvm.MethodName) ({ cls := "DoubleTurns", name := "often", desc := "(III)I" } : Jvm.MethodName)) ∈ lwW := lwW_in 1208 (by decide +kernel) rfl
theorem w_1209 : (Jvm.Cond.code ({ cls := "DoubleTurns", name := "often", desc := "(III)I" } : Jvm.MethodName) prog_1_method_19_code (4 : Nat) (Option.some Jvm.ClassFile.FieldType.int)) ∈ lwW := lwW_in 1209 (by decide +kernel) rfl
theorem w_1210 : (Jvm.Cond.methodLink "DoubleTurns" (296 : Nat) ({ cls := "DoubleTurns$Characters", name := "inProduct", desc := "([I[II)I" } : Jvm.MethodName)) ∈ lwW := lwW_in 1210 (by decide +kernel) rfl
theorem w_1211 : (Jvm.Cond.methodLink "DoubleTurnsLaw" (170 : Nat) ({ cls := "DoubleTurnsLaw", name := "opposite", desc := "(LDoubleTurns;I[J)I" } : Jvm.MethodName)) ∈ lwW := lwW_in 1211 (by decide +kernel) rfl
theorem w_1212 : (Jvm.Cond.static ({ cls := "DoubleTurnsLaw", name := "opposite", desc := "(LDoubleTurns;I[J)I" } : Jvm.MethodName)) ∈ lwW := lwW_in 1212 (by decide +kernel) rfl
theorem w_1213 : (Jvm.Cond.codeWith ({ cls := "DoubleTurnsLaw", name := "opposite", desc := "(LDoubleTurns;I[J)I" } : Jvm.MethodName) method_16_code (4 : Nat) (Option.some Jvm.ClassFile.FieldType.int) [((0 : Nat), (9 : Nat), (12 : Nat), (24 : Nat))]) ∈ lwW := lwW_in 1213 (by decide +kernel) rfl
theorem w_1214 : (Jvm.Cond.methodLink "DoubleTurnsLaw" (58 : Nat) ({ cls := "DoubleTurns", name := "opposite", desc := "(I)I" } : Jvm.MethodName)) ∈ lwW := lwW_in 1214 (by decide +kernel) rfl
theorem w_1215 : (Jvm.Cond.instanceMethod ({ cls := "DoubleTurns", name := "opposite", desc := "(I)I" } : Jvm.MethodName)) ∈ lwW := lwW_in 1215 (by decide +kernel) rfl
theorem w_1216 : (Jvm.Cond.selects "DoubleTurns" ({ cls := "DoubleTurns", name := "opposite", desc := "(I)I" } : Jvm.MethodName) ({ cls := "DoubleTurns", name := "opposite", desc := "(I)I" } : Jvm.MethodName)) ∈ lwW := lwW_in 1216 (by decide +kernel) rfl
theorem w_1217 : (Jvm.Cond.code ({ cls := "DoubleTurns", name := "opposite", desc := "(I)I" } : Jvm.MethodName) prog_1_method_20_code (2 : Nat) (Option.some Jvm.ClassFile.FieldType.int)) ∈ lwW := lwW_in 1217 (by decide +kernel) rfl
theorem w_1218 : (Jvm.Cond.methodLink "DoubleTurns" (300 : Nat) ({ cls := "DoubleTurns$Characters", name := "oppositeOf", desc := "(I)I" } : Jvm.MethodName)) ∈ lwW := lwW_in 1218 (by decide +kernel) rfl
theorem w_1219 : (Jvm.Cond.instanceMethod ({ cls := "DoubleTurns$Characters", name := "oppositeOf", desc := "(I)I" } : Jvm.MethodName)) ∈ lwW := lwW_in 1219 (by decide +kernel) rfl
theorem w_1220 : (Jvm.Cond.selects "DoubleTurns$Characters" ({ cls := "DoubleTurns$Characters", name := "oppositeOf", desc := "(I)I" } : Jvm.MethodName) ({ cls := "DoubleTurns$Characters", name := "oppositeOf", desc := "(I)I" } : Jvm.MethodName)) ∈ lwW := lwW_in 1220 (by decide +kernel) rfl
theorem w_1221 : (Jvm.Cond.code ({ cls := "DoubleTurns$Characters", name := "oppositeOf", desc := "(I)I" } : Jvm.MethodName) prog_2_method_11_code (5 : Nat) (Option.some Jvm.ClassFile.FieldType.int)) ∈ lwW := lwW_in 1221 (by decide +kernel) rfl
theorem w_1222 : (Jvm.Cond.methodLink "DoubleTurnsLaw" (173 : Nat) ({ cls := "DoubleTurnsLaw", name := "ways", desc := "(LDoubleTurns;II[J)I" } : Jvm.MethodName)) ∈ lwW := lwW_in 1222 (by decide +kernel) rfl
theorem w_1223 : (Jvm.Cond.static ({ cls := "DoubleTurnsLaw", name := "ways", desc := "(LDoubleTurns;II[J)I" } : Jvm.MethodName)) ∈ lwW := lwW_in 1223 (by decide +kernel) rfl
theorem w_1224 : (Jvm.Cond.codeWith ({ cls := "DoubleTurnsLaw", name := "ways", desc := "(LDoubleTurns;II[J)I" } : Jvm.MethodName) method_17_code (5 : Nat) (Option.some Jvm.ClassFile.FieldType.int) [((0 : Nat), (10 : Nat), (13 : Nat), (24 : Nat))]) ∈ lwW := lwW_in 1224 (by decide +kernel) rfl
theorem w_1225 : (Jvm.Cond.methodLink "DoubleTurnsLaw" (61 : Nat) ({ cls := "DoubleTurns", name := "ways", desc := "(II)I" } : Jvm.MethodName)) ∈ lwW := lwW_in 1225 (by decide +kernel) rfl
theorem w_1226 : (Jvm.Cond.instanceMethod ({ cls := "DoubleTurns", name := "ways", desc := "(II)I" } : Jvm.MethodName)) ∈ lwW := lwW_in 1226 (by decide +kernel) rfl
theorem w_1227 : (Jvm.Cond.selects "DoubleTurns" ({ cls := "DoubleTurns", name := "ways", desc := "(II)I" } : Jvm.MethodName) ({ cls := "DoubleTurns", name := "ways", desc := "(II)I" } : Jvm.MethodName)) ∈ lwW := lwW_in 1227 (by decide +kernel) rfl
theorem w_1228 : (Jvm.Cond.code ({ cls := "DoubleTurns", name := "ways", desc := "(II)I" } : Jvm.MethodName) prog_1_method_21_code (3 : Nat) (Option.some Jvm.ClassFile.FieldType.int)) ∈ lwW := lwW_in 1228 (by decide +kernel) rfl
theorem w_1229 : (Jvm.Cond.methodLink "DoubleTurnsLaw" (176 : Nat) ({ cls := "DoubleTurnsLaw", name := "far", desc := "(LDoubleTurns;II[J)I" } : Jvm.MethodName)) ∈ lwW := lwW_in 1229 (by decide +kernel) rfl
theorem w_1230 : (Jvm.Cond.static ({ cls := "DoubleTurnsLaw", name := "far", desc := "(LDoubleTurns;II[J)I" } : Jvm.MethodName)) ∈ lwW := lwW_in 1230 (by decide +kernel) rfl
theorem w_1231 : (Jvm.Cond.codeWith ({ cls := "DoubleTurnsLaw", name := "far", desc := "(LDoubleTurns;II[J)I" } : Jvm.MethodName) method_18_code (5 : Nat) (Option.some Jvm.ClassFile.FieldType.int) [((0 : Nat), (10 : Nat), (13 : Nat), (24 : Nat))]) ∈ lwW := lwW_in 1231 (by decide +kernel) rfl
theorem w_1232 : (Jvm.Cond.methodLink "DoubleTurnsLaw" (64 : Nat) ({ cls := "DoubleTurns", name := "far", desc := "(II)I" } : Jvm.MethodName)) ∈ lwW := lwW_in 1232 (by decide +kernel) rfl
theorem w_1233 : (Jvm.Cond.instanceMethod ({ cls := "DoubleTurns", name := "far", desc := "(II)I" } : Jvm.MethodName)) ∈ lwW := lwW_in 1233 (by decide +kernel) rfl
theorem w_1234 : (Jvm.Cond.selects "DoubleTurns" ({ cls := "DoubleTurns", name := "far", desc := "(II)I" } : Jvm.MethodName) ({ cls := "DoubleTurns", name := "far", desc := "(II)I" } : Jvm.MethodName)) ∈ lwW := lwW_in 1234 (by decide +kernel) rfl
theorem w_1235 : (Jvm.Cond.code ({ cls := "DoubleTurns", name := "far", desc := "(II)I" } : Jvm.MethodName) prog_1_method_22_code (3 : Nat) (Option.some Jvm.ClassFile.FieldType.int)) ∈ lwW := lwW_in 1235 (by decide +kernel) rfl
theorem w_1236 : (Jvm.Cond.methodLink "DoubleTurnsLaw" (179 : Nat) ({ cls := "DoubleTurnsLaw", name := "withWays", desc := "(LDoubleTurns;I[J)I" } : Jvm.MethodName)) ∈ lwW := lwW_in 1236 (by decide +kernel) rfl
theorem w_1237 : (Jvm.Cond.static ({ cls := "DoubleTurnsLaw", name := "withWays", desc := "(LDoubleTurns;I[J)I" } : Jvm.MethodName)) ∈ lwW := lwW_in 1237 (by decide +kernel) rfl
theorem w_1238 : (Jvm.Cond.codeWith ({ cls := "DoubleTurnsLaw", name := "withWays", desc := "(LDoubleTurns;I[J)I" } : Jvm.MethodName) method_19_code (4 : Nat) (Option.some Jvm.ClassFile.FieldType.int) [((0 : Nat), (9 : Nat), (12 : Nat), (13 : Nat))]) ∈ lwW := lwW_in 1238 (by decide +kernel) rfl
theorem w_1239 : (Jvm.Cond.methodLink "DoubleTurnsLaw" (67 : Nat) ({ cls := "DoubleTurns", name := "withWays", desc := "(I)I" } : Jvm.MethodName)) ∈ lwW := lwW_in 1239 (by decide +kernel) rfl
theorem w_1240 : (Jvm.Cond.instanceMethod ({ cls := "DoubleTurns", name := "withWays", desc := "(I)I" } : Jvm.MethodName)) ∈ lwW := lwW_in 1240 (by decide +kernel) rfl
theorem w_1241 : (Jvm.Cond.selects "DoubleTurns" ({ cls := "DoubleTurns", name := "withWays", desc := "(I)I" } : Jvm.MethodName) ({ cls := "DoubleTurns", name := "withWays", desc := "(I)I" } : Jvm.MethodName)) ∈ lwW := lwW_in 1241 (by decide +kernel) rfl
theorem w_1242 : (Jvm.Cond.code ({ cls := "DoubleTurns", name := "withWays", desc := "(I)I" } : Jvm.MethodName) prog_1_method_23_code (2 : Nat) (Option.some Jvm.ClassFile.FieldType.int)) ∈ lwW := lwW_in 1242 (by decide +kernel) rfl
theorem w_1243 : (Jvm.Cond.methodLink "DoubleTurns" (310 : Nat) ({ cls := "DoubleTurns$Graph", name := "countWith", desc := "(I)I" } : Jvm.MethodName)) ∈ lwW := lwW_in 1243 (by decide +kernel) rfl
theorem w_1244 : (Jvm.Cond.methodLink "DoubleTurnsLaw" (182 : Nat) ({ cls := "DoubleTurnsLaw", name := "invariants", desc := "(LDoubleTurns;I[J)I" } : Jvm.MethodName)) ∈ lwW := lwW_in 1244 (by decide +kernel) rfl
theorem w_1245 : (Jvm.Cond.static ({ cls := "DoubleTurnsLaw", name := "invariants", desc := "(LDoubleTurns;I[J)I" } : Jvm.MethodName)) ∈ lwW := lwW_in 1245 (by decide +kernel) rfl
theorem w_1246 : (Jvm.Cond.codeWith ({ cls := "DoubleTurnsLaw", name := "invariants", desc := "(LDoubleTurns;I[J)I" } : Jvm.MethodName) method_20_code (4 : Nat) (Option.some Jvm.ClassFile.FieldType.int) [((0 : Nat), (9 : Nat), (12 : Nat), (13 : Nat))]) ∈ lwW := lwW_in 1246 (by decide +kernel) rfl
theorem w_1247 : (Jvm.Cond.methodLink "DoubleTurnsLaw" (70 : Nat) ({ cls := "DoubleTurns", name := "invariants", desc := "(I)I" } : Jvm.MethodName)) ∈ lwW := lwW_in 1247 (by decide +kernel) rfl
theorem w_1248 : (Jvm.Cond.instanceMethod ({ cls := "DoubleTurns", name := "invariants", desc := "(I)I" } : Jvm.MethodName)) ∈ lwW := lwW_in 1248 (by decide +kernel) rfl
theorem w_1249 : (Jvm.Cond.selects "DoubleTurns" ({ cls := "DoubleTurns", name := "invariants", desc := "(I)I" } : Jvm.MethodName) ({ cls := "DoubleTurns", name := "invariants", desc := "(I)I" } : Jvm.MethodName)) ∈ lwW := lwW_in 1249 (by decide +kernel) rfl
theorem w_1250 : (Jvm.Cond.code ({ cls := "DoubleTurns", name := "invariants", desc := "(I)I" } : Jvm.MethodName) prog_1_method_24_code (2 : Nat) (Option.some Jvm.ClassFile.FieldType.int)) ∈ lwW := lwW_in 1250 (by decide +kernel) rfl
theorem w_1251 : (Jvm.Cond.methodLink "DoubleTurns" (313 : Nat) ({ cls := "DoubleTurns$Powers", name := "countInvariants", desc := "(LDoubleTurns$Group;LDoubleTurns$Closing;I)I" } : Jvm.MethodName)) ∈ lwW := lwW_in 1251 (by decide +kernel) rfl
theorem w_1252 : (Jvm.Cond.instanceMethod ({ cls := "DoubleTurns$Powers", name := "countInvariants", desc := "(LDoubleTurns$Group;LDoubleTurns$Closing;I)I" } : Jvm.MethodName)) ∈ lwW := lwW_in 1252 (by decide +kernel) rfl
theorem w_1253 : (Jvm.Cond.selects "DoubleTurns$Powers" ({ cls := "DoubleTurns$Powers", name := "countInvariants", desc := "(LDoubleTurns$Group;LDoubleTurns$Closing;I)I" } : Jvm.MethodName) ({ cls := "DoubleTurns$Powers", name := "countInvariants", desc := "(LDoubleTurns$Group;LDoubleTurns$Closing;I)I" } : Jvm.MethodName)) ∈ lwW := lwW_in 1253 (by decide +kernel) rfl
theorem w_1254 : (Jvm.Cond.code ({ cls := "DoubleTurns$Powers", name := "countInvariants", desc := "(LDoubleTurns$Group;LDoubleTurns$Closing;I)I" } : Jvm.MethodName) prog_8_method_4_code (9 : Nat) (Option.some Jvm.ClassFile.FieldType.int)) ∈ lwW := lwW_in 1254 (by decide +kernel) rfl
theorem w_1256 : (Jvm.Cond.methodLink "DoubleTurns$Powers" (58 : Nat) ({ cls := "DoubleTurns$Powers", name := "doubledValue", desc := "(IIII)I" } : Jvm.MethodName)) ∈ lwW := lwW_in 1256 (by decide +kernel) rfl
theorem w_1257 : (Jvm.Cond.static ({ cls := "DoubleTurns$Powers", name := "doubledValue", desc := "(IIII)I" } : Jvm.MethodName)) ∈ lwW := lwW_in 1257 (by decide +kernel) rfl
theorem w_1258 : (Jvm.Cond.code ({ cls := "DoubleTurns$Powers", name := "doubledValue", desc := "(IIII)I" } : Jvm.MethodName) prog_8_method_7_code (11 : Nat) (Option.some Jvm.ClassFile.FieldType.int)) ∈ lwW := lwW_in 1258 (by decide +kernel) rfl
theorem w_1259 : (Jvm.Cond.methodLink "DoubleTurnsLaw" (185 : Nat) ({ cls := "DoubleTurnsLaw", name := "inRow", desc := "(LDoubleTurns;II[J)I" } : Jvm.MethodName)) ∈ lwW := lwW_in 1259 (by decide +kernel) rfl
theorem w_1260 : (Jvm.Cond.static ({ cls := "DoubleTurnsLaw", name := "inRow", desc := "(LDoubleTurns;II[J)I" } : Jvm.MethodName)) ∈ lwW := lwW_in 1260 (by decide +kernel) rfl
theorem w_1261 : (Jvm.Cond.codeWith ({ cls := "DoubleTurnsLaw", name := "inRow", desc := "(LDoubleTurns;II[J)I" } : Jvm.MethodName) method_21_code (5 : Nat) (Option.some Jvm.ClassFile.FieldType.int) [((0 : Nat), (10 : Nat), (13 : Nat), (24 : Nat)), ((0 : Nat), (10 : Nat), (17 : Nat), (13 : Nat))]) ∈ lwW := lwW_in 1261 (by decide +kernel) rfl
theorem w_1262 : (Jvm.Cond.methodLink "DoubleTurnsLaw" (73 : Nat) ({ cls := "DoubleTurns", name := "inRow", desc := "(II)I" } : Jvm.MethodName)) ∈ lwW := lwW_in 1262 (by decide +kernel) rfl
theorem w_1263 : (Jvm.Cond.instanceMethod ({ cls := "DoubleTurns", name := "inRow", desc := "(II)I" } : Jvm.MethodName)) ∈ lwW := lwW_in 1263 (by decide +kernel) rfl
theorem w_1264 : (Jvm.Cond.selects "DoubleTurns" ({ cls := "DoubleTurns", name := "inRow", desc := "(II)I" } : Jvm.MethodName) ({ cls := "DoubleTurns", name := "inRow", desc := "(II)I" } : Jvm.MethodName)) ∈ lwW := lwW_in 1264 (by decide +kernel) rfl
theorem w_1265 : (Jvm.Cond.code ({ cls := "DoubleTurns", name := "inRow", desc := "(II)I" } : Jvm.MethodName) prog_1_method_25_code (3 : Nat) (Option.some Jvm.ClassFile.FieldType.int)) ∈ lwW := lwW_in 1265 (by decide +kernel) rfl
theorem w_1266 : (Jvm.Cond.methodLink "DoubleTurns" (317 : Nat) ({ cls := "DoubleTurns$Powers", name := "oftenInRow", desc := "(LDoubleTurns$Characters;II)I" } : Jvm.MethodName)) ∈ lwW := lwW_in 1266 (by decide +kernel) rfl
theorem w_1267 : (Jvm.Cond.instanceMethod ({ cls := "DoubleTurns$Powers", name := "oftenInRow", desc := "(LDoubleTurns$Characters;II)I" } : Jvm.MethodName)) ∈ lwW := lwW_in 1267 (by decide +kernel) rfl
theorem w_1268 : (Jvm.Cond.selects "DoubleTurns$Powers" ({ cls := "DoubleTurns$Powers", name := "oftenInRow", desc := "(LDoubleTurns$Characters;II)I" } : Jvm.MethodName) ({ cls := "DoubleTurns$Powers", name := "oftenInRow", desc := "(LDoubleTurns$Characters;II)I" } : Jvm.MethodName)) ∈ lwW := lwW_in 1268 (by decide +kernel) rfl
theorem w_1269 : (Jvm.Cond.code ({ cls := "DoubleTurns$Powers", name := "oftenInRow", desc := "(LDoubleTurns$Characters;II)I" } : Jvm.MethodName) prog_8_method_2_code (5 : Nat) (Option.some Jvm.ClassFile.FieldType.int)) ∈ lwW := lwW_in 1269 (by decide +kernel) rfl
theorem w_1270 : (Jvm.Cond.methodLink "DoubleTurns$Powers" (24 : Nat) ({ cls := "DoubleTurns$Powers", name := "begin", desc := "(I)V" } : Jvm.MethodName)) ∈ lwW := lwW_in 1270 (by decide +kernel) rfl
theorem w_1272 : (Jvm.Cond.instanceMethod ({ cls := "DoubleTurns$Powers", name := "begin", desc := "(I)V" } : Jvm.MethodName)) ∈ lwW := lwW_in 1272 (by decide +kernel) rfl
theorem w_1273 : (Jvm.Cond.code ({ cls := "DoubleTurns$Powers", name := "begin", desc := "(I)V" } : Jvm.MethodName) prog_8_method_5_code (3 : Nat) (Option.none : Option Jvm.ClassFile.FieldType)) ∈ lwW := lwW_in 1273 (by decide +kernel) rfl
theorem w_1274 : (Jvm.Cond.methodLink "DoubleTurns$Powers" (28 : Nat) ({ cls := "DoubleTurns$Powers", name := "goOn", desc := "(LDoubleTurns$Characters;)V" } : Jvm.MethodName)) ∈ lwW := lwW_in 1274 (by decide +kernel) rfl
theorem w_1276 : (Jvm.Cond.instanceMethod ({ cls := "DoubleTurns$Powers", name := "goOn", desc := "(LDoubleTurns$Characters;)V" } : Jvm.MethodName)) ∈ lwW := lwW_in 1276 (by decide +kernel) rfl
theorem w_1277 : (Jvm.Cond.code ({ cls := "DoubleTurns$Powers", name := "goOn", desc := "(LDoubleTurns$Characters;)V" } : Jvm.MethodName) prog_8_method_6_code (4 : Nat) (Option.none : Option Jvm.ClassFile.FieldType)) ∈ lwW := lwW_in 1277 (by decide +kernel) rfl
theorem w_1278 : (Jvm.Cond.methodLink "DoubleTurns$Powers" (70 : Nat) ({ cls := "DoubleTurns$Field", name := "mod", desc := "(I)I" } : Jvm.MethodName)) ∈ lwW := lwW_in 1278 (by decide +kernel) rfl
theorem w_1279 : (Jvm.Cond.methodLink "DoubleTurns$Powers" (32 : Nat) ({ cls := "DoubleTurns$Characters", name := "inRowOf", desc := "([II)I" } : Jvm.MethodName)) ∈ lwW := lwW_in 1279 (by decide +kernel) rfl
theorem w_1280 : (Jvm.Cond.methodLink "DoubleTurnsLaw" (188 : Nat) ({ cls := "DoubleTurnsLaw", name := "row", desc := "(LDoubleTurns;II[J)I" } : Jvm.MethodName)) ∈ lwW := lwW_in 1280 (by decide +kernel) rfl
theorem w_1281 : (Jvm.Cond.static ({ cls := "DoubleTurnsLaw", name := "row", desc := "(LDoubleTurns;II[J)I" } : Jvm.MethodName)) ∈ lwW := lwW_in 1281 (by decide +kernel) rfl
theorem w_1282 : (Jvm.Cond.codeWith ({ cls := "DoubleTurnsLaw", name := "row", desc := "(LDoubleTurns;II[J)I" } : Jvm.MethodName) method_22_code (5 : Nat) (Option.some Jvm.ClassFile.FieldType.int) [((0 : Nat), (10 : Nat), (13 : Nat), (24 : Nat))]) ∈ lwW := lwW_in 1282 (by decide +kernel) rfl
theorem w_1283 : (Jvm.Cond.methodLink "DoubleTurnsLaw" (76 : Nat) ({ cls := "DoubleTurns", name := "row", desc := "(II)I" } : Jvm.MethodName)) ∈ lwW := lwW_in 1283 (by decide +kernel) rfl
theorem w_1284 : (Jvm.Cond.instanceMethod ({ cls := "DoubleTurns", name := "row", desc := "(II)I" } : Jvm.MethodName)) ∈ lwW := lwW_in 1284 (by decide +kernel) rfl
theorem w_1285 : (Jvm.Cond.selects "DoubleTurns" ({ cls := "DoubleTurns", name := "row", desc := "(II)I" } : Jvm.MethodName) ({ cls := "DoubleTurns", name := "row", desc := "(II)I" } : Jvm.MethodName)) ∈ lwW := lwW_in 1285 (by decide +kernel) rfl
theorem w_1286 : (Jvm.Cond.code ({ cls := "DoubleTurns", name := "row", desc := "(II)I" } : Jvm.MethodName) prog_1_method_26_code (3 : Nat) (Option.some Jvm.ClassFile.FieldType.int)) ∈ lwW := lwW_in 1286 (by decide +kernel) rfl
theorem w_1287 : (Jvm.Cond.methodLink "DoubleTurns" (321 : Nat) ({ cls := "DoubleTurns$Powers", name := "rowWith", desc := "(LDoubleTurns$Characters;II)I" } : Jvm.MethodName)) ∈ lwW := lwW_in 1287 (by decide +kernel) rfl
theorem w_1288 : (Jvm.Cond.instanceMethod ({ cls := "DoubleTurns$Powers", name := "rowWith", desc := "(LDoubleTurns$Characters;II)I" } : Jvm.MethodName)) ∈ lwW := lwW_in 1288 (by decide +kernel) rfl
theorem w_1289 : (Jvm.Cond.selects "DoubleTurns$Powers" ({ cls := "DoubleTurns$Powers", name := "rowWith", desc := "(LDoubleTurns$Characters;II)I" } : Jvm.MethodName) ({ cls := "DoubleTurns$Powers", name := "rowWith", desc := "(LDoubleTurns$Characters;II)I" } : Jvm.MethodName)) ∈ lwW := lwW_in 1289 (by decide +kernel) rfl
theorem w_1290 : (Jvm.Cond.code ({ cls := "DoubleTurns$Powers", name := "rowWith", desc := "(LDoubleTurns$Characters;II)I" } : Jvm.MethodName) prog_8_method_3_code (6 : Nat) (Option.some Jvm.ClassFile.FieldType.int)) ∈ lwW := lwW_in 1290 (by decide +kernel) rfl
theorem w_1291 : (Jvm.Cond.methodLink "DoubleTurnsLaw" (191 : Nat) ({ cls := "DoubleTurnsLaw", name := "made", desc := "(LDoubleTurns;III[J)I" } : Jvm.MethodName)) ∈ lwW := lwW_in 1291 (by decide +kernel) rfl
theorem w_1292 : (Jvm.Cond.static ({ cls := "DoubleTurnsLaw", name := "made", desc := "(LDoubleTurns;III[J)I" } : Jvm.MethodName)) ∈ lwW := lwW_in 1292 (by decide +kernel) rfl
theorem w_1293 : (Jvm.Cond.codeWith ({ cls := "DoubleTurnsLaw", name := "made", desc := "(LDoubleTurns;III[J)I" } : Jvm.MethodName) method_23_code (6 : Nat) (Option.some Jvm.ClassFile.FieldType.int) [((0 : Nat), (12 : Nat), (15 : Nat), (24 : Nat)), ((0 : Nat), (12 : Nat), (19 : Nat), (13 : Nat))]) ∈ lwW := lwW_in 1293 (by decide +kernel) rfl
theorem w_1294 : (Jvm.Cond.methodLink "DoubleTurnsLaw" (79 : Nat) ({ cls := "DoubleTurns", name := "made", desc := "(III)I" } : Jvm.MethodName)) ∈ lwW := lwW_in 1294 (by decide +kernel) rfl
theorem w_1295 : (Jvm.Cond.instanceMethod ({ cls := "DoubleTurns", name := "made", desc := "(III)I" } : Jvm.MethodName)) ∈ lwW := lwW_in 1295 (by decide +kernel) rfl
theorem w_1296 : (Jvm.Cond.selects "DoubleTurns" ({ cls := "DoubleTurns", name := "made", desc := "(III)I" } : Jvm.MethodName) ({ cls := "DoubleTurns", name := "made", desc := "(III)I" } : Jvm.MethodName)) ∈ lwW := lwW_in 1296 (by decide +kernel) rfl
theorem w_1297 : (Jvm.Cond.code ({ cls := "DoubleTurns", name := "made", desc := "(III)I" } : Jvm.MethodName) prog_1_method_27_code (4 : Nat) (Option.some Jvm.ClassFile.FieldType.int)) ∈ lwW := lwW_in 1297 (by decide +kernel) rfl
theorem w_1298 : (Jvm.Cond.methodLink "DoubleTurns" (324 : Nat) ({ cls := "DoubleTurns$Subgroup", name := "make", desc := "(LDoubleTurns$Group;II)V" } : Jvm.MethodName)) ∈ lwW := lwW_in 1298 (by decide +kernel) rfl
theorem w_1299 : (Jvm.Cond.instanceMethod ({ cls := "DoubleTurns$Subgroup", name := "make", desc := "(LDoubleTurns$Group;II)V" } : Jvm.MethodName)) ∈ lwW := lwW_in 1299 (by decide +kernel) rfl
theorem w_1300 : (Jvm.Cond.selects "DoubleTurns$Subgroup" ({ cls := "DoubleTurns$Subgroup", name := "make", desc := "(LDoubleTurns$Group;II)V" } : Jvm.MethodName) ({ cls := "DoubleTurns$Subgroup", name := "make", desc := "(LDoubleTurns$Group;II)V" } : Jvm.MethodName)) ∈ lwW := lwW_in 1300 (by decide +kernel) rfl
theorem w_1301 : (Jvm.Cond.code ({ cls := "DoubleTurns$Subgroup", name := "make", desc := "(LDoubleTurns$Group;II)V" } : Jvm.MethodName) prog_11_method_2_code (5 : Nat) (Option.none : Option Jvm.ClassFile.FieldType)) ∈ lwW := lwW_in 1301 (by decide +kernel) rfl
theorem w_1302 : (Jvm.Cond.methodLink "DoubleTurns$Subgroup" (28 : Nat) ({ cls := "DoubleTurns$Subgroup", name := "take", desc := "(I)V" } : Jvm.MethodName)) ∈ lwW := lwW_in 1302 (by decide +kernel) rfl
theorem w_1304 : (Jvm.Cond.instanceMethod ({ cls := "DoubleTurns$Subgroup", name := "take", desc := "(I)V" } : Jvm.MethodName)) ∈ lwW := lwW_in 1304 (by decide +kernel) rfl
theorem w_1305 : (Jvm.Cond.code ({ cls := "DoubleTurns$Subgroup", name := "take", desc := "(I)V" } : Jvm.MethodName) prog_11_method_8_code (2 : Nat) (Option.none : Option Jvm.ClassFile.FieldType)) ∈ lwW := lwW_in 1305 (by decide +kernel) rfl
theorem w_1306 : (Jvm.Cond.methodLink "DoubleTurns$Subgroup" (32 : Nat) ({ cls := "DoubleTurns$Group", name := "times", desc := "(II)I" } : Jvm.MethodName)) ∈ lwW := lwW_in 1306 (by decide +kernel) rfl
theorem w_1307 : (Jvm.Cond.methodLink "DoubleTurns" (329 : Nat) ({ cls := "DoubleTurns$Subgroup", name := "leastBeside", desc := "(I)I" } : Jvm.MethodName)) ∈ lwW := lwW_in 1307 (by decide +kernel) rfl
theorem w_1308 : (Jvm.Cond.instanceMethod ({ cls := "DoubleTurns$Subgroup", name := "leastBeside", desc := "(I)I" } : Jvm.MethodName)) ∈ lwW := lwW_in 1308 (by decide +kernel) rfl
theorem w_1309 : (Jvm.Cond.selects "DoubleTurns$Subgroup" ({ cls := "DoubleTurns$Subgroup", name := "leastBeside", desc := "(I)I" } : Jvm.MethodName) ({ cls := "DoubleTurns$Subgroup", name := "leastBeside", desc := "(I)I" } : Jvm.MethodName)) ∈ lwW := lwW_in 1309 (by decide +kernel) rfl
theorem w_1310 : (Jvm.Cond.code ({ cls := "DoubleTurns$Subgroup", name := "leastBeside", desc := "(I)I" } : Jvm.MethodName) prog_11_method_5_code (3 : Nat) (Option.some Jvm.ClassFile.FieldType.int)) ∈ lwW := lwW_in 1310 (by decide +kernel) rfl
theorem w_1311 : (Jvm.Cond.methodLink "DoubleTurns$Subgroup" (42 : Nat) ({ cls := "DoubleTurns$Subgroup", name := "holds", desc := "(I)Z" } : Jvm.MethodName)) ∈ lwW := lwW_in 1311 (by decide +kernel) rfl
theorem w_1312 : (Jvm.Cond.instanceMethod ({ cls := "DoubleTurns$Subgroup", name := "holds", desc := "(I)Z" } : Jvm.MethodName)) ∈ lwW := lwW_in 1312 (by decide +kernel) rfl
theorem w_1313 : (Jvm.Cond.selects "DoubleTurns$Subgroup" ({ cls := "DoubleTurns$Subgroup", name := "holds", desc := "(I)Z" } : Jvm.MethodName) ({ cls := "DoubleTurns$Subgroup", name := "holds", desc := "(I)Z" } : Jvm.MethodName)) ∈ lwW := lwW_in 1313 (by decide +kernel) rfl
theorem w_1314 : (Jvm.Cond.code ({ cls := "DoubleTurns$Subgroup", name := "holds", desc := "(I)Z" } : Jvm.MethodName) prog_11_method_3_code (2 : Nat) (Option.some Jvm.ClassFile.FieldType.boolean)) ∈ lwW := lwW_in 1314 (by decide +kernel) rfl
theorem w_1315 : (Jvm.Cond.methodLink "DoubleTurnsLaw" (194 : Nat) ({ cls := "DoubleTurnsLaw", name := "isMade", desc := "(LDoubleTurns;III[J)I" } : Jvm.MethodName)) ∈ lwW := lwW_in 1315 (by decide +kernel) rfl
theorem w_1316 : (Jvm.Cond.static ({ cls := "DoubleTurnsLaw", name := "isMade", desc := "(LDoubleTurns;III[J)I" } : Jvm.MethodName)) ∈ lwW := lwW_in 1316 (by decide +kernel) rfl
theorem w_1317 : (Jvm.Cond.codeWith ({ cls := "DoubleTurnsLaw", name := "isMade", desc := "(LDoubleTurns;III[J)I" } : Jvm.MethodName) method_24_code (6 : Nat) (Option.some Jvm.ClassFile.FieldType.int) [((0 : Nat), (19 : Nat), (22 : Nat), (24 : Nat))]) ∈ lwW := lwW_in 1317 (by decide +kernel) rfl
theorem w_1318 : (Jvm.Cond.methodLink "DoubleTurnsLaw" (82 : Nat) ({ cls := "DoubleTurns", name := "isMade", desc := "(III)Z" } : Jvm.MethodName)) ∈ lwW := lwW_in 1318 (by decide +kernel) rfl
theorem w_1319 : (Jvm.Cond.instanceMethod ({ cls := "DoubleTurns", name := "isMade", desc := "(III)Z" } : Jvm.MethodName)) ∈ lwW := lwW_in 1319 (by decide +kernel) rfl
theorem w_1320 : (Jvm.Cond.selects "DoubleTurns" ({ cls := "DoubleTurns", name := "isMade", desc := "(III)Z" } : Jvm.MethodName) ({ cls := "DoubleTurns", name := "isMade", desc := "(III)Z" } : Jvm.MethodName)) ∈ lwW := lwW_in 1320 (by decide +kernel) rfl
theorem w_1321 : (Jvm.Cond.code ({ cls := "DoubleTurns", name := "isMade", desc := "(III)Z" } : Jvm.MethodName) prog_1_method_28_code (4 : Nat) (Option.some Jvm.ClassFile.FieldType.boolean)) ∈ lwW := lwW_in 1321 (by decide +kernel) rfl
theorem w_1322 : (Jvm.Cond.methodLink "DoubleTurns" (332 : Nat) ({ cls := "DoubleTurns$Subgroup", name := "holds", desc := "(I)Z" } : Jvm.MethodName)) ∈ lwW := lwW_in 1322 (by decide +kernel) rfl
theorem w_1323 : (Jvm.Cond.methodLink "DoubleTurnsLaw" (197 : Nat) ({ cls := "DoubleTurnsLaw", name := "isKept", desc := "(LDoubleTurns;II[J)I" } : Jvm.MethodName)) ∈ lwW := lwW_in 1323 (by decide +kernel) rfl
theorem w_1324 : (Jvm.Cond.static ({ cls := "DoubleTurnsLaw", name := "isKept", desc := "(LDoubleTurns;II[J)I" } : Jvm.MethodName)) ∈ lwW := lwW_in 1324 (by decide +kernel) rfl
theorem w_1325 : (Jvm.Cond.codeWith ({ cls := "DoubleTurnsLaw", name := "isKept", desc := "(LDoubleTurns;II[J)I" } : Jvm.MethodName) method_25_code (5 : Nat) (Option.some Jvm.ClassFile.FieldType.int) [((0 : Nat), (17 : Nat), (20 : Nat), (24 : Nat))]) ∈ lwW := lwW_in 1325 (by decide +kernel) rfl
theorem w_1326 : (Jvm.Cond.methodLink "DoubleTurnsLaw" (86 : Nat) ({ cls := "DoubleTurns", name := "isKept", desc := "(II)Z" } : Jvm.MethodName)) ∈ lwW := lwW_in 1326 (by decide +kernel) rfl
theorem w_1327 : (Jvm.Cond.instanceMethod ({ cls := "DoubleTurns", name := "isKept", desc := "(II)Z" } : Jvm.MethodName)) ∈ lwW := lwW_in 1327 (by decide +kernel) rfl
theorem w_1328 : (Jvm.Cond.selects "DoubleTurns" ({ cls := "DoubleTurns", name := "isKept", desc := "(II)Z" } : Jvm.MethodName) ({ cls := "DoubleTurns", name := "isKept", desc := "(II)Z" } : Jvm.MethodName)) ∈ lwW := lwW_in 1328 (by decide +kernel) rfl
theorem w_1329 : (Jvm.Cond.code ({ cls := "DoubleTurns", name := "isKept", desc := "(II)Z" } : Jvm.MethodName) prog_1_method_29_code (3 : Nat) (Option.some Jvm.ClassFile.FieldType.boolean)) ∈ lwW := lwW_in 1329 (by decide +kernel) rfl
theorem w_1330 : (Jvm.Cond.methodLink "DoubleTurns" (336 : Nat) ({ cls := "DoubleTurns$Subgroup", name := "holdsTurned", desc := "(LDoubleTurns$Group;I)Z" } : Jvm.MethodName)) ∈ lwW := lwW_in 1330 (by decide +kernel) rfl
theorem w_1331 : (Jvm.Cond.instanceMethod ({ cls := "DoubleTurns$Subgroup", name := "holdsTurned", desc := "(LDoubleTurns$Group;I)Z" } : Jvm.MethodName)) ∈ lwW := lwW_in 1331 (by decide +kernel) rfl
theorem w_1332 : (Jvm.Cond.selects "DoubleTurns$Subgroup" ({ cls := "DoubleTurns$Subgroup", name := "holdsTurned", desc := "(LDoubleTurns$Group;I)Z" } : Jvm.MethodName) ({ cls := "DoubleTurns$Subgroup", name := "holdsTurned", desc := "(LDoubleTurns$Group;I)Z" } : Jvm.MethodName)) ∈ lwW := lwW_in 1332 (by decide +kernel) rfl
theorem w_1333 : (Jvm.Cond.code ({ cls := "DoubleTurns$Subgroup", name := "holdsTurned", desc := "(LDoubleTurns$Group;I)Z" } : Jvm.MethodName) prog_11_method_4_code (4 : Nat) (Option.some Jvm.ClassFile.FieldType.boolean)) ∈ lwW := lwW_in 1333 (by decide +kernel) rfl
theorem w_1334 : (Jvm.Cond.methodLink "DoubleTurns$Subgroup" (39 : Nat) ({ cls := "DoubleTurns$Group", name := "turned", desc := "(II)I" } : Jvm.MethodName)) ∈ lwW := lwW_in 1334 (by decide +kernel) rfl
theorem w_1335 : (Jvm.Cond.methodLink "DoubleTurnsLaw" (200 : Nat) ({ cls := "DoubleTurnsLaw", name := "ofOrder", desc := "(LDoubleTurns;II[J)I" } : Jvm.MethodName)) ∈ lwW := lwW_in 1335 (by decide +kernel) rfl
theorem w_1336 : (Jvm.Cond.static ({ cls := "DoubleTurnsLaw", name := "ofOrder", desc := "(LDoubleTurns;II[J)I" } : Jvm.MethodName)) ∈ lwW := lwW_in 1336 (by decide +kernel) rfl
theorem w_1337 : (Jvm.Cond.codeWith ({ cls := "DoubleTurnsLaw", name := "ofOrder", desc := "(LDoubleTurns;II[J)I" } : Jvm.MethodName) method_26_code (5 : Nat) (Option.some Jvm.ClassFile.FieldType.int) [((0 : Nat), (10 : Nat), (13 : Nat), (13 : Nat))]) ∈ lwW := lwW_in 1337 (by decide +kernel) rfl
theorem w_1338 : (Jvm.Cond.methodLink "DoubleTurnsLaw" (90 : Nat) ({ cls := "DoubleTurns", name := "ofOrder", desc := "(II)I" } : Jvm.MethodName)) ∈ lwW := lwW_in 1338 (by decide +kernel) rfl
theorem w_1339 : (Jvm.Cond.instanceMethod ({ cls := "DoubleTurns", name := "ofOrder", desc := "(II)I" } : Jvm.MethodName)) ∈ lwW := lwW_in 1339 (by decide +kernel) rfl
theorem w_1340 : (Jvm.Cond.selects "DoubleTurns" ({ cls := "DoubleTurns", name := "ofOrder", desc := "(II)I" } : Jvm.MethodName) ({ cls := "DoubleTurns", name := "ofOrder", desc := "(II)I" } : Jvm.MethodName)) ∈ lwW := lwW_in 1340 (by decide +kernel) rfl
theorem w_1341 : (Jvm.Cond.code ({ cls := "DoubleTurns", name := "ofOrder", desc := "(II)I" } : Jvm.MethodName) prog_1_method_30_code (3 : Nat) (Option.some Jvm.ClassFile.FieldType.int)) ∈ lwW := lwW_in 1341 (by decide +kernel) rfl
theorem w_1342 : (Jvm.Cond.methodLink "DoubleTurns" (340 : Nat) ({ cls := "DoubleTurns$Group", name := "leastOfOrder", desc := "(I)I" } : Jvm.MethodName)) ∈ lwW := lwW_in 1342 (by decide +kernel) rfl
theorem w_1343 : (Jvm.Cond.instanceMethod ({ cls := "DoubleTurns$Group", name := "leastOfOrder", desc := "(I)I" } : Jvm.MethodName)) ∈ lwW := lwW_in 1343 (by decide +kernel) rfl
theorem w_1344 : (Jvm.Cond.selects "DoubleTurns$Group" ({ cls := "DoubleTurns$Group", name := "leastOfOrder", desc := "(I)I" } : Jvm.MethodName) ({ cls := "DoubleTurns$Group", name := "leastOfOrder", desc := "(I)I" } : Jvm.MethodName)) ∈ lwW := lwW_in 1344 (by decide +kernel) rfl
theorem w_1345 : (Jvm.Cond.code ({ cls := "DoubleTurns$Group", name := "leastOfOrder", desc := "(I)I" } : Jvm.MethodName) prog_6_method_15_code (3 : Nat) (Option.some Jvm.ClassFile.FieldType.int)) ∈ lwW := lwW_in 1345 (by decide +kernel) rfl
theorem w_1346 : (Jvm.Cond.methodLink "DoubleTurns" (343 : Nat) ({ cls := "DoubleTurns$Group", name := "countOfOrder", desc := "(I)I" } : Jvm.MethodName)) ∈ lwW := lwW_in 1346 (by decide +kernel) rfl
theorem w_1347 : (Jvm.Cond.instanceMethod ({ cls := "DoubleTurns$Group", name := "countOfOrder", desc := "(I)I" } : Jvm.MethodName)) ∈ lwW := lwW_in 1347 (by decide +kernel) rfl
theorem w_1348 : (Jvm.Cond.selects "DoubleTurns$Group" ({ cls := "DoubleTurns$Group", name := "countOfOrder", desc := "(I)I" } : Jvm.MethodName) ({ cls := "DoubleTurns$Group", name := "countOfOrder", desc := "(I)I" } : Jvm.MethodName)) ∈ lwW := lwW_in 1348 (by decide +kernel) rfl
theorem w_1349 : (Jvm.Cond.code ({ cls := "DoubleTurns$Group", name := "countOfOrder", desc := "(I)I" } : Jvm.MethodName) prog_6_method_16_code (4 : Nat) (Option.some Jvm.ClassFile.FieldType.int)) ∈ lwW := lwW_in 1349 (by decide +kernel) rfl
theorem w_1350 : (Jvm.Cond.methodLink "DoubleTurnsLaw" (203 : Nat) ({ cls := "DoubleTurnsLaw", name := "makers", desc := "(LDoubleTurns;I[J)I" } : Jvm.MethodName)) ∈ lwW := lwW_in 1350 (by decide +kernel) rfl
theorem w_1351 : (Jvm.Cond.static ({ cls := "DoubleTurnsLaw", name := "makers", desc := "(LDoubleTurns;I[J)I" } : Jvm.MethodName)) ∈ lwW := lwW_in 1351 (by decide +kernel) rfl
theorem w_1352 : (Jvm.Cond.codeWith ({ cls := "DoubleTurnsLaw", name := "makers", desc := "(LDoubleTurns;I[J)I" } : Jvm.MethodName) method_27_code (4 : Nat) (Option.some Jvm.ClassFile.FieldType.int) [((0 : Nat), (9 : Nat), (12 : Nat), (13 : Nat))]) ∈ lwW := lwW_in 1352 (by decide +kernel) rfl
theorem w_1353 : (Jvm.Cond.methodLink "DoubleTurnsLaw" (93 : Nat) ({ cls := "DoubleTurns", name := "makers", desc := "(I)I" } : Jvm.MethodName)) ∈ lwW := lwW_in 1353 (by decide +kernel) rfl
theorem w_1354 : (Jvm.Cond.instanceMethod ({ cls := "DoubleTurns", name := "makers", desc := "(I)I" } : Jvm.MethodName)) ∈ lwW := lwW_in 1354 (by decide +kernel) rfl
theorem w_1355 : (Jvm.Cond.selects "DoubleTurns" ({ cls := "DoubleTurns", name := "makers", desc := "(I)I" } : Jvm.MethodName) ({ cls := "DoubleTurns", name := "makers", desc := "(I)I" } : Jvm.MethodName)) ∈ lwW := lwW_in 1355 (by decide +kernel) rfl
theorem w_1356 : (Jvm.Cond.code ({ cls := "DoubleTurns", name := "makers", desc := "(I)I" } : Jvm.MethodName) prog_1_method_31_code (2 : Nat) (Option.some Jvm.ClassFile.FieldType.int)) ∈ lwW := lwW_in 1356 (by decide +kernel) rfl
theorem w_1357 : (Jvm.Cond.methodLink "DoubleTurns" (350 : Nat) ({ cls := "DoubleTurns$Subgroup", name := "searchMakers", desc := "(LDoubleTurns$Group;)V" } : Jvm.MethodName)) ∈ lwW := lwW_in 1357 (by decide +kernel) rfl
theorem w_1358 : (Jvm.Cond.instanceMethod ({ cls := "DoubleTurns$Subgroup", name := "searchMakers", desc := "(LDoubleTurns$Group;)V" } : Jvm.MethodName)) ∈ lwW := lwW_in 1358 (by decide +kernel) rfl
theorem w_1359 : (Jvm.Cond.selects "DoubleTurns$Subgroup" ({ cls := "DoubleTurns$Subgroup", name := "searchMakers", desc := "(LDoubleTurns$Group;)V" } : Jvm.MethodName) ({ cls := "DoubleTurns$Subgroup", name := "searchMakers", desc := "(LDoubleTurns$Group;)V" } : Jvm.MethodName)) ∈ lwW := lwW_in 1359 (by decide +kernel) rfl
theorem w_1360 : (Jvm.Cond.code ({ cls := "DoubleTurns$Subgroup", name := "searchMakers", desc := "(LDoubleTurns$Group;)V" } : Jvm.MethodName) prog_11_method_6_code (3 : Nat) (Option.none : Option Jvm.ClassFile.FieldType)) ∈ lwW := lwW_in 1360 (by decide +kernel) rfl
theorem w_1361 : (Jvm.Cond.methodLink "DoubleTurns$Subgroup" (46 : Nat) ({ cls := "DoubleTurns$Subgroup", name := "searchSecond", desc := "(LDoubleTurns$Group;I)V" } : Jvm.MethodName)) ∈ lwW := lwW_in 1361 (by decide +kernel) rfl
theorem w_1363 : (Jvm.Cond.instanceMethod ({ cls := "DoubleTurns$Subgroup", name := "searchSecond", desc := "(LDoubleTurns$Group;I)V" } : Jvm.MethodName)) ∈ lwW := lwW_in 1363 (by decide +kernel) rfl
theorem w_1364 : (Jvm.Cond.code ({ cls := "DoubleTurns$Subgroup", name := "searchSecond", desc := "(LDoubleTurns$Group;I)V" } : Jvm.MethodName) prog_11_method_7_code (4 : Nat) (Option.none : Option Jvm.ClassFile.FieldType)) ∈ lwW := lwW_in 1364 (by decide +kernel) rfl
theorem w_1365 : (Jvm.Cond.methodLink "DoubleTurns$Subgroup" (50 : Nat) ({ cls := "DoubleTurns$Subgroup", name := "make", desc := "(LDoubleTurns$Group;II)V" } : Jvm.MethodName)) ∈ lwW := lwW_in 1365 (by decide +kernel) rfl
theorem w_1366 : (Jvm.Cond.classLink "DoubleTurnsLaw" (97 : Nat) "DoubleTurnsModel") ∈ lwW := lwW_in 1366 (by decide +kernel) rfl
theorem w_1367 : (Jvm.Cond.instantiable "DoubleTurnsModel" (42 : Nat)) ∈ lwW := lwW_in 1367 (by decide +kernel) rfl
theorem w_1368 : (Jvm.Cond.methodLink "DoubleTurnsLaw" (99 : Nat) ({ cls := "DoubleTurnsModel", name := "<init>", desc := "()V" } : Jvm.MethodName)) ∈ lwW := lwW_in 1368 (by decide +kernel) rfl
theorem w_1369 : (Jvm.Cond.instanceMethod ({ cls := "DoubleTurnsModel", name := "<init>", desc := "()V" } : Jvm.MethodName)) ∈ lwW := lwW_in 1369 (by decide +kernel) rfl
theorem w_1370 : (Jvm.Cond.code ({ cls := "DoubleTurnsModel", name := "<init>", desc := "()V" } : Jvm.MethodName) prog_14_method_1_code (2 : Nat) (Option.none : Option Jvm.ClassFile.FieldType)) ∈ lwW := lwW_in 1370 (by decide +kernel) rfl
theorem w_1371 : (Jvm.Cond.methodLink "DoubleTurnsModel" (1 : Nat) ({ cls := "java/lang/Object", name := "<init>", desc := "()V" } : Jvm.MethodName)) ∈ lwW := lwW_in 1371 (by decide +kernel) rfl
theorem w_1372 : (Jvm.Cond.classLink "DoubleTurnsModel" (20 : Nat) "[[I") ∈ lwW := lwW_in 1372 (by decide +kernel) rfl
theorem w_1373 : (Jvm.Cond.methodLink "DoubleTurnsModel" (92 : Nat) ({ cls := "DoubleTurnsModel", name := "closes", desc := "(I)Z" } : Jvm.MethodName)) ∈ lwW := lwW_in 1373 (by decide +kernel) rfl
theorem w_1375 : (Jvm.Cond.instanceMethod ({ cls := "DoubleTurnsModel", name := "closes", desc := "(I)Z" } : Jvm.MethodName)) ∈ lwW := lwW_in 1375 (by decide +kernel) rfl
theorem w_1376 : (Jvm.Cond.code ({ cls := "DoubleTurnsModel", name := "closes", desc := "(I)Z" } : Jvm.MethodName) prog_14_method_27_code (5 : Nat) (Option.some Jvm.ClassFile.FieldType.boolean)) ∈ lwW := lwW_in 1376 (by decide +kernel) rfl
theorem w_1377 : (Jvm.Cond.methodLink "DoubleTurnsModel" (195 : Nat) ({ cls := "DoubleTurnsModel", name := "root", desc := "(I)I" } : Jvm.MethodName)) ∈ lwW := lwW_in 1377 (by decide +kernel) rfl
theorem w_1379 : (Jvm.Cond.instanceMethod ({ cls := "DoubleTurnsModel", name := "root", desc := "(I)I" } : Jvm.MethodName)) ∈ lwW := lwW_in 1379 (by decide +kernel) rfl
theorem w_1380 : (Jvm.Cond.code ({ cls := "DoubleTurnsModel", name := "root", desc := "(I)I" } : Jvm.MethodName) prog_14_method_20_code (2 : Nat) (Option.some Jvm.ClassFile.FieldType.int)) ∈ lwW := lwW_in 1380 (by decide +kernel) rfl
theorem w_1381 : (Jvm.Cond.methodLink "DoubleTurnsModel" (217 : Nat) ({ cls := "DoubleTurnsModel", name := "multiplies", desc := "([II[III)Z" } : Jvm.MethodName)) ∈ lwW := lwW_in 1381 (by decide +kernel) rfl
theorem w_1383 : (Jvm.Cond.instanceMethod ({ cls := "DoubleTurnsModel", name := "multiplies", desc := "([II[III)Z" } : Jvm.MethodName)) ∈ lwW := lwW_in 1383 (by decide +kernel) rfl
theorem w_1384 : (Jvm.Cond.code ({ cls := "DoubleTurnsModel", name := "multiplies", desc := "([II[III)Z" } : Jvm.MethodName) prog_14_method_22_code (14 : Nat) (Option.some Jvm.ClassFile.FieldType.boolean)) ∈ lwW := lwW_in 1384 (by decide +kernel) rfl
theorem w_1385 : (Jvm.Cond.fieldLink "DoubleTurnsModel" (197 : Nat) "DoubleTurnsModel" "LEFT" "[I") ∈ lwW := lwW_in 1385 (by decide +kernel) rfl
theorem w_1387 : (Jvm.Cond.fieldLink "DoubleTurnsModel" (200 : Nat) "DoubleTurnsModel" "RIGHT" "[I") ∈ lwW := lwW_in 1387 (by decide +kernel) rfl
theorem w_1389 : (Jvm.Cond.fieldLink "DoubleTurnsModel" (203 : Nat) "DoubleTurnsModel" "SIGN" "[I") ∈ lwW := lwW_in 1389 (by decide +kernel) rfl
theorem w_1391 : (Jvm.Cond.methodLink "DoubleTurnsModel" (210 : Nat) ({ cls := "DoubleTurnsModel", name := "stops", desc := "(IIII)Z" } : Jvm.MethodName)) ∈ lwW := lwW_in 1391 (by decide +kernel) rfl
theorem w_1393 : (Jvm.Cond.instanceMethod ({ cls := "DoubleTurnsModel", name := "stops", desc := "(IIII)Z" } : Jvm.MethodName)) ∈ lwW := lwW_in 1393 (by decide +kernel) rfl
theorem w_1394 : (Jvm.Cond.code ({ cls := "DoubleTurnsModel", name := "stops", desc := "(IIII)Z" } : Jvm.MethodName) prog_14_method_25_code (5 : Nat) (Option.some Jvm.ClassFile.FieldType.boolean)) ∈ lwW := lwW_in 1394 (by decide +kernel) rfl
theorem w_1395 : (Jvm.Cond.methodLink "DoubleTurnsModel" (221 : Nat) ({ cls := "DoubleTurnsModel", name := "placeIn", desc := "([[II[I)I" } : Jvm.MethodName)) ∈ lwW := lwW_in 1395 (by decide +kernel) rfl
theorem w_1396 : (Jvm.Cond.static ({ cls := "DoubleTurnsModel", name := "placeIn", desc := "([[II[I)I" } : Jvm.MethodName)) ∈ lwW := lwW_in 1396 (by decide +kernel) rfl
theorem w_1397 : (Jvm.Cond.code ({ cls := "DoubleTurnsModel", name := "placeIn", desc := "([[II[I)I" } : Jvm.MethodName) prog_14_method_24_code (4 : Nat) (Option.some Jvm.ClassFile.FieldType.int)) ∈ lwW := lwW_in 1397 (by decide +kernel) rfl
theorem w_1398 : (Jvm.Cond.methodLink "DoubleTurnsModel" (206 : Nat) ({ cls := "DoubleTurnsModel", name := "areAlike", desc := "([I[I)Z" } : Jvm.MethodName)) ∈ lwW := lwW_in 1398 (by decide +kernel) rfl
theorem w_1399 : (Jvm.Cond.static ({ cls := "DoubleTurnsModel", name := "areAlike", desc := "([I[I)Z" } : Jvm.MethodName)) ∈ lwW := lwW_in 1399 (by decide +kernel) rfl
theorem w_1400 : (Jvm.Cond.code ({ cls := "DoubleTurnsModel", name := "areAlike", desc := "([I[I)Z" } : Jvm.MethodName) prog_14_method_23_code (3 : Nat) (Option.some Jvm.ClassFile.FieldType.boolean)) ∈ lwW := lwW_in 1400 (by decide +kernel) rfl
theorem w_1401 : (Jvm.Cond.methodLink "DoubleTurnsModel" (96 : Nat) ({ cls := "DoubleTurnsModel", name := "keepsGroup", desc := "()V" } : Jvm.MethodName)) ∈ lwW := lwW_in 1401 (by decide +kernel) rfl
theorem w_1403 : (Jvm.Cond.instanceMethod ({ cls := "DoubleTurnsModel", name := "keepsGroup", desc := "()V" } : Jvm.MethodName)) ∈ lwW := lwW_in 1403 (by decide +kernel) rfl
theorem w_1404 : (Jvm.Cond.code ({ cls := "DoubleTurnsModel", name := "keepsGroup", desc := "()V" } : Jvm.MethodName) prog_14_method_29_code (5 : Nat) (Option.none : Option Jvm.ClassFile.FieldType)) ∈ lwW := lwW_in 1404 (by decide +kernel) rfl
theorem w_1405 : (Jvm.Cond.methodLink "DoubleTurnsModel" (228 : Nat) ({ cls := "DoubleTurnsModel", name := "common", desc := "(II)I" } : Jvm.MethodName)) ∈ lwW := lwW_in 1405 (by decide +kernel) rfl
theorem w_1406 : (Jvm.Cond.static ({ cls := "DoubleTurnsModel", name := "common", desc := "(II)I" } : Jvm.MethodName)) ∈ lwW := lwW_in 1406 (by decide +kernel) rfl
theorem w_1407 : (Jvm.Cond.code ({ cls := "DoubleTurnsModel", name := "common", desc := "(II)I" } : Jvm.MethodName) prog_14_method_28_code (5 : Nat) (Option.some Jvm.ClassFile.FieldType.int)) ∈ lwW := lwW_in 1407 (by decide +kernel) rfl
theorem w_1408 : (Jvm.Cond.methodLink "DoubleTurnsModel" (234 : Nat) ({ cls := "DoubleTurnsModel", name := "laysPrime", desc := "()V" } : Jvm.MethodName)) ∈ lwW := lwW_in 1408 (by decide +kernel) rfl
theorem w_1410 : (Jvm.Cond.instanceMethod ({ cls := "DoubleTurnsModel", name := "laysPrime", desc := "()V" } : Jvm.MethodName)) ∈ lwW := lwW_in 1410 (by decide +kernel) rfl
theorem w_1411 : (Jvm.Cond.code ({ cls := "DoubleTurnsModel", name := "laysPrime", desc := "()V" } : Jvm.MethodName) prog_14_method_31_code (1 : Nat) (Option.none : Option Jvm.ClassFile.FieldType)) ∈ lwW := lwW_in 1411 (by decide +kernel) rfl
theorem w_1412 : (Jvm.Cond.methodLink "DoubleTurnsModel" (244 : Nat) ({ cls := "DoubleTurnsModel", name := "isPrime", desc := "(I)Z" } : Jvm.MethodName)) ∈ lwW := lwW_in 1412 (by decide +kernel) rfl
theorem w_1413 : (Jvm.Cond.static ({ cls := "DoubleTurnsModel", name := "isPrime", desc := "(I)Z" } : Jvm.MethodName)) ∈ lwW := lwW_in 1413 (by decide +kernel) rfl
theorem w_1414 : (Jvm.Cond.code ({ cls := "DoubleTurnsModel", name := "isPrime", desc := "(I)Z" } : Jvm.MethodName) prog_14_method_30_code (2 : Nat) (Option.some Jvm.ClassFile.FieldType.boolean)) ∈ lwW := lwW_in 1414 (by decide +kernel) rfl
theorem w_1415 : (Jvm.Cond.fieldLink "DoubleTurnsModel" (99 : Nat) "DoubleTurnsModel" "thrown" "I") ∈ lwW := lwW_in 1415 (by decide +kernel) rfl
theorem w_1416 : (Jvm.Cond.fieldLink "DoubleTurnsModel" (7 : Nat) "DoubleTurnsModel" "refused" "[I") ∈ lwW := lwW_in 1416 (by decide +kernel) rfl
theorem w_1417 : (Jvm.Cond.fieldLink "DoubleTurnsModel" (102 : Nat) "DoubleTurnsModel" "tape" "I") ∈ lwW := lwW_in 1417 (by decide +kernel) rfl
theorem w_1418 : (Jvm.Cond.fieldLink "DoubleTurnsModel" (105 : Nat) "DoubleTurnsModel" "size" "I") ∈ lwW := lwW_in 1418 (by decide +kernel) rfl
theorem w_1419 : (Jvm.Cond.fieldLink "DoubleTurnsModel" (108 : Nat) "DoubleTurnsModel" "at" "I") ∈ lwW := lwW_in 1419 (by decide +kernel) rfl
theorem w_1420 : (Jvm.Cond.fieldLink "DoubleTurnsModel" (13 : Nat) "DoubleTurnsModel" "place" "I") ∈ lwW := lwW_in 1420 (by decide +kernel) rfl
theorem w_1421 : (Jvm.Cond.fieldLink "DoubleTurnsModel" (115 : Nat) "DoubleTurnsModel" "fault" "I") ∈ lwW := lwW_in 1421 (by decide +kernel) rfl
theorem w_1422 : (Jvm.Cond.fieldLink "DoubleTurnsModel" (118 : Nat) "DoubleTurnsModel" "faultAt" "I") ∈ lwW := lwW_in 1422 (by decide +kernel) rfl
theorem w_1423 : (Jvm.Cond.fieldLink "DoubleTurnsModel" (17 : Nat) "DoubleTurnsModel" "fed" "[I") ∈ lwW := lwW_in 1423 (by decide +kernel) rfl
theorem w_1424 : (Jvm.Cond.fieldLink "DoubleTurnsModel" (22 : Nat) "DoubleTurnsModel" "state" "[[I") ∈ lwW := lwW_in 1424 (by decide +kernel) rfl
theorem w_1425 : (Jvm.Cond.fieldLink "DoubleTurnsModel" (189 : Nat) "DoubleTurnsModel" "backs" "I") ∈ lwW := lwW_in 1425 (by decide +kernel) rfl
theorem w_1426 : (Jvm.Cond.fieldLink "DoubleTurnsModel" (25 : Nat) "DoubleTurnsModel" "why" "[I") ∈ lwW := lwW_in 1426 (by decide +kernel) rfl
theorem w_1427 : (Jvm.Cond.fieldLink "DoubleTurnsModel" (214 : Nat) "DoubleTurnsModel" "laid" "I") ∈ lwW := lwW_in 1427 (by decide +kernel) rfl
theorem w_1428 : (Jvm.Cond.fieldLink "DoubleTurnsModel" (28 : Nat) "DoubleTurnsModel" "raw" "[[I") ∈ lwW := lwW_in 1428 (by decide +kernel) rfl
theorem w_1429 : (Jvm.Cond.fieldLink "DoubleTurnsModel" (31 : Nat) "DoubleTurnsModel" "made" "[I") ∈ lwW := lwW_in 1429 (by decide +kernel) rfl
theorem w_1430 : (Jvm.Cond.fieldLink "DoubleTurnsModel" (192 : Nat) "DoubleTurnsModel" "many" "I") ∈ lwW := lwW_in 1430 (by decide +kernel) rfl
theorem w_1431 : (Jvm.Cond.fieldLink "DoubleTurnsModel" (231 : Nat) "DoubleTurnsModel" "classes" "I") ∈ lwW := lwW_in 1431 (by decide +kernel) rfl
theorem w_1432 : (Jvm.Cond.fieldLink "DoubleTurnsModel" (225 : Nat) "DoubleTurnsModel" "exponent" "I") ∈ lwW := lwW_in 1432 (by decide +kernel) rfl
theorem w_1433 : (Jvm.Cond.fieldLink "DoubleTurnsModel" (241 : Nat) "DoubleTurnsModel" "prime" "I") ∈ lwW := lwW_in 1433 (by decide +kernel) rfl
theorem w_1434 : (Jvm.Cond.fieldLink "DoubleTurnsModel" (247 : Nat) "DoubleTurnsModel" "small" "I") ∈ lwW := lwW_in 1434 (by decide +kernel) rfl
theorem w_1435 : (Jvm.Cond.fieldLink "DoubleTurnsModel" (34 : Nat) "DoubleTurnsModel" "element" "[[I") ∈ lwW := lwW_in 1435 (by decide +kernel) rfl
theorem w_1436 : (Jvm.Cond.fieldLink "DoubleTurnsModel" (37 : Nat) "DoubleTurnsModel" "times" "[[I") ∈ lwW := lwW_in 1436 (by decide +kernel) rfl
theorem w_1437 : (Jvm.Cond.fieldLink "DoubleTurnsModel" (40 : Nat) "DoubleTurnsModel" "order" "[I") ∈ lwW := lwW_in 1437 (by decide +kernel) rfl
theorem w_1438 : (Jvm.Cond.fieldLink "DoubleTurnsModel" (43 : Nat) "DoubleTurnsModel" "inverse" "[I") ∈ lwW := lwW_in 1438 (by decide +kernel) rfl
theorem w_1439 : (Jvm.Cond.fieldLink "DoubleTurnsModel" (46 : Nat) "DoubleTurnsModel" "classOf" "[I") ∈ lwW := lwW_in 1439 (by decide +kernel) rfl
theorem w_1440 : (Jvm.Cond.fieldLink "DoubleTurnsModel" (49 : Nat) "DoubleTurnsModel" "least" "[I") ∈ lwW := lwW_in 1440 (by decide +kernel) rfl
theorem w_1441 : (Jvm.Cond.fieldLink "DoubleTurnsModel" (52 : Nat) "DoubleTurnsModel" "sizeOf" "[I") ∈ lwW := lwW_in 1441 (by decide +kernel) rfl
theorem w_1442 : (Jvm.Cond.fieldLink "DoubleTurnsModel" (237 : Nat) "DoubleTurnsModel" "hasRows" "Z") ∈ lwW := lwW_in 1442 (by decide +kernel) rfl
theorem w_1443 : (Jvm.Cond.fieldLink "DoubleTurnsModel" (55 : Nat) "DoubleTurnsModel" "couples" "[[I") ∈ lwW := lwW_in 1443 (by decide +kernel) rfl
theorem w_1444 : (Jvm.Cond.fieldLink "DoubleTurnsModel" (58 : Nat) "DoubleTurnsModel" "sheet" "[[I") ∈ lwW := lwW_in 1444 (by decide +kernel) rfl
theorem w_1445 : (Jvm.Cond.fieldLink "DoubleTurnsModel" (61 : Nat) "DoubleTurnsModel" "mixed" "[I") ∈ lwW := lwW_in 1445 (by decide +kernel) rfl
theorem w_1446 : (Jvm.Cond.fieldLink "DoubleTurnsModel" (64 : Nat) "DoubleTurnsModel" "kernel" "[I") ∈ lwW := lwW_in 1446 (by decide +kernel) rfl
theorem w_1447 : (Jvm.Cond.fieldLink "DoubleTurnsModel" (67 : Nat) "DoubleTurnsModel" "pivot" "[I") ∈ lwW := lwW_in 1447 (by decide +kernel) rfl
theorem w_1448 : (Jvm.Cond.fieldLink "DoubleTurnsModel" (70 : Nat) "DoubleTurnsModel" "value" "[[I") ∈ lwW := lwW_in 1448 (by decide +kernel) rfl
theorem w_1449 : (Jvm.Cond.fieldLink "DoubleTurnsModel" (73 : Nat) "DoubleTurnsModel" "degree" "[I") ∈ lwW := lwW_in 1449 (by decide +kernel) rfl
theorem w_1450 : (Jvm.Cond.fieldLink "DoubleTurnsModel" (257 : Nat) "DoubleTurnsModel" "found" "I") ∈ lwW := lwW_in 1450 (by decide +kernel) rfl
theorem w_1451 : (Jvm.Cond.fieldLink "DoubleTurnsModel" (76 : Nat) "DoubleTurnsModel" "f" "[I") ∈ lwW := lwW_in 1451 (by decide +kernel) rfl
theorem w_1452 : (Jvm.Cond.fieldLink "DoubleTurnsModel" (79 : Nat) "DoubleTurnsModel" "before" "[I") ∈ lwW := lwW_in 1452 (by decide +kernel) rfl
theorem w_1453 : (Jvm.Cond.fieldLink "DoubleTurnsModel" (82 : Nat) "DoubleTurnsModel" "wanted" "[I") ∈ lwW := lwW_in 1453 (by decide +kernel) rfl
theorem w_1454 : (Jvm.Cond.fieldLink "DoubleTurnsModel" (85 : Nat) "DoubleTurnsModel" "off" "[I") ∈ lwW := lwW_in 1454 (by decide +kernel) rfl
theorem w_1455 : (Jvm.Cond.fieldLink "DoubleTurnsModel" (88 : Nat) "DoubleTurnsModel" "isIn" "[Z") ∈ lwW := lwW_in 1455 (by decide +kernel) rfl
theorem w_1456 : (Jvm.Cond.fieldLink "DoubleTurnsModel" (353 : Nat) "DoubleTurnsModel" "inMany" "I") ∈ lwW := lwW_in 1456 (by decide +kernel) rfl
theorem w_1542 : (Jvm.Cond.arrayClass Jvm.ClassFile.FieldType.boolean) ∈ lwW := lwW_in 1542 (by decide +kernel) rfl
theorem w_1543 : (Jvm.Cond.methodLink "DoubleTurnsLaw" (111 : Nat) ({ cls := "DoubleTurnsModel", name := "thrown", desc := "()I" } : Jvm.MethodName)) ∈ lwW := lwW_in 1543 (by decide +kernel) rfl
theorem w_1544 : (Jvm.Cond.instanceMethod ({ cls := "DoubleTurnsModel", name := "thrown", desc := "()I" } : Jvm.MethodName)) ∈ lwW := lwW_in 1544 (by decide +kernel) rfl
theorem w_1545 : (Jvm.Cond.selects "DoubleTurnsModel" ({ cls := "DoubleTurnsModel", name := "thrown", desc := "()I" } : Jvm.MethodName) ({ cls := "DoubleTurnsModel", name := "thrown", desc := "()I" } : Jvm.MethodName)) ∈ lwW := lwW_in 1545 (by decide +kernel) rfl
theorem w_1546 : (Jvm.Cond.code ({ cls := "DoubleTurnsModel", name := "thrown", desc := "()I" } : Jvm.MethodName) prog_14_method_2_code (1 : Nat) (Option.some Jvm.ClassFile.FieldType.int)) ∈ lwW := lwW_in 1546 (by decide +kernel) rfl
theorem w_1547 : (Jvm.Cond.methodLink "DoubleTurnsLaw" (104 : Nat) ({ cls := "DoubleTurnsModel", name := "feed", desc := "(IIIII)I" } : Jvm.MethodName)) ∈ lwW := lwW_in 1547 (by decide +kernel) rfl
theorem w_1548 : (Jvm.Cond.instanceMethod ({ cls := "DoubleTurnsModel", name := "feed", desc := "(IIIII)I" } : Jvm.MethodName)) ∈ lwW := lwW_in 1548 (by decide +kernel) rfl
theorem w_1549 : (Jvm.Cond.selects "DoubleTurnsModel" ({ cls := "DoubleTurnsModel", name := "feed", desc := "(IIIII)I" } : Jvm.MethodName) ({ cls := "DoubleTurnsModel", name := "feed", desc := "(IIIII)I" } : Jvm.MethodName)) ∈ lwW := lwW_in 1549 (by decide +kernel) rfl
theorem w_1550 : (Jvm.Cond.code ({ cls := "DoubleTurnsModel", name := "feed", desc := "(IIIII)I" } : Jvm.MethodName) prog_14_method_7_code (8 : Nat) (Option.some Jvm.ClassFile.FieldType.int)) ∈ lwW := lwW_in 1550 (by decide +kernel) rfl
theorem w_1551 : (Jvm.Cond.methodLink "DoubleTurnsLaw" (110 : Nat) ({ cls := "DoubleTurnsModel", name := "text", desc := "(I)I" } : Jvm.MethodName)) ∈ lwW := lwW_in 1551 (by decide +kernel) rfl
theorem w_1552 : (Jvm.Cond.instanceMethod ({ cls := "DoubleTurnsModel", name := "text", desc := "(I)I" } : Jvm.MethodName)) ∈ lwW := lwW_in 1552 (by decide +kernel) rfl
theorem w_1553 : (Jvm.Cond.selects "DoubleTurnsModel" ({ cls := "DoubleTurnsModel", name := "text", desc := "(I)I" } : Jvm.MethodName) ({ cls := "DoubleTurnsModel", name := "text", desc := "(I)I" } : Jvm.MethodName)) ∈ lwW := lwW_in 1553 (by decide +kernel) rfl
theorem w_1554 : (Jvm.Cond.code ({ cls := "DoubleTurnsModel", name := "text", desc := "(I)I" } : Jvm.MethodName) prog_14_method_18_code (5 : Nat) (Option.some Jvm.ClassFile.FieldType.int)) ∈ lwW := lwW_in 1554 (by decide +kernel) rfl
theorem w_1555 : (Jvm.Cond.methodLink "DoubleTurnsModel" (174 : Nat) ({ cls := "DoubleTurnsModel", name := "nothingWhy", desc := "()V" } : Jvm.MethodName)) ∈ lwW := lwW_in 1555 (by decide +kernel) rfl
theorem w_1557 : (Jvm.Cond.instanceMethod ({ cls := "DoubleTurnsModel", name := "nothingWhy", desc := "()V" } : Jvm.MethodName)) ∈ lwW := lwW_in 1557 (by decide +kernel) rfl
theorem w_1558 : (Jvm.Cond.code ({ cls := "DoubleTurnsModel", name := "nothingWhy", desc := "()V" } : Jvm.MethodName) prog_14_method_26_code (2 : Nat) (Option.none : Option Jvm.ClassFile.FieldType)) ∈ lwW := lwW_in 1558 (by decide +kernel) rfl
theorem w_1559 : (Jvm.Cond.methodLink "DoubleTurnsModel" (141 : Nat) ({ cls := "DoubleTurnsModel", name := "in", desc := "(III)Z" } : Jvm.MethodName)) ∈ lwW := lwW_in 1559 (by decide +kernel) rfl
theorem w_1560 : (Jvm.Cond.static ({ cls := "DoubleTurnsModel", name := "in", desc := "(III)Z" } : Jvm.MethodName)) ∈ lwW := lwW_in 1560 (by decide +kernel) rfl
theorem w_1561 : (Jvm.Cond.code ({ cls := "DoubleTurnsModel", name := "in", desc := "(III)Z" } : Jvm.MethodName) prog_14_method_4_code (3 : Nat) (Option.some Jvm.ClassFile.FieldType.boolean)) ∈ lwW := lwW_in 1561 (by decide +kernel) rfl
theorem w_1562 : (Jvm.Cond.methodLink "DoubleTurnsModel" (177 : Nat) ({ cls := "DoubleTurnsModel", name := "bad", desc := "(ZII)Z" } : Jvm.MethodName)) ∈ lwW := lwW_in 1562 (by decide +kernel) rfl
theorem w_1564 : (Jvm.Cond.instanceMethod ({ cls := "DoubleTurnsModel", name := "bad", desc := "(ZII)Z" } : Jvm.MethodName)) ∈ lwW := lwW_in 1564 (by decide +kernel) rfl
theorem w_1565 : (Jvm.Cond.code ({ cls := "DoubleTurnsModel", name := "bad", desc := "(ZII)Z" } : Jvm.MethodName) prog_14_method_3_code (4 : Nat) (Option.some Jvm.ClassFile.FieldType.boolean)) ∈ lwW := lwW_in 1565 (by decide +kernel) rfl
theorem w_1566 : (Jvm.Cond.methodLink "DoubleTurnsModel" (125 : Nat) ({ cls := "DoubleTurnsModel", name := "here", desc := "()I" } : Jvm.MethodName)) ∈ lwW := lwW_in 1566 (by decide +kernel) rfl
theorem w_1568 : (Jvm.Cond.instanceMethod ({ cls := "DoubleTurnsModel", name := "here", desc := "()I" } : Jvm.MethodName)) ∈ lwW := lwW_in 1568 (by decide +kernel) rfl
theorem w_1569 : (Jvm.Cond.code ({ cls := "DoubleTurnsModel", name := "here", desc := "()I" } : Jvm.MethodName) prog_14_method_9_code (1 : Nat) (Option.some Jvm.ClassFile.FieldType.int)) ∈ lwW := lwW_in 1569 (by decide +kernel) rfl
theorem w_1570 : (Jvm.Cond.methodLink "DoubleTurnsModel" (111 : Nat) ({ cls := "DoubleTurnsModel", name := "byteAt", desc := "(I)I" } : Jvm.MethodName)) ∈ lwW := lwW_in 1570 (by decide +kernel) rfl
theorem w_1572 : (Jvm.Cond.instanceMethod ({ cls := "DoubleTurnsModel", name := "byteAt", desc := "(I)I" } : Jvm.MethodName)) ∈ lwW := lwW_in 1572 (by decide +kernel) rfl
theorem w_1573 : (Jvm.Cond.code ({ cls := "DoubleTurnsModel", name := "byteAt", desc := "(I)I" } : Jvm.MethodName) prog_14_method_8_code (2 : Nat) (Option.some Jvm.ClassFile.FieldType.int)) ∈ lwW := lwW_in 1573 (by decide +kernel) rfl
theorem w_1575 : (Jvm.Cond.methodLink "DoubleTurnsModel" (159 : Nat) ({ cls := "DoubleTurnsModel", name := "takes", desc := "(Ljava/lang/String;)Z" } : Jvm.MethodName)) ∈ lwW := lwW_in 1575 (by decide +kernel) rfl
theorem w_1577 : (Jvm.Cond.instanceMethod ({ cls := "DoubleTurnsModel", name := "takes", desc := "(Ljava/lang/String;)Z" } : Jvm.MethodName)) ∈ lwW := lwW_in 1577 (by decide +kernel) rfl
theorem w_1578 : (Jvm.Cond.code ({ cls := "DoubleTurnsModel", name := "takes", desc := "(Ljava/lang/String;)Z" } : Jvm.MethodName) prog_14_method_15_code (3 : Nat) (Option.some Jvm.ClassFile.FieldType.boolean)) ∈ lwW := lwW_in 1578 (by decide +kernel) rfl
theorem w_1579 : (Jvm.Cond.methodLink "DoubleTurnsModel" (121 : Nat) ({ cls := "DoubleTurnsModel", name := "fine", desc := "()Z" } : Jvm.MethodName)) ∈ lwW := lwW_in 1579 (by decide +kernel) rfl
theorem w_1581 : (Jvm.Cond.instanceMethod ({ cls := "DoubleTurnsModel", name := "fine", desc := "()Z" } : Jvm.MethodName)) ∈ lwW := lwW_in 1581 (by decide +kernel) rfl
theorem w_1582 : (Jvm.Cond.code ({ cls := "DoubleTurnsModel", name := "fine", desc := "()Z" } : Jvm.MethodName) prog_14_method_10_code (1 : Nat) (Option.some Jvm.ClassFile.FieldType.boolean)) ∈ lwW := lwW_in 1582 (by decide +kernel) rfl
theorem w_1583 : (Jvm.Cond.methodLink "DoubleTurnsModel" (145 : Nat) ({ cls := "java/lang/String", name := "length", desc := "()I" } : Jvm.MethodName)) ∈ lwW := lwW_in 1583 (by decide +kernel) rfl
theorem w_1584 : (Jvm.Cond.methodLink "DoubleTurnsModel" (150 : Nat) ({ cls := "java/lang/String", name := "charAt", desc := "(I)C" } : Jvm.MethodName)) ∈ lwW := lwW_in 1584 (by decide +kernel) rfl
theorem w_1585 : (Jvm.Cond.methodLink "DoubleTurnsModel" (154 : Nat) ({ cls := "DoubleTurnsModel", name := "isSmall", desc := "(I)Z" } : Jvm.MethodName)) ∈ lwW := lwW_in 1585 (by decide +kernel) rfl
theorem w_1586 : (Jvm.Cond.static ({ cls := "DoubleTurnsModel", name := "isSmall", desc := "(I)Z" } : Jvm.MethodName)) ∈ lwW := lwW_in 1586 (by decide +kernel) rfl
theorem w_1587 : (Jvm.Cond.code ({ cls := "DoubleTurnsModel", name := "isSmall", desc := "(I)Z" } : Jvm.MethodName) prog_14_method_13_code (1 : Nat) (Option.some Jvm.ClassFile.FieldType.boolean)) ∈ lwW := lwW_in 1587 (by decide +kernel) rfl
theorem w_1588 : (Jvm.Cond.methodLink "DoubleTurnsModel" (132 : Nat) ({ cls := "DoubleTurnsModel", name := "wrong", desc := "(II)V" } : Jvm.MethodName)) ∈ lwW := lwW_in 1588 (by decide +kernel) rfl
theorem w_1590 : (Jvm.Cond.instanceMethod ({ cls := "DoubleTurnsModel", name := "wrong", desc := "(II)V" } : Jvm.MethodName)) ∈ lwW := lwW_in 1590 (by decide +kernel) rfl
theorem w_1591 : (Jvm.Cond.code ({ cls := "DoubleTurnsModel", name := "wrong", desc := "(II)V" } : Jvm.MethodName) prog_14_method_11_code (3 : Nat) (Option.none : Option Jvm.ClassFile.FieldType)) ∈ lwW := lwW_in 1591 (by decide +kernel) rfl
theorem w_1592 : (Jvm.Cond.methodLink "DoubleTurnsModel" (163 : Nat) ({ cls := "DoubleTurnsModel", name := "number", desc := "(Z)I" } : Jvm.MethodName)) ∈ lwW := lwW_in 1592 (by decide +kernel) rfl
theorem w_1594 : (Jvm.Cond.instanceMethod ({ cls := "DoubleTurnsModel", name := "number", desc := "(Z)I" } : Jvm.MethodName)) ∈ lwW := lwW_in 1594 (by decide +kernel) rfl
theorem w_1595 : (Jvm.Cond.code ({ cls := "DoubleTurnsModel", name := "number", desc := "(Z)I" } : Jvm.MethodName) prog_14_method_14_code (5 : Nat) (Option.some Jvm.ClassFile.FieldType.int)) ∈ lwW := lwW_in 1595 (by decide +kernel) rfl
theorem w_1596 : (Jvm.Cond.methodLink "DoubleTurnsModel" (129 : Nat) ({ cls := "DoubleTurnsModel", name := "isDigit", desc := "(I)Z" } : Jvm.MethodName)) ∈ lwW := lwW_in 1596 (by decide +kernel) rfl
theorem w_1597 : (Jvm.Cond.static ({ cls := "DoubleTurnsModel", name := "isDigit", desc := "(I)Z" } : Jvm.MethodName)) ∈ lwW := lwW_in 1597 (by decide +kernel) rfl
theorem w_1598 : (Jvm.Cond.code ({ cls := "DoubleTurnsModel", name := "isDigit", desc := "(I)Z" } : Jvm.MethodName) prog_14_method_12_code (1 : Nat) (Option.some Jvm.ClassFile.FieldType.boolean)) ∈ lwW := lwW_in 1598 (by decide +kernel) rfl
theorem w_1599 : (Jvm.Cond.constant "DoubleTurnsModel" (136 : Nat) (100000 : Int32)) ∈ lwW := lwW_in 1599 (by decide +kernel) rfl
theorem w_1600 : (Jvm.Cond.methodLink "DoubleTurnsModel" (137 : Nat) ({ cls := "DoubleTurnsModel", name := "less", desc := "(II)I" } : Jvm.MethodName)) ∈ lwW := lwW_in 1600 (by decide +kernel) rfl
theorem w_1601 : (Jvm.Cond.static ({ cls := "DoubleTurnsModel", name := "less", desc := "(II)I" } : Jvm.MethodName)) ∈ lwW := lwW_in 1601 (by decide +kernel) rfl
theorem w_1602 : (Jvm.Cond.code ({ cls := "DoubleTurnsModel", name := "less", desc := "(II)I" } : Jvm.MethodName) prog_14_method_5_code (2 : Nat) (Option.some Jvm.ClassFile.FieldType.int)) ∈ lwW := lwW_in 1602 (by decide +kernel) rfl
theorem w_1603 : (Jvm.Cond.methodLink "DoubleTurnsModel" (167 : Nat) ({ cls := "DoubleTurnsModel", name := "ends", desc := "()V" } : Jvm.MethodName)) ∈ lwW := lwW_in 1603 (by decide +kernel) rfl
theorem w_1605 : (Jvm.Cond.instanceMethod ({ cls := "DoubleTurnsModel", name := "ends", desc := "()V" } : Jvm.MethodName)) ∈ lwW := lwW_in 1605 (by decide +kernel) rfl
theorem w_1606 : (Jvm.Cond.code ({ cls := "DoubleTurnsModel", name := "ends", desc := "()V" } : Jvm.MethodName) prog_14_method_16_code (1 : Nat) (Option.none : Option Jvm.ClassFile.FieldType)) ∈ lwW := lwW_in 1606 (by decide +kernel) rfl
theorem w_1607 : (Jvm.Cond.methodLink "DoubleTurnsModel" (183 : Nat) ({ cls := "DoubleTurnsModel", name := "readsTurn", desc := "()V" } : Jvm.MethodName)) ∈ lwW := lwW_in 1607 (by decide +kernel) rfl
theorem w_1609 : (Jvm.Cond.instanceMethod ({ cls := "DoubleTurnsModel", name := "readsTurn", desc := "()V" } : Jvm.MethodName)) ∈ lwW := lwW_in 1609 (by decide +kernel) rfl
theorem w_1610 : (Jvm.Cond.code ({ cls := "DoubleTurnsModel", name := "readsTurn", desc := "()V" } : Jvm.MethodName) prog_14_method_17_code (4 : Nat) (Option.none : Option Jvm.ClassFile.FieldType)) ∈ lwW := lwW_in 1610 (by decide +kernel) rfl
theorem w_1612 : (Jvm.Cond.methodLink "DoubleTurnsModel" (170 : Nat) ({ cls := "DoubleTurnsModel", name := "isTurn", desc := "(II)Z" } : Jvm.MethodName)) ∈ lwW := lwW_in 1612 (by decide +kernel) rfl
theorem w_1614 : (Jvm.Cond.instanceMethod ({ cls := "DoubleTurnsModel", name := "isTurn", desc := "(II)Z" } : Jvm.MethodName)) ∈ lwW := lwW_in 1614 (by decide +kernel) rfl
theorem w_1615 : (Jvm.Cond.code ({ cls := "DoubleTurnsModel", name := "isTurn", desc := "(II)Z" } : Jvm.MethodName) prog_14_method_21_code (8 : Nat) (Option.some Jvm.ClassFile.FieldType.boolean)) ∈ lwW := lwW_in 1615 (by decide +kernel) rfl
theorem w_1616 : (Jvm.Cond.methodLink "DoubleTurnsModel" (186 : Nat) ({ cls := "DoubleTurnsModel", name := "copies", desc := "(II)V" } : Jvm.MethodName)) ∈ lwW := lwW_in 1616 (by decide +kernel) rfl
theorem w_1618 : (Jvm.Cond.instanceMethod ({ cls := "DoubleTurnsModel", name := "copies", desc := "(II)V" } : Jvm.MethodName)) ∈ lwW := lwW_in 1618 (by decide +kernel) rfl
theorem w_1619 : (Jvm.Cond.code ({ cls := "DoubleTurnsModel", name := "copies", desc := "(II)V" } : Jvm.MethodName) prog_14_method_6_code (4 : Nat) (Option.none : Option Jvm.ClassFile.FieldType)) ∈ lwW := lwW_in 1619 (by decide +kernel) rfl
theorem w_1620 : (Jvm.Cond.methodLink "DoubleTurnsLaw" (118 : Nat) ({ cls := "DoubleTurnsModel", name := "fault", desc := "()I" } : Jvm.MethodName)) ∈ lwW := lwW_in 1620 (by decide +kernel) rfl
theorem w_1621 : (Jvm.Cond.instanceMethod ({ cls := "DoubleTurnsModel", name := "fault", desc := "()I" } : Jvm.MethodName)) ∈ lwW := lwW_in 1621 (by decide +kernel) rfl
theorem w_1622 : (Jvm.Cond.selects "DoubleTurnsModel" ({ cls := "DoubleTurnsModel", name := "fault", desc := "()I" } : Jvm.MethodName) ({ cls := "DoubleTurnsModel", name := "fault", desc := "()I" } : Jvm.MethodName)) ∈ lwW := lwW_in 1622 (by decide +kernel) rfl
theorem w_1623 : (Jvm.Cond.code ({ cls := "DoubleTurnsModel", name := "fault", desc := "()I" } : Jvm.MethodName) prog_14_method_19_code (1 : Nat) (Option.some Jvm.ClassFile.FieldType.int)) ∈ lwW := lwW_in 1623 (by decide +kernel) rfl
theorem w_1624 : (Jvm.Cond.methodLink "DoubleTurnsLaw" (122 : Nat) ({ cls := "DoubleTurnsModel", name := "add", desc := "(IIIIIIII)I" } : Jvm.MethodName)) ∈ lwW := lwW_in 1624 (by decide +kernel) rfl
theorem w_1625 : (Jvm.Cond.instanceMethod ({ cls := "DoubleTurnsModel", name := "add", desc := "(IIIIIIII)I" } : Jvm.MethodName)) ∈ lwW := lwW_in 1625 (by decide +kernel) rfl
theorem w_1626 : (Jvm.Cond.selects "DoubleTurnsModel" ({ cls := "DoubleTurnsModel", name := "add", desc := "(IIIIIIII)I" } : Jvm.MethodName) ({ cls := "DoubleTurnsModel", name := "add", desc := "(IIIIIIII)I" } : Jvm.MethodName)) ∈ lwW := lwW_in 1626 (by decide +kernel) rfl
theorem w_1627 : (Jvm.Cond.code ({ cls := "DoubleTurnsModel", name := "add", desc := "(IIIIIIII)I" } : Jvm.MethodName) prog_14_method_51_code (14 : Nat) (Option.some Jvm.ClassFile.FieldType.int)) ∈ lwW := lwW_in 1627 (by decide +kernel) rfl
theorem w_1628 : (Jvm.Cond.methodLink "DoubleTurnsModel" (302 : Nat) ({ cls := "DoubleTurnsModel", name := "remembers", desc := "()V" } : Jvm.MethodName)) ∈ lwW := lwW_in 1628 (by decide +kernel) rfl
theorem w_1630 : (Jvm.Cond.instanceMethod ({ cls := "DoubleTurnsModel", name := "remembers", desc := "()V" } : Jvm.MethodName)) ∈ lwW := lwW_in 1630 (by decide +kernel) rfl
theorem w_1631 : (Jvm.Cond.code ({ cls := "DoubleTurnsModel", name := "remembers", desc := "()V" } : Jvm.MethodName) prog_14_method_49_code (2 : Nat) (Option.none : Option Jvm.ClassFile.FieldType)) ∈ lwW := lwW_in 1631 (by decide +kernel) rfl
theorem w_1632 : (Jvm.Cond.methodLink "DoubleTurnsLaw" (125 : Nat) ({ cls := "DoubleTurnsModel", name := "drop", desc := "(I)I" } : Jvm.MethodName)) ∈ lwW := lwW_in 1632 (by decide +kernel) rfl
theorem w_1633 : (Jvm.Cond.instanceMethod ({ cls := "DoubleTurnsModel", name := "drop", desc := "(I)I" } : Jvm.MethodName)) ∈ lwW := lwW_in 1633 (by decide +kernel) rfl
theorem w_1634 : (Jvm.Cond.selects "DoubleTurnsModel" ({ cls := "DoubleTurnsModel", name := "drop", desc := "(I)I" } : Jvm.MethodName) ({ cls := "DoubleTurnsModel", name := "drop", desc := "(I)I" } : Jvm.MethodName)) ∈ lwW := lwW_in 1634 (by decide +kernel) rfl
theorem w_1635 : (Jvm.Cond.code ({ cls := "DoubleTurnsModel", name := "drop", desc := "(I)I" } : Jvm.MethodName) prog_14_method_52_code (3 : Nat) (Option.some Jvm.ClassFile.FieldType.int)) ∈ lwW := lwW_in 1635 (by decide +kernel) rfl
theorem w_1636 : (Jvm.Cond.methodLink "DoubleTurnsModel" (305 : Nat) ({ cls := "DoubleTurnsModel", name := "makesAnew", desc := "()V" } : Jvm.MethodName)) ∈ lwW := lwW_in 1636 (by decide +kernel) rfl
theorem w_1638 : (Jvm.Cond.instanceMethod ({ cls := "DoubleTurnsModel", name := "makesAnew", desc := "()V" } : Jvm.MethodName)) ∈ lwW := lwW_in 1638 (by decide +kernel) rfl
theorem w_1639 : (Jvm.Cond.code ({ cls := "DoubleTurnsModel", name := "makesAnew", desc := "()V" } : Jvm.MethodName) prog_14_method_50_code (2 : Nat) (Option.none : Option Jvm.ClassFile.FieldType)) ∈ lwW := lwW_in 1639 (by decide +kernel) rfl
theorem w_1640 : (Jvm.Cond.methodLink "DoubleTurnsLaw" (129 : Nat) ({ cls := "DoubleTurnsModel", name := "undo", desc := "()I" } : Jvm.MethodName)) ∈ lwW := lwW_in 1640 (by decide +kernel) rfl
theorem w_1641 : (Jvm.Cond.instanceMethod ({ cls := "DoubleTurnsModel", name := "undo", desc := "()I" } : Jvm.MethodName)) ∈ lwW := lwW_in 1641 (by decide +kernel) rfl
theorem w_1642 : (Jvm.Cond.selects "DoubleTurnsModel" ({ cls := "DoubleTurnsModel", name := "undo", desc := "()I" } : Jvm.MethodName) ({ cls := "DoubleTurnsModel", name := "undo", desc := "()I" } : Jvm.MethodName)) ∈ lwW := lwW_in 1642 (by decide +kernel) rfl
theorem w_1643 : (Jvm.Cond.code ({ cls := "DoubleTurnsModel", name := "undo", desc := "()I" } : Jvm.MethodName) prog_14_method_53_code (1 : Nat) (Option.some Jvm.ClassFile.FieldType.int)) ∈ lwW := lwW_in 1643 (by decide +kernel) rfl
theorem w_1644 : (Jvm.Cond.methodLink "DoubleTurnsLaw" (133 : Nat) ({ cls := "DoubleTurnsModel", name := "why", desc := "(I)I" } : Jvm.MethodName)) ∈ lwW := lwW_in 1644 (by decide +kernel) rfl
theorem w_1645 : (Jvm.Cond.instanceMethod ({ cls := "DoubleTurnsModel", name := "why", desc := "(I)I" } : Jvm.MethodName)) ∈ lwW := lwW_in 1645 (by decide +kernel) rfl
theorem w_1646 : (Jvm.Cond.selects "DoubleTurnsModel" ({ cls := "DoubleTurnsModel", name := "why", desc := "(I)I" } : Jvm.MethodName) ({ cls := "DoubleTurnsModel", name := "why", desc := "(I)I" } : Jvm.MethodName)) ∈ lwW := lwW_in 1646 (by decide +kernel) rfl
theorem w_1647 : (Jvm.Cond.code ({ cls := "DoubleTurnsModel", name := "why", desc := "(I)I" } : Jvm.MethodName) prog_14_method_54_code (2 : Nat) (Option.some Jvm.ClassFile.FieldType.int)) ∈ lwW := lwW_in 1647 (by decide +kernel) rfl
theorem w_1648 : (Jvm.Cond.methodLink "DoubleTurnsLaw" (136 : Nat) ({ cls := "DoubleTurnsModel", name := "told", desc := "(I)I" } : Jvm.MethodName)) ∈ lwW := lwW_in 1648 (by decide +kernel) rfl
theorem w_1649 : (Jvm.Cond.instanceMethod ({ cls := "DoubleTurnsModel", name := "told", desc := "(I)I" } : Jvm.MethodName)) ∈ lwW := lwW_in 1649 (by decide +kernel) rfl
theorem w_1650 : (Jvm.Cond.selects "DoubleTurnsModel" ({ cls := "DoubleTurnsModel", name := "told", desc := "(I)I" } : Jvm.MethodName) ({ cls := "DoubleTurnsModel", name := "told", desc := "(I)I" } : Jvm.MethodName)) ∈ lwW := lwW_in 1650 (by decide +kernel) rfl
theorem w_1651 : (Jvm.Cond.code ({ cls := "DoubleTurnsModel", name := "told", desc := "(I)I" } : Jvm.MethodName) prog_14_method_61_code (2 : Nat) (Option.some Jvm.ClassFile.FieldType.int)) ∈ lwW := lwW_in 1651 (by decide +kernel) rfl
theorem w_1652 : (Jvm.Cond.methodLink "DoubleTurnsModel" (317 : Nat) ({ cls := "DoubleTurnsModel", name := "laysRows", desc := "()V" } : Jvm.MethodName)) ∈ lwW := lwW_in 1652 (by decide +kernel) rfl
theorem w_1654 : (Jvm.Cond.instanceMethod ({ cls := "DoubleTurnsModel", name := "laysRows", desc := "()V" } : Jvm.MethodName)) ∈ lwW := lwW_in 1654 (by decide +kernel) rfl
theorem w_1655 : (Jvm.Cond.code ({ cls := "DoubleTurnsModel", name := "laysRows", desc := "()V" } : Jvm.MethodName) prog_14_method_42_code (6 : Nat) (Option.none : Option Jvm.ClassFile.FieldType)) ∈ lwW := lwW_in 1655 (by decide +kernel) rfl
theorem w_1656 : (Jvm.Cond.methodLink "DoubleTurnsModel" (266 : Nat) ({ cls := "DoubleTurnsModel", name := "laysCouples", desc := "()V" } : Jvm.MethodName)) ∈ lwW := lwW_in 1656 (by decide +kernel) rfl
theorem w_1658 : (Jvm.Cond.instanceMethod ({ cls := "DoubleTurnsModel", name := "laysCouples", desc := "()V" } : Jvm.MethodName)) ∈ lwW := lwW_in 1658 (by decide +kernel) rfl
theorem w_1659 : (Jvm.Cond.code ({ cls := "DoubleTurnsModel", name := "laysCouples", desc := "()V" } : Jvm.MethodName) prog_14_method_35_code (4 : Nat) (Option.none : Option Jvm.ClassFile.FieldType)) ∈ lwW := lwW_in 1659 (by decide +kernel) rfl
theorem w_1660 : (Jvm.Cond.constantLong "DoubleTurnsModel" (269 : Nat) (6364136223846793005 : Int64)) ∈ lwW := lwW_in 1660 (by decide +kernel) rfl
theorem w_1661 : (Jvm.Cond.constantLong "DoubleTurnsModel" (271 : Nat) (1442695040888963407 : Int64)) ∈ lwW := lwW_in 1661 (by decide +kernel) rfl
theorem w_1662 : (Jvm.Cond.methodLink "DoubleTurnsModel" (273 : Nat) ({ cls := "DoubleTurnsModel", name := "laysSheet", desc := "(I)V" } : Jvm.MethodName)) ∈ lwW := lwW_in 1662 (by decide +kernel) rfl
theorem w_1664 : (Jvm.Cond.instanceMethod ({ cls := "DoubleTurnsModel", name := "laysSheet", desc := "(I)V" } : Jvm.MethodName)) ∈ lwW := lwW_in 1664 (by decide +kernel) rfl
theorem w_1665 : (Jvm.Cond.code ({ cls := "DoubleTurnsModel", name := "laysSheet", desc := "(I)V" } : Jvm.MethodName) prog_14_method_36_code (7 : Nat) (Option.none : Option Jvm.ClassFile.FieldType)) ∈ lwW := lwW_in 1665 (by decide +kernel) rfl
theorem w_1666 : (Jvm.Cond.methodLink "DoubleTurnsModel" (250 : Nat) ({ cls := "DoubleTurnsModel", name := "mod", desc := "(J)I" } : Jvm.MethodName)) ∈ lwW := lwW_in 1666 (by decide +kernel) rfl
theorem w_1668 : (Jvm.Cond.instanceMethod ({ cls := "DoubleTurnsModel", name := "mod", desc := "(J)I" } : Jvm.MethodName)) ∈ lwW := lwW_in 1668 (by decide +kernel) rfl
theorem w_1669 : (Jvm.Cond.code ({ cls := "DoubleTurnsModel", name := "mod", desc := "(J)I" } : Jvm.MethodName) prog_14_method_32_code (5 : Nat) (Option.some Jvm.ClassFile.FieldType.int)) ∈ lwW := lwW_in 1669 (by decide +kernel) rfl
theorem w_1670 : (Jvm.Cond.methodLink "DoubleTurnsModel" (277 : Nat) ({ cls := "DoubleTurnsModel", name := "freeOf", desc := "()I" } : Jvm.MethodName)) ∈ lwW := lwW_in 1670 (by decide +kernel) rfl
theorem w_1672 : (Jvm.Cond.instanceMethod ({ cls := "DoubleTurnsModel", name := "freeOf", desc := "()I" } : Jvm.MethodName)) ∈ lwW := lwW_in 1672 (by decide +kernel) rfl
theorem w_1673 : (Jvm.Cond.code ({ cls := "DoubleTurnsModel", name := "freeOf", desc := "()I" } : Jvm.MethodName) prog_14_method_37_code (11 : Nat) (Option.some Jvm.ClassFile.FieldType.int)) ∈ lwW := lwW_in 1673 (by decide +kernel) rfl
theorem w_1674 : (Jvm.Cond.methodLink "DoubleTurnsModel" (254 : Nat) ({ cls := "DoubleTurnsModel", name := "over", desc := "(II)I" } : Jvm.MethodName)) ∈ lwW := lwW_in 1674 (by decide +kernel) rfl
theorem w_1676 : (Jvm.Cond.instanceMethod ({ cls := "DoubleTurnsModel", name := "over", desc := "(II)I" } : Jvm.MethodName)) ∈ lwW := lwW_in 1676 (by decide +kernel) rfl
theorem w_1677 : (Jvm.Cond.code ({ cls := "DoubleTurnsModel", name := "over", desc := "(II)I" } : Jvm.MethodName) prog_14_method_33_code (6 : Nat) (Option.some Jvm.ClassFile.FieldType.int)) ∈ lwW := lwW_in 1677 (by decide +kernel) rfl
theorem w_1678 : (Jvm.Cond.methodLink "DoubleTurnsModel" (280 : Nat) ({ cls := "DoubleTurnsModel", name := "takesRow", desc := "()V" } : Jvm.MethodName)) ∈ lwW := lwW_in 1678 (by decide +kernel) rfl
theorem w_1680 : (Jvm.Cond.instanceMethod ({ cls := "DoubleTurnsModel", name := "takesRow", desc := "()V" } : Jvm.MethodName)) ∈ lwW := lwW_in 1680 (by decide +kernel) rfl
theorem w_1681 : (Jvm.Cond.code ({ cls := "DoubleTurnsModel", name := "takesRow", desc := "()V" } : Jvm.MethodName) prog_14_method_38_code (7 : Nat) (Option.none : Option Jvm.ClassFile.FieldType)) ∈ lwW := lwW_in 1681 (by decide +kernel) rfl
theorem w_1682 : (Jvm.Cond.methodLink "DoubleTurnsModel" (283 : Nat) ({ cls := "DoubleTurnsModel", name := "sortsRows", desc := "()V" } : Jvm.MethodName)) ∈ lwW := lwW_in 1682 (by decide +kernel) rfl
theorem w_1684 : (Jvm.Cond.instanceMethod ({ cls := "DoubleTurnsModel", name := "sortsRows", desc := "()V" } : Jvm.MethodName)) ∈ lwW := lwW_in 1684 (by decide +kernel) rfl
theorem w_1685 : (Jvm.Cond.code ({ cls := "DoubleTurnsModel", name := "sortsRows", desc := "()V" } : Jvm.MethodName) prog_14_method_41_code (5 : Nat) (Option.none : Option Jvm.ClassFile.FieldType)) ∈ lwW := lwW_in 1685 (by decide +kernel) rfl
theorem w_1686 : (Jvm.Cond.methodLink "DoubleTurnsModel" (263 : Nat) ({ cls := "DoubleTurnsModel", name := "isAhead", desc := "(II)Z" } : Jvm.MethodName)) ∈ lwW := lwW_in 1686 (by decide +kernel) rfl
theorem w_1688 : (Jvm.Cond.instanceMethod ({ cls := "DoubleTurnsModel", name := "isAhead", desc := "(II)Z" } : Jvm.MethodName)) ∈ lwW := lwW_in 1688 (by decide +kernel) rfl
theorem w_1689 : (Jvm.Cond.code ({ cls := "DoubleTurnsModel", name := "isAhead", desc := "(II)Z" } : Jvm.MethodName) prog_14_method_40_code (4 : Nat) (Option.some Jvm.ClassFile.FieldType.boolean)) ∈ lwW := lwW_in 1689 (by decide +kernel) rfl
theorem w_1690 : (Jvm.Cond.methodLink "DoubleTurnsModel" (260 : Nat) ({ cls := "DoubleTurnsModel", name := "isOneAll", desc := "(I)Z" } : Jvm.MethodName)) ∈ lwW := lwW_in 1690 (by decide +kernel) rfl
theorem w_1692 : (Jvm.Cond.instanceMethod ({ cls := "DoubleTurnsModel", name := "isOneAll", desc := "(I)Z" } : Jvm.MethodName)) ∈ lwW := lwW_in 1692 (by decide +kernel) rfl
theorem w_1693 : (Jvm.Cond.code ({ cls := "DoubleTurnsModel", name := "isOneAll", desc := "(I)Z" } : Jvm.MethodName) prog_14_method_39_code (3 : Nat) (Option.some Jvm.ClassFile.FieldType.boolean)) ∈ lwW := lwW_in 1693 (by decide +kernel) rfl
theorem w_1694 : (Jvm.Cond.methodLink "DoubleTurnsModel" (320 : Nat) ({ cls := "DoubleTurnsModel", name := "centre", desc := "()I" } : Jvm.MethodName)) ∈ lwW := lwW_in 1694 (by decide +kernel) rfl
theorem w_1696 : (Jvm.Cond.instanceMethod ({ cls := "DoubleTurnsModel", name := "centre", desc := "()I" } : Jvm.MethodName)) ∈ lwW := lwW_in 1696 (by decide +kernel) rfl
theorem w_1697 : (Jvm.Cond.code ({ cls := "DoubleTurnsModel", name := "centre", desc := "()I" } : Jvm.MethodName) prog_14_method_55_code (3 : Nat) (Option.some Jvm.ClassFile.FieldType.int)) ∈ lwW := lwW_in 1697 (by decide +kernel) rfl
theorem w_1698 : (Jvm.Cond.methodLink "DoubleTurnsModel" (311 : Nat) ({ cls := "DoubleTurnsModel", name := "kind", desc := "()I" } : Jvm.MethodName)) ∈ lwW := lwW_in 1698 (by decide +kernel) rfl
theorem w_1700 : (Jvm.Cond.instanceMethod ({ cls := "DoubleTurnsModel", name := "kind", desc := "()I" } : Jvm.MethodName)) ∈ lwW := lwW_in 1700 (by decide +kernel) rfl
theorem w_1701 : (Jvm.Cond.code ({ cls := "DoubleTurnsModel", name := "kind", desc := "()I" } : Jvm.MethodName) prog_14_method_57_code (1 : Nat) (Option.some Jvm.ClassFile.FieldType.int)) ∈ lwW := lwW_in 1701 (by decide +kernel) rfl
theorem w_1702 : (Jvm.Cond.methodLink "DoubleTurnsModel" (308 : Nat) ({ cls := "DoubleTurnsModel", name := "hasOrder", desc := "(I)Z" } : Jvm.MethodName)) ∈ lwW := lwW_in 1702 (by decide +kernel) rfl
theorem w_1704 : (Jvm.Cond.instanceMethod ({ cls := "DoubleTurnsModel", name := "hasOrder", desc := "(I)Z" } : Jvm.MethodName)) ∈ lwW := lwW_in 1704 (by decide +kernel) rfl
theorem w_1705 : (Jvm.Cond.code ({ cls := "DoubleTurnsModel", name := "hasOrder", desc := "(I)Z" } : Jvm.MethodName) prog_14_method_56_code (3 : Nat) (Option.some Jvm.ClassFile.FieldType.boolean)) ∈ lwW := lwW_in 1705 (by decide +kernel) rfl
theorem w_1706 : (Jvm.Cond.methodLink "DoubleTurnsModel" (323 : Nat) ({ cls := "DoubleTurnsModel", name := "kindNumber", desc := "()I" } : Jvm.MethodName)) ∈ lwW := lwW_in 1706 (by decide +kernel) rfl
theorem w_1708 : (Jvm.Cond.instanceMethod ({ cls := "DoubleTurnsModel", name := "kindNumber", desc := "()I" } : Jvm.MethodName)) ∈ lwW := lwW_in 1708 (by decide +kernel) rfl
theorem w_1709 : (Jvm.Cond.code ({ cls := "DoubleTurnsModel", name := "kindNumber", desc := "()I" } : Jvm.MethodName) prog_14_method_58_code (2 : Nat) (Option.some Jvm.ClassFile.FieldType.int)) ∈ lwW := lwW_in 1709 (by decide +kernel) rfl
theorem w_1710 : (Jvm.Cond.methodLink "DoubleTurnsModel" (326 : Nat) ({ cls := "DoubleTurnsModel", name := "turned", desc := "()I" } : Jvm.MethodName)) ∈ lwW := lwW_in 1710 (by decide +kernel) rfl
theorem w_1712 : (Jvm.Cond.instanceMethod ({ cls := "DoubleTurnsModel", name := "turned", desc := "()I" } : Jvm.MethodName)) ∈ lwW := lwW_in 1712 (by decide +kernel) rfl
theorem w_1713 : (Jvm.Cond.code ({ cls := "DoubleTurnsModel", name := "turned", desc := "()I" } : Jvm.MethodName) prog_14_method_60_code (1 : Nat) (Option.some Jvm.ClassFile.FieldType.int)) ∈ lwW := lwW_in 1713 (by decide +kernel) rfl
theorem w_1714 : (Jvm.Cond.methodLink "DoubleTurnsModel" (314 : Nat) ({ cls := "DoubleTurnsModel", name := "minus", desc := "()I" } : Jvm.MethodName)) ∈ lwW := lwW_in 1714 (by decide +kernel) rfl
theorem w_1716 : (Jvm.Cond.instanceMethod ({ cls := "DoubleTurnsModel", name := "minus", desc := "()I" } : Jvm.MethodName)) ∈ lwW := lwW_in 1716 (by decide +kernel) rfl
theorem w_1717 : (Jvm.Cond.code ({ cls := "DoubleTurnsModel", name := "minus", desc := "()I" } : Jvm.MethodName) prog_14_method_59_code (2 : Nat) (Option.some Jvm.ClassFile.FieldType.int)) ∈ lwW := lwW_in 1717 (by decide +kernel) rfl
theorem w_1718 : (Jvm.Cond.methodLink "DoubleTurnsModel" (329 : Nat) ({ cls := "DoubleTurnsModel", name := "diagram", desc := "()I" } : Jvm.MethodName)) ∈ lwW := lwW_in 1718 (by decide +kernel) rfl
theorem w_1720 : (Jvm.Cond.instanceMethod ({ cls := "DoubleTurnsModel", name := "diagram", desc := "()I" } : Jvm.MethodName)) ∈ lwW := lwW_in 1720 (by decide +kernel) rfl
theorem w_1721 : (Jvm.Cond.code ({ cls := "DoubleTurnsModel", name := "diagram", desc := "()I" } : Jvm.MethodName) prog_14_method_48_code (2 : Nat) (Option.some Jvm.ClassFile.FieldType.int)) ∈ lwW := lwW_in 1721 (by decide +kernel) rfl
theorem w_1722 : (Jvm.Cond.methodLink "DoubleTurnsModel" (299 : Nat) ({ cls := "DoubleTurnsModel", name := "withWaysOf", desc := "(I)I" } : Jvm.MethodName)) ∈ lwW := lwW_in 1722 (by decide +kernel) rfl
theorem w_1724 : (Jvm.Cond.instanceMethod ({ cls := "DoubleTurnsModel", name := "withWaysOf", desc := "(I)I" } : Jvm.MethodName)) ∈ lwW := lwW_in 1724 (by decide +kernel) rfl
theorem w_1725 : (Jvm.Cond.code ({ cls := "DoubleTurnsModel", name := "withWaysOf", desc := "(I)I" } : Jvm.MethodName) prog_14_method_47_code (4 : Nat) (Option.some Jvm.ClassFile.FieldType.int)) ∈ lwW := lwW_in 1725 (by decide +kernel) rfl
theorem w_1726 : (Jvm.Cond.methodLink "DoubleTurnsModel" (296 : Nat) ({ cls := "DoubleTurnsModel", name := "waysInAll", desc := "(I)I" } : Jvm.MethodName)) ∈ lwW := lwW_in 1726 (by decide +kernel) rfl
theorem w_1728 : (Jvm.Cond.instanceMethod ({ cls := "DoubleTurnsModel", name := "waysInAll", desc := "(I)I" } : Jvm.MethodName)) ∈ lwW := lwW_in 1728 (by decide +kernel) rfl
theorem w_1729 : (Jvm.Cond.code ({ cls := "DoubleTurnsModel", name := "waysInAll", desc := "(I)I" } : Jvm.MethodName) prog_14_method_46_code (4 : Nat) (Option.some Jvm.ClassFile.FieldType.int)) ∈ lwW := lwW_in 1729 (by decide +kernel) rfl
theorem w_1730 : (Jvm.Cond.methodLink "DoubleTurnsModel" (293 : Nat) ({ cls := "DoubleTurnsModel", name := "waysOf", desc := "(II)I" } : Jvm.MethodName)) ∈ lwW := lwW_in 1730 (by decide +kernel) rfl
theorem w_1732 : (Jvm.Cond.instanceMethod ({ cls := "DoubleTurnsModel", name := "waysOf", desc := "(II)I" } : Jvm.MethodName)) ∈ lwW := lwW_in 1732 (by decide +kernel) rfl
theorem w_1733 : (Jvm.Cond.code ({ cls := "DoubleTurnsModel", name := "waysOf", desc := "(II)I" } : Jvm.MethodName) prog_14_method_45_code (4 : Nat) (Option.some Jvm.ClassFile.FieldType.int)) ∈ lwW := lwW_in 1733 (by decide +kernel) rfl
theorem w_1734 : (Jvm.Cond.methodLink "DoubleTurnsModel" (290 : Nat) ({ cls := "DoubleTurnsModel", name := "natural", desc := "(I)I" } : Jvm.MethodName)) ∈ lwW := lwW_in 1734 (by decide +kernel) rfl
theorem w_1736 : (Jvm.Cond.instanceMethod ({ cls := "DoubleTurnsModel", name := "natural", desc := "(I)I" } : Jvm.MethodName)) ∈ lwW := lwW_in 1736 (by decide +kernel) rfl
theorem w_1737 : (Jvm.Cond.code ({ cls := "DoubleTurnsModel", name := "natural", desc := "(I)I" } : Jvm.MethodName) prog_14_method_34_code (2 : Nat) (Option.some Jvm.ClassFile.FieldType.int)) ∈ lwW := lwW_in 1737 (by decide +kernel) rfl
theorem w_1738 : (Jvm.Cond.methodLink "DoubleTurnsModel" (286 : Nat) ({ cls := "DoubleTurnsModel", name := "oftenIn", desc := "([II)I" } : Jvm.MethodName)) ∈ lwW := lwW_in 1738 (by decide +kernel) rfl
theorem w_1740 : (Jvm.Cond.instanceMethod ({ cls := "DoubleTurnsModel", name := "oftenIn", desc := "([II)I" } : Jvm.MethodName)) ∈ lwW := lwW_in 1740 (by decide +kernel) rfl
theorem w_1741 : (Jvm.Cond.code ({ cls := "DoubleTurnsModel", name := "oftenIn", desc := "([II)I" } : Jvm.MethodName) prog_14_method_43_code (6 : Nat) (Option.some Jvm.ClassFile.FieldType.int)) ∈ lwW := lwW_in 1741 (by decide +kernel) rfl
theorem w_1742 : (Jvm.Cond.methodLink "DoubleTurnsLaw" (140 : Nat) ({ cls := "DoubleTurnsModel", name := "element", desc := "(II)I" } : Jvm.MethodName)) ∈ lwW := lwW_in 1742 (by decide +kernel) rfl
theorem w_1743 : (Jvm.Cond.instanceMethod ({ cls := "DoubleTurnsModel", name := "element", desc := "(II)I" } : Jvm.MethodName)) ∈ lwW := lwW_in 1743 (by decide +kernel) rfl
theorem w_1744 : (Jvm.Cond.selects "DoubleTurnsModel" ({ cls := "DoubleTurnsModel", name := "element", desc := "(II)I" } : Jvm.MethodName) ({ cls := "DoubleTurnsModel", name := "element", desc := "(II)I" } : Jvm.MethodName)) ∈ lwW := lwW_in 1744 (by decide +kernel) rfl
theorem w_1745 : (Jvm.Cond.code ({ cls := "DoubleTurnsModel", name := "element", desc := "(II)I" } : Jvm.MethodName) prog_14_method_64_code (3 : Nat) (Option.some Jvm.ClassFile.FieldType.int)) ∈ lwW := lwW_in 1745 (by decide +kernel) rfl
theorem w_1746 : (Jvm.Cond.methodLink "DoubleTurnsModel" (332 : Nat) ({ cls := "DoubleTurnsModel", name := "isElement", desc := "(I)Z" } : Jvm.MethodName)) ∈ lwW := lwW_in 1746 (by decide +kernel) rfl
theorem w_1748 : (Jvm.Cond.instanceMethod ({ cls := "DoubleTurnsModel", name := "isElement", desc := "(I)Z" } : Jvm.MethodName)) ∈ lwW := lwW_in 1748 (by decide +kernel) rfl
theorem w_1749 : (Jvm.Cond.code ({ cls := "DoubleTurnsModel", name := "isElement", desc := "(I)Z" } : Jvm.MethodName) prog_14_method_62_code (2 : Nat) (Option.some Jvm.ClassFile.FieldType.boolean)) ∈ lwW := lwW_in 1749 (by decide +kernel) rfl
theorem w_1750 : (Jvm.Cond.methodLink "DoubleTurnsLaw" (144 : Nat) ({ cls := "DoubleTurnsModel", name := "find", desc := "(IIIIIIII)I" } : Jvm.MethodName)) ∈ lwW := lwW_in 1750 (by decide +kernel) rfl
theorem w_1751 : (Jvm.Cond.instanceMethod ({ cls := "DoubleTurnsModel", name := "find", desc := "(IIIIIIII)I" } : Jvm.MethodName)) ∈ lwW := lwW_in 1751 (by decide +kernel) rfl
theorem w_1752 : (Jvm.Cond.selects "DoubleTurnsModel" ({ cls := "DoubleTurnsModel", name := "find", desc := "(IIIIIIII)I" } : Jvm.MethodName) ({ cls := "DoubleTurnsModel", name := "find", desc := "(IIIIIIII)I" } : Jvm.MethodName)) ∈ lwW := lwW_in 1752 (by decide +kernel) rfl
theorem w_1753 : (Jvm.Cond.code ({ cls := "DoubleTurnsModel", name := "find", desc := "(IIIIIIII)I" } : Jvm.MethodName) prog_14_method_65_code (10 : Nat) (Option.some Jvm.ClassFile.FieldType.int)) ∈ lwW := lwW_in 1753 (by decide +kernel) rfl
theorem w_1754 : (Jvm.Cond.methodLink "DoubleTurnsLaw" (147 : Nat) ({ cls := "DoubleTurnsModel", name := "product", desc := "(II)I" } : Jvm.MethodName)) ∈ lwW := lwW_in 1754 (by decide +kernel) rfl
theorem w_1755 : (Jvm.Cond.instanceMethod ({ cls := "DoubleTurnsModel", name := "product", desc := "(II)I" } : Jvm.MethodName)) ∈ lwW := lwW_in 1755 (by decide +kernel) rfl
theorem w_1756 : (Jvm.Cond.selects "DoubleTurnsModel" ({ cls := "DoubleTurnsModel", name := "product", desc := "(II)I" } : Jvm.MethodName) ({ cls := "DoubleTurnsModel", name := "product", desc := "(II)I" } : Jvm.MethodName)) ∈ lwW := lwW_in 1756 (by decide +kernel) rfl
theorem w_1757 : (Jvm.Cond.code ({ cls := "DoubleTurnsModel", name := "product", desc := "(II)I" } : Jvm.MethodName) prog_14_method_66_code (3 : Nat) (Option.some Jvm.ClassFile.FieldType.int)) ∈ lwW := lwW_in 1757 (by decide +kernel) rfl
theorem w_1758 : (Jvm.Cond.methodLink "DoubleTurnsLaw" (150 : Nat) ({ cls := "DoubleTurnsModel", name := "power", desc := "(II)I" } : Jvm.MethodName)) ∈ lwW := lwW_in 1758 (by decide +kernel) rfl
theorem w_1759 : (Jvm.Cond.instanceMethod ({ cls := "DoubleTurnsModel", name := "power", desc := "(II)I" } : Jvm.MethodName)) ∈ lwW := lwW_in 1759 (by decide +kernel) rfl
theorem w_1760 : (Jvm.Cond.selects "DoubleTurnsModel" ({ cls := "DoubleTurnsModel", name := "power", desc := "(II)I" } : Jvm.MethodName) ({ cls := "DoubleTurnsModel", name := "power", desc := "(II)I" } : Jvm.MethodName)) ∈ lwW := lwW_in 1760 (by decide +kernel) rfl
theorem w_1761 : (Jvm.Cond.code ({ cls := "DoubleTurnsModel", name := "power", desc := "(II)I" } : Jvm.MethodName) prog_14_method_67_code (6 : Nat) (Option.some Jvm.ClassFile.FieldType.int)) ∈ lwW := lwW_in 1761 (by decide +kernel) rfl
theorem w_1762 : (Jvm.Cond.methodLink "DoubleTurnsLaw" (153 : Nat) ({ cls := "DoubleTurnsModel", name := "of", desc := "(II)I" } : Jvm.MethodName)) ∈ lwW := lwW_in 1762 (by decide +kernel) rfl
theorem w_1763 : (Jvm.Cond.instanceMethod ({ cls := "DoubleTurnsModel", name := "of", desc := "(II)I" } : Jvm.MethodName)) ∈ lwW := lwW_in 1763 (by decide +kernel) rfl
theorem w_1764 : (Jvm.Cond.selects "DoubleTurnsModel" ({ cls := "DoubleTurnsModel", name := "of", desc := "(II)I" } : Jvm.MethodName) ({ cls := "DoubleTurnsModel", name := "of", desc := "(II)I" } : Jvm.MethodName)) ∈ lwW := lwW_in 1764 (by decide +kernel) rfl
theorem w_1765 : (Jvm.Cond.code ({ cls := "DoubleTurnsModel", name := "of", desc := "(II)I" } : Jvm.MethodName) prog_14_method_68_code (3 : Nat) (Option.some Jvm.ClassFile.FieldType.int)) ∈ lwW := lwW_in 1765 (by decide +kernel) rfl
theorem w_1766 : (Jvm.Cond.methodLink "DoubleTurnsModel" (335 : Nat) ({ cls := "DoubleTurnsModel", name := "isClass", desc := "(I)Z" } : Jvm.MethodName)) ∈ lwW := lwW_in 1766 (by decide +kernel) rfl
theorem w_1768 : (Jvm.Cond.instanceMethod ({ cls := "DoubleTurnsModel", name := "isClass", desc := "(I)Z" } : Jvm.MethodName)) ∈ lwW := lwW_in 1768 (by decide +kernel) rfl
theorem w_1769 : (Jvm.Cond.code ({ cls := "DoubleTurnsModel", name := "isClass", desc := "(I)Z" } : Jvm.MethodName) prog_14_method_63_code (2 : Nat) (Option.some Jvm.ClassFile.FieldType.boolean)) ∈ lwW := lwW_in 1769 (by decide +kernel) rfl
theorem w_1770 : (Jvm.Cond.methodLink "DoubleTurnsLaw" (157 : Nat) ({ cls := "DoubleTurnsModel", name := "couples", desc := "(III)I" } : Jvm.MethodName)) ∈ lwW := lwW_in 1770 (by decide +kernel) rfl
theorem w_1771 : (Jvm.Cond.instanceMethod ({ cls := "DoubleTurnsModel", name := "couples", desc := "(III)I" } : Jvm.MethodName)) ∈ lwW := lwW_in 1771 (by decide +kernel) rfl
theorem w_1772 : (Jvm.Cond.selects "DoubleTurnsModel" ({ cls := "DoubleTurnsModel", name := "couples", desc := "(III)I" } : Jvm.MethodName) ({ cls := "DoubleTurnsModel", name := "couples", desc := "(III)I" } : Jvm.MethodName)) ∈ lwW := lwW_in 1772 (by decide +kernel) rfl
theorem w_1773 : (Jvm.Cond.code ({ cls := "DoubleTurnsModel", name := "couples", desc := "(III)I" } : Jvm.MethodName) prog_14_method_69_code (4 : Nat) (Option.some Jvm.ClassFile.FieldType.int)) ∈ lwW := lwW_in 1773 (by decide +kernel) rfl
theorem w_1774 : (Jvm.Cond.methodLink "DoubleTurnsLaw" (160 : Nat) ({ cls := "DoubleTurnsModel", name := "axes", desc := "(I)I" } : Jvm.MethodName)) ∈ lwW := lwW_in 1774 (by decide +kernel) rfl
theorem w_1775 : (Jvm.Cond.instanceMethod ({ cls := "DoubleTurnsModel", name := "axes", desc := "(I)I" } : Jvm.MethodName)) ∈ lwW := lwW_in 1775 (by decide +kernel) rfl
theorem w_1776 : (Jvm.Cond.selects "DoubleTurnsModel" ({ cls := "DoubleTurnsModel", name := "axes", desc := "(I)I" } : Jvm.MethodName) ({ cls := "DoubleTurnsModel", name := "axes", desc := "(I)I" } : Jvm.MethodName)) ∈ lwW := lwW_in 1776 (by decide +kernel) rfl
theorem w_1777 : (Jvm.Cond.code ({ cls := "DoubleTurnsModel", name := "axes", desc := "(I)I" } : Jvm.MethodName) prog_14_method_72_code (7 : Nat) (Option.some Jvm.ClassFile.FieldType.int)) ∈ lwW := lwW_in 1777 (by decide +kernel) rfl
theorem w_1778 : (Jvm.Cond.methodLink "DoubleTurnsModel" (338 : Nat) ({ cls := "DoubleTurnsModel", name := "isStill", desc := "(I)Z" } : Jvm.MethodName)) ∈ lwW := lwW_in 1778 (by decide +kernel) rfl
theorem w_1780 : (Jvm.Cond.instanceMethod ({ cls := "DoubleTurnsModel", name := "isStill", desc := "(I)Z" } : Jvm.MethodName)) ∈ lwW := lwW_in 1780 (by decide +kernel) rfl
theorem w_1781 : (Jvm.Cond.code ({ cls := "DoubleTurnsModel", name := "isStill", desc := "(I)Z" } : Jvm.MethodName) prog_14_method_71_code (2 : Nat) (Option.some Jvm.ClassFile.FieldType.boolean)) ∈ lwW := lwW_in 1781 (by decide +kernel) rfl
theorem w_1782 : (Jvm.Cond.methodLink "DoubleTurnsModel" (341 : Nat) ({ cls := "DoubleTurnsModel", name := "areParallel", desc := "(II)Z" } : Jvm.MethodName)) ∈ lwW := lwW_in 1782 (by decide +kernel) rfl
theorem w_1784 : (Jvm.Cond.instanceMethod ({ cls := "DoubleTurnsModel", name := "areParallel", desc := "(II)Z" } : Jvm.MethodName)) ∈ lwW := lwW_in 1784 (by decide +kernel) rfl
theorem w_1785 : (Jvm.Cond.code ({ cls := "DoubleTurnsModel", name := "areParallel", desc := "(II)Z" } : Jvm.MethodName) prog_14_method_70_code (14 : Nat) (Option.some Jvm.ClassFile.FieldType.boolean)) ∈ lwW := lwW_in 1785 (by decide +kernel) rfl
theorem w_1786 : (Jvm.Cond.methodLink "DoubleTurnsLaw" (163 : Nat) ({ cls := "DoubleTurnsModel", name := "degree", desc := "(I)I" } : Jvm.MethodName)) ∈ lwW := lwW_in 1786 (by decide +kernel) rfl
theorem w_1787 : (Jvm.Cond.instanceMethod ({ cls := "DoubleTurnsModel", name := "degree", desc := "(I)I" } : Jvm.MethodName)) ∈ lwW := lwW_in 1787 (by decide +kernel) rfl
theorem w_1788 : (Jvm.Cond.selects "DoubleTurnsModel" ({ cls := "DoubleTurnsModel", name := "degree", desc := "(I)I" } : Jvm.MethodName) ({ cls := "DoubleTurnsModel", name := "degree", desc := "(I)I" } : Jvm.MethodName)) ∈ lwW := lwW_in 1788 (by decide +kernel) rfl
theorem w_1789 : (Jvm.Cond.code ({ cls := "DoubleTurnsModel", name := "degree", desc := "(I)I" } : Jvm.MethodName) prog_14_method_73_code (2 : Nat) (Option.some Jvm.ClassFile.FieldType.int)) ∈ lwW := lwW_in 1789 (by decide +kernel) rfl
theorem w_1790 : (Jvm.Cond.methodLink "DoubleTurnsLaw" (166 : Nat) ({ cls := "DoubleTurnsModel", name := "value", desc := "(II)I" } : Jvm.MethodName)) ∈ lwW := lwW_in 1790 (by decide +kernel) rfl
theorem w_1791 : (Jvm.Cond.instanceMethod ({ cls := "DoubleTurnsModel", name := "value", desc := "(II)I" } : Jvm.MethodName)) ∈ lwW := lwW_in 1791 (by decide +kernel) rfl
theorem w_1792 : (Jvm.Cond.selects "DoubleTurnsModel" ({ cls := "DoubleTurnsModel", name := "value", desc := "(II)I" } : Jvm.MethodName) ({ cls := "DoubleTurnsModel", name := "value", desc := "(II)I" } : Jvm.MethodName)) ∈ lwW := lwW_in 1792 (by decide +kernel) rfl
theorem w_1793 : (Jvm.Cond.code ({ cls := "DoubleTurnsModel", name := "value", desc := "(II)I" } : Jvm.MethodName) prog_14_method_74_code (3 : Nat) (Option.some Jvm.ClassFile.FieldType.int)) ∈ lwW := lwW_in 1793 (by decide +kernel) rfl
theorem w_1794 : (Jvm.Cond.methodLink "DoubleTurnsLaw" (169 : Nat) ({ cls := "DoubleTurnsModel", name := "often", desc := "(III)I" } : Jvm.MethodName)) ∈ lwW := lwW_in 1794 (by decide +kernel) rfl
theorem w_1795 : (Jvm.Cond.instanceMethod ({ cls := "DoubleTurnsModel", name := "often", desc := "(III)I" } : Jvm.MethodName)) ∈ lwW := lwW_in 1795 (by decide +kernel) rfl
theorem w_1796 : (Jvm.Cond.selects "DoubleTurnsModel" ({ cls := "DoubleTurnsModel", name := "often", desc := "(III)I" } : Jvm.MethodName) ({ cls := "DoubleTurnsModel", name := "often", desc := "(III)I" } : Jvm.MethodName)) ∈ lwW := lwW_in 1796 (by decide +kernel) rfl
theorem w_1797 : (Jvm.Cond.code ({ cls := "DoubleTurnsModel", name := "often", desc := "(III)I" } : Jvm.MethodName) prog_14_method_75_code (4 : Nat) (Option.some Jvm.ClassFile.FieldType.int)) ∈ lwW := lwW_in 1797 (by decide +kernel) rfl
theorem w_1798 : (Jvm.Cond.methodLink "DoubleTurnsModel" (344 : Nat) ({ cls := "DoubleTurnsModel", name := "oftenOf", desc := "(III)I" } : Jvm.MethodName)) ∈ lwW := lwW_in 1798 (by decide +kernel) rfl
theorem w_1800 : (Jvm.Cond.instanceMethod ({ cls := "DoubleTurnsModel", name := "oftenOf", desc := "(III)I" } : Jvm.MethodName)) ∈ lwW := lwW_in 1800 (by decide +kernel) rfl
theorem w_1801 : (Jvm.Cond.code ({ cls := "DoubleTurnsModel", name := "oftenOf", desc := "(III)I" } : Jvm.MethodName) prog_14_method_44_code (5 : Nat) (Option.some Jvm.ClassFile.FieldType.int)) ∈ lwW := lwW_in 1801 (by decide +kernel) rfl
theorem w_1802 : (Jvm.Cond.methodLink "DoubleTurnsLaw" (172 : Nat) ({ cls := "DoubleTurnsModel", name := "opposite", desc := "(I)I" } : Jvm.MethodName)) ∈ lwW := lwW_in 1802 (by decide +kernel) rfl
theorem w_1803 : (Jvm.Cond.instanceMethod ({ cls := "DoubleTurnsModel", name := "opposite", desc := "(I)I" } : Jvm.MethodName)) ∈ lwW := lwW_in 1803 (by decide +kernel) rfl
theorem w_1804 : (Jvm.Cond.selects "DoubleTurnsModel" ({ cls := "DoubleTurnsModel", name := "opposite", desc := "(I)I" } : Jvm.MethodName) ({ cls := "DoubleTurnsModel", name := "opposite", desc := "(I)I" } : Jvm.MethodName)) ∈ lwW := lwW_in 1804 (by decide +kernel) rfl
theorem w_1805 : (Jvm.Cond.code ({ cls := "DoubleTurnsModel", name := "opposite", desc := "(I)I" } : Jvm.MethodName) prog_14_method_76_code (5 : Nat) (Option.some Jvm.ClassFile.FieldType.int)) ∈ lwW := lwW_in 1805 (by decide +kernel) rfl
theorem w_1806 : (Jvm.Cond.methodLink "DoubleTurnsLaw" (175 : Nat) ({ cls := "DoubleTurnsModel", name := "ways", desc := "(II)I" } : Jvm.MethodName)) ∈ lwW := lwW_in 1806 (by decide +kernel) rfl
theorem w_1807 : (Jvm.Cond.instanceMethod ({ cls := "DoubleTurnsModel", name := "ways", desc := "(II)I" } : Jvm.MethodName)) ∈ lwW := lwW_in 1807 (by decide +kernel) rfl
theorem w_1808 : (Jvm.Cond.selects "DoubleTurnsModel" ({ cls := "DoubleTurnsModel", name := "ways", desc := "(II)I" } : Jvm.MethodName) ({ cls := "DoubleTurnsModel", name := "ways", desc := "(II)I" } : Jvm.MethodName)) ∈ lwW := lwW_in 1808 (by decide +kernel) rfl
theorem w_1809 : (Jvm.Cond.code ({ cls := "DoubleTurnsModel", name := "ways", desc := "(II)I" } : Jvm.MethodName) prog_14_method_77_code (3 : Nat) (Option.some Jvm.ClassFile.FieldType.int)) ∈ lwW := lwW_in 1809 (by decide +kernel) rfl
theorem w_1810 : (Jvm.Cond.methodLink "DoubleTurnsLaw" (178 : Nat) ({ cls := "DoubleTurnsModel", name := "far", desc := "(II)I" } : Jvm.MethodName)) ∈ lwW := lwW_in 1810 (by decide +kernel) rfl
theorem w_1811 : (Jvm.Cond.instanceMethod ({ cls := "DoubleTurnsModel", name := "far", desc := "(II)I" } : Jvm.MethodName)) ∈ lwW := lwW_in 1811 (by decide +kernel) rfl
theorem w_1812 : (Jvm.Cond.selects "DoubleTurnsModel" ({ cls := "DoubleTurnsModel", name := "far", desc := "(II)I" } : Jvm.MethodName) ({ cls := "DoubleTurnsModel", name := "far", desc := "(II)I" } : Jvm.MethodName)) ∈ lwW := lwW_in 1812 (by decide +kernel) rfl
theorem w_1813 : (Jvm.Cond.code ({ cls := "DoubleTurnsModel", name := "far", desc := "(II)I" } : Jvm.MethodName) prog_14_method_78_code (6 : Nat) (Option.some Jvm.ClassFile.FieldType.int)) ∈ lwW := lwW_in 1813 (by decide +kernel) rfl
theorem w_1814 : (Jvm.Cond.methodLink "DoubleTurnsLaw" (181 : Nat) ({ cls := "DoubleTurnsModel", name := "withWays", desc := "(I)I" } : Jvm.MethodName)) ∈ lwW := lwW_in 1814 (by decide +kernel) rfl
theorem w_1815 : (Jvm.Cond.instanceMethod ({ cls := "DoubleTurnsModel", name := "withWays", desc := "(I)I" } : Jvm.MethodName)) ∈ lwW := lwW_in 1815 (by decide +kernel) rfl
theorem w_1816 : (Jvm.Cond.selects "DoubleTurnsModel" ({ cls := "DoubleTurnsModel", name := "withWays", desc := "(I)I" } : Jvm.MethodName) ({ cls := "DoubleTurnsModel", name := "withWays", desc := "(I)I" } : Jvm.MethodName)) ∈ lwW := lwW_in 1816 (by decide +kernel) rfl
theorem w_1817 : (Jvm.Cond.code ({ cls := "DoubleTurnsModel", name := "withWays", desc := "(I)I" } : Jvm.MethodName) prog_14_method_79_code (2 : Nat) (Option.some Jvm.ClassFile.FieldType.int)) ∈ lwW := lwW_in 1817 (by decide +kernel) rfl
theorem w_1818 : (Jvm.Cond.methodLink "DoubleTurnsLaw" (184 : Nat) ({ cls := "DoubleTurnsModel", name := "invariants", desc := "(I)I" } : Jvm.MethodName)) ∈ lwW := lwW_in 1818 (by decide +kernel) rfl
theorem w_1819 : (Jvm.Cond.instanceMethod ({ cls := "DoubleTurnsModel", name := "invariants", desc := "(I)I" } : Jvm.MethodName)) ∈ lwW := lwW_in 1819 (by decide +kernel) rfl
theorem w_1820 : (Jvm.Cond.selects "DoubleTurnsModel" ({ cls := "DoubleTurnsModel", name := "invariants", desc := "(I)I" } : Jvm.MethodName) ({ cls := "DoubleTurnsModel", name := "invariants", desc := "(I)I" } : Jvm.MethodName)) ∈ lwW := lwW_in 1820 (by decide +kernel) rfl
theorem w_1821 : (Jvm.Cond.code ({ cls := "DoubleTurnsModel", name := "invariants", desc := "(I)I" } : Jvm.MethodName) prog_14_method_81_code (22 : Nat) (Option.some Jvm.ClassFile.FieldType.int)) ∈ lwW := lwW_in 1821 (by decide +kernel) rfl
theorem w_1822 : (Jvm.Cond.constantLong "DoubleTurnsModel" (348 : Nat) (2 : Int64)) ∈ lwW := lwW_in 1822 (by decide +kernel) rfl
theorem w_1823 : (Jvm.Cond.methodLink "DoubleTurnsLaw" (187 : Nat) ({ cls := "DoubleTurnsModel", name := "inRow", desc := "(II)I" } : Jvm.MethodName)) ∈ lwW := lwW_in 1823 (by decide +kernel) rfl
theorem w_1824 : (Jvm.Cond.instanceMethod ({ cls := "DoubleTurnsModel", name := "inRow", desc := "(II)I" } : Jvm.MethodName)) ∈ lwW := lwW_in 1824 (by decide +kernel) rfl
theorem w_1825 : (Jvm.Cond.selects "DoubleTurnsModel" ({ cls := "DoubleTurnsModel", name := "inRow", desc := "(II)I" } : Jvm.MethodName) ({ cls := "DoubleTurnsModel", name := "inRow", desc := "(II)I" } : Jvm.MethodName)) ∈ lwW := lwW_in 1825 (by decide +kernel) rfl
theorem w_1826 : (Jvm.Cond.code ({ cls := "DoubleTurnsModel", name := "inRow", desc := "(II)I" } : Jvm.MethodName) prog_14_method_82_code (3 : Nat) (Option.some Jvm.ClassFile.FieldType.int)) ∈ lwW := lwW_in 1826 (by decide +kernel) rfl
theorem w_1827 : (Jvm.Cond.methodLink "DoubleTurnsModel" (350 : Nat) ({ cls := "DoubleTurnsModel", name := "laysPower", desc := "(I)V" } : Jvm.MethodName)) ∈ lwW := lwW_in 1827 (by decide +kernel) rfl
theorem w_1829 : (Jvm.Cond.instanceMethod ({ cls := "DoubleTurnsModel", name := "laysPower", desc := "(I)V" } : Jvm.MethodName)) ∈ lwW := lwW_in 1829 (by decide +kernel) rfl
theorem w_1830 : (Jvm.Cond.code ({ cls := "DoubleTurnsModel", name := "laysPower", desc := "(I)V" } : Jvm.MethodName) prog_14_method_80_code (5 : Nat) (Option.none : Option Jvm.ClassFile.FieldType)) ∈ lwW := lwW_in 1830 (by decide +kernel) rfl
theorem w_1831 : (Jvm.Cond.methodLink "DoubleTurnsLaw" (190 : Nat) ({ cls := "DoubleTurnsModel", name := "row", desc := "(II)I" } : Jvm.MethodName)) ∈ lwW := lwW_in 1831 (by decide +kernel) rfl
theorem w_1832 : (Jvm.Cond.instanceMethod ({ cls := "DoubleTurnsModel", name := "row", desc := "(II)I" } : Jvm.MethodName)) ∈ lwW := lwW_in 1832 (by decide +kernel) rfl
theorem w_1833 : (Jvm.Cond.selects "DoubleTurnsModel" ({ cls := "DoubleTurnsModel", name := "row", desc := "(II)I" } : Jvm.MethodName) ({ cls := "DoubleTurnsModel", name := "row", desc := "(II)I" } : Jvm.MethodName)) ∈ lwW := lwW_in 1833 (by decide +kernel) rfl
theorem w_1834 : (Jvm.Cond.code ({ cls := "DoubleTurnsModel", name := "row", desc := "(II)I" } : Jvm.MethodName) prog_14_method_83_code (5 : Nat) (Option.some Jvm.ClassFile.FieldType.int)) ∈ lwW := lwW_in 1834 (by decide +kernel) rfl
theorem w_1835 : (Jvm.Cond.methodLink "DoubleTurnsLaw" (193 : Nat) ({ cls := "DoubleTurnsModel", name := "made", desc := "(III)I" } : Jvm.MethodName)) ∈ lwW := lwW_in 1835 (by decide +kernel) rfl
theorem w_1836 : (Jvm.Cond.instanceMethod ({ cls := "DoubleTurnsModel", name := "made", desc := "(III)I" } : Jvm.MethodName)) ∈ lwW := lwW_in 1836 (by decide +kernel) rfl
theorem w_1837 : (Jvm.Cond.selects "DoubleTurnsModel" ({ cls := "DoubleTurnsModel", name := "made", desc := "(III)I" } : Jvm.MethodName) ({ cls := "DoubleTurnsModel", name := "made", desc := "(III)I" } : Jvm.MethodName)) ∈ lwW := lwW_in 1837 (by decide +kernel) rfl
theorem w_1838 : (Jvm.Cond.code ({ cls := "DoubleTurnsModel", name := "made", desc := "(III)I" } : Jvm.MethodName) prog_14_method_85_code (5 : Nat) (Option.some Jvm.ClassFile.FieldType.int)) ∈ lwW := lwW_in 1838 (by decide +kernel) rfl
theorem w_1839 : (Jvm.Cond.methodLink "DoubleTurnsModel" (356 : Nat) ({ cls := "DoubleTurnsModel", name := "makes", desc := "(II)V" } : Jvm.MethodName)) ∈ lwW := lwW_in 1839 (by decide +kernel) rfl
theorem w_1841 : (Jvm.Cond.instanceMethod ({ cls := "DoubleTurnsModel", name := "makes", desc := "(II)V" } : Jvm.MethodName)) ∈ lwW := lwW_in 1841 (by decide +kernel) rfl
theorem w_1842 : (Jvm.Cond.code ({ cls := "DoubleTurnsModel", name := "makes", desc := "(II)V" } : Jvm.MethodName) prog_14_method_84_code (7 : Nat) (Option.none : Option Jvm.ClassFile.FieldType)) ∈ lwW := lwW_in 1842 (by decide +kernel) rfl
theorem w_1843 : (Jvm.Cond.methodLink "DoubleTurnsLaw" (196 : Nat) ({ cls := "DoubleTurnsModel", name := "isMade", desc := "(III)Z" } : Jvm.MethodName)) ∈ lwW := lwW_in 1843 (by decide +kernel) rfl
theorem w_1844 : (Jvm.Cond.instanceMethod ({ cls := "DoubleTurnsModel", name := "isMade", desc := "(III)Z" } : Jvm.MethodName)) ∈ lwW := lwW_in 1844 (by decide +kernel) rfl
theorem w_1845 : (Jvm.Cond.selects "DoubleTurnsModel" ({ cls := "DoubleTurnsModel", name := "isMade", desc := "(III)Z" } : Jvm.MethodName) ({ cls := "DoubleTurnsModel", name := "isMade", desc := "(III)Z" } : Jvm.MethodName)) ∈ lwW := lwW_in 1845 (by decide +kernel) rfl
theorem w_1846 : (Jvm.Cond.code ({ cls := "DoubleTurnsModel", name := "isMade", desc := "(III)Z" } : Jvm.MethodName) prog_14_method_86_code (4 : Nat) (Option.some Jvm.ClassFile.FieldType.boolean)) ∈ lwW := lwW_in 1846 (by decide +kernel) rfl
theorem w_1847 : (Jvm.Cond.methodLink "DoubleTurnsLaw" (199 : Nat) ({ cls := "DoubleTurnsModel", name := "isKept", desc := "(II)Z" } : Jvm.MethodName)) ∈ lwW := lwW_in 1847 (by decide +kernel) rfl
theorem w_1848 : (Jvm.Cond.instanceMethod ({ cls := "DoubleTurnsModel", name := "isKept", desc := "(II)Z" } : Jvm.MethodName)) ∈ lwW := lwW_in 1848 (by decide +kernel) rfl
theorem w_1849 : (Jvm.Cond.selects "DoubleTurnsModel" ({ cls := "DoubleTurnsModel", name := "isKept", desc := "(II)Z" } : Jvm.MethodName) ({ cls := "DoubleTurnsModel", name := "isKept", desc := "(II)Z" } : Jvm.MethodName)) ∈ lwW := lwW_in 1849 (by decide +kernel) rfl
theorem w_1850 : (Jvm.Cond.code ({ cls := "DoubleTurnsModel", name := "isKept", desc := "(II)Z" } : Jvm.MethodName) prog_14_method_87_code (5 : Nat) (Option.some Jvm.ClassFile.FieldType.boolean)) ∈ lwW := lwW_in 1850 (by decide +kernel) rfl
theorem w_1851 : (Jvm.Cond.methodLink "DoubleTurnsLaw" (202 : Nat) ({ cls := "DoubleTurnsModel", name := "ofOrder", desc := "(II)I" } : Jvm.MethodName)) ∈ lwW := lwW_in 1851 (by decide +kernel) rfl
theorem w_1852 : (Jvm.Cond.instanceMethod ({ cls := "DoubleTurnsModel", name := "ofOrder", desc := "(II)I" } : Jvm.MethodName)) ∈ lwW := lwW_in 1852 (by decide +kernel) rfl
theorem w_1853 : (Jvm.Cond.selects "DoubleTurnsModel" ({ cls := "DoubleTurnsModel", name := "ofOrder", desc := "(II)I" } : Jvm.MethodName) ({ cls := "DoubleTurnsModel", name := "ofOrder", desc := "(II)I" } : Jvm.MethodName)) ∈ lwW := lwW_in 1853 (by decide +kernel) rfl
theorem w_1854 : (Jvm.Cond.code ({ cls := "DoubleTurnsModel", name := "ofOrder", desc := "(II)I" } : Jvm.MethodName) prog_14_method_88_code (6 : Nat) (Option.some Jvm.ClassFile.FieldType.int)) ∈ lwW := lwW_in 1854 (by decide +kernel) rfl
theorem w_1855 : (Jvm.Cond.methodLink "DoubleTurnsLaw" (205 : Nat) ({ cls := "DoubleTurnsModel", name := "makers", desc := "(I)I" } : Jvm.MethodName)) ∈ lwW := lwW_in 1855 (by decide +kernel) rfl
theorem w_1856 : (Jvm.Cond.instanceMethod ({ cls := "DoubleTurnsModel", name := "makers", desc := "(I)I" } : Jvm.MethodName)) ∈ lwW := lwW_in 1856 (by decide +kernel) rfl
theorem w_1857 : (Jvm.Cond.selects "DoubleTurnsModel" ({ cls := "DoubleTurnsModel", name := "makers", desc := "(I)I" } : Jvm.MethodName) ({ cls := "DoubleTurnsModel", name := "makers", desc := "(I)I" } : Jvm.MethodName)) ∈ lwW := lwW_in 1857 (by decide +kernel) rfl
theorem w_1858 : (Jvm.Cond.code ({ cls := "DoubleTurnsModel", name := "makers", desc := "(I)I" } : Jvm.MethodName) prog_14_method_89_code (4 : Nat) (Option.some Jvm.ClassFile.FieldType.int)) ∈ lwW := lwW_in 1858 (by decide +kernel) rfl
theorem w_1859 : (Jvm.Cond.methodLink "DoubleTurnsLaw" (210 : Nat) ({ cls := "DoubleTurnsModel", name := "print", desc := "()J" } : Jvm.MethodName)) ∈ lwW := lwW_in 1859 (by decide +kernel) rfl
theorem w_1860 : (Jvm.Cond.instanceMethod ({ cls := "DoubleTurnsModel", name := "print", desc := "()J" } : Jvm.MethodName)) ∈ lwW := lwW_in 1860 (by decide +kernel) rfl
theorem w_1861 : (Jvm.Cond.selects "DoubleTurnsModel" ({ cls := "DoubleTurnsModel", name := "print", desc := "()J" } : Jvm.MethodName) ({ cls := "DoubleTurnsModel", name := "print", desc := "()J" } : Jvm.MethodName)) ∈ lwW := lwW_in 1861 (by decide +kernel) rfl
theorem w_1862 : (Jvm.Cond.code ({ cls := "DoubleTurnsModel", name := "print", desc := "()J" } : Jvm.MethodName) prog_14_method_90_code (4 : Nat) (Option.some Jvm.ClassFile.FieldType.long)) ∈ lwW := lwW_in 1862 (by decide +kernel) rfl
theorem w_1863 : (Jvm.Cond.constantLong "DoubleTurnsModel" (359 : Nat) (31 : Int64)) ∈ lwW := lwW_in 1863 (by decide +kernel) rfl
theorem w_1864 : (Jvm.Cond.methodLink "DoubleTurnsLaw" (214 : Nat) ({ cls := "DoubleTurnsModel", name := "status", desc := "(I)I" } : Jvm.MethodName)) ∈ lwW := lwW_in 1864 (by decide +kernel) rfl
theorem w_1865 : (Jvm.Cond.instanceMethod ({ cls := "DoubleTurnsModel", name := "status", desc := "(I)I" } : Jvm.MethodName)) ∈ lwW := lwW_in 1865 (by decide +kernel) rfl
theorem w_1866 : (Jvm.Cond.selects "DoubleTurnsModel" ({ cls := "DoubleTurnsModel", name := "status", desc := "(I)I" } : Jvm.MethodName) ({ cls := "DoubleTurnsModel", name := "status", desc := "(I)I" } : Jvm.MethodName)) ∈ lwW := lwW_in 1866 (by decide +kernel) rfl
theorem w_1867 : (Jvm.Cond.code ({ cls := "DoubleTurnsModel", name := "status", desc := "(I)I" } : Jvm.MethodName) prog_14_method_91_code (2 : Nat) (Option.some Jvm.ClassFile.FieldType.int)) ∈ lwW := lwW_in 1867 (by decide +kernel) rfl
theorem w_1868 : (Jvm.Cond.arrayClass Jvm.ClassFile.FieldType.long) ∈ lwW := lwW_in 1868 (by decide +kernel) rfl
theorem w_1888 : (Jvm.Cond.fieldLink "java/lang/String" (9 : Nat) "java/lang/String" "value" "[B") ∈ lwW := lwW_in 1888 (by decide +kernel) rfl
theorem w_1889 : (Jvm.Cond.fieldLink "java/lang/String" (15 : Nat) "java/lang/String" "coder" "B") ∈ lwW := lwW_in 1889 (by decide +kernel) rfl
theorem wt_133 : (Jvm.Cond.methodLinkNest "DoubleTurns" (9 : Nat) ({ cls := "DoubleTurns$Tape", name := "<init>", desc := "()V" } : Jvm.MethodName) "DoubleTurns") ∈ lw_tbl := List.mem_of_getElem? (i := 133) (by decide +kernel)
theorem wt_178 : (Jvm.Cond.methodLinkNest "DoubleTurns" (27 : Nat) ({ cls := "DoubleTurns$Past", name := "<init>", desc := "()V" } : Jvm.MethodName) "DoubleTurns") ∈ lw_tbl := List.mem_of_getElem? (i := 178) (by decide +kernel)
theorem wt_195 : (Jvm.Cond.methodLinkNest "DoubleTurns" (34 : Nat) ({ cls := "DoubleTurns$Group", name := "<init>", desc := "()V" } : Jvm.MethodName) "DoubleTurns") ∈ lw_tbl := List.mem_of_getElem? (i := 195) (by decide +kernel)
theorem wt_263 : (Jvm.Cond.methodLinkNest "DoubleTurns" (41 : Nat) ({ cls := "DoubleTurns$Subgroup", name := "<init>", desc := "()V" } : Jvm.MethodName) "DoubleTurns") ∈ lw_tbl := List.mem_of_getElem? (i := 263) (by decide +kernel)
theorem wt_288 : (Jvm.Cond.methodLinkNest "DoubleTurns" (48 : Nat) ({ cls := "DoubleTurns$Characters", name := "<init>", desc := "()V" } : Jvm.MethodName) "DoubleTurns") ∈ lw_tbl := List.mem_of_getElem? (i := 288) (by decide +kernel)
theorem wt_294 : (Jvm.Cond.methodLinkNest "DoubleTurns$Characters" (11 : Nat) ({ cls := "DoubleTurns$Field", name := "<init>", desc := "()V" } : Jvm.MethodName) "DoubleTurns") ∈ lw_tbl := List.mem_of_getElem? (i := 294) (by decide +kernel)
theorem wt_410 : (Jvm.Cond.methodLinkNest "DoubleTurns" (68 : Nat) ({ cls := "DoubleTurns$Graph", name := "<init>", desc := "()V" } : Jvm.MethodName) "DoubleTurns") ∈ lw_tbl := List.mem_of_getElem? (i := 410) (by decide +kernel)
theorem wt_430 : (Jvm.Cond.methodLinkNest "DoubleTurns" (75 : Nat) ({ cls := "DoubleTurns$Powers", name := "<init>", desc := "()V" } : Jvm.MethodName) "DoubleTurns") ∈ lw_tbl := List.mem_of_getElem? (i := 430) (by decide +kernel)
theorem wt_443 : (Jvm.Cond.methodLinkNest "DoubleTurns" (92 : Nat) ({ cls := "DoubleTurns$Closing", name := "<init>", desc := "()V" } : Jvm.MethodName) "DoubleTurns") ∈ lw_tbl := List.mem_of_getElem? (i := 443) (by decide +kernel)
theorem wt_523 : (Jvm.Cond.fieldLinkNest "DoubleTurns$Closing" (90 : Nat) "DoubleTurns" "SIGNS" "[I" "DoubleTurns") ∈ lw_tbl := List.mem_of_getElem? (i := 523) (by decide +kernel)
theorem wt_555 : (Jvm.Cond.methodLinkNest "DoubleTurns$Group" (60 : Nat) ({ cls := "DoubleTurns", name := "at", desc := "([II)I" } : Jvm.MethodName) "DoubleTurns") ∈ lw_tbl := List.mem_of_getElem? (i := 555) (by decide +kernel)
theorem wt_713 : (Jvm.Cond.castable "java/lang/IllegalArgumentException" "java/lang/IllegalArgumentException") ∈ lw_tbl := List.mem_of_getElem? (i := 713) (by decide +kernel)
theorem wt_876 : (Jvm.Cond.methodLinkNest "DoubleTurns$Reader" (80 : Nat) ({ cls := "DoubleTurns", name := "isTurn", desc := "([II)Z" } : Jvm.MethodName) "DoubleTurns") ∈ lw_tbl := List.mem_of_getElem? (i := 876) (by decide +kernel)
theorem wt_907 : (Jvm.Cond.castable "java/lang/IllegalStateException" "java/lang/IllegalStateException") ∈ lw_tbl := List.mem_of_getElem? (i := 907) (by decide +kernel)
theorem wt_952 : (Jvm.Cond.castable "java/util/NoSuchElementException" "java/util/NoSuchElementException") ∈ lw_tbl := List.mem_of_getElem? (i := 952) (by decide +kernel)
theorem wt_1000 : (Jvm.Cond.methodLinkNest "DoubleTurns$Characters" (80 : Nat) ({ cls := "DoubleTurns", name := "at", desc := "([II)I" } : Jvm.MethodName) "DoubleTurns") ∈ lw_tbl := List.mem_of_getElem? (i := 1000) (by decide +kernel)
theorem wt_1015 : (Jvm.Cond.methodLinkNest "DoubleTurns$Splitting" (67 : Nat) ({ cls := "DoubleTurns", name := "at", desc := "([II)I" } : Jvm.MethodName) "DoubleTurns") ∈ lw_tbl := List.mem_of_getElem? (i := 1015) (by decide +kernel)
theorem wt_1255 : (Jvm.Cond.methodLinkNest "DoubleTurns$Powers" (44 : Nat) ({ cls := "DoubleTurns", name := "at", desc := "([II)I" } : Jvm.MethodName) "DoubleTurns") ∈ lw_tbl := List.mem_of_getElem? (i := 1255) (by decide +kernel)
