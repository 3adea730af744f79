/-! words of the JDK -/
theorem wd_oi1 : Cond.instanceMethod objectInit ∈ xWd := xWd_of (w := Cond.instanceMethod objectInit) 78 (by decide +kernel) (by decide +kernel)
theorem wd_oi2 : Cond.code objectInit ⟨#[0xb1]⟩ 1 none ∈ xWd := xWd_of (w := Cond.code objectInit ⟨#[0xb1]⟩ 1 none) 79 (by decide +kernel) (by decide +kernel)
theorem wd_ac1 : Cond.native arraycopyName ∈ xWd := xWd_of (w := Cond.native arraycopyName) 309 (by decide +kernel) (by decide +kernel)
theorem wd_ac2 : Cond.static arraycopyName ∈ xWd := xWd_of (w := Cond.static arraycopyName) 308 (by decide +kernel) (by decide +kernel)
theorem wd_ac3 : Cond.initialized "java/lang/System" ∈ xWd := xWd_of (w := Cond.initialized "java/lang/System") 70 (by decide +kernel) (by decide +kernel)
theorem wd_ar_int : Cond.arrayClass (newarray.typeOf .int) ∈ xWd := xWd_of (w := Cond.arrayClass (newarray.typeOf .int)) 116 (by decide +kernel) (by decide +kernel)
theorem wd_ar_char : Cond.arrayClass (newarray.typeOf .char) ∈ xWd := xWd_of (w := Cond.arrayClass (newarray.typeOf .char)) 192 (by decide +kernel) (by decide +kernel)
theorem wd_ar_boolean : Cond.arrayClass (newarray.typeOf .boolean) ∈ xWd := xWd_of (w := Cond.arrayClass (newarray.typeOf .boolean)) 740 (by decide +kernel) (by decide +kernel)
/-! classes -/
theorem xck0 : xCk 0 RX0 TX0 8 := ⟨rfl, rfl, by decide +kernel, tyX0_ok, nmX0, by decide +kernel⟩
theorem xck1 : xCk 1 RX1 TX1 4 := ⟨rfl, rfl, by decide +kernel, tyX1_ok, nmX1, by decide +kernel⟩
theorem xck2 : xCk 2 RX2 TX2 3 := ⟨rfl, rfl, by decide +kernel, tyX2_ok, nmX2, by decide +kernel⟩
theorem xck3 : xCk 3 RX3 TX3 2 := ⟨rfl, rfl, by decide +kernel, tyX3_ok, nmX3, by decide +kernel⟩
theorem xck4 : xCk 4 RX4 TX4 6 := ⟨rfl, rfl, by decide +kernel, tyX4_ok, nmX4, by decide +kernel⟩
theorem xck5 : xCk 5 RX5 TX5 9 := ⟨rfl, rfl, by decide +kernel, tyX5_ok, nmX5, by decide +kernel⟩
theorem xck6 : xCk 6 RX6 TX6 13 := ⟨rfl, rfl, by decide +kernel, tyX6_ok, nmX6, by decide +kernel⟩
theorem xck7 : xCk 7 RX7 TX7 19 := ⟨rfl, rfl, by decide +kernel, tyX7_ok, nmX7, by decide +kernel⟩
/-! methods -/
abbrev mX0_init : xM := (yX0_init, cX0_init, 1, none, 1, 16)
abbrev mX0_append : xM := (yX0_append, cX0_append, 2, some .int, 0, 0)
abbrev mX0_empty : xM := (yX0_empty, cX0_empty, 2, some .int, 0, 0)
abbrev mX0_part : xM := (yX0_part, cX0_part, 3, some .int, 0, 0)
abbrev mX0_putPart : xM := (yX0_putPart, cX0_putPart, 4, none, 0, 0)
abbrev mX0_findFault : xM := (yX0_findFault, cX0_findFault, 2, some .int, 4, 92)
abbrev mX0_readThing : xM := (yX0_readThing, cX0_readThing, 3, some .boolean, 3, 70)
abbrev mX0_readLetter : xM := (yX0_readLetter, cX0_readLetter, 3, some .boolean, 2, 48)
abbrev mX0_readNumber : xM := (yX0_readNumber, cX0_readNumber, 6, some .boolean, 1, 23)
abbrev mX0_readSide : xM := (yX0_readSide, cX0_readSide, 3, some .boolean, 1, 23)
abbrev mX0_look : xM := (yX0_look, cX0_look, 1, some .int, 0, 0)
abbrev mX0_kindOf : xM := (yX0_kindOf, cX0_kindOf, 1, some .int, 0, 0)
abbrev mX0_sideOf : xM := (yX0_sideOf, cX0_sideOf, 1, some .int, 0, 0)
abbrev mX0_digitOf : xM := (yX0_digitOf, cX0_digitOf, 1, some .int, 0, 0)
abbrev mX1_init : xM := (yX1_init, cX1_init, 3, none, 2, 47)
abbrev mX1_layEdge : xM := (yX1_layEdge, cX1_layEdge, 8, none, 1, 20)
abbrev mX1_edgeNumber : xM := (yX1_edgeNumber, cX1_edgeNumber, 3, some .int, 1, 20)
abbrev mX2_init : xM := (yX2_init, cX2_init, 1, none, 2, 43)
abbrev mX2_add : xM := (yX2_add, cX2_add, 3, none, 2, 39)
abbrev mX2_takeBack : xM := (yX2_takeBack, cX2_takeBack, 3, some .int, 2, 39)
abbrev mX3_init : xM := (yX3_init, cX3_init, 3, none, 1, 16)
abbrev mX3_deliver : xM := (yX3_deliver, cX3_deliver, 6, some .int, 5, 119)
abbrev mX3_bring : xM := (yX3_bring, cX3_bring, 5, none, 4, 95)
abbrev mX3_growsHedge : xM := (yX3_growsHedge, cX3_growsHedge, 5, some .boolean, 3, 65)
abbrev mX3_makesVoid : xM := (yX3_makesVoid, cX3_makesVoid, 4, some .boolean, 3, 65)
abbrev mX3_reasonAgainst : xM := (yX3_reasonAgainst, cX3_reasonAgainst, 3, some .int, 3, 73)
abbrev mX3_reasonAgainstFence : xM := (yX3_reasonAgainstFence, cX3_reasonAgainstFence, 3, some .int, 2, 41)
abbrev mX3_reasonAgainstGap : xM := (yX3_reasonAgainstGap, cX3_reasonAgainstGap, 4, some .int, 2, 41)
abbrev mX3_reasonAgainstClaim : xM := (yX3_reasonAgainstClaim, cX3_reasonAgainstClaim, 3, some .int, 2, 41)
abbrev mX3_carryOut : xM := (yX3_carryOut, cX3_carryOut, 4, none, 3, 67)
abbrev mX3_takeRegion : xM := (yX3_takeRegion, cX3_takeRegion, 5, none, 2, 43)
abbrev mX3_edgeOf : xM := (yX3_edgeOf, cX3_edgeOf, 3, some .int, 2, 43)
abbrev mX4_init : xM := (yX4_init, cX4_init, 2, none, 1, 16)
abbrev mX4_survey : xM := (yX4_survey, cX4_survey, 4, some .int, 2, 50)
abbrev mX4_spreadFrom : xM := (yX4_spreadFrom, cX4_spreadFrom, 11, none, 1, 20)
abbrev mX4_lowestAround : xM := (yX4_lowestAround, cX4_lowestAround, 2, some .int, 1, 20)
abbrev mX4_sizeAround : xM := (yX4_sizeAround, cX4_sizeAround, 2, some .int, 1, 20)
abbrev mX4_freeAround : xM := (yX4_freeAround, cX4_freeAround, 2, some .int, 1, 20)
abbrev mX4_sizeByJoining : xM := (yX4_sizeByJoining, cX4_sizeByJoining, 6, some .int, 1, 23)
abbrev mX4_relabel : xM := (yX4_relabel, cX4_relabel, 4, none, 0, 0)
abbrev mX4_countLabel : xM := (yX4_countLabel, cX4_countLabel, 4, some .int, 0, 0)
abbrev mX5_init : xM := (yX5_init, cX5_init, 1, none, 1, 23)
abbrev mX5_takeFrom : xM := (yX5_takeFrom, cX5_takeFrom, 2, none, 1, 18)
abbrev mX5_hasLetter : xM := (yX5_hasLetter, cX5_hasLetter, 2, some .boolean, 0, 0)
abbrev mX5_told : xM := (yX5_told, cX5_told, 3, some .int, 1, 21)
abbrev mX5_mark : xM := (yX5_mark, cX5_mark, 4, none, 1, 21)
abbrev mX5_addLetter : xM := (yX5_addLetter, cX5_addLetter, 6, some .int, 2, 44)
abbrev mX5_soonest : xM := (yX5_soonest, cX5_soonest, 3, some .int, 2, 43)
abbrev mX5_haveCrossed : xM := (yX5_haveCrossed, cX5_haveCrossed, 3, some .boolean, 2, 43)
abbrev mX5_enterTurn : xM := (yX5_enterTurn, cX5_enterTurn, 3, some .int, 3, 65)
abbrev mX5_wasDone : xM := (yX5_wasDone, cX5_wasDone, 3, some .boolean, 2, 43)
abbrev mX5_onEdge : xM := (yX5_onEdge, cX5_onEdge, 2, some .int, 1, 20)
abbrev mX5_putOnEdge : xM := (yX5_putOnEdge, cX5_putOnEdge, 3, none, 1, 20)
abbrev mX5_takerOf : xM := (yX5_takerOf, cX5_takerOf, 2, some .int, 1, 20)
abbrev mX5_ownerOf : xM := (yX5_ownerOf, cX5_ownerOf, 2, some .int, 2, 43)
abbrev mX5_giveBackFieldsOf : xM := (yX5_giveBackFieldsOf, cX5_giveBackFieldsOf, 3, none, 0, 0)
abbrev mX5_hasTruce : xM := (yX5_hasTruce, cX5_hasTruce, 1, some .boolean, 0, 0)
abbrev mX5_lettersThatAre : xM := (yX5_lettersThatAre, cX5_lettersThatAre, 4, some .int, 2, 43)
abbrev mX5_turnsOfTwo : xM := (yX5_turnsOfTwo, cX5_turnsOfTwo, 3, some .int, 2, 43)
abbrev mX5_fieldsOf : xM := (yX5_fieldsOf, cX5_fieldsOf, 4, some .int, 3, 64)
abbrev mX5_edgesWith : xM := (yX5_edgesWith, cX5_edgesWith, 4, some .int, 0, 0)
abbrev mX6_init : xM := (yX6_init, cX6_init, 1, none, 3, 69)
abbrev mX6_writeEdge : xM := (yX6_writeEdge, cX6_writeEdge, 5, some .int, 4, 93)
abbrev mX6_writeClaim : xM := (yX6_writeClaim, cX6_writeClaim, 3, some .int, 4, 91)
abbrev mX6_writeTruce : xM := (yX6_writeTruce, cX6_writeTruce, 3, some .int, 4, 91)
abbrev mX6_callBack : xM := (yX6_callBack, cX6_callBack, 2, some .int, 3, 61)
abbrev mX6_pass : xM := (yX6_pass, cX6_pass, 2, some .int, 7, 165)
abbrev mX6_set : xM := (yX6_set, cX6_set, 5, some .int, 3, 61)
abbrev mX6_type : xM := (yX6_type, cX6_type, 2, some .int, 1, 21)
abbrev mX6_clearText : xM := (yX6_clearText, cX6_clearText, 1, some .int, 1, 21)
abbrev mX6_perform : xM := (yX6_perform, cX6_perform, 5, some .int, 7, 165)
abbrev mX6_stopped : xM := (yX6_stopped, cX6_stopped, 2, some .int, 0, 0)
abbrev mX6_undo : xM := (yX6_undo, cX6_undo, 1, some .int, 3, 61)
abbrev mX6_keep : xM := (yX6_keep, cX6_keep, 1, some .int, 2, 39)
abbrev mX6_restore : xM := (yX6_restore, cX6_restore, 1, some .int, 3, 61)
abbrev mX6_edge : xM := (yX6_edge, cX6_edge, 4, some .int, 2, 42)
abbrev mX6_field : xM := (yX6_field, cX6_field, 3, some .int, 3, 73)
abbrev mX6_joined : xM := (yX6_joined, cX6_joined, 2, some .int, 2, 48)
abbrev mX6_letter : xM := (yX6_letter, cX6_letter, 3, some .int, 2, 43)
abbrev mX6_crossed : xM := (yX6_crossed, cX6_crossed, 3, some .int, 3, 65)
abbrev mX6_reasonEdge : xM := (yX6_reasonEdge, cX6_reasonEdge, 5, some .int, 3, 64)
abbrev mX6_reasonClaim : xM := (yX6_reasonClaim, cX6_reasonClaim, 2, some .int, 3, 73)
abbrev mX6_next : xM := (yX6_next, cX6_next, 3, some .int, 3, 65)
abbrev mX6_ifAllCome : xM := (yX6_ifAllCome, cX6_ifAllCome, 2, some .int, 6, 144)
abbrev mX6_bestClaim : xM := (yX6_bestClaim, cX6_bestClaim, 6, some .int, 3, 73)
abbrev mX6_count : xM := (yX6_count, cX6_count, 2, some .int, 4, 87)
abbrev mX6_addEdgeLetter : xM := (yX6_addEdgeLetter, cX6_addEdgeLetter, 5, some .int, 3, 69)
abbrev mX6_addClaim : xM := (yX6_addClaim, cX6_addClaim, 3, some .int, 3, 69)
abbrev mX6_addTruce : xM := (yX6_addTruce, cX6_addTruce, 3, some .int, 3, 69)
abbrev mX6_addLetterOfGame : xM := (yX6_addLetterOfGame, cX6_addLetterOfGame, 5, some .int, 4, 93)
abbrev mX6_letDaysPass : xM := (yX6_letDaysPass, cX6_letDaysPass, 2, some .int, 6, 144)
abbrev mX6_recordUnlessError : xM := (yX6_recordUnlessError, cX6_recordUnlessError, 2, some .int, 3, 61)
abbrev mX6_edgesWithSomething : xM := (yX6_edgesWithSomething, cX6_edgesWithSomething, 5, some .int, 2, 42)
abbrev mX6_isPlayer : xM := (yX6_isPlayer, cX6_isPlayer, 1, some .boolean, 0, 0)
abbrev mX6_isField : xM := (yX6_isField, cX6_isField, 1, some .boolean, 0, 0)
abbrev mX6_isEdge : xM := (yX6_isEdge, cX6_isEdge, 1, some .boolean, 0, 0)
abbrev mX6_fenceOf : xM := (yX6_fenceOf, cX6_fenceOf, 1, some .int, 0, 0)
abbrev mX7_init : xM := (yX7_init, cX7_init, 2, none, 1, 16)
abbrev mX7_in : xM := (yX7_in, cX7_in, 3, some .boolean, 0, 0)
abbrev mX7_isPlayer : xM := (yX7_isPlayer, cX7_isPlayer, 1, some .boolean, 1, 22)
abbrev mX7_isField : xM := (yX7_isField, cX7_isField, 1, some .boolean, 1, 22)
abbrev mX7_isLetter : xM := (yX7_isLetter, cX7_isLetter, 2, some .boolean, 1, 22)
abbrev mX7_at : xM := (yX7_at, cX7_at, 2, some .int, 0, 0)
abbrev mX7_of : xM := (yX7_of, cX7_of, 3, some .int, 1, 21)
abbrev mX7_looks : xM := (yX7_looks, cX7_looks, 2, none, 0, 0)
abbrev mX7_records : xM := (yX7_records, cX7_records, 2, none, 0, 0)
abbrev mX7_putAside : xM := (yX7_putAside, cX7_putAside, 2, none, 0, 0)
abbrev mX7_putBack : xM := (yX7_putBack, cX7_putBack, 2, none, 0, 0)
abbrev mX7_edgeAt : xM := (yX7_edgeAt, cX7_edgeAt, 4, some .int, 2, 42)
abbrev mX7_oneOf : xM := (yX7_oneOf, cX7_oneOf, 1, some .int, 0, 0)
abbrev mX7_otherOf : xM := (yX7_otherOf, cX7_otherOf, 1, some .int, 1, 20)
abbrev mX7_mark : xM := (yX7_mark, cX7_mark, 5, some .int, 2, 40)
abbrev mX7_freeIn : xM := (yX7_freeIn, cX7_freeIn, 5, some .int, 3, 64)
abbrev mX7_lowestIn : xM := (yX7_lowestIn, cX7_lowestIn, 4, some .int, 3, 64)
abbrev mX7_isTruce : xM := (yX7_isTruce, cX7_isTruce, 1, some .boolean, 0, 0)
abbrev mX7_whyEdge : xM := (yX7_whyEdge, cX7_whyEdge, 4, some .int, 1, 20)
abbrev mX7_whyClaim : xM := (yX7_whyClaim, cX7_whyClaim, 2, some .int, 3, 64)
abbrev mX7_isTaken : xM := (yX7_isTaken, cX7_isTaken, 2, some .boolean, 0, 0)
abbrev mX7_forgetsTaken : xM := (yX7_forgetsTaken, cX7_forgetsTaken, 1, none, 0, 0)
abbrev mX7_isSecond : xM := (yX7_isSecond, cX7_isSecond, 4, some .boolean, 2, 43)
abbrev mX7_edgeOf : xM := (yX7_edgeOf, cX7_edgeOf, 2, some .int, 3, 65)
abbrev mX7_does : xM := (yX7_does, cX7_does, 7, some .int, 4, 86)
abbrev mX7_doesSecond : xM := (yX7_doesSecond, cX7_doesSecond, 5, some .int, 4, 86)
abbrev mX7_comes : xM := (yX7_comes, cX7_comes, 3, none, 5, 112)
abbrev mX7_day : xM := (yX7_day, cX7_day, 3, some .int, 6, 134)
abbrev mX7_passes : xM := (yX7_passes, cX7_passes, 4, some .int, 7, 156)
abbrev mX7_writes : xM := (yX7_writes, cX7_writes, 7, some .int, 3, 65)
abbrev mX7_acted : xM := (yX7_acted, cX7_acted, 2, some .int, 1, 21)
abbrev mX7_writeEdge : xM := (yX7_writeEdge, cX7_writeEdge, 5, some .int, 4, 91)
abbrev mX7_writeClaim : xM := (yX7_writeClaim, cX7_writeClaim, 3, some .int, 4, 91)
abbrev mX7_writeTruce : xM := (yX7_writeTruce, cX7_writeTruce, 3, some .int, 4, 91)
abbrev mX7_callBack : xM := (yX7_callBack, cX7_callBack, 2, some .int, 2, 43)
abbrev mX7_pass : xM := (yX7_pass, cX7_pass, 2, some .int, 8, 179)
abbrev mX7_set : xM := (yX7_set, cX7_set, 4, some .int, 1, 22)
abbrev mX7_type : xM := (yX7_type, cX7_type, 2, some .int, 0, 0)
abbrev mX7_clearText : xM := (yX7_clearText, cX7_clearText, 2, some .int, 0, 0)
abbrev mX7_isNext : xM := (yX7_isNext, cX7_isNext, 3, some .boolean, 1, 22)
abbrev mX7_takes : xM := (yX7_takes, cX7_takes, 4, some .int, 1, 22)
abbrev mX7_takesNumber : xM := (yX7_takesNumber, cX7_takesNumber, 5, some .int, 2, 45)
abbrev mX7_takesSign : xM := (yX7_takesSign, cX7_takesSign, 6, some .int, 0, 0)
abbrev mX7_readThing : xM := (yX7_readThing, cX7_readThing, 2, none, 3, 69)
abbrev mX7_runs : xM := (yX7_runs, cX7_runs, 6, some .int, 8, 179)
abbrev mX7_perform : xM := (yX7_perform, cX7_perform, 4, some .int, 9, 204)
abbrev mX7_stopped : xM := (yX7_stopped, cX7_stopped, 2, some .int, 0, 0)
abbrev mX7_undo : xM := (yX7_undo, cX7_undo, 2, some .int, 0, 0)
abbrev mX7_keep : xM := (yX7_keep, cX7_keep, 2, some .int, 0, 0)
abbrev mX7_restore : xM := (yX7_restore, cX7_restore, 2, some .int, 1, 21)
abbrev mX7_edge : xM := (yX7_edge, cX7_edge, 4, some .int, 3, 65)
abbrev mX7_edgesOf : xM := (yX7_edgesOf, cX7_edgesOf, 5, some .int, 3, 65)
abbrev mX7_field : xM := (yX7_field, cX7_field, 3, some .int, 4, 89)
abbrev mX7_joined : xM := (yX7_joined, cX7_joined, 2, some .int, 3, 64)
abbrev mX7_letter : xM := (yX7_letter, cX7_letter, 3, some .int, 2, 43)
abbrev mX7_cross : xM := (yX7_cross, cX7_cross, 4, some .boolean, 2, 43)
abbrev mX7_crossed : xM := (yX7_crossed, cX7_crossed, 3, some .int, 3, 66)
abbrev mX7_reasonEdge : xM := (yX7_reasonEdge, cX7_reasonEdge, 5, some .int, 3, 65)
abbrev mX7_reasonClaim : xM := (yX7_reasonClaim, cX7_reasonClaim, 2, some .int, 4, 85)
abbrev mX7_nextLetter : xM := (yX7_nextLetter, cX7_nextLetter, 3, some .int, 2, 43)
abbrev mX7_next : xM := (yX7_next, cX7_next, 3, some .int, 3, 65)
abbrev mX7_lettersThat : xM := (yX7_lettersThat, cX7_lettersThat, 4, some .int, 2, 43)
abbrev mX7_edgesThat : xM := (yX7_edgesThat, cX7_edgesThat, 4, some .int, 0, 0)
abbrev mX7_fieldsOf : xM := (yX7_fieldsOf, cX7_fieldsOf, 4, some .int, 0, 0)
abbrev mX7_ifAllCome : xM := (yX7_ifAllCome, cX7_ifAllCome, 3, some .int, 7, 156)
abbrev mX7_bestClaim : xM := (yX7_bestClaim, cX7_bestClaim, 6, some .int, 4, 88)
abbrev mX7_regions : xM := (yX7_regions, cX7_regions, 3, some .int, 4, 87)
abbrev mX7_count : xM := (yX7_count, cX7_count, 2, some .int, 5, 109)
abbrev mJ9_floorMod_7cf53 : xM := (yJ9_floorMod_7cf53, cJ9_floorMod_7cf53, 3, some .int, 0, 0)
abbrev mJ7_fill_53178 : xM := (yJ7_fill_53178, cJ7_fill_53178, 4, none, 0, 0)
abbrev mL_law : xM := (yL_law, cL_law, 4, some .boolean, 12, 454)
abbrev xNp (y : MethodName) (n : Nat) : Prop := (parseMethodDescriptor y.desc).map (fun d => d.parameters.length) = some n
def xIsV (M : xM) (n : Nat) : Prop := xGood M ∧ Cond.instanceMethod (xY M) ∈ xWd ∧ Cond.selects (xY M).cls (xY M) (xY M) ∈ xWd ∧ xNp (xY M) n
def xIsS (M : xM) (n : Nat) : Prop := xGood M ∧ Cond.static (xY M) ∈ xWd ∧ xNp (xY M) n
def xIsI (M : xM) (n : Nat) : Prop := xGood M ∧ xT M = none ∧ Cond.instanceMethod (xY M) ∈ xWd ∧ (xY M).name = "<init>" ∧ xNp (xY M) n
theorem isX0_init : xIsI mX0_init 0 := ⟨⟨plainFor_of_name (by decide +kernel), xWd_of (w := Cond.code (xY mX0_init) (xB mX0_init) (xL mX0_init) (xT mX0_init)) 159 (by decide +kernel) (by decide +kernel), xWd_of (w := Cond.initialized (xY mX0_init).cls) 66 (by decide +kernel) (by decide +kernel), by decide +kernel, by decide +kernel⟩, rfl, xWd_of (w := Cond.instanceMethod (xY mX0_init)) 158 (by decide +kernel) (by decide +kernel), rfl, by decide +kernel⟩
theorem isX0_append : xIsV mX0_append 1 := ⟨⟨plainFor_of_name (by decide +kernel), xWd_of (w := Cond.code (xY mX0_append) (xB mX0_append) (xL mX0_append) (xT mX0_append)) 501 (by decide +kernel) (by decide +kernel), xWd_of (w := Cond.initialized (xY mX0_append).cls) 66 (by decide +kernel) (by decide +kernel), by decide +kernel, by decide +kernel⟩, xWd_of (w := Cond.instanceMethod (xY mX0_append)) 499 (by decide +kernel) (by decide +kernel), xWd_of (w := Cond.selects (xY mX0_append).cls (xY mX0_append) (xY mX0_append)) 500 (by decide +kernel) (by decide +kernel), by decide +kernel⟩
theorem isX0_empty : xIsV mX0_empty 0 := ⟨⟨plainFor_of_name (by decide +kernel), xWd_of (w := Cond.code (xY mX0_empty) (xB mX0_empty) (xL mX0_empty) (xT mX0_empty)) 509 (by decide +kernel) (by decide +kernel), xWd_of (w := Cond.initialized (xY mX0_empty).cls) 66 (by decide +kernel) (by decide +kernel), by decide +kernel, by decide +kernel⟩, xWd_of (w := Cond.instanceMethod (xY mX0_empty)) 507 (by decide +kernel) (by decide +kernel), xWd_of (w := Cond.selects (xY mX0_empty).cls (xY mX0_empty) (xY mX0_empty)) 508 (by decide +kernel) (by decide +kernel), by decide +kernel⟩
theorem isX0_part : xIsV mX0_part 2 := ⟨⟨plainFor_of_name (by decide +kernel), xWd_of (w := Cond.code (xY mX0_part) (xB mX0_part) (xL mX0_part) (xT mX0_part)) 554 (by decide +kernel) (by decide +kernel), xWd_of (w := Cond.initialized (xY mX0_part).cls) 66 (by decide +kernel) (by decide +kernel), by decide +kernel, by decide +kernel⟩, xWd_of (w := Cond.instanceMethod (xY mX0_part)) 552 (by decide +kernel) (by decide +kernel), xWd_of (w := Cond.selects (xY mX0_part).cls (xY mX0_part) (xY mX0_part)) 553 (by decide +kernel) (by decide +kernel), by decide +kernel⟩
theorem isX0_putPart : xIsV mX0_putPart 3 := ⟨⟨plainFor_of_name (by decide +kernel), xWd_of (w := Cond.code (xY mX0_putPart) (xB mX0_putPart) (xL mX0_putPart) (xT mX0_putPart)) 529 (by decide +kernel) (by decide +kernel), xWd_of (w := Cond.initialized (xY mX0_putPart).cls) 66 (by decide +kernel) (by decide +kernel), by decide +kernel, by decide +kernel⟩, xWd_of (w := Cond.instanceMethod (xY mX0_putPart)) 528 (by decide +kernel) (by decide +kernel), xWd_of (w := Cond.selects (xY mX0_putPart).cls (xY mX0_putPart) (xY mX0_putPart)) 16 (by decide +kernel) (by decide +kernel), by decide +kernel⟩
theorem isX0_findFault : xIsV mX0_findFault 0 := ⟨⟨plainFor_of_name (by decide +kernel), xWd_of (w := Cond.code (xY mX0_findFault) (xB mX0_findFault) (xL mX0_findFault) (xT mX0_findFault)) 517 (by decide +kernel) (by decide +kernel), xWd_of (w := Cond.initialized (xY mX0_findFault).cls) 66 (by decide +kernel) (by decide +kernel), by decide +kernel, by decide +kernel⟩, xWd_of (w := Cond.instanceMethod (xY mX0_findFault)) 515 (by decide +kernel) (by decide +kernel), xWd_of (w := Cond.selects (xY mX0_findFault).cls (xY mX0_findFault) (xY mX0_findFault)) 516 (by decide +kernel) (by decide +kernel), by decide +kernel⟩
theorem isX0_readThing : xIsV mX0_readThing 1 := ⟨⟨plainFor_of_name (by decide +kernel), xWd_of (w := Cond.code (xY mX0_readThing) (xB mX0_readThing) (xL mX0_readThing) (xT mX0_readThing)) 521 (by decide +kernel) (by decide +kernel), xWd_of (w := Cond.initialized (xY mX0_readThing).cls) 66 (by decide +kernel) (by decide +kernel), by decide +kernel, by decide +kernel⟩, xWd_of (w := Cond.instanceMethod (xY mX0_readThing)) 520 (by decide +kernel) (by decide +kernel), xWd_of (w := Cond.selects (xY mX0_readThing).cls (xY mX0_readThing) (xY mX0_readThing)) 14 (by decide +kernel) (by decide +kernel), by decide +kernel⟩
theorem isX0_readLetter : xIsV mX0_readLetter 1 := ⟨⟨plainFor_of_name (by decide +kernel), xWd_of (w := Cond.code (xY mX0_readLetter) (xB mX0_readLetter) (xL mX0_readLetter) (xT mX0_readLetter)) 540 (by decide +kernel) (by decide +kernel), xWd_of (w := Cond.initialized (xY mX0_readLetter).cls) 66 (by decide +kernel) (by decide +kernel), by decide +kernel, by decide +kernel⟩, xWd_of (w := Cond.instanceMethod (xY mX0_readLetter)) 539 (by decide +kernel) (by decide +kernel), xWd_of (w := Cond.selects (xY mX0_readLetter).cls (xY mX0_readLetter) (xY mX0_readLetter)) 18 (by decide +kernel) (by decide +kernel), by decide +kernel⟩
theorem isX0_readNumber : xIsV mX0_readNumber 3 := ⟨⟨plainFor_of_name (by decide +kernel), xWd_of (w := Cond.code (xY mX0_readNumber) (xB mX0_readNumber) (xL mX0_readNumber) (xT mX0_readNumber)) 533 (by decide +kernel) (by decide +kernel), xWd_of (w := Cond.initialized (xY mX0_readNumber).cls) 66 (by decide +kernel) (by decide +kernel), by decide +kernel, by decide +kernel⟩, xWd_of (w := Cond.instanceMethod (xY mX0_readNumber)) 532 (by decide +kernel) (by decide +kernel), xWd_of (w := Cond.selects (xY mX0_readNumber).cls (xY mX0_readNumber) (xY mX0_readNumber)) 17 (by decide +kernel) (by decide +kernel), by decide +kernel⟩
theorem isX0_readSide : xIsV mX0_readSide 1 := ⟨⟨plainFor_of_name (by decide +kernel), xWd_of (w := Cond.code (xY mX0_readSide) (xB mX0_readSide) (xL mX0_readSide) (xT mX0_readSide)) 547 (by decide +kernel) (by decide +kernel), xWd_of (w := Cond.initialized (xY mX0_readSide).cls) 66 (by decide +kernel) (by decide +kernel), by decide +kernel, by decide +kernel⟩, xWd_of (w := Cond.instanceMethod (xY mX0_readSide)) 546 (by decide +kernel) (by decide +kernel), xWd_of (w := Cond.selects (xY mX0_readSide).cls (xY mX0_readSide) (xY mX0_readSide)) 19 (by decide +kernel) (by decide +kernel), by decide +kernel⟩
theorem isX0_look : xIsV mX0_look 0 := ⟨⟨plainFor_of_name (by decide +kernel), xWd_of (w := Cond.code (xY mX0_look) (xB mX0_look) (xL mX0_look) (xT mX0_look)) 525 (by decide +kernel) (by decide +kernel), xWd_of (w := Cond.initialized (xY mX0_look).cls) 66 (by decide +kernel) (by decide +kernel), by decide +kernel, by decide +kernel⟩, xWd_of (w := Cond.instanceMethod (xY mX0_look)) 524 (by decide +kernel) (by decide +kernel), xWd_of (w := Cond.selects (xY mX0_look).cls (xY mX0_look) (xY mX0_look)) 15 (by decide +kernel) (by decide +kernel), by decide +kernel⟩
theorem isX0_kindOf : xIsS mX0_kindOf 1 := ⟨⟨plainFor_of_name (by decide +kernel), xWd_of (w := Cond.code (xY mX0_kindOf) (xB mX0_kindOf) (xL mX0_kindOf) (xT mX0_kindOf)) 543 (by decide +kernel) (by decide +kernel), xWd_of (w := Cond.initialized (xY mX0_kindOf).cls) 66 (by decide +kernel) (by decide +kernel), by decide +kernel, by decide +kernel⟩, xWd_of (w := Cond.static (xY mX0_kindOf)) 542 (by decide +kernel) (by decide +kernel), by decide +kernel⟩
theorem isX0_sideOf : xIsS mX0_sideOf 1 := ⟨⟨plainFor_of_name (by decide +kernel), xWd_of (w := Cond.code (xY mX0_sideOf) (xB mX0_sideOf) (xL mX0_sideOf) (xT mX0_sideOf)) 550 (by decide +kernel) (by decide +kernel), xWd_of (w := Cond.initialized (xY mX0_sideOf).cls) 66 (by decide +kernel) (by decide +kernel), by decide +kernel, by decide +kernel⟩, xWd_of (w := Cond.static (xY mX0_sideOf)) 549 (by decide +kernel) (by decide +kernel), by decide +kernel⟩
theorem isX0_digitOf : xIsS mX0_digitOf 1 := ⟨⟨plainFor_of_name (by decide +kernel), xWd_of (w := Cond.code (xY mX0_digitOf) (xB mX0_digitOf) (xL mX0_digitOf) (xT mX0_digitOf)) 536 (by decide +kernel) (by decide +kernel), xWd_of (w := Cond.initialized (xY mX0_digitOf).cls) 66 (by decide +kernel) (by decide +kernel), by decide +kernel, by decide +kernel⟩, xWd_of (w := Cond.static (xY mX0_digitOf)) 535 (by decide +kernel) (by decide +kernel), by decide +kernel⟩
theorem isX1_init : xIsI mX1_init 0 := ⟨⟨plainFor_of_name (by decide +kernel), xWd_of (w := Cond.code (xY mX1_init) (xB mX1_init) (xL mX1_init) (xT mX1_init)) 84 (by decide +kernel) (by decide +kernel), xWd_of (w := Cond.initialized (xY mX1_init).cls) 62 (by decide +kernel) (by decide +kernel), by decide +kernel, by decide +kernel⟩, rfl, xWd_of (w := Cond.instanceMethod (xY mX1_init)) 83 (by decide +kernel) (by decide +kernel), rfl, by decide +kernel⟩
theorem isX1_layEdge : xIsV mX1_layEdge 4 := ⟨⟨plainFor_of_name (by decide +kernel), xWd_of (w := Cond.code (xY mX1_layEdge) (xB mX1_layEdge) (xL mX1_layEdge) (xT mX1_layEdge)) 92 (by decide +kernel) (by decide +kernel), xWd_of (w := Cond.initialized (xY mX1_layEdge).cls) 62 (by decide +kernel) (by decide +kernel), by decide +kernel, by decide +kernel⟩, xWd_of (w := Cond.instanceMethod (xY mX1_layEdge)) 91 (by decide +kernel) (by decide +kernel), xWd_of (w := Cond.selects (xY mX1_layEdge).cls (xY mX1_layEdge) (xY mX1_layEdge)) 0 (by decide +kernel) (by decide +kernel), by decide +kernel⟩
theorem isX1_edgeNumber : xIsV mX1_edgeNumber 2 := ⟨⟨plainFor_of_name (by decide +kernel), xWd_of (w := Cond.code (xY mX1_edgeNumber) (xB mX1_edgeNumber) (xL mX1_edgeNumber) (xT mX1_edgeNumber)) 320 (by decide +kernel) (by decide +kernel), xWd_of (w := Cond.initialized (xY mX1_edgeNumber).cls) 62 (by decide +kernel) (by decide +kernel), by decide +kernel, by decide +kernel⟩, xWd_of (w := Cond.instanceMethod (xY mX1_edgeNumber)) 318 (by decide +kernel) (by decide +kernel), xWd_of (w := Cond.selects (xY mX1_edgeNumber).cls (xY mX1_edgeNumber) (xY mX1_edgeNumber)) 319 (by decide +kernel) (by decide +kernel), by decide +kernel⟩
theorem isX2_init : xIsI mX2_init 0 := ⟨⟨plainFor_of_name (by decide +kernel), xWd_of (w := Cond.code (xY mX2_init) (xB mX2_init) (xL mX2_init) (xT mX2_init)) 197 (by decide +kernel) (by decide +kernel), xWd_of (w := Cond.initialized (xY mX2_init).cls) 67 (by decide +kernel) (by decide +kernel), by decide +kernel, by decide +kernel⟩, rfl, xWd_of (w := Cond.instanceMethod (xY mX2_init)) 196 (by decide +kernel) (by decide +kernel), rfl, by decide +kernel⟩
theorem isX2_add : xIsV mX2_add 1 := ⟨⟨plainFor_of_name (by decide +kernel), xWd_of (w := Cond.code (xY mX2_add) (xB mX2_add) (xL mX2_add) (xT mX2_add)) 341 (by decide +kernel) (by decide +kernel), xWd_of (w := Cond.initialized (xY mX2_add).cls) 67 (by decide +kernel) (by decide +kernel), by decide +kernel, by decide +kernel⟩, xWd_of (w := Cond.instanceMethod (xY mX2_add)) 339 (by decide +kernel) (by decide +kernel), xWd_of (w := Cond.selects (xY mX2_add).cls (xY mX2_add) (xY mX2_add)) 340 (by decide +kernel) (by decide +kernel), by decide +kernel⟩
theorem isX2_takeBack : xIsV mX2_takeBack 1 := ⟨⟨plainFor_of_name (by decide +kernel), xWd_of (w := Cond.code (xY mX2_takeBack) (xB mX2_takeBack) (xL mX2_takeBack) (xT mX2_takeBack)) 570 (by decide +kernel) (by decide +kernel), xWd_of (w := Cond.initialized (xY mX2_takeBack).cls) 67 (by decide +kernel) (by decide +kernel), by decide +kernel, by decide +kernel⟩, xWd_of (w := Cond.instanceMethod (xY mX2_takeBack)) 568 (by decide +kernel) (by decide +kernel), xWd_of (w := Cond.selects (xY mX2_takeBack).cls (xY mX2_takeBack) (xY mX2_takeBack)) 569 (by decide +kernel) (by decide +kernel), by decide +kernel⟩
theorem isX3_init : xIsI mX3_init 2 := ⟨⟨plainFor_of_name (by decide +kernel), xWd_of (w := Cond.code (xY mX3_init) (xB mX3_init) (xL mX3_init) (xT mX3_init)) 146 (by decide +kernel) (by decide +kernel), xWd_of (w := Cond.initialized (xY mX3_init).cls) 65 (by decide +kernel) (by decide +kernel), by decide +kernel, by decide +kernel⟩, rfl, xWd_of (w := Cond.instanceMethod (xY mX3_init)) 145 (by decide +kernel) (by decide +kernel), rfl, by decide +kernel⟩
theorem isX3_deliver : xIsV mX3_deliver 2 := ⟨⟨plainFor_of_name (by decide +kernel), xWd_of (w := Cond.code (xY mX3_deliver) (xB mX3_deliver) (xL mX3_deliver) (xT mX3_deliver)) 384 (by decide +kernel) (by decide +kernel), xWd_of (w := Cond.initialized (xY mX3_deliver).cls) 65 (by decide +kernel) (by decide +kernel), by decide +kernel, by decide +kernel⟩, xWd_of (w := Cond.instanceMethod (xY mX3_deliver)) 382 (by decide +kernel) (by decide +kernel), xWd_of (w := Cond.selects (xY mX3_deliver).cls (xY mX3_deliver) (xY mX3_deliver)) 383 (by decide +kernel) (by decide +kernel), by decide +kernel⟩
theorem isX3_bring : xIsV mX3_bring 2 := ⟨⟨plainFor_of_name (by decide +kernel), xWd_of (w := Cond.code (xY mX3_bring) (xB mX3_bring) (xL mX3_bring) (xT mX3_bring)) 394 (by decide +kernel) (by decide +kernel), xWd_of (w := Cond.initialized (xY mX3_bring).cls) 65 (by decide +kernel) (by decide +kernel), by decide +kernel, by decide +kernel⟩, xWd_of (w := Cond.instanceMethod (xY mX3_bring)) 393 (by decide +kernel) (by decide +kernel), xWd_of (w := Cond.selects (xY mX3_bring).cls (xY mX3_bring) (xY mX3_bring)) 6 (by decide +kernel) (by decide +kernel), by decide +kernel⟩
theorem isX3_growsHedge : xIsV mX3_growsHedge 3 := ⟨⟨plainFor_of_name (by decide +kernel), xWd_of (w := Cond.code (xY mX3_growsHedge) (xB mX3_growsHedge) (xL mX3_growsHedge) (xT mX3_growsHedge)) 406 (by decide +kernel) (by decide +kernel), xWd_of (w := Cond.initialized (xY mX3_growsHedge).cls) 65 (by decide +kernel) (by decide +kernel), by decide +kernel, by decide +kernel⟩, xWd_of (w := Cond.instanceMethod (xY mX3_growsHedge)) 405 (by decide +kernel) (by decide +kernel), xWd_of (w := Cond.selects (xY mX3_growsHedge).cls (xY mX3_growsHedge) (xY mX3_growsHedge)) 7 (by decide +kernel) (by decide +kernel), by decide +kernel⟩
theorem isX3_makesVoid : xIsV mX3_makesVoid 3 := ⟨⟨plainFor_of_name (by decide +kernel), xWd_of (w := Cond.code (xY mX3_makesVoid) (xB mX3_makesVoid) (xL mX3_makesVoid) (xT mX3_makesVoid)) 431 (by decide +kernel) (by decide +kernel), xWd_of (w := Cond.initialized (xY mX3_makesVoid).cls) 65 (by decide +kernel) (by decide +kernel), by decide +kernel, by decide +kernel⟩, xWd_of (w := Cond.instanceMethod (xY mX3_makesVoid)) 430 (by decide +kernel) (by decide +kernel), xWd_of (w := Cond.selects (xY mX3_makesVoid).cls (xY mX3_makesVoid) (xY mX3_makesVoid)) 9 (by decide +kernel) (by decide +kernel), by decide +kernel⟩
theorem isX3_reasonAgainst : xIsV mX3_reasonAgainst 2 := ⟨⟨plainFor_of_name (by decide +kernel), xWd_of (w := Cond.code (xY mX3_reasonAgainst) (xB mX3_reasonAgainst) (xL mX3_reasonAgainst) (xT mX3_reasonAgainst)) 444 (by decide +kernel) (by decide +kernel), xWd_of (w := Cond.initialized (xY mX3_reasonAgainst).cls) 65 (by decide +kernel) (by decide +kernel), by decide +kernel, by decide +kernel⟩, xWd_of (w := Cond.instanceMethod (xY mX3_reasonAgainst)) 443 (by decide +kernel) (by decide +kernel), xWd_of (w := Cond.selects (xY mX3_reasonAgainst).cls (xY mX3_reasonAgainst) (xY mX3_reasonAgainst)) 10 (by decide +kernel) (by decide +kernel), by decide +kernel⟩
theorem isX3_reasonAgainstFence : xIsV mX3_reasonAgainstFence 2 := ⟨⟨plainFor_of_name (by decide +kernel), xWd_of (w := Cond.code (xY mX3_reasonAgainstFence) (xB mX3_reasonAgainstFence) (xL mX3_reasonAgainstFence) (xT mX3_reasonAgainstFence)) 448 (by decide +kernel) (by decide +kernel), xWd_of (w := Cond.initialized (xY mX3_reasonAgainstFence).cls) 65 (by decide +kernel) (by decide +kernel), by decide +kernel, by decide +kernel⟩, xWd_of (w := Cond.instanceMethod (xY mX3_reasonAgainstFence)) 446 (by decide +kernel) (by decide +kernel), xWd_of (w := Cond.selects (xY mX3_reasonAgainstFence).cls (xY mX3_reasonAgainstFence) (xY mX3_reasonAgainstFence)) 447 (by decide +kernel) (by decide +kernel), by decide +kernel⟩
theorem isX3_reasonAgainstGap : xIsV mX3_reasonAgainstGap 2 := ⟨⟨plainFor_of_name (by decide +kernel), xWd_of (w := Cond.code (xY mX3_reasonAgainstGap) (xB mX3_reasonAgainstGap) (xL mX3_reasonAgainstGap) (xT mX3_reasonAgainstGap)) 452 (by decide +kernel) (by decide +kernel), xWd_of (w := Cond.initialized (xY mX3_reasonAgainstGap).cls) 65 (by decide +kernel) (by decide +kernel), by decide +kernel, by decide +kernel⟩, xWd_of (w := Cond.instanceMethod (xY mX3_reasonAgainstGap)) 450 (by decide +kernel) (by decide +kernel), xWd_of (w := Cond.selects (xY mX3_reasonAgainstGap).cls (xY mX3_reasonAgainstGap) (xY mX3_reasonAgainstGap)) 451 (by decide +kernel) (by decide +kernel), by decide +kernel⟩
theorem isX3_reasonAgainstClaim : xIsV mX3_reasonAgainstClaim 2 := ⟨⟨plainFor_of_name (by decide +kernel), xWd_of (w := Cond.code (xY mX3_reasonAgainstClaim) (xB mX3_reasonAgainstClaim) (xL mX3_reasonAgainstClaim) (xT mX3_reasonAgainstClaim)) 471 (by decide +kernel) (by decide +kernel), xWd_of (w := Cond.initialized (xY mX3_reasonAgainstClaim).cls) 65 (by decide +kernel) (by decide +kernel), by decide +kernel, by decide +kernel⟩, xWd_of (w := Cond.instanceMethod (xY mX3_reasonAgainstClaim)) 469 (by decide +kernel) (by decide +kernel), xWd_of (w := Cond.selects (xY mX3_reasonAgainstClaim).cls (xY mX3_reasonAgainstClaim) (xY mX3_reasonAgainstClaim)) 470 (by decide +kernel) (by decide +kernel), by decide +kernel⟩
theorem isX3_carryOut : xIsV mX3_carryOut 2 := ⟨⟨plainFor_of_name (by decide +kernel), xWd_of (w := Cond.code (xY mX3_carryOut) (xB mX3_carryOut) (xL mX3_carryOut) (xT mX3_carryOut)) 479 (by decide +kernel) (by decide +kernel), xWd_of (w := Cond.initialized (xY mX3_carryOut).cls) 65 (by decide +kernel) (by decide +kernel), by decide +kernel, by decide +kernel⟩, xWd_of (w := Cond.instanceMethod (xY mX3_carryOut)) 478 (by decide +kernel) (by decide +kernel), xWd_of (w := Cond.selects (xY mX3_carryOut).cls (xY mX3_carryOut) (xY mX3_carryOut)) 12 (by decide +kernel) (by decide +kernel), by decide +kernel⟩
theorem isX3_takeRegion : xIsV mX3_takeRegion 2 := ⟨⟨plainFor_of_name (by decide +kernel), xWd_of (w := Cond.code (xY mX3_takeRegion) (xB mX3_takeRegion) (xL mX3_takeRegion) (xT mX3_takeRegion)) 483 (by decide +kernel) (by decide +kernel), xWd_of (w := Cond.initialized (xY mX3_takeRegion).cls) 65 (by decide +kernel) (by decide +kernel), by decide +kernel, by decide +kernel⟩, xWd_of (w := Cond.instanceMethod (xY mX3_takeRegion)) 482 (by decide +kernel) (by decide +kernel), xWd_of (w := Cond.selects (xY mX3_takeRegion).cls (xY mX3_takeRegion) (xY mX3_takeRegion)) 13 (by decide +kernel) (by decide +kernel), by decide +kernel⟩
theorem isX3_edgeOf : xIsV mX3_edgeOf 2 := ⟨⟨plainFor_of_name (by decide +kernel), xWd_of (w := Cond.code (xY mX3_edgeOf) (xB mX3_edgeOf) (xL mX3_edgeOf) (xT mX3_edgeOf)) 414 (by decide +kernel) (by decide +kernel), xWd_of (w := Cond.initialized (xY mX3_edgeOf).cls) 65 (by decide +kernel) (by decide +kernel), by decide +kernel, by decide +kernel⟩, xWd_of (w := Cond.instanceMethod (xY mX3_edgeOf)) 413 (by decide +kernel) (by decide +kernel), xWd_of (w := Cond.selects (xY mX3_edgeOf).cls (xY mX3_edgeOf) (xY mX3_edgeOf)) 8 (by decide +kernel) (by decide +kernel), by decide +kernel⟩
theorem isX4_init : xIsI mX4_init 1 := ⟨⟨plainFor_of_name (by decide +kernel), xWd_of (w := Cond.code (xY mX4_init) (xB mX4_init) (xL mX4_init) (xT mX4_init)) 121 (by decide +kernel) (by decide +kernel), xWd_of (w := Cond.initialized (xY mX4_init).cls) 64 (by decide +kernel) (by decide +kernel), by decide +kernel, by decide +kernel⟩, rfl, xWd_of (w := Cond.instanceMethod (xY mX4_init)) 120 (by decide +kernel) (by decide +kernel), rfl, by decide +kernel⟩
theorem isX4_survey : xIsV mX4_survey 1 := ⟨⟨plainFor_of_name (by decide +kernel), xWd_of (w := Cond.code (xY mX4_survey) (xB mX4_survey) (xL mX4_survey) (xT mX4_survey)) 460 (by decide +kernel) (by decide +kernel), xWd_of (w := Cond.initialized (xY mX4_survey).cls) 64 (by decide +kernel) (by decide +kernel), by decide +kernel, by decide +kernel⟩, xWd_of (w := Cond.instanceMethod (xY mX4_survey)) 458 (by decide +kernel) (by decide +kernel), xWd_of (w := Cond.selects (xY mX4_survey).cls (xY mX4_survey) (xY mX4_survey)) 459 (by decide +kernel) (by decide +kernel), by decide +kernel⟩
theorem isX4_spreadFrom : xIsV mX4_spreadFrom 2 := ⟨⟨plainFor_of_name (by decide +kernel), xWd_of (w := Cond.code (xY mX4_spreadFrom) (xB mX4_spreadFrom) (xL mX4_spreadFrom) (xT mX4_spreadFrom)) 465 (by decide +kernel) (by decide +kernel), xWd_of (w := Cond.initialized (xY mX4_spreadFrom).cls) 64 (by decide +kernel) (by decide +kernel), by decide +kernel, by decide +kernel⟩, xWd_of (w := Cond.instanceMethod (xY mX4_spreadFrom)) 464 (by decide +kernel) (by decide +kernel), xWd_of (w := Cond.selects (xY mX4_spreadFrom).cls (xY mX4_spreadFrom) (xY mX4_spreadFrom)) 11 (by decide +kernel) (by decide +kernel), by decide +kernel⟩
theorem isX4_lowestAround : xIsV mX4_lowestAround 1 := ⟨⟨plainFor_of_name (by decide +kernel), xWd_of (w := Cond.code (xY mX4_lowestAround) (xB mX4_lowestAround) (xL mX4_lowestAround) (xT mX4_lowestAround)) 487 (by decide +kernel) (by decide +kernel), xWd_of (w := Cond.initialized (xY mX4_lowestAround).cls) 64 (by decide +kernel) (by decide +kernel), by decide +kernel, by decide +kernel⟩, xWd_of (w := Cond.instanceMethod (xY mX4_lowestAround)) 485 (by decide +kernel) (by decide +kernel), xWd_of (w := Cond.selects (xY mX4_lowestAround).cls (xY mX4_lowestAround) (xY mX4_lowestAround)) 486 (by decide +kernel) (by decide +kernel), by decide +kernel⟩
theorem isX4_sizeAround : xIsV mX4_sizeAround 1 := ⟨⟨plainFor_of_name (by decide +kernel), xWd_of (w := Cond.code (xY mX4_sizeAround) (xB mX4_sizeAround) (xL mX4_sizeAround) (xT mX4_sizeAround)) 475 (by decide +kernel) (by decide +kernel), xWd_of (w := Cond.initialized (xY mX4_sizeAround).cls) 64 (by decide +kernel) (by decide +kernel), by decide +kernel, by decide +kernel⟩, xWd_of (w := Cond.instanceMethod (xY mX4_sizeAround)) 473 (by decide +kernel) (by decide +kernel), xWd_of (w := Cond.selects (xY mX4_sizeAround).cls (xY mX4_sizeAround) (xY mX4_sizeAround)) 474 (by decide +kernel) (by decide +kernel), by decide +kernel⟩
theorem isX4_freeAround : xIsV mX4_freeAround 1 := ⟨⟨plainFor_of_name (by decide +kernel), xWd_of (w := Cond.code (xY mX4_freeAround) (xB mX4_freeAround) (xL mX4_freeAround) (xT mX4_freeAround)) 598 (by decide +kernel) (by decide +kernel), xWd_of (w := Cond.initialized (xY mX4_freeAround).cls) 64 (by decide +kernel) (by decide +kernel), by decide +kernel, by decide +kernel⟩, xWd_of (w := Cond.instanceMethod (xY mX4_freeAround)) 596 (by decide +kernel) (by decide +kernel), xWd_of (w := Cond.selects (xY mX4_freeAround).cls (xY mX4_freeAround) (xY mX4_freeAround)) 597 (by decide +kernel) (by decide +kernel), by decide +kernel⟩
theorem isX4_sizeByJoining : xIsV mX4_sizeByJoining 2 := ⟨⟨plainFor_of_name (by decide +kernel), xWd_of (w := Cond.code (xY mX4_sizeByJoining) (xB mX4_sizeByJoining) (xL mX4_sizeByJoining) (xT mX4_sizeByJoining)) 611 (by decide +kernel) (by decide +kernel), xWd_of (w := Cond.initialized (xY mX4_sizeByJoining).cls) 64 (by decide +kernel) (by decide +kernel), by decide +kernel, by decide +kernel⟩, xWd_of (w := Cond.instanceMethod (xY mX4_sizeByJoining)) 609 (by decide +kernel) (by decide +kernel), xWd_of (w := Cond.selects (xY mX4_sizeByJoining).cls (xY mX4_sizeByJoining) (xY mX4_sizeByJoining)) 610 (by decide +kernel) (by decide +kernel), by decide +kernel⟩
theorem isX4_relabel : xIsV mX4_relabel 2 := ⟨⟨plainFor_of_name (by decide +kernel), xWd_of (w := Cond.code (xY mX4_relabel) (xB mX4_relabel) (xL mX4_relabel) (xT mX4_relabel)) 615 (by decide +kernel) (by decide +kernel), xWd_of (w := Cond.initialized (xY mX4_relabel).cls) 64 (by decide +kernel) (by decide +kernel), by decide +kernel, by decide +kernel⟩, xWd_of (w := Cond.instanceMethod (xY mX4_relabel)) 614 (by decide +kernel) (by decide +kernel), xWd_of (w := Cond.selects (xY mX4_relabel).cls (xY mX4_relabel) (xY mX4_relabel)) 22 (by decide +kernel) (by decide +kernel), by decide +kernel⟩
theorem isX4_countLabel : xIsV mX4_countLabel 1 := ⟨⟨plainFor_of_name (by decide +kernel), xWd_of (w := Cond.code (xY mX4_countLabel) (xB mX4_countLabel) (xL mX4_countLabel) (xT mX4_countLabel)) 619 (by decide +kernel) (by decide +kernel), xWd_of (w := Cond.initialized (xY mX4_countLabel).cls) 64 (by decide +kernel) (by decide +kernel), by decide +kernel, by decide +kernel⟩, xWd_of (w := Cond.instanceMethod (xY mX4_countLabel)) 618 (by decide +kernel) (by decide +kernel), xWd_of (w := Cond.selects (xY mX4_countLabel).cls (xY mX4_countLabel) (xY mX4_countLabel)) 23 (by decide +kernel) (by decide +kernel), by decide +kernel⟩
theorem isX5_init : xIsI mX5_init 0 := ⟨⟨plainFor_of_name (by decide +kernel), xWd_of (w := Cond.code (xY mX5_init) (xB mX5_init) (xL mX5_init) (xT mX5_init)) 204 (by decide +kernel) (by decide +kernel), xWd_of (w := Cond.initialized (xY mX5_init).cls) 68 (by decide +kernel) (by decide +kernel), by decide +kernel, by decide +kernel⟩, rfl, xWd_of (w := Cond.instanceMethod (xY mX5_init)) 203 (by decide +kernel) (by decide +kernel), rfl, by decide +kernel⟩
theorem isX5_takeFrom : xIsV mX5_takeFrom 1 := ⟨⟨plainFor_of_name (by decide +kernel), xWd_of (w := Cond.code (xY mX5_takeFrom) (xB mX5_takeFrom) (xL mX5_takeFrom) (xT mX5_takeFrom)) 306 (by decide +kernel) (by decide +kernel), xWd_of (w := Cond.initialized (xY mX5_takeFrom).cls) 68 (by decide +kernel) (by decide +kernel), by decide +kernel, by decide +kernel⟩, xWd_of (w := Cond.instanceMethod (xY mX5_takeFrom)) 304 (by decide +kernel) (by decide +kernel), xWd_of (w := Cond.selects (xY mX5_takeFrom).cls (xY mX5_takeFrom) (xY mX5_takeFrom)) 305 (by decide +kernel) (by decide +kernel), by decide +kernel⟩
theorem isX5_hasLetter : xIsV mX5_hasLetter 1 := ⟨⟨plainFor_of_name (by decide +kernel), xWd_of (w := Cond.code (xY mX5_hasLetter) (xB mX5_hasLetter) (xL mX5_hasLetter) (xT mX5_hasLetter)) 333 (by decide +kernel) (by decide +kernel), xWd_of (w := Cond.initialized (xY mX5_hasLetter).cls) 68 (by decide +kernel) (by decide +kernel), by decide +kernel, by decide +kernel⟩, xWd_of (w := Cond.instanceMethod (xY mX5_hasLetter)) 331 (by decide +kernel) (by decide +kernel), xWd_of (w := Cond.selects (xY mX5_hasLetter).cls (xY mX5_hasLetter) (xY mX5_hasLetter)) 332 (by decide +kernel) (by decide +kernel), by decide +kernel⟩
theorem isX5_told : xIsV mX5_told 2 := ⟨⟨plainFor_of_name (by decide +kernel), xWd_of (w := Cond.code (xY mX5_told) (xB mX5_told) (xL mX5_told) (xT mX5_told)) 371 (by decide +kernel) (by decide +kernel), xWd_of (w := Cond.initialized (xY mX5_told).cls) 68 (by decide +kernel) (by decide +kernel), by decide +kernel, by decide +kernel⟩, xWd_of (w := Cond.instanceMethod (xY mX5_told)) 369 (by decide +kernel) (by decide +kernel), xWd_of (w := Cond.selects (xY mX5_told).cls (xY mX5_told) (xY mX5_told)) 370 (by decide +kernel) (by decide +kernel), by decide +kernel⟩
theorem isX5_mark : xIsV mX5_mark 3 := ⟨⟨plainFor_of_name (by decide +kernel), xWd_of (w := Cond.code (xY mX5_mark) (xB mX5_mark) (xL mX5_mark) (xT mX5_mark)) 329 (by decide +kernel) (by decide +kernel), xWd_of (w := Cond.initialized (xY mX5_mark).cls) 68 (by decide +kernel) (by decide +kernel), by decide +kernel, by decide +kernel⟩, xWd_of (w := Cond.instanceMethod (xY mX5_mark)) 327 (by decide +kernel) (by decide +kernel), xWd_of (w := Cond.selects (xY mX5_mark).cls (xY mX5_mark) (xY mX5_mark)) 328 (by decide +kernel) (by decide +kernel), by decide +kernel⟩
theorem isX5_addLetter : xIsV mX5_addLetter 4 := ⟨⟨plainFor_of_name (by decide +kernel), xWd_of (w := Cond.code (xY mX5_addLetter) (xB mX5_addLetter) (xL mX5_addLetter) (xT mX5_addLetter)) 325 (by decide +kernel) (by decide +kernel), xWd_of (w := Cond.initialized (xY mX5_addLetter).cls) 68 (by decide +kernel) (by decide +kernel), by decide +kernel, by decide +kernel⟩, xWd_of (w := Cond.instanceMethod (xY mX5_addLetter)) 323 (by decide +kernel) (by decide +kernel), xWd_of (w := Cond.selects (xY mX5_addLetter).cls (xY mX5_addLetter) (xY mX5_addLetter)) 324 (by decide +kernel) (by decide +kernel), by decide +kernel⟩
theorem isX5_soonest : xIsV mX5_soonest 0 := ⟨⟨plainFor_of_name (by decide +kernel), xWd_of (w := Cond.code (xY mX5_soonest) (xB mX5_soonest) (xL mX5_soonest) (xT mX5_soonest)) 388 (by decide +kernel) (by decide +kernel), xWd_of (w := Cond.initialized (xY mX5_soonest).cls) 68 (by decide +kernel) (by decide +kernel), by decide +kernel, by decide +kernel⟩, xWd_of (w := Cond.instanceMethod (xY mX5_soonest)) 386 (by decide +kernel) (by decide +kernel), xWd_of (w := Cond.selects (xY mX5_soonest).cls (xY mX5_soonest) (xY mX5_soonest)) 387 (by decide +kernel) (by decide +kernel), by decide +kernel⟩
theorem isX5_haveCrossed : xIsV mX5_haveCrossed 2 := ⟨⟨plainFor_of_name (by decide +kernel), xWd_of (w := Cond.code (xY mX5_haveCrossed) (xB mX5_haveCrossed) (xL mX5_haveCrossed) (xT mX5_haveCrossed)) 402 (by decide +kernel) (by decide +kernel), xWd_of (w := Cond.initialized (xY mX5_haveCrossed).cls) 68 (by decide +kernel) (by decide +kernel), by decide +kernel, by decide +kernel⟩, xWd_of (w := Cond.instanceMethod (xY mX5_haveCrossed)) 400 (by decide +kernel) (by decide +kernel), xWd_of (w := Cond.selects (xY mX5_haveCrossed).cls (xY mX5_haveCrossed) (xY mX5_haveCrossed)) 401 (by decide +kernel) (by decide +kernel), by decide +kernel⟩
theorem isX5_enterTurn : xIsV mX5_enterTurn 1 := ⟨⟨plainFor_of_name (by decide +kernel), xWd_of (w := Cond.code (xY mX5_enterTurn) (xB mX5_enterTurn) (xL mX5_enterTurn) (xT mX5_enterTurn)) 398 (by decide +kernel) (by decide +kernel), xWd_of (w := Cond.initialized (xY mX5_enterTurn).cls) 68 (by decide +kernel) (by decide +kernel), by decide +kernel, by decide +kernel⟩, xWd_of (w := Cond.instanceMethod (xY mX5_enterTurn)) 396 (by decide +kernel) (by decide +kernel), xWd_of (w := Cond.selects (xY mX5_enterTurn).cls (xY mX5_enterTurn) (xY mX5_enterTurn)) 397 (by decide +kernel) (by decide +kernel), by decide +kernel⟩
theorem isX5_wasDone : xIsV mX5_wasDone 2 := ⟨⟨plainFor_of_name (by decide +kernel), xWd_of (w := Cond.code (xY mX5_wasDone) (xB mX5_wasDone) (xL mX5_wasDone) (xT mX5_wasDone)) 410 (by decide +kernel) (by decide +kernel), xWd_of (w := Cond.initialized (xY mX5_wasDone).cls) 68 (by decide +kernel) (by decide +kernel), by decide +kernel, by decide +kernel⟩, xWd_of (w := Cond.instanceMethod (xY mX5_wasDone)) 408 (by decide +kernel) (by decide +kernel), xWd_of (w := Cond.selects (xY mX5_wasDone).cls (xY mX5_wasDone) (xY mX5_wasDone)) 409 (by decide +kernel) (by decide +kernel), by decide +kernel⟩
theorem isX5_onEdge : xIsV mX5_onEdge 1 := ⟨⟨plainFor_of_name (by decide +kernel), xWd_of (w := Cond.code (xY mX5_onEdge) (xB mX5_onEdge) (xL mX5_onEdge) (xT mX5_onEdge)) 419 (by decide +kernel) (by decide +kernel), xWd_of (w := Cond.initialized (xY mX5_onEdge).cls) 68 (by decide +kernel) (by decide +kernel), by decide +kernel, by decide +kernel⟩, xWd_of (w := Cond.instanceMethod (xY mX5_onEdge)) 417 (by decide +kernel) (by decide +kernel), xWd_of (w := Cond.selects (xY mX5_onEdge).cls (xY mX5_onEdge) (xY mX5_onEdge)) 418 (by decide +kernel) (by decide +kernel), by decide +kernel⟩
theorem isX5_putOnEdge : xIsV mX5_putOnEdge 2 := ⟨⟨plainFor_of_name (by decide +kernel), xWd_of (w := Cond.code (xY mX5_putOnEdge) (xB mX5_putOnEdge) (xL mX5_putOnEdge) (xT mX5_putOnEdge)) 427 (by decide +kernel) (by decide +kernel), xWd_of (w := Cond.initialized (xY mX5_putOnEdge).cls) 68 (by decide +kernel) (by decide +kernel), by decide +kernel, by decide +kernel⟩, xWd_of (w := Cond.instanceMethod (xY mX5_putOnEdge)) 425 (by decide +kernel) (by decide +kernel), xWd_of (w := Cond.selects (xY mX5_putOnEdge).cls (xY mX5_putOnEdge) (xY mX5_putOnEdge)) 426 (by decide +kernel) (by decide +kernel), by decide +kernel⟩
theorem isX5_takerOf : xIsV mX5_takerOf 1 := ⟨⟨plainFor_of_name (by decide +kernel), xWd_of (w := Cond.code (xY mX5_takerOf) (xB mX5_takerOf) (xL mX5_takerOf) (xT mX5_takerOf)) 435 (by decide +kernel) (by decide +kernel), xWd_of (w := Cond.initialized (xY mX5_takerOf).cls) 68 (by decide +kernel) (by decide +kernel), by decide +kernel, by decide +kernel⟩, xWd_of (w := Cond.instanceMethod (xY mX5_takerOf)) 433 (by decide +kernel) (by decide +kernel), xWd_of (w := Cond.selects (xY mX5_takerOf).cls (xY mX5_takerOf) (xY mX5_takerOf)) 434 (by decide +kernel) (by decide +kernel), by decide +kernel⟩
theorem isX5_ownerOf : xIsV mX5_ownerOf 1 := ⟨⟨plainFor_of_name (by decide +kernel), xWd_of (w := Cond.code (xY mX5_ownerOf) (xB mX5_ownerOf) (xL mX5_ownerOf) (xT mX5_ownerOf)) 592 (by decide +kernel) (by decide +kernel), xWd_of (w := Cond.initialized (xY mX5_ownerOf).cls) 68 (by decide +kernel) (by decide +kernel), by decide +kernel, by decide +kernel⟩, xWd_of (w := Cond.instanceMethod (xY mX5_ownerOf)) 590 (by decide +kernel) (by decide +kernel), xWd_of (w := Cond.selects (xY mX5_ownerOf).cls (xY mX5_ownerOf) (xY mX5_ownerOf)) 591 (by decide +kernel) (by decide +kernel), by decide +kernel⟩
theorem isX5_giveBackFieldsOf : xIsV mX5_giveBackFieldsOf 1 := ⟨⟨plainFor_of_name (by decide +kernel), xWd_of (w := Cond.code (xY mX5_giveBackFieldsOf) (xB mX5_giveBackFieldsOf) (xL mX5_giveBackFieldsOf) (xT mX5_giveBackFieldsOf)) 440 (by decide +kernel) (by decide +kernel), xWd_of (w := Cond.initialized (xY mX5_giveBackFieldsOf).cls) 68 (by decide +kernel) (by decide +kernel), by decide +kernel, by decide +kernel⟩, xWd_of (w := Cond.instanceMethod (xY mX5_giveBackFieldsOf)) 438 (by decide +kernel) (by decide +kernel), xWd_of (w := Cond.selects (xY mX5_giveBackFieldsOf).cls (xY mX5_giveBackFieldsOf) (xY mX5_giveBackFieldsOf)) 439 (by decide +kernel) (by decide +kernel), by decide +kernel⟩
theorem isX5_hasTruce : xIsV mX5_hasTruce 0 := ⟨⟨plainFor_of_name (by decide +kernel), xWd_of (w := Cond.code (xY mX5_hasTruce) (xB mX5_hasTruce) (xL mX5_hasTruce) (xT mX5_hasTruce)) 456 (by decide +kernel) (by decide +kernel), xWd_of (w := Cond.initialized (xY mX5_hasTruce).cls) 68 (by decide +kernel) (by decide +kernel), by decide +kernel, by decide +kernel⟩, xWd_of (w := Cond.instanceMethod (xY mX5_hasTruce)) 454 (by decide +kernel) (by decide +kernel), xWd_of (w := Cond.selects (xY mX5_hasTruce).cls (xY mX5_hasTruce) (xY mX5_hasTruce)) 455 (by decide +kernel) (by decide +kernel), by decide +kernel⟩
theorem isX5_lettersThatAre : xIsV mX5_lettersThatAre 1 := ⟨⟨plainFor_of_name (by decide +kernel), xWd_of (w := Cond.code (xY mX5_lettersThatAre) (xB mX5_lettersThatAre) (xL mX5_lettersThatAre) (xT mX5_lettersThatAre)) 656 (by decide +kernel) (by decide +kernel), xWd_of (w := Cond.initialized (xY mX5_lettersThatAre).cls) 68 (by decide +kernel) (by decide +kernel), by decide +kernel, by decide +kernel⟩, xWd_of (w := Cond.instanceMethod (xY mX5_lettersThatAre)) 654 (by decide +kernel) (by decide +kernel), xWd_of (w := Cond.selects (xY mX5_lettersThatAre).cls (xY mX5_lettersThatAre) (xY mX5_lettersThatAre)) 655 (by decide +kernel) (by decide +kernel), by decide +kernel⟩
theorem isX5_turnsOfTwo : xIsV mX5_turnsOfTwo 0 := ⟨⟨plainFor_of_name (by decide +kernel), xWd_of (w := Cond.code (xY mX5_turnsOfTwo) (xB mX5_turnsOfTwo) (xL mX5_turnsOfTwo) (xT mX5_turnsOfTwo)) 673 (by decide +kernel) (by decide +kernel), xWd_of (w := Cond.initialized (xY mX5_turnsOfTwo).cls) 68 (by decide +kernel) (by decide +kernel), by decide +kernel, by decide +kernel⟩, xWd_of (w := Cond.instanceMethod (xY mX5_turnsOfTwo)) 671 (by decide +kernel) (by decide +kernel), xWd_of (w := Cond.selects (xY mX5_turnsOfTwo).cls (xY mX5_turnsOfTwo) (xY mX5_turnsOfTwo)) 672 (by decide +kernel) (by decide +kernel), by decide +kernel⟩
theorem isX5_fieldsOf : xIsV mX5_fieldsOf 1 := ⟨⟨plainFor_of_name (by decide +kernel), xWd_of (w := Cond.code (xY mX5_fieldsOf) (xB mX5_fieldsOf) (xL mX5_fieldsOf) (xT mX5_fieldsOf)) 660 (by decide +kernel) (by decide +kernel), xWd_of (w := Cond.initialized (xY mX5_fieldsOf).cls) 68 (by decide +kernel) (by decide +kernel), by decide +kernel, by decide +kernel⟩, xWd_of (w := Cond.instanceMethod (xY mX5_fieldsOf)) 658 (by decide +kernel) (by decide +kernel), xWd_of (w := Cond.selects (xY mX5_fieldsOf).cls (xY mX5_fieldsOf) (xY mX5_fieldsOf)) 659 (by decide +kernel) (by decide +kernel), by decide +kernel⟩
theorem isX5_edgesWith : xIsV mX5_edgesWith 1 := ⟨⟨plainFor_of_name (by decide +kernel), xWd_of (w := Cond.code (xY mX5_edgesWith) (xB mX5_edgesWith) (xL mX5_edgesWith) (xT mX5_edgesWith)) 652 (by decide +kernel) (by decide +kernel), xWd_of (w := Cond.initialized (xY mX5_edgesWith).cls) 68 (by decide +kernel) (by decide +kernel), by decide +kernel, by decide +kernel⟩, xWd_of (w := Cond.instanceMethod (xY mX5_edgesWith)) 650 (by decide +kernel) (by decide +kernel), xWd_of (w := Cond.selects (xY mX5_edgesWith).cls (xY mX5_edgesWith) (xY mX5_edgesWith)) 651 (by decide +kernel) (by decide +kernel), by decide +kernel⟩
theorem isX6_init : xIsI mX6_init 0 := ⟨⟨plainFor_of_name (by decide +kernel), xWd_of (w := Cond.code (xY mX6_init) (xB mX6_init) (xL mX6_init) (xT mX6_init)) 76 (by decide +kernel) (by decide +kernel), xWd_of (w := Cond.initialized (xY mX6_init).cls) 61 (by decide +kernel) (by decide +kernel), by decide +kernel, by decide +kernel⟩, rfl, xWd_of (w := Cond.instanceMethod (xY mX6_init)) 75 (by decide +kernel) (by decide +kernel), rfl, by decide +kernel⟩
theorem isX6_writeEdge : xIsV mX6_writeEdge 4 := ⟨⟨plainFor_of_name (by decide +kernel), xWd_of (w := Cond.code (xY mX6_writeEdge) (xB mX6_writeEdge) (xL mX6_writeEdge) (xT mX6_writeEdge)) 302 (by decide +kernel) (by decide +kernel), xWd_of (w := Cond.initialized (xY mX6_writeEdge).cls) 61 (by decide +kernel) (by decide +kernel), by decide +kernel, by decide +kernel⟩, xWd_of (w := Cond.instanceMethod (xY mX6_writeEdge)) 300 (by decide +kernel) (by decide +kernel), xWd_of (w := Cond.selects (xY mX6_writeEdge).cls (xY mX6_writeEdge) (xY mX6_writeEdge)) 301 (by decide +kernel) (by decide +kernel), by decide +kernel⟩
theorem isX6_writeClaim : xIsV mX6_writeClaim 2 := ⟨⟨plainFor_of_name (by decide +kernel), xWd_of (w := Cond.code (xY mX6_writeClaim) (xB mX6_writeClaim) (xL mX6_writeClaim) (xT mX6_writeClaim)) 349 (by decide +kernel) (by decide +kernel), xWd_of (w := Cond.initialized (xY mX6_writeClaim).cls) 61 (by decide +kernel) (by decide +kernel), by decide +kernel, by decide +kernel⟩, xWd_of (w := Cond.instanceMethod (xY mX6_writeClaim)) 347 (by decide +kernel) (by decide +kernel), xWd_of (w := Cond.selects (xY mX6_writeClaim).cls (xY mX6_writeClaim) (xY mX6_writeClaim)) 348 (by decide +kernel) (by decide +kernel), by decide +kernel⟩
theorem isX6_writeTruce : xIsV mX6_writeTruce 2 := ⟨⟨plainFor_of_name (by decide +kernel), xWd_of (w := Cond.code (xY mX6_writeTruce) (xB mX6_writeTruce) (xL mX6_writeTruce) (xT mX6_writeTruce)) 358 (by decide +kernel) (by decide +kernel), xWd_of (w := Cond.initialized (xY mX6_writeTruce).cls) 61 (by decide +kernel) (by decide +kernel), by decide +kernel, by decide +kernel⟩, xWd_of (w := Cond.instanceMethod (xY mX6_writeTruce)) 356 (by decide +kernel) (by decide +kernel), xWd_of (w := Cond.selects (xY mX6_writeTruce).cls (xY mX6_writeTruce) (xY mX6_writeTruce)) 357 (by decide +kernel) (by decide +kernel), by decide +kernel⟩
theorem isX6_callBack : xIsV mX6_callBack 1 := ⟨⟨plainFor_of_name (by decide +kernel), xWd_of (w := Cond.code (xY mX6_callBack) (xB mX6_callBack) (xL mX6_callBack) (xT mX6_callBack)) 366 (by decide +kernel) (by decide +kernel), xWd_of (w := Cond.initialized (xY mX6_callBack).cls) 61 (by decide +kernel) (by decide +kernel), by decide +kernel, by decide +kernel⟩, xWd_of (w := Cond.instanceMethod (xY mX6_callBack)) 364 (by decide +kernel) (by decide +kernel), xWd_of (w := Cond.selects (xY mX6_callBack).cls (xY mX6_callBack) (xY mX6_callBack)) 365 (by decide +kernel) (by decide +kernel), by decide +kernel⟩
theorem isX6_pass : xIsV mX6_pass 1 := ⟨⟨plainFor_of_name (by decide +kernel), xWd_of (w := Cond.code (xY mX6_pass) (xB mX6_pass) (xL mX6_pass) (xT mX6_pass)) 376 (by decide +kernel) (by decide +kernel), xWd_of (w := Cond.initialized (xY mX6_pass).cls) 61 (by decide +kernel) (by decide +kernel), by decide +kernel, by decide +kernel⟩, xWd_of (w := Cond.instanceMethod (xY mX6_pass)) 374 (by decide +kernel) (by decide +kernel), xWd_of (w := Cond.selects (xY mX6_pass).cls (xY mX6_pass) (xY mX6_pass)) 375 (by decide +kernel) (by decide +kernel), by decide +kernel⟩
theorem isX6_set : xIsV mX6_set 2 := ⟨⟨plainFor_of_name (by decide +kernel), xWd_of (w := Cond.code (xY mX6_set) (xB mX6_set) (xL mX6_set) (xT mX6_set)) 493 (by decide +kernel) (by decide +kernel), xWd_of (w := Cond.initialized (xY mX6_set).cls) 61 (by decide +kernel) (by decide +kernel), by decide +kernel, by decide +kernel⟩, xWd_of (w := Cond.instanceMethod (xY mX6_set)) 491 (by decide +kernel) (by decide +kernel), xWd_of (w := Cond.selects (xY mX6_set).cls (xY mX6_set) (xY mX6_set)) 492 (by decide +kernel) (by decide +kernel), by decide +kernel⟩
theorem isX6_type : xIsV mX6_type 1 := ⟨⟨plainFor_of_name (by decide +kernel), xWd_of (w := Cond.code (xY mX6_type) (xB mX6_type) (xL mX6_type) (xT mX6_type)) 497 (by decide +kernel) (by decide +kernel), xWd_of (w := Cond.initialized (xY mX6_type).cls) 61 (by decide +kernel) (by decide +kernel), by decide +kernel, by decide +kernel⟩, xWd_of (w := Cond.instanceMethod (xY mX6_type)) 495 (by decide +kernel) (by decide +kernel), xWd_of (w := Cond.selects (xY mX6_type).cls (xY mX6_type) (xY mX6_type)) 496 (by decide +kernel) (by decide +kernel), by decide +kernel⟩
theorem isX6_clearText : xIsV mX6_clearText 0 := ⟨⟨plainFor_of_name (by decide +kernel), xWd_of (w := Cond.code (xY mX6_clearText) (xB mX6_clearText) (xL mX6_clearText) (xT mX6_clearText)) 505 (by decide +kernel) (by decide +kernel), xWd_of (w := Cond.initialized (xY mX6_clearText).cls) 61 (by decide +kernel) (by decide +kernel), by decide +kernel, by decide +kernel⟩, xWd_of (w := Cond.instanceMethod (xY mX6_clearText)) 503 (by decide +kernel) (by decide +kernel), xWd_of (w := Cond.selects (xY mX6_clearText).cls (xY mX6_clearText) (xY mX6_clearText)) 504 (by decide +kernel) (by decide +kernel), by decide +kernel⟩
theorem isX6_perform : xIsV mX6_perform 0 := ⟨⟨plainFor_of_name (by decide +kernel), xWd_of (w := Cond.code (xY mX6_perform) (xB mX6_perform) (xL mX6_perform) (xT mX6_perform)) 513 (by decide +kernel) (by decide +kernel), xWd_of (w := Cond.initialized (xY mX6_perform).cls) 61 (by decide +kernel) (by decide +kernel), by decide +kernel, by decide +kernel⟩, xWd_of (w := Cond.instanceMethod (xY mX6_perform)) 511 (by decide +kernel) (by decide +kernel), xWd_of (w := Cond.selects (xY mX6_perform).cls (xY mX6_perform) (xY mX6_perform)) 512 (by decide +kernel) (by decide +kernel), by decide +kernel⟩
theorem isX6_stopped : xIsV mX6_stopped 1 := ⟨⟨plainFor_of_name (by decide +kernel), xWd_of (w := Cond.code (xY mX6_stopped) (xB mX6_stopped) (xL mX6_stopped) (xT mX6_stopped)) 562 (by decide +kernel) (by decide +kernel), xWd_of (w := Cond.initialized (xY mX6_stopped).cls) 61 (by decide +kernel) (by decide +kernel), by decide +kernel, by decide +kernel⟩, xWd_of (w := Cond.instanceMethod (xY mX6_stopped)) 560 (by decide +kernel) (by decide +kernel), xWd_of (w := Cond.selects (xY mX6_stopped).cls (xY mX6_stopped) (xY mX6_stopped)) 561 (by decide +kernel) (by decide +kernel), by decide +kernel⟩
theorem isX6_undo : xIsV mX6_undo 0 := ⟨⟨plainFor_of_name (by decide +kernel), xWd_of (w := Cond.code (xY mX6_undo) (xB mX6_undo) (xL mX6_undo) (xT mX6_undo)) 566 (by decide +kernel) (by decide +kernel), xWd_of (w := Cond.initialized (xY mX6_undo).cls) 61 (by decide +kernel) (by decide +kernel), by decide +kernel, by decide +kernel⟩, xWd_of (w := Cond.instanceMethod (xY mX6_undo)) 564 (by decide +kernel) (by decide +kernel), xWd_of (w := Cond.selects (xY mX6_undo).cls (xY mX6_undo) (xY mX6_undo)) 565 (by decide +kernel) (by decide +kernel), by decide +kernel⟩
theorem isX6_keep : xIsV mX6_keep 0 := ⟨⟨plainFor_of_name (by decide +kernel), xWd_of (w := Cond.code (xY mX6_keep) (xB mX6_keep) (xL mX6_keep) (xT mX6_keep)) 574 (by decide +kernel) (by decide +kernel), xWd_of (w := Cond.initialized (xY mX6_keep).cls) 61 (by decide +kernel) (by decide +kernel), by decide +kernel, by decide +kernel⟩, xWd_of (w := Cond.instanceMethod (xY mX6_keep)) 572 (by decide +kernel) (by decide +kernel), xWd_of (w := Cond.selects (xY mX6_keep).cls (xY mX6_keep) (xY mX6_keep)) 573 (by decide +kernel) (by decide +kernel), by decide +kernel⟩
theorem isX6_restore : xIsV mX6_restore 0 := ⟨⟨plainFor_of_name (by decide +kernel), xWd_of (w := Cond.code (xY mX6_restore) (xB mX6_restore) (xL mX6_restore) (xT mX6_restore)) 578 (by decide +kernel) (by decide +kernel), xWd_of (w := Cond.initialized (xY mX6_restore).cls) 61 (by decide +kernel) (by decide +kernel), by decide +kernel, by decide +kernel⟩, xWd_of (w := Cond.instanceMethod (xY mX6_restore)) 576 (by decide +kernel) (by decide +kernel), xWd_of (w := Cond.selects (xY mX6_restore).cls (xY mX6_restore) (xY mX6_restore)) 577 (by decide +kernel) (by decide +kernel), by decide +kernel⟩
theorem isX6_edge : xIsV mX6_edge 2 := ⟨⟨plainFor_of_name (by decide +kernel), xWd_of (w := Cond.code (xY mX6_edge) (xB mX6_edge) (xL mX6_edge) (xT mX6_edge)) 582 (by decide +kernel) (by decide +kernel), xWd_of (w := Cond.initialized (xY mX6_edge).cls) 61 (by decide +kernel) (by decide +kernel), by decide +kernel, by decide +kernel⟩, xWd_of (w := Cond.instanceMethod (xY mX6_edge)) 580 (by decide +kernel) (by decide +kernel), xWd_of (w := Cond.selects (xY mX6_edge).cls (xY mX6_edge) (xY mX6_edge)) 581 (by decide +kernel) (by decide +kernel), by decide +kernel⟩
theorem isX6_field : xIsV mX6_field 2 := ⟨⟨plainFor_of_name (by decide +kernel), xWd_of (w := Cond.code (xY mX6_field) (xB mX6_field) (xL mX6_field) (xT mX6_field)) 587 (by decide +kernel) (by decide +kernel), xWd_of (w := Cond.initialized (xY mX6_field).cls) 61 (by decide +kernel) (by decide +kernel), by decide +kernel, by decide +kernel⟩, xWd_of (w := Cond.instanceMethod (xY mX6_field)) 585 (by decide +kernel) (by decide +kernel), xWd_of (w := Cond.selects (xY mX6_field).cls (xY mX6_field) (xY mX6_field)) 586 (by decide +kernel) (by decide +kernel), by decide +kernel⟩
theorem isX6_joined : xIsV mX6_joined 1 := ⟨⟨plainFor_of_name (by decide +kernel), xWd_of (w := Cond.code (xY mX6_joined) (xB mX6_joined) (xL mX6_joined) (xT mX6_joined)) 607 (by decide +kernel) (by decide +kernel), xWd_of (w := Cond.initialized (xY mX6_joined).cls) 61 (by decide +kernel) (by decide +kernel), by decide +kernel, by decide +kernel⟩, xWd_of (w := Cond.instanceMethod (xY mX6_joined)) 605 (by decide +kernel) (by decide +kernel), xWd_of (w := Cond.selects (xY mX6_joined).cls (xY mX6_joined) (xY mX6_joined)) 606 (by decide +kernel) (by decide +kernel), by decide +kernel⟩
theorem isX6_letter : xIsV mX6_letter 2 := ⟨⟨plainFor_of_name (by decide +kernel), xWd_of (w := Cond.code (xY mX6_letter) (xB mX6_letter) (xL mX6_letter) (xT mX6_letter)) 623 (by decide +kernel) (by decide +kernel), xWd_of (w := Cond.initialized (xY mX6_letter).cls) 61 (by decide +kernel) (by decide +kernel), by decide +kernel, by decide +kernel⟩, xWd_of (w := Cond.instanceMethod (xY mX6_letter)) 621 (by decide +kernel) (by decide +kernel), xWd_of (w := Cond.selects (xY mX6_letter).cls (xY mX6_letter) (xY mX6_letter)) 622 (by decide +kernel) (by decide +kernel), by decide +kernel⟩
theorem isX6_crossed : xIsV mX6_crossed 2 := ⟨⟨plainFor_of_name (by decide +kernel), xWd_of (w := Cond.code (xY mX6_crossed) (xB mX6_crossed) (xL mX6_crossed) (xT mX6_crossed)) 627 (by decide +kernel) (by decide +kernel), xWd_of (w := Cond.initialized (xY mX6_crossed).cls) 61 (by decide +kernel) (by decide +kernel), by decide +kernel, by decide +kernel⟩, xWd_of (w := Cond.instanceMethod (xY mX6_crossed)) 625 (by decide +kernel) (by decide +kernel), xWd_of (w := Cond.selects (xY mX6_crossed).cls (xY mX6_crossed) (xY mX6_crossed)) 626 (by decide +kernel) (by decide +kernel), by decide +kernel⟩
theorem isX6_reasonEdge : xIsV mX6_reasonEdge 3 := ⟨⟨plainFor_of_name (by decide +kernel), xWd_of (w := Cond.code (xY mX6_reasonEdge) (xB mX6_reasonEdge) (xL mX6_reasonEdge) (xT mX6_reasonEdge)) 632 (by decide +kernel) (by decide +kernel), xWd_of (w := Cond.initialized (xY mX6_reasonEdge).cls) 61 (by decide +kernel) (by decide +kernel), by decide +kernel, by decide +kernel⟩, xWd_of (w := Cond.instanceMethod (xY mX6_reasonEdge)) 630 (by decide +kernel) (by decide +kernel), xWd_of (w := Cond.selects (xY mX6_reasonEdge).cls (xY mX6_reasonEdge) (xY mX6_reasonEdge)) 631 (by decide +kernel) (by decide +kernel), by decide +kernel⟩
theorem isX6_reasonClaim : xIsV mX6_reasonClaim 1 := ⟨⟨plainFor_of_name (by decide +kernel), xWd_of (w := Cond.code (xY mX6_reasonClaim) (xB mX6_reasonClaim) (xL mX6_reasonClaim) (xT mX6_reasonClaim)) 638 (by decide +kernel) (by decide +kernel), xWd_of (w := Cond.initialized (xY mX6_reasonClaim).cls) 61 (by decide +kernel) (by decide +kernel), by decide +kernel, by decide +kernel⟩, xWd_of (w := Cond.instanceMethod (xY mX6_reasonClaim)) 636 (by decide +kernel) (by decide +kernel), xWd_of (w := Cond.selects (xY mX6_reasonClaim).cls (xY mX6_reasonClaim) (xY mX6_reasonClaim)) 637 (by decide +kernel) (by decide +kernel), by decide +kernel⟩
theorem isX6_next : xIsV mX6_next 1 := ⟨⟨plainFor_of_name (by decide +kernel), xWd_of (w := Cond.code (xY mX6_next) (xB mX6_next) (xL mX6_next) (xT mX6_next)) 643 (by decide +kernel) (by decide +kernel), xWd_of (w := Cond.initialized (xY mX6_next).cls) 61 (by decide +kernel) (by decide +kernel), by decide +kernel, by decide +kernel⟩, xWd_of (w := Cond.instanceMethod (xY mX6_next)) 641 (by decide +kernel) (by decide +kernel), xWd_of (w := Cond.selects (xY mX6_next).cls (xY mX6_next) (xY mX6_next)) 642 (by decide +kernel) (by decide +kernel), by decide +kernel⟩
theorem isX6_ifAllCome : xIsV mX6_ifAllCome 1 := ⟨⟨plainFor_of_name (by decide +kernel), xWd_of (w := Cond.code (xY mX6_ifAllCome) (xB mX6_ifAllCome) (xL mX6_ifAllCome) (xT mX6_ifAllCome)) 648 (by decide +kernel) (by decide +kernel), xWd_of (w := Cond.initialized (xY mX6_ifAllCome).cls) 61 (by decide +kernel) (by decide +kernel), by decide +kernel, by decide +kernel⟩, xWd_of (w := Cond.instanceMethod (xY mX6_ifAllCome)) 646 (by decide +kernel) (by decide +kernel), xWd_of (w := Cond.selects (xY mX6_ifAllCome).cls (xY mX6_ifAllCome) (xY mX6_ifAllCome)) 647 (by decide +kernel) (by decide +kernel), by decide +kernel⟩
theorem isX6_bestClaim : xIsV mX6_bestClaim 1 := ⟨⟨plainFor_of_name (by decide +kernel), xWd_of (w := Cond.code (xY mX6_bestClaim) (xB mX6_bestClaim) (xL mX6_bestClaim) (xT mX6_bestClaim)) 665 (by decide +kernel) (by decide +kernel), xWd_of (w := Cond.initialized (xY mX6_bestClaim).cls) 61 (by decide +kernel) (by decide +kernel), by decide +kernel, by decide +kernel⟩, xWd_of (w := Cond.instanceMethod (xY mX6_bestClaim)) 663 (by decide +kernel) (by decide +kernel), xWd_of (w := Cond.selects (xY mX6_bestClaim).cls (xY mX6_bestClaim) (xY mX6_bestClaim)) 664 (by decide +kernel) (by decide +kernel), by decide +kernel⟩
theorem isX6_count : xIsV mX6_count 1 := ⟨⟨plainFor_of_name (by decide +kernel), xWd_of (w := Cond.code (xY mX6_count) (xB mX6_count) (xL mX6_count) (xT mX6_count)) 669 (by decide +kernel) (by decide +kernel), xWd_of (w := Cond.initialized (xY mX6_count).cls) 61 (by decide +kernel) (by decide +kernel), by decide +kernel, by decide +kernel⟩, xWd_of (w := Cond.instanceMethod (xY mX6_count)) 667 (by decide +kernel) (by decide +kernel), xWd_of (w := Cond.selects (xY mX6_count).cls (xY mX6_count) (xY mX6_count)) 668 (by decide +kernel) (by decide +kernel), by decide +kernel⟩
theorem isX6_addEdgeLetter : xIsV mX6_addEdgeLetter 4 := ⟨⟨plainFor_of_name (by decide +kernel), xWd_of (w := Cond.code (xY mX6_addEdgeLetter) (xB mX6_addEdgeLetter) (xL mX6_addEdgeLetter) (xT mX6_addEdgeLetter)) 313 (by decide +kernel) (by decide +kernel), xWd_of (w := Cond.initialized (xY mX6_addEdgeLetter).cls) 61 (by decide +kernel) (by decide +kernel), by decide +kernel, by decide +kernel⟩, xWd_of (w := Cond.instanceMethod (xY mX6_addEdgeLetter)) 312 (by decide +kernel) (by decide +kernel), xWd_of (w := Cond.selects (xY mX6_addEdgeLetter).cls (xY mX6_addEdgeLetter) (xY mX6_addEdgeLetter)) 1 (by decide +kernel) (by decide +kernel), by decide +kernel⟩
theorem isX6_addClaim : xIsV mX6_addClaim 2 := ⟨⟨plainFor_of_name (by decide +kernel), xWd_of (w := Cond.code (xY mX6_addClaim) (xB mX6_addClaim) (xL mX6_addClaim) (xT mX6_addClaim)) 353 (by decide +kernel) (by decide +kernel), xWd_of (w := Cond.initialized (xY mX6_addClaim).cls) 61 (by decide +kernel) (by decide +kernel), by decide +kernel, by decide +kernel⟩, xWd_of (w := Cond.instanceMethod (xY mX6_addClaim)) 352 (by decide +kernel) (by decide +kernel), xWd_of (w := Cond.selects (xY mX6_addClaim).cls (xY mX6_addClaim) (xY mX6_addClaim)) 3 (by decide +kernel) (by decide +kernel), by decide +kernel⟩
theorem isX6_addTruce : xIsV mX6_addTruce 2 := ⟨⟨plainFor_of_name (by decide +kernel), xWd_of (w := Cond.code (xY mX6_addTruce) (xB mX6_addTruce) (xL mX6_addTruce) (xT mX6_addTruce)) 362 (by decide +kernel) (by decide +kernel), xWd_of (w := Cond.initialized (xY mX6_addTruce).cls) 61 (by decide +kernel) (by decide +kernel), by decide +kernel, by decide +kernel⟩, xWd_of (w := Cond.instanceMethod (xY mX6_addTruce)) 361 (by decide +kernel) (by decide +kernel), xWd_of (w := Cond.selects (xY mX6_addTruce).cls (xY mX6_addTruce) (xY mX6_addTruce)) 4 (by decide +kernel) (by decide +kernel), by decide +kernel⟩
theorem isX6_addLetterOfGame : xIsV mX6_addLetterOfGame 1 := ⟨⟨plainFor_of_name (by decide +kernel), xWd_of (w := Cond.code (xY mX6_addLetterOfGame) (xB mX6_addLetterOfGame) (xL mX6_addLetterOfGame) (xT mX6_addLetterOfGame)) 558 (by decide +kernel) (by decide +kernel), xWd_of (w := Cond.initialized (xY mX6_addLetterOfGame).cls) 61 (by decide +kernel) (by decide +kernel), by decide +kernel, by decide +kernel⟩, xWd_of (w := Cond.instanceMethod (xY mX6_addLetterOfGame)) 557 (by decide +kernel) (by decide +kernel), xWd_of (w := Cond.selects (xY mX6_addLetterOfGame).cls (xY mX6_addLetterOfGame) (xY mX6_addLetterOfGame)) 20 (by decide +kernel) (by decide +kernel), by decide +kernel⟩
theorem isX6_letDaysPass : xIsV mX6_letDaysPass 1 := ⟨⟨plainFor_of_name (by decide +kernel), xWd_of (w := Cond.code (xY mX6_letDaysPass) (xB mX6_letDaysPass) (xL mX6_letDaysPass) (xT mX6_letDaysPass)) 380 (by decide +kernel) (by decide +kernel), xWd_of (w := Cond.initialized (xY mX6_letDaysPass).cls) 61 (by decide +kernel) (by decide +kernel), by decide +kernel, by decide +kernel⟩, xWd_of (w := Cond.instanceMethod (xY mX6_letDaysPass)) 379 (by decide +kernel) (by decide +kernel), xWd_of (w := Cond.selects (xY mX6_letDaysPass).cls (xY mX6_letDaysPass) (xY mX6_letDaysPass)) 5 (by decide +kernel) (by decide +kernel), by decide +kernel⟩
theorem isX6_recordUnlessError : xIsV mX6_recordUnlessError 1 := ⟨⟨plainFor_of_name (by decide +kernel), xWd_of (w := Cond.code (xY mX6_recordUnlessError) (xB mX6_recordUnlessError) (xL mX6_recordUnlessError) (xT mX6_recordUnlessError)) 337 (by decide +kernel) (by decide +kernel), xWd_of (w := Cond.initialized (xY mX6_recordUnlessError).cls) 61 (by decide +kernel) (by decide +kernel), by decide +kernel, by decide +kernel⟩, xWd_of (w := Cond.instanceMethod (xY mX6_recordUnlessError)) 336 (by decide +kernel) (by decide +kernel), xWd_of (w := Cond.selects (xY mX6_recordUnlessError).cls (xY mX6_recordUnlessError) (xY mX6_recordUnlessError)) 2 (by decide +kernel) (by decide +kernel), by decide +kernel⟩
theorem isX6_edgesWithSomething : xIsV mX6_edgesWithSomething 1 := ⟨⟨plainFor_of_name (by decide +kernel), xWd_of (w := Cond.code (xY mX6_edgesWithSomething) (xB mX6_edgesWithSomething) (xL mX6_edgesWithSomething) (xT mX6_edgesWithSomething)) 603 (by decide +kernel) (by decide +kernel), xWd_of (w := Cond.initialized (xY mX6_edgesWithSomething).cls) 61 (by decide +kernel) (by decide +kernel), by decide +kernel, by decide +kernel⟩, xWd_of (w := Cond.instanceMethod (xY mX6_edgesWithSomething)) 602 (by decide +kernel) (by decide +kernel), xWd_of (w := Cond.selects (xY mX6_edgesWithSomething).cls (xY mX6_edgesWithSomething) (xY mX6_edgesWithSomething)) 21 (by decide +kernel) (by decide +kernel), by decide +kernel⟩
theorem isX6_isPlayer : xIsS mX6_isPlayer 1 := ⟨⟨plainFor_of_name (by decide +kernel), xWd_of (w := Cond.code (xY mX6_isPlayer) (xB mX6_isPlayer) (xL mX6_isPlayer) (xT mX6_isPlayer)) 316 (by decide +kernel) (by decide +kernel), xWd_of (w := Cond.initialized (xY mX6_isPlayer).cls) 61 (by decide +kernel) (by decide +kernel), by decide +kernel, by decide +kernel⟩, xWd_of (w := Cond.static (xY mX6_isPlayer)) 315 (by decide +kernel) (by decide +kernel), by decide +kernel⟩
theorem isX6_isField : xIsS mX6_isField 1 := ⟨⟨plainFor_of_name (by decide +kernel), xWd_of (w := Cond.code (xY mX6_isField) (xB mX6_isField) (xL mX6_isField) (xT mX6_isField)) 98 (by decide +kernel) (by decide +kernel), xWd_of (w := Cond.initialized (xY mX6_isField).cls) 61 (by decide +kernel) (by decide +kernel), by decide +kernel, by decide +kernel⟩, xWd_of (w := Cond.static (xY mX6_isField)) 97 (by decide +kernel) (by decide +kernel), by decide +kernel⟩
theorem isX6_isEdge : xIsS mX6_isEdge 1 := ⟨⟨plainFor_of_name (by decide +kernel), xWd_of (w := Cond.code (xY mX6_isEdge) (xB mX6_isEdge) (xL mX6_isEdge) (xT mX6_isEdge)) 95 (by decide +kernel) (by decide +kernel), xWd_of (w := Cond.initialized (xY mX6_isEdge).cls) 61 (by decide +kernel) (by decide +kernel), by decide +kernel, by decide +kernel⟩, xWd_of (w := Cond.static (xY mX6_isEdge)) 94 (by decide +kernel) (by decide +kernel), by decide +kernel⟩
theorem isX6_fenceOf : xIsS mX6_fenceOf 1 := ⟨⟨plainFor_of_name (by decide +kernel), xWd_of (w := Cond.code (xY mX6_fenceOf) (xB mX6_fenceOf) (xL mX6_fenceOf) (xT mX6_fenceOf)) 423 (by decide +kernel) (by decide +kernel), xWd_of (w := Cond.initialized (xY mX6_fenceOf).cls) 61 (by decide +kernel) (by decide +kernel), by decide +kernel, by decide +kernel⟩, xWd_of (w := Cond.static (xY mX6_fenceOf)) 422 (by decide +kernel) (by decide +kernel), by decide +kernel⟩
theorem isX7_init : xIsI mX7_init 0 := ⟨⟨plainFor_of_name (by decide +kernel), xWd_of (w := Cond.code (xY mX7_init) (xB mX7_init) (xL mX7_init) (xT mX7_init)) 680 (by decide +kernel) (by decide +kernel), xWd_of (w := Cond.initialized (xY mX7_init).cls) 69 (by decide +kernel) (by decide +kernel), by decide +kernel, by decide +kernel⟩, rfl, xWd_of (w := Cond.instanceMethod (xY mX7_init)) 679 (by decide +kernel) (by decide +kernel), rfl, by decide +kernel⟩
theorem isX7_in : xIsS mX7_in 3 := ⟨⟨plainFor_of_name (by decide +kernel), xWd_of (w := Cond.code (xY mX7_in) (xB mX7_in) (xL mX7_in) (xT mX7_in)) 758 (by decide +kernel) (by decide +kernel), xWd_of (w := Cond.initialized (xY mX7_in).cls) 69 (by decide +kernel) (by decide +kernel), by decide +kernel, by decide +kernel⟩, xWd_of (w := Cond.static (xY mX7_in)) 757 (by decide +kernel) (by decide +kernel), by decide +kernel⟩
theorem isX7_isPlayer : xIsS mX7_isPlayer 1 := ⟨⟨plainFor_of_name (by decide +kernel), xWd_of (w := Cond.code (xY mX7_isPlayer) (xB mX7_isPlayer) (xL mX7_isPlayer) (xT mX7_isPlayer)) 755 (by decide +kernel) (by decide +kernel), xWd_of (w := Cond.initialized (xY mX7_isPlayer).cls) 69 (by decide +kernel) (by decide +kernel), by decide +kernel, by decide +kernel⟩, xWd_of (w := Cond.static (xY mX7_isPlayer)) 754 (by decide +kernel) (by decide +kernel), by decide +kernel⟩
theorem isX7_isField : xIsS mX7_isField 1 := ⟨⟨plainFor_of_name (by decide +kernel), xWd_of (w := Cond.code (xY mX7_isField) (xB mX7_isField) (xL mX7_isField) (xT mX7_isField)) 761 (by decide +kernel) (by decide +kernel), xWd_of (w := Cond.initialized (xY mX7_isField).cls) 69 (by decide +kernel) (by decide +kernel), by decide +kernel, by decide +kernel⟩, xWd_of (w := Cond.static (xY mX7_isField)) 760 (by decide +kernel) (by decide +kernel), by decide +kernel⟩
theorem isX7_isLetter : xIsV mX7_isLetter 1 := ⟨⟨plainFor_of_name (by decide +kernel), xWd_of (w := Cond.code (xY mX7_isLetter) (xB mX7_isLetter) (xL mX7_isLetter) (xT mX7_isLetter)) 791 (by decide +kernel) (by decide +kernel), xWd_of (w := Cond.initialized (xY mX7_isLetter).cls) 69 (by decide +kernel) (by decide +kernel), by decide +kernel, by decide +kernel⟩, xWd_of (w := Cond.instanceMethod (xY mX7_isLetter)) 790 (by decide +kernel) (by decide +kernel), xWd_of (w := Cond.selects (xY mX7_isLetter).cls (xY mX7_isLetter) (xY mX7_isLetter)) 28 (by decide +kernel) (by decide +kernel), by decide +kernel⟩
theorem isX7_at : xIsS mX7_at 2 := ⟨⟨plainFor_of_name (by decide +kernel), xWd_of (w := Cond.code (xY mX7_at) (xB mX7_at) (xL mX7_at) (xT mX7_at)) 767 (by decide +kernel) (by decide +kernel), xWd_of (w := Cond.initialized (xY mX7_at).cls) 69 (by decide +kernel) (by decide +kernel), by decide +kernel, by decide +kernel⟩, xWd_of (w := Cond.static (xY mX7_at)) 766 (by decide +kernel) (by decide +kernel), by decide +kernel⟩
theorem isX7_of : xIsV mX7_of 2 := ⟨⟨plainFor_of_name (by decide +kernel), xWd_of (w := Cond.code (xY mX7_of) (xB mX7_of) (xL mX7_of) (xT mX7_of)) 795 (by decide +kernel) (by decide +kernel), xWd_of (w := Cond.initialized (xY mX7_of).cls) 69 (by decide +kernel) (by decide +kernel), by decide +kernel, by decide +kernel⟩, xWd_of (w := Cond.instanceMethod (xY mX7_of)) 794 (by decide +kernel) (by decide +kernel), xWd_of (w := Cond.selects (xY mX7_of).cls (xY mX7_of) (xY mX7_of)) 29 (by decide +kernel) (by decide +kernel), by decide +kernel⟩
theorem isX7_looks : xIsV mX7_looks 0 := ⟨⟨plainFor_of_name (by decide +kernel), xWd_of (w := Cond.code (xY mX7_looks) (xB mX7_looks) (xL mX7_looks) (xT mX7_looks)) 748 (by decide +kernel) (by decide +kernel), xWd_of (w := Cond.initialized (xY mX7_looks).cls) 69 (by decide +kernel) (by decide +kernel), by decide +kernel, by decide +kernel⟩, xWd_of (w := Cond.instanceMethod (xY mX7_looks)) 747 (by decide +kernel) (by decide +kernel), xWd_of (w := Cond.selects (xY mX7_looks).cls (xY mX7_looks) (xY mX7_looks)) 24 (by decide +kernel) (by decide +kernel), by decide +kernel⟩
theorem isX7_records : xIsV mX7_records 0 := ⟨⟨plainFor_of_name (by decide +kernel), xWd_of (w := Cond.code (xY mX7_records) (xB mX7_records) (xL mX7_records) (xT mX7_records)) 775 (by decide +kernel) (by decide +kernel), xWd_of (w := Cond.initialized (xY mX7_records).cls) 69 (by decide +kernel) (by decide +kernel), by decide +kernel, by decide +kernel⟩, xWd_of (w := Cond.instanceMethod (xY mX7_records)) 774 (by decide +kernel) (by decide +kernel), xWd_of (w := Cond.selects (xY mX7_records).cls (xY mX7_records) (xY mX7_records)) 27 (by decide +kernel) (by decide +kernel), by decide +kernel⟩
theorem isX7_putAside : xIsV mX7_putAside 0 := ⟨⟨plainFor_of_name (by decide +kernel), xWd_of (w := Cond.code (xY mX7_putAside) (xB mX7_putAside) (xL mX7_putAside) (xT mX7_putAside)) 975 (by decide +kernel) (by decide +kernel), xWd_of (w := Cond.initialized (xY mX7_putAside).cls) 69 (by decide +kernel) (by decide +kernel), by decide +kernel, by decide +kernel⟩, xWd_of (w := Cond.instanceMethod (xY mX7_putAside)) 974 (by decide +kernel) (by decide +kernel), xWd_of (w := Cond.selects (xY mX7_putAside).cls (xY mX7_putAside) (xY mX7_putAside)) 54 (by decide +kernel) (by decide +kernel), by decide +kernel⟩
theorem isX7_putBack : xIsV mX7_putBack 0 := ⟨⟨plainFor_of_name (by decide +kernel), xWd_of (w := Cond.code (xY mX7_putBack) (xB mX7_putBack) (xL mX7_putBack) (xT mX7_putBack)) 991 (by decide +kernel) (by decide +kernel), xWd_of (w := Cond.initialized (xY mX7_putBack).cls) 69 (by decide +kernel) (by decide +kernel), by decide +kernel, by decide +kernel⟩, xWd_of (w := Cond.instanceMethod (xY mX7_putBack)) 990 (by decide +kernel) (by decide +kernel), xWd_of (w := Cond.selects (xY mX7_putBack).cls (xY mX7_putBack) (xY mX7_putBack)) 58 (by decide +kernel) (by decide +kernel), by decide +kernel⟩
theorem isX7_edgeAt : xIsS mX7_edgeAt 2 := ⟨⟨plainFor_of_name (by decide +kernel), xWd_of (w := Cond.code (xY mX7_edgeAt) (xB mX7_edgeAt) (xL mX7_edgeAt) (xT mX7_edgeAt)) 764 (by decide +kernel) (by decide +kernel), xWd_of (w := Cond.initialized (xY mX7_edgeAt).cls) 69 (by decide +kernel) (by decide +kernel), by decide +kernel, by decide +kernel⟩, xWd_of (w := Cond.static (xY mX7_edgeAt)) 763 (by decide +kernel) (by decide +kernel), by decide +kernel⟩
theorem isX7_oneOf : xIsS mX7_oneOf 1 := ⟨⟨plainFor_of_name (by decide +kernel), xWd_of (w := Cond.code (xY mX7_oneOf) (xB mX7_oneOf) (xL mX7_oneOf) (xT mX7_oneOf)) 854 (by decide +kernel) (by decide +kernel), xWd_of (w := Cond.initialized (xY mX7_oneOf).cls) 69 (by decide +kernel) (by decide +kernel), by decide +kernel, by decide +kernel⟩, xWd_of (w := Cond.static (xY mX7_oneOf)) 853 (by decide +kernel) (by decide +kernel), by decide +kernel⟩
theorem isX7_otherOf : xIsS mX7_otherOf 1 := ⟨⟨plainFor_of_name (by decide +kernel), xWd_of (w := Cond.code (xY mX7_otherOf) (xB mX7_otherOf) (xL mX7_otherOf) (xT mX7_otherOf)) 857 (by decide +kernel) (by decide +kernel), xWd_of (w := Cond.initialized (xY mX7_otherOf).cls) 69 (by decide +kernel) (by decide +kernel), by decide +kernel, by decide +kernel⟩, xWd_of (w := Cond.static (xY mX7_otherOf)) 856 (by decide +kernel) (by decide +kernel), by decide +kernel⟩
theorem isX7_mark : xIsV mX7_mark 1 := ⟨⟨plainFor_of_name (by decide +kernel), xWd_of (w := Cond.code (xY mX7_mark) (xB mX7_mark) (xL mX7_mark) (xT mX7_mark)) 851 (by decide +kernel) (by decide +kernel), xWd_of (w := Cond.initialized (xY mX7_mark).cls) 69 (by decide +kernel) (by decide +kernel), by decide +kernel, by decide +kernel⟩, xWd_of (w := Cond.instanceMethod (xY mX7_mark)) 850 (by decide +kernel) (by decide +kernel), xWd_of (w := Cond.selects (xY mX7_mark).cls (xY mX7_mark) (xY mX7_mark)) 42 (by decide +kernel) (by decide +kernel), by decide +kernel⟩
theorem isX7_freeIn : xIsV mX7_freeIn 1 := ⟨⟨plainFor_of_name (by decide +kernel), xWd_of (w := Cond.code (xY mX7_freeIn) (xB mX7_freeIn) (xL mX7_freeIn) (xT mX7_freeIn)) 927 (by decide +kernel) (by decide +kernel), xWd_of (w := Cond.initialized (xY mX7_freeIn).cls) 69 (by decide +kernel) (by decide +kernel), by decide +kernel, by decide +kernel⟩, xWd_of (w := Cond.instanceMethod (xY mX7_freeIn)) 926 (by decide +kernel) (by decide +kernel), xWd_of (w := Cond.selects (xY mX7_freeIn).cls (xY mX7_freeIn) (xY mX7_freeIn)) 49 (by decide +kernel) (by decide +kernel), by decide +kernel⟩
theorem isX7_lowestIn : xIsV mX7_lowestIn 1 := ⟨⟨plainFor_of_name (by decide +kernel), xWd_of (w := Cond.code (xY mX7_lowestIn) (xB mX7_lowestIn) (xL mX7_lowestIn) (xT mX7_lowestIn)) 931 (by decide +kernel) (by decide +kernel), xWd_of (w := Cond.initialized (xY mX7_lowestIn).cls) 69 (by decide +kernel) (by decide +kernel), by decide +kernel, by decide +kernel⟩, xWd_of (w := Cond.instanceMethod (xY mX7_lowestIn)) 930 (by decide +kernel) (by decide +kernel), xWd_of (w := Cond.selects (xY mX7_lowestIn).cls (xY mX7_lowestIn) (xY mX7_lowestIn)) 50 (by decide +kernel) (by decide +kernel), by decide +kernel⟩
theorem isX7_isTruce : xIsV mX7_isTruce 0 := ⟨⟨plainFor_of_name (by decide +kernel), xWd_of (w := Cond.code (xY mX7_isTruce) (xB mX7_isTruce) (xL mX7_isTruce) (xT mX7_isTruce)) 843 (by decide +kernel) (by decide +kernel), xWd_of (w := Cond.initialized (xY mX7_isTruce).cls) 69 (by decide +kernel) (by decide +kernel), by decide +kernel, by decide +kernel⟩, xWd_of (w := Cond.instanceMethod (xY mX7_isTruce)) 842 (by decide +kernel) (by decide +kernel), xWd_of (w := Cond.selects (xY mX7_isTruce).cls (xY mX7_isTruce) (xY mX7_isTruce)) 40 (by decide +kernel) (by decide +kernel), by decide +kernel⟩
theorem isX7_whyEdge : xIsV mX7_whyEdge 2 := ⟨⟨plainFor_of_name (by decide +kernel), xWd_of (w := Cond.code (xY mX7_whyEdge) (xB mX7_whyEdge) (xL mX7_whyEdge) (xT mX7_whyEdge)) 839 (by decide +kernel) (by decide +kernel), xWd_of (w := Cond.initialized (xY mX7_whyEdge).cls) 69 (by decide +kernel) (by decide +kernel), by decide +kernel, by decide +kernel⟩, xWd_of (w := Cond.instanceMethod (xY mX7_whyEdge)) 838 (by decide +kernel) (by decide +kernel), xWd_of (w := Cond.selects (xY mX7_whyEdge).cls (xY mX7_whyEdge) (xY mX7_whyEdge)) 39 (by decide +kernel) (by decide +kernel), by decide +kernel⟩
theorem isX7_whyClaim : xIsV mX7_whyClaim 1 := ⟨⟨plainFor_of_name (by decide +kernel), xWd_of (w := Cond.code (xY mX7_whyClaim) (xB mX7_whyClaim) (xL mX7_whyClaim) (xT mX7_whyClaim)) 847 (by decide +kernel) (by decide +kernel), xWd_of (w := Cond.initialized (xY mX7_whyClaim).cls) 69 (by decide +kernel) (by decide +kernel), by decide +kernel, by decide +kernel⟩, xWd_of (w := Cond.instanceMethod (xY mX7_whyClaim)) 846 (by decide +kernel) (by decide +kernel), xWd_of (w := Cond.selects (xY mX7_whyClaim).cls (xY mX7_whyClaim) (xY mX7_whyClaim)) 41 (by decide +kernel) (by decide +kernel), by decide +kernel⟩
theorem isX7_isTaken : xIsV mX7_isTaken 1 := ⟨⟨plainFor_of_name (by decide +kernel), xWd_of (w := Cond.code (xY mX7_isTaken) (xB mX7_isTaken) (xL mX7_isTaken) (xT mX7_isTaken)) 827 (by decide +kernel) (by decide +kernel), xWd_of (w := Cond.initialized (xY mX7_isTaken).cls) 69 (by decide +kernel) (by decide +kernel), by decide +kernel, by decide +kernel⟩, xWd_of (w := Cond.instanceMethod (xY mX7_isTaken)) 826 (by decide +kernel) (by decide +kernel), xWd_of (w := Cond.selects (xY mX7_isTaken).cls (xY mX7_isTaken) (xY mX7_isTaken)) 36 (by decide +kernel) (by decide +kernel), by decide +kernel⟩
theorem isX7_forgetsTaken : xIsV mX7_forgetsTaken 0 := ⟨⟨plainFor_of_name (by decide +kernel), xWd_of (w := Cond.code (xY mX7_forgetsTaken) (xB mX7_forgetsTaken) (xL mX7_forgetsTaken) (xT mX7_forgetsTaken)) 831 (by decide +kernel) (by decide +kernel), xWd_of (w := Cond.initialized (xY mX7_forgetsTaken).cls) 69 (by decide +kernel) (by decide +kernel), by decide +kernel, by decide +kernel⟩, xWd_of (w := Cond.instanceMethod (xY mX7_forgetsTaken)) 830 (by decide +kernel) (by decide +kernel), xWd_of (w := Cond.selects (xY mX7_forgetsTaken).cls (xY mX7_forgetsTaken) (xY mX7_forgetsTaken)) 37 (by decide +kernel) (by decide +kernel), by decide +kernel⟩
theorem isX7_isSecond : xIsV mX7_isSecond 1 := ⟨⟨plainFor_of_name (by decide +kernel), xWd_of (w := Cond.code (xY mX7_isSecond) (xB mX7_isSecond) (xL mX7_isSecond) (xT mX7_isSecond)) 815 (by decide +kernel) (by decide +kernel), xWd_of (w := Cond.initialized (xY mX7_isSecond).cls) 69 (by decide +kernel) (by decide +kernel), by decide +kernel, by decide +kernel⟩, xWd_of (w := Cond.instanceMethod (xY mX7_isSecond)) 814 (by decide +kernel) (by decide +kernel), xWd_of (w := Cond.selects (xY mX7_isSecond).cls (xY mX7_isSecond) (xY mX7_isSecond)) 33 (by decide +kernel) (by decide +kernel), by decide +kernel⟩
theorem isX7_edgeOf : xIsV mX7_edgeOf 1 := ⟨⟨plainFor_of_name (by decide +kernel), xWd_of (w := Cond.code (xY mX7_edgeOf) (xB mX7_edgeOf) (xL mX7_edgeOf) (xT mX7_edgeOf)) 823 (by decide +kernel) (by decide +kernel), xWd_of (w := Cond.initialized (xY mX7_edgeOf).cls) 69 (by decide +kernel) (by decide +kernel), by decide +kernel, by decide +kernel⟩, xWd_of (w := Cond.instanceMethod (xY mX7_edgeOf)) 822 (by decide +kernel) (by decide +kernel), xWd_of (w := Cond.selects (xY mX7_edgeOf).cls (xY mX7_edgeOf) (xY mX7_edgeOf)) 35 (by decide +kernel) (by decide +kernel), by decide +kernel⟩
theorem isX7_does : xIsV mX7_does 1 := ⟨⟨plainFor_of_name (by decide +kernel), xWd_of (w := Cond.code (xY mX7_does) (xB mX7_does) (xL mX7_does) (xT mX7_does)) 835 (by decide +kernel) (by decide +kernel), xWd_of (w := Cond.initialized (xY mX7_does).cls) 69 (by decide +kernel) (by decide +kernel), by decide +kernel, by decide +kernel⟩, xWd_of (w := Cond.instanceMethod (xY mX7_does)) 834 (by decide +kernel) (by decide +kernel), xWd_of (w := Cond.selects (xY mX7_does).cls (xY mX7_does) (xY mX7_does)) 38 (by decide +kernel) (by decide +kernel), by decide +kernel⟩
theorem isX7_doesSecond : xIsV mX7_doesSecond 1 := ⟨⟨plainFor_of_name (by decide +kernel), xWd_of (w := Cond.code (xY mX7_doesSecond) (xB mX7_doesSecond) (xL mX7_doesSecond) (xT mX7_doesSecond)) 819 (by decide +kernel) (by decide +kernel), xWd_of (w := Cond.initialized (xY mX7_doesSecond).cls) 69 (by decide +kernel) (by decide +kernel), by decide +kernel, by decide +kernel⟩, xWd_of (w := Cond.instanceMethod (xY mX7_doesSecond)) 818 (by decide +kernel) (by decide +kernel), xWd_of (w := Cond.selects (xY mX7_doesSecond).cls (xY mX7_doesSecond) (xY mX7_doesSecond)) 34 (by decide +kernel) (by decide +kernel), by decide +kernel⟩
theorem isX7_comes : xIsV mX7_comes 1 := ⟨⟨plainFor_of_name (by decide +kernel), xWd_of (w := Cond.code (xY mX7_comes) (xB mX7_comes) (xL mX7_comes) (xT mX7_comes)) 811 (by decide +kernel) (by decide +kernel), xWd_of (w := Cond.initialized (xY mX7_comes).cls) 69 (by decide +kernel) (by decide +kernel), by decide +kernel, by decide +kernel⟩, xWd_of (w := Cond.instanceMethod (xY mX7_comes)) 810 (by decide +kernel) (by decide +kernel), xWd_of (w := Cond.selects (xY mX7_comes).cls (xY mX7_comes) (xY mX7_comes)) 32 (by decide +kernel) (by decide +kernel), by decide +kernel⟩
theorem isX7_day : xIsV mX7_day 0 := ⟨⟨plainFor_of_name (by decide +kernel), xWd_of (w := Cond.code (xY mX7_day) (xB mX7_day) (xL mX7_day) (xT mX7_day)) 807 (by decide +kernel) (by decide +kernel), xWd_of (w := Cond.initialized (xY mX7_day).cls) 69 (by decide +kernel) (by decide +kernel), by decide +kernel, by decide +kernel⟩, xWd_of (w := Cond.instanceMethod (xY mX7_day)) 806 (by decide +kernel) (by decide +kernel), xWd_of (w := Cond.selects (xY mX7_day).cls (xY mX7_day) (xY mX7_day)) 31 (by decide +kernel) (by decide +kernel), by decide +kernel⟩
theorem isX7_passes : xIsV mX7_passes 1 := ⟨⟨plainFor_of_name (by decide +kernel), xWd_of (w := Cond.code (xY mX7_passes) (xB mX7_passes) (xL mX7_passes) (xT mX7_passes)) 803 (by decide +kernel) (by decide +kernel), xWd_of (w := Cond.initialized (xY mX7_passes).cls) 69 (by decide +kernel) (by decide +kernel), by decide +kernel, by decide +kernel⟩, xWd_of (w := Cond.instanceMethod (xY mX7_passes)) 802 (by decide +kernel) (by decide +kernel), xWd_of (w := Cond.selects (xY mX7_passes).cls (xY mX7_passes) (xY mX7_passes)) 30 (by decide +kernel) (by decide +kernel), by decide +kernel⟩
theorem isX7_writes : xIsV mX7_writes 4 := ⟨⟨plainFor_of_name (by decide +kernel), xWd_of (w := Cond.code (xY mX7_writes) (xB mX7_writes) (xL mX7_writes) (xT mX7_writes)) 752 (by decide +kernel) (by decide +kernel), xWd_of (w := Cond.initialized (xY mX7_writes).cls) 69 (by decide +kernel) (by decide +kernel), by decide +kernel, by decide +kernel⟩, xWd_of (w := Cond.instanceMethod (xY mX7_writes)) 751 (by decide +kernel) (by decide +kernel), xWd_of (w := Cond.selects (xY mX7_writes).cls (xY mX7_writes) (xY mX7_writes)) 25 (by decide +kernel) (by decide +kernel), by decide +kernel⟩
theorem isX7_acted : xIsV mX7_acted 1 := ⟨⟨plainFor_of_name (by decide +kernel), xWd_of (w := Cond.code (xY mX7_acted) (xB mX7_acted) (xL mX7_acted) (xT mX7_acted)) 771 (by decide +kernel) (by decide +kernel), xWd_of (w := Cond.initialized (xY mX7_acted).cls) 69 (by decide +kernel) (by decide +kernel), by decide +kernel, by decide +kernel⟩, xWd_of (w := Cond.instanceMethod (xY mX7_acted)) 770 (by decide +kernel) (by decide +kernel), xWd_of (w := Cond.selects (xY mX7_acted).cls (xY mX7_acted) (xY mX7_acted)) 26 (by decide +kernel) (by decide +kernel), by decide +kernel⟩
theorem isX7_writeEdge : xIsV mX7_writeEdge 4 := ⟨⟨plainFor_of_name (by decide +kernel), xWd_of (w := Cond.code (xY mX7_writeEdge) (xB mX7_writeEdge) (xL mX7_writeEdge) (xT mX7_writeEdge)) 744 (by decide +kernel) (by decide +kernel), xWd_of (w := Cond.initialized (xY mX7_writeEdge).cls) 69 (by decide +kernel) (by decide +kernel), by decide +kernel, by decide +kernel⟩, xWd_of (w := Cond.instanceMethod (xY mX7_writeEdge)) 742 (by decide +kernel) (by decide +kernel), xWd_of (w := Cond.selects (xY mX7_writeEdge).cls (xY mX7_writeEdge) (xY mX7_writeEdge)) 743 (by decide +kernel) (by decide +kernel), by decide +kernel⟩
theorem isX7_writeClaim : xIsV mX7_writeClaim 2 := ⟨⟨plainFor_of_name (by decide +kernel), xWd_of (w := Cond.code (xY mX7_writeClaim) (xB mX7_writeClaim) (xL mX7_writeClaim) (xT mX7_writeClaim)) 779 (by decide +kernel) (by decide +kernel), xWd_of (w := Cond.initialized (xY mX7_writeClaim).cls) 69 (by decide +kernel) (by decide +kernel), by decide +kernel, by decide +kernel⟩, xWd_of (w := Cond.instanceMethod (xY mX7_writeClaim)) 777 (by decide +kernel) (by decide +kernel), xWd_of (w := Cond.selects (xY mX7_writeClaim).cls (xY mX7_writeClaim) (xY mX7_writeClaim)) 778 (by decide +kernel) (by decide +kernel), by decide +kernel⟩
theorem isX7_writeTruce : xIsV mX7_writeTruce 2 := ⟨⟨plainFor_of_name (by decide +kernel), xWd_of (w := Cond.code (xY mX7_writeTruce) (xB mX7_writeTruce) (xL mX7_writeTruce) (xT mX7_writeTruce)) 783 (by decide +kernel) (by decide +kernel), xWd_of (w := Cond.initialized (xY mX7_writeTruce).cls) 69 (by decide +kernel) (by decide +kernel), by decide +kernel, by decide +kernel⟩, xWd_of (w := Cond.instanceMethod (xY mX7_writeTruce)) 781 (by decide +kernel) (by decide +kernel), xWd_of (w := Cond.selects (xY mX7_writeTruce).cls (xY mX7_writeTruce) (xY mX7_writeTruce)) 782 (by decide +kernel) (by decide +kernel), by decide +kernel⟩
theorem isX7_callBack : xIsV mX7_callBack 1 := ⟨⟨plainFor_of_name (by decide +kernel), xWd_of (w := Cond.code (xY mX7_callBack) (xB mX7_callBack) (xL mX7_callBack) (xT mX7_callBack)) 787 (by decide +kernel) (by decide +kernel), xWd_of (w := Cond.initialized (xY mX7_callBack).cls) 69 (by decide +kernel) (by decide +kernel), by decide +kernel, by decide +kernel⟩, xWd_of (w := Cond.instanceMethod (xY mX7_callBack)) 785 (by decide +kernel) (by decide +kernel), xWd_of (w := Cond.selects (xY mX7_callBack).cls (xY mX7_callBack) (xY mX7_callBack)) 786 (by decide +kernel) (by decide +kernel), by decide +kernel⟩
theorem isX7_pass : xIsV mX7_pass 1 := ⟨⟨plainFor_of_name (by decide +kernel), xWd_of (w := Cond.code (xY mX7_pass) (xB mX7_pass) (xL mX7_pass) (xT mX7_pass)) 799 (by decide +kernel) (by decide +kernel), xWd_of (w := Cond.initialized (xY mX7_pass).cls) 69 (by decide +kernel) (by decide +kernel), by decide +kernel, by decide +kernel⟩, xWd_of (w := Cond.instanceMethod (xY mX7_pass)) 797 (by decide +kernel) (by decide +kernel), xWd_of (w := Cond.selects (xY mX7_pass).cls (xY mX7_pass) (xY mX7_pass)) 798 (by decide +kernel) (by decide +kernel), by decide +kernel⟩
theorem isX7_set : xIsV mX7_set 2 := ⟨⟨plainFor_of_name (by decide +kernel), xWd_of (w := Cond.code (xY mX7_set) (xB mX7_set) (xL mX7_set) (xT mX7_set)) 861 (by decide +kernel) (by decide +kernel), xWd_of (w := Cond.initialized (xY mX7_set).cls) 69 (by decide +kernel) (by decide +kernel), by decide +kernel, by decide +kernel⟩, xWd_of (w := Cond.instanceMethod (xY mX7_set)) 859 (by decide +kernel) (by decide +kernel), xWd_of (w := Cond.selects (xY mX7_set).cls (xY mX7_set) (xY mX7_set)) 860 (by decide +kernel) (by decide +kernel), by decide +kernel⟩
theorem isX7_type : xIsV mX7_type 1 := ⟨⟨plainFor_of_name (by decide +kernel), xWd_of (w := Cond.code (xY mX7_type) (xB mX7_type) (xL mX7_type) (xT mX7_type)) 865 (by decide +kernel) (by decide +kernel), xWd_of (w := Cond.initialized (xY mX7_type).cls) 69 (by decide +kernel) (by decide +kernel), by decide +kernel, by decide +kernel⟩, xWd_of (w := Cond.instanceMethod (xY mX7_type)) 863 (by decide +kernel) (by decide +kernel), xWd_of (w := Cond.selects (xY mX7_type).cls (xY mX7_type) (xY mX7_type)) 864 (by decide +kernel) (by decide +kernel), by decide +kernel⟩
theorem isX7_clearText : xIsV mX7_clearText 0 := ⟨⟨plainFor_of_name (by decide +kernel), xWd_of (w := Cond.code (xY mX7_clearText) (xB mX7_clearText) (xL mX7_clearText) (xT mX7_clearText)) 869 (by decide +kernel) (by decide +kernel), xWd_of (w := Cond.initialized (xY mX7_clearText).cls) 69 (by decide +kernel) (by decide +kernel), by decide +kernel, by decide +kernel⟩, xWd_of (w := Cond.instanceMethod (xY mX7_clearText)) 867 (by decide +kernel) (by decide +kernel), xWd_of (w := Cond.selects (xY mX7_clearText).cls (xY mX7_clearText) (xY mX7_clearText)) 868 (by decide +kernel) (by decide +kernel), by decide +kernel⟩
theorem isX7_isNext : xIsV mX7_isNext 2 := ⟨⟨plainFor_of_name (by decide +kernel), xWd_of (w := Cond.code (xY mX7_isNext) (xB mX7_isNext) (xL mX7_isNext) (xT mX7_isNext)) 885 (by decide +kernel) (by decide +kernel), xWd_of (w := Cond.initialized (xY mX7_isNext).cls) 69 (by decide +kernel) (by decide +kernel), by decide +kernel, by decide +kernel⟩, xWd_of (w := Cond.instanceMethod (xY mX7_isNext)) 884 (by decide +kernel) (by decide +kernel), xWd_of (w := Cond.selects (xY mX7_isNext).cls (xY mX7_isNext) (xY mX7_isNext)) 45 (by decide +kernel) (by decide +kernel), by decide +kernel⟩
theorem isX7_takes : xIsV mX7_takes 2 := ⟨⟨plainFor_of_name (by decide +kernel), xWd_of (w := Cond.code (xY mX7_takes) (xB mX7_takes) (xL mX7_takes) (xT mX7_takes)) 889 (by decide +kernel) (by decide +kernel), xWd_of (w := Cond.initialized (xY mX7_takes).cls) 69 (by decide +kernel) (by decide +kernel), by decide +kernel, by decide +kernel⟩, xWd_of (w := Cond.instanceMethod (xY mX7_takes)) 888 (by decide +kernel) (by decide +kernel), xWd_of (w := Cond.selects (xY mX7_takes).cls (xY mX7_takes) (xY mX7_takes)) 46 (by decide +kernel) (by decide +kernel), by decide +kernel⟩
theorem isX7_takesNumber : xIsV mX7_takesNumber 2 := ⟨⟨plainFor_of_name (by decide +kernel), xWd_of (w := Cond.code (xY mX7_takesNumber) (xB mX7_takesNumber) (xL mX7_takesNumber) (xT mX7_takesNumber)) 893 (by decide +kernel) (by decide +kernel), xWd_of (w := Cond.initialized (xY mX7_takesNumber).cls) 69 (by decide +kernel) (by decide +kernel), by decide +kernel, by decide +kernel⟩, xWd_of (w := Cond.instanceMethod (xY mX7_takesNumber)) 892 (by decide +kernel) (by decide +kernel), xWd_of (w := Cond.selects (xY mX7_takesNumber).cls (xY mX7_takesNumber) (xY mX7_takesNumber)) 47 (by decide +kernel) (by decide +kernel), by decide +kernel⟩
theorem isX7_takesSign : xIsV mX7_takesSign 2 := ⟨⟨plainFor_of_name (by decide +kernel), xWd_of (w := Cond.code (xY mX7_takesSign) (xB mX7_takesSign) (xL mX7_takesSign) (xT mX7_takesSign)) 898 (by decide +kernel) (by decide +kernel), xWd_of (w := Cond.initialized (xY mX7_takesSign).cls) 69 (by decide +kernel) (by decide +kernel), by decide +kernel, by decide +kernel⟩, xWd_of (w := Cond.instanceMethod (xY mX7_takesSign)) 897 (by decide +kernel) (by decide +kernel), xWd_of (w := Cond.selects (xY mX7_takesSign).cls (xY mX7_takesSign) (xY mX7_takesSign)) 48 (by decide +kernel) (by decide +kernel), by decide +kernel⟩
theorem isX7_readThing : xIsV mX7_readThing 0 := ⟨⟨plainFor_of_name (by decide +kernel), xWd_of (w := Cond.code (xY mX7_readThing) (xB mX7_readThing) (xL mX7_readThing) (xT mX7_readThing)) 881 (by decide +kernel) (by decide +kernel), xWd_of (w := Cond.initialized (xY mX7_readThing).cls) 69 (by decide +kernel) (by decide +kernel), by decide +kernel, by decide +kernel⟩, xWd_of (w := Cond.instanceMethod (xY mX7_readThing)) 880 (by decide +kernel) (by decide +kernel), xWd_of (w := Cond.selects (xY mX7_readThing).cls (xY mX7_readThing) (xY mX7_readThing)) 44 (by decide +kernel) (by decide +kernel), by decide +kernel⟩
theorem isX7_runs : xIsV mX7_runs 1 := ⟨⟨plainFor_of_name (by decide +kernel), xWd_of (w := Cond.code (xY mX7_runs) (xB mX7_runs) (xL mX7_runs) (xT mX7_runs)) 877 (by decide +kernel) (by decide +kernel), xWd_of (w := Cond.initialized (xY mX7_runs).cls) 69 (by decide +kernel) (by decide +kernel), by decide +kernel, by decide +kernel⟩, xWd_of (w := Cond.instanceMethod (xY mX7_runs)) 876 (by decide +kernel) (by decide +kernel), xWd_of (w := Cond.selects (xY mX7_runs).cls (xY mX7_runs) (xY mX7_runs)) 43 (by decide +kernel) (by decide +kernel), by decide +kernel⟩
theorem isX7_perform : xIsV mX7_perform 0 := ⟨⟨plainFor_of_name (by decide +kernel), xWd_of (w := Cond.code (xY mX7_perform) (xB mX7_perform) (xL mX7_perform) (xT mX7_perform)) 873 (by decide +kernel) (by decide +kernel), xWd_of (w := Cond.initialized (xY mX7_perform).cls) 69 (by decide +kernel) (by decide +kernel), by decide +kernel, by decide +kernel⟩, xWd_of (w := Cond.instanceMethod (xY mX7_perform)) 871 (by decide +kernel) (by decide +kernel), xWd_of (w := Cond.selects (xY mX7_perform).cls (xY mX7_perform) (xY mX7_perform)) 872 (by decide +kernel) (by decide +kernel), by decide +kernel⟩
theorem isX7_stopped : xIsV mX7_stopped 1 := ⟨⟨plainFor_of_name (by decide +kernel), xWd_of (w := Cond.code (xY mX7_stopped) (xB mX7_stopped) (xL mX7_stopped) (xT mX7_stopped)) 903 (by decide +kernel) (by decide +kernel), xWd_of (w := Cond.initialized (xY mX7_stopped).cls) 69 (by decide +kernel) (by decide +kernel), by decide +kernel, by decide +kernel⟩, xWd_of (w := Cond.instanceMethod (xY mX7_stopped)) 901 (by decide +kernel) (by decide +kernel), xWd_of (w := Cond.selects (xY mX7_stopped).cls (xY mX7_stopped) (xY mX7_stopped)) 902 (by decide +kernel) (by decide +kernel), by decide +kernel⟩
theorem isX7_undo : xIsV mX7_undo 0 := ⟨⟨plainFor_of_name (by decide +kernel), xWd_of (w := Cond.code (xY mX7_undo) (xB mX7_undo) (xL mX7_undo) (xT mX7_undo)) 907 (by decide +kernel) (by decide +kernel), xWd_of (w := Cond.initialized (xY mX7_undo).cls) 69 (by decide +kernel) (by decide +kernel), by decide +kernel, by decide +kernel⟩, xWd_of (w := Cond.instanceMethod (xY mX7_undo)) 905 (by decide +kernel) (by decide +kernel), xWd_of (w := Cond.selects (xY mX7_undo).cls (xY mX7_undo) (xY mX7_undo)) 906 (by decide +kernel) (by decide +kernel), by decide +kernel⟩
theorem isX7_keep : xIsV mX7_keep 0 := ⟨⟨plainFor_of_name (by decide +kernel), xWd_of (w := Cond.code (xY mX7_keep) (xB mX7_keep) (xL mX7_keep) (xT mX7_keep)) 911 (by decide +kernel) (by decide +kernel), xWd_of (w := Cond.initialized (xY mX7_keep).cls) 69 (by decide +kernel) (by decide +kernel), by decide +kernel, by decide +kernel⟩, xWd_of (w := Cond.instanceMethod (xY mX7_keep)) 909 (by decide +kernel) (by decide +kernel), xWd_of (w := Cond.selects (xY mX7_keep).cls (xY mX7_keep) (xY mX7_keep)) 910 (by decide +kernel) (by decide +kernel), by decide +kernel⟩
theorem isX7_restore : xIsV mX7_restore 0 := ⟨⟨plainFor_of_name (by decide +kernel), xWd_of (w := Cond.code (xY mX7_restore) (xB mX7_restore) (xL mX7_restore) (xT mX7_restore)) 915 (by decide +kernel) (by decide +kernel), xWd_of (w := Cond.initialized (xY mX7_restore).cls) 69 (by decide +kernel) (by decide +kernel), by decide +kernel, by decide +kernel⟩, xWd_of (w := Cond.instanceMethod (xY mX7_restore)) 913 (by decide +kernel) (by decide +kernel), xWd_of (w := Cond.selects (xY mX7_restore).cls (xY mX7_restore) (xY mX7_restore)) 914 (by decide +kernel) (by decide +kernel), by decide +kernel⟩
theorem isX7_edge : xIsV mX7_edge 2 := ⟨⟨plainFor_of_name (by decide +kernel), xWd_of (w := Cond.code (xY mX7_edge) (xB mX7_edge) (xL mX7_edge) (xT mX7_edge)) 919 (by decide +kernel) (by decide +kernel), xWd_of (w := Cond.initialized (xY mX7_edge).cls) 69 (by decide +kernel) (by decide +kernel), by decide +kernel, by decide +kernel⟩, xWd_of (w := Cond.instanceMethod (xY mX7_edge)) 917 (by decide +kernel) (by decide +kernel), xWd_of (w := Cond.selects (xY mX7_edge).cls (xY mX7_edge) (xY mX7_edge)) 918 (by decide +kernel) (by decide +kernel), by decide +kernel⟩
theorem isX7_edgesOf : xIsV mX7_edgesOf 1 := ⟨⟨plainFor_of_name (by decide +kernel), xWd_of (w := Cond.code (xY mX7_edgesOf) (xB mX7_edgesOf) (xL mX7_edgesOf) (xT mX7_edgesOf)) 935 (by decide +kernel) (by decide +kernel), xWd_of (w := Cond.initialized (xY mX7_edgesOf).cls) 69 (by decide +kernel) (by decide +kernel), by decide +kernel, by decide +kernel⟩, xWd_of (w := Cond.instanceMethod (xY mX7_edgesOf)) 934 (by decide +kernel) (by decide +kernel), xWd_of (w := Cond.selects (xY mX7_edgesOf).cls (xY mX7_edgesOf) (xY mX7_edgesOf)) 51 (by decide +kernel) (by decide +kernel), by decide +kernel⟩
theorem isX7_field : xIsV mX7_field 2 := ⟨⟨plainFor_of_name (by decide +kernel), xWd_of (w := Cond.code (xY mX7_field) (xB mX7_field) (xL mX7_field) (xT mX7_field)) 923 (by decide +kernel) (by decide +kernel), xWd_of (w := Cond.initialized (xY mX7_field).cls) 69 (by decide +kernel) (by decide +kernel), by decide +kernel, by decide +kernel⟩, xWd_of (w := Cond.instanceMethod (xY mX7_field)) 921 (by decide +kernel) (by decide +kernel), xWd_of (w := Cond.selects (xY mX7_field).cls (xY mX7_field) (xY mX7_field)) 922 (by decide +kernel) (by decide +kernel), by decide +kernel⟩
theorem isX7_joined : xIsV mX7_joined 1 := ⟨⟨plainFor_of_name (by decide +kernel), xWd_of (w := Cond.code (xY mX7_joined) (xB mX7_joined) (xL mX7_joined) (xT mX7_joined)) 939 (by decide +kernel) (by decide +kernel), xWd_of (w := Cond.initialized (xY mX7_joined).cls) 69 (by decide +kernel) (by decide +kernel), by decide +kernel, by decide +kernel⟩, xWd_of (w := Cond.instanceMethod (xY mX7_joined)) 937 (by decide +kernel) (by decide +kernel), xWd_of (w := Cond.selects (xY mX7_joined).cls (xY mX7_joined) (xY mX7_joined)) 938 (by decide +kernel) (by decide +kernel), by decide +kernel⟩
theorem isX7_letter : xIsV mX7_letter 2 := ⟨⟨plainFor_of_name (by decide +kernel), xWd_of (w := Cond.code (xY mX7_letter) (xB mX7_letter) (xL mX7_letter) (xT mX7_letter)) 943 (by decide +kernel) (by decide +kernel), xWd_of (w := Cond.initialized (xY mX7_letter).cls) 69 (by decide +kernel) (by decide +kernel), by decide +kernel, by decide +kernel⟩, xWd_of (w := Cond.instanceMethod (xY mX7_letter)) 941 (by decide +kernel) (by decide +kernel), xWd_of (w := Cond.selects (xY mX7_letter).cls (xY mX7_letter) (xY mX7_letter)) 942 (by decide +kernel) (by decide +kernel), by decide +kernel⟩
theorem isX7_cross : xIsV mX7_cross 2 := ⟨⟨plainFor_of_name (by decide +kernel), xWd_of (w := Cond.code (xY mX7_cross) (xB mX7_cross) (xL mX7_cross) (xT mX7_cross)) 951 (by decide +kernel) (by decide +kernel), xWd_of (w := Cond.initialized (xY mX7_cross).cls) 69 (by decide +kernel) (by decide +kernel), by decide +kernel, by decide +kernel⟩, xWd_of (w := Cond.instanceMethod (xY mX7_cross)) 950 (by decide +kernel) (by decide +kernel), xWd_of (w := Cond.selects (xY mX7_cross).cls (xY mX7_cross) (xY mX7_cross)) 52 (by decide +kernel) (by decide +kernel), by decide +kernel⟩
theorem isX7_crossed : xIsV mX7_crossed 2 := ⟨⟨plainFor_of_name (by decide +kernel), xWd_of (w := Cond.code (xY mX7_crossed) (xB mX7_crossed) (xL mX7_crossed) (xT mX7_crossed)) 947 (by decide +kernel) (by decide +kernel), xWd_of (w := Cond.initialized (xY mX7_crossed).cls) 69 (by decide +kernel) (by decide +kernel), by decide +kernel, by decide +kernel⟩, xWd_of (w := Cond.instanceMethod (xY mX7_crossed)) 945 (by decide +kernel) (by decide +kernel), xWd_of (w := Cond.selects (xY mX7_crossed).cls (xY mX7_crossed) (xY mX7_crossed)) 946 (by decide +kernel) (by decide +kernel), by decide +kernel⟩
theorem isX7_reasonEdge : xIsV mX7_reasonEdge 3 := ⟨⟨plainFor_of_name (by decide +kernel), xWd_of (w := Cond.code (xY mX7_reasonEdge) (xB mX7_reasonEdge) (xL mX7_reasonEdge) (xT mX7_reasonEdge)) 955 (by decide +kernel) (by decide +kernel), xWd_of (w := Cond.initialized (xY mX7_reasonEdge).cls) 69 (by decide +kernel) (by decide +kernel), by decide +kernel, by decide +kernel⟩, xWd_of (w := Cond.instanceMethod (xY mX7_reasonEdge)) 953 (by decide +kernel) (by decide +kernel), xWd_of (w := Cond.selects (xY mX7_reasonEdge).cls (xY mX7_reasonEdge) (xY mX7_reasonEdge)) 954 (by decide +kernel) (by decide +kernel), by decide +kernel⟩
theorem isX7_reasonClaim : xIsV mX7_reasonClaim 1 := ⟨⟨plainFor_of_name (by decide +kernel), xWd_of (w := Cond.code (xY mX7_reasonClaim) (xB mX7_reasonClaim) (xL mX7_reasonClaim) (xT mX7_reasonClaim)) 959 (by decide +kernel) (by decide +kernel), xWd_of (w := Cond.initialized (xY mX7_reasonClaim).cls) 69 (by decide +kernel) (by decide +kernel), by decide +kernel, by decide +kernel⟩, xWd_of (w := Cond.instanceMethod (xY mX7_reasonClaim)) 957 (by decide +kernel) (by decide +kernel), xWd_of (w := Cond.selects (xY mX7_reasonClaim).cls (xY mX7_reasonClaim) (xY mX7_reasonClaim)) 958 (by decide +kernel) (by decide +kernel), by decide +kernel⟩
theorem isX7_nextLetter : xIsV mX7_nextLetter 0 := ⟨⟨plainFor_of_name (by decide +kernel), xWd_of (w := Cond.code (xY mX7_nextLetter) (xB mX7_nextLetter) (xL mX7_nextLetter) (xT mX7_nextLetter)) 967 (by decide +kernel) (by decide +kernel), xWd_of (w := Cond.initialized (xY mX7_nextLetter).cls) 69 (by decide +kernel) (by decide +kernel), by decide +kernel, by decide +kernel⟩, xWd_of (w := Cond.instanceMethod (xY mX7_nextLetter)) 966 (by decide +kernel) (by decide +kernel), xWd_of (w := Cond.selects (xY mX7_nextLetter).cls (xY mX7_nextLetter) (xY mX7_nextLetter)) 53 (by decide +kernel) (by decide +kernel), by decide +kernel⟩
theorem isX7_next : xIsV mX7_next 1 := ⟨⟨plainFor_of_name (by decide +kernel), xWd_of (w := Cond.code (xY mX7_next) (xB mX7_next) (xL mX7_next) (xT mX7_next)) 963 (by decide +kernel) (by decide +kernel), xWd_of (w := Cond.initialized (xY mX7_next).cls) 69 (by decide +kernel) (by decide +kernel), by decide +kernel, by decide +kernel⟩, xWd_of (w := Cond.instanceMethod (xY mX7_next)) 961 (by decide +kernel) (by decide +kernel), xWd_of (w := Cond.selects (xY mX7_next).cls (xY mX7_next) (xY mX7_next)) 962 (by decide +kernel) (by decide +kernel), by decide +kernel⟩
theorem isX7_lettersThat : xIsV mX7_lettersThat 1 := ⟨⟨plainFor_of_name (by decide +kernel), xWd_of (w := Cond.code (xY mX7_lettersThat) (xB mX7_lettersThat) (xL mX7_lettersThat) (xT mX7_lettersThat)) 987 (by decide +kernel) (by decide +kernel), xWd_of (w := Cond.initialized (xY mX7_lettersThat).cls) 69 (by decide +kernel) (by decide +kernel), by decide +kernel, by decide +kernel⟩, xWd_of (w := Cond.instanceMethod (xY mX7_lettersThat)) 986 (by decide +kernel) (by decide +kernel), xWd_of (w := Cond.selects (xY mX7_lettersThat).cls (xY mX7_lettersThat) (xY mX7_lettersThat)) 57 (by decide +kernel) (by decide +kernel), by decide +kernel⟩
theorem isX7_edgesThat : xIsV mX7_edgesThat 1 := ⟨⟨plainFor_of_name (by decide +kernel), xWd_of (w := Cond.code (xY mX7_edgesThat) (xB mX7_edgesThat) (xL mX7_edgesThat) (xT mX7_edgesThat)) 983 (by decide +kernel) (by decide +kernel), xWd_of (w := Cond.initialized (xY mX7_edgesThat).cls) 69 (by decide +kernel) (by decide +kernel), by decide +kernel, by decide +kernel⟩, xWd_of (w := Cond.instanceMethod (xY mX7_edgesThat)) 982 (by decide +kernel) (by decide +kernel), xWd_of (w := Cond.selects (xY mX7_edgesThat).cls (xY mX7_edgesThat) (xY mX7_edgesThat)) 56 (by decide +kernel) (by decide +kernel), by decide +kernel⟩
theorem isX7_fieldsOf : xIsV mX7_fieldsOf 1 := ⟨⟨plainFor_of_name (by decide +kernel), xWd_of (w := Cond.code (xY mX7_fieldsOf) (xB mX7_fieldsOf) (xL mX7_fieldsOf) (xT mX7_fieldsOf)) 979 (by decide +kernel) (by decide +kernel), xWd_of (w := Cond.initialized (xY mX7_fieldsOf).cls) 69 (by decide +kernel) (by decide +kernel), by decide +kernel, by decide +kernel⟩, xWd_of (w := Cond.instanceMethod (xY mX7_fieldsOf)) 978 (by decide +kernel) (by decide +kernel), xWd_of (w := Cond.selects (xY mX7_fieldsOf).cls (xY mX7_fieldsOf) (xY mX7_fieldsOf)) 55 (by decide +kernel) (by decide +kernel), by decide +kernel⟩
theorem isX7_ifAllCome : xIsV mX7_ifAllCome 1 := ⟨⟨plainFor_of_name (by decide +kernel), xWd_of (w := Cond.code (xY mX7_ifAllCome) (xB mX7_ifAllCome) (xL mX7_ifAllCome) (xT mX7_ifAllCome)) 971 (by decide +kernel) (by decide +kernel), xWd_of (w := Cond.initialized (xY mX7_ifAllCome).cls) 69 (by decide +kernel) (by decide +kernel), by decide +kernel, by decide +kernel⟩, xWd_of (w := Cond.instanceMethod (xY mX7_ifAllCome)) 969 (by decide +kernel) (by decide +kernel), xWd_of (w := Cond.selects (xY mX7_ifAllCome).cls (xY mX7_ifAllCome) (xY mX7_ifAllCome)) 970 (by decide +kernel) (by decide +kernel), by decide +kernel⟩
theorem isX7_bestClaim : xIsV mX7_bestClaim 1 := ⟨⟨plainFor_of_name (by decide +kernel), xWd_of (w := Cond.code (xY mX7_bestClaim) (xB mX7_bestClaim) (xL mX7_bestClaim) (xT mX7_bestClaim)) 995 (by decide +kernel) (by decide +kernel), xWd_of (w := Cond.initialized (xY mX7_bestClaim).cls) 69 (by decide +kernel) (by decide +kernel), by decide +kernel, by decide +kernel⟩, xWd_of (w := Cond.instanceMethod (xY mX7_bestClaim)) 993 (by decide +kernel) (by decide +kernel), xWd_of (w := Cond.selects (xY mX7_bestClaim).cls (xY mX7_bestClaim) (xY mX7_bestClaim)) 994 (by decide +kernel) (by decide +kernel), by decide +kernel⟩
theorem isX7_regions : xIsV mX7_regions 0 := ⟨⟨plainFor_of_name (by decide +kernel), xWd_of (w := Cond.code (xY mX7_regions) (xB mX7_regions) (xL mX7_regions) (xT mX7_regions)) 1003 (by decide +kernel) (by decide +kernel), xWd_of (w := Cond.initialized (xY mX7_regions).cls) 69 (by decide +kernel) (by decide +kernel), by decide +kernel, by decide +kernel⟩, xWd_of (w := Cond.instanceMethod (xY mX7_regions)) 1002 (by decide +kernel) (by decide +kernel), xWd_of (w := Cond.selects (xY mX7_regions).cls (xY mX7_regions) (xY mX7_regions)) 59 (by decide +kernel) (by decide +kernel), by decide +kernel⟩
theorem isX7_count : xIsV mX7_count 1 := ⟨⟨plainFor_of_name (by decide +kernel), xWd_of (w := Cond.code (xY mX7_count) (xB mX7_count) (xL mX7_count) (xT mX7_count)) 999 (by decide +kernel) (by decide +kernel), xWd_of (w := Cond.initialized (xY mX7_count).cls) 69 (by decide +kernel) (by decide +kernel), by decide +kernel, by decide +kernel⟩, xWd_of (w := Cond.instanceMethod (xY mX7_count)) 997 (by decide +kernel) (by decide +kernel), xWd_of (w := Cond.selects (xY mX7_count).cls (xY mX7_count) (xY mX7_count)) 998 (by decide +kernel) (by decide +kernel), by decide +kernel⟩
theorem isJ9_floorMod_7cf53 : xIsS mJ9_floorMod_7cf53 2 := ⟨⟨by decide +kernel, xWd_of (w := Cond.code (xY mJ9_floorMod_7cf53) (xB mJ9_floorMod_7cf53) (xL mJ9_floorMod_7cf53) (xT mJ9_floorMod_7cf53)) 344 (by decide +kernel) (by decide +kernel), xWd_of (w := Cond.initialized (xY mJ9_floorMod_7cf53).cls) 71 (by decide +kernel) (by decide +kernel), by decide +kernel, by decide +kernel⟩, xWd_of (w := Cond.static (xY mJ9_floorMod_7cf53)) 343 (by decide +kernel) (by decide +kernel), by decide +kernel⟩
theorem isJ7_fill_53178 : xIsS mJ7_fill_53178 2 := ⟨⟨by decide +kernel, xWd_of (w := Cond.code (xY mJ7_fill_53178) (xB mJ7_fill_53178) (xL mJ7_fill_53178) (xT mJ7_fill_53178)) 88 (by decide +kernel) (by decide +kernel), xWd_of (w := Cond.initialized (xY mJ7_fill_53178).cls) 63 (by decide +kernel) (by decide +kernel), by decide +kernel, by decide +kernel⟩, xWd_of (w := Cond.static (xY mJ7_fill_53178)) 87 (by decide +kernel) (by decide +kernel), by decide +kernel⟩
/-! links of the classes: calls, fields, classes, constants -/
theorem lcX0_3 : Cond.methodLink RX0 3 objectInit ∈ xWd := xWd_of (w := Cond.methodLink RX0 3 objectInit) 160 (by decide +kernel) (by decide +kernel)
theorem lfX0_9 : Cond.fieldLink RX0 9 (TX0 0).1 (TX0 0).2.1 (TX0 0).2.2.1 ∈ xWd := xWd_of (w := Cond.fieldLink RX0 9 (TX0 0).1 (TX0 0).2.1 (TX0 0).2.2.1) 161 (by decide +kernel) (by decide +kernel)
theorem lfX0_15 : Cond.fieldLink RX0 15 (TX0 4).1 (TX0 4).2.1 (TX0 4).2.2.1 ∈ xWd := xWd_of (w := Cond.fieldLink RX0 15 (TX0 4).1 (TX0 4).2.1 (TX0 4).2.2.1) 167 (by decide +kernel) (by decide +kernel)
theorem lfX0_19 : Cond.fieldLink RX0 19 (TX0 5).1 (TX0 5).2.1 (TX0 5).2.2.1 ∈ xWd := xWd_of (w := Cond.fieldLink RX0 19 (TX0 5).1 (TX0 5).2.1 (TX0 5).2.2.1) 169 (by decide +kernel) (by decide +kernel)
theorem lfX0_22 : Cond.fieldLink RX0 22 (TX0 6).1 (TX0 6).2.1 (TX0 6).2.2.1 ∈ xWd := xWd_of (w := Cond.fieldLink RX0 22 (TX0 6).1 (TX0 6).2.1 (TX0 6).2.2.1) 171 (by decide +kernel) (by decide +kernel)
theorem lfX0_25 : Cond.fieldLink RX0 25 (TX0 7).1 (TX0 7).2.1 (TX0 7).2.2.1 ∈ xWd := xWd_of (w := Cond.fieldLink RX0 25 (TX0 7).1 (TX0 7).2.1 (TX0 7).2.2.1) 173 (by decide +kernel) (by decide +kernel)
theorem lfX0_28 : Cond.fieldLink RX0 28 (TX0 1).1 (TX0 1).2.1 (TX0 1).2.2.1 ∈ xWd := xWd_of (w := Cond.fieldLink RX0 28 (TX0 1).1 (TX0 1).2.1 (TX0 1).2.2.1) 162 (by decide +kernel) (by decide +kernel)
theorem lfX0_32 : Cond.fieldLink RX0 32 (TX0 2).1 (TX0 2).2.1 (TX0 2).2.2.1 ∈ xWd := xWd_of (w := Cond.fieldLink RX0 32 (TX0 2).1 (TX0 2).2.1 (TX0 2).2.2.1) 164 (by decide +kernel) (by decide +kernel)
theorem lfX0_35 : Cond.fieldLink RX0 35 (TX0 3).1 (TX0 3).2.1 (TX0 3).2.2.1 ∈ xWd := xWd_of (w := Cond.fieldLink RX0 35 (TX0 3).1 (TX0 3).2.1 (TX0 3).2.2.1) 165 (by decide +kernel) (by decide +kernel)
theorem lcX0_38 : Cond.methodLink RX0 38 (xY mX0_readThing) ∈ xWd := xWd_of (w := Cond.methodLink RX0 38 (xY mX0_readThing)) 518 (by decide +kernel) (by decide +kernel)
theorem lcX0_42 : Cond.methodLink RX0 42 (xY mX0_look) ∈ xWd := xWd_of (w := Cond.methodLink RX0 42 (xY mX0_look)) 522 (by decide +kernel) (by decide +kernel)
theorem lcX0_46 : Cond.methodLink RX0 46 (xY mX0_putPart) ∈ xWd := xWd_of (w := Cond.methodLink RX0 46 (xY mX0_putPart)) 526 (by decide +kernel) (by decide +kernel)
theorem lcX0_50 : Cond.methodLink RX0 50 (xY mX0_readNumber) ∈ xWd := xWd_of (w := Cond.methodLink RX0 50 (xY mX0_readNumber)) 530 (by decide +kernel) (by decide +kernel)
theorem lcX0_54 : Cond.methodLink RX0 54 (xY mX0_readLetter) ∈ xWd := xWd_of (w := Cond.methodLink RX0 54 (xY mX0_readLetter)) 537 (by decide +kernel) (by decide +kernel)
theorem lcX0_57 : Cond.methodLink RX0 57 (xY mX0_kindOf) ∈ xWd := xWd_of (w := Cond.methodLink RX0 57 (xY mX0_kindOf)) 541 (by decide +kernel) (by decide +kernel)
theorem lcX0_61 : Cond.methodLink RX0 61 (xY mX0_readSide) ∈ xWd := xWd_of (w := Cond.methodLink RX0 61 (xY mX0_readSide)) 544 (by decide +kernel) (by decide +kernel)
theorem lcX0_64 : Cond.methodLink RX0 64 (xY mX0_digitOf) ∈ xWd := xWd_of (w := Cond.methodLink RX0 64 (xY mX0_digitOf)) 534 (by decide +kernel) (by decide +kernel)
theorem lcX0_67 : Cond.methodLink RX0 67 (xY mX0_sideOf) ∈ xWd := xWd_of (w := Cond.methodLink RX0 67 (xY mX0_sideOf)) 548 (by decide +kernel) (by decide +kernel)
theorem lcX1_3 : Cond.methodLink RX1 3 objectInit ∈ xWd := xWd_of (w := Cond.methodLink RX1 3 objectInit) 85 (by decide +kernel) (by decide +kernel)
theorem lfX1_9 : Cond.fieldLink RX1 9 (TX1 0).1 (TX1 0).2.1 (TX1 0).2.2.1 ∈ xWd := xWd_of (w := Cond.fieldLink RX1 9 (TX1 0).1 (TX1 0).2.1 (TX1 0).2.2.1) 99 (by decide +kernel) (by decide +kernel)
theorem lfX1_15 : Cond.fieldLink RX1 15 (TX1 1).1 (TX1 1).2.1 (TX1 1).2.2.1 ∈ xWd := xWd_of (w := Cond.fieldLink RX1 15 (TX1 1).1 (TX1 1).2.1 (TX1 1).2.2.1) 101 (by decide +kernel) (by decide +kernel)
theorem lfX1_18 : Cond.fieldLink RX1 18 (TX1 2).1 (TX1 2).2.1 (TX1 2).2.2.1 ∈ xWd := xWd_of (w := Cond.fieldLink RX1 18 (TX1 2).1 (TX1 2).2.1 (TX1 2).2.2.1) 103 (by decide +kernel) (by decide +kernel)
theorem lfX1_21 : Cond.fieldLink RX1 21 (TX1 3).1 (TX1 3).2.1 (TX1 3).2.2.1 ∈ xWd := xWd_of (w := Cond.fieldLink RX1 21 (TX1 3).1 (TX1 3).2.1 (TX1 3).2.2.1) 105 (by decide +kernel) (by decide +kernel)
theorem lcX1_24 : Cond.methodLink RX1 24 (xY mJ7_fill_53178) ∈ xWd := xWd_of (w := Cond.methodLink RX1 24 (xY mJ7_fill_53178)) 86 (by decide +kernel) (by decide +kernel)
theorem lcX1_30 : Cond.methodLink RX1 30 (xY mX1_layEdge) ∈ xWd := xWd_of (w := Cond.methodLink RX1 30 (xY mX1_layEdge)) 89 (by decide +kernel) (by decide +kernel)
theorem lnX1_34 : Cond.methodLinkNest RX1 34 (xY mX6_isEdge) "FenceDuel" ∈ xNw := xNw_of (w := Cond.methodLinkNest RX1 34 (xY mX6_isEdge) "FenceDuel") 33 (by decide +kernel) rfl
theorem lnX1_38 : Cond.methodLinkNest RX1 38 (xY mX6_isField) "FenceDuel" ∈ xNw := xNw_of (w := Cond.methodLinkNest RX1 38 (xY mX6_isField) "FenceDuel") 36 (by decide +kernel) rfl
theorem lcX2_3 : Cond.methodLink RX2 3 objectInit ∈ xWd := xWd_of (w := Cond.methodLink RX2 3 objectInit) 198 (by decide +kernel) (by decide +kernel)
theorem llX2_9 : Cond.classLink RX2 9 RX5 ∈ xWd := xWd_of (w := Cond.classLink RX2 9 RX5) 199 (by decide +kernel) (by decide +kernel)
theorem lcX2_11 : Cond.methodLink RX2 11 (xY mX5_init) ∈ xWd := xWd_of (w := Cond.methodLink RX2 11 (xY mX5_init)) 202 (by decide +kernel) (by decide +kernel)
theorem lfX2_12 : Cond.fieldLink RX2 12 (TX2 0).1 (TX2 0).2.1 (TX2 0).2.2.1 ∈ xWd := xWd_of (w := Cond.fieldLink RX2 12 (TX2 0).1 (TX2 0).2.1 (TX2 0).2.2.1) 246 (by decide +kernel) (by decide +kernel)
theorem lfX2_18 : Cond.fieldLink RX2 18 (TX2 1).1 (TX2 1).2.1 (TX2 1).2.2.1 ∈ xWd := xWd_of (w := Cond.fieldLink RX2 18 (TX2 1).1 (TX2 1).2.1 (TX2 1).2.2.1) 247 (by decide +kernel) (by decide +kernel)
theorem lcX2_22 : Cond.methodLink RX2 22 (xY mJ9_floorMod_7cf53) ∈ xWd := xWd_of (w := Cond.methodLink RX2 22 (xY mJ9_floorMod_7cf53)) 342 (by decide +kernel) (by decide +kernel)
theorem lcX2_28 : Cond.methodLink RX2 28 (xY mX5_takeFrom) ∈ xWd := xWd_of (w := Cond.methodLink RX2 28 (xY mX5_takeFrom)) 345 (by decide +kernel) (by decide +kernel)
theorem lfX2_32 : Cond.fieldLink RX2 32 (TX2 2).1 (TX2 2).2.1 (TX2 2).2.2.1 ∈ xWd := xWd_of (w := Cond.fieldLink RX2 32 (TX2 2).1 (TX2 2).2.1 (TX2 2).2.2.1) 248 (by decide +kernel) (by decide +kernel)
theorem lcX3_3 : Cond.methodLink RX3 3 objectInit ∈ xWd := xWd_of (w := Cond.methodLink RX3 3 objectInit) 147 (by decide +kernel) (by decide +kernel)
theorem lfX3_9 : Cond.fieldLink RX3 9 (TX3 0).1 (TX3 0).2.1 (TX3 0).2.2.1 ∈ xWd := xWd_of (w := Cond.fieldLink RX3 9 (TX3 0).1 (TX3 0).2.1 (TX3 0).2.2.1) 148 (by decide +kernel) (by decide +kernel)
theorem lfX3_15 : Cond.fieldLink RX3 15 (TX3 1).1 (TX3 1).2.1 (TX3 1).2.2.1 ∈ xWd := xWd_of (w := Cond.fieldLink RX3 15 (TX3 1).1 (TX3 1).2.1 (TX3 1).2.2.1) 149 (by decide +kernel) (by decide +kernel)
theorem lcX3_19 : Cond.methodLink RX3 19 (xY mX5_soonest) ∈ xWd := xWd_of (w := Cond.methodLink RX3 19 (xY mX5_soonest)) 385 (by decide +kernel) (by decide +kernel)
theorem lcX3_25 : Cond.methodLink RX3 25 (xY mX5_told) ∈ xWd := xWd_of (w := Cond.methodLink RX3 25 (xY mX5_told)) 390 (by decide +kernel) (by decide +kernel)
theorem lfX3_29 : Cond.fieldLink RX3 29 (TX5 0).1 (TX5 0).2.1 (TX5 0).2.2.1 ∈ xWd := xWd_of (w := Cond.fieldLink RX3 29 (TX5 0).1 (TX5 0).2.1 (TX5 0).2.2.1) 208 (by decide +kernel) (by decide +kernel)
theorem lcX3_33 : Cond.methodLink RX3 33 (xY mX3_bring) ∈ xWd := xWd_of (w := Cond.methodLink RX3 33 (xY mX3_bring)) 391 (by decide +kernel) (by decide +kernel)
theorem lcX3_37 : Cond.methodLink RX3 37 (xY mX5_enterTurn) ∈ xWd := xWd_of (w := Cond.methodLink RX3 37 (xY mX5_enterTurn)) 395 (by decide +kernel) (by decide +kernel)
theorem lcX3_41 : Cond.methodLink RX3 41 (xY mX3_growsHedge) ∈ xWd := xWd_of (w := Cond.methodLink RX3 41 (xY mX3_growsHedge)) 403 (by decide +kernel) (by decide +kernel)
theorem lcX3_45 : Cond.methodLink RX3 45 (xY mX3_edgeOf) ∈ xWd := xWd_of (w := Cond.methodLink RX3 45 (xY mX3_edgeOf)) 411 (by decide +kernel) (by decide +kernel)
theorem lcX3_49 : Cond.methodLink RX3 49 (xY mX5_putOnEdge) ∈ xWd := xWd_of (w := Cond.methodLink RX3 49 (xY mX5_putOnEdge)) 424 (by decide +kernel) (by decide +kernel)
theorem lcX3_53 : Cond.methodLink RX3 53 (xY mX3_makesVoid) ∈ xWd := xWd_of (w := Cond.methodLink RX3 53 (xY mX3_makesVoid)) 428 (by decide +kernel) (by decide +kernel)
theorem lcX3_56 : Cond.methodLink RX3 56 (xY mX5_giveBackFieldsOf) ∈ xWd := xWd_of (w := Cond.methodLink RX3 56 (xY mX5_giveBackFieldsOf)) 437 (by decide +kernel) (by decide +kernel)
theorem lcX3_60 : Cond.methodLink RX3 60 (xY mX3_reasonAgainst) ∈ xWd := xWd_of (w := Cond.methodLink RX3 60 (xY mX3_reasonAgainst)) 441 (by decide +kernel) (by decide +kernel)
theorem lcX3_63 : Cond.methodLink RX3 63 (xY mX3_carryOut) ∈ xWd := xWd_of (w := Cond.methodLink RX3 63 (xY mX3_carryOut)) 476 (by decide +kernel) (by decide +kernel)
theorem lcX3_66 : Cond.methodLink RX3 66 (xY mX5_mark) ∈ xWd := xWd_of (w := Cond.methodLink RX3 66 (xY mX5_mark)) 489 (by decide +kernel) (by decide +kernel)
theorem lcX3_70 : Cond.methodLink RX3 70 (xY mX5_wasDone) ∈ xWd := xWd_of (w := Cond.methodLink RX3 70 (xY mX5_wasDone)) 407 (by decide +kernel) (by decide +kernel)
theorem lcX3_74 : Cond.methodLink RX3 74 (xY mX5_onEdge) ∈ xWd := xWd_of (w := Cond.methodLink RX3 74 (xY mX5_onEdge)) 416 (by decide +kernel) (by decide +kernel)
theorem lnX3_77 : Cond.methodLinkNest RX3 77 (xY mX6_fenceOf) "FenceDuel" ∈ xNw := xNw_of (w := Cond.methodLinkNest RX3 77 (xY mX6_fenceOf) "FenceDuel") 361 (by decide +kernel) rfl
theorem lcX3_80 : Cond.methodLink RX3 80 (xY mX5_takerOf) ∈ xWd := xWd_of (w := Cond.methodLink RX3 80 (xY mX5_takerOf)) 432 (by decide +kernel) (by decide +kernel)
theorem lcX3_83 : Cond.methodLink RX3 83 (xY mX3_reasonAgainstFence) ∈ xWd := xWd_of (w := Cond.methodLink RX3 83 (xY mX3_reasonAgainstFence)) 445 (by decide +kernel) (by decide +kernel)
theorem lcX3_86 : Cond.methodLink RX3 86 (xY mX3_reasonAgainstGap) ∈ xWd := xWd_of (w := Cond.methodLink RX3 86 (xY mX3_reasonAgainstGap)) 449 (by decide +kernel) (by decide +kernel)
theorem lcX3_89 : Cond.methodLink RX3 89 (xY mX4_survey) ∈ xWd := xWd_of (w := Cond.methodLink RX3 89 (xY mX4_survey)) 457 (by decide +kernel) (by decide +kernel)
theorem lcX3_95 : Cond.methodLink RX3 95 (xY mX3_reasonAgainstClaim) ∈ xWd := xWd_of (w := Cond.methodLink RX3 95 (xY mX3_reasonAgainstClaim)) 468 (by decide +kernel) (by decide +kernel)
theorem lcX3_98 : Cond.methodLink RX3 98 (xY mX5_hasTruce) ∈ xWd := xWd_of (w := Cond.methodLink RX3 98 (xY mX5_hasTruce)) 453 (by decide +kernel) (by decide +kernel)
theorem lcX3_102 : Cond.methodLink RX3 102 (xY mX4_sizeAround) ∈ xWd := xWd_of (w := Cond.methodLink RX3 102 (xY mX4_sizeAround)) 472 (by decide +kernel) (by decide +kernel)
theorem lfX3_105 : Cond.fieldLink RX3 105 (TX5 4).1 (TX5 4).2.1 (TX5 4).2.2.1 ∈ xWd := xWd_of (w := Cond.fieldLink RX3 105 (TX5 4).1 (TX5 4).2.1 (TX5 4).2.2.1) 217 (by decide +kernel) (by decide +kernel)
theorem lcX3_109 : Cond.methodLink RX3 109 (xY mX3_takeRegion) ∈ xWd := xWd_of (w := Cond.methodLink RX3 109 (xY mX3_takeRegion)) 480 (by decide +kernel) (by decide +kernel)
theorem lnX3_112 : Cond.methodLinkNest RX3 112 (xY mX6_isPlayer) "FenceDuel" ∈ xNw := xNw_of (w := Cond.methodLinkNest RX3 112 (xY mX6_isPlayer) "FenceDuel") 428 (by decide +kernel) rfl
theorem lfX3_116 : Cond.fieldLink RX3 116 (TX5 5).1 (TX5 5).2.1 (TX5 5).2.2.1 ∈ xWd := xWd_of (w := Cond.fieldLink RX3 116 (TX5 5).1 (TX5 5).2.1 (TX5 5).2.2.1) 219 (by decide +kernel) (by decide +kernel)
theorem lcX3_119 : Cond.methodLink RX3 119 (xY mX4_lowestAround) ∈ xWd := xWd_of (w := Cond.methodLink RX3 119 (xY mX4_lowestAround)) 484 (by decide +kernel) (by decide +kernel)
theorem lfX3_122 : Cond.fieldLink RX3 122 (TX5 7).1 (TX5 7).2.1 (TX5 7).2.2.1 ∈ xWd := xWd_of (w := Cond.fieldLink RX3 122 (TX5 7).1 (TX5 7).2.1 (TX5 7).2.2.1) 225 (by decide +kernel) (by decide +kernel)
theorem lcX3_125 : Cond.methodLink RX3 125 (xY mX1_edgeNumber) ∈ xWd := xWd_of (w := Cond.methodLink RX3 125 (xY mX1_edgeNumber)) 415 (by decide +kernel) (by decide +kernel)
theorem lcX4_3 : Cond.methodLink RX4 3 objectInit ∈ xWd := xWd_of (w := Cond.methodLink RX4 3 objectInit) 122 (by decide +kernel) (by decide +kernel)
theorem lfX4_9 : Cond.fieldLink RX4 9 (TX4 1).1 (TX4 1).2.1 (TX4 1).2.2.1 ∈ xWd := xWd_of (w := Cond.fieldLink RX4 9 (TX4 1).1 (TX4 1).2.1 (TX4 1).2.2.1) 124 (by decide +kernel) (by decide +kernel)
theorem lfX4_15 : Cond.fieldLink RX4 15 (TX4 2).1 (TX4 2).2.1 (TX4 2).2.2.1 ∈ xWd := xWd_of (w := Cond.fieldLink RX4 15 (TX4 2).1 (TX4 2).2.1 (TX4 2).2.2.1) 125 (by decide +kernel) (by decide +kernel)
theorem lfX4_18 : Cond.fieldLink RX4 18 (TX4 3).1 (TX4 3).2.1 (TX4 3).2.2.1 ∈ xWd := xWd_of (w := Cond.fieldLink RX4 18 (TX4 3).1 (TX4 3).2.1 (TX4 3).2.2.1) 126 (by decide +kernel) (by decide +kernel)
theorem lfX4_21 : Cond.fieldLink RX4 21 (TX4 4).1 (TX4 4).2.1 (TX4 4).2.2.1 ∈ xWd := xWd_of (w := Cond.fieldLink RX4 21 (TX4 4).1 (TX4 4).2.1 (TX4 4).2.2.1) 127 (by decide +kernel) (by decide +kernel)
theorem lfX4_24 : Cond.fieldLink RX4 24 (TX4 5).1 (TX4 5).2.1 (TX4 5).2.2.1 ∈ xWd := xWd_of (w := Cond.fieldLink RX4 24 (TX4 5).1 (TX4 5).2.1 (TX4 5).2.2.1) 128 (by decide +kernel) (by decide +kernel)
theorem lfX4_27 : Cond.fieldLink RX4 27 (TX4 0).1 (TX4 0).2.1 (TX4 0).2.2.1 ∈ xWd := xWd_of (w := Cond.fieldLink RX4 27 (TX4 0).1 (TX4 0).2.1 (TX4 0).2.2.1) 123 (by decide +kernel) (by decide +kernel)
theorem lcX4_31 : Cond.methodLink RX4 31 (xY mJ7_fill_53178) ∈ xWd := xWd_of (w := Cond.methodLink RX4 31 (xY mJ7_fill_53178)) 461 (by decide +kernel) (by decide +kernel)
theorem lcX4_37 : Cond.methodLink RX4 37 (xY mX4_spreadFrom) ∈ xWd := xWd_of (w := Cond.methodLink RX4 37 (xY mX4_spreadFrom)) 462 (by decide +kernel) (by decide +kernel)
theorem lnX4_41 : Cond.methodLinkNest RX4 41 (xY mX6_isField) "FenceDuel" ∈ xNw := xNw_of (w := Cond.methodLinkNest RX4 41 (xY mX6_isField) "FenceDuel") 406 (by decide +kernel) rfl
theorem lfX4_45 : Cond.fieldLink RX4 45 (TX5 7).1 (TX5 7).2.1 (TX5 7).2.2.1 ∈ xWd := xWd_of (w := Cond.fieldLink RX4 45 (TX5 7).1 (TX5 7).2.1 (TX5 7).2.2.1) 224 (by decide +kernel) (by decide +kernel)
theorem lfX4_50 : Cond.fieldLink RX4 50 (TX1 1).1 (TX1 1).2.1 (TX1 1).2.2.1 ∈ xWd := xWd_of (w := Cond.fieldLink RX4 50 (TX1 1).1 (TX1 1).2.1 (TX1 1).2.2.1) 102 (by decide +kernel) (by decide +kernel)
theorem lfX4_55 : Cond.fieldLink RX4 55 (TX1 0).1 (TX1 0).2.1 (TX1 0).2.2.1 ∈ xWd := xWd_of (w := Cond.fieldLink RX4 55 (TX1 0).1 (TX1 0).2.1 (TX1 0).2.2.1) 100 (by decide +kernel) (by decide +kernel)
theorem lnX4_58 : Cond.methodLinkNest RX4 58 (xY mX6_isEdge) "FenceDuel" ∈ xNw := xNw_of (w := Cond.methodLinkNest RX4 58 (xY mX6_isEdge) "FenceDuel") 407 (by decide +kernel) rfl
theorem lfX4_61 : Cond.fieldLink RX4 61 (TX5 6).1 (TX5 6).2.1 (TX5 6).2.2.1 ∈ xWd := xWd_of (w := Cond.fieldLink RX4 61 (TX5 6).1 (TX5 6).2.1 (TX5 6).2.2.1) 222 (by decide +kernel) (by decide +kernel)
theorem lfX4_64 : Cond.fieldLink RX4 64 (TX1 3).1 (TX1 3).2.1 (TX1 3).2.2.1 ∈ xWd := xWd_of (w := Cond.fieldLink RX4 64 (TX1 3).1 (TX1 3).2.1 (TX1 3).2.2.1) 106 (by decide +kernel) (by decide +kernel)
theorem lfX4_67 : Cond.fieldLink RX4 67 (TX1 2).1 (TX1 2).2.1 (TX1 2).2.2.1 ∈ xWd := xWd_of (w := Cond.fieldLink RX4 67 (TX1 2).1 (TX1 2).2.1 (TX1 2).2.2.1) 104 (by decide +kernel) (by decide +kernel)
theorem lcX4_70 : Cond.methodLink RX4 70 (xY mX4_relabel) ∈ xWd := xWd_of (w := Cond.methodLink RX4 70 (xY mX4_relabel)) 612 (by decide +kernel) (by decide +kernel)
theorem lcX4_74 : Cond.methodLink RX4 74 (xY mX4_countLabel) ∈ xWd := xWd_of (w := Cond.methodLink RX4 74 (xY mX4_countLabel)) 616 (by decide +kernel) (by decide +kernel)
theorem lcX5_3 : Cond.methodLink RX5 3 objectInit ∈ xWd := xWd_of (w := Cond.methodLink RX5 3 objectInit) 205 (by decide +kernel) (by decide +kernel)
theorem lfX5_9 : Cond.fieldLink RX5 9 (TX5 3).1 (TX5 3).2.1 (TX5 3).2.2.1 ∈ xWd := xWd_of (w := Cond.fieldLink RX5 9 (TX5 3).1 (TX5 3).2.1 (TX5 3).2.2.1) 214 (by decide +kernel) (by decide +kernel)
theorem lfX5_15 : Cond.fieldLink RX5 15 (TX5 4).1 (TX5 4).2.1 (TX5 4).2.2.1 ∈ xWd := xWd_of (w := Cond.fieldLink RX5 15 (TX5 4).1 (TX5 4).2.1 (TX5 4).2.2.1) 215 (by decide +kernel) (by decide +kernel)
theorem lfX5_19 : Cond.fieldLink RX5 19 (TX5 5).1 (TX5 5).2.1 (TX5 5).2.2.1 ∈ xWd := xWd_of (w := Cond.fieldLink RX5 19 (TX5 5).1 (TX5 5).2.1 (TX5 5).2.2.1) 218 (by decide +kernel) (by decide +kernel)
theorem lfX5_22 : Cond.fieldLink RX5 22 (TX5 6).1 (TX5 6).2.1 (TX5 6).2.2.1 ∈ xWd := xWd_of (w := Cond.fieldLink RX5 22 (TX5 6).1 (TX5 6).2.1 (TX5 6).2.2.1) 221 (by decide +kernel) (by decide +kernel)
theorem lfX5_25 : Cond.fieldLink RX5 25 (TX5 7).1 (TX5 7).2.1 (TX5 7).2.2.1 ∈ xWd := xWd_of (w := Cond.fieldLink RX5 25 (TX5 7).1 (TX5 7).2.1 (TX5 7).2.2.1) 223 (by decide +kernel) (by decide +kernel)
theorem lfX5_28 : Cond.fieldLink RX5 28 (TX5 8).1 (TX5 8).2.1 (TX5 8).2.2.1 ∈ xWd := xWd_of (w := Cond.fieldLink RX5 28 (TX5 8).1 (TX5 8).2.1 (TX5 8).2.2.1) 226 (by decide +kernel) (by decide +kernel)
theorem lcX5_31 : Cond.methodLink RX5 31 (xY mJ7_fill_53178) ∈ xWd := xWd_of (w := Cond.methodLink RX5 31 (xY mJ7_fill_53178)) 206 (by decide +kernel) (by decide +kernel)
theorem lfX5_37 : Cond.fieldLink RX5 37 (TX5 0).1 (TX5 0).2.1 (TX5 0).2.2.1 ∈ xWd := xWd_of (w := Cond.fieldLink RX5 37 (TX5 0).1 (TX5 0).2.1 (TX5 0).2.2.1) 207 (by decide +kernel) (by decide +kernel)
theorem lfX5_40 : Cond.fieldLink RX5 40 (TX5 1).1 (TX5 1).2.1 (TX5 1).2.2.1 ∈ xWd := xWd_of (w := Cond.fieldLink RX5 40 (TX5 1).1 (TX5 1).2.1 (TX5 1).2.2.1) 210 (by decide +kernel) (by decide +kernel)
theorem lfX5_43 : Cond.fieldLink RX5 43 (TX5 2).1 (TX5 2).2.1 (TX5 2).2.2.1 ∈ xWd := xWd_of (w := Cond.fieldLink RX5 43 (TX5 2).1 (TX5 2).2.1 (TX5 2).2.2.1) 212 (by decide +kernel) (by decide +kernel)
theorem lcX5_46 : Cond.methodLink RX5 46 arraycopyName ∈ xWd := xWd_of (w := Cond.methodLink RX5 46 arraycopyName) 307 (by decide +kernel) (by decide +kernel)
theorem lcX5_52 : Cond.methodLink RX5 52 (xY mX5_hasLetter) ∈ xWd := xWd_of (w := Cond.methodLink RX5 52 (xY mX5_hasLetter)) 330 (by decide +kernel) (by decide +kernel)
theorem lcX5_56 : Cond.methodLink RX5 56 (xY mX5_mark) ∈ xWd := xWd_of (w := Cond.methodLink RX5 56 (xY mX5_mark)) 326 (by decide +kernel) (by decide +kernel)
theorem lcX5_60 : Cond.methodLink RX5 60 (xY mX5_told) ∈ xWd := xWd_of (w := Cond.methodLink RX5 60 (xY mX5_told)) 389 (by decide +kernel) (by decide +kernel)
theorem lcX5_64 : Cond.methodLink RX5 64 (xY mX5_haveCrossed) ∈ xWd := xWd_of (w := Cond.methodLink RX5 64 (xY mX5_haveCrossed)) 399 (by decide +kernel) (by decide +kernel)
theorem lnX5_68 : Cond.methodLinkNest RX5 68 (xY mX6_isEdge) "FenceDuel" ∈ xNw := xNw_of (w := Cond.methodLinkNest RX5 68 (xY mX6_isEdge) "FenceDuel") 360 (by decide +kernel) rfl
theorem lnX5_71 : Cond.methodLinkNest RX5 71 (xY mX6_isField) "FenceDuel" ∈ xNw := xNw_of (w := Cond.methodLinkNest RX5 71 (xY mX6_isField) "FenceDuel") 376 (by decide +kernel) rfl
theorem lcX5_74 : Cond.methodLink RX5 74 (xY mX5_takerOf) ∈ xWd := xWd_of (w := Cond.methodLink RX5 74 (xY mX5_takerOf)) 593 (by decide +kernel) (by decide +kernel)
theorem lcX5_78 : Cond.methodLink RX5 78 (xY mX5_ownerOf) ∈ xWd := xWd_of (w := Cond.methodLink RX5 78 (xY mX5_ownerOf)) 661 (by decide +kernel) (by decide +kernel)
theorem lcX6_1 : Cond.methodLink RX6 1 objectInit ∈ xWd := xWd_of (w := Cond.methodLink RX6 1 objectInit) 77 (by decide +kernel) (by decide +kernel)
theorem llX6_7 : Cond.classLink RX6 7 RX1 ∈ xWd := xWd_of (w := Cond.classLink RX6 7 RX1) 80 (by decide +kernel) (by decide +kernel)
theorem lcX6_9 : Cond.methodLink RX6 9 (xY mX1_init) ∈ xWd := xWd_of (w := Cond.methodLink RX6 9 (xY mX1_init)) 82 (by decide +kernel) (by decide +kernel)
theorem lfX6_10 : Cond.fieldLink RX6 10 (TX6 0).1 (TX6 0).2.1 (TX6 0).2.2.1 ∈ xWd := xWd_of (w := Cond.fieldLink RX6 10 (TX6 0).1 (TX6 0).2.1 (TX6 0).2.2.1) 259 (by decide +kernel) (by decide +kernel)
theorem llX6_16 : Cond.classLink RX6 16 RX4 ∈ xWd := xWd_of (w := Cond.classLink RX6 16 RX4) 117 (by decide +kernel) (by decide +kernel)
theorem lcX6_18 : Cond.methodLink RX6 18 (xY mX4_init) ∈ xWd := xWd_of (w := Cond.methodLink RX6 18 (xY mX4_init)) 119 (by decide +kernel) (by decide +kernel)
theorem lfX6_21 : Cond.fieldLink RX6 21 (TX6 1).1 (TX6 1).2.1 (TX6 1).2.2.1 ∈ xWd := xWd_of (w := Cond.fieldLink RX6 21 (TX6 1).1 (TX6 1).2.1 (TX6 1).2.2.1) 260 (by decide +kernel) (by decide +kernel)
theorem llX6_25 : Cond.classLink RX6 25 RX3 ∈ xWd := xWd_of (w := Cond.classLink RX6 25 RX3) 142 (by decide +kernel) (by decide +kernel)
theorem lcX6_27 : Cond.methodLink RX6 27 (xY mX3_init) ∈ xWd := xWd_of (w := Cond.methodLink RX6 27 (xY mX3_init)) 144 (by decide +kernel) (by decide +kernel)
theorem lfX6_30 : Cond.fieldLink RX6 30 (TX6 2).1 (TX6 2).2.1 (TX6 2).2.2.1 ∈ xWd := xWd_of (w := Cond.fieldLink RX6 30 (TX6 2).1 (TX6 2).2.1 (TX6 2).2.2.1) 261 (by decide +kernel) (by decide +kernel)
theorem llX6_34 : Cond.classLink RX6 34 RX0 ∈ xWd := xWd_of (w := Cond.classLink RX6 34 RX0) 155 (by decide +kernel) (by decide +kernel)
theorem lnX6_36 : Cond.methodLinkNest RX6 36 (xY mX0_init) "FenceDuel" ∈ xNw := xNw_of (w := Cond.methodLinkNest RX6 36 (xY mX0_init) "FenceDuel") 97 (by decide +kernel) rfl
theorem lfX6_37 : Cond.fieldLink RX6 37 (TX6 3).1 (TX6 3).2.1 (TX6 3).2.2.1 ∈ xWd := xWd_of (w := Cond.fieldLink RX6 37 (TX6 3).1 (TX6 3).2.1 (TX6 3).2.2.1) 262 (by decide +kernel) (by decide +kernel)
theorem llX6_41 : Cond.classLink RX6 41 RX2 ∈ xWd := xWd_of (w := Cond.classLink RX6 41 RX2) 193 (by decide +kernel) (by decide +kernel)
theorem lnX6_43 : Cond.methodLinkNest RX6 43 (xY mX2_init) "FenceDuel" ∈ xNw := xNw_of (w := Cond.methodLinkNest RX6 43 (xY mX2_init) "FenceDuel") 135 (by decide +kernel) rfl
theorem lfX6_44 : Cond.fieldLink RX6 44 (TX6 4).1 (TX6 4).2.1 (TX6 4).2.2.1 ∈ xWd := xWd_of (w := Cond.fieldLink RX6 44 (TX6 4).1 (TX6 4).2.1 (TX6 4).2.2.1) 263 (by decide +kernel) (by decide +kernel)
theorem llX6_48 : Cond.classLink RX6 48 RX5 ∈ xWd := xWd_of (w := Cond.classLink RX6 48 RX5) 257 (by decide +kernel) (by decide +kernel)
theorem lcX6_50 : Cond.methodLink RX6 50 (xY mX5_init) ∈ xWd := xWd_of (w := Cond.methodLink RX6 50 (xY mX5_init)) 258 (by decide +kernel) (by decide +kernel)
theorem lfX6_51 : Cond.fieldLink RX6 51 (TX6 5).1 (TX6 5).2.1 (TX6 5).2.2.1 ∈ xWd := xWd_of (w := Cond.fieldLink RX6 51 (TX6 5).1 (TX6 5).2.1 (TX6 5).2.2.1) 264 (by decide +kernel) (by decide +kernel)
theorem lfX6_55 : Cond.fieldLink RX6 55 (TX6 6).1 (TX6 6).2.1 (TX6 6).2.2.1 ∈ xWd := xWd_of (w := Cond.fieldLink RX6 55 (TX6 6).1 (TX6 6).2.1 (TX6 6).2.2.1) 265 (by decide +kernel) (by decide +kernel)
theorem lfX6_58 : Cond.fieldLink RX6 58 (TX6 7).1 (TX6 7).2.1 (TX6 7).2.2.1 ∈ xWd := xWd_of (w := Cond.fieldLink RX6 58 (TX6 7).1 (TX6 7).2.1 (TX6 7).2.2.1) 266 (by decide +kernel) (by decide +kernel)
theorem lfX6_61 : Cond.fieldLink RX6 61 (TX6 8).1 (TX6 8).2.1 (TX6 8).2.2.1 ∈ xWd := xWd_of (w := Cond.fieldLink RX6 61 (TX6 8).1 (TX6 8).2.1 (TX6 8).2.2.1) 267 (by decide +kernel) (by decide +kernel)
theorem lcX6_64 : Cond.methodLink RX6 64 (xY mX5_takeFrom) ∈ xWd := xWd_of (w := Cond.methodLink RX6 64 (xY mX5_takeFrom)) 303 (by decide +kernel) (by decide +kernel)
theorem lcX6_68 : Cond.methodLink RX6 68 (xY mX6_addEdgeLetter) ∈ xWd := xWd_of (w := Cond.methodLink RX6 68 (xY mX6_addEdgeLetter)) 310 (by decide +kernel) (by decide +kernel)
theorem lcX6_72 : Cond.methodLink RX6 72 (xY mX6_recordUnlessError) ∈ xWd := xWd_of (w := Cond.methodLink RX6 72 (xY mX6_recordUnlessError)) 334 (by decide +kernel) (by decide +kernel)
theorem lcX6_76 : Cond.methodLink RX6 76 (xY mX6_addClaim) ∈ xWd := xWd_of (w := Cond.methodLink RX6 76 (xY mX6_addClaim)) 350 (by decide +kernel) (by decide +kernel)
theorem lcX6_80 : Cond.methodLink RX6 80 (xY mX6_addTruce) ∈ xWd := xWd_of (w := Cond.methodLink RX6 80 (xY mX6_addTruce)) 359 (by decide +kernel) (by decide +kernel)
theorem lcX6_83 : Cond.methodLink RX6 83 (xY mX5_hasLetter) ∈ xWd := xWd_of (w := Cond.methodLink RX6 83 (xY mX5_hasLetter)) 367 (by decide +kernel) (by decide +kernel)
theorem lcX6_87 : Cond.methodLink RX6 87 (xY mX5_told) ∈ xWd := xWd_of (w := Cond.methodLink RX6 87 (xY mX5_told)) 368 (by decide +kernel) (by decide +kernel)
theorem lcX6_90 : Cond.methodLink RX6 90 (xY mX2_add) ∈ xWd := xWd_of (w := Cond.methodLink RX6 90 (xY mX2_add)) 338 (by decide +kernel) (by decide +kernel)
theorem lcX6_93 : Cond.methodLink RX6 93 (xY mX5_mark) ∈ xWd := xWd_of (w := Cond.methodLink RX6 93 (xY mX5_mark)) 372 (by decide +kernel) (by decide +kernel)
theorem lfX6_97 : Cond.fieldLink RX6 97 (TX5 0).1 (TX5 0).2.1 (TX5 0).2.2.1 ∈ xWd := xWd_of (w := Cond.fieldLink RX6 97 (TX5 0).1 (TX5 0).2.1 (TX5 0).2.2.1) 209 (by decide +kernel) (by decide +kernel)
theorem lcX6_101 : Cond.methodLink RX6 101 (xY mX6_letDaysPass) ∈ xWd := xWd_of (w := Cond.methodLink RX6 101 (xY mX6_letDaysPass)) 377 (by decide +kernel) (by decide +kernel)
theorem lfX6_104 : Cond.fieldLink RX6 104 (TX5 4).1 (TX5 4).2.1 (TX5 4).2.2.1 ∈ xWd := xWd_of (w := Cond.fieldLink RX6 104 (TX5 4).1 (TX5 4).2.1 (TX5 4).2.2.1) 216 (by decide +kernel) (by decide +kernel)
theorem lcX6_108 : Cond.methodLink RX6 108 (xY mX0_append) ∈ xWd := xWd_of (w := Cond.methodLink RX6 108 (xY mX0_append)) 498 (by decide +kernel) (by decide +kernel)
theorem lcX6_112 : Cond.methodLink RX6 112 (xY mX0_empty) ∈ xWd := xWd_of (w := Cond.methodLink RX6 112 (xY mX0_empty)) 506 (by decide +kernel) (by decide +kernel)
theorem lcX6_116 : Cond.methodLink RX6 116 (xY mX0_findFault) ∈ xWd := xWd_of (w := Cond.methodLink RX6 116 (xY mX0_findFault)) 514 (by decide +kernel) (by decide +kernel)
theorem lfX6_119 : Cond.fieldLink RX6 119 (TX0 3).1 (TX0 3).2.1 (TX0 3).2.2.1 ∈ xWd := xWd_of (w := Cond.fieldLink RX6 119 (TX0 3).1 (TX0 3).2.1 (TX0 3).2.2.1) 166 (by decide +kernel) (by decide +kernel)
theorem lfX6_122 : Cond.fieldLink RX6 122 (TX0 4).1 (TX0 4).2.1 (TX0 4).2.2.1 ∈ xWd := xWd_of (w := Cond.fieldLink RX6 122 (TX0 4).1 (TX0 4).2.1 (TX0 4).2.2.1) 168 (by decide +kernel) (by decide +kernel)
theorem lcX6_125 : Cond.methodLink RX6 125 (xY mX0_part) ∈ xWd := xWd_of (w := Cond.methodLink RX6 125 (xY mX0_part)) 551 (by decide +kernel) (by decide +kernel)
theorem lfX6_129 : Cond.fieldLink RX6 129 (TX0 6).1 (TX0 6).2.1 (TX0 6).2.2.1 ∈ xWd := xWd_of (w := Cond.fieldLink RX6 129 (TX0 6).1 (TX0 6).2.1 (TX0 6).2.2.1) 172 (by decide +kernel) (by decide +kernel)
theorem lcX6_132 : Cond.methodLink RX6 132 (xY mX6_addLetterOfGame) ∈ xWd := xWd_of (w := Cond.methodLink RX6 132 (xY mX6_addLetterOfGame)) 555 (by decide +kernel) (by decide +kernel)
theorem lfX6_135 : Cond.fieldLink RX6 135 (TX6 10).1 (TX6 10).2.1 (TX6 10).2.2.1 ∈ xWd := xWd_of (w := Cond.fieldLink RX6 135 (TX6 10).1 (TX6 10).2.1 (TX6 10).2.2.1) 269 (by decide +kernel) (by decide +kernel)
theorem lfX6_139 : Cond.fieldLink RX6 139 (TX6 11).1 (TX6 11).2.1 (TX6 11).2.2.1 ∈ xWd := xWd_of (w := Cond.fieldLink RX6 139 (TX6 11).1 (TX6 11).2.1 (TX6 11).2.2.1) 270 (by decide +kernel) (by decide +kernel)
theorem lfX6_142 : Cond.fieldLink RX6 142 (TX6 12).1 (TX6 12).2.1 (TX6 12).2.2.1 ∈ xWd := xWd_of (w := Cond.fieldLink RX6 142 (TX6 12).1 (TX6 12).2.1 (TX6 12).2.2.1) 271 (by decide +kernel) (by decide +kernel)
theorem lcX6_145 : Cond.methodLink RX6 145 (xY mX2_takeBack) ∈ xWd := xWd_of (w := Cond.methodLink RX6 145 (xY mX2_takeBack)) 567 (by decide +kernel) (by decide +kernel)
theorem lfX6_149 : Cond.fieldLink RX6 149 (TX6 9).1 (TX6 9).2.1 (TX6 9).2.2.1 ∈ xWd := xWd_of (w := Cond.fieldLink RX6 149 (TX6 9).1 (TX6 9).2.1 (TX6 9).2.2.1) 268 (by decide +kernel) (by decide +kernel)
theorem lcX6_152 : Cond.methodLink RX6 152 (xY mX1_edgeNumber) ∈ xWd := xWd_of (w := Cond.methodLink RX6 152 (xY mX1_edgeNumber)) 317 (by decide +kernel) (by decide +kernel)
theorem lcX6_155 : Cond.methodLink RX6 155 (xY mX6_isEdge) ∈ xWd := xWd_of (w := Cond.methodLink RX6 155 (xY mX6_isEdge)) 321 (by decide +kernel) (by decide +kernel)
theorem lcX6_158 : Cond.methodLink RX6 158 (xY mX5_onEdge) ∈ xWd := xWd_of (w := Cond.methodLink RX6 158 (xY mX5_onEdge)) 583 (by decide +kernel) (by decide +kernel)
theorem lcX6_161 : Cond.methodLink RX6 161 (xY mX6_isField) ∈ xWd := xWd_of (w := Cond.methodLink RX6 161 (xY mX6_isField)) 354 (by decide +kernel) (by decide +kernel)
theorem lcX6_164 : Cond.methodLink RX6 164 (xY mX4_survey) ∈ xWd := xWd_of (w := Cond.methodLink RX6 164 (xY mX4_survey)) 588 (by decide +kernel) (by decide +kernel)
theorem lcX6_167 : Cond.methodLink RX6 167 (xY mX5_ownerOf) ∈ xWd := xWd_of (w := Cond.methodLink RX6 167 (xY mX5_ownerOf)) 589 (by decide +kernel) (by decide +kernel)
theorem lcX6_170 : Cond.methodLink RX6 170 (xY mX4_sizeAround) ∈ xWd := xWd_of (w := Cond.methodLink RX6 170 (xY mX4_sizeAround)) 594 (by decide +kernel) (by decide +kernel)
theorem lcX6_173 : Cond.methodLink RX6 173 (xY mX4_freeAround) ∈ xWd := xWd_of (w := Cond.methodLink RX6 173 (xY mX4_freeAround)) 595 (by decide +kernel) (by decide +kernel)
theorem lcX6_176 : Cond.methodLink RX6 176 (xY mX4_lowestAround) ∈ xWd := xWd_of (w := Cond.methodLink RX6 176 (xY mX4_lowestAround)) 599 (by decide +kernel) (by decide +kernel)
theorem lcX6_179 : Cond.methodLink RX6 179 (xY mX6_edgesWithSomething) ∈ xWd := xWd_of (w := Cond.methodLink RX6 179 (xY mX6_edgesWithSomething)) 600 (by decide +kernel) (by decide +kernel)
theorem lcX6_182 : Cond.methodLink RX6 182 (xY mX4_sizeByJoining) ∈ xWd := xWd_of (w := Cond.methodLink RX6 182 (xY mX4_sizeByJoining)) 608 (by decide +kernel) (by decide +kernel)
theorem lcX6_186 : Cond.methodLink RX6 186 (xY mX5_haveCrossed) ∈ xWd := xWd_of (w := Cond.methodLink RX6 186 (xY mX5_haveCrossed)) 628 (by decide +kernel) (by decide +kernel)
theorem lcX6_190 : Cond.methodLink RX6 190 (xY mX3_reasonAgainstGap) ∈ xWd := xWd_of (w := Cond.methodLink RX6 190 (xY mX3_reasonAgainstGap)) 633 (by decide +kernel) (by decide +kernel)
theorem lcX6_193 : Cond.methodLink RX6 193 (xY mX3_reasonAgainstFence) ∈ xWd := xWd_of (w := Cond.methodLink RX6 193 (xY mX3_reasonAgainstFence)) 634 (by decide +kernel) (by decide +kernel)
theorem lcX6_196 : Cond.methodLink RX6 196 (xY mX3_reasonAgainstClaim) ∈ xWd := xWd_of (w := Cond.methodLink RX6 196 (xY mX3_reasonAgainstClaim)) 639 (by decide +kernel) (by decide +kernel)
theorem lcX6_199 : Cond.methodLink RX6 199 (xY mX5_soonest) ∈ xWd := xWd_of (w := Cond.methodLink RX6 199 (xY mX5_soonest)) 644 (by decide +kernel) (by decide +kernel)
theorem lcX6_202 : Cond.methodLink RX6 202 (xY mX3_deliver) ∈ xWd := xWd_of (w := Cond.methodLink RX6 202 (xY mX3_deliver)) 381 (by decide +kernel) (by decide +kernel)
theorem lcX6_205 : Cond.methodLink RX6 205 (xY mX5_edgesWith) ∈ xWd := xWd_of (w := Cond.methodLink RX6 205 (xY mX5_edgesWith)) 649 (by decide +kernel) (by decide +kernel)
theorem lcX6_208 : Cond.methodLink RX6 208 (xY mX5_lettersThatAre) ∈ xWd := xWd_of (w := Cond.methodLink RX6 208 (xY mX5_lettersThatAre)) 653 (by decide +kernel) (by decide +kernel)
theorem lcX6_211 : Cond.methodLink RX6 211 (xY mX5_fieldsOf) ∈ xWd := xWd_of (w := Cond.methodLink RX6 211 (xY mX5_fieldsOf)) 657 (by decide +kernel) (by decide +kernel)
theorem lfX6_214 : Cond.fieldLink RX6 214 (TX5 1).1 (TX5 1).2.1 (TX5 1).2.2.1 ∈ xWd := xWd_of (w := Cond.fieldLink RX6 214 (TX5 1).1 (TX5 1).2.1 (TX5 1).2.2.1) 211 (by decide +kernel) (by decide +kernel)
theorem lfX6_217 : Cond.fieldLink RX6 217 (TX5 2).1 (TX5 2).2.1 (TX5 2).2.2.1 ∈ xWd := xWd_of (w := Cond.fieldLink RX6 217 (TX5 2).1 (TX5 2).2.1 (TX5 2).2.2.1) 213 (by decide +kernel) (by decide +kernel)
theorem lcX6_220 : Cond.methodLink RX6 220 (xY mX5_turnsOfTwo) ∈ xWd := xWd_of (w := Cond.methodLink RX6 220 (xY mX5_turnsOfTwo)) 670 (by decide +kernel) (by decide +kernel)
theorem lcX6_223 : Cond.methodLink RX6 223 (xY mX6_fenceOf) ∈ xWd := xWd_of (w := Cond.methodLink RX6 223 (xY mX6_fenceOf)) 674 (by decide +kernel) (by decide +kernel)
theorem lcX6_226 : Cond.methodLink RX6 226 (xY mX5_hasTruce) ∈ xWd := xWd_of (w := Cond.methodLink RX6 226 (xY mX5_hasTruce)) 675 (by decide +kernel) (by decide +kernel)
theorem lfX6_230 : Cond.fieldLink RX6 230 (TX5 5).1 (TX5 5).2.1 (TX5 5).2.2.1 ∈ xWd := xWd_of (w := Cond.fieldLink RX6 230 (TX5 5).1 (TX5 5).2.1 (TX5 5).2.2.1) 220 (by decide +kernel) (by decide +kernel)
theorem lfX6_233 : Cond.fieldLink RX6 233 (TX2 2).1 (TX2 2).2.1 (TX2 2).2.2.1 ∈ xWd := xWd_of (w := Cond.fieldLink RX6 233 (TX2 2).1 (TX2 2).2.1 (TX2 2).2.2.1) 249 (by decide +kernel) (by decide +kernel)
theorem lfX6_236 : Cond.fieldLink RX6 236 (TX0 1).1 (TX0 1).2.1 (TX0 1).2.2.1 ∈ xWd := xWd_of (w := Cond.fieldLink RX6 236 (TX0 1).1 (TX0 1).2.1 (TX0 1).2.2.1) 163 (by decide +kernel) (by decide +kernel)
theorem lcX6_239 : Cond.methodLink RX6 239 (xY mX6_isPlayer) ∈ xWd := xWd_of (w := Cond.methodLink RX6 239 (xY mX6_isPlayer)) 314 (by decide +kernel) (by decide +kernel)
theorem lcX6_242 : Cond.methodLink RX6 242 (xY mX5_addLetter) ∈ xWd := xWd_of (w := Cond.methodLink RX6 242 (xY mX5_addLetter)) 322 (by decide +kernel) (by decide +kernel)
theorem lfX6_245 : Cond.fieldLink RX6 245 (TX0 5).1 (TX0 5).2.1 (TX0 5).2.2.1 ∈ xWd := xWd_of (w := Cond.fieldLink RX6 245 (TX0 5).1 (TX0 5).2.1 (TX0 5).2.2.1) 170 (by decide +kernel) (by decide +kernel)
theorem lfX6_248 : Cond.fieldLink RX6 248 (TX0 7).1 (TX0 7).2.1 (TX0 7).2.2.1 ∈ xWd := xWd_of (w := Cond.fieldLink RX6 248 (TX0 7).1 (TX0 7).2.1 (TX0 7).2.2.1) 174 (by decide +kernel) (by decide +kernel)
theorem lcX7_1 : Cond.methodLink RX7 1 objectInit ∈ xWd := xWd_of (w := Cond.methodLink RX7 1 objectInit) 681 (by decide +kernel) (by decide +kernel)
theorem lfX7_7 : Cond.fieldLink RX7 7 (TX7 0).1 (TX7 0).2.1 (TX7 0).2.2.1 ∈ xWd := xWd_of (w := Cond.fieldLink RX7 7 (TX7 0).1 (TX7 0).2.1 (TX7 0).2.2.1) 682 (by decide +kernel) (by decide +kernel)
theorem lfX7_13 : Cond.fieldLink RX7 13 (TX7 1).1 (TX7 1).2.1 (TX7 1).2.2.1 ∈ xWd := xWd_of (w := Cond.fieldLink RX7 13 (TX7 1).1 (TX7 1).2.1 (TX7 1).2.2.1) 683 (by decide +kernel) (by decide +kernel)
theorem lfX7_16 : Cond.fieldLink RX7 16 (TX7 2).1 (TX7 2).2.1 (TX7 2).2.2.1 ∈ xWd := xWd_of (w := Cond.fieldLink RX7 16 (TX7 2).1 (TX7 2).2.1 (TX7 2).2.2.1) 684 (by decide +kernel) (by decide +kernel)
theorem lfX7_19 : Cond.fieldLink RX7 19 (TX7 3).1 (TX7 3).2.1 (TX7 3).2.2.1 ∈ xWd := xWd_of (w := Cond.fieldLink RX7 19 (TX7 3).1 (TX7 3).2.1 (TX7 3).2.2.1) 685 (by decide +kernel) (by decide +kernel)
theorem lfX7_22 : Cond.fieldLink RX7 22 (TX7 5).1 (TX7 5).2.1 (TX7 5).2.2.1 ∈ xWd := xWd_of (w := Cond.fieldLink RX7 22 (TX7 5).1 (TX7 5).2.1 (TX7 5).2.2.1) 687 (by decide +kernel) (by decide +kernel)
theorem lfX7_25 : Cond.fieldLink RX7 25 (TX7 7).1 (TX7 7).2.1 (TX7 7).2.2.1 ∈ xWd := xWd_of (w := Cond.fieldLink RX7 25 (TX7 7).1 (TX7 7).2.1 (TX7 7).2.2.1) 689 (by decide +kernel) (by decide +kernel)
theorem lfX7_28 : Cond.fieldLink RX7 28 (TX7 9).1 (TX7 9).2.1 (TX7 9).2.2.1 ∈ xWd := xWd_of (w := Cond.fieldLink RX7 28 (TX7 9).1 (TX7 9).2.1 (TX7 9).2.2.1) 691 (by decide +kernel) (by decide +kernel)
theorem lfX7_32 : Cond.fieldLink RX7 32 (TX7 10).1 (TX7 10).2.1 (TX7 10).2.2.1 ∈ xWd := xWd_of (w := Cond.fieldLink RX7 32 (TX7 10).1 (TX7 10).2.1 (TX7 10).2.2.1) 692 (by decide +kernel) (by decide +kernel)
theorem lfX7_35 : Cond.fieldLink RX7 35 (TX7 11).1 (TX7 11).2.1 (TX7 11).2.2.1 ∈ xWd := xWd_of (w := Cond.fieldLink RX7 35 (TX7 11).1 (TX7 11).2.1 (TX7 11).2.2.1) 693 (by decide +kernel) (by decide +kernel)
theorem lcX7_39 : Cond.methodLink RX7 39 (xY mX7_in) ∈ xWd := xWd_of (w := Cond.methodLink RX7 39 (xY mX7_in)) 756 (by decide +kernel) (by decide +kernel)
theorem lcX7_43 : Cond.methodLink RX7 43 (xY mX7_at) ∈ xWd := xWd_of (w := Cond.methodLink RX7 43 (xY mX7_at)) 765 (by decide +kernel) (by decide +kernel)
theorem lfX7_47 : Cond.fieldLink RX7 47 (TX7 6).1 (TX7 6).2.1 (TX7 6).2.2.1 ∈ xWd := xWd_of (w := Cond.fieldLink RX7 47 (TX7 6).1 (TX7 6).2.1 (TX7 6).2.2.1) 688 (by decide +kernel) (by decide +kernel)
theorem lcX7_50 : Cond.methodLink RX7 50 (xY mX7_isField) ∈ xWd := xWd_of (w := Cond.methodLink RX7 50 (xY mX7_isField)) 759 (by decide +kernel) (by decide +kernel)
theorem lcX7_54 : Cond.methodLink RX7 54 (xY mX7_oneOf) ∈ xWd := xWd_of (w := Cond.methodLink RX7 54 (xY mX7_oneOf)) 852 (by decide +kernel) (by decide +kernel)
theorem lcX7_58 : Cond.methodLink RX7 58 (xY mX7_otherOf) ∈ xWd := xWd_of (w := Cond.methodLink RX7 58 (xY mX7_otherOf)) 855 (by decide +kernel) (by decide +kernel)
theorem lcX7_61 : Cond.methodLink RX7 61 (xY mX7_mark) ∈ xWd := xWd_of (w := Cond.methodLink RX7 61 (xY mX7_mark)) 848 (by decide +kernel) (by decide +kernel)
theorem lcX7_64 : Cond.methodLink RX7 64 (xY mX7_isTruce) ∈ xWd := xWd_of (w := Cond.methodLink RX7 64 (xY mX7_isTruce)) 840 (by decide +kernel) (by decide +kernel)
theorem lcX7_68 : Cond.methodLink RX7 68 (xY mX7_of) ∈ xWd := xWd_of (w := Cond.methodLink RX7 68 (xY mX7_of)) 792 (by decide +kernel) (by decide +kernel)
theorem lcX7_71 : Cond.methodLink RX7 71 (xY mX7_edgeAt) ∈ xWd := xWd_of (w := Cond.methodLink RX7 71 (xY mX7_edgeAt)) 762 (by decide +kernel) (by decide +kernel)
theorem lcX7_74 : Cond.methodLink RX7 74 (xY mX7_edgeOf) ∈ xWd := xWd_of (w := Cond.methodLink RX7 74 (xY mX7_edgeOf)) 820 (by decide +kernel) (by decide +kernel)
theorem lcX7_77 : Cond.methodLink RX7 77 (xY mX7_whyEdge) ∈ xWd := xWd_of (w := Cond.methodLink RX7 77 (xY mX7_whyEdge)) 836 (by decide +kernel) (by decide +kernel)
theorem lcX7_81 : Cond.methodLink RX7 81 (xY mX7_whyClaim) ∈ xWd := xWd_of (w := Cond.methodLink RX7 81 (xY mX7_whyClaim)) 844 (by decide +kernel) (by decide +kernel)
theorem lcX7_84 : Cond.methodLink RX7 84 (xY mX7_isTaken) ∈ xWd := xWd_of (w := Cond.methodLink RX7 84 (xY mX7_isTaken)) 824 (by decide +kernel) (by decide +kernel)
theorem lcX7_87 : Cond.methodLink RX7 87 (xY mX7_isSecond) ∈ xWd := xWd_of (w := Cond.methodLink RX7 87 (xY mX7_isSecond)) 812 (by decide +kernel) (by decide +kernel)
theorem lcX7_90 : Cond.methodLink RX7 90 (xY mX7_doesSecond) ∈ xWd := xWd_of (w := Cond.methodLink RX7 90 (xY mX7_doesSecond)) 816 (by decide +kernel) (by decide +kernel)
theorem lcX7_93 : Cond.methodLink RX7 93 (xY mX7_forgetsTaken) ∈ xWd := xWd_of (w := Cond.methodLink RX7 93 (xY mX7_forgetsTaken)) 828 (by decide +kernel) (by decide +kernel)
theorem lcX7_96 : Cond.methodLink RX7 96 (xY mX7_does) ∈ xWd := xWd_of (w := Cond.methodLink RX7 96 (xY mX7_does)) 832 (by decide +kernel) (by decide +kernel)
theorem lcX7_99 : Cond.methodLink RX7 99 (xY mX7_comes) ∈ xWd := xWd_of (w := Cond.methodLink RX7 99 (xY mX7_comes)) 808 (by decide +kernel) (by decide +kernel)
theorem lcX7_103 : Cond.methodLink RX7 103 (xY mX7_day) ∈ xWd := xWd_of (w := Cond.methodLink RX7 103 (xY mX7_day)) 804 (by decide +kernel) (by decide +kernel)
theorem lcX7_107 : Cond.methodLink RX7 107 (xY mX7_isPlayer) ∈ xWd := xWd_of (w := Cond.methodLink RX7 107 (xY mX7_isPlayer)) 753 (by decide +kernel) (by decide +kernel)
theorem lcX7_110 : Cond.methodLink RX7 110 (xY mX7_records) ∈ xWd := xWd_of (w := Cond.methodLink RX7 110 (xY mX7_records)) 772 (by decide +kernel) (by decide +kernel)
theorem lcX7_113 : Cond.methodLink RX7 113 (xY mX7_looks) ∈ xWd := xWd_of (w := Cond.methodLink RX7 113 (xY mX7_looks)) 745 (by decide +kernel) (by decide +kernel)
theorem lcX7_116 : Cond.methodLink RX7 116 (xY mX7_writes) ∈ xWd := xWd_of (w := Cond.methodLink RX7 116 (xY mX7_writes)) 749 (by decide +kernel) (by decide +kernel)
theorem lcX7_120 : Cond.methodLink RX7 120 (xY mX7_acted) ∈ xWd := xWd_of (w := Cond.methodLink RX7 120 (xY mX7_acted)) 768 (by decide +kernel) (by decide +kernel)
theorem lcX7_123 : Cond.methodLink RX7 123 (xY mX7_isLetter) ∈ xWd := xWd_of (w := Cond.methodLink RX7 123 (xY mX7_isLetter)) 788 (by decide +kernel) (by decide +kernel)
theorem lcX7_126 : Cond.methodLink RX7 126 (xY mX7_passes) ∈ xWd := xWd_of (w := Cond.methodLink RX7 126 (xY mX7_passes)) 800 (by decide +kernel) (by decide +kernel)
theorem lfX7_129 : Cond.fieldLink RX7 129 (TX7 8).1 (TX7 8).2.1 (TX7 8).2.2.1 ∈ xWd := xWd_of (w := Cond.fieldLink RX7 129 (TX7 8).1 (TX7 8).2.1 (TX7 8).2.2.1) 690 (by decide +kernel) (by decide +kernel)
theorem lfX7_132 : Cond.fieldLink RX7 132 (TX7 13).1 (TX7 13).2.1 (TX7 13).2.2.1 ∈ xWd := xWd_of (w := Cond.fieldLink RX7 132 (TX7 13).1 (TX7 13).2.1 (TX7 13).2.2.1) 695 (by decide +kernel) (by decide +kernel)
theorem lfX7_136 : Cond.fieldLink RX7 136 (TX7 12).1 (TX7 12).2.1 (TX7 12).2.2.1 ∈ xWd := xWd_of (w := Cond.fieldLink RX7 136 (TX7 12).1 (TX7 12).2.1 (TX7 12).2.2.1) 694 (by decide +kernel) (by decide +kernel)
theorem lcX7_139 : Cond.methodLink RX7 139 (xY mX7_takes) ∈ xWd := xWd_of (w := Cond.methodLink RX7 139 (xY mX7_takes)) 886 (by decide +kernel) (by decide +kernel)
theorem lcX7_142 : Cond.methodLink RX7 142 (xY mX7_isNext) ∈ xWd := xWd_of (w := Cond.methodLink RX7 142 (xY mX7_isNext)) 882 (by decide +kernel) (by decide +kernel)
theorem lfX7_146 : Cond.fieldLink RX7 146 (TX7 14).1 (TX7 14).2.1 (TX7 14).2.2.1 ∈ xWd := xWd_of (w := Cond.fieldLink RX7 146 (TX7 14).1 (TX7 14).2.1 (TX7 14).2.2.1) 696 (by decide +kernel) (by decide +kernel)
theorem lcX7_149 : Cond.methodLink RX7 149 (xY mX7_takesNumber) ∈ xWd := xWd_of (w := Cond.methodLink RX7 149 (xY mX7_takesNumber)) 890 (by decide +kernel) (by decide +kernel)
theorem lfX7_152 : Cond.fieldLink RX7 152 (TX7 17).1 (TX7 17).2.1 (TX7 17).2.2.1 ∈ xWd := xWd_of (w := Cond.fieldLink RX7 152 (TX7 17).1 (TX7 17).2.1 (TX7 17).2.2.1) 699 (by decide +kernel) (by decide +kernel)
theorem ldX7_155 : Cond.constant RX7 155 (1952671590 : Int32) ∈ xWd := xWd_of (w := Cond.constant RX7 155 (1952671590 : Int32)) 894 (by decide +kernel) (by decide +kernel)
theorem lcX7_156 : Cond.methodLink RX7 156 (xY mX7_takesSign) ∈ xWd := xWd_of (w := Cond.methodLink RX7 156 (xY mX7_takesSign)) 895 (by decide +kernel) (by decide +kernel)
theorem lfX7_159 : Cond.fieldLink RX7 159 (TX7 15).1 (TX7 15).2.1 (TX7 15).2.2.1 ∈ xWd := xWd_of (w := Cond.fieldLink RX7 159 (TX7 15).1 (TX7 15).2.1 (TX7 15).2.2.1) 697 (by decide +kernel) (by decide +kernel)
theorem lfX7_162 : Cond.fieldLink RX7 162 (TX7 16).1 (TX7 16).2.1 (TX7 16).2.2.1 ∈ xWd := xWd_of (w := Cond.fieldLink RX7 162 (TX7 16).1 (TX7 16).2.1 (TX7 16).2.2.1) 698 (by decide +kernel) (by decide +kernel)
theorem ldX7_165 : Cond.constant RX7 165 (2004051310 : Int32) ∈ xWd := xWd_of (w := Cond.constant RX7 165 (2004051310 : Int32)) 899 (by decide +kernel) (by decide +kernel)
theorem lfX7_166 : Cond.fieldLink RX7 166 (TX7 18).1 (TX7 18).2.1 (TX7 18).2.2.1 ∈ xWd := xWd_of (w := Cond.fieldLink RX7 166 (TX7 18).1 (TX7 18).2.1 (TX7 18).2.2.1) 700 (by decide +kernel) (by decide +kernel)
theorem lcX7_169 : Cond.methodLink RX7 169 (xY mX7_readThing) ∈ xWd := xWd_of (w := Cond.methodLink RX7 169 (xY mX7_readThing)) 878 (by decide +kernel) (by decide +kernel)
theorem lcX7_172 : Cond.methodLink RX7 172 (xY mX7_runs) ∈ xWd := xWd_of (w := Cond.methodLink RX7 172 (xY mX7_runs)) 874 (by decide +kernel) (by decide +kernel)
theorem lfX7_176 : Cond.fieldLink RX7 176 (TX7 4).1 (TX7 4).2.1 (TX7 4).2.2.1 ∈ xWd := xWd_of (w := Cond.fieldLink RX7 176 (TX7 4).1 (TX7 4).2.1 (TX7 4).2.2.1) 686 (by decide +kernel) (by decide +kernel)
theorem lcX7_179 : Cond.methodLink RX7 179 (xY mX7_freeIn) ∈ xWd := xWd_of (w := Cond.methodLink RX7 179 (xY mX7_freeIn)) 924 (by decide +kernel) (by decide +kernel)
theorem lcX7_182 : Cond.methodLink RX7 182 (xY mX7_lowestIn) ∈ xWd := xWd_of (w := Cond.methodLink RX7 182 (xY mX7_lowestIn)) 928 (by decide +kernel) (by decide +kernel)
theorem lcX7_185 : Cond.methodLink RX7 185 (xY mX7_edgesOf) ∈ xWd := xWd_of (w := Cond.methodLink RX7 185 (xY mX7_edgesOf)) 932 (by decide +kernel) (by decide +kernel)
theorem lcX7_188 : Cond.methodLink RX7 188 (xY mX7_cross) ∈ xWd := xWd_of (w := Cond.methodLink RX7 188 (xY mX7_cross)) 948 (by decide +kernel) (by decide +kernel)
theorem lcX7_191 : Cond.methodLink RX7 191 (xY mX7_nextLetter) ∈ xWd := xWd_of (w := Cond.methodLink RX7 191 (xY mX7_nextLetter)) 964 (by decide +kernel) (by decide +kernel)
theorem lcX7_194 : Cond.methodLink RX7 194 (xY mX7_putAside) ∈ xWd := xWd_of (w := Cond.methodLink RX7 194 (xY mX7_putAside)) 972 (by decide +kernel) (by decide +kernel)
theorem lcX7_197 : Cond.methodLink RX7 197 (xY mX7_fieldsOf) ∈ xWd := xWd_of (w := Cond.methodLink RX7 197 (xY mX7_fieldsOf)) 976 (by decide +kernel) (by decide +kernel)
theorem lcX7_200 : Cond.methodLink RX7 200 (xY mX7_edgesThat) ∈ xWd := xWd_of (w := Cond.methodLink RX7 200 (xY mX7_edgesThat)) 980 (by decide +kernel) (by decide +kernel)
theorem lcX7_203 : Cond.methodLink RX7 203 (xY mX7_lettersThat) ∈ xWd := xWd_of (w := Cond.methodLink RX7 203 (xY mX7_lettersThat)) 984 (by decide +kernel) (by decide +kernel)
theorem lcX7_206 : Cond.methodLink RX7 206 (xY mX7_putBack) ∈ xWd := xWd_of (w := Cond.methodLink RX7 206 (xY mX7_putBack)) 988 (by decide +kernel) (by decide +kernel)
theorem lcX7_209 : Cond.methodLink RX7 209 (xY mX7_regions) ∈ xWd := xWd_of (w := Cond.methodLink RX7 209 (xY mX7_regions)) 1000 (by decide +kernel) (by decide +kernel)
theorem llL_7 : Cond.classLink RL 7 RX6 ∈ xWd := xWd_of (w := Cond.classLink RL 7 RX6) 72 (by decide +kernel) (by decide +kernel)
theorem lcL_9 : Cond.methodLink RL 9 (xY mX6_init) ∈ xWd := xWd_of (w := Cond.methodLink RL 9 (xY mX6_init)) 74 (by decide +kernel) (by decide +kernel)
theorem llL_10 : Cond.classLink RL 10 RX7 ∈ xWd := xWd_of (w := Cond.classLink RL 10 RX7) 676 (by decide +kernel) (by decide +kernel)
theorem lcL_12 : Cond.methodLink RL 12 (xY mX7_init) ∈ xWd := xWd_of (w := Cond.methodLink RL 12 (xY mX7_init)) 678 (by decide +kernel) (by decide +kernel)
theorem lcL_13 : Cond.methodLink RL 13 (xY mX6_writeEdge) ∈ xWd := xWd_of (w := Cond.methodLink RL 13 (xY mX6_writeEdge)) 299 (by decide +kernel) (by decide +kernel)
theorem lcL_17 : Cond.methodLink RL 17 (xY mX7_writeEdge) ∈ xWd := xWd_of (w := Cond.methodLink RL 17 (xY mX7_writeEdge)) 741 (by decide +kernel) (by decide +kernel)
theorem lcL_18 : Cond.methodLink RL 18 (xY mX6_writeClaim) ∈ xWd := xWd_of (w := Cond.methodLink RL 18 (xY mX6_writeClaim)) 346 (by decide +kernel) (by decide +kernel)
theorem lcL_22 : Cond.methodLink RL 22 (xY mX7_writeClaim) ∈ xWd := xWd_of (w := Cond.methodLink RL 22 (xY mX7_writeClaim)) 776 (by decide +kernel) (by decide +kernel)
theorem lcL_23 : Cond.methodLink RL 23 (xY mX6_writeTruce) ∈ xWd := xWd_of (w := Cond.methodLink RL 23 (xY mX6_writeTruce)) 355 (by decide +kernel) (by decide +kernel)
theorem lcL_26 : Cond.methodLink RL 26 (xY mX7_writeTruce) ∈ xWd := xWd_of (w := Cond.methodLink RL 26 (xY mX7_writeTruce)) 780 (by decide +kernel) (by decide +kernel)
theorem lcL_27 : Cond.methodLink RL 27 (xY mX6_callBack) ∈ xWd := xWd_of (w := Cond.methodLink RL 27 (xY mX6_callBack)) 363 (by decide +kernel) (by decide +kernel)
theorem lcL_31 : Cond.methodLink RL 31 (xY mX7_callBack) ∈ xWd := xWd_of (w := Cond.methodLink RL 31 (xY mX7_callBack)) 784 (by decide +kernel) (by decide +kernel)
theorem lcL_32 : Cond.methodLink RL 32 (xY mX6_pass) ∈ xWd := xWd_of (w := Cond.methodLink RL 32 (xY mX6_pass)) 373 (by decide +kernel) (by decide +kernel)
theorem lcL_35 : Cond.methodLink RL 35 (xY mX7_pass) ∈ xWd := xWd_of (w := Cond.methodLink RL 35 (xY mX7_pass)) 796 (by decide +kernel) (by decide +kernel)
theorem lcL_36 : Cond.methodLink RL 36 (xY mX6_set) ∈ xWd := xWd_of (w := Cond.methodLink RL 36 (xY mX6_set)) 490 (by decide +kernel) (by decide +kernel)
theorem lcL_39 : Cond.methodLink RL 39 (xY mX7_set) ∈ xWd := xWd_of (w := Cond.methodLink RL 39 (xY mX7_set)) 858 (by decide +kernel) (by decide +kernel)
theorem lcL_40 : Cond.methodLink RL 40 (xY mX6_type) ∈ xWd := xWd_of (w := Cond.methodLink RL 40 (xY mX6_type)) 494 (by decide +kernel) (by decide +kernel)
theorem lcL_44 : Cond.methodLink RL 44 (xY mX7_type) ∈ xWd := xWd_of (w := Cond.methodLink RL 44 (xY mX7_type)) 862 (by decide +kernel) (by decide +kernel)
theorem lcL_45 : Cond.methodLink RL 45 (xY mX6_clearText) ∈ xWd := xWd_of (w := Cond.methodLink RL 45 (xY mX6_clearText)) 502 (by decide +kernel) (by decide +kernel)
theorem lcL_49 : Cond.methodLink RL 49 (xY mX7_clearText) ∈ xWd := xWd_of (w := Cond.methodLink RL 49 (xY mX7_clearText)) 866 (by decide +kernel) (by decide +kernel)
theorem lcL_50 : Cond.methodLink RL 50 (xY mX6_perform) ∈ xWd := xWd_of (w := Cond.methodLink RL 50 (xY mX6_perform)) 510 (by decide +kernel) (by decide +kernel)
theorem lcL_53 : Cond.methodLink RL 53 (xY mX7_perform) ∈ xWd := xWd_of (w := Cond.methodLink RL 53 (xY mX7_perform)) 870 (by decide +kernel) (by decide +kernel)
theorem lcL_54 : Cond.methodLink RL 54 (xY mX6_stopped) ∈ xWd := xWd_of (w := Cond.methodLink RL 54 (xY mX6_stopped)) 559 (by decide +kernel) (by decide +kernel)
theorem lcL_57 : Cond.methodLink RL 57 (xY mX7_stopped) ∈ xWd := xWd_of (w := Cond.methodLink RL 57 (xY mX7_stopped)) 900 (by decide +kernel) (by decide +kernel)
theorem lcL_58 : Cond.methodLink RL 58 (xY mX6_undo) ∈ xWd := xWd_of (w := Cond.methodLink RL 58 (xY mX6_undo)) 563 (by decide +kernel) (by decide +kernel)
theorem lcL_61 : Cond.methodLink RL 61 (xY mX7_undo) ∈ xWd := xWd_of (w := Cond.methodLink RL 61 (xY mX7_undo)) 904 (by decide +kernel) (by decide +kernel)
theorem lcL_62 : Cond.methodLink RL 62 (xY mX6_keep) ∈ xWd := xWd_of (w := Cond.methodLink RL 62 (xY mX6_keep)) 571 (by decide +kernel) (by decide +kernel)
theorem lcL_65 : Cond.methodLink RL 65 (xY mX7_keep) ∈ xWd := xWd_of (w := Cond.methodLink RL 65 (xY mX7_keep)) 908 (by decide +kernel) (by decide +kernel)
theorem lcL_66 : Cond.methodLink RL 66 (xY mX6_restore) ∈ xWd := xWd_of (w := Cond.methodLink RL 66 (xY mX6_restore)) 575 (by decide +kernel) (by decide +kernel)
theorem lcL_69 : Cond.methodLink RL 69 (xY mX7_restore) ∈ xWd := xWd_of (w := Cond.methodLink RL 69 (xY mX7_restore)) 912 (by decide +kernel) (by decide +kernel)
theorem lcL_70 : Cond.methodLink RL 70 (xY mX6_edge) ∈ xWd := xWd_of (w := Cond.methodLink RL 70 (xY mX6_edge)) 579 (by decide +kernel) (by decide +kernel)
theorem lcL_73 : Cond.methodLink RL 73 (xY mX7_edge) ∈ xWd := xWd_of (w := Cond.methodLink RL 73 (xY mX7_edge)) 916 (by decide +kernel) (by decide +kernel)
theorem lcL_74 : Cond.methodLink RL 74 (xY mX6_field) ∈ xWd := xWd_of (w := Cond.methodLink RL 74 (xY mX6_field)) 584 (by decide +kernel) (by decide +kernel)
theorem lcL_77 : Cond.methodLink RL 77 (xY mX7_field) ∈ xWd := xWd_of (w := Cond.methodLink RL 77 (xY mX7_field)) 920 (by decide +kernel) (by decide +kernel)
theorem lcL_78 : Cond.methodLink RL 78 (xY mX6_joined) ∈ xWd := xWd_of (w := Cond.methodLink RL 78 (xY mX6_joined)) 604 (by decide +kernel) (by decide +kernel)
theorem lcL_81 : Cond.methodLink RL 81 (xY mX7_joined) ∈ xWd := xWd_of (w := Cond.methodLink RL 81 (xY mX7_joined)) 936 (by decide +kernel) (by decide +kernel)
theorem lcL_82 : Cond.methodLink RL 82 (xY mX6_letter) ∈ xWd := xWd_of (w := Cond.methodLink RL 82 (xY mX6_letter)) 620 (by decide +kernel) (by decide +kernel)
theorem lcL_85 : Cond.methodLink RL 85 (xY mX7_letter) ∈ xWd := xWd_of (w := Cond.methodLink RL 85 (xY mX7_letter)) 940 (by decide +kernel) (by decide +kernel)
theorem lcL_86 : Cond.methodLink RL 86 (xY mX6_crossed) ∈ xWd := xWd_of (w := Cond.methodLink RL 86 (xY mX6_crossed)) 624 (by decide +kernel) (by decide +kernel)
theorem lcL_89 : Cond.methodLink RL 89 (xY mX7_crossed) ∈ xWd := xWd_of (w := Cond.methodLink RL 89 (xY mX7_crossed)) 944 (by decide +kernel) (by decide +kernel)
theorem lcL_90 : Cond.methodLink RL 90 (xY mX6_reasonEdge) ∈ xWd := xWd_of (w := Cond.methodLink RL 90 (xY mX6_reasonEdge)) 629 (by decide +kernel) (by decide +kernel)
theorem lcL_94 : Cond.methodLink RL 94 (xY mX7_reasonEdge) ∈ xWd := xWd_of (w := Cond.methodLink RL 94 (xY mX7_reasonEdge)) 952 (by decide +kernel) (by decide +kernel)
theorem lcL_95 : Cond.methodLink RL 95 (xY mX6_reasonClaim) ∈ xWd := xWd_of (w := Cond.methodLink RL 95 (xY mX6_reasonClaim)) 635 (by decide +kernel) (by decide +kernel)
theorem lcL_98 : Cond.methodLink RL 98 (xY mX7_reasonClaim) ∈ xWd := xWd_of (w := Cond.methodLink RL 98 (xY mX7_reasonClaim)) 956 (by decide +kernel) (by decide +kernel)
theorem lcL_99 : Cond.methodLink RL 99 (xY mX6_next) ∈ xWd := xWd_of (w := Cond.methodLink RL 99 (xY mX6_next)) 640 (by decide +kernel) (by decide +kernel)
theorem lcL_102 : Cond.methodLink RL 102 (xY mX7_next) ∈ xWd := xWd_of (w := Cond.methodLink RL 102 (xY mX7_next)) 960 (by decide +kernel) (by decide +kernel)
theorem lcL_103 : Cond.methodLink RL 103 (xY mX6_ifAllCome) ∈ xWd := xWd_of (w := Cond.methodLink RL 103 (xY mX6_ifAllCome)) 645 (by decide +kernel) (by decide +kernel)
theorem lcL_106 : Cond.methodLink RL 106 (xY mX7_ifAllCome) ∈ xWd := xWd_of (w := Cond.methodLink RL 106 (xY mX7_ifAllCome)) 968 (by decide +kernel) (by decide +kernel)
theorem lcL_107 : Cond.methodLink RL 107 (xY mX6_bestClaim) ∈ xWd := xWd_of (w := Cond.methodLink RL 107 (xY mX6_bestClaim)) 662 (by decide +kernel) (by decide +kernel)
theorem lcL_110 : Cond.methodLink RL 110 (xY mX7_bestClaim) ∈ xWd := xWd_of (w := Cond.methodLink RL 110 (xY mX7_bestClaim)) 992 (by decide +kernel) (by decide +kernel)
theorem lcL_111 : Cond.methodLink RL 111 (xY mX6_count) ∈ xWd := xWd_of (w := Cond.methodLink RL 111 (xY mX6_count)) 666 (by decide +kernel) (by decide +kernel)
theorem lcL_114 : Cond.methodLink RL 114 (xY mX7_count) ∈ xWd := xWd_of (w := Cond.methodLink RL 114 (xY mX7_count)) 996 (by decide +kernel) (by decide +kernel)
theorem wi0 : Cond.instantiable RX0 8 ∈ xWd := xWd_of (w := Cond.instantiable RX0 8) 156 (by decide +kernel) (by decide +kernel)
theorem wn0 : Cond.initialized RX0 ∈ xWd := xWd_of (w := Cond.initialized RX0) 66 (by decide +kernel) (by decide +kernel)
theorem wi1 : Cond.instantiable RX1 4 ∈ xWd := xWd_of (w := Cond.instantiable RX1 4) 81 (by decide +kernel) (by decide +kernel)
theorem wn1 : Cond.initialized RX1 ∈ xWd := xWd_of (w := Cond.initialized RX1) 62 (by decide +kernel) (by decide +kernel)
theorem wi2 : Cond.instantiable RX2 3 ∈ xWd := xWd_of (w := Cond.instantiable RX2 3) 194 (by decide +kernel) (by decide +kernel)
theorem wn2 : Cond.initialized RX2 ∈ xWd := xWd_of (w := Cond.initialized RX2) 67 (by decide +kernel) (by decide +kernel)
theorem wi3 : Cond.instantiable RX3 2 ∈ xWd := xWd_of (w := Cond.instantiable RX3 2) 143 (by decide +kernel) (by decide +kernel)
theorem wn3 : Cond.initialized RX3 ∈ xWd := xWd_of (w := Cond.initialized RX3) 65 (by decide +kernel) (by decide +kernel)
theorem wi4 : Cond.instantiable RX4 6 ∈ xWd := xWd_of (w := Cond.instantiable RX4 6) 118 (by decide +kernel) (by decide +kernel)
theorem wn4 : Cond.initialized RX4 ∈ xWd := xWd_of (w := Cond.initialized RX4) 64 (by decide +kernel) (by decide +kernel)
theorem wi5 : Cond.instantiable RX5 9 ∈ xWd := xWd_of (w := Cond.instantiable RX5 9) 201 (by decide +kernel) (by decide +kernel)
theorem wn5 : Cond.initialized RX5 ∈ xWd := xWd_of (w := Cond.initialized RX5) 68 (by decide +kernel) (by decide +kernel)
theorem wi6 : Cond.instantiable RX6 13 ∈ xWd := xWd_of (w := Cond.instantiable RX6 13) 73 (by decide +kernel) (by decide +kernel)
theorem wn6 : Cond.initialized RX6 ∈ xWd := xWd_of (w := Cond.initialized RX6) 61 (by decide +kernel) (by decide +kernel)
theorem wi7 : Cond.instantiable RX7 19 ∈ xWd := xWd_of (w := Cond.instantiable RX7 19) 677 (by decide +kernel) (by decide +kernel)
theorem wn7 : Cond.initialized RX7 ∈ xWd := xWd_of (w := Cond.initialized RX7) 69 (by decide +kernel) (by decide +kernel)
/-! the world once both objects are made -/
abbrev xKd : Type := Nat ⊕ (FieldType × Nat)
def SH : List xKd := [.inl 6, .inl 1, .inr (.int, 192), .inr (.int, 192), .inr (.int, 82), .inr (.int, 82), .inl 4, .inr (.int, 48), .inr (.int, 48), .inr (.int, 48), .inr (.int, 48), .inr (.int, 48), .inl 3, .inl 0, .inr (.char, 60), .inr (.int, 60), .inr (.int, 60), .inr (.int, 60), .inr (.int, 60), .inl 2, .inr (.object "FenceDuel$State", 4), .inl 5, .inr (.int, 2), .inr (.int, 2), .inr (.int, 82), .inr (.int, 48), .inr (.int, 600), .inl 5, .inr (.int, 2), .inr (.int, 2), .inr (.int, 82), .inr (.int, 48), .inr (.int, 600), .inl 5, .inr (.int, 2), .inr (.int, 2), .inr (.int, 82), .inr (.int, 48), .inr (.int, 600), .inl 5, .inr (.int, 2), .inr (.int, 2), .inr (.int, 82), .inr (.int, 48), .inr (.int, 600), .inl 5, .inr (.int, 2), .inr (.int, 2), .inr (.int, 82), .inr (.int, 48), .inr (.int, 600), .inl 5, .inr (.int, 2), .inr (.int, 2), .inr (.int, 82), .inr (.int, 48), .inr (.int, 600), .inl 5, .inr (.int, 2), .inr (.int, 2), .inr (.int, 82), .inr (.int, 48), .inr (.int, 600), .inl 5, .inr (.int, 2), .inr (.int, 2), .inr (.int, 82), .inr (.int, 48), .inr (.int, 600), .inl 7, .inr (.int, 742), .inr (.int, 742), .inr (.int, 742), .inr (.int, 742), .inr (.int, 2968), .inr (.int, 60), .inr (.boolean, 48)]
def FF00 : xF := fun _ _ => none
def FF01 : xF := xup FF00 1 0 (some 2)
def FF02 : xF := xup FF01 1 1 (some 3)
def FF03 : xF := xup FF02 1 2 (some 4)
def FF04 : xF := xup FF03 1 3 (some 5)
def FF05 : xF := xup FF04 0 0 (some 1)
def FF06 : xF := xup FF05 6 1 (some 7)
def FF07 : xF := xup FF06 6 2 (some 8)
def FF08 : xF := xup FF07 6 3 (some 9)
def FF09 : xF := xup FF08 6 4 (some 10)
def FF10 : xF := xup FF09 6 5 (some 11)
def FF11 : xF := xup FF10 6 0 (some 1)
def FF12 : xF := xup FF11 0 1 (some 6)
def FF13 : xF := xup FF12 12 0 (some 1)
def FF14 : xF := xup FF13 12 1 (some 6)
def FF15 : xF := xup FF14 0 2 (some 12)
def FF16 : xF := xup FF15 13 0 (some 14)
def FF17 : xF := xup FF16 13 4 (some 15)
def FF18 : xF := xup FF17 13 5 (some 16)
def FF19 : xF := xup FF18 13 6 (some 17)
def FF20 : xF := xup FF19 13 7 (some 18)
def FF21 : xF := xup FF20 0 3 (some 13)
def FF22 : xF := xup FF21 21 4 (some 22)
def FF23 : xF := xup FF22 21 5 (some 23)
def FF24 : xF := xup FF23 21 6 (some 24)
def FF25 : xF := xup FF24 21 7 (some 25)
def FF26 : xF := xup FF25 21 8 (some 26)
def FF27 : xF := xup FF26 20 0 (some 21)
def FF28 : xF := xup FF27 27 4 (some 28)
def FF29 : xF := xup FF28 27 5 (some 29)
def FF30 : xF := xup FF29 27 6 (some 30)
def FF31 : xF := xup FF30 27 7 (some 31)
def FF32 : xF := xup FF31 27 8 (some 32)
def FF33 : xF := xup FF32 20 1 (some 27)
def FF34 : xF := xup FF33 33 4 (some 34)
def FF35 : xF := xup FF34 33 5 (some 35)
def FF36 : xF := xup FF35 33 6 (some 36)
def FF37 : xF := xup FF36 33 7 (some 37)
def FF38 : xF := xup FF37 33 8 (some 38)
def FF39 : xF := xup FF38 20 2 (some 33)
def FF40 : xF := xup FF39 39 4 (some 40)
def FF41 : xF := xup FF40 39 5 (some 41)
def FF42 : xF := xup FF41 39 6 (some 42)
def FF43 : xF := xup FF42 39 7 (some 43)
def FF44 : xF := xup FF43 39 8 (some 44)
def FF45 : xF := xup FF44 20 3 (some 39)
def FF46 : xF := xup FF45 19 0 (some 20)
def FF47 : xF := xup FF46 0 4 (some 19)
def FF48 : xF := xup FF47 45 4 (some 46)
def FF49 : xF := xup FF48 45 5 (some 47)
def FF50 : xF := xup FF49 45 6 (some 48)
def FF51 : xF := xup FF50 45 7 (some 49)
def FF52 : xF := xup FF51 45 8 (some 50)
def FF53 : xF := xup FF52 0 5 (some 45)
def FF54 : xF := xup FF53 51 4 (some 52)
def FF55 : xF := xup FF54 51 5 (some 53)
def FF56 : xF := xup FF55 51 6 (some 54)
def FF57 : xF := xup FF56 51 7 (some 55)
def FF58 : xF := xup FF57 51 8 (some 56)
def FF59 : xF := xup FF58 0 6 (some 51)
def FF60 : xF := xup FF59 57 4 (some 58)
def FF61 : xF := xup FF60 57 5 (some 59)
def FF62 : xF := xup FF61 57 6 (some 60)
def FF63 : xF := xup FF62 57 7 (some 61)
def FF64 : xF := xup FF63 57 8 (some 62)
def FF65 : xF := xup FF64 0 7 (some 57)
def FF66 : xF := xup FF65 63 4 (some 64)
def FF67 : xF := xup FF66 63 5 (some 65)
def FF68 : xF := xup FF67 63 6 (some 66)
def FF69 : xF := xup FF68 63 7 (some 67)
def FF70 : xF := xup FF69 63 8 (some 68)
def FF71 : xF := xup FF70 0 8 (some 63)
def FF72 : xF := xup FF71 69 0 (some 70)
def FF73 : xF := xup FF72 69 1 (some 71)
def FF74 : xF := xup FF73 69 2 (some 72)
def FF75 : xF := xup FF74 69 3 (some 73)
def FF76 : xF := xup FF75 69 5 (some 74)
def FF77 : xF := xup FF76 69 7 (some 75)
def FF78 : xF := xup FF77 69 11 (some 76)
abbrev FF : xF := FF78
theorem sh_0 : SH[0]? = some (.inl 6) := rfl
theorem sh_1 : SH[1]? = some (.inl 1) := rfl
theorem sh_2 : SH[2]? = some (.inr (.int, 192)) := rfl
theorem sh_3 : SH[3]? = some (.inr (.int, 192)) := rfl
theorem sh_4 : SH[4]? = some (.inr (.int, 82)) := rfl
theorem sh_5 : SH[5]? = some (.inr (.int, 82)) := rfl
theorem sh_6 : SH[6]? = some (.inl 4) := rfl
theorem sh_7 : SH[7]? = some (.inr (.int, 48)) := rfl
theorem sh_8 : SH[8]? = some (.inr (.int, 48)) := rfl
theorem sh_9 : SH[9]? = some (.inr (.int, 48)) := rfl
theorem sh_10 : SH[10]? = some (.inr (.int, 48)) := rfl
theorem sh_11 : SH[11]? = some (.inr (.int, 48)) := rfl
theorem sh_12 : SH[12]? = some (.inl 3) := rfl
theorem sh_13 : SH[13]? = some (.inl 0) := rfl
theorem sh_14 : SH[14]? = some (.inr (.char, 60)) := rfl
theorem sh_15 : SH[15]? = some (.inr (.int, 60)) := rfl
theorem sh_16 : SH[16]? = some (.inr (.int, 60)) := rfl
theorem sh_17 : SH[17]? = some (.inr (.int, 60)) := rfl
theorem sh_18 : SH[18]? = some (.inr (.int, 60)) := rfl
theorem sh_19 : SH[19]? = some (.inl 2) := rfl
theorem sh_20 : SH[20]? = some (.inr (.object "FenceDuel$State", 4)) := rfl
theorem sh_21 : SH[21]? = some (.inl 5) := rfl
theorem sh_22 : SH[22]? = some (.inr (.int, 2)) := rfl
theorem sh_23 : SH[23]? = some (.inr (.int, 2)) := rfl
theorem sh_24 : SH[24]? = some (.inr (.int, 82)) := rfl
theorem sh_25 : SH[25]? = some (.inr (.int, 48)) := rfl
theorem sh_26 : SH[26]? = some (.inr (.int, 600)) := rfl
theorem sh_27 : SH[27]? = some (.inl 5) := rfl
theorem sh_28 : SH[28]? = some (.inr (.int, 2)) := rfl
theorem sh_29 : SH[29]? = some (.inr (.int, 2)) := rfl
theorem sh_30 : SH[30]? = some (.inr (.int, 82)) := rfl
theorem sh_31 : SH[31]? = some (.inr (.int, 48)) := rfl
theorem sh_32 : SH[32]? = some (.inr (.int, 600)) := rfl
theorem sh_33 : SH[33]? = some (.inl 5) := rfl
theorem sh_34 : SH[34]? = some (.inr (.int, 2)) := rfl
theorem sh_35 : SH[35]? = some (.inr (.int, 2)) := rfl
theorem sh_36 : SH[36]? = some (.inr (.int, 82)) := rfl
theorem sh_37 : SH[37]? = some (.inr (.int, 48)) := rfl
theorem sh_38 : SH[38]? = some (.inr (.int, 600)) := rfl
theorem sh_39 : SH[39]? = some (.inl 5) := rfl
theorem sh_40 : SH[40]? = some (.inr (.int, 2)) := rfl
theorem sh_41 : SH[41]? = some (.inr (.int, 2)) := rfl
theorem sh_42 : SH[42]? = some (.inr (.int, 82)) := rfl
theorem sh_43 : SH[43]? = some (.inr (.int, 48)) := rfl
theorem sh_44 : SH[44]? = some (.inr (.int, 600)) := rfl
theorem sh_45 : SH[45]? = some (.inl 5) := rfl
theorem sh_46 : SH[46]? = some (.inr (.int, 2)) := rfl
theorem sh_47 : SH[47]? = some (.inr (.int, 2)) := rfl
theorem sh_48 : SH[48]? = some (.inr (.int, 82)) := rfl
theorem sh_49 : SH[49]? = some (.inr (.int, 48)) := rfl
theorem sh_50 : SH[50]? = some (.inr (.int, 600)) := rfl
theorem sh_51 : SH[51]? = some (.inl 5) := rfl
theorem sh_52 : SH[52]? = some (.inr (.int, 2)) := rfl
theorem sh_53 : SH[53]? = some (.inr (.int, 2)) := rfl
theorem sh_54 : SH[54]? = some (.inr (.int, 82)) := rfl
theorem sh_55 : SH[55]? = some (.inr (.int, 48)) := rfl
theorem sh_56 : SH[56]? = some (.inr (.int, 600)) := rfl
theorem sh_57 : SH[57]? = some (.inl 5) := rfl
theorem sh_58 : SH[58]? = some (.inr (.int, 2)) := rfl
theorem sh_59 : SH[59]? = some (.inr (.int, 2)) := rfl
theorem sh_60 : SH[60]? = some (.inr (.int, 82)) := rfl
theorem sh_61 : SH[61]? = some (.inr (.int, 48)) := rfl
theorem sh_62 : SH[62]? = some (.inr (.int, 600)) := rfl
theorem sh_63 : SH[63]? = some (.inl 5) := rfl
theorem sh_64 : SH[64]? = some (.inr (.int, 2)) := rfl
theorem sh_65 : SH[65]? = some (.inr (.int, 2)) := rfl
theorem sh_66 : SH[66]? = some (.inr (.int, 82)) := rfl
theorem sh_67 : SH[67]? = some (.inr (.int, 48)) := rfl
theorem sh_68 : SH[68]? = some (.inr (.int, 600)) := rfl
theorem sh_69 : SH[69]? = some (.inl 7) := rfl
theorem sh_70 : SH[70]? = some (.inr (.int, 742)) := rfl
theorem sh_71 : SH[71]? = some (.inr (.int, 742)) := rfl
theorem sh_72 : SH[72]? = some (.inr (.int, 742)) := rfl
theorem sh_73 : SH[73]? = some (.inr (.int, 742)) := rfl
theorem sh_74 : SH[74]? = some (.inr (.int, 2968)) := rfl
theorem sh_75 : SH[75]? = some (.inr (.int, 60)) := rfl
theorem sh_76 : SH[76]? = some (.inr (.boolean, 48)) := rfl
theorem ff_1_0 : FF 1 0 = some 2 := by decide +kernel
theorem ff_1_1 : FF 1 1 = some 3 := by decide +kernel
theorem ff_1_2 : FF 1 2 = some 4 := by decide +kernel
theorem ff_1_3 : FF 1 3 = some 5 := by decide +kernel
theorem ff_0_0 : FF 0 0 = some 1 := by decide +kernel
theorem ff_6_1 : FF 6 1 = some 7 := by decide +kernel
theorem ff_6_2 : FF 6 2 = some 8 := by decide +kernel
theorem ff_6_3 : FF 6 3 = some 9 := by decide +kernel
theorem ff_6_4 : FF 6 4 = some 10 := by decide +kernel
theorem ff_6_5 : FF 6 5 = some 11 := by decide +kernel
theorem ff_6_0 : FF 6 0 = some 1 := by decide +kernel
theorem ff_0_1 : FF 0 1 = some 6 := by decide +kernel
theorem ff_12_0 : FF 12 0 = some 1 := by decide +kernel
theorem ff_12_1 : FF 12 1 = some 6 := by decide +kernel
theorem ff_0_2 : FF 0 2 = some 12 := by decide +kernel
theorem ff_13_0 : FF 13 0 = some 14 := by decide +kernel
theorem ff_13_4 : FF 13 4 = some 15 := by decide +kernel
theorem ff_13_5 : FF 13 5 = some 16 := by decide +kernel
theorem ff_13_6 : FF 13 6 = some 17 := by decide +kernel
theorem ff_13_7 : FF 13 7 = some 18 := by decide +kernel
theorem ff_0_3 : FF 0 3 = some 13 := by decide +kernel
theorem ff_21_4 : FF 21 4 = some 22 := by decide +kernel
theorem ff_21_5 : FF 21 5 = some 23 := by decide +kernel
theorem ff_21_6 : FF 21 6 = some 24 := by decide +kernel
theorem ff_21_7 : FF 21 7 = some 25 := by decide +kernel
theorem ff_21_8 : FF 21 8 = some 26 := by decide +kernel
theorem ff_20_0 : FF 20 0 = some 21 := by decide +kernel
theorem ff_27_4 : FF 27 4 = some 28 := by decide +kernel
theorem ff_27_5 : FF 27 5 = some 29 := by decide +kernel
theorem ff_27_6 : FF 27 6 = some 30 := by decide +kernel
theorem ff_27_7 : FF 27 7 = some 31 := by decide +kernel
theorem ff_27_8 : FF 27 8 = some 32 := by decide +kernel
theorem ff_20_1 : FF 20 1 = some 27 := by decide +kernel
theorem ff_33_4 : FF 33 4 = some 34 := by decide +kernel
theorem ff_33_5 : FF 33 5 = some 35 := by decide +kernel
theorem ff_33_6 : FF 33 6 = some 36 := by decide +kernel
theorem ff_33_7 : FF 33 7 = some 37 := by decide +kernel
theorem ff_33_8 : FF 33 8 = some 38 := by decide +kernel
theorem ff_20_2 : FF 20 2 = some 33 := by decide +kernel
theorem ff_39_4 : FF 39 4 = some 40 := by decide +kernel
theorem ff_39_5 : FF 39 5 = some 41 := by decide +kernel
theorem ff_39_6 : FF 39 6 = some 42 := by decide +kernel
theorem ff_39_7 : FF 39 7 = some 43 := by decide +kernel
theorem ff_39_8 : FF 39 8 = some 44 := by decide +kernel
theorem ff_20_3 : FF 20 3 = some 39 := by decide +kernel
theorem ff_19_0 : FF 19 0 = some 20 := by decide +kernel
theorem ff_0_4 : FF 0 4 = some 19 := by decide +kernel
theorem ff_45_4 : FF 45 4 = some 46 := by decide +kernel
theorem ff_45_5 : FF 45 5 = some 47 := by decide +kernel
theorem ff_45_6 : FF 45 6 = some 48 := by decide +kernel
theorem ff_45_7 : FF 45 7 = some 49 := by decide +kernel
theorem ff_45_8 : FF 45 8 = some 50 := by decide +kernel
theorem ff_0_5 : FF 0 5 = some 45 := by decide +kernel
theorem ff_51_4 : FF 51 4 = some 52 := by decide +kernel
theorem ff_51_5 : FF 51 5 = some 53 := by decide +kernel
theorem ff_51_6 : FF 51 6 = some 54 := by decide +kernel
theorem ff_51_7 : FF 51 7 = some 55 := by decide +kernel
theorem ff_51_8 : FF 51 8 = some 56 := by decide +kernel
theorem ff_0_6 : FF 0 6 = some 51 := by decide +kernel
theorem ff_57_4 : FF 57 4 = some 58 := by decide +kernel
theorem ff_57_5 : FF 57 5 = some 59 := by decide +kernel
theorem ff_57_6 : FF 57 6 = some 60 := by decide +kernel
theorem ff_57_7 : FF 57 7 = some 61 := by decide +kernel
theorem ff_57_8 : FF 57 8 = some 62 := by decide +kernel
theorem ff_0_7 : FF 0 7 = some 57 := by decide +kernel
theorem ff_63_4 : FF 63 4 = some 64 := by decide +kernel
theorem ff_63_5 : FF 63 5 = some 65 := by decide +kernel
theorem ff_63_6 : FF 63 6 = some 66 := by decide +kernel
theorem ff_63_7 : FF 63 7 = some 67 := by decide +kernel
theorem ff_63_8 : FF 63 8 = some 68 := by decide +kernel
theorem ff_0_8 : FF 0 8 = some 63 := by decide +kernel
theorem ff_69_0 : FF 69 0 = some 70 := by decide +kernel
theorem ff_69_1 : FF 69 1 = some 71 := by decide +kernel
theorem ff_69_2 : FF 69 2 = some 72 := by decide +kernel
theorem ff_69_3 : FF 69 3 = some 73 := by decide +kernel
theorem ff_69_5 : FF 69 5 = some 74 := by decide +kernel
theorem ff_69_7 : FF 69 7 = some 75 := by decide +kernel
theorem ff_69_11 : FF 69 11 = some 76 := by decide +kernel
/-- b is a state: its five arrays lie behind it -/
def xSt (b : Nat) : Prop := SH[b]? = some (.inl 5) ∧ SH[b + 1]? = some (.inr (.int, 2)) ∧ SH[b + 2]? = some (.inr (.int, 2)) ∧ SH[b + 3]? = some (.inr (.int, 82)) ∧ SH[b + 4]? = some (.inr (.int, 48)) ∧ SH[b + 5]? = some (.inr (.int, 600)) ∧ FF b 4 = some (b + 1) ∧ FF b 5 = some (b + 2) ∧ FF b 6 = some (b + 3) ∧ FF b 7 = some (b + 4) ∧ FF b 8 = some (b + 5)
theorem xst_21 : xSt 21 := by unfold xSt; decide +kernel
theorem xst_27 : xSt 27 := by unfold xSt; decide +kernel
theorem xst_33 : xSt 33 := by unfold xSt; decide +kernel
theorem xst_39 : xSt 39 := by unfold xSt; decide +kernel
theorem xst_45 : xSt 45 := by unfold xSt; decide +kernel
theorem xst_51 : xSt 51 := by unfold xSt; decide +kernel
theorem xst_57 : xSt 57 := by unfold xSt; decide +kernel
theorem xst_63 : xSt 63 := by unfold xSt; decide +kernel
theorem xSt.s0 {b : Nat} (h : xSt b) : SH[b]? = some (.inl 5) := h.1
theorem xSt.s1 {b : Nat} (h : xSt b) : SH[b + 1]? = some (.inr (.int, 2)) := h.2.1
theorem xSt.s2 {b : Nat} (h : xSt b) : SH[b + 2]? = some (.inr (.int, 2)) := h.2.2.1
theorem xSt.s3 {b : Nat} (h : xSt b) : SH[b + 3]? = some (.inr (.int, 82)) := h.2.2.2.1
theorem xSt.s4 {b : Nat} (h : xSt b) : SH[b + 4]? = some (.inr (.int, 48)) := h.2.2.2.2.1
theorem xSt.s5 {b : Nat} (h : xSt b) : SH[b + 5]? = some (.inr (.int, 600)) := h.2.2.2.2.2.1
theorem xSt.f4 {b : Nat} (h : xSt b) : FF b 4 = some (b + 1) := h.2.2.2.2.2.2.1
theorem xSt.f5 {b : Nat} (h : xSt b) : FF b 5 = some (b + 2) := h.2.2.2.2.2.2.2.1
theorem xSt.f6 {b : Nat} (h : xSt b) : FF b 6 = some (b + 3) := h.2.2.2.2.2.2.2.2.1
theorem xSt.f7 {b : Nat} (h : xSt b) : FF b 7 = some (b + 4) := h.2.2.2.2.2.2.2.2.2.1
theorem xSt.f8 {b : Nat} (h : xSt b) : FF b 8 = some (b + 5) := h.2.2.2.2.2.2.2.2.2.2
/-- a is one of the game's rows -/
def xGr (a : Nat) : Prop := SH[a]? = some (.inr (.int, 60))
theorem xgr_15 : xGr 15 := rfl
theorem xgr_16 : xGr 16 := rfl
theorem xgr_17 : xGr 17 := rfl
theorem xgr_18 : xGr 18 := rfl
/-- the history's states -/
theorem xHs {j : Nat} (h : j < 4) : FF 20 j = some (21 + 6 * j) ∧ xSt (21 + 6 * j) := by
  match j, h with
  | 0, _ => exact ⟨ff_20_0, xst_21⟩
  | 1, _ => exact ⟨ff_20_1, xst_27⟩
  | 2, _ => exact ⟨ff_20_2, xst_33⟩
  | 3, _ => exact ⟨ff_20_3, xst_39⟩
/-! numbers -/
theorem ki_m1 : Int32.ofInt ((-1)) = ((-1) : Int32) := by decide +kernel
theorem ki_0 : Int32.ofInt (0) = (0 : Int32) := by decide +kernel
theorem ki_1 : Int32.ofInt (1) = (1 : Int32) := by decide +kernel
theorem ki_2 : Int32.ofInt (2) = (2 : Int32) := by decide +kernel
theorem ki_3 : Int32.ofInt (3) = (3 : Int32) := by decide +kernel
theorem ki_4 : Int32.ofInt (4) = (4 : Int32) := by decide +kernel
theorem ki_5 : Int32.ofInt (5) = (5 : Int32) := by decide +kernel
theorem kb_m100 : (Int8.ofInt ((-100))).toInt32 = ((-100) : Int32) := by decide +kernel
theorem kb_m5 : (Int8.ofInt ((-5))).toInt32 = ((-5) : Int32) := by decide +kernel
theorem kb_m4 : (Int8.ofInt ((-4))).toInt32 = ((-4) : Int32) := by decide +kernel
theorem kb_m3 : (Int8.ofInt ((-3))).toInt32 = ((-3) : Int32) := by decide +kernel
theorem kb_m2 : (Int8.ofInt ((-2))).toInt32 = ((-2) : Int32) := by decide +kernel
theorem kb_6 : (Int8.ofInt (6)).toInt32 = (6 : Int32) := by decide +kernel
theorem kb_7 : (Int8.ofInt (7)).toInt32 = (7 : Int32) := by decide +kernel
theorem kb_8 : (Int8.ofInt (8)).toInt32 = (8 : Int32) := by decide +kernel
theorem kb_9 : (Int8.ofInt (9)).toInt32 = (9 : Int32) := by decide +kernel
theorem kb_10 : (Int8.ofInt (10)).toInt32 = (10 : Int32) := by decide +kernel
theorem kb_11 : (Int8.ofInt (11)).toInt32 = (11 : Int32) := by decide +kernel
theorem kb_12 : (Int8.ofInt (12)).toInt32 = (12 : Int32) := by decide +kernel
theorem kb_14 : (Int8.ofInt (14)).toInt32 = (14 : Int32) := by decide +kernel
theorem kb_16 : (Int8.ofInt (16)).toInt32 = (16 : Int32) := by decide +kernel
theorem kb_24 : (Int8.ofInt (24)).toInt32 = (24 : Int32) := by decide +kernel
theorem kb_31 : (Int8.ofInt (31)).toInt32 = (31 : Int32) := by decide +kernel
theorem kb_42 : (Int8.ofInt (42)).toInt32 = (42 : Int32) := by decide +kernel
theorem kb_46 : (Int8.ofInt (46)).toInt32 = (46 : Int32) := by decide +kernel
theorem kb_47 : (Int8.ofInt (47)).toInt32 = (47 : Int32) := by decide +kernel
theorem kb_48 : (Int8.ofInt (48)).toInt32 = (48 : Int32) := by decide +kernel
theorem kb_49 : (Int8.ofInt (49)).toInt32 = (49 : Int32) := by decide +kernel
theorem kb_57 : (Int8.ofInt (57)).toInt32 = (57 : Int32) := by decide +kernel
theorem kb_59 : (Int8.ofInt (59)).toInt32 = (59 : Int32) := by decide +kernel
theorem kb_60 : (Int8.ofInt (60)).toInt32 = (60 : Int32) := by decide +kernel
theorem kb_82 : (Int8.ofInt (82)).toInt32 = (82 : Int32) := by decide +kernel
theorem kb_94 : (Int8.ofInt (94)).toInt32 = (94 : Int32) := by decide +kernel
theorem kb_99 : (Int8.ofInt (99)).toInt32 = (99 : Int32) := by decide +kernel
theorem ks_142 : (Int16.ofInt (142)).toInt32 = (142 : Int32) := by decide +kernel
theorem ks_192 : (Int16.ofInt (192)).toInt32 = (192 : Int32) := by decide +kernel
theorem ks_255 : (Int16.ofInt (255)).toInt32 = (255 : Int32) := by decide +kernel
theorem ks_600 : (Int16.ofInt (600)).toInt32 = (600 : Int32) := by decide +kernel
theorem ks_742 : (Int16.ofInt (742)).toInt32 = (742 : Int32) := by decide +kernel
theorem ks_2226 : (Int16.ofInt (2226)).toInt32 = (2226 : Int32) := by decide +kernel
theorem ks_2968 : (Int16.ofInt (2968)).toInt32 = (2968 : Int32) := by decide +kernel
theorem ks_9999 : (Int16.ofInt (9999)).toInt32 = (9999 : Int32) := by decide +kernel
theorem ks_10008 : (Int16.ofInt (10008)).toInt32 = (10008 : Int32) := by decide +kernel
theorem kn_0 : (0 : Int32).toNatClampNeg = 0 := by decide +kernel
theorem kn_1 : (1 : Int32).toNatClampNeg = 1 := by decide +kernel
theorem kn_2 : (2 : Int32).toNatClampNeg = 2 := by decide +kernel
theorem kn_3 : (3 : Int32).toNatClampNeg = 3 := by decide +kernel
theorem kn_4 : (4 : Int32).toNatClampNeg = 4 := by decide +kernel
theorem kn_5 : (5 : Int32).toNatClampNeg = 5 := by decide +kernel
theorem kn_6 : (6 : Int32).toNatClampNeg = 6 := by decide +kernel
theorem kn_7 : (7 : Int32).toNatClampNeg = 7 := by decide +kernel
theorem kn_8 : (8 : Int32).toNatClampNeg = 8 := by decide +kernel
theorem kn_9 : (9 : Int32).toNatClampNeg = 9 := by decide +kernel
theorem kn_10 : (10 : Int32).toNatClampNeg = 10 := by decide +kernel
theorem kn_11 : (11 : Int32).toNatClampNeg = 11 := by decide +kernel
theorem kn_12 : (12 : Int32).toNatClampNeg = 12 := by decide +kernel
theorem kn_14 : (14 : Int32).toNatClampNeg = 14 := by decide +kernel
theorem kn_16 : (16 : Int32).toNatClampNeg = 16 := by decide +kernel
theorem kn_24 : (24 : Int32).toNatClampNeg = 24 := by decide +kernel
theorem kn_31 : (31 : Int32).toNatClampNeg = 31 := by decide +kernel
theorem kn_42 : (42 : Int32).toNatClampNeg = 42 := by decide +kernel
theorem kn_46 : (46 : Int32).toNatClampNeg = 46 := by decide +kernel
theorem kn_47 : (47 : Int32).toNatClampNeg = 47 := by decide +kernel
theorem kn_48 : (48 : Int32).toNatClampNeg = 48 := by decide +kernel
theorem kn_49 : (49 : Int32).toNatClampNeg = 49 := by decide +kernel
theorem kn_57 : (57 : Int32).toNatClampNeg = 57 := by decide +kernel
theorem kn_59 : (59 : Int32).toNatClampNeg = 59 := by decide +kernel
theorem kn_60 : (60 : Int32).toNatClampNeg = 60 := by decide +kernel
theorem kn_82 : (82 : Int32).toNatClampNeg = 82 := by decide +kernel
theorem kn_94 : (94 : Int32).toNatClampNeg = 94 := by decide +kernel
theorem kn_99 : (99 : Int32).toNatClampNeg = 99 := by decide +kernel
theorem kn_142 : (142 : Int32).toNatClampNeg = 142 := by decide +kernel
theorem kn_192 : (192 : Int32).toNatClampNeg = 192 := by decide +kernel
theorem kn_255 : (255 : Int32).toNatClampNeg = 255 := by decide +kernel
theorem kn_600 : (600 : Int32).toNatClampNeg = 600 := by decide +kernel
theorem kn_742 : (742 : Int32).toNatClampNeg = 742 := by decide +kernel
theorem kn_2226 : (2226 : Int32).toNatClampNeg = 2226 := by decide +kernel
theorem kn_2968 : (2968 : Int32).toNatClampNeg = 2968 := by decide +kernel
theorem kn_9999 : (9999 : Int32).toNatClampNeg = 9999 := by decide +kernel
theorem kn_10008 : (10008 : Int32).toNatClampNeg = 10008 := by decide +kernel
