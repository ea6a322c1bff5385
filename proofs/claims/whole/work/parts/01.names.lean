/-! PART A: the tables' words, and 'selects' of the private methods out of them; a word by its place in its piece of the tables -/
theorem tT1 {w : Cond} (h : w ∈ tables_1_1) : w ∈ tables_1 := List.mem_append_left _ h
theorem tT2 {w : Cond} (h : w ∈ tables_1_2) : w ∈ tables_1 := List.mem_append_right _ (List.mem_append_left _ h)
theorem tT3 {w : Cond} (h : w ∈ tables_1_3) : w ∈ tables_1 := List.mem_append_right _ (List.mem_append_right _ (List.mem_append_left _ h))
theorem tT4 {w : Cond} (h : w ∈ tables_1_4) : w ∈ tables_1 := List.mem_append_right _ (List.mem_append_right _ (List.mem_append_right _ h))
def lw_okq (q : MethodName × Nat) : Prop := (q.1.cls ≠ "java/lang/invoke/MethodHandle" ∧ q.1.cls ≠ "java/lang/invoke/VarHandle") ∧ Cond.instantiable q.1.cls q.2 ∈ tables_1 ∧ Cond.privateMethod q.1 ∈ tables_1 ∧ Cond.instanceMethod q.1 ∈ tables_1
theorem lw_p0 : lw_okq (⟨"MossPromises$Text", "letterAt", "(I)I"⟩, 6) := ⟨⟨by decide +kernel, by decide +kernel⟩, tT1 (List.mem_of_getElem? (i := 26) rfl), tT2 (List.mem_of_getElem? (i := 27) rfl), tT2 (List.mem_of_getElem? (i := 28) rfl)⟩
theorem lw_p1 : lw_okq (⟨"MossPromises$Text", "readDigits", "()V"⟩, 6) := ⟨⟨by decide +kernel, by decide +kernel⟩, tT1 (List.mem_of_getElem? (i := 26) rfl), tT2 (List.mem_of_getElem? (i := 37) rfl), tT2 (List.mem_of_getElem? (i := 38) rfl)⟩
theorem lw_p2 : lw_okq (⟨"MossPromises$Reader", "readPerson", "()Z"⟩, 4) := ⟨⟨by decide +kernel, by decide +kernel⟩, tT1 (List.mem_of_getElem? (i := 20) rfl), tT2 (List.mem_of_getElem? (i := 41) rfl), tT2 (List.mem_of_getElem? (i := 42) rfl)⟩
theorem lw_p3 : lw_okq (⟨"MossPromises$Reader", "readNumber", "(II)Z"⟩, 4) := ⟨⟨by decide +kernel, by decide +kernel⟩, tT1 (List.mem_of_getElem? (i := 20) rfl), tT2 (List.mem_of_getElem? (i := 45) rfl), tT2 (List.mem_of_getElem? (i := 46) rfl)⟩
theorem lw_p4 : lw_okq (⟨"MossPromises$Reader", "readEnd", "()Z"⟩, 4) := ⟨⟨by decide +kernel, by decide +kernel⟩, tT1 (List.mem_of_getElem? (i := 20) rfl), tT2 (List.mem_of_getElem? (i := 49) rfl), tT2 (List.mem_of_getElem? (i := 50) rfl)⟩
theorem lw_p5 : lw_okq (⟨"MossPromises$Reader", "readPromise", "()Z"⟩, 4) := ⟨⟨by decide +kernel, by decide +kernel⟩, tT1 (List.mem_of_getElem? (i := 20) rfl), tT2 (List.mem_of_getElem? (i := 53) rfl), tT2 (List.mem_of_getElem? (i := 54) rfl)⟩
theorem lw_p6 : lw_okq (⟨"MossPromises$Reader", "readWords", "(I)Z"⟩, 4) := ⟨⟨by decide +kernel, by decide +kernel⟩, tT1 (List.mem_of_getElem? (i := 20) rfl), tT2 (List.mem_of_getElem? (i := 57) rfl), tT2 (List.mem_of_getElem? (i := 58) rfl)⟩
theorem lw_p7 : lw_okq (⟨"MossPromises$Reader", "readClash", "()Z"⟩, 4) := ⟨⟨by decide +kernel, by decide +kernel⟩, tT1 (List.mem_of_getElem? (i := 20) rfl), tT2 (List.mem_of_getElem? (i := 61) rfl), tT2 (List.mem_of_getElem? (i := 62) rfl)⟩
theorem lw_p8 : lw_okq (⟨"MossPromises$Reader", "readAcid", "()Z"⟩, 4) := ⟨⟨by decide +kernel, by decide +kernel⟩, tT1 (List.mem_of_getElem? (i := 20) rfl), tT2 (List.mem_of_getElem? (i := 65) rfl), tT2 (List.mem_of_getElem? (i := 66) rfl)⟩
theorem lw_p9 : lw_okq (⟨"MossPromises$Reader", "readSlide", "()Z"⟩, 4) := ⟨⟨by decide +kernel, by decide +kernel⟩, tT1 (List.mem_of_getElem? (i := 20) rfl), tT2 (List.mem_of_getElem? (i := 69) rfl), tT2 (List.mem_of_getElem? (i := 70) rfl)⟩
theorem lw_p10 : lw_okq (⟨"MossPromises", "leftIn", "(II)I"⟩, 11) := ⟨⟨by decide +kernel, by decide +kernel⟩, tT1 (List.mem_of_getElem? (i := 12) rfl), tT2 (List.mem_of_getElem? (i := 108) rfl), tT2 (List.mem_of_getElem? (i := 109) rfl)⟩
theorem lw_p11 : lw_okq (⟨"MossPromises", "lyingLeft", "(IIII)I"⟩, 11) := ⟨⟨by decide +kernel, by decide +kernel⟩, tT1 (List.mem_of_getElem? (i := 12) rfl), tT2 (List.mem_of_getElem? (i := 112) rfl), tT2 (List.mem_of_getElem? (i := 113) rfl)⟩
theorem lw_p12 : lw_okq (⟨"MossPromises", "lyingIn", "(I)I"⟩, 11) := ⟨⟨by decide +kernel, by decide +kernel⟩, tT1 (List.mem_of_getElem? (i := 12) rfl), tT2 (List.mem_of_getElem? (i := 131) rfl), tT2 (List.mem_of_getElem? (i := 132) rfl)⟩
theorem lw_p13 : lw_okq (⟨"MossPromises", "liesIn", "(II)Z"⟩, 11) := ⟨⟨by decide +kernel, by decide +kernel⟩, tT1 (List.mem_of_getElem? (i := 12) rfl), tT2 (List.mem_of_getElem? (i := 135) rfl), tT2 (List.mem_of_getElem? (i := 136) rfl)⟩
theorem lw_p14 : lw_okq (⟨"MossPromises", "isNow", "(II)Z"⟩, 11) := ⟨⟨by decide +kernel, by decide +kernel⟩, tT1 (List.mem_of_getElem? (i := 12) rfl), tT2 (List.mem_of_getElem? (i := 139) rfl), tT2 (List.mem_of_getElem? (i := 140) rfl)⟩
theorem lw_p15 : lw_okq (⟨"MossPromises", "firstSlide", "(I)I"⟩, 11) := ⟨⟨by decide +kernel, by decide +kernel⟩, tT1 (List.mem_of_getElem? (i := 12) rfl), tT2 (List.mem_of_getElem? (i := 143) rfl), tT2 (List.mem_of_getElem? (i := 144) rfl)⟩
theorem lw_p16 : lw_okq (⟨"MossPromises", "beginWetThen", "(I)V"⟩, 11) := ⟨⟨by decide +kernel, by decide +kernel⟩, tT1 (List.mem_of_getElem? (i := 12) rfl), tT2 (List.mem_of_getElem? (i := 147) rfl), tT2 (List.mem_of_getElem? (i := 148) rfl)⟩
theorem lw_p17 : lw_okq (⟨"MossPromises", "letYearPass", "([I)I"⟩, 11) := ⟨⟨by decide +kernel, by decide +kernel⟩, tT1 (List.mem_of_getElem? (i := 12) rfl), tT2 (List.mem_of_getElem? (i := 154) rfl), tT2 (List.mem_of_getElem? (i := 155) rfl)⟩
theorem lw_p18 : lw_okq (⟨"MossPromises", "thoseThatAre", "(I)I"⟩, 11) := ⟨⟨by decide +kernel, by decide +kernel⟩, tT1 (List.mem_of_getElem? (i := 12) rfl), tT2 (List.mem_of_getElem? (i := 166) rfl), tT2 (List.mem_of_getElem? (i := 167) rfl)⟩
theorem lw_p19 : lw_okq (⟨"MossPromises", "mayBeDone", "(II)Z"⟩, 11) := ⟨⟨by decide +kernel, by decide +kernel⟩, tT1 (List.mem_of_getElem? (i := 12) rfl), tT2 (List.mem_of_getElem? (i := 192) rfl), tT2 (List.mem_of_getElem? (i := 193) rfl)⟩
theorem lw_p20 : lw_okq (⟨"MossPromises", "beginsAsSeen", "(I)Z"⟩, 11) := ⟨⟨by decide +kernel, by decide +kernel⟩, tT1 (List.mem_of_getElem? (i := 12) rfl), tT3 (List.mem_of_getElem? (i := 1) rfl), tT3 (List.mem_of_getElem? (i := 2) rfl)⟩
theorem lw_p21 : lw_okq (⟨"MossPromises", "bestKept", "()I"⟩, 11) := ⟨⟨by decide +kernel, by decide +kernel⟩, tT1 (List.mem_of_getElem? (i := 12) rfl), tT3 (List.mem_of_getElem? (i := 13) rfl), tT3 (List.mem_of_getElem? (i := 14) rfl)⟩
theorem lw_p22 : lw_okq (⟨"MossPromises", "clashesWithin", "(I)Z"⟩, 11) := ⟨⟨by decide +kernel, by decide +kernel⟩, tT1 (List.mem_of_getElem? (i := 12) rfl), tT3 (List.mem_of_getElem? (i := 17) rfl), tT3 (List.mem_of_getElem? (i := 18) rfl)⟩
theorem lw_p23 : lw_okq (⟨"MossPromises", "wordsLeftOf", "(I)I"⟩, 11) := ⟨⟨by decide +kernel, by decide +kernel⟩, tT1 (List.mem_of_getElem? (i := 12) rfl), tT3 (List.mem_of_getElem? (i := 21) rfl), tT3 (List.mem_of_getElem? (i := 22) rfl)⟩
theorem lw_p24 : lw_okq (⟨"MossPromises", "bestOrdered", "()I"⟩, 11) := ⟨⟨by decide +kernel, by decide +kernel⟩, tT1 (List.mem_of_getElem? (i := 12) rfl), tT3 (List.mem_of_getElem? (i := 29) rfl), tT3 (List.mem_of_getElem? (i := 30) rfl)⟩
theorem lw_p25 : lw_okq (⟨"MossPromises", "endsByDue", "(I)Z"⟩, 11) := ⟨⟨by decide +kernel, by decide +kernel⟩, tT1 (List.mem_of_getElem? (i := 12) rfl), tT3 (List.mem_of_getElem? (i := 33) rfl), tT3 (List.mem_of_getElem? (i := 34) rfl)⟩
theorem lw_p26 : lw_okq (⟨"MossPromises", "earliestDue", "(I)I"⟩, 11) := ⟨⟨by decide +kernel, by decide +kernel⟩, tT1 (List.mem_of_getElem? (i := 12) rfl), tT3 (List.mem_of_getElem? (i := 37) rfl), tT3 (List.mem_of_getElem? (i := 38) rfl)⟩
theorem lw_p27 : lw_okq (⟨"MossPromises", "staysIfDry", "(II)Z"⟩, 11) := ⟨⟨by decide +kernel, by decide +kernel⟩, tT1 (List.mem_of_getElem? (i := 12) rfl), tT3 (List.mem_of_getElem? (i := 48) rfl), tT3 (List.mem_of_getElem? (i := 49) rfl)⟩
theorem lw_p28 : lw_okq (⟨"MossPromises", "asWord", "(I)I"⟩, 11) := ⟨⟨by decide +kernel, by decide +kernel⟩, tT1 (List.mem_of_getElem? (i := 12) rfl), tT3 (List.mem_of_getElem? (i := 70) rfl), tT3 (List.mem_of_getElem? (i := 71) rfl)⟩
theorem lw_p29 : lw_okq (⟨"MossPromises", "asVow", "(I)I"⟩, 11) := ⟨⟨by decide +kernel, by decide +kernel⟩, tT1 (List.mem_of_getElem? (i := 12) rfl), tT3 (List.mem_of_getElem? (i := 74) rfl), tT3 (List.mem_of_getElem? (i := 75) rfl)⟩
theorem lw_p30 : lw_okq (⟨"MossPromises", "asLoan", "(I)I"⟩, 11) := ⟨⟨by decide +kernel, by decide +kernel⟩, tT1 (List.mem_of_getElem? (i := 12) rfl), tT3 (List.mem_of_getElem? (i := 79) rfl), tT3 (List.mem_of_getElem? (i := 80) rfl)⟩
theorem lw_p31 : lw_okq (⟨"MossPromises", "asBride", "(I)I"⟩, 11) := ⟨⟨by decide +kernel, by decide +kernel⟩, tT1 (List.mem_of_getElem? (i := 12) rfl), tT3 (List.mem_of_getElem? (i := 84) rfl), tT3 (List.mem_of_getElem? (i := 85) rfl)⟩
theorem lw_p32 : lw_okq (⟨"MossPromises", "asOak", "(I)I"⟩, 11) := ⟨⟨by decide +kernel, by decide +kernel⟩, tT1 (List.mem_of_getElem? (i := 12) rfl), tT3 (List.mem_of_getElem? (i := 89) rfl), tT3 (List.mem_of_getElem? (i := 90) rfl)⟩
theorem lw_p33 : lw_okq (⟨"MossPromises", "asThumb", "(I)I"⟩, 11) := ⟨⟨by decide +kernel, by decide +kernel⟩, tT1 (List.mem_of_getElem? (i := 12) rfl), tT3 (List.mem_of_getElem? (i := 94) rfl), tT3 (List.mem_of_getElem? (i := 95) rfl)⟩
theorem lw_p34 : lw_okq (⟨"MossPromisesModel", "begins", "()V"⟩, 30) := ⟨⟨by decide +kernel, by decide +kernel⟩, tT3 (List.mem_of_getElem? (i := 116) rfl), tT3 (List.mem_of_getElem? (i := 122) rfl), tT3 (List.mem_of_getElem? (i := 123) rfl)⟩
theorem lw_p35 : lw_okq (⟨"MossPromisesModel", "settles", "()V"⟩, 30) := ⟨⟨by decide +kernel, by decide +kernel⟩, tT3 (List.mem_of_getElem? (i := 116) rfl), tT3 (List.mem_of_getElem? (i := 126) rfl), tT3 (List.mem_of_getElem? (i := 127) rfl)⟩
theorem lw_p36 : lw_okq (⟨"MossPromisesModel", "advances", "()V"⟩, 30) := ⟨⟨by decide +kernel, by decide +kernel⟩, tT3 (List.mem_of_getElem? (i := 116) rfl), tT3 (List.mem_of_getElem? (i := 236) rfl), tT3 (List.mem_of_getElem? (i := 237) rfl)⟩
theorem lw_p37 : lw_okq (⟨"MossPromisesModel", "letterAt", "(I)I"⟩, 30) := ⟨⟨by decide +kernel, by decide +kernel⟩, tT3 (List.mem_of_getElem? (i := 116) rfl), tT4 (List.mem_of_getElem? (i := 0) rfl), tT4 (List.mem_of_getElem? (i := 1) rfl)⟩
theorem lw_p38 : lw_okq (⟨"MossPromisesModel", "isWell", "()Z"⟩, 30) := ⟨⟨by decide +kernel, by decide +kernel⟩, tT3 (List.mem_of_getElem? (i := 116) rfl), tT4 (List.mem_of_getElem? (i := 7) rfl), tT4 (List.mem_of_getElem? (i := 8) rfl)⟩
theorem lw_p39 : lw_okq (⟨"MossPromisesModel", "mayBegin", "()Z"⟩, 30) := ⟨⟨by decide +kernel, by decide +kernel⟩, tT3 (List.mem_of_getElem? (i := 116) rfl), tT4 (List.mem_of_getElem? (i := 11) rfl), tT4 (List.mem_of_getElem? (i := 12) rfl)⟩
theorem lw_p40 : lw_okq (⟨"MossPromisesModel", "takes", "(Z)I"⟩, 30) := ⟨⟨by decide +kernel, by decide +kernel⟩, tT3 (List.mem_of_getElem? (i := 116) rfl), tT4 (List.mem_of_getElem? (i := 15) rfl), tT4 (List.mem_of_getElem? (i := 16) rfl)⟩
theorem lw_p41 : lw_okq (⟨"MossPromisesModel", "readsItem", "(I)V"⟩, 30) := ⟨⟨by decide +kernel, by decide +kernel⟩, tT3 (List.mem_of_getElem? (i := 116) rfl), tT4 (List.mem_of_getElem? (i := 19) rfl), tT4 (List.mem_of_getElem? (i := 20) rfl)⟩
theorem lw_p42 : lw_okq (⟨"MossPromisesModel", "number", "(II)I"⟩, 30) := ⟨⟨by decide +kernel, by decide +kernel⟩, tT3 (List.mem_of_getElem? (i := 116) rfl), tT4 (List.mem_of_getElem? (i := 23) rfl), tT4 (List.mem_of_getElem? (i := 24) rfl)⟩
theorem lw_p43 : lw_okq (⟨"MossPromisesModel", "readsPromise", "()V"⟩, 30) := ⟨⟨by decide +kernel, by decide +kernel⟩, tT3 (List.mem_of_getElem? (i := 116) rfl), tT4 (List.mem_of_getElem? (i := 27) rfl), tT4 (List.mem_of_getElem? (i := 28) rfl)⟩
theorem lw_p44 : lw_okq (⟨"MossPromisesModel", "readsClash", "()V"⟩, 30) := ⟨⟨by decide +kernel, by decide +kernel⟩, tT3 (List.mem_of_getElem? (i := 116) rfl), tT4 (List.mem_of_getElem? (i := 31) rfl), tT4 (List.mem_of_getElem? (i := 32) rfl)⟩
theorem lw_p45 : lw_okq (⟨"MossPromisesModel", "isPromise", "(I)Z"⟩, 30) := ⟨⟨by decide +kernel, by decide +kernel⟩, tT3 (List.mem_of_getElem? (i := 116) rfl), tT4 (List.mem_of_getElem? (i := 43) rfl), tT4 (List.mem_of_getElem? (i := 44) rfl)⟩
theorem lw_p46 : lw_okq (⟨"MossPromisesModel", "leftNow", "(I)I"⟩, 30) := ⟨⟨by decide +kernel, by decide +kernel⟩, tT3 (List.mem_of_getElem? (i := 116) rfl), tT4 (List.mem_of_getElem? (i := 51) rfl), tT4 (List.mem_of_getElem? (i := 52) rfl)⟩
theorem lw_p47 : lw_okq (⟨"MossPromisesModel", "leftIn", "(II)I"⟩, 30) := ⟨⟨by decide +kernel, by decide +kernel⟩, tT3 (List.mem_of_getElem? (i := 116) rfl), tT4 (List.mem_of_getElem? (i := 55) rfl), tT4 (List.mem_of_getElem? (i := 56) rfl)⟩
theorem lw_p48 : lw_okq (⟨"MossPromisesModel", "lyingIn", "(I)I"⟩, 30) := ⟨⟨by decide +kernel, by decide +kernel⟩, tT3 (List.mem_of_getElem? (i := 116) rfl), tT4 (List.mem_of_getElem? (i := 66) rfl), tT4 (List.mem_of_getElem? (i := 67) rfl)⟩
theorem lw_p49 : lw_okq (⟨"MossPromisesModel", "slides", "(I)I"⟩, 30) := ⟨⟨by decide +kernel, by decide +kernel⟩, tT3 (List.mem_of_getElem? (i := 116) rfl), tT4 (List.mem_of_getElem? (i := 70) rfl), tT4 (List.mem_of_getElem? (i := 71) rfl)⟩
theorem lw_p50 : lw_okq (⟨"MossPromisesModel", "wetNow", "()V"⟩, 30) := ⟨⟨by decide +kernel, by decide +kernel⟩, tT3 (List.mem_of_getElem? (i := 116) rfl), tT4 (List.mem_of_getElem? (i := 74) rfl), tT4 (List.mem_of_getElem? (i := 75) rfl)⟩
theorem lw_p51 : lw_okq (⟨"MossPromisesModel", "slidesOf", "()I"⟩, 30) := ⟨⟨by decide +kernel, by decide +kernel⟩, tT3 (List.mem_of_getElem? (i := 116) rfl), tT4 (List.mem_of_getElem? (i := 78) rfl), tT4 (List.mem_of_getElem? (i := 79) rfl)⟩
theorem lw_p52 : lw_okq (⟨"MossPromisesModel", "those", "(I)I"⟩, 30) := ⟨⟨by decide +kernel, by decide +kernel⟩, tT3 (List.mem_of_getElem? (i := 116) rfl), tT4 (List.mem_of_getElem? (i := 86) rfl), tT4 (List.mem_of_getElem? (i := 87) rfl)⟩
theorem lw_p53 : lw_okq (⟨"MossPromisesModel", "notes", "()V"⟩, 30) := ⟨⟨by decide +kernel, by decide +kernel⟩, tT3 (List.mem_of_getElem? (i := 116) rfl), tT4 (List.mem_of_getElem? (i := 94) rfl), tT4 (List.mem_of_getElem? (i := 95) rfl)⟩
theorem lw_p54 : lw_okq (⟨"MossPromisesModel", "canBe", "(I)Z"⟩, 30) := ⟨⟨by decide +kernel, by decide +kernel⟩, tT3 (List.mem_of_getElem? (i := 116) rfl), tT4 (List.mem_of_getElem? (i := 141) rfl), tT4 (List.mem_of_getElem? (i := 142) rfl)⟩
theorem lw_p55 : lw_okq (⟨"MossPromisesModel", "wordsOf", "(I)I"⟩, 30) := ⟨⟨by decide +kernel, by decide +kernel⟩, tT3 (List.mem_of_getElem? (i := 116) rfl), tT4 (List.mem_of_getElem? (i := 153) rfl), tT4 (List.mem_of_getElem? (i := 154) rfl)⟩
theorem lw_p56 : lw_okq (⟨"MossPromisesModel", "agree", "(I)Z"⟩, 30) := ⟨⟨by decide +kernel, by decide +kernel⟩, tT3 (List.mem_of_getElem? (i := 116) rfl), tT4 (List.mem_of_getElem? (i := 157) rfl), tT4 (List.mem_of_getElem? (i := 158) rfl)⟩
theorem lw_p57 : lw_okq (⟨"MossPromisesModel", "canOrder", "(I)Z"⟩, 30) := ⟨⟨by decide +kernel, by decide +kernel⟩, tT3 (List.mem_of_getElem? (i := 116) rfl), tT4 (List.mem_of_getElem? (i := 165) rfl), tT4 (List.mem_of_getElem? (i := 166) rfl)⟩
theorem lw_p58 : lw_okq (⟨"MossPromisesModel", "soonest", "(I)I"⟩, 30) := ⟨⟨by decide +kernel, by decide +kernel⟩, tT3 (List.mem_of_getElem? (i := 116) rfl), tT4 (List.mem_of_getElem? (i := 169) rfl), tT4 (List.mem_of_getElem? (i := 170) rfl)⟩
theorem lw_p59 : lw_okq (⟨"MossPromisesModel", "staysFor", "(II)Z"⟩, 30) := ⟨⟨by decide +kernel, by decide +kernel⟩, tT3 (List.mem_of_getElem? (i := 116) rfl), tT4 (List.mem_of_getElem? (i := 177) rfl), tT4 (List.mem_of_getElem? (i := 178) rfl)⟩
def lw_privs_1 : List (MethodName × Nat) := [(⟨"MossPromises$Text", "letterAt", "(I)I"⟩, 6), (⟨"MossPromises$Text", "readDigits", "()V"⟩, 6), (⟨"MossPromises$Reader", "readPerson", "()Z"⟩, 4), (⟨"MossPromises$Reader", "readNumber", "(II)Z"⟩, 4), (⟨"MossPromises$Reader", "readEnd", "()Z"⟩, 4), (⟨"MossPromises$Reader", "readPromise", "()Z"⟩, 4), (⟨"MossPromises$Reader", "readWords", "(I)Z"⟩, 4), (⟨"MossPromises$Reader", "readClash", "()Z"⟩, 4), (⟨"MossPromises$Reader", "readAcid", "()Z"⟩, 4), (⟨"MossPromises$Reader", "readSlide", "()Z"⟩, 4), (⟨"MossPromises", "leftIn", "(II)I"⟩, 11), (⟨"MossPromises", "lyingLeft", "(IIII)I"⟩, 11), (⟨"MossPromises", "lyingIn", "(I)I"⟩, 11), (⟨"MossPromises", "liesIn", "(II)Z"⟩, 11), (⟨"MossPromises", "isNow", "(II)Z"⟩, 11), (⟨"MossPromises", "firstSlide", "(I)I"⟩, 11)]
theorem lw_r1 : ∀ q ∈ lw_privs_1, lw_okq q := List.forall_mem_cons.mpr ⟨lw_p0, List.forall_mem_cons.mpr ⟨lw_p1, List.forall_mem_cons.mpr ⟨lw_p2, List.forall_mem_cons.mpr ⟨lw_p3, List.forall_mem_cons.mpr ⟨lw_p4, List.forall_mem_cons.mpr ⟨lw_p5, List.forall_mem_cons.mpr ⟨lw_p6, List.forall_mem_cons.mpr ⟨lw_p7, List.forall_mem_cons.mpr ⟨lw_p8, List.forall_mem_cons.mpr ⟨lw_p9, List.forall_mem_cons.mpr ⟨lw_p10, List.forall_mem_cons.mpr ⟨lw_p11, List.forall_mem_cons.mpr ⟨lw_p12, List.forall_mem_cons.mpr ⟨lw_p13, List.forall_mem_cons.mpr ⟨lw_p14, List.forall_mem_cons.mpr ⟨lw_p15, fun _ h => absurd h List.not_mem_nil⟩⟩⟩⟩⟩⟩⟩⟩⟩⟩⟩⟩⟩⟩⟩⟩
def lw_privs_2 : List (MethodName × Nat) := [(⟨"MossPromises", "beginWetThen", "(I)V"⟩, 11), (⟨"MossPromises", "letYearPass", "([I)I"⟩, 11), (⟨"MossPromises", "thoseThatAre", "(I)I"⟩, 11), (⟨"MossPromises", "mayBeDone", "(II)Z"⟩, 11), (⟨"MossPromises", "beginsAsSeen", "(I)Z"⟩, 11), (⟨"MossPromises", "bestKept", "()I"⟩, 11), (⟨"MossPromises", "clashesWithin", "(I)Z"⟩, 11), (⟨"MossPromises", "wordsLeftOf", "(I)I"⟩, 11), (⟨"MossPromises", "bestOrdered", "()I"⟩, 11), (⟨"MossPromises", "endsByDue", "(I)Z"⟩, 11), (⟨"MossPromises", "earliestDue", "(I)I"⟩, 11), (⟨"MossPromises", "staysIfDry", "(II)Z"⟩, 11), (⟨"MossPromises", "asWord", "(I)I"⟩, 11), (⟨"MossPromises", "asVow", "(I)I"⟩, 11), (⟨"MossPromises", "asLoan", "(I)I"⟩, 11), (⟨"MossPromises", "asBride", "(I)I"⟩, 11)]
theorem lw_r2 : ∀ q ∈ lw_privs_2, lw_okq q := List.forall_mem_cons.mpr ⟨lw_p16, List.forall_mem_cons.mpr ⟨lw_p17, List.forall_mem_cons.mpr ⟨lw_p18, List.forall_mem_cons.mpr ⟨lw_p19, List.forall_mem_cons.mpr ⟨lw_p20, List.forall_mem_cons.mpr ⟨lw_p21, List.forall_mem_cons.mpr ⟨lw_p22, List.forall_mem_cons.mpr ⟨lw_p23, List.forall_mem_cons.mpr ⟨lw_p24, List.forall_mem_cons.mpr ⟨lw_p25, List.forall_mem_cons.mpr ⟨lw_p26, List.forall_mem_cons.mpr ⟨lw_p27, List.forall_mem_cons.mpr ⟨lw_p28, List.forall_mem_cons.mpr ⟨lw_p29, List.forall_mem_cons.mpr ⟨lw_p30, List.forall_mem_cons.mpr ⟨lw_p31, fun _ h => absurd h List.not_mem_nil⟩⟩⟩⟩⟩⟩⟩⟩⟩⟩⟩⟩⟩⟩⟩⟩
def lw_privs_3 : List (MethodName × Nat) := [(⟨"MossPromises", "asOak", "(I)I"⟩, 11), (⟨"MossPromises", "asThumb", "(I)I"⟩, 11), (⟨"MossPromisesModel", "begins", "()V"⟩, 30), (⟨"MossPromisesModel", "settles", "()V"⟩, 30), (⟨"MossPromisesModel", "advances", "()V"⟩, 30), (⟨"MossPromisesModel", "letterAt", "(I)I"⟩, 30), (⟨"MossPromisesModel", "isWell", "()Z"⟩, 30), (⟨"MossPromisesModel", "mayBegin", "()Z"⟩, 30), (⟨"MossPromisesModel", "takes", "(Z)I"⟩, 30), (⟨"MossPromisesModel", "readsItem", "(I)V"⟩, 30), (⟨"MossPromisesModel", "number", "(II)I"⟩, 30), (⟨"MossPromisesModel", "readsPromise", "()V"⟩, 30), (⟨"MossPromisesModel", "readsClash", "()V"⟩, 30), (⟨"MossPromisesModel", "isPromise", "(I)Z"⟩, 30), (⟨"MossPromisesModel", "leftNow", "(I)I"⟩, 30), (⟨"MossPromisesModel", "leftIn", "(II)I"⟩, 30)]
theorem lw_r3 : ∀ q ∈ lw_privs_3, lw_okq q := List.forall_mem_cons.mpr ⟨lw_p32, List.forall_mem_cons.mpr ⟨lw_p33, List.forall_mem_cons.mpr ⟨lw_p34, List.forall_mem_cons.mpr ⟨lw_p35, List.forall_mem_cons.mpr ⟨lw_p36, List.forall_mem_cons.mpr ⟨lw_p37, List.forall_mem_cons.mpr ⟨lw_p38, List.forall_mem_cons.mpr ⟨lw_p39, List.forall_mem_cons.mpr ⟨lw_p40, List.forall_mem_cons.mpr ⟨lw_p41, List.forall_mem_cons.mpr ⟨lw_p42, List.forall_mem_cons.mpr ⟨lw_p43, List.forall_mem_cons.mpr ⟨lw_p44, List.forall_mem_cons.mpr ⟨lw_p45, List.forall_mem_cons.mpr ⟨lw_p46, List.forall_mem_cons.mpr ⟨lw_p47, fun _ h => absurd h List.not_mem_nil⟩⟩⟩⟩⟩⟩⟩⟩⟩⟩⟩⟩⟩⟩⟩⟩
def lw_privs_4 : List (MethodName × Nat) := [(⟨"MossPromisesModel", "lyingIn", "(I)I"⟩, 30), (⟨"MossPromisesModel", "slides", "(I)I"⟩, 30), (⟨"MossPromisesModel", "wetNow", "()V"⟩, 30), (⟨"MossPromisesModel", "slidesOf", "()I"⟩, 30), (⟨"MossPromisesModel", "those", "(I)I"⟩, 30), (⟨"MossPromisesModel", "notes", "()V"⟩, 30), (⟨"MossPromisesModel", "canBe", "(I)Z"⟩, 30), (⟨"MossPromisesModel", "wordsOf", "(I)I"⟩, 30), (⟨"MossPromisesModel", "agree", "(I)Z"⟩, 30), (⟨"MossPromisesModel", "canOrder", "(I)Z"⟩, 30), (⟨"MossPromisesModel", "soonest", "(I)I"⟩, 30), (⟨"MossPromisesModel", "staysFor", "(II)Z"⟩, 30)]
theorem lw_r4 : ∀ q ∈ lw_privs_4, lw_okq q := List.forall_mem_cons.mpr ⟨lw_p48, List.forall_mem_cons.mpr ⟨lw_p49, List.forall_mem_cons.mpr ⟨lw_p50, List.forall_mem_cons.mpr ⟨lw_p51, List.forall_mem_cons.mpr ⟨lw_p52, List.forall_mem_cons.mpr ⟨lw_p53, List.forall_mem_cons.mpr ⟨lw_p54, List.forall_mem_cons.mpr ⟨lw_p55, List.forall_mem_cons.mpr ⟨lw_p56, List.forall_mem_cons.mpr ⟨lw_p57, List.forall_mem_cons.mpr ⟨lw_p58, List.forall_mem_cons.mpr ⟨lw_p59, fun _ h => absurd h List.not_mem_nil⟩⟩⟩⟩⟩⟩⟩⟩⟩⟩⟩⟩
def lw_privs : List (MethodName × Nat) := lw_privs_1 ++ (lw_privs_2 ++ (lw_privs_3 ++ (lw_privs_4)))
def lw_tbl : List Cond := k2_sels lw_privs ++ tables_1
theorem lw_privs_ok : ∀ q ∈ lw_privs, lw_okq q := by
  show ∀ q ∈ lw_privs_1 ++ (lw_privs_2 ++ (lw_privs_3 ++ (lw_privs_4))), lw_okq q
  exact List.forall_mem_append.mpr ⟨lw_r1, List.forall_mem_append.mpr ⟨lw_r2, List.forall_mem_append.mpr ⟨lw_r3, lw_r4⟩⟩⟩
/-! one list of words for every method: all of the tables' that stay good -/
def wsA : List Cond := lw_tbl.filter goodWord
theorem mA {w : Cond} (h : w ∈ lw_tbl) (hg : goodWord w = true) : w ∈ wsA := List.mem_filter.mpr ⟨h, hg⟩
theorem wsA_in {w : Cond} (h : w ∈ wsA) : w ∈ lw_tbl := (List.mem_filter.mp h).1
theorem wsA_good {w : Cond} (h : w ∈ wsA) : goodWord w = true := (List.mem_filter.mp h).2
theorem tA1 {w : Cond} (h : w ∈ tables_1_1) : w ∈ lw_tbl := List.mem_append_right _ (tT1 h)
theorem tA2 {w : Cond} (h : w ∈ tables_1_2) : w ∈ lw_tbl := List.mem_append_right _ (tT2 h)
theorem tA3 {w : Cond} (h : w ∈ tables_1_3) : w ∈ lw_tbl := List.mem_append_right _ (tT3 h)
theorem tA4 {w : Cond} (h : w ∈ tables_1_4) : w ∈ lw_tbl := List.mem_append_right _ (tT4 h)
theorem tS {q : MethodName × Nat} (h : q ∈ lw_privs) : Cond.selects q.1.cls q.1 q.1 ∈ lw_tbl := List.mem_append_left _ (List.mem_map.mpr ⟨q, h, rfl⟩)
/-- what a call of an own method wants of the tables -/
def lkV (own : String) (index : Nat) (y : MethodName) (Cn : String) (bytes : ByteArray) (maxL : Nat) (ret : Option FieldType) (n : Nat) : Prop := Cond.code y bytes maxL ret ∈ wsA ∧ Cond.methodLink own index y ∈ wsA ∧ Cond.instanceMethod y ∈ wsA ∧ Cond.selects Cn y y ∈ wsA ∧ Cond.initialized Cn ∈ wsA ∧ (y.cls = Cn ∧ y.cls ≠ "java/lang/invoke/MethodHandle" ∧ y.cls ≠ "java/lang/invoke/VarHandle" ∧ (parseMethodDescriptor y.desc).map (fun d => d.parameters.length) = some n)
def lkS (own : String) (index : Nat) (y : MethodName) (bytes : ByteArray) (maxL : Nat) (ret : Option FieldType) (n : Nat) : Prop := Cond.code y bytes maxL ret ∈ wsA ∧ Cond.methodLink own index y ∈ wsA ∧ Cond.static y ∈ wsA ∧ Cond.initialized y.cls ∈ wsA ∧ (y.cls ≠ "java/lang/invoke/MethodHandle" ∧ y.cls ≠ "java/lang/invoke/VarHandle" ∧ (parseMethodDescriptor y.desc).map (fun d => d.parameters.length) = some n)
theorem tP1 {q : MethodName × Nat} (h : q ∈ lw_privs_1) : q ∈ lw_privs := List.mem_append_left _ h
theorem tP2 {q : MethodName × Nat} (h : q ∈ lw_privs_2) : q ∈ lw_privs := List.mem_append_right _ (List.mem_append_left _ h)
theorem tP3 {q : MethodName × Nat} (h : q ∈ lw_privs_3) : q ∈ lw_privs := List.mem_append_right _ (List.mem_append_right _ (List.mem_append_left _ h))
theorem tP4 {q : MethodName × Nat} (h : q ∈ lw_privs_4) : q ∈ lw_privs := List.mem_append_right _ (List.mem_append_right _ (List.mem_append_right _ (h)))


def RX0 : String := "MossPromises$Bog"
def TX0 : u_T := fun k => match k with
  | 0 => ("MossPromises$Bog", "cut", "[I", true)
  | 1 => ("MossPromises$Bog", "wet", "[I", true)
  | 2 => ("MossPromises$Bog", "is", "[I", true)
  | 3 => ("MossPromises$Bog", "dried", "[I", true)
  | 4 => ("MossPromises$Bog", "leftWhenFound", "[I", true)
  | _ => ("MossPromises$Bog", "year", "I", false)
def tyX0 : Nat → FieldType := fun k => match k with
  | 0 => .array .int
  | 1 => .array .int
  | 2 => .array .int
  | 3 => .array .int
  | 4 => .array .int
  | _ => .int
abbrev wsX00 : List Cond := u_ws RX0 TX0 6
theorem nmX0 : ∀ a, a < 6 → ∀ b, b < 6 → a ≠ b → (TX0 a).2.1 ≠ (TX0 b).2.1 := by decide +kernel
theorem tyX0_ok : ∀ k, k < 6 → parseFieldDescriptor (TX0 k).2.2.1 = some (tyX0 k) := by decide +kernel
abbrev cX0_init : ByteArray := prog_2_method_1_code
def yX0_init : MethodName := ⟨RX0, "<init>", "()V"⟩
abbrev cX0_beginAgain : ByteArray := prog_2_method_2_code
def yX0_beginAgain : MethodName := ⟨RX0, "beginAgain", "()V"⟩
abbrev cX0_become : ByteArray := prog_2_method_3_code
def yX0_become : MethodName := ⟨RX0, "become", "(LMossPromises$Bog;)V"⟩
def RX1 : String := "MossPromises$Past"
def TX1 : u_T := fun k => match k with
  | 0 => ("MossPromises$Past", "ring", "[LMossPromises$Bog;", true)
  | 1 => ("MossPromises$Past", "next", "I", false)
  | _ => ("MossPromises$Past", "count", "I", false)
def tyX1 : Nat → FieldType := fun k => match k with
  | 0 => .array (.object "MossPromises$Bog")
  | 1 => .int
  | _ => .int
abbrev wsX10 : List Cond := u_ws RX1 TX1 3
theorem nmX1 : ∀ a, a < 3 → ∀ b, b < 3 → a ≠ b → (TX1 a).2.1 ≠ (TX1 b).2.1 := by decide +kernel
theorem tyX1_ok : ∀ k, k < 3 → parseFieldDescriptor (TX1 k).2.2.1 = some (tyX1 k) := by decide +kernel
abbrev cX1_init : ByteArray := prog_3_method_1_code
def yX1_init : MethodName := ⟨RX1, "<init>", "()V"⟩
abbrev cX1_empty : ByteArray := prog_3_method_2_code
def yX1_empty : MethodName := ⟨RX1, "empty", "()V"⟩
abbrev cX1_remember : ByteArray := prog_3_method_3_code
def yX1_remember : MethodName := ⟨RX1, "remember", "(LMossPromises$Bog;)V"⟩
abbrev cX1_giveBack : ByteArray := prog_3_method_4_code
def yX1_giveBack : MethodName := ⟨RX1, "giveBack", "(LMossPromises$Bog;)V"⟩
def RX2 : String := "MossPromises$Reader"
def TX2 : u_T := fun k => match k with
  | 0 => ("MossPromises$Reader", "text", "LMossPromises$Text;", true)
  | 1 => ("MossPromises$Reader", "told", "LMossPromises$Told;", true)
  | 2 => ("MossPromises$Reader", "acidTold", "Z", false)
  | _ => ("MossPromises$Reader", "slideTold", "Z", false)
def tyX2 : Nat → FieldType := fun k => match k with
  | 0 => .object "MossPromises$Text"
  | 1 => .object "MossPromises$Told"
  | 2 => .boolean
  | _ => .boolean
abbrev wsX20 : List Cond := u_ws RX2 TX2 4
theorem nmX2 : ∀ a, a < 4 → ∀ b, b < 4 → a ≠ b → (TX2 a).2.1 ≠ (TX2 b).2.1 := by decide +kernel
theorem tyX2_ok : ∀ k, k < 4 → parseFieldDescriptor (TX2 k).2.2.1 = some (tyX2 k) := by decide +kernel
abbrev cX2_init : ByteArray := prog_4_method_1_code
def yX2_init : MethodName := ⟨RX2, "<init>", "()V"⟩
abbrev cX2_readAll : ByteArray := prog_4_method_2_code
def yX2_readAll : MethodName := ⟨RX2, "readAll", "()I"⟩
abbrev cX2_readPerson : ByteArray := prog_4_method_3_code
def yX2_readPerson : MethodName := ⟨RX2, "readPerson", "()Z"⟩
abbrev cX2_readPromise : ByteArray := prog_4_method_4_code
def yX2_readPromise : MethodName := ⟨RX2, "readPromise", "()Z"⟩
abbrev cX2_readWords : ByteArray := prog_4_method_5_code
def yX2_readWords : MethodName := ⟨RX2, "readWords", "(I)Z"⟩
abbrev cX2_readClash : ByteArray := prog_4_method_6_code
def yX2_readClash : MethodName := ⟨RX2, "readClash", "()Z"⟩
abbrev cX2_readAcid : ByteArray := prog_4_method_7_code
def yX2_readAcid : MethodName := ⟨RX2, "readAcid", "()Z"⟩
abbrev cX2_readSlide : ByteArray := prog_4_method_8_code
def yX2_readSlide : MethodName := ⟨RX2, "readSlide", "()Z"⟩
abbrev cX2_readNumber : ByteArray := prog_4_method_9_code
def yX2_readNumber : MethodName := ⟨RX2, "readNumber", "(II)Z"⟩
abbrev cX2_readEnd : ByteArray := prog_4_method_10_code
def yX2_readEnd : MethodName := ⟨RX2, "readEnd", "()Z"⟩
def RX3 : String := "MossPromises$Text"
def TX3 : u_T := fun k => match k with
  | 0 => ("MossPromises$Text", "letters", "[I", true)
  | 1 => ("MossPromises$Text", "length", "I", false)
  | 2 => ("MossPromises$Text", "sign", "I", false)
  | 3 => ("MossPromises$Text", "start", "I", false)
  | 4 => ("MossPromises$Text", "behind", "I", false)
  | _ => ("MossPromises$Text", "number", "I", false)
def tyX3 : Nat → FieldType := fun k => match k with
  | 0 => .array .int
  | 1 => .int
  | 2 => .int
  | 3 => .int
  | 4 => .int
  | _ => .int
abbrev wsX30 : List Cond := u_ws RX3 TX3 6
theorem nmX3 : ∀ a, a < 6 → ∀ b, b < 6 → a ≠ b → (TX3 a).2.1 ≠ (TX3 b).2.1 := by decide +kernel
theorem tyX3_ok : ∀ k, k < 6 → parseFieldDescriptor (TX3 k).2.2.1 = some (tyX3 k) := by decide +kernel
abbrev cX3_init : ByteArray := prog_5_method_1_code
def yX3_init : MethodName := ⟨RX3, "<init>", "()V"⟩
abbrev cX3_add : ByteArray := prog_5_method_2_code
def yX3_add : MethodName := ⟨RX3, "add", "(I)Z"⟩
abbrev cX3_toFront : ByteArray := prog_5_method_3_code
def yX3_toFront : MethodName := ⟨RX3, "toFront", "()V"⟩
abbrev cX3_readToken : ByteArray := prog_5_method_4_code
def yX3_readToken : MethodName := ⟨RX3, "readToken", "()V"⟩
abbrev cX3_readDigits : ByteArray := prog_5_method_5_code
def yX3_readDigits : MethodName := ⟨RX3, "readDigits", "()V"⟩
abbrev cX3_letterAt : ByteArray := prog_5_method_6_code
def yX3_letterAt : MethodName := ⟨RX3, "letterAt", "(I)I"⟩
abbrev cX3_isDigit : ByteArray := prog_5_method_7_code
def yX3_isDigit : MethodName := ⟨RX3, "isDigit", "(I)Z"⟩
def RX4 : String := "MossPromises$Told"
def TX4 : u_T := fun k => match k with
  | 0 => ("MossPromises$Told", "dies", "[I", true)
  | 1 => ("MossPromises$Told", "heir", "[I", true)
  | 2 => ("MossPromises$Told", "who", "[I", true)
  | 3 => ("MossPromises$Told", "cell", "[I", true)
  | 4 => ("MossPromises$Told", "depth", "[I", true)
  | 5 => ("MossPromises$Told", "span", "[I", true)
  | 6 => ("MossPromises$Told", "due", "[I", true)
  | 7 => ("MossPromises$Told", "wordCount", "[I", true)
  | 8 => ("MossPromises$Told", "words", "[I", true)
  | 9 => ("MossPromises$Told", "clashes", "[I", true)
  | 10 => ("MossPromises$Told", "persons", "I", false)
  | 11 => ("MossPromises$Told", "promises", "I", false)
  | 12 => ("MossPromises$Told", "acid", "I", false)
  | _ => ("MossPromises$Told", "slide", "I", false)
def tyX4 : Nat → FieldType := fun k => match k with
  | 0 => .array .int
  | 1 => .array .int
  | 2 => .array .int
  | 3 => .array .int
  | 4 => .array .int
  | 5 => .array .int
  | 6 => .array .int
  | 7 => .array .int
  | 8 => .array .int
  | 9 => .array .int
  | 10 => .int
  | 11 => .int
  | 12 => .int
  | _ => .int
abbrev wsX40 : List Cond := u_ws RX4 TX4 14
theorem nmX4 : ∀ a, a < 14 → ∀ b, b < 14 → a ≠ b → (TX4 a).2.1 ≠ (TX4 b).2.1 := by decide +kernel
theorem tyX4_ok : ∀ k, k < 14 → parseFieldDescriptor (TX4 k).2.2.1 = some (tyX4 k) := by decide +kernel
abbrev cX4_init : ByteArray := prog_6_method_1_code
def yX4_init : MethodName := ⟨RX4, "<init>", "()V"⟩
abbrev cX4_beginAgain : ByteArray := prog_6_method_2_code
def yX4_beginAgain : MethodName := ⟨RX4, "beginAgain", "()V"⟩
abbrev cX4_become : ByteArray := prog_6_method_3_code
def yX4_become : MethodName := ⟨RX4, "become", "(LMossPromises$Told;)V"⟩
abbrev cX4_hasPerson : ByteArray := prog_6_method_4_code
def yX4_hasPerson : MethodName := ⟨RX4, "hasPerson", "(I)Z"⟩
abbrev cX4_hasPromise : ByteArray := prog_6_method_5_code
def yX4_hasPromise : MethodName := ⟨RX4, "hasPromise", "(I)Z"⟩
abbrev cX4_wordAt : ByteArray := prog_6_method_6_code
def yX4_wordAt : MethodName := ⟨RX4, "wordAt", "(II)I"⟩
def RX5 : String := "MossPromises"
def TX5 : u_T := fun k => match k with
  | 0 => ("MossPromises", "reader", "LMossPromises$Reader;", true)
  | 1 => ("MossPromises", "told", "LMossPromises$Told;", true)
  | 2 => ("MossPromises", "now", "LMossPromises$Bog;", true)
  | 3 => ("MossPromises", "past", "LMossPromises$Past;", true)
  | 4 => ("MossPromises", "images", "[LMossPromises$Bog;", true)
  | 5 => ("MossPromises", "imageKept", "[Z", true)
  | 6 => ("MossPromises", "seen", "[I", true)
  | 7 => ("MossPromises", "wetThen", "[I", true)
  | 8 => ("MossPromises", "wordVotes", "[I", true)
  | 9 => ("MossPromises", "seenCount", "I", false)
  | _ => ("MossPromises", "traced", "J", false)
def tyX5 : Nat → FieldType := fun k => match k with
  | 0 => .object "MossPromises$Reader"
  | 1 => .object "MossPromises$Told"
  | 2 => .object "MossPromises$Bog"
  | 3 => .object "MossPromises$Past"
  | 4 => .array (.object "MossPromises$Bog")
  | 5 => .array .boolean
  | 6 => .array .int
  | 7 => .array .int
  | 8 => .array .int
  | 9 => .int
  | _ => .long
abbrev wsX50 : List Cond := u_ws RX5 TX5 11
theorem nmX5 : ∀ a, a < 11 → ∀ b, b < 11 → a ≠ b → (TX5 a).2.1 ≠ (TX5 b).2.1 := by decide +kernel
theorem tyX5_ok : ∀ k, k < 11 → parseFieldDescriptor (TX5 k).2.2.1 = some (tyX5 k) := by decide +kernel
abbrev cX5_init : ByteArray := prog_1_method_1_code
def yX5_init : MethodName := ⟨RX5, "<init>", "()V"⟩
abbrev cX5_type : ByteArray := prog_1_method_2_code
def yX5_type : MethodName := ⟨RX5, "type", "(I)I"⟩
abbrev cX5_clear : ByteArray := prog_1_method_3_code
def yX5_clear : MethodName := ⟨RX5, "clear", "()I"⟩
abbrev cX5_moss : ByteArray := prog_1_method_4_code
def yX5_moss : MethodName := ⟨RX5, "moss", "()I"⟩
abbrev cX5_person : ByteArray := prog_1_method_5_code
def yX5_person : MethodName := ⟨RX5, "person", "(II)I"⟩
abbrev cX5_promise : ByteArray := prog_1_method_6_code
def yX5_promise : MethodName := ⟨RX5, "promise", "(II)I"⟩
abbrev cX5_word : ByteArray := prog_1_method_7_code
def yX5_word : MethodName := ⟨RX5, "word", "(II)I"⟩
abbrev cX5_cell : ByteArray := prog_1_method_8_code
def yX5_cell : MethodName := ⟨RX5, "cell", "(II)I"⟩
abbrev cX5_now : ByteArray := prog_1_method_9_code
def yX5_now : MethodName := ⟨RX5, "now", "(I)I"⟩
abbrev cX5_cuts : ByteArray := prog_1_method_10_code
def yX5_cuts : MethodName := ⟨RX5, "cuts", "(I)I"⟩
abbrev cX5_drains : ByteArray := prog_1_method_11_code
def yX5_drains : MethodName := ⟨RX5, "drains", "(I)I"⟩
abbrev cX5_does : ByteArray := prog_1_method_12_code
def yX5_does : MethodName := ⟨RX5, "does", "(I)I"⟩
abbrev cX5_year : ByteArray := prog_1_method_13_code
def yX5_year : MethodName := ⟨RX5, "year", "()I"⟩
abbrev cX5_undo : ByteArray := prog_1_method_14_code
def yX5_undo : MethodName := ⟨RX5, "undo", "()I"⟩
abbrev cX5_left : ByteArray := prog_1_method_15_code
def yX5_left : MethodName := ⟨RX5, "left", "(II)I"⟩
abbrev cX5_lasts : ByteArray := prog_1_method_16_code
def yX5_lasts : MethodName := ⟨RX5, "lasts", "(III)I"⟩
abbrev cX5_duty : ByteArray := prog_1_method_17_code
def yX5_duty : MethodName := ⟨RX5, "duty", "(II)I"⟩
abbrev cX5_sees : ByteArray := prog_1_method_18_code
def yX5_sees : MethodName := ⟨RX5, "sees", "(I)I"⟩
abbrev cX5_forget : ByteArray := prog_1_method_19_code
def yX5_forget : MethodName := ⟨RX5, "forget", "()I"⟩
abbrev cX5_fits : ByteArray := prog_1_method_20_code
def yX5_fits : MethodName := ⟨RX5, "fits", "()I"⟩
abbrev cX5_likely : ByteArray := prog_1_method_21_code
def yX5_likely : MethodName := ⟨RX5, "likely", "()I"⟩
abbrev cX5_kept : ByteArray := prog_1_method_22_code
def yX5_kept : MethodName := ⟨RX5, "kept", "(I)I"⟩
abbrev cX5_order : ByteArray := prog_1_method_23_code
def yX5_order : MethodName := ⟨RX5, "order", "(I)I"⟩
abbrev cX5_drain : ByteArray := prog_1_method_24_code
def yX5_drain : MethodName := ⟨RX5, "drain", "(I)I"⟩
abbrev cX5_odds : ByteArray := prog_1_method_25_code
def yX5_odds : MethodName := ⟨RX5, "odds", "(IIII)I"⟩
abbrev cX5_rate : ByteArray := prog_1_method_26_code
def yX5_rate : MethodName := ⟨RX5, "rate", "(II)I"⟩
abbrev cX5_keep : ByteArray := prog_1_method_27_code
def yX5_keep : MethodName := ⟨RX5, "keep", "(I)I"⟩
abbrev cX5_back : ByteArray := prog_1_method_28_code
def yX5_back : MethodName := ⟨RX5, "back", "(I)I"⟩
abbrev cX5_count : ByteArray := prog_1_method_29_code
def yX5_count : MethodName := ⟨RX5, "count", "(I)I"⟩
abbrev cX5_trace : ByteArray := prog_1_method_30_code
def yX5_trace : MethodName := ⟨RX5, "trace", "()J"⟩
abbrev cX5_isCell : ByteArray := prog_1_method_31_code
def yX5_isCell : MethodName := ⟨RX5, "isCell", "(I)Z"⟩
abbrev cX5_isToldYear : ByteArray := prog_1_method_32_code
def yX5_isToldYear : MethodName := ⟨RX5, "isToldYear", "(I)Z"⟩
abbrev cX5_holds : ByteArray := prog_1_method_33_code
def yX5_holds : MethodName := ⟨RX5, "holds", "(II)Z"⟩
abbrev cX5_without : ByteArray := prog_1_method_34_code
def yX5_without : MethodName := ⟨RX5, "without", "(II)I"⟩
abbrev cX5_isNow : ByteArray := prog_1_method_35_code
def yX5_isNow : MethodName := ⟨RX5, "isNow", "(II)Z"⟩
abbrev cX5_liesIn : ByteArray := prog_1_method_36_code
def yX5_liesIn : MethodName := ⟨RX5, "liesIn", "(II)Z"⟩
abbrev cX5_lyingIn : ByteArray := prog_1_method_37_code
def yX5_lyingIn : MethodName := ⟨RX5, "lyingIn", "(I)I"⟩
abbrev cX5_thoseThatAre : ByteArray := prog_1_method_38_code
def yX5_thoseThatAre : MethodName := ⟨RX5, "thoseThatAre", "(I)I"⟩
abbrev cX5_mayBeDone : ByteArray := prog_1_method_39_code
def yX5_mayBeDone : MethodName := ⟨RX5, "mayBeDone", "(II)Z"⟩
abbrev cX5_leftIn : ByteArray := prog_1_method_40_code
def yX5_leftIn : MethodName := ⟨RX5, "leftIn", "(II)I"⟩
abbrev cX5_lyingLeft : ByteArray := prog_1_method_41_code
def yX5_lyingLeft : MethodName := ⟨RX5, "lyingLeft", "(IIII)I"⟩
abbrev cX5_beginsAsSeen : ByteArray := prog_1_method_42_code
def yX5_beginsAsSeen : MethodName := ⟨RX5, "beginsAsSeen", "(I)Z"⟩
abbrev cX5_letYearPass : ByteArray := prog_1_method_43_code
def yX5_letYearPass : MethodName := ⟨RX5, "letYearPass", "([I)I"⟩
abbrev cX5_wetAround : ByteArray := prog_1_method_44_code
def yX5_wetAround : MethodName := ⟨RX5, "wetAround", "([II)I"⟩
abbrev cX5_firstSlide : ByteArray := prog_1_method_45_code
def yX5_firstSlide : MethodName := ⟨RX5, "firstSlide", "(I)I"⟩
abbrev cX5_staysIfDry : ByteArray := prog_1_method_46_code
def yX5_staysIfDry : MethodName := ⟨RX5, "staysIfDry", "(II)Z"⟩
abbrev cX5_beginWetThen : ByteArray := prog_1_method_47_code
def yX5_beginWetThen : MethodName := ⟨RX5, "beginWetThen", "(I)V"⟩
abbrev cX5_bestKept : ByteArray := prog_1_method_48_code
def yX5_bestKept : MethodName := ⟨RX5, "bestKept", "()I"⟩
abbrev cX5_clashesWithin : ByteArray := prog_1_method_49_code
def yX5_clashesWithin : MethodName := ⟨RX5, "clashesWithin", "(I)Z"⟩
abbrev cX5_wordsLeftOf : ByteArray := prog_1_method_50_code
def yX5_wordsLeftOf : MethodName := ⟨RX5, "wordsLeftOf", "(I)I"⟩
abbrev cX5_bestOrdered : ByteArray := prog_1_method_51_code
def yX5_bestOrdered : MethodName := ⟨RX5, "bestOrdered", "()I"⟩
abbrev cX5_endsByDue : ByteArray := prog_1_method_52_code
def yX5_endsByDue : MethodName := ⟨RX5, "endsByDue", "(I)Z"⟩
abbrev cX5_earliestDue : ByteArray := prog_1_method_53_code
def yX5_earliestDue : MethodName := ⟨RX5, "earliestDue", "(I)I"⟩
abbrev cX5_choices : ByteArray := prog_1_method_54_code
def yX5_choices : MethodName := ⟨RX5, "choices", "(II)I"⟩
abbrev cX5_power : ByteArray := prog_1_method_55_code
def yX5_power : MethodName := ⟨RX5, "power", "(II)I"⟩
abbrev cX5_commonDivisor : ByteArray := prog_1_method_56_code
def yX5_commonDivisor : MethodName := ⟨RX5, "commonDivisor", "(II)I"⟩
abbrev cX5_asWord : ByteArray := prog_1_method_57_code
def yX5_asWord : MethodName := ⟨RX5, "asWord", "(I)I"⟩
abbrev cX5_asVow : ByteArray := prog_1_method_58_code
def yX5_asVow : MethodName := ⟨RX5, "asVow", "(I)I"⟩
abbrev cX5_asLoan : ByteArray := prog_1_method_59_code
def yX5_asLoan : MethodName := ⟨RX5, "asLoan", "(I)I"⟩
abbrev cX5_asBride : ByteArray := prog_1_method_60_code
def yX5_asBride : MethodName := ⟨RX5, "asBride", "(I)I"⟩
abbrev cX5_asOak : ByteArray := prog_1_method_61_code
def yX5_asOak : MethodName := ⟨RX5, "asOak", "(I)I"⟩
abbrev cX5_asThumb : ByteArray := prog_1_method_62_code
def yX5_asThumb : MethodName := ⟨RX5, "asThumb", "(I)I"⟩
def RX6 : String := "MossPromisesModel"
def TX6 : u_T := fun k => match k with
  | 0 => ("MossPromisesModel", "thrown", "I", false)
  | 1 => ("MossPromisesModel", "trace", "J", false)
  | 2 => ("MossPromisesModel", "text", "[I", true)
  | 3 => ("MossPromisesModel", "typed", "I", false)
  | 4 => ("MossPromisesModel", "next", "I", false)
  | 5 => ("MossPromisesModel", "token", "I", false)
  | 6 => ("MossPromisesModel", "place", "I", false)
  | 7 => ("MossPromisesModel", "value", "I", false)
  | 8 => ("MossPromisesModel", "fault", "I", false)
  | 9 => ("MossPromisesModel", "many", "[I", true)
  | 10 => ("MossPromisesModel", "told", "I", false)
  | 11 => ("MossPromisesModel", "dies", "[I", true)
  | 12 => ("MossPromisesModel", "heir", "[I", true)
  | 13 => ("MossPromisesModel", "who", "[I", true)
  | 14 => ("MossPromisesModel", "where", "[I", true)
  | 15 => ("MossPromisesModel", "depth", "[I", true)
  | 16 => ("MossPromisesModel", "span", "[I", true)
  | 17 => ("MossPromisesModel", "due", "[I", true)
  | 18 => ("MossPromisesModel", "words", "[I", true)
  | 19 => ("MossPromisesModel", "wordOf", "[I", true)
  | 20 => ("MossPromisesModel", "clash", "[I", true)
  | 21 => ("MossPromisesModel", "s", "[I", true)
  | 22 => ("MossPromisesModel", "kept", "[I", true)
  | 23 => ("MossPromisesModel", "isKept", "[Z", true)
  | 24 => ("MossPromisesModel", "undos", "[I", true)
  | 25 => ("MossPromisesModel", "undoMany", "I", false)
  | 26 => ("MossPromisesModel", "seen", "[I", true)
  | 27 => ("MossPromisesModel", "seenMany", "I", false)
  | 28 => ("MossPromisesModel", "wet", "[I", true)
  | _ => ("MossPromisesModel", "by", "[I", true)
def tyX6 : Nat → FieldType := fun k => match k with
  | 0 => .int
  | 1 => .long
  | 2 => .array .int
  | 3 => .int
  | 4 => .int
  | 5 => .int
  | 6 => .int
  | 7 => .int
  | 8 => .int
  | 9 => .array .int
  | 10 => .int
  | 11 => .array .int
  | 12 => .array .int
  | 13 => .array .int
  | 14 => .array .int
  | 15 => .array .int
  | 16 => .array .int
  | 17 => .array .int
  | 18 => .array .int
  | 19 => .array .int
  | 20 => .array .int
  | 21 => .array .int
  | 22 => .array .int
  | 23 => .array .boolean
  | 24 => .array .int
  | 25 => .int
  | 26 => .array .int
  | 27 => .int
  | 28 => .array .int
  | _ => .array .int
abbrev wsX60 : List Cond := u_ws RX6 TX6 30
theorem nmX6 : ∀ a, a < 30 → ∀ b, b < 30 → a ≠ b → (TX6 a).2.1 ≠ (TX6 b).2.1 := by decide +kernel
theorem tyX6_ok : ∀ k, k < 30 → parseFieldDescriptor (TX6 k).2.2.1 = some (tyX6 k) := by decide +kernel
abbrev cX6_init : ByteArray := prog_8_method_1_code
def yX6_init : MethodName := ⟨RX6, "<init>", "()V"⟩
abbrev cX6_in : ByteArray := prog_8_method_3_code
def yX6_in : MethodName := ⟨RX6, "in", "(III)Z"⟩
abbrev cX6_ones : ByteArray := prog_8_method_4_code
def yX6_ones : MethodName := ⟨RX6, "ones", "(I)I"⟩
abbrev cX6_type : ByteArray := prog_8_method_5_code
def yX6_type : MethodName := ⟨RX6, "type", "(I)I"⟩
abbrev cX6_clear : ByteArray := prog_8_method_6_code
def yX6_clear : MethodName := ⟨RX6, "clear", "()I"⟩
abbrev cX6_letterAt : ByteArray := prog_8_method_7_code
def yX6_letterAt : MethodName := ⟨RX6, "letterAt", "(I)I"⟩
abbrev cX6_isLetter : ByteArray := prog_8_method_8_code
def yX6_isLetter : MethodName := ⟨RX6, "isLetter", "(I)Z"⟩
abbrev cX6_advances : ByteArray := prog_8_method_9_code
def yX6_advances : MethodName := ⟨RX6, "advances", "()V"⟩
abbrev cX6_isWell : ByteArray := prog_8_method_10_code
def yX6_isWell : MethodName := ⟨RX6, "isWell", "()Z"⟩
abbrev cX6_takes : ByteArray := prog_8_method_11_code
def yX6_takes : MethodName := ⟨RX6, "takes", "(Z)I"⟩
abbrev cX6_number : ByteArray := prog_8_method_12_code
def yX6_number : MethodName := ⟨RX6, "number", "(II)I"⟩
abbrev cX6_begins : ByteArray := prog_8_method_13_code
def yX6_begins : MethodName := ⟨RX6, "begins", "()V"⟩
abbrev cX6_mayBegin : ByteArray := prog_8_method_14_code
def yX6_mayBegin : MethodName := ⟨RX6, "mayBegin", "()Z"⟩
abbrev cX6_readsPromise : ByteArray := prog_8_method_15_code
def yX6_readsPromise : MethodName := ⟨RX6, "readsPromise", "()V"⟩
abbrev cX6_readsClash : ByteArray := prog_8_method_16_code
def yX6_readsClash : MethodName := ⟨RX6, "readsClash", "()V"⟩
abbrev cX6_readsItem : ByteArray := prog_8_method_17_code
def yX6_readsItem : MethodName := ⟨RX6, "readsItem", "(I)V"⟩
abbrev cX6_moss : ByteArray := prog_8_method_18_code
def yX6_moss : MethodName := ⟨RX6, "moss", "()I"⟩
abbrev cX6_settles : ByteArray := prog_8_method_19_code
def yX6_settles : MethodName := ⟨RX6, "settles", "()V"⟩
abbrev cX6_isPromise : ByteArray := prog_8_method_20_code
def yX6_isPromise : MethodName := ⟨RX6, "isPromise", "(I)Z"⟩
abbrev cX6_isCell : ByteArray := prog_8_method_21_code
def yX6_isCell : MethodName := ⟨RX6, "isCell", "(I)Z"⟩
abbrev cX6_those : ByteArray := prog_8_method_22_code
def yX6_those : MethodName := ⟨RX6, "those", "(I)I"⟩
abbrev cX6_lyingIn : ByteArray := prog_8_method_23_code
def yX6_lyingIn : MethodName := ⟨RX6, "lyingIn", "(I)I"⟩
abbrev cX6_leftIn : ByteArray := prog_8_method_24_code
def yX6_leftIn : MethodName := ⟨RX6, "leftIn", "(II)I"⟩
abbrev cX6_leftNow : ByteArray := prog_8_method_25_code
def yX6_leftNow : MethodName := ⟨RX6, "leftNow", "(I)I"⟩
abbrev cX6_person : ByteArray := prog_8_method_26_code
def yX6_person : MethodName := ⟨RX6, "person", "(II)I"⟩
abbrev cX6_promise : ByteArray := prog_8_method_27_code
def yX6_promise : MethodName := ⟨RX6, "promise", "(II)I"⟩
abbrev cX6_word : ByteArray := prog_8_method_28_code
def yX6_word : MethodName := ⟨RX6, "word", "(II)I"⟩
abbrev cX6_slidesOf : ByteArray := prog_8_method_29_code
def yX6_slidesOf : MethodName := ⟨RX6, "slidesOf", "()I"⟩
abbrev cX6_wetNow : ByteArray := prog_8_method_30_code
def yX6_wetNow : MethodName := ⟨RX6, "wetNow", "()V"⟩
abbrev cX6_slides : ByteArray := prog_8_method_31_code
def yX6_slides : MethodName := ⟨RX6, "slides", "(I)I"⟩
abbrev cX6_cell : ByteArray := prog_8_method_32_code
def yX6_cell : MethodName := ⟨RX6, "cell", "(II)I"⟩
abbrev cX6_now : ByteArray := prog_8_method_33_code
def yX6_now : MethodName := ⟨RX6, "now", "(I)I"⟩
abbrev cX6_notes : ByteArray := prog_8_method_34_code
def yX6_notes : MethodName := ⟨RX6, "notes", "()V"⟩
abbrev cX6_cuts : ByteArray := prog_8_method_35_code
def yX6_cuts : MethodName := ⟨RX6, "cuts", "(I)I"⟩
abbrev cX6_drains : ByteArray := prog_8_method_36_code
def yX6_drains : MethodName := ⟨RX6, "drains", "(I)I"⟩
abbrev cX6_does : ByteArray := prog_8_method_37_code
def yX6_does : MethodName := ⟨RX6, "does", "(I)I"⟩
abbrev cX6_year : ByteArray := prog_8_method_38_code
def yX6_year : MethodName := ⟨RX6, "year", "()I"⟩
abbrev cX6_undo : ByteArray := prog_8_method_39_code
def yX6_undo : MethodName := ⟨RX6, "undo", "()I"⟩
abbrev cX6_left : ByteArray := prog_8_method_40_code
def yX6_left : MethodName := ⟨RX6, "left", "(II)I"⟩
abbrev cX6_lasts : ByteArray := prog_8_method_41_code
def yX6_lasts : MethodName := ⟨RX6, "lasts", "(III)I"⟩
abbrev cX6_duty : ByteArray := prog_8_method_42_code
def yX6_duty : MethodName := ⟨RX6, "duty", "(II)I"⟩
abbrev cX6_sees : ByteArray := prog_8_method_43_code
def yX6_sees : MethodName := ⟨RX6, "sees", "(I)I"⟩
abbrev cX6_forget : ByteArray := prog_8_method_44_code
def yX6_forget : MethodName := ⟨RX6, "forget", "()I"⟩
abbrev cX6_canBe : ByteArray := prog_8_method_45_code
def yX6_canBe : MethodName := ⟨RX6, "canBe", "(I)Z"⟩
abbrev cX6_fits : ByteArray := prog_8_method_46_code
def yX6_fits : MethodName := ⟨RX6, "fits", "()I"⟩
abbrev cX6_likely : ByteArray := prog_8_method_47_code
def yX6_likely : MethodName := ⟨RX6, "likely", "()I"⟩
abbrev cX6_wordsOf : ByteArray := prog_8_method_48_code
def yX6_wordsOf : MethodName := ⟨RX6, "wordsOf", "(I)I"⟩
abbrev cX6_agree : ByteArray := prog_8_method_49_code
def yX6_agree : MethodName := ⟨RX6, "agree", "(I)Z"⟩
abbrev cX6_kept : ByteArray := prog_8_method_50_code
def yX6_kept : MethodName := ⟨RX6, "kept", "(I)I"⟩
abbrev cX6_soonest : ByteArray := prog_8_method_51_code
def yX6_soonest : MethodName := ⟨RX6, "soonest", "(I)I"⟩
abbrev cX6_canOrder : ByteArray := prog_8_method_52_code
def yX6_canOrder : MethodName := ⟨RX6, "canOrder", "(I)Z"⟩
abbrev cX6_order : ByteArray := prog_8_method_53_code
def yX6_order : MethodName := ⟨RX6, "order", "(I)I"⟩
abbrev cX6_staysFor : ByteArray := prog_8_method_54_code
def yX6_staysFor : MethodName := ⟨RX6, "staysFor", "(II)Z"⟩
abbrev cX6_drain : ByteArray := prog_8_method_55_code
def yX6_drain : MethodName := ⟨RX6, "drain", "(I)I"⟩
abbrev cX6_power : ByteArray := prog_8_method_56_code
def yX6_power : MethodName := ⟨RX6, "power", "(II)I"⟩
abbrev cX6_gcd : ByteArray := prog_8_method_57_code
def yX6_gcd : MethodName := ⟨RX6, "gcd", "(II)I"⟩
abbrev cX6_odds : ByteArray := prog_8_method_58_code
def yX6_odds : MethodName := ⟨RX6, "odds", "(IIII)I"⟩
abbrev cX6_rate : ByteArray := prog_8_method_59_code
def yX6_rate : MethodName := ⟨RX6, "rate", "(II)I"⟩
abbrev cX6_keep : ByteArray := prog_8_method_60_code
def yX6_keep : MethodName := ⟨RX6, "keep", "(I)I"⟩
abbrev cX6_back : ByteArray := prog_8_method_61_code
def yX6_back : MethodName := ⟨RX6, "back", "(I)I"⟩
abbrev cX6_count : ByteArray := prog_8_method_62_code
def yX6_count : MethodName := ⟨RX6, "count", "(I)I"⟩
abbrev cX6_trace : ByteArray := prog_8_method_63_code
def yX6_trace : MethodName := ⟨RX6, "trace", "()J"⟩
def RJ6 : String := "java/lang/Integer"
def TJ6 : u_T := fun k => match k with
  | _ => ("", "", "", false)
def tyJ6 : Nat → FieldType := fun k => match k with
  | _ => .int
theorem nmJ6 : ∀ a, a < 0 → ∀ b, b < 0 → a ≠ b → (TJ6 a).2.1 ≠ (TJ6 b).2.1 := by decide +kernel
theorem tyJ6_ok : ∀ k, k < 0 → parseFieldDescriptor (TJ6 k).2.2.1 = some (tyJ6 k) := by decide +kernel
abbrev cJ6_bitCount_0f7a4 : ByteArray := prog_9_method_49_code
def yJ6_bitCount_0f7a4 : MethodName := ⟨RJ6, "bitCount", "(I)I"⟩
def RJ9 : String := "java/lang/Math"
def TJ9 : u_T := fun k => match k with
  | _ => ("", "", "", false)
def tyJ9 : Nat → FieldType := fun k => match k with
  | _ => .int
theorem nmJ9 : ∀ a, a < 0 → ∀ b, b < 0 → a ≠ b → (TJ9 a).2.1 ≠ (TJ9 b).2.1 := by decide +kernel
theorem tyJ9_ok : ∀ k, k < 0 → parseFieldDescriptor (TJ9 k).2.2.1 = some (tyJ9 k) := by decide +kernel
abbrev cJ9_max_7cf53 : ByteArray := prog_10_method_65_code
def yJ9_max_7cf53 : MethodName := ⟨RJ9, "max", "(II)I"⟩
abbrev cJ9_min_7cf53 : ByteArray := prog_10_method_69_code
def yJ9_min_7cf53 : MethodName := ⟨RJ9, "min", "(II)I"⟩
def RJ10 : String := "java/lang/System"
def TJ10 : u_T := fun k => match k with
  | _ => ("", "", "", false)
def tyJ10 : Nat → FieldType := fun k => match k with
  | _ => .int
theorem nmJ10 : ∀ a, a < 0 → ∀ b, b < 0 → a ≠ b → (TJ10 a).2.1 ≠ (TJ10 b).2.1 := by decide +kernel
theorem tyJ10_ok : ∀ k, k < 0 → parseFieldDescriptor (TJ10 k).2.2.1 = some (tyJ10 k) := by decide +kernel
def RL : String := "MossPromisesLaw"
abbrev cL_law : ByteArray := code
def yL_law : MethodName := ⟨RL, "law", "([I)Z"⟩
abbrev vwCl : List vw_C := [(RX0, TX0, 6), (RX1, TX1, 3), (RX2, TX2, 4), (RX3, TX3, 6), (RX4, TX4, 14), (RX5, TX5, 11), (RX6, TX6, 30)]
