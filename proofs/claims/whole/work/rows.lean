section
/-! PART A: the tables' words, and 'selects' of the private methods out of them; a word by its place in its piece of the tables -/
theorem tT1 {w : Cond} (h : w ∈ tables_1_1) : w ∈ tables_1 := List.mem_append_left _ h
theorem tT2 {w : Cond} (h : w ∈ tables_1_2) : w ∈ tables_1 := List.mem_append_right _ (List.mem_append_left _ h)
theorem tT3 {w : Cond} (h : w ∈ tables_1_3) : w ∈ tables_1 := List.mem_append_right _ (List.mem_append_right _ (List.mem_append_left _ h))
theorem tT4 {w : Cond} (h : w ∈ tables_1_4) : w ∈ tables_1 := List.mem_append_right _ (List.mem_append_right _ (List.mem_append_right _ h))
def lw_okq (q : MethodName × Nat) : Prop := (q.1.cls ≠ "java/lang/invoke/MethodHandle" ∧ q.1.cls ≠ "java/lang/invoke/VarHandle") ∧ Cond.instantiable q.1.cls q.2 ∈ tables_1 ∧ Cond.privateMethod q.1 ∈ tables_1 ∧ Cond.instanceMethod q.1 ∈ tables_1
theorem lw_p0 : lw_okq (⟨"MossPromises$Text", "letterAt", "(I)I"⟩, 6) := ⟨⟨by decide +kernel, by decide +kernel⟩, tT1 (List.mem_of_getElem? (i := 26) rfl), tT2 (List.mem_of_getElem? (i := 27) rfl), tT2 (List.mem_of_getElem? (i := 28) rfl)⟩
theorem lw_p1 : lw_okq (⟨"MossPromises$Text", "readDigits", "()V"⟩, 6) := ⟨⟨by decide +kernel, by decide +kernel⟩, tT1 (List.mem_of_getElem? (i := 26) rfl), tT2 (List.mem_of_getElem? (i := 37) rfl), tT2 (List.mem_of_getElem? (i := 38) rfl)⟩
theorem lw_p2 : lw_okq (⟨"MossPromises$Reader", "readPerson", "()Z"⟩, 4) := ⟨⟨by decide +kernel, by decide +kernel⟩, tT1 (List.mem_of_getElem? (i := 20) rfl), tT2 (List.mem_of_getElem? (i := 41) rfl), tT2 (List.mem_of_getElem? (i := 42) rfl)⟩
theorem lw_p3 : lw_okq (⟨"MossPromises$Reader", "readNumber", "(II)Z"⟩, 4) := ⟨⟨by decide +kernel, by decide +kernel⟩, tT1 (List.mem_of_getElem? (i := 20) rfl), tT2 (List.mem_of_getElem? (i := 45) rfl), tT2 (List.mem_of_getElem? (i := 46) rfl)⟩
theorem lw_p4 : lw_okq (⟨"MossPromises$Reader", "readEnd", "()Z"⟩, 4) := ⟨⟨by decide +kernel, by decide +kernel⟩, tT1 (List.mem_of_getElem? (i := 20) rfl), tT2 (List.mem_of_getElem? (i := 49) rfl), tT2 (List.mem_of_getElem? (i := 50) rfl)⟩
theorem lw_p5 : lw_okq (⟨"MossPromises$Reader", "readPromise", "()Z"⟩, 4) := ⟨⟨by decide +kernel, by decide +kernel⟩, tT1 (List.mem_of_getElem? (i := 20) rfl), tT2 (List.mem_of_getElem? (i := 53) rfl), tT2 (List.mem_of_getElem? (i := 54) rfl)⟩
theorem lw_p6 : lw_okq (⟨"MossPromises$Reader", "readWords", "(I)Z"⟩, 4) := ⟨⟨by decide +kernel, by decide +kernel⟩, tT1 (List.mem_of_getElem? (i := 20) rfl), tT2 (List.mem_of_getElem? (i := 57) rfl), tT2 (List.mem_of_getElem? (i := 58) rfl)⟩
theorem lw_p7 : lw_okq (⟨"MossPromises$Reader", "readClash", "()Z"⟩, 4) := ⟨⟨by decide +kernel, by decide +kernel⟩, tT1 (List.mem_of_getElem? (i := 20) rfl), tT2 (List.mem_of_getElem? (i := 61) rfl), tT2 (List.mem_of_getElem? (i := 62) rfl)⟩
theorem lw_p8 : lw_okq (⟨"MossPromises$Reader", "readAcid", "()Z"⟩, 4) := ⟨⟨by decide +kernel, by decide +kernel⟩, tT1 (List.mem_of_getElem? (i := 20) rfl), tT2 (List.mem_of_getElem? (i := 65) rfl), tT2 (List.mem_of_getElem? (i := 66) rfl)⟩
theorem lw_p9 : lw_okq (⟨"MossPromises$Reader", "readSlide", "()Z"⟩, 4) := ⟨⟨by decide +kernel, by decide +kernel⟩, tT1 (List.mem_of_getElem? (i := 20) rfl), tT2 (List.mem_of_getElem? (i := 69) rfl), tT2 (List.mem_of_getElem? (i := 70) rfl)⟩
theorem lw_p10 : lw_okq (⟨"MossPromises", "leftIn", "(II)I"⟩, 11) := ⟨⟨by decide +kernel, by decide +kernel⟩, tT1 (List.mem_of_getElem? (i := 12) rfl), tT2 (List.mem_of_getElem? (i := 108) rfl), tT2 (List.mem_of_getElem? (i := 109) rfl)⟩
theorem lw_p11 : lw_okq (⟨"MossPromises", "lyingLeft", "(IIII)I"⟩, 11) := ⟨⟨by decide +kernel, by decide +kernel⟩, tT1 (List.mem_of_getElem? (i := 12) rfl), tT2 (List.mem_of_getElem? (i := 112) rfl), tT2 (List.mem_of_getElem? (i := 113) rfl)⟩
theorem lw_p12 : lw_okq (⟨"MossPromises", "lyingIn", "(I)I"⟩, 11) := ⟨⟨by decide +kernel, by decide +kernel⟩, tT1 (List.mem_of_getElem? (i := 12) rfl), tT2 (List.mem_of_getElem? (i := 131) rfl), tT2 (List.mem_of_getElem? (i := 132) rfl)⟩
theorem lw_p13 : lw_okq (⟨"MossPromises", "liesIn", "(II)Z"⟩, 11) := ⟨⟨by decide +kernel, by decide +kernel⟩, tT1 (List.mem_of_getElem? (i := 12) rfl), tT2 (List.mem_of_getElem? (i := 135) rfl), tT2 (List.mem_of_getElem? (i := 136) rfl)⟩
theorem lw_p14 : lw_okq (⟨"MossPromises", "isNow", "(II)Z"⟩, 11) := ⟨⟨by decide +kernel, by decide +kernel⟩, tT1 (List.mem_of_getElem? (i := 12) rfl), tT2 (List.mem_of_getElem? (i := 139) rfl), tT2 (List.mem_of_getElem? (i := 140) rfl)⟩
theorem lw_p15 : lw_okq (⟨"MossPromises", "firstSlide", "(I)I"⟩, 11) := ⟨⟨by decide +kernel, by decide +kernel⟩, tT1 (List.mem_of_getElem? (i := 12) rfl), tT2 (List.mem_of_getElem? (i := 143) rfl), tT2 (List.mem_of_getElem? (i := 144) rfl)⟩
theorem lw_p16 : lw_okq (⟨"MossPromises", "beginWetThen", "(I)V"⟩, 11) := ⟨⟨by decide +kernel, by decide +kernel⟩, tT1 (List.mem_of_getElem? (i := 12) rfl), tT2 (List.mem_of_getElem? (i := 147) rfl), tT2 (List.mem_of_getElem? (i := 148) rfl)⟩
theorem lw_p17 : lw_okq (⟨"MossPromises", "letYearPass", "([I)I"⟩, 11) := ⟨⟨by decide +kernel, by decide +kernel⟩, tT1 (List.mem_of_getElem? (i := 12) rfl), tT2 (List.mem_of_getElem? (i := 154) rfl), tT2 (List.mem_of_getElem? (i := 155) rfl)⟩
theorem lw_p18 : lw_okq (⟨"MossPromises", "thoseThatAre", "(I)I"⟩, 11) := ⟨⟨by decide +kernel, by decide +kernel⟩, tT1 (List.mem_of_getElem? (i := 12) rfl), tT2 (List.mem_of_getElem? (i := 166) rfl), tT2 (List.mem_of_getElem? (i := 167) rfl)⟩
theorem lw_p19 : lw_okq (⟨"MossPromises", "mayBeDone", "(II)Z"⟩, 11) := ⟨⟨by decide +kernel, by decide +kernel⟩, tT1 (List.mem_of_getElem? (i := 12) rfl), tT2 (List.mem_of_getElem? (i := 192) rfl), tT2 (List.mem_of_getElem? (i := 193) rfl)⟩
theorem lw_p20 : lw_okq (⟨"MossPromises", "beginsAsSeen", "(I)Z"⟩, 11) := ⟨⟨by decide +kernel, by decide +kernel⟩, tT1 (List.mem_of_getElem? (i := 12) rfl), tT3 (List.mem_of_getElem? (i := 1) rfl), tT3 (List.mem_of_getElem? (i := 2) rfl)⟩
theorem lw_p21 : lw_okq (⟨"MossPromises", "bestKept", "()I"⟩, 11) := ⟨⟨by decide +kernel, by decide +kernel⟩, tT1 (List.mem_of_getElem? (i := 12) rfl), tT3 (List.mem_of_getElem? (i := 13) rfl), tT3 (List.mem_of_getElem? (i := 14) rfl)⟩
theorem lw_p22 : lw_okq (⟨"MossPromises", "clashesWithin", "(I)Z"⟩, 11) := ⟨⟨by decide +kernel, by decide +kernel⟩, tT1 (List.mem_of_getElem? (i := 12) rfl), tT3 (List.mem_of_getElem? (i := 17) rfl), tT3 (List.mem_of_getElem? (i := 18) rfl)⟩
theorem lw_p23 : lw_okq (⟨"MossPromises", "wordsLeftOf", "(I)I"⟩, 11) := ⟨⟨by decide +kernel, by decide +kernel⟩, tT1 (List.mem_of_getElem? (i := 12) rfl), tT3 (List.mem_of_getElem? (i := 21) rfl), tT3 (List.mem_of_getElem? (i := 22) rfl)⟩
theorem lw_p24 : lw_okq (⟨"MossPromises", "bestOrdered", "()I"⟩, 11) := ⟨⟨by decide +kernel, by decide +kernel⟩, tT1 (List.mem_of_getElem? (i := 12) rfl), tT3 (List.mem_of_getElem? (i := 29) rfl), tT3 (List.mem_of_getElem? (i := 30) rfl)⟩
theorem lw_p25 : lw_okq (⟨"MossPromises", "endsByDue", "(I)Z"⟩, 11) := ⟨⟨by decide +kernel, by decide +kernel⟩, tT1 (List.mem_of_getElem? (i := 12) rfl), tT3 (List.mem_of_getElem? (i := 33) rfl), tT3 (List.mem_of_getElem? (i := 34) rfl)⟩
theorem lw_p26 : lw_okq (⟨"MossPromises", "earliestDue", "(I)I"⟩, 11) := ⟨⟨by decide +kernel, by decide +kernel⟩, tT1 (List.mem_of_getElem? (i := 12) rfl), tT3 (List.mem_of_getElem? (i := 37) rfl), tT3 (List.mem_of_getElem? (i := 38) rfl)⟩
theorem lw_p27 : lw_okq (⟨"MossPromises", "staysIfDry", "(II)Z"⟩, 11) := ⟨⟨by decide +kernel, by decide +kernel⟩, tT1 (List.mem_of_getElem? (i := 12) rfl), tT3 (List.mem_of_getElem? (i := 48) rfl), tT3 (List.mem_of_getElem? (i := 49) rfl)⟩
theorem lw_p28 : lw_okq (⟨"MossPromises", "asWord", "(I)I"⟩, 11) := ⟨⟨by decide +kernel, by decide +kernel⟩, tT1 (List.mem_of_getElem? (i := 12) rfl), tT3 (List.mem_of_getElem? (i := 70) rfl), tT3 (List.mem_of_getElem? (i := 71) rfl)⟩
theorem lw_p29 : lw_okq (⟨"MossPromises", "asVow", "(I)I"⟩, 11) := ⟨⟨by decide +kernel, by decide +kernel⟩, tT1 (List.mem_of_getElem? (i := 12) rfl), tT3 (List.mem_of_getElem? (i := 74) rfl), tT3 (List.mem_of_getElem? (i := 75) rfl)⟩
theorem lw_p30 : lw_okq (⟨"MossPromises", "asLoan", "(I)I"⟩, 11) := ⟨⟨by decide +kernel, by decide +kernel⟩, tT1 (List.mem_of_getElem? (i := 12) rfl), tT3 (List.mem_of_getElem? (i := 79) rfl), tT3 (List.mem_of_getElem? (i := 80) rfl)⟩
theorem lw_p31 : lw_okq (⟨"MossPromises", "asBride", "(I)I"⟩, 11) := ⟨⟨by decide +kernel, by decide +kernel⟩, tT1 (List.mem_of_getElem? (i := 12) rfl), tT3 (List.mem_of_getElem? (i := 84) rfl), tT3 (List.mem_of_getElem? (i := 85) rfl)⟩
theorem lw_p32 : lw_okq (⟨"MossPromises", "asOak", "(I)I"⟩, 11) := ⟨⟨by decide +kernel, by decide +kernel⟩, tT1 (List.mem_of_getElem? (i := 12) rfl), tT3 (List.mem_of_getElem? (i := 89) rfl), tT3 (List.mem_of_getElem? (i := 90) rfl)⟩
theorem lw_p33 : lw_okq (⟨"MossPromises", "asThumb", "(I)I"⟩, 11) := ⟨⟨by decide +kernel, by decide +kernel⟩, tT1 (List.mem_of_getElem? (i := 12) rfl), tT3 (List.mem_of_getElem? (i := 94) rfl), tT3 (List.mem_of_getElem? (i := 95) rfl)⟩
theorem lw_p34 : lw_okq (⟨"MossPromisesModel", "begins", "()V"⟩, 30) := ⟨⟨by decide +kernel, by decide +kernel⟩, tT3 (List.mem_of_getElem? (i := 116) rfl), tT3 (List.mem_of_getElem? (i := 122) rfl), tT3 (List.mem_of_getElem? (i := 123) rfl)⟩
theorem lw_p35 : lw_okq (⟨"MossPromisesModel", "settles", "()V"⟩, 30) := ⟨⟨by decide +kernel, by decide +kernel⟩, tT3 (List.mem_of_getElem? (i := 116) rfl), tT3 (List.mem_of_getElem? (i := 126) rfl), tT3 (List.mem_of_getElem? (i := 127) rfl)⟩
theorem lw_p36 : lw_okq (⟨"MossPromisesModel", "advances", "()V"⟩, 30) := ⟨⟨by decide +kernel, by decide +kernel⟩, tT3 (List.mem_of_getElem? (i := 116) rfl), tT3 (List.mem_of_getElem? (i := 236) rfl), tT3 (List.mem_of_getElem? (i := 237) rfl)⟩
theorem lw_p37 : lw_okq (⟨"MossPromisesModel", "letterAt", "(I)I"⟩, 30) := ⟨⟨by decide +kernel, by decide +kernel⟩, tT3 (List.mem_of_getElem? (i := 116) rfl), tT4 (List.mem_of_getElem? (i := 0) rfl), tT4 (List.mem_of_getElem? (i := 1) rfl)⟩
theorem lw_p38 : lw_okq (⟨"MossPromisesModel", "isWell", "()Z"⟩, 30) := ⟨⟨by decide +kernel, by decide +kernel⟩, tT3 (List.mem_of_getElem? (i := 116) rfl), tT4 (List.mem_of_getElem? (i := 7) rfl), tT4 (List.mem_of_getElem? (i := 8) rfl)⟩
theorem lw_p39 : lw_okq (⟨"MossPromisesModel", "mayBegin", "()Z"⟩, 30) := ⟨⟨by decide +kernel, by decide +kernel⟩, tT3 (List.mem_of_getElem? (i := 116) rfl), tT4 (List.mem_of_getElem? (i := 11) rfl), tT4 (List.mem_of_getElem? (i := 12) rfl)⟩
theorem lw_p40 : lw_okq (⟨"MossPromisesModel", "takes", "(Z)I"⟩, 30) := ⟨⟨by decide +kernel, by decide +kernel⟩, tT3 (List.mem_of_getElem? (i := 116) rfl), tT4 (List.mem_of_getElem? (i := 15) rfl), tT4 (List.mem_of_getElem? (i := 16) rfl)⟩
theorem lw_p41 : lw_okq (⟨"MossPromisesModel", "readsItem", "(I)V"⟩, 30) := ⟨⟨by decide +kernel, by decide +kernel⟩, tT3 (List.mem_of_getElem? (i := 116) rfl), tT4 (List.mem_of_getElem? (i := 19) rfl), tT4 (List.mem_of_getElem? (i := 20) rfl)⟩
theorem lw_p42 : lw_okq (⟨"MossPromisesModel", "number", "(II)I"⟩, 30) := ⟨⟨by decide +kernel, by decide +kernel⟩, tT3 (List.mem_of_getElem? (i := 116) rfl), tT4 (List.mem_of_getElem? (i := 23) rfl), tT4 (List.mem_of_getElem? (i := 24) rfl)⟩
theorem lw_p43 : lw_okq (⟨"MossPromisesModel", "readsPromise", "()V"⟩, 30) := ⟨⟨by decide +kernel, by decide +kernel⟩, tT3 (List.mem_of_getElem? (i := 116) rfl), tT4 (List.mem_of_getElem? (i := 27) rfl), tT4 (List.mem_of_getElem? (i := 28) rfl)⟩
theorem lw_p44 : lw_okq (⟨"MossPromisesModel", "readsClash", "()V"⟩, 30) := ⟨⟨by decide +kernel, by decide +kernel⟩, tT3 (List.mem_of_getElem? (i := 116) rfl), tT4 (List.mem_of_getElem? (i := 31) rfl), tT4 (List.mem_of_getElem? (i := 32) rfl)⟩
theorem lw_p45 : lw_okq (⟨"MossPromisesModel", "isPromise", "(I)Z"⟩, 30) := ⟨⟨by decide +kernel, by decide +kernel⟩, tT3 (List.mem_of_getElem? (i := 116) rfl), tT4 (List.mem_of_getElem? (i := 43) rfl), tT4 (List.mem_of_getElem? (i := 44) rfl)⟩
theorem lw_p46 : lw_okq (⟨"MossPromisesModel", "leftNow", "(I)I"⟩, 30) := ⟨⟨by decide +kernel, by decide +kernel⟩, tT3 (List.mem_of_getElem? (i := 116) rfl), tT4 (List.mem_of_getElem? (i := 51) rfl), tT4 (List.mem_of_getElem? (i := 52) rfl)⟩
theorem lw_p47 : lw_okq (⟨"MossPromisesModel", "leftIn", "(II)I"⟩, 30) := ⟨⟨by decide +kernel, by decide +kernel⟩, tT3 (List.mem_of_getElem? (i := 116) rfl), tT4 (List.mem_of_getElem? (i := 55) rfl), tT4 (List.mem_of_getElem? (i := 56) rfl)⟩
theorem lw_p48 : lw_okq (⟨"MossPromisesModel", "lyingIn", "(I)I"⟩, 30) := ⟨⟨by decide +kernel, by decide +kernel⟩, tT3 (List.mem_of_getElem? (i := 116) rfl), tT4 (List.mem_of_getElem? (i := 66) rfl), tT4 (List.mem_of_getElem? (i := 67) rfl)⟩
theorem lw_p49 : lw_okq (⟨"MossPromisesModel", "slides", "(I)I"⟩, 30) := ⟨⟨by decide +kernel, by decide +kernel⟩, tT3 (List.mem_of_getElem? (i := 116) rfl), tT4 (List.mem_of_getElem? (i := 70) rfl), tT4 (List.mem_of_getElem? (i := 71) rfl)⟩
theorem lw_p50 : lw_okq (⟨"MossPromisesModel", "wetNow", "()V"⟩, 30) := ⟨⟨by decide +kernel, by decide +kernel⟩, tT3 (List.mem_of_getElem? (i := 116) rfl), tT4 (List.mem_of_getElem? (i := 74) rfl), tT4 (List.mem_of_getElem? (i := 75) rfl)⟩
theorem lw_p51 : lw_okq (⟨"MossPromisesModel", "slidesOf", "()I"⟩, 30) := ⟨⟨by decide +kernel, by decide +kernel⟩, tT3 (List.mem_of_getElem? (i := 116) rfl), tT4 (List.mem_of_getElem? (i := 78) rfl), tT4 (List.mem_of_getElem? (i := 79) rfl)⟩
theorem lw_p52 : lw_okq (⟨"MossPromisesModel", "those", "(I)I"⟩, 30) := ⟨⟨by decide +kernel, by decide +kernel⟩, tT3 (List.mem_of_getElem? (i := 116) rfl), tT4 (List.mem_of_getElem? (i := 86) rfl), tT4 (List.mem_of_getElem? (i := 87) rfl)⟩
theorem lw_p53 : lw_okq (⟨"MossPromisesModel", "notes", "()V"⟩, 30) := ⟨⟨by decide +kernel, by decide +kernel⟩, tT3 (List.mem_of_getElem? (i := 116) rfl), tT4 (List.mem_of_getElem? (i := 94) rfl), tT4 (List.mem_of_getElem? (i := 95) rfl)⟩
theorem lw_p54 : lw_okq (⟨"MossPromisesModel", "canBe", "(I)Z"⟩, 30) := ⟨⟨by decide +kernel, by decide +kernel⟩, tT3 (List.mem_of_getElem? (i := 116) rfl), tT4 (List.mem_of_getElem? (i := 141) rfl), tT4 (List.mem_of_getElem? (i := 142) rfl)⟩
theorem lw_p55 : lw_okq (⟨"MossPromisesModel", "wordsOf", "(I)I"⟩, 30) := ⟨⟨by decide +kernel, by decide +kernel⟩, tT3 (List.mem_of_getElem? (i := 116) rfl), tT4 (List.mem_of_getElem? (i := 153) rfl), tT4 (List.mem_of_getElem? (i := 154) rfl)⟩
theorem lw_p56 : lw_okq (⟨"MossPromisesModel", "agree", "(I)Z"⟩, 30) := ⟨⟨by decide +kernel, by decide +kernel⟩, tT3 (List.mem_of_getElem? (i := 116) rfl), tT4 (List.mem_of_getElem? (i := 157) rfl), tT4 (List.mem_of_getElem? (i := 158) rfl)⟩
theorem lw_p57 : lw_okq (⟨"MossPromisesModel", "canOrder", "(I)Z"⟩, 30) := ⟨⟨by decide +kernel, by decide +kernel⟩, tT3 (List.mem_of_getElem? (i := 116) rfl), tT4 (List.mem_of_getElem? (i := 165) rfl), tT4 (List.mem_of_getElem? (i := 166) rfl)⟩
theorem lw_p58 : lw_okq (⟨"MossPromisesModel", "soonest", "(I)I"⟩, 30) := ⟨⟨by decide +kernel, by decide +kernel⟩, tT3 (List.mem_of_getElem? (i := 116) rfl), tT4 (List.mem_of_getElem? (i := 169) rfl), tT4 (List.mem_of_getElem? (i := 170) rfl)⟩
theorem lw_p59 : lw_okq (⟨"MossPromisesModel", "staysFor", "(II)Z"⟩, 30) := ⟨⟨by decide +kernel, by decide +kernel⟩, tT3 (List.mem_of_getElem? (i := 116) rfl), tT4 (List.mem_of_getElem? (i := 177) rfl), tT4 (List.mem_of_getElem? (i := 178) rfl)⟩
def lw_privs_1 : List (MethodName × Nat) := [(⟨"MossPromises$Text", "letterAt", "(I)I"⟩, 6), (⟨"MossPromises$Text", "readDigits", "()V"⟩, 6), (⟨"MossPromises$Reader", "readPerson", "()Z"⟩, 4), (⟨"MossPromises$Reader", "readNumber", "(II)Z"⟩, 4), (⟨"MossPromises$Reader", "readEnd", "()Z"⟩, 4), (⟨"MossPromises$Reader", "readPromise", "()Z"⟩, 4), (⟨"MossPromises$Reader", "readWords", "(I)Z"⟩, 4), (⟨"MossPromises$Reader", "readClash", "()Z"⟩, 4), (⟨"MossPromises$Reader", "readAcid", "()Z"⟩, 4), (⟨"MossPromises$Reader", "readSlide", "()Z"⟩, 4), (⟨"MossPromises", "leftIn", "(II)I"⟩, 11), (⟨"MossPromises", "lyingLeft", "(IIII)I"⟩, 11), (⟨"MossPromises", "lyingIn", "(I)I"⟩, 11), (⟨"MossPromises", "liesIn", "(II)Z"⟩, 11), (⟨"MossPromises", "isNow", "(II)Z"⟩, 11), (⟨"MossPromises", "firstSlide", "(I)I"⟩, 11)]
theorem lw_r1 : ∀ q ∈ lw_privs_1, lw_okq q := List.forall_mem_cons.mpr ⟨lw_p0, List.forall_mem_cons.mpr ⟨lw_p1, List.forall_mem_cons.mpr ⟨lw_p2, List.forall_mem_cons.mpr ⟨lw_p3, List.forall_mem_cons.mpr ⟨lw_p4, List.forall_mem_cons.mpr ⟨lw_p5, List.forall_mem_cons.mpr ⟨lw_p6, List.forall_mem_cons.mpr ⟨lw_p7, List.forall_mem_cons.mpr ⟨lw_p8, List.forall_mem_cons.mpr ⟨lw_p9, List.forall_mem_cons.mpr ⟨lw_p10, List.forall_mem_cons.mpr ⟨lw_p11, List.forall_mem_cons.mpr ⟨lw_p12, List.forall_mem_cons.mpr ⟨lw_p13, List.forall_mem_cons.mpr ⟨lw_p14, List.forall_mem_cons.mpr ⟨lw_p15, fun _ h => absurd h List.not_mem_nil⟩⟩⟩⟩⟩⟩⟩⟩⟩⟩⟩⟩⟩⟩⟩⟩
def lw_privs_2 : List (MethodName × Nat) := [(⟨"MossPromises", "beginWetThen", "(I)V"⟩, 11), (⟨"MossPromises", "letYearPass", "([I)I"⟩, 11), (⟨"MossPromises", "thoseThatAre", "(I)I"⟩, 11), (⟨"MossPromises", "mayBeDone", "(II)Z"⟩, 11), (⟨"MossPromises", "beginsAsSeen", "(I)Z"⟩, 11), (⟨"MossPromises", "bestKept", "()I"⟩, 11), (⟨"MossPromises", "clashesWithin", "(I)Z"⟩, 11), (⟨"MossPromises", "wordsLeftOf", "(I)I"⟩, 11), (⟨"MossPromises", "bestOrdered", "()I"⟩, 11), (⟨"MossPromises", "endsByDue", "(I)Z"⟩, 11), (⟨"MossPromises", "earliestDue", "(I)I"⟩, 11), (⟨"MossPromises", "staysIfDry", "(II)Z"⟩, 11), (⟨"MossPromises", "asWord", "(I)I"⟩, 11), (⟨"MossPromises", "asVow", "(I)I"⟩, 11), (⟨"MossPromises", "asLoan", "(I)I"⟩, 11), (⟨"MossPromises", "asBride", "(I)I"⟩, 11)]
theorem lw_r2 : ∀ q ∈ lw_privs_2, lw_okq q := List.forall_mem_cons.mpr ⟨lw_p16, List.forall_mem_cons.mpr ⟨lw_p17, List.forall_mem_cons.mpr ⟨lw_p18, List.forall_mem_cons.mpr ⟨lw_p19, List.forall_mem_cons.mpr ⟨lw_p20, List.forall_mem_cons.mpr ⟨lw_p21, List.forall_mem_cons.mpr ⟨lw_p22, List.forall_mem_cons.mpr ⟨lw_p23, List.forall_mem_cons.mpr ⟨lw_p24, List.forall_mem_cons.mpr ⟨lw_p25, List.forall_mem_cons.mpr ⟨lw_p26, List.forall_mem_cons.mpr ⟨lw_p27, List.forall_mem_cons.mpr ⟨lw_p28, List.forall_mem_cons.mpr ⟨lw_p29, List.forall_mem_cons.mpr ⟨lw_p30, List.forall_mem_cons.mpr ⟨lw_p31, fun _ h => absurd h List.not_mem_nil⟩⟩⟩⟩⟩⟩⟩⟩⟩⟩⟩⟩⟩⟩⟩⟩
def lw_privs_3 : List (MethodName × Nat) := [(⟨"MossPromises", "asOak", "(I)I"⟩, 11), (⟨"MossPromises", "asThumb", "(I)I"⟩, 11), (⟨"MossPromisesModel", "begins", "()V"⟩, 30), (⟨"MossPromisesModel", "settles", "()V"⟩, 30), (⟨"MossPromisesModel", "advances", "()V"⟩, 30), (⟨"MossPromisesModel", "letterAt", "(I)I"⟩, 30), (⟨"MossPromisesModel", "isWell", "()Z"⟩, 30), (⟨"MossPromisesModel", "mayBegin", "()Z"⟩, 30), (⟨"MossPromisesModel", "takes", "(Z)I"⟩, 30), (⟨"MossPromisesModel", "readsItem", "(I)V"⟩, 30), (⟨"MossPromisesModel", "number", "(II)I"⟩, 30), (⟨"MossPromisesModel", "readsPromise", "()V"⟩, 30), (⟨"MossPromisesModel", "readsClash", "()V"⟩, 30), (⟨"MossPromisesModel", "isPromise", "(I)Z"⟩, 30), (⟨"MossPromisesModel", "leftNow", "(I)I"⟩, 30), (⟨"MossPromisesModel", "leftIn", "(II)I"⟩, 30)]
theorem lw_r3 : ∀ q ∈ lw_privs_3, lw_okq q := List.forall_mem_cons.mpr ⟨lw_p32, List.forall_mem_cons.mpr ⟨lw_p33, List.forall_mem_cons.mpr ⟨lw_p34, List.forall_mem_cons.mpr ⟨lw_p35, List.forall_mem_cons.mpr ⟨lw_p36, List.forall_mem_cons.mpr ⟨lw_p37, List.forall_mem_cons.mpr ⟨lw_p38, List.forall_mem_cons.mpr ⟨lw_p39, List.forall_mem_cons.mpr ⟨lw_p40, List.forall_mem_cons.mpr ⟨lw_p41, List.forall_mem_cons.mpr ⟨lw_p42, List.forall_mem_cons.mpr ⟨lw_p43, List.forall_mem_cons.mpr ⟨lw_p44, List.forall_mem_cons.mpr ⟨lw_p45, List.forall_mem_cons.mpr ⟨lw_p46, List.forall_mem_cons.mpr ⟨lw_p47, fun _ h => absurd h List.not_mem_nil⟩⟩⟩⟩⟩⟩⟩⟩⟩⟩⟩⟩⟩⟩⟩⟩
def lw_privs_4 : List (MethodName × Nat) := [(⟨"MossPromisesModel", "lyingIn", "(I)I"⟩, 30), (⟨"MossPromisesModel", "slides", "(I)I"⟩, 30), (⟨"MossPromisesModel", "wetNow", "()V"⟩, 30), (⟨"MossPromisesModel", "slidesOf", "()I"⟩, 30), (⟨"MossPromisesModel", "those", "(I)I"⟩, 30), (⟨"MossPromisesModel", "notes", "()V"⟩, 30), (⟨"MossPromisesModel", "canBe", "(I)Z"⟩, 30), (⟨"MossPromisesModel", "wordsOf", "(I)I"⟩, 30), (⟨"MossPromisesModel", "agree", "(I)Z"⟩, 30), (⟨"MossPromisesModel", "canOrder", "(I)Z"⟩, 30), (⟨"MossPromisesModel", "soonest", "(I)I"⟩, 30), (⟨"MossPromisesModel", "staysFor", "(II)Z"⟩, 30)]
theorem lw_r4 : ∀ q ∈ lw_privs_4, lw_okq q := List.forall_mem_cons.mpr ⟨lw_p48, List.forall_mem_cons.mpr ⟨lw_p49, List.forall_mem_cons.mpr ⟨lw_p50, List.forall_mem_cons.mpr ⟨lw_p51, List.forall_mem_cons.mpr ⟨lw_p52, List.forall_mem_cons.mpr ⟨lw_p53, List.forall_mem_cons.mpr ⟨lw_p54, List.forall_mem_cons.mpr ⟨lw_p55, List.forall_mem_cons.mpr ⟨lw_p56, List.forall_mem_cons.mpr ⟨lw_p57, List.forall_mem_cons.mpr ⟨lw_p58, List.forall_mem_cons.mpr ⟨lw_p59, fun _ h => absurd h List.not_mem_nil⟩⟩⟩⟩⟩⟩⟩⟩⟩⟩⟩⟩
def lw_privs : List (MethodName × Nat) := lw_privs_1 ++ (lw_privs_2 ++ (lw_privs_3 ++ (lw_privs_4)))
def lw_tbl : List Cond := k2_sels lw_privs ++ tables_1
theorem lw_privs_ok : ∀ q ∈ lw_privs, lw_okq q := by
  show ∀ q ∈ lw_privs_1 ++ (lw_privs_2 ++ (lw_privs_3 ++ (lw_privs_4))), lw_okq q
  exact List.forall_mem_append.mpr ⟨lw_r1, List.forall_mem_append.mpr ⟨lw_r2, List.forall_mem_append.mpr ⟨lw_r3, lw_r4⟩⟩⟩
/-! one list of words for every method: all of the tables' that stay good -/
def wsA : List Cond := lw_tbl.filter goodWord
theorem mA {w : Cond} (h : w ∈ lw_tbl) (hg : goodWord w = true) : w ∈ wsA := List.mem_filter.mpr ⟨h, hg⟩
theorem wsA_in {w : Cond} (h : w ∈ wsA) : w ∈ lw_tbl := (List.mem_filter.mp h).1
theorem wsA_good {w : Cond} (h : w ∈ wsA) : goodWord w = true := (List.mem_filter.mp h).2
theorem tA1 {w : Cond} (h : w ∈ tables_1_1) : w ∈ lw_tbl := List.mem_append_right _ (tT1 h)
theorem tA2 {w : Cond} (h : w ∈ tables_1_2) : w ∈ lw_tbl := List.mem_append_right _ (tT2 h)
theorem tA3 {w : Cond} (h : w ∈ tables_1_3) : w ∈ lw_tbl := List.mem_append_right _ (tT3 h)
theorem tA4 {w : Cond} (h : w ∈ tables_1_4) : w ∈ lw_tbl := List.mem_append_right _ (tT4 h)
theorem tS {q : MethodName × Nat} (h : q ∈ lw_privs) : Cond.selects q.1.cls q.1 q.1 ∈ lw_tbl := List.mem_append_left _ (List.mem_map.mpr ⟨q, h, rfl⟩)
/-- what a call of an own method wants of the tables -/
def lkV (own : String) (index : Nat) (y : MethodName) (Cn : String) (bytes : ByteArray) (maxL : Nat) (ret : Option FieldType) (n : Nat) : Prop := Cond.code y bytes maxL ret ∈ wsA ∧ Cond.methodLink own index y ∈ wsA ∧ Cond.instanceMethod y ∈ wsA ∧ Cond.selects Cn y y ∈ wsA ∧ Cond.initialized Cn ∈ wsA ∧ (y.cls = Cn ∧ y.cls ≠ "java/lang/invoke/MethodHandle" ∧ y.cls ≠ "java/lang/invoke/VarHandle" ∧ (parseMethodDescriptor y.desc).map (fun d => d.parameters.length) = some n)
def lkS (own : String) (index : Nat) (y : MethodName) (bytes : ByteArray) (maxL : Nat) (ret : Option FieldType) (n : Nat) : Prop := Cond.code y bytes maxL ret ∈ wsA ∧ Cond.methodLink own index y ∈ wsA ∧ Cond.static y ∈ wsA ∧ Cond.initialized y.cls ∈ wsA ∧ (y.cls ≠ "java/lang/invoke/MethodHandle" ∧ y.cls ≠ "java/lang/invoke/VarHandle" ∧ (parseMethodDescriptor y.desc).map (fun d => d.parameters.length) = some n)
theorem tP1 {q : MethodName × Nat} (h : q ∈ lw_privs_1) : q ∈ lw_privs := List.mem_append_left _ h
theorem tP2 {q : MethodName × Nat} (h : q ∈ lw_privs_2) : q ∈ lw_privs := List.mem_append_right _ (List.mem_append_left _ h)
theorem tP3 {q : MethodName × Nat} (h : q ∈ lw_privs_3) : q ∈ lw_privs := List.mem_append_right _ (List.mem_append_right _ (List.mem_append_left _ h))
theorem tP4 {q : MethodName × Nat} (h : q ∈ lw_privs_4) : q ∈ lw_privs := List.mem_append_right _ (List.mem_append_right _ (List.mem_append_right _ (h)))


def RX0 : String := "MossPromises$Bog"
def TX0 : u_T := fun k => match k with
  | 0 => ("MossPromises$Bog", "cut", "[I", true)
  | 1 => ("MossPromises$Bog", "wet", "[I", true)
  | 2 => ("MossPromises$Bog", "is", "[I", true)
  | 3 => ("MossPromises$Bog", "dried", "[I", true)
  | 4 => ("MossPromises$Bog", "leftWhenFound", "[I", true)
  | _ => ("MossPromises$Bog", "year", "I", false)
def tyX0 : Nat → FieldType := fun k => match k with
  | 0 => .array .int
  | 1 => .array .int
  | 2 => .array .int
  | 3 => .array .int
  | 4 => .array .int
  | _ => .int
abbrev wsX00 : List Cond := u_ws RX0 TX0 6
theorem nmX0 : ∀ a, a < 6 → ∀ b, b < 6 → a ≠ b → (TX0 a).2.1 ≠ (TX0 b).2.1 := by decide +kernel
theorem tyX0_ok : ∀ k, k < 6 → parseFieldDescriptor (TX0 k).2.2.1 = some (tyX0 k) := by decide +kernel
abbrev cX0_init : ByteArray := prog_2_method_1_code
def yX0_init : MethodName := ⟨RX0, "<init>", "()V"⟩
abbrev cX0_beginAgain : ByteArray := prog_2_method_2_code
def yX0_beginAgain : MethodName := ⟨RX0, "beginAgain", "()V"⟩
abbrev cX0_become : ByteArray := prog_2_method_3_code
def yX0_become : MethodName := ⟨RX0, "become", "(LMossPromises$Bog;)V"⟩
def RX1 : String := "MossPromises$Past"
def TX1 : u_T := fun k => match k with
  | 0 => ("MossPromises$Past", "ring", "[LMossPromises$Bog;", true)
  | 1 => ("MossPromises$Past", "next", "I", false)
  | _ => ("MossPromises$Past", "count", "I", false)
def tyX1 : Nat → FieldType := fun k => match k with
  | 0 => .array (.object "MossPromises$Bog")
  | 1 => .int
  | _ => .int
abbrev wsX10 : List Cond := u_ws RX1 TX1 3
theorem nmX1 : ∀ a, a < 3 → ∀ b, b < 3 → a ≠ b → (TX1 a).2.1 ≠ (TX1 b).2.1 := by decide +kernel
theorem tyX1_ok : ∀ k, k < 3 → parseFieldDescriptor (TX1 k).2.2.1 = some (tyX1 k) := by decide +kernel
abbrev cX1_init : ByteArray := prog_3_method_1_code
def yX1_init : MethodName := ⟨RX1, "<init>", "()V"⟩
abbrev cX1_empty : ByteArray := prog_3_method_2_code
def yX1_empty : MethodName := ⟨RX1, "empty", "()V"⟩
abbrev cX1_remember : ByteArray := prog_3_method_3_code
def yX1_remember : MethodName := ⟨RX1, "remember", "(LMossPromises$Bog;)V"⟩
abbrev cX1_giveBack : ByteArray := prog_3_method_4_code
def yX1_giveBack : MethodName := ⟨RX1, "giveBack", "(LMossPromises$Bog;)V"⟩
def RX2 : String := "MossPromises$Reader"
def TX2 : u_T := fun k => match k with
  | 0 => ("MossPromises$Reader", "text", "LMossPromises$Text;", true)
  | 1 => ("MossPromises$Reader", "told", "LMossPromises$Told;", true)
  | 2 => ("MossPromises$Reader", "acidTold", "Z", false)
  | _ => ("MossPromises$Reader", "slideTold", "Z", false)
def tyX2 : Nat → FieldType := fun k => match k with
  | 0 => .object "MossPromises$Text"
  | 1 => .object "MossPromises$Told"
  | 2 => .boolean
  | _ => .boolean
abbrev wsX20 : List Cond := u_ws RX2 TX2 4
theorem nmX2 : ∀ a, a < 4 → ∀ b, b < 4 → a ≠ b → (TX2 a).2.1 ≠ (TX2 b).2.1 := by decide +kernel
theorem tyX2_ok : ∀ k, k < 4 → parseFieldDescriptor (TX2 k).2.2.1 = some (tyX2 k) := by decide +kernel
abbrev cX2_init : ByteArray := prog_4_method_1_code
def yX2_init : MethodName := ⟨RX2, "<init>", "()V"⟩
abbrev cX2_readAll : ByteArray := prog_4_method_2_code
def yX2_readAll : MethodName := ⟨RX2, "readAll", "()I"⟩
abbrev cX2_readPerson : ByteArray := prog_4_method_3_code
def yX2_readPerson : MethodName := ⟨RX2, "readPerson", "()Z"⟩
abbrev cX2_readPromise : ByteArray := prog_4_method_4_code
def yX2_readPromise : MethodName := ⟨RX2, "readPromise", "()Z"⟩
abbrev cX2_readWords : ByteArray := prog_4_method_5_code
def yX2_readWords : MethodName := ⟨RX2, "readWords", "(I)Z"⟩
abbrev cX2_readClash : ByteArray := prog_4_method_6_code
def yX2_readClash : MethodName := ⟨RX2, "readClash", "()Z"⟩
abbrev cX2_readAcid : ByteArray := prog_4_method_7_code
def yX2_readAcid : MethodName := ⟨RX2, "readAcid", "()Z"⟩
abbrev cX2_readSlide : ByteArray := prog_4_method_8_code
def yX2_readSlide : MethodName := ⟨RX2, "readSlide", "()Z"⟩
abbrev cX2_readNumber : ByteArray := prog_4_method_9_code
def yX2_readNumber : MethodName := ⟨RX2, "readNumber", "(II)Z"⟩
abbrev cX2_readEnd : ByteArray := prog_4_method_10_code
def yX2_readEnd : MethodName := ⟨RX2, "readEnd", "()Z"⟩
def RX3 : String := "MossPromises$Text"
def TX3 : u_T := fun k => match k with
  | 0 => ("MossPromises$Text", "letters", "[I", true)
  | 1 => ("MossPromises$Text", "length", "I", false)
  | 2 => ("MossPromises$Text", "sign", "I", false)
  | 3 => ("MossPromises$Text", "start", "I", false)
  | 4 => ("MossPromises$Text", "behind", "I", false)
  | _ => ("MossPromises$Text", "number", "I", false)
def tyX3 : Nat → FieldType := fun k => match k with
  | 0 => .array .int
  | 1 => .int
  | 2 => .int
  | 3 => .int
  | 4 => .int
  | _ => .int
abbrev wsX30 : List Cond := u_ws RX3 TX3 6
theorem nmX3 : ∀ a, a < 6 → ∀ b, b < 6 → a ≠ b → (TX3 a).2.1 ≠ (TX3 b).2.1 := by decide +kernel
theorem tyX3_ok : ∀ k, k < 6 → parseFieldDescriptor (TX3 k).2.2.1 = some (tyX3 k) := by decide +kernel
abbrev cX3_init : ByteArray := prog_5_method_1_code
def yX3_init : MethodName := ⟨RX3, "<init>", "()V"⟩
abbrev cX3_add : ByteArray := prog_5_method_2_code
def yX3_add : MethodName := ⟨RX3, "add", "(I)Z"⟩
abbrev cX3_toFront : ByteArray := prog_5_method_3_code
def yX3_toFront : MethodName := ⟨RX3, "toFront", "()V"⟩
abbrev cX3_readToken : ByteArray := prog_5_method_4_code
def yX3_readToken : MethodName := ⟨RX3, "readToken", "()V"⟩
abbrev cX3_readDigits : ByteArray := prog_5_method_5_code
def yX3_readDigits : MethodName := ⟨RX3, "readDigits", "()V"⟩
abbrev cX3_letterAt : ByteArray := prog_5_method_6_code
def yX3_letterAt : MethodName := ⟨RX3, "letterAt", "(I)I"⟩
abbrev cX3_isDigit : ByteArray := prog_5_method_7_code
def yX3_isDigit : MethodName := ⟨RX3, "isDigit", "(I)Z"⟩
def RX4 : String := "MossPromises$Told"
def TX4 : u_T := fun k => match k with
  | 0 => ("MossPromises$Told", "dies", "[I", true)
  | 1 => ("MossPromises$Told", "heir", "[I", true)
  | 2 => ("MossPromises$Told", "who", "[I", true)
  | 3 => ("MossPromises$Told", "cell", "[I", true)
  | 4 => ("MossPromises$Told", "depth", "[I", true)
  | 5 => ("MossPromises$Told", "span", "[I", true)
  | 6 => ("MossPromises$Told", "due", "[I", true)
  | 7 => ("MossPromises$Told", "wordCount", "[I", true)
  | 8 => ("MossPromises$Told", "words", "[I", true)
  | 9 => ("MossPromises$Told", "clashes", "[I", true)
  | 10 => ("MossPromises$Told", "persons", "I", false)
  | 11 => ("MossPromises$Told", "promises", "I", false)
  | 12 => ("MossPromises$Told", "acid", "I", false)
  | _ => ("MossPromises$Told", "slide", "I", false)
def tyX4 : Nat → FieldType := fun k => match k with
  | 0 => .array .int
  | 1 => .array .int
  | 2 => .array .int
  | 3 => .array .int
  | 4 => .array .int
  | 5 => .array .int
  | 6 => .array .int
  | 7 => .array .int
  | 8 => .array .int
  | 9 => .array .int
  | 10 => .int
  | 11 => .int
  | 12 => .int
  | _ => .int
abbrev wsX40 : List Cond := u_ws RX4 TX4 14
theorem nmX4 : ∀ a, a < 14 → ∀ b, b < 14 → a ≠ b → (TX4 a).2.1 ≠ (TX4 b).2.1 := by decide +kernel
theorem tyX4_ok : ∀ k, k < 14 → parseFieldDescriptor (TX4 k).2.2.1 = some (tyX4 k) := by decide +kernel
abbrev cX4_init : ByteArray := prog_6_method_1_code
def yX4_init : MethodName := ⟨RX4, "<init>", "()V"⟩
abbrev cX4_beginAgain : ByteArray := prog_6_method_2_code
def yX4_beginAgain : MethodName := ⟨RX4, "beginAgain", "()V"⟩
abbrev cX4_become : ByteArray := prog_6_method_3_code
def yX4_become : MethodName := ⟨RX4, "become", "(LMossPromises$Told;)V"⟩
abbrev cX4_hasPerson : ByteArray := prog_6_method_4_code
def yX4_hasPerson : MethodName := ⟨RX4, "hasPerson", "(I)Z"⟩
abbrev cX4_hasPromise : ByteArray := prog_6_method_5_code
def yX4_hasPromise : MethodName := ⟨RX4, "hasPromise", "(I)Z"⟩
abbrev cX4_wordAt : ByteArray := prog_6_method_6_code
def yX4_wordAt : MethodName := ⟨RX4, "wordAt", "(II)I"⟩
def RX5 : String := "MossPromises"
def TX5 : u_T := fun k => match k with
  | 0 => ("MossPromises", "reader", "LMossPromises$Reader;", true)
  | 1 => ("MossPromises", "told", "LMossPromises$Told;", true)
  | 2 => ("MossPromises", "now", "LMossPromises$Bog;", true)
  | 3 => ("MossPromises", "past", "LMossPromises$Past;", true)
  | 4 => ("MossPromises", "images", "[LMossPromises$Bog;", true)
  | 5 => ("MossPromises", "imageKept", "[Z", true)
  | 6 => ("MossPromises", "seen", "[I", true)
  | 7 => ("MossPromises", "wetThen", "[I", true)
  | 8 => ("MossPromises", "wordVotes", "[I", true)
  | 9 => ("MossPromises", "seenCount", "I", false)
  | _ => ("MossPromises", "traced", "J", false)
def tyX5 : Nat → FieldType := fun k => match k with
  | 0 => .object "MossPromises$Reader"
  | 1 => .object "MossPromises$Told"
  | 2 => .object "MossPromises$Bog"
  | 3 => .object "MossPromises$Past"
  | 4 => .array (.object "MossPromises$Bog")
  | 5 => .array .boolean
  | 6 => .array .int
  | 7 => .array .int
  | 8 => .array .int
  | 9 => .int
  | _ => .long
abbrev wsX50 : List Cond := u_ws RX5 TX5 11
theorem nmX5 : ∀ a, a < 11 → ∀ b, b < 11 → a ≠ b → (TX5 a).2.1 ≠ (TX5 b).2.1 := by decide +kernel
theorem tyX5_ok : ∀ k, k < 11 → parseFieldDescriptor (TX5 k).2.2.1 = some (tyX5 k) := by decide +kernel
abbrev cX5_init : ByteArray := prog_1_method_1_code
def yX5_init : MethodName := ⟨RX5, "<init>", "()V"⟩
abbrev cX5_type : ByteArray := prog_1_method_2_code
def yX5_type : MethodName := ⟨RX5, "type", "(I)I"⟩
abbrev cX5_clear : ByteArray := prog_1_method_3_code
def yX5_clear : MethodName := ⟨RX5, "clear", "()I"⟩
abbrev cX5_moss : ByteArray := prog_1_method_4_code
def yX5_moss : MethodName := ⟨RX5, "moss", "()I"⟩
abbrev cX5_person : ByteArray := prog_1_method_5_code
def yX5_person : MethodName := ⟨RX5, "person", "(II)I"⟩
abbrev cX5_promise : ByteArray := prog_1_method_6_code
def yX5_promise : MethodName := ⟨RX5, "promise", "(II)I"⟩
abbrev cX5_word : ByteArray := prog_1_method_7_code
def yX5_word : MethodName := ⟨RX5, "word", "(II)I"⟩
abbrev cX5_cell : ByteArray := prog_1_method_8_code
def yX5_cell : MethodName := ⟨RX5, "cell", "(II)I"⟩
abbrev cX5_now : ByteArray := prog_1_method_9_code
def yX5_now : MethodName := ⟨RX5, "now", "(I)I"⟩
abbrev cX5_cuts : ByteArray := prog_1_method_10_code
def yX5_cuts : MethodName := ⟨RX5, "cuts", "(I)I"⟩
abbrev cX5_drains : ByteArray := prog_1_method_11_code
def yX5_drains : MethodName := ⟨RX5, "drains", "(I)I"⟩
abbrev cX5_does : ByteArray := prog_1_method_12_code
def yX5_does : MethodName := ⟨RX5, "does", "(I)I"⟩
abbrev cX5_year : ByteArray := prog_1_method_13_code
def yX5_year : MethodName := ⟨RX5, "year", "()I"⟩
abbrev cX5_undo : ByteArray := prog_1_method_14_code
def yX5_undo : MethodName := ⟨RX5, "undo", "()I"⟩
abbrev cX5_left : ByteArray := prog_1_method_15_code
def yX5_left : MethodName := ⟨RX5, "left", "(II)I"⟩
abbrev cX5_lasts : ByteArray := prog_1_method_16_code
def yX5_lasts : MethodName := ⟨RX5, "lasts", "(III)I"⟩
abbrev cX5_duty : ByteArray := prog_1_method_17_code
def yX5_duty : MethodName := ⟨RX5, "duty", "(II)I"⟩
abbrev cX5_sees : ByteArray := prog_1_method_18_code
def yX5_sees : MethodName := ⟨RX5, "sees", "(I)I"⟩
abbrev cX5_forget : ByteArray := prog_1_method_19_code
def yX5_forget : MethodName := ⟨RX5, "forget", "()I"⟩
abbrev cX5_fits : ByteArray := prog_1_method_20_code
def yX5_fits : MethodName := ⟨RX5, "fits", "()I"⟩
abbrev cX5_likely : ByteArray := prog_1_method_21_code
def yX5_likely : MethodName := ⟨RX5, "likely", "()I"⟩
abbrev cX5_kept : ByteArray := prog_1_method_22_code
def yX5_kept : MethodName := ⟨RX5, "kept", "(I)I"⟩
abbrev cX5_order : ByteArray := prog_1_method_23_code
def yX5_order : MethodName := ⟨RX5, "order", "(I)I"⟩
abbrev cX5_drain : ByteArray := prog_1_method_24_code
def yX5_drain : MethodName := ⟨RX5, "drain", "(I)I"⟩
abbrev cX5_odds : ByteArray := prog_1_method_25_code
def yX5_odds : MethodName := ⟨RX5, "odds", "(IIII)I"⟩
abbrev cX5_rate : ByteArray := prog_1_method_26_code
def yX5_rate : MethodName := ⟨RX5, "rate", "(II)I"⟩
abbrev cX5_keep : ByteArray := prog_1_method_27_code
def yX5_keep : MethodName := ⟨RX5, "keep", "(I)I"⟩
abbrev cX5_back : ByteArray := prog_1_method_28_code
def yX5_back : MethodName := ⟨RX5, "back", "(I)I"⟩
abbrev cX5_count : ByteArray := prog_1_method_29_code
def yX5_count : MethodName := ⟨RX5, "count", "(I)I"⟩
abbrev cX5_trace : ByteArray := prog_1_method_30_code
def yX5_trace : MethodName := ⟨RX5, "trace", "()J"⟩
abbrev cX5_isCell : ByteArray := prog_1_method_31_code
def yX5_isCell : MethodName := ⟨RX5, "isCell", "(I)Z"⟩
abbrev cX5_isToldYear : ByteArray := prog_1_method_32_code
def yX5_isToldYear : MethodName := ⟨RX5, "isToldYear", "(I)Z"⟩
abbrev cX5_holds : ByteArray := prog_1_method_33_code
def yX5_holds : MethodName := ⟨RX5, "holds", "(II)Z"⟩
abbrev cX5_without : ByteArray := prog_1_method_34_code
def yX5_without : MethodName := ⟨RX5, "without", "(II)I"⟩
abbrev cX5_isNow : ByteArray := prog_1_method_35_code
def yX5_isNow : MethodName := ⟨RX5, "isNow", "(II)Z"⟩
abbrev cX5_liesIn : ByteArray := prog_1_method_36_code
def yX5_liesIn : MethodName := ⟨RX5, "liesIn", "(II)Z"⟩
abbrev cX5_lyingIn : ByteArray := prog_1_method_37_code
def yX5_lyingIn : MethodName := ⟨RX5, "lyingIn", "(I)I"⟩
abbrev cX5_thoseThatAre : ByteArray := prog_1_method_38_code
def yX5_thoseThatAre : MethodName := ⟨RX5, "thoseThatAre", "(I)I"⟩
abbrev cX5_mayBeDone : ByteArray := prog_1_method_39_code
def yX5_mayBeDone : MethodName := ⟨RX5, "mayBeDone", "(II)Z"⟩
abbrev cX5_leftIn : ByteArray := prog_1_method_40_code
def yX5_leftIn : MethodName := ⟨RX5, "leftIn", "(II)I"⟩
abbrev cX5_lyingLeft : ByteArray := prog_1_method_41_code
def yX5_lyingLeft : MethodName := ⟨RX5, "lyingLeft", "(IIII)I"⟩
abbrev cX5_beginsAsSeen : ByteArray := prog_1_method_42_code
def yX5_beginsAsSeen : MethodName := ⟨RX5, "beginsAsSeen", "(I)Z"⟩
abbrev cX5_letYearPass : ByteArray := prog_1_method_43_code
def yX5_letYearPass : MethodName := ⟨RX5, "letYearPass", "([I)I"⟩
abbrev cX5_wetAround : ByteArray := prog_1_method_44_code
def yX5_wetAround : MethodName := ⟨RX5, "wetAround", "([II)I"⟩
abbrev cX5_firstSlide : ByteArray := prog_1_method_45_code
def yX5_firstSlide : MethodName := ⟨RX5, "firstSlide", "(I)I"⟩
abbrev cX5_staysIfDry : ByteArray := prog_1_method_46_code
def yX5_staysIfDry : MethodName := ⟨RX5, "staysIfDry", "(II)Z"⟩
abbrev cX5_beginWetThen : ByteArray := prog_1_method_47_code
def yX5_beginWetThen : MethodName := ⟨RX5, "beginWetThen", "(I)V"⟩
abbrev cX5_bestKept : ByteArray := prog_1_method_48_code
def yX5_bestKept : MethodName := ⟨RX5, "bestKept", "()I"⟩
abbrev cX5_clashesWithin : ByteArray := prog_1_method_49_code
def yX5_clashesWithin : MethodName := ⟨RX5, "clashesWithin", "(I)Z"⟩
abbrev cX5_wordsLeftOf : ByteArray := prog_1_method_50_code
def yX5_wordsLeftOf : MethodName := ⟨RX5, "wordsLeftOf", "(I)I"⟩
abbrev cX5_bestOrdered : ByteArray := prog_1_method_51_code
def yX5_bestOrdered : MethodName := ⟨RX5, "bestOrdered", "()I"⟩
abbrev cX5_endsByDue : ByteArray := prog_1_method_52_code
def yX5_endsByDue : MethodName := ⟨RX5, "endsByDue", "(I)Z"⟩
abbrev cX5_earliestDue : ByteArray := prog_1_method_53_code
def yX5_earliestDue : MethodName := ⟨RX5, "earliestDue", "(I)I"⟩
abbrev cX5_choices : ByteArray := prog_1_method_54_code
def yX5_choices : MethodName := ⟨RX5, "choices", "(II)I"⟩
abbrev cX5_power : ByteArray := prog_1_method_55_code
def yX5_power : MethodName := ⟨RX5, "power", "(II)I"⟩
abbrev cX5_commonDivisor : ByteArray := prog_1_method_56_code
def yX5_commonDivisor : MethodName := ⟨RX5, "commonDivisor", "(II)I"⟩
abbrev cX5_asWord : ByteArray := prog_1_method_57_code
def yX5_asWord : MethodName := ⟨RX5, "asWord", "(I)I"⟩
abbrev cX5_asVow : ByteArray := prog_1_method_58_code
def yX5_asVow : MethodName := ⟨RX5, "asVow", "(I)I"⟩
abbrev cX5_asLoan : ByteArray := prog_1_method_59_code
def yX5_asLoan : MethodName := ⟨RX5, "asLoan", "(I)I"⟩
abbrev cX5_asBride : ByteArray := prog_1_method_60_code
def yX5_asBride : MethodName := ⟨RX5, "asBride", "(I)I"⟩
abbrev cX5_asOak : ByteArray := prog_1_method_61_code
def yX5_asOak : MethodName := ⟨RX5, "asOak", "(I)I"⟩
abbrev cX5_asThumb : ByteArray := prog_1_method_62_code
def yX5_asThumb : MethodName := ⟨RX5, "asThumb", "(I)I"⟩
def RX6 : String := "MossPromisesModel"
def TX6 : u_T := fun k => match k with
  | 0 => ("MossPromisesModel", "thrown", "I", false)
  | 1 => ("MossPromisesModel", "trace", "J", false)
  | 2 => ("MossPromisesModel", "text", "[I", true)
  | 3 => ("MossPromisesModel", "typed", "I", false)
  | 4 => ("MossPromisesModel", "next", "I", false)
  | 5 => ("MossPromisesModel", "token", "I", false)
  | 6 => ("MossPromisesModel", "place", "I", false)
  | 7 => ("MossPromisesModel", "value", "I", false)
  | 8 => ("MossPromisesModel", "fault", "I", false)
  | 9 => ("MossPromisesModel", "many", "[I", true)
  | 10 => ("MossPromisesModel", "told", "I", false)
  | 11 => ("MossPromisesModel", "dies", "[I", true)
  | 12 => ("MossPromisesModel", "heir", "[I", true)
  | 13 => ("MossPromisesModel", "who", "[I", true)
  | 14 => ("MossPromisesModel", "where", "[I", true)
  | 15 => ("MossPromisesModel", "depth", "[I", true)
  | 16 => ("MossPromisesModel", "span", "[I", true)
  | 17 => ("MossPromisesModel", "due", "[I", true)
  | 18 => ("MossPromisesModel", "words", "[I", true)
  | 19 => ("MossPromisesModel", "wordOf", "[I", true)
  | 20 => ("MossPromisesModel", "clash", "[I", true)
  | 21 => ("MossPromisesModel", "s", "[I", true)
  | 22 => ("MossPromisesModel", "kept", "[I", true)
  | 23 => ("MossPromisesModel", "isKept", "[Z", true)
  | 24 => ("MossPromisesModel", "undos", "[I", true)
  | 25 => ("MossPromisesModel", "undoMany", "I", false)
  | 26 => ("MossPromisesModel", "seen", "[I", true)
  | 27 => ("MossPromisesModel", "seenMany", "I", false)
  | 28 => ("MossPromisesModel", "wet", "[I", true)
  | _ => ("MossPromisesModel", "by", "[I", true)
def tyX6 : Nat → FieldType := fun k => match k with
  | 0 => .int
  | 1 => .long
  | 2 => .array .int
  | 3 => .int
  | 4 => .int
  | 5 => .int
  | 6 => .int
  | 7 => .int
  | 8 => .int
  | 9 => .array .int
  | 10 => .int
  | 11 => .array .int
  | 12 => .array .int
  | 13 => .array .int
  | 14 => .array .int
  | 15 => .array .int
  | 16 => .array .int
  | 17 => .array .int
  | 18 => .array .int
  | 19 => .array .int
  | 20 => .array .int
  | 21 => .array .int
  | 22 => .array .int
  | 23 => .array .boolean
  | 24 => .array .int
  | 25 => .int
  | 26 => .array .int
  | 27 => .int
  | 28 => .array .int
  | _ => .array .int
abbrev wsX60 : List Cond := u_ws RX6 TX6 30
theorem nmX6 : ∀ a, a < 30 → ∀ b, b < 30 → a ≠ b → (TX6 a).2.1 ≠ (TX6 b).2.1 := by decide +kernel
theorem tyX6_ok : ∀ k, k < 30 → parseFieldDescriptor (TX6 k).2.2.1 = some (tyX6 k) := by decide +kernel
abbrev cX6_init : ByteArray := prog_8_method_1_code
def yX6_init : MethodName := ⟨RX6, "<init>", "()V"⟩
abbrev cX6_in : ByteArray := prog_8_method_3_code
def yX6_in : MethodName := ⟨RX6, "in", "(III)Z"⟩
abbrev cX6_ones : ByteArray := prog_8_method_4_code
def yX6_ones : MethodName := ⟨RX6, "ones", "(I)I"⟩
abbrev cX6_type : ByteArray := prog_8_method_5_code
def yX6_type : MethodName := ⟨RX6, "type", "(I)I"⟩
abbrev cX6_clear : ByteArray := prog_8_method_6_code
def yX6_clear : MethodName := ⟨RX6, "clear", "()I"⟩
abbrev cX6_letterAt : ByteArray := prog_8_method_7_code
def yX6_letterAt : MethodName := ⟨RX6, "letterAt", "(I)I"⟩
abbrev cX6_isLetter : ByteArray := prog_8_method_8_code
def yX6_isLetter : MethodName := ⟨RX6, "isLetter", "(I)Z"⟩
abbrev cX6_advances : ByteArray := prog_8_method_9_code
def yX6_advances : MethodName := ⟨RX6, "advances", "()V"⟩
abbrev cX6_isWell : ByteArray := prog_8_method_10_code
def yX6_isWell : MethodName := ⟨RX6, "isWell", "()Z"⟩
abbrev cX6_takes : ByteArray := prog_8_method_11_code
def yX6_takes : MethodName := ⟨RX6, "takes", "(Z)I"⟩
abbrev cX6_number : ByteArray := prog_8_method_12_code
def yX6_number : MethodName := ⟨RX6, "number", "(II)I"⟩
abbrev cX6_begins : ByteArray := prog_8_method_13_code
def yX6_begins : MethodName := ⟨RX6, "begins", "()V"⟩
abbrev cX6_mayBegin : ByteArray := prog_8_method_14_code
def yX6_mayBegin : MethodName := ⟨RX6, "mayBegin", "()Z"⟩
abbrev cX6_readsPromise : ByteArray := prog_8_method_15_code
def yX6_readsPromise : MethodName := ⟨RX6, "readsPromise", "()V"⟩
abbrev cX6_readsClash : ByteArray := prog_8_method_16_code
def yX6_readsClash : MethodName := ⟨RX6, "readsClash", "()V"⟩
abbrev cX6_readsItem : ByteArray := prog_8_method_17_code
def yX6_readsItem : MethodName := ⟨RX6, "readsItem", "(I)V"⟩
abbrev cX6_moss : ByteArray := prog_8_method_18_code
def yX6_moss : MethodName := ⟨RX6, "moss", "()I"⟩
abbrev cX6_settles : ByteArray := prog_8_method_19_code
def yX6_settles : MethodName := ⟨RX6, "settles", "()V"⟩
abbrev cX6_isPromise : ByteArray := prog_8_method_20_code
def yX6_isPromise : MethodName := ⟨RX6, "isPromise", "(I)Z"⟩
abbrev cX6_isCell : ByteArray := prog_8_method_21_code
def yX6_isCell : MethodName := ⟨RX6, "isCell", "(I)Z"⟩
abbrev cX6_those : ByteArray := prog_8_method_22_code
def yX6_those : MethodName := ⟨RX6, "those", "(I)I"⟩
abbrev cX6_lyingIn : ByteArray := prog_8_method_23_code
def yX6_lyingIn : MethodName := ⟨RX6, "lyingIn", "(I)I"⟩
abbrev cX6_leftIn : ByteArray := prog_8_method_24_code
def yX6_leftIn : MethodName := ⟨RX6, "leftIn", "(II)I"⟩
abbrev cX6_leftNow : ByteArray := prog_8_method_25_code
def yX6_leftNow : MethodName := ⟨RX6, "leftNow", "(I)I"⟩
abbrev cX6_person : ByteArray := prog_8_method_26_code
def yX6_person : MethodName := ⟨RX6, "person", "(II)I"⟩
abbrev cX6_promise : ByteArray := prog_8_method_27_code
def yX6_promise : MethodName := ⟨RX6, "promise", "(II)I"⟩
abbrev cX6_word : ByteArray := prog_8_method_28_code
def yX6_word : MethodName := ⟨RX6, "word", "(II)I"⟩
abbrev cX6_slidesOf : ByteArray := prog_8_method_29_code
def yX6_slidesOf : MethodName := ⟨RX6, "slidesOf", "()I"⟩
abbrev cX6_wetNow : ByteArray := prog_8_method_30_code
def yX6_wetNow : MethodName := ⟨RX6, "wetNow", "()V"⟩
abbrev cX6_slides : ByteArray := prog_8_method_31_code
def yX6_slides : MethodName := ⟨RX6, "slides", "(I)I"⟩
abbrev cX6_cell : ByteArray := prog_8_method_32_code
def yX6_cell : MethodName := ⟨RX6, "cell", "(II)I"⟩
abbrev cX6_now : ByteArray := prog_8_method_33_code
def yX6_now : MethodName := ⟨RX6, "now", "(I)I"⟩
abbrev cX6_notes : ByteArray := prog_8_method_34_code
def yX6_notes : MethodName := ⟨RX6, "notes", "()V"⟩
abbrev cX6_cuts : ByteArray := prog_8_method_35_code
def yX6_cuts : MethodName := ⟨RX6, "cuts", "(I)I"⟩
abbrev cX6_drains : ByteArray := prog_8_method_36_code
def yX6_drains : MethodName := ⟨RX6, "drains", "(I)I"⟩
abbrev cX6_does : ByteArray := prog_8_method_37_code
def yX6_does : MethodName := ⟨RX6, "does", "(I)I"⟩
abbrev cX6_year : ByteArray := prog_8_method_38_code
def yX6_year : MethodName := ⟨RX6, "year", "()I"⟩
abbrev cX6_undo : ByteArray := prog_8_method_39_code
def yX6_undo : MethodName := ⟨RX6, "undo", "()I"⟩
abbrev cX6_left : ByteArray := prog_8_method_40_code
def yX6_left : MethodName := ⟨RX6, "left", "(II)I"⟩
abbrev cX6_lasts : ByteArray := prog_8_method_41_code
def yX6_lasts : MethodName := ⟨RX6, "lasts", "(III)I"⟩
abbrev cX6_duty : ByteArray := prog_8_method_42_code
def yX6_duty : MethodName := ⟨RX6, "duty", "(II)I"⟩
abbrev cX6_sees : ByteArray := prog_8_method_43_code
def yX6_sees : MethodName := ⟨RX6, "sees", "(I)I"⟩
abbrev cX6_forget : ByteArray := prog_8_method_44_code
def yX6_forget : MethodName := ⟨RX6, "forget", "()I"⟩
abbrev cX6_canBe : ByteArray := prog_8_method_45_code
def yX6_canBe : MethodName := ⟨RX6, "canBe", "(I)Z"⟩
abbrev cX6_fits : ByteArray := prog_8_method_46_code
def yX6_fits : MethodName := ⟨RX6, "fits", "()I"⟩
abbrev cX6_likely : ByteArray := prog_8_method_47_code
def yX6_likely : MethodName := ⟨RX6, "likely", "()I"⟩
abbrev cX6_wordsOf : ByteArray := prog_8_method_48_code
def yX6_wordsOf : MethodName := ⟨RX6, "wordsOf", "(I)I"⟩
abbrev cX6_agree : ByteArray := prog_8_method_49_code
def yX6_agree : MethodName := ⟨RX6, "agree", "(I)Z"⟩
abbrev cX6_kept : ByteArray := prog_8_method_50_code
def yX6_kept : MethodName := ⟨RX6, "kept", "(I)I"⟩
abbrev cX6_soonest : ByteArray := prog_8_method_51_code
def yX6_soonest : MethodName := ⟨RX6, "soonest", "(I)I"⟩
abbrev cX6_canOrder : ByteArray := prog_8_method_52_code
def yX6_canOrder : MethodName := ⟨RX6, "canOrder", "(I)Z"⟩
abbrev cX6_order : ByteArray := prog_8_method_53_code
def yX6_order : MethodName := ⟨RX6, "order", "(I)I"⟩
abbrev cX6_staysFor : ByteArray := prog_8_method_54_code
def yX6_staysFor : MethodName := ⟨RX6, "staysFor", "(II)Z"⟩
abbrev cX6_drain : ByteArray := prog_8_method_55_code
def yX6_drain : MethodName := ⟨RX6, "drain", "(I)I"⟩
abbrev cX6_power : ByteArray := prog_8_method_56_code
def yX6_power : MethodName := ⟨RX6, "power", "(II)I"⟩
abbrev cX6_gcd : ByteArray := prog_8_method_57_code
def yX6_gcd : MethodName := ⟨RX6, "gcd", "(II)I"⟩
abbrev cX6_odds : ByteArray := prog_8_method_58_code
def yX6_odds : MethodName := ⟨RX6, "odds", "(IIII)I"⟩
abbrev cX6_rate : ByteArray := prog_8_method_59_code
def yX6_rate : MethodName := ⟨RX6, "rate", "(II)I"⟩
abbrev cX6_keep : ByteArray := prog_8_method_60_code
def yX6_keep : MethodName := ⟨RX6, "keep", "(I)I"⟩
abbrev cX6_back : ByteArray := prog_8_method_61_code
def yX6_back : MethodName := ⟨RX6, "back", "(I)I"⟩
abbrev cX6_count : ByteArray := prog_8_method_62_code
def yX6_count : MethodName := ⟨RX6, "count", "(I)I"⟩
abbrev cX6_trace : ByteArray := prog_8_method_63_code
def yX6_trace : MethodName := ⟨RX6, "trace", "()J"⟩
def RJ6 : String := "java/lang/Integer"
def TJ6 : u_T := fun k => match k with
  | _ => ("", "", "", false)
def tyJ6 : Nat → FieldType := fun k => match k with
  | _ => .int
theorem nmJ6 : ∀ a, a < 0 → ∀ b, b < 0 → a ≠ b → (TJ6 a).2.1 ≠ (TJ6 b).2.1 := by decide +kernel
theorem tyJ6_ok : ∀ k, k < 0 → parseFieldDescriptor (TJ6 k).2.2.1 = some (tyJ6 k) := by decide +kernel
abbrev cJ6_bitCount_0f7a4 : ByteArray := prog_9_method_49_code
def yJ6_bitCount_0f7a4 : MethodName := ⟨RJ6, "bitCount", "(I)I"⟩
def RJ9 : String := "java/lang/Math"
def TJ9 : u_T := fun k => match k with
  | _ => ("", "", "", false)
def tyJ9 : Nat → FieldType := fun k => match k with
  | _ => .int
theorem nmJ9 : ∀ a, a < 0 → ∀ b, b < 0 → a ≠ b → (TJ9 a).2.1 ≠ (TJ9 b).2.1 := by decide +kernel
theorem tyJ9_ok : ∀ k, k < 0 → parseFieldDescriptor (TJ9 k).2.2.1 = some (tyJ9 k) := by decide +kernel
abbrev cJ9_max_7cf53 : ByteArray := prog_10_method_65_code
def yJ9_max_7cf53 : MethodName := ⟨RJ9, "max", "(II)I"⟩
abbrev cJ9_min_7cf53 : ByteArray := prog_10_method_69_code
def yJ9_min_7cf53 : MethodName := ⟨RJ9, "min", "(II)I"⟩
def RJ10 : String := "java/lang/System"
def TJ10 : u_T := fun k => match k with
  | _ => ("", "", "", false)
def tyJ10 : Nat → FieldType := fun k => match k with
  | _ => .int
theorem nmJ10 : ∀ a, a < 0 → ∀ b, b < 0 → a ≠ b → (TJ10 a).2.1 ≠ (TJ10 b).2.1 := by decide +kernel
theorem tyJ10_ok : ∀ k, k < 0 → parseFieldDescriptor (TJ10 k).2.2.1 = some (tyJ10 k) := by decide +kernel
def RL : String := "MossPromisesLaw"
abbrev cL_law : ByteArray := code
def yL_law : MethodName := ⟨RL, "law", "([I)Z"⟩
abbrev vwCl : List vw_C := [(RX0, TX0, 6), (RX1, TX1, 3), (RX2, TX2, 4), (RX3, TX3, 6), (RX4, TX4, 14), (RX5, TX5, 11), (RX6, TX6, 30)]
theorem inA0k : ∀ k, k < 6 → u_lay RX0 TX0 k ∈ wsA
  | 0, _ => mA (tA1 (List.mem_of_getElem? (i := 166) rfl)) rfl
  | 1, _ => mA (tA1 (List.mem_of_getElem? (i := 168) rfl)) rfl
  | 2, _ => mA (tA1 (List.mem_of_getElem? (i := 170) rfl)) rfl
  | 3, _ => mA (tA1 (List.mem_of_getElem? (i := 172) rfl)) rfl
  | 4, _ => mA (tA1 (List.mem_of_getElem? (i := 174) rfl)) rfl
  | 5, _ => mA (tA1 (List.mem_of_getElem? (i := 176) rfl)) rfl
  | n + 6, h => absurd h (by omega)
theorem inA0 : ∀ x ∈ u_ws RX0 TX0 6, x ∈ wsA := by
  intro x hx
  obtain ⟨k, hk, rfl⟩ := List.mem_map.mp hx
  exact inA0k k (List.mem_range.mp hk)
theorem inA1k : ∀ k, k < 3 → u_lay RX1 TX1 k ∈ wsA
  | 0, _ => mA (tA1 (List.mem_of_getElem? (i := 192) rfl)) rfl
  | 1, _ => mA (tA1 (List.mem_of_getElem? (i := 194) rfl)) rfl
  | 2, _ => mA (tA1 (List.mem_of_getElem? (i := 196) rfl)) rfl
  | n + 3, h => absurd h (by omega)
theorem inA1 : ∀ x ∈ u_ws RX1 TX1 3, x ∈ wsA := by
  intro x hx
  obtain ⟨k, hk, rfl⟩ := List.mem_map.mp hx
  exact inA1k k (List.mem_range.mp hk)
theorem inA2k : ∀ k, k < 4 → u_lay RX2 TX2 k ∈ wsA
  | 0, _ => mA (tA1 (List.mem_of_getElem? (i := 137) rfl)) rfl
  | 1, _ => mA (tA1 (List.mem_of_getElem? (i := 139) rfl)) rfl
  | 2, _ => mA (tA1 (List.mem_of_getElem? (i := 141) rfl)) rfl
  | 3, _ => mA (tA1 (List.mem_of_getElem? (i := 143) rfl)) rfl
  | n + 4, h => absurd h (by omega)
theorem inA2 : ∀ x ∈ u_ws RX2 TX2 4, x ∈ wsA := by
  intro x hx
  obtain ⟨k, hk, rfl⟩ := List.mem_map.mp hx
  exact inA2k k (List.mem_range.mp hk)
theorem inA3k : ∀ k, k < 6 → u_lay RX3 TX3 k ∈ wsA
  | 0, _ => mA (tA1 (List.mem_of_getElem? (i := 41) rfl)) rfl
  | 1, _ => mA (tA1 (List.mem_of_getElem? (i := 43) rfl)) rfl
  | 2, _ => mA (tA1 (List.mem_of_getElem? (i := 45) rfl)) rfl
  | 3, _ => mA (tA1 (List.mem_of_getElem? (i := 47) rfl)) rfl
  | 4, _ => mA (tA1 (List.mem_of_getElem? (i := 49) rfl)) rfl
  | 5, _ => mA (tA1 (List.mem_of_getElem? (i := 51) rfl)) rfl
  | n + 6, h => absurd h (by omega)
theorem inA3 : ∀ x ∈ u_ws RX3 TX3 6, x ∈ wsA := by
  intro x hx
  obtain ⟨k, hk, rfl⟩ := List.mem_map.mp hx
  exact inA3k k (List.mem_range.mp hk)
theorem inA4k : ∀ k, k < 14 → u_lay RX4 TX4 k ∈ wsA
  | 0, _ => mA (tA1 (List.mem_of_getElem? (i := 102) rfl)) rfl
  | 1, _ => mA (tA1 (List.mem_of_getElem? (i := 104) rfl)) rfl
  | 2, _ => mA (tA1 (List.mem_of_getElem? (i := 106) rfl)) rfl
  | 3, _ => mA (tA1 (List.mem_of_getElem? (i := 108) rfl)) rfl
  | 4, _ => mA (tA1 (List.mem_of_getElem? (i := 110) rfl)) rfl
  | 5, _ => mA (tA1 (List.mem_of_getElem? (i := 112) rfl)) rfl
  | 6, _ => mA (tA1 (List.mem_of_getElem? (i := 114) rfl)) rfl
  | 7, _ => mA (tA1 (List.mem_of_getElem? (i := 116) rfl)) rfl
  | 8, _ => mA (tA1 (List.mem_of_getElem? (i := 118) rfl)) rfl
  | 9, _ => mA (tA1 (List.mem_of_getElem? (i := 120) rfl)) rfl
  | 10, _ => mA (tA1 (List.mem_of_getElem? (i := 122) rfl)) rfl
  | 11, _ => mA (tA1 (List.mem_of_getElem? (i := 124) rfl)) rfl
  | 12, _ => mA (tA1 (List.mem_of_getElem? (i := 126) rfl)) rfl
  | 13, _ => mA (tA1 (List.mem_of_getElem? (i := 128) rfl)) rfl
  | n + 14, h => absurd h (by omega)
theorem inA4 : ∀ x ∈ u_ws RX4 TX4 14, x ∈ wsA := by
  intro x hx
  obtain ⟨k, hk, rfl⟩ := List.mem_map.mp hx
  exact inA4k k (List.mem_range.mp hk)
theorem inA5k : ∀ k, k < 11 → u_lay RX5 TX5 k ∈ wsA
  | 0, _ => mA (tA1 (List.mem_of_getElem? (i := 210) rfl)) rfl
  | 1, _ => mA (tA1 (List.mem_of_getElem? (i := 212) rfl)) rfl
  | 2, _ => mA (tA1 (List.mem_of_getElem? (i := 214) rfl)) rfl
  | 3, _ => mA (tA1 (List.mem_of_getElem? (i := 216) rfl)) rfl
  | 4, _ => mA (tA1 (List.mem_of_getElem? (i := 218) rfl)) rfl
  | 5, _ => mA (tA1 (List.mem_of_getElem? (i := 220) rfl)) rfl
  | 6, _ => mA (tA1 (List.mem_of_getElem? (i := 222) rfl)) rfl
  | 7, _ => mA (tA1 (List.mem_of_getElem? (i := 224) rfl)) rfl
  | 8, _ => mA (tA1 (List.mem_of_getElem? (i := 226) rfl)) rfl
  | 9, _ => mA (tA1 (List.mem_of_getElem? (i := 228) rfl)) rfl
  | 10, _ => mA (tA1 (List.mem_of_getElem? (i := 230) rfl)) rfl
  | n + 11, h => absurd h (by omega)
theorem inA5 : ∀ x ∈ u_ws RX5 TX5 11, x ∈ wsA := by
  intro x hx
  obtain ⟨k, hk, rfl⟩ := List.mem_map.mp hx
  exact inA5k k (List.mem_range.mp hk)
theorem inA6k : ∀ k, k < 30 → u_lay RX6 TX6 k ∈ wsA
  | 0, _ => mA (tA3 (List.mem_of_getElem? (i := 159) rfl)) rfl
  | 1, _ => mA (tA3 (List.mem_of_getElem? (i := 161) rfl)) rfl
  | 2, _ => mA (tA3 (List.mem_of_getElem? (i := 163) rfl)) rfl
  | 3, _ => mA (tA3 (List.mem_of_getElem? (i := 165) rfl)) rfl
  | 4, _ => mA (tA3 (List.mem_of_getElem? (i := 167) rfl)) rfl
  | 5, _ => mA (tA3 (List.mem_of_getElem? (i := 169) rfl)) rfl
  | 6, _ => mA (tA3 (List.mem_of_getElem? (i := 171) rfl)) rfl
  | 7, _ => mA (tA3 (List.mem_of_getElem? (i := 173) rfl)) rfl
  | 8, _ => mA (tA3 (List.mem_of_getElem? (i := 175) rfl)) rfl
  | 9, _ => mA (tA3 (List.mem_of_getElem? (i := 177) rfl)) rfl
  | 10, _ => mA (tA3 (List.mem_of_getElem? (i := 179) rfl)) rfl
  | 11, _ => mA (tA3 (List.mem_of_getElem? (i := 181) rfl)) rfl
  | 12, _ => mA (tA3 (List.mem_of_getElem? (i := 183) rfl)) rfl
  | 13, _ => mA (tA3 (List.mem_of_getElem? (i := 185) rfl)) rfl
  | 14, _ => mA (tA3 (List.mem_of_getElem? (i := 187) rfl)) rfl
  | 15, _ => mA (tA3 (List.mem_of_getElem? (i := 189) rfl)) rfl
  | 16, _ => mA (tA3 (List.mem_of_getElem? (i := 191) rfl)) rfl
  | 17, _ => mA (tA3 (List.mem_of_getElem? (i := 193) rfl)) rfl
  | 18, _ => mA (tA3 (List.mem_of_getElem? (i := 195) rfl)) rfl
  | 19, _ => mA (tA3 (List.mem_of_getElem? (i := 197) rfl)) rfl
  | 20, _ => mA (tA3 (List.mem_of_getElem? (i := 199) rfl)) rfl
  | 21, _ => mA (tA3 (List.mem_of_getElem? (i := 201) rfl)) rfl
  | 22, _ => mA (tA3 (List.mem_of_getElem? (i := 203) rfl)) rfl
  | 23, _ => mA (tA3 (List.mem_of_getElem? (i := 205) rfl)) rfl
  | 24, _ => mA (tA3 (List.mem_of_getElem? (i := 207) rfl)) rfl
  | 25, _ => mA (tA3 (List.mem_of_getElem? (i := 209) rfl)) rfl
  | 26, _ => mA (tA3 (List.mem_of_getElem? (i := 211) rfl)) rfl
  | 27, _ => mA (tA3 (List.mem_of_getElem? (i := 213) rfl)) rfl
  | 28, _ => mA (tA3 (List.mem_of_getElem? (i := 215) rfl)) rfl
  | 29, _ => mA (tA3 (List.mem_of_getElem? (i := 217) rfl)) rfl
  | n + 30, h => absurd h (by omega)
theorem inA6 : ∀ x ∈ u_ws RX6 TX6 30, x ∈ wsA := by
  intro x hx
  obtain ⟨k, hk, rfl⟩ := List.mem_map.mp hx
  exact inA6k k (List.mem_range.mp hk)
theorem wd_0 : Cond.fieldLink RX3 9 "MossPromises$Text" "letters" "[I" ∈ wsA := mA (tA1 (List.mem_of_getElem? (i := 31) rfl)) rfl
theorem wd_1 : Cond.fieldLink RX3 15 "MossPromises$Text" "length" "I" ∈ wsA := mA (tA1 (List.mem_of_getElem? (i := 32) rfl)) rfl
theorem wd_2 : Cond.fieldLink RX5 73 "MossPromises$Text" "length" "I" ∈ wsA := mA (tA1 (List.mem_of_getElem? (i := 33) rfl)) rfl
theorem wd_3 : Cond.fieldLink RX3 19 "MossPromises$Text" "sign" "I" ∈ wsA := mA (tA1 (List.mem_of_getElem? (i := 34) rfl)) rfl
theorem wd_4 : Cond.fieldLink RX2 41 "MossPromises$Text" "sign" "I" ∈ wsA := mA (tA1 (List.mem_of_getElem? (i := 35) rfl)) rfl
theorem wd_5 : Cond.fieldLink RX3 22 "MossPromises$Text" "start" "I" ∈ wsA := mA (tA1 (List.mem_of_getElem? (i := 36) rfl)) rfl
theorem wd_6 : Cond.fieldLink RX2 61 "MossPromises$Text" "start" "I" ∈ wsA := mA (tA1 (List.mem_of_getElem? (i := 37) rfl)) rfl
theorem wd_7 : Cond.fieldLink RX3 25 "MossPromises$Text" "behind" "I" ∈ wsA := mA (tA1 (List.mem_of_getElem? (i := 38) rfl)) rfl
theorem wd_8 : Cond.fieldLink RX3 28 "MossPromises$Text" "number" "I" ∈ wsA := mA (tA1 (List.mem_of_getElem? (i := 39) rfl)) rfl
theorem wd_9 : Cond.fieldLink RX2 75 "MossPromises$Text" "number" "I" ∈ wsA := mA (tA1 (List.mem_of_getElem? (i := 40) rfl)) rfl
theorem wd_10 : Cond.fieldLink RX4 9 "MossPromises$Told" "dies" "[I" ∈ wsA := mA (tA1 (List.mem_of_getElem? (i := 61) rfl)) rfl
theorem wd_11 : Cond.fieldLink RX2 71 "MossPromises$Told" "dies" "[I" ∈ wsA := mA (tA1 (List.mem_of_getElem? (i := 62) rfl)) rfl
theorem wd_12 : Cond.fieldLink RX5 94 "MossPromises$Told" "dies" "[I" ∈ wsA := mA (tA1 (List.mem_of_getElem? (i := 63) rfl)) rfl
theorem wd_13 : Cond.fieldLink RX4 15 "MossPromises$Told" "heir" "[I" ∈ wsA := mA (tA1 (List.mem_of_getElem? (i := 64) rfl)) rfl
theorem wd_14 : Cond.fieldLink RX2 78 "MossPromises$Told" "heir" "[I" ∈ wsA := mA (tA1 (List.mem_of_getElem? (i := 65) rfl)) rfl
theorem wd_15 : Cond.fieldLink RX5 97 "MossPromises$Told" "heir" "[I" ∈ wsA := mA (tA1 (List.mem_of_getElem? (i := 66) rfl)) rfl
theorem wd_16 : Cond.fieldLink RX4 18 "MossPromises$Told" "who" "[I" ∈ wsA := mA (tA1 (List.mem_of_getElem? (i := 67) rfl)) rfl
theorem wd_17 : Cond.fieldLink RX2 87 "MossPromises$Told" "who" "[I" ∈ wsA := mA (tA1 (List.mem_of_getElem? (i := 68) rfl)) rfl
theorem wd_18 : Cond.fieldLink RX5 103 "MossPromises$Told" "who" "[I" ∈ wsA := mA (tA1 (List.mem_of_getElem? (i := 69) rfl)) rfl
theorem wd_19 : Cond.fieldLink RX4 21 "MossPromises$Told" "cell" "[I" ∈ wsA := mA (tA1 (List.mem_of_getElem? (i := 70) rfl)) rfl
theorem wd_20 : Cond.fieldLink RX2 90 "MossPromises$Told" "cell" "[I" ∈ wsA := mA (tA1 (List.mem_of_getElem? (i := 71) rfl)) rfl
theorem wd_21 : Cond.fieldLink RX5 106 "MossPromises$Told" "cell" "[I" ∈ wsA := mA (tA1 (List.mem_of_getElem? (i := 72) rfl)) rfl
theorem wd_22 : Cond.fieldLink RX4 24 "MossPromises$Told" "depth" "[I" ∈ wsA := mA (tA1 (List.mem_of_getElem? (i := 73) rfl)) rfl
theorem wd_23 : Cond.fieldLink RX2 93 "MossPromises$Told" "depth" "[I" ∈ wsA := mA (tA1 (List.mem_of_getElem? (i := 74) rfl)) rfl
theorem wd_24 : Cond.fieldLink RX5 109 "MossPromises$Told" "depth" "[I" ∈ wsA := mA (tA1 (List.mem_of_getElem? (i := 75) rfl)) rfl
theorem wd_25 : Cond.fieldLink RX4 27 "MossPromises$Told" "span" "[I" ∈ wsA := mA (tA1 (List.mem_of_getElem? (i := 76) rfl)) rfl
theorem wd_26 : Cond.fieldLink RX2 96 "MossPromises$Told" "span" "[I" ∈ wsA := mA (tA1 (List.mem_of_getElem? (i := 77) rfl)) rfl
theorem wd_27 : Cond.fieldLink RX5 112 "MossPromises$Told" "span" "[I" ∈ wsA := mA (tA1 (List.mem_of_getElem? (i := 78) rfl)) rfl
theorem wd_28 : Cond.fieldLink RX4 30 "MossPromises$Told" "due" "[I" ∈ wsA := mA (tA1 (List.mem_of_getElem? (i := 79) rfl)) rfl
theorem wd_29 : Cond.fieldLink RX2 99 "MossPromises$Told" "due" "[I" ∈ wsA := mA (tA1 (List.mem_of_getElem? (i := 80) rfl)) rfl
theorem wd_30 : Cond.fieldLink RX5 115 "MossPromises$Told" "due" "[I" ∈ wsA := mA (tA1 (List.mem_of_getElem? (i := 81) rfl)) rfl
theorem wd_31 : Cond.fieldLink RX4 33 "MossPromises$Told" "wordCount" "[I" ∈ wsA := mA (tA1 (List.mem_of_getElem? (i := 82) rfl)) rfl
theorem wd_32 : Cond.fieldLink RX2 112 "MossPromises$Told" "wordCount" "[I" ∈ wsA := mA (tA1 (List.mem_of_getElem? (i := 83) rfl)) rfl
theorem wd_33 : Cond.fieldLink RX5 118 "MossPromises$Told" "wordCount" "[I" ∈ wsA := mA (tA1 (List.mem_of_getElem? (i := 84) rfl)) rfl
theorem wd_34 : Cond.fieldLink RX4 36 "MossPromises$Told" "words" "[I" ∈ wsA := mA (tA1 (List.mem_of_getElem? (i := 85) rfl)) rfl
theorem wd_35 : Cond.fieldLink RX2 109 "MossPromises$Told" "words" "[I" ∈ wsA := mA (tA1 (List.mem_of_getElem? (i := 86) rfl)) rfl
theorem wd_36 : Cond.fieldLink RX4 39 "MossPromises$Told" "clashes" "[I" ∈ wsA := mA (tA1 (List.mem_of_getElem? (i := 87) rfl)) rfl
theorem wd_37 : Cond.fieldLink RX2 102 "MossPromises$Told" "clashes" "[I" ∈ wsA := mA (tA1 (List.mem_of_getElem? (i := 88) rfl)) rfl
theorem wd_38 : Cond.fieldLink RX5 121 "MossPromises$Told" "clashes" "[I" ∈ wsA := mA (tA1 (List.mem_of_getElem? (i := 89) rfl)) rfl
theorem wd_39 : Cond.fieldLink RX4 42 "MossPromises$Told" "persons" "I" ∈ wsA := mA (tA1 (List.mem_of_getElem? (i := 90) rfl)) rfl
theorem wd_40 : Cond.fieldLink RX2 64 "MossPromises$Told" "persons" "I" ∈ wsA := mA (tA1 (List.mem_of_getElem? (i := 91) rfl)) rfl
theorem wd_41 : Cond.fieldLink RX5 257 "MossPromises$Told" "persons" "I" ∈ wsA := mA (tA1 (List.mem_of_getElem? (i := 92) rfl)) rfl
theorem wd_42 : Cond.fieldLink RX4 46 "MossPromises$Told" "promises" "I" ∈ wsA := mA (tA1 (List.mem_of_getElem? (i := 93) rfl)) rfl
theorem wd_43 : Cond.fieldLink RX2 84 "MossPromises$Told" "promises" "I" ∈ wsA := mA (tA1 (List.mem_of_getElem? (i := 94) rfl)) rfl
theorem wd_44 : Cond.fieldLink RX5 260 "MossPromises$Told" "promises" "I" ∈ wsA := mA (tA1 (List.mem_of_getElem? (i := 95) rfl)) rfl
theorem wd_45 : Cond.fieldLink RX4 49 "MossPromises$Told" "acid" "I" ∈ wsA := mA (tA1 (List.mem_of_getElem? (i := 96) rfl)) rfl
theorem wd_46 : Cond.fieldLink RX2 115 "MossPromises$Told" "acid" "I" ∈ wsA := mA (tA1 (List.mem_of_getElem? (i := 97) rfl)) rfl
theorem wd_47 : Cond.fieldLink RX5 263 "MossPromises$Told" "acid" "I" ∈ wsA := mA (tA1 (List.mem_of_getElem? (i := 98) rfl)) rfl
theorem wd_48 : Cond.fieldLink RX4 52 "MossPromises$Told" "slide" "I" ∈ wsA := mA (tA1 (List.mem_of_getElem? (i := 99) rfl)) rfl
theorem wd_49 : Cond.fieldLink RX2 118 "MossPromises$Told" "slide" "I" ∈ wsA := mA (tA1 (List.mem_of_getElem? (i := 100) rfl)) rfl
theorem wd_50 : Cond.fieldLink RX5 266 "MossPromises$Told" "slide" "I" ∈ wsA := mA (tA1 (List.mem_of_getElem? (i := 101) rfl)) rfl
theorem wd_51 : Cond.fieldLink RX2 12 "MossPromises$Reader" "text" "LMossPromises$Text;" ∈ wsA := mA (tA1 (List.mem_of_getElem? (i := 131) rfl)) rfl
theorem wd_52 : Cond.fieldLink RX5 63 "MossPromises$Reader" "text" "LMossPromises$Text;" ∈ wsA := mA (tA1 (List.mem_of_getElem? (i := 132) rfl)) rfl
theorem wd_53 : Cond.fieldLink RX2 21 "MossPromises$Reader" "told" "LMossPromises$Told;" ∈ wsA := mA (tA1 (List.mem_of_getElem? (i := 133) rfl)) rfl
theorem wd_54 : Cond.fieldLink RX5 80 "MossPromises$Reader" "told" "LMossPromises$Told;" ∈ wsA := mA (tA1 (List.mem_of_getElem? (i := 134) rfl)) rfl
theorem wd_55 : Cond.fieldLink RX2 25 "MossPromises$Reader" "acidTold" "Z" ∈ wsA := mA (tA1 (List.mem_of_getElem? (i := 135) rfl)) rfl
theorem wd_56 : Cond.fieldLink RX2 29 "MossPromises$Reader" "slideTold" "Z" ∈ wsA := mA (tA1 (List.mem_of_getElem? (i := 136) rfl)) rfl
theorem wd_57 : Cond.fieldLink RX0 9 "MossPromises$Bog" "cut" "[I" ∈ wsA := mA (tA1 (List.mem_of_getElem? (i := 154) rfl)) rfl
theorem wd_58 : Cond.fieldLink RX5 137 "MossPromises$Bog" "cut" "[I" ∈ wsA := mA (tA1 (List.mem_of_getElem? (i := 155) rfl)) rfl
theorem wd_59 : Cond.fieldLink RX0 15 "MossPromises$Bog" "wet" "[I" ∈ wsA := mA (tA1 (List.mem_of_getElem? (i := 156) rfl)) rfl
theorem wd_60 : Cond.fieldLink RX5 140 "MossPromises$Bog" "wet" "[I" ∈ wsA := mA (tA1 (List.mem_of_getElem? (i := 157) rfl)) rfl
theorem wd_61 : Cond.fieldLink RX0 18 "MossPromises$Bog" "is" "[I" ∈ wsA := mA (tA1 (List.mem_of_getElem? (i := 158) rfl)) rfl
theorem wd_62 : Cond.fieldLink RX5 124 "MossPromises$Bog" "is" "[I" ∈ wsA := mA (tA1 (List.mem_of_getElem? (i := 159) rfl)) rfl
theorem wd_63 : Cond.fieldLink RX0 21 "MossPromises$Bog" "dried" "[I" ∈ wsA := mA (tA1 (List.mem_of_getElem? (i := 160) rfl)) rfl
theorem wd_64 : Cond.fieldLink RX5 170 "MossPromises$Bog" "dried" "[I" ∈ wsA := mA (tA1 (List.mem_of_getElem? (i := 161) rfl)) rfl
theorem wd_65 : Cond.fieldLink RX0 24 "MossPromises$Bog" "leftWhenFound" "[I" ∈ wsA := mA (tA1 (List.mem_of_getElem? (i := 162) rfl)) rfl
theorem wd_66 : Cond.fieldLink RX5 167 "MossPromises$Bog" "leftWhenFound" "[I" ∈ wsA := mA (tA1 (List.mem_of_getElem? (i := 163) rfl)) rfl
theorem wd_67 : Cond.fieldLink RX0 27 "MossPromises$Bog" "year" "I" ∈ wsA := mA (tA1 (List.mem_of_getElem? (i := 164) rfl)) rfl
theorem wd_68 : Cond.fieldLink RX5 150 "MossPromises$Bog" "year" "I" ∈ wsA := mA (tA1 (List.mem_of_getElem? (i := 165) rfl)) rfl
theorem wd_69 : Cond.fieldLink RX1 11 "MossPromises$Past" "ring" "[LMossPromises$Bog;" ∈ wsA := mA (tA1 (List.mem_of_getElem? (i := 188) rfl)) rfl
theorem wd_70 : Cond.fieldLink RX1 17 "MossPromises$Past" "next" "I" ∈ wsA := mA (tA1 (List.mem_of_getElem? (i := 189) rfl)) rfl
theorem wd_71 : Cond.fieldLink RX1 21 "MossPromises$Past" "count" "I" ∈ wsA := mA (tA1 (List.mem_of_getElem? (i := 190) rfl)) rfl
theorem wd_72 : Cond.fieldLink RX5 156 "MossPromises$Past" "count" "I" ∈ wsA := mA (tA1 (List.mem_of_getElem? (i := 191) rfl)) rfl
theorem wd_73 : Cond.fieldLink RX5 10 "MossPromises" "reader" "LMossPromises$Reader;" ∈ wsA := mA (tA1 (List.mem_of_getElem? (i := 199) rfl)) rfl
theorem wd_74 : Cond.fieldLink RX5 19 "MossPromises" "told" "LMossPromises$Told;" ∈ wsA := mA (tA1 (List.mem_of_getElem? (i := 200) rfl)) rfl
theorem wd_75 : Cond.fieldLink RX5 26 "MossPromises" "now" "LMossPromises$Bog;" ∈ wsA := mA (tA1 (List.mem_of_getElem? (i := 201) rfl)) rfl
theorem wd_76 : Cond.fieldLink RX5 33 "MossPromises" "past" "LMossPromises$Past;" ∈ wsA := mA (tA1 (List.mem_of_getElem? (i := 202) rfl)) rfl
theorem wd_77 : Cond.fieldLink RX5 37 "MossPromises" "images" "[LMossPromises$Bog;" ∈ wsA := mA (tA1 (List.mem_of_getElem? (i := 203) rfl)) rfl
theorem wd_78 : Cond.fieldLink RX5 41 "MossPromises" "imageKept" "[Z" ∈ wsA := mA (tA1 (List.mem_of_getElem? (i := 204) rfl)) rfl
theorem wd_79 : Cond.fieldLink RX5 45 "MossPromises" "seen" "[I" ∈ wsA := mA (tA1 (List.mem_of_getElem? (i := 205) rfl)) rfl
theorem wd_80 : Cond.fieldLink RX5 49 "MossPromises" "wetThen" "[I" ∈ wsA := mA (tA1 (List.mem_of_getElem? (i := 206) rfl)) rfl
theorem wd_81 : Cond.fieldLink RX5 52 "MossPromises" "wordVotes" "[I" ∈ wsA := mA (tA1 (List.mem_of_getElem? (i := 207) rfl)) rfl
theorem wd_82 : Cond.fieldLink RX5 55 "MossPromises" "seenCount" "I" ∈ wsA := mA (tA1 (List.mem_of_getElem? (i := 208) rfl)) rfl
theorem wd_83 : Cond.fieldLink RX5 59 "MossPromises" "traced" "J" ∈ wsA := mA (tA1 (List.mem_of_getElem? (i := 209) rfl)) rfl
theorem wd_84 : Cond.fieldLink RX6 74 "MossPromisesModel" "thrown" "I" ∈ wsA := mA (tA3 (List.mem_of_getElem? (i := 129) rfl)) rfl
theorem wd_85 : Cond.fieldLink RX6 205 "MossPromisesModel" "trace" "J" ∈ wsA := mA (tA3 (List.mem_of_getElem? (i := 130) rfl)) rfl
theorem wd_86 : Cond.fieldLink RX6 7 "MossPromisesModel" "text" "[I" ∈ wsA := mA (tA3 (List.mem_of_getElem? (i := 131) rfl)) rfl
theorem wd_87 : Cond.fieldLink RX6 82 "MossPromisesModel" "typed" "I" ∈ wsA := mA (tA3 (List.mem_of_getElem? (i := 132) rfl)) rfl
theorem wd_88 : Cond.fieldLink RX6 85 "MossPromisesModel" "next" "I" ∈ wsA := mA (tA3 (List.mem_of_getElem? (i := 133) rfl)) rfl
theorem wd_89 : Cond.fieldLink RX6 95 "MossPromisesModel" "token" "I" ∈ wsA := mA (tA3 (List.mem_of_getElem? (i := 134) rfl)) rfl
theorem wd_90 : Cond.fieldLink RX6 92 "MossPromisesModel" "place" "I" ∈ wsA := mA (tA3 (List.mem_of_getElem? (i := 135) rfl)) rfl
theorem wd_91 : Cond.fieldLink RX6 98 "MossPromisesModel" "value" "I" ∈ wsA := mA (tA3 (List.mem_of_getElem? (i := 136) rfl)) rfl
theorem wd_92 : Cond.fieldLink RX6 105 "MossPromisesModel" "fault" "I" ∈ wsA := mA (tA3 (List.mem_of_getElem? (i := 137) rfl)) rfl
theorem wd_93 : Cond.fieldLink RX6 13 "MossPromisesModel" "many" "[I" ∈ wsA := mA (tA3 (List.mem_of_getElem? (i := 138) rfl)) rfl
theorem wd_94 : Cond.fieldLink RX6 119 "MossPromisesModel" "told" "I" ∈ wsA := mA (tA3 (List.mem_of_getElem? (i := 139) rfl)) rfl
theorem wd_95 : Cond.fieldLink RX6 16 "MossPromisesModel" "dies" "[I" ∈ wsA := mA (tA3 (List.mem_of_getElem? (i := 140) rfl)) rfl
theorem wd_96 : Cond.fieldLink RX6 19 "MossPromisesModel" "heir" "[I" ∈ wsA := mA (tA3 (List.mem_of_getElem? (i := 141) rfl)) rfl
theorem wd_97 : Cond.fieldLink RX6 22 "MossPromisesModel" "who" "[I" ∈ wsA := mA (tA3 (List.mem_of_getElem? (i := 142) rfl)) rfl
theorem wd_98 : Cond.fieldLink RX6 25 "MossPromisesModel" "where" "[I" ∈ wsA := mA (tA3 (List.mem_of_getElem? (i := 143) rfl)) rfl
theorem wd_99 : Cond.fieldLink RX6 28 "MossPromisesModel" "depth" "[I" ∈ wsA := mA (tA3 (List.mem_of_getElem? (i := 144) rfl)) rfl
theorem wd_100 : Cond.fieldLink RX6 31 "MossPromisesModel" "span" "[I" ∈ wsA := mA (tA3 (List.mem_of_getElem? (i := 145) rfl)) rfl
theorem wd_101 : Cond.fieldLink RX6 34 "MossPromisesModel" "due" "[I" ∈ wsA := mA (tA3 (List.mem_of_getElem? (i := 146) rfl)) rfl
theorem wd_102 : Cond.fieldLink RX6 37 "MossPromisesModel" "words" "[I" ∈ wsA := mA (tA3 (List.mem_of_getElem? (i := 147) rfl)) rfl
theorem wd_103 : Cond.fieldLink RX6 40 "MossPromisesModel" "wordOf" "[I" ∈ wsA := mA (tA3 (List.mem_of_getElem? (i := 148) rfl)) rfl
theorem wd_104 : Cond.fieldLink RX6 43 "MossPromisesModel" "clash" "[I" ∈ wsA := mA (tA3 (List.mem_of_getElem? (i := 149) rfl)) rfl
theorem wd_105 : Cond.fieldLink RX6 46 "MossPromisesModel" "s" "[I" ∈ wsA := mA (tA3 (List.mem_of_getElem? (i := 150) rfl)) rfl
theorem wd_106 : Cond.fieldLink RX6 49 "MossPromisesModel" "kept" "[I" ∈ wsA := mA (tA3 (List.mem_of_getElem? (i := 151) rfl)) rfl
theorem wd_107 : Cond.fieldLink RX6 52 "MossPromisesModel" "isKept" "[Z" ∈ wsA := mA (tA3 (List.mem_of_getElem? (i := 152) rfl)) rfl
theorem wd_108 : Cond.fieldLink RX6 56 "MossPromisesModel" "undos" "[I" ∈ wsA := mA (tA3 (List.mem_of_getElem? (i := 153) rfl)) rfl
theorem wd_109 : Cond.fieldLink RX6 142 "MossPromisesModel" "undoMany" "I" ∈ wsA := mA (tA3 (List.mem_of_getElem? (i := 154) rfl)) rfl
theorem wd_110 : Cond.fieldLink RX6 59 "MossPromisesModel" "seen" "[I" ∈ wsA := mA (tA3 (List.mem_of_getElem? (i := 155) rfl)) rfl
theorem wd_111 : Cond.fieldLink RX6 139 "MossPromisesModel" "seenMany" "I" ∈ wsA := mA (tA3 (List.mem_of_getElem? (i := 156) rfl)) rfl
theorem wd_112 : Cond.fieldLink RX6 62 "MossPromisesModel" "wet" "[I" ∈ wsA := mA (tA3 (List.mem_of_getElem? (i := 157) rfl)) rfl
theorem wd_113 : Cond.fieldLink RX6 65 "MossPromisesModel" "by" "[I" ∈ wsA := mA (tA3 (List.mem_of_getElem? (i := 158) rfl)) rfl
theorem wd_114 : Cond.constant RJ6 265 (1431655765) ∈ wsA := mA (tA2 (List.mem_of_getElem? (i := 198) rfl)) rfl
theorem wd_115 : Cond.constant RJ6 266 (858993459) ∈ wsA := mA (tA2 (List.mem_of_getElem? (i := 199) rfl)) rfl
theorem wd_116 : Cond.constant RJ6 267 (252645135) ∈ wsA := mA (tA2 (List.mem_of_getElem? (i := 200) rfl)) rfl
theorem wd_117 : Cond.constant RX5 236 (-1000000) ∈ wsA := mA (tA3 (List.mem_of_getElem? (i := 68) rfl)) rfl
theorem wd_118 : Cond.constantLong RX5 286 (10) ∈ wsA := mA (tA3 (List.mem_of_getElem? (i := 77) rfl)) rfl
theorem wd_119 : Cond.constantLong RX5 288 (100) ∈ wsA := mA (tA3 (List.mem_of_getElem? (i := 82) rfl)) rfl
theorem wd_120 : Cond.constantLong RX5 290 (1000) ∈ wsA := mA (tA3 (List.mem_of_getElem? (i := 87) rfl)) rfl
theorem wd_121 : Cond.constantLong RX5 292 (10000) ∈ wsA := mA (tA3 (List.mem_of_getElem? (i := 92) rfl)) rfl
theorem wd_122 : Cond.constantLong RX5 294 (100000) ∈ wsA := mA (tA3 (List.mem_of_getElem? (i := 97) rfl)) rfl
theorem wd_123 : Cond.constant RX6 204 (-1000000) ∈ wsA := mA (tA4 (List.mem_of_getElem? (i := 194) rfl)) rfl
theorem wd_124 : Cond.constantLong RX6 209 (11) ∈ wsA := mA (tA4 (List.mem_of_getElem? (i := 195) rfl)) rfl
theorem wd_125 : Cond.constantLong RX6 211 (101) ∈ wsA := mA (tA4 (List.mem_of_getElem? (i := 196) rfl)) rfl
theorem wd_126 : Cond.constantLong RX6 213 (1011) ∈ wsA := mA (tA4 (List.mem_of_getElem? (i := 197) rfl)) rfl
theorem wd_127 : Cond.constantLong RX6 215 (10101) ∈ wsA := mA (tA4 (List.mem_of_getElem? (i := 198) rfl)) rfl
theorem wd_128 : Cond.constantLong RX6 217 (100001) ∈ wsA := mA (tA4 (List.mem_of_getElem? (i := 199) rfl)) rfl
theorem wd_129 : Cond.methodLink RL 13 yX5_type ∈ wsA := mA (tA1 (List.mem_of_getElem? (i := 234) rfl)) rfl
theorem wd_130 : Cond.code yX5_type cX5_type 2 (some .int) ∈ wsA := mA (tA1 (List.mem_of_getElem? (i := 237) rfl)) rfl
theorem wd_131 : Cond.initialized RX5 ∈ wsA := mA (tA1 (List.mem_of_getElem? (i := 1) rfl)) rfl
theorem wd_132 : Cond.instanceMethod yX5_type ∈ wsA := mA (tA1 (List.mem_of_getElem? (i := 235) rfl)) rfl
theorem wd_133 : Cond.selects RX5 yX5_type yX5_type ∈ wsA := mA (tA1 (List.mem_of_getElem? (i := 236) rfl)) rfl
theorem lk_RL_13 : lkV RL 13 yX5_type RX5 cX5_type 2 (some .int) 1 := ⟨wd_130, wd_129, wd_132, wd_133, wd_131, ⟨rfl, by decide +kernel, by decide +kernel, by decide +kernel⟩⟩
theorem wd_134 : Cond.methodLink RX5 67 yX3_add ∈ wsA := mA (tA1 (List.mem_of_getElem? (i := 238) rfl)) rfl
theorem wd_135 : Cond.code yX3_add cX3_add 2 (some .boolean) ∈ wsA := mA (tA2 (List.mem_of_getElem? (i := 1) rfl)) rfl
theorem wd_136 : Cond.initialized RX3 ∈ wsA := mA (tA1 (List.mem_of_getElem? (i := 3) rfl)) rfl
theorem wd_137 : Cond.instanceMethod yX3_add ∈ wsA := mA (tA1 (List.mem_of_getElem? (i := 239) rfl)) rfl
theorem wd_138 : Cond.selects RX3 yX3_add yX3_add ∈ wsA := mA (tA2 (List.mem_of_getElem? (i := 0) rfl)) rfl
theorem lk_RX5_67 : lkV RX5 67 yX3_add RX3 cX3_add 2 (some .boolean) 1 := ⟨wd_135, wd_134, wd_137, wd_138, wd_136, ⟨rfl, by decide +kernel, by decide +kernel, by decide +kernel⟩⟩
theorem wd_139 : Cond.methodLink RL 18 yX5_clear ∈ wsA := mA (tA2 (List.mem_of_getElem? (i := 2) rfl)) rfl
theorem wd_140 : Cond.code yX5_clear cX5_clear 2 (some .int) ∈ wsA := mA (tA2 (List.mem_of_getElem? (i := 5) rfl)) rfl
theorem wd_141 : Cond.instanceMethod yX5_clear ∈ wsA := mA (tA2 (List.mem_of_getElem? (i := 3) rfl)) rfl
theorem wd_142 : Cond.selects RX5 yX5_clear yX5_clear ∈ wsA := mA (tA2 (List.mem_of_getElem? (i := 4) rfl)) rfl
theorem lk_RL_18 : lkV RL 18 yX5_clear RX5 cX5_clear 2 (some .int) 0 := ⟨wd_140, wd_139, wd_141, wd_142, wd_131, ⟨rfl, by decide +kernel, by decide +kernel, by decide +kernel⟩⟩
theorem wd_143 : Cond.methodLink RL 23 yX5_moss ∈ wsA := mA (tA2 (List.mem_of_getElem? (i := 6) rfl)) rfl
theorem wd_144 : Cond.code yX5_moss cX5_moss 3 (some .int) ∈ wsA := mA (tA2 (List.mem_of_getElem? (i := 9) rfl)) rfl
theorem wd_145 : Cond.instanceMethod yX5_moss ∈ wsA := mA (tA2 (List.mem_of_getElem? (i := 7) rfl)) rfl
theorem wd_146 : Cond.selects RX5 yX5_moss yX5_moss ∈ wsA := mA (tA2 (List.mem_of_getElem? (i := 8) rfl)) rfl
theorem lk_RL_23 : lkV RL 23 yX5_moss RX5 cX5_moss 3 (some .int) 0 := ⟨wd_144, wd_143, wd_145, wd_146, wd_131, ⟨rfl, by decide +kernel, by decide +kernel, by decide +kernel⟩⟩
theorem wd_147 : Cond.methodLink RX5 76 yX2_readAll ∈ wsA := mA (tA2 (List.mem_of_getElem? (i := 10) rfl)) rfl
theorem wd_148 : Cond.code yX2_readAll cX2_readAll 3 (some .int) ∈ wsA := mA (tA2 (List.mem_of_getElem? (i := 13) rfl)) rfl
theorem wd_149 : Cond.initialized RX2 ∈ wsA := mA (tA1 (List.mem_of_getElem? (i := 2) rfl)) rfl
theorem wd_150 : Cond.instanceMethod yX2_readAll ∈ wsA := mA (tA2 (List.mem_of_getElem? (i := 11) rfl)) rfl
theorem wd_151 : Cond.selects RX2 yX2_readAll yX2_readAll ∈ wsA := mA (tA2 (List.mem_of_getElem? (i := 12) rfl)) rfl
theorem lk_RX5_76 : lkV RX5 76 yX2_readAll RX2 cX2_readAll 3 (some .int) 0 := ⟨wd_148, wd_147, wd_150, wd_151, wd_149, ⟨rfl, by decide +kernel, by decide +kernel, by decide +kernel⟩⟩
theorem wd_152 : Cond.methodLink RX2 32 yX4_beginAgain ∈ wsA := mA (tA2 (List.mem_of_getElem? (i := 14) rfl)) rfl
theorem wd_153 : Cond.code yX4_beginAgain cX4_beginAgain 1 none ∈ wsA := mA (tA2 (List.mem_of_getElem? (i := 17) rfl)) rfl
theorem wd_154 : Cond.initialized RX4 ∈ wsA := mA (tA1 (List.mem_of_getElem? (i := 4) rfl)) rfl
theorem wd_155 : Cond.instanceMethod yX4_beginAgain ∈ wsA := mA (tA2 (List.mem_of_getElem? (i := 15) rfl)) rfl
theorem wd_156 : Cond.selects RX4 yX4_beginAgain yX4_beginAgain ∈ wsA := mA (tA2 (List.mem_of_getElem? (i := 16) rfl)) rfl
theorem lk_RX2_32 : lkV RX2 32 yX4_beginAgain RX4 cX4_beginAgain 1 none 0 := ⟨wd_153, wd_152, wd_155, wd_156, wd_154, ⟨rfl, by decide +kernel, by decide +kernel, by decide +kernel⟩⟩
theorem wd_157 : Cond.methodLink RX2 35 yX3_toFront ∈ wsA := mA (tA2 (List.mem_of_getElem? (i := 18) rfl)) rfl
theorem wd_158 : Cond.code yX3_toFront cX3_toFront 1 none ∈ wsA := mA (tA2 (List.mem_of_getElem? (i := 21) rfl)) rfl
theorem wd_159 : Cond.instanceMethod yX3_toFront ∈ wsA := mA (tA2 (List.mem_of_getElem? (i := 19) rfl)) rfl
theorem wd_160 : Cond.selects RX3 yX3_toFront yX3_toFront ∈ wsA := mA (tA2 (List.mem_of_getElem? (i := 20) rfl)) rfl
theorem lk_RX2_35 : lkV RX2 35 yX3_toFront RX3 cX3_toFront 1 none 0 := ⟨wd_158, wd_157, wd_159, wd_160, wd_136, ⟨rfl, by decide +kernel, by decide +kernel, by decide +kernel⟩⟩
theorem wd_161 : Cond.methodLink RX2 38 yX3_readToken ∈ wsA := mA (tA2 (List.mem_of_getElem? (i := 22) rfl)) rfl
theorem wd_162 : Cond.code yX3_readToken cX3_readToken 2 none ∈ wsA := mA (tA2 (List.mem_of_getElem? (i := 25) rfl)) rfl
theorem wd_163 : Cond.instanceMethod yX3_readToken ∈ wsA := mA (tA2 (List.mem_of_getElem? (i := 23) rfl)) rfl
theorem wd_164 : Cond.selects RX3 yX3_readToken yX3_readToken ∈ wsA := mA (tA2 (List.mem_of_getElem? (i := 24) rfl)) rfl
theorem lk_RX2_38 : lkV RX2 38 yX3_readToken RX3 cX3_readToken 2 none 0 := ⟨wd_162, wd_161, wd_163, wd_164, wd_136, ⟨rfl, by decide +kernel, by decide +kernel, by decide +kernel⟩⟩
theorem wd_165 : Cond.methodLink RX3 31 yX3_letterAt ∈ wsA := mA (tA2 (List.mem_of_getElem? (i := 26) rfl)) rfl
theorem wd_166 : Cond.code yX3_letterAt cX3_letterAt 2 (some .int) ∈ wsA := mA (tA2 (List.mem_of_getElem? (i := 29) rfl)) rfl
theorem wd_167 : Cond.instanceMethod yX3_letterAt ∈ wsA := mA (tA2 (List.mem_of_getElem? (i := 28) rfl)) rfl
theorem wd_168 : Cond.selects RX3 yX3_letterAt yX3_letterAt ∈ wsA := mA (tS (q := (yX3_letterAt, 6)) (tP1 (List.mem_of_getElem? (i := 0) rfl))) rfl
theorem lk_RX3_31 : lkV RX3 31 yX3_letterAt RX3 cX3_letterAt 2 (some .int) 1 := ⟨wd_166, wd_165, wd_167, wd_168, wd_136, ⟨rfl, by decide +kernel, by decide +kernel, by decide +kernel⟩⟩
theorem wd_169 : Cond.methodLink RX3 35 Lib.Math.min.name ∈ wsA := mA (tA2 (List.mem_of_getElem? (i := 30) rfl)) rfl
theorem wd_170 : Cond.code Lib.Math.min.name Lib.Math.min.code 2 (some .int) ∈ wsA := mA (tA2 (List.mem_of_getElem? (i := 32) rfl)) rfl
theorem wd_171 : Cond.initialized RJ9 ∈ wsA := mA (tA1 (List.mem_of_getElem? (i := 8) rfl)) rfl
theorem wd_172 : Cond.static Lib.Math.min.name ∈ wsA := mA (tA2 (List.mem_of_getElem? (i := 31) rfl)) rfl
theorem wd_173 : Cond.methodLink RX3 41 yX3_isDigit ∈ wsA := mA (tA2 (List.mem_of_getElem? (i := 33) rfl)) rfl
theorem wd_174 : Cond.code yX3_isDigit cX3_isDigit 1 (some .boolean) ∈ wsA := mA (tA2 (List.mem_of_getElem? (i := 35) rfl)) rfl
theorem wd_175 : Cond.static yX3_isDigit ∈ wsA := mA (tA2 (List.mem_of_getElem? (i := 34) rfl)) rfl
theorem lk_RX3_41 : lkS RX3 41 yX3_isDigit cX3_isDigit 1 (some .boolean) 1 := ⟨wd_174, wd_173, wd_175, wd_136, ⟨by decide +kernel, by decide +kernel, by decide +kernel⟩⟩
theorem wd_176 : Cond.methodLink RX3 45 yX3_readDigits ∈ wsA := mA (tA2 (List.mem_of_getElem? (i := 36) rfl)) rfl
theorem wd_177 : Cond.code yX3_readDigits cX3_readDigits 2 none ∈ wsA := mA (tA2 (List.mem_of_getElem? (i := 39) rfl)) rfl
theorem wd_178 : Cond.instanceMethod yX3_readDigits ∈ wsA := mA (tA2 (List.mem_of_getElem? (i := 38) rfl)) rfl
theorem wd_179 : Cond.selects RX3 yX3_readDigits yX3_readDigits ∈ wsA := mA (tS (q := (yX3_readDigits, 6)) (tP1 (List.mem_of_getElem? (i := 1) rfl))) rfl
theorem lk_RX3_45 : lkV RX3 45 yX3_readDigits RX3 cX3_readDigits 2 none 0 := ⟨wd_177, wd_176, wd_178, wd_179, wd_136, ⟨rfl, by decide +kernel, by decide +kernel, by decide +kernel⟩⟩
theorem wd_180 : Cond.methodLink RX2 45 yX2_readPerson ∈ wsA := mA (tA2 (List.mem_of_getElem? (i := 40) rfl)) rfl
theorem wd_181 : Cond.code yX2_readPerson cX2_readPerson 2 (some .boolean) ∈ wsA := mA (tA2 (List.mem_of_getElem? (i := 43) rfl)) rfl
theorem wd_182 : Cond.instanceMethod yX2_readPerson ∈ wsA := mA (tA2 (List.mem_of_getElem? (i := 42) rfl)) rfl
theorem wd_183 : Cond.selects RX2 yX2_readPerson yX2_readPerson ∈ wsA := mA (tS (q := (yX2_readPerson, 4)) (tP1 (List.mem_of_getElem? (i := 2) rfl))) rfl
theorem lk_RX2_45 : lkV RX2 45 yX2_readPerson RX2 cX2_readPerson 2 (some .boolean) 0 := ⟨wd_181, wd_180, wd_182, wd_183, wd_149, ⟨rfl, by decide +kernel, by decide +kernel, by decide +kernel⟩⟩
theorem wd_184 : Cond.methodLink RX2 67 yX2_readNumber ∈ wsA := mA (tA2 (List.mem_of_getElem? (i := 44) rfl)) rfl
theorem wd_185 : Cond.code yX2_readNumber cX2_readNumber 3 (some .boolean) ∈ wsA := mA (tA2 (List.mem_of_getElem? (i := 47) rfl)) rfl
theorem wd_186 : Cond.instanceMethod yX2_readNumber ∈ wsA := mA (tA2 (List.mem_of_getElem? (i := 46) rfl)) rfl
theorem wd_187 : Cond.selects RX2 yX2_readNumber yX2_readNumber ∈ wsA := mA (tS (q := (yX2_readNumber, 4)) (tP1 (List.mem_of_getElem? (i := 3) rfl))) rfl
theorem lk_RX2_67 : lkV RX2 67 yX2_readNumber RX2 cX2_readNumber 3 (some .boolean) 2 := ⟨wd_185, wd_184, wd_186, wd_187, wd_149, ⟨rfl, by decide +kernel, by decide +kernel, by decide +kernel⟩⟩
theorem wd_188 : Cond.methodLink RX2 81 yX2_readEnd ∈ wsA := mA (tA2 (List.mem_of_getElem? (i := 48) rfl)) rfl
theorem wd_189 : Cond.code yX2_readEnd cX2_readEnd 1 (some .boolean) ∈ wsA := mA (tA2 (List.mem_of_getElem? (i := 51) rfl)) rfl
theorem wd_190 : Cond.instanceMethod yX2_readEnd ∈ wsA := mA (tA2 (List.mem_of_getElem? (i := 50) rfl)) rfl
theorem wd_191 : Cond.selects RX2 yX2_readEnd yX2_readEnd ∈ wsA := mA (tS (q := (yX2_readEnd, 4)) (tP1 (List.mem_of_getElem? (i := 4) rfl))) rfl
theorem lk_RX2_81 : lkV RX2 81 yX2_readEnd RX2 cX2_readEnd 1 (some .boolean) 0 := ⟨wd_189, wd_188, wd_190, wd_191, wd_149, ⟨rfl, by decide +kernel, by decide +kernel, by decide +kernel⟩⟩
theorem wd_192 : Cond.methodLink RX2 49 yX2_readPromise ∈ wsA := mA (tA2 (List.mem_of_getElem? (i := 52) rfl)) rfl
theorem wd_193 : Cond.code yX2_readPromise cX2_readPromise 2 (some .boolean) ∈ wsA := mA (tA2 (List.mem_of_getElem? (i := 55) rfl)) rfl
theorem wd_194 : Cond.instanceMethod yX2_readPromise ∈ wsA := mA (tA2 (List.mem_of_getElem? (i := 54) rfl)) rfl
theorem wd_195 : Cond.selects RX2 yX2_readPromise yX2_readPromise ∈ wsA := mA (tS (q := (yX2_readPromise, 4)) (tP1 (List.mem_of_getElem? (i := 5) rfl))) rfl
theorem lk_RX2_49 : lkV RX2 49 yX2_readPromise RX2 cX2_readPromise 2 (some .boolean) 0 := ⟨wd_193, wd_192, wd_194, wd_195, wd_149, ⟨rfl, by decide +kernel, by decide +kernel, by decide +kernel⟩⟩
theorem wd_196 : Cond.methodLink RX2 105 yX2_readWords ∈ wsA := mA (tA2 (List.mem_of_getElem? (i := 56) rfl)) rfl
theorem wd_197 : Cond.code yX2_readWords cX2_readWords 3 (some .boolean) ∈ wsA := mA (tA2 (List.mem_of_getElem? (i := 59) rfl)) rfl
theorem wd_198 : Cond.instanceMethod yX2_readWords ∈ wsA := mA (tA2 (List.mem_of_getElem? (i := 58) rfl)) rfl
theorem wd_199 : Cond.selects RX2 yX2_readWords yX2_readWords ∈ wsA := mA (tS (q := (yX2_readWords, 4)) (tP1 (List.mem_of_getElem? (i := 6) rfl))) rfl
theorem lk_RX2_105 : lkV RX2 105 yX2_readWords RX2 cX2_readWords 3 (some .boolean) 1 := ⟨wd_197, wd_196, wd_198, wd_199, wd_149, ⟨rfl, by decide +kernel, by decide +kernel, by decide +kernel⟩⟩
theorem wd_200 : Cond.methodLink RX2 52 yX2_readClash ∈ wsA := mA (tA2 (List.mem_of_getElem? (i := 60) rfl)) rfl
theorem wd_201 : Cond.code yX2_readClash cX2_readClash 3 (some .boolean) ∈ wsA := mA (tA2 (List.mem_of_getElem? (i := 63) rfl)) rfl
theorem wd_202 : Cond.instanceMethod yX2_readClash ∈ wsA := mA (tA2 (List.mem_of_getElem? (i := 62) rfl)) rfl
theorem wd_203 : Cond.selects RX2 yX2_readClash yX2_readClash ∈ wsA := mA (tS (q := (yX2_readClash, 4)) (tP1 (List.mem_of_getElem? (i := 7) rfl))) rfl
theorem lk_RX2_52 : lkV RX2 52 yX2_readClash RX2 cX2_readClash 3 (some .boolean) 0 := ⟨wd_201, wd_200, wd_202, wd_203, wd_149, ⟨rfl, by decide +kernel, by decide +kernel, by decide +kernel⟩⟩
theorem wd_204 : Cond.methodLink RX2 55 yX2_readAcid ∈ wsA := mA (tA2 (List.mem_of_getElem? (i := 64) rfl)) rfl
theorem wd_205 : Cond.code yX2_readAcid cX2_readAcid 1 (some .boolean) ∈ wsA := mA (tA2 (List.mem_of_getElem? (i := 67) rfl)) rfl
theorem wd_206 : Cond.instanceMethod yX2_readAcid ∈ wsA := mA (tA2 (List.mem_of_getElem? (i := 66) rfl)) rfl
theorem wd_207 : Cond.selects RX2 yX2_readAcid yX2_readAcid ∈ wsA := mA (tS (q := (yX2_readAcid, 4)) (tP1 (List.mem_of_getElem? (i := 8) rfl))) rfl
theorem lk_RX2_55 : lkV RX2 55 yX2_readAcid RX2 cX2_readAcid 1 (some .boolean) 0 := ⟨wd_205, wd_204, wd_206, wd_207, wd_149, ⟨rfl, by decide +kernel, by decide +kernel, by decide +kernel⟩⟩
theorem wd_208 : Cond.methodLink RX2 58 yX2_readSlide ∈ wsA := mA (tA2 (List.mem_of_getElem? (i := 68) rfl)) rfl
theorem wd_209 : Cond.code yX2_readSlide cX2_readSlide 1 (some .boolean) ∈ wsA := mA (tA2 (List.mem_of_getElem? (i := 71) rfl)) rfl
theorem wd_210 : Cond.instanceMethod yX2_readSlide ∈ wsA := mA (tA2 (List.mem_of_getElem? (i := 70) rfl)) rfl
theorem wd_211 : Cond.selects RX2 yX2_readSlide yX2_readSlide ∈ wsA := mA (tS (q := (yX2_readSlide, 4)) (tP1 (List.mem_of_getElem? (i := 9) rfl))) rfl
theorem lk_RX2_58 : lkV RX2 58 yX2_readSlide RX2 cX2_readSlide 1 (some .boolean) 0 := ⟨wd_209, wd_208, wd_210, wd_211, wd_149, ⟨rfl, by decide +kernel, by decide +kernel, by decide +kernel⟩⟩
theorem wd_212 : Cond.methodLink RX5 81 yX4_become ∈ wsA := mA (tA2 (List.mem_of_getElem? (i := 72) rfl)) rfl
theorem wd_213 : Cond.code yX4_become cX4_become 2 none ∈ wsA := mA (tA2 (List.mem_of_getElem? (i := 75) rfl)) rfl
theorem wd_214 : Cond.instanceMethod yX4_become ∈ wsA := mA (tA2 (List.mem_of_getElem? (i := 73) rfl)) rfl
theorem wd_215 : Cond.selects RX4 yX4_become yX4_become ∈ wsA := mA (tA2 (List.mem_of_getElem? (i := 74) rfl)) rfl
theorem lk_RX5_81 : lkV RX5 81 yX4_become RX4 cX4_become 2 none 1 := ⟨wd_213, wd_212, wd_214, wd_215, wd_154, ⟨rfl, by decide +kernel, by decide +kernel, by decide +kernel⟩⟩
theorem wd_216 : Cond.methodLink RX5 85 yX0_beginAgain ∈ wsA := mA (tA2 (List.mem_of_getElem? (i := 79) rfl)) rfl
theorem wd_217 : Cond.code yX0_beginAgain cX0_beginAgain 2 none ∈ wsA := mA (tA2 (List.mem_of_getElem? (i := 82) rfl)) rfl
theorem wd_218 : Cond.initialized RX0 ∈ wsA := mA (tA1 (List.mem_of_getElem? (i := 5) rfl)) rfl
theorem wd_219 : Cond.instanceMethod yX0_beginAgain ∈ wsA := mA (tA2 (List.mem_of_getElem? (i := 80) rfl)) rfl
theorem wd_220 : Cond.selects RX0 yX0_beginAgain yX0_beginAgain ∈ wsA := mA (tA2 (List.mem_of_getElem? (i := 81) rfl)) rfl
theorem lk_RX5_85 : lkV RX5 85 yX0_beginAgain RX0 cX0_beginAgain 2 none 0 := ⟨wd_217, wd_216, wd_219, wd_220, wd_218, ⟨rfl, by decide +kernel, by decide +kernel, by decide +kernel⟩⟩
theorem wd_221 : Cond.methodLink RX5 88 yX1_empty ∈ wsA := mA (tA2 (List.mem_of_getElem? (i := 83) rfl)) rfl
theorem wd_222 : Cond.code yX1_empty cX1_empty 1 none ∈ wsA := mA (tA2 (List.mem_of_getElem? (i := 86) rfl)) rfl
theorem wd_223 : Cond.initialized RX1 ∈ wsA := mA (tA1 (List.mem_of_getElem? (i := 6) rfl)) rfl
theorem wd_224 : Cond.instanceMethod yX1_empty ∈ wsA := mA (tA2 (List.mem_of_getElem? (i := 84) rfl)) rfl
theorem wd_225 : Cond.selects RX1 yX1_empty yX1_empty ∈ wsA := mA (tA2 (List.mem_of_getElem? (i := 85) rfl)) rfl
theorem lk_RX5_88 : lkV RX5 88 yX1_empty RX1 cX1_empty 1 none 0 := ⟨wd_222, wd_221, wd_224, wd_225, wd_223, ⟨rfl, by decide +kernel, by decide +kernel, by decide +kernel⟩⟩
theorem wd_226 : Cond.methodLink RL 27 yX5_person ∈ wsA := mA (tA2 (List.mem_of_getElem? (i := 87) rfl)) rfl
theorem wd_227 : Cond.code yX5_person cX5_person 3 (some .int) ∈ wsA := mA (tA2 (List.mem_of_getElem? (i := 90) rfl)) rfl
theorem wd_228 : Cond.instanceMethod yX5_person ∈ wsA := mA (tA2 (List.mem_of_getElem? (i := 88) rfl)) rfl
theorem wd_229 : Cond.selects RX5 yX5_person yX5_person ∈ wsA := mA (tA2 (List.mem_of_getElem? (i := 89) rfl)) rfl
theorem lk_RL_27 : lkV RL 27 yX5_person RX5 cX5_person 3 (some .int) 2 := ⟨wd_227, wd_226, wd_228, wd_229, wd_131, ⟨rfl, by decide +kernel, by decide +kernel, by decide +kernel⟩⟩
theorem wd_230 : Cond.methodLink RX5 91 yX4_hasPerson ∈ wsA := mA (tA2 (List.mem_of_getElem? (i := 91) rfl)) rfl
theorem wd_231 : Cond.code yX4_hasPerson cX4_hasPerson 2 (some .boolean) ∈ wsA := mA (tA2 (List.mem_of_getElem? (i := 94) rfl)) rfl
theorem wd_232 : Cond.instanceMethod yX4_hasPerson ∈ wsA := mA (tA2 (List.mem_of_getElem? (i := 92) rfl)) rfl
theorem wd_233 : Cond.selects RX4 yX4_hasPerson yX4_hasPerson ∈ wsA := mA (tA2 (List.mem_of_getElem? (i := 93) rfl)) rfl
theorem lk_RX5_91 : lkV RX5 91 yX4_hasPerson RX4 cX4_hasPerson 2 (some .boolean) 1 := ⟨wd_231, wd_230, wd_232, wd_233, wd_154, ⟨rfl, by decide +kernel, by decide +kernel, by decide +kernel⟩⟩
theorem wd_234 : Cond.methodLink RL 32 yX5_promise ∈ wsA := mA (tA2 (List.mem_of_getElem? (i := 95) rfl)) rfl
theorem wd_235 : Cond.code yX5_promise cX5_promise 3 (some .int) ∈ wsA := mA (tA2 (List.mem_of_getElem? (i := 98) rfl)) rfl
theorem wd_236 : Cond.instanceMethod yX5_promise ∈ wsA := mA (tA2 (List.mem_of_getElem? (i := 96) rfl)) rfl
theorem wd_237 : Cond.selects RX5 yX5_promise yX5_promise ∈ wsA := mA (tA2 (List.mem_of_getElem? (i := 97) rfl)) rfl
theorem lk_RL_32 : lkV RL 32 yX5_promise RX5 cX5_promise 3 (some .int) 2 := ⟨wd_235, wd_234, wd_236, wd_237, wd_131, ⟨rfl, by decide +kernel, by decide +kernel, by decide +kernel⟩⟩
theorem wd_238 : Cond.methodLink RX5 100 yX4_hasPromise ∈ wsA := mA (tA2 (List.mem_of_getElem? (i := 99) rfl)) rfl
theorem wd_239 : Cond.code yX4_hasPromise cX4_hasPromise 2 (some .boolean) ∈ wsA := mA (tA2 (List.mem_of_getElem? (i := 102) rfl)) rfl
theorem wd_240 : Cond.instanceMethod yX4_hasPromise ∈ wsA := mA (tA2 (List.mem_of_getElem? (i := 100) rfl)) rfl
theorem wd_241 : Cond.selects RX4 yX4_hasPromise yX4_hasPromise ∈ wsA := mA (tA2 (List.mem_of_getElem? (i := 101) rfl)) rfl
theorem lk_RX5_100 : lkV RX5 100 yX4_hasPromise RX4 cX4_hasPromise 2 (some .boolean) 1 := ⟨wd_239, wd_238, wd_240, wd_241, wd_154, ⟨rfl, by decide +kernel, by decide +kernel, by decide +kernel⟩⟩
theorem wd_242 : Cond.methodLink RL 36 yX5_word ∈ wsA := mA (tA2 (List.mem_of_getElem? (i := 103) rfl)) rfl
theorem wd_243 : Cond.code yX5_word cX5_word 3 (some .int) ∈ wsA := mA (tA2 (List.mem_of_getElem? (i := 106) rfl)) rfl
theorem wd_244 : Cond.instanceMethod yX5_word ∈ wsA := mA (tA2 (List.mem_of_getElem? (i := 104) rfl)) rfl
theorem wd_245 : Cond.selects RX5 yX5_word yX5_word ∈ wsA := mA (tA2 (List.mem_of_getElem? (i := 105) rfl)) rfl
theorem lk_RL_36 : lkV RL 36 yX5_word RX5 cX5_word 3 (some .int) 2 := ⟨wd_243, wd_242, wd_244, wd_245, wd_131, ⟨rfl, by decide +kernel, by decide +kernel, by decide +kernel⟩⟩
theorem wd_246 : Cond.methodLink RX5 127 yX5_leftIn ∈ wsA := mA (tA2 (List.mem_of_getElem? (i := 107) rfl)) rfl
theorem wd_247 : Cond.code yX5_leftIn cX5_leftIn 3 (some .int) ∈ wsA := mA (tA2 (List.mem_of_getElem? (i := 110) rfl)) rfl
theorem wd_248 : Cond.instanceMethod yX5_leftIn ∈ wsA := mA (tA2 (List.mem_of_getElem? (i := 109) rfl)) rfl
theorem wd_249 : Cond.selects RX5 yX5_leftIn yX5_leftIn ∈ wsA := mA (tS (q := (yX5_leftIn, 11)) (tP1 (List.mem_of_getElem? (i := 10) rfl))) rfl
theorem lk_RX5_127 : lkV RX5 127 yX5_leftIn RX5 cX5_leftIn 3 (some .int) 2 := ⟨wd_247, wd_246, wd_248, wd_249, wd_131, ⟨rfl, by decide +kernel, by decide +kernel, by decide +kernel⟩⟩
theorem wd_250 : Cond.methodLink RX5 202 yX5_lyingLeft ∈ wsA := mA (tA2 (List.mem_of_getElem? (i := 111) rfl)) rfl
theorem wd_251 : Cond.code yX5_lyingLeft cX5_lyingLeft 6 (some .int) ∈ wsA := mA (tA2 (List.mem_of_getElem? (i := 114) rfl)) rfl
theorem wd_252 : Cond.instanceMethod yX5_lyingLeft ∈ wsA := mA (tA2 (List.mem_of_getElem? (i := 113) rfl)) rfl
theorem wd_253 : Cond.selects RX5 yX5_lyingLeft yX5_lyingLeft ∈ wsA := mA (tS (q := (yX5_lyingLeft, 11)) (tP1 (List.mem_of_getElem? (i := 11) rfl))) rfl
theorem lk_RX5_202 : lkV RX5 202 yX5_lyingLeft RX5 cX5_lyingLeft 6 (some .int) 4 := ⟨wd_251, wd_250, wd_252, wd_253, wd_131, ⟨rfl, by decide +kernel, by decide +kernel, by decide +kernel⟩⟩
theorem wd_254 : Cond.methodLink RX5 269 Lib.Math.max.name ∈ wsA := mA (tA2 (List.mem_of_getElem? (i := 115) rfl)) rfl
theorem wd_255 : Cond.code Lib.Math.max.name Lib.Math.max.code 2 (some .int) ∈ wsA := mA (tA2 (List.mem_of_getElem? (i := 117) rfl)) rfl
theorem wd_256 : Cond.static Lib.Math.max.name ∈ wsA := mA (tA2 (List.mem_of_getElem? (i := 116) rfl)) rfl
theorem wd_257 : Cond.methodLink RX5 131 yX4_wordAt ∈ wsA := mA (tA2 (List.mem_of_getElem? (i := 118) rfl)) rfl
theorem wd_258 : Cond.code yX4_wordAt cX4_wordAt 3 (some .int) ∈ wsA := mA (tA2 (List.mem_of_getElem? (i := 121) rfl)) rfl
theorem wd_259 : Cond.instanceMethod yX4_wordAt ∈ wsA := mA (tA2 (List.mem_of_getElem? (i := 119) rfl)) rfl
theorem wd_260 : Cond.selects RX4 yX4_wordAt yX4_wordAt ∈ wsA := mA (tA2 (List.mem_of_getElem? (i := 120) rfl)) rfl
theorem lk_RX5_131 : lkV RX5 131 yX4_wordAt RX4 cX4_wordAt 3 (some .int) 2 := ⟨wd_258, wd_257, wd_259, wd_260, wd_154, ⟨rfl, by decide +kernel, by decide +kernel, by decide +kernel⟩⟩
theorem wd_261 : Cond.methodLink RX4 61 yX4_hasPromise ∈ wsA := mA (tA2 (List.mem_of_getElem? (i := 122) rfl)) rfl
theorem lk_RX4_61 : lkV RX4 61 yX4_hasPromise RX4 cX4_hasPromise 2 (some .boolean) 1 := ⟨wd_239, wd_261, wd_240, wd_241, wd_154, ⟨rfl, by decide +kernel, by decide +kernel, by decide +kernel⟩⟩
theorem wd_262 : Cond.methodLink RL 40 yX5_cell ∈ wsA := mA (tA2 (List.mem_of_getElem? (i := 123) rfl)) rfl
theorem wd_263 : Cond.code yX5_cell cX5_cell 3 (some .int) ∈ wsA := mA (tA2 (List.mem_of_getElem? (i := 126) rfl)) rfl
theorem wd_264 : Cond.instanceMethod yX5_cell ∈ wsA := mA (tA2 (List.mem_of_getElem? (i := 124) rfl)) rfl
theorem wd_265 : Cond.selects RX5 yX5_cell yX5_cell ∈ wsA := mA (tA2 (List.mem_of_getElem? (i := 125) rfl)) rfl
theorem lk_RL_40 : lkV RL 40 yX5_cell RX5 cX5_cell 3 (some .int) 2 := ⟨wd_263, wd_262, wd_264, wd_265, wd_131, ⟨rfl, by decide +kernel, by decide +kernel, by decide +kernel⟩⟩
theorem wd_266 : Cond.methodLink RX5 134 yX5_isCell ∈ wsA := mA (tA2 (List.mem_of_getElem? (i := 127) rfl)) rfl
theorem wd_267 : Cond.code yX5_isCell cX5_isCell 1 (some .boolean) ∈ wsA := mA (tA2 (List.mem_of_getElem? (i := 129) rfl)) rfl
theorem wd_268 : Cond.static yX5_isCell ∈ wsA := mA (tA2 (List.mem_of_getElem? (i := 128) rfl)) rfl
theorem lk_RX5_134 : lkS RX5 134 yX5_isCell cX5_isCell 1 (some .boolean) 1 := ⟨wd_267, wd_266, wd_268, wd_131, ⟨by decide +kernel, by decide +kernel, by decide +kernel⟩⟩
theorem wd_269 : Cond.methodLink RX5 143 yX5_lyingIn ∈ wsA := mA (tA2 (List.mem_of_getElem? (i := 130) rfl)) rfl
theorem wd_270 : Cond.code yX5_lyingIn cX5_lyingIn 4 (some .int) ∈ wsA := mA (tA2 (List.mem_of_getElem? (i := 133) rfl)) rfl
theorem wd_271 : Cond.instanceMethod yX5_lyingIn ∈ wsA := mA (tA2 (List.mem_of_getElem? (i := 132) rfl)) rfl
theorem wd_272 : Cond.selects RX5 yX5_lyingIn yX5_lyingIn ∈ wsA := mA (tS (q := (yX5_lyingIn, 11)) (tP1 (List.mem_of_getElem? (i := 12) rfl))) rfl
theorem lk_RX5_143 : lkV RX5 143 yX5_lyingIn RX5 cX5_lyingIn 4 (some .int) 1 := ⟨wd_270, wd_269, wd_271, wd_272, wd_131, ⟨rfl, by decide +kernel, by decide +kernel, by decide +kernel⟩⟩
theorem wd_273 : Cond.methodLink RX5 163 yX5_liesIn ∈ wsA := mA (tA2 (List.mem_of_getElem? (i := 134) rfl)) rfl
theorem wd_274 : Cond.code yX5_liesIn cX5_liesIn 3 (some .boolean) ∈ wsA := mA (tA2 (List.mem_of_getElem? (i := 137) rfl)) rfl
theorem wd_275 : Cond.instanceMethod yX5_liesIn ∈ wsA := mA (tA2 (List.mem_of_getElem? (i := 136) rfl)) rfl
theorem wd_276 : Cond.selects RX5 yX5_liesIn yX5_liesIn ∈ wsA := mA (tS (q := (yX5_liesIn, 11)) (tP1 (List.mem_of_getElem? (i := 13) rfl))) rfl
theorem lk_RX5_163 : lkV RX5 163 yX5_liesIn RX5 cX5_liesIn 3 (some .boolean) 2 := ⟨wd_274, wd_273, wd_275, wd_276, wd_131, ⟨rfl, by decide +kernel, by decide +kernel, by decide +kernel⟩⟩
theorem wd_277 : Cond.methodLink RX5 190 yX5_isNow ∈ wsA := mA (tA2 (List.mem_of_getElem? (i := 138) rfl)) rfl
theorem wd_278 : Cond.code yX5_isNow cX5_isNow 3 (some .boolean) ∈ wsA := mA (tA2 (List.mem_of_getElem? (i := 141) rfl)) rfl
theorem wd_279 : Cond.instanceMethod yX5_isNow ∈ wsA := mA (tA2 (List.mem_of_getElem? (i := 140) rfl)) rfl
theorem wd_280 : Cond.selects RX5 yX5_isNow yX5_isNow ∈ wsA := mA (tS (q := (yX5_isNow, 11)) (tP1 (List.mem_of_getElem? (i := 14) rfl))) rfl
theorem lk_RX5_190 : lkV RX5 190 yX5_isNow RX5 cX5_isNow 3 (some .boolean) 2 := ⟨wd_278, wd_277, wd_279, wd_280, wd_131, ⟨rfl, by decide +kernel, by decide +kernel, by decide +kernel⟩⟩
theorem wd_281 : Cond.methodLink RX5 147 yX5_firstSlide ∈ wsA := mA (tA2 (List.mem_of_getElem? (i := 142) rfl)) rfl
theorem wd_282 : Cond.code yX5_firstSlide cX5_firstSlide 3 (some .int) ∈ wsA := mA (tA2 (List.mem_of_getElem? (i := 145) rfl)) rfl
theorem wd_283 : Cond.instanceMethod yX5_firstSlide ∈ wsA := mA (tA2 (List.mem_of_getElem? (i := 144) rfl)) rfl
theorem wd_284 : Cond.selects RX5 yX5_firstSlide yX5_firstSlide ∈ wsA := mA (tS (q := (yX5_firstSlide, 11)) (tP1 (List.mem_of_getElem? (i := 15) rfl))) rfl
theorem lk_RX5_147 : lkV RX5 147 yX5_firstSlide RX5 cX5_firstSlide 3 (some .int) 1 := ⟨wd_282, wd_281, wd_283, wd_284, wd_131, ⟨rfl, by decide +kernel, by decide +kernel, by decide +kernel⟩⟩
theorem wd_285 : Cond.methodLink RX5 276 yX5_beginWetThen ∈ wsA := mA (tA2 (List.mem_of_getElem? (i := 146) rfl)) rfl
theorem wd_286 : Cond.code yX5_beginWetThen cX5_beginWetThen 3 none ∈ wsA := mA (tA2 (List.mem_of_getElem? (i := 149) rfl)) rfl
theorem wd_287 : Cond.instanceMethod yX5_beginWetThen ∈ wsA := mA (tA2 (List.mem_of_getElem? (i := 148) rfl)) rfl
theorem wd_288 : Cond.selects RX5 yX5_beginWetThen yX5_beginWetThen ∈ wsA := mA (tS (q := (yX5_beginWetThen, 11)) (tP2 (List.mem_of_getElem? (i := 0) rfl))) rfl
theorem lk_RX5_276 : lkV RX5 276 yX5_beginWetThen RX5 cX5_beginWetThen 3 none 1 := ⟨wd_286, wd_285, wd_287, wd_288, wd_131, ⟨rfl, by decide +kernel, by decide +kernel, by decide +kernel⟩⟩
theorem wd_289 : Cond.methodLink RX5 193 yX5_holds ∈ wsA := mA (tA2 (List.mem_of_getElem? (i := 150) rfl)) rfl
theorem wd_290 : Cond.code yX5_holds cX5_holds 2 (some .boolean) ∈ wsA := mA (tA2 (List.mem_of_getElem? (i := 152) rfl)) rfl
theorem wd_291 : Cond.static yX5_holds ∈ wsA := mA (tA2 (List.mem_of_getElem? (i := 151) rfl)) rfl
theorem lk_RX5_193 : lkS RX5 193 yX5_holds cX5_holds 2 (some .boolean) 2 := ⟨wd_290, wd_289, wd_291, wd_131, ⟨by decide +kernel, by decide +kernel, by decide +kernel⟩⟩
theorem wd_292 : Cond.methodLink RX5 186 yX5_letYearPass ∈ wsA := mA (tA2 (List.mem_of_getElem? (i := 153) rfl)) rfl
theorem wd_293 : Cond.code yX5_letYearPass cX5_letYearPass 4 (some .int) ∈ wsA := mA (tA2 (List.mem_of_getElem? (i := 156) rfl)) rfl
theorem wd_294 : Cond.instanceMethod yX5_letYearPass ∈ wsA := mA (tA2 (List.mem_of_getElem? (i := 155) rfl)) rfl
theorem wd_295 : Cond.selects RX5 yX5_letYearPass yX5_letYearPass ∈ wsA := mA (tS (q := (yX5_letYearPass, 11)) (tP2 (List.mem_of_getElem? (i := 1) rfl))) rfl
theorem lk_RX5_186 : lkV RX5 186 yX5_letYearPass RX5 cX5_letYearPass 4 (some .int) 1 := ⟨wd_293, wd_292, wd_294, wd_295, wd_131, ⟨rfl, by decide +kernel, by decide +kernel, by decide +kernel⟩⟩
theorem wd_296 : Cond.methodLink RX5 173 Lib.Math.min.name ∈ wsA := mA (tA2 (List.mem_of_getElem? (i := 157) rfl)) rfl
theorem wd_297 : Cond.methodLink RX5 272 yX5_wetAround ∈ wsA := mA (tA2 (List.mem_of_getElem? (i := 158) rfl)) rfl
theorem wd_298 : Cond.code yX5_wetAround cX5_wetAround 4 (some .int) ∈ wsA := mA (tA2 (List.mem_of_getElem? (i := 160) rfl)) rfl
theorem wd_299 : Cond.static yX5_wetAround ∈ wsA := mA (tA2 (List.mem_of_getElem? (i := 159) rfl)) rfl
theorem lk_RX5_272 : lkS RX5 272 yX5_wetAround cX5_wetAround 4 (some .int) 2 := ⟨wd_298, wd_297, wd_299, wd_131, ⟨by decide +kernel, by decide +kernel, by decide +kernel⟩⟩
theorem wd_300 : Cond.methodLink RL 44 yX5_now ∈ wsA := mA (tA2 (List.mem_of_getElem? (i := 161) rfl)) rfl
theorem wd_301 : Cond.code yX5_now cX5_now 2 (some .int) ∈ wsA := mA (tA2 (List.mem_of_getElem? (i := 164) rfl)) rfl
theorem wd_302 : Cond.instanceMethod yX5_now ∈ wsA := mA (tA2 (List.mem_of_getElem? (i := 162) rfl)) rfl
theorem wd_303 : Cond.selects RX5 yX5_now yX5_now ∈ wsA := mA (tA2 (List.mem_of_getElem? (i := 163) rfl)) rfl
theorem lk_RL_44 : lkV RL 44 yX5_now RX5 cX5_now 2 (some .int) 1 := ⟨wd_301, wd_300, wd_302, wd_303, wd_131, ⟨rfl, by decide +kernel, by decide +kernel, by decide +kernel⟩⟩
theorem wd_304 : Cond.methodLink RX5 153 yX5_thoseThatAre ∈ wsA := mA (tA2 (List.mem_of_getElem? (i := 165) rfl)) rfl
theorem wd_305 : Cond.code yX5_thoseThatAre cX5_thoseThatAre 4 (some .int) ∈ wsA := mA (tA2 (List.mem_of_getElem? (i := 168) rfl)) rfl
theorem wd_306 : Cond.instanceMethod yX5_thoseThatAre ∈ wsA := mA (tA2 (List.mem_of_getElem? (i := 167) rfl)) rfl
theorem wd_307 : Cond.selects RX5 yX5_thoseThatAre yX5_thoseThatAre ∈ wsA := mA (tS (q := (yX5_thoseThatAre, 11)) (tP2 (List.mem_of_getElem? (i := 2) rfl))) rfl
theorem lk_RX5_153 : lkV RX5 153 yX5_thoseThatAre RX5 cX5_thoseThatAre 4 (some .int) 1 := ⟨wd_305, wd_304, wd_306, wd_307, wd_131, ⟨rfl, by decide +kernel, by decide +kernel, by decide +kernel⟩⟩
theorem wd_308 : Cond.methodLink RL 48 yX5_cuts ∈ wsA := mA (tA2 (List.mem_of_getElem? (i := 169) rfl)) rfl
theorem wd_309 : Cond.code yX5_cuts cX5_cuts 4 (some .int) ∈ wsA := mA (tA2 (List.mem_of_getElem? (i := 172) rfl)) rfl
theorem wd_310 : Cond.instanceMethod yX5_cuts ∈ wsA := mA (tA2 (List.mem_of_getElem? (i := 170) rfl)) rfl
theorem wd_311 : Cond.selects RX5 yX5_cuts yX5_cuts ∈ wsA := mA (tA2 (List.mem_of_getElem? (i := 171) rfl)) rfl
theorem lk_RL_48 : lkV RL 48 yX5_cuts RX5 cX5_cuts 4 (some .int) 1 := ⟨wd_309, wd_308, wd_310, wd_311, wd_131, ⟨rfl, by decide +kernel, by decide +kernel, by decide +kernel⟩⟩
theorem wd_312 : Cond.methodLink RX5 159 yX1_remember ∈ wsA := mA (tA2 (List.mem_of_getElem? (i := 173) rfl)) rfl
theorem wd_313 : Cond.code yX1_remember cX1_remember 2 none ∈ wsA := mA (tA2 (List.mem_of_getElem? (i := 176) rfl)) rfl
theorem wd_314 : Cond.instanceMethod yX1_remember ∈ wsA := mA (tA2 (List.mem_of_getElem? (i := 174) rfl)) rfl
theorem wd_315 : Cond.selects RX1 yX1_remember yX1_remember ∈ wsA := mA (tA2 (List.mem_of_getElem? (i := 175) rfl)) rfl
theorem lk_RX5_159 : lkV RX5 159 yX1_remember RX1 cX1_remember 2 none 1 := ⟨wd_313, wd_312, wd_314, wd_315, wd_223, ⟨rfl, by decide +kernel, by decide +kernel, by decide +kernel⟩⟩
theorem wd_316 : Cond.methodLink RX1 25 yX0_become ∈ wsA := mA (tA2 (List.mem_of_getElem? (i := 177) rfl)) rfl
theorem wd_317 : Cond.code yX0_become cX0_become 2 none ∈ wsA := mA (tA2 (List.mem_of_getElem? (i := 180) rfl)) rfl
theorem wd_318 : Cond.instanceMethod yX0_become ∈ wsA := mA (tA2 (List.mem_of_getElem? (i := 178) rfl)) rfl
theorem wd_319 : Cond.selects RX0 yX0_become yX0_become ∈ wsA := mA (tA2 (List.mem_of_getElem? (i := 179) rfl)) rfl
theorem lk_RX1_25 : lkV RX1 25 yX0_become RX0 cX0_become 2 none 1 := ⟨wd_317, wd_316, wd_318, wd_319, wd_218, ⟨rfl, by decide +kernel, by decide +kernel, by decide +kernel⟩⟩
theorem wd_320 : Cond.methodLink RX1 29 Lib.Math.min.name ∈ wsA := mA (tA2 (List.mem_of_getElem? (i := 182) rfl)) rfl
theorem wd_321 : Cond.methodLink RL 52 yX5_drains ∈ wsA := mA (tA2 (List.mem_of_getElem? (i := 183) rfl)) rfl
theorem wd_322 : Cond.code yX5_drains cX5_drains 4 (some .int) ∈ wsA := mA (tA2 (List.mem_of_getElem? (i := 186) rfl)) rfl
theorem wd_323 : Cond.instanceMethod yX5_drains ∈ wsA := mA (tA2 (List.mem_of_getElem? (i := 184) rfl)) rfl
theorem wd_324 : Cond.selects RX5 yX5_drains yX5_drains ∈ wsA := mA (tA2 (List.mem_of_getElem? (i := 185) rfl)) rfl
theorem lk_RL_52 : lkV RL 52 yX5_drains RX5 cX5_drains 4 (some .int) 1 := ⟨wd_322, wd_321, wd_323, wd_324, wd_131, ⟨rfl, by decide +kernel, by decide +kernel, by decide +kernel⟩⟩
theorem wd_325 : Cond.methodLink RL 56 yX5_does ∈ wsA := mA (tA2 (List.mem_of_getElem? (i := 187) rfl)) rfl
theorem wd_326 : Cond.code yX5_does cX5_does 2 (some .int) ∈ wsA := mA (tA2 (List.mem_of_getElem? (i := 190) rfl)) rfl
theorem wd_327 : Cond.instanceMethod yX5_does ∈ wsA := mA (tA2 (List.mem_of_getElem? (i := 188) rfl)) rfl
theorem wd_328 : Cond.selects RX5 yX5_does yX5_does ∈ wsA := mA (tA2 (List.mem_of_getElem? (i := 189) rfl)) rfl
theorem lk_RL_56 : lkV RL 56 yX5_does RX5 cX5_does 2 (some .int) 1 := ⟨wd_326, wd_325, wd_327, wd_328, wd_131, ⟨rfl, by decide +kernel, by decide +kernel, by decide +kernel⟩⟩
theorem wd_329 : Cond.methodLink RX5 178 yX5_mayBeDone ∈ wsA := mA (tA2 (List.mem_of_getElem? (i := 191) rfl)) rfl
theorem wd_330 : Cond.code yX5_mayBeDone cX5_mayBeDone 3 (some .boolean) ∈ wsA := mA (tA2 (List.mem_of_getElem? (i := 194) rfl)) rfl
theorem wd_331 : Cond.instanceMethod yX5_mayBeDone ∈ wsA := mA (tA2 (List.mem_of_getElem? (i := 193) rfl)) rfl
theorem wd_332 : Cond.selects RX5 yX5_mayBeDone yX5_mayBeDone ∈ wsA := mA (tS (q := (yX5_mayBeDone, 11)) (tP2 (List.mem_of_getElem? (i := 3) rfl))) rfl
theorem lk_RX5_178 : lkV RX5 178 yX5_mayBeDone RX5 cX5_mayBeDone 3 (some .boolean) 2 := ⟨wd_330, wd_329, wd_331, wd_332, wd_131, ⟨rfl, by decide +kernel, by decide +kernel, by decide +kernel⟩⟩
theorem wd_333 : Cond.methodLink RX5 181 yJ6_bitCount_0f7a4 ∈ wsA := mA (tA2 (List.mem_of_getElem? (i := 195) rfl)) rfl
theorem wd_334 : Cond.code yJ6_bitCount_0f7a4 cJ6_bitCount_0f7a4 1 (some .int) ∈ wsA := mA (tA2 (List.mem_of_getElem? (i := 197) rfl)) rfl
theorem wd_335 : Cond.initialized RJ6 ∈ wsA := mA (tA1 (List.mem_of_getElem? (i := 10) rfl)) rfl
theorem wd_336 : Cond.static yJ6_bitCount_0f7a4 ∈ wsA := mA (tA2 (List.mem_of_getElem? (i := 196) rfl)) rfl
theorem lk_RX5_181 : lkS RX5 181 yJ6_bitCount_0f7a4 cJ6_bitCount_0f7a4 1 (some .int) 1 := ⟨wd_334, wd_333, wd_336, wd_335, ⟨by decide +kernel, by decide +kernel, by decide +kernel⟩⟩
theorem wd_337 : Cond.methodLink RL 60 yX5_year ∈ wsA := mA (tA2 (List.mem_of_getElem? (i := 201) rfl)) rfl
theorem wd_338 : Cond.code yX5_year cX5_year 4 (some .int) ∈ wsA := mA (tA2 (List.mem_of_getElem? (i := 204) rfl)) rfl
theorem wd_339 : Cond.instanceMethod yX5_year ∈ wsA := mA (tA2 (List.mem_of_getElem? (i := 202) rfl)) rfl
theorem wd_340 : Cond.selects RX5 yX5_year yX5_year ∈ wsA := mA (tA2 (List.mem_of_getElem? (i := 203) rfl)) rfl
theorem lk_RL_60 : lkV RL 60 yX5_year RX5 cX5_year 4 (some .int) 0 := ⟨wd_338, wd_337, wd_339, wd_340, wd_131, ⟨rfl, by decide +kernel, by decide +kernel, by decide +kernel⟩⟩
theorem wd_341 : Cond.methodLink RL 64 yX5_undo ∈ wsA := mA (tA2 (List.mem_of_getElem? (i := 205) rfl)) rfl
theorem wd_342 : Cond.code yX5_undo cX5_undo 1 (some .int) ∈ wsA := mA (tA2 (List.mem_of_getElem? (i := 208) rfl)) rfl
theorem wd_343 : Cond.instanceMethod yX5_undo ∈ wsA := mA (tA2 (List.mem_of_getElem? (i := 206) rfl)) rfl
theorem wd_344 : Cond.selects RX5 yX5_undo yX5_undo ∈ wsA := mA (tA2 (List.mem_of_getElem? (i := 207) rfl)) rfl
theorem lk_RL_64 : lkV RL 64 yX5_undo RX5 cX5_undo 1 (some .int) 0 := ⟨wd_342, wd_341, wd_343, wd_344, wd_131, ⟨rfl, by decide +kernel, by decide +kernel, by decide +kernel⟩⟩
theorem wd_345 : Cond.methodLink RX5 196 yX1_giveBack ∈ wsA := mA (tA2 (List.mem_of_getElem? (i := 209) rfl)) rfl
theorem wd_346 : Cond.code yX1_giveBack cX1_giveBack 3 none ∈ wsA := mA (tA2 (List.mem_of_getElem? (i := 212) rfl)) rfl
theorem wd_347 : Cond.instanceMethod yX1_giveBack ∈ wsA := mA (tA2 (List.mem_of_getElem? (i := 210) rfl)) rfl
theorem wd_348 : Cond.selects RX1 yX1_giveBack yX1_giveBack ∈ wsA := mA (tA2 (List.mem_of_getElem? (i := 211) rfl)) rfl
theorem lk_RX5_196 : lkV RX5 196 yX1_giveBack RX1 cX1_giveBack 3 none 1 := ⟨wd_346, wd_345, wd_347, wd_348, wd_223, ⟨rfl, by decide +kernel, by decide +kernel, by decide +kernel⟩⟩
theorem wd_349 : Cond.methodLink RL 68 yX5_left ∈ wsA := mA (tA2 (List.mem_of_getElem? (i := 213) rfl)) rfl
theorem wd_350 : Cond.code yX5_left cX5_left 3 (some .int) ∈ wsA := mA (tA2 (List.mem_of_getElem? (i := 216) rfl)) rfl
theorem wd_351 : Cond.instanceMethod yX5_left ∈ wsA := mA (tA2 (List.mem_of_getElem? (i := 214) rfl)) rfl
theorem wd_352 : Cond.selects RX5 yX5_left yX5_left ∈ wsA := mA (tA2 (List.mem_of_getElem? (i := 215) rfl)) rfl
theorem lk_RL_68 : lkV RL 68 yX5_left RX5 cX5_left 3 (some .int) 2 := ⟨wd_350, wd_349, wd_351, wd_352, wd_131, ⟨rfl, by decide +kernel, by decide +kernel, by decide +kernel⟩⟩
theorem wd_353 : Cond.methodLink RX5 199 yX5_isToldYear ∈ wsA := mA (tA2 (List.mem_of_getElem? (i := 217) rfl)) rfl
theorem wd_354 : Cond.code yX5_isToldYear cX5_isToldYear 1 (some .boolean) ∈ wsA := mA (tA2 (List.mem_of_getElem? (i := 219) rfl)) rfl
theorem wd_355 : Cond.static yX5_isToldYear ∈ wsA := mA (tA2 (List.mem_of_getElem? (i := 218) rfl)) rfl
theorem lk_RX5_199 : lkS RX5 199 yX5_isToldYear cX5_isToldYear 1 (some .boolean) 1 := ⟨wd_354, wd_353, wd_355, wd_131, ⟨by decide +kernel, by decide +kernel, by decide +kernel⟩⟩
theorem wd_356 : Cond.methodLink RL 72 yX5_lasts ∈ wsA := mA (tA2 (List.mem_of_getElem? (i := 220) rfl)) rfl
theorem wd_357 : Cond.code yX5_lasts cX5_lasts 5 (some .int) ∈ wsA := mA (tA2 (List.mem_of_getElem? (i := 223) rfl)) rfl
theorem wd_358 : Cond.instanceMethod yX5_lasts ∈ wsA := mA (tA2 (List.mem_of_getElem? (i := 221) rfl)) rfl
theorem wd_359 : Cond.selects RX5 yX5_lasts yX5_lasts ∈ wsA := mA (tA2 (List.mem_of_getElem? (i := 222) rfl)) rfl
theorem lk_RL_72 : lkV RL 72 yX5_lasts RX5 cX5_lasts 5 (some .int) 3 := ⟨wd_357, wd_356, wd_358, wd_359, wd_131, ⟨rfl, by decide +kernel, by decide +kernel, by decide +kernel⟩⟩
theorem wd_360 : Cond.methodLink RL 77 yX5_duty ∈ wsA := mA (tA2 (List.mem_of_getElem? (i := 224) rfl)) rfl
theorem wd_361 : Cond.code yX5_duty cX5_duty 5 (some .int) ∈ wsA := mA (tA2 (List.mem_of_getElem? (i := 227) rfl)) rfl
theorem wd_362 : Cond.instanceMethod yX5_duty ∈ wsA := mA (tA2 (List.mem_of_getElem? (i := 225) rfl)) rfl
theorem wd_363 : Cond.selects RX5 yX5_duty yX5_duty ∈ wsA := mA (tA2 (List.mem_of_getElem? (i := 226) rfl)) rfl
theorem lk_RL_77 : lkV RL 77 yX5_duty RX5 cX5_duty 5 (some .int) 2 := ⟨wd_361, wd_360, wd_362, wd_363, wd_131, ⟨rfl, by decide +kernel, by decide +kernel, by decide +kernel⟩⟩
theorem wd_364 : Cond.methodLink RL 81 yX5_sees ∈ wsA := mA (tA2 (List.mem_of_getElem? (i := 228) rfl)) rfl
theorem wd_365 : Cond.code yX5_sees cX5_sees 2 (some .int) ∈ wsA := mA (tA2 (List.mem_of_getElem? (i := 231) rfl)) rfl
theorem wd_366 : Cond.instanceMethod yX5_sees ∈ wsA := mA (tA2 (List.mem_of_getElem? (i := 229) rfl)) rfl
theorem wd_367 : Cond.selects RX5 yX5_sees yX5_sees ∈ wsA := mA (tA2 (List.mem_of_getElem? (i := 230) rfl)) rfl
theorem lk_RL_81 : lkV RL 81 yX5_sees RX5 cX5_sees 2 (some .int) 1 := ⟨wd_365, wd_364, wd_366, wd_367, wd_131, ⟨rfl, by decide +kernel, by decide +kernel, by decide +kernel⟩⟩
theorem wd_368 : Cond.methodLink RL 85 yX5_forget ∈ wsA := mA (tA2 (List.mem_of_getElem? (i := 232) rfl)) rfl
theorem wd_369 : Cond.code yX5_forget cX5_forget 2 (some .int) ∈ wsA := mA (tA2 (List.mem_of_getElem? (i := 235) rfl)) rfl
theorem wd_370 : Cond.instanceMethod yX5_forget ∈ wsA := mA (tA2 (List.mem_of_getElem? (i := 233) rfl)) rfl
theorem wd_371 : Cond.selects RX5 yX5_forget yX5_forget ∈ wsA := mA (tA2 (List.mem_of_getElem? (i := 234) rfl)) rfl
theorem lk_RL_85 : lkV RL 85 yX5_forget RX5 cX5_forget 2 (some .int) 0 := ⟨wd_369, wd_368, wd_370, wd_371, wd_131, ⟨rfl, by decide +kernel, by decide +kernel, by decide +kernel⟩⟩
theorem wd_372 : Cond.methodLink RL 89 yX5_fits ∈ wsA := mA (tA2 (List.mem_of_getElem? (i := 236) rfl)) rfl
theorem wd_373 : Cond.code yX5_fits cX5_fits 3 (some .int) ∈ wsA := mA (tA2 (List.mem_of_getElem? (i := 239) rfl)) rfl
theorem wd_374 : Cond.instanceMethod yX5_fits ∈ wsA := mA (tA2 (List.mem_of_getElem? (i := 237) rfl)) rfl
theorem wd_375 : Cond.selects RX5 yX5_fits yX5_fits ∈ wsA := mA (tA2 (List.mem_of_getElem? (i := 238) rfl)) rfl
theorem lk_RL_89 : lkV RL 89 yX5_fits RX5 cX5_fits 3 (some .int) 0 := ⟨wd_373, wd_372, wd_374, wd_375, wd_131, ⟨rfl, by decide +kernel, by decide +kernel, by decide +kernel⟩⟩
theorem wd_376 : Cond.methodLink RX5 206 yX5_beginsAsSeen ∈ wsA := mA (tA3 (List.mem_of_getElem? (i := 0) rfl)) rfl
theorem wd_377 : Cond.code yX5_beginsAsSeen cX5_beginsAsSeen 3 (some .boolean) ∈ wsA := mA (tA3 (List.mem_of_getElem? (i := 3) rfl)) rfl
theorem wd_378 : Cond.instanceMethod yX5_beginsAsSeen ∈ wsA := mA (tA3 (List.mem_of_getElem? (i := 2) rfl)) rfl
theorem wd_379 : Cond.selects RX5 yX5_beginsAsSeen yX5_beginsAsSeen ∈ wsA := mA (tS (q := (yX5_beginsAsSeen, 11)) (tP2 (List.mem_of_getElem? (i := 4) rfl))) rfl
theorem lk_RX5_206 : lkV RX5 206 yX5_beginsAsSeen RX5 cX5_beginsAsSeen 3 (some .boolean) 1 := ⟨wd_377, wd_376, wd_378, wd_379, wd_131, ⟨rfl, by decide +kernel, by decide +kernel, by decide +kernel⟩⟩
theorem wd_380 : Cond.methodLink RL 93 yX5_likely ∈ wsA := mA (tA3 (List.mem_of_getElem? (i := 4) rfl)) rfl
theorem wd_381 : Cond.code yX5_likely cX5_likely 4 (some .int) ∈ wsA := mA (tA3 (List.mem_of_getElem? (i := 7) rfl)) rfl
theorem wd_382 : Cond.instanceMethod yX5_likely ∈ wsA := mA (tA3 (List.mem_of_getElem? (i := 5) rfl)) rfl
theorem wd_383 : Cond.selects RX5 yX5_likely yX5_likely ∈ wsA := mA (tA3 (List.mem_of_getElem? (i := 6) rfl)) rfl
theorem lk_RL_93 : lkV RL 93 yX5_likely RX5 cX5_likely 4 (some .int) 0 := ⟨wd_381, wd_380, wd_382, wd_383, wd_131, ⟨rfl, by decide +kernel, by decide +kernel, by decide +kernel⟩⟩
theorem wd_384 : Cond.methodLink RL 97 yX5_kept ∈ wsA := mA (tA3 (List.mem_of_getElem? (i := 8) rfl)) rfl
theorem wd_385 : Cond.code yX5_kept cX5_kept 2 (some .int) ∈ wsA := mA (tA3 (List.mem_of_getElem? (i := 11) rfl)) rfl
theorem wd_386 : Cond.instanceMethod yX5_kept ∈ wsA := mA (tA3 (List.mem_of_getElem? (i := 9) rfl)) rfl
theorem wd_387 : Cond.selects RX5 yX5_kept yX5_kept ∈ wsA := mA (tA3 (List.mem_of_getElem? (i := 10) rfl)) rfl
theorem lk_RL_97 : lkV RL 97 yX5_kept RX5 cX5_kept 2 (some .int) 1 := ⟨wd_385, wd_384, wd_386, wd_387, wd_131, ⟨rfl, by decide +kernel, by decide +kernel, by decide +kernel⟩⟩
theorem wd_388 : Cond.methodLink RX5 209 yX5_bestKept ∈ wsA := mA (tA3 (List.mem_of_getElem? (i := 12) rfl)) rfl
theorem wd_389 : Cond.code yX5_bestKept cX5_bestKept 6 (some .int) ∈ wsA := mA (tA3 (List.mem_of_getElem? (i := 15) rfl)) rfl
theorem wd_390 : Cond.instanceMethod yX5_bestKept ∈ wsA := mA (tA3 (List.mem_of_getElem? (i := 14) rfl)) rfl
theorem wd_391 : Cond.selects RX5 yX5_bestKept yX5_bestKept ∈ wsA := mA (tS (q := (yX5_bestKept, 11)) (tP2 (List.mem_of_getElem? (i := 5) rfl))) rfl
theorem lk_RX5_209 : lkV RX5 209 yX5_bestKept RX5 cX5_bestKept 6 (some .int) 0 := ⟨wd_389, wd_388, wd_390, wd_391, wd_131, ⟨rfl, by decide +kernel, by decide +kernel, by decide +kernel⟩⟩
theorem wd_392 : Cond.methodLink RX5 280 yX5_clashesWithin ∈ wsA := mA (tA3 (List.mem_of_getElem? (i := 16) rfl)) rfl
theorem wd_393 : Cond.code yX5_clashesWithin cX5_clashesWithin 3 (some .boolean) ∈ wsA := mA (tA3 (List.mem_of_getElem? (i := 19) rfl)) rfl
theorem wd_394 : Cond.instanceMethod yX5_clashesWithin ∈ wsA := mA (tA3 (List.mem_of_getElem? (i := 18) rfl)) rfl
theorem wd_395 : Cond.selects RX5 yX5_clashesWithin yX5_clashesWithin ∈ wsA := mA (tS (q := (yX5_clashesWithin, 11)) (tP2 (List.mem_of_getElem? (i := 6) rfl))) rfl
theorem lk_RX5_280 : lkV RX5 280 yX5_clashesWithin RX5 cX5_clashesWithin 3 (some .boolean) 1 := ⟨wd_393, wd_392, wd_394, wd_395, wd_131, ⟨rfl, by decide +kernel, by decide +kernel, by decide +kernel⟩⟩
theorem wd_396 : Cond.methodLink RX5 212 yX5_wordsLeftOf ∈ wsA := mA (tA3 (List.mem_of_getElem? (i := 20) rfl)) rfl
theorem wd_397 : Cond.code yX5_wordsLeftOf cX5_wordsLeftOf 4 (some .int) ∈ wsA := mA (tA3 (List.mem_of_getElem? (i := 23) rfl)) rfl
theorem wd_398 : Cond.instanceMethod yX5_wordsLeftOf ∈ wsA := mA (tA3 (List.mem_of_getElem? (i := 22) rfl)) rfl
theorem wd_399 : Cond.selects RX5 yX5_wordsLeftOf yX5_wordsLeftOf ∈ wsA := mA (tS (q := (yX5_wordsLeftOf, 11)) (tP2 (List.mem_of_getElem? (i := 7) rfl))) rfl
theorem lk_RX5_212 : lkV RX5 212 yX5_wordsLeftOf RX5 cX5_wordsLeftOf 4 (some .int) 1 := ⟨wd_397, wd_396, wd_398, wd_399, wd_131, ⟨rfl, by decide +kernel, by decide +kernel, by decide +kernel⟩⟩
theorem wd_400 : Cond.methodLink RL 101 yX5_order ∈ wsA := mA (tA3 (List.mem_of_getElem? (i := 24) rfl)) rfl
theorem wd_401 : Cond.code yX5_order cX5_order 4 (some .int) ∈ wsA := mA (tA3 (List.mem_of_getElem? (i := 27) rfl)) rfl
theorem wd_402 : Cond.instanceMethod yX5_order ∈ wsA := mA (tA3 (List.mem_of_getElem? (i := 25) rfl)) rfl
theorem wd_403 : Cond.selects RX5 yX5_order yX5_order ∈ wsA := mA (tA3 (List.mem_of_getElem? (i := 26) rfl)) rfl
theorem lk_RL_101 : lkV RL 101 yX5_order RX5 cX5_order 4 (some .int) 1 := ⟨wd_401, wd_400, wd_402, wd_403, wd_131, ⟨rfl, by decide +kernel, by decide +kernel, by decide +kernel⟩⟩
theorem wd_404 : Cond.methodLink RX5 215 yX5_bestOrdered ∈ wsA := mA (tA3 (List.mem_of_getElem? (i := 28) rfl)) rfl
theorem wd_405 : Cond.code yX5_bestOrdered cX5_bestOrdered 4 (some .int) ∈ wsA := mA (tA3 (List.mem_of_getElem? (i := 31) rfl)) rfl
theorem wd_406 : Cond.instanceMethod yX5_bestOrdered ∈ wsA := mA (tA3 (List.mem_of_getElem? (i := 30) rfl)) rfl
theorem wd_407 : Cond.selects RX5 yX5_bestOrdered yX5_bestOrdered ∈ wsA := mA (tS (q := (yX5_bestOrdered, 11)) (tP2 (List.mem_of_getElem? (i := 8) rfl))) rfl
theorem lk_RX5_215 : lkV RX5 215 yX5_bestOrdered RX5 cX5_bestOrdered 4 (some .int) 0 := ⟨wd_405, wd_404, wd_406, wd_407, wd_131, ⟨rfl, by decide +kernel, by decide +kernel, by decide +kernel⟩⟩
theorem wd_408 : Cond.methodLink RX5 283 yX5_endsByDue ∈ wsA := mA (tA3 (List.mem_of_getElem? (i := 32) rfl)) rfl
theorem wd_409 : Cond.code yX5_endsByDue cX5_endsByDue 6 (some .boolean) ∈ wsA := mA (tA3 (List.mem_of_getElem? (i := 35) rfl)) rfl
theorem wd_410 : Cond.instanceMethod yX5_endsByDue ∈ wsA := mA (tA3 (List.mem_of_getElem? (i := 34) rfl)) rfl
theorem wd_411 : Cond.selects RX5 yX5_endsByDue yX5_endsByDue ∈ wsA := mA (tS (q := (yX5_endsByDue, 11)) (tP2 (List.mem_of_getElem? (i := 9) rfl))) rfl
theorem lk_RX5_283 : lkV RX5 283 yX5_endsByDue RX5 cX5_endsByDue 6 (some .boolean) 1 := ⟨wd_409, wd_408, wd_410, wd_411, wd_131, ⟨rfl, by decide +kernel, by decide +kernel, by decide +kernel⟩⟩
theorem wd_412 : Cond.methodLink RX5 218 yX5_earliestDue ∈ wsA := mA (tA3 (List.mem_of_getElem? (i := 36) rfl)) rfl
theorem wd_413 : Cond.code yX5_earliestDue cX5_earliestDue 5 (some .int) ∈ wsA := mA (tA3 (List.mem_of_getElem? (i := 39) rfl)) rfl
theorem wd_414 : Cond.instanceMethod yX5_earliestDue ∈ wsA := mA (tA3 (List.mem_of_getElem? (i := 38) rfl)) rfl
theorem wd_415 : Cond.selects RX5 yX5_earliestDue yX5_earliestDue ∈ wsA := mA (tS (q := (yX5_earliestDue, 11)) (tP2 (List.mem_of_getElem? (i := 10) rfl))) rfl
theorem lk_RX5_218 : lkV RX5 218 yX5_earliestDue RX5 cX5_earliestDue 5 (some .int) 1 := ⟨wd_413, wd_412, wd_414, wd_415, wd_131, ⟨rfl, by decide +kernel, by decide +kernel, by decide +kernel⟩⟩
theorem wd_416 : Cond.methodLink RX5 221 yX5_without ∈ wsA := mA (tA3 (List.mem_of_getElem? (i := 40) rfl)) rfl
theorem wd_417 : Cond.code yX5_without cX5_without 2 (some .int) ∈ wsA := mA (tA3 (List.mem_of_getElem? (i := 42) rfl)) rfl
theorem wd_418 : Cond.static yX5_without ∈ wsA := mA (tA3 (List.mem_of_getElem? (i := 41) rfl)) rfl
theorem lk_RX5_221 : lkS RX5 221 yX5_without cX5_without 2 (some .int) 2 := ⟨wd_417, wd_416, wd_418, wd_131, ⟨by decide +kernel, by decide +kernel, by decide +kernel⟩⟩
theorem wd_419 : Cond.methodLink RL 105 yX5_drain ∈ wsA := mA (tA3 (List.mem_of_getElem? (i := 43) rfl)) rfl
theorem wd_420 : Cond.code yX5_drain cX5_drain 5 (some .int) ∈ wsA := mA (tA3 (List.mem_of_getElem? (i := 46) rfl)) rfl
theorem wd_421 : Cond.instanceMethod yX5_drain ∈ wsA := mA (tA3 (List.mem_of_getElem? (i := 44) rfl)) rfl
theorem wd_422 : Cond.selects RX5 yX5_drain yX5_drain ∈ wsA := mA (tA3 (List.mem_of_getElem? (i := 45) rfl)) rfl
theorem lk_RL_105 : lkV RL 105 yX5_drain RX5 cX5_drain 5 (some .int) 1 := ⟨wd_420, wd_419, wd_421, wd_422, wd_131, ⟨rfl, by decide +kernel, by decide +kernel, by decide +kernel⟩⟩
theorem wd_423 : Cond.methodLink RX5 224 yX5_staysIfDry ∈ wsA := mA (tA3 (List.mem_of_getElem? (i := 47) rfl)) rfl
theorem wd_424 : Cond.code yX5_staysIfDry cX5_staysIfDry 4 (some .boolean) ∈ wsA := mA (tA3 (List.mem_of_getElem? (i := 50) rfl)) rfl
theorem wd_425 : Cond.instanceMethod yX5_staysIfDry ∈ wsA := mA (tA3 (List.mem_of_getElem? (i := 49) rfl)) rfl
theorem wd_426 : Cond.selects RX5 yX5_staysIfDry yX5_staysIfDry ∈ wsA := mA (tS (q := (yX5_staysIfDry, 11)) (tP2 (List.mem_of_getElem? (i := 11) rfl))) rfl
theorem lk_RX5_224 : lkV RX5 224 yX5_staysIfDry RX5 cX5_staysIfDry 4 (some .boolean) 2 := ⟨wd_424, wd_423, wd_425, wd_426, wd_131, ⟨rfl, by decide +kernel, by decide +kernel, by decide +kernel⟩⟩
theorem wd_427 : Cond.methodLink RL 109 yX5_odds ∈ wsA := mA (tA3 (List.mem_of_getElem? (i := 51) rfl)) rfl
theorem wd_428 : Cond.code yX5_odds cX5_odds 8 (some .int) ∈ wsA := mA (tA3 (List.mem_of_getElem? (i := 54) rfl)) rfl
theorem wd_429 : Cond.instanceMethod yX5_odds ∈ wsA := mA (tA3 (List.mem_of_getElem? (i := 52) rfl)) rfl
theorem wd_430 : Cond.selects RX5 yX5_odds yX5_odds ∈ wsA := mA (tA3 (List.mem_of_getElem? (i := 53) rfl)) rfl
theorem lk_RL_109 : lkV RL 109 yX5_odds RX5 cX5_odds 8 (some .int) 4 := ⟨wd_428, wd_427, wd_429, wd_430, wd_131, ⟨rfl, by decide +kernel, by decide +kernel, by decide +kernel⟩⟩
theorem wd_431 : Cond.methodLink RX5 227 yX5_choices ∈ wsA := mA (tA3 (List.mem_of_getElem? (i := 55) rfl)) rfl
theorem wd_432 : Cond.code yX5_choices cX5_choices 4 (some .int) ∈ wsA := mA (tA3 (List.mem_of_getElem? (i := 57) rfl)) rfl
theorem wd_433 : Cond.static yX5_choices ∈ wsA := mA (tA3 (List.mem_of_getElem? (i := 56) rfl)) rfl
theorem lk_RX5_227 : lkS RX5 227 yX5_choices cX5_choices 4 (some .int) 2 := ⟨wd_432, wd_431, wd_433, wd_131, ⟨by decide +kernel, by decide +kernel, by decide +kernel⟩⟩
theorem wd_434 : Cond.methodLink RX5 230 yX5_power ∈ wsA := mA (tA3 (List.mem_of_getElem? (i := 58) rfl)) rfl
theorem wd_435 : Cond.code yX5_power cX5_power 4 (some .int) ∈ wsA := mA (tA3 (List.mem_of_getElem? (i := 60) rfl)) rfl
theorem wd_436 : Cond.static yX5_power ∈ wsA := mA (tA3 (List.mem_of_getElem? (i := 59) rfl)) rfl
theorem lk_RX5_230 : lkS RX5 230 yX5_power cX5_power 4 (some .int) 2 := ⟨wd_435, wd_434, wd_436, wd_131, ⟨by decide +kernel, by decide +kernel, by decide +kernel⟩⟩
theorem wd_437 : Cond.methodLink RX5 233 yX5_commonDivisor ∈ wsA := mA (tA3 (List.mem_of_getElem? (i := 61) rfl)) rfl
theorem wd_438 : Cond.code yX5_commonDivisor cX5_commonDivisor 6 (some .int) ∈ wsA := mA (tA3 (List.mem_of_getElem? (i := 63) rfl)) rfl
theorem wd_439 : Cond.static yX5_commonDivisor ∈ wsA := mA (tA3 (List.mem_of_getElem? (i := 62) rfl)) rfl
theorem lk_RX5_233 : lkS RX5 233 yX5_commonDivisor cX5_commonDivisor 6 (some .int) 2 := ⟨wd_438, wd_437, wd_439, wd_131, ⟨by decide +kernel, by decide +kernel, by decide +kernel⟩⟩
theorem wd_440 : Cond.methodLink RL 114 yX5_rate ∈ wsA := mA (tA3 (List.mem_of_getElem? (i := 64) rfl)) rfl
theorem wd_441 : Cond.code yX5_rate cX5_rate 3 (some .int) ∈ wsA := mA (tA3 (List.mem_of_getElem? (i := 67) rfl)) rfl
theorem wd_442 : Cond.instanceMethod yX5_rate ∈ wsA := mA (tA3 (List.mem_of_getElem? (i := 65) rfl)) rfl
theorem wd_443 : Cond.selects RX5 yX5_rate yX5_rate ∈ wsA := mA (tA3 (List.mem_of_getElem? (i := 66) rfl)) rfl
theorem lk_RL_114 : lkV RL 114 yX5_rate RX5 cX5_rate 3 (some .int) 2 := ⟨wd_441, wd_440, wd_442, wd_443, wd_131, ⟨rfl, by decide +kernel, by decide +kernel, by decide +kernel⟩⟩
theorem wd_444 : Cond.methodLink RX5 237 yX5_asWord ∈ wsA := mA (tA3 (List.mem_of_getElem? (i := 69) rfl)) rfl
theorem wd_445 : Cond.code yX5_asWord cX5_asWord 2 (some .int) ∈ wsA := mA (tA3 (List.mem_of_getElem? (i := 72) rfl)) rfl
theorem wd_446 : Cond.instanceMethod yX5_asWord ∈ wsA := mA (tA3 (List.mem_of_getElem? (i := 71) rfl)) rfl
theorem wd_447 : Cond.selects RX5 yX5_asWord yX5_asWord ∈ wsA := mA (tS (q := (yX5_asWord, 11)) (tP2 (List.mem_of_getElem? (i := 12) rfl))) rfl
theorem lk_RX5_237 : lkV RX5 237 yX5_asWord RX5 cX5_asWord 2 (some .int) 1 := ⟨wd_445, wd_444, wd_446, wd_447, wd_131, ⟨rfl, by decide +kernel, by decide +kernel, by decide +kernel⟩⟩
theorem wd_448 : Cond.methodLink RX5 240 yX5_asVow ∈ wsA := mA (tA3 (List.mem_of_getElem? (i := 73) rfl)) rfl
theorem wd_449 : Cond.code yX5_asVow cX5_asVow 2 (some .int) ∈ wsA := mA (tA3 (List.mem_of_getElem? (i := 76) rfl)) rfl
theorem wd_450 : Cond.instanceMethod yX5_asVow ∈ wsA := mA (tA3 (List.mem_of_getElem? (i := 75) rfl)) rfl
theorem wd_451 : Cond.selects RX5 yX5_asVow yX5_asVow ∈ wsA := mA (tS (q := (yX5_asVow, 11)) (tP2 (List.mem_of_getElem? (i := 13) rfl))) rfl
theorem lk_RX5_240 : lkV RX5 240 yX5_asVow RX5 cX5_asVow 2 (some .int) 1 := ⟨wd_449, wd_448, wd_450, wd_451, wd_131, ⟨rfl, by decide +kernel, by decide +kernel, by decide +kernel⟩⟩
theorem wd_452 : Cond.methodLink RX5 243 yX5_asLoan ∈ wsA := mA (tA3 (List.mem_of_getElem? (i := 78) rfl)) rfl
theorem wd_453 : Cond.code yX5_asLoan cX5_asLoan 2 (some .int) ∈ wsA := mA (tA3 (List.mem_of_getElem? (i := 81) rfl)) rfl
theorem wd_454 : Cond.instanceMethod yX5_asLoan ∈ wsA := mA (tA3 (List.mem_of_getElem? (i := 80) rfl)) rfl
theorem wd_455 : Cond.selects RX5 yX5_asLoan yX5_asLoan ∈ wsA := mA (tS (q := (yX5_asLoan, 11)) (tP2 (List.mem_of_getElem? (i := 14) rfl))) rfl
theorem lk_RX5_243 : lkV RX5 243 yX5_asLoan RX5 cX5_asLoan 2 (some .int) 1 := ⟨wd_453, wd_452, wd_454, wd_455, wd_131, ⟨rfl, by decide +kernel, by decide +kernel, by decide +kernel⟩⟩
theorem wd_456 : Cond.methodLink RX5 246 yX5_asBride ∈ wsA := mA (tA3 (List.mem_of_getElem? (i := 83) rfl)) rfl
theorem wd_457 : Cond.code yX5_asBride cX5_asBride 2 (some .int) ∈ wsA := mA (tA3 (List.mem_of_getElem? (i := 86) rfl)) rfl
theorem wd_458 : Cond.instanceMethod yX5_asBride ∈ wsA := mA (tA3 (List.mem_of_getElem? (i := 85) rfl)) rfl
theorem wd_459 : Cond.selects RX5 yX5_asBride yX5_asBride ∈ wsA := mA (tS (q := (yX5_asBride, 11)) (tP2 (List.mem_of_getElem? (i := 15) rfl))) rfl
theorem lk_RX5_246 : lkV RX5 246 yX5_asBride RX5 cX5_asBride 2 (some .int) 1 := ⟨wd_457, wd_456, wd_458, wd_459, wd_131, ⟨rfl, by decide +kernel, by decide +kernel, by decide +kernel⟩⟩
theorem wd_460 : Cond.methodLink RX5 249 yX5_asOak ∈ wsA := mA (tA3 (List.mem_of_getElem? (i := 88) rfl)) rfl
theorem wd_461 : Cond.code yX5_asOak cX5_asOak 2 (some .int) ∈ wsA := mA (tA3 (List.mem_of_getElem? (i := 91) rfl)) rfl
theorem wd_462 : Cond.instanceMethod yX5_asOak ∈ wsA := mA (tA3 (List.mem_of_getElem? (i := 90) rfl)) rfl
theorem wd_463 : Cond.selects RX5 yX5_asOak yX5_asOak ∈ wsA := mA (tS (q := (yX5_asOak, 11)) (tP3 (List.mem_of_getElem? (i := 0) rfl))) rfl
theorem lk_RX5_249 : lkV RX5 249 yX5_asOak RX5 cX5_asOak 2 (some .int) 1 := ⟨wd_461, wd_460, wd_462, wd_463, wd_131, ⟨rfl, by decide +kernel, by decide +kernel, by decide +kernel⟩⟩
theorem wd_464 : Cond.methodLink RX5 252 yX5_asThumb ∈ wsA := mA (tA3 (List.mem_of_getElem? (i := 93) rfl)) rfl
theorem wd_465 : Cond.code yX5_asThumb cX5_asThumb 2 (some .int) ∈ wsA := mA (tA3 (List.mem_of_getElem? (i := 96) rfl)) rfl
theorem wd_466 : Cond.instanceMethod yX5_asThumb ∈ wsA := mA (tA3 (List.mem_of_getElem? (i := 95) rfl)) rfl
theorem wd_467 : Cond.selects RX5 yX5_asThumb yX5_asThumb ∈ wsA := mA (tS (q := (yX5_asThumb, 11)) (tP3 (List.mem_of_getElem? (i := 1) rfl))) rfl
theorem lk_RX5_252 : lkV RX5 252 yX5_asThumb RX5 cX5_asThumb 2 (some .int) 1 := ⟨wd_465, wd_464, wd_466, wd_467, wd_131, ⟨rfl, by decide +kernel, by decide +kernel, by decide +kernel⟩⟩
theorem wd_468 : Cond.methodLink RL 118 yX5_keep ∈ wsA := mA (tA3 (List.mem_of_getElem? (i := 98) rfl)) rfl
theorem wd_469 : Cond.code yX5_keep cX5_keep 2 (some .int) ∈ wsA := mA (tA3 (List.mem_of_getElem? (i := 101) rfl)) rfl
theorem wd_470 : Cond.instanceMethod yX5_keep ∈ wsA := mA (tA3 (List.mem_of_getElem? (i := 99) rfl)) rfl
theorem wd_471 : Cond.selects RX5 yX5_keep yX5_keep ∈ wsA := mA (tA3 (List.mem_of_getElem? (i := 100) rfl)) rfl
theorem lk_RL_118 : lkV RL 118 yX5_keep RX5 cX5_keep 2 (some .int) 1 := ⟨wd_469, wd_468, wd_470, wd_471, wd_131, ⟨rfl, by decide +kernel, by decide +kernel, by decide +kernel⟩⟩
theorem wd_472 : Cond.methodLink RX5 255 yX0_become ∈ wsA := mA (tA3 (List.mem_of_getElem? (i := 102) rfl)) rfl
theorem lk_RX5_255 : lkV RX5 255 yX0_become RX0 cX0_become 2 none 1 := ⟨wd_317, wd_472, wd_318, wd_319, wd_218, ⟨rfl, by decide +kernel, by decide +kernel, by decide +kernel⟩⟩
theorem wd_473 : Cond.methodLink RL 122 yX5_back ∈ wsA := mA (tA3 (List.mem_of_getElem? (i := 103) rfl)) rfl
theorem wd_474 : Cond.code yX5_back cX5_back 2 (some .int) ∈ wsA := mA (tA3 (List.mem_of_getElem? (i := 106) rfl)) rfl
theorem wd_475 : Cond.instanceMethod yX5_back ∈ wsA := mA (tA3 (List.mem_of_getElem? (i := 104) rfl)) rfl
theorem wd_476 : Cond.selects RX5 yX5_back yX5_back ∈ wsA := mA (tA3 (List.mem_of_getElem? (i := 105) rfl)) rfl
theorem lk_RL_122 : lkV RL 122 yX5_back RX5 cX5_back 2 (some .int) 1 := ⟨wd_474, wd_473, wd_475, wd_476, wd_131, ⟨rfl, by decide +kernel, by decide +kernel, by decide +kernel⟩⟩
theorem wd_477 : Cond.methodLink RL 126 yX5_count ∈ wsA := mA (tA3 (List.mem_of_getElem? (i := 107) rfl)) rfl
theorem wd_478 : Cond.code yX5_count cX5_count 2 (some .int) ∈ wsA := mA (tA3 (List.mem_of_getElem? (i := 110) rfl)) rfl
theorem wd_479 : Cond.instanceMethod yX5_count ∈ wsA := mA (tA3 (List.mem_of_getElem? (i := 108) rfl)) rfl
theorem wd_480 : Cond.selects RX5 yX5_count yX5_count ∈ wsA := mA (tA3 (List.mem_of_getElem? (i := 109) rfl)) rfl
theorem lk_RL_126 : lkV RL 126 yX5_count RX5 cX5_count 2 (some .int) 1 := ⟨wd_478, wd_477, wd_479, wd_480, wd_131, ⟨rfl, by decide +kernel, by decide +kernel, by decide +kernel⟩⟩
theorem wd_481 : Cond.methodLink RL 130 yX5_trace ∈ wsA := mA (tA3 (List.mem_of_getElem? (i := 111) rfl)) rfl
theorem wd_482 : Cond.code yX5_trace cX5_trace 1 (some .long) ∈ wsA := mA (tA3 (List.mem_of_getElem? (i := 114) rfl)) rfl
theorem wd_483 : Cond.instanceMethod yX5_trace ∈ wsA := mA (tA3 (List.mem_of_getElem? (i := 112) rfl)) rfl
theorem wd_484 : Cond.selects RX5 yX5_trace yX5_trace ∈ wsA := mA (tA3 (List.mem_of_getElem? (i := 113) rfl)) rfl
theorem lk_RL_130 : lkV RL 130 yX5_trace RX5 cX5_trace 1 (some .long) 0 := ⟨wd_482, wd_481, wd_483, wd_484, wd_131, ⟨rfl, by decide +kernel, by decide +kernel, by decide +kernel⟩⟩
theorem wd_485 : Cond.methodLink RX6 68 yX6_begins ∈ wsA := mA (tA3 (List.mem_of_getElem? (i := 121) rfl)) rfl
theorem wd_486 : Cond.code yX6_begins cX6_begins 2 none ∈ wsA := mA (tA3 (List.mem_of_getElem? (i := 124) rfl)) rfl
theorem wd_487 : Cond.initialized RX6 ∈ wsA := mA (tA1 (List.mem_of_getElem? (i := 7) rfl)) rfl
theorem wd_488 : Cond.instanceMethod yX6_begins ∈ wsA := mA (tA3 (List.mem_of_getElem? (i := 123) rfl)) rfl
theorem wd_489 : Cond.selects RX6 yX6_begins yX6_begins ∈ wsA := mA (tS (q := (yX6_begins, 30)) (tP3 (List.mem_of_getElem? (i := 2) rfl))) rfl
theorem lk_RX6_68 : lkV RX6 68 yX6_begins RX6 cX6_begins 2 none 0 := ⟨wd_486, wd_485, wd_488, wd_489, wd_487, ⟨rfl, by decide +kernel, by decide +kernel, by decide +kernel⟩⟩
theorem wd_490 : Cond.methodLink RX6 71 yX6_settles ∈ wsA := mA (tA3 (List.mem_of_getElem? (i := 125) rfl)) rfl
theorem wd_491 : Cond.code yX6_settles cX6_settles 2 none ∈ wsA := mA (tA3 (List.mem_of_getElem? (i := 128) rfl)) rfl
theorem wd_492 : Cond.instanceMethod yX6_settles ∈ wsA := mA (tA3 (List.mem_of_getElem? (i := 127) rfl)) rfl
theorem wd_493 : Cond.selects RX6 yX6_settles yX6_settles ∈ wsA := mA (tS (q := (yX6_settles, 30)) (tP3 (List.mem_of_getElem? (i := 3) rfl))) rfl
theorem lk_RX6_71 : lkV RX6 71 yX6_settles RX6 cX6_settles 2 none 0 := ⟨wd_491, wd_490, wd_492, wd_493, wd_487, ⟨rfl, by decide +kernel, by decide +kernel, by decide +kernel⟩⟩
theorem wd_494 : Cond.methodLink RL 17 yX6_type ∈ wsA := mA (tA3 (List.mem_of_getElem? (i := 220) rfl)) rfl
theorem wd_495 : Cond.code yX6_type cX6_type 2 (some .int) ∈ wsA := mA (tA3 (List.mem_of_getElem? (i := 223) rfl)) rfl
theorem wd_496 : Cond.instanceMethod yX6_type ∈ wsA := mA (tA3 (List.mem_of_getElem? (i := 221) rfl)) rfl
theorem wd_497 : Cond.selects RX6 yX6_type yX6_type ∈ wsA := mA (tA3 (List.mem_of_getElem? (i := 222) rfl)) rfl
theorem lk_RL_17 : lkV RL 17 yX6_type RX6 cX6_type 2 (some .int) 1 := ⟨wd_495, wd_494, wd_496, wd_497, wd_487, ⟨rfl, by decide +kernel, by decide +kernel, by decide +kernel⟩⟩
theorem wd_498 : Cond.methodLink RX6 78 yX6_in ∈ wsA := mA (tA3 (List.mem_of_getElem? (i := 224) rfl)) rfl
theorem wd_499 : Cond.code yX6_in cX6_in 3 (some .boolean) ∈ wsA := mA (tA3 (List.mem_of_getElem? (i := 226) rfl)) rfl
theorem wd_500 : Cond.static yX6_in ∈ wsA := mA (tA3 (List.mem_of_getElem? (i := 225) rfl)) rfl
theorem lk_RX6_78 : lkS RX6 78 yX6_in cX6_in 3 (some .boolean) 3 := ⟨wd_499, wd_498, wd_500, wd_487, ⟨by decide +kernel, by decide +kernel, by decide +kernel⟩⟩
theorem wd_501 : Cond.methodLink RL 22 yX6_clear ∈ wsA := mA (tA3 (List.mem_of_getElem? (i := 227) rfl)) rfl
theorem wd_502 : Cond.code yX6_clear cX6_clear 2 (some .int) ∈ wsA := mA (tA3 (List.mem_of_getElem? (i := 230) rfl)) rfl
theorem wd_503 : Cond.instanceMethod yX6_clear ∈ wsA := mA (tA3 (List.mem_of_getElem? (i := 228) rfl)) rfl
theorem wd_504 : Cond.selects RX6 yX6_clear yX6_clear ∈ wsA := mA (tA3 (List.mem_of_getElem? (i := 229) rfl)) rfl
theorem lk_RL_22 : lkV RL 22 yX6_clear RX6 cX6_clear 2 (some .int) 0 := ⟨wd_502, wd_501, wd_503, wd_504, wd_487, ⟨rfl, by decide +kernel, by decide +kernel, by decide +kernel⟩⟩
theorem wd_505 : Cond.methodLink RL 26 yX6_moss ∈ wsA := mA (tA3 (List.mem_of_getElem? (i := 231) rfl)) rfl
theorem wd_506 : Cond.code yX6_moss cX6_moss 3 (some .int) ∈ wsA := mA (tA3 (List.mem_of_getElem? (i := 234) rfl)) rfl
theorem wd_507 : Cond.instanceMethod yX6_moss ∈ wsA := mA (tA3 (List.mem_of_getElem? (i := 232) rfl)) rfl
theorem wd_508 : Cond.selects RX6 yX6_moss yX6_moss ∈ wsA := mA (tA3 (List.mem_of_getElem? (i := 233) rfl)) rfl
theorem lk_RL_26 : lkV RL 26 yX6_moss RX6 cX6_moss 3 (some .int) 0 := ⟨wd_506, wd_505, wd_507, wd_508, wd_487, ⟨rfl, by decide +kernel, by decide +kernel, by decide +kernel⟩⟩
theorem wd_509 : Cond.methodLink RX6 112 yX6_advances ∈ wsA := mA (tA3 (List.mem_of_getElem? (i := 235) rfl)) rfl
theorem wd_510 : Cond.code yX6_advances cX6_advances 2 none ∈ wsA := mA (tA3 (List.mem_of_getElem? (i := 238) rfl)) rfl
theorem wd_511 : Cond.instanceMethod yX6_advances ∈ wsA := mA (tA3 (List.mem_of_getElem? (i := 237) rfl)) rfl
theorem wd_512 : Cond.selects RX6 yX6_advances yX6_advances ∈ wsA := mA (tS (q := (yX6_advances, 30)) (tP3 (List.mem_of_getElem? (i := 4) rfl))) rfl
theorem lk_RX6_112 : lkV RX6 112 yX6_advances RX6 cX6_advances 2 none 0 := ⟨wd_510, wd_509, wd_511, wd_512, wd_487, ⟨rfl, by decide +kernel, by decide +kernel, by decide +kernel⟩⟩
theorem wd_513 : Cond.methodLink RX6 88 yX6_letterAt ∈ wsA := mA (tA3 (List.mem_of_getElem? (i := 239) rfl)) rfl
theorem wd_514 : Cond.code yX6_letterAt cX6_letterAt 2 (some .int) ∈ wsA := mA (tA4 (List.mem_of_getElem? (i := 2) rfl)) rfl
theorem wd_515 : Cond.instanceMethod yX6_letterAt ∈ wsA := mA (tA4 (List.mem_of_getElem? (i := 1) rfl)) rfl
theorem wd_516 : Cond.selects RX6 yX6_letterAt yX6_letterAt ∈ wsA := mA (tS (q := (yX6_letterAt, 30)) (tP3 (List.mem_of_getElem? (i := 5) rfl))) rfl
theorem lk_RX6_88 : lkV RX6 88 yX6_letterAt RX6 cX6_letterAt 2 (some .int) 1 := ⟨wd_514, wd_513, wd_515, wd_516, wd_487, ⟨rfl, by decide +kernel, by decide +kernel, by decide +kernel⟩⟩
theorem wd_517 : Cond.methodLink RX6 101 yX6_isLetter ∈ wsA := mA (tA4 (List.mem_of_getElem? (i := 3) rfl)) rfl
theorem wd_518 : Cond.code yX6_isLetter cX6_isLetter 1 (some .boolean) ∈ wsA := mA (tA4 (List.mem_of_getElem? (i := 5) rfl)) rfl
theorem wd_519 : Cond.static yX6_isLetter ∈ wsA := mA (tA4 (List.mem_of_getElem? (i := 4) rfl)) rfl
theorem lk_RX6_101 : lkS RX6 101 yX6_isLetter cX6_isLetter 1 (some .boolean) 1 := ⟨wd_518, wd_517, wd_519, wd_487, ⟨by decide +kernel, by decide +kernel, by decide +kernel⟩⟩
theorem wd_520 : Cond.methodLink RX6 108 yX6_isWell ∈ wsA := mA (tA4 (List.mem_of_getElem? (i := 6) rfl)) rfl
theorem wd_521 : Cond.code yX6_isWell cX6_isWell 1 (some .boolean) ∈ wsA := mA (tA4 (List.mem_of_getElem? (i := 9) rfl)) rfl
theorem wd_522 : Cond.instanceMethod yX6_isWell ∈ wsA := mA (tA4 (List.mem_of_getElem? (i := 8) rfl)) rfl
theorem wd_523 : Cond.selects RX6 yX6_isWell yX6_isWell ∈ wsA := mA (tS (q := (yX6_isWell, 30)) (tP3 (List.mem_of_getElem? (i := 6) rfl))) rfl
theorem lk_RX6_108 : lkV RX6 108 yX6_isWell RX6 cX6_isWell 1 (some .boolean) 0 := ⟨wd_521, wd_520, wd_522, wd_523, wd_487, ⟨rfl, by decide +kernel, by decide +kernel, by decide +kernel⟩⟩
theorem wd_524 : Cond.methodLink RX6 132 yX6_mayBegin ∈ wsA := mA (tA4 (List.mem_of_getElem? (i := 10) rfl)) rfl
theorem wd_525 : Cond.code yX6_mayBegin cX6_mayBegin 1 (some .boolean) ∈ wsA := mA (tA4 (List.mem_of_getElem? (i := 13) rfl)) rfl
theorem wd_526 : Cond.instanceMethod yX6_mayBegin ∈ wsA := mA (tA4 (List.mem_of_getElem? (i := 12) rfl)) rfl
theorem wd_527 : Cond.selects RX6 yX6_mayBegin yX6_mayBegin ∈ wsA := mA (tS (q := (yX6_mayBegin, 30)) (tP3 (List.mem_of_getElem? (i := 7) rfl))) rfl
theorem lk_RX6_132 : lkV RX6 132 yX6_mayBegin RX6 cX6_mayBegin 1 (some .boolean) 0 := ⟨wd_525, wd_524, wd_526, wd_527, wd_487, ⟨rfl, by decide +kernel, by decide +kernel, by decide +kernel⟩⟩
theorem wd_528 : Cond.methodLink RX6 115 yX6_takes ∈ wsA := mA (tA4 (List.mem_of_getElem? (i := 14) rfl)) rfl
theorem wd_529 : Cond.code yX6_takes cX6_takes 3 (some .int) ∈ wsA := mA (tA4 (List.mem_of_getElem? (i := 17) rfl)) rfl
theorem wd_530 : Cond.instanceMethod yX6_takes ∈ wsA := mA (tA4 (List.mem_of_getElem? (i := 16) rfl)) rfl
theorem wd_531 : Cond.selects RX6 yX6_takes yX6_takes ∈ wsA := mA (tS (q := (yX6_takes, 30)) (tP3 (List.mem_of_getElem? (i := 8) rfl))) rfl
theorem lk_RX6_115 : lkV RX6 115 yX6_takes RX6 cX6_takes 3 (some .int) 1 := ⟨wd_529, wd_528, wd_530, wd_531, wd_487, ⟨rfl, by decide +kernel, by decide +kernel, by decide +kernel⟩⟩
theorem wd_532 : Cond.methodLink RX6 135 yX6_readsItem ∈ wsA := mA (tA4 (List.mem_of_getElem? (i := 18) rfl)) rfl
theorem wd_533 : Cond.code yX6_readsItem cX6_readsItem 4 none ∈ wsA := mA (tA4 (List.mem_of_getElem? (i := 21) rfl)) rfl
theorem wd_534 : Cond.instanceMethod yX6_readsItem ∈ wsA := mA (tA4 (List.mem_of_getElem? (i := 20) rfl)) rfl
theorem wd_535 : Cond.selects RX6 yX6_readsItem yX6_readsItem ∈ wsA := mA (tS (q := (yX6_readsItem, 30)) (tP3 (List.mem_of_getElem? (i := 9) rfl))) rfl
theorem lk_RX6_135 : lkV RX6 135 yX6_readsItem RX6 cX6_readsItem 4 none 1 := ⟨wd_533, wd_532, wd_534, wd_535, wd_487, ⟨rfl, by decide +kernel, by decide +kernel, by decide +kernel⟩⟩
theorem wd_536 : Cond.methodLink RX6 122 yX6_number ∈ wsA := mA (tA4 (List.mem_of_getElem? (i := 22) rfl)) rfl
theorem wd_537 : Cond.code yX6_number cX6_number 3 (some .int) ∈ wsA := mA (tA4 (List.mem_of_getElem? (i := 25) rfl)) rfl
theorem wd_538 : Cond.instanceMethod yX6_number ∈ wsA := mA (tA4 (List.mem_of_getElem? (i := 24) rfl)) rfl
theorem wd_539 : Cond.selects RX6 yX6_number yX6_number ∈ wsA := mA (tS (q := (yX6_number, 30)) (tP3 (List.mem_of_getElem? (i := 10) rfl))) rfl
theorem lk_RX6_122 : lkV RX6 122 yX6_number RX6 cX6_number 3 (some .int) 2 := ⟨wd_537, wd_536, wd_538, wd_539, wd_487, ⟨rfl, by decide +kernel, by decide +kernel, by decide +kernel⟩⟩
theorem wd_540 : Cond.methodLink RX6 126 yX6_readsPromise ∈ wsA := mA (tA4 (List.mem_of_getElem? (i := 26) rfl)) rfl
theorem wd_541 : Cond.code yX6_readsPromise cX6_readsPromise 4 none ∈ wsA := mA (tA4 (List.mem_of_getElem? (i := 29) rfl)) rfl
theorem wd_542 : Cond.instanceMethod yX6_readsPromise ∈ wsA := mA (tA4 (List.mem_of_getElem? (i := 28) rfl)) rfl
theorem wd_543 : Cond.selects RX6 yX6_readsPromise yX6_readsPromise ∈ wsA := mA (tS (q := (yX6_readsPromise, 30)) (tP3 (List.mem_of_getElem? (i := 11) rfl))) rfl
theorem lk_RX6_126 : lkV RX6 126 yX6_readsPromise RX6 cX6_readsPromise 4 none 0 := ⟨wd_541, wd_540, wd_542, wd_543, wd_487, ⟨rfl, by decide +kernel, by decide +kernel, by decide +kernel⟩⟩
theorem wd_544 : Cond.methodLink RX6 129 yX6_readsClash ∈ wsA := mA (tA4 (List.mem_of_getElem? (i := 30) rfl)) rfl
theorem wd_545 : Cond.code yX6_readsClash cX6_readsClash 4 none ∈ wsA := mA (tA4 (List.mem_of_getElem? (i := 33) rfl)) rfl
theorem wd_546 : Cond.instanceMethod yX6_readsClash ∈ wsA := mA (tA4 (List.mem_of_getElem? (i := 32) rfl)) rfl
theorem wd_547 : Cond.selects RX6 yX6_readsClash yX6_readsClash ∈ wsA := mA (tS (q := (yX6_readsClash, 30)) (tP3 (List.mem_of_getElem? (i := 12) rfl))) rfl
theorem lk_RX6_129 : lkV RX6 129 yX6_readsClash RX6 cX6_readsClash 4 none 0 := ⟨wd_545, wd_544, wd_546, wd_547, wd_487, ⟨rfl, by decide +kernel, by decide +kernel, by decide +kernel⟩⟩
theorem wd_548 : Cond.methodLink RL 31 yX6_person ∈ wsA := mA (tA4 (List.mem_of_getElem? (i := 34) rfl)) rfl
theorem wd_549 : Cond.code yX6_person cX6_person 3 (some .int) ∈ wsA := mA (tA4 (List.mem_of_getElem? (i := 37) rfl)) rfl
theorem wd_550 : Cond.instanceMethod yX6_person ∈ wsA := mA (tA4 (List.mem_of_getElem? (i := 35) rfl)) rfl
theorem wd_551 : Cond.selects RX6 yX6_person yX6_person ∈ wsA := mA (tA4 (List.mem_of_getElem? (i := 36) rfl)) rfl
theorem lk_RL_31 : lkV RL 31 yX6_person RX6 cX6_person 3 (some .int) 2 := ⟨wd_549, wd_548, wd_550, wd_551, wd_487, ⟨rfl, by decide +kernel, by decide +kernel, by decide +kernel⟩⟩
theorem wd_552 : Cond.methodLink RL 35 yX6_promise ∈ wsA := mA (tA4 (List.mem_of_getElem? (i := 38) rfl)) rfl
theorem wd_553 : Cond.code yX6_promise cX6_promise 3 (some .int) ∈ wsA := mA (tA4 (List.mem_of_getElem? (i := 41) rfl)) rfl
theorem wd_554 : Cond.instanceMethod yX6_promise ∈ wsA := mA (tA4 (List.mem_of_getElem? (i := 39) rfl)) rfl
theorem wd_555 : Cond.selects RX6 yX6_promise yX6_promise ∈ wsA := mA (tA4 (List.mem_of_getElem? (i := 40) rfl)) rfl
theorem lk_RL_35 : lkV RL 35 yX6_promise RX6 cX6_promise 3 (some .int) 2 := ⟨wd_553, wd_552, wd_554, wd_555, wd_487, ⟨rfl, by decide +kernel, by decide +kernel, by decide +kernel⟩⟩
theorem wd_556 : Cond.methodLink RX6 148 yX6_isPromise ∈ wsA := mA (tA4 (List.mem_of_getElem? (i := 42) rfl)) rfl
theorem wd_557 : Cond.code yX6_isPromise cX6_isPromise 2 (some .boolean) ∈ wsA := mA (tA4 (List.mem_of_getElem? (i := 45) rfl)) rfl
theorem wd_558 : Cond.instanceMethod yX6_isPromise ∈ wsA := mA (tA4 (List.mem_of_getElem? (i := 44) rfl)) rfl
theorem wd_559 : Cond.selects RX6 yX6_isPromise yX6_isPromise ∈ wsA := mA (tS (q := (yX6_isPromise, 30)) (tP3 (List.mem_of_getElem? (i := 13) rfl))) rfl
theorem lk_RX6_148 : lkV RX6 148 yX6_isPromise RX6 cX6_isPromise 2 (some .boolean) 1 := ⟨wd_557, wd_556, wd_558, wd_559, wd_487, ⟨rfl, by decide +kernel, by decide +kernel, by decide +kernel⟩⟩
theorem wd_560 : Cond.methodLink RL 39 yX6_word ∈ wsA := mA (tA4 (List.mem_of_getElem? (i := 46) rfl)) rfl
theorem wd_561 : Cond.code yX6_word cX6_word 3 (some .int) ∈ wsA := mA (tA4 (List.mem_of_getElem? (i := 49) rfl)) rfl
theorem wd_562 : Cond.instanceMethod yX6_word ∈ wsA := mA (tA4 (List.mem_of_getElem? (i := 47) rfl)) rfl
theorem wd_563 : Cond.selects RX6 yX6_word yX6_word ∈ wsA := mA (tA4 (List.mem_of_getElem? (i := 48) rfl)) rfl
theorem lk_RL_39 : lkV RL 39 yX6_word RX6 cX6_word 3 (some .int) 2 := ⟨wd_561, wd_560, wd_562, wd_563, wd_487, ⟨rfl, by decide +kernel, by decide +kernel, by decide +kernel⟩⟩
theorem wd_564 : Cond.methodLink RX6 151 yX6_leftNow ∈ wsA := mA (tA4 (List.mem_of_getElem? (i := 50) rfl)) rfl
theorem wd_565 : Cond.code yX6_leftNow cX6_leftNow 2 (some .int) ∈ wsA := mA (tA4 (List.mem_of_getElem? (i := 53) rfl)) rfl
theorem wd_566 : Cond.instanceMethod yX6_leftNow ∈ wsA := mA (tA4 (List.mem_of_getElem? (i := 52) rfl)) rfl
theorem wd_567 : Cond.selects RX6 yX6_leftNow yX6_leftNow ∈ wsA := mA (tS (q := (yX6_leftNow, 30)) (tP3 (List.mem_of_getElem? (i := 14) rfl))) rfl
theorem lk_RX6_151 : lkV RX6 151 yX6_leftNow RX6 cX6_leftNow 2 (some .int) 1 := ⟨wd_565, wd_564, wd_566, wd_567, wd_487, ⟨rfl, by decide +kernel, by decide +kernel, by decide +kernel⟩⟩
theorem wd_568 : Cond.methodLink RX6 145 yX6_leftIn ∈ wsA := mA (tA4 (List.mem_of_getElem? (i := 54) rfl)) rfl
theorem wd_569 : Cond.code yX6_leftIn cX6_leftIn 4 (some .int) ∈ wsA := mA (tA4 (List.mem_of_getElem? (i := 57) rfl)) rfl
theorem wd_570 : Cond.instanceMethod yX6_leftIn ∈ wsA := mA (tA4 (List.mem_of_getElem? (i := 56) rfl)) rfl
theorem wd_571 : Cond.selects RX6 yX6_leftIn yX6_leftIn ∈ wsA := mA (tS (q := (yX6_leftIn, 30)) (tP3 (List.mem_of_getElem? (i := 15) rfl))) rfl
theorem lk_RX6_145 : lkV RX6 145 yX6_leftIn RX6 cX6_leftIn 4 (some .int) 2 := ⟨wd_569, wd_568, wd_570, wd_571, wd_487, ⟨rfl, by decide +kernel, by decide +kernel, by decide +kernel⟩⟩
theorem wd_572 : Cond.methodLink RL 43 yX6_cell ∈ wsA := mA (tA4 (List.mem_of_getElem? (i := 58) rfl)) rfl
theorem wd_573 : Cond.code yX6_cell cX6_cell 3 (some .int) ∈ wsA := mA (tA4 (List.mem_of_getElem? (i := 61) rfl)) rfl
theorem wd_574 : Cond.instanceMethod yX6_cell ∈ wsA := mA (tA4 (List.mem_of_getElem? (i := 59) rfl)) rfl
theorem wd_575 : Cond.selects RX6 yX6_cell yX6_cell ∈ wsA := mA (tA4 (List.mem_of_getElem? (i := 60) rfl)) rfl
theorem lk_RL_43 : lkV RL 43 yX6_cell RX6 cX6_cell 3 (some .int) 2 := ⟨wd_573, wd_572, wd_574, wd_575, wd_487, ⟨rfl, by decide +kernel, by decide +kernel, by decide +kernel⟩⟩
theorem wd_576 : Cond.methodLink RX6 161 yX6_isCell ∈ wsA := mA (tA4 (List.mem_of_getElem? (i := 62) rfl)) rfl
theorem wd_577 : Cond.code yX6_isCell cX6_isCell 1 (some .boolean) ∈ wsA := mA (tA4 (List.mem_of_getElem? (i := 64) rfl)) rfl
theorem wd_578 : Cond.static yX6_isCell ∈ wsA := mA (tA4 (List.mem_of_getElem? (i := 63) rfl)) rfl
theorem lk_RX6_161 : lkS RX6 161 yX6_isCell cX6_isCell 1 (some .boolean) 1 := ⟨wd_577, wd_576, wd_578, wd_487, ⟨by decide +kernel, by decide +kernel, by decide +kernel⟩⟩
theorem wd_579 : Cond.methodLink RX6 164 yX6_lyingIn ∈ wsA := mA (tA4 (List.mem_of_getElem? (i := 65) rfl)) rfl
theorem wd_580 : Cond.code yX6_lyingIn cX6_lyingIn 4 (some .int) ∈ wsA := mA (tA4 (List.mem_of_getElem? (i := 68) rfl)) rfl
theorem wd_581 : Cond.instanceMethod yX6_lyingIn ∈ wsA := mA (tA4 (List.mem_of_getElem? (i := 67) rfl)) rfl
theorem wd_582 : Cond.selects RX6 yX6_lyingIn yX6_lyingIn ∈ wsA := mA (tS (q := (yX6_lyingIn, 30)) (tP4 (List.mem_of_getElem? (i := 0) rfl))) rfl
theorem lk_RX6_164 : lkV RX6 164 yX6_lyingIn RX6 cX6_lyingIn 4 (some .int) 1 := ⟨wd_580, wd_579, wd_581, wd_582, wd_487, ⟨rfl, by decide +kernel, by decide +kernel, by decide +kernel⟩⟩
theorem wd_583 : Cond.methodLink RX6 167 yX6_slides ∈ wsA := mA (tA4 (List.mem_of_getElem? (i := 69) rfl)) rfl
theorem wd_584 : Cond.code yX6_slides cX6_slides 3 (some .int) ∈ wsA := mA (tA4 (List.mem_of_getElem? (i := 72) rfl)) rfl
theorem wd_585 : Cond.instanceMethod yX6_slides ∈ wsA := mA (tA4 (List.mem_of_getElem? (i := 71) rfl)) rfl
theorem wd_586 : Cond.selects RX6 yX6_slides yX6_slides ∈ wsA := mA (tS (q := (yX6_slides, 30)) (tP4 (List.mem_of_getElem? (i := 1) rfl))) rfl
theorem lk_RX6_167 : lkV RX6 167 yX6_slides RX6 cX6_slides 3 (some .int) 1 := ⟨wd_584, wd_583, wd_585, wd_586, wd_487, ⟨rfl, by decide +kernel, by decide +kernel, by decide +kernel⟩⟩
theorem wd_587 : Cond.methodLink RX6 154 yX6_wetNow ∈ wsA := mA (tA4 (List.mem_of_getElem? (i := 73) rfl)) rfl
theorem wd_588 : Cond.code yX6_wetNow cX6_wetNow 2 none ∈ wsA := mA (tA4 (List.mem_of_getElem? (i := 76) rfl)) rfl
theorem wd_589 : Cond.instanceMethod yX6_wetNow ∈ wsA := mA (tA4 (List.mem_of_getElem? (i := 75) rfl)) rfl
theorem wd_590 : Cond.selects RX6 yX6_wetNow yX6_wetNow ∈ wsA := mA (tS (q := (yX6_wetNow, 30)) (tP4 (List.mem_of_getElem? (i := 2) rfl))) rfl
theorem lk_RX6_154 : lkV RX6 154 yX6_wetNow RX6 cX6_wetNow 2 none 0 := ⟨wd_588, wd_587, wd_589, wd_590, wd_487, ⟨rfl, by decide +kernel, by decide +kernel, by decide +kernel⟩⟩
theorem wd_591 : Cond.methodLink RX6 157 yX6_slidesOf ∈ wsA := mA (tA4 (List.mem_of_getElem? (i := 77) rfl)) rfl
theorem wd_592 : Cond.code yX6_slidesOf cX6_slidesOf 4 (some .int) ∈ wsA := mA (tA4 (List.mem_of_getElem? (i := 80) rfl)) rfl
theorem wd_593 : Cond.instanceMethod yX6_slidesOf ∈ wsA := mA (tA4 (List.mem_of_getElem? (i := 79) rfl)) rfl
theorem wd_594 : Cond.selects RX6 yX6_slidesOf yX6_slidesOf ∈ wsA := mA (tS (q := (yX6_slidesOf, 30)) (tP4 (List.mem_of_getElem? (i := 3) rfl))) rfl
theorem lk_RX6_157 : lkV RX6 157 yX6_slidesOf RX6 cX6_slidesOf 4 (some .int) 0 := ⟨wd_592, wd_591, wd_593, wd_594, wd_487, ⟨rfl, by decide +kernel, by decide +kernel, by decide +kernel⟩⟩
theorem wd_595 : Cond.methodLink RL 47 yX6_now ∈ wsA := mA (tA4 (List.mem_of_getElem? (i := 81) rfl)) rfl
theorem wd_596 : Cond.code yX6_now cX6_now 2 (some .int) ∈ wsA := mA (tA4 (List.mem_of_getElem? (i := 84) rfl)) rfl
theorem wd_597 : Cond.instanceMethod yX6_now ∈ wsA := mA (tA4 (List.mem_of_getElem? (i := 82) rfl)) rfl
theorem wd_598 : Cond.selects RX6 yX6_now yX6_now ∈ wsA := mA (tA4 (List.mem_of_getElem? (i := 83) rfl)) rfl
theorem lk_RL_47 : lkV RL 47 yX6_now RX6 cX6_now 2 (some .int) 1 := ⟨wd_596, wd_595, wd_597, wd_598, wd_487, ⟨rfl, by decide +kernel, by decide +kernel, by decide +kernel⟩⟩
theorem wd_599 : Cond.methodLink RX6 170 yX6_those ∈ wsA := mA (tA4 (List.mem_of_getElem? (i := 85) rfl)) rfl
theorem wd_600 : Cond.code yX6_those cX6_those 4 (some .int) ∈ wsA := mA (tA4 (List.mem_of_getElem? (i := 88) rfl)) rfl
theorem wd_601 : Cond.instanceMethod yX6_those ∈ wsA := mA (tA4 (List.mem_of_getElem? (i := 87) rfl)) rfl
theorem wd_602 : Cond.selects RX6 yX6_those yX6_those ∈ wsA := mA (tS (q := (yX6_those, 30)) (tP4 (List.mem_of_getElem? (i := 4) rfl))) rfl
theorem lk_RX6_170 : lkV RX6 170 yX6_those RX6 cX6_those 4 (some .int) 1 := ⟨wd_600, wd_599, wd_601, wd_602, wd_487, ⟨rfl, by decide +kernel, by decide +kernel, by decide +kernel⟩⟩
theorem wd_603 : Cond.methodLink RL 51 yX6_cuts ∈ wsA := mA (tA4 (List.mem_of_getElem? (i := 89) rfl)) rfl
theorem wd_604 : Cond.code yX6_cuts cX6_cuts 5 (some .int) ∈ wsA := mA (tA4 (List.mem_of_getElem? (i := 92) rfl)) rfl
theorem wd_605 : Cond.instanceMethod yX6_cuts ∈ wsA := mA (tA4 (List.mem_of_getElem? (i := 90) rfl)) rfl
theorem wd_606 : Cond.selects RX6 yX6_cuts yX6_cuts ∈ wsA := mA (tA4 (List.mem_of_getElem? (i := 91) rfl)) rfl
theorem lk_RL_51 : lkV RL 51 yX6_cuts RX6 cX6_cuts 5 (some .int) 1 := ⟨wd_604, wd_603, wd_605, wd_606, wd_487, ⟨rfl, by decide +kernel, by decide +kernel, by decide +kernel⟩⟩
theorem wd_607 : Cond.methodLink RX6 173 yX6_notes ∈ wsA := mA (tA4 (List.mem_of_getElem? (i := 93) rfl)) rfl
theorem wd_608 : Cond.code yX6_notes cX6_notes 2 none ∈ wsA := mA (tA4 (List.mem_of_getElem? (i := 96) rfl)) rfl
theorem wd_609 : Cond.instanceMethod yX6_notes ∈ wsA := mA (tA4 (List.mem_of_getElem? (i := 95) rfl)) rfl
theorem wd_610 : Cond.selects RX6 yX6_notes yX6_notes ∈ wsA := mA (tS (q := (yX6_notes, 30)) (tP4 (List.mem_of_getElem? (i := 5) rfl))) rfl
theorem lk_RX6_173 : lkV RX6 173 yX6_notes RX6 cX6_notes 2 none 0 := ⟨wd_608, wd_607, wd_609, wd_610, wd_487, ⟨rfl, by decide +kernel, by decide +kernel, by decide +kernel⟩⟩
theorem wd_611 : Cond.methodLink RL 55 yX6_drains ∈ wsA := mA (tA4 (List.mem_of_getElem? (i := 97) rfl)) rfl
theorem wd_612 : Cond.code yX6_drains cX6_drains 4 (some .int) ∈ wsA := mA (tA4 (List.mem_of_getElem? (i := 100) rfl)) rfl
theorem wd_613 : Cond.instanceMethod yX6_drains ∈ wsA := mA (tA4 (List.mem_of_getElem? (i := 98) rfl)) rfl
theorem wd_614 : Cond.selects RX6 yX6_drains yX6_drains ∈ wsA := mA (tA4 (List.mem_of_getElem? (i := 99) rfl)) rfl
theorem lk_RL_55 : lkV RL 55 yX6_drains RX6 cX6_drains 4 (some .int) 1 := ⟨wd_612, wd_611, wd_613, wd_614, wd_487, ⟨rfl, by decide +kernel, by decide +kernel, by decide +kernel⟩⟩
theorem wd_615 : Cond.methodLink RL 59 yX6_does ∈ wsA := mA (tA4 (List.mem_of_getElem? (i := 101) rfl)) rfl
theorem wd_616 : Cond.code yX6_does cX6_does 2 (some .int) ∈ wsA := mA (tA4 (List.mem_of_getElem? (i := 104) rfl)) rfl
theorem wd_617 : Cond.instanceMethod yX6_does ∈ wsA := mA (tA4 (List.mem_of_getElem? (i := 102) rfl)) rfl
theorem wd_618 : Cond.selects RX6 yX6_does yX6_does ∈ wsA := mA (tA4 (List.mem_of_getElem? (i := 103) rfl)) rfl
theorem lk_RL_59 : lkV RL 59 yX6_does RX6 cX6_does 2 (some .int) 1 := ⟨wd_616, wd_615, wd_617, wd_618, wd_487, ⟨rfl, by decide +kernel, by decide +kernel, by decide +kernel⟩⟩
theorem wd_619 : Cond.methodLink RX6 176 yX6_ones ∈ wsA := mA (tA4 (List.mem_of_getElem? (i := 105) rfl)) rfl
theorem wd_620 : Cond.code yX6_ones cX6_ones 3 (some .int) ∈ wsA := mA (tA4 (List.mem_of_getElem? (i := 107) rfl)) rfl
theorem wd_621 : Cond.static yX6_ones ∈ wsA := mA (tA4 (List.mem_of_getElem? (i := 106) rfl)) rfl
theorem lk_RX6_176 : lkS RX6 176 yX6_ones cX6_ones 3 (some .int) 1 := ⟨wd_620, wd_619, wd_621, wd_487, ⟨by decide +kernel, by decide +kernel, by decide +kernel⟩⟩
theorem wd_622 : Cond.methodLink RL 63 yX6_year ∈ wsA := mA (tA4 (List.mem_of_getElem? (i := 108) rfl)) rfl
theorem wd_623 : Cond.code yX6_year cX6_year 5 (some .int) ∈ wsA := mA (tA4 (List.mem_of_getElem? (i := 111) rfl)) rfl
theorem wd_624 : Cond.instanceMethod yX6_year ∈ wsA := mA (tA4 (List.mem_of_getElem? (i := 109) rfl)) rfl
theorem wd_625 : Cond.selects RX6 yX6_year yX6_year ∈ wsA := mA (tA4 (List.mem_of_getElem? (i := 110) rfl)) rfl
theorem lk_RL_63 : lkV RL 63 yX6_year RX6 cX6_year 5 (some .int) 0 := ⟨wd_623, wd_622, wd_624, wd_625, wd_487, ⟨rfl, by decide +kernel, by decide +kernel, by decide +kernel⟩⟩
theorem wd_626 : Cond.methodLink RL 67 yX6_undo ∈ wsA := mA (tA4 (List.mem_of_getElem? (i := 112) rfl)) rfl
theorem wd_627 : Cond.code yX6_undo cX6_undo 2 (some .int) ∈ wsA := mA (tA4 (List.mem_of_getElem? (i := 115) rfl)) rfl
theorem wd_628 : Cond.instanceMethod yX6_undo ∈ wsA := mA (tA4 (List.mem_of_getElem? (i := 113) rfl)) rfl
theorem wd_629 : Cond.selects RX6 yX6_undo yX6_undo ∈ wsA := mA (tA4 (List.mem_of_getElem? (i := 114) rfl)) rfl
theorem lk_RL_67 : lkV RL 67 yX6_undo RX6 cX6_undo 2 (some .int) 0 := ⟨wd_627, wd_626, wd_628, wd_629, wd_487, ⟨rfl, by decide +kernel, by decide +kernel, by decide +kernel⟩⟩
theorem wd_630 : Cond.methodLink RL 71 yX6_left ∈ wsA := mA (tA4 (List.mem_of_getElem? (i := 116) rfl)) rfl
theorem wd_631 : Cond.code yX6_left cX6_left 3 (some .int) ∈ wsA := mA (tA4 (List.mem_of_getElem? (i := 119) rfl)) rfl
theorem wd_632 : Cond.instanceMethod yX6_left ∈ wsA := mA (tA4 (List.mem_of_getElem? (i := 117) rfl)) rfl
theorem wd_633 : Cond.selects RX6 yX6_left yX6_left ∈ wsA := mA (tA4 (List.mem_of_getElem? (i := 118) rfl)) rfl
theorem lk_RL_71 : lkV RL 71 yX6_left RX6 cX6_left 3 (some .int) 2 := ⟨wd_631, wd_630, wd_632, wd_633, wd_487, ⟨rfl, by decide +kernel, by decide +kernel, by decide +kernel⟩⟩
theorem wd_634 : Cond.methodLink RL 76 yX6_lasts ∈ wsA := mA (tA4 (List.mem_of_getElem? (i := 120) rfl)) rfl
theorem wd_635 : Cond.code yX6_lasts cX6_lasts 7 (some .int) ∈ wsA := mA (tA4 (List.mem_of_getElem? (i := 123) rfl)) rfl
theorem wd_636 : Cond.instanceMethod yX6_lasts ∈ wsA := mA (tA4 (List.mem_of_getElem? (i := 121) rfl)) rfl
theorem wd_637 : Cond.selects RX6 yX6_lasts yX6_lasts ∈ wsA := mA (tA4 (List.mem_of_getElem? (i := 122) rfl)) rfl
theorem lk_RL_76 : lkV RL 76 yX6_lasts RX6 cX6_lasts 7 (some .int) 3 := ⟨wd_635, wd_634, wd_636, wd_637, wd_487, ⟨rfl, by decide +kernel, by decide +kernel, by decide +kernel⟩⟩
theorem wd_638 : Cond.methodLink RL 80 yX6_duty ∈ wsA := mA (tA4 (List.mem_of_getElem? (i := 124) rfl)) rfl
theorem wd_639 : Cond.code yX6_duty cX6_duty 4 (some .int) ∈ wsA := mA (tA4 (List.mem_of_getElem? (i := 127) rfl)) rfl
theorem wd_640 : Cond.instanceMethod yX6_duty ∈ wsA := mA (tA4 (List.mem_of_getElem? (i := 125) rfl)) rfl
theorem wd_641 : Cond.selects RX6 yX6_duty yX6_duty ∈ wsA := mA (tA4 (List.mem_of_getElem? (i := 126) rfl)) rfl
theorem lk_RL_80 : lkV RL 80 yX6_duty RX6 cX6_duty 4 (some .int) 2 := ⟨wd_639, wd_638, wd_640, wd_641, wd_487, ⟨rfl, by decide +kernel, by decide +kernel, by decide +kernel⟩⟩
theorem wd_642 : Cond.methodLink RL 84 yX6_sees ∈ wsA := mA (tA4 (List.mem_of_getElem? (i := 128) rfl)) rfl
theorem wd_643 : Cond.code yX6_sees cX6_sees 2 (some .int) ∈ wsA := mA (tA4 (List.mem_of_getElem? (i := 131) rfl)) rfl
theorem wd_644 : Cond.instanceMethod yX6_sees ∈ wsA := mA (tA4 (List.mem_of_getElem? (i := 129) rfl)) rfl
theorem wd_645 : Cond.selects RX6 yX6_sees yX6_sees ∈ wsA := mA (tA4 (List.mem_of_getElem? (i := 130) rfl)) rfl
theorem lk_RL_84 : lkV RL 84 yX6_sees RX6 cX6_sees 2 (some .int) 1 := ⟨wd_643, wd_642, wd_644, wd_645, wd_487, ⟨rfl, by decide +kernel, by decide +kernel, by decide +kernel⟩⟩
theorem wd_646 : Cond.methodLink RL 88 yX6_forget ∈ wsA := mA (tA4 (List.mem_of_getElem? (i := 132) rfl)) rfl
theorem wd_647 : Cond.code yX6_forget cX6_forget 2 (some .int) ∈ wsA := mA (tA4 (List.mem_of_getElem? (i := 135) rfl)) rfl
theorem wd_648 : Cond.instanceMethod yX6_forget ∈ wsA := mA (tA4 (List.mem_of_getElem? (i := 133) rfl)) rfl
theorem wd_649 : Cond.selects RX6 yX6_forget yX6_forget ∈ wsA := mA (tA4 (List.mem_of_getElem? (i := 134) rfl)) rfl
theorem lk_RL_88 : lkV RL 88 yX6_forget RX6 cX6_forget 2 (some .int) 0 := ⟨wd_647, wd_646, wd_648, wd_649, wd_487, ⟨rfl, by decide +kernel, by decide +kernel, by decide +kernel⟩⟩
theorem wd_650 : Cond.methodLink RL 92 yX6_fits ∈ wsA := mA (tA4 (List.mem_of_getElem? (i := 136) rfl)) rfl
theorem wd_651 : Cond.code yX6_fits cX6_fits 3 (some .int) ∈ wsA := mA (tA4 (List.mem_of_getElem? (i := 139) rfl)) rfl
theorem wd_652 : Cond.instanceMethod yX6_fits ∈ wsA := mA (tA4 (List.mem_of_getElem? (i := 137) rfl)) rfl
theorem wd_653 : Cond.selects RX6 yX6_fits yX6_fits ∈ wsA := mA (tA4 (List.mem_of_getElem? (i := 138) rfl)) rfl
theorem lk_RL_92 : lkV RL 92 yX6_fits RX6 cX6_fits 3 (some .int) 0 := ⟨wd_651, wd_650, wd_652, wd_653, wd_487, ⟨rfl, by decide +kernel, by decide +kernel, by decide +kernel⟩⟩
theorem wd_654 : Cond.methodLink RX6 179 yX6_canBe ∈ wsA := mA (tA4 (List.mem_of_getElem? (i := 140) rfl)) rfl
theorem wd_655 : Cond.code yX6_canBe cX6_canBe 4 (some .boolean) ∈ wsA := mA (tA4 (List.mem_of_getElem? (i := 143) rfl)) rfl
theorem wd_656 : Cond.instanceMethod yX6_canBe ∈ wsA := mA (tA4 (List.mem_of_getElem? (i := 142) rfl)) rfl
theorem wd_657 : Cond.selects RX6 yX6_canBe yX6_canBe ∈ wsA := mA (tS (q := (yX6_canBe, 30)) (tP4 (List.mem_of_getElem? (i := 6) rfl))) rfl
theorem lk_RX6_179 : lkV RX6 179 yX6_canBe RX6 cX6_canBe 4 (some .boolean) 1 := ⟨wd_655, wd_654, wd_656, wd_657, wd_487, ⟨rfl, by decide +kernel, by decide +kernel, by decide +kernel⟩⟩
theorem wd_658 : Cond.methodLink RL 96 yX6_likely ∈ wsA := mA (tA4 (List.mem_of_getElem? (i := 144) rfl)) rfl
theorem wd_659 : Cond.code yX6_likely cX6_likely 4 (some .int) ∈ wsA := mA (tA4 (List.mem_of_getElem? (i := 147) rfl)) rfl
theorem wd_660 : Cond.instanceMethod yX6_likely ∈ wsA := mA (tA4 (List.mem_of_getElem? (i := 145) rfl)) rfl
theorem wd_661 : Cond.selects RX6 yX6_likely yX6_likely ∈ wsA := mA (tA4 (List.mem_of_getElem? (i := 146) rfl)) rfl
theorem lk_RL_96 : lkV RL 96 yX6_likely RX6 cX6_likely 4 (some .int) 0 := ⟨wd_659, wd_658, wd_660, wd_661, wd_487, ⟨rfl, by decide +kernel, by decide +kernel, by decide +kernel⟩⟩
theorem wd_662 : Cond.methodLink RL 100 yX6_kept ∈ wsA := mA (tA4 (List.mem_of_getElem? (i := 148) rfl)) rfl
theorem wd_663 : Cond.code yX6_kept cX6_kept 4 (some .int) ∈ wsA := mA (tA4 (List.mem_of_getElem? (i := 151) rfl)) rfl
theorem wd_664 : Cond.instanceMethod yX6_kept ∈ wsA := mA (tA4 (List.mem_of_getElem? (i := 149) rfl)) rfl
theorem wd_665 : Cond.selects RX6 yX6_kept yX6_kept ∈ wsA := mA (tA4 (List.mem_of_getElem? (i := 150) rfl)) rfl
theorem lk_RL_100 : lkV RL 100 yX6_kept RX6 cX6_kept 4 (some .int) 1 := ⟨wd_663, wd_662, wd_664, wd_665, wd_487, ⟨rfl, by decide +kernel, by decide +kernel, by decide +kernel⟩⟩
theorem wd_666 : Cond.methodLink RX6 182 yX6_wordsOf ∈ wsA := mA (tA4 (List.mem_of_getElem? (i := 152) rfl)) rfl
theorem wd_667 : Cond.code yX6_wordsOf cX6_wordsOf 4 (some .int) ∈ wsA := mA (tA4 (List.mem_of_getElem? (i := 155) rfl)) rfl
theorem wd_668 : Cond.instanceMethod yX6_wordsOf ∈ wsA := mA (tA4 (List.mem_of_getElem? (i := 154) rfl)) rfl
theorem wd_669 : Cond.selects RX6 yX6_wordsOf yX6_wordsOf ∈ wsA := mA (tS (q := (yX6_wordsOf, 30)) (tP4 (List.mem_of_getElem? (i := 7) rfl))) rfl
theorem lk_RX6_182 : lkV RX6 182 yX6_wordsOf RX6 cX6_wordsOf 4 (some .int) 1 := ⟨wd_667, wd_666, wd_668, wd_669, wd_487, ⟨rfl, by decide +kernel, by decide +kernel, by decide +kernel⟩⟩
theorem wd_670 : Cond.methodLink RX6 185 yX6_agree ∈ wsA := mA (tA4 (List.mem_of_getElem? (i := 156) rfl)) rfl
theorem wd_671 : Cond.code yX6_agree cX6_agree 4 (some .boolean) ∈ wsA := mA (tA4 (List.mem_of_getElem? (i := 159) rfl)) rfl
theorem wd_672 : Cond.instanceMethod yX6_agree ∈ wsA := mA (tA4 (List.mem_of_getElem? (i := 158) rfl)) rfl
theorem wd_673 : Cond.selects RX6 yX6_agree yX6_agree ∈ wsA := mA (tS (q := (yX6_agree, 30)) (tP4 (List.mem_of_getElem? (i := 8) rfl))) rfl
theorem lk_RX6_185 : lkV RX6 185 yX6_agree RX6 cX6_agree 4 (some .boolean) 1 := ⟨wd_671, wd_670, wd_672, wd_673, wd_487, ⟨rfl, by decide +kernel, by decide +kernel, by decide +kernel⟩⟩
theorem wd_674 : Cond.methodLink RL 104 yX6_order ∈ wsA := mA (tA4 (List.mem_of_getElem? (i := 160) rfl)) rfl
theorem wd_675 : Cond.code yX6_order cX6_order 5 (some .int) ∈ wsA := mA (tA4 (List.mem_of_getElem? (i := 163) rfl)) rfl
theorem wd_676 : Cond.instanceMethod yX6_order ∈ wsA := mA (tA4 (List.mem_of_getElem? (i := 161) rfl)) rfl
theorem wd_677 : Cond.selects RX6 yX6_order yX6_order ∈ wsA := mA (tA4 (List.mem_of_getElem? (i := 162) rfl)) rfl
theorem lk_RL_104 : lkV RL 104 yX6_order RX6 cX6_order 5 (some .int) 1 := ⟨wd_675, wd_674, wd_676, wd_677, wd_487, ⟨rfl, by decide +kernel, by decide +kernel, by decide +kernel⟩⟩
theorem wd_678 : Cond.methodLink RX6 191 yX6_canOrder ∈ wsA := mA (tA4 (List.mem_of_getElem? (i := 164) rfl)) rfl
theorem wd_679 : Cond.code yX6_canOrder cX6_canOrder 6 (some .boolean) ∈ wsA := mA (tA4 (List.mem_of_getElem? (i := 167) rfl)) rfl
theorem wd_680 : Cond.instanceMethod yX6_canOrder ∈ wsA := mA (tA4 (List.mem_of_getElem? (i := 166) rfl)) rfl
theorem wd_681 : Cond.selects RX6 yX6_canOrder yX6_canOrder ∈ wsA := mA (tS (q := (yX6_canOrder, 30)) (tP4 (List.mem_of_getElem? (i := 9) rfl))) rfl
theorem lk_RX6_191 : lkV RX6 191 yX6_canOrder RX6 cX6_canOrder 6 (some .boolean) 1 := ⟨wd_679, wd_678, wd_680, wd_681, wd_487, ⟨rfl, by decide +kernel, by decide +kernel, by decide +kernel⟩⟩
theorem wd_682 : Cond.methodLink RX6 188 yX6_soonest ∈ wsA := mA (tA4 (List.mem_of_getElem? (i := 168) rfl)) rfl
theorem wd_683 : Cond.code yX6_soonest cX6_soonest 4 (some .int) ∈ wsA := mA (tA4 (List.mem_of_getElem? (i := 171) rfl)) rfl
theorem wd_684 : Cond.instanceMethod yX6_soonest ∈ wsA := mA (tA4 (List.mem_of_getElem? (i := 170) rfl)) rfl
theorem wd_685 : Cond.selects RX6 yX6_soonest yX6_soonest ∈ wsA := mA (tS (q := (yX6_soonest, 30)) (tP4 (List.mem_of_getElem? (i := 10) rfl))) rfl
theorem lk_RX6_188 : lkV RX6 188 yX6_soonest RX6 cX6_soonest 4 (some .int) 1 := ⟨wd_683, wd_682, wd_684, wd_685, wd_487, ⟨rfl, by decide +kernel, by decide +kernel, by decide +kernel⟩⟩
theorem wd_686 : Cond.methodLink RL 108 yX6_drain ∈ wsA := mA (tA4 (List.mem_of_getElem? (i := 172) rfl)) rfl
theorem wd_687 : Cond.code yX6_drain cX6_drain 4 (some .int) ∈ wsA := mA (tA4 (List.mem_of_getElem? (i := 175) rfl)) rfl
theorem wd_688 : Cond.instanceMethod yX6_drain ∈ wsA := mA (tA4 (List.mem_of_getElem? (i := 173) rfl)) rfl
theorem wd_689 : Cond.selects RX6 yX6_drain yX6_drain ∈ wsA := mA (tA4 (List.mem_of_getElem? (i := 174) rfl)) rfl
theorem lk_RL_108 : lkV RL 108 yX6_drain RX6 cX6_drain 4 (some .int) 1 := ⟨wd_687, wd_686, wd_688, wd_689, wd_487, ⟨rfl, by decide +kernel, by decide +kernel, by decide +kernel⟩⟩
theorem wd_690 : Cond.methodLink RX6 194 yX6_staysFor ∈ wsA := mA (tA4 (List.mem_of_getElem? (i := 176) rfl)) rfl
theorem wd_691 : Cond.code yX6_staysFor cX6_staysFor 5 (some .boolean) ∈ wsA := mA (tA4 (List.mem_of_getElem? (i := 179) rfl)) rfl
theorem wd_692 : Cond.instanceMethod yX6_staysFor ∈ wsA := mA (tA4 (List.mem_of_getElem? (i := 178) rfl)) rfl
theorem wd_693 : Cond.selects RX6 yX6_staysFor yX6_staysFor ∈ wsA := mA (tS (q := (yX6_staysFor, 30)) (tP4 (List.mem_of_getElem? (i := 11) rfl))) rfl
theorem lk_RX6_194 : lkV RX6 194 yX6_staysFor RX6 cX6_staysFor 5 (some .boolean) 2 := ⟨wd_691, wd_690, wd_692, wd_693, wd_487, ⟨rfl, by decide +kernel, by decide +kernel, by decide +kernel⟩⟩
theorem wd_694 : Cond.methodLink RL 113 yX6_odds ∈ wsA := mA (tA4 (List.mem_of_getElem? (i := 180) rfl)) rfl
theorem wd_695 : Cond.code yX6_odds cX6_odds 8 (some .int) ∈ wsA := mA (tA4 (List.mem_of_getElem? (i := 183) rfl)) rfl
theorem wd_696 : Cond.instanceMethod yX6_odds ∈ wsA := mA (tA4 (List.mem_of_getElem? (i := 181) rfl)) rfl
theorem wd_697 : Cond.selects RX6 yX6_odds yX6_odds ∈ wsA := mA (tA4 (List.mem_of_getElem? (i := 182) rfl)) rfl
theorem lk_RL_113 : lkV RL 113 yX6_odds RX6 cX6_odds 8 (some .int) 4 := ⟨wd_695, wd_694, wd_696, wd_697, wd_487, ⟨rfl, by decide +kernel, by decide +kernel, by decide +kernel⟩⟩
theorem wd_698 : Cond.methodLink RX6 198 yX6_power ∈ wsA := mA (tA4 (List.mem_of_getElem? (i := 184) rfl)) rfl
theorem wd_699 : Cond.code yX6_power cX6_power 4 (some .int) ∈ wsA := mA (tA4 (List.mem_of_getElem? (i := 186) rfl)) rfl
theorem wd_700 : Cond.static yX6_power ∈ wsA := mA (tA4 (List.mem_of_getElem? (i := 185) rfl)) rfl
theorem lk_RX6_198 : lkS RX6 198 yX6_power cX6_power 4 (some .int) 2 := ⟨wd_699, wd_698, wd_700, wd_487, ⟨by decide +kernel, by decide +kernel, by decide +kernel⟩⟩
theorem wd_701 : Cond.methodLink RX6 201 yX6_gcd ∈ wsA := mA (tA4 (List.mem_of_getElem? (i := 187) rfl)) rfl
theorem wd_702 : Cond.code yX6_gcd cX6_gcd 5 (some .int) ∈ wsA := mA (tA4 (List.mem_of_getElem? (i := 189) rfl)) rfl
theorem wd_703 : Cond.static yX6_gcd ∈ wsA := mA (tA4 (List.mem_of_getElem? (i := 188) rfl)) rfl
theorem lk_RX6_201 : lkS RX6 201 yX6_gcd cX6_gcd 5 (some .int) 2 := ⟨wd_702, wd_701, wd_703, wd_487, ⟨by decide +kernel, by decide +kernel, by decide +kernel⟩⟩
theorem wd_704 : Cond.methodLink RL 117 yX6_rate ∈ wsA := mA (tA4 (List.mem_of_getElem? (i := 190) rfl)) rfl
theorem wd_705 : Cond.code yX6_rate cX6_rate 6 (some .int) ∈ wsA := mA (tA4 (List.mem_of_getElem? (i := 193) rfl)) rfl
theorem wd_706 : Cond.instanceMethod yX6_rate ∈ wsA := mA (tA4 (List.mem_of_getElem? (i := 191) rfl)) rfl
theorem wd_707 : Cond.selects RX6 yX6_rate yX6_rate ∈ wsA := mA (tA4 (List.mem_of_getElem? (i := 192) rfl)) rfl
theorem lk_RL_117 : lkV RL 117 yX6_rate RX6 cX6_rate 6 (some .int) 2 := ⟨wd_705, wd_704, wd_706, wd_707, wd_487, ⟨rfl, by decide +kernel, by decide +kernel, by decide +kernel⟩⟩
theorem wd_708 : Cond.methodLink RL 121 yX6_keep ∈ wsA := mA (tA4 (List.mem_of_getElem? (i := 200) rfl)) rfl
theorem wd_709 : Cond.code yX6_keep cX6_keep 3 (some .int) ∈ wsA := mA (tA4 (List.mem_of_getElem? (i := 203) rfl)) rfl
theorem wd_710 : Cond.instanceMethod yX6_keep ∈ wsA := mA (tA4 (List.mem_of_getElem? (i := 201) rfl)) rfl
theorem wd_711 : Cond.selects RX6 yX6_keep yX6_keep ∈ wsA := mA (tA4 (List.mem_of_getElem? (i := 202) rfl)) rfl
theorem lk_RL_121 : lkV RL 121 yX6_keep RX6 cX6_keep 3 (some .int) 1 := ⟨wd_709, wd_708, wd_710, wd_711, wd_487, ⟨rfl, by decide +kernel, by decide +kernel, by decide +kernel⟩⟩
theorem wd_712 : Cond.methodLink RL 125 yX6_back ∈ wsA := mA (tA4 (List.mem_of_getElem? (i := 204) rfl)) rfl
theorem wd_713 : Cond.code yX6_back cX6_back 3 (some .int) ∈ wsA := mA (tA4 (List.mem_of_getElem? (i := 207) rfl)) rfl
theorem wd_714 : Cond.instanceMethod yX6_back ∈ wsA := mA (tA4 (List.mem_of_getElem? (i := 205) rfl)) rfl
theorem wd_715 : Cond.selects RX6 yX6_back yX6_back ∈ wsA := mA (tA4 (List.mem_of_getElem? (i := 206) rfl)) rfl
theorem lk_RL_125 : lkV RL 125 yX6_back RX6 cX6_back 3 (some .int) 1 := ⟨wd_713, wd_712, wd_714, wd_715, wd_487, ⟨rfl, by decide +kernel, by decide +kernel, by decide +kernel⟩⟩
theorem wd_716 : Cond.methodLink RL 129 yX6_count ∈ wsA := mA (tA4 (List.mem_of_getElem? (i := 208) rfl)) rfl
theorem wd_717 : Cond.code yX6_count cX6_count 2 (some .int) ∈ wsA := mA (tA4 (List.mem_of_getElem? (i := 211) rfl)) rfl
theorem wd_718 : Cond.instanceMethod yX6_count ∈ wsA := mA (tA4 (List.mem_of_getElem? (i := 209) rfl)) rfl
theorem wd_719 : Cond.selects RX6 yX6_count yX6_count ∈ wsA := mA (tA4 (List.mem_of_getElem? (i := 210) rfl)) rfl
theorem lk_RL_129 : lkV RL 129 yX6_count RX6 cX6_count 2 (some .int) 1 := ⟨wd_717, wd_716, wd_718, wd_719, wd_487, ⟨rfl, by decide +kernel, by decide +kernel, by decide +kernel⟩⟩
theorem wd_720 : Cond.methodLink RL 134 yX6_trace ∈ wsA := mA (tA4 (List.mem_of_getElem? (i := 212) rfl)) rfl
theorem wd_721 : Cond.code yX6_trace cX6_trace 1 (some .long) ∈ wsA := mA (tA4 (List.mem_of_getElem? (i := 215) rfl)) rfl
theorem wd_722 : Cond.instanceMethod yX6_trace ∈ wsA := mA (tA4 (List.mem_of_getElem? (i := 213) rfl)) rfl
theorem wd_723 : Cond.selects RX6 yX6_trace yX6_trace ∈ wsA := mA (tA4 (List.mem_of_getElem? (i := 214) rfl)) rfl
theorem lk_RL_134 : lkV RL 134 yX6_trace RX6 cX6_trace 1 (some .long) 0 := ⟨wd_721, wd_720, wd_722, wd_723, wd_487, ⟨rfl, by decide +kernel, by decide +kernel, by decide +kernel⟩⟩
theorem wd_724 : Cond.native arraycopyName ∈ wsA := mA (tA2 (List.mem_of_getElem? (i := 78) rfl)) rfl
theorem wd_725 : Cond.static arraycopyName ∈ wsA := mA (tA2 (List.mem_of_getElem? (i := 77) rfl)) rfl
theorem wd_726 : Cond.initialized "java/lang/System" ∈ wsA := mA (tA1 (List.mem_of_getElem? (i := 9) rfl)) rfl
theorem wd_727 : Cond.methodLink RX4 55 arraycopyName ∈ wsA := mA (tA2 (List.mem_of_getElem? (i := 76) rfl)) rfl
theorem wd_728 : Cond.methodLink RX0 31 arraycopyName ∈ wsA := mA (tA2 (List.mem_of_getElem? (i := 181) rfl)) rfl
end
section
theorem dX6_init_0 : decode cX6_init 0 = .ok (.aload_n 0, 1) := by decide +kernel
theorem dX6_init_1 : decode cX6_init 1 = .ok (.invokespecial 1, 3) := by decide +kernel
theorem dX6_init_4 : decode cX6_init 4 = .ok (.aload_n 0, 1) := by decide +kernel
theorem dX6_init_5 : decode cX6_init 5 = .ok (.sipush 200, 3) := by decide +kernel
theorem dX6_init_8 : decode cX6_init 8 = .ok (.newarray .int, 2) := by decide +kernel
theorem dX6_init_10 : decode cX6_init 10 = .ok (.putfield 7, 3) := by decide +kernel
theorem dX6_init_13 : decode cX6_init 13 = .ok (.aload_n 0, 1) := by decide +kernel
theorem dX6_init_14 : decode cX6_init 14 = .ok (.bipush 8, 2) := by decide +kernel
theorem dX6_init_16 : decode cX6_init 16 = .ok (.newarray .int, 2) := by decide +kernel
theorem dX6_init_18 : decode cX6_init 18 = .ok (.putfield 13, 3) := by decide +kernel
theorem dX6_init_21 : decode cX6_init 21 = .ok (.aload_n 0, 1) := by decide +kernel
theorem dX6_init_22 : decode cX6_init 22 = .ok (.bipush 12, 2) := by decide +kernel
theorem dX6_init_24 : decode cX6_init 24 = .ok (.newarray .int, 2) := by decide +kernel
theorem dX6_init_26 : decode cX6_init 26 = .ok (.putfield 16, 3) := by decide +kernel
theorem dX6_init_29 : decode cX6_init 29 = .ok (.aload_n 0, 1) := by decide +kernel
theorem dX6_init_30 : decode cX6_init 30 = .ok (.bipush 12, 2) := by decide +kernel
theorem dX6_init_32 : decode cX6_init 32 = .ok (.newarray .int, 2) := by decide +kernel
theorem dX6_init_34 : decode cX6_init 34 = .ok (.putfield 19, 3) := by decide +kernel
theorem dX6_init_37 : decode cX6_init 37 = .ok (.aload_n 0, 1) := by decide +kernel
theorem dX6_init_38 : decode cX6_init 38 = .ok (.bipush 16, 2) := by decide +kernel
theorem dX6_init_40 : decode cX6_init 40 = .ok (.newarray .int, 2) := by decide +kernel
theorem dX6_init_42 : decode cX6_init 42 = .ok (.putfield 22, 3) := by decide +kernel
theorem dX6_init_45 : decode cX6_init 45 = .ok (.aload_n 0, 1) := by decide +kernel
theorem dX6_init_46 : decode cX6_init 46 = .ok (.bipush 16, 2) := by decide +kernel
theorem dX6_init_48 : decode cX6_init 48 = .ok (.newarray .int, 2) := by decide +kernel
theorem dX6_init_50 : decode cX6_init 50 = .ok (.putfield 25, 3) := by decide +kernel
theorem dX6_init_53 : decode cX6_init 53 = .ok (.aload_n 0, 1) := by decide +kernel
theorem dX6_init_54 : decode cX6_init 54 = .ok (.bipush 16, 2) := by decide +kernel
theorem dX6_init_56 : decode cX6_init 56 = .ok (.newarray .int, 2) := by decide +kernel
theorem dX6_init_58 : decode cX6_init 58 = .ok (.putfield 28, 3) := by decide +kernel
theorem dX6_init_61 : decode cX6_init 61 = .ok (.aload_n 0, 1) := by decide +kernel
theorem dX6_init_62 : decode cX6_init 62 = .ok (.bipush 16, 2) := by decide +kernel
theorem dX6_init_64 : decode cX6_init 64 = .ok (.newarray .int, 2) := by decide +kernel
theorem dX6_init_66 : decode cX6_init 66 = .ok (.putfield 31, 3) := by decide +kernel
theorem dX6_init_69 : decode cX6_init 69 = .ok (.aload_n 0, 1) := by decide +kernel
theorem dX6_init_70 : decode cX6_init 70 = .ok (.bipush 16, 2) := by decide +kernel
theorem dX6_init_72 : decode cX6_init 72 = .ok (.newarray .int, 2) := by decide +kernel
theorem dX6_init_74 : decode cX6_init 74 = .ok (.putfield 34, 3) := by decide +kernel
theorem dX6_init_77 : decode cX6_init 77 = .ok (.aload_n 0, 1) := by decide +kernel
theorem dX6_init_78 : decode cX6_init 78 = .ok (.bipush 16, 2) := by decide +kernel
theorem dX6_init_80 : decode cX6_init 80 = .ok (.newarray .int, 2) := by decide +kernel
theorem dX6_init_82 : decode cX6_init 82 = .ok (.putfield 37, 3) := by decide +kernel
theorem dX6_init_85 : decode cX6_init 85 = .ok (.aload_n 0, 1) := by decide +kernel
theorem dX6_init_86 : decode cX6_init 86 = .ok (.bipush 64, 2) := by decide +kernel
theorem dX6_init_88 : decode cX6_init 88 = .ok (.newarray .int, 2) := by decide +kernel
theorem dX6_init_90 : decode cX6_init 90 = .ok (.putfield 40, 3) := by decide +kernel
theorem dX6_init_93 : decode cX6_init 93 = .ok (.aload_n 0, 1) := by decide +kernel
theorem dX6_init_94 : decode cX6_init 94 = .ok (.bipush 16, 2) := by decide +kernel
theorem dX6_init_96 : decode cX6_init 96 = .ok (.newarray .int, 2) := by decide +kernel
theorem dX6_init_98 : decode cX6_init 98 = .ok (.putfield 43, 3) := by decide +kernel
theorem dX6_init_101 : decode cX6_init 101 = .ok (.aload_n 0, 1) := by decide +kernel
theorem dX6_init_102 : decode cX6_init 102 = .ok (.bipush 37, 2) := by decide +kernel
theorem dX6_init_104 : decode cX6_init 104 = .ok (.newarray .int, 2) := by decide +kernel
theorem dX6_init_106 : decode cX6_init 106 = .ok (.putfield 46, 3) := by decide +kernel
theorem dX6_init_109 : decode cX6_init 109 = .ok (.aload_n 0, 1) := by decide +kernel
theorem dX6_init_110 : decode cX6_init 110 = .ok (.bipush 74, 2) := by decide +kernel
theorem dX6_init_112 : decode cX6_init 112 = .ok (.newarray .int, 2) := by decide +kernel
theorem dX6_init_114 : decode cX6_init 114 = .ok (.putfield 49, 3) := by decide +kernel
theorem dX6_init_117 : decode cX6_init 117 = .ok (.aload_n 0, 1) := by decide +kernel
theorem dX6_init_118 : decode cX6_init 118 = .ok (.iconst 2, 1) := by decide +kernel
theorem dX6_init_119 : decode cX6_init 119 = .ok (.newarray .boolean, 2) := by decide +kernel
theorem dX6_init_121 : decode cX6_init 121 = .ok (.putfield 52, 3) := by decide +kernel
theorem dX6_init_124 : decode cX6_init 124 = .ok (.aload_n 0, 1) := by decide +kernel
theorem dX6_init_125 : decode cX6_init 125 = .ok (.sipush 370, 3) := by decide +kernel
theorem dX6_init_128 : decode cX6_init 128 = .ok (.newarray .int, 2) := by decide +kernel
theorem dX6_init_130 : decode cX6_init 130 = .ok (.putfield 56, 3) := by decide +kernel
theorem dX6_init_133 : decode cX6_init 133 = .ok (.aload_n 0, 1) := by decide +kernel
theorem dX6_init_134 : decode cX6_init 134 = .ok (.iconst 4, 1) := by decide +kernel
theorem dX6_init_135 : decode cX6_init 135 = .ok (.newarray .int, 2) := by decide +kernel
theorem dX6_init_137 : decode cX6_init 137 = .ok (.putfield 59, 3) := by decide +kernel
theorem dX6_init_140 : decode cX6_init 140 = .ok (.aload_n 0, 1) := by decide +kernel
theorem dX6_init_141 : decode cX6_init 141 = .ok (.bipush 6, 2) := by decide +kernel
theorem dX6_init_143 : decode cX6_init 143 = .ok (.newarray .int, 2) := by decide +kernel
theorem dX6_init_145 : decode cX6_init 145 = .ok (.putfield 62, 3) := by decide +kernel
theorem dX6_init_148 : decode cX6_init 148 = .ok (.aload_n 0, 1) := by decide +kernel
theorem dX6_init_149 : decode cX6_init 149 = .ok (.bipush 10, 2) := by decide +kernel
theorem dX6_init_151 : decode cX6_init 151 = .ok (.newarray .int, 2) := by decide +kernel
theorem dX6_init_153 : decode cX6_init 153 = .ok (.putfield 65, 3) := by decide +kernel
theorem dX6_init_156 : decode cX6_init 156 = .ok (.aload_n 0, 1) := by decide +kernel
theorem dX6_init_157 : decode cX6_init 157 = .ok (.invokevirtual 68, 3) := by decide +kernel
theorem dX6_init_160 : decode cX6_init 160 = .ok (.aload_n 0, 1) := by decide +kernel
theorem dX6_init_161 : decode cX6_init 161 = .ok (.invokevirtual 71, 3) := by decide +kernel
theorem dX6_init_164 : decode cX6_init 164 = .ok (.return_, 1) := by decide +kernel
theorem dX6_in_0 : decode cX6_in 0 = .ok (.iload_n 0, 1) := by decide +kernel
theorem dX6_in_1 : decode cX6_in 1 = .ok (.iload_n 1, 1) := by decide +kernel
theorem dX6_in_2 : decode cX6_in 2 = .ok (.if_icmp .lt 12, 3) := by decide +kernel
theorem dX6_in_5 : decode cX6_in 5 = .ok (.iload_n 0, 1) := by decide +kernel
theorem dX6_in_6 : decode cX6_in 6 = .ok (.iload_n 2, 1) := by decide +kernel
theorem dX6_in_7 : decode cX6_in 7 = .ok (.if_icmp .gt 7, 3) := by decide +kernel
theorem dX6_in_10 : decode cX6_in 10 = .ok (.iconst 1, 1) := by decide +kernel
theorem dX6_in_11 : decode cX6_in 11 = .ok (.goto 4, 3) := by decide +kernel
theorem dX6_in_14 : decode cX6_in 14 = .ok (.iconst 0, 1) := by decide +kernel
theorem dX6_in_15 : decode cX6_in 15 = .ok (.ireturn, 1) := by decide +kernel
theorem dX6_ones_0 : decode cX6_ones 0 = .ok (.iconst 0, 1) := by decide +kernel
theorem dX6_ones_1 : decode cX6_ones 1 = .ok (.istore_n 1, 1) := by decide +kernel
theorem dX6_ones_2 : decode cX6_ones 2 = .ok (.iconst 0, 1) := by decide +kernel
theorem dX6_ones_3 : decode cX6_ones 3 = .ok (.istore_n 2, 1) := by decide +kernel
theorem dX6_ones_4 : decode cX6_ones 4 = .ok (.iload_n 2, 1) := by decide +kernel
theorem dX6_ones_5 : decode cX6_ones 5 = .ok (.bipush 8, 2) := by decide +kernel
theorem dX6_ones_7 : decode cX6_ones 7 = .ok (.if_icmp .ge 17, 3) := by decide +kernel
theorem dX6_ones_10 : decode cX6_ones 10 = .ok (.iload_n 1, 1) := by decide +kernel
theorem dX6_ones_11 : decode cX6_ones 11 = .ok (.iload_n 0, 1) := by decide +kernel
theorem dX6_ones_12 : decode cX6_ones 12 = .ok (.iload_n 2, 1) := by decide +kernel
theorem dX6_ones_13 : decode cX6_ones 13 = .ok (.ishr, 1) := by decide +kernel
theorem dX6_ones_14 : decode cX6_ones 14 = .ok (.iconst 1, 1) := by decide +kernel
theorem dX6_ones_15 : decode cX6_ones 15 = .ok (.iand, 1) := by decide +kernel
theorem dX6_ones_16 : decode cX6_ones 16 = .ok (.iadd, 1) := by decide +kernel
theorem dX6_ones_17 : decode cX6_ones 17 = .ok (.istore_n 1, 1) := by decide +kernel
theorem dX6_ones_18 : decode cX6_ones 18 = .ok (.iinc 2 1, 3) := by decide +kernel
theorem dX6_ones_21 : decode cX6_ones 21 = .ok (.goto (-17), 3) := by decide +kernel
theorem dX6_ones_24 : decode cX6_ones 24 = .ok (.iload_n 1, 1) := by decide +kernel
theorem dX6_ones_25 : decode cX6_ones 25 = .ok (.ireturn, 1) := by decide +kernel
theorem dX6_type_0 : decode cX6_type 0 = .ok (.aload_n 0, 1) := by decide +kernel
theorem dX6_type_1 : decode cX6_type 1 = .ok (.iconst 0, 1) := by decide +kernel
theorem dX6_type_2 : decode cX6_type 2 = .ok (.putfield 74, 3) := by decide +kernel
theorem dX6_type_5 : decode cX6_type 5 = .ok (.iload_n 1, 1) := by decide +kernel
theorem dX6_type_6 : decode cX6_type 6 = .ok (.iconst 0, 1) := by decide +kernel
theorem dX6_type_7 : decode cX6_type 7 = .ok (.sipush 255, 3) := by decide +kernel
theorem dX6_type_10 : decode cX6_type 10 = .ok (.invokestatic 78, 3) := by decide +kernel
theorem dX6_type_13 : decode cX6_type 13 = .ok (.ifCond .ne 5, 3) := by decide +kernel
theorem dX6_type_16 : decode cX6_type 16 = .ok (.iconst (-1), 1) := by decide +kernel
theorem dX6_type_17 : decode cX6_type 17 = .ok (.ireturn, 1) := by decide +kernel
theorem dX6_type_18 : decode cX6_type 18 = .ok (.aload_n 0, 1) := by decide +kernel
theorem dX6_type_19 : decode cX6_type 19 = .ok (.getfield 82, 3) := by decide +kernel
theorem dX6_type_22 : decode cX6_type 22 = .ok (.sipush 200, 3) := by decide +kernel
theorem dX6_type_25 : decode cX6_type 25 = .ok (.if_icmp .ne 6, 3) := by decide +kernel
theorem dX6_type_28 : decode cX6_type 28 = .ok (.bipush (-3), 2) := by decide +kernel
theorem dX6_type_30 : decode cX6_type 30 = .ok (.ireturn, 1) := by decide +kernel
theorem dX6_type_31 : decode cX6_type 31 = .ok (.aload_n 0, 1) := by decide +kernel
theorem dX6_type_32 : decode cX6_type 32 = .ok (.getfield 7, 3) := by decide +kernel
theorem dX6_type_35 : decode cX6_type 35 = .ok (.aload_n 0, 1) := by decide +kernel
theorem dX6_type_36 : decode cX6_type 36 = .ok (.getfield 82, 3) := by decide +kernel
theorem dX6_type_39 : decode cX6_type 39 = .ok (.iload_n 1, 1) := by decide +kernel
theorem dX6_type_40 : decode cX6_type 40 = .ok (.iastore, 1) := by decide +kernel
theorem dX6_type_41 : decode cX6_type 41 = .ok (.aload_n 0, 1) := by decide +kernel
theorem dX6_type_42 : decode cX6_type 42 = .ok (.dup, 1) := by decide +kernel
theorem dX6_type_43 : decode cX6_type 43 = .ok (.getfield 82, 3) := by decide +kernel
theorem dX6_type_46 : decode cX6_type 46 = .ok (.iconst 1, 1) := by decide +kernel
theorem dX6_type_47 : decode cX6_type 47 = .ok (.iadd, 1) := by decide +kernel
theorem dX6_type_48 : decode cX6_type 48 = .ok (.putfield 82, 3) := by decide +kernel
theorem dX6_type_51 : decode cX6_type 51 = .ok (.aload_n 0, 1) := by decide +kernel
theorem dX6_type_52 : decode cX6_type 52 = .ok (.getfield 82, 3) := by decide +kernel
theorem dX6_type_55 : decode cX6_type 55 = .ok (.ireturn, 1) := by decide +kernel
theorem dX6_clear_0 : decode cX6_clear 0 = .ok (.aload_n 0, 1) := by decide +kernel
theorem dX6_clear_1 : decode cX6_clear 1 = .ok (.iconst 0, 1) := by decide +kernel
theorem dX6_clear_2 : decode cX6_clear 2 = .ok (.putfield 74, 3) := by decide +kernel
theorem dX6_clear_5 : decode cX6_clear 5 = .ok (.aload_n 0, 1) := by decide +kernel
theorem dX6_clear_6 : decode cX6_clear 6 = .ok (.getfield 82, 3) := by decide +kernel
theorem dX6_clear_9 : decode cX6_clear 9 = .ok (.istore_n 1, 1) := by decide +kernel
theorem dX6_clear_10 : decode cX6_clear 10 = .ok (.aload_n 0, 1) := by decide +kernel
theorem dX6_clear_11 : decode cX6_clear 11 = .ok (.iconst 0, 1) := by decide +kernel
theorem dX6_clear_12 : decode cX6_clear 12 = .ok (.putfield 82, 3) := by decide +kernel
theorem dX6_clear_15 : decode cX6_clear 15 = .ok (.iload_n 1, 1) := by decide +kernel
theorem dX6_clear_16 : decode cX6_clear 16 = .ok (.ireturn, 1) := by decide +kernel
theorem dX6_letterAt_0 : decode cX6_letterAt 0 = .ok (.iload_n 1, 1) := by decide +kernel
theorem dX6_letterAt_1 : decode cX6_letterAt 1 = .ok (.aload_n 0, 1) := by decide +kernel
theorem dX6_letterAt_2 : decode cX6_letterAt 2 = .ok (.getfield 82, 3) := by decide +kernel
theorem dX6_letterAt_5 : decode cX6_letterAt 5 = .ok (.if_icmp .ge 12, 3) := by decide +kernel
theorem dX6_letterAt_8 : decode cX6_letterAt 8 = .ok (.aload_n 0, 1) := by decide +kernel
theorem dX6_letterAt_9 : decode cX6_letterAt 9 = .ok (.getfield 7, 3) := by decide +kernel
theorem dX6_letterAt_12 : decode cX6_letterAt 12 = .ok (.iload_n 1, 1) := by decide +kernel
theorem dX6_letterAt_13 : decode cX6_letterAt 13 = .ok (.iaload, 1) := by decide +kernel
theorem dX6_letterAt_14 : decode cX6_letterAt 14 = .ok (.goto 4, 3) := by decide +kernel
theorem dX6_letterAt_17 : decode cX6_letterAt 17 = .ok (.iconst (-1), 1) := by decide +kernel
theorem dX6_letterAt_18 : decode cX6_letterAt 18 = .ok (.ireturn, 1) := by decide +kernel
theorem dX6_isLetter_0 : decode cX6_isLetter 0 = .ok (.iload_n 0, 1) := by decide +kernel
theorem dX6_isLetter_1 : decode cX6_isLetter 1 = .ok (.bipush 112, 2) := by decide +kernel
theorem dX6_isLetter_3 : decode cX6_isLetter 3 = .ok (.if_icmp .eq 27, 3) := by decide +kernel
theorem dX6_isLetter_6 : decode cX6_isLetter 6 = .ok (.iload_n 0, 1) := by decide +kernel
theorem dX6_isLetter_7 : decode cX6_isLetter 7 = .ok (.bipush 109, 2) := by decide +kernel
theorem dX6_isLetter_9 : decode cX6_isLetter 9 = .ok (.if_icmp .eq 21, 3) := by decide +kernel
theorem dX6_isLetter_12 : decode cX6_isLetter 12 = .ok (.iload_n 0, 1) := by decide +kernel
theorem dX6_isLetter_13 : decode cX6_isLetter 13 = .ok (.bipush 120, 2) := by decide +kernel
theorem dX6_isLetter_15 : decode cX6_isLetter 15 = .ok (.if_icmp .eq 15, 3) := by decide +kernel
theorem dX6_isLetter_18 : decode cX6_isLetter 18 = .ok (.iload_n 0, 1) := by decide +kernel
theorem dX6_isLetter_19 : decode cX6_isLetter 19 = .ok (.bipush 97, 2) := by decide +kernel
theorem dX6_isLetter_21 : decode cX6_isLetter 21 = .ok (.if_icmp .eq 9, 3) := by decide +kernel
theorem dX6_isLetter_24 : decode cX6_isLetter 24 = .ok (.iload_n 0, 1) := by decide +kernel
theorem dX6_isLetter_25 : decode cX6_isLetter 25 = .ok (.bipush 115, 2) := by decide +kernel
theorem dX6_isLetter_27 : decode cX6_isLetter 27 = .ok (.if_icmp .ne 7, 3) := by decide +kernel
theorem dX6_isLetter_30 : decode cX6_isLetter 30 = .ok (.iconst 1, 1) := by decide +kernel
theorem dX6_isLetter_31 : decode cX6_isLetter 31 = .ok (.goto 4, 3) := by decide +kernel
theorem dX6_isLetter_34 : decode cX6_isLetter 34 = .ok (.iconst 0, 1) := by decide +kernel
theorem dX6_isLetter_35 : decode cX6_isLetter 35 = .ok (.ireturn, 1) := by decide +kernel
theorem dX6_advances_0 : decode cX6_advances 0 = .ok (.aload_n 0, 1) := by decide +kernel
theorem dX6_advances_1 : decode cX6_advances 1 = .ok (.aload_n 0, 1) := by decide +kernel
theorem dX6_advances_2 : decode cX6_advances 2 = .ok (.getfield 85, 3) := by decide +kernel
theorem dX6_advances_5 : decode cX6_advances 5 = .ok (.invokevirtual 88, 3) := by decide +kernel
theorem dX6_advances_8 : decode cX6_advances 8 = .ok (.bipush 32, 2) := by decide +kernel
theorem dX6_advances_10 : decode cX6_advances 10 = .ok (.if_icmp .ne 16, 3) := by decide +kernel
theorem dX6_advances_13 : decode cX6_advances 13 = .ok (.aload_n 0, 1) := by decide +kernel
theorem dX6_advances_14 : decode cX6_advances 14 = .ok (.dup, 1) := by decide +kernel
theorem dX6_advances_15 : decode cX6_advances 15 = .ok (.getfield 85, 3) := by decide +kernel
theorem dX6_advances_18 : decode cX6_advances 18 = .ok (.iconst 1, 1) := by decide +kernel
theorem dX6_advances_19 : decode cX6_advances 19 = .ok (.iadd, 1) := by decide +kernel
theorem dX6_advances_20 : decode cX6_advances 20 = .ok (.putfield 85, 3) := by decide +kernel
theorem dX6_advances_23 : decode cX6_advances 23 = .ok (.goto (-23), 3) := by decide +kernel
theorem dX6_advances_26 : decode cX6_advances 26 = .ok (.aload_n 0, 1) := by decide +kernel
theorem dX6_advances_27 : decode cX6_advances 27 = .ok (.aload_n 0, 1) := by decide +kernel
theorem dX6_advances_28 : decode cX6_advances 28 = .ok (.getfield 85, 3) := by decide +kernel
theorem dX6_advances_31 : decode cX6_advances 31 = .ok (.putfield 92, 3) := by decide +kernel
theorem dX6_advances_34 : decode cX6_advances 34 = .ok (.aload_n 0, 1) := by decide +kernel
theorem dX6_advances_35 : decode cX6_advances 35 = .ok (.aload_n 0, 1) := by decide +kernel
theorem dX6_advances_36 : decode cX6_advances 36 = .ok (.getfield 85, 3) := by decide +kernel
theorem dX6_advances_39 : decode cX6_advances 39 = .ok (.invokevirtual 88, 3) := by decide +kernel
theorem dX6_advances_42 : decode cX6_advances 42 = .ok (.istore_n 1, 1) := by decide +kernel
theorem dX6_advances_43 : decode cX6_advances 43 = .ok (.iload_n 1, 1) := by decide +kernel
theorem dX6_advances_44 : decode cX6_advances 44 = .ok (.ifCond .ge 11, 3) := by decide +kernel
theorem dX6_advances_47 : decode cX6_advances 47 = .ok (.aload_n 0, 1) := by decide +kernel
theorem dX6_advances_48 : decode cX6_advances 48 = .ok (.iconst 0, 1) := by decide +kernel
theorem dX6_advances_49 : decode cX6_advances 49 = .ok (.putfield 95, 3) := by decide +kernel
theorem dX6_advances_52 : decode cX6_advances 52 = .ok (.goto 170, 3) := by decide +kernel
theorem dX6_advances_55 : decode cX6_advances 55 = .ok (.iload_n 1, 1) := by decide +kernel
theorem dX6_advances_56 : decode cX6_advances 56 = .ok (.bipush 48, 2) := by decide +kernel
theorem dX6_advances_58 : decode cX6_advances 58 = .ok (.bipush 57, 2) := by decide +kernel
theorem dX6_advances_60 : decode cX6_advances 60 = .ok (.invokestatic 78, 3) := by decide +kernel
theorem dX6_advances_63 : decode cX6_advances 63 = .ok (.ifCond .eq 118, 3) := by decide +kernel
theorem dX6_advances_66 : decode cX6_advances 66 = .ok (.aload_n 0, 1) := by decide +kernel
theorem dX6_advances_67 : decode cX6_advances 67 = .ok (.iconst 0, 1) := by decide +kernel
theorem dX6_advances_68 : decode cX6_advances 68 = .ok (.putfield 98, 3) := by decide +kernel
theorem dX6_advances_71 : decode cX6_advances 71 = .ok (.aload_n 0, 1) := by decide +kernel
theorem dX6_advances_72 : decode cX6_advances 72 = .ok (.aload_n 0, 1) := by decide +kernel
theorem dX6_advances_73 : decode cX6_advances 73 = .ok (.getfield 85, 3) := by decide +kernel
theorem dX6_advances_76 : decode cX6_advances 76 = .ok (.invokevirtual 88, 3) := by decide +kernel
theorem dX6_advances_79 : decode cX6_advances 79 = .ok (.bipush 48, 2) := by decide +kernel
theorem dX6_advances_81 : decode cX6_advances 81 = .ok (.bipush 57, 2) := by decide +kernel
theorem dX6_advances_83 : decode cX6_advances 83 = .ok (.invokestatic 78, 3) := by decide +kernel
theorem dX6_advances_86 : decode cX6_advances 86 = .ok (.ifCond .eq 55, 3) := by decide +kernel
theorem dX6_advances_89 : decode cX6_advances 89 = .ok (.aload_n 0, 1) := by decide +kernel
theorem dX6_advances_90 : decode cX6_advances 90 = .ok (.aload_n 0, 1) := by decide +kernel
theorem dX6_advances_91 : decode cX6_advances 91 = .ok (.getfield 98, 3) := by decide +kernel
theorem dX6_advances_94 : decode cX6_advances 94 = .ok (.bipush 99, 2) := by decide +kernel
theorem dX6_advances_96 : decode cX6_advances 96 = .ok (.if_icmp .le 10, 3) := by decide +kernel
theorem dX6_advances_99 : decode cX6_advances 99 = .ok (.aload_n 0, 1) := by decide +kernel
theorem dX6_advances_100 : decode cX6_advances 100 = .ok (.getfield 98, 3) := by decide +kernel
theorem dX6_advances_103 : decode cX6_advances 103 = .ok (.goto 22, 3) := by decide +kernel
theorem dX6_advances_106 : decode cX6_advances 106 = .ok (.bipush 10, 2) := by decide +kernel
theorem dX6_advances_108 : decode cX6_advances 108 = .ok (.aload_n 0, 1) := by decide +kernel
theorem dX6_advances_109 : decode cX6_advances 109 = .ok (.getfield 98, 3) := by decide +kernel
theorem dX6_advances_112 : decode cX6_advances 112 = .ok (.imul, 1) := by decide +kernel
theorem dX6_advances_113 : decode cX6_advances 113 = .ok (.aload_n 0, 1) := by decide +kernel
theorem dX6_advances_114 : decode cX6_advances 114 = .ok (.aload_n 0, 1) := by decide +kernel
theorem dX6_advances_115 : decode cX6_advances 115 = .ok (.getfield 85, 3) := by decide +kernel
theorem dX6_advances_118 : decode cX6_advances 118 = .ok (.invokevirtual 88, 3) := by decide +kernel
theorem dX6_advances_121 : decode cX6_advances 121 = .ok (.iadd, 1) := by decide +kernel
theorem dX6_advances_122 : decode cX6_advances 122 = .ok (.bipush 48, 2) := by decide +kernel
theorem dX6_advances_124 : decode cX6_advances 124 = .ok (.isub, 1) := by decide +kernel
theorem dX6_advances_125 : decode cX6_advances 125 = .ok (.putfield 98, 3) := by decide +kernel
theorem dX6_advances_128 : decode cX6_advances 128 = .ok (.aload_n 0, 1) := by decide +kernel
theorem dX6_advances_129 : decode cX6_advances 129 = .ok (.dup, 1) := by decide +kernel
theorem dX6_advances_130 : decode cX6_advances 130 = .ok (.getfield 85, 3) := by decide +kernel
theorem dX6_advances_133 : decode cX6_advances 133 = .ok (.iconst 1, 1) := by decide +kernel
theorem dX6_advances_134 : decode cX6_advances 134 = .ok (.iadd, 1) := by decide +kernel
theorem dX6_advances_135 : decode cX6_advances 135 = .ok (.putfield 85, 3) := by decide +kernel
theorem dX6_advances_138 : decode cX6_advances 138 = .ok (.goto (-67), 3) := by decide +kernel
theorem dX6_advances_141 : decode cX6_advances 141 = .ok (.aload_n 0, 1) := by decide +kernel
theorem dX6_advances_142 : decode cX6_advances 142 = .ok (.aload_n 0, 1) := by decide +kernel
theorem dX6_advances_143 : decode cX6_advances 143 = .ok (.getfield 98, 3) := by decide +kernel
theorem dX6_advances_146 : decode cX6_advances 146 = .ok (.bipush 99, 2) := by decide +kernel
theorem dX6_advances_148 : decode cX6_advances 148 = .ok (.if_icmp .gt 22, 3) := by decide +kernel
theorem dX6_advances_151 : decode cX6_advances 151 = .ok (.iload_n 1, 1) := by decide +kernel
theorem dX6_advances_152 : decode cX6_advances 152 = .ok (.bipush 48, 2) := by decide +kernel
theorem dX6_advances_154 : decode cX6_advances 154 = .ok (.if_icmp .ne 20, 3) := by decide +kernel
theorem dX6_advances_157 : decode cX6_advances 157 = .ok (.aload_n 0, 1) := by decide +kernel
theorem dX6_advances_158 : decode cX6_advances 158 = .ok (.getfield 85, 3) := by decide +kernel
theorem dX6_advances_161 : decode cX6_advances 161 = .ok (.aload_n 0, 1) := by decide +kernel
theorem dX6_advances_162 : decode cX6_advances 162 = .ok (.getfield 92, 3) := by decide +kernel
theorem dX6_advances_165 : decode cX6_advances 165 = .ok (.isub, 1) := by decide +kernel
theorem dX6_advances_166 : decode cX6_advances 166 = .ok (.iconst 1, 1) := by decide +kernel
theorem dX6_advances_167 : decode cX6_advances 167 = .ok (.if_icmp .le 7, 3) := by decide +kernel
theorem dX6_advances_170 : decode cX6_advances 170 = .ok (.iconst 4, 1) := by decide +kernel
theorem dX6_advances_171 : decode cX6_advances 171 = .ok (.goto 4, 3) := by decide +kernel
theorem dX6_advances_174 : decode cX6_advances 174 = .ok (.iconst 2, 1) := by decide +kernel
theorem dX6_advances_175 : decode cX6_advances 175 = .ok (.putfield 95, 3) := by decide +kernel
theorem dX6_advances_178 : decode cX6_advances 178 = .ok (.goto 44, 3) := by decide +kernel
theorem dX6_advances_181 : decode cX6_advances 181 = .ok (.aload_n 0, 1) := by decide +kernel
theorem dX6_advances_182 : decode cX6_advances 182 = .ok (.dup, 1) := by decide +kernel
theorem dX6_advances_183 : decode cX6_advances 183 = .ok (.getfield 85, 3) := by decide +kernel
theorem dX6_advances_186 : decode cX6_advances 186 = .ok (.iconst 1, 1) := by decide +kernel
theorem dX6_advances_187 : decode cX6_advances 187 = .ok (.iadd, 1) := by decide +kernel
theorem dX6_advances_188 : decode cX6_advances 188 = .ok (.putfield 85, 3) := by decide +kernel
theorem dX6_advances_191 : decode cX6_advances 191 = .ok (.aload_n 0, 1) := by decide +kernel
theorem dX6_advances_192 : decode cX6_advances 192 = .ok (.iload_n 1, 1) := by decide +kernel
theorem dX6_advances_193 : decode cX6_advances 193 = .ok (.putfield 98, 3) := by decide +kernel
theorem dX6_advances_196 : decode cX6_advances 196 = .ok (.aload_n 0, 1) := by decide +kernel
theorem dX6_advances_197 : decode cX6_advances 197 = .ok (.iload_n 1, 1) := by decide +kernel
theorem dX6_advances_198 : decode cX6_advances 198 = .ok (.bipush 59, 2) := by decide +kernel
theorem dX6_advances_200 : decode cX6_advances 200 = .ok (.if_icmp .ne 7, 3) := by decide +kernel
theorem dX6_advances_203 : decode cX6_advances 203 = .ok (.iconst 3, 1) := by decide +kernel
theorem dX6_advances_204 : decode cX6_advances 204 = .ok (.goto 15, 3) := by decide +kernel
theorem dX6_advances_207 : decode cX6_advances 207 = .ok (.iload_n 1, 1) := by decide +kernel
theorem dX6_advances_208 : decode cX6_advances 208 = .ok (.invokestatic 101, 3) := by decide +kernel
theorem dX6_advances_211 : decode cX6_advances 211 = .ok (.ifCond .eq 7, 3) := by decide +kernel
theorem dX6_advances_214 : decode cX6_advances 214 = .ok (.iconst 1, 1) := by decide +kernel
theorem dX6_advances_215 : decode cX6_advances 215 = .ok (.goto 4, 3) := by decide +kernel
theorem dX6_advances_218 : decode cX6_advances 218 = .ok (.iconst 4, 1) := by decide +kernel
theorem dX6_advances_219 : decode cX6_advances 219 = .ok (.putfield 95, 3) := by decide +kernel
theorem dX6_advances_222 : decode cX6_advances 222 = .ok (.return_, 1) := by decide +kernel
theorem dX6_isWell_0 : decode cX6_isWell 0 = .ok (.aload_n 0, 1) := by decide +kernel
theorem dX6_isWell_1 : decode cX6_isWell 1 = .ok (.getfield 105, 3) := by decide +kernel
theorem dX6_isWell_4 : decode cX6_isWell 4 = .ok (.ifCond .ge 7, 3) := by decide +kernel
theorem dX6_isWell_7 : decode cX6_isWell 7 = .ok (.iconst 1, 1) := by decide +kernel
theorem dX6_isWell_8 : decode cX6_isWell 8 = .ok (.goto 4, 3) := by decide +kernel
theorem dX6_isWell_11 : decode cX6_isWell 11 = .ok (.iconst 0, 1) := by decide +kernel
theorem dX6_isWell_12 : decode cX6_isWell 12 = .ok (.ireturn, 1) := by decide +kernel
theorem dX6_takes_0 : decode cX6_takes 0 = .ok (.aload_n 0, 1) := by decide +kernel
theorem dX6_takes_1 : decode cX6_takes 1 = .ok (.invokevirtual 108, 3) := by decide +kernel
theorem dX6_takes_4 : decode cX6_takes 4 = .ok (.ifCond .ne 5, 3) := by decide +kernel
theorem dX6_takes_7 : decode cX6_takes 7 = .ok (.iconst 0, 1) := by decide +kernel
theorem dX6_takes_8 : decode cX6_takes 8 = .ok (.ireturn, 1) := by decide +kernel
theorem dX6_takes_9 : decode cX6_takes 9 = .ok (.iload_n 1, 1) := by decide +kernel
theorem dX6_takes_10 : decode cX6_takes 10 = .ok (.ifCond .ne 13, 3) := by decide +kernel
theorem dX6_takes_13 : decode cX6_takes 13 = .ok (.aload_n 0, 1) := by decide +kernel
theorem dX6_takes_14 : decode cX6_takes 14 = .ok (.aload_n 0, 1) := by decide +kernel
theorem dX6_takes_15 : decode cX6_takes 15 = .ok (.getfield 92, 3) := by decide +kernel
theorem dX6_takes_18 : decode cX6_takes 18 = .ok (.putfield 105, 3) := by decide +kernel
theorem dX6_takes_21 : decode cX6_takes 21 = .ok (.iconst 0, 1) := by decide +kernel
theorem dX6_takes_22 : decode cX6_takes 22 = .ok (.ireturn, 1) := by decide +kernel
theorem dX6_takes_23 : decode cX6_takes 23 = .ok (.aload_n 0, 1) := by decide +kernel
theorem dX6_takes_24 : decode cX6_takes 24 = .ok (.getfield 98, 3) := by decide +kernel
theorem dX6_takes_27 : decode cX6_takes 27 = .ok (.istore_n 2, 1) := by decide +kernel
theorem dX6_takes_28 : decode cX6_takes 28 = .ok (.aload_n 0, 1) := by decide +kernel
theorem dX6_takes_29 : decode cX6_takes 29 = .ok (.invokevirtual 112, 3) := by decide +kernel
theorem dX6_takes_32 : decode cX6_takes 32 = .ok (.iload_n 2, 1) := by decide +kernel
theorem dX6_takes_33 : decode cX6_takes 33 = .ok (.ireturn, 1) := by decide +kernel
theorem dX6_number_0 : decode cX6_number 0 = .ok (.aload_n 0, 1) := by decide +kernel
theorem dX6_number_1 : decode cX6_number 1 = .ok (.aload_n 0, 1) := by decide +kernel
theorem dX6_number_2 : decode cX6_number 2 = .ok (.getfield 95, 3) := by decide +kernel
theorem dX6_number_5 : decode cX6_number 5 = .ok (.iconst 2, 1) := by decide +kernel
theorem dX6_number_6 : decode cX6_number 6 = .ok (.if_icmp .ne 19, 3) := by decide +kernel
theorem dX6_number_9 : decode cX6_number 9 = .ok (.aload_n 0, 1) := by decide +kernel
theorem dX6_number_10 : decode cX6_number 10 = .ok (.getfield 98, 3) := by decide +kernel
theorem dX6_number_13 : decode cX6_number 13 = .ok (.iload_n 1, 1) := by decide +kernel
theorem dX6_number_14 : decode cX6_number 14 = .ok (.iload_n 2, 1) := by decide +kernel
theorem dX6_number_15 : decode cX6_number 15 = .ok (.invokestatic 78, 3) := by decide +kernel
theorem dX6_number_18 : decode cX6_number 18 = .ok (.ifCond .eq 7, 3) := by decide +kernel
theorem dX6_number_21 : decode cX6_number 21 = .ok (.iconst 1, 1) := by decide +kernel
theorem dX6_number_22 : decode cX6_number 22 = .ok (.goto 4, 3) := by decide +kernel
theorem dX6_number_25 : decode cX6_number 25 = .ok (.iconst 0, 1) := by decide +kernel
theorem dX6_number_26 : decode cX6_number 26 = .ok (.invokevirtual 115, 3) := by decide +kernel
theorem dX6_number_29 : decode cX6_number 29 = .ok (.ireturn, 1) := by decide +kernel
theorem dX6_begins_0 : decode cX6_begins 0 = .ok (.aload_n 0, 1) := by decide +kernel
theorem dX6_begins_1 : decode cX6_begins 1 = .ok (.iconst 0, 1) := by decide +kernel
theorem dX6_begins_2 : decode cX6_begins 2 = .ok (.putfield 119, 3) := by decide +kernel
theorem dX6_begins_5 : decode cX6_begins 5 = .ok (.aload_n 0, 1) := by decide +kernel
theorem dX6_begins_6 : decode cX6_begins 6 = .ok (.getfield 13, 3) := by decide +kernel
theorem dX6_begins_9 : decode cX6_begins 9 = .ok (.iconst 4, 1) := by decide +kernel
theorem dX6_begins_10 : decode cX6_begins 10 = .ok (.iconst 0, 1) := by decide +kernel
theorem dX6_begins_11 : decode cX6_begins 11 = .ok (.iastore, 1) := by decide +kernel
theorem dX6_begins_12 : decode cX6_begins 12 = .ok (.aload_n 0, 1) := by decide +kernel
theorem dX6_begins_13 : decode cX6_begins 13 = .ok (.getfield 13, 3) := by decide +kernel
theorem dX6_begins_16 : decode cX6_begins 16 = .ok (.iconst 5, 1) := by decide +kernel
theorem dX6_begins_17 : decode cX6_begins 17 = .ok (.iconst 0, 1) := by decide +kernel
theorem dX6_begins_18 : decode cX6_begins 18 = .ok (.iastore, 1) := by decide +kernel
theorem dX6_begins_19 : decode cX6_begins 19 = .ok (.aload_n 0, 1) := by decide +kernel
theorem dX6_begins_20 : decode cX6_begins 20 = .ok (.getfield 13, 3) := by decide +kernel
theorem dX6_begins_23 : decode cX6_begins 23 = .ok (.bipush 6, 2) := by decide +kernel
theorem dX6_begins_25 : decode cX6_begins 25 = .ok (.bipush 10, 2) := by decide +kernel
theorem dX6_begins_27 : decode cX6_begins 27 = .ok (.iastore, 1) := by decide +kernel
theorem dX6_begins_28 : decode cX6_begins 28 = .ok (.aload_n 0, 1) := by decide +kernel
theorem dX6_begins_29 : decode cX6_begins 29 = .ok (.getfield 13, 3) := by decide +kernel
theorem dX6_begins_32 : decode cX6_begins 32 = .ok (.bipush 7, 2) := by decide +kernel
theorem dX6_begins_34 : decode cX6_begins 34 = .ok (.bipush 12, 2) := by decide +kernel
theorem dX6_begins_36 : decode cX6_begins 36 = .ok (.iastore, 1) := by decide +kernel
theorem dX6_begins_37 : decode cX6_begins 37 = .ok (.bipush 8, 2) := by decide +kernel
theorem dX6_begins_39 : decode cX6_begins 39 = .ok (.istore_n 1, 1) := by decide +kernel
theorem dX6_begins_40 : decode cX6_begins 40 = .ok (.iload_n 1, 1) := by decide +kernel
theorem dX6_begins_41 : decode cX6_begins 41 = .ok (.bipush 16, 2) := by decide +kernel
theorem dX6_begins_43 : decode cX6_begins 43 = .ok (.if_icmp .ge 16, 3) := by decide +kernel
theorem dX6_begins_46 : decode cX6_begins 46 = .ok (.aload_n 0, 1) := by decide +kernel
theorem dX6_begins_47 : decode cX6_begins 47 = .ok (.getfield 43, 3) := by decide +kernel
theorem dX6_begins_50 : decode cX6_begins 50 = .ok (.iload_n 1, 1) := by decide +kernel
theorem dX6_begins_51 : decode cX6_begins 51 = .ok (.iconst 0, 1) := by decide +kernel
theorem dX6_begins_52 : decode cX6_begins 52 = .ok (.iastore, 1) := by decide +kernel
theorem dX6_begins_53 : decode cX6_begins 53 = .ok (.iinc 1 1, 3) := by decide +kernel
theorem dX6_begins_56 : decode cX6_begins 56 = .ok (.goto (-16), 3) := by decide +kernel
theorem dX6_begins_59 : decode cX6_begins 59 = .ok (.return_, 1) := by decide +kernel
theorem dX6_mayBegin_0 : decode cX6_mayBegin 0 = .ok (.aload_n 0, 1) := by decide +kernel
theorem dX6_mayBegin_1 : decode cX6_mayBegin 1 = .ok (.getfield 98, 3) := by decide +kernel
theorem dX6_mayBegin_4 : decode cX6_mayBegin 4 = .ok (.bipush 112, 2) := by decide +kernel
theorem dX6_mayBegin_6 : decode cX6_mayBegin 6 = .ok (.if_icmp .eq 12, 3) := by decide +kernel
theorem dX6_mayBegin_9 : decode cX6_mayBegin 9 = .ok (.aload_n 0, 1) := by decide +kernel
theorem dX6_mayBegin_10 : decode cX6_mayBegin 10 = .ok (.getfield 98, 3) := by decide +kernel
theorem dX6_mayBegin_13 : decode cX6_mayBegin 13 = .ok (.bipush 109, 2) := by decide +kernel
theorem dX6_mayBegin_15 : decode cX6_mayBegin 15 = .ok (.if_icmp .ne 48, 3) := by decide +kernel
theorem dX6_mayBegin_18 : decode cX6_mayBegin 18 = .ok (.aload_n 0, 1) := by decide +kernel
theorem dX6_mayBegin_19 : decode cX6_mayBegin 19 = .ok (.getfield 98, 3) := by decide +kernel
theorem dX6_mayBegin_22 : decode cX6_mayBegin 22 = .ok (.bipush 112, 2) := by decide +kernel
theorem dX6_mayBegin_24 : decode cX6_mayBegin 24 = .ok (.if_icmp .ne 22, 3) := by decide +kernel
theorem dX6_mayBegin_27 : decode cX6_mayBegin 27 = .ok (.aload_n 0, 1) := by decide +kernel
theorem dX6_mayBegin_28 : decode cX6_mayBegin 28 = .ok (.getfield 13, 3) := by decide +kernel
theorem dX6_mayBegin_31 : decode cX6_mayBegin 31 = .ok (.iconst 4, 1) := by decide +kernel
theorem dX6_mayBegin_32 : decode cX6_mayBegin 32 = .ok (.iaload, 1) := by decide +kernel
theorem dX6_mayBegin_33 : decode cX6_mayBegin 33 = .ok (.bipush 6, 2) := by decide +kernel
theorem dX6_mayBegin_35 : decode cX6_mayBegin 35 = .ok (.if_icmp .ge 7, 3) := by decide +kernel
theorem dX6_mayBegin_38 : decode cX6_mayBegin 38 = .ok (.iconst 1, 1) := by decide +kernel
theorem dX6_mayBegin_39 : decode cX6_mayBegin 39 = .ok (.goto 23, 3) := by decide +kernel
theorem dX6_mayBegin_42 : decode cX6_mayBegin 42 = .ok (.iconst 0, 1) := by decide +kernel
theorem dX6_mayBegin_43 : decode cX6_mayBegin 43 = .ok (.goto 19, 3) := by decide +kernel
theorem dX6_mayBegin_46 : decode cX6_mayBegin 46 = .ok (.aload_n 0, 1) := by decide +kernel
theorem dX6_mayBegin_47 : decode cX6_mayBegin 47 = .ok (.getfield 13, 3) := by decide +kernel
theorem dX6_mayBegin_50 : decode cX6_mayBegin 50 = .ok (.iconst 5, 1) := by decide +kernel
theorem dX6_mayBegin_51 : decode cX6_mayBegin 51 = .ok (.iaload, 1) := by decide +kernel
theorem dX6_mayBegin_52 : decode cX6_mayBegin 52 = .ok (.bipush 8, 2) := by decide +kernel
theorem dX6_mayBegin_54 : decode cX6_mayBegin 54 = .ok (.if_icmp .ge 7, 3) := by decide +kernel
theorem dX6_mayBegin_57 : decode cX6_mayBegin 57 = .ok (.iconst 1, 1) := by decide +kernel
theorem dX6_mayBegin_58 : decode cX6_mayBegin 58 = .ok (.goto 4, 3) := by decide +kernel
theorem dX6_mayBegin_61 : decode cX6_mayBegin 61 = .ok (.iconst 0, 1) := by decide +kernel
theorem dX6_mayBegin_62 : decode cX6_mayBegin 62 = .ok (.ireturn, 1) := by decide +kernel
theorem dX6_mayBegin_63 : decode cX6_mayBegin 63 = .ok (.aload_n 0, 1) := by decide +kernel
theorem dX6_mayBegin_64 : decode cX6_mayBegin 64 = .ok (.getfield 98, 3) := by decide +kernel
theorem dX6_mayBegin_67 : decode cX6_mayBegin 67 = .ok (.bipush 120, 2) := by decide +kernel
theorem dX6_mayBegin_69 : decode cX6_mayBegin 69 = .ok (.if_icmp .eq 25, 3) := by decide +kernel
theorem dX6_mayBegin_72 : decode cX6_mayBegin 72 = .ok (.aload_n 0, 1) := by decide +kernel
theorem dX6_mayBegin_73 : decode cX6_mayBegin 73 = .ok (.getfield 119, 3) := by decide +kernel
theorem dX6_mayBegin_76 : decode cX6_mayBegin 76 = .ok (.aload_n 0, 1) := by decide +kernel
theorem dX6_mayBegin_77 : decode cX6_mayBegin 77 = .ok (.getfield 98, 3) := by decide +kernel
theorem dX6_mayBegin_80 : decode cX6_mayBegin 80 = .ok (.bipush 97, 2) := by decide +kernel
theorem dX6_mayBegin_82 : decode cX6_mayBegin 82 = .ok (.if_icmp .ne 7, 3) := by decide +kernel
theorem dX6_mayBegin_85 : decode cX6_mayBegin 85 = .ok (.iconst 1, 1) := by decide +kernel
theorem dX6_mayBegin_86 : decode cX6_mayBegin 86 = .ok (.goto 4, 3) := by decide +kernel
theorem dX6_mayBegin_89 : decode cX6_mayBegin 89 = .ok (.iconst 2, 1) := by decide +kernel
theorem dX6_mayBegin_90 : decode cX6_mayBegin 90 = .ok (.iand, 1) := by decide +kernel
theorem dX6_mayBegin_91 : decode cX6_mayBegin 91 = .ok (.ifCond .ne 7, 3) := by decide +kernel
theorem dX6_mayBegin_94 : decode cX6_mayBegin 94 = .ok (.iconst 1, 1) := by decide +kernel
theorem dX6_mayBegin_95 : decode cX6_mayBegin 95 = .ok (.goto 4, 3) := by decide +kernel
theorem dX6_mayBegin_98 : decode cX6_mayBegin 98 = .ok (.iconst 0, 1) := by decide +kernel
theorem dX6_mayBegin_99 : decode cX6_mayBegin 99 = .ok (.ireturn, 1) := by decide +kernel
theorem dX6_readsPromise_0 : decode cX6_readsPromise 0 = .ok (.bipush 8, 2) := by decide +kernel
theorem dX6_readsPromise_2 : decode cX6_readsPromise 2 = .ok (.aload_n 0, 1) := by decide +kernel
theorem dX6_readsPromise_3 : decode cX6_readsPromise 3 = .ok (.getfield 13, 3) := by decide +kernel
theorem dX6_readsPromise_6 : decode cX6_readsPromise 6 = .ok (.iconst 5, 1) := by decide +kernel
theorem dX6_readsPromise_7 : decode cX6_readsPromise 7 = .ok (.iaload, 1) := by decide +kernel
theorem dX6_readsPromise_8 : decode cX6_readsPromise 8 = .ok (.iadd, 1) := by decide +kernel
theorem dX6_readsPromise_9 : decode cX6_readsPromise 9 = .ok (.istore_n 1, 1) := by decide +kernel
theorem dX6_readsPromise_10 : decode cX6_readsPromise 10 = .ok (.aload_n 0, 1) := by decide +kernel
theorem dX6_readsPromise_11 : decode cX6_readsPromise 11 = .ok (.getfield 22, 3) := by decide +kernel
theorem dX6_readsPromise_14 : decode cX6_readsPromise 14 = .ok (.iload_n 1, 1) := by decide +kernel
theorem dX6_readsPromise_15 : decode cX6_readsPromise 15 = .ok (.aload_n 0, 1) := by decide +kernel
theorem dX6_readsPromise_16 : decode cX6_readsPromise 16 = .ok (.iconst 0, 1) := by decide +kernel
theorem dX6_readsPromise_17 : decode cX6_readsPromise 17 = .ok (.aload_n 0, 1) := by decide +kernel
theorem dX6_readsPromise_18 : decode cX6_readsPromise 18 = .ok (.getfield 13, 3) := by decide +kernel
theorem dX6_readsPromise_21 : decode cX6_readsPromise 21 = .ok (.iconst 4, 1) := by decide +kernel
theorem dX6_readsPromise_22 : decode cX6_readsPromise 22 = .ok (.iaload, 1) := by decide +kernel
theorem dX6_readsPromise_23 : decode cX6_readsPromise 23 = .ok (.iconst 1, 1) := by decide +kernel
theorem dX6_readsPromise_24 : decode cX6_readsPromise 24 = .ok (.isub, 1) := by decide +kernel
theorem dX6_readsPromise_25 : decode cX6_readsPromise 25 = .ok (.invokevirtual 122, 3) := by decide +kernel
theorem dX6_readsPromise_28 : decode cX6_readsPromise 28 = .ok (.iastore, 1) := by decide +kernel
theorem dX6_readsPromise_29 : decode cX6_readsPromise 29 = .ok (.aload_n 0, 1) := by decide +kernel
theorem dX6_readsPromise_30 : decode cX6_readsPromise 30 = .ok (.getfield 25, 3) := by decide +kernel
theorem dX6_readsPromise_33 : decode cX6_readsPromise 33 = .ok (.iload_n 1, 1) := by decide +kernel
theorem dX6_readsPromise_34 : decode cX6_readsPromise 34 = .ok (.aload_n 0, 1) := by decide +kernel
theorem dX6_readsPromise_35 : decode cX6_readsPromise 35 = .ok (.iconst 0, 1) := by decide +kernel
theorem dX6_readsPromise_36 : decode cX6_readsPromise 36 = .ok (.iconst 5, 1) := by decide +kernel
theorem dX6_readsPromise_37 : decode cX6_readsPromise 37 = .ok (.invokevirtual 122, 3) := by decide +kernel
theorem dX6_readsPromise_40 : decode cX6_readsPromise 40 = .ok (.iastore, 1) := by decide +kernel
theorem dX6_readsPromise_41 : decode cX6_readsPromise 41 = .ok (.aload_n 0, 1) := by decide +kernel
theorem dX6_readsPromise_42 : decode cX6_readsPromise 42 = .ok (.getfield 28, 3) := by decide +kernel
theorem dX6_readsPromise_45 : decode cX6_readsPromise 45 = .ok (.iload_n 1, 1) := by decide +kernel
theorem dX6_readsPromise_46 : decode cX6_readsPromise 46 = .ok (.aload_n 0, 1) := by decide +kernel
theorem dX6_readsPromise_47 : decode cX6_readsPromise 47 = .ok (.iconst 0, 1) := by decide +kernel
theorem dX6_readsPromise_48 : decode cX6_readsPromise 48 = .ok (.iconst 5, 1) := by decide +kernel
theorem dX6_readsPromise_49 : decode cX6_readsPromise 49 = .ok (.invokevirtual 122, 3) := by decide +kernel
theorem dX6_readsPromise_52 : decode cX6_readsPromise 52 = .ok (.iastore, 1) := by decide +kernel
theorem dX6_readsPromise_53 : decode cX6_readsPromise 53 = .ok (.aload_n 0, 1) := by decide +kernel
theorem dX6_readsPromise_54 : decode cX6_readsPromise 54 = .ok (.getfield 31, 3) := by decide +kernel
theorem dX6_readsPromise_57 : decode cX6_readsPromise 57 = .ok (.iload_n 1, 1) := by decide +kernel
theorem dX6_readsPromise_58 : decode cX6_readsPromise 58 = .ok (.aload_n 0, 1) := by decide +kernel
theorem dX6_readsPromise_59 : decode cX6_readsPromise 59 = .ok (.iconst 1, 1) := by decide +kernel
theorem dX6_readsPromise_60 : decode cX6_readsPromise 60 = .ok (.bipush 9, 2) := by decide +kernel
theorem dX6_readsPromise_62 : decode cX6_readsPromise 62 = .ok (.invokevirtual 122, 3) := by decide +kernel
theorem dX6_readsPromise_65 : decode cX6_readsPromise 65 = .ok (.iastore, 1) := by decide +kernel
theorem dX6_readsPromise_66 : decode cX6_readsPromise 66 = .ok (.aload_n 0, 1) := by decide +kernel
theorem dX6_readsPromise_67 : decode cX6_readsPromise 67 = .ok (.getfield 34, 3) := by decide +kernel
theorem dX6_readsPromise_70 : decode cX6_readsPromise 70 = .ok (.iload_n 1, 1) := by decide +kernel
theorem dX6_readsPromise_71 : decode cX6_readsPromise 71 = .ok (.aload_n 0, 1) := by decide +kernel
theorem dX6_readsPromise_72 : decode cX6_readsPromise 72 = .ok (.iconst 0, 1) := by decide +kernel
theorem dX6_readsPromise_73 : decode cX6_readsPromise 73 = .ok (.bipush 99, 2) := by decide +kernel
theorem dX6_readsPromise_75 : decode cX6_readsPromise 75 = .ok (.invokevirtual 122, 3) := by decide +kernel
theorem dX6_readsPromise_78 : decode cX6_readsPromise 78 = .ok (.iastore, 1) := by decide +kernel
theorem dX6_readsPromise_79 : decode cX6_readsPromise 79 = .ok (.iconst 0, 1) := by decide +kernel
theorem dX6_readsPromise_80 : decode cX6_readsPromise 80 = .ok (.istore_n 2, 1) := by decide +kernel
theorem dX6_readsPromise_81 : decode cX6_readsPromise 81 = .ok (.aload_n 0, 1) := by decide +kernel
theorem dX6_readsPromise_82 : decode cX6_readsPromise 82 = .ok (.invokevirtual 108, 3) := by decide +kernel
theorem dX6_readsPromise_85 : decode cX6_readsPromise 85 = .ok (.ifCond .eq 75, 3) := by decide +kernel
theorem dX6_readsPromise_88 : decode cX6_readsPromise 88 = .ok (.iload_n 2, 1) := by decide +kernel
theorem dX6_readsPromise_89 : decode cX6_readsPromise 89 = .ok (.ifCond .eq 11, 3) := by decide +kernel
theorem dX6_readsPromise_92 : decode cX6_readsPromise 92 = .ok (.aload_n 0, 1) := by decide +kernel
theorem dX6_readsPromise_93 : decode cX6_readsPromise 93 = .ok (.getfield 95, 3) := by decide +kernel
theorem dX6_readsPromise_96 : decode cX6_readsPromise 96 = .ok (.iconst 3, 1) := by decide +kernel
theorem dX6_readsPromise_97 : decode cX6_readsPromise 97 = .ok (.if_icmp .eq 63, 3) := by decide +kernel
theorem dX6_readsPromise_100 : decode cX6_readsPromise 100 = .ok (.aload_n 0, 1) := by decide +kernel
theorem dX6_readsPromise_101 : decode cX6_readsPromise 101 = .ok (.iload_n 2, 1) := by decide +kernel
theorem dX6_readsPromise_102 : decode cX6_readsPromise 102 = .ok (.iconst 4, 1) := by decide +kernel
theorem dX6_readsPromise_103 : decode cX6_readsPromise 103 = .ok (.if_icmp .ge 28, 3) := by decide +kernel
theorem dX6_readsPromise_106 : decode cX6_readsPromise 106 = .ok (.aload_n 0, 1) := by decide +kernel
theorem dX6_readsPromise_107 : decode cX6_readsPromise 107 = .ok (.getfield 95, 3) := by decide +kernel
theorem dX6_readsPromise_110 : decode cX6_readsPromise 110 = .ok (.iconst 2, 1) := by decide +kernel
theorem dX6_readsPromise_111 : decode cX6_readsPromise 111 = .ok (.if_icmp .ne 20, 3) := by decide +kernel
theorem dX6_readsPromise_114 : decode cX6_readsPromise 114 = .ok (.aload_n 0, 1) := by decide +kernel
theorem dX6_readsPromise_115 : decode cX6_readsPromise 115 = .ok (.getfield 98, 3) := by decide +kernel
theorem dX6_readsPromise_118 : decode cX6_readsPromise 118 = .ok (.iconst 0, 1) := by decide +kernel
theorem dX6_readsPromise_119 : decode cX6_readsPromise 119 = .ok (.bipush 9, 2) := by decide +kernel
theorem dX6_readsPromise_121 : decode cX6_readsPromise 121 = .ok (.invokestatic 78, 3) := by decide +kernel
theorem dX6_readsPromise_124 : decode cX6_readsPromise 124 = .ok (.ifCond .eq 7, 3) := by decide +kernel
theorem dX6_readsPromise_127 : decode cX6_readsPromise 127 = .ok (.iconst 1, 1) := by decide +kernel
theorem dX6_readsPromise_128 : decode cX6_readsPromise 128 = .ok (.goto 4, 3) := by decide +kernel
theorem dX6_readsPromise_131 : decode cX6_readsPromise 131 = .ok (.iconst 0, 1) := by decide +kernel
theorem dX6_readsPromise_132 : decode cX6_readsPromise 132 = .ok (.invokevirtual 115, 3) := by decide +kernel
theorem dX6_readsPromise_135 : decode cX6_readsPromise 135 = .ok (.istore_n 3, 1) := by decide +kernel
theorem dX6_readsPromise_136 : decode cX6_readsPromise 136 = .ok (.aload_n 0, 1) := by decide +kernel
theorem dX6_readsPromise_137 : decode cX6_readsPromise 137 = .ok (.invokevirtual 108, 3) := by decide +kernel
theorem dX6_readsPromise_140 : decode cX6_readsPromise 140 = .ok (.ifCond .eq 17, 3) := by decide +kernel
theorem dX6_readsPromise_143 : decode cX6_readsPromise 143 = .ok (.aload_n 0, 1) := by decide +kernel
theorem dX6_readsPromise_144 : decode cX6_readsPromise 144 = .ok (.getfield 40, 3) := by decide +kernel
theorem dX6_readsPromise_147 : decode cX6_readsPromise 147 = .ok (.iconst 4, 1) := by decide +kernel
theorem dX6_readsPromise_148 : decode cX6_readsPromise 148 = .ok (.iload_n 1, 1) := by decide +kernel
theorem dX6_readsPromise_149 : decode cX6_readsPromise 149 = .ok (.imul, 1) := by decide +kernel
theorem dX6_readsPromise_150 : decode cX6_readsPromise 150 = .ok (.iload_n 2, 1) := by decide +kernel
theorem dX6_readsPromise_151 : decode cX6_readsPromise 151 = .ok (.iadd, 1) := by decide +kernel
theorem dX6_readsPromise_152 : decode cX6_readsPromise 152 = .ok (.iload_n 3, 1) := by decide +kernel
theorem dX6_readsPromise_153 : decode cX6_readsPromise 153 = .ok (.iastore, 1) := by decide +kernel
theorem dX6_readsPromise_154 : decode cX6_readsPromise 154 = .ok (.iinc 2 1, 3) := by decide +kernel
theorem dX6_readsPromise_157 : decode cX6_readsPromise 157 = .ok (.goto (-76), 3) := by decide +kernel
theorem dX6_readsPromise_160 : decode cX6_readsPromise 160 = .ok (.aload_n 0, 1) := by decide +kernel
theorem dX6_readsPromise_161 : decode cX6_readsPromise 161 = .ok (.getfield 37, 3) := by decide +kernel
theorem dX6_readsPromise_164 : decode cX6_readsPromise 164 = .ok (.iload_n 1, 1) := by decide +kernel
theorem dX6_readsPromise_165 : decode cX6_readsPromise 165 = .ok (.iload_n 2, 1) := by decide +kernel
theorem dX6_readsPromise_166 : decode cX6_readsPromise 166 = .ok (.iastore, 1) := by decide +kernel
theorem dX6_readsPromise_167 : decode cX6_readsPromise 167 = .ok (.aload_n 0, 1) := by decide +kernel
theorem dX6_readsPromise_168 : decode cX6_readsPromise 168 = .ok (.getfield 13, 3) := by decide +kernel
theorem dX6_readsPromise_171 : decode cX6_readsPromise 171 = .ok (.iconst 5, 1) := by decide +kernel
theorem dX6_readsPromise_172 : decode cX6_readsPromise 172 = .ok (.dup2, 1) := by decide +kernel
theorem dX6_readsPromise_173 : decode cX6_readsPromise 173 = .ok (.iaload, 1) := by decide +kernel
theorem dX6_readsPromise_174 : decode cX6_readsPromise 174 = .ok (.iconst 1, 1) := by decide +kernel
theorem dX6_readsPromise_175 : decode cX6_readsPromise 175 = .ok (.iadd, 1) := by decide +kernel
theorem dX6_readsPromise_176 : decode cX6_readsPromise 176 = .ok (.iastore, 1) := by decide +kernel
theorem dX6_readsPromise_177 : decode cX6_readsPromise 177 = .ok (.return_, 1) := by decide +kernel
theorem dX6_readsClash_0 : decode cX6_readsClash 0 = .ok (.aload_n 0, 1) := by decide +kernel
theorem dX6_readsClash_1 : decode cX6_readsClash 1 = .ok (.getfield 13, 3) := by decide +kernel
theorem dX6_readsClash_4 : decode cX6_readsClash 4 = .ok (.iconst 5, 1) := by decide +kernel
theorem dX6_readsClash_5 : decode cX6_readsClash 5 = .ok (.iaload, 1) := by decide +kernel
theorem dX6_readsClash_6 : decode cX6_readsClash 6 = .ok (.iconst 1, 1) := by decide +kernel
theorem dX6_readsClash_7 : decode cX6_readsClash 7 = .ok (.isub, 1) := by decide +kernel
theorem dX6_readsClash_8 : decode cX6_readsClash 8 = .ok (.istore_n 1, 1) := by decide +kernel
theorem dX6_readsClash_9 : decode cX6_readsClash 9 = .ok (.aload_n 0, 1) := by decide +kernel
theorem dX6_readsClash_10 : decode cX6_readsClash 10 = .ok (.iconst 0, 1) := by decide +kernel
theorem dX6_readsClash_11 : decode cX6_readsClash 11 = .ok (.iload_n 1, 1) := by decide +kernel
theorem dX6_readsClash_12 : decode cX6_readsClash 12 = .ok (.invokevirtual 122, 3) := by decide +kernel
theorem dX6_readsClash_15 : decode cX6_readsClash 15 = .ok (.istore_n 2, 1) := by decide +kernel
theorem dX6_readsClash_16 : decode cX6_readsClash 16 = .ok (.aload_n 0, 1) := by decide +kernel
theorem dX6_readsClash_17 : decode cX6_readsClash 17 = .ok (.aload_n 0, 1) := by decide +kernel
theorem dX6_readsClash_18 : decode cX6_readsClash 18 = .ok (.getfield 95, 3) := by decide +kernel
theorem dX6_readsClash_21 : decode cX6_readsClash 21 = .ok (.iconst 2, 1) := by decide +kernel
theorem dX6_readsClash_22 : decode cX6_readsClash 22 = .ok (.if_icmp .ne 27, 3) := by decide +kernel
theorem dX6_readsClash_25 : decode cX6_readsClash 25 = .ok (.aload_n 0, 1) := by decide +kernel
theorem dX6_readsClash_26 : decode cX6_readsClash 26 = .ok (.getfield 98, 3) := by decide +kernel
theorem dX6_readsClash_29 : decode cX6_readsClash 29 = .ok (.iconst 0, 1) := by decide +kernel
theorem dX6_readsClash_30 : decode cX6_readsClash 30 = .ok (.iload_n 1, 1) := by decide +kernel
theorem dX6_readsClash_31 : decode cX6_readsClash 31 = .ok (.invokestatic 78, 3) := by decide +kernel
theorem dX6_readsClash_34 : decode cX6_readsClash 34 = .ok (.ifCond .eq 15, 3) := by decide +kernel
theorem dX6_readsClash_37 : decode cX6_readsClash 37 = .ok (.aload_n 0, 1) := by decide +kernel
theorem dX6_readsClash_38 : decode cX6_readsClash 38 = .ok (.getfield 98, 3) := by decide +kernel
theorem dX6_readsClash_41 : decode cX6_readsClash 41 = .ok (.iload_n 2, 1) := by decide +kernel
theorem dX6_readsClash_42 : decode cX6_readsClash 42 = .ok (.if_icmp .eq 7, 3) := by decide +kernel
theorem dX6_readsClash_45 : decode cX6_readsClash 45 = .ok (.iconst 1, 1) := by decide +kernel
theorem dX6_readsClash_46 : decode cX6_readsClash 46 = .ok (.goto 4, 3) := by decide +kernel
theorem dX6_readsClash_49 : decode cX6_readsClash 49 = .ok (.iconst 0, 1) := by decide +kernel
theorem dX6_readsClash_50 : decode cX6_readsClash 50 = .ok (.invokevirtual 115, 3) := by decide +kernel
theorem dX6_readsClash_53 : decode cX6_readsClash 53 = .ok (.istore_n 3, 1) := by decide +kernel
theorem dX6_readsClash_54 : decode cX6_readsClash 54 = .ok (.aload_n 0, 1) := by decide +kernel
theorem dX6_readsClash_55 : decode cX6_readsClash 55 = .ok (.invokevirtual 108, 3) := by decide +kernel
theorem dX6_readsClash_58 : decode cX6_readsClash 58 = .ok (.ifCond .eq 33, 3) := by decide +kernel
theorem dX6_readsClash_61 : decode cX6_readsClash 61 = .ok (.aload_n 0, 1) := by decide +kernel
theorem dX6_readsClash_62 : decode cX6_readsClash 62 = .ok (.getfield 43, 3) := by decide +kernel
theorem dX6_readsClash_65 : decode cX6_readsClash 65 = .ok (.bipush 8, 2) := by decide +kernel
theorem dX6_readsClash_67 : decode cX6_readsClash 67 = .ok (.iload_n 2, 1) := by decide +kernel
theorem dX6_readsClash_68 : decode cX6_readsClash 68 = .ok (.iadd, 1) := by decide +kernel
theorem dX6_readsClash_69 : decode cX6_readsClash 69 = .ok (.dup2, 1) := by decide +kernel
theorem dX6_readsClash_70 : decode cX6_readsClash 70 = .ok (.iaload, 1) := by decide +kernel
theorem dX6_readsClash_71 : decode cX6_readsClash 71 = .ok (.iconst 1, 1) := by decide +kernel
theorem dX6_readsClash_72 : decode cX6_readsClash 72 = .ok (.iload_n 3, 1) := by decide +kernel
theorem dX6_readsClash_73 : decode cX6_readsClash 73 = .ok (.ishl, 1) := by decide +kernel
theorem dX6_readsClash_74 : decode cX6_readsClash 74 = .ok (.ior, 1) := by decide +kernel
theorem dX6_readsClash_75 : decode cX6_readsClash 75 = .ok (.iastore, 1) := by decide +kernel
theorem dX6_readsClash_76 : decode cX6_readsClash 76 = .ok (.aload_n 0, 1) := by decide +kernel
theorem dX6_readsClash_77 : decode cX6_readsClash 77 = .ok (.getfield 43, 3) := by decide +kernel
theorem dX6_readsClash_80 : decode cX6_readsClash 80 = .ok (.bipush 8, 2) := by decide +kernel
theorem dX6_readsClash_82 : decode cX6_readsClash 82 = .ok (.iload_n 3, 1) := by decide +kernel
theorem dX6_readsClash_83 : decode cX6_readsClash 83 = .ok (.iadd, 1) := by decide +kernel
theorem dX6_readsClash_84 : decode cX6_readsClash 84 = .ok (.dup2, 1) := by decide +kernel
theorem dX6_readsClash_85 : decode cX6_readsClash 85 = .ok (.iaload, 1) := by decide +kernel
theorem dX6_readsClash_86 : decode cX6_readsClash 86 = .ok (.iconst 1, 1) := by decide +kernel
theorem dX6_readsClash_87 : decode cX6_readsClash 87 = .ok (.iload_n 2, 1) := by decide +kernel
theorem dX6_readsClash_88 : decode cX6_readsClash 88 = .ok (.ishl, 1) := by decide +kernel
theorem dX6_readsClash_89 : decode cX6_readsClash 89 = .ok (.ior, 1) := by decide +kernel
theorem dX6_readsClash_90 : decode cX6_readsClash 90 = .ok (.iastore, 1) := by decide +kernel
theorem dX6_readsClash_91 : decode cX6_readsClash 91 = .ok (.return_, 1) := by decide +kernel
theorem dX6_readsItem_0 : decode cX6_readsItem 0 = .ok (.iload_n 1, 1) := by decide +kernel
theorem dX6_readsItem_1 : decode cX6_readsItem 1 = .ok (.bipush 112, 2) := by decide +kernel
theorem dX6_readsItem_3 : decode cX6_readsItem 3 = .ok (.if_icmp .ne 101, 3) := by decide +kernel
theorem dX6_readsItem_6 : decode cX6_readsItem 6 = .ok (.aload_n 0, 1) := by decide +kernel
theorem dX6_readsItem_7 : decode cX6_readsItem 7 = .ok (.getfield 13, 3) := by decide +kernel
theorem dX6_readsItem_10 : decode cX6_readsItem 10 = .ok (.iconst 4, 1) := by decide +kernel
theorem dX6_readsItem_11 : decode cX6_readsItem 11 = .ok (.iaload, 1) := by decide +kernel
theorem dX6_readsItem_12 : decode cX6_readsItem 12 = .ok (.istore_n 2, 1) := by decide +kernel
theorem dX6_readsItem_13 : decode cX6_readsItem 13 = .ok (.aload_n 0, 1) := by decide +kernel
theorem dX6_readsItem_14 : decode cX6_readsItem 14 = .ok (.getfield 16, 3) := by decide +kernel
theorem dX6_readsItem_17 : decode cX6_readsItem 17 = .ok (.bipush 6, 2) := by decide +kernel
theorem dX6_readsItem_19 : decode cX6_readsItem 19 = .ok (.iload_n 2, 1) := by decide +kernel
theorem dX6_readsItem_20 : decode cX6_readsItem 20 = .ok (.iadd, 1) := by decide +kernel
theorem dX6_readsItem_21 : decode cX6_readsItem 21 = .ok (.aload_n 0, 1) := by decide +kernel
theorem dX6_readsItem_22 : decode cX6_readsItem 22 = .ok (.iconst 0, 1) := by decide +kernel
theorem dX6_readsItem_23 : decode cX6_readsItem 23 = .ok (.bipush 99, 2) := by decide +kernel
theorem dX6_readsItem_25 : decode cX6_readsItem 25 = .ok (.invokevirtual 122, 3) := by decide +kernel
theorem dX6_readsItem_28 : decode cX6_readsItem 28 = .ok (.iastore, 1) := by decide +kernel
theorem dX6_readsItem_29 : decode cX6_readsItem 29 = .ok (.aload_n 0, 1) := by decide +kernel
theorem dX6_readsItem_30 : decode cX6_readsItem 30 = .ok (.aload_n 0, 1) := by decide +kernel
theorem dX6_readsItem_31 : decode cX6_readsItem 31 = .ok (.getfield 95, 3) := by decide +kernel
theorem dX6_readsItem_34 : decode cX6_readsItem 34 = .ok (.iconst 2, 1) := by decide +kernel
theorem dX6_readsItem_35 : decode cX6_readsItem 35 = .ok (.if_icmp .ne 30, 3) := by decide +kernel
theorem dX6_readsItem_38 : decode cX6_readsItem 38 = .ok (.aload_n 0, 1) := by decide +kernel
theorem dX6_readsItem_39 : decode cX6_readsItem 39 = .ok (.getfield 98, 3) := by decide +kernel
theorem dX6_readsItem_42 : decode cX6_readsItem 42 = .ok (.iconst 0, 1) := by decide +kernel
theorem dX6_readsItem_43 : decode cX6_readsItem 43 = .ok (.iload_n 2, 1) := by decide +kernel
theorem dX6_readsItem_44 : decode cX6_readsItem 44 = .ok (.iconst 1, 1) := by decide +kernel
theorem dX6_readsItem_45 : decode cX6_readsItem 45 = .ok (.isub, 1) := by decide +kernel
theorem dX6_readsItem_46 : decode cX6_readsItem 46 = .ok (.invokestatic 78, 3) := by decide +kernel
theorem dX6_readsItem_49 : decode cX6_readsItem 49 = .ok (.ifCond .ne 12, 3) := by decide +kernel
theorem dX6_readsItem_52 : decode cX6_readsItem 52 = .ok (.aload_n 0, 1) := by decide +kernel
theorem dX6_readsItem_53 : decode cX6_readsItem 53 = .ok (.getfield 98, 3) := by decide +kernel
theorem dX6_readsItem_56 : decode cX6_readsItem 56 = .ok (.bipush 9, 2) := by decide +kernel
theorem dX6_readsItem_58 : decode cX6_readsItem 58 = .ok (.if_icmp .ne 7, 3) := by decide +kernel
theorem dX6_readsItem_61 : decode cX6_readsItem 61 = .ok (.iconst 1, 1) := by decide +kernel
theorem dX6_readsItem_62 : decode cX6_readsItem 62 = .ok (.goto 4, 3) := by decide +kernel
theorem dX6_readsItem_65 : decode cX6_readsItem 65 = .ok (.iconst 0, 1) := by decide +kernel
theorem dX6_readsItem_66 : decode cX6_readsItem 66 = .ok (.invokevirtual 115, 3) := by decide +kernel
theorem dX6_readsItem_69 : decode cX6_readsItem 69 = .ok (.istore_n 3, 1) := by decide +kernel
theorem dX6_readsItem_70 : decode cX6_readsItem 70 = .ok (.aload_n 0, 1) := by decide +kernel
theorem dX6_readsItem_71 : decode cX6_readsItem 71 = .ok (.getfield 19, 3) := by decide +kernel
theorem dX6_readsItem_74 : decode cX6_readsItem 74 = .ok (.bipush 6, 2) := by decide +kernel
theorem dX6_readsItem_76 : decode cX6_readsItem 76 = .ok (.iload_n 2, 1) := by decide +kernel
theorem dX6_readsItem_77 : decode cX6_readsItem 77 = .ok (.iadd, 1) := by decide +kernel
theorem dX6_readsItem_78 : decode cX6_readsItem 78 = .ok (.iload_n 3, 1) := by decide +kernel
theorem dX6_readsItem_79 : decode cX6_readsItem 79 = .ok (.bipush 9, 2) := by decide +kernel
theorem dX6_readsItem_81 : decode cX6_readsItem 81 = .ok (.if_icmp .ne 8, 3) := by decide +kernel
theorem dX6_readsItem_84 : decode cX6_readsItem 84 = .ok (.bipush (-9), 2) := by decide +kernel
theorem dX6_readsItem_86 : decode cX6_readsItem 86 = .ok (.goto 4, 3) := by decide +kernel
theorem dX6_readsItem_89 : decode cX6_readsItem 89 = .ok (.iload_n 3, 1) := by decide +kernel
theorem dX6_readsItem_90 : decode cX6_readsItem 90 = .ok (.iastore, 1) := by decide +kernel
theorem dX6_readsItem_91 : decode cX6_readsItem 91 = .ok (.aload_n 0, 1) := by decide +kernel
theorem dX6_readsItem_92 : decode cX6_readsItem 92 = .ok (.getfield 13, 3) := by decide +kernel
theorem dX6_readsItem_95 : decode cX6_readsItem 95 = .ok (.iconst 4, 1) := by decide +kernel
theorem dX6_readsItem_96 : decode cX6_readsItem 96 = .ok (.dup2, 1) := by decide +kernel
theorem dX6_readsItem_97 : decode cX6_readsItem 97 = .ok (.iaload, 1) := by decide +kernel
theorem dX6_readsItem_98 : decode cX6_readsItem 98 = .ok (.iconst 1, 1) := by decide +kernel
theorem dX6_readsItem_99 : decode cX6_readsItem 99 = .ok (.iadd, 1) := by decide +kernel
theorem dX6_readsItem_100 : decode cX6_readsItem 100 = .ok (.iastore, 1) := by decide +kernel
theorem dX6_readsItem_101 : decode cX6_readsItem 101 = .ok (.goto 87, 3) := by decide +kernel
theorem dX6_readsItem_104 : decode cX6_readsItem 104 = .ok (.iload_n 1, 1) := by decide +kernel
theorem dX6_readsItem_105 : decode cX6_readsItem 105 = .ok (.bipush 109, 2) := by decide +kernel
theorem dX6_readsItem_107 : decode cX6_readsItem 107 = .ok (.if_icmp .ne 10, 3) := by decide +kernel
theorem dX6_readsItem_110 : decode cX6_readsItem 110 = .ok (.aload_n 0, 1) := by decide +kernel
theorem dX6_readsItem_111 : decode cX6_readsItem 111 = .ok (.invokevirtual 126, 3) := by decide +kernel
theorem dX6_readsItem_114 : decode cX6_readsItem 114 = .ok (.goto 74, 3) := by decide +kernel
theorem dX6_readsItem_117 : decode cX6_readsItem 117 = .ok (.iload_n 1, 1) := by decide +kernel
theorem dX6_readsItem_118 : decode cX6_readsItem 118 = .ok (.bipush 120, 2) := by decide +kernel
theorem dX6_readsItem_120 : decode cX6_readsItem 120 = .ok (.if_icmp .ne 10, 3) := by decide +kernel
theorem dX6_readsItem_123 : decode cX6_readsItem 123 = .ok (.aload_n 0, 1) := by decide +kernel
theorem dX6_readsItem_124 : decode cX6_readsItem 124 = .ok (.invokevirtual 129, 3) := by decide +kernel
theorem dX6_readsItem_127 : decode cX6_readsItem 127 = .ok (.goto 61, 3) := by decide +kernel
theorem dX6_readsItem_130 : decode cX6_readsItem 130 = .ok (.iload_n 1, 1) := by decide +kernel
theorem dX6_readsItem_131 : decode cX6_readsItem 131 = .ok (.bipush 97, 2) := by decide +kernel
theorem dX6_readsItem_133 : decode cX6_readsItem 133 = .ok (.if_icmp .ne 7, 3) := by decide +kernel
theorem dX6_readsItem_136 : decode cX6_readsItem 136 = .ok (.iconst 2, 1) := by decide +kernel
theorem dX6_readsItem_137 : decode cX6_readsItem 137 = .ok (.goto 4, 3) := by decide +kernel
theorem dX6_readsItem_140 : decode cX6_readsItem 140 = .ok (.iconst 3, 1) := by decide +kernel
theorem dX6_readsItem_141 : decode cX6_readsItem 141 = .ok (.istore_n 2, 1) := by decide +kernel
theorem dX6_readsItem_142 : decode cX6_readsItem 142 = .ok (.aload_n 0, 1) := by decide +kernel
theorem dX6_readsItem_143 : decode cX6_readsItem 143 = .ok (.getfield 13, 3) := by decide +kernel
theorem dX6_readsItem_146 : decode cX6_readsItem 146 = .ok (.iconst 4, 1) := by decide +kernel
theorem dX6_readsItem_147 : decode cX6_readsItem 147 = .ok (.iload_n 2, 1) := by decide +kernel
theorem dX6_readsItem_148 : decode cX6_readsItem 148 = .ok (.iadd, 1) := by decide +kernel
theorem dX6_readsItem_149 : decode cX6_readsItem 149 = .ok (.aload_n 0, 1) := by decide +kernel
theorem dX6_readsItem_150 : decode cX6_readsItem 150 = .ok (.iconst 1, 1) := by decide +kernel
theorem dX6_readsItem_151 : decode cX6_readsItem 151 = .ok (.iload_n 1, 1) := by decide +kernel
theorem dX6_readsItem_152 : decode cX6_readsItem 152 = .ok (.bipush 97, 2) := by decide +kernel
theorem dX6_readsItem_154 : decode cX6_readsItem 154 = .ok (.if_icmp .ne 8, 3) := by decide +kernel
theorem dX6_readsItem_157 : decode cX6_readsItem 157 = .ok (.bipush 20, 2) := by decide +kernel
theorem dX6_readsItem_159 : decode cX6_readsItem 159 = .ok (.goto 5, 3) := by decide +kernel
theorem dX6_readsItem_162 : decode cX6_readsItem 162 = .ok (.bipush 27, 2) := by decide +kernel
theorem dX6_readsItem_164 : decode cX6_readsItem 164 = .ok (.invokevirtual 122, 3) := by decide +kernel
theorem dX6_readsItem_167 : decode cX6_readsItem 167 = .ok (.iastore, 1) := by decide +kernel
theorem dX6_readsItem_168 : decode cX6_readsItem 168 = .ok (.aload_n 0, 1) := by decide +kernel
theorem dX6_readsItem_169 : decode cX6_readsItem 169 = .ok (.dup, 1) := by decide +kernel
theorem dX6_readsItem_170 : decode cX6_readsItem 170 = .ok (.getfield 119, 3) := by decide +kernel
theorem dX6_readsItem_173 : decode cX6_readsItem 173 = .ok (.iload_n 1, 1) := by decide +kernel
theorem dX6_readsItem_174 : decode cX6_readsItem 174 = .ok (.bipush 97, 2) := by decide +kernel
theorem dX6_readsItem_176 : decode cX6_readsItem 176 = .ok (.if_icmp .ne 7, 3) := by decide +kernel
theorem dX6_readsItem_179 : decode cX6_readsItem 179 = .ok (.iconst 1, 1) := by decide +kernel
theorem dX6_readsItem_180 : decode cX6_readsItem 180 = .ok (.goto 4, 3) := by decide +kernel
theorem dX6_readsItem_183 : decode cX6_readsItem 183 = .ok (.iconst 2, 1) := by decide +kernel
theorem dX6_readsItem_184 : decode cX6_readsItem 184 = .ok (.ior, 1) := by decide +kernel
theorem dX6_readsItem_185 : decode cX6_readsItem 185 = .ok (.putfield 119, 3) := by decide +kernel
theorem dX6_readsItem_188 : decode cX6_readsItem 188 = .ok (.return_, 1) := by decide +kernel
theorem dX6_moss_0 : decode cX6_moss 0 = .ok (.aload_n 0, 1) := by decide +kernel
theorem dX6_moss_1 : decode cX6_moss 1 = .ok (.iconst 0, 1) := by decide +kernel
theorem dX6_moss_2 : decode cX6_moss 2 = .ok (.putfield 74, 3) := by decide +kernel
theorem dX6_moss_5 : decode cX6_moss 5 = .ok (.aload_n 0, 1) := by decide +kernel
theorem dX6_moss_6 : decode cX6_moss 6 = .ok (.iconst (-1), 1) := by decide +kernel
theorem dX6_moss_7 : decode cX6_moss 7 = .ok (.putfield 105, 3) := by decide +kernel
theorem dX6_moss_10 : decode cX6_moss 10 = .ok (.aload_n 0, 1) := by decide +kernel
theorem dX6_moss_11 : decode cX6_moss 11 = .ok (.iconst 0, 1) := by decide +kernel
theorem dX6_moss_12 : decode cX6_moss 12 = .ok (.putfield 85, 3) := by decide +kernel
theorem dX6_moss_15 : decode cX6_moss 15 = .ok (.aload_n 0, 1) := by decide +kernel
theorem dX6_moss_16 : decode cX6_moss 16 = .ok (.invokevirtual 68, 3) := by decide +kernel
theorem dX6_moss_19 : decode cX6_moss 19 = .ok (.iconst 0, 1) := by decide +kernel
theorem dX6_moss_20 : decode cX6_moss 20 = .ok (.istore_n 1, 1) := by decide +kernel
theorem dX6_moss_21 : decode cX6_moss 21 = .ok (.aload_n 0, 1) := by decide +kernel
theorem dX6_moss_22 : decode cX6_moss 22 = .ok (.invokevirtual 112, 3) := by decide +kernel
theorem dX6_moss_25 : decode cX6_moss 25 = .ok (.aload_n 0, 1) := by decide +kernel
theorem dX6_moss_26 : decode cX6_moss 26 = .ok (.invokevirtual 108, 3) := by decide +kernel
theorem dX6_moss_29 : decode cX6_moss 29 = .ok (.ifCond .eq 71, 3) := by decide +kernel
theorem dX6_moss_32 : decode cX6_moss 32 = .ok (.aload_n 0, 1) := by decide +kernel
theorem dX6_moss_33 : decode cX6_moss 33 = .ok (.getfield 95, 3) := by decide +kernel
theorem dX6_moss_36 : decode cX6_moss 36 = .ok (.ifCond .eq 64, 3) := by decide +kernel
theorem dX6_moss_39 : decode cX6_moss 39 = .ok (.aload_n 0, 1) := by decide +kernel
theorem dX6_moss_40 : decode cX6_moss 40 = .ok (.aload_n 0, 1) := by decide +kernel
theorem dX6_moss_41 : decode cX6_moss 41 = .ok (.getfield 95, 3) := by decide +kernel
theorem dX6_moss_44 : decode cX6_moss 44 = .ok (.iconst 1, 1) := by decide +kernel
theorem dX6_moss_45 : decode cX6_moss 45 = .ok (.if_icmp .ne 14, 3) := by decide +kernel
theorem dX6_moss_48 : decode cX6_moss 48 = .ok (.aload_n 0, 1) := by decide +kernel
theorem dX6_moss_49 : decode cX6_moss 49 = .ok (.invokevirtual 132, 3) := by decide +kernel
theorem dX6_moss_52 : decode cX6_moss 52 = .ok (.ifCond .eq 7, 3) := by decide +kernel
theorem dX6_moss_55 : decode cX6_moss 55 = .ok (.iconst 1, 1) := by decide +kernel
theorem dX6_moss_56 : decode cX6_moss 56 = .ok (.goto 4, 3) := by decide +kernel
theorem dX6_moss_59 : decode cX6_moss 59 = .ok (.iconst 0, 1) := by decide +kernel
theorem dX6_moss_60 : decode cX6_moss 60 = .ok (.invokevirtual 115, 3) := by decide +kernel
theorem dX6_moss_63 : decode cX6_moss 63 = .ok (.istore_n 2, 1) := by decide +kernel
theorem dX6_moss_64 : decode cX6_moss 64 = .ok (.aload_n 0, 1) := by decide +kernel
theorem dX6_moss_65 : decode cX6_moss 65 = .ok (.invokevirtual 108, 3) := by decide +kernel
theorem dX6_moss_68 : decode cX6_moss 68 = .ok (.ifCond .eq 8, 3) := by decide +kernel
theorem dX6_moss_71 : decode cX6_moss 71 = .ok (.aload_n 0, 1) := by decide +kernel
theorem dX6_moss_72 : decode cX6_moss 72 = .ok (.iload_n 2, 1) := by decide +kernel
theorem dX6_moss_73 : decode cX6_moss 73 = .ok (.invokevirtual 135, 3) := by decide +kernel
theorem dX6_moss_76 : decode cX6_moss 76 = .ok (.aload_n 0, 1) := by decide +kernel
theorem dX6_moss_77 : decode cX6_moss 77 = .ok (.aload_n 0, 1) := by decide +kernel
theorem dX6_moss_78 : decode cX6_moss 78 = .ok (.getfield 95, 3) := by decide +kernel
theorem dX6_moss_81 : decode cX6_moss 81 = .ok (.iconst 3, 1) := by decide +kernel
theorem dX6_moss_82 : decode cX6_moss 82 = .ok (.if_icmp .ne 7, 3) := by decide +kernel
theorem dX6_moss_85 : decode cX6_moss 85 = .ok (.iconst 1, 1) := by decide +kernel
theorem dX6_moss_86 : decode cX6_moss 86 = .ok (.goto 4, 3) := by decide +kernel
theorem dX6_moss_89 : decode cX6_moss 89 = .ok (.iconst 0, 1) := by decide +kernel
theorem dX6_moss_90 : decode cX6_moss 90 = .ok (.invokevirtual 115, 3) := by decide +kernel
theorem dX6_moss_93 : decode cX6_moss 93 = .ok (.pop, 1) := by decide +kernel
theorem dX6_moss_94 : decode cX6_moss 94 = .ok (.iinc 1 1, 3) := by decide +kernel
theorem dX6_moss_97 : decode cX6_moss 97 = .ok (.goto (-72), 3) := by decide +kernel
theorem dX6_moss_100 : decode cX6_moss 100 = .ok (.aload_n 0, 1) := by decide +kernel
theorem dX6_moss_101 : decode cX6_moss 101 = .ok (.invokevirtual 108, 3) := by decide +kernel
theorem dX6_moss_104 : decode cX6_moss 104 = .ok (.ifCond .ne 11, 3) := by decide +kernel
theorem dX6_moss_107 : decode cX6_moss 107 = .ok (.bipush (-10), 2) := by decide +kernel
theorem dX6_moss_109 : decode cX6_moss 109 = .ok (.aload_n 0, 1) := by decide +kernel
theorem dX6_moss_110 : decode cX6_moss 110 = .ok (.getfield 105, 3) := by decide +kernel
theorem dX6_moss_113 : decode cX6_moss 113 = .ok (.isub, 1) := by decide +kernel
theorem dX6_moss_114 : decode cX6_moss 114 = .ok (.ireturn, 1) := by decide +kernel
theorem dX6_moss_115 : decode cX6_moss 115 = .ok (.aload_n 0, 1) := by decide +kernel
theorem dX6_moss_116 : decode cX6_moss 116 = .ok (.invokevirtual 71, 3) := by decide +kernel
theorem dX6_moss_119 : decode cX6_moss 119 = .ok (.iload_n 1, 1) := by decide +kernel
theorem dX6_moss_120 : decode cX6_moss 120 = .ok (.ireturn, 1) := by decide +kernel
theorem dX6_settles_0 : decode cX6_settles 0 = .ok (.iconst 0, 1) := by decide +kernel
theorem dX6_settles_1 : decode cX6_settles 1 = .ok (.istore_n 1, 1) := by decide +kernel
theorem dX6_settles_2 : decode cX6_settles 2 = .ok (.iload_n 1, 1) := by decide +kernel
theorem dX6_settles_3 : decode cX6_settles 3 = .ok (.iconst 4, 1) := by decide +kernel
theorem dX6_settles_4 : decode cX6_settles 4 = .ok (.if_icmp .ge 23, 3) := by decide +kernel
theorem dX6_settles_7 : decode cX6_settles 7 = .ok (.aload_n 0, 1) := by decide +kernel
theorem dX6_settles_8 : decode cX6_settles 8 = .ok (.getfield 13, 3) := by decide +kernel
theorem dX6_settles_11 : decode cX6_settles 11 = .ok (.iload_n 1, 1) := by decide +kernel
theorem dX6_settles_12 : decode cX6_settles 12 = .ok (.aload_n 0, 1) := by decide +kernel
theorem dX6_settles_13 : decode cX6_settles 13 = .ok (.getfield 13, 3) := by decide +kernel
theorem dX6_settles_16 : decode cX6_settles 16 = .ok (.iconst 4, 1) := by decide +kernel
theorem dX6_settles_17 : decode cX6_settles 17 = .ok (.iload_n 1, 1) := by decide +kernel
theorem dX6_settles_18 : decode cX6_settles 18 = .ok (.iadd, 1) := by decide +kernel
theorem dX6_settles_19 : decode cX6_settles 19 = .ok (.iaload, 1) := by decide +kernel
theorem dX6_settles_20 : decode cX6_settles 20 = .ok (.iastore, 1) := by decide +kernel
theorem dX6_settles_21 : decode cX6_settles 21 = .ok (.iinc 1 1, 3) := by decide +kernel
theorem dX6_settles_24 : decode cX6_settles 24 = .ok (.goto (-22), 3) := by decide +kernel
theorem dX6_settles_27 : decode cX6_settles 27 = .ok (.iconst 0, 1) := by decide +kernel
theorem dX6_settles_28 : decode cX6_settles 28 = .ok (.istore_n 1, 1) := by decide +kernel
theorem dX6_settles_29 : decode cX6_settles 29 = .ok (.iload_n 1, 1) := by decide +kernel
theorem dX6_settles_30 : decode cX6_settles 30 = .ok (.bipush 6, 2) := by decide +kernel
theorem dX6_settles_32 : decode cX6_settles 32 = .ok (.if_icmp .ge 39, 3) := by decide +kernel
theorem dX6_settles_35 : decode cX6_settles 35 = .ok (.aload_n 0, 1) := by decide +kernel
theorem dX6_settles_36 : decode cX6_settles 36 = .ok (.getfield 16, 3) := by decide +kernel
theorem dX6_settles_39 : decode cX6_settles 39 = .ok (.iload_n 1, 1) := by decide +kernel
theorem dX6_settles_40 : decode cX6_settles 40 = .ok (.aload_n 0, 1) := by decide +kernel
theorem dX6_settles_41 : decode cX6_settles 41 = .ok (.getfield 16, 3) := by decide +kernel
theorem dX6_settles_44 : decode cX6_settles 44 = .ok (.bipush 6, 2) := by decide +kernel
theorem dX6_settles_46 : decode cX6_settles 46 = .ok (.iload_n 1, 1) := by decide +kernel
theorem dX6_settles_47 : decode cX6_settles 47 = .ok (.iadd, 1) := by decide +kernel
theorem dX6_settles_48 : decode cX6_settles 48 = .ok (.iaload, 1) := by decide +kernel
theorem dX6_settles_49 : decode cX6_settles 49 = .ok (.iastore, 1) := by decide +kernel
theorem dX6_settles_50 : decode cX6_settles 50 = .ok (.aload_n 0, 1) := by decide +kernel
theorem dX6_settles_51 : decode cX6_settles 51 = .ok (.getfield 19, 3) := by decide +kernel
theorem dX6_settles_54 : decode cX6_settles 54 = .ok (.iload_n 1, 1) := by decide +kernel
theorem dX6_settles_55 : decode cX6_settles 55 = .ok (.aload_n 0, 1) := by decide +kernel
theorem dX6_settles_56 : decode cX6_settles 56 = .ok (.getfield 19, 3) := by decide +kernel
theorem dX6_settles_59 : decode cX6_settles 59 = .ok (.bipush 6, 2) := by decide +kernel
theorem dX6_settles_61 : decode cX6_settles 61 = .ok (.iload_n 1, 1) := by decide +kernel
theorem dX6_settles_62 : decode cX6_settles 62 = .ok (.iadd, 1) := by decide +kernel
theorem dX6_settles_63 : decode cX6_settles 63 = .ok (.iaload, 1) := by decide +kernel
theorem dX6_settles_64 : decode cX6_settles 64 = .ok (.iastore, 1) := by decide +kernel
theorem dX6_settles_65 : decode cX6_settles 65 = .ok (.iinc 1 1, 3) := by decide +kernel
theorem dX6_settles_68 : decode cX6_settles 68 = .ok (.goto (-39), 3) := by decide +kernel
theorem dX6_settles_71 : decode cX6_settles 71 = .ok (.iconst 0, 1) := by decide +kernel
theorem dX6_settles_72 : decode cX6_settles 72 = .ok (.istore_n 1, 1) := by decide +kernel
theorem dX6_settles_73 : decode cX6_settles 73 = .ok (.iload_n 1, 1) := by decide +kernel
theorem dX6_settles_74 : decode cX6_settles 74 = .ok (.bipush 8, 2) := by decide +kernel
theorem dX6_settles_76 : decode cX6_settles 76 = .ok (.if_icmp .ge 114, 3) := by decide +kernel
theorem dX6_settles_79 : decode cX6_settles 79 = .ok (.aload_n 0, 1) := by decide +kernel
theorem dX6_settles_80 : decode cX6_settles 80 = .ok (.getfield 22, 3) := by decide +kernel
theorem dX6_settles_83 : decode cX6_settles 83 = .ok (.iload_n 1, 1) := by decide +kernel
theorem dX6_settles_84 : decode cX6_settles 84 = .ok (.aload_n 0, 1) := by decide +kernel
theorem dX6_settles_85 : decode cX6_settles 85 = .ok (.getfield 22, 3) := by decide +kernel
theorem dX6_settles_88 : decode cX6_settles 88 = .ok (.bipush 8, 2) := by decide +kernel
theorem dX6_settles_90 : decode cX6_settles 90 = .ok (.iload_n 1, 1) := by decide +kernel
theorem dX6_settles_91 : decode cX6_settles 91 = .ok (.iadd, 1) := by decide +kernel
theorem dX6_settles_92 : decode cX6_settles 92 = .ok (.iaload, 1) := by decide +kernel
theorem dX6_settles_93 : decode cX6_settles 93 = .ok (.iastore, 1) := by decide +kernel
theorem dX6_settles_94 : decode cX6_settles 94 = .ok (.aload_n 0, 1) := by decide +kernel
theorem dX6_settles_95 : decode cX6_settles 95 = .ok (.getfield 25, 3) := by decide +kernel
theorem dX6_settles_98 : decode cX6_settles 98 = .ok (.iload_n 1, 1) := by decide +kernel
theorem dX6_settles_99 : decode cX6_settles 99 = .ok (.aload_n 0, 1) := by decide +kernel
theorem dX6_settles_100 : decode cX6_settles 100 = .ok (.getfield 25, 3) := by decide +kernel
theorem dX6_settles_103 : decode cX6_settles 103 = .ok (.bipush 8, 2) := by decide +kernel
theorem dX6_settles_105 : decode cX6_settles 105 = .ok (.iload_n 1, 1) := by decide +kernel
theorem dX6_settles_106 : decode cX6_settles 106 = .ok (.iadd, 1) := by decide +kernel
theorem dX6_settles_107 : decode cX6_settles 107 = .ok (.iaload, 1) := by decide +kernel
theorem dX6_settles_108 : decode cX6_settles 108 = .ok (.iastore, 1) := by decide +kernel
theorem dX6_settles_109 : decode cX6_settles 109 = .ok (.aload_n 0, 1) := by decide +kernel
theorem dX6_settles_110 : decode cX6_settles 110 = .ok (.getfield 28, 3) := by decide +kernel
theorem dX6_settles_113 : decode cX6_settles 113 = .ok (.iload_n 1, 1) := by decide +kernel
theorem dX6_settles_114 : decode cX6_settles 114 = .ok (.aload_n 0, 1) := by decide +kernel
theorem dX6_settles_115 : decode cX6_settles 115 = .ok (.getfield 28, 3) := by decide +kernel
theorem dX6_settles_118 : decode cX6_settles 118 = .ok (.bipush 8, 2) := by decide +kernel
theorem dX6_settles_120 : decode cX6_settles 120 = .ok (.iload_n 1, 1) := by decide +kernel
theorem dX6_settles_121 : decode cX6_settles 121 = .ok (.iadd, 1) := by decide +kernel
theorem dX6_settles_122 : decode cX6_settles 122 = .ok (.iaload, 1) := by decide +kernel
theorem dX6_settles_123 : decode cX6_settles 123 = .ok (.iastore, 1) := by decide +kernel
theorem dX6_settles_124 : decode cX6_settles 124 = .ok (.aload_n 0, 1) := by decide +kernel
theorem dX6_settles_125 : decode cX6_settles 125 = .ok (.getfield 31, 3) := by decide +kernel
theorem dX6_settles_128 : decode cX6_settles 128 = .ok (.iload_n 1, 1) := by decide +kernel
theorem dX6_settles_129 : decode cX6_settles 129 = .ok (.aload_n 0, 1) := by decide +kernel
theorem dX6_settles_130 : decode cX6_settles 130 = .ok (.getfield 31, 3) := by decide +kernel
theorem dX6_settles_133 : decode cX6_settles 133 = .ok (.bipush 8, 2) := by decide +kernel
theorem dX6_settles_135 : decode cX6_settles 135 = .ok (.iload_n 1, 1) := by decide +kernel
theorem dX6_settles_136 : decode cX6_settles 136 = .ok (.iadd, 1) := by decide +kernel
theorem dX6_settles_137 : decode cX6_settles 137 = .ok (.iaload, 1) := by decide +kernel
theorem dX6_settles_138 : decode cX6_settles 138 = .ok (.iastore, 1) := by decide +kernel
theorem dX6_settles_139 : decode cX6_settles 139 = .ok (.aload_n 0, 1) := by decide +kernel
theorem dX6_settles_140 : decode cX6_settles 140 = .ok (.getfield 34, 3) := by decide +kernel
theorem dX6_settles_143 : decode cX6_settles 143 = .ok (.iload_n 1, 1) := by decide +kernel
theorem dX6_settles_144 : decode cX6_settles 144 = .ok (.aload_n 0, 1) := by decide +kernel
theorem dX6_settles_145 : decode cX6_settles 145 = .ok (.getfield 34, 3) := by decide +kernel
theorem dX6_settles_148 : decode cX6_settles 148 = .ok (.bipush 8, 2) := by decide +kernel
theorem dX6_settles_150 : decode cX6_settles 150 = .ok (.iload_n 1, 1) := by decide +kernel
theorem dX6_settles_151 : decode cX6_settles 151 = .ok (.iadd, 1) := by decide +kernel
theorem dX6_settles_152 : decode cX6_settles 152 = .ok (.iaload, 1) := by decide +kernel
theorem dX6_settles_153 : decode cX6_settles 153 = .ok (.iastore, 1) := by decide +kernel
theorem dX6_settles_154 : decode cX6_settles 154 = .ok (.aload_n 0, 1) := by decide +kernel
theorem dX6_settles_155 : decode cX6_settles 155 = .ok (.getfield 37, 3) := by decide +kernel
theorem dX6_settles_158 : decode cX6_settles 158 = .ok (.iload_n 1, 1) := by decide +kernel
theorem dX6_settles_159 : decode cX6_settles 159 = .ok (.aload_n 0, 1) := by decide +kernel
theorem dX6_settles_160 : decode cX6_settles 160 = .ok (.getfield 37, 3) := by decide +kernel
theorem dX6_settles_163 : decode cX6_settles 163 = .ok (.bipush 8, 2) := by decide +kernel
theorem dX6_settles_165 : decode cX6_settles 165 = .ok (.iload_n 1, 1) := by decide +kernel
theorem dX6_settles_166 : decode cX6_settles 166 = .ok (.iadd, 1) := by decide +kernel
theorem dX6_settles_167 : decode cX6_settles 167 = .ok (.iaload, 1) := by decide +kernel
theorem dX6_settles_168 : decode cX6_settles 168 = .ok (.iastore, 1) := by decide +kernel
theorem dX6_settles_169 : decode cX6_settles 169 = .ok (.aload_n 0, 1) := by decide +kernel
theorem dX6_settles_170 : decode cX6_settles 170 = .ok (.getfield 43, 3) := by decide +kernel
theorem dX6_settles_173 : decode cX6_settles 173 = .ok (.iload_n 1, 1) := by decide +kernel
theorem dX6_settles_174 : decode cX6_settles 174 = .ok (.aload_n 0, 1) := by decide +kernel
theorem dX6_settles_175 : decode cX6_settles 175 = .ok (.getfield 43, 3) := by decide +kernel
theorem dX6_settles_178 : decode cX6_settles 178 = .ok (.bipush 8, 2) := by decide +kernel
theorem dX6_settles_180 : decode cX6_settles 180 = .ok (.iload_n 1, 1) := by decide +kernel
theorem dX6_settles_181 : decode cX6_settles 181 = .ok (.iadd, 1) := by decide +kernel
theorem dX6_settles_182 : decode cX6_settles 182 = .ok (.iaload, 1) := by decide +kernel
theorem dX6_settles_183 : decode cX6_settles 183 = .ok (.iastore, 1) := by decide +kernel
theorem dX6_settles_184 : decode cX6_settles 184 = .ok (.iinc 1 1, 3) := by decide +kernel
theorem dX6_settles_187 : decode cX6_settles 187 = .ok (.goto (-114), 3) := by decide +kernel
theorem dX6_settles_190 : decode cX6_settles 190 = .ok (.iconst 0, 1) := by decide +kernel
theorem dX6_settles_191 : decode cX6_settles 191 = .ok (.istore_n 1, 1) := by decide +kernel
theorem dX6_settles_192 : decode cX6_settles 192 = .ok (.iload_n 1, 1) := by decide +kernel
theorem dX6_settles_193 : decode cX6_settles 193 = .ok (.bipush 32, 2) := by decide +kernel
theorem dX6_settles_195 : decode cX6_settles 195 = .ok (.if_icmp .ge 24, 3) := by decide +kernel
theorem dX6_settles_198 : decode cX6_settles 198 = .ok (.aload_n 0, 1) := by decide +kernel
theorem dX6_settles_199 : decode cX6_settles 199 = .ok (.getfield 40, 3) := by decide +kernel
theorem dX6_settles_202 : decode cX6_settles 202 = .ok (.iload_n 1, 1) := by decide +kernel
theorem dX6_settles_203 : decode cX6_settles 203 = .ok (.aload_n 0, 1) := by decide +kernel
theorem dX6_settles_204 : decode cX6_settles 204 = .ok (.getfield 40, 3) := by decide +kernel
theorem dX6_settles_207 : decode cX6_settles 207 = .ok (.bipush 32, 2) := by decide +kernel
theorem dX6_settles_209 : decode cX6_settles 209 = .ok (.iload_n 1, 1) := by decide +kernel
theorem dX6_settles_210 : decode cX6_settles 210 = .ok (.iadd, 1) := by decide +kernel
theorem dX6_settles_211 : decode cX6_settles 211 = .ok (.iaload, 1) := by decide +kernel
theorem dX6_settles_212 : decode cX6_settles 212 = .ok (.iastore, 1) := by decide +kernel
theorem dX6_settles_213 : decode cX6_settles 213 = .ok (.iinc 1 1, 3) := by decide +kernel
theorem dX6_settles_216 : decode cX6_settles 216 = .ok (.goto (-24), 3) := by decide +kernel
theorem dX6_settles_219 : decode cX6_settles 219 = .ok (.iconst 0, 1) := by decide +kernel
theorem dX6_settles_220 : decode cX6_settles 220 = .ok (.istore_n 1, 1) := by decide +kernel
theorem dX6_settles_221 : decode cX6_settles 221 = .ok (.iload_n 1, 1) := by decide +kernel
theorem dX6_settles_222 : decode cX6_settles 222 = .ok (.bipush 37, 2) := by decide +kernel
theorem dX6_settles_224 : decode cX6_settles 224 = .ok (.if_icmp .ge 16, 3) := by decide +kernel
theorem dX6_settles_227 : decode cX6_settles 227 = .ok (.aload_n 0, 1) := by decide +kernel
theorem dX6_settles_228 : decode cX6_settles 228 = .ok (.getfield 46, 3) := by decide +kernel
theorem dX6_settles_231 : decode cX6_settles 231 = .ok (.iload_n 1, 1) := by decide +kernel
theorem dX6_settles_232 : decode cX6_settles 232 = .ok (.iconst 0, 1) := by decide +kernel
theorem dX6_settles_233 : decode cX6_settles 233 = .ok (.iastore, 1) := by decide +kernel
theorem dX6_settles_234 : decode cX6_settles 234 = .ok (.iinc 1 1, 3) := by decide +kernel
theorem dX6_settles_237 : decode cX6_settles 237 = .ok (.goto (-16), 3) := by decide +kernel
theorem dX6_settles_240 : decode cX6_settles 240 = .ok (.aload_n 0, 1) := by decide +kernel
theorem dX6_settles_241 : decode cX6_settles 241 = .ok (.iconst 0, 1) := by decide +kernel
theorem dX6_settles_242 : decode cX6_settles 242 = .ok (.putfield 82, 3) := by decide +kernel
theorem dX6_settles_245 : decode cX6_settles 245 = .ok (.aload_n 0, 1) := by decide +kernel
theorem dX6_settles_246 : decode cX6_settles 246 = .ok (.iconst 0, 1) := by decide +kernel
theorem dX6_settles_247 : decode cX6_settles 247 = .ok (.putfield 139, 3) := by decide +kernel
theorem dX6_settles_250 : decode cX6_settles 250 = .ok (.aload_n 0, 1) := by decide +kernel
theorem dX6_settles_251 : decode cX6_settles 251 = .ok (.iconst 0, 1) := by decide +kernel
theorem dX6_settles_252 : decode cX6_settles 252 = .ok (.putfield 142, 3) := by decide +kernel
theorem dX6_settles_255 : decode cX6_settles 255 = .ok (.aload_n 0, 1) := by decide +kernel
theorem dX6_settles_256 : decode cX6_settles 256 = .ok (.getfield 52, 3) := by decide +kernel
theorem dX6_settles_259 : decode cX6_settles 259 = .ok (.iconst 0, 1) := by decide +kernel
theorem dX6_settles_260 : decode cX6_settles 260 = .ok (.iconst 0, 1) := by decide +kernel
theorem dX6_settles_261 : decode cX6_settles 261 = .ok (.bastore, 1) := by decide +kernel
theorem dX6_settles_262 : decode cX6_settles 262 = .ok (.aload_n 0, 1) := by decide +kernel
theorem dX6_settles_263 : decode cX6_settles 263 = .ok (.getfield 52, 3) := by decide +kernel
theorem dX6_settles_266 : decode cX6_settles 266 = .ok (.iconst 1, 1) := by decide +kernel
theorem dX6_settles_267 : decode cX6_settles 267 = .ok (.iconst 0, 1) := by decide +kernel
theorem dX6_settles_268 : decode cX6_settles 268 = .ok (.bastore, 1) := by decide +kernel
theorem dX6_settles_269 : decode cX6_settles 269 = .ok (.return_, 1) := by decide +kernel
theorem dX6_isPromise_0 : decode cX6_isPromise 0 = .ok (.iload_n 1, 1) := by decide +kernel
theorem dX6_isPromise_1 : decode cX6_isPromise 1 = .ok (.iconst 0, 1) := by decide +kernel
theorem dX6_isPromise_2 : decode cX6_isPromise 2 = .ok (.aload_n 0, 1) := by decide +kernel
theorem dX6_isPromise_3 : decode cX6_isPromise 3 = .ok (.getfield 13, 3) := by decide +kernel
theorem dX6_isPromise_6 : decode cX6_isPromise 6 = .ok (.iconst 1, 1) := by decide +kernel
theorem dX6_isPromise_7 : decode cX6_isPromise 7 = .ok (.iaload, 1) := by decide +kernel
theorem dX6_isPromise_8 : decode cX6_isPromise 8 = .ok (.iconst 1, 1) := by decide +kernel
theorem dX6_isPromise_9 : decode cX6_isPromise 9 = .ok (.isub, 1) := by decide +kernel
theorem dX6_isPromise_10 : decode cX6_isPromise 10 = .ok (.invokestatic 78, 3) := by decide +kernel
theorem dX6_isPromise_13 : decode cX6_isPromise 13 = .ok (.ireturn, 1) := by decide +kernel
theorem dX6_isCell_0 : decode cX6_isCell 0 = .ok (.iload_n 0, 1) := by decide +kernel
theorem dX6_isCell_1 : decode cX6_isCell 1 = .ok (.iconst 0, 1) := by decide +kernel
theorem dX6_isCell_2 : decode cX6_isCell 2 = .ok (.iconst 5, 1) := by decide +kernel
theorem dX6_isCell_3 : decode cX6_isCell 3 = .ok (.invokestatic 78, 3) := by decide +kernel
theorem dX6_isCell_6 : decode cX6_isCell 6 = .ok (.ireturn, 1) := by decide +kernel
theorem dX6_those_0 : decode cX6_those 0 = .ok (.iconst 0, 1) := by decide +kernel
theorem dX6_those_1 : decode cX6_those 1 = .ok (.istore_n 2, 1) := by decide +kernel
theorem dX6_those_2 : decode cX6_those 2 = .ok (.iconst 0, 1) := by decide +kernel
theorem dX6_those_3 : decode cX6_those 3 = .ok (.istore_n 3, 1) := by decide +kernel
theorem dX6_those_4 : decode cX6_those 4 = .ok (.iload_n 3, 1) := by decide +kernel
theorem dX6_those_5 : decode cX6_those 5 = .ok (.aload_n 0, 1) := by decide +kernel
theorem dX6_those_6 : decode cX6_those 6 = .ok (.getfield 13, 3) := by decide +kernel
theorem dX6_those_9 : decode cX6_those 9 = .ok (.iconst 1, 1) := by decide +kernel
theorem dX6_those_10 : decode cX6_those 10 = .ok (.iaload, 1) := by decide +kernel
theorem dX6_those_11 : decode cX6_those 11 = .ok (.if_icmp .ge 32, 3) := by decide +kernel
theorem dX6_those_14 : decode cX6_those 14 = .ok (.iload_n 2, 1) := by decide +kernel
theorem dX6_those_15 : decode cX6_those 15 = .ok (.aload_n 0, 1) := by decide +kernel
theorem dX6_those_16 : decode cX6_those 16 = .ok (.getfield 46, 3) := by decide +kernel
theorem dX6_those_19 : decode cX6_those 19 = .ok (.bipush 13, 2) := by decide +kernel
theorem dX6_those_21 : decode cX6_those 21 = .ok (.iload_n 3, 1) := by decide +kernel
theorem dX6_those_22 : decode cX6_those 22 = .ok (.iadd, 1) := by decide +kernel
theorem dX6_those_23 : decode cX6_those 23 = .ok (.iaload, 1) := by decide +kernel
theorem dX6_those_24 : decode cX6_those 24 = .ok (.iload_n 1, 1) := by decide +kernel
theorem dX6_those_25 : decode cX6_those 25 = .ok (.if_icmp .ne 9, 3) := by decide +kernel
theorem dX6_those_28 : decode cX6_those 28 = .ok (.iconst 1, 1) := by decide +kernel
theorem dX6_those_29 : decode cX6_those 29 = .ok (.iload_n 3, 1) := by decide +kernel
theorem dX6_those_30 : decode cX6_those 30 = .ok (.ishl, 1) := by decide +kernel
theorem dX6_those_31 : decode cX6_those 31 = .ok (.goto 4, 3) := by decide +kernel
theorem dX6_those_34 : decode cX6_those 34 = .ok (.iconst 0, 1) := by decide +kernel
theorem dX6_those_35 : decode cX6_those 35 = .ok (.ior, 1) := by decide +kernel
theorem dX6_those_36 : decode cX6_those 36 = .ok (.istore_n 2, 1) := by decide +kernel
theorem dX6_those_37 : decode cX6_those 37 = .ok (.iinc 3 1, 3) := by decide +kernel
theorem dX6_those_40 : decode cX6_those 40 = .ok (.goto (-36), 3) := by decide +kernel
theorem dX6_those_43 : decode cX6_those 43 = .ok (.iload_n 2, 1) := by decide +kernel
theorem dX6_those_44 : decode cX6_those 44 = .ok (.ireturn, 1) := by decide +kernel
theorem dX6_lyingIn_0 : decode cX6_lyingIn 0 = .ok (.iconst 0, 1) := by decide +kernel
theorem dX6_lyingIn_1 : decode cX6_lyingIn 1 = .ok (.istore_n 2, 1) := by decide +kernel
theorem dX6_lyingIn_2 : decode cX6_lyingIn 2 = .ok (.iconst 0, 1) := by decide +kernel
theorem dX6_lyingIn_3 : decode cX6_lyingIn 3 = .ok (.istore_n 3, 1) := by decide +kernel
theorem dX6_lyingIn_4 : decode cX6_lyingIn 4 = .ok (.iload_n 3, 1) := by decide +kernel
theorem dX6_lyingIn_5 : decode cX6_lyingIn 5 = .ok (.aload_n 0, 1) := by decide +kernel
theorem dX6_lyingIn_6 : decode cX6_lyingIn 6 = .ok (.getfield 13, 3) := by decide +kernel
theorem dX6_lyingIn_9 : decode cX6_lyingIn 9 = .ok (.iconst 1, 1) := by decide +kernel
theorem dX6_lyingIn_10 : decode cX6_lyingIn 10 = .ok (.iaload, 1) := by decide +kernel
theorem dX6_lyingIn_11 : decode cX6_lyingIn 11 = .ok (.if_icmp .ge 41, 3) := by decide +kernel
theorem dX6_lyingIn_14 : decode cX6_lyingIn 14 = .ok (.iload_n 2, 1) := by decide +kernel
theorem dX6_lyingIn_15 : decode cX6_lyingIn 15 = .ok (.aload_n 0, 1) := by decide +kernel
theorem dX6_lyingIn_16 : decode cX6_lyingIn 16 = .ok (.getfield 46, 3) := by decide +kernel
theorem dX6_lyingIn_19 : decode cX6_lyingIn 19 = .ok (.bipush 13, 2) := by decide +kernel
theorem dX6_lyingIn_21 : decode cX6_lyingIn 21 = .ok (.iload_n 3, 1) := by decide +kernel
theorem dX6_lyingIn_22 : decode cX6_lyingIn 22 = .ok (.iadd, 1) := by decide +kernel
theorem dX6_lyingIn_23 : decode cX6_lyingIn 23 = .ok (.iaload, 1) := by decide +kernel
theorem dX6_lyingIn_24 : decode cX6_lyingIn 24 = .ok (.ifCond .ne 19, 3) := by decide +kernel
theorem dX6_lyingIn_27 : decode cX6_lyingIn 27 = .ok (.aload_n 0, 1) := by decide +kernel
theorem dX6_lyingIn_28 : decode cX6_lyingIn 28 = .ok (.getfield 25, 3) := by decide +kernel
theorem dX6_lyingIn_31 : decode cX6_lyingIn 31 = .ok (.iload_n 3, 1) := by decide +kernel
theorem dX6_lyingIn_32 : decode cX6_lyingIn 32 = .ok (.iaload, 1) := by decide +kernel
theorem dX6_lyingIn_33 : decode cX6_lyingIn 33 = .ok (.iload_n 1, 1) := by decide +kernel
theorem dX6_lyingIn_34 : decode cX6_lyingIn 34 = .ok (.if_icmp .ne 9, 3) := by decide +kernel
theorem dX6_lyingIn_37 : decode cX6_lyingIn 37 = .ok (.iconst 1, 1) := by decide +kernel
theorem dX6_lyingIn_38 : decode cX6_lyingIn 38 = .ok (.iload_n 3, 1) := by decide +kernel
theorem dX6_lyingIn_39 : decode cX6_lyingIn 39 = .ok (.ishl, 1) := by decide +kernel
theorem dX6_lyingIn_40 : decode cX6_lyingIn 40 = .ok (.goto 4, 3) := by decide +kernel
theorem dX6_lyingIn_43 : decode cX6_lyingIn 43 = .ok (.iconst 0, 1) := by decide +kernel
theorem dX6_lyingIn_44 : decode cX6_lyingIn 44 = .ok (.ior, 1) := by decide +kernel
theorem dX6_lyingIn_45 : decode cX6_lyingIn 45 = .ok (.istore_n 2, 1) := by decide +kernel
theorem dX6_lyingIn_46 : decode cX6_lyingIn 46 = .ok (.iinc 3 1, 3) := by decide +kernel
theorem dX6_lyingIn_49 : decode cX6_lyingIn 49 = .ok (.goto (-45), 3) := by decide +kernel
theorem dX6_lyingIn_52 : decode cX6_lyingIn 52 = .ok (.iload_n 2, 1) := by decide +kernel
theorem dX6_lyingIn_53 : decode cX6_lyingIn 53 = .ok (.ireturn, 1) := by decide +kernel
theorem dX6_leftIn_0 : decode cX6_leftIn 0 = .ok (.aload_n 0, 1) := by decide +kernel
theorem dX6_leftIn_1 : decode cX6_leftIn 1 = .ok (.getfield 46, 3) := by decide +kernel
theorem dX6_leftIn_4 : decode cX6_leftIn 4 = .ok (.bipush 13, 2) := by decide +kernel
theorem dX6_leftIn_6 : decode cX6_leftIn 6 = .ok (.iload_n 1, 1) := by decide +kernel
theorem dX6_leftIn_7 : decode cX6_leftIn 7 = .ok (.iadd, 1) := by decide +kernel
theorem dX6_leftIn_8 : decode cX6_leftIn 8 = .ok (.iaload, 1) := by decide +kernel
theorem dX6_leftIn_9 : decode cX6_leftIn 9 = .ok (.ifCond .eq 30, 3) := by decide +kernel
theorem dX6_leftIn_12 : decode cX6_leftIn 12 = .ok (.aload_n 0, 1) := by decide +kernel
theorem dX6_leftIn_13 : decode cX6_leftIn 13 = .ok (.getfield 46, 3) := by decide +kernel
theorem dX6_leftIn_16 : decode cX6_leftIn 16 = .ok (.bipush 13, 2) := by decide +kernel
theorem dX6_leftIn_18 : decode cX6_leftIn 18 = .ok (.iload_n 1, 1) := by decide +kernel
theorem dX6_leftIn_19 : decode cX6_leftIn 19 = .ok (.iadd, 1) := by decide +kernel
theorem dX6_leftIn_20 : decode cX6_leftIn 20 = .ok (.iaload, 1) := by decide +kernel
theorem dX6_leftIn_21 : decode cX6_leftIn 21 = .ok (.iconst 3, 1) := by decide +kernel
theorem dX6_leftIn_22 : decode cX6_leftIn 22 = .ok (.if_icmp .ne 7, 3) := by decide +kernel
theorem dX6_leftIn_25 : decode cX6_leftIn 25 = .ok (.iconst 0, 1) := by decide +kernel
theorem dX6_leftIn_26 : decode cX6_leftIn 26 = .ok (.goto 12, 3) := by decide +kernel
theorem dX6_leftIn_29 : decode cX6_leftIn 29 = .ok (.aload_n 0, 1) := by decide +kernel
theorem dX6_leftIn_30 : decode cX6_leftIn 30 = .ok (.getfield 46, 3) := by decide +kernel
theorem dX6_leftIn_33 : decode cX6_leftIn 33 = .ok (.bipush 21, 2) := by decide +kernel
theorem dX6_leftIn_35 : decode cX6_leftIn 35 = .ok (.iload_n 1, 1) := by decide +kernel
theorem dX6_leftIn_36 : decode cX6_leftIn 36 = .ok (.iadd, 1) := by decide +kernel
theorem dX6_leftIn_37 : decode cX6_leftIn 37 = .ok (.iaload, 1) := by decide +kernel
theorem dX6_leftIn_38 : decode cX6_leftIn 38 = .ok (.ireturn, 1) := by decide +kernel
theorem dX6_leftIn_39 : decode cX6_leftIn 39 = .ok (.aload_n 0, 1) := by decide +kernel
theorem dX6_leftIn_40 : decode cX6_leftIn 40 = .ok (.getfield 37, 3) := by decide +kernel
theorem dX6_leftIn_43 : decode cX6_leftIn 43 = .ok (.iload_n 1, 1) := by decide +kernel
theorem dX6_leftIn_44 : decode cX6_leftIn 44 = .ok (.iaload, 1) := by decide +kernel
theorem dX6_leftIn_45 : decode cX6_leftIn 45 = .ok (.iload_n 2, 1) := by decide +kernel
theorem dX6_leftIn_46 : decode cX6_leftIn 46 = .ok (.aload_n 0, 1) := by decide +kernel
theorem dX6_leftIn_47 : decode cX6_leftIn 47 = .ok (.getfield 28, 3) := by decide +kernel
theorem dX6_leftIn_50 : decode cX6_leftIn 50 = .ok (.iload_n 1, 1) := by decide +kernel
theorem dX6_leftIn_51 : decode cX6_leftIn 51 = .ok (.iaload, 1) := by decide +kernel
theorem dX6_leftIn_52 : decode cX6_leftIn 52 = .ok (.iconst 1, 1) := by decide +kernel
theorem dX6_leftIn_53 : decode cX6_leftIn 53 = .ok (.iadd, 1) := by decide +kernel
theorem dX6_leftIn_54 : decode cX6_leftIn 54 = .ok (.imul, 1) := by decide +kernel
theorem dX6_leftIn_55 : decode cX6_leftIn 55 = .ok (.aload_n 0, 1) := by decide +kernel
theorem dX6_leftIn_56 : decode cX6_leftIn 56 = .ok (.getfield 13, 3) := by decide +kernel
theorem dX6_leftIn_59 : decode cX6_leftIn 59 = .ok (.iconst 2, 1) := by decide +kernel
theorem dX6_leftIn_60 : decode cX6_leftIn 60 = .ok (.iaload, 1) := by decide +kernel
theorem dX6_leftIn_61 : decode cX6_leftIn 61 = .ok (.idiv, 1) := by decide +kernel
theorem dX6_leftIn_62 : decode cX6_leftIn 62 = .ok (.isub, 1) := by decide +kernel
theorem dX6_leftIn_63 : decode cX6_leftIn 63 = .ok (.aload_n 0, 1) := by decide +kernel
theorem dX6_leftIn_64 : decode cX6_leftIn 64 = .ok (.getfield 46, 3) := by decide +kernel
theorem dX6_leftIn_67 : decode cX6_leftIn 67 = .ok (.bipush 29, 2) := by decide +kernel
theorem dX6_leftIn_69 : decode cX6_leftIn 69 = .ok (.iload_n 1, 1) := by decide +kernel
theorem dX6_leftIn_70 : decode cX6_leftIn 70 = .ok (.iadd, 1) := by decide +kernel
theorem dX6_leftIn_71 : decode cX6_leftIn 71 = .ok (.iaload, 1) := by decide +kernel
theorem dX6_leftIn_72 : decode cX6_leftIn 72 = .ok (.isub, 1) := by decide +kernel
theorem dX6_leftIn_73 : decode cX6_leftIn 73 = .ok (.istore_n 3, 1) := by decide +kernel
theorem dX6_leftIn_74 : decode cX6_leftIn 74 = .ok (.iload_n 3, 1) := by decide +kernel
theorem dX6_leftIn_75 : decode cX6_leftIn 75 = .ok (.iconst 1, 1) := by decide +kernel
theorem dX6_leftIn_76 : decode cX6_leftIn 76 = .ok (.if_icmp .ge 7, 3) := by decide +kernel
theorem dX6_leftIn_79 : decode cX6_leftIn 79 = .ok (.iconst 1, 1) := by decide +kernel
theorem dX6_leftIn_80 : decode cX6_leftIn 80 = .ok (.goto 4, 3) := by decide +kernel
theorem dX6_leftIn_83 : decode cX6_leftIn 83 = .ok (.iload_n 3, 1) := by decide +kernel
theorem dX6_leftIn_84 : decode cX6_leftIn 84 = .ok (.ireturn, 1) := by decide +kernel
theorem dX6_leftNow_0 : decode cX6_leftNow 0 = .ok (.aload_n 0, 1) := by decide +kernel
theorem dX6_leftNow_1 : decode cX6_leftNow 1 = .ok (.iload_n 1, 1) := by decide +kernel
theorem dX6_leftNow_2 : decode cX6_leftNow 2 = .ok (.aload_n 0, 1) := by decide +kernel
theorem dX6_leftNow_3 : decode cX6_leftNow 3 = .ok (.getfield 46, 3) := by decide +kernel
theorem dX6_leftNow_6 : decode cX6_leftNow 6 = .ok (.iconst 0, 1) := by decide +kernel
theorem dX6_leftNow_7 : decode cX6_leftNow 7 = .ok (.iaload, 1) := by decide +kernel
theorem dX6_leftNow_8 : decode cX6_leftNow 8 = .ok (.invokevirtual 145, 3) := by decide +kernel
theorem dX6_leftNow_11 : decode cX6_leftNow 11 = .ok (.ireturn, 1) := by decide +kernel
theorem dX6_person_0 : decode cX6_person 0 = .ok (.aload_n 0, 1) := by decide +kernel
theorem dX6_person_1 : decode cX6_person 1 = .ok (.iconst 0, 1) := by decide +kernel
theorem dX6_person_2 : decode cX6_person 2 = .ok (.putfield 74, 3) := by decide +kernel
theorem dX6_person_5 : decode cX6_person 5 = .ok (.iload_n 1, 1) := by decide +kernel
theorem dX6_person_6 : decode cX6_person 6 = .ok (.iconst 0, 1) := by decide +kernel
theorem dX6_person_7 : decode cX6_person 7 = .ok (.aload_n 0, 1) := by decide +kernel
theorem dX6_person_8 : decode cX6_person 8 = .ok (.getfield 13, 3) := by decide +kernel
theorem dX6_person_11 : decode cX6_person 11 = .ok (.iconst 0, 1) := by decide +kernel
theorem dX6_person_12 : decode cX6_person 12 = .ok (.iaload, 1) := by decide +kernel
theorem dX6_person_13 : decode cX6_person 13 = .ok (.iconst 1, 1) := by decide +kernel
theorem dX6_person_14 : decode cX6_person 14 = .ok (.isub, 1) := by decide +kernel
theorem dX6_person_15 : decode cX6_person 15 = .ok (.invokestatic 78, 3) := by decide +kernel
theorem dX6_person_18 : decode cX6_person 18 = .ok (.ifCond .eq 12, 3) := by decide +kernel
theorem dX6_person_21 : decode cX6_person 21 = .ok (.iload_n 2, 1) := by decide +kernel
theorem dX6_person_22 : decode cX6_person 22 = .ok (.iconst 0, 1) := by decide +kernel
theorem dX6_person_23 : decode cX6_person 23 = .ok (.iconst 1, 1) := by decide +kernel
theorem dX6_person_24 : decode cX6_person 24 = .ok (.invokestatic 78, 3) := by decide +kernel
theorem dX6_person_27 : decode cX6_person 27 = .ok (.ifCond .ne 5, 3) := by decide +kernel
theorem dX6_person_30 : decode cX6_person 30 = .ok (.iconst (-1), 1) := by decide +kernel
theorem dX6_person_31 : decode cX6_person 31 = .ok (.ireturn, 1) := by decide +kernel
theorem dX6_person_32 : decode cX6_person 32 = .ok (.iload_n 2, 1) := by decide +kernel
theorem dX6_person_33 : decode cX6_person 33 = .ok (.ifCond .ne 12, 3) := by decide +kernel
theorem dX6_person_36 : decode cX6_person 36 = .ok (.aload_n 0, 1) := by decide +kernel
theorem dX6_person_37 : decode cX6_person 37 = .ok (.getfield 16, 3) := by decide +kernel
theorem dX6_person_40 : decode cX6_person 40 = .ok (.iload_n 1, 1) := by decide +kernel
theorem dX6_person_41 : decode cX6_person 41 = .ok (.iaload, 1) := by decide +kernel
theorem dX6_person_42 : decode cX6_person 42 = .ok (.goto 9, 3) := by decide +kernel
theorem dX6_person_45 : decode cX6_person 45 = .ok (.aload_n 0, 1) := by decide +kernel
theorem dX6_person_46 : decode cX6_person 46 = .ok (.getfield 19, 3) := by decide +kernel
theorem dX6_person_49 : decode cX6_person 49 = .ok (.iload_n 1, 1) := by decide +kernel
theorem dX6_person_50 : decode cX6_person 50 = .ok (.iaload, 1) := by decide +kernel
theorem dX6_person_51 : decode cX6_person 51 = .ok (.ireturn, 1) := by decide +kernel
theorem dX6_promise_0 : decode cX6_promise 0 = .ok (.aload_n 0, 1) := by decide +kernel
theorem dX6_promise_1 : decode cX6_promise 1 = .ok (.iconst 0, 1) := by decide +kernel
theorem dX6_promise_2 : decode cX6_promise 2 = .ok (.putfield 74, 3) := by decide +kernel
theorem dX6_promise_5 : decode cX6_promise 5 = .ok (.aload_n 0, 1) := by decide +kernel
theorem dX6_promise_6 : decode cX6_promise 6 = .ok (.iload_n 1, 1) := by decide +kernel
theorem dX6_promise_7 : decode cX6_promise 7 = .ok (.invokevirtual 148, 3) := by decide +kernel
theorem dX6_promise_10 : decode cX6_promise 10 = .ok (.ifCond .eq 13, 3) := by decide +kernel
theorem dX6_promise_13 : decode cX6_promise 13 = .ok (.iload_n 2, 1) := by decide +kernel
theorem dX6_promise_14 : decode cX6_promise 14 = .ok (.iconst 0, 1) := by decide +kernel
theorem dX6_promise_15 : decode cX6_promise 15 = .ok (.bipush 7, 2) := by decide +kernel
theorem dX6_promise_17 : decode cX6_promise 17 = .ok (.invokestatic 78, 3) := by decide +kernel
theorem dX6_promise_20 : decode cX6_promise 20 = .ok (.ifCond .ne 5, 3) := by decide +kernel
theorem dX6_promise_23 : decode cX6_promise 23 = .ok (.iconst (-1), 1) := by decide +kernel
theorem dX6_promise_24 : decode cX6_promise 24 = .ok (.ireturn, 1) := by decide +kernel
theorem dX6_promise_25 : decode cX6_promise 25 = .ok (.iload_n 2, 1) := by decide +kernel
theorem dX6_promise_26 : decode cX6_promise 26 = .ok (.iconst 4, 1) := by decide +kernel
theorem dX6_promise_27 : decode cX6_promise 27 = .ok (.if_icmp .ge 51, 3) := by decide +kernel
theorem dX6_promise_30 : decode cX6_promise 30 = .ok (.iload_n 2, 1) := by decide +kernel
theorem dX6_promise_31 : decode cX6_promise 31 = .ok (.ifCond .ne 12, 3) := by decide +kernel
theorem dX6_promise_34 : decode cX6_promise 34 = .ok (.aload_n 0, 1) := by decide +kernel
theorem dX6_promise_35 : decode cX6_promise 35 = .ok (.getfield 22, 3) := by decide +kernel
theorem dX6_promise_38 : decode cX6_promise 38 = .ok (.iload_n 1, 1) := by decide +kernel
theorem dX6_promise_39 : decode cX6_promise 39 = .ok (.iaload, 1) := by decide +kernel
theorem dX6_promise_40 : decode cX6_promise 40 = .ok (.goto 37, 3) := by decide +kernel
theorem dX6_promise_43 : decode cX6_promise 43 = .ok (.iload_n 2, 1) := by decide +kernel
theorem dX6_promise_44 : decode cX6_promise 44 = .ok (.iconst 1, 1) := by decide +kernel
theorem dX6_promise_45 : decode cX6_promise 45 = .ok (.if_icmp .ne 12, 3) := by decide +kernel
theorem dX6_promise_48 : decode cX6_promise 48 = .ok (.aload_n 0, 1) := by decide +kernel
theorem dX6_promise_49 : decode cX6_promise 49 = .ok (.getfield 25, 3) := by decide +kernel
theorem dX6_promise_52 : decode cX6_promise 52 = .ok (.iload_n 1, 1) := by decide +kernel
theorem dX6_promise_53 : decode cX6_promise 53 = .ok (.iaload, 1) := by decide +kernel
theorem dX6_promise_54 : decode cX6_promise 54 = .ok (.goto 23, 3) := by decide +kernel
theorem dX6_promise_57 : decode cX6_promise 57 = .ok (.iload_n 2, 1) := by decide +kernel
theorem dX6_promise_58 : decode cX6_promise 58 = .ok (.iconst 2, 1) := by decide +kernel
theorem dX6_promise_59 : decode cX6_promise 59 = .ok (.if_icmp .ne 12, 3) := by decide +kernel
theorem dX6_promise_62 : decode cX6_promise 62 = .ok (.aload_n 0, 1) := by decide +kernel
theorem dX6_promise_63 : decode cX6_promise 63 = .ok (.getfield 28, 3) := by decide +kernel
theorem dX6_promise_66 : decode cX6_promise 66 = .ok (.iload_n 1, 1) := by decide +kernel
theorem dX6_promise_67 : decode cX6_promise 67 = .ok (.iaload, 1) := by decide +kernel
theorem dX6_promise_68 : decode cX6_promise 68 = .ok (.goto 9, 3) := by decide +kernel
theorem dX6_promise_71 : decode cX6_promise 71 = .ok (.aload_n 0, 1) := by decide +kernel
theorem dX6_promise_72 : decode cX6_promise 72 = .ok (.getfield 31, 3) := by decide +kernel
theorem dX6_promise_75 : decode cX6_promise 75 = .ok (.iload_n 1, 1) := by decide +kernel
theorem dX6_promise_76 : decode cX6_promise 76 = .ok (.iaload, 1) := by decide +kernel
theorem dX6_promise_77 : decode cX6_promise 77 = .ok (.ireturn, 1) := by decide +kernel
theorem dX6_promise_78 : decode cX6_promise 78 = .ok (.iload_n 2, 1) := by decide +kernel
theorem dX6_promise_79 : decode cX6_promise 79 = .ok (.iconst 4, 1) := by decide +kernel
theorem dX6_promise_80 : decode cX6_promise 80 = .ok (.if_icmp .ne 12, 3) := by decide +kernel
theorem dX6_promise_83 : decode cX6_promise 83 = .ok (.aload_n 0, 1) := by decide +kernel
theorem dX6_promise_84 : decode cX6_promise 84 = .ok (.getfield 34, 3) := by decide +kernel
theorem dX6_promise_87 : decode cX6_promise 87 = .ok (.iload_n 1, 1) := by decide +kernel
theorem dX6_promise_88 : decode cX6_promise 88 = .ok (.iaload, 1) := by decide +kernel
theorem dX6_promise_89 : decode cX6_promise 89 = .ok (.goto 41, 3) := by decide +kernel
theorem dX6_promise_92 : decode cX6_promise 92 = .ok (.iload_n 2, 1) := by decide +kernel
theorem dX6_promise_93 : decode cX6_promise 93 = .ok (.iconst 5, 1) := by decide +kernel
theorem dX6_promise_94 : decode cX6_promise 94 = .ok (.if_icmp .ne 12, 3) := by decide +kernel
theorem dX6_promise_97 : decode cX6_promise 97 = .ok (.aload_n 0, 1) := by decide +kernel
theorem dX6_promise_98 : decode cX6_promise 98 = .ok (.getfield 37, 3) := by decide +kernel
theorem dX6_promise_101 : decode cX6_promise 101 = .ok (.iload_n 1, 1) := by decide +kernel
theorem dX6_promise_102 : decode cX6_promise 102 = .ok (.iaload, 1) := by decide +kernel
theorem dX6_promise_103 : decode cX6_promise 103 = .ok (.goto 27, 3) := by decide +kernel
theorem dX6_promise_106 : decode cX6_promise 106 = .ok (.iload_n 2, 1) := by decide +kernel
theorem dX6_promise_107 : decode cX6_promise 107 = .ok (.bipush 6, 2) := by decide +kernel
theorem dX6_promise_109 : decode cX6_promise 109 = .ok (.if_icmp .ne 12, 3) := by decide +kernel
theorem dX6_promise_112 : decode cX6_promise 112 = .ok (.aload_n 0, 1) := by decide +kernel
theorem dX6_promise_113 : decode cX6_promise 113 = .ok (.getfield 43, 3) := by decide +kernel
theorem dX6_promise_116 : decode cX6_promise 116 = .ok (.iload_n 1, 1) := by decide +kernel
theorem dX6_promise_117 : decode cX6_promise 117 = .ok (.iaload, 1) := by decide +kernel
theorem dX6_promise_118 : decode cX6_promise 118 = .ok (.goto 12, 3) := by decide +kernel
theorem dX6_promise_121 : decode cX6_promise 121 = .ok (.aload_n 0, 1) := by decide +kernel
theorem dX6_promise_122 : decode cX6_promise 122 = .ok (.getfield 46, 3) := by decide +kernel
theorem dX6_promise_125 : decode cX6_promise 125 = .ok (.bipush 13, 2) := by decide +kernel
theorem dX6_promise_127 : decode cX6_promise 127 = .ok (.iload_n 1, 1) := by decide +kernel
theorem dX6_promise_128 : decode cX6_promise 128 = .ok (.iadd, 1) := by decide +kernel
theorem dX6_promise_129 : decode cX6_promise 129 = .ok (.iaload, 1) := by decide +kernel
theorem dX6_promise_130 : decode cX6_promise 130 = .ok (.ireturn, 1) := by decide +kernel
theorem dX6_word_0 : decode cX6_word 0 = .ok (.aload_n 0, 1) := by decide +kernel
theorem dX6_word_1 : decode cX6_word 1 = .ok (.iconst 0, 1) := by decide +kernel
theorem dX6_word_2 : decode cX6_word 2 = .ok (.putfield 74, 3) := by decide +kernel
theorem dX6_word_5 : decode cX6_word 5 = .ok (.aload_n 0, 1) := by decide +kernel
theorem dX6_word_6 : decode cX6_word 6 = .ok (.iload_n 1, 1) := by decide +kernel
theorem dX6_word_7 : decode cX6_word 7 = .ok (.invokevirtual 148, 3) := by decide +kernel
theorem dX6_word_10 : decode cX6_word 10 = .ok (.ifCond .eq 12, 3) := by decide +kernel
theorem dX6_word_13 : decode cX6_word 13 = .ok (.iload_n 2, 1) := by decide +kernel
theorem dX6_word_14 : decode cX6_word 14 = .ok (.iconst 0, 1) := by decide +kernel
theorem dX6_word_15 : decode cX6_word 15 = .ok (.iconst 3, 1) := by decide +kernel
theorem dX6_word_16 : decode cX6_word 16 = .ok (.invokestatic 78, 3) := by decide +kernel
theorem dX6_word_19 : decode cX6_word 19 = .ok (.ifCond .ne 5, 3) := by decide +kernel
theorem dX6_word_22 : decode cX6_word 22 = .ok (.iconst (-1), 1) := by decide +kernel
theorem dX6_word_23 : decode cX6_word 23 = .ok (.ireturn, 1) := by decide +kernel
theorem dX6_word_24 : decode cX6_word 24 = .ok (.iload_n 2, 1) := by decide +kernel
theorem dX6_word_25 : decode cX6_word 25 = .ok (.aload_n 0, 1) := by decide +kernel
theorem dX6_word_26 : decode cX6_word 26 = .ok (.iload_n 1, 1) := by decide +kernel
theorem dX6_word_27 : decode cX6_word 27 = .ok (.invokevirtual 151, 3) := by decide +kernel
theorem dX6_word_30 : decode cX6_word 30 = .ok (.if_icmp .ge 16, 3) := by decide +kernel
theorem dX6_word_33 : decode cX6_word 33 = .ok (.aload_n 0, 1) := by decide +kernel
theorem dX6_word_34 : decode cX6_word 34 = .ok (.getfield 40, 3) := by decide +kernel
theorem dX6_word_37 : decode cX6_word 37 = .ok (.iconst 4, 1) := by decide +kernel
theorem dX6_word_38 : decode cX6_word 38 = .ok (.iload_n 1, 1) := by decide +kernel
theorem dX6_word_39 : decode cX6_word 39 = .ok (.imul, 1) := by decide +kernel
theorem dX6_word_40 : decode cX6_word 40 = .ok (.iload_n 2, 1) := by decide +kernel
theorem dX6_word_41 : decode cX6_word 41 = .ok (.iadd, 1) := by decide +kernel
theorem dX6_word_42 : decode cX6_word 42 = .ok (.iaload, 1) := by decide +kernel
theorem dX6_word_43 : decode cX6_word 43 = .ok (.goto 5, 3) := by decide +kernel
theorem dX6_word_46 : decode cX6_word 46 = .ok (.bipush (-9), 2) := by decide +kernel
theorem dX6_word_48 : decode cX6_word 48 = .ok (.ireturn, 1) := by decide +kernel
theorem dX6_slidesOf_0 : decode cX6_slidesOf 0 = .ok (.iconst 0, 1) := by decide +kernel
theorem dX6_slidesOf_1 : decode cX6_slidesOf 1 = .ok (.istore_n 1, 1) := by decide +kernel
theorem dX6_slidesOf_2 : decode cX6_slidesOf 2 = .ok (.iconst 0, 1) := by decide +kernel
theorem dX6_slidesOf_3 : decode cX6_slidesOf 3 = .ok (.istore_n 2, 1) := by decide +kernel
theorem dX6_slidesOf_4 : decode cX6_slidesOf 4 = .ok (.iload_n 2, 1) := by decide +kernel
theorem dX6_slidesOf_5 : decode cX6_slidesOf 5 = .ok (.bipush 6, 2) := by decide +kernel
theorem dX6_slidesOf_7 : decode cX6_slidesOf 7 = .ok (.if_icmp .ge 39, 3) := by decide +kernel
theorem dX6_slidesOf_10 : decode cX6_slidesOf 10 = .ok (.aload_n 0, 1) := by decide +kernel
theorem dX6_slidesOf_11 : decode cX6_slidesOf 11 = .ok (.getfield 62, 3) := by decide +kernel
theorem dX6_slidesOf_14 : decode cX6_slidesOf 14 = .ok (.iload_n 2, 1) := by decide +kernel
theorem dX6_slidesOf_15 : decode cX6_slidesOf 15 = .ok (.aload_n 0, 1) := by decide +kernel
theorem dX6_slidesOf_16 : decode cX6_slidesOf 16 = .ok (.getfield 62, 3) := by decide +kernel
theorem dX6_slidesOf_19 : decode cX6_slidesOf 19 = .ok (.iload_n 2, 1) := by decide +kernel
theorem dX6_slidesOf_20 : decode cX6_slidesOf 20 = .ok (.iaload, 1) := by decide +kernel
theorem dX6_slidesOf_21 : decode cX6_slidesOf 21 = .ok (.bipush 9, 2) := by decide +kernel
theorem dX6_slidesOf_23 : decode cX6_slidesOf 23 = .ok (.if_icmp .ge 14, 3) := by decide +kernel
theorem dX6_slidesOf_26 : decode cX6_slidesOf 26 = .ok (.aload_n 0, 1) := by decide +kernel
theorem dX6_slidesOf_27 : decode cX6_slidesOf 27 = .ok (.getfield 62, 3) := by decide +kernel
theorem dX6_slidesOf_30 : decode cX6_slidesOf 30 = .ok (.iload_n 2, 1) := by decide +kernel
theorem dX6_slidesOf_31 : decode cX6_slidesOf 31 = .ok (.iaload, 1) := by decide +kernel
theorem dX6_slidesOf_32 : decode cX6_slidesOf 32 = .ok (.iconst 1, 1) := by decide +kernel
theorem dX6_slidesOf_33 : decode cX6_slidesOf 33 = .ok (.iadd, 1) := by decide +kernel
theorem dX6_slidesOf_34 : decode cX6_slidesOf 34 = .ok (.goto 5, 3) := by decide +kernel
theorem dX6_slidesOf_37 : decode cX6_slidesOf 37 = .ok (.bipush 9, 2) := by decide +kernel
theorem dX6_slidesOf_39 : decode cX6_slidesOf 39 = .ok (.iastore, 1) := by decide +kernel
theorem dX6_slidesOf_40 : decode cX6_slidesOf 40 = .ok (.iinc 2 1, 3) := by decide +kernel
theorem dX6_slidesOf_43 : decode cX6_slidesOf 43 = .ok (.goto (-39), 3) := by decide +kernel
theorem dX6_slidesOf_46 : decode cX6_slidesOf 46 = .ok (.iconst 0, 1) := by decide +kernel
theorem dX6_slidesOf_47 : decode cX6_slidesOf 47 = .ok (.istore_n 2, 1) := by decide +kernel
theorem dX6_slidesOf_48 : decode cX6_slidesOf 48 = .ok (.iload_n 2, 1) := by decide +kernel
theorem dX6_slidesOf_49 : decode cX6_slidesOf 49 = .ok (.bipush 6, 2) := by decide +kernel
theorem dX6_slidesOf_51 : decode cX6_slidesOf 51 = .ok (.if_icmp .ge 71, 3) := by decide +kernel
theorem dX6_slidesOf_54 : decode cX6_slidesOf 54 = .ok (.aload_n 0, 1) := by decide +kernel
theorem dX6_slidesOf_55 : decode cX6_slidesOf 55 = .ok (.getfield 62, 3) := by decide +kernel
theorem dX6_slidesOf_58 : decode cX6_slidesOf 58 = .ok (.iload_n 2, 1) := by decide +kernel
theorem dX6_slidesOf_59 : decode cX6_slidesOf 59 = .ok (.iaload, 1) := by decide +kernel
theorem dX6_slidesOf_60 : decode cX6_slidesOf 60 = .ok (.iload_n 2, 1) := by decide +kernel
theorem dX6_slidesOf_61 : decode cX6_slidesOf 61 = .ok (.ifCond .le 14, 3) := by decide +kernel
theorem dX6_slidesOf_64 : decode cX6_slidesOf 64 = .ok (.aload_n 0, 1) := by decide +kernel
theorem dX6_slidesOf_65 : decode cX6_slidesOf 65 = .ok (.getfield 62, 3) := by decide +kernel
theorem dX6_slidesOf_68 : decode cX6_slidesOf 68 = .ok (.iload_n 2, 1) := by decide +kernel
theorem dX6_slidesOf_69 : decode cX6_slidesOf 69 = .ok (.iconst 1, 1) := by decide +kernel
theorem dX6_slidesOf_70 : decode cX6_slidesOf 70 = .ok (.isub, 1) := by decide +kernel
theorem dX6_slidesOf_71 : decode cX6_slidesOf 71 = .ok (.iaload, 1) := by decide +kernel
theorem dX6_slidesOf_72 : decode cX6_slidesOf 72 = .ok (.goto 4, 3) := by decide +kernel
theorem dX6_slidesOf_75 : decode cX6_slidesOf 75 = .ok (.iconst 0, 1) := by decide +kernel
theorem dX6_slidesOf_76 : decode cX6_slidesOf 76 = .ok (.iadd, 1) := by decide +kernel
theorem dX6_slidesOf_77 : decode cX6_slidesOf 77 = .ok (.iload_n 2, 1) := by decide +kernel
theorem dX6_slidesOf_78 : decode cX6_slidesOf 78 = .ok (.iconst 5, 1) := by decide +kernel
theorem dX6_slidesOf_79 : decode cX6_slidesOf 79 = .ok (.if_icmp .ge 14, 3) := by decide +kernel
theorem dX6_slidesOf_82 : decode cX6_slidesOf 82 = .ok (.aload_n 0, 1) := by decide +kernel
theorem dX6_slidesOf_83 : decode cX6_slidesOf 83 = .ok (.getfield 62, 3) := by decide +kernel
theorem dX6_slidesOf_86 : decode cX6_slidesOf 86 = .ok (.iload_n 2, 1) := by decide +kernel
theorem dX6_slidesOf_87 : decode cX6_slidesOf 87 = .ok (.iconst 1, 1) := by decide +kernel
theorem dX6_slidesOf_88 : decode cX6_slidesOf 88 = .ok (.iadd, 1) := by decide +kernel
theorem dX6_slidesOf_89 : decode cX6_slidesOf 89 = .ok (.iaload, 1) := by decide +kernel
theorem dX6_slidesOf_90 : decode cX6_slidesOf 90 = .ok (.goto 4, 3) := by decide +kernel
theorem dX6_slidesOf_93 : decode cX6_slidesOf 93 = .ok (.iconst 0, 1) := by decide +kernel
theorem dX6_slidesOf_94 : decode cX6_slidesOf 94 = .ok (.iadd, 1) := by decide +kernel
theorem dX6_slidesOf_95 : decode cX6_slidesOf 95 = .ok (.istore_n 3, 1) := by decide +kernel
theorem dX6_slidesOf_96 : decode cX6_slidesOf 96 = .ok (.iload_n 1, 1) := by decide +kernel
theorem dX6_slidesOf_97 : decode cX6_slidesOf 97 = .ok (.iload_n 3, 1) := by decide +kernel
theorem dX6_slidesOf_98 : decode cX6_slidesOf 98 = .ok (.aload_n 0, 1) := by decide +kernel
theorem dX6_slidesOf_99 : decode cX6_slidesOf 99 = .ok (.getfield 13, 3) := by decide +kernel
theorem dX6_slidesOf_102 : decode cX6_slidesOf 102 = .ok (.iconst 3, 1) := by decide +kernel
theorem dX6_slidesOf_103 : decode cX6_slidesOf 103 = .ok (.iaload, 1) := by decide +kernel
theorem dX6_slidesOf_104 : decode cX6_slidesOf 104 = .ok (.if_icmp .lt 9, 3) := by decide +kernel
theorem dX6_slidesOf_107 : decode cX6_slidesOf 107 = .ok (.iconst 1, 1) := by decide +kernel
theorem dX6_slidesOf_108 : decode cX6_slidesOf 108 = .ok (.iload_n 2, 1) := by decide +kernel
theorem dX6_slidesOf_109 : decode cX6_slidesOf 109 = .ok (.ishl, 1) := by decide +kernel
theorem dX6_slidesOf_110 : decode cX6_slidesOf 110 = .ok (.goto 4, 3) := by decide +kernel
theorem dX6_slidesOf_113 : decode cX6_slidesOf 113 = .ok (.iconst 0, 1) := by decide +kernel
theorem dX6_slidesOf_114 : decode cX6_slidesOf 114 = .ok (.ior, 1) := by decide +kernel
theorem dX6_slidesOf_115 : decode cX6_slidesOf 115 = .ok (.istore_n 1, 1) := by decide +kernel
theorem dX6_slidesOf_116 : decode cX6_slidesOf 116 = .ok (.iinc 2 1, 3) := by decide +kernel
theorem dX6_slidesOf_119 : decode cX6_slidesOf 119 = .ok (.goto (-71), 3) := by decide +kernel
theorem dX6_slidesOf_122 : decode cX6_slidesOf 122 = .ok (.iconst 0, 1) := by decide +kernel
theorem dX6_slidesOf_123 : decode cX6_slidesOf 123 = .ok (.istore_n 2, 1) := by decide +kernel
theorem dX6_slidesOf_124 : decode cX6_slidesOf 124 = .ok (.iload_n 2, 1) := by decide +kernel
theorem dX6_slidesOf_125 : decode cX6_slidesOf 125 = .ok (.bipush 6, 2) := by decide +kernel
theorem dX6_slidesOf_127 : decode cX6_slidesOf 127 = .ok (.if_icmp .ge 34, 3) := by decide +kernel
theorem dX6_slidesOf_130 : decode cX6_slidesOf 130 = .ok (.aload_n 0, 1) := by decide +kernel
theorem dX6_slidesOf_131 : decode cX6_slidesOf 131 = .ok (.getfield 62, 3) := by decide +kernel
theorem dX6_slidesOf_134 : decode cX6_slidesOf 134 = .ok (.iload_n 2, 1) := by decide +kernel
theorem dX6_slidesOf_135 : decode cX6_slidesOf 135 = .ok (.iload_n 1, 1) := by decide +kernel
theorem dX6_slidesOf_136 : decode cX6_slidesOf 136 = .ok (.iload_n 2, 1) := by decide +kernel
theorem dX6_slidesOf_137 : decode cX6_slidesOf 137 = .ok (.ishr, 1) := by decide +kernel
theorem dX6_slidesOf_138 : decode cX6_slidesOf 138 = .ok (.iconst 1, 1) := by decide +kernel
theorem dX6_slidesOf_139 : decode cX6_slidesOf 139 = .ok (.iand, 1) := by decide +kernel
theorem dX6_slidesOf_140 : decode cX6_slidesOf 140 = .ok (.iconst 1, 1) := by decide +kernel
theorem dX6_slidesOf_141 : decode cX6_slidesOf 141 = .ok (.if_icmp .ne 7, 3) := by decide +kernel
theorem dX6_slidesOf_144 : decode cX6_slidesOf 144 = .ok (.iconst 0, 1) := by decide +kernel
theorem dX6_slidesOf_145 : decode cX6_slidesOf 145 = .ok (.goto 9, 3) := by decide +kernel
theorem dX6_slidesOf_148 : decode cX6_slidesOf 148 = .ok (.aload_n 0, 1) := by decide +kernel
theorem dX6_slidesOf_149 : decode cX6_slidesOf 149 = .ok (.getfield 62, 3) := by decide +kernel
theorem dX6_slidesOf_152 : decode cX6_slidesOf 152 = .ok (.iload_n 2, 1) := by decide +kernel
theorem dX6_slidesOf_153 : decode cX6_slidesOf 153 = .ok (.iaload, 1) := by decide +kernel
theorem dX6_slidesOf_154 : decode cX6_slidesOf 154 = .ok (.iastore, 1) := by decide +kernel
theorem dX6_slidesOf_155 : decode cX6_slidesOf 155 = .ok (.iinc 2 1, 3) := by decide +kernel
theorem dX6_slidesOf_158 : decode cX6_slidesOf 158 = .ok (.goto (-34), 3) := by decide +kernel
theorem dX6_slidesOf_161 : decode cX6_slidesOf 161 = .ok (.iload_n 1, 1) := by decide +kernel
theorem dX6_slidesOf_162 : decode cX6_slidesOf 162 = .ok (.ireturn, 1) := by decide +kernel
theorem dX6_wetNow_0 : decode cX6_wetNow 0 = .ok (.iconst 0, 1) := by decide +kernel
theorem dX6_wetNow_1 : decode cX6_wetNow 1 = .ok (.istore_n 1, 1) := by decide +kernel
theorem dX6_wetNow_2 : decode cX6_wetNow 2 = .ok (.iload_n 1, 1) := by decide +kernel
theorem dX6_wetNow_3 : decode cX6_wetNow 3 = .ok (.bipush 6, 2) := by decide +kernel
theorem dX6_wetNow_5 : decode cX6_wetNow 5 = .ok (.if_icmp .ge 24, 3) := by decide +kernel
theorem dX6_wetNow_8 : decode cX6_wetNow 8 = .ok (.aload_n 0, 1) := by decide +kernel
theorem dX6_wetNow_9 : decode cX6_wetNow 9 = .ok (.getfield 62, 3) := by decide +kernel
theorem dX6_wetNow_12 : decode cX6_wetNow 12 = .ok (.iload_n 1, 1) := by decide +kernel
theorem dX6_wetNow_13 : decode cX6_wetNow 13 = .ok (.aload_n 0, 1) := by decide +kernel
theorem dX6_wetNow_14 : decode cX6_wetNow 14 = .ok (.getfield 46, 3) := by decide +kernel
theorem dX6_wetNow_17 : decode cX6_wetNow 17 = .ok (.bipush 7, 2) := by decide +kernel
theorem dX6_wetNow_19 : decode cX6_wetNow 19 = .ok (.iload_n 1, 1) := by decide +kernel
theorem dX6_wetNow_20 : decode cX6_wetNow 20 = .ok (.iadd, 1) := by decide +kernel
theorem dX6_wetNow_21 : decode cX6_wetNow 21 = .ok (.iaload, 1) := by decide +kernel
theorem dX6_wetNow_22 : decode cX6_wetNow 22 = .ok (.iastore, 1) := by decide +kernel
theorem dX6_wetNow_23 : decode cX6_wetNow 23 = .ok (.iinc 1 1, 3) := by decide +kernel
theorem dX6_wetNow_26 : decode cX6_wetNow 26 = .ok (.goto (-24), 3) := by decide +kernel
theorem dX6_wetNow_29 : decode cX6_wetNow 29 = .ok (.return_, 1) := by decide +kernel
theorem dX6_slides_0 : decode cX6_slides 0 = .ok (.aload_n 0, 1) := by decide +kernel
theorem dX6_slides_1 : decode cX6_slides 1 = .ok (.invokevirtual 154, 3) := by decide +kernel
theorem dX6_slides_4 : decode cX6_slides 4 = .ok (.iconst 1, 1) := by decide +kernel
theorem dX6_slides_5 : decode cX6_slides 5 = .ok (.istore_n 2, 1) := by decide +kernel
theorem dX6_slides_6 : decode cX6_slides 6 = .ok (.iload_n 2, 1) := by decide +kernel
theorem dX6_slides_7 : decode cX6_slides 7 = .ok (.bipush 50, 2) := by decide +kernel
theorem dX6_slides_9 : decode cX6_slides 9 = .ok (.if_icmp .gt 23, 3) := by decide +kernel
theorem dX6_slides_12 : decode cX6_slides 12 = .ok (.aload_n 0, 1) := by decide +kernel
theorem dX6_slides_13 : decode cX6_slides 13 = .ok (.invokevirtual 157, 3) := by decide +kernel
theorem dX6_slides_16 : decode cX6_slides 16 = .ok (.iload_n 1, 1) := by decide +kernel
theorem dX6_slides_17 : decode cX6_slides 17 = .ok (.ishr, 1) := by decide +kernel
theorem dX6_slides_18 : decode cX6_slides 18 = .ok (.iconst 1, 1) := by decide +kernel
theorem dX6_slides_19 : decode cX6_slides 19 = .ok (.iand, 1) := by decide +kernel
theorem dX6_slides_20 : decode cX6_slides 20 = .ok (.iconst 1, 1) := by decide +kernel
theorem dX6_slides_21 : decode cX6_slides 21 = .ok (.if_icmp .ne 5, 3) := by decide +kernel
theorem dX6_slides_24 : decode cX6_slides 24 = .ok (.iload_n 2, 1) := by decide +kernel
theorem dX6_slides_25 : decode cX6_slides 25 = .ok (.ireturn, 1) := by decide +kernel
theorem dX6_slides_26 : decode cX6_slides 26 = .ok (.iinc 2 1, 3) := by decide +kernel
theorem dX6_slides_29 : decode cX6_slides 29 = .ok (.goto (-23), 3) := by decide +kernel
theorem dX6_slides_32 : decode cX6_slides 32 = .ok (.bipush (-9), 2) := by decide +kernel
theorem dX6_slides_34 : decode cX6_slides 34 = .ok (.ireturn, 1) := by decide +kernel
theorem dX6_cell_0 : decode cX6_cell 0 = .ok (.aload_n 0, 1) := by decide +kernel
theorem dX6_cell_1 : decode cX6_cell 1 = .ok (.iconst 0, 1) := by decide +kernel
theorem dX6_cell_2 : decode cX6_cell 2 = .ok (.putfield 74, 3) := by decide +kernel
theorem dX6_cell_5 : decode cX6_cell 5 = .ok (.iload_n 1, 1) := by decide +kernel
theorem dX6_cell_6 : decode cX6_cell 6 = .ok (.invokestatic 161, 3) := by decide +kernel
theorem dX6_cell_9 : decode cX6_cell 9 = .ok (.ifCond .eq 12, 3) := by decide +kernel
theorem dX6_cell_12 : decode cX6_cell 12 = .ok (.iload_n 2, 1) := by decide +kernel
theorem dX6_cell_13 : decode cX6_cell 13 = .ok (.iconst 0, 1) := by decide +kernel
theorem dX6_cell_14 : decode cX6_cell 14 = .ok (.iconst 3, 1) := by decide +kernel
theorem dX6_cell_15 : decode cX6_cell 15 = .ok (.invokestatic 78, 3) := by decide +kernel
theorem dX6_cell_18 : decode cX6_cell 18 = .ok (.ifCond .ne 5, 3) := by decide +kernel
theorem dX6_cell_21 : decode cX6_cell 21 = .ok (.iconst (-1), 1) := by decide +kernel
theorem dX6_cell_22 : decode cX6_cell 22 = .ok (.ireturn, 1) := by decide +kernel
theorem dX6_cell_23 : decode cX6_cell 23 = .ok (.iload_n 2, 1) := by decide +kernel
theorem dX6_cell_24 : decode cX6_cell 24 = .ok (.ifCond .ne 14, 3) := by decide +kernel
theorem dX6_cell_27 : decode cX6_cell 27 = .ok (.aload_n 0, 1) := by decide +kernel
theorem dX6_cell_28 : decode cX6_cell 28 = .ok (.getfield 46, 3) := by decide +kernel
theorem dX6_cell_31 : decode cX6_cell 31 = .ok (.iconst 1, 1) := by decide +kernel
theorem dX6_cell_32 : decode cX6_cell 32 = .ok (.iload_n 1, 1) := by decide +kernel
theorem dX6_cell_33 : decode cX6_cell 33 = .ok (.iadd, 1) := by decide +kernel
theorem dX6_cell_34 : decode cX6_cell 34 = .ok (.iaload, 1) := by decide +kernel
theorem dX6_cell_35 : decode cX6_cell 35 = .ok (.goto 38, 3) := by decide +kernel
theorem dX6_cell_38 : decode cX6_cell 38 = .ok (.iload_n 2, 1) := by decide +kernel
theorem dX6_cell_39 : decode cX6_cell 39 = .ok (.iconst 1, 1) := by decide +kernel
theorem dX6_cell_40 : decode cX6_cell 40 = .ok (.if_icmp .ne 15, 3) := by decide +kernel
theorem dX6_cell_43 : decode cX6_cell 43 = .ok (.aload_n 0, 1) := by decide +kernel
theorem dX6_cell_44 : decode cX6_cell 44 = .ok (.getfield 46, 3) := by decide +kernel
theorem dX6_cell_47 : decode cX6_cell 47 = .ok (.bipush 7, 2) := by decide +kernel
theorem dX6_cell_49 : decode cX6_cell 49 = .ok (.iload_n 1, 1) := by decide +kernel
theorem dX6_cell_50 : decode cX6_cell 50 = .ok (.iadd, 1) := by decide +kernel
theorem dX6_cell_51 : decode cX6_cell 51 = .ok (.iaload, 1) := by decide +kernel
theorem dX6_cell_52 : decode cX6_cell 52 = .ok (.goto 21, 3) := by decide +kernel
theorem dX6_cell_55 : decode cX6_cell 55 = .ok (.iload_n 2, 1) := by decide +kernel
theorem dX6_cell_56 : decode cX6_cell 56 = .ok (.iconst 2, 1) := by decide +kernel
theorem dX6_cell_57 : decode cX6_cell 57 = .ok (.if_icmp .ne 11, 3) := by decide +kernel
theorem dX6_cell_60 : decode cX6_cell 60 = .ok (.aload_n 0, 1) := by decide +kernel
theorem dX6_cell_61 : decode cX6_cell 61 = .ok (.iload_n 1, 1) := by decide +kernel
theorem dX6_cell_62 : decode cX6_cell 62 = .ok (.invokevirtual 164, 3) := by decide +kernel
theorem dX6_cell_65 : decode cX6_cell 65 = .ok (.goto 8, 3) := by decide +kernel
theorem dX6_cell_68 : decode cX6_cell 68 = .ok (.aload_n 0, 1) := by decide +kernel
theorem dX6_cell_69 : decode cX6_cell 69 = .ok (.iload_n 1, 1) := by decide +kernel
theorem dX6_cell_70 : decode cX6_cell 70 = .ok (.invokevirtual 167, 3) := by decide +kernel
theorem dX6_cell_73 : decode cX6_cell 73 = .ok (.ireturn, 1) := by decide +kernel
theorem dX6_now_0 : decode cX6_now 0 = .ok (.aload_n 0, 1) := by decide +kernel
theorem dX6_now_1 : decode cX6_now 1 = .ok (.iconst 0, 1) := by decide +kernel
theorem dX6_now_2 : decode cX6_now 2 = .ok (.putfield 74, 3) := by decide +kernel
theorem dX6_now_5 : decode cX6_now 5 = .ok (.iload_n 1, 1) := by decide +kernel
theorem dX6_now_6 : decode cX6_now 6 = .ok (.iconst 0, 1) := by decide +kernel
theorem dX6_now_7 : decode cX6_now 7 = .ok (.iconst 5, 1) := by decide +kernel
theorem dX6_now_8 : decode cX6_now 8 = .ok (.invokestatic 78, 3) := by decide +kernel
theorem dX6_now_11 : decode cX6_now 11 = .ok (.ifCond .ne 5, 3) := by decide +kernel
theorem dX6_now_14 : decode cX6_now 14 = .ok (.iconst (-1), 1) := by decide +kernel
theorem dX6_now_15 : decode cX6_now 15 = .ok (.ireturn, 1) := by decide +kernel
theorem dX6_now_16 : decode cX6_now 16 = .ok (.iload_n 1, 1) := by decide +kernel
theorem dX6_now_17 : decode cX6_now 17 = .ok (.ifCond .ne 12, 3) := by decide +kernel
theorem dX6_now_20 : decode cX6_now 20 = .ok (.aload_n 0, 1) := by decide +kernel
theorem dX6_now_21 : decode cX6_now 21 = .ok (.getfield 46, 3) := by decide +kernel
theorem dX6_now_24 : decode cX6_now 24 = .ok (.iconst 0, 1) := by decide +kernel
theorem dX6_now_25 : decode cX6_now 25 = .ok (.iaload, 1) := by decide +kernel
theorem dX6_now_26 : decode cX6_now 26 = .ok (.goto 22, 3) := by decide +kernel
theorem dX6_now_29 : decode cX6_now 29 = .ok (.iload_n 1, 1) := by decide +kernel
theorem dX6_now_30 : decode cX6_now 30 = .ok (.iconst 5, 1) := by decide +kernel
theorem dX6_now_31 : decode cX6_now 31 = .ok (.if_icmp .ne 10, 3) := by decide +kernel
theorem dX6_now_34 : decode cX6_now 34 = .ok (.aload_n 0, 1) := by decide +kernel
theorem dX6_now_35 : decode cX6_now 35 = .ok (.getfield 142, 3) := by decide +kernel
theorem dX6_now_38 : decode cX6_now 38 = .ok (.goto 10, 3) := by decide +kernel
theorem dX6_now_41 : decode cX6_now 41 = .ok (.aload_n 0, 1) := by decide +kernel
theorem dX6_now_42 : decode cX6_now 42 = .ok (.iload_n 1, 1) := by decide +kernel
theorem dX6_now_43 : decode cX6_now 43 = .ok (.iconst 1, 1) := by decide +kernel
theorem dX6_now_44 : decode cX6_now 44 = .ok (.isub, 1) := by decide +kernel
theorem dX6_now_45 : decode cX6_now 45 = .ok (.invokevirtual 170, 3) := by decide +kernel
theorem dX6_now_48 : decode cX6_now 48 = .ok (.ireturn, 1) := by decide +kernel
theorem dX6_notes_0 : decode cX6_notes 0 = .ok (.aload_n 0, 1) := by decide +kernel
theorem dX6_notes_1 : decode cX6_notes 1 = .ok (.getfield 142, 3) := by decide +kernel
theorem dX6_notes_4 : decode cX6_notes 4 = .ok (.bipush 10, 2) := by decide +kernel
theorem dX6_notes_6 : decode cX6_notes 6 = .ok (.if_icmp .ne 39, 3) := by decide +kernel
theorem dX6_notes_9 : decode cX6_notes 9 = .ok (.iconst 0, 1) := by decide +kernel
theorem dX6_notes_10 : decode cX6_notes 10 = .ok (.istore_n 1, 1) := by decide +kernel
theorem dX6_notes_11 : decode cX6_notes 11 = .ok (.iload_n 1, 1) := by decide +kernel
theorem dX6_notes_12 : decode cX6_notes 12 = .ok (.sipush 333, 3) := by decide +kernel
theorem dX6_notes_15 : decode cX6_notes 15 = .ok (.if_icmp .ge 24, 3) := by decide +kernel
theorem dX6_notes_18 : decode cX6_notes 18 = .ok (.aload_n 0, 1) := by decide +kernel
theorem dX6_notes_19 : decode cX6_notes 19 = .ok (.getfield 56, 3) := by decide +kernel
theorem dX6_notes_22 : decode cX6_notes 22 = .ok (.iload_n 1, 1) := by decide +kernel
theorem dX6_notes_23 : decode cX6_notes 23 = .ok (.aload_n 0, 1) := by decide +kernel
theorem dX6_notes_24 : decode cX6_notes 24 = .ok (.getfield 56, 3) := by decide +kernel
theorem dX6_notes_27 : decode cX6_notes 27 = .ok (.iload_n 1, 1) := by decide +kernel
theorem dX6_notes_28 : decode cX6_notes 28 = .ok (.bipush 37, 2) := by decide +kernel
theorem dX6_notes_30 : decode cX6_notes 30 = .ok (.iadd, 1) := by decide +kernel
theorem dX6_notes_31 : decode cX6_notes 31 = .ok (.iaload, 1) := by decide +kernel
theorem dX6_notes_32 : decode cX6_notes 32 = .ok (.iastore, 1) := by decide +kernel
theorem dX6_notes_33 : decode cX6_notes 33 = .ok (.iinc 1 1, 3) := by decide +kernel
theorem dX6_notes_36 : decode cX6_notes 36 = .ok (.goto (-25), 3) := by decide +kernel
theorem dX6_notes_39 : decode cX6_notes 39 = .ok (.aload_n 0, 1) := by decide +kernel
theorem dX6_notes_40 : decode cX6_notes 40 = .ok (.bipush 9, 2) := by decide +kernel
theorem dX6_notes_42 : decode cX6_notes 42 = .ok (.putfield 142, 3) := by decide +kernel
theorem dX6_notes_45 : decode cX6_notes 45 = .ok (.iconst 0, 1) := by decide +kernel
theorem dX6_notes_46 : decode cX6_notes 46 = .ok (.istore_n 1, 1) := by decide +kernel
theorem dX6_notes_47 : decode cX6_notes 47 = .ok (.iload_n 1, 1) := by decide +kernel
theorem dX6_notes_48 : decode cX6_notes 48 = .ok (.bipush 37, 2) := by decide +kernel
theorem dX6_notes_50 : decode cX6_notes 50 = .ok (.if_icmp .ge 29, 3) := by decide +kernel
theorem dX6_notes_53 : decode cX6_notes 53 = .ok (.aload_n 0, 1) := by decide +kernel
theorem dX6_notes_54 : decode cX6_notes 54 = .ok (.getfield 56, 3) := by decide +kernel
theorem dX6_notes_57 : decode cX6_notes 57 = .ok (.bipush 37, 2) := by decide +kernel
theorem dX6_notes_59 : decode cX6_notes 59 = .ok (.aload_n 0, 1) := by decide +kernel
theorem dX6_notes_60 : decode cX6_notes 60 = .ok (.getfield 142, 3) := by decide +kernel
theorem dX6_notes_63 : decode cX6_notes 63 = .ok (.imul, 1) := by decide +kernel
theorem dX6_notes_64 : decode cX6_notes 64 = .ok (.iload_n 1, 1) := by decide +kernel
theorem dX6_notes_65 : decode cX6_notes 65 = .ok (.iadd, 1) := by decide +kernel
theorem dX6_notes_66 : decode cX6_notes 66 = .ok (.aload_n 0, 1) := by decide +kernel
theorem dX6_notes_67 : decode cX6_notes 67 = .ok (.getfield 46, 3) := by decide +kernel
theorem dX6_notes_70 : decode cX6_notes 70 = .ok (.iload_n 1, 1) := by decide +kernel
theorem dX6_notes_71 : decode cX6_notes 71 = .ok (.iaload, 1) := by decide +kernel
theorem dX6_notes_72 : decode cX6_notes 72 = .ok (.iastore, 1) := by decide +kernel
theorem dX6_notes_73 : decode cX6_notes 73 = .ok (.iinc 1 1, 3) := by decide +kernel
theorem dX6_notes_76 : decode cX6_notes 76 = .ok (.goto (-29), 3) := by decide +kernel
theorem dX6_notes_79 : decode cX6_notes 79 = .ok (.aload_n 0, 1) := by decide +kernel
theorem dX6_notes_80 : decode cX6_notes 80 = .ok (.dup, 1) := by decide +kernel
theorem dX6_notes_81 : decode cX6_notes 81 = .ok (.getfield 142, 3) := by decide +kernel
theorem dX6_notes_84 : decode cX6_notes 84 = .ok (.iconst 1, 1) := by decide +kernel
theorem dX6_notes_85 : decode cX6_notes 85 = .ok (.iadd, 1) := by decide +kernel
theorem dX6_notes_86 : decode cX6_notes 86 = .ok (.putfield 142, 3) := by decide +kernel
theorem dX6_notes_89 : decode cX6_notes 89 = .ok (.return_, 1) := by decide +kernel
theorem dX6_cuts_0 : decode cX6_cuts 0 = .ok (.aload_n 0, 1) := by decide +kernel
theorem dX6_cuts_1 : decode cX6_cuts 1 = .ok (.iconst 0, 1) := by decide +kernel
theorem dX6_cuts_2 : decode cX6_cuts 2 = .ok (.putfield 74, 3) := by decide +kernel
theorem dX6_cuts_5 : decode cX6_cuts 5 = .ok (.iload_n 1, 1) := by decide +kernel
theorem dX6_cuts_6 : decode cX6_cuts 6 = .ok (.invokestatic 161, 3) := by decide +kernel
theorem dX6_cuts_9 : decode cX6_cuts 9 = .ok (.ifCond .ne 5, 3) := by decide +kernel
theorem dX6_cuts_12 : decode cX6_cuts 12 = .ok (.iconst (-1), 1) := by decide +kernel
theorem dX6_cuts_13 : decode cX6_cuts 13 = .ok (.ireturn, 1) := by decide +kernel
theorem dX6_cuts_14 : decode cX6_cuts 14 = .ok (.aload_n 0, 1) := by decide +kernel
theorem dX6_cuts_15 : decode cX6_cuts 15 = .ok (.getfield 46, 3) := by decide +kernel
theorem dX6_cuts_18 : decode cX6_cuts 18 = .ok (.iconst 1, 1) := by decide +kernel
theorem dX6_cuts_19 : decode cX6_cuts 19 = .ok (.iload_n 1, 1) := by decide +kernel
theorem dX6_cuts_20 : decode cX6_cuts 20 = .ok (.iadd, 1) := by decide +kernel
theorem dX6_cuts_21 : decode cX6_cuts 21 = .ok (.iaload, 1) := by decide +kernel
theorem dX6_cuts_22 : decode cX6_cuts 22 = .ok (.bipush 6, 2) := by decide +kernel
theorem dX6_cuts_24 : decode cX6_cuts 24 = .ok (.if_icmp .ne 6, 3) := by decide +kernel
theorem dX6_cuts_27 : decode cX6_cuts 27 = .ok (.bipush (-2), 2) := by decide +kernel
theorem dX6_cuts_29 : decode cX6_cuts 29 = .ok (.ireturn, 1) := by decide +kernel
theorem dX6_cuts_30 : decode cX6_cuts 30 = .ok (.aload_n 0, 1) := by decide +kernel
theorem dX6_cuts_31 : decode cX6_cuts 31 = .ok (.invokevirtual 173, 3) := by decide +kernel
theorem dX6_cuts_34 : decode cX6_cuts 34 = .ok (.iconst 0, 1) := by decide +kernel
theorem dX6_cuts_35 : decode cX6_cuts 35 = .ok (.istore_n 2, 1) := by decide +kernel
theorem dX6_cuts_36 : decode cX6_cuts 36 = .ok (.aload_n 0, 1) := by decide +kernel
theorem dX6_cuts_37 : decode cX6_cuts 37 = .ok (.iload_n 1, 1) := by decide +kernel
theorem dX6_cuts_38 : decode cX6_cuts 38 = .ok (.invokevirtual 164, 3) := by decide +kernel
theorem dX6_cuts_41 : decode cX6_cuts 41 = .ok (.istore_n 3, 1) := by decide +kernel
theorem dX6_cuts_42 : decode cX6_cuts 42 = .ok (.iconst 0, 1) := by decide +kernel
theorem dX6_cuts_43 : decode cX6_cuts 43 = .ok (.istore 4, 2) := by decide +kernel
theorem dX6_cuts_45 : decode cX6_cuts 45 = .ok (.iload 4, 2) := by decide +kernel
theorem dX6_cuts_47 : decode cX6_cuts 47 = .ok (.aload_n 0, 1) := by decide +kernel
theorem dX6_cuts_48 : decode cX6_cuts 48 = .ok (.getfield 13, 3) := by decide +kernel
theorem dX6_cuts_51 : decode cX6_cuts 51 = .ok (.iconst 1, 1) := by decide +kernel
theorem dX6_cuts_52 : decode cX6_cuts 52 = .ok (.iaload, 1) := by decide +kernel
theorem dX6_cuts_53 : decode cX6_cuts 53 = .ok (.if_icmp .ge 67, 3) := by decide +kernel
theorem dX6_cuts_56 : decode cX6_cuts 56 = .ok (.iload_n 3, 1) := by decide +kernel
theorem dX6_cuts_57 : decode cX6_cuts 57 = .ok (.iload 4, 2) := by decide +kernel
theorem dX6_cuts_59 : decode cX6_cuts 59 = .ok (.ishr, 1) := by decide +kernel
theorem dX6_cuts_60 : decode cX6_cuts 60 = .ok (.iconst 1, 1) := by decide +kernel
theorem dX6_cuts_61 : decode cX6_cuts 61 = .ok (.iand, 1) := by decide +kernel
theorem dX6_cuts_62 : decode cX6_cuts 62 = .ok (.iconst 1, 1) := by decide +kernel
theorem dX6_cuts_63 : decode cX6_cuts 63 = .ok (.if_icmp .ne 51, 3) := by decide +kernel
theorem dX6_cuts_66 : decode cX6_cuts 66 = .ok (.aload_n 0, 1) := by decide +kernel
theorem dX6_cuts_67 : decode cX6_cuts 67 = .ok (.getfield 28, 3) := by decide +kernel
theorem dX6_cuts_70 : decode cX6_cuts 70 = .ok (.iload 4, 2) := by decide +kernel
theorem dX6_cuts_72 : decode cX6_cuts 72 = .ok (.iaload, 1) := by decide +kernel
theorem dX6_cuts_73 : decode cX6_cuts 73 = .ok (.aload_n 0, 1) := by decide +kernel
theorem dX6_cuts_74 : decode cX6_cuts 74 = .ok (.getfield 46, 3) := by decide +kernel
theorem dX6_cuts_77 : decode cX6_cuts 77 = .ok (.iconst 1, 1) := by decide +kernel
theorem dX6_cuts_78 : decode cX6_cuts 78 = .ok (.iload_n 1, 1) := by decide +kernel
theorem dX6_cuts_79 : decode cX6_cuts 79 = .ok (.iadd, 1) := by decide +kernel
theorem dX6_cuts_80 : decode cX6_cuts 80 = .ok (.iaload, 1) := by decide +kernel
theorem dX6_cuts_81 : decode cX6_cuts 81 = .ok (.if_icmp .ne 33, 3) := by decide +kernel
theorem dX6_cuts_84 : decode cX6_cuts 84 = .ok (.aload_n 0, 1) := by decide +kernel
theorem dX6_cuts_85 : decode cX6_cuts 85 = .ok (.getfield 46, 3) := by decide +kernel
theorem dX6_cuts_88 : decode cX6_cuts 88 = .ok (.bipush 21, 2) := by decide +kernel
theorem dX6_cuts_90 : decode cX6_cuts 90 = .ok (.iload 4, 2) := by decide +kernel
theorem dX6_cuts_92 : decode cX6_cuts 92 = .ok (.iadd, 1) := by decide +kernel
theorem dX6_cuts_93 : decode cX6_cuts 93 = .ok (.aload_n 0, 1) := by decide +kernel
theorem dX6_cuts_94 : decode cX6_cuts 94 = .ok (.iload 4, 2) := by decide +kernel
theorem dX6_cuts_96 : decode cX6_cuts 96 = .ok (.invokevirtual 151, 3) := by decide +kernel
theorem dX6_cuts_99 : decode cX6_cuts 99 = .ok (.iastore, 1) := by decide +kernel
theorem dX6_cuts_100 : decode cX6_cuts 100 = .ok (.aload_n 0, 1) := by decide +kernel
theorem dX6_cuts_101 : decode cX6_cuts 101 = .ok (.getfield 46, 3) := by decide +kernel
theorem dX6_cuts_104 : decode cX6_cuts 104 = .ok (.bipush 13, 2) := by decide +kernel
theorem dX6_cuts_106 : decode cX6_cuts 106 = .ok (.iload 4, 2) := by decide +kernel
theorem dX6_cuts_108 : decode cX6_cuts 108 = .ok (.iadd, 1) := by decide +kernel
theorem dX6_cuts_109 : decode cX6_cuts 109 = .ok (.iconst 1, 1) := by decide +kernel
theorem dX6_cuts_110 : decode cX6_cuts 110 = .ok (.iastore, 1) := by decide +kernel
theorem dX6_cuts_111 : decode cX6_cuts 111 = .ok (.iinc 2 1, 3) := by decide +kernel
theorem dX6_cuts_114 : decode cX6_cuts 114 = .ok (.iinc 4 1, 3) := by decide +kernel
theorem dX6_cuts_117 : decode cX6_cuts 117 = .ok (.goto (-72), 3) := by decide +kernel
theorem dX6_cuts_120 : decode cX6_cuts 120 = .ok (.aload_n 0, 1) := by decide +kernel
theorem dX6_cuts_121 : decode cX6_cuts 121 = .ok (.getfield 46, 3) := by decide +kernel
theorem dX6_cuts_124 : decode cX6_cuts 124 = .ok (.iconst 1, 1) := by decide +kernel
theorem dX6_cuts_125 : decode cX6_cuts 125 = .ok (.iload_n 1, 1) := by decide +kernel
theorem dX6_cuts_126 : decode cX6_cuts 126 = .ok (.iadd, 1) := by decide +kernel
theorem dX6_cuts_127 : decode cX6_cuts 127 = .ok (.dup2, 1) := by decide +kernel
theorem dX6_cuts_128 : decode cX6_cuts 128 = .ok (.iaload, 1) := by decide +kernel
theorem dX6_cuts_129 : decode cX6_cuts 129 = .ok (.iconst 1, 1) := by decide +kernel
theorem dX6_cuts_130 : decode cX6_cuts 130 = .ok (.iadd, 1) := by decide +kernel
theorem dX6_cuts_131 : decode cX6_cuts 131 = .ok (.iastore, 1) := by decide +kernel
theorem dX6_cuts_132 : decode cX6_cuts 132 = .ok (.iload_n 2, 1) := by decide +kernel
theorem dX6_cuts_133 : decode cX6_cuts 133 = .ok (.ireturn, 1) := by decide +kernel
theorem dX6_drains_0 : decode cX6_drains 0 = .ok (.aload_n 0, 1) := by decide +kernel
theorem dX6_drains_1 : decode cX6_drains 1 = .ok (.iconst 0, 1) := by decide +kernel
theorem dX6_drains_2 : decode cX6_drains 2 = .ok (.putfield 74, 3) := by decide +kernel
theorem dX6_drains_5 : decode cX6_drains 5 = .ok (.iload_n 1, 1) := by decide +kernel
theorem dX6_drains_6 : decode cX6_drains 6 = .ok (.invokestatic 161, 3) := by decide +kernel
theorem dX6_drains_9 : decode cX6_drains 9 = .ok (.ifCond .ne 5, 3) := by decide +kernel
theorem dX6_drains_12 : decode cX6_drains 12 = .ok (.iconst (-1), 1) := by decide +kernel
theorem dX6_drains_13 : decode cX6_drains 13 = .ok (.ireturn, 1) := by decide +kernel
theorem dX6_drains_14 : decode cX6_drains 14 = .ok (.aload_n 0, 1) := by decide +kernel
theorem dX6_drains_15 : decode cX6_drains 15 = .ok (.getfield 46, 3) := by decide +kernel
theorem dX6_drains_18 : decode cX6_drains 18 = .ok (.bipush 7, 2) := by decide +kernel
theorem dX6_drains_20 : decode cX6_drains 20 = .ok (.iload_n 1, 1) := by decide +kernel
theorem dX6_drains_21 : decode cX6_drains 21 = .ok (.iadd, 1) := by decide +kernel
theorem dX6_drains_22 : decode cX6_drains 22 = .ok (.iaload, 1) := by decide +kernel
theorem dX6_drains_23 : decode cX6_drains 23 = .ok (.ifCond .ne 6, 3) := by decide +kernel
theorem dX6_drains_26 : decode cX6_drains 26 = .ok (.bipush (-2), 2) := by decide +kernel
theorem dX6_drains_28 : decode cX6_drains 28 = .ok (.ireturn, 1) := by decide +kernel
theorem dX6_drains_29 : decode cX6_drains 29 = .ok (.aload_n 0, 1) := by decide +kernel
theorem dX6_drains_30 : decode cX6_drains 30 = .ok (.invokevirtual 173, 3) := by decide +kernel
theorem dX6_drains_33 : decode cX6_drains 33 = .ok (.aload_n 0, 1) := by decide +kernel
theorem dX6_drains_34 : decode cX6_drains 34 = .ok (.getfield 46, 3) := by decide +kernel
theorem dX6_drains_37 : decode cX6_drains 37 = .ok (.bipush 7, 2) := by decide +kernel
theorem dX6_drains_39 : decode cX6_drains 39 = .ok (.iload_n 1, 1) := by decide +kernel
theorem dX6_drains_40 : decode cX6_drains 40 = .ok (.iadd, 1) := by decide +kernel
theorem dX6_drains_41 : decode cX6_drains 41 = .ok (.iaload, 1) := by decide +kernel
theorem dX6_drains_42 : decode cX6_drains 42 = .ok (.istore_n 2, 1) := by decide +kernel
theorem dX6_drains_43 : decode cX6_drains 43 = .ok (.aload_n 0, 1) := by decide +kernel
theorem dX6_drains_44 : decode cX6_drains 44 = .ok (.getfield 46, 3) := by decide +kernel
theorem dX6_drains_47 : decode cX6_drains 47 = .ok (.bipush 7, 2) := by decide +kernel
theorem dX6_drains_49 : decode cX6_drains 49 = .ok (.iload_n 1, 1) := by decide +kernel
theorem dX6_drains_50 : decode cX6_drains 50 = .ok (.iadd, 1) := by decide +kernel
theorem dX6_drains_51 : decode cX6_drains 51 = .ok (.iconst 0, 1) := by decide +kernel
theorem dX6_drains_52 : decode cX6_drains 52 = .ok (.iastore, 1) := by decide +kernel
theorem dX6_drains_53 : decode cX6_drains 53 = .ok (.iconst 0, 1) := by decide +kernel
theorem dX6_drains_54 : decode cX6_drains 54 = .ok (.istore_n 3, 1) := by decide +kernel
theorem dX6_drains_55 : decode cX6_drains 55 = .ok (.iload_n 3, 1) := by decide +kernel
theorem dX6_drains_56 : decode cX6_drains 56 = .ok (.aload_n 0, 1) := by decide +kernel
theorem dX6_drains_57 : decode cX6_drains 57 = .ok (.getfield 13, 3) := by decide +kernel
theorem dX6_drains_60 : decode cX6_drains 60 = .ok (.iconst 1, 1) := by decide +kernel
theorem dX6_drains_61 : decode cX6_drains 61 = .ok (.iaload, 1) := by decide +kernel
theorem dX6_drains_62 : decode cX6_drains 62 = .ok (.if_icmp .ge 53, 3) := by decide +kernel
theorem dX6_drains_65 : decode cX6_drains 65 = .ok (.aload_n 0, 1) := by decide +kernel
theorem dX6_drains_66 : decode cX6_drains 66 = .ok (.getfield 46, 3) := by decide +kernel
theorem dX6_drains_69 : decode cX6_drains 69 = .ok (.bipush 29, 2) := by decide +kernel
theorem dX6_drains_71 : decode cX6_drains 71 = .ok (.iload_n 3, 1) := by decide +kernel
theorem dX6_drains_72 : decode cX6_drains 72 = .ok (.iadd, 1) := by decide +kernel
theorem dX6_drains_73 : decode cX6_drains 73 = .ok (.dup2, 1) := by decide +kernel
theorem dX6_drains_74 : decode cX6_drains 74 = .ok (.iaload, 1) := by decide +kernel
theorem dX6_drains_75 : decode cX6_drains 75 = .ok (.aload_n 0, 1) := by decide +kernel
theorem dX6_drains_76 : decode cX6_drains 76 = .ok (.iload_n 1, 1) := by decide +kernel
theorem dX6_drains_77 : decode cX6_drains 77 = .ok (.invokevirtual 164, 3) := by decide +kernel
theorem dX6_drains_80 : decode cX6_drains 80 = .ok (.iload_n 3, 1) := by decide +kernel
theorem dX6_drains_81 : decode cX6_drains 81 = .ok (.ishr, 1) := by decide +kernel
theorem dX6_drains_82 : decode cX6_drains 82 = .ok (.iconst 1, 1) := by decide +kernel
theorem dX6_drains_83 : decode cX6_drains 83 = .ok (.iand, 1) := by decide +kernel
theorem dX6_drains_84 : decode cX6_drains 84 = .ok (.iconst 1, 1) := by decide +kernel
theorem dX6_drains_85 : decode cX6_drains 85 = .ok (.if_icmp .ne 21, 3) := by decide +kernel
theorem dX6_drains_88 : decode cX6_drains 88 = .ok (.aload_n 0, 1) := by decide +kernel
theorem dX6_drains_89 : decode cX6_drains 89 = .ok (.getfield 46, 3) := by decide +kernel
theorem dX6_drains_92 : decode cX6_drains 92 = .ok (.bipush 29, 2) := by decide +kernel
theorem dX6_drains_94 : decode cX6_drains 94 = .ok (.iload_n 3, 1) := by decide +kernel
theorem dX6_drains_95 : decode cX6_drains 95 = .ok (.iadd, 1) := by decide +kernel
theorem dX6_drains_96 : decode cX6_drains 96 = .ok (.iaload, 1) := by decide +kernel
theorem dX6_drains_97 : decode cX6_drains 97 = .ok (.bipush 9, 2) := by decide +kernel
theorem dX6_drains_99 : decode cX6_drains 99 = .ok (.if_icmp .ge 7, 3) := by decide +kernel
theorem dX6_drains_102 : decode cX6_drains 102 = .ok (.iconst 1, 1) := by decide +kernel
theorem dX6_drains_103 : decode cX6_drains 103 = .ok (.goto 4, 3) := by decide +kernel
theorem dX6_drains_106 : decode cX6_drains 106 = .ok (.iconst 0, 1) := by decide +kernel
theorem dX6_drains_107 : decode cX6_drains 107 = .ok (.iadd, 1) := by decide +kernel
theorem dX6_drains_108 : decode cX6_drains 108 = .ok (.iastore, 1) := by decide +kernel
theorem dX6_drains_109 : decode cX6_drains 109 = .ok (.iinc 3 1, 3) := by decide +kernel
theorem dX6_drains_112 : decode cX6_drains 112 = .ok (.goto (-57), 3) := by decide +kernel
theorem dX6_drains_115 : decode cX6_drains 115 = .ok (.iload_n 2, 1) := by decide +kernel
theorem dX6_drains_116 : decode cX6_drains 116 = .ok (.ireturn, 1) := by decide +kernel
theorem dX6_does_0 : decode cX6_does 0 = .ok (.aload_n 0, 1) := by decide +kernel
theorem dX6_does_1 : decode cX6_does 1 = .ok (.iconst 0, 1) := by decide +kernel
theorem dX6_does_2 : decode cX6_does 2 = .ok (.putfield 74, 3) := by decide +kernel
theorem dX6_does_5 : decode cX6_does 5 = .ok (.aload_n 0, 1) := by decide +kernel
theorem dX6_does_6 : decode cX6_does 6 = .ok (.iload_n 1, 1) := by decide +kernel
theorem dX6_does_7 : decode cX6_does 7 = .ok (.invokevirtual 148, 3) := by decide +kernel
theorem dX6_does_10 : decode cX6_does 10 = .ok (.ifCond .ne 5, 3) := by decide +kernel
theorem dX6_does_13 : decode cX6_does 13 = .ok (.iconst (-1), 1) := by decide +kernel
theorem dX6_does_14 : decode cX6_does 14 = .ok (.ireturn, 1) := by decide +kernel
theorem dX6_does_15 : decode cX6_does 15 = .ok (.aload_n 0, 1) := by decide +kernel
theorem dX6_does_16 : decode cX6_does 16 = .ok (.getfield 46, 3) := by decide +kernel
theorem dX6_does_19 : decode cX6_does 19 = .ok (.bipush 13, 2) := by decide +kernel
theorem dX6_does_21 : decode cX6_does 21 = .ok (.iload_n 1, 1) := by decide +kernel
theorem dX6_does_22 : decode cX6_does 22 = .ok (.iadd, 1) := by decide +kernel
theorem dX6_does_23 : decode cX6_does 23 = .ok (.iaload, 1) := by decide +kernel
theorem dX6_does_24 : decode cX6_does 24 = .ok (.iconst 1, 1) := by decide +kernel
theorem dX6_does_25 : decode cX6_does 25 = .ok (.if_icmp .ne 18, 3) := by decide +kernel
theorem dX6_does_28 : decode cX6_does 28 = .ok (.aload_n 0, 1) := by decide +kernel
theorem dX6_does_29 : decode cX6_does 29 = .ok (.getfield 43, 3) := by decide +kernel
theorem dX6_does_32 : decode cX6_does 32 = .ok (.iload_n 1, 1) := by decide +kernel
theorem dX6_does_33 : decode cX6_does 33 = .ok (.iaload, 1) := by decide +kernel
theorem dX6_does_34 : decode cX6_does 34 = .ok (.aload_n 0, 1) := by decide +kernel
theorem dX6_does_35 : decode cX6_does 35 = .ok (.iconst 2, 1) := by decide +kernel
theorem dX6_does_36 : decode cX6_does 36 = .ok (.invokevirtual 170, 3) := by decide +kernel
theorem dX6_does_39 : decode cX6_does 39 = .ok (.iand, 1) := by decide +kernel
theorem dX6_does_40 : decode cX6_does 40 = .ok (.ifCond .eq 6, 3) := by decide +kernel
theorem dX6_does_43 : decode cX6_does 43 = .ok (.bipush (-2), 2) := by decide +kernel
theorem dX6_does_45 : decode cX6_does 45 = .ok (.ireturn, 1) := by decide +kernel
theorem dX6_does_46 : decode cX6_does 46 = .ok (.aload_n 0, 1) := by decide +kernel
theorem dX6_does_47 : decode cX6_does 47 = .ok (.invokevirtual 173, 3) := by decide +kernel
theorem dX6_does_50 : decode cX6_does 50 = .ok (.aload_n 0, 1) := by decide +kernel
theorem dX6_does_51 : decode cX6_does 51 = .ok (.getfield 46, 3) := by decide +kernel
theorem dX6_does_54 : decode cX6_does 54 = .ok (.bipush 13, 2) := by decide +kernel
theorem dX6_does_56 : decode cX6_does 56 = .ok (.iload_n 1, 1) := by decide +kernel
theorem dX6_does_57 : decode cX6_does 57 = .ok (.iadd, 1) := by decide +kernel
theorem dX6_does_58 : decode cX6_does 58 = .ok (.iconst 2, 1) := by decide +kernel
theorem dX6_does_59 : decode cX6_does 59 = .ok (.iastore, 1) := by decide +kernel
theorem dX6_does_60 : decode cX6_does 60 = .ok (.aload_n 0, 1) := by decide +kernel
theorem dX6_does_61 : decode cX6_does 61 = .ok (.iconst 2, 1) := by decide +kernel
theorem dX6_does_62 : decode cX6_does 62 = .ok (.invokevirtual 170, 3) := by decide +kernel
theorem dX6_does_65 : decode cX6_does 65 = .ok (.invokestatic 176, 3) := by decide +kernel
theorem dX6_does_68 : decode cX6_does 68 = .ok (.ireturn, 1) := by decide +kernel
theorem dX6_year_0 : decode cX6_year 0 = .ok (.aload_n 0, 1) := by decide +kernel
theorem dX6_year_1 : decode cX6_year 1 = .ok (.iconst 0, 1) := by decide +kernel
theorem dX6_year_2 : decode cX6_year 2 = .ok (.putfield 74, 3) := by decide +kernel
theorem dX6_year_5 : decode cX6_year 5 = .ok (.aload_n 0, 1) := by decide +kernel
theorem dX6_year_6 : decode cX6_year 6 = .ok (.getfield 46, 3) := by decide +kernel
theorem dX6_year_9 : decode cX6_year 9 = .ok (.iconst 0, 1) := by decide +kernel
theorem dX6_year_10 : decode cX6_year 10 = .ok (.iaload, 1) := by decide +kernel
theorem dX6_year_11 : decode cX6_year 11 = .ok (.sipush 999, 3) := by decide +kernel
theorem dX6_year_14 : decode cX6_year 14 = .ok (.if_icmp .ne 6, 3) := by decide +kernel
theorem dX6_year_17 : decode cX6_year 17 = .ok (.bipush (-2), 2) := by decide +kernel
theorem dX6_year_19 : decode cX6_year 19 = .ok (.ireturn, 1) := by decide +kernel
theorem dX6_year_20 : decode cX6_year 20 = .ok (.aload_n 0, 1) := by decide +kernel
theorem dX6_year_21 : decode cX6_year 21 = .ok (.invokevirtual 173, 3) := by decide +kernel
theorem dX6_year_24 : decode cX6_year 24 = .ok (.aload_n 0, 1) := by decide +kernel
theorem dX6_year_25 : decode cX6_year 25 = .ok (.invokevirtual 154, 3) := by decide +kernel
theorem dX6_year_28 : decode cX6_year 28 = .ok (.aload_n 0, 1) := by decide +kernel
theorem dX6_year_29 : decode cX6_year 29 = .ok (.invokevirtual 157, 3) := by decide +kernel
theorem dX6_year_32 : decode cX6_year 32 = .ok (.istore_n 1, 1) := by decide +kernel
theorem dX6_year_33 : decode cX6_year 33 = .ok (.iconst 0, 1) := by decide +kernel
theorem dX6_year_34 : decode cX6_year 34 = .ok (.istore_n 2, 1) := by decide +kernel
theorem dX6_year_35 : decode cX6_year 35 = .ok (.iconst 0, 1) := by decide +kernel
theorem dX6_year_36 : decode cX6_year 36 = .ok (.istore_n 3, 1) := by decide +kernel
theorem dX6_year_37 : decode cX6_year 37 = .ok (.iload_n 3, 1) := by decide +kernel
theorem dX6_year_38 : decode cX6_year 38 = .ok (.bipush 6, 2) := by decide +kernel
theorem dX6_year_40 : decode cX6_year 40 = .ok (.if_icmp .ge 24, 3) := by decide +kernel
theorem dX6_year_43 : decode cX6_year 43 = .ok (.aload_n 0, 1) := by decide +kernel
theorem dX6_year_44 : decode cX6_year 44 = .ok (.getfield 46, 3) := by decide +kernel
theorem dX6_year_47 : decode cX6_year 47 = .ok (.bipush 7, 2) := by decide +kernel
theorem dX6_year_49 : decode cX6_year 49 = .ok (.iload_n 3, 1) := by decide +kernel
theorem dX6_year_50 : decode cX6_year 50 = .ok (.iadd, 1) := by decide +kernel
theorem dX6_year_51 : decode cX6_year 51 = .ok (.aload_n 0, 1) := by decide +kernel
theorem dX6_year_52 : decode cX6_year 52 = .ok (.getfield 62, 3) := by decide +kernel
theorem dX6_year_55 : decode cX6_year 55 = .ok (.iload_n 3, 1) := by decide +kernel
theorem dX6_year_56 : decode cX6_year 56 = .ok (.iaload, 1) := by decide +kernel
theorem dX6_year_57 : decode cX6_year 57 = .ok (.iastore, 1) := by decide +kernel
theorem dX6_year_58 : decode cX6_year 58 = .ok (.iinc 3 1, 3) := by decide +kernel
theorem dX6_year_61 : decode cX6_year 61 = .ok (.goto (-24), 3) := by decide +kernel
theorem dX6_year_64 : decode cX6_year 64 = .ok (.iconst 0, 1) := by decide +kernel
theorem dX6_year_65 : decode cX6_year 65 = .ok (.istore_n 3, 1) := by decide +kernel
theorem dX6_year_66 : decode cX6_year 66 = .ok (.iload_n 3, 1) := by decide +kernel
theorem dX6_year_67 : decode cX6_year 67 = .ok (.aload_n 0, 1) := by decide +kernel
theorem dX6_year_68 : decode cX6_year 68 = .ok (.getfield 13, 3) := by decide +kernel
theorem dX6_year_71 : decode cX6_year 71 = .ok (.iconst 1, 1) := by decide +kernel
theorem dX6_year_72 : decode cX6_year 72 = .ok (.iaload, 1) := by decide +kernel
theorem dX6_year_73 : decode cX6_year 73 = .ok (.if_icmp .ge 82, 3) := by decide +kernel
theorem dX6_year_76 : decode cX6_year 76 = .ok (.aload_n 0, 1) := by decide +kernel
theorem dX6_year_77 : decode cX6_year 77 = .ok (.getfield 46, 3) := by decide +kernel
theorem dX6_year_80 : decode cX6_year 80 = .ok (.bipush 13, 2) := by decide +kernel
theorem dX6_year_82 : decode cX6_year 82 = .ok (.iload_n 3, 1) := by decide +kernel
theorem dX6_year_83 : decode cX6_year 83 = .ok (.iadd, 1) := by decide +kernel
theorem dX6_year_84 : decode cX6_year 84 = .ok (.iaload, 1) := by decide +kernel
theorem dX6_year_85 : decode cX6_year 85 = .ok (.ifCond .ne 21, 3) := by decide +kernel
theorem dX6_year_88 : decode cX6_year 88 = .ok (.iload_n 1, 1) := by decide +kernel
theorem dX6_year_89 : decode cX6_year 89 = .ok (.aload_n 0, 1) := by decide +kernel
theorem dX6_year_90 : decode cX6_year 90 = .ok (.getfield 25, 3) := by decide +kernel
theorem dX6_year_93 : decode cX6_year 93 = .ok (.iload_n 3, 1) := by decide +kernel
theorem dX6_year_94 : decode cX6_year 94 = .ok (.iaload, 1) := by decide +kernel
theorem dX6_year_95 : decode cX6_year 95 = .ok (.ishr, 1) := by decide +kernel
theorem dX6_year_96 : decode cX6_year 96 = .ok (.iconst 1, 1) := by decide +kernel
theorem dX6_year_97 : decode cX6_year 97 = .ok (.iand, 1) := by decide +kernel
theorem dX6_year_98 : decode cX6_year 98 = .ok (.iconst 1, 1) := by decide +kernel
theorem dX6_year_99 : decode cX6_year 99 = .ok (.if_icmp .ne 7, 3) := by decide +kernel
theorem dX6_year_102 : decode cX6_year 102 = .ok (.iconst 1, 1) := by decide +kernel
theorem dX6_year_103 : decode cX6_year 103 = .ok (.goto 4, 3) := by decide +kernel
theorem dX6_year_106 : decode cX6_year 106 = .ok (.iconst 0, 1) := by decide +kernel
theorem dX6_year_107 : decode cX6_year 107 = .ok (.istore 4, 2) := by decide +kernel
theorem dX6_year_109 : decode cX6_year 109 = .ok (.aload_n 0, 1) := by decide +kernel
theorem dX6_year_110 : decode cX6_year 110 = .ok (.getfield 46, 3) := by decide +kernel
theorem dX6_year_113 : decode cX6_year 113 = .ok (.bipush 13, 2) := by decide +kernel
theorem dX6_year_115 : decode cX6_year 115 = .ok (.iload_n 3, 1) := by decide +kernel
theorem dX6_year_116 : decode cX6_year 116 = .ok (.iadd, 1) := by decide +kernel
theorem dX6_year_117 : decode cX6_year 117 = .ok (.iload 4, 2) := by decide +kernel
theorem dX6_year_119 : decode cX6_year 119 = .ok (.ifCond .eq 7, 3) := by decide +kernel
theorem dX6_year_122 : decode cX6_year 122 = .ok (.iconst 3, 1) := by decide +kernel
theorem dX6_year_123 : decode cX6_year 123 = .ok (.goto 12, 3) := by decide +kernel
theorem dX6_year_126 : decode cX6_year 126 = .ok (.aload_n 0, 1) := by decide +kernel
theorem dX6_year_127 : decode cX6_year 127 = .ok (.getfield 46, 3) := by decide +kernel
theorem dX6_year_130 : decode cX6_year 130 = .ok (.bipush 13, 2) := by decide +kernel
theorem dX6_year_132 : decode cX6_year 132 = .ok (.iload_n 3, 1) := by decide +kernel
theorem dX6_year_133 : decode cX6_year 133 = .ok (.iadd, 1) := by decide +kernel
theorem dX6_year_134 : decode cX6_year 134 = .ok (.iaload, 1) := by decide +kernel
theorem dX6_year_135 : decode cX6_year 135 = .ok (.iastore, 1) := by decide +kernel
theorem dX6_year_136 : decode cX6_year 136 = .ok (.iload_n 2, 1) := by decide +kernel
theorem dX6_year_137 : decode cX6_year 137 = .ok (.iload 4, 2) := by decide +kernel
theorem dX6_year_139 : decode cX6_year 139 = .ok (.ifCond .eq 7, 3) := by decide +kernel
theorem dX6_year_142 : decode cX6_year 142 = .ok (.iconst 1, 1) := by decide +kernel
theorem dX6_year_143 : decode cX6_year 143 = .ok (.goto 4, 3) := by decide +kernel
theorem dX6_year_146 : decode cX6_year 146 = .ok (.iconst 0, 1) := by decide +kernel
theorem dX6_year_147 : decode cX6_year 147 = .ok (.iadd, 1) := by decide +kernel
theorem dX6_year_148 : decode cX6_year 148 = .ok (.istore_n 2, 1) := by decide +kernel
theorem dX6_year_149 : decode cX6_year 149 = .ok (.iinc 3 1, 3) := by decide +kernel
theorem dX6_year_152 : decode cX6_year 152 = .ok (.goto (-86), 3) := by decide +kernel
theorem dX6_year_155 : decode cX6_year 155 = .ok (.aload_n 0, 1) := by decide +kernel
theorem dX6_year_156 : decode cX6_year 156 = .ok (.getfield 46, 3) := by decide +kernel
theorem dX6_year_159 : decode cX6_year 159 = .ok (.iconst 0, 1) := by decide +kernel
theorem dX6_year_160 : decode cX6_year 160 = .ok (.dup2, 1) := by decide +kernel
theorem dX6_year_161 : decode cX6_year 161 = .ok (.iaload, 1) := by decide +kernel
theorem dX6_year_162 : decode cX6_year 162 = .ok (.iconst 1, 1) := by decide +kernel
theorem dX6_year_163 : decode cX6_year 163 = .ok (.iadd, 1) := by decide +kernel
theorem dX6_year_164 : decode cX6_year 164 = .ok (.iastore, 1) := by decide +kernel
theorem dX6_year_165 : decode cX6_year 165 = .ok (.iload_n 2, 1) := by decide +kernel
theorem dX6_year_166 : decode cX6_year 166 = .ok (.ireturn, 1) := by decide +kernel
theorem dX6_undo_0 : decode cX6_undo 0 = .ok (.aload_n 0, 1) := by decide +kernel
theorem dX6_undo_1 : decode cX6_undo 1 = .ok (.iconst 0, 1) := by decide +kernel
theorem dX6_undo_2 : decode cX6_undo 2 = .ok (.putfield 74, 3) := by decide +kernel
theorem dX6_undo_5 : decode cX6_undo 5 = .ok (.aload_n 0, 1) := by decide +kernel
theorem dX6_undo_6 : decode cX6_undo 6 = .ok (.getfield 142, 3) := by decide +kernel
theorem dX6_undo_9 : decode cX6_undo 9 = .ok (.ifCond .ne 6, 3) := by decide +kernel
theorem dX6_undo_12 : decode cX6_undo 12 = .ok (.bipush (-2), 2) := by decide +kernel
theorem dX6_undo_14 : decode cX6_undo 14 = .ok (.ireturn, 1) := by decide +kernel
theorem dX6_undo_15 : decode cX6_undo 15 = .ok (.aload_n 0, 1) := by decide +kernel
theorem dX6_undo_16 : decode cX6_undo 16 = .ok (.dup, 1) := by decide +kernel
theorem dX6_undo_17 : decode cX6_undo 17 = .ok (.getfield 142, 3) := by decide +kernel
theorem dX6_undo_20 : decode cX6_undo 20 = .ok (.iconst 1, 1) := by decide +kernel
theorem dX6_undo_21 : decode cX6_undo 21 = .ok (.isub, 1) := by decide +kernel
theorem dX6_undo_22 : decode cX6_undo 22 = .ok (.putfield 142, 3) := by decide +kernel
theorem dX6_undo_25 : decode cX6_undo 25 = .ok (.iconst 0, 1) := by decide +kernel
theorem dX6_undo_26 : decode cX6_undo 26 = .ok (.istore_n 1, 1) := by decide +kernel
theorem dX6_undo_27 : decode cX6_undo 27 = .ok (.iload_n 1, 1) := by decide +kernel
theorem dX6_undo_28 : decode cX6_undo 28 = .ok (.bipush 37, 2) := by decide +kernel
theorem dX6_undo_30 : decode cX6_undo 30 = .ok (.if_icmp .ge 29, 3) := by decide +kernel
theorem dX6_undo_33 : decode cX6_undo 33 = .ok (.aload_n 0, 1) := by decide +kernel
theorem dX6_undo_34 : decode cX6_undo 34 = .ok (.getfield 46, 3) := by decide +kernel
theorem dX6_undo_37 : decode cX6_undo 37 = .ok (.iload_n 1, 1) := by decide +kernel
theorem dX6_undo_38 : decode cX6_undo 38 = .ok (.aload_n 0, 1) := by decide +kernel
theorem dX6_undo_39 : decode cX6_undo 39 = .ok (.getfield 56, 3) := by decide +kernel
theorem dX6_undo_42 : decode cX6_undo 42 = .ok (.bipush 37, 2) := by decide +kernel
theorem dX6_undo_44 : decode cX6_undo 44 = .ok (.aload_n 0, 1) := by decide +kernel
theorem dX6_undo_45 : decode cX6_undo 45 = .ok (.getfield 142, 3) := by decide +kernel
theorem dX6_undo_48 : decode cX6_undo 48 = .ok (.imul, 1) := by decide +kernel
theorem dX6_undo_49 : decode cX6_undo 49 = .ok (.iload_n 1, 1) := by decide +kernel
theorem dX6_undo_50 : decode cX6_undo 50 = .ok (.iadd, 1) := by decide +kernel
theorem dX6_undo_51 : decode cX6_undo 51 = .ok (.iaload, 1) := by decide +kernel
theorem dX6_undo_52 : decode cX6_undo 52 = .ok (.iastore, 1) := by decide +kernel
theorem dX6_undo_53 : decode cX6_undo 53 = .ok (.iinc 1 1, 3) := by decide +kernel
theorem dX6_undo_56 : decode cX6_undo 56 = .ok (.goto (-29), 3) := by decide +kernel
theorem dX6_undo_59 : decode cX6_undo 59 = .ok (.aload_n 0, 1) := by decide +kernel
theorem dX6_undo_60 : decode cX6_undo 60 = .ok (.getfield 142, 3) := by decide +kernel
theorem dX6_undo_63 : decode cX6_undo 63 = .ok (.ireturn, 1) := by decide +kernel
theorem dX6_left_0 : decode cX6_left 0 = .ok (.aload_n 0, 1) := by decide +kernel
theorem dX6_left_1 : decode cX6_left 1 = .ok (.iconst 0, 1) := by decide +kernel
theorem dX6_left_2 : decode cX6_left 2 = .ok (.putfield 74, 3) := by decide +kernel
theorem dX6_left_5 : decode cX6_left 5 = .ok (.aload_n 0, 1) := by decide +kernel
theorem dX6_left_6 : decode cX6_left 6 = .ok (.iload_n 1, 1) := by decide +kernel
theorem dX6_left_7 : decode cX6_left 7 = .ok (.invokevirtual 148, 3) := by decide +kernel
theorem dX6_left_10 : decode cX6_left 10 = .ok (.ifCond .eq 29, 3) := by decide +kernel
theorem dX6_left_13 : decode cX6_left 13 = .ok (.iload_n 2, 1) := by decide +kernel
theorem dX6_left_14 : decode cX6_left 14 = .ok (.iconst 0, 1) := by decide +kernel
theorem dX6_left_15 : decode cX6_left 15 = .ok (.bipush 99, 2) := by decide +kernel
theorem dX6_left_17 : decode cX6_left 17 = .ok (.invokestatic 78, 3) := by decide +kernel
theorem dX6_left_20 : decode cX6_left 20 = .ok (.ifCond .eq 19, 3) := by decide +kernel
theorem dX6_left_23 : decode cX6_left 23 = .ok (.aload_n 0, 1) := by decide +kernel
theorem dX6_left_24 : decode cX6_left 24 = .ok (.iload_n 1, 1) := by decide +kernel
theorem dX6_left_25 : decode cX6_left 25 = .ok (.aload_n 0, 1) := by decide +kernel
theorem dX6_left_26 : decode cX6_left 26 = .ok (.getfield 46, 3) := by decide +kernel
theorem dX6_left_29 : decode cX6_left 29 = .ok (.iconst 0, 1) := by decide +kernel
theorem dX6_left_30 : decode cX6_left 30 = .ok (.iaload, 1) := by decide +kernel
theorem dX6_left_31 : decode cX6_left 31 = .ok (.iload_n 2, 1) := by decide +kernel
theorem dX6_left_32 : decode cX6_left 32 = .ok (.iadd, 1) := by decide +kernel
theorem dX6_left_33 : decode cX6_left 33 = .ok (.invokevirtual 145, 3) := by decide +kernel
theorem dX6_left_36 : decode cX6_left 36 = .ok (.goto 4, 3) := by decide +kernel
theorem dX6_left_39 : decode cX6_left 39 = .ok (.iconst (-1), 1) := by decide +kernel
theorem dX6_left_40 : decode cX6_left 40 = .ok (.ireturn, 1) := by decide +kernel
theorem dX6_lasts_0 : decode cX6_lasts 0 = .ok (.aload_n 0, 1) := by decide +kernel
theorem dX6_lasts_1 : decode cX6_lasts 1 = .ok (.iconst 0, 1) := by decide +kernel
theorem dX6_lasts_2 : decode cX6_lasts 2 = .ok (.putfield 74, 3) := by decide +kernel
theorem dX6_lasts_5 : decode cX6_lasts 5 = .ok (.iload_n 1, 1) := by decide +kernel
theorem dX6_lasts_6 : decode cX6_lasts 6 = .ok (.iconst 1, 1) := by decide +kernel
theorem dX6_lasts_7 : decode cX6_lasts 7 = .ok (.iconst 4, 1) := by decide +kernel
theorem dX6_lasts_8 : decode cX6_lasts 8 = .ok (.invokestatic 78, 3) := by decide +kernel
theorem dX6_lasts_11 : decode cX6_lasts 11 = .ok (.ifCond .eq 22, 3) := by decide +kernel
theorem dX6_lasts_14 : decode cX6_lasts 14 = .ok (.iload_n 2, 1) := by decide +kernel
theorem dX6_lasts_15 : decode cX6_lasts 15 = .ok (.iconst 1, 1) := by decide +kernel
theorem dX6_lasts_16 : decode cX6_lasts 16 = .ok (.iconst 4, 1) := by decide +kernel
theorem dX6_lasts_17 : decode cX6_lasts 17 = .ok (.invokestatic 78, 3) := by decide +kernel
theorem dX6_lasts_20 : decode cX6_lasts 20 = .ok (.ifCond .eq 13, 3) := by decide +kernel
theorem dX6_lasts_23 : decode cX6_lasts 23 = .ok (.iload_n 3, 1) := by decide +kernel
theorem dX6_lasts_24 : decode cX6_lasts 24 = .ok (.iconst 0, 1) := by decide +kernel
theorem dX6_lasts_25 : decode cX6_lasts 25 = .ok (.bipush 99, 2) := by decide +kernel
theorem dX6_lasts_27 : decode cX6_lasts 27 = .ok (.invokestatic 78, 3) := by decide +kernel
theorem dX6_lasts_30 : decode cX6_lasts 30 = .ok (.ifCond .ne 5, 3) := by decide +kernel
theorem dX6_lasts_33 : decode cX6_lasts 33 = .ok (.iconst (-1), 1) := by decide +kernel
theorem dX6_lasts_34 : decode cX6_lasts 34 = .ok (.ireturn, 1) := by decide +kernel
theorem dX6_lasts_35 : decode cX6_lasts 35 = .ok (.bipush (-9), 2) := by decide +kernel
theorem dX6_lasts_37 : decode cX6_lasts 37 = .ok (.istore 4, 2) := by decide +kernel
theorem dX6_lasts_39 : decode cX6_lasts 39 = .ok (.iconst 0, 1) := by decide +kernel
theorem dX6_lasts_40 : decode cX6_lasts 40 = .ok (.istore 5, 2) := by decide +kernel
theorem dX6_lasts_42 : decode cX6_lasts 42 = .ok (.iload 5, 2) := by decide +kernel
theorem dX6_lasts_44 : decode cX6_lasts 44 = .ok (.bipush 6, 2) := by decide +kernel
theorem dX6_lasts_46 : decode cX6_lasts 46 = .ok (.if_icmp .ge 51, 3) := by decide +kernel
theorem dX6_lasts_49 : decode cX6_lasts 49 = .ok (.iload_n 1, 1) := by decide +kernel
theorem dX6_lasts_50 : decode cX6_lasts 50 = .ok (.iload_n 3, 1) := by decide +kernel
theorem dX6_lasts_51 : decode cX6_lasts 51 = .ok (.iload 5, 2) := by decide +kernel
theorem dX6_lasts_53 : decode cX6_lasts 53 = .ok (.iconst 1, 1) := by decide +kernel
theorem dX6_lasts_54 : decode cX6_lasts 54 = .ok (.iadd, 1) := by decide +kernel
theorem dX6_lasts_55 : decode cX6_lasts 55 = .ok (.imul, 1) := by decide +kernel
theorem dX6_lasts_56 : decode cX6_lasts 56 = .ok (.aload_n 0, 1) := by decide +kernel
theorem dX6_lasts_57 : decode cX6_lasts 57 = .ok (.getfield 13, 3) := by decide +kernel
theorem dX6_lasts_60 : decode cX6_lasts 60 = .ok (.iconst 2, 1) := by decide +kernel
theorem dX6_lasts_61 : decode cX6_lasts 61 = .ok (.iaload, 1) := by decide +kernel
theorem dX6_lasts_62 : decode cX6_lasts 62 = .ok (.idiv, 1) := by decide +kernel
theorem dX6_lasts_63 : decode cX6_lasts 63 = .ok (.isub, 1) := by decide +kernel
theorem dX6_lasts_64 : decode cX6_lasts 64 = .ok (.istore 6, 2) := by decide +kernel
theorem dX6_lasts_66 : decode cX6_lasts 66 = .ok (.iload 6, 2) := by decide +kernel
theorem dX6_lasts_68 : decode cX6_lasts 68 = .ok (.iconst 1, 1) := by decide +kernel
theorem dX6_lasts_69 : decode cX6_lasts 69 = .ok (.if_icmp .ge 7, 3) := by decide +kernel
theorem dX6_lasts_72 : decode cX6_lasts 72 = .ok (.iconst 1, 1) := by decide +kernel
theorem dX6_lasts_73 : decode cX6_lasts 73 = .ok (.goto 5, 3) := by decide +kernel
theorem dX6_lasts_76 : decode cX6_lasts 76 = .ok (.iload 6, 2) := by decide +kernel
theorem dX6_lasts_78 : decode cX6_lasts 78 = .ok (.iload_n 2, 1) := by decide +kernel
theorem dX6_lasts_79 : decode cX6_lasts 79 = .ok (.if_icmp .lt 8, 3) := by decide +kernel
theorem dX6_lasts_82 : decode cX6_lasts 82 = .ok (.iload 5, 2) := by decide +kernel
theorem dX6_lasts_84 : decode cX6_lasts 84 = .ok (.goto 5, 3) := by decide +kernel
theorem dX6_lasts_87 : decode cX6_lasts 87 = .ok (.iload 4, 2) := by decide +kernel
theorem dX6_lasts_89 : decode cX6_lasts 89 = .ok (.istore 4, 2) := by decide +kernel
theorem dX6_lasts_91 : decode cX6_lasts 91 = .ok (.iinc 5 1, 3) := by decide +kernel
theorem dX6_lasts_94 : decode cX6_lasts 94 = .ok (.goto (-52), 3) := by decide +kernel
theorem dX6_lasts_97 : decode cX6_lasts 97 = .ok (.iload 4, 2) := by decide +kernel
theorem dX6_lasts_99 : decode cX6_lasts 99 = .ok (.ireturn, 1) := by decide +kernel
theorem dX6_duty_0 : decode cX6_duty 0 = .ok (.aload_n 0, 1) := by decide +kernel
theorem dX6_duty_1 : decode cX6_duty 1 = .ok (.iconst 0, 1) := by decide +kernel
theorem dX6_duty_2 : decode cX6_duty 2 = .ok (.putfield 74, 3) := by decide +kernel
theorem dX6_duty_5 : decode cX6_duty 5 = .ok (.aload_n 0, 1) := by decide +kernel
theorem dX6_duty_6 : decode cX6_duty 6 = .ok (.iload_n 1, 1) := by decide +kernel
theorem dX6_duty_7 : decode cX6_duty 7 = .ok (.invokevirtual 148, 3) := by decide +kernel
theorem dX6_duty_10 : decode cX6_duty 10 = .ok (.ifCond .eq 13, 3) := by decide +kernel
theorem dX6_duty_13 : decode cX6_duty 13 = .ok (.iload_n 2, 1) := by decide +kernel
theorem dX6_duty_14 : decode cX6_duty 14 = .ok (.iconst 0, 1) := by decide +kernel
theorem dX6_duty_15 : decode cX6_duty 15 = .ok (.bipush 99, 2) := by decide +kernel
theorem dX6_duty_17 : decode cX6_duty 17 = .ok (.invokestatic 78, 3) := by decide +kernel
theorem dX6_duty_20 : decode cX6_duty 20 = .ok (.ifCond .ne 5, 3) := by decide +kernel
theorem dX6_duty_23 : decode cX6_duty 23 = .ok (.iconst (-1), 1) := by decide +kernel
theorem dX6_duty_24 : decode cX6_duty 24 = .ok (.ireturn, 1) := by decide +kernel
theorem dX6_duty_25 : decode cX6_duty 25 = .ok (.aload_n 0, 1) := by decide +kernel
theorem dX6_duty_26 : decode cX6_duty 26 = .ok (.getfield 22, 3) := by decide +kernel
theorem dX6_duty_29 : decode cX6_duty 29 = .ok (.iload_n 1, 1) := by decide +kernel
theorem dX6_duty_30 : decode cX6_duty 30 = .ok (.iaload, 1) := by decide +kernel
theorem dX6_duty_31 : decode cX6_duty 31 = .ok (.istore_n 3, 1) := by decide +kernel
theorem dX6_duty_32 : decode cX6_duty 32 = .ok (.iload_n 3, 1) := by decide +kernel
theorem dX6_duty_33 : decode cX6_duty 33 = .ok (.bipush (-9), 2) := by decide +kernel
theorem dX6_duty_35 : decode cX6_duty 35 = .ok (.if_icmp .eq 30, 3) := by decide +kernel
theorem dX6_duty_38 : decode cX6_duty 38 = .ok (.aload_n 0, 1) := by decide +kernel
theorem dX6_duty_39 : decode cX6_duty 39 = .ok (.getfield 16, 3) := by decide +kernel
theorem dX6_duty_42 : decode cX6_duty 42 = .ok (.iload_n 3, 1) := by decide +kernel
theorem dX6_duty_43 : decode cX6_duty 43 = .ok (.iaload, 1) := by decide +kernel
theorem dX6_duty_44 : decode cX6_duty 44 = .ok (.aload_n 0, 1) := by decide +kernel
theorem dX6_duty_45 : decode cX6_duty 45 = .ok (.getfield 46, 3) := by decide +kernel
theorem dX6_duty_48 : decode cX6_duty 48 = .ok (.iconst 0, 1) := by decide +kernel
theorem dX6_duty_49 : decode cX6_duty 49 = .ok (.iaload, 1) := by decide +kernel
theorem dX6_duty_50 : decode cX6_duty 50 = .ok (.iload_n 2, 1) := by decide +kernel
theorem dX6_duty_51 : decode cX6_duty 51 = .ok (.iadd, 1) := by decide +kernel
theorem dX6_duty_52 : decode cX6_duty 52 = .ok (.if_icmp .gt 13, 3) := by decide +kernel
theorem dX6_duty_55 : decode cX6_duty 55 = .ok (.aload_n 0, 1) := by decide +kernel
theorem dX6_duty_56 : decode cX6_duty 56 = .ok (.getfield 19, 3) := by decide +kernel
theorem dX6_duty_59 : decode cX6_duty 59 = .ok (.iload_n 3, 1) := by decide +kernel
theorem dX6_duty_60 : decode cX6_duty 60 = .ok (.iaload, 1) := by decide +kernel
theorem dX6_duty_61 : decode cX6_duty 61 = .ok (.istore_n 3, 1) := by decide +kernel
theorem dX6_duty_62 : decode cX6_duty 62 = .ok (.goto (-30), 3) := by decide +kernel
theorem dX6_duty_65 : decode cX6_duty 65 = .ok (.iload_n 3, 1) := by decide +kernel
theorem dX6_duty_66 : decode cX6_duty 66 = .ok (.ireturn, 1) := by decide +kernel
theorem dX6_sees_0 : decode cX6_sees 0 = .ok (.aload_n 0, 1) := by decide +kernel
theorem dX6_sees_1 : decode cX6_sees 1 = .ok (.iconst 0, 1) := by decide +kernel
theorem dX6_sees_2 : decode cX6_sees 2 = .ok (.putfield 74, 3) := by decide +kernel
theorem dX6_sees_5 : decode cX6_sees 5 = .ok (.iload_n 1, 1) := by decide +kernel
theorem dX6_sees_6 : decode cX6_sees 6 = .ok (.iconst 0, 1) := by decide +kernel
theorem dX6_sees_7 : decode cX6_sees 7 = .ok (.bipush 9, 2) := by decide +kernel
theorem dX6_sees_9 : decode cX6_sees 9 = .ok (.invokestatic 78, 3) := by decide +kernel
theorem dX6_sees_12 : decode cX6_sees 12 = .ok (.ifCond .ne 5, 3) := by decide +kernel
theorem dX6_sees_15 : decode cX6_sees 15 = .ok (.iconst (-1), 1) := by decide +kernel
theorem dX6_sees_16 : decode cX6_sees 16 = .ok (.ireturn, 1) := by decide +kernel
theorem dX6_sees_17 : decode cX6_sees 17 = .ok (.aload_n 0, 1) := by decide +kernel
theorem dX6_sees_18 : decode cX6_sees 18 = .ok (.getfield 139, 3) := by decide +kernel
theorem dX6_sees_21 : decode cX6_sees 21 = .ok (.iconst 4, 1) := by decide +kernel
theorem dX6_sees_22 : decode cX6_sees 22 = .ok (.if_icmp .ne 6, 3) := by decide +kernel
theorem dX6_sees_25 : decode cX6_sees 25 = .ok (.bipush (-3), 2) := by decide +kernel
theorem dX6_sees_27 : decode cX6_sees 27 = .ok (.ireturn, 1) := by decide +kernel
theorem dX6_sees_28 : decode cX6_sees 28 = .ok (.aload_n 0, 1) := by decide +kernel
theorem dX6_sees_29 : decode cX6_sees 29 = .ok (.getfield 59, 3) := by decide +kernel
theorem dX6_sees_32 : decode cX6_sees 32 = .ok (.aload_n 0, 1) := by decide +kernel
theorem dX6_sees_33 : decode cX6_sees 33 = .ok (.getfield 139, 3) := by decide +kernel
theorem dX6_sees_36 : decode cX6_sees 36 = .ok (.iload_n 1, 1) := by decide +kernel
theorem dX6_sees_37 : decode cX6_sees 37 = .ok (.iastore, 1) := by decide +kernel
theorem dX6_sees_38 : decode cX6_sees 38 = .ok (.aload_n 0, 1) := by decide +kernel
theorem dX6_sees_39 : decode cX6_sees 39 = .ok (.dup, 1) := by decide +kernel
theorem dX6_sees_40 : decode cX6_sees 40 = .ok (.getfield 139, 3) := by decide +kernel
theorem dX6_sees_43 : decode cX6_sees 43 = .ok (.iconst 1, 1) := by decide +kernel
theorem dX6_sees_44 : decode cX6_sees 44 = .ok (.iadd, 1) := by decide +kernel
theorem dX6_sees_45 : decode cX6_sees 45 = .ok (.putfield 139, 3) := by decide +kernel
theorem dX6_sees_48 : decode cX6_sees 48 = .ok (.aload_n 0, 1) := by decide +kernel
theorem dX6_sees_49 : decode cX6_sees 49 = .ok (.getfield 139, 3) := by decide +kernel
theorem dX6_sees_52 : decode cX6_sees 52 = .ok (.ireturn, 1) := by decide +kernel
theorem dX6_forget_0 : decode cX6_forget 0 = .ok (.aload_n 0, 1) := by decide +kernel
theorem dX6_forget_1 : decode cX6_forget 1 = .ok (.iconst 0, 1) := by decide +kernel
theorem dX6_forget_2 : decode cX6_forget 2 = .ok (.putfield 74, 3) := by decide +kernel
theorem dX6_forget_5 : decode cX6_forget 5 = .ok (.aload_n 0, 1) := by decide +kernel
theorem dX6_forget_6 : decode cX6_forget 6 = .ok (.getfield 139, 3) := by decide +kernel
theorem dX6_forget_9 : decode cX6_forget 9 = .ok (.istore_n 1, 1) := by decide +kernel
theorem dX6_forget_10 : decode cX6_forget 10 = .ok (.aload_n 0, 1) := by decide +kernel
theorem dX6_forget_11 : decode cX6_forget 11 = .ok (.iconst 0, 1) := by decide +kernel
theorem dX6_forget_12 : decode cX6_forget 12 = .ok (.putfield 139, 3) := by decide +kernel
theorem dX6_forget_15 : decode cX6_forget 15 = .ok (.iload_n 1, 1) := by decide +kernel
theorem dX6_forget_16 : decode cX6_forget 16 = .ok (.ireturn, 1) := by decide +kernel
theorem dX6_canBe_0 : decode cX6_canBe 0 = .ok (.aload_n 0, 1) := by decide +kernel
theorem dX6_canBe_1 : decode cX6_canBe 1 = .ok (.getfield 46, 3) := by decide +kernel
theorem dX6_canBe_4 : decode cX6_canBe 4 = .ok (.bipush 13, 2) := by decide +kernel
theorem dX6_canBe_6 : decode cX6_canBe 6 = .ok (.iload_n 1, 1) := by decide +kernel
theorem dX6_canBe_7 : decode cX6_canBe 7 = .ok (.iadd, 1) := by decide +kernel
theorem dX6_canBe_8 : decode cX6_canBe 8 = .ok (.iaload, 1) := by decide +kernel
theorem dX6_canBe_9 : decode cX6_canBe 9 = .ok (.ifCond .ne 19, 3) := by decide +kernel
theorem dX6_canBe_12 : decode cX6_canBe 12 = .ok (.aload_n 0, 1) := by decide +kernel
theorem dX6_canBe_13 : decode cX6_canBe 13 = .ok (.iload_n 1, 1) := by decide +kernel
theorem dX6_canBe_14 : decode cX6_canBe 14 = .ok (.invokevirtual 151, 3) := by decide +kernel
theorem dX6_canBe_17 : decode cX6_canBe 17 = .ok (.aload_n 0, 1) := by decide +kernel
theorem dX6_canBe_18 : decode cX6_canBe 18 = .ok (.getfield 139, 3) := by decide +kernel
theorem dX6_canBe_21 : decode cX6_canBe 21 = .ok (.if_icmp .lt 7, 3) := by decide +kernel
theorem dX6_canBe_24 : decode cX6_canBe 24 = .ok (.iconst 1, 1) := by decide +kernel
theorem dX6_canBe_25 : decode cX6_canBe 25 = .ok (.goto 4, 3) := by decide +kernel
theorem dX6_canBe_28 : decode cX6_canBe 28 = .ok (.iconst 0, 1) := by decide +kernel
theorem dX6_canBe_29 : decode cX6_canBe 29 = .ok (.istore_n 2, 1) := by decide +kernel
theorem dX6_canBe_30 : decode cX6_canBe 30 = .ok (.iconst 0, 1) := by decide +kernel
theorem dX6_canBe_31 : decode cX6_canBe 31 = .ok (.istore_n 3, 1) := by decide +kernel
theorem dX6_canBe_32 : decode cX6_canBe 32 = .ok (.iload_n 3, 1) := by decide +kernel
theorem dX6_canBe_33 : decode cX6_canBe 33 = .ok (.aload_n 0, 1) := by decide +kernel
theorem dX6_canBe_34 : decode cX6_canBe 34 = .ok (.getfield 139, 3) := by decide +kernel
theorem dX6_canBe_37 : decode cX6_canBe 37 = .ok (.if_icmp .ge 38, 3) := by decide +kernel
theorem dX6_canBe_40 : decode cX6_canBe 40 = .ok (.iload_n 2, 1) := by decide +kernel
theorem dX6_canBe_41 : decode cX6_canBe 41 = .ok (.ifCond .eq 26, 3) := by decide +kernel
theorem dX6_canBe_44 : decode cX6_canBe 44 = .ok (.aload_n 0, 1) := by decide +kernel
theorem dX6_canBe_45 : decode cX6_canBe 45 = .ok (.getfield 40, 3) := by decide +kernel
theorem dX6_canBe_48 : decode cX6_canBe 48 = .ok (.iconst 4, 1) := by decide +kernel
theorem dX6_canBe_49 : decode cX6_canBe 49 = .ok (.iload_n 1, 1) := by decide +kernel
theorem dX6_canBe_50 : decode cX6_canBe 50 = .ok (.imul, 1) := by decide +kernel
theorem dX6_canBe_51 : decode cX6_canBe 51 = .ok (.iload_n 3, 1) := by decide +kernel
theorem dX6_canBe_52 : decode cX6_canBe 52 = .ok (.iadd, 1) := by decide +kernel
theorem dX6_canBe_53 : decode cX6_canBe 53 = .ok (.iaload, 1) := by decide +kernel
theorem dX6_canBe_54 : decode cX6_canBe 54 = .ok (.aload_n 0, 1) := by decide +kernel
theorem dX6_canBe_55 : decode cX6_canBe 55 = .ok (.getfield 59, 3) := by decide +kernel
theorem dX6_canBe_58 : decode cX6_canBe 58 = .ok (.iload_n 3, 1) := by decide +kernel
theorem dX6_canBe_59 : decode cX6_canBe 59 = .ok (.iaload, 1) := by decide +kernel
theorem dX6_canBe_60 : decode cX6_canBe 60 = .ok (.if_icmp .ne 7, 3) := by decide +kernel
theorem dX6_canBe_63 : decode cX6_canBe 63 = .ok (.iconst 1, 1) := by decide +kernel
theorem dX6_canBe_64 : decode cX6_canBe 64 = .ok (.goto 4, 3) := by decide +kernel
theorem dX6_canBe_67 : decode cX6_canBe 67 = .ok (.iconst 0, 1) := by decide +kernel
theorem dX6_canBe_68 : decode cX6_canBe 68 = .ok (.istore_n 2, 1) := by decide +kernel
theorem dX6_canBe_69 : decode cX6_canBe 69 = .ok (.iinc 3 1, 3) := by decide +kernel
theorem dX6_canBe_72 : decode cX6_canBe 72 = .ok (.goto (-40), 3) := by decide +kernel
theorem dX6_canBe_75 : decode cX6_canBe 75 = .ok (.iload_n 2, 1) := by decide +kernel
theorem dX6_canBe_76 : decode cX6_canBe 76 = .ok (.ireturn, 1) := by decide +kernel
theorem dX6_fits_0 : decode cX6_fits 0 = .ok (.aload_n 0, 1) := by decide +kernel
theorem dX6_fits_1 : decode cX6_fits 1 = .ok (.iconst 0, 1) := by decide +kernel
theorem dX6_fits_2 : decode cX6_fits 2 = .ok (.putfield 74, 3) := by decide +kernel
theorem dX6_fits_5 : decode cX6_fits 5 = .ok (.iconst 0, 1) := by decide +kernel
theorem dX6_fits_6 : decode cX6_fits 6 = .ok (.istore_n 1, 1) := by decide +kernel
theorem dX6_fits_7 : decode cX6_fits 7 = .ok (.iconst 0, 1) := by decide +kernel
theorem dX6_fits_8 : decode cX6_fits 8 = .ok (.istore_n 2, 1) := by decide +kernel
theorem dX6_fits_9 : decode cX6_fits 9 = .ok (.iload_n 2, 1) := by decide +kernel
theorem dX6_fits_10 : decode cX6_fits 10 = .ok (.aload_n 0, 1) := by decide +kernel
theorem dX6_fits_11 : decode cX6_fits 11 = .ok (.getfield 13, 3) := by decide +kernel
theorem dX6_fits_14 : decode cX6_fits 14 = .ok (.iconst 1, 1) := by decide +kernel
theorem dX6_fits_15 : decode cX6_fits 15 = .ok (.iaload, 1) := by decide +kernel
theorem dX6_fits_16 : decode cX6_fits 16 = .ok (.if_icmp .ge 27, 3) := by decide +kernel
theorem dX6_fits_19 : decode cX6_fits 19 = .ok (.iload_n 1, 1) := by decide +kernel
theorem dX6_fits_20 : decode cX6_fits 20 = .ok (.aload_n 0, 1) := by decide +kernel
theorem dX6_fits_21 : decode cX6_fits 21 = .ok (.iload_n 2, 1) := by decide +kernel
theorem dX6_fits_22 : decode cX6_fits 22 = .ok (.invokevirtual 179, 3) := by decide +kernel
theorem dX6_fits_25 : decode cX6_fits 25 = .ok (.ifCond .eq 9, 3) := by decide +kernel
theorem dX6_fits_28 : decode cX6_fits 28 = .ok (.iconst 1, 1) := by decide +kernel
theorem dX6_fits_29 : decode cX6_fits 29 = .ok (.iload_n 2, 1) := by decide +kernel
theorem dX6_fits_30 : decode cX6_fits 30 = .ok (.ishl, 1) := by decide +kernel
theorem dX6_fits_31 : decode cX6_fits 31 = .ok (.goto 4, 3) := by decide +kernel
theorem dX6_fits_34 : decode cX6_fits 34 = .ok (.iconst 0, 1) := by decide +kernel
theorem dX6_fits_35 : decode cX6_fits 35 = .ok (.ior, 1) := by decide +kernel
theorem dX6_fits_36 : decode cX6_fits 36 = .ok (.istore_n 1, 1) := by decide +kernel
theorem dX6_fits_37 : decode cX6_fits 37 = .ok (.iinc 2 1, 3) := by decide +kernel
theorem dX6_fits_40 : decode cX6_fits 40 = .ok (.goto (-31), 3) := by decide +kernel
theorem dX6_fits_43 : decode cX6_fits 43 = .ok (.iload_n 1, 1) := by decide +kernel
theorem dX6_fits_44 : decode cX6_fits 44 = .ok (.ireturn, 1) := by decide +kernel
theorem dX6_likely_0 : decode cX6_likely 0 = .ok (.aload_n 0, 1) := by decide +kernel
theorem dX6_likely_1 : decode cX6_likely 1 = .ok (.iconst 0, 1) := by decide +kernel
theorem dX6_likely_2 : decode cX6_likely 2 = .ok (.putfield 74, 3) := by decide +kernel
theorem dX6_likely_5 : decode cX6_likely 5 = .ok (.iconst 0, 1) := by decide +kernel
theorem dX6_likely_6 : decode cX6_likely 6 = .ok (.istore_n 1, 1) := by decide +kernel
theorem dX6_likely_7 : decode cX6_likely 7 = .ok (.iload_n 1, 1) := by decide +kernel
theorem dX6_likely_8 : decode cX6_likely 8 = .ok (.bipush 10, 2) := by decide +kernel
theorem dX6_likely_10 : decode cX6_likely 10 = .ok (.if_icmp .ge 16, 3) := by decide +kernel
theorem dX6_likely_13 : decode cX6_likely 13 = .ok (.aload_n 0, 1) := by decide +kernel
theorem dX6_likely_14 : decode cX6_likely 14 = .ok (.getfield 65, 3) := by decide +kernel
theorem dX6_likely_17 : decode cX6_likely 17 = .ok (.iload_n 1, 1) := by decide +kernel
theorem dX6_likely_18 : decode cX6_likely 18 = .ok (.iconst 0, 1) := by decide +kernel
theorem dX6_likely_19 : decode cX6_likely 19 = .ok (.iastore, 1) := by decide +kernel
theorem dX6_likely_20 : decode cX6_likely 20 = .ok (.iinc 1 1, 3) := by decide +kernel
theorem dX6_likely_23 : decode cX6_likely 23 = .ok (.goto (-16), 3) := by decide +kernel
theorem dX6_likely_26 : decode cX6_likely 26 = .ok (.iconst 0, 1) := by decide +kernel
theorem dX6_likely_27 : decode cX6_likely 27 = .ok (.istore_n 1, 1) := by decide +kernel
theorem dX6_likely_28 : decode cX6_likely 28 = .ok (.iload_n 1, 1) := by decide +kernel
theorem dX6_likely_29 : decode cX6_likely 29 = .ok (.aload_n 0, 1) := by decide +kernel
theorem dX6_likely_30 : decode cX6_likely 30 = .ok (.getfield 13, 3) := by decide +kernel
theorem dX6_likely_33 : decode cX6_likely 33 = .ok (.iconst 1, 1) := by decide +kernel
theorem dX6_likely_34 : decode cX6_likely 34 = .ok (.iaload, 1) := by decide +kernel
theorem dX6_likely_35 : decode cX6_likely 35 = .ok (.if_icmp .ge 51, 3) := by decide +kernel
theorem dX6_likely_38 : decode cX6_likely 38 = .ok (.aload_n 0, 1) := by decide +kernel
theorem dX6_likely_39 : decode cX6_likely 39 = .ok (.iload_n 1, 1) := by decide +kernel
theorem dX6_likely_40 : decode cX6_likely 40 = .ok (.invokevirtual 179, 3) := by decide +kernel
theorem dX6_likely_43 : decode cX6_likely 43 = .ok (.ifCond .eq 37, 3) := by decide +kernel
theorem dX6_likely_46 : decode cX6_likely 46 = .ok (.aload_n 0, 1) := by decide +kernel
theorem dX6_likely_47 : decode cX6_likely 47 = .ok (.iload_n 1, 1) := by decide +kernel
theorem dX6_likely_48 : decode cX6_likely 48 = .ok (.invokevirtual 151, 3) := by decide +kernel
theorem dX6_likely_51 : decode cX6_likely 51 = .ok (.aload_n 0, 1) := by decide +kernel
theorem dX6_likely_52 : decode cX6_likely 52 = .ok (.getfield 139, 3) := by decide +kernel
theorem dX6_likely_55 : decode cX6_likely 55 = .ok (.if_icmp .le 25, 3) := by decide +kernel
theorem dX6_likely_58 : decode cX6_likely 58 = .ok (.aload_n 0, 1) := by decide +kernel
theorem dX6_likely_59 : decode cX6_likely 59 = .ok (.getfield 65, 3) := by decide +kernel
theorem dX6_likely_62 : decode cX6_likely 62 = .ok (.aload_n 0, 1) := by decide +kernel
theorem dX6_likely_63 : decode cX6_likely 63 = .ok (.getfield 40, 3) := by decide +kernel
theorem dX6_likely_66 : decode cX6_likely 66 = .ok (.iconst 4, 1) := by decide +kernel
theorem dX6_likely_67 : decode cX6_likely 67 = .ok (.iload_n 1, 1) := by decide +kernel
theorem dX6_likely_68 : decode cX6_likely 68 = .ok (.imul, 1) := by decide +kernel
theorem dX6_likely_69 : decode cX6_likely 69 = .ok (.aload_n 0, 1) := by decide +kernel
theorem dX6_likely_70 : decode cX6_likely 70 = .ok (.getfield 139, 3) := by decide +kernel
theorem dX6_likely_73 : decode cX6_likely 73 = .ok (.iadd, 1) := by decide +kernel
theorem dX6_likely_74 : decode cX6_likely 74 = .ok (.iaload, 1) := by decide +kernel
theorem dX6_likely_75 : decode cX6_likely 75 = .ok (.dup2, 1) := by decide +kernel
theorem dX6_likely_76 : decode cX6_likely 76 = .ok (.iaload, 1) := by decide +kernel
theorem dX6_likely_77 : decode cX6_likely 77 = .ok (.iconst 1, 1) := by decide +kernel
theorem dX6_likely_78 : decode cX6_likely 78 = .ok (.iadd, 1) := by decide +kernel
theorem dX6_likely_79 : decode cX6_likely 79 = .ok (.iastore, 1) := by decide +kernel
theorem dX6_likely_80 : decode cX6_likely 80 = .ok (.iinc 1 1, 3) := by decide +kernel
theorem dX6_likely_83 : decode cX6_likely 83 = .ok (.goto (-55), 3) := by decide +kernel
theorem dX6_likely_86 : decode cX6_likely 86 = .ok (.bipush (-9), 2) := by decide +kernel
theorem dX6_likely_88 : decode cX6_likely 88 = .ok (.istore_n 1, 1) := by decide +kernel
theorem dX6_likely_89 : decode cX6_likely 89 = .ok (.iconst 0, 1) := by decide +kernel
theorem dX6_likely_90 : decode cX6_likely 90 = .ok (.istore_n 2, 1) := by decide +kernel
theorem dX6_likely_91 : decode cX6_likely 91 = .ok (.iconst 0, 1) := by decide +kernel
theorem dX6_likely_92 : decode cX6_likely 92 = .ok (.istore_n 3, 1) := by decide +kernel
theorem dX6_likely_93 : decode cX6_likely 93 = .ok (.iload_n 3, 1) := by decide +kernel
theorem dX6_likely_94 : decode cX6_likely 94 = .ok (.bipush 10, 2) := by decide +kernel
theorem dX6_likely_96 : decode cX6_likely 96 = .ok (.if_icmp .ge 46, 3) := by decide +kernel
theorem dX6_likely_99 : decode cX6_likely 99 = .ok (.aload_n 0, 1) := by decide +kernel
theorem dX6_likely_100 : decode cX6_likely 100 = .ok (.getfield 65, 3) := by decide +kernel
theorem dX6_likely_103 : decode cX6_likely 103 = .ok (.iload_n 3, 1) := by decide +kernel
theorem dX6_likely_104 : decode cX6_likely 104 = .ok (.iaload, 1) := by decide +kernel
theorem dX6_likely_105 : decode cX6_likely 105 = .ok (.iload_n 2, 1) := by decide +kernel
theorem dX6_likely_106 : decode cX6_likely 106 = .ok (.if_icmp .le 7, 3) := by decide +kernel
theorem dX6_likely_109 : decode cX6_likely 109 = .ok (.iload_n 3, 1) := by decide +kernel
theorem dX6_likely_110 : decode cX6_likely 110 = .ok (.goto 4, 3) := by decide +kernel
theorem dX6_likely_113 : decode cX6_likely 113 = .ok (.iload_n 1, 1) := by decide +kernel
theorem dX6_likely_114 : decode cX6_likely 114 = .ok (.istore_n 1, 1) := by decide +kernel
theorem dX6_likely_115 : decode cX6_likely 115 = .ok (.aload_n 0, 1) := by decide +kernel
theorem dX6_likely_116 : decode cX6_likely 116 = .ok (.getfield 65, 3) := by decide +kernel
theorem dX6_likely_119 : decode cX6_likely 119 = .ok (.iload_n 3, 1) := by decide +kernel
theorem dX6_likely_120 : decode cX6_likely 120 = .ok (.iaload, 1) := by decide +kernel
theorem dX6_likely_121 : decode cX6_likely 121 = .ok (.iload_n 2, 1) := by decide +kernel
theorem dX6_likely_122 : decode cX6_likely 122 = .ok (.if_icmp .le 12, 3) := by decide +kernel
theorem dX6_likely_125 : decode cX6_likely 125 = .ok (.aload_n 0, 1) := by decide +kernel
theorem dX6_likely_126 : decode cX6_likely 126 = .ok (.getfield 65, 3) := by decide +kernel
theorem dX6_likely_129 : decode cX6_likely 129 = .ok (.iload_n 3, 1) := by decide +kernel
theorem dX6_likely_130 : decode cX6_likely 130 = .ok (.iaload, 1) := by decide +kernel
theorem dX6_likely_131 : decode cX6_likely 131 = .ok (.goto 4, 3) := by decide +kernel
theorem dX6_likely_134 : decode cX6_likely 134 = .ok (.iload_n 2, 1) := by decide +kernel
theorem dX6_likely_135 : decode cX6_likely 135 = .ok (.istore_n 2, 1) := by decide +kernel
theorem dX6_likely_136 : decode cX6_likely 136 = .ok (.iinc 3 1, 3) := by decide +kernel
theorem dX6_likely_139 : decode cX6_likely 139 = .ok (.goto (-46), 3) := by decide +kernel
theorem dX6_likely_142 : decode cX6_likely 142 = .ok (.iload_n 1, 1) := by decide +kernel
theorem dX6_likely_143 : decode cX6_likely 143 = .ok (.ireturn, 1) := by decide +kernel
theorem dX6_wordsOf_0 : decode cX6_wordsOf 0 = .ok (.iconst 0, 1) := by decide +kernel
theorem dX6_wordsOf_1 : decode cX6_wordsOf 1 = .ok (.istore_n 2, 1) := by decide +kernel
theorem dX6_wordsOf_2 : decode cX6_wordsOf 2 = .ok (.iconst 0, 1) := by decide +kernel
theorem dX6_wordsOf_3 : decode cX6_wordsOf 3 = .ok (.istore_n 3, 1) := by decide +kernel
theorem dX6_wordsOf_4 : decode cX6_wordsOf 4 = .ok (.iload_n 3, 1) := by decide +kernel
theorem dX6_wordsOf_5 : decode cX6_wordsOf 5 = .ok (.aload_n 0, 1) := by decide +kernel
theorem dX6_wordsOf_6 : decode cX6_wordsOf 6 = .ok (.getfield 13, 3) := by decide +kernel
theorem dX6_wordsOf_9 : decode cX6_wordsOf 9 = .ok (.iconst 1, 1) := by decide +kernel
theorem dX6_wordsOf_10 : decode cX6_wordsOf 10 = .ok (.iaload, 1) := by decide +kernel
theorem dX6_wordsOf_11 : decode cX6_wordsOf 11 = .ok (.if_icmp .ge 30, 3) := by decide +kernel
theorem dX6_wordsOf_14 : decode cX6_wordsOf 14 = .ok (.iload_n 2, 1) := by decide +kernel
theorem dX6_wordsOf_15 : decode cX6_wordsOf 15 = .ok (.iload_n 1, 1) := by decide +kernel
theorem dX6_wordsOf_16 : decode cX6_wordsOf 16 = .ok (.iload_n 3, 1) := by decide +kernel
theorem dX6_wordsOf_17 : decode cX6_wordsOf 17 = .ok (.ishr, 1) := by decide +kernel
theorem dX6_wordsOf_18 : decode cX6_wordsOf 18 = .ok (.iconst 1, 1) := by decide +kernel
theorem dX6_wordsOf_19 : decode cX6_wordsOf 19 = .ok (.iand, 1) := by decide +kernel
theorem dX6_wordsOf_20 : decode cX6_wordsOf 20 = .ok (.iconst 1, 1) := by decide +kernel
theorem dX6_wordsOf_21 : decode cX6_wordsOf 21 = .ok (.if_icmp .ne 11, 3) := by decide +kernel
theorem dX6_wordsOf_24 : decode cX6_wordsOf 24 = .ok (.aload_n 0, 1) := by decide +kernel
theorem dX6_wordsOf_25 : decode cX6_wordsOf 25 = .ok (.iload_n 3, 1) := by decide +kernel
theorem dX6_wordsOf_26 : decode cX6_wordsOf 26 = .ok (.invokevirtual 151, 3) := by decide +kernel
theorem dX6_wordsOf_29 : decode cX6_wordsOf 29 = .ok (.goto 4, 3) := by decide +kernel
theorem dX6_wordsOf_32 : decode cX6_wordsOf 32 = .ok (.iconst 0, 1) := by decide +kernel
theorem dX6_wordsOf_33 : decode cX6_wordsOf 33 = .ok (.iadd, 1) := by decide +kernel
theorem dX6_wordsOf_34 : decode cX6_wordsOf 34 = .ok (.istore_n 2, 1) := by decide +kernel
theorem dX6_wordsOf_35 : decode cX6_wordsOf 35 = .ok (.iinc 3 1, 3) := by decide +kernel
theorem dX6_wordsOf_38 : decode cX6_wordsOf 38 = .ok (.goto (-34), 3) := by decide +kernel
theorem dX6_wordsOf_41 : decode cX6_wordsOf 41 = .ok (.iload_n 2, 1) := by decide +kernel
theorem dX6_wordsOf_42 : decode cX6_wordsOf 42 = .ok (.ireturn, 1) := by decide +kernel
theorem dX6_agree_0 : decode cX6_agree 0 = .ok (.iconst 1, 1) := by decide +kernel
theorem dX6_agree_1 : decode cX6_agree 1 = .ok (.istore_n 2, 1) := by decide +kernel
theorem dX6_agree_2 : decode cX6_agree 2 = .ok (.iconst 0, 1) := by decide +kernel
theorem dX6_agree_3 : decode cX6_agree 3 = .ok (.istore_n 3, 1) := by decide +kernel
theorem dX6_agree_4 : decode cX6_agree 4 = .ok (.iload_n 3, 1) := by decide +kernel
theorem dX6_agree_5 : decode cX6_agree 5 = .ok (.aload_n 0, 1) := by decide +kernel
theorem dX6_agree_6 : decode cX6_agree 6 = .ok (.getfield 13, 3) := by decide +kernel
theorem dX6_agree_9 : decode cX6_agree 9 = .ok (.iconst 1, 1) := by decide +kernel
theorem dX6_agree_10 : decode cX6_agree 10 = .ok (.iaload, 1) := by decide +kernel
theorem dX6_agree_11 : decode cX6_agree 11 = .ok (.if_icmp .ge 44, 3) := by decide +kernel
theorem dX6_agree_14 : decode cX6_agree 14 = .ok (.iload_n 2, 1) := by decide +kernel
theorem dX6_agree_15 : decode cX6_agree 15 = .ok (.ifCond .eq 32, 3) := by decide +kernel
theorem dX6_agree_18 : decode cX6_agree 18 = .ok (.iload_n 1, 1) := by decide +kernel
theorem dX6_agree_19 : decode cX6_agree 19 = .ok (.iload_n 3, 1) := by decide +kernel
theorem dX6_agree_20 : decode cX6_agree 20 = .ok (.ishr, 1) := by decide +kernel
theorem dX6_agree_21 : decode cX6_agree 21 = .ok (.iconst 1, 1) := by decide +kernel
theorem dX6_agree_22 : decode cX6_agree 22 = .ok (.iand, 1) := by decide +kernel
theorem dX6_agree_23 : decode cX6_agree 23 = .ok (.ifCond .eq 20, 3) := by decide +kernel
theorem dX6_agree_26 : decode cX6_agree 26 = .ok (.aload_n 0, 1) := by decide +kernel
theorem dX6_agree_27 : decode cX6_agree 27 = .ok (.getfield 43, 3) := by decide +kernel
theorem dX6_agree_30 : decode cX6_agree 30 = .ok (.iload_n 3, 1) := by decide +kernel
theorem dX6_agree_31 : decode cX6_agree 31 = .ok (.iaload, 1) := by decide +kernel
theorem dX6_agree_32 : decode cX6_agree 32 = .ok (.iload_n 1, 1) := by decide +kernel
theorem dX6_agree_33 : decode cX6_agree 33 = .ok (.aload_n 0, 1) := by decide +kernel
theorem dX6_agree_34 : decode cX6_agree 34 = .ok (.iconst 2, 1) := by decide +kernel
theorem dX6_agree_35 : decode cX6_agree 35 = .ok (.invokevirtual 170, 3) := by decide +kernel
theorem dX6_agree_38 : decode cX6_agree 38 = .ok (.ior, 1) := by decide +kernel
theorem dX6_agree_39 : decode cX6_agree 39 = .ok (.iand, 1) := by decide +kernel
theorem dX6_agree_40 : decode cX6_agree 40 = .ok (.ifCond .ne 7, 3) := by decide +kernel
theorem dX6_agree_43 : decode cX6_agree 43 = .ok (.iconst 1, 1) := by decide +kernel
theorem dX6_agree_44 : decode cX6_agree 44 = .ok (.goto 4, 3) := by decide +kernel
theorem dX6_agree_47 : decode cX6_agree 47 = .ok (.iconst 0, 1) := by decide +kernel
theorem dX6_agree_48 : decode cX6_agree 48 = .ok (.istore_n 2, 1) := by decide +kernel
theorem dX6_agree_49 : decode cX6_agree 49 = .ok (.iinc 3 1, 3) := by decide +kernel
theorem dX6_agree_52 : decode cX6_agree 52 = .ok (.goto (-48), 3) := by decide +kernel
theorem dX6_agree_55 : decode cX6_agree 55 = .ok (.iload_n 2, 1) := by decide +kernel
theorem dX6_agree_56 : decode cX6_agree 56 = .ok (.ireturn, 1) := by decide +kernel
theorem dX6_kept_0 : decode cX6_kept 0 = .ok (.aload_n 0, 1) := by decide +kernel
theorem dX6_kept_1 : decode cX6_kept 1 = .ok (.iconst 0, 1) := by decide +kernel
theorem dX6_kept_2 : decode cX6_kept 2 = .ok (.putfield 74, 3) := by decide +kernel
theorem dX6_kept_5 : decode cX6_kept 5 = .ok (.iload_n 1, 1) := by decide +kernel
theorem dX6_kept_6 : decode cX6_kept 6 = .ok (.iconst 0, 1) := by decide +kernel
theorem dX6_kept_7 : decode cX6_kept 7 = .ok (.iconst 1, 1) := by decide +kernel
theorem dX6_kept_8 : decode cX6_kept 8 = .ok (.invokestatic 78, 3) := by decide +kernel
theorem dX6_kept_11 : decode cX6_kept 11 = .ok (.ifCond .ne 5, 3) := by decide +kernel
theorem dX6_kept_14 : decode cX6_kept 14 = .ok (.iconst (-1), 1) := by decide +kernel
theorem dX6_kept_15 : decode cX6_kept 15 = .ok (.ireturn, 1) := by decide +kernel
theorem dX6_kept_16 : decode cX6_kept 16 = .ok (.iconst 0, 1) := by decide +kernel
theorem dX6_kept_17 : decode cX6_kept 17 = .ok (.istore_n 2, 1) := by decide +kernel
theorem dX6_kept_18 : decode cX6_kept 18 = .ok (.iconst 0, 1) := by decide +kernel
theorem dX6_kept_19 : decode cX6_kept 19 = .ok (.istore_n 3, 1) := by decide +kernel
theorem dX6_kept_20 : decode cX6_kept 20 = .ok (.iload_n 3, 1) := by decide +kernel
theorem dX6_kept_21 : decode cX6_kept 21 = .ok (.sipush 256, 3) := by decide +kernel
theorem dX6_kept_24 : decode cX6_kept 24 = .ok (.if_icmp .ge 48, 3) := by decide +kernel
theorem dX6_kept_27 : decode cX6_kept 27 = .ok (.iload_n 3, 1) := by decide +kernel
theorem dX6_kept_28 : decode cX6_kept 28 = .ok (.aload_n 0, 1) := by decide +kernel
theorem dX6_kept_29 : decode cX6_kept 29 = .ok (.iconst 1, 1) := by decide +kernel
theorem dX6_kept_30 : decode cX6_kept 30 = .ok (.invokevirtual 170, 3) := by decide +kernel
theorem dX6_kept_33 : decode cX6_kept 33 = .ok (.iconst (-1), 1) := by decide +kernel
theorem dX6_kept_34 : decode cX6_kept 34 = .ok (.ixor, 1) := by decide +kernel
theorem dX6_kept_35 : decode cX6_kept 35 = .ok (.iand, 1) := by decide +kernel
theorem dX6_kept_36 : decode cX6_kept 36 = .ok (.ifCond .ne 28, 3) := by decide +kernel
theorem dX6_kept_39 : decode cX6_kept 39 = .ok (.aload_n 0, 1) := by decide +kernel
theorem dX6_kept_40 : decode cX6_kept 40 = .ok (.iload_n 3, 1) := by decide +kernel
theorem dX6_kept_41 : decode cX6_kept 41 = .ok (.invokevirtual 182, 3) := by decide +kernel
theorem dX6_kept_44 : decode cX6_kept 44 = .ok (.aload_n 0, 1) := by decide +kernel
theorem dX6_kept_45 : decode cX6_kept 45 = .ok (.iload_n 2, 1) := by decide +kernel
theorem dX6_kept_46 : decode cX6_kept 46 = .ok (.invokevirtual 182, 3) := by decide +kernel
theorem dX6_kept_49 : decode cX6_kept 49 = .ok (.if_icmp .le 15, 3) := by decide +kernel
theorem dX6_kept_52 : decode cX6_kept 52 = .ok (.aload_n 0, 1) := by decide +kernel
theorem dX6_kept_53 : decode cX6_kept 53 = .ok (.iload_n 3, 1) := by decide +kernel
theorem dX6_kept_54 : decode cX6_kept 54 = .ok (.invokevirtual 185, 3) := by decide +kernel
theorem dX6_kept_57 : decode cX6_kept 57 = .ok (.ifCond .eq 7, 3) := by decide +kernel
theorem dX6_kept_60 : decode cX6_kept 60 = .ok (.iload_n 3, 1) := by decide +kernel
theorem dX6_kept_61 : decode cX6_kept 61 = .ok (.goto 4, 3) := by decide +kernel
theorem dX6_kept_64 : decode cX6_kept 64 = .ok (.iload_n 2, 1) := by decide +kernel
theorem dX6_kept_65 : decode cX6_kept 65 = .ok (.istore_n 2, 1) := by decide +kernel
theorem dX6_kept_66 : decode cX6_kept 66 = .ok (.iinc 3 1, 3) := by decide +kernel
theorem dX6_kept_69 : decode cX6_kept 69 = .ok (.goto (-49), 3) := by decide +kernel
theorem dX6_kept_72 : decode cX6_kept 72 = .ok (.iload_n 1, 1) := by decide +kernel
theorem dX6_kept_73 : decode cX6_kept 73 = .ok (.ifCond .ne 7, 3) := by decide +kernel
theorem dX6_kept_76 : decode cX6_kept 76 = .ok (.iload_n 2, 1) := by decide +kernel
theorem dX6_kept_77 : decode cX6_kept 77 = .ok (.goto 8, 3) := by decide +kernel
theorem dX6_kept_80 : decode cX6_kept 80 = .ok (.aload_n 0, 1) := by decide +kernel
theorem dX6_kept_81 : decode cX6_kept 81 = .ok (.iload_n 2, 1) := by decide +kernel
theorem dX6_kept_82 : decode cX6_kept 82 = .ok (.invokevirtual 182, 3) := by decide +kernel
theorem dX6_kept_85 : decode cX6_kept 85 = .ok (.ireturn, 1) := by decide +kernel
theorem dX6_soonest_0 : decode cX6_soonest 0 = .ok (.bipush (-9), 2) := by decide +kernel
theorem dX6_soonest_2 : decode cX6_soonest 2 = .ok (.istore_n 2, 1) := by decide +kernel
theorem dX6_soonest_3 : decode cX6_soonest 3 = .ok (.iconst 0, 1) := by decide +kernel
theorem dX6_soonest_4 : decode cX6_soonest 4 = .ok (.istore_n 3, 1) := by decide +kernel
theorem dX6_soonest_5 : decode cX6_soonest 5 = .ok (.iload_n 3, 1) := by decide +kernel
theorem dX6_soonest_6 : decode cX6_soonest 6 = .ok (.aload_n 0, 1) := by decide +kernel
theorem dX6_soonest_7 : decode cX6_soonest 7 = .ok (.getfield 13, 3) := by decide +kernel
theorem dX6_soonest_10 : decode cX6_soonest 10 = .ok (.iconst 1, 1) := by decide +kernel
theorem dX6_soonest_11 : decode cX6_soonest 11 = .ok (.iaload, 1) := by decide +kernel
theorem dX6_soonest_12 : decode cX6_soonest 12 = .ok (.if_icmp .ge 45, 3) := by decide +kernel
theorem dX6_soonest_15 : decode cX6_soonest 15 = .ok (.iload_n 1, 1) := by decide +kernel
theorem dX6_soonest_16 : decode cX6_soonest 16 = .ok (.iload_n 3, 1) := by decide +kernel
theorem dX6_soonest_17 : decode cX6_soonest 17 = .ok (.ishr, 1) := by decide +kernel
theorem dX6_soonest_18 : decode cX6_soonest 18 = .ok (.iconst 1, 1) := by decide +kernel
theorem dX6_soonest_19 : decode cX6_soonest 19 = .ok (.iand, 1) := by decide +kernel
theorem dX6_soonest_20 : decode cX6_soonest 20 = .ok (.iconst 1, 1) := by decide +kernel
theorem dX6_soonest_21 : decode cX6_soonest 21 = .ok (.if_icmp .ne 28, 3) := by decide +kernel
theorem dX6_soonest_24 : decode cX6_soonest 24 = .ok (.iload_n 2, 1) := by decide +kernel
theorem dX6_soonest_25 : decode cX6_soonest 25 = .ok (.bipush (-9), 2) := by decide +kernel
theorem dX6_soonest_27 : decode cX6_soonest 27 = .ok (.if_icmp .eq 18, 3) := by decide +kernel
theorem dX6_soonest_30 : decode cX6_soonest 30 = .ok (.aload_n 0, 1) := by decide +kernel
theorem dX6_soonest_31 : decode cX6_soonest 31 = .ok (.getfield 34, 3) := by decide +kernel
theorem dX6_soonest_34 : decode cX6_soonest 34 = .ok (.iload_n 3, 1) := by decide +kernel
theorem dX6_soonest_35 : decode cX6_soonest 35 = .ok (.iaload, 1) := by decide +kernel
theorem dX6_soonest_36 : decode cX6_soonest 36 = .ok (.aload_n 0, 1) := by decide +kernel
theorem dX6_soonest_37 : decode cX6_soonest 37 = .ok (.getfield 34, 3) := by decide +kernel
theorem dX6_soonest_40 : decode cX6_soonest 40 = .ok (.iload_n 2, 1) := by decide +kernel
theorem dX6_soonest_41 : decode cX6_soonest 41 = .ok (.iaload, 1) := by decide +kernel
theorem dX6_soonest_42 : decode cX6_soonest 42 = .ok (.if_icmp .ge 7, 3) := by decide +kernel
theorem dX6_soonest_45 : decode cX6_soonest 45 = .ok (.iload_n 3, 1) := by decide +kernel
theorem dX6_soonest_46 : decode cX6_soonest 46 = .ok (.goto 4, 3) := by decide +kernel
theorem dX6_soonest_49 : decode cX6_soonest 49 = .ok (.iload_n 2, 1) := by decide +kernel
theorem dX6_soonest_50 : decode cX6_soonest 50 = .ok (.istore_n 2, 1) := by decide +kernel
theorem dX6_soonest_51 : decode cX6_soonest 51 = .ok (.iinc 3 1, 3) := by decide +kernel
theorem dX6_soonest_54 : decode cX6_soonest 54 = .ok (.goto (-49), 3) := by decide +kernel
theorem dX6_soonest_57 : decode cX6_soonest 57 = .ok (.iload_n 2, 1) := by decide +kernel
theorem dX6_soonest_58 : decode cX6_soonest 58 = .ok (.ireturn, 1) := by decide +kernel
theorem dX6_canOrder_0 : decode cX6_canOrder 0 = .ok (.aload_n 0, 1) := by decide +kernel
theorem dX6_canOrder_1 : decode cX6_canOrder 1 = .ok (.getfield 46, 3) := by decide +kernel
theorem dX6_canOrder_4 : decode cX6_canOrder 4 = .ok (.iconst 0, 1) := by decide +kernel
theorem dX6_canOrder_5 : decode cX6_canOrder 5 = .ok (.iaload, 1) := by decide +kernel
theorem dX6_canOrder_6 : decode cX6_canOrder 6 = .ok (.istore_n 2, 1) := by decide +kernel
theorem dX6_canOrder_7 : decode cX6_canOrder 7 = .ok (.iconst 1, 1) := by decide +kernel
theorem dX6_canOrder_8 : decode cX6_canOrder 8 = .ok (.istore_n 3, 1) := by decide +kernel
theorem dX6_canOrder_9 : decode cX6_canOrder 9 = .ok (.iload_n 1, 1) := by decide +kernel
theorem dX6_canOrder_10 : decode cX6_canOrder 10 = .ok (.istore 4, 2) := by decide +kernel
theorem dX6_canOrder_12 : decode cX6_canOrder 12 = .ok (.iload 4, 2) := by decide +kernel
theorem dX6_canOrder_14 : decode cX6_canOrder 14 = .ok (.ifCond .eq 56, 3) := by decide +kernel
theorem dX6_canOrder_17 : decode cX6_canOrder 17 = .ok (.aload_n 0, 1) := by decide +kernel
theorem dX6_canOrder_18 : decode cX6_canOrder 18 = .ok (.iload 4, 2) := by decide +kernel
theorem dX6_canOrder_20 : decode cX6_canOrder 20 = .ok (.invokevirtual 188, 3) := by decide +kernel
theorem dX6_canOrder_23 : decode cX6_canOrder 23 = .ok (.istore 5, 2) := by decide +kernel
theorem dX6_canOrder_25 : decode cX6_canOrder 25 = .ok (.iload 4, 2) := by decide +kernel
theorem dX6_canOrder_27 : decode cX6_canOrder 27 = .ok (.iconst 1, 1) := by decide +kernel
theorem dX6_canOrder_28 : decode cX6_canOrder 28 = .ok (.iload 5, 2) := by decide +kernel
theorem dX6_canOrder_30 : decode cX6_canOrder 30 = .ok (.ishl, 1) := by decide +kernel
theorem dX6_canOrder_31 : decode cX6_canOrder 31 = .ok (.iconst (-1), 1) := by decide +kernel
theorem dX6_canOrder_32 : decode cX6_canOrder 32 = .ok (.ixor, 1) := by decide +kernel
theorem dX6_canOrder_33 : decode cX6_canOrder 33 = .ok (.iand, 1) := by decide +kernel
theorem dX6_canOrder_34 : decode cX6_canOrder 34 = .ok (.istore 4, 2) := by decide +kernel
theorem dX6_canOrder_36 : decode cX6_canOrder 36 = .ok (.iload_n 2, 1) := by decide +kernel
theorem dX6_canOrder_37 : decode cX6_canOrder 37 = .ok (.aload_n 0, 1) := by decide +kernel
theorem dX6_canOrder_38 : decode cX6_canOrder 38 = .ok (.getfield 31, 3) := by decide +kernel
theorem dX6_canOrder_41 : decode cX6_canOrder 41 = .ok (.iload 5, 2) := by decide +kernel
theorem dX6_canOrder_43 : decode cX6_canOrder 43 = .ok (.iaload, 1) := by decide +kernel
theorem dX6_canOrder_44 : decode cX6_canOrder 44 = .ok (.iadd, 1) := by decide +kernel
theorem dX6_canOrder_45 : decode cX6_canOrder 45 = .ok (.istore_n 2, 1) := by decide +kernel
theorem dX6_canOrder_46 : decode cX6_canOrder 46 = .ok (.iload_n 3, 1) := by decide +kernel
theorem dX6_canOrder_47 : decode cX6_canOrder 47 = .ok (.ifCond .eq 18, 3) := by decide +kernel
theorem dX6_canOrder_50 : decode cX6_canOrder 50 = .ok (.iload_n 2, 1) := by decide +kernel
theorem dX6_canOrder_51 : decode cX6_canOrder 51 = .ok (.aload_n 0, 1) := by decide +kernel
theorem dX6_canOrder_52 : decode cX6_canOrder 52 = .ok (.getfield 34, 3) := by decide +kernel
theorem dX6_canOrder_55 : decode cX6_canOrder 55 = .ok (.iload 5, 2) := by decide +kernel
theorem dX6_canOrder_57 : decode cX6_canOrder 57 = .ok (.iaload, 1) := by decide +kernel
theorem dX6_canOrder_58 : decode cX6_canOrder 58 = .ok (.if_icmp .gt 7, 3) := by decide +kernel
theorem dX6_canOrder_61 : decode cX6_canOrder 61 = .ok (.iconst 1, 1) := by decide +kernel
theorem dX6_canOrder_62 : decode cX6_canOrder 62 = .ok (.goto 4, 3) := by decide +kernel
theorem dX6_canOrder_65 : decode cX6_canOrder 65 = .ok (.iconst 0, 1) := by decide +kernel
theorem dX6_canOrder_66 : decode cX6_canOrder 66 = .ok (.istore_n 3, 1) := by decide +kernel
theorem dX6_canOrder_67 : decode cX6_canOrder 67 = .ok (.goto (-55), 3) := by decide +kernel
theorem dX6_canOrder_70 : decode cX6_canOrder 70 = .ok (.iload_n 3, 1) := by decide +kernel
theorem dX6_canOrder_71 : decode cX6_canOrder 71 = .ok (.ireturn, 1) := by decide +kernel
theorem dX6_order_0 : decode cX6_order 0 = .ok (.aload_n 0, 1) := by decide +kernel
theorem dX6_order_1 : decode cX6_order 1 = .ok (.iconst 0, 1) := by decide +kernel
theorem dX6_order_2 : decode cX6_order 2 = .ok (.putfield 74, 3) := by decide +kernel
theorem dX6_order_5 : decode cX6_order 5 = .ok (.iload_n 1, 1) := by decide +kernel
theorem dX6_order_6 : decode cX6_order 6 = .ok (.iconst (-1), 1) := by decide +kernel
theorem dX6_order_7 : decode cX6_order 7 = .ok (.bipush 7, 2) := by decide +kernel
theorem dX6_order_9 : decode cX6_order 9 = .ok (.invokestatic 78, 3) := by decide +kernel
theorem dX6_order_12 : decode cX6_order 12 = .ok (.ifCond .ne 5, 3) := by decide +kernel
theorem dX6_order_15 : decode cX6_order 15 = .ok (.iconst (-1), 1) := by decide +kernel
theorem dX6_order_16 : decode cX6_order 16 = .ok (.ireturn, 1) := by decide +kernel
theorem dX6_order_17 : decode cX6_order 17 = .ok (.iconst 0, 1) := by decide +kernel
theorem dX6_order_18 : decode cX6_order 18 = .ok (.istore_n 2, 1) := by decide +kernel
theorem dX6_order_19 : decode cX6_order 19 = .ok (.iconst 0, 1) := by decide +kernel
theorem dX6_order_20 : decode cX6_order 20 = .ok (.istore_n 3, 1) := by decide +kernel
theorem dX6_order_21 : decode cX6_order 21 = .ok (.iload_n 3, 1) := by decide +kernel
theorem dX6_order_22 : decode cX6_order 22 = .ok (.sipush 256, 3) := by decide +kernel
theorem dX6_order_25 : decode cX6_order 25 = .ok (.if_icmp .ge 46, 3) := by decide +kernel
theorem dX6_order_28 : decode cX6_order 28 = .ok (.iload_n 3, 1) := by decide +kernel
theorem dX6_order_29 : decode cX6_order 29 = .ok (.aload_n 0, 1) := by decide +kernel
theorem dX6_order_30 : decode cX6_order 30 = .ok (.iconst 1, 1) := by decide +kernel
theorem dX6_order_31 : decode cX6_order 31 = .ok (.invokevirtual 170, 3) := by decide +kernel
theorem dX6_order_34 : decode cX6_order 34 = .ok (.iconst (-1), 1) := by decide +kernel
theorem dX6_order_35 : decode cX6_order 35 = .ok (.ixor, 1) := by decide +kernel
theorem dX6_order_36 : decode cX6_order 36 = .ok (.iand, 1) := by decide +kernel
theorem dX6_order_37 : decode cX6_order 37 = .ok (.ifCond .ne 26, 3) := by decide +kernel
theorem dX6_order_40 : decode cX6_order 40 = .ok (.iload_n 3, 1) := by decide +kernel
theorem dX6_order_41 : decode cX6_order 41 = .ok (.invokestatic 176, 3) := by decide +kernel
theorem dX6_order_44 : decode cX6_order 44 = .ok (.iload_n 2, 1) := by decide +kernel
theorem dX6_order_45 : decode cX6_order 45 = .ok (.invokestatic 176, 3) := by decide +kernel
theorem dX6_order_48 : decode cX6_order 48 = .ok (.if_icmp .le 15, 3) := by decide +kernel
theorem dX6_order_51 : decode cX6_order 51 = .ok (.aload_n 0, 1) := by decide +kernel
theorem dX6_order_52 : decode cX6_order 52 = .ok (.iload_n 3, 1) := by decide +kernel
theorem dX6_order_53 : decode cX6_order 53 = .ok (.invokevirtual 191, 3) := by decide +kernel
theorem dX6_order_56 : decode cX6_order 56 = .ok (.ifCond .eq 7, 3) := by decide +kernel
theorem dX6_order_59 : decode cX6_order 59 = .ok (.iload_n 3, 1) := by decide +kernel
theorem dX6_order_60 : decode cX6_order 60 = .ok (.goto 4, 3) := by decide +kernel
theorem dX6_order_63 : decode cX6_order 63 = .ok (.iload_n 2, 1) := by decide +kernel
theorem dX6_order_64 : decode cX6_order 64 = .ok (.istore_n 2, 1) := by decide +kernel
theorem dX6_order_65 : decode cX6_order 65 = .ok (.iinc 3 1, 3) := by decide +kernel
theorem dX6_order_68 : decode cX6_order 68 = .ok (.goto (-47), 3) := by decide +kernel
theorem dX6_order_71 : decode cX6_order 71 = .ok (.iload_n 1, 1) := by decide +kernel
theorem dX6_order_72 : decode cX6_order 72 = .ok (.iconst (-1), 1) := by decide +kernel
theorem dX6_order_73 : decode cX6_order 73 = .ok (.if_icmp .ne 8, 3) := by decide +kernel
theorem dX6_order_76 : decode cX6_order 76 = .ok (.iload_n 2, 1) := by decide +kernel
theorem dX6_order_77 : decode cX6_order 77 = .ok (.invokestatic 176, 3) := by decide +kernel
theorem dX6_order_80 : decode cX6_order 80 = .ok (.ireturn, 1) := by decide +kernel
theorem dX6_order_81 : decode cX6_order 81 = .ok (.iload_n 2, 1) := by decide +kernel
theorem dX6_order_82 : decode cX6_order 82 = .ok (.istore_n 3, 1) := by decide +kernel
theorem dX6_order_83 : decode cX6_order 83 = .ok (.iconst 0, 1) := by decide +kernel
theorem dX6_order_84 : decode cX6_order 84 = .ok (.istore 4, 2) := by decide +kernel
theorem dX6_order_86 : decode cX6_order 86 = .ok (.iload 4, 2) := by decide +kernel
theorem dX6_order_88 : decode cX6_order 88 = .ok (.iload_n 1, 1) := by decide +kernel
theorem dX6_order_89 : decode cX6_order 89 = .ok (.if_icmp .ge 25, 3) := by decide +kernel
theorem dX6_order_92 : decode cX6_order 92 = .ok (.iload_n 3, 1) := by decide +kernel
theorem dX6_order_93 : decode cX6_order 93 = .ok (.ifCond .eq 21, 3) := by decide +kernel
theorem dX6_order_96 : decode cX6_order 96 = .ok (.iload_n 3, 1) := by decide +kernel
theorem dX6_order_97 : decode cX6_order 97 = .ok (.iconst 1, 1) := by decide +kernel
theorem dX6_order_98 : decode cX6_order 98 = .ok (.aload_n 0, 1) := by decide +kernel
theorem dX6_order_99 : decode cX6_order 99 = .ok (.iload_n 3, 1) := by decide +kernel
theorem dX6_order_100 : decode cX6_order 100 = .ok (.invokevirtual 188, 3) := by decide +kernel
theorem dX6_order_103 : decode cX6_order 103 = .ok (.ishl, 1) := by decide +kernel
theorem dX6_order_104 : decode cX6_order 104 = .ok (.iconst (-1), 1) := by decide +kernel
theorem dX6_order_105 : decode cX6_order 105 = .ok (.ixor, 1) := by decide +kernel
theorem dX6_order_106 : decode cX6_order 106 = .ok (.iand, 1) := by decide +kernel
theorem dX6_order_107 : decode cX6_order 107 = .ok (.istore_n 3, 1) := by decide +kernel
theorem dX6_order_108 : decode cX6_order 108 = .ok (.iinc 4 1, 3) := by decide +kernel
theorem dX6_order_111 : decode cX6_order 111 = .ok (.goto (-25), 3) := by decide +kernel
theorem dX6_order_114 : decode cX6_order 114 = .ok (.aload_n 0, 1) := by decide +kernel
theorem dX6_order_115 : decode cX6_order 115 = .ok (.iload_n 3, 1) := by decide +kernel
theorem dX6_order_116 : decode cX6_order 116 = .ok (.invokevirtual 188, 3) := by decide +kernel
theorem dX6_order_119 : decode cX6_order 119 = .ok (.ireturn, 1) := by decide +kernel
theorem dX6_staysFor_0 : decode cX6_staysFor 0 = .ok (.aload_n 0, 1) := by decide +kernel
theorem dX6_staysFor_1 : decode cX6_staysFor 1 = .ok (.invokevirtual 154, 3) := by decide +kernel
theorem dX6_staysFor_4 : decode cX6_staysFor 4 = .ok (.iconst 0, 1) := by decide +kernel
theorem dX6_staysFor_5 : decode cX6_staysFor 5 = .ok (.istore_n 3, 1) := by decide +kernel
theorem dX6_staysFor_6 : decode cX6_staysFor 6 = .ok (.iload_n 3, 1) := by decide +kernel
theorem dX6_staysFor_7 : decode cX6_staysFor 7 = .ok (.bipush 6, 2) := by decide +kernel
theorem dX6_staysFor_9 : decode cX6_staysFor 9 = .ok (.if_icmp .ge 34, 3) := by decide +kernel
theorem dX6_staysFor_12 : decode cX6_staysFor 12 = .ok (.aload_n 0, 1) := by decide +kernel
theorem dX6_staysFor_13 : decode cX6_staysFor 13 = .ok (.getfield 62, 3) := by decide +kernel
theorem dX6_staysFor_16 : decode cX6_staysFor 16 = .ok (.iload_n 3, 1) := by decide +kernel
theorem dX6_staysFor_17 : decode cX6_staysFor 17 = .ok (.iload_n 1, 1) := by decide +kernel
theorem dX6_staysFor_18 : decode cX6_staysFor 18 = .ok (.iload_n 3, 1) := by decide +kernel
theorem dX6_staysFor_19 : decode cX6_staysFor 19 = .ok (.ishr, 1) := by decide +kernel
theorem dX6_staysFor_20 : decode cX6_staysFor 20 = .ok (.iconst 1, 1) := by decide +kernel
theorem dX6_staysFor_21 : decode cX6_staysFor 21 = .ok (.iand, 1) := by decide +kernel
theorem dX6_staysFor_22 : decode cX6_staysFor 22 = .ok (.iconst 1, 1) := by decide +kernel
theorem dX6_staysFor_23 : decode cX6_staysFor 23 = .ok (.if_icmp .ne 7, 3) := by decide +kernel
theorem dX6_staysFor_26 : decode cX6_staysFor 26 = .ok (.iconst 0, 1) := by decide +kernel
theorem dX6_staysFor_27 : decode cX6_staysFor 27 = .ok (.goto 9, 3) := by decide +kernel
theorem dX6_staysFor_30 : decode cX6_staysFor 30 = .ok (.aload_n 0, 1) := by decide +kernel
theorem dX6_staysFor_31 : decode cX6_staysFor 31 = .ok (.getfield 62, 3) := by decide +kernel
theorem dX6_staysFor_34 : decode cX6_staysFor 34 = .ok (.iload_n 3, 1) := by decide +kernel
theorem dX6_staysFor_35 : decode cX6_staysFor 35 = .ok (.iaload, 1) := by decide +kernel
theorem dX6_staysFor_36 : decode cX6_staysFor 36 = .ok (.iastore, 1) := by decide +kernel
theorem dX6_staysFor_37 : decode cX6_staysFor 37 = .ok (.iinc 3 1, 3) := by decide +kernel
theorem dX6_staysFor_40 : decode cX6_staysFor 40 = .ok (.goto (-34), 3) := by decide +kernel
theorem dX6_staysFor_43 : decode cX6_staysFor 43 = .ok (.iconst 1, 1) := by decide +kernel
theorem dX6_staysFor_44 : decode cX6_staysFor 44 = .ok (.istore_n 3, 1) := by decide +kernel
theorem dX6_staysFor_45 : decode cX6_staysFor 45 = .ok (.iconst 0, 1) := by decide +kernel
theorem dX6_staysFor_46 : decode cX6_staysFor 46 = .ok (.istore 4, 2) := by decide +kernel
theorem dX6_staysFor_48 : decode cX6_staysFor 48 = .ok (.iload 4, 2) := by decide +kernel
theorem dX6_staysFor_50 : decode cX6_staysFor 50 = .ok (.iload_n 2, 1) := by decide +kernel
theorem dX6_staysFor_51 : decode cX6_staysFor 51 = .ok (.if_icmp .ge 26, 3) := by decide +kernel
theorem dX6_staysFor_54 : decode cX6_staysFor 54 = .ok (.iload_n 3, 1) := by decide +kernel
theorem dX6_staysFor_55 : decode cX6_staysFor 55 = .ok (.ifCond .eq 22, 3) := by decide +kernel
theorem dX6_staysFor_58 : decode cX6_staysFor 58 = .ok (.aload_n 0, 1) := by decide +kernel
theorem dX6_staysFor_59 : decode cX6_staysFor 59 = .ok (.invokevirtual 157, 3) := by decide +kernel
theorem dX6_staysFor_62 : decode cX6_staysFor 62 = .ok (.ifCond .ne 7, 3) := by decide +kernel
theorem dX6_staysFor_65 : decode cX6_staysFor 65 = .ok (.iconst 1, 1) := by decide +kernel
theorem dX6_staysFor_66 : decode cX6_staysFor 66 = .ok (.goto 4, 3) := by decide +kernel
theorem dX6_staysFor_69 : decode cX6_staysFor 69 = .ok (.iconst 0, 1) := by decide +kernel
theorem dX6_staysFor_70 : decode cX6_staysFor 70 = .ok (.istore_n 3, 1) := by decide +kernel
theorem dX6_staysFor_71 : decode cX6_staysFor 71 = .ok (.iinc 4 1, 3) := by decide +kernel
theorem dX6_staysFor_74 : decode cX6_staysFor 74 = .ok (.goto (-26), 3) := by decide +kernel
theorem dX6_staysFor_77 : decode cX6_staysFor 77 = .ok (.iload_n 3, 1) := by decide +kernel
theorem dX6_staysFor_78 : decode cX6_staysFor 78 = .ok (.ireturn, 1) := by decide +kernel
theorem dX6_drain_0 : decode cX6_drain 0 = .ok (.aload_n 0, 1) := by decide +kernel
theorem dX6_drain_1 : decode cX6_drain 1 = .ok (.iconst 0, 1) := by decide +kernel
theorem dX6_drain_2 : decode cX6_drain 2 = .ok (.putfield 74, 3) := by decide +kernel
theorem dX6_drain_5 : decode cX6_drain 5 = .ok (.iload_n 1, 1) := by decide +kernel
theorem dX6_drain_6 : decode cX6_drain 6 = .ok (.iconst 0, 1) := by decide +kernel
theorem dX6_drain_7 : decode cX6_drain 7 = .ok (.bipush 20, 2) := by decide +kernel
theorem dX6_drain_9 : decode cX6_drain 9 = .ok (.invokestatic 78, 3) := by decide +kernel
theorem dX6_drain_12 : decode cX6_drain 12 = .ok (.ifCond .ne 5, 3) := by decide +kernel
theorem dX6_drain_15 : decode cX6_drain 15 = .ok (.iconst (-1), 1) := by decide +kernel
theorem dX6_drain_16 : decode cX6_drain 16 = .ok (.ireturn, 1) := by decide +kernel
theorem dX6_drain_17 : decode cX6_drain 17 = .ok (.bipush (-9), 2) := by decide +kernel
theorem dX6_drain_19 : decode cX6_drain 19 = .ok (.istore_n 2, 1) := by decide +kernel
theorem dX6_drain_20 : decode cX6_drain 20 = .ok (.bipush 63, 2) := by decide +kernel
theorem dX6_drain_22 : decode cX6_drain 22 = .ok (.istore_n 3, 1) := by decide +kernel
theorem dX6_drain_23 : decode cX6_drain 23 = .ok (.iload_n 3, 1) := by decide +kernel
theorem dX6_drain_24 : decode cX6_drain 24 = .ok (.ifCond .lt 41, 3) := by decide +kernel
theorem dX6_drain_27 : decode cX6_drain 27 = .ok (.iload_n 2, 1) := by decide +kernel
theorem dX6_drain_28 : decode cX6_drain 28 = .ok (.bipush (-9), 2) := by decide +kernel
theorem dX6_drain_30 : decode cX6_drain 30 = .ok (.if_icmp .eq 14, 3) := by decide +kernel
theorem dX6_drain_33 : decode cX6_drain 33 = .ok (.iload_n 3, 1) := by decide +kernel
theorem dX6_drain_34 : decode cX6_drain 34 = .ok (.invokestatic 176, 3) := by decide +kernel
theorem dX6_drain_37 : decode cX6_drain 37 = .ok (.iload_n 2, 1) := by decide +kernel
theorem dX6_drain_38 : decode cX6_drain 38 = .ok (.invokestatic 176, 3) := by decide +kernel
theorem dX6_drain_41 : decode cX6_drain 41 = .ok (.if_icmp .gt 16, 3) := by decide +kernel
theorem dX6_drain_44 : decode cX6_drain 44 = .ok (.aload_n 0, 1) := by decide +kernel
theorem dX6_drain_45 : decode cX6_drain 45 = .ok (.iload_n 3, 1) := by decide +kernel
theorem dX6_drain_46 : decode cX6_drain 46 = .ok (.iload_n 1, 1) := by decide +kernel
theorem dX6_drain_47 : decode cX6_drain 47 = .ok (.invokevirtual 194, 3) := by decide +kernel
theorem dX6_drain_50 : decode cX6_drain 50 = .ok (.ifCond .eq 7, 3) := by decide +kernel
theorem dX6_drain_53 : decode cX6_drain 53 = .ok (.iload_n 3, 1) := by decide +kernel
theorem dX6_drain_54 : decode cX6_drain 54 = .ok (.goto 4, 3) := by decide +kernel
theorem dX6_drain_57 : decode cX6_drain 57 = .ok (.iload_n 2, 1) := by decide +kernel
theorem dX6_drain_58 : decode cX6_drain 58 = .ok (.istore_n 2, 1) := by decide +kernel
theorem dX6_drain_59 : decode cX6_drain 59 = .ok (.iinc 3 (-1), 3) := by decide +kernel
theorem dX6_drain_62 : decode cX6_drain 62 = .ok (.goto (-39), 3) := by decide +kernel
theorem dX6_drain_65 : decode cX6_drain 65 = .ok (.iload_n 2, 1) := by decide +kernel
theorem dX6_drain_66 : decode cX6_drain 66 = .ok (.ireturn, 1) := by decide +kernel
theorem dX6_power_0 : decode cX6_power 0 = .ok (.iconst 1, 1) := by decide +kernel
theorem dX6_power_1 : decode cX6_power 1 = .ok (.istore_n 2, 1) := by decide +kernel
theorem dX6_power_2 : decode cX6_power 2 = .ok (.iconst 0, 1) := by decide +kernel
theorem dX6_power_3 : decode cX6_power 3 = .ok (.istore_n 3, 1) := by decide +kernel
theorem dX6_power_4 : decode cX6_power 4 = .ok (.iload_n 3, 1) := by decide +kernel
theorem dX6_power_5 : decode cX6_power 5 = .ok (.iload_n 1, 1) := by decide +kernel
theorem dX6_power_6 : decode cX6_power 6 = .ok (.if_icmp .ge 13, 3) := by decide +kernel
theorem dX6_power_9 : decode cX6_power 9 = .ok (.iload_n 2, 1) := by decide +kernel
theorem dX6_power_10 : decode cX6_power 10 = .ok (.iload_n 0, 1) := by decide +kernel
theorem dX6_power_11 : decode cX6_power 11 = .ok (.imul, 1) := by decide +kernel
theorem dX6_power_12 : decode cX6_power 12 = .ok (.istore_n 2, 1) := by decide +kernel
theorem dX6_power_13 : decode cX6_power 13 = .ok (.iinc 3 1, 3) := by decide +kernel
theorem dX6_power_16 : decode cX6_power 16 = .ok (.goto (-12), 3) := by decide +kernel
theorem dX6_power_19 : decode cX6_power 19 = .ok (.iload_n 2, 1) := by decide +kernel
theorem dX6_power_20 : decode cX6_power 20 = .ok (.ireturn, 1) := by decide +kernel
theorem dX6_gcd_0 : decode cX6_gcd 0 = .ok (.iload_n 0, 1) := by decide +kernel
theorem dX6_gcd_1 : decode cX6_gcd 1 = .ok (.istore_n 2, 1) := by decide +kernel
theorem dX6_gcd_2 : decode cX6_gcd 2 = .ok (.iload_n 1, 1) := by decide +kernel
theorem dX6_gcd_3 : decode cX6_gcd 3 = .ok (.istore_n 3, 1) := by decide +kernel
theorem dX6_gcd_4 : decode cX6_gcd 4 = .ok (.iload_n 3, 1) := by decide +kernel
theorem dX6_gcd_5 : decode cX6_gcd 5 = .ok (.ifCond .eq 16, 3) := by decide +kernel
theorem dX6_gcd_8 : decode cX6_gcd 8 = .ok (.iload_n 2, 1) := by decide +kernel
theorem dX6_gcd_9 : decode cX6_gcd 9 = .ok (.iload_n 3, 1) := by decide +kernel
theorem dX6_gcd_10 : decode cX6_gcd 10 = .ok (.irem, 1) := by decide +kernel
theorem dX6_gcd_11 : decode cX6_gcd 11 = .ok (.istore 4, 2) := by decide +kernel
theorem dX6_gcd_13 : decode cX6_gcd 13 = .ok (.iload_n 3, 1) := by decide +kernel
theorem dX6_gcd_14 : decode cX6_gcd 14 = .ok (.istore_n 2, 1) := by decide +kernel
theorem dX6_gcd_15 : decode cX6_gcd 15 = .ok (.iload 4, 2) := by decide +kernel
theorem dX6_gcd_17 : decode cX6_gcd 17 = .ok (.istore_n 3, 1) := by decide +kernel
theorem dX6_gcd_18 : decode cX6_gcd 18 = .ok (.goto (-14), 3) := by decide +kernel
theorem dX6_gcd_21 : decode cX6_gcd 21 = .ok (.iload_n 2, 1) := by decide +kernel
theorem dX6_gcd_22 : decode cX6_gcd 22 = .ok (.ireturn, 1) := by decide +kernel
theorem dX6_odds_0 : decode cX6_odds 0 = .ok (.aload_n 0, 1) := by decide +kernel
theorem dX6_odds_1 : decode cX6_odds 1 = .ok (.iconst 0, 1) := by decide +kernel
theorem dX6_odds_2 : decode cX6_odds 2 = .ok (.putfield 74, 3) := by decide +kernel
theorem dX6_odds_5 : decode cX6_odds 5 = .ok (.iload_n 1, 1) := by decide +kernel
theorem dX6_odds_6 : decode cX6_odds 6 = .ok (.iconst 0, 1) := by decide +kernel
theorem dX6_odds_7 : decode cX6_odds 7 = .ok (.bipush 10, 2) := by decide +kernel
theorem dX6_odds_9 : decode cX6_odds 9 = .ok (.invokestatic 78, 3) := by decide +kernel
theorem dX6_odds_12 : decode cX6_odds 12 = .ok (.ifCond .eq 33, 3) := by decide +kernel
theorem dX6_odds_15 : decode cX6_odds 15 = .ok (.iload_n 2, 1) := by decide +kernel
theorem dX6_odds_16 : decode cX6_odds 16 = .ok (.iconst 0, 1) := by decide +kernel
theorem dX6_odds_17 : decode cX6_odds 17 = .ok (.bipush 6, 2) := by decide +kernel
theorem dX6_odds_19 : decode cX6_odds 19 = .ok (.invokestatic 78, 3) := by decide +kernel
theorem dX6_odds_22 : decode cX6_odds 22 = .ok (.ifCond .eq 23, 3) := by decide +kernel
theorem dX6_odds_25 : decode cX6_odds 25 = .ok (.iload_n 3, 1) := by decide +kernel
theorem dX6_odds_26 : decode cX6_odds 26 = .ok (.iconst 0, 1) := by decide +kernel
theorem dX6_odds_27 : decode cX6_odds 27 = .ok (.bipush 6, 2) := by decide +kernel
theorem dX6_odds_29 : decode cX6_odds 29 = .ok (.invokestatic 78, 3) := by decide +kernel
theorem dX6_odds_32 : decode cX6_odds 32 = .ok (.ifCond .eq 13, 3) := by decide +kernel
theorem dX6_odds_35 : decode cX6_odds 35 = .ok (.iload 4, 2) := by decide +kernel
theorem dX6_odds_37 : decode cX6_odds 37 = .ok (.iconst 0, 1) := by decide +kernel
theorem dX6_odds_38 : decode cX6_odds 38 = .ok (.iconst 1, 1) := by decide +kernel
theorem dX6_odds_39 : decode cX6_odds 39 = .ok (.invokestatic 78, 3) := by decide +kernel
theorem dX6_odds_42 : decode cX6_odds 42 = .ok (.ifCond .ne 5, 3) := by decide +kernel
theorem dX6_odds_45 : decode cX6_odds 45 = .ok (.iconst (-1), 1) := by decide +kernel
theorem dX6_odds_46 : decode cX6_odds 46 = .ok (.ireturn, 1) := by decide +kernel
theorem dX6_odds_47 : decode cX6_odds 47 = .ok (.iconst 0, 1) := by decide +kernel
theorem dX6_odds_48 : decode cX6_odds 48 = .ok (.istore 5, 2) := by decide +kernel
theorem dX6_odds_50 : decode cX6_odds 50 = .ok (.iconst 0, 1) := by decide +kernel
theorem dX6_odds_51 : decode cX6_odds 51 = .ok (.istore 6, 2) := by decide +kernel
theorem dX6_odds_53 : decode cX6_odds 53 = .ok (.iload 6, 2) := by decide +kernel
theorem dX6_odds_55 : decode cX6_odds 55 = .ok (.iconst 1, 1) := by decide +kernel
theorem dX6_odds_56 : decode cX6_odds 56 = .ok (.iload_n 2, 1) := by decide +kernel
theorem dX6_odds_57 : decode cX6_odds 57 = .ok (.ishl, 1) := by decide +kernel
theorem dX6_odds_58 : decode cX6_odds 58 = .ok (.if_icmp .ge 51, 3) := by decide +kernel
theorem dX6_odds_61 : decode cX6_odds 61 = .ok (.iload 5, 2) := by decide +kernel
theorem dX6_odds_63 : decode cX6_odds 63 = .ok (.iload 6, 2) := by decide +kernel
theorem dX6_odds_65 : decode cX6_odds 65 = .ok (.invokestatic 176, 3) := by decide +kernel
theorem dX6_odds_68 : decode cX6_odds 68 = .ok (.iload_n 3, 1) := by decide +kernel
theorem dX6_odds_69 : decode cX6_odds 69 = .ok (.if_icmp .lt 30, 3) := by decide +kernel
theorem dX6_odds_72 : decode cX6_odds 72 = .ok (.iload_n 1, 1) := by decide +kernel
theorem dX6_odds_73 : decode cX6_odds 73 = .ok (.iload 6, 2) := by decide +kernel
theorem dX6_odds_75 : decode cX6_odds 75 = .ok (.invokestatic 176, 3) := by decide +kernel
theorem dX6_odds_78 : decode cX6_odds 78 = .ok (.invokestatic 198, 3) := by decide +kernel
theorem dX6_odds_81 : decode cX6_odds 81 = .ok (.bipush 10, 2) := by decide +kernel
theorem dX6_odds_83 : decode cX6_odds 83 = .ok (.iload_n 1, 1) := by decide +kernel
theorem dX6_odds_84 : decode cX6_odds 84 = .ok (.isub, 1) := by decide +kernel
theorem dX6_odds_85 : decode cX6_odds 85 = .ok (.iload_n 2, 1) := by decide +kernel
theorem dX6_odds_86 : decode cX6_odds 86 = .ok (.iload 6, 2) := by decide +kernel
theorem dX6_odds_88 : decode cX6_odds 88 = .ok (.invokestatic 176, 3) := by decide +kernel
theorem dX6_odds_91 : decode cX6_odds 91 = .ok (.isub, 1) := by decide +kernel
theorem dX6_odds_92 : decode cX6_odds 92 = .ok (.invokestatic 198, 3) := by decide +kernel
theorem dX6_odds_95 : decode cX6_odds 95 = .ok (.imul, 1) := by decide +kernel
theorem dX6_odds_96 : decode cX6_odds 96 = .ok (.goto 4, 3) := by decide +kernel
theorem dX6_odds_99 : decode cX6_odds 99 = .ok (.iconst 0, 1) := by decide +kernel
theorem dX6_odds_100 : decode cX6_odds 100 = .ok (.iadd, 1) := by decide +kernel
theorem dX6_odds_101 : decode cX6_odds 101 = .ok (.istore 5, 2) := by decide +kernel
theorem dX6_odds_103 : decode cX6_odds 103 = .ok (.iinc 6 1, 3) := by decide +kernel
theorem dX6_odds_106 : decode cX6_odds 106 = .ok (.goto (-53), 3) := by decide +kernel
theorem dX6_odds_109 : decode cX6_odds 109 = .ok (.bipush 10, 2) := by decide +kernel
theorem dX6_odds_111 : decode cX6_odds 111 = .ok (.iload_n 2, 1) := by decide +kernel
theorem dX6_odds_112 : decode cX6_odds 112 = .ok (.invokestatic 198, 3) := by decide +kernel
theorem dX6_odds_115 : decode cX6_odds 115 = .ok (.istore 6, 2) := by decide +kernel
theorem dX6_odds_117 : decode cX6_odds 117 = .ok (.iload 5, 2) := by decide +kernel
theorem dX6_odds_119 : decode cX6_odds 119 = .ok (.iload 6, 2) := by decide +kernel
theorem dX6_odds_121 : decode cX6_odds 121 = .ok (.invokestatic 201, 3) := by decide +kernel
theorem dX6_odds_124 : decode cX6_odds 124 = .ok (.istore 7, 2) := by decide +kernel
theorem dX6_odds_126 : decode cX6_odds 126 = .ok (.iload 4, 2) := by decide +kernel
theorem dX6_odds_128 : decode cX6_odds 128 = .ok (.ifCond .ne 11, 3) := by decide +kernel
theorem dX6_odds_131 : decode cX6_odds 131 = .ok (.iload 5, 2) := by decide +kernel
theorem dX6_odds_133 : decode cX6_odds 133 = .ok (.iload 7, 2) := by decide +kernel
theorem dX6_odds_135 : decode cX6_odds 135 = .ok (.idiv, 1) := by decide +kernel
theorem dX6_odds_136 : decode cX6_odds 136 = .ok (.goto 8, 3) := by decide +kernel
theorem dX6_odds_139 : decode cX6_odds 139 = .ok (.iload 6, 2) := by decide +kernel
theorem dX6_odds_141 : decode cX6_odds 141 = .ok (.iload 7, 2) := by decide +kernel
theorem dX6_odds_143 : decode cX6_odds 143 = .ok (.idiv, 1) := by decide +kernel
theorem dX6_odds_144 : decode cX6_odds 144 = .ok (.ireturn, 1) := by decide +kernel
theorem dX6_rate_0 : decode cX6_rate 0 = .ok (.aload_n 0, 1) := by decide +kernel
theorem dX6_rate_1 : decode cX6_rate 1 = .ok (.iconst 0, 1) := by decide +kernel
theorem dX6_rate_2 : decode cX6_rate 2 = .ok (.putfield 74, 3) := by decide +kernel
theorem dX6_rate_5 : decode cX6_rate 5 = .ok (.iload_n 1, 1) := by decide +kernel
theorem dX6_rate_6 : decode cX6_rate 6 = .ok (.iconst 0, 1) := by decide +kernel
theorem dX6_rate_7 : decode cX6_rate 7 = .ok (.iconst 5, 1) := by decide +kernel
theorem dX6_rate_8 : decode cX6_rate 8 = .ok (.invokestatic 78, 3) := by decide +kernel
theorem dX6_rate_11 : decode cX6_rate 11 = .ok (.ifCond .eq 11, 3) := by decide +kernel
theorem dX6_rate_14 : decode cX6_rate 14 = .ok (.aload_n 0, 1) := by decide +kernel
theorem dX6_rate_15 : decode cX6_rate 15 = .ok (.iload_n 2, 1) := by decide +kernel
theorem dX6_rate_16 : decode cX6_rate 16 = .ok (.invokevirtual 148, 3) := by decide +kernel
theorem dX6_rate_19 : decode cX6_rate 19 = .ok (.ifCond .ne 6, 3) := by decide +kernel
theorem dX6_rate_22 : decode cX6_rate 22 = .ok (.ldc 204, 2) := by decide +kernel
theorem dX6_rate_24 : decode cX6_rate 24 = .ok (.ireturn, 1) := by decide +kernel
theorem dX6_rate_25 : decode cX6_rate 25 = .ok (.aload_n 0, 1) := by decide +kernel
theorem dX6_rate_26 : decode cX6_rate 26 = .ok (.iload_n 2, 1) := by decide +kernel
theorem dX6_rate_27 : decode cX6_rate 27 = .ok (.invokevirtual 151, 3) := by decide +kernel
theorem dX6_rate_30 : decode cX6_rate 30 = .ok (.istore_n 3, 1) := by decide +kernel
theorem dX6_rate_31 : decode cX6_rate 31 = .ok (.iload_n 3, 1) := by decide +kernel
theorem dX6_rate_32 : decode cX6_rate 32 = .ok (.aload_n 0, 1) := by decide +kernel
theorem dX6_rate_33 : decode cX6_rate 33 = .ok (.getfield 28, 3) := by decide +kernel
theorem dX6_rate_36 : decode cX6_rate 36 = .ok (.iload_n 2, 1) := by decide +kernel
theorem dX6_rate_37 : decode cX6_rate 37 = .ok (.iaload, 1) := by decide +kernel
theorem dX6_rate_38 : decode cX6_rate 38 = .ok (.iadd, 1) := by decide +kernel
theorem dX6_rate_39 : decode cX6_rate 39 = .ok (.istore 4, 2) := by decide +kernel
theorem dX6_rate_41 : decode cX6_rate 41 = .ok (.iload_n 3, 1) := by decide +kernel
theorem dX6_rate_42 : decode cX6_rate 42 = .ok (.aload_n 0, 1) := by decide +kernel
theorem dX6_rate_43 : decode cX6_rate 43 = .ok (.getfield 31, 3) := by decide +kernel
theorem dX6_rate_46 : decode cX6_rate 46 = .ok (.iload_n 2, 1) := by decide +kernel
theorem dX6_rate_47 : decode cX6_rate 47 = .ok (.iaload, 1) := by decide +kernel
theorem dX6_rate_48 : decode cX6_rate 48 = .ok (.isub, 1) := by decide +kernel
theorem dX6_rate_49 : decode cX6_rate 49 = .ok (.istore 5, 2) := by decide +kernel
theorem dX6_rate_51 : decode cX6_rate 51 = .ok (.aload_n 0, 1) := by decide +kernel
theorem dX6_rate_52 : decode cX6_rate 52 = .ok (.dup, 1) := by decide +kernel
theorem dX6_rate_53 : decode cX6_rate 53 = .ok (.getfield 205, 3) := by decide +kernel
theorem dX6_rate_56 : decode cX6_rate 56 = .ok (.iload_n 1, 1) := by decide +kernel
theorem dX6_rate_57 : decode cX6_rate 57 = .ok (.ifCond .ne 7, 3) := by decide +kernel
theorem dX6_rate_60 : decode cX6_rate 60 = .ok (.lconst 1, 1) := by decide +kernel
theorem dX6_rate_61 : decode cX6_rate 61 = .ok (.goto 50, 3) := by decide +kernel
theorem dX6_rate_64 : decode cX6_rate 64 = .ok (.iload_n 1, 1) := by decide +kernel
theorem dX6_rate_65 : decode cX6_rate 65 = .ok (.iconst 1, 1) := by decide +kernel
theorem dX6_rate_66 : decode cX6_rate 66 = .ok (.if_icmp .ne 9, 3) := by decide +kernel
theorem dX6_rate_69 : decode cX6_rate 69 = .ok (.ldc2_w 209, 3) := by decide +kernel
theorem dX6_rate_72 : decode cX6_rate 72 = .ok (.goto 39, 3) := by decide +kernel
theorem dX6_rate_75 : decode cX6_rate 75 = .ok (.iload_n 1, 1) := by decide +kernel
theorem dX6_rate_76 : decode cX6_rate 76 = .ok (.iconst 2, 1) := by decide +kernel
theorem dX6_rate_77 : decode cX6_rate 77 = .ok (.if_icmp .ne 9, 3) := by decide +kernel
theorem dX6_rate_80 : decode cX6_rate 80 = .ok (.ldc2_w 211, 3) := by decide +kernel
theorem dX6_rate_83 : decode cX6_rate 83 = .ok (.goto 28, 3) := by decide +kernel
theorem dX6_rate_86 : decode cX6_rate 86 = .ok (.iload_n 1, 1) := by decide +kernel
theorem dX6_rate_87 : decode cX6_rate 87 = .ok (.iconst 3, 1) := by decide +kernel
theorem dX6_rate_88 : decode cX6_rate 88 = .ok (.if_icmp .ne 9, 3) := by decide +kernel
theorem dX6_rate_91 : decode cX6_rate 91 = .ok (.ldc2_w 213, 3) := by decide +kernel
theorem dX6_rate_94 : decode cX6_rate 94 = .ok (.goto 17, 3) := by decide +kernel
theorem dX6_rate_97 : decode cX6_rate 97 = .ok (.iload_n 1, 1) := by decide +kernel
theorem dX6_rate_98 : decode cX6_rate 98 = .ok (.iconst 4, 1) := by decide +kernel
theorem dX6_rate_99 : decode cX6_rate 99 = .ok (.if_icmp .ne 9, 3) := by decide +kernel
theorem dX6_rate_102 : decode cX6_rate 102 = .ok (.ldc2_w 215, 3) := by decide +kernel
theorem dX6_rate_105 : decode cX6_rate 105 = .ok (.goto 6, 3) := by decide +kernel
theorem dX6_rate_108 : decode cX6_rate 108 = .ok (.ldc2_w 217, 3) := by decide +kernel
theorem dX6_rate_111 : decode cX6_rate 111 = .ok (.ladd, 1) := by decide +kernel
theorem dX6_rate_112 : decode cX6_rate 112 = .ok (.putfield 205, 3) := by decide +kernel
theorem dX6_rate_115 : decode cX6_rate 115 = .ok (.iload_n 1, 1) := by decide +kernel
theorem dX6_rate_116 : decode cX6_rate 116 = .ok (.ifCond .ne 7, 3) := by decide +kernel
theorem dX6_rate_119 : decode cX6_rate 119 = .ok (.iload_n 3, 1) := by decide +kernel
theorem dX6_rate_120 : decode cX6_rate 120 = .ok (.goto 55, 3) := by decide +kernel
theorem dX6_rate_123 : decode cX6_rate 123 = .ok (.iload_n 1, 1) := by decide +kernel
theorem dX6_rate_124 : decode cX6_rate 124 = .ok (.iconst 1, 1) := by decide +kernel
theorem dX6_rate_125 : decode cX6_rate 125 = .ok (.if_icmp .ne 8, 3) := by decide +kernel
theorem dX6_rate_128 : decode cX6_rate 128 = .ok (.iload 4, 2) := by decide +kernel
theorem dX6_rate_130 : decode cX6_rate 130 = .ok (.goto 45, 3) := by decide +kernel
theorem dX6_rate_133 : decode cX6_rate 133 = .ok (.iload_n 1, 1) := by decide +kernel
theorem dX6_rate_134 : decode cX6_rate 134 = .ok (.iconst 2, 1) := by decide +kernel
theorem dX6_rate_135 : decode cX6_rate 135 = .ok (.if_icmp .ne 8, 3) := by decide +kernel
theorem dX6_rate_138 : decode cX6_rate 138 = .ok (.iload 5, 2) := by decide +kernel
theorem dX6_rate_140 : decode cX6_rate 140 = .ok (.goto 35, 3) := by decide +kernel
theorem dX6_rate_143 : decode cX6_rate 143 = .ok (.iload_n 1, 1) := by decide +kernel
theorem dX6_rate_144 : decode cX6_rate 144 = .ok (.iconst 3, 1) := by decide +kernel
theorem dX6_rate_145 : decode cX6_rate 145 = .ok (.if_icmp .ne 10, 3) := by decide +kernel
theorem dX6_rate_148 : decode cX6_rate 148 = .ok (.iconst 2, 1) := by decide +kernel
theorem dX6_rate_149 : decode cX6_rate 149 = .ok (.iload 4, 2) := by decide +kernel
theorem dX6_rate_151 : decode cX6_rate 151 = .ok (.imul, 1) := by decide +kernel
theorem dX6_rate_152 : decode cX6_rate 152 = .ok (.goto 23, 3) := by decide +kernel
theorem dX6_rate_155 : decode cX6_rate 155 = .ok (.iload_n 1, 1) := by decide +kernel
theorem dX6_rate_156 : decode cX6_rate 156 = .ok (.iconst 4, 1) := by decide +kernel
theorem dX6_rate_157 : decode cX6_rate 157 = .ok (.if_icmp .ne 10, 3) := by decide +kernel
theorem dX6_rate_160 : decode cX6_rate 160 = .ok (.iload 5, 2) := by decide +kernel
theorem dX6_rate_162 : decode cX6_rate 162 = .ok (.iload_n 2, 1) := by decide +kernel
theorem dX6_rate_163 : decode cX6_rate 163 = .ok (.iadd, 1) := by decide +kernel
theorem dX6_rate_164 : decode cX6_rate 164 = .ok (.goto 11, 3) := by decide +kernel
theorem dX6_rate_167 : decode cX6_rate 167 = .ok (.iload_n 3, 1) := by decide +kernel
theorem dX6_rate_168 : decode cX6_rate 168 = .ok (.aload_n 0, 1) := by decide +kernel
theorem dX6_rate_169 : decode cX6_rate 169 = .ok (.getfield 46, 3) := by decide +kernel
theorem dX6_rate_172 : decode cX6_rate 172 = .ok (.iconst 0, 1) := by decide +kernel
theorem dX6_rate_173 : decode cX6_rate 173 = .ok (.iaload, 1) := by decide +kernel
theorem dX6_rate_174 : decode cX6_rate 174 = .ok (.iadd, 1) := by decide +kernel
theorem dX6_rate_175 : decode cX6_rate 175 = .ok (.ireturn, 1) := by decide +kernel
theorem dX6_keep_0 : decode cX6_keep 0 = .ok (.aload_n 0, 1) := by decide +kernel
theorem dX6_keep_1 : decode cX6_keep 1 = .ok (.iconst 0, 1) := by decide +kernel
theorem dX6_keep_2 : decode cX6_keep 2 = .ok (.putfield 74, 3) := by decide +kernel
theorem dX6_keep_5 : decode cX6_keep 5 = .ok (.iload_n 1, 1) := by decide +kernel
theorem dX6_keep_6 : decode cX6_keep 6 = .ok (.iconst 0, 1) := by decide +kernel
theorem dX6_keep_7 : decode cX6_keep 7 = .ok (.iconst 1, 1) := by decide +kernel
theorem dX6_keep_8 : decode cX6_keep 8 = .ok (.invokestatic 78, 3) := by decide +kernel
theorem dX6_keep_11 : decode cX6_keep 11 = .ok (.ifCond .ne 5, 3) := by decide +kernel
theorem dX6_keep_14 : decode cX6_keep 14 = .ok (.iconst (-1), 1) := by decide +kernel
theorem dX6_keep_15 : decode cX6_keep 15 = .ok (.ireturn, 1) := by decide +kernel
theorem dX6_keep_16 : decode cX6_keep 16 = .ok (.iconst 0, 1) := by decide +kernel
theorem dX6_keep_17 : decode cX6_keep 17 = .ok (.istore_n 2, 1) := by decide +kernel
theorem dX6_keep_18 : decode cX6_keep 18 = .ok (.iload_n 2, 1) := by decide +kernel
theorem dX6_keep_19 : decode cX6_keep 19 = .ok (.bipush 37, 2) := by decide +kernel
theorem dX6_keep_21 : decode cX6_keep 21 = .ok (.if_icmp .ge 26, 3) := by decide +kernel
theorem dX6_keep_24 : decode cX6_keep 24 = .ok (.aload_n 0, 1) := by decide +kernel
theorem dX6_keep_25 : decode cX6_keep 25 = .ok (.getfield 49, 3) := by decide +kernel
theorem dX6_keep_28 : decode cX6_keep 28 = .ok (.bipush 37, 2) := by decide +kernel
theorem dX6_keep_30 : decode cX6_keep 30 = .ok (.iload_n 1, 1) := by decide +kernel
theorem dX6_keep_31 : decode cX6_keep 31 = .ok (.imul, 1) := by decide +kernel
theorem dX6_keep_32 : decode cX6_keep 32 = .ok (.iload_n 2, 1) := by decide +kernel
theorem dX6_keep_33 : decode cX6_keep 33 = .ok (.iadd, 1) := by decide +kernel
theorem dX6_keep_34 : decode cX6_keep 34 = .ok (.aload_n 0, 1) := by decide +kernel
theorem dX6_keep_35 : decode cX6_keep 35 = .ok (.getfield 46, 3) := by decide +kernel
theorem dX6_keep_38 : decode cX6_keep 38 = .ok (.iload_n 2, 1) := by decide +kernel
theorem dX6_keep_39 : decode cX6_keep 39 = .ok (.iaload, 1) := by decide +kernel
theorem dX6_keep_40 : decode cX6_keep 40 = .ok (.iastore, 1) := by decide +kernel
theorem dX6_keep_41 : decode cX6_keep 41 = .ok (.iinc 2 1, 3) := by decide +kernel
theorem dX6_keep_44 : decode cX6_keep 44 = .ok (.goto (-26), 3) := by decide +kernel
theorem dX6_keep_47 : decode cX6_keep 47 = .ok (.aload_n 0, 1) := by decide +kernel
theorem dX6_keep_48 : decode cX6_keep 48 = .ok (.getfield 52, 3) := by decide +kernel
theorem dX6_keep_51 : decode cX6_keep 51 = .ok (.iload_n 1, 1) := by decide +kernel
theorem dX6_keep_52 : decode cX6_keep 52 = .ok (.iconst 1, 1) := by decide +kernel
theorem dX6_keep_53 : decode cX6_keep 53 = .ok (.bastore, 1) := by decide +kernel
theorem dX6_keep_54 : decode cX6_keep 54 = .ok (.aload_n 0, 1) := by decide +kernel
theorem dX6_keep_55 : decode cX6_keep 55 = .ok (.getfield 46, 3) := by decide +kernel
theorem dX6_keep_58 : decode cX6_keep 58 = .ok (.iconst 0, 1) := by decide +kernel
theorem dX6_keep_59 : decode cX6_keep 59 = .ok (.iaload, 1) := by decide +kernel
theorem dX6_keep_60 : decode cX6_keep 60 = .ok (.ireturn, 1) := by decide +kernel
theorem dX6_back_0 : decode cX6_back 0 = .ok (.aload_n 0, 1) := by decide +kernel
theorem dX6_back_1 : decode cX6_back 1 = .ok (.iconst 0, 1) := by decide +kernel
theorem dX6_back_2 : decode cX6_back 2 = .ok (.putfield 74, 3) := by decide +kernel
theorem dX6_back_5 : decode cX6_back 5 = .ok (.iload_n 1, 1) := by decide +kernel
theorem dX6_back_6 : decode cX6_back 6 = .ok (.iconst 0, 1) := by decide +kernel
theorem dX6_back_7 : decode cX6_back 7 = .ok (.iconst 1, 1) := by decide +kernel
theorem dX6_back_8 : decode cX6_back 8 = .ok (.invokestatic 78, 3) := by decide +kernel
theorem dX6_back_11 : decode cX6_back 11 = .ok (.ifCond .ne 5, 3) := by decide +kernel
theorem dX6_back_14 : decode cX6_back 14 = .ok (.iconst (-1), 1) := by decide +kernel
theorem dX6_back_15 : decode cX6_back 15 = .ok (.ireturn, 1) := by decide +kernel
theorem dX6_back_16 : decode cX6_back 16 = .ok (.aload_n 0, 1) := by decide +kernel
theorem dX6_back_17 : decode cX6_back 17 = .ok (.getfield 52, 3) := by decide +kernel
theorem dX6_back_20 : decode cX6_back 20 = .ok (.iload_n 1, 1) := by decide +kernel
theorem dX6_back_21 : decode cX6_back 21 = .ok (.baload, 1) := by decide +kernel
theorem dX6_back_22 : decode cX6_back 22 = .ok (.ifCond .ne 6, 3) := by decide +kernel
theorem dX6_back_25 : decode cX6_back 25 = .ok (.bipush (-2), 2) := by decide +kernel
theorem dX6_back_27 : decode cX6_back 27 = .ok (.ireturn, 1) := by decide +kernel
theorem dX6_back_28 : decode cX6_back 28 = .ok (.iconst 0, 1) := by decide +kernel
theorem dX6_back_29 : decode cX6_back 29 = .ok (.istore_n 2, 1) := by decide +kernel
theorem dX6_back_30 : decode cX6_back 30 = .ok (.iload_n 2, 1) := by decide +kernel
theorem dX6_back_31 : decode cX6_back 31 = .ok (.bipush 37, 2) := by decide +kernel
theorem dX6_back_33 : decode cX6_back 33 = .ok (.if_icmp .ge 26, 3) := by decide +kernel
theorem dX6_back_36 : decode cX6_back 36 = .ok (.aload_n 0, 1) := by decide +kernel
theorem dX6_back_37 : decode cX6_back 37 = .ok (.getfield 46, 3) := by decide +kernel
theorem dX6_back_40 : decode cX6_back 40 = .ok (.iload_n 2, 1) := by decide +kernel
theorem dX6_back_41 : decode cX6_back 41 = .ok (.aload_n 0, 1) := by decide +kernel
theorem dX6_back_42 : decode cX6_back 42 = .ok (.getfield 49, 3) := by decide +kernel
theorem dX6_back_45 : decode cX6_back 45 = .ok (.bipush 37, 2) := by decide +kernel
theorem dX6_back_47 : decode cX6_back 47 = .ok (.iload_n 1, 1) := by decide +kernel
theorem dX6_back_48 : decode cX6_back 48 = .ok (.imul, 1) := by decide +kernel
theorem dX6_back_49 : decode cX6_back 49 = .ok (.iload_n 2, 1) := by decide +kernel
theorem dX6_back_50 : decode cX6_back 50 = .ok (.iadd, 1) := by decide +kernel
theorem dX6_back_51 : decode cX6_back 51 = .ok (.iaload, 1) := by decide +kernel
theorem dX6_back_52 : decode cX6_back 52 = .ok (.iastore, 1) := by decide +kernel
theorem dX6_back_53 : decode cX6_back 53 = .ok (.iinc 2 1, 3) := by decide +kernel
theorem dX6_back_56 : decode cX6_back 56 = .ok (.goto (-26), 3) := by decide +kernel
theorem dX6_back_59 : decode cX6_back 59 = .ok (.aload_n 0, 1) := by decide +kernel
theorem dX6_back_60 : decode cX6_back 60 = .ok (.iconst 0, 1) := by decide +kernel
theorem dX6_back_61 : decode cX6_back 61 = .ok (.putfield 142, 3) := by decide +kernel
theorem dX6_back_64 : decode cX6_back 64 = .ok (.aload_n 0, 1) := by decide +kernel
theorem dX6_back_65 : decode cX6_back 65 = .ok (.getfield 46, 3) := by decide +kernel
theorem dX6_back_68 : decode cX6_back 68 = .ok (.iconst 0, 1) := by decide +kernel
theorem dX6_back_69 : decode cX6_back 69 = .ok (.iaload, 1) := by decide +kernel
theorem dX6_back_70 : decode cX6_back 70 = .ok (.ireturn, 1) := by decide +kernel
theorem dX6_count_0 : decode cX6_count 0 = .ok (.aload_n 0, 1) := by decide +kernel
theorem dX6_count_1 : decode cX6_count 1 = .ok (.iconst 0, 1) := by decide +kernel
theorem dX6_count_2 : decode cX6_count 2 = .ok (.putfield 74, 3) := by decide +kernel
theorem dX6_count_5 : decode cX6_count 5 = .ok (.iload_n 1, 1) := by decide +kernel
theorem dX6_count_6 : decode cX6_count 6 = .ok (.iconst 0, 1) := by decide +kernel
theorem dX6_count_7 : decode cX6_count 7 = .ok (.iconst 3, 1) := by decide +kernel
theorem dX6_count_8 : decode cX6_count 8 = .ok (.invokestatic 78, 3) := by decide +kernel
theorem dX6_count_11 : decode cX6_count 11 = .ok (.ifCond .eq 12, 3) := by decide +kernel
theorem dX6_count_14 : decode cX6_count 14 = .ok (.aload_n 0, 1) := by decide +kernel
theorem dX6_count_15 : decode cX6_count 15 = .ok (.getfield 13, 3) := by decide +kernel
theorem dX6_count_18 : decode cX6_count 18 = .ok (.iload_n 1, 1) := by decide +kernel
theorem dX6_count_19 : decode cX6_count 19 = .ok (.iaload, 1) := by decide +kernel
theorem dX6_count_20 : decode cX6_count 20 = .ok (.goto 28, 3) := by decide +kernel
theorem dX6_count_23 : decode cX6_count 23 = .ok (.iload_n 1, 1) := by decide +kernel
theorem dX6_count_24 : decode cX6_count 24 = .ok (.iconst 4, 1) := by decide +kernel
theorem dX6_count_25 : decode cX6_count 25 = .ok (.if_icmp .ne 10, 3) := by decide +kernel
theorem dX6_count_28 : decode cX6_count 28 = .ok (.aload_n 0, 1) := by decide +kernel
theorem dX6_count_29 : decode cX6_count 29 = .ok (.getfield 139, 3) := by decide +kernel
theorem dX6_count_32 : decode cX6_count 32 = .ok (.goto 16, 3) := by decide +kernel
theorem dX6_count_35 : decode cX6_count 35 = .ok (.iload_n 1, 1) := by decide +kernel
theorem dX6_count_36 : decode cX6_count 36 = .ok (.iconst 5, 1) := by decide +kernel
theorem dX6_count_37 : decode cX6_count 37 = .ok (.if_icmp .ne 10, 3) := by decide +kernel
theorem dX6_count_40 : decode cX6_count 40 = .ok (.aload_n 0, 1) := by decide +kernel
theorem dX6_count_41 : decode cX6_count 41 = .ok (.getfield 82, 3) := by decide +kernel
theorem dX6_count_44 : decode cX6_count 44 = .ok (.goto 4, 3) := by decide +kernel
theorem dX6_count_47 : decode cX6_count 47 = .ok (.iconst (-1), 1) := by decide +kernel
theorem dX6_count_48 : decode cX6_count 48 = .ok (.ireturn, 1) := by decide +kernel
theorem dX6_trace_0 : decode cX6_trace 0 = .ok (.aload_n 0, 1) := by decide +kernel
theorem dX6_trace_1 : decode cX6_trace 1 = .ok (.iconst 0, 1) := by decide +kernel
theorem dX6_trace_2 : decode cX6_trace 2 = .ok (.putfield 74, 3) := by decide +kernel
theorem dX6_trace_5 : decode cX6_trace 5 = .ok (.aload_n 0, 1) := by decide +kernel
theorem dX6_trace_6 : decode cX6_trace 6 = .ok (.getfield 205, 3) := by decide +kernel
theorem dX6_trace_9 : decode cX6_trace 9 = .ok (.lreturn, 1) := by decide +kernel
end
section
theorem dX5_init_0 : decode cX5_init 0 = .ok (.aload_n 0, 1) := by decide +kernel
theorem dX5_init_1 : decode cX5_init 1 = .ok (.invokespecial 1, 3) := by decide +kernel
theorem dX5_init_4 : decode cX5_init 4 = .ok (.aload_n 0, 1) := by decide +kernel
theorem dX5_init_5 : decode cX5_init 5 = .ok (.new 7, 3) := by decide +kernel
theorem dX5_init_8 : decode cX5_init 8 = .ok (.dup, 1) := by decide +kernel
theorem dX5_init_9 : decode cX5_init 9 = .ok (.invokespecial 9, 3) := by decide +kernel
theorem dX5_init_12 : decode cX5_init 12 = .ok (.putfield 10, 3) := by decide +kernel
theorem dX5_init_15 : decode cX5_init 15 = .ok (.aload_n 0, 1) := by decide +kernel
theorem dX5_init_16 : decode cX5_init 16 = .ok (.new 16, 3) := by decide +kernel
theorem dX5_init_19 : decode cX5_init 19 = .ok (.dup, 1) := by decide +kernel
theorem dX5_init_20 : decode cX5_init 20 = .ok (.invokespecial 18, 3) := by decide +kernel
theorem dX5_init_23 : decode cX5_init 23 = .ok (.putfield 19, 3) := by decide +kernel
theorem dX5_init_26 : decode cX5_init 26 = .ok (.aload_n 0, 1) := by decide +kernel
theorem dX5_init_27 : decode cX5_init 27 = .ok (.new 23, 3) := by decide +kernel
theorem dX5_init_30 : decode cX5_init 30 = .ok (.dup, 1) := by decide +kernel
theorem dX5_init_31 : decode cX5_init 31 = .ok (.invokespecial 25, 3) := by decide +kernel
theorem dX5_init_34 : decode cX5_init 34 = .ok (.putfield 26, 3) := by decide +kernel
theorem dX5_init_37 : decode cX5_init 37 = .ok (.aload_n 0, 1) := by decide +kernel
theorem dX5_init_38 : decode cX5_init 38 = .ok (.new 30, 3) := by decide +kernel
theorem dX5_init_41 : decode cX5_init 41 = .ok (.dup, 1) := by decide +kernel
theorem dX5_init_42 : decode cX5_init 42 = .ok (.invokespecial 32, 3) := by decide +kernel
theorem dX5_init_45 : decode cX5_init 45 = .ok (.putfield 33, 3) := by decide +kernel
theorem dX5_init_48 : decode cX5_init 48 = .ok (.aload_n 0, 1) := by decide +kernel
theorem dX5_init_49 : decode cX5_init 49 = .ok (.iconst 2, 1) := by decide +kernel
theorem dX5_init_50 : decode cX5_init 50 = .ok (.anewarray 23, 3) := by decide +kernel
theorem dX5_init_53 : decode cX5_init 53 = .ok (.putfield 37, 3) := by decide +kernel
theorem dX5_init_56 : decode cX5_init 56 = .ok (.aload_n 0, 1) := by decide +kernel
theorem dX5_init_57 : decode cX5_init 57 = .ok (.iconst 2, 1) := by decide +kernel
theorem dX5_init_58 : decode cX5_init 58 = .ok (.newarray .boolean, 2) := by decide +kernel
theorem dX5_init_60 : decode cX5_init 60 = .ok (.putfield 41, 3) := by decide +kernel
theorem dX5_init_63 : decode cX5_init 63 = .ok (.aload_n 0, 1) := by decide +kernel
theorem dX5_init_64 : decode cX5_init 64 = .ok (.iconst 4, 1) := by decide +kernel
theorem dX5_init_65 : decode cX5_init 65 = .ok (.newarray .int, 2) := by decide +kernel
theorem dX5_init_67 : decode cX5_init 67 = .ok (.putfield 45, 3) := by decide +kernel
theorem dX5_init_70 : decode cX5_init 70 = .ok (.aload_n 0, 1) := by decide +kernel
theorem dX5_init_71 : decode cX5_init 71 = .ok (.bipush 6, 2) := by decide +kernel
theorem dX5_init_73 : decode cX5_init 73 = .ok (.newarray .int, 2) := by decide +kernel
theorem dX5_init_75 : decode cX5_init 75 = .ok (.putfield 49, 3) := by decide +kernel
theorem dX5_init_78 : decode cX5_init 78 = .ok (.aload_n 0, 1) := by decide +kernel
theorem dX5_init_79 : decode cX5_init 79 = .ok (.bipush 10, 2) := by decide +kernel
theorem dX5_init_81 : decode cX5_init 81 = .ok (.newarray .int, 2) := by decide +kernel
theorem dX5_init_83 : decode cX5_init 83 = .ok (.putfield 52, 3) := by decide +kernel
theorem dX5_init_86 : decode cX5_init 86 = .ok (.aload_n 0, 1) := by decide +kernel
theorem dX5_init_87 : decode cX5_init 87 = .ok (.iconst 0, 1) := by decide +kernel
theorem dX5_init_88 : decode cX5_init 88 = .ok (.putfield 55, 3) := by decide +kernel
theorem dX5_init_91 : decode cX5_init 91 = .ok (.aload_n 0, 1) := by decide +kernel
theorem dX5_init_92 : decode cX5_init 92 = .ok (.lconst 0, 1) := by decide +kernel
theorem dX5_init_93 : decode cX5_init 93 = .ok (.putfield 59, 3) := by decide +kernel
theorem dX5_init_96 : decode cX5_init 96 = .ok (.iconst 0, 1) := by decide +kernel
theorem dX5_init_97 : decode cX5_init 97 = .ok (.istore_n 1, 1) := by decide +kernel
theorem dX5_init_98 : decode cX5_init 98 = .ok (.iload_n 1, 1) := by decide +kernel
theorem dX5_init_99 : decode cX5_init 99 = .ok (.iconst 2, 1) := by decide +kernel
theorem dX5_init_100 : decode cX5_init 100 = .ok (.if_icmp .ge 22, 3) := by decide +kernel
theorem dX5_init_103 : decode cX5_init 103 = .ok (.aload_n 0, 1) := by decide +kernel
theorem dX5_init_104 : decode cX5_init 104 = .ok (.getfield 37, 3) := by decide +kernel
theorem dX5_init_107 : decode cX5_init 107 = .ok (.iload_n 1, 1) := by decide +kernel
theorem dX5_init_108 : decode cX5_init 108 = .ok (.new 23, 3) := by decide +kernel
theorem dX5_init_111 : decode cX5_init 111 = .ok (.dup, 1) := by decide +kernel
theorem dX5_init_112 : decode cX5_init 112 = .ok (.invokespecial 25, 3) := by decide +kernel
theorem dX5_init_115 : decode cX5_init 115 = .ok (.aastore, 1) := by decide +kernel
theorem dX5_init_116 : decode cX5_init 116 = .ok (.iinc 1 1, 3) := by decide +kernel
theorem dX5_init_119 : decode cX5_init 119 = .ok (.goto (-21), 3) := by decide +kernel
theorem dX5_init_122 : decode cX5_init 122 = .ok (.return_, 1) := by decide +kernel
theorem dX5_type_0 : decode cX5_type 0 = .ok (.iload_n 1, 1) := by decide +kernel
theorem dX5_type_1 : decode cX5_type 1 = .ok (.ifCond .lt 10, 3) := by decide +kernel
theorem dX5_type_4 : decode cX5_type 4 = .ok (.iload_n 1, 1) := by decide +kernel
theorem dX5_type_5 : decode cX5_type 5 = .ok (.sipush 255, 3) := by decide +kernel
theorem dX5_type_8 : decode cX5_type 8 = .ok (.if_icmp .le 5, 3) := by decide +kernel
theorem dX5_type_11 : decode cX5_type 11 = .ok (.iconst (-1), 1) := by decide +kernel
theorem dX5_type_12 : decode cX5_type 12 = .ok (.ireturn, 1) := by decide +kernel
theorem dX5_type_13 : decode cX5_type 13 = .ok (.aload_n 0, 1) := by decide +kernel
theorem dX5_type_14 : decode cX5_type 14 = .ok (.getfield 10, 3) := by decide +kernel
theorem dX5_type_17 : decode cX5_type 17 = .ok (.getfield 63, 3) := by decide +kernel
theorem dX5_type_20 : decode cX5_type 20 = .ok (.iload_n 1, 1) := by decide +kernel
theorem dX5_type_21 : decode cX5_type 21 = .ok (.invokevirtual 67, 3) := by decide +kernel
theorem dX5_type_24 : decode cX5_type 24 = .ok (.ifCond .eq 16, 3) := by decide +kernel
theorem dX5_type_27 : decode cX5_type 27 = .ok (.aload_n 0, 1) := by decide +kernel
theorem dX5_type_28 : decode cX5_type 28 = .ok (.getfield 10, 3) := by decide +kernel
theorem dX5_type_31 : decode cX5_type 31 = .ok (.getfield 63, 3) := by decide +kernel
theorem dX5_type_34 : decode cX5_type 34 = .ok (.getfield 73, 3) := by decide +kernel
theorem dX5_type_37 : decode cX5_type 37 = .ok (.goto 5, 3) := by decide +kernel
theorem dX5_type_40 : decode cX5_type 40 = .ok (.bipush (-3), 2) := by decide +kernel
theorem dX5_type_42 : decode cX5_type 42 = .ok (.ireturn, 1) := by decide +kernel
theorem dX5_clear_0 : decode cX5_clear 0 = .ok (.aload_n 0, 1) := by decide +kernel
theorem dX5_clear_1 : decode cX5_clear 1 = .ok (.getfield 10, 3) := by decide +kernel
theorem dX5_clear_4 : decode cX5_clear 4 = .ok (.getfield 63, 3) := by decide +kernel
theorem dX5_clear_7 : decode cX5_clear 7 = .ok (.getfield 73, 3) := by decide +kernel
theorem dX5_clear_10 : decode cX5_clear 10 = .ok (.istore_n 1, 1) := by decide +kernel
theorem dX5_clear_11 : decode cX5_clear 11 = .ok (.aload_n 0, 1) := by decide +kernel
theorem dX5_clear_12 : decode cX5_clear 12 = .ok (.getfield 10, 3) := by decide +kernel
theorem dX5_clear_15 : decode cX5_clear 15 = .ok (.getfield 63, 3) := by decide +kernel
theorem dX5_clear_18 : decode cX5_clear 18 = .ok (.iconst 0, 1) := by decide +kernel
theorem dX5_clear_19 : decode cX5_clear 19 = .ok (.putfield 73, 3) := by decide +kernel
theorem dX5_clear_22 : decode cX5_clear 22 = .ok (.iload_n 1, 1) := by decide +kernel
theorem dX5_clear_23 : decode cX5_clear 23 = .ok (.ireturn, 1) := by decide +kernel
theorem dX5_moss_0 : decode cX5_moss 0 = .ok (.aload_n 0, 1) := by decide +kernel
theorem dX5_moss_1 : decode cX5_moss 1 = .ok (.getfield 10, 3) := by decide +kernel
theorem dX5_moss_4 : decode cX5_moss 4 = .ok (.invokevirtual 76, 3) := by decide +kernel
theorem dX5_moss_7 : decode cX5_moss 7 = .ok (.istore_n 1, 1) := by decide +kernel
theorem dX5_moss_8 : decode cX5_moss 8 = .ok (.iload_n 1, 1) := by decide +kernel
theorem dX5_moss_9 : decode cX5_moss 9 = .ok (.ifCond .ge 5, 3) := by decide +kernel
theorem dX5_moss_12 : decode cX5_moss 12 = .ok (.iload_n 1, 1) := by decide +kernel
theorem dX5_moss_13 : decode cX5_moss 13 = .ok (.ireturn, 1) := by decide +kernel
theorem dX5_moss_14 : decode cX5_moss 14 = .ok (.aload_n 0, 1) := by decide +kernel
theorem dX5_moss_15 : decode cX5_moss 15 = .ok (.getfield 19, 3) := by decide +kernel
theorem dX5_moss_18 : decode cX5_moss 18 = .ok (.aload_n 0, 1) := by decide +kernel
theorem dX5_moss_19 : decode cX5_moss 19 = .ok (.getfield 10, 3) := by decide +kernel
theorem dX5_moss_22 : decode cX5_moss 22 = .ok (.getfield 80, 3) := by decide +kernel
theorem dX5_moss_25 : decode cX5_moss 25 = .ok (.invokevirtual 81, 3) := by decide +kernel
theorem dX5_moss_28 : decode cX5_moss 28 = .ok (.aload_n 0, 1) := by decide +kernel
theorem dX5_moss_29 : decode cX5_moss 29 = .ok (.getfield 10, 3) := by decide +kernel
theorem dX5_moss_32 : decode cX5_moss 32 = .ok (.getfield 63, 3) := by decide +kernel
theorem dX5_moss_35 : decode cX5_moss 35 = .ok (.iconst 0, 1) := by decide +kernel
theorem dX5_moss_36 : decode cX5_moss 36 = .ok (.putfield 73, 3) := by decide +kernel
theorem dX5_moss_39 : decode cX5_moss 39 = .ok (.aload_n 0, 1) := by decide +kernel
theorem dX5_moss_40 : decode cX5_moss 40 = .ok (.getfield 26, 3) := by decide +kernel
theorem dX5_moss_43 : decode cX5_moss 43 = .ok (.invokevirtual 85, 3) := by decide +kernel
theorem dX5_moss_46 : decode cX5_moss 46 = .ok (.aload_n 0, 1) := by decide +kernel
theorem dX5_moss_47 : decode cX5_moss 47 = .ok (.getfield 33, 3) := by decide +kernel
theorem dX5_moss_50 : decode cX5_moss 50 = .ok (.invokevirtual 88, 3) := by decide +kernel
theorem dX5_moss_53 : decode cX5_moss 53 = .ok (.aload_n 0, 1) := by decide +kernel
theorem dX5_moss_54 : decode cX5_moss 54 = .ok (.iconst 0, 1) := by decide +kernel
theorem dX5_moss_55 : decode cX5_moss 55 = .ok (.putfield 55, 3) := by decide +kernel
theorem dX5_moss_58 : decode cX5_moss 58 = .ok (.iconst 0, 1) := by decide +kernel
theorem dX5_moss_59 : decode cX5_moss 59 = .ok (.istore_n 2, 1) := by decide +kernel
theorem dX5_moss_60 : decode cX5_moss 60 = .ok (.iload_n 2, 1) := by decide +kernel
theorem dX5_moss_61 : decode cX5_moss 61 = .ok (.iconst 2, 1) := by decide +kernel
theorem dX5_moss_62 : decode cX5_moss 62 = .ok (.if_icmp .ge 16, 3) := by decide +kernel
theorem dX5_moss_65 : decode cX5_moss 65 = .ok (.aload_n 0, 1) := by decide +kernel
theorem dX5_moss_66 : decode cX5_moss 66 = .ok (.getfield 41, 3) := by decide +kernel
theorem dX5_moss_69 : decode cX5_moss 69 = .ok (.iload_n 2, 1) := by decide +kernel
theorem dX5_moss_70 : decode cX5_moss 70 = .ok (.iconst 0, 1) := by decide +kernel
theorem dX5_moss_71 : decode cX5_moss 71 = .ok (.bastore, 1) := by decide +kernel
theorem dX5_moss_72 : decode cX5_moss 72 = .ok (.iinc 2 1, 3) := by decide +kernel
theorem dX5_moss_75 : decode cX5_moss 75 = .ok (.goto (-15), 3) := by decide +kernel
theorem dX5_moss_78 : decode cX5_moss 78 = .ok (.iload_n 1, 1) := by decide +kernel
theorem dX5_moss_79 : decode cX5_moss 79 = .ok (.ireturn, 1) := by decide +kernel
theorem dX5_person_0 : decode cX5_person 0 = .ok (.aload_n 0, 1) := by decide +kernel
theorem dX5_person_1 : decode cX5_person 1 = .ok (.getfield 19, 3) := by decide +kernel
theorem dX5_person_4 : decode cX5_person 4 = .ok (.iload_n 1, 1) := by decide +kernel
theorem dX5_person_5 : decode cX5_person 5 = .ok (.invokevirtual 91, 3) := by decide +kernel
theorem dX5_person_8 : decode cX5_person 8 = .ok (.ifCond .ne 5, 3) := by decide +kernel
theorem dX5_person_11 : decode cX5_person 11 = .ok (.iconst (-1), 1) := by decide +kernel
theorem dX5_person_12 : decode cX5_person 12 = .ok (.ireturn, 1) := by decide +kernel
theorem dX5_person_13 : decode cX5_person 13 = .ok (.iload_n 2, 1) := by decide +kernel
theorem dX5_person_14 : decode cX5_person 14 = .ok (.lookupswitch 46 #[(0, 26), (1, 36)], 26) := by decide +kernel
theorem dX5_person_40 : decode cX5_person 40 = .ok (.aload_n 0, 1) := by decide +kernel
theorem dX5_person_41 : decode cX5_person 41 = .ok (.getfield 19, 3) := by decide +kernel
theorem dX5_person_44 : decode cX5_person 44 = .ok (.getfield 94, 3) := by decide +kernel
theorem dX5_person_47 : decode cX5_person 47 = .ok (.iload_n 1, 1) := by decide +kernel
theorem dX5_person_48 : decode cX5_person 48 = .ok (.iaload, 1) := by decide +kernel
theorem dX5_person_49 : decode cX5_person 49 = .ok (.ireturn, 1) := by decide +kernel
theorem dX5_person_50 : decode cX5_person 50 = .ok (.aload_n 0, 1) := by decide +kernel
theorem dX5_person_51 : decode cX5_person 51 = .ok (.getfield 19, 3) := by decide +kernel
theorem dX5_person_54 : decode cX5_person 54 = .ok (.getfield 97, 3) := by decide +kernel
theorem dX5_person_57 : decode cX5_person 57 = .ok (.iload_n 1, 1) := by decide +kernel
theorem dX5_person_58 : decode cX5_person 58 = .ok (.iaload, 1) := by decide +kernel
theorem dX5_person_59 : decode cX5_person 59 = .ok (.ireturn, 1) := by decide +kernel
theorem dX5_person_60 : decode cX5_person 60 = .ok (.iconst (-1), 1) := by decide +kernel
theorem dX5_person_61 : decode cX5_person 61 = .ok (.ireturn, 1) := by decide +kernel
theorem dX5_promise_0 : decode cX5_promise 0 = .ok (.aload_n 0, 1) := by decide +kernel
theorem dX5_promise_1 : decode cX5_promise 1 = .ok (.getfield 19, 3) := by decide +kernel
theorem dX5_promise_4 : decode cX5_promise 4 = .ok (.iload_n 1, 1) := by decide +kernel
theorem dX5_promise_5 : decode cX5_promise 5 = .ok (.invokevirtual 100, 3) := by decide +kernel
theorem dX5_promise_8 : decode cX5_promise 8 = .ok (.ifCond .ne 5, 3) := by decide +kernel
theorem dX5_promise_11 : decode cX5_promise 11 = .ok (.iconst (-1), 1) := by decide +kernel
theorem dX5_promise_12 : decode cX5_promise 12 = .ok (.ireturn, 1) := by decide +kernel
theorem dX5_promise_13 : decode cX5_promise 13 = .ok (.iload_n 2, 1) := by decide +kernel
theorem dX5_promise_14 : decode cX5_promise 14 = .ok (.tableswitch 126 0 7 #[46, 56, 66, 76, 86, 96, 106, 116], 46) := by decide +kernel
theorem dX5_promise_60 : decode cX5_promise 60 = .ok (.aload_n 0, 1) := by decide +kernel
theorem dX5_promise_61 : decode cX5_promise 61 = .ok (.getfield 19, 3) := by decide +kernel
theorem dX5_promise_64 : decode cX5_promise 64 = .ok (.getfield 103, 3) := by decide +kernel
theorem dX5_promise_67 : decode cX5_promise 67 = .ok (.iload_n 1, 1) := by decide +kernel
theorem dX5_promise_68 : decode cX5_promise 68 = .ok (.iaload, 1) := by decide +kernel
theorem dX5_promise_69 : decode cX5_promise 69 = .ok (.ireturn, 1) := by decide +kernel
theorem dX5_promise_70 : decode cX5_promise 70 = .ok (.aload_n 0, 1) := by decide +kernel
theorem dX5_promise_71 : decode cX5_promise 71 = .ok (.getfield 19, 3) := by decide +kernel
theorem dX5_promise_74 : decode cX5_promise 74 = .ok (.getfield 106, 3) := by decide +kernel
theorem dX5_promise_77 : decode cX5_promise 77 = .ok (.iload_n 1, 1) := by decide +kernel
theorem dX5_promise_78 : decode cX5_promise 78 = .ok (.iaload, 1) := by decide +kernel
theorem dX5_promise_79 : decode cX5_promise 79 = .ok (.ireturn, 1) := by decide +kernel
theorem dX5_promise_80 : decode cX5_promise 80 = .ok (.aload_n 0, 1) := by decide +kernel
theorem dX5_promise_81 : decode cX5_promise 81 = .ok (.getfield 19, 3) := by decide +kernel
theorem dX5_promise_84 : decode cX5_promise 84 = .ok (.getfield 109, 3) := by decide +kernel
theorem dX5_promise_87 : decode cX5_promise 87 = .ok (.iload_n 1, 1) := by decide +kernel
theorem dX5_promise_88 : decode cX5_promise 88 = .ok (.iaload, 1) := by decide +kernel
theorem dX5_promise_89 : decode cX5_promise 89 = .ok (.ireturn, 1) := by decide +kernel
theorem dX5_promise_90 : decode cX5_promise 90 = .ok (.aload_n 0, 1) := by decide +kernel
theorem dX5_promise_91 : decode cX5_promise 91 = .ok (.getfield 19, 3) := by decide +kernel
theorem dX5_promise_94 : decode cX5_promise 94 = .ok (.getfield 112, 3) := by decide +kernel
theorem dX5_promise_97 : decode cX5_promise 97 = .ok (.iload_n 1, 1) := by decide +kernel
theorem dX5_promise_98 : decode cX5_promise 98 = .ok (.iaload, 1) := by decide +kernel
theorem dX5_promise_99 : decode cX5_promise 99 = .ok (.ireturn, 1) := by decide +kernel
theorem dX5_promise_100 : decode cX5_promise 100 = .ok (.aload_n 0, 1) := by decide +kernel
theorem dX5_promise_101 : decode cX5_promise 101 = .ok (.getfield 19, 3) := by decide +kernel
theorem dX5_promise_104 : decode cX5_promise 104 = .ok (.getfield 115, 3) := by decide +kernel
theorem dX5_promise_107 : decode cX5_promise 107 = .ok (.iload_n 1, 1) := by decide +kernel
theorem dX5_promise_108 : decode cX5_promise 108 = .ok (.iaload, 1) := by decide +kernel
theorem dX5_promise_109 : decode cX5_promise 109 = .ok (.ireturn, 1) := by decide +kernel
theorem dX5_promise_110 : decode cX5_promise 110 = .ok (.aload_n 0, 1) := by decide +kernel
theorem dX5_promise_111 : decode cX5_promise 111 = .ok (.getfield 19, 3) := by decide +kernel
theorem dX5_promise_114 : decode cX5_promise 114 = .ok (.getfield 118, 3) := by decide +kernel
theorem dX5_promise_117 : decode cX5_promise 117 = .ok (.iload_n 1, 1) := by decide +kernel
theorem dX5_promise_118 : decode cX5_promise 118 = .ok (.iaload, 1) := by decide +kernel
theorem dX5_promise_119 : decode cX5_promise 119 = .ok (.ireturn, 1) := by decide +kernel
theorem dX5_promise_120 : decode cX5_promise 120 = .ok (.aload_n 0, 1) := by decide +kernel
theorem dX5_promise_121 : decode cX5_promise 121 = .ok (.getfield 19, 3) := by decide +kernel
theorem dX5_promise_124 : decode cX5_promise 124 = .ok (.getfield 121, 3) := by decide +kernel
theorem dX5_promise_127 : decode cX5_promise 127 = .ok (.iload_n 1, 1) := by decide +kernel
theorem dX5_promise_128 : decode cX5_promise 128 = .ok (.iaload, 1) := by decide +kernel
theorem dX5_promise_129 : decode cX5_promise 129 = .ok (.ireturn, 1) := by decide +kernel
theorem dX5_promise_130 : decode cX5_promise 130 = .ok (.aload_n 0, 1) := by decide +kernel
theorem dX5_promise_131 : decode cX5_promise 131 = .ok (.getfield 26, 3) := by decide +kernel
theorem dX5_promise_134 : decode cX5_promise 134 = .ok (.getfield 124, 3) := by decide +kernel
theorem dX5_promise_137 : decode cX5_promise 137 = .ok (.iload_n 1, 1) := by decide +kernel
theorem dX5_promise_138 : decode cX5_promise 138 = .ok (.iaload, 1) := by decide +kernel
theorem dX5_promise_139 : decode cX5_promise 139 = .ok (.ireturn, 1) := by decide +kernel
theorem dX5_promise_140 : decode cX5_promise 140 = .ok (.iconst (-1), 1) := by decide +kernel
theorem dX5_promise_141 : decode cX5_promise 141 = .ok (.ireturn, 1) := by decide +kernel
theorem dX5_word_0 : decode cX5_word 0 = .ok (.aload_n 0, 1) := by decide +kernel
theorem dX5_word_1 : decode cX5_word 1 = .ok (.getfield 19, 3) := by decide +kernel
theorem dX5_word_4 : decode cX5_word 4 = .ok (.iload_n 1, 1) := by decide +kernel
theorem dX5_word_5 : decode cX5_word 5 = .ok (.invokevirtual 100, 3) := by decide +kernel
theorem dX5_word_8 : decode cX5_word 8 = .ok (.ifCond .eq 12, 3) := by decide +kernel
theorem dX5_word_11 : decode cX5_word 11 = .ok (.iload_n 2, 1) := by decide +kernel
theorem dX5_word_12 : decode cX5_word 12 = .ok (.ifCond .lt 8, 3) := by decide +kernel
theorem dX5_word_15 : decode cX5_word 15 = .ok (.iload_n 2, 1) := by decide +kernel
theorem dX5_word_16 : decode cX5_word 16 = .ok (.iconst 4, 1) := by decide +kernel
theorem dX5_word_17 : decode cX5_word 17 = .ok (.if_icmp .lt 5, 3) := by decide +kernel
theorem dX5_word_20 : decode cX5_word 20 = .ok (.iconst (-1), 1) := by decide +kernel
theorem dX5_word_21 : decode cX5_word 21 = .ok (.ireturn, 1) := by decide +kernel
theorem dX5_word_22 : decode cX5_word 22 = .ok (.iload_n 2, 1) := by decide +kernel
theorem dX5_word_23 : decode cX5_word 23 = .ok (.aload_n 0, 1) := by decide +kernel
theorem dX5_word_24 : decode cX5_word 24 = .ok (.iload_n 1, 1) := by decide +kernel
theorem dX5_word_25 : decode cX5_word 25 = .ok (.iconst 0, 1) := by decide +kernel
theorem dX5_word_26 : decode cX5_word 26 = .ok (.invokevirtual 127, 3) := by decide +kernel
theorem dX5_word_29 : decode cX5_word 29 = .ok (.if_icmp .ge 15, 3) := by decide +kernel
theorem dX5_word_32 : decode cX5_word 32 = .ok (.aload_n 0, 1) := by decide +kernel
theorem dX5_word_33 : decode cX5_word 33 = .ok (.getfield 19, 3) := by decide +kernel
theorem dX5_word_36 : decode cX5_word 36 = .ok (.iload_n 1, 1) := by decide +kernel
theorem dX5_word_37 : decode cX5_word 37 = .ok (.iload_n 2, 1) := by decide +kernel
theorem dX5_word_38 : decode cX5_word 38 = .ok (.invokevirtual 131, 3) := by decide +kernel
theorem dX5_word_41 : decode cX5_word 41 = .ok (.goto 5, 3) := by decide +kernel
theorem dX5_word_44 : decode cX5_word 44 = .ok (.bipush (-9), 2) := by decide +kernel
theorem dX5_word_46 : decode cX5_word 46 = .ok (.ireturn, 1) := by decide +kernel
theorem dX5_cell_0 : decode cX5_cell 0 = .ok (.iload_n 1, 1) := by decide +kernel
theorem dX5_cell_1 : decode cX5_cell 1 = .ok (.invokestatic 134, 3) := by decide +kernel
theorem dX5_cell_4 : decode cX5_cell 4 = .ok (.ifCond .ne 5, 3) := by decide +kernel
theorem dX5_cell_7 : decode cX5_cell 7 = .ok (.iconst (-1), 1) := by decide +kernel
theorem dX5_cell_8 : decode cX5_cell 8 = .ok (.ireturn, 1) := by decide +kernel
theorem dX5_cell_9 : decode cX5_cell 9 = .ok (.iload_n 2, 1) := by decide +kernel
theorem dX5_cell_10 : decode cX5_cell 10 = .ok (.tableswitch 62 0 3 #[30, 40, 50, 56], 30) := by decide +kernel
theorem dX5_cell_40 : decode cX5_cell 40 = .ok (.aload_n 0, 1) := by decide +kernel
theorem dX5_cell_41 : decode cX5_cell 41 = .ok (.getfield 26, 3) := by decide +kernel
theorem dX5_cell_44 : decode cX5_cell 44 = .ok (.getfield 137, 3) := by decide +kernel
theorem dX5_cell_47 : decode cX5_cell 47 = .ok (.iload_n 1, 1) := by decide +kernel
theorem dX5_cell_48 : decode cX5_cell 48 = .ok (.iaload, 1) := by decide +kernel
theorem dX5_cell_49 : decode cX5_cell 49 = .ok (.ireturn, 1) := by decide +kernel
theorem dX5_cell_50 : decode cX5_cell 50 = .ok (.aload_n 0, 1) := by decide +kernel
theorem dX5_cell_51 : decode cX5_cell 51 = .ok (.getfield 26, 3) := by decide +kernel
theorem dX5_cell_54 : decode cX5_cell 54 = .ok (.getfield 140, 3) := by decide +kernel
theorem dX5_cell_57 : decode cX5_cell 57 = .ok (.iload_n 1, 1) := by decide +kernel
theorem dX5_cell_58 : decode cX5_cell 58 = .ok (.iaload, 1) := by decide +kernel
theorem dX5_cell_59 : decode cX5_cell 59 = .ok (.ireturn, 1) := by decide +kernel
theorem dX5_cell_60 : decode cX5_cell 60 = .ok (.aload_n 0, 1) := by decide +kernel
theorem dX5_cell_61 : decode cX5_cell 61 = .ok (.iload_n 1, 1) := by decide +kernel
theorem dX5_cell_62 : decode cX5_cell 62 = .ok (.invokevirtual 143, 3) := by decide +kernel
theorem dX5_cell_65 : decode cX5_cell 65 = .ok (.ireturn, 1) := by decide +kernel
theorem dX5_cell_66 : decode cX5_cell 66 = .ok (.aload_n 0, 1) := by decide +kernel
theorem dX5_cell_67 : decode cX5_cell 67 = .ok (.iload_n 1, 1) := by decide +kernel
theorem dX5_cell_68 : decode cX5_cell 68 = .ok (.invokevirtual 147, 3) := by decide +kernel
theorem dX5_cell_71 : decode cX5_cell 71 = .ok (.ireturn, 1) := by decide +kernel
theorem dX5_cell_72 : decode cX5_cell 72 = .ok (.iconst (-1), 1) := by decide +kernel
theorem dX5_cell_73 : decode cX5_cell 73 = .ok (.ireturn, 1) := by decide +kernel
theorem dX5_now_0 : decode cX5_now 0 = .ok (.iload_n 1, 1) := by decide +kernel
theorem dX5_now_1 : decode cX5_now 1 = .ok (.tableswitch 79 0 5 #[39, 47, 53, 59, 65, 71], 39) := by decide +kernel
theorem dX5_now_40 : decode cX5_now 40 = .ok (.aload_n 0, 1) := by decide +kernel
theorem dX5_now_41 : decode cX5_now 41 = .ok (.getfield 26, 3) := by decide +kernel
theorem dX5_now_44 : decode cX5_now 44 = .ok (.getfield 150, 3) := by decide +kernel
theorem dX5_now_47 : decode cX5_now 47 = .ok (.ireturn, 1) := by decide +kernel
theorem dX5_now_48 : decode cX5_now 48 = .ok (.aload_n 0, 1) := by decide +kernel
theorem dX5_now_49 : decode cX5_now 49 = .ok (.iconst 0, 1) := by decide +kernel
theorem dX5_now_50 : decode cX5_now 50 = .ok (.invokevirtual 153, 3) := by decide +kernel
theorem dX5_now_53 : decode cX5_now 53 = .ok (.ireturn, 1) := by decide +kernel
theorem dX5_now_54 : decode cX5_now 54 = .ok (.aload_n 0, 1) := by decide +kernel
theorem dX5_now_55 : decode cX5_now 55 = .ok (.iconst 1, 1) := by decide +kernel
theorem dX5_now_56 : decode cX5_now 56 = .ok (.invokevirtual 153, 3) := by decide +kernel
theorem dX5_now_59 : decode cX5_now 59 = .ok (.ireturn, 1) := by decide +kernel
theorem dX5_now_60 : decode cX5_now 60 = .ok (.aload_n 0, 1) := by decide +kernel
theorem dX5_now_61 : decode cX5_now 61 = .ok (.iconst 2, 1) := by decide +kernel
theorem dX5_now_62 : decode cX5_now 62 = .ok (.invokevirtual 153, 3) := by decide +kernel
theorem dX5_now_65 : decode cX5_now 65 = .ok (.ireturn, 1) := by decide +kernel
theorem dX5_now_66 : decode cX5_now 66 = .ok (.aload_n 0, 1) := by decide +kernel
theorem dX5_now_67 : decode cX5_now 67 = .ok (.iconst 3, 1) := by decide +kernel
theorem dX5_now_68 : decode cX5_now 68 = .ok (.invokevirtual 153, 3) := by decide +kernel
theorem dX5_now_71 : decode cX5_now 71 = .ok (.ireturn, 1) := by decide +kernel
theorem dX5_now_72 : decode cX5_now 72 = .ok (.aload_n 0, 1) := by decide +kernel
theorem dX5_now_73 : decode cX5_now 73 = .ok (.getfield 33, 3) := by decide +kernel
theorem dX5_now_76 : decode cX5_now 76 = .ok (.getfield 156, 3) := by decide +kernel
theorem dX5_now_79 : decode cX5_now 79 = .ok (.ireturn, 1) := by decide +kernel
theorem dX5_now_80 : decode cX5_now 80 = .ok (.iconst (-1), 1) := by decide +kernel
theorem dX5_now_81 : decode cX5_now 81 = .ok (.ireturn, 1) := by decide +kernel
theorem dX5_cuts_0 : decode cX5_cuts 0 = .ok (.iload_n 1, 1) := by decide +kernel
theorem dX5_cuts_1 : decode cX5_cuts 1 = .ok (.invokestatic 134, 3) := by decide +kernel
theorem dX5_cuts_4 : decode cX5_cuts 4 = .ok (.ifCond .ne 5, 3) := by decide +kernel
theorem dX5_cuts_7 : decode cX5_cuts 7 = .ok (.iconst (-1), 1) := by decide +kernel
theorem dX5_cuts_8 : decode cX5_cuts 8 = .ok (.ireturn, 1) := by decide +kernel
theorem dX5_cuts_9 : decode cX5_cuts 9 = .ok (.aload_n 0, 1) := by decide +kernel
theorem dX5_cuts_10 : decode cX5_cuts 10 = .ok (.getfield 26, 3) := by decide +kernel
theorem dX5_cuts_13 : decode cX5_cuts 13 = .ok (.getfield 137, 3) := by decide +kernel
theorem dX5_cuts_16 : decode cX5_cuts 16 = .ok (.iload_n 1, 1) := by decide +kernel
theorem dX5_cuts_17 : decode cX5_cuts 17 = .ok (.iaload, 1) := by decide +kernel
theorem dX5_cuts_18 : decode cX5_cuts 18 = .ok (.bipush 6, 2) := by decide +kernel
theorem dX5_cuts_20 : decode cX5_cuts 20 = .ok (.if_icmp .lt 6, 3) := by decide +kernel
theorem dX5_cuts_23 : decode cX5_cuts 23 = .ok (.bipush (-2), 2) := by decide +kernel
theorem dX5_cuts_25 : decode cX5_cuts 25 = .ok (.ireturn, 1) := by decide +kernel
theorem dX5_cuts_26 : decode cX5_cuts 26 = .ok (.aload_n 0, 1) := by decide +kernel
theorem dX5_cuts_27 : decode cX5_cuts 27 = .ok (.getfield 33, 3) := by decide +kernel
theorem dX5_cuts_30 : decode cX5_cuts 30 = .ok (.aload_n 0, 1) := by decide +kernel
theorem dX5_cuts_31 : decode cX5_cuts 31 = .ok (.getfield 26, 3) := by decide +kernel
theorem dX5_cuts_34 : decode cX5_cuts 34 = .ok (.invokevirtual 159, 3) := by decide +kernel
theorem dX5_cuts_37 : decode cX5_cuts 37 = .ok (.iconst 0, 1) := by decide +kernel
theorem dX5_cuts_38 : decode cX5_cuts 38 = .ok (.istore_n 2, 1) := by decide +kernel
theorem dX5_cuts_39 : decode cX5_cuts 39 = .ok (.iconst 0, 1) := by decide +kernel
theorem dX5_cuts_40 : decode cX5_cuts 40 = .ok (.istore_n 3, 1) := by decide +kernel
theorem dX5_cuts_41 : decode cX5_cuts 41 = .ok (.iload_n 3, 1) := by decide +kernel
theorem dX5_cuts_42 : decode cX5_cuts 42 = .ok (.bipush 8, 2) := by decide +kernel
theorem dX5_cuts_44 : decode cX5_cuts 44 = .ok (.if_icmp .ge 67, 3) := by decide +kernel
theorem dX5_cuts_47 : decode cX5_cuts 47 = .ok (.aload_n 0, 1) := by decide +kernel
theorem dX5_cuts_48 : decode cX5_cuts 48 = .ok (.iload_n 3, 1) := by decide +kernel
theorem dX5_cuts_49 : decode cX5_cuts 49 = .ok (.iload_n 1, 1) := by decide +kernel
theorem dX5_cuts_50 : decode cX5_cuts 50 = .ok (.invokevirtual 163, 3) := by decide +kernel
theorem dX5_cuts_53 : decode cX5_cuts 53 = .ok (.ifCond .eq 52, 3) := by decide +kernel
theorem dX5_cuts_56 : decode cX5_cuts 56 = .ok (.aload_n 0, 1) := by decide +kernel
theorem dX5_cuts_57 : decode cX5_cuts 57 = .ok (.getfield 19, 3) := by decide +kernel
theorem dX5_cuts_60 : decode cX5_cuts 60 = .ok (.getfield 109, 3) := by decide +kernel
theorem dX5_cuts_63 : decode cX5_cuts 63 = .ok (.iload_n 3, 1) := by decide +kernel
theorem dX5_cuts_64 : decode cX5_cuts 64 = .ok (.iaload, 1) := by decide +kernel
theorem dX5_cuts_65 : decode cX5_cuts 65 = .ok (.aload_n 0, 1) := by decide +kernel
theorem dX5_cuts_66 : decode cX5_cuts 66 = .ok (.getfield 26, 3) := by decide +kernel
theorem dX5_cuts_69 : decode cX5_cuts 69 = .ok (.getfield 137, 3) := by decide +kernel
theorem dX5_cuts_72 : decode cX5_cuts 72 = .ok (.iload_n 1, 1) := by decide +kernel
theorem dX5_cuts_73 : decode cX5_cuts 73 = .ok (.iaload, 1) := by decide +kernel
theorem dX5_cuts_74 : decode cX5_cuts 74 = .ok (.if_icmp .ne 31, 3) := by decide +kernel
theorem dX5_cuts_77 : decode cX5_cuts 77 = .ok (.aload_n 0, 1) := by decide +kernel
theorem dX5_cuts_78 : decode cX5_cuts 78 = .ok (.getfield 26, 3) := by decide +kernel
theorem dX5_cuts_81 : decode cX5_cuts 81 = .ok (.getfield 167, 3) := by decide +kernel
theorem dX5_cuts_84 : decode cX5_cuts 84 = .ok (.iload_n 3, 1) := by decide +kernel
theorem dX5_cuts_85 : decode cX5_cuts 85 = .ok (.aload_n 0, 1) := by decide +kernel
theorem dX5_cuts_86 : decode cX5_cuts 86 = .ok (.iload_n 3, 1) := by decide +kernel
theorem dX5_cuts_87 : decode cX5_cuts 87 = .ok (.iconst 0, 1) := by decide +kernel
theorem dX5_cuts_88 : decode cX5_cuts 88 = .ok (.invokevirtual 127, 3) := by decide +kernel
theorem dX5_cuts_91 : decode cX5_cuts 91 = .ok (.iastore, 1) := by decide +kernel
theorem dX5_cuts_92 : decode cX5_cuts 92 = .ok (.aload_n 0, 1) := by decide +kernel
theorem dX5_cuts_93 : decode cX5_cuts 93 = .ok (.getfield 26, 3) := by decide +kernel
theorem dX5_cuts_96 : decode cX5_cuts 96 = .ok (.getfield 124, 3) := by decide +kernel
theorem dX5_cuts_99 : decode cX5_cuts 99 = .ok (.iload_n 3, 1) := by decide +kernel
theorem dX5_cuts_100 : decode cX5_cuts 100 = .ok (.iconst 1, 1) := by decide +kernel
theorem dX5_cuts_101 : decode cX5_cuts 101 = .ok (.iastore, 1) := by decide +kernel
theorem dX5_cuts_102 : decode cX5_cuts 102 = .ok (.iinc 2 1, 3) := by decide +kernel
theorem dX5_cuts_105 : decode cX5_cuts 105 = .ok (.iinc 3 1, 3) := by decide +kernel
theorem dX5_cuts_108 : decode cX5_cuts 108 = .ok (.goto (-67), 3) := by decide +kernel
theorem dX5_cuts_111 : decode cX5_cuts 111 = .ok (.aload_n 0, 1) := by decide +kernel
theorem dX5_cuts_112 : decode cX5_cuts 112 = .ok (.getfield 26, 3) := by decide +kernel
theorem dX5_cuts_115 : decode cX5_cuts 115 = .ok (.getfield 137, 3) := by decide +kernel
theorem dX5_cuts_118 : decode cX5_cuts 118 = .ok (.iload_n 1, 1) := by decide +kernel
theorem dX5_cuts_119 : decode cX5_cuts 119 = .ok (.dup2, 1) := by decide +kernel
theorem dX5_cuts_120 : decode cX5_cuts 120 = .ok (.iaload, 1) := by decide +kernel
theorem dX5_cuts_121 : decode cX5_cuts 121 = .ok (.iconst 1, 1) := by decide +kernel
theorem dX5_cuts_122 : decode cX5_cuts 122 = .ok (.iadd, 1) := by decide +kernel
theorem dX5_cuts_123 : decode cX5_cuts 123 = .ok (.iastore, 1) := by decide +kernel
theorem dX5_cuts_124 : decode cX5_cuts 124 = .ok (.iload_n 2, 1) := by decide +kernel
theorem dX5_cuts_125 : decode cX5_cuts 125 = .ok (.ireturn, 1) := by decide +kernel
theorem dX5_drains_0 : decode cX5_drains 0 = .ok (.iload_n 1, 1) := by decide +kernel
theorem dX5_drains_1 : decode cX5_drains 1 = .ok (.invokestatic 134, 3) := by decide +kernel
theorem dX5_drains_4 : decode cX5_drains 4 = .ok (.ifCond .ne 5, 3) := by decide +kernel
theorem dX5_drains_7 : decode cX5_drains 7 = .ok (.iconst (-1), 1) := by decide +kernel
theorem dX5_drains_8 : decode cX5_drains 8 = .ok (.ireturn, 1) := by decide +kernel
theorem dX5_drains_9 : decode cX5_drains 9 = .ok (.aload_n 0, 1) := by decide +kernel
theorem dX5_drains_10 : decode cX5_drains 10 = .ok (.getfield 26, 3) := by decide +kernel
theorem dX5_drains_13 : decode cX5_drains 13 = .ok (.getfield 140, 3) := by decide +kernel
theorem dX5_drains_16 : decode cX5_drains 16 = .ok (.iload_n 1, 1) := by decide +kernel
theorem dX5_drains_17 : decode cX5_drains 17 = .ok (.iaload, 1) := by decide +kernel
theorem dX5_drains_18 : decode cX5_drains 18 = .ok (.istore_n 2, 1) := by decide +kernel
theorem dX5_drains_19 : decode cX5_drains 19 = .ok (.iload_n 2, 1) := by decide +kernel
theorem dX5_drains_20 : decode cX5_drains 20 = .ok (.ifCond .ne 6, 3) := by decide +kernel
theorem dX5_drains_23 : decode cX5_drains 23 = .ok (.bipush (-2), 2) := by decide +kernel
theorem dX5_drains_25 : decode cX5_drains 25 = .ok (.ireturn, 1) := by decide +kernel
theorem dX5_drains_26 : decode cX5_drains 26 = .ok (.aload_n 0, 1) := by decide +kernel
theorem dX5_drains_27 : decode cX5_drains 27 = .ok (.getfield 33, 3) := by decide +kernel
theorem dX5_drains_30 : decode cX5_drains 30 = .ok (.aload_n 0, 1) := by decide +kernel
theorem dX5_drains_31 : decode cX5_drains 31 = .ok (.getfield 26, 3) := by decide +kernel
theorem dX5_drains_34 : decode cX5_drains 34 = .ok (.invokevirtual 159, 3) := by decide +kernel
theorem dX5_drains_37 : decode cX5_drains 37 = .ok (.aload_n 0, 1) := by decide +kernel
theorem dX5_drains_38 : decode cX5_drains 38 = .ok (.getfield 26, 3) := by decide +kernel
theorem dX5_drains_41 : decode cX5_drains 41 = .ok (.getfield 140, 3) := by decide +kernel
theorem dX5_drains_44 : decode cX5_drains 44 = .ok (.iload_n 1, 1) := by decide +kernel
theorem dX5_drains_45 : decode cX5_drains 45 = .ok (.iconst 0, 1) := by decide +kernel
theorem dX5_drains_46 : decode cX5_drains 46 = .ok (.iastore, 1) := by decide +kernel
theorem dX5_drains_47 : decode cX5_drains 47 = .ok (.iconst 0, 1) := by decide +kernel
theorem dX5_drains_48 : decode cX5_drains 48 = .ok (.istore_n 3, 1) := by decide +kernel
theorem dX5_drains_49 : decode cX5_drains 49 = .ok (.iload_n 3, 1) := by decide +kernel
theorem dX5_drains_50 : decode cX5_drains 50 = .ok (.bipush 8, 2) := by decide +kernel
theorem dX5_drains_52 : decode cX5_drains 52 = .ok (.if_icmp .ge 43, 3) := by decide +kernel
theorem dX5_drains_55 : decode cX5_drains 55 = .ok (.aload_n 0, 1) := by decide +kernel
theorem dX5_drains_56 : decode cX5_drains 56 = .ok (.iload_n 3, 1) := by decide +kernel
theorem dX5_drains_57 : decode cX5_drains 57 = .ok (.iload_n 1, 1) := by decide +kernel
theorem dX5_drains_58 : decode cX5_drains 58 = .ok (.invokevirtual 163, 3) := by decide +kernel
theorem dX5_drains_61 : decode cX5_drains 61 = .ok (.ifCond .eq 28, 3) := by decide +kernel
theorem dX5_drains_64 : decode cX5_drains 64 = .ok (.aload_n 0, 1) := by decide +kernel
theorem dX5_drains_65 : decode cX5_drains 65 = .ok (.getfield 26, 3) := by decide +kernel
theorem dX5_drains_68 : decode cX5_drains 68 = .ok (.getfield 170, 3) := by decide +kernel
theorem dX5_drains_71 : decode cX5_drains 71 = .ok (.iload_n 3, 1) := by decide +kernel
theorem dX5_drains_72 : decode cX5_drains 72 = .ok (.bipush 9, 2) := by decide +kernel
theorem dX5_drains_74 : decode cX5_drains 74 = .ok (.aload_n 0, 1) := by decide +kernel
theorem dX5_drains_75 : decode cX5_drains 75 = .ok (.getfield 26, 3) := by decide +kernel
theorem dX5_drains_78 : decode cX5_drains 78 = .ok (.getfield 170, 3) := by decide +kernel
theorem dX5_drains_81 : decode cX5_drains 81 = .ok (.iload_n 3, 1) := by decide +kernel
theorem dX5_drains_82 : decode cX5_drains 82 = .ok (.iaload, 1) := by decide +kernel
theorem dX5_drains_83 : decode cX5_drains 83 = .ok (.iconst 1, 1) := by decide +kernel
theorem dX5_drains_84 : decode cX5_drains 84 = .ok (.iadd, 1) := by decide +kernel
theorem dX5_drains_85 : decode cX5_drains 85 = .ok (.invokestatic 173, 3) := by decide +kernel
theorem dX5_drains_88 : decode cX5_drains 88 = .ok (.iastore, 1) := by decide +kernel
theorem dX5_drains_89 : decode cX5_drains 89 = .ok (.iinc 3 1, 3) := by decide +kernel
theorem dX5_drains_92 : decode cX5_drains 92 = .ok (.goto (-43), 3) := by decide +kernel
theorem dX5_drains_95 : decode cX5_drains 95 = .ok (.iload_n 2, 1) := by decide +kernel
theorem dX5_drains_96 : decode cX5_drains 96 = .ok (.ireturn, 1) := by decide +kernel
theorem dX5_does_0 : decode cX5_does 0 = .ok (.aload_n 0, 1) := by decide +kernel
theorem dX5_does_1 : decode cX5_does 1 = .ok (.getfield 19, 3) := by decide +kernel
theorem dX5_does_4 : decode cX5_does 4 = .ok (.iload_n 1, 1) := by decide +kernel
theorem dX5_does_5 : decode cX5_does 5 = .ok (.invokevirtual 100, 3) := by decide +kernel
theorem dX5_does_8 : decode cX5_does 8 = .ok (.ifCond .ne 5, 3) := by decide +kernel
theorem dX5_does_11 : decode cX5_does 11 = .ok (.iconst (-1), 1) := by decide +kernel
theorem dX5_does_12 : decode cX5_does 12 = .ok (.ireturn, 1) := by decide +kernel
theorem dX5_does_13 : decode cX5_does 13 = .ok (.aload_n 0, 1) := by decide +kernel
theorem dX5_does_14 : decode cX5_does 14 = .ok (.iload_n 1, 1) := by decide +kernel
theorem dX5_does_15 : decode cX5_does 15 = .ok (.aload_n 0, 1) := by decide +kernel
theorem dX5_does_16 : decode cX5_does 16 = .ok (.iconst 2, 1) := by decide +kernel
theorem dX5_does_17 : decode cX5_does 17 = .ok (.invokevirtual 153, 3) := by decide +kernel
theorem dX5_does_20 : decode cX5_does 20 = .ok (.invokevirtual 178, 3) := by decide +kernel
theorem dX5_does_23 : decode cX5_does 23 = .ok (.ifCond .ne 6, 3) := by decide +kernel
theorem dX5_does_26 : decode cX5_does 26 = .ok (.bipush (-2), 2) := by decide +kernel
theorem dX5_does_28 : decode cX5_does 28 = .ok (.ireturn, 1) := by decide +kernel
theorem dX5_does_29 : decode cX5_does 29 = .ok (.aload_n 0, 1) := by decide +kernel
theorem dX5_does_30 : decode cX5_does 30 = .ok (.getfield 33, 3) := by decide +kernel
theorem dX5_does_33 : decode cX5_does 33 = .ok (.aload_n 0, 1) := by decide +kernel
theorem dX5_does_34 : decode cX5_does 34 = .ok (.getfield 26, 3) := by decide +kernel
theorem dX5_does_37 : decode cX5_does 37 = .ok (.invokevirtual 159, 3) := by decide +kernel
theorem dX5_does_40 : decode cX5_does 40 = .ok (.aload_n 0, 1) := by decide +kernel
theorem dX5_does_41 : decode cX5_does 41 = .ok (.getfield 26, 3) := by decide +kernel
theorem dX5_does_44 : decode cX5_does 44 = .ok (.getfield 124, 3) := by decide +kernel
theorem dX5_does_47 : decode cX5_does 47 = .ok (.iload_n 1, 1) := by decide +kernel
theorem dX5_does_48 : decode cX5_does 48 = .ok (.iconst 2, 1) := by decide +kernel
theorem dX5_does_49 : decode cX5_does 49 = .ok (.iastore, 1) := by decide +kernel
theorem dX5_does_50 : decode cX5_does 50 = .ok (.aload_n 0, 1) := by decide +kernel
theorem dX5_does_51 : decode cX5_does 51 = .ok (.iconst 2, 1) := by decide +kernel
theorem dX5_does_52 : decode cX5_does 52 = .ok (.invokevirtual 153, 3) := by decide +kernel
theorem dX5_does_55 : decode cX5_does 55 = .ok (.invokestatic 181, 3) := by decide +kernel
theorem dX5_does_58 : decode cX5_does 58 = .ok (.ireturn, 1) := by decide +kernel
theorem dX5_year_0 : decode cX5_year 0 = .ok (.aload_n 0, 1) := by decide +kernel
theorem dX5_year_1 : decode cX5_year 1 = .ok (.getfield 26, 3) := by decide +kernel
theorem dX5_year_4 : decode cX5_year 4 = .ok (.getfield 150, 3) := by decide +kernel
theorem dX5_year_7 : decode cX5_year 7 = .ok (.sipush 999, 3) := by decide +kernel
theorem dX5_year_10 : decode cX5_year 10 = .ok (.if_icmp .lt 6, 3) := by decide +kernel
theorem dX5_year_13 : decode cX5_year 13 = .ok (.bipush (-2), 2) := by decide +kernel
theorem dX5_year_15 : decode cX5_year 15 = .ok (.ireturn, 1) := by decide +kernel
theorem dX5_year_16 : decode cX5_year 16 = .ok (.aload_n 0, 1) := by decide +kernel
theorem dX5_year_17 : decode cX5_year 17 = .ok (.getfield 33, 3) := by decide +kernel
theorem dX5_year_20 : decode cX5_year 20 = .ok (.aload_n 0, 1) := by decide +kernel
theorem dX5_year_21 : decode cX5_year 21 = .ok (.getfield 26, 3) := by decide +kernel
theorem dX5_year_24 : decode cX5_year 24 = .ok (.invokevirtual 159, 3) := by decide +kernel
theorem dX5_year_27 : decode cX5_year 27 = .ok (.aload_n 0, 1) := by decide +kernel
theorem dX5_year_28 : decode cX5_year 28 = .ok (.getfield 26, 3) := by decide +kernel
theorem dX5_year_31 : decode cX5_year 31 = .ok (.dup, 1) := by decide +kernel
theorem dX5_year_32 : decode cX5_year 32 = .ok (.getfield 150, 3) := by decide +kernel
theorem dX5_year_35 : decode cX5_year 35 = .ok (.iconst 1, 1) := by decide +kernel
theorem dX5_year_36 : decode cX5_year 36 = .ok (.iadd, 1) := by decide +kernel
theorem dX5_year_37 : decode cX5_year 37 = .ok (.putfield 150, 3) := by decide +kernel
theorem dX5_year_40 : decode cX5_year 40 = .ok (.aload_n 0, 1) := by decide +kernel
theorem dX5_year_41 : decode cX5_year 41 = .ok (.aload_n 0, 1) := by decide +kernel
theorem dX5_year_42 : decode cX5_year 42 = .ok (.getfield 26, 3) := by decide +kernel
theorem dX5_year_45 : decode cX5_year 45 = .ok (.getfield 140, 3) := by decide +kernel
theorem dX5_year_48 : decode cX5_year 48 = .ok (.invokevirtual 186, 3) := by decide +kernel
theorem dX5_year_51 : decode cX5_year 51 = .ok (.istore_n 1, 1) := by decide +kernel
theorem dX5_year_52 : decode cX5_year 52 = .ok (.iconst 0, 1) := by decide +kernel
theorem dX5_year_53 : decode cX5_year 53 = .ok (.istore_n 2, 1) := by decide +kernel
theorem dX5_year_54 : decode cX5_year 54 = .ok (.iconst 0, 1) := by decide +kernel
theorem dX5_year_55 : decode cX5_year 55 = .ok (.istore_n 3, 1) := by decide +kernel
theorem dX5_year_56 : decode cX5_year 56 = .ok (.iload_n 3, 1) := by decide +kernel
theorem dX5_year_57 : decode cX5_year 57 = .ok (.bipush 8, 2) := by decide +kernel
theorem dX5_year_59 : decode cX5_year 59 = .ok (.if_icmp .ge 47, 3) := by decide +kernel
theorem dX5_year_62 : decode cX5_year 62 = .ok (.aload_n 0, 1) := by decide +kernel
theorem dX5_year_63 : decode cX5_year 63 = .ok (.iload_n 3, 1) := by decide +kernel
theorem dX5_year_64 : decode cX5_year 64 = .ok (.iconst 0, 1) := by decide +kernel
theorem dX5_year_65 : decode cX5_year 65 = .ok (.invokevirtual 190, 3) := by decide +kernel
theorem dX5_year_68 : decode cX5_year 68 = .ok (.ifCond .eq 32, 3) := by decide +kernel
theorem dX5_year_71 : decode cX5_year 71 = .ok (.iload_n 1, 1) := by decide +kernel
theorem dX5_year_72 : decode cX5_year 72 = .ok (.aload_n 0, 1) := by decide +kernel
theorem dX5_year_73 : decode cX5_year 73 = .ok (.getfield 19, 3) := by decide +kernel
theorem dX5_year_76 : decode cX5_year 76 = .ok (.getfield 106, 3) := by decide +kernel
theorem dX5_year_79 : decode cX5_year 79 = .ok (.iload_n 3, 1) := by decide +kernel
theorem dX5_year_80 : decode cX5_year 80 = .ok (.iaload, 1) := by decide +kernel
theorem dX5_year_81 : decode cX5_year 81 = .ok (.invokestatic 193, 3) := by decide +kernel
theorem dX5_year_84 : decode cX5_year 84 = .ok (.ifCond .eq 16, 3) := by decide +kernel
theorem dX5_year_87 : decode cX5_year 87 = .ok (.aload_n 0, 1) := by decide +kernel
theorem dX5_year_88 : decode cX5_year 88 = .ok (.getfield 26, 3) := by decide +kernel
theorem dX5_year_91 : decode cX5_year 91 = .ok (.getfield 124, 3) := by decide +kernel
theorem dX5_year_94 : decode cX5_year 94 = .ok (.iload_n 3, 1) := by decide +kernel
theorem dX5_year_95 : decode cX5_year 95 = .ok (.iconst 3, 1) := by decide +kernel
theorem dX5_year_96 : decode cX5_year 96 = .ok (.iastore, 1) := by decide +kernel
theorem dX5_year_97 : decode cX5_year 97 = .ok (.iinc 2 1, 3) := by decide +kernel
theorem dX5_year_100 : decode cX5_year 100 = .ok (.iinc 3 1, 3) := by decide +kernel
theorem dX5_year_103 : decode cX5_year 103 = .ok (.goto (-47), 3) := by decide +kernel
theorem dX5_year_106 : decode cX5_year 106 = .ok (.iload_n 2, 1) := by decide +kernel
theorem dX5_year_107 : decode cX5_year 107 = .ok (.ireturn, 1) := by decide +kernel
theorem dX5_undo_0 : decode cX5_undo 0 = .ok (.aload_n 0, 1) := by decide +kernel
theorem dX5_undo_1 : decode cX5_undo 1 = .ok (.getfield 33, 3) := by decide +kernel
theorem dX5_undo_4 : decode cX5_undo 4 = .ok (.getfield 156, 3) := by decide +kernel
theorem dX5_undo_7 : decode cX5_undo 7 = .ok (.ifCond .ne 6, 3) := by decide +kernel
theorem dX5_undo_10 : decode cX5_undo 10 = .ok (.bipush (-2), 2) := by decide +kernel
theorem dX5_undo_12 : decode cX5_undo 12 = .ok (.ireturn, 1) := by decide +kernel
theorem dX5_undo_13 : decode cX5_undo 13 = .ok (.aload_n 0, 1) := by decide +kernel
theorem dX5_undo_14 : decode cX5_undo 14 = .ok (.getfield 33, 3) := by decide +kernel
theorem dX5_undo_17 : decode cX5_undo 17 = .ok (.aload_n 0, 1) := by decide +kernel
theorem dX5_undo_18 : decode cX5_undo 18 = .ok (.getfield 26, 3) := by decide +kernel
theorem dX5_undo_21 : decode cX5_undo 21 = .ok (.invokevirtual 196, 3) := by decide +kernel
theorem dX5_undo_24 : decode cX5_undo 24 = .ok (.aload_n 0, 1) := by decide +kernel
theorem dX5_undo_25 : decode cX5_undo 25 = .ok (.getfield 33, 3) := by decide +kernel
theorem dX5_undo_28 : decode cX5_undo 28 = .ok (.getfield 156, 3) := by decide +kernel
theorem dX5_undo_31 : decode cX5_undo 31 = .ok (.ireturn, 1) := by decide +kernel
theorem dX5_left_0 : decode cX5_left 0 = .ok (.aload_n 0, 1) := by decide +kernel
theorem dX5_left_1 : decode cX5_left 1 = .ok (.getfield 19, 3) := by decide +kernel
theorem dX5_left_4 : decode cX5_left 4 = .ok (.iload_n 1, 1) := by decide +kernel
theorem dX5_left_5 : decode cX5_left 5 = .ok (.invokevirtual 100, 3) := by decide +kernel
theorem dX5_left_8 : decode cX5_left 8 = .ok (.ifCond .eq 10, 3) := by decide +kernel
theorem dX5_left_11 : decode cX5_left 11 = .ok (.iload_n 2, 1) := by decide +kernel
theorem dX5_left_12 : decode cX5_left 12 = .ok (.invokestatic 199, 3) := by decide +kernel
theorem dX5_left_15 : decode cX5_left 15 = .ok (.ifCond .ne 5, 3) := by decide +kernel
theorem dX5_left_18 : decode cX5_left 18 = .ok (.iconst (-1), 1) := by decide +kernel
theorem dX5_left_19 : decode cX5_left 19 = .ok (.ireturn, 1) := by decide +kernel
theorem dX5_left_20 : decode cX5_left 20 = .ok (.aload_n 0, 1) := by decide +kernel
theorem dX5_left_21 : decode cX5_left 21 = .ok (.iload_n 1, 1) := by decide +kernel
theorem dX5_left_22 : decode cX5_left 22 = .ok (.iload_n 2, 1) := by decide +kernel
theorem dX5_left_23 : decode cX5_left 23 = .ok (.invokevirtual 127, 3) := by decide +kernel
theorem dX5_left_26 : decode cX5_left 26 = .ok (.ireturn, 1) := by decide +kernel
theorem dX5_lasts_0 : decode cX5_lasts 0 = .ok (.iload_n 1, 1) := by decide +kernel
theorem dX5_lasts_1 : decode cX5_lasts 1 = .ok (.iconst 1, 1) := by decide +kernel
theorem dX5_lasts_2 : decode cX5_lasts 2 = .ok (.if_icmp .lt 25, 3) := by decide +kernel
theorem dX5_lasts_5 : decode cX5_lasts 5 = .ok (.iload_n 1, 1) := by decide +kernel
theorem dX5_lasts_6 : decode cX5_lasts 6 = .ok (.iconst 4, 1) := by decide +kernel
theorem dX5_lasts_7 : decode cX5_lasts 7 = .ok (.if_icmp .gt 20, 3) := by decide +kernel
theorem dX5_lasts_10 : decode cX5_lasts 10 = .ok (.iload_n 2, 1) := by decide +kernel
theorem dX5_lasts_11 : decode cX5_lasts 11 = .ok (.iconst 1, 1) := by decide +kernel
theorem dX5_lasts_12 : decode cX5_lasts 12 = .ok (.if_icmp .lt 15, 3) := by decide +kernel
theorem dX5_lasts_15 : decode cX5_lasts 15 = .ok (.iload_n 2, 1) := by decide +kernel
theorem dX5_lasts_16 : decode cX5_lasts 16 = .ok (.iconst 4, 1) := by decide +kernel
theorem dX5_lasts_17 : decode cX5_lasts 17 = .ok (.if_icmp .gt 10, 3) := by decide +kernel
theorem dX5_lasts_20 : decode cX5_lasts 20 = .ok (.iload_n 3, 1) := by decide +kernel
theorem dX5_lasts_21 : decode cX5_lasts 21 = .ok (.invokestatic 199, 3) := by decide +kernel
theorem dX5_lasts_24 : decode cX5_lasts 24 = .ok (.ifCond .ne 5, 3) := by decide +kernel
theorem dX5_lasts_27 : decode cX5_lasts 27 = .ok (.iconst (-1), 1) := by decide +kernel
theorem dX5_lasts_28 : decode cX5_lasts 28 = .ok (.ireturn, 1) := by decide +kernel
theorem dX5_lasts_29 : decode cX5_lasts 29 = .ok (.iconst 5, 1) := by decide +kernel
theorem dX5_lasts_30 : decode cX5_lasts 30 = .ok (.istore 4, 2) := by decide +kernel
theorem dX5_lasts_32 : decode cX5_lasts 32 = .ok (.iload 4, 2) := by decide +kernel
theorem dX5_lasts_34 : decode cX5_lasts 34 = .ok (.ifCond .lt 25, 3) := by decide +kernel
theorem dX5_lasts_37 : decode cX5_lasts 37 = .ok (.aload_n 0, 1) := by decide +kernel
theorem dX5_lasts_38 : decode cX5_lasts 38 = .ok (.iload_n 1, 1) := by decide +kernel
theorem dX5_lasts_39 : decode cX5_lasts 39 = .ok (.iload 4, 2) := by decide +kernel
theorem dX5_lasts_41 : decode cX5_lasts 41 = .ok (.iload_n 3, 1) := by decide +kernel
theorem dX5_lasts_42 : decode cX5_lasts 42 = .ok (.iconst 0, 1) := by decide +kernel
theorem dX5_lasts_43 : decode cX5_lasts 43 = .ok (.invokevirtual 202, 3) := by decide +kernel
theorem dX5_lasts_46 : decode cX5_lasts 46 = .ok (.iload_n 2, 1) := by decide +kernel
theorem dX5_lasts_47 : decode cX5_lasts 47 = .ok (.if_icmp .lt 6, 3) := by decide +kernel
theorem dX5_lasts_50 : decode cX5_lasts 50 = .ok (.iload 4, 2) := by decide +kernel
theorem dX5_lasts_52 : decode cX5_lasts 52 = .ok (.ireturn, 1) := by decide +kernel
theorem dX5_lasts_53 : decode cX5_lasts 53 = .ok (.iinc 4 (-1), 3) := by decide +kernel
theorem dX5_lasts_56 : decode cX5_lasts 56 = .ok (.goto (-24), 3) := by decide +kernel
theorem dX5_lasts_59 : decode cX5_lasts 59 = .ok (.bipush (-9), 2) := by decide +kernel
theorem dX5_lasts_61 : decode cX5_lasts 61 = .ok (.ireturn, 1) := by decide +kernel
theorem dX5_duty_0 : decode cX5_duty 0 = .ok (.aload_n 0, 1) := by decide +kernel
theorem dX5_duty_1 : decode cX5_duty 1 = .ok (.getfield 19, 3) := by decide +kernel
theorem dX5_duty_4 : decode cX5_duty 4 = .ok (.iload_n 1, 1) := by decide +kernel
theorem dX5_duty_5 : decode cX5_duty 5 = .ok (.invokevirtual 100, 3) := by decide +kernel
theorem dX5_duty_8 : decode cX5_duty 8 = .ok (.ifCond .eq 10, 3) := by decide +kernel
theorem dX5_duty_11 : decode cX5_duty 11 = .ok (.iload_n 2, 1) := by decide +kernel
theorem dX5_duty_12 : decode cX5_duty 12 = .ok (.invokestatic 199, 3) := by decide +kernel
theorem dX5_duty_15 : decode cX5_duty 15 = .ok (.ifCond .ne 5, 3) := by decide +kernel
theorem dX5_duty_18 : decode cX5_duty 18 = .ok (.iconst (-1), 1) := by decide +kernel
theorem dX5_duty_19 : decode cX5_duty 19 = .ok (.ireturn, 1) := by decide +kernel
theorem dX5_duty_20 : decode cX5_duty 20 = .ok (.aload_n 0, 1) := by decide +kernel
theorem dX5_duty_21 : decode cX5_duty 21 = .ok (.getfield 19, 3) := by decide +kernel
theorem dX5_duty_24 : decode cX5_duty 24 = .ok (.getfield 103, 3) := by decide +kernel
theorem dX5_duty_27 : decode cX5_duty 27 = .ok (.iload_n 1, 1) := by decide +kernel
theorem dX5_duty_28 : decode cX5_duty 28 = .ok (.iaload, 1) := by decide +kernel
theorem dX5_duty_29 : decode cX5_duty 29 = .ok (.istore_n 3, 1) := by decide +kernel
theorem dX5_duty_30 : decode cX5_duty 30 = .ok (.iconst 0, 1) := by decide +kernel
theorem dX5_duty_31 : decode cX5_duty 31 = .ok (.istore 4, 2) := by decide +kernel
theorem dX5_duty_33 : decode cX5_duty 33 = .ok (.iload 4, 2) := by decide +kernel
theorem dX5_duty_35 : decode cX5_duty 35 = .ok (.bipush 6, 2) := by decide +kernel
theorem dX5_duty_37 : decode cX5_duty 37 = .ok (.if_icmp .ge 53, 3) := by decide +kernel
theorem dX5_duty_40 : decode cX5_duty 40 = .ok (.aload_n 0, 1) := by decide +kernel
theorem dX5_duty_41 : decode cX5_duty 41 = .ok (.getfield 19, 3) := by decide +kernel
theorem dX5_duty_44 : decode cX5_duty 44 = .ok (.iload_n 3, 1) := by decide +kernel
theorem dX5_duty_45 : decode cX5_duty 45 = .ok (.invokevirtual 91, 3) := by decide +kernel
theorem dX5_duty_48 : decode cX5_duty 48 = .ok (.ifCond .eq 42, 3) := by decide +kernel
theorem dX5_duty_51 : decode cX5_duty 51 = .ok (.aload_n 0, 1) := by decide +kernel
theorem dX5_duty_52 : decode cX5_duty 52 = .ok (.getfield 19, 3) := by decide +kernel
theorem dX5_duty_55 : decode cX5_duty 55 = .ok (.getfield 94, 3) := by decide +kernel
theorem dX5_duty_58 : decode cX5_duty 58 = .ok (.iload_n 3, 1) := by decide +kernel
theorem dX5_duty_59 : decode cX5_duty 59 = .ok (.iaload, 1) := by decide +kernel
theorem dX5_duty_60 : decode cX5_duty 60 = .ok (.aload_n 0, 1) := by decide +kernel
theorem dX5_duty_61 : decode cX5_duty 61 = .ok (.getfield 26, 3) := by decide +kernel
theorem dX5_duty_64 : decode cX5_duty 64 = .ok (.getfield 150, 3) := by decide +kernel
theorem dX5_duty_67 : decode cX5_duty 67 = .ok (.iload_n 2, 1) := by decide +kernel
theorem dX5_duty_68 : decode cX5_duty 68 = .ok (.iadd, 1) := by decide +kernel
theorem dX5_duty_69 : decode cX5_duty 69 = .ok (.if_icmp .le 5, 3) := by decide +kernel
theorem dX5_duty_72 : decode cX5_duty 72 = .ok (.iload_n 3, 1) := by decide +kernel
theorem dX5_duty_73 : decode cX5_duty 73 = .ok (.ireturn, 1) := by decide +kernel
theorem dX5_duty_74 : decode cX5_duty 74 = .ok (.aload_n 0, 1) := by decide +kernel
theorem dX5_duty_75 : decode cX5_duty 75 = .ok (.getfield 19, 3) := by decide +kernel
theorem dX5_duty_78 : decode cX5_duty 78 = .ok (.getfield 97, 3) := by decide +kernel
theorem dX5_duty_81 : decode cX5_duty 81 = .ok (.iload_n 3, 1) := by decide +kernel
theorem dX5_duty_82 : decode cX5_duty 82 = .ok (.iaload, 1) := by decide +kernel
theorem dX5_duty_83 : decode cX5_duty 83 = .ok (.istore_n 3, 1) := by decide +kernel
theorem dX5_duty_84 : decode cX5_duty 84 = .ok (.iinc 4 1, 3) := by decide +kernel
theorem dX5_duty_87 : decode cX5_duty 87 = .ok (.goto (-54), 3) := by decide +kernel
theorem dX5_duty_90 : decode cX5_duty 90 = .ok (.bipush (-9), 2) := by decide +kernel
theorem dX5_duty_92 : decode cX5_duty 92 = .ok (.ireturn, 1) := by decide +kernel
theorem dX5_sees_0 : decode cX5_sees 0 = .ok (.iload_n 1, 1) := by decide +kernel
theorem dX5_sees_1 : decode cX5_sees 1 = .ok (.ifCond .lt 9, 3) := by decide +kernel
theorem dX5_sees_4 : decode cX5_sees 4 = .ok (.iload_n 1, 1) := by decide +kernel
theorem dX5_sees_5 : decode cX5_sees 5 = .ok (.bipush 9, 2) := by decide +kernel
theorem dX5_sees_7 : decode cX5_sees 7 = .ok (.if_icmp .le 5, 3) := by decide +kernel
theorem dX5_sees_10 : decode cX5_sees 10 = .ok (.iconst (-1), 1) := by decide +kernel
theorem dX5_sees_11 : decode cX5_sees 11 = .ok (.ireturn, 1) := by decide +kernel
theorem dX5_sees_12 : decode cX5_sees 12 = .ok (.aload_n 0, 1) := by decide +kernel
theorem dX5_sees_13 : decode cX5_sees 13 = .ok (.getfield 55, 3) := by decide +kernel
theorem dX5_sees_16 : decode cX5_sees 16 = .ok (.iconst 4, 1) := by decide +kernel
theorem dX5_sees_17 : decode cX5_sees 17 = .ok (.if_icmp .lt 6, 3) := by decide +kernel
theorem dX5_sees_20 : decode cX5_sees 20 = .ok (.bipush (-3), 2) := by decide +kernel
theorem dX5_sees_22 : decode cX5_sees 22 = .ok (.ireturn, 1) := by decide +kernel
theorem dX5_sees_23 : decode cX5_sees 23 = .ok (.aload_n 0, 1) := by decide +kernel
theorem dX5_sees_24 : decode cX5_sees 24 = .ok (.getfield 45, 3) := by decide +kernel
theorem dX5_sees_27 : decode cX5_sees 27 = .ok (.aload_n 0, 1) := by decide +kernel
theorem dX5_sees_28 : decode cX5_sees 28 = .ok (.getfield 55, 3) := by decide +kernel
theorem dX5_sees_31 : decode cX5_sees 31 = .ok (.iload_n 1, 1) := by decide +kernel
theorem dX5_sees_32 : decode cX5_sees 32 = .ok (.iastore, 1) := by decide +kernel
theorem dX5_sees_33 : decode cX5_sees 33 = .ok (.aload_n 0, 1) := by decide +kernel
theorem dX5_sees_34 : decode cX5_sees 34 = .ok (.dup, 1) := by decide +kernel
theorem dX5_sees_35 : decode cX5_sees 35 = .ok (.getfield 55, 3) := by decide +kernel
theorem dX5_sees_38 : decode cX5_sees 38 = .ok (.iconst 1, 1) := by decide +kernel
theorem dX5_sees_39 : decode cX5_sees 39 = .ok (.iadd, 1) := by decide +kernel
theorem dX5_sees_40 : decode cX5_sees 40 = .ok (.putfield 55, 3) := by decide +kernel
theorem dX5_sees_43 : decode cX5_sees 43 = .ok (.aload_n 0, 1) := by decide +kernel
theorem dX5_sees_44 : decode cX5_sees 44 = .ok (.getfield 55, 3) := by decide +kernel
theorem dX5_sees_47 : decode cX5_sees 47 = .ok (.ireturn, 1) := by decide +kernel
theorem dX5_forget_0 : decode cX5_forget 0 = .ok (.aload_n 0, 1) := by decide +kernel
theorem dX5_forget_1 : decode cX5_forget 1 = .ok (.getfield 55, 3) := by decide +kernel
theorem dX5_forget_4 : decode cX5_forget 4 = .ok (.istore_n 1, 1) := by decide +kernel
theorem dX5_forget_5 : decode cX5_forget 5 = .ok (.aload_n 0, 1) := by decide +kernel
theorem dX5_forget_6 : decode cX5_forget 6 = .ok (.iconst 0, 1) := by decide +kernel
theorem dX5_forget_7 : decode cX5_forget 7 = .ok (.putfield 55, 3) := by decide +kernel
theorem dX5_forget_10 : decode cX5_forget 10 = .ok (.iload_n 1, 1) := by decide +kernel
theorem dX5_forget_11 : decode cX5_forget 11 = .ok (.ireturn, 1) := by decide +kernel
theorem dX5_fits_0 : decode cX5_fits 0 = .ok (.iconst 0, 1) := by decide +kernel
theorem dX5_fits_1 : decode cX5_fits 1 = .ok (.istore_n 1, 1) := by decide +kernel
theorem dX5_fits_2 : decode cX5_fits 2 = .ok (.iconst 0, 1) := by decide +kernel
theorem dX5_fits_3 : decode cX5_fits 3 = .ok (.istore_n 2, 1) := by decide +kernel
theorem dX5_fits_4 : decode cX5_fits 4 = .ok (.iload_n 2, 1) := by decide +kernel
theorem dX5_fits_5 : decode cX5_fits 5 = .ok (.bipush 8, 2) := by decide +kernel
theorem dX5_fits_7 : decode cX5_fits 7 = .ok (.if_icmp .ge 23, 3) := by decide +kernel
theorem dX5_fits_10 : decode cX5_fits 10 = .ok (.aload_n 0, 1) := by decide +kernel
theorem dX5_fits_11 : decode cX5_fits 11 = .ok (.iload_n 2, 1) := by decide +kernel
theorem dX5_fits_12 : decode cX5_fits 12 = .ok (.invokevirtual 206, 3) := by decide +kernel
theorem dX5_fits_15 : decode cX5_fits 15 = .ok (.ifCond .eq 9, 3) := by decide +kernel
theorem dX5_fits_18 : decode cX5_fits 18 = .ok (.iload_n 1, 1) := by decide +kernel
theorem dX5_fits_19 : decode cX5_fits 19 = .ok (.iconst 1, 1) := by decide +kernel
theorem dX5_fits_20 : decode cX5_fits 20 = .ok (.iload_n 2, 1) := by decide +kernel
theorem dX5_fits_21 : decode cX5_fits 21 = .ok (.ishl, 1) := by decide +kernel
theorem dX5_fits_22 : decode cX5_fits 22 = .ok (.ior, 1) := by decide +kernel
theorem dX5_fits_23 : decode cX5_fits 23 = .ok (.istore_n 1, 1) := by decide +kernel
theorem dX5_fits_24 : decode cX5_fits 24 = .ok (.iinc 2 1, 3) := by decide +kernel
theorem dX5_fits_27 : decode cX5_fits 27 = .ok (.goto (-23), 3) := by decide +kernel
theorem dX5_fits_30 : decode cX5_fits 30 = .ok (.iload_n 1, 1) := by decide +kernel
theorem dX5_fits_31 : decode cX5_fits 31 = .ok (.ireturn, 1) := by decide +kernel
theorem dX5_likely_0 : decode cX5_likely 0 = .ok (.iconst 0, 1) := by decide +kernel
theorem dX5_likely_1 : decode cX5_likely 1 = .ok (.istore_n 1, 1) := by decide +kernel
theorem dX5_likely_2 : decode cX5_likely 2 = .ok (.iload_n 1, 1) := by decide +kernel
theorem dX5_likely_3 : decode cX5_likely 3 = .ok (.bipush 9, 2) := by decide +kernel
theorem dX5_likely_5 : decode cX5_likely 5 = .ok (.if_icmp .gt 16, 3) := by decide +kernel
theorem dX5_likely_8 : decode cX5_likely 8 = .ok (.aload_n 0, 1) := by decide +kernel
theorem dX5_likely_9 : decode cX5_likely 9 = .ok (.getfield 52, 3) := by decide +kernel
theorem dX5_likely_12 : decode cX5_likely 12 = .ok (.iload_n 1, 1) := by decide +kernel
theorem dX5_likely_13 : decode cX5_likely 13 = .ok (.iconst 0, 1) := by decide +kernel
theorem dX5_likely_14 : decode cX5_likely 14 = .ok (.iastore, 1) := by decide +kernel
theorem dX5_likely_15 : decode cX5_likely 15 = .ok (.iinc 1 1, 3) := by decide +kernel
theorem dX5_likely_18 : decode cX5_likely 18 = .ok (.goto (-16), 3) := by decide +kernel
theorem dX5_likely_21 : decode cX5_likely 21 = .ok (.iconst 0, 1) := by decide +kernel
theorem dX5_likely_22 : decode cX5_likely 22 = .ok (.istore_n 1, 1) := by decide +kernel
theorem dX5_likely_23 : decode cX5_likely 23 = .ok (.iload_n 1, 1) := by decide +kernel
theorem dX5_likely_24 : decode cX5_likely 24 = .ok (.bipush 8, 2) := by decide +kernel
theorem dX5_likely_26 : decode cX5_likely 26 = .ok (.if_icmp .ge 63, 3) := by decide +kernel
theorem dX5_likely_29 : decode cX5_likely 29 = .ok (.aload_n 0, 1) := by decide +kernel
theorem dX5_likely_30 : decode cX5_likely 30 = .ok (.iload_n 1, 1) := by decide +kernel
theorem dX5_likely_31 : decode cX5_likely 31 = .ok (.invokevirtual 206, 3) := by decide +kernel
theorem dX5_likely_34 : decode cX5_likely 34 = .ok (.ifCond .eq 49, 3) := by decide +kernel
theorem dX5_likely_37 : decode cX5_likely 37 = .ok (.aload_n 0, 1) := by decide +kernel
theorem dX5_likely_38 : decode cX5_likely 38 = .ok (.iload_n 1, 1) := by decide +kernel
theorem dX5_likely_39 : decode cX5_likely 39 = .ok (.iconst 0, 1) := by decide +kernel
theorem dX5_likely_40 : decode cX5_likely 40 = .ok (.invokevirtual 127, 3) := by decide +kernel
theorem dX5_likely_43 : decode cX5_likely 43 = .ok (.aload_n 0, 1) := by decide +kernel
theorem dX5_likely_44 : decode cX5_likely 44 = .ok (.getfield 55, 3) := by decide +kernel
theorem dX5_likely_47 : decode cX5_likely 47 = .ok (.if_icmp .le 36, 3) := by decide +kernel
theorem dX5_likely_50 : decode cX5_likely 50 = .ok (.aload_n 0, 1) := by decide +kernel
theorem dX5_likely_51 : decode cX5_likely 51 = .ok (.getfield 19, 3) := by decide +kernel
theorem dX5_likely_54 : decode cX5_likely 54 = .ok (.iload_n 1, 1) := by decide +kernel
theorem dX5_likely_55 : decode cX5_likely 55 = .ok (.aload_n 0, 1) := by decide +kernel
theorem dX5_likely_56 : decode cX5_likely 56 = .ok (.getfield 55, 3) := by decide +kernel
theorem dX5_likely_59 : decode cX5_likely 59 = .ok (.invokevirtual 131, 3) := by decide +kernel
theorem dX5_likely_62 : decode cX5_likely 62 = .ok (.istore_n 2, 1) := by decide +kernel
theorem dX5_likely_63 : decode cX5_likely 63 = .ok (.iload_n 2, 1) := by decide +kernel
theorem dX5_likely_64 : decode cX5_likely 64 = .ok (.ifCond .lt 19, 3) := by decide +kernel
theorem dX5_likely_67 : decode cX5_likely 67 = .ok (.iload_n 2, 1) := by decide +kernel
theorem dX5_likely_68 : decode cX5_likely 68 = .ok (.bipush 9, 2) := by decide +kernel
theorem dX5_likely_70 : decode cX5_likely 70 = .ok (.if_icmp .gt 13, 3) := by decide +kernel
theorem dX5_likely_73 : decode cX5_likely 73 = .ok (.aload_n 0, 1) := by decide +kernel
theorem dX5_likely_74 : decode cX5_likely 74 = .ok (.getfield 52, 3) := by decide +kernel
theorem dX5_likely_77 : decode cX5_likely 77 = .ok (.iload_n 2, 1) := by decide +kernel
theorem dX5_likely_78 : decode cX5_likely 78 = .ok (.dup2, 1) := by decide +kernel
theorem dX5_likely_79 : decode cX5_likely 79 = .ok (.iaload, 1) := by decide +kernel
theorem dX5_likely_80 : decode cX5_likely 80 = .ok (.iconst 1, 1) := by decide +kernel
theorem dX5_likely_81 : decode cX5_likely 81 = .ok (.iadd, 1) := by decide +kernel
theorem dX5_likely_82 : decode cX5_likely 82 = .ok (.iastore, 1) := by decide +kernel
theorem dX5_likely_83 : decode cX5_likely 83 = .ok (.iinc 1 1, 3) := by decide +kernel
theorem dX5_likely_86 : decode cX5_likely 86 = .ok (.goto (-63), 3) := by decide +kernel
theorem dX5_likely_89 : decode cX5_likely 89 = .ok (.bipush (-9), 2) := by decide +kernel
theorem dX5_likely_91 : decode cX5_likely 91 = .ok (.istore_n 1, 1) := by decide +kernel
theorem dX5_likely_92 : decode cX5_likely 92 = .ok (.iconst 0, 1) := by decide +kernel
theorem dX5_likely_93 : decode cX5_likely 93 = .ok (.istore_n 2, 1) := by decide +kernel
theorem dX5_likely_94 : decode cX5_likely 94 = .ok (.iconst 0, 1) := by decide +kernel
theorem dX5_likely_95 : decode cX5_likely 95 = .ok (.istore_n 3, 1) := by decide +kernel
theorem dX5_likely_96 : decode cX5_likely 96 = .ok (.iload_n 3, 1) := by decide +kernel
theorem dX5_likely_97 : decode cX5_likely 97 = .ok (.bipush 9, 2) := by decide +kernel
theorem dX5_likely_99 : decode cX5_likely 99 = .ok (.if_icmp .gt 28, 3) := by decide +kernel
theorem dX5_likely_102 : decode cX5_likely 102 = .ok (.aload_n 0, 1) := by decide +kernel
theorem dX5_likely_103 : decode cX5_likely 103 = .ok (.getfield 52, 3) := by decide +kernel
theorem dX5_likely_106 : decode cX5_likely 106 = .ok (.iload_n 3, 1) := by decide +kernel
theorem dX5_likely_107 : decode cX5_likely 107 = .ok (.iaload, 1) := by decide +kernel
theorem dX5_likely_108 : decode cX5_likely 108 = .ok (.iload_n 2, 1) := by decide +kernel
theorem dX5_likely_109 : decode cX5_likely 109 = .ok (.if_icmp .le 12, 3) := by decide +kernel
theorem dX5_likely_112 : decode cX5_likely 112 = .ok (.aload_n 0, 1) := by decide +kernel
theorem dX5_likely_113 : decode cX5_likely 113 = .ok (.getfield 52, 3) := by decide +kernel
theorem dX5_likely_116 : decode cX5_likely 116 = .ok (.iload_n 3, 1) := by decide +kernel
theorem dX5_likely_117 : decode cX5_likely 117 = .ok (.iaload, 1) := by decide +kernel
theorem dX5_likely_118 : decode cX5_likely 118 = .ok (.istore_n 2, 1) := by decide +kernel
theorem dX5_likely_119 : decode cX5_likely 119 = .ok (.iload_n 3, 1) := by decide +kernel
theorem dX5_likely_120 : decode cX5_likely 120 = .ok (.istore_n 1, 1) := by decide +kernel
theorem dX5_likely_121 : decode cX5_likely 121 = .ok (.iinc 3 1, 3) := by decide +kernel
theorem dX5_likely_124 : decode cX5_likely 124 = .ok (.goto (-28), 3) := by decide +kernel
theorem dX5_likely_127 : decode cX5_likely 127 = .ok (.iload_n 1, 1) := by decide +kernel
theorem dX5_likely_128 : decode cX5_likely 128 = .ok (.ireturn, 1) := by decide +kernel
theorem dX5_kept_0 : decode cX5_kept 0 = .ok (.iload_n 1, 1) := by decide +kernel
theorem dX5_kept_1 : decode cX5_kept 1 = .ok (.lookupswitch 41 #[(0, 27), (1, 32)], 27) := by decide +kernel
theorem dX5_kept_28 : decode cX5_kept 28 = .ok (.aload_n 0, 1) := by decide +kernel
theorem dX5_kept_29 : decode cX5_kept 29 = .ok (.invokevirtual 209, 3) := by decide +kernel
theorem dX5_kept_32 : decode cX5_kept 32 = .ok (.ireturn, 1) := by decide +kernel
theorem dX5_kept_33 : decode cX5_kept 33 = .ok (.aload_n 0, 1) := by decide +kernel
theorem dX5_kept_34 : decode cX5_kept 34 = .ok (.aload_n 0, 1) := by decide +kernel
theorem dX5_kept_35 : decode cX5_kept 35 = .ok (.invokevirtual 209, 3) := by decide +kernel
theorem dX5_kept_38 : decode cX5_kept 38 = .ok (.invokevirtual 212, 3) := by decide +kernel
theorem dX5_kept_41 : decode cX5_kept 41 = .ok (.ireturn, 1) := by decide +kernel
theorem dX5_kept_42 : decode cX5_kept 42 = .ok (.iconst (-1), 1) := by decide +kernel
theorem dX5_kept_43 : decode cX5_kept 43 = .ok (.ireturn, 1) := by decide +kernel
theorem dX5_order_0 : decode cX5_order 0 = .ok (.iload_n 1, 1) := by decide +kernel
theorem dX5_order_1 : decode cX5_order 1 = .ok (.iconst (-1), 1) := by decide +kernel
theorem dX5_order_2 : decode cX5_order 2 = .ok (.if_icmp .lt 9, 3) := by decide +kernel
theorem dX5_order_5 : decode cX5_order 5 = .ok (.iload_n 1, 1) := by decide +kernel
theorem dX5_order_6 : decode cX5_order 6 = .ok (.bipush 8, 2) := by decide +kernel
theorem dX5_order_8 : decode cX5_order 8 = .ok (.if_icmp .lt 5, 3) := by decide +kernel
theorem dX5_order_11 : decode cX5_order 11 = .ok (.iconst (-1), 1) := by decide +kernel
theorem dX5_order_12 : decode cX5_order 12 = .ok (.ireturn, 1) := by decide +kernel
theorem dX5_order_13 : decode cX5_order 13 = .ok (.aload_n 0, 1) := by decide +kernel
theorem dX5_order_14 : decode cX5_order 14 = .ok (.invokevirtual 215, 3) := by decide +kernel
theorem dX5_order_17 : decode cX5_order 17 = .ok (.istore_n 2, 1) := by decide +kernel
theorem dX5_order_18 : decode cX5_order 18 = .ok (.iload_n 1, 1) := by decide +kernel
theorem dX5_order_19 : decode cX5_order 19 = .ok (.iconst (-1), 1) := by decide +kernel
theorem dX5_order_20 : decode cX5_order 20 = .ok (.if_icmp .ne 8, 3) := by decide +kernel
theorem dX5_order_23 : decode cX5_order 23 = .ok (.iload_n 2, 1) := by decide +kernel
theorem dX5_order_24 : decode cX5_order 24 = .ok (.invokestatic 181, 3) := by decide +kernel
theorem dX5_order_27 : decode cX5_order 27 = .ok (.ireturn, 1) := by decide +kernel
theorem dX5_order_28 : decode cX5_order 28 = .ok (.iconst 0, 1) := by decide +kernel
theorem dX5_order_29 : decode cX5_order 29 = .ok (.istore_n 3, 1) := by decide +kernel
theorem dX5_order_30 : decode cX5_order 30 = .ok (.iload_n 3, 1) := by decide +kernel
theorem dX5_order_31 : decode cX5_order 31 = .ok (.iload_n 1, 1) := by decide +kernel
theorem dX5_order_32 : decode cX5_order 32 = .ok (.if_icmp .ge 19, 3) := by decide +kernel
theorem dX5_order_35 : decode cX5_order 35 = .ok (.iload_n 2, 1) := by decide +kernel
theorem dX5_order_36 : decode cX5_order 36 = .ok (.aload_n 0, 1) := by decide +kernel
theorem dX5_order_37 : decode cX5_order 37 = .ok (.iload_n 2, 1) := by decide +kernel
theorem dX5_order_38 : decode cX5_order 38 = .ok (.invokevirtual 218, 3) := by decide +kernel
theorem dX5_order_41 : decode cX5_order 41 = .ok (.invokestatic 221, 3) := by decide +kernel
theorem dX5_order_44 : decode cX5_order 44 = .ok (.istore_n 2, 1) := by decide +kernel
theorem dX5_order_45 : decode cX5_order 45 = .ok (.iinc 3 1, 3) := by decide +kernel
theorem dX5_order_48 : decode cX5_order 48 = .ok (.goto (-18), 3) := by decide +kernel
theorem dX5_order_51 : decode cX5_order 51 = .ok (.aload_n 0, 1) := by decide +kernel
theorem dX5_order_52 : decode cX5_order 52 = .ok (.iload_n 2, 1) := by decide +kernel
theorem dX5_order_53 : decode cX5_order 53 = .ok (.invokevirtual 218, 3) := by decide +kernel
theorem dX5_order_56 : decode cX5_order 56 = .ok (.ireturn, 1) := by decide +kernel
theorem dX5_drain_0 : decode cX5_drain 0 = .ok (.iload_n 1, 1) := by decide +kernel
theorem dX5_drain_1 : decode cX5_drain 1 = .ok (.ifCond .lt 9, 3) := by decide +kernel
theorem dX5_drain_4 : decode cX5_drain 4 = .ok (.iload_n 1, 1) := by decide +kernel
theorem dX5_drain_5 : decode cX5_drain 5 = .ok (.bipush 20, 2) := by decide +kernel
theorem dX5_drain_7 : decode cX5_drain 7 = .ok (.if_icmp .le 5, 3) := by decide +kernel
theorem dX5_drain_10 : decode cX5_drain 10 = .ok (.iconst (-1), 1) := by decide +kernel
theorem dX5_drain_11 : decode cX5_drain 11 = .ok (.ireturn, 1) := by decide +kernel
theorem dX5_drain_12 : decode cX5_drain 12 = .ok (.bipush (-9), 2) := by decide +kernel
theorem dX5_drain_14 : decode cX5_drain 14 = .ok (.istore_n 2, 1) := by decide +kernel
theorem dX5_drain_15 : decode cX5_drain 15 = .ok (.bipush 7, 2) := by decide +kernel
theorem dX5_drain_17 : decode cX5_drain 17 = .ok (.istore_n 3, 1) := by decide +kernel
theorem dX5_drain_18 : decode cX5_drain 18 = .ok (.iconst 0, 1) := by decide +kernel
theorem dX5_drain_19 : decode cX5_drain 19 = .ok (.istore 4, 2) := by decide +kernel
theorem dX5_drain_21 : decode cX5_drain 21 = .ok (.iload 4, 2) := by decide +kernel
theorem dX5_drain_23 : decode cX5_drain 23 = .ok (.bipush 64, 2) := by decide +kernel
theorem dX5_drain_25 : decode cX5_drain 25 = .ok (.if_icmp .ge 37, 3) := by decide +kernel
theorem dX5_drain_28 : decode cX5_drain 28 = .ok (.iload 4, 2) := by decide +kernel
theorem dX5_drain_30 : decode cX5_drain 30 = .ok (.invokestatic 181, 3) := by decide +kernel
theorem dX5_drain_33 : decode cX5_drain 33 = .ok (.iload_n 3, 1) := by decide +kernel
theorem dX5_drain_34 : decode cX5_drain 34 = .ok (.if_icmp .ge 22, 3) := by decide +kernel
theorem dX5_drain_37 : decode cX5_drain 37 = .ok (.aload_n 0, 1) := by decide +kernel
theorem dX5_drain_38 : decode cX5_drain 38 = .ok (.iload 4, 2) := by decide +kernel
theorem dX5_drain_40 : decode cX5_drain 40 = .ok (.iload_n 1, 1) := by decide +kernel
theorem dX5_drain_41 : decode cX5_drain 41 = .ok (.invokevirtual 224, 3) := by decide +kernel
theorem dX5_drain_44 : decode cX5_drain 44 = .ok (.ifCond .eq 12, 3) := by decide +kernel
theorem dX5_drain_47 : decode cX5_drain 47 = .ok (.iload 4, 2) := by decide +kernel
theorem dX5_drain_49 : decode cX5_drain 49 = .ok (.istore_n 2, 1) := by decide +kernel
theorem dX5_drain_50 : decode cX5_drain 50 = .ok (.iload 4, 2) := by decide +kernel
theorem dX5_drain_52 : decode cX5_drain 52 = .ok (.invokestatic 181, 3) := by decide +kernel
theorem dX5_drain_55 : decode cX5_drain 55 = .ok (.istore_n 3, 1) := by decide +kernel
theorem dX5_drain_56 : decode cX5_drain 56 = .ok (.iinc 4 1, 3) := by decide +kernel
theorem dX5_drain_59 : decode cX5_drain 59 = .ok (.goto (-38), 3) := by decide +kernel
theorem dX5_drain_62 : decode cX5_drain 62 = .ok (.iload_n 2, 1) := by decide +kernel
theorem dX5_drain_63 : decode cX5_drain 63 = .ok (.ireturn, 1) := by decide +kernel
theorem dX5_odds_0 : decode cX5_odds 0 = .ok (.iload_n 1, 1) := by decide +kernel
theorem dX5_odds_1 : decode cX5_odds 1 = .ok (.ifCond .lt 40, 3) := by decide +kernel
theorem dX5_odds_4 : decode cX5_odds 4 = .ok (.iload_n 1, 1) := by decide +kernel
theorem dX5_odds_5 : decode cX5_odds 5 = .ok (.bipush 10, 2) := by decide +kernel
theorem dX5_odds_7 : decode cX5_odds 7 = .ok (.if_icmp .gt 34, 3) := by decide +kernel
theorem dX5_odds_10 : decode cX5_odds 10 = .ok (.iload_n 2, 1) := by decide +kernel
theorem dX5_odds_11 : decode cX5_odds 11 = .ok (.ifCond .lt 30, 3) := by decide +kernel
theorem dX5_odds_14 : decode cX5_odds 14 = .ok (.iload_n 2, 1) := by decide +kernel
theorem dX5_odds_15 : decode cX5_odds 15 = .ok (.bipush 6, 2) := by decide +kernel
theorem dX5_odds_17 : decode cX5_odds 17 = .ok (.if_icmp .gt 24, 3) := by decide +kernel
theorem dX5_odds_20 : decode cX5_odds 20 = .ok (.iload_n 3, 1) := by decide +kernel
theorem dX5_odds_21 : decode cX5_odds 21 = .ok (.ifCond .lt 20, 3) := by decide +kernel
theorem dX5_odds_24 : decode cX5_odds 24 = .ok (.iload_n 3, 1) := by decide +kernel
theorem dX5_odds_25 : decode cX5_odds 25 = .ok (.bipush 6, 2) := by decide +kernel
theorem dX5_odds_27 : decode cX5_odds 27 = .ok (.if_icmp .gt 14, 3) := by decide +kernel
theorem dX5_odds_30 : decode cX5_odds 30 = .ok (.iload 4, 2) := by decide +kernel
theorem dX5_odds_32 : decode cX5_odds 32 = .ok (.ifCond .lt 9, 3) := by decide +kernel
theorem dX5_odds_35 : decode cX5_odds 35 = .ok (.iload 4, 2) := by decide +kernel
theorem dX5_odds_37 : decode cX5_odds 37 = .ok (.iconst 1, 1) := by decide +kernel
theorem dX5_odds_38 : decode cX5_odds 38 = .ok (.if_icmp .le 5, 3) := by decide +kernel
theorem dX5_odds_41 : decode cX5_odds 41 = .ok (.iconst (-1), 1) := by decide +kernel
theorem dX5_odds_42 : decode cX5_odds 42 = .ok (.ireturn, 1) := by decide +kernel
theorem dX5_odds_43 : decode cX5_odds 43 = .ok (.iconst 0, 1) := by decide +kernel
theorem dX5_odds_44 : decode cX5_odds 44 = .ok (.istore 5, 2) := by decide +kernel
theorem dX5_odds_46 : decode cX5_odds 46 = .ok (.iload_n 3, 1) := by decide +kernel
theorem dX5_odds_47 : decode cX5_odds 47 = .ok (.istore 6, 2) := by decide +kernel
theorem dX5_odds_49 : decode cX5_odds 49 = .ok (.iload 6, 2) := by decide +kernel
theorem dX5_odds_51 : decode cX5_odds 51 = .ok (.iload_n 2, 1) := by decide +kernel
theorem dX5_odds_52 : decode cX5_odds 52 = .ok (.if_icmp .gt 39, 3) := by decide +kernel
theorem dX5_odds_55 : decode cX5_odds 55 = .ok (.iload 5, 2) := by decide +kernel
theorem dX5_odds_57 : decode cX5_odds 57 = .ok (.iload_n 2, 1) := by decide +kernel
theorem dX5_odds_58 : decode cX5_odds 58 = .ok (.iload 6, 2) := by decide +kernel
theorem dX5_odds_60 : decode cX5_odds 60 = .ok (.invokestatic 227, 3) := by decide +kernel
theorem dX5_odds_63 : decode cX5_odds 63 = .ok (.iload_n 1, 1) := by decide +kernel
theorem dX5_odds_64 : decode cX5_odds 64 = .ok (.iload 6, 2) := by decide +kernel
theorem dX5_odds_66 : decode cX5_odds 66 = .ok (.invokestatic 230, 3) := by decide +kernel
theorem dX5_odds_69 : decode cX5_odds 69 = .ok (.imul, 1) := by decide +kernel
theorem dX5_odds_70 : decode cX5_odds 70 = .ok (.bipush 10, 2) := by decide +kernel
theorem dX5_odds_72 : decode cX5_odds 72 = .ok (.iload_n 1, 1) := by decide +kernel
theorem dX5_odds_73 : decode cX5_odds 73 = .ok (.isub, 1) := by decide +kernel
theorem dX5_odds_74 : decode cX5_odds 74 = .ok (.iload_n 2, 1) := by decide +kernel
theorem dX5_odds_75 : decode cX5_odds 75 = .ok (.iload 6, 2) := by decide +kernel
theorem dX5_odds_77 : decode cX5_odds 77 = .ok (.isub, 1) := by decide +kernel
theorem dX5_odds_78 : decode cX5_odds 78 = .ok (.invokestatic 230, 3) := by decide +kernel
theorem dX5_odds_81 : decode cX5_odds 81 = .ok (.imul, 1) := by decide +kernel
theorem dX5_odds_82 : decode cX5_odds 82 = .ok (.iadd, 1) := by decide +kernel
theorem dX5_odds_83 : decode cX5_odds 83 = .ok (.istore 5, 2) := by decide +kernel
theorem dX5_odds_85 : decode cX5_odds 85 = .ok (.iinc 6 1, 3) := by decide +kernel
theorem dX5_odds_88 : decode cX5_odds 88 = .ok (.goto (-39), 3) := by decide +kernel
theorem dX5_odds_91 : decode cX5_odds 91 = .ok (.bipush 10, 2) := by decide +kernel
theorem dX5_odds_93 : decode cX5_odds 93 = .ok (.iload_n 2, 1) := by decide +kernel
theorem dX5_odds_94 : decode cX5_odds 94 = .ok (.invokestatic 230, 3) := by decide +kernel
theorem dX5_odds_97 : decode cX5_odds 97 = .ok (.istore 6, 2) := by decide +kernel
theorem dX5_odds_99 : decode cX5_odds 99 = .ok (.iload 5, 2) := by decide +kernel
theorem dX5_odds_101 : decode cX5_odds 101 = .ok (.iload 6, 2) := by decide +kernel
theorem dX5_odds_103 : decode cX5_odds 103 = .ok (.invokestatic 233, 3) := by decide +kernel
theorem dX5_odds_106 : decode cX5_odds 106 = .ok (.istore 7, 2) := by decide +kernel
theorem dX5_odds_108 : decode cX5_odds 108 = .ok (.iload 7, 2) := by decide +kernel
theorem dX5_odds_110 : decode cX5_odds 110 = .ok (.iconst 1, 1) := by decide +kernel
theorem dX5_odds_111 : decode cX5_odds 111 = .ok (.if_icmp .ge 5, 3) := by decide +kernel
theorem dX5_odds_114 : decode cX5_odds 114 = .ok (.iconst (-1), 1) := by decide +kernel
theorem dX5_odds_115 : decode cX5_odds 115 = .ok (.ireturn, 1) := by decide +kernel
theorem dX5_odds_116 : decode cX5_odds 116 = .ok (.iload 4, 2) := by decide +kernel
theorem dX5_odds_118 : decode cX5_odds 118 = .ok (.ifCond .ne 11, 3) := by decide +kernel
theorem dX5_odds_121 : decode cX5_odds 121 = .ok (.iload 5, 2) := by decide +kernel
theorem dX5_odds_123 : decode cX5_odds 123 = .ok (.iload 7, 2) := by decide +kernel
theorem dX5_odds_125 : decode cX5_odds 125 = .ok (.idiv, 1) := by decide +kernel
theorem dX5_odds_126 : decode cX5_odds 126 = .ok (.goto 8, 3) := by decide +kernel
theorem dX5_odds_129 : decode cX5_odds 129 = .ok (.iload 6, 2) := by decide +kernel
theorem dX5_odds_131 : decode cX5_odds 131 = .ok (.iload 7, 2) := by decide +kernel
theorem dX5_odds_133 : decode cX5_odds 133 = .ok (.idiv, 1) := by decide +kernel
theorem dX5_odds_134 : decode cX5_odds 134 = .ok (.ireturn, 1) := by decide +kernel
theorem dX5_rate_0 : decode cX5_rate 0 = .ok (.aload_n 0, 1) := by decide +kernel
theorem dX5_rate_1 : decode cX5_rate 1 = .ok (.getfield 19, 3) := by decide +kernel
theorem dX5_rate_4 : decode cX5_rate 4 = .ok (.iload_n 2, 1) := by decide +kernel
theorem dX5_rate_5 : decode cX5_rate 5 = .ok (.invokevirtual 100, 3) := by decide +kernel
theorem dX5_rate_8 : decode cX5_rate 8 = .ok (.ifCond .ne 6, 3) := by decide +kernel
theorem dX5_rate_11 : decode cX5_rate 11 = .ok (.ldc 236, 2) := by decide +kernel
theorem dX5_rate_13 : decode cX5_rate 13 = .ok (.ireturn, 1) := by decide +kernel
theorem dX5_rate_14 : decode cX5_rate 14 = .ok (.iload_n 1, 1) := by decide +kernel
theorem dX5_rate_15 : decode cX5_rate 15 = .ok (.tableswitch 73 0 5 #[37, 43, 49, 55, 61, 67], 37) := by decide +kernel
theorem dX5_rate_52 : decode cX5_rate 52 = .ok (.aload_n 0, 1) := by decide +kernel
theorem dX5_rate_53 : decode cX5_rate 53 = .ok (.iload_n 2, 1) := by decide +kernel
theorem dX5_rate_54 : decode cX5_rate 54 = .ok (.invokevirtual 237, 3) := by decide +kernel
theorem dX5_rate_57 : decode cX5_rate 57 = .ok (.ireturn, 1) := by decide +kernel
theorem dX5_rate_58 : decode cX5_rate 58 = .ok (.aload_n 0, 1) := by decide +kernel
theorem dX5_rate_59 : decode cX5_rate 59 = .ok (.iload_n 2, 1) := by decide +kernel
theorem dX5_rate_60 : decode cX5_rate 60 = .ok (.invokevirtual 240, 3) := by decide +kernel
theorem dX5_rate_63 : decode cX5_rate 63 = .ok (.ireturn, 1) := by decide +kernel
theorem dX5_rate_64 : decode cX5_rate 64 = .ok (.aload_n 0, 1) := by decide +kernel
theorem dX5_rate_65 : decode cX5_rate 65 = .ok (.iload_n 2, 1) := by decide +kernel
theorem dX5_rate_66 : decode cX5_rate 66 = .ok (.invokevirtual 243, 3) := by decide +kernel
theorem dX5_rate_69 : decode cX5_rate 69 = .ok (.ireturn, 1) := by decide +kernel
theorem dX5_rate_70 : decode cX5_rate 70 = .ok (.aload_n 0, 1) := by decide +kernel
theorem dX5_rate_71 : decode cX5_rate 71 = .ok (.iload_n 2, 1) := by decide +kernel
theorem dX5_rate_72 : decode cX5_rate 72 = .ok (.invokevirtual 246, 3) := by decide +kernel
theorem dX5_rate_75 : decode cX5_rate 75 = .ok (.ireturn, 1) := by decide +kernel
theorem dX5_rate_76 : decode cX5_rate 76 = .ok (.aload_n 0, 1) := by decide +kernel
theorem dX5_rate_77 : decode cX5_rate 77 = .ok (.iload_n 2, 1) := by decide +kernel
theorem dX5_rate_78 : decode cX5_rate 78 = .ok (.invokevirtual 249, 3) := by decide +kernel
theorem dX5_rate_81 : decode cX5_rate 81 = .ok (.ireturn, 1) := by decide +kernel
theorem dX5_rate_82 : decode cX5_rate 82 = .ok (.aload_n 0, 1) := by decide +kernel
theorem dX5_rate_83 : decode cX5_rate 83 = .ok (.iload_n 2, 1) := by decide +kernel
theorem dX5_rate_84 : decode cX5_rate 84 = .ok (.invokevirtual 252, 3) := by decide +kernel
theorem dX5_rate_87 : decode cX5_rate 87 = .ok (.ireturn, 1) := by decide +kernel
theorem dX5_rate_88 : decode cX5_rate 88 = .ok (.ldc 236, 2) := by decide +kernel
theorem dX5_rate_90 : decode cX5_rate 90 = .ok (.ireturn, 1) := by decide +kernel
theorem dX5_keep_0 : decode cX5_keep 0 = .ok (.iload_n 1, 1) := by decide +kernel
theorem dX5_keep_1 : decode cX5_keep 1 = .ok (.ifCond .lt 17, 3) := by decide +kernel
theorem dX5_keep_4 : decode cX5_keep 4 = .ok (.iload_n 1, 1) := by decide +kernel
theorem dX5_keep_5 : decode cX5_keep 5 = .ok (.iconst 2, 1) := by decide +kernel
theorem dX5_keep_6 : decode cX5_keep 6 = .ok (.if_icmp .ge 12, 3) := by decide +kernel
theorem dX5_keep_9 : decode cX5_keep 9 = .ok (.aload_n 0, 1) := by decide +kernel
theorem dX5_keep_10 : decode cX5_keep 10 = .ok (.getfield 37, 3) := by decide +kernel
theorem dX5_keep_13 : decode cX5_keep 13 = .ok (.iload_n 1, 1) := by decide +kernel
theorem dX5_keep_14 : decode cX5_keep 14 = .ok (.aaload, 1) := by decide +kernel
theorem dX5_keep_15 : decode cX5_keep 15 = .ok (.ifnonnull 5, 3) := by decide +kernel
theorem dX5_keep_18 : decode cX5_keep 18 = .ok (.iconst (-1), 1) := by decide +kernel
theorem dX5_keep_19 : decode cX5_keep 19 = .ok (.ireturn, 1) := by decide +kernel
theorem dX5_keep_20 : decode cX5_keep 20 = .ok (.aload_n 0, 1) := by decide +kernel
theorem dX5_keep_21 : decode cX5_keep 21 = .ok (.getfield 37, 3) := by decide +kernel
theorem dX5_keep_24 : decode cX5_keep 24 = .ok (.iload_n 1, 1) := by decide +kernel
theorem dX5_keep_25 : decode cX5_keep 25 = .ok (.aaload, 1) := by decide +kernel
theorem dX5_keep_26 : decode cX5_keep 26 = .ok (.aload_n 0, 1) := by decide +kernel
theorem dX5_keep_27 : decode cX5_keep 27 = .ok (.getfield 26, 3) := by decide +kernel
theorem dX5_keep_30 : decode cX5_keep 30 = .ok (.invokevirtual 255, 3) := by decide +kernel
theorem dX5_keep_33 : decode cX5_keep 33 = .ok (.aload_n 0, 1) := by decide +kernel
theorem dX5_keep_34 : decode cX5_keep 34 = .ok (.getfield 41, 3) := by decide +kernel
theorem dX5_keep_37 : decode cX5_keep 37 = .ok (.iload_n 1, 1) := by decide +kernel
theorem dX5_keep_38 : decode cX5_keep 38 = .ok (.iconst 1, 1) := by decide +kernel
theorem dX5_keep_39 : decode cX5_keep 39 = .ok (.bastore, 1) := by decide +kernel
theorem dX5_keep_40 : decode cX5_keep 40 = .ok (.aload_n 0, 1) := by decide +kernel
theorem dX5_keep_41 : decode cX5_keep 41 = .ok (.getfield 26, 3) := by decide +kernel
theorem dX5_keep_44 : decode cX5_keep 44 = .ok (.getfield 150, 3) := by decide +kernel
theorem dX5_keep_47 : decode cX5_keep 47 = .ok (.ireturn, 1) := by decide +kernel
theorem dX5_back_0 : decode cX5_back 0 = .ok (.iload_n 1, 1) := by decide +kernel
theorem dX5_back_1 : decode cX5_back 1 = .ok (.ifCond .lt 17, 3) := by decide +kernel
theorem dX5_back_4 : decode cX5_back 4 = .ok (.iload_n 1, 1) := by decide +kernel
theorem dX5_back_5 : decode cX5_back 5 = .ok (.iconst 2, 1) := by decide +kernel
theorem dX5_back_6 : decode cX5_back 6 = .ok (.if_icmp .ge 12, 3) := by decide +kernel
theorem dX5_back_9 : decode cX5_back 9 = .ok (.aload_n 0, 1) := by decide +kernel
theorem dX5_back_10 : decode cX5_back 10 = .ok (.getfield 37, 3) := by decide +kernel
theorem dX5_back_13 : decode cX5_back 13 = .ok (.iload_n 1, 1) := by decide +kernel
theorem dX5_back_14 : decode cX5_back 14 = .ok (.aaload, 1) := by decide +kernel
theorem dX5_back_15 : decode cX5_back 15 = .ok (.ifnonnull 5, 3) := by decide +kernel
theorem dX5_back_18 : decode cX5_back 18 = .ok (.iconst (-1), 1) := by decide +kernel
theorem dX5_back_19 : decode cX5_back 19 = .ok (.ireturn, 1) := by decide +kernel
theorem dX5_back_20 : decode cX5_back 20 = .ok (.aload_n 0, 1) := by decide +kernel
theorem dX5_back_21 : decode cX5_back 21 = .ok (.getfield 41, 3) := by decide +kernel
theorem dX5_back_24 : decode cX5_back 24 = .ok (.iload_n 1, 1) := by decide +kernel
theorem dX5_back_25 : decode cX5_back 25 = .ok (.baload, 1) := by decide +kernel
theorem dX5_back_26 : decode cX5_back 26 = .ok (.ifCond .ne 6, 3) := by decide +kernel
theorem dX5_back_29 : decode cX5_back 29 = .ok (.bipush (-2), 2) := by decide +kernel
theorem dX5_back_31 : decode cX5_back 31 = .ok (.ireturn, 1) := by decide +kernel
theorem dX5_back_32 : decode cX5_back 32 = .ok (.aload_n 0, 1) := by decide +kernel
theorem dX5_back_33 : decode cX5_back 33 = .ok (.getfield 26, 3) := by decide +kernel
theorem dX5_back_36 : decode cX5_back 36 = .ok (.aload_n 0, 1) := by decide +kernel
theorem dX5_back_37 : decode cX5_back 37 = .ok (.getfield 37, 3) := by decide +kernel
theorem dX5_back_40 : decode cX5_back 40 = .ok (.iload_n 1, 1) := by decide +kernel
theorem dX5_back_41 : decode cX5_back 41 = .ok (.aaload, 1) := by decide +kernel
theorem dX5_back_42 : decode cX5_back 42 = .ok (.invokevirtual 255, 3) := by decide +kernel
theorem dX5_back_45 : decode cX5_back 45 = .ok (.aload_n 0, 1) := by decide +kernel
theorem dX5_back_46 : decode cX5_back 46 = .ok (.getfield 33, 3) := by decide +kernel
theorem dX5_back_49 : decode cX5_back 49 = .ok (.invokevirtual 88, 3) := by decide +kernel
theorem dX5_back_52 : decode cX5_back 52 = .ok (.aload_n 0, 1) := by decide +kernel
theorem dX5_back_53 : decode cX5_back 53 = .ok (.getfield 26, 3) := by decide +kernel
theorem dX5_back_56 : decode cX5_back 56 = .ok (.getfield 150, 3) := by decide +kernel
theorem dX5_back_59 : decode cX5_back 59 = .ok (.ireturn, 1) := by decide +kernel
theorem dX5_count_0 : decode cX5_count 0 = .ok (.iload_n 1, 1) := by decide +kernel
theorem dX5_count_1 : decode cX5_count 1 = .ok (.tableswitch 87 0 5 #[39, 47, 55, 63, 71, 76], 39) := by decide +kernel
theorem dX5_count_40 : decode cX5_count 40 = .ok (.aload_n 0, 1) := by decide +kernel
theorem dX5_count_41 : decode cX5_count 41 = .ok (.getfield 19, 3) := by decide +kernel
theorem dX5_count_44 : decode cX5_count 44 = .ok (.getfield 257, 3) := by decide +kernel
theorem dX5_count_47 : decode cX5_count 47 = .ok (.ireturn, 1) := by decide +kernel
theorem dX5_count_48 : decode cX5_count 48 = .ok (.aload_n 0, 1) := by decide +kernel
theorem dX5_count_49 : decode cX5_count 49 = .ok (.getfield 19, 3) := by decide +kernel
theorem dX5_count_52 : decode cX5_count 52 = .ok (.getfield 260, 3) := by decide +kernel
theorem dX5_count_55 : decode cX5_count 55 = .ok (.ireturn, 1) := by decide +kernel
theorem dX5_count_56 : decode cX5_count 56 = .ok (.aload_n 0, 1) := by decide +kernel
theorem dX5_count_57 : decode cX5_count 57 = .ok (.getfield 19, 3) := by decide +kernel
theorem dX5_count_60 : decode cX5_count 60 = .ok (.getfield 263, 3) := by decide +kernel
theorem dX5_count_63 : decode cX5_count 63 = .ok (.ireturn, 1) := by decide +kernel
theorem dX5_count_64 : decode cX5_count 64 = .ok (.aload_n 0, 1) := by decide +kernel
theorem dX5_count_65 : decode cX5_count 65 = .ok (.getfield 19, 3) := by decide +kernel
theorem dX5_count_68 : decode cX5_count 68 = .ok (.getfield 266, 3) := by decide +kernel
theorem dX5_count_71 : decode cX5_count 71 = .ok (.ireturn, 1) := by decide +kernel
theorem dX5_count_72 : decode cX5_count 72 = .ok (.aload_n 0, 1) := by decide +kernel
theorem dX5_count_73 : decode cX5_count 73 = .ok (.getfield 55, 3) := by decide +kernel
theorem dX5_count_76 : decode cX5_count 76 = .ok (.ireturn, 1) := by decide +kernel
theorem dX5_count_77 : decode cX5_count 77 = .ok (.aload_n 0, 1) := by decide +kernel
theorem dX5_count_78 : decode cX5_count 78 = .ok (.getfield 10, 3) := by decide +kernel
theorem dX5_count_81 : decode cX5_count 81 = .ok (.getfield 63, 3) := by decide +kernel
theorem dX5_count_84 : decode cX5_count 84 = .ok (.getfield 73, 3) := by decide +kernel
theorem dX5_count_87 : decode cX5_count 87 = .ok (.ireturn, 1) := by decide +kernel
theorem dX5_count_88 : decode cX5_count 88 = .ok (.iconst (-1), 1) := by decide +kernel
theorem dX5_count_89 : decode cX5_count 89 = .ok (.ireturn, 1) := by decide +kernel
theorem dX5_trace_0 : decode cX5_trace 0 = .ok (.aload_n 0, 1) := by decide +kernel
theorem dX5_trace_1 : decode cX5_trace 1 = .ok (.getfield 59, 3) := by decide +kernel
theorem dX5_trace_4 : decode cX5_trace 4 = .ok (.lreturn, 1) := by decide +kernel
theorem dX5_isCell_0 : decode cX5_isCell 0 = .ok (.iload_n 0, 1) := by decide +kernel
theorem dX5_isCell_1 : decode cX5_isCell 1 = .ok (.ifCond .lt 13, 3) := by decide +kernel
theorem dX5_isCell_4 : decode cX5_isCell 4 = .ok (.iload_n 0, 1) := by decide +kernel
theorem dX5_isCell_5 : decode cX5_isCell 5 = .ok (.bipush 6, 2) := by decide +kernel
theorem dX5_isCell_7 : decode cX5_isCell 7 = .ok (.if_icmp .ge 7, 3) := by decide +kernel
theorem dX5_isCell_10 : decode cX5_isCell 10 = .ok (.iconst 1, 1) := by decide +kernel
theorem dX5_isCell_11 : decode cX5_isCell 11 = .ok (.goto 4, 3) := by decide +kernel
theorem dX5_isCell_14 : decode cX5_isCell 14 = .ok (.iconst 0, 1) := by decide +kernel
theorem dX5_isCell_15 : decode cX5_isCell 15 = .ok (.ireturn, 1) := by decide +kernel
theorem dX5_isToldYear_0 : decode cX5_isToldYear 0 = .ok (.iload_n 0, 1) := by decide +kernel
theorem dX5_isToldYear_1 : decode cX5_isToldYear 1 = .ok (.ifCond .lt 13, 3) := by decide +kernel
theorem dX5_isToldYear_4 : decode cX5_isToldYear 4 = .ok (.iload_n 0, 1) := by decide +kernel
theorem dX5_isToldYear_5 : decode cX5_isToldYear 5 = .ok (.bipush 99, 2) := by decide +kernel
theorem dX5_isToldYear_7 : decode cX5_isToldYear 7 = .ok (.if_icmp .gt 7, 3) := by decide +kernel
theorem dX5_isToldYear_10 : decode cX5_isToldYear 10 = .ok (.iconst 1, 1) := by decide +kernel
theorem dX5_isToldYear_11 : decode cX5_isToldYear 11 = .ok (.goto 4, 3) := by decide +kernel
theorem dX5_isToldYear_14 : decode cX5_isToldYear 14 = .ok (.iconst 0, 1) := by decide +kernel
theorem dX5_isToldYear_15 : decode cX5_isToldYear 15 = .ok (.ireturn, 1) := by decide +kernel
theorem dX5_holds_0 : decode cX5_holds 0 = .ok (.iload_n 1, 1) := by decide +kernel
theorem dX5_holds_1 : decode cX5_holds 1 = .ok (.ifCond .lt 16, 3) := by decide +kernel
theorem dX5_holds_4 : decode cX5_holds 4 = .ok (.iload_n 0, 1) := by decide +kernel
theorem dX5_holds_5 : decode cX5_holds 5 = .ok (.iload_n 1, 1) := by decide +kernel
theorem dX5_holds_6 : decode cX5_holds 6 = .ok (.ishr, 1) := by decide +kernel
theorem dX5_holds_7 : decode cX5_holds 7 = .ok (.iconst 1, 1) := by decide +kernel
theorem dX5_holds_8 : decode cX5_holds 8 = .ok (.iand, 1) := by decide +kernel
theorem dX5_holds_9 : decode cX5_holds 9 = .ok (.iconst 1, 1) := by decide +kernel
theorem dX5_holds_10 : decode cX5_holds 10 = .ok (.if_icmp .ne 7, 3) := by decide +kernel
theorem dX5_holds_13 : decode cX5_holds 13 = .ok (.iconst 1, 1) := by decide +kernel
theorem dX5_holds_14 : decode cX5_holds 14 = .ok (.goto 4, 3) := by decide +kernel
theorem dX5_holds_17 : decode cX5_holds 17 = .ok (.iconst 0, 1) := by decide +kernel
theorem dX5_holds_18 : decode cX5_holds 18 = .ok (.ireturn, 1) := by decide +kernel
theorem dX5_without_0 : decode cX5_without 0 = .ok (.iload_n 1, 1) := by decide +kernel
theorem dX5_without_1 : decode cX5_without 1 = .ok (.ifCond .ge 7, 3) := by decide +kernel
theorem dX5_without_4 : decode cX5_without 4 = .ok (.iload_n 0, 1) := by decide +kernel
theorem dX5_without_5 : decode cX5_without 5 = .ok (.goto 10, 3) := by decide +kernel
theorem dX5_without_8 : decode cX5_without 8 = .ok (.iload_n 0, 1) := by decide +kernel
theorem dX5_without_9 : decode cX5_without 9 = .ok (.iconst 1, 1) := by decide +kernel
theorem dX5_without_10 : decode cX5_without 10 = .ok (.iload_n 1, 1) := by decide +kernel
theorem dX5_without_11 : decode cX5_without 11 = .ok (.ishl, 1) := by decide +kernel
theorem dX5_without_12 : decode cX5_without 12 = .ok (.iconst (-1), 1) := by decide +kernel
theorem dX5_without_13 : decode cX5_without 13 = .ok (.ixor, 1) := by decide +kernel
theorem dX5_without_14 : decode cX5_without 14 = .ok (.iand, 1) := by decide +kernel
theorem dX5_without_15 : decode cX5_without 15 = .ok (.ireturn, 1) := by decide +kernel
theorem dX5_isNow_0 : decode cX5_isNow 0 = .ok (.aload_n 0, 1) := by decide +kernel
theorem dX5_isNow_1 : decode cX5_isNow 1 = .ok (.getfield 19, 3) := by decide +kernel
theorem dX5_isNow_4 : decode cX5_isNow 4 = .ok (.iload_n 1, 1) := by decide +kernel
theorem dX5_isNow_5 : decode cX5_isNow 5 = .ok (.invokevirtual 100, 3) := by decide +kernel
theorem dX5_isNow_8 : decode cX5_isNow 8 = .ok (.ifCond .eq 20, 3) := by decide +kernel
theorem dX5_isNow_11 : decode cX5_isNow 11 = .ok (.aload_n 0, 1) := by decide +kernel
theorem dX5_isNow_12 : decode cX5_isNow 12 = .ok (.getfield 26, 3) := by decide +kernel
theorem dX5_isNow_15 : decode cX5_isNow 15 = .ok (.getfield 124, 3) := by decide +kernel
theorem dX5_isNow_18 : decode cX5_isNow 18 = .ok (.iload_n 1, 1) := by decide +kernel
theorem dX5_isNow_19 : decode cX5_isNow 19 = .ok (.iaload, 1) := by decide +kernel
theorem dX5_isNow_20 : decode cX5_isNow 20 = .ok (.iload_n 2, 1) := by decide +kernel
theorem dX5_isNow_21 : decode cX5_isNow 21 = .ok (.if_icmp .ne 7, 3) := by decide +kernel
theorem dX5_isNow_24 : decode cX5_isNow 24 = .ok (.iconst 1, 1) := by decide +kernel
theorem dX5_isNow_25 : decode cX5_isNow 25 = .ok (.goto 4, 3) := by decide +kernel
theorem dX5_isNow_28 : decode cX5_isNow 28 = .ok (.iconst 0, 1) := by decide +kernel
theorem dX5_isNow_29 : decode cX5_isNow 29 = .ok (.ireturn, 1) := by decide +kernel
theorem dX5_liesIn_0 : decode cX5_liesIn 0 = .ok (.aload_n 0, 1) := by decide +kernel
theorem dX5_liesIn_1 : decode cX5_liesIn 1 = .ok (.iload_n 1, 1) := by decide +kernel
theorem dX5_liesIn_2 : decode cX5_liesIn 2 = .ok (.iconst 0, 1) := by decide +kernel
theorem dX5_liesIn_3 : decode cX5_liesIn 3 = .ok (.invokevirtual 190, 3) := by decide +kernel
theorem dX5_liesIn_6 : decode cX5_liesIn 6 = .ok (.ifCond .eq 20, 3) := by decide +kernel
theorem dX5_liesIn_9 : decode cX5_liesIn 9 = .ok (.aload_n 0, 1) := by decide +kernel
theorem dX5_liesIn_10 : decode cX5_liesIn 10 = .ok (.getfield 19, 3) := by decide +kernel
theorem dX5_liesIn_13 : decode cX5_liesIn 13 = .ok (.getfield 106, 3) := by decide +kernel
theorem dX5_liesIn_16 : decode cX5_liesIn 16 = .ok (.iload_n 1, 1) := by decide +kernel
theorem dX5_liesIn_17 : decode cX5_liesIn 17 = .ok (.iaload, 1) := by decide +kernel
theorem dX5_liesIn_18 : decode cX5_liesIn 18 = .ok (.iload_n 2, 1) := by decide +kernel
theorem dX5_liesIn_19 : decode cX5_liesIn 19 = .ok (.if_icmp .ne 7, 3) := by decide +kernel
theorem dX5_liesIn_22 : decode cX5_liesIn 22 = .ok (.iconst 1, 1) := by decide +kernel
theorem dX5_liesIn_23 : decode cX5_liesIn 23 = .ok (.goto 4, 3) := by decide +kernel
theorem dX5_liesIn_26 : decode cX5_liesIn 26 = .ok (.iconst 0, 1) := by decide +kernel
theorem dX5_liesIn_27 : decode cX5_liesIn 27 = .ok (.ireturn, 1) := by decide +kernel
theorem dX5_lyingIn_0 : decode cX5_lyingIn 0 = .ok (.iconst 0, 1) := by decide +kernel
theorem dX5_lyingIn_1 : decode cX5_lyingIn 1 = .ok (.istore_n 2, 1) := by decide +kernel
theorem dX5_lyingIn_2 : decode cX5_lyingIn 2 = .ok (.iconst 0, 1) := by decide +kernel
theorem dX5_lyingIn_3 : decode cX5_lyingIn 3 = .ok (.istore_n 3, 1) := by decide +kernel
theorem dX5_lyingIn_4 : decode cX5_lyingIn 4 = .ok (.iload_n 3, 1) := by decide +kernel
theorem dX5_lyingIn_5 : decode cX5_lyingIn 5 = .ok (.bipush 8, 2) := by decide +kernel
theorem dX5_lyingIn_7 : decode cX5_lyingIn 7 = .ok (.if_icmp .ge 24, 3) := by decide +kernel
theorem dX5_lyingIn_10 : decode cX5_lyingIn 10 = .ok (.aload_n 0, 1) := by decide +kernel
theorem dX5_lyingIn_11 : decode cX5_lyingIn 11 = .ok (.iload_n 3, 1) := by decide +kernel
theorem dX5_lyingIn_12 : decode cX5_lyingIn 12 = .ok (.iload_n 1, 1) := by decide +kernel
theorem dX5_lyingIn_13 : decode cX5_lyingIn 13 = .ok (.invokevirtual 163, 3) := by decide +kernel
theorem dX5_lyingIn_16 : decode cX5_lyingIn 16 = .ok (.ifCond .eq 9, 3) := by decide +kernel
theorem dX5_lyingIn_19 : decode cX5_lyingIn 19 = .ok (.iload_n 2, 1) := by decide +kernel
theorem dX5_lyingIn_20 : decode cX5_lyingIn 20 = .ok (.iconst 1, 1) := by decide +kernel
theorem dX5_lyingIn_21 : decode cX5_lyingIn 21 = .ok (.iload_n 3, 1) := by decide +kernel
theorem dX5_lyingIn_22 : decode cX5_lyingIn 22 = .ok (.ishl, 1) := by decide +kernel
theorem dX5_lyingIn_23 : decode cX5_lyingIn 23 = .ok (.ior, 1) := by decide +kernel
theorem dX5_lyingIn_24 : decode cX5_lyingIn 24 = .ok (.istore_n 2, 1) := by decide +kernel
theorem dX5_lyingIn_25 : decode cX5_lyingIn 25 = .ok (.iinc 3 1, 3) := by decide +kernel
theorem dX5_lyingIn_28 : decode cX5_lyingIn 28 = .ok (.goto (-24), 3) := by decide +kernel
theorem dX5_lyingIn_31 : decode cX5_lyingIn 31 = .ok (.iload_n 2, 1) := by decide +kernel
theorem dX5_lyingIn_32 : decode cX5_lyingIn 32 = .ok (.ireturn, 1) := by decide +kernel
theorem dX5_thoseThatAre_0 : decode cX5_thoseThatAre 0 = .ok (.iconst 0, 1) := by decide +kernel
theorem dX5_thoseThatAre_1 : decode cX5_thoseThatAre 1 = .ok (.istore_n 2, 1) := by decide +kernel
theorem dX5_thoseThatAre_2 : decode cX5_thoseThatAre 2 = .ok (.iconst 0, 1) := by decide +kernel
theorem dX5_thoseThatAre_3 : decode cX5_thoseThatAre 3 = .ok (.istore_n 3, 1) := by decide +kernel
theorem dX5_thoseThatAre_4 : decode cX5_thoseThatAre 4 = .ok (.iload_n 3, 1) := by decide +kernel
theorem dX5_thoseThatAre_5 : decode cX5_thoseThatAre 5 = .ok (.bipush 8, 2) := by decide +kernel
theorem dX5_thoseThatAre_7 : decode cX5_thoseThatAre 7 = .ok (.if_icmp .ge 24, 3) := by decide +kernel
theorem dX5_thoseThatAre_10 : decode cX5_thoseThatAre 10 = .ok (.aload_n 0, 1) := by decide +kernel
theorem dX5_thoseThatAre_11 : decode cX5_thoseThatAre 11 = .ok (.iload_n 3, 1) := by decide +kernel
theorem dX5_thoseThatAre_12 : decode cX5_thoseThatAre 12 = .ok (.iload_n 1, 1) := by decide +kernel
theorem dX5_thoseThatAre_13 : decode cX5_thoseThatAre 13 = .ok (.invokevirtual 190, 3) := by decide +kernel
theorem dX5_thoseThatAre_16 : decode cX5_thoseThatAre 16 = .ok (.ifCond .eq 9, 3) := by decide +kernel
theorem dX5_thoseThatAre_19 : decode cX5_thoseThatAre 19 = .ok (.iload_n 2, 1) := by decide +kernel
theorem dX5_thoseThatAre_20 : decode cX5_thoseThatAre 20 = .ok (.iconst 1, 1) := by decide +kernel
theorem dX5_thoseThatAre_21 : decode cX5_thoseThatAre 21 = .ok (.iload_n 3, 1) := by decide +kernel
theorem dX5_thoseThatAre_22 : decode cX5_thoseThatAre 22 = .ok (.ishl, 1) := by decide +kernel
theorem dX5_thoseThatAre_23 : decode cX5_thoseThatAre 23 = .ok (.ior, 1) := by decide +kernel
theorem dX5_thoseThatAre_24 : decode cX5_thoseThatAre 24 = .ok (.istore_n 2, 1) := by decide +kernel
theorem dX5_thoseThatAre_25 : decode cX5_thoseThatAre 25 = .ok (.iinc 3 1, 3) := by decide +kernel
theorem dX5_thoseThatAre_28 : decode cX5_thoseThatAre 28 = .ok (.goto (-24), 3) := by decide +kernel
theorem dX5_thoseThatAre_31 : decode cX5_thoseThatAre 31 = .ok (.iload_n 2, 1) := by decide +kernel
theorem dX5_thoseThatAre_32 : decode cX5_thoseThatAre 32 = .ok (.ireturn, 1) := by decide +kernel
theorem dX5_mayBeDone_0 : decode cX5_mayBeDone 0 = .ok (.aload_n 0, 1) := by decide +kernel
theorem dX5_mayBeDone_1 : decode cX5_mayBeDone 1 = .ok (.iload_n 1, 1) := by decide +kernel
theorem dX5_mayBeDone_2 : decode cX5_mayBeDone 2 = .ok (.iconst 1, 1) := by decide +kernel
theorem dX5_mayBeDone_3 : decode cX5_mayBeDone 3 = .ok (.invokevirtual 190, 3) := by decide +kernel
theorem dX5_mayBeDone_6 : decode cX5_mayBeDone 6 = .ok (.ifCond .eq 21, 3) := by decide +kernel
theorem dX5_mayBeDone_9 : decode cX5_mayBeDone 9 = .ok (.aload_n 0, 1) := by decide +kernel
theorem dX5_mayBeDone_10 : decode cX5_mayBeDone 10 = .ok (.getfield 19, 3) := by decide +kernel
theorem dX5_mayBeDone_13 : decode cX5_mayBeDone 13 = .ok (.getfield 121, 3) := by decide +kernel
theorem dX5_mayBeDone_16 : decode cX5_mayBeDone 16 = .ok (.iload_n 1, 1) := by decide +kernel
theorem dX5_mayBeDone_17 : decode cX5_mayBeDone 17 = .ok (.iaload, 1) := by decide +kernel
theorem dX5_mayBeDone_18 : decode cX5_mayBeDone 18 = .ok (.iload_n 2, 1) := by decide +kernel
theorem dX5_mayBeDone_19 : decode cX5_mayBeDone 19 = .ok (.iand, 1) := by decide +kernel
theorem dX5_mayBeDone_20 : decode cX5_mayBeDone 20 = .ok (.ifCond .ne 7, 3) := by decide +kernel
theorem dX5_mayBeDone_23 : decode cX5_mayBeDone 23 = .ok (.iconst 1, 1) := by decide +kernel
theorem dX5_mayBeDone_24 : decode cX5_mayBeDone 24 = .ok (.goto 4, 3) := by decide +kernel
theorem dX5_mayBeDone_27 : decode cX5_mayBeDone 27 = .ok (.iconst 0, 1) := by decide +kernel
theorem dX5_mayBeDone_28 : decode cX5_mayBeDone 28 = .ok (.ireturn, 1) := by decide +kernel
theorem dX5_leftIn_0 : decode cX5_leftIn 0 = .ok (.aload_n 0, 1) := by decide +kernel
theorem dX5_leftIn_1 : decode cX5_leftIn 1 = .ok (.getfield 19, 3) := by decide +kernel
theorem dX5_leftIn_4 : decode cX5_leftIn 4 = .ok (.iload_n 1, 1) := by decide +kernel
theorem dX5_leftIn_5 : decode cX5_leftIn 5 = .ok (.invokevirtual 100, 3) := by decide +kernel
theorem dX5_leftIn_8 : decode cX5_leftIn 8 = .ok (.ifCond .ne 5, 3) := by decide +kernel
theorem dX5_leftIn_11 : decode cX5_leftIn 11 = .ok (.iconst 0, 1) := by decide +kernel
theorem dX5_leftIn_12 : decode cX5_leftIn 12 = .ok (.ireturn, 1) := by decide +kernel
theorem dX5_leftIn_13 : decode cX5_leftIn 13 = .ok (.aload_n 0, 1) := by decide +kernel
theorem dX5_leftIn_14 : decode cX5_leftIn 14 = .ok (.getfield 26, 3) := by decide +kernel
theorem dX5_leftIn_17 : decode cX5_leftIn 17 = .ok (.getfield 124, 3) := by decide +kernel
theorem dX5_leftIn_20 : decode cX5_leftIn 20 = .ok (.iload_n 1, 1) := by decide +kernel
theorem dX5_leftIn_21 : decode cX5_leftIn 21 = .ok (.iaload, 1) := by decide +kernel
theorem dX5_leftIn_22 : decode cX5_leftIn 22 = .ok (.lookupswitch 69 #[(0, 26), (3, 67)], 26) := by decide +kernel
theorem dX5_leftIn_48 : decode cX5_leftIn 48 = .ok (.aload_n 0, 1) := by decide +kernel
theorem dX5_leftIn_49 : decode cX5_leftIn 49 = .ok (.aload_n 0, 1) := by decide +kernel
theorem dX5_leftIn_50 : decode cX5_leftIn 50 = .ok (.getfield 19, 3) := by decide +kernel
theorem dX5_leftIn_53 : decode cX5_leftIn 53 = .ok (.getfield 118, 3) := by decide +kernel
theorem dX5_leftIn_56 : decode cX5_leftIn 56 = .ok (.iload_n 1, 1) := by decide +kernel
theorem dX5_leftIn_57 : decode cX5_leftIn 57 = .ok (.iaload, 1) := by decide +kernel
theorem dX5_leftIn_58 : decode cX5_leftIn 58 = .ok (.aload_n 0, 1) := by decide +kernel
theorem dX5_leftIn_59 : decode cX5_leftIn 59 = .ok (.getfield 19, 3) := by decide +kernel
theorem dX5_leftIn_62 : decode cX5_leftIn 62 = .ok (.getfield 109, 3) := by decide +kernel
theorem dX5_leftIn_65 : decode cX5_leftIn 65 = .ok (.iload_n 1, 1) := by decide +kernel
theorem dX5_leftIn_66 : decode cX5_leftIn 66 = .ok (.iaload, 1) := by decide +kernel
theorem dX5_leftIn_67 : decode cX5_leftIn 67 = .ok (.aload_n 0, 1) := by decide +kernel
theorem dX5_leftIn_68 : decode cX5_leftIn 68 = .ok (.getfield 26, 3) := by decide +kernel
theorem dX5_leftIn_71 : decode cX5_leftIn 71 = .ok (.getfield 150, 3) := by decide +kernel
theorem dX5_leftIn_74 : decode cX5_leftIn 74 = .ok (.iload_n 2, 1) := by decide +kernel
theorem dX5_leftIn_75 : decode cX5_leftIn 75 = .ok (.iadd, 1) := by decide +kernel
theorem dX5_leftIn_76 : decode cX5_leftIn 76 = .ok (.aload_n 0, 1) := by decide +kernel
theorem dX5_leftIn_77 : decode cX5_leftIn 77 = .ok (.getfield 26, 3) := by decide +kernel
theorem dX5_leftIn_80 : decode cX5_leftIn 80 = .ok (.getfield 170, 3) := by decide +kernel
theorem dX5_leftIn_83 : decode cX5_leftIn 83 = .ok (.iload_n 1, 1) := by decide +kernel
theorem dX5_leftIn_84 : decode cX5_leftIn 84 = .ok (.iaload, 1) := by decide +kernel
theorem dX5_leftIn_85 : decode cX5_leftIn 85 = .ok (.invokevirtual 202, 3) := by decide +kernel
theorem dX5_leftIn_88 : decode cX5_leftIn 88 = .ok (.ireturn, 1) := by decide +kernel
theorem dX5_leftIn_89 : decode cX5_leftIn 89 = .ok (.iconst 0, 1) := by decide +kernel
theorem dX5_leftIn_90 : decode cX5_leftIn 90 = .ok (.ireturn, 1) := by decide +kernel
theorem dX5_leftIn_91 : decode cX5_leftIn 91 = .ok (.aload_n 0, 1) := by decide +kernel
theorem dX5_leftIn_92 : decode cX5_leftIn 92 = .ok (.getfield 26, 3) := by decide +kernel
theorem dX5_leftIn_95 : decode cX5_leftIn 95 = .ok (.getfield 167, 3) := by decide +kernel
theorem dX5_leftIn_98 : decode cX5_leftIn 98 = .ok (.iload_n 1, 1) := by decide +kernel
theorem dX5_leftIn_99 : decode cX5_leftIn 99 = .ok (.iaload, 1) := by decide +kernel
theorem dX5_leftIn_100 : decode cX5_leftIn 100 = .ok (.ireturn, 1) := by decide +kernel
theorem dX5_lyingLeft_0 : decode cX5_lyingLeft 0 = .ok (.aload_n 0, 1) := by decide +kernel
theorem dX5_lyingLeft_1 : decode cX5_lyingLeft 1 = .ok (.getfield 19, 3) := by decide +kernel
theorem dX5_lyingLeft_4 : decode cX5_lyingLeft 4 = .ok (.getfield 263, 3) := by decide +kernel
theorem dX5_lyingLeft_7 : decode cX5_lyingLeft 7 = .ok (.ifCond .le 19, 3) := by decide +kernel
theorem dX5_lyingLeft_10 : decode cX5_lyingLeft 10 = .ok (.iload_n 3, 1) := by decide +kernel
theorem dX5_lyingLeft_11 : decode cX5_lyingLeft 11 = .ok (.iload_n 2, 1) := by decide +kernel
theorem dX5_lyingLeft_12 : decode cX5_lyingLeft 12 = .ok (.iconst 1, 1) := by decide +kernel
theorem dX5_lyingLeft_13 : decode cX5_lyingLeft 13 = .ok (.iadd, 1) := by decide +kernel
theorem dX5_lyingLeft_14 : decode cX5_lyingLeft 14 = .ok (.imul, 1) := by decide +kernel
theorem dX5_lyingLeft_15 : decode cX5_lyingLeft 15 = .ok (.aload_n 0, 1) := by decide +kernel
theorem dX5_lyingLeft_16 : decode cX5_lyingLeft 16 = .ok (.getfield 19, 3) := by decide +kernel
theorem dX5_lyingLeft_19 : decode cX5_lyingLeft 19 = .ok (.getfield 263, 3) := by decide +kernel
theorem dX5_lyingLeft_22 : decode cX5_lyingLeft 22 = .ok (.idiv, 1) := by decide +kernel
theorem dX5_lyingLeft_23 : decode cX5_lyingLeft 23 = .ok (.goto 4, 3) := by decide +kernel
theorem dX5_lyingLeft_26 : decode cX5_lyingLeft 26 = .ok (.iconst 0, 1) := by decide +kernel
theorem dX5_lyingLeft_27 : decode cX5_lyingLeft 27 = .ok (.istore 5, 2) := by decide +kernel
theorem dX5_lyingLeft_29 : decode cX5_lyingLeft 29 = .ok (.iconst 1, 1) := by decide +kernel
theorem dX5_lyingLeft_30 : decode cX5_lyingLeft 30 = .ok (.iload_n 1, 1) := by decide +kernel
theorem dX5_lyingLeft_31 : decode cX5_lyingLeft 31 = .ok (.iload 5, 2) := by decide +kernel
theorem dX5_lyingLeft_33 : decode cX5_lyingLeft 33 = .ok (.isub, 1) := by decide +kernel
theorem dX5_lyingLeft_34 : decode cX5_lyingLeft 34 = .ok (.iload 4, 2) := by decide +kernel
theorem dX5_lyingLeft_36 : decode cX5_lyingLeft 36 = .ok (.isub, 1) := by decide +kernel
theorem dX5_lyingLeft_37 : decode cX5_lyingLeft 37 = .ok (.invokestatic 269, 3) := by decide +kernel
theorem dX5_lyingLeft_40 : decode cX5_lyingLeft 40 = .ok (.ireturn, 1) := by decide +kernel
theorem dX5_beginsAsSeen_0 : decode cX5_beginsAsSeen 0 = .ok (.aload_n 0, 1) := by decide +kernel
theorem dX5_beginsAsSeen_1 : decode cX5_beginsAsSeen 1 = .ok (.iload_n 1, 1) := by decide +kernel
theorem dX5_beginsAsSeen_2 : decode cX5_beginsAsSeen 2 = .ok (.iconst 0, 1) := by decide +kernel
theorem dX5_beginsAsSeen_3 : decode cX5_beginsAsSeen 3 = .ok (.invokevirtual 190, 3) := by decide +kernel
theorem dX5_beginsAsSeen_6 : decode cX5_beginsAsSeen 6 = .ok (.ifCond .eq 16, 3) := by decide +kernel
theorem dX5_beginsAsSeen_9 : decode cX5_beginsAsSeen 9 = .ok (.aload_n 0, 1) := by decide +kernel
theorem dX5_beginsAsSeen_10 : decode cX5_beginsAsSeen 10 = .ok (.iload_n 1, 1) := by decide +kernel
theorem dX5_beginsAsSeen_11 : decode cX5_beginsAsSeen 11 = .ok (.iconst 0, 1) := by decide +kernel
theorem dX5_beginsAsSeen_12 : decode cX5_beginsAsSeen 12 = .ok (.invokevirtual 127, 3) := by decide +kernel
theorem dX5_beginsAsSeen_15 : decode cX5_beginsAsSeen 15 = .ok (.aload_n 0, 1) := by decide +kernel
theorem dX5_beginsAsSeen_16 : decode cX5_beginsAsSeen 16 = .ok (.getfield 55, 3) := by decide +kernel
theorem dX5_beginsAsSeen_19 : decode cX5_beginsAsSeen 19 = .ok (.if_icmp .ge 5, 3) := by decide +kernel
theorem dX5_beginsAsSeen_22 : decode cX5_beginsAsSeen 22 = .ok (.iconst 0, 1) := by decide +kernel
theorem dX5_beginsAsSeen_23 : decode cX5_beginsAsSeen 23 = .ok (.ireturn, 1) := by decide +kernel
theorem dX5_beginsAsSeen_24 : decode cX5_beginsAsSeen 24 = .ok (.iconst 0, 1) := by decide +kernel
theorem dX5_beginsAsSeen_25 : decode cX5_beginsAsSeen 25 = .ok (.istore_n 2, 1) := by decide +kernel
theorem dX5_beginsAsSeen_26 : decode cX5_beginsAsSeen 26 = .ok (.iload_n 2, 1) := by decide +kernel
theorem dX5_beginsAsSeen_27 : decode cX5_beginsAsSeen 27 = .ok (.aload_n 0, 1) := by decide +kernel
theorem dX5_beginsAsSeen_28 : decode cX5_beginsAsSeen 28 = .ok (.getfield 55, 3) := by decide +kernel
theorem dX5_beginsAsSeen_31 : decode cX5_beginsAsSeen 31 = .ok (.if_icmp .ge 34, 3) := by decide +kernel
theorem dX5_beginsAsSeen_34 : decode cX5_beginsAsSeen 34 = .ok (.iload_n 2, 1) := by decide +kernel
theorem dX5_beginsAsSeen_35 : decode cX5_beginsAsSeen 35 = .ok (.iconst 4, 1) := by decide +kernel
theorem dX5_beginsAsSeen_36 : decode cX5_beginsAsSeen 36 = .ok (.if_icmp .ge 29, 3) := by decide +kernel
theorem dX5_beginsAsSeen_39 : decode cX5_beginsAsSeen 39 = .ok (.aload_n 0, 1) := by decide +kernel
theorem dX5_beginsAsSeen_40 : decode cX5_beginsAsSeen 40 = .ok (.getfield 19, 3) := by decide +kernel
theorem dX5_beginsAsSeen_43 : decode cX5_beginsAsSeen 43 = .ok (.iload_n 1, 1) := by decide +kernel
theorem dX5_beginsAsSeen_44 : decode cX5_beginsAsSeen 44 = .ok (.iload_n 2, 1) := by decide +kernel
theorem dX5_beginsAsSeen_45 : decode cX5_beginsAsSeen 45 = .ok (.invokevirtual 131, 3) := by decide +kernel
theorem dX5_beginsAsSeen_48 : decode cX5_beginsAsSeen 48 = .ok (.aload_n 0, 1) := by decide +kernel
theorem dX5_beginsAsSeen_49 : decode cX5_beginsAsSeen 49 = .ok (.getfield 45, 3) := by decide +kernel
theorem dX5_beginsAsSeen_52 : decode cX5_beginsAsSeen 52 = .ok (.iload_n 2, 1) := by decide +kernel
theorem dX5_beginsAsSeen_53 : decode cX5_beginsAsSeen 53 = .ok (.iaload, 1) := by decide +kernel
theorem dX5_beginsAsSeen_54 : decode cX5_beginsAsSeen 54 = .ok (.if_icmp .eq 5, 3) := by decide +kernel
theorem dX5_beginsAsSeen_57 : decode cX5_beginsAsSeen 57 = .ok (.iconst 0, 1) := by decide +kernel
theorem dX5_beginsAsSeen_58 : decode cX5_beginsAsSeen 58 = .ok (.ireturn, 1) := by decide +kernel
theorem dX5_beginsAsSeen_59 : decode cX5_beginsAsSeen 59 = .ok (.iinc 2 1, 3) := by decide +kernel
theorem dX5_beginsAsSeen_62 : decode cX5_beginsAsSeen 62 = .ok (.goto (-36), 3) := by decide +kernel
theorem dX5_beginsAsSeen_65 : decode cX5_beginsAsSeen 65 = .ok (.iconst 1, 1) := by decide +kernel
theorem dX5_beginsAsSeen_66 : decode cX5_beginsAsSeen 66 = .ok (.ireturn, 1) := by decide +kernel
theorem dX5_letYearPass_0 : decode cX5_letYearPass 0 = .ok (.iconst 0, 1) := by decide +kernel
theorem dX5_letYearPass_1 : decode cX5_letYearPass 1 = .ok (.istore_n 2, 1) := by decide +kernel
theorem dX5_letYearPass_2 : decode cX5_letYearPass 2 = .ok (.iload_n 2, 1) := by decide +kernel
theorem dX5_letYearPass_3 : decode cX5_letYearPass 3 = .ok (.aload_n 1, 1) := by decide +kernel
theorem dX5_letYearPass_4 : decode cX5_letYearPass 4 = .ok (.arraylength, 1) := by decide +kernel
theorem dX5_letYearPass_5 : decode cX5_letYearPass 5 = .ok (.if_icmp .ge 22, 3) := by decide +kernel
theorem dX5_letYearPass_8 : decode cX5_letYearPass 8 = .ok (.aload_n 1, 1) := by decide +kernel
theorem dX5_letYearPass_9 : decode cX5_letYearPass 9 = .ok (.iload_n 2, 1) := by decide +kernel
theorem dX5_letYearPass_10 : decode cX5_letYearPass 10 = .ok (.bipush 9, 2) := by decide +kernel
theorem dX5_letYearPass_12 : decode cX5_letYearPass 12 = .ok (.aload_n 1, 1) := by decide +kernel
theorem dX5_letYearPass_13 : decode cX5_letYearPass 13 = .ok (.iload_n 2, 1) := by decide +kernel
theorem dX5_letYearPass_14 : decode cX5_letYearPass 14 = .ok (.iaload, 1) := by decide +kernel
theorem dX5_letYearPass_15 : decode cX5_letYearPass 15 = .ok (.iconst 1, 1) := by decide +kernel
theorem dX5_letYearPass_16 : decode cX5_letYearPass 16 = .ok (.iadd, 1) := by decide +kernel
theorem dX5_letYearPass_17 : decode cX5_letYearPass 17 = .ok (.invokestatic 173, 3) := by decide +kernel
theorem dX5_letYearPass_20 : decode cX5_letYearPass 20 = .ok (.iastore, 1) := by decide +kernel
theorem dX5_letYearPass_21 : decode cX5_letYearPass 21 = .ok (.iinc 2 1, 3) := by decide +kernel
theorem dX5_letYearPass_24 : decode cX5_letYearPass 24 = .ok (.goto (-22), 3) := by decide +kernel
theorem dX5_letYearPass_27 : decode cX5_letYearPass 27 = .ok (.iconst 0, 1) := by decide +kernel
theorem dX5_letYearPass_28 : decode cX5_letYearPass 28 = .ok (.istore_n 2, 1) := by decide +kernel
theorem dX5_letYearPass_29 : decode cX5_letYearPass 29 = .ok (.iconst 0, 1) := by decide +kernel
theorem dX5_letYearPass_30 : decode cX5_letYearPass 30 = .ok (.istore_n 3, 1) := by decide +kernel
theorem dX5_letYearPass_31 : decode cX5_letYearPass 31 = .ok (.iload_n 3, 1) := by decide +kernel
theorem dX5_letYearPass_32 : decode cX5_letYearPass 32 = .ok (.aload_n 1, 1) := by decide +kernel
theorem dX5_letYearPass_33 : decode cX5_letYearPass 33 = .ok (.arraylength, 1) := by decide +kernel
theorem dX5_letYearPass_34 : decode cX5_letYearPass 34 = .ok (.if_icmp .ge 30, 3) := by decide +kernel
theorem dX5_letYearPass_37 : decode cX5_letYearPass 37 = .ok (.aload_n 1, 1) := by decide +kernel
theorem dX5_letYearPass_38 : decode cX5_letYearPass 38 = .ok (.iload_n 3, 1) := by decide +kernel
theorem dX5_letYearPass_39 : decode cX5_letYearPass 39 = .ok (.invokestatic 272, 3) := by decide +kernel
theorem dX5_letYearPass_42 : decode cX5_letYearPass 42 = .ok (.aload_n 0, 1) := by decide +kernel
theorem dX5_letYearPass_43 : decode cX5_letYearPass 43 = .ok (.getfield 19, 3) := by decide +kernel
theorem dX5_letYearPass_46 : decode cX5_letYearPass 46 = .ok (.getfield 266, 3) := by decide +kernel
theorem dX5_letYearPass_49 : decode cX5_letYearPass 49 = .ok (.if_icmp .lt 9, 3) := by decide +kernel
theorem dX5_letYearPass_52 : decode cX5_letYearPass 52 = .ok (.iload_n 2, 1) := by decide +kernel
theorem dX5_letYearPass_53 : decode cX5_letYearPass 53 = .ok (.iconst 1, 1) := by decide +kernel
theorem dX5_letYearPass_54 : decode cX5_letYearPass 54 = .ok (.iload_n 3, 1) := by decide +kernel
theorem dX5_letYearPass_55 : decode cX5_letYearPass 55 = .ok (.ishl, 1) := by decide +kernel
theorem dX5_letYearPass_56 : decode cX5_letYearPass 56 = .ok (.ior, 1) := by decide +kernel
theorem dX5_letYearPass_57 : decode cX5_letYearPass 57 = .ok (.istore_n 2, 1) := by decide +kernel
theorem dX5_letYearPass_58 : decode cX5_letYearPass 58 = .ok (.iinc 3 1, 3) := by decide +kernel
theorem dX5_letYearPass_61 : decode cX5_letYearPass 61 = .ok (.goto (-30), 3) := by decide +kernel
theorem dX5_letYearPass_64 : decode cX5_letYearPass 64 = .ok (.iconst 0, 1) := by decide +kernel
theorem dX5_letYearPass_65 : decode cX5_letYearPass 65 = .ok (.istore_n 3, 1) := by decide +kernel
theorem dX5_letYearPass_66 : decode cX5_letYearPass 66 = .ok (.iload_n 3, 1) := by decide +kernel
theorem dX5_letYearPass_67 : decode cX5_letYearPass 67 = .ok (.aload_n 1, 1) := by decide +kernel
theorem dX5_letYearPass_68 : decode cX5_letYearPass 68 = .ok (.arraylength, 1) := by decide +kernel
theorem dX5_letYearPass_69 : decode cX5_letYearPass 69 = .ok (.if_icmp .ge 21, 3) := by decide +kernel
theorem dX5_letYearPass_72 : decode cX5_letYearPass 72 = .ok (.iload_n 2, 1) := by decide +kernel
theorem dX5_letYearPass_73 : decode cX5_letYearPass 73 = .ok (.iload_n 3, 1) := by decide +kernel
theorem dX5_letYearPass_74 : decode cX5_letYearPass 74 = .ok (.invokestatic 193, 3) := by decide +kernel
theorem dX5_letYearPass_77 : decode cX5_letYearPass 77 = .ok (.ifCond .eq 7, 3) := by decide +kernel
theorem dX5_letYearPass_80 : decode cX5_letYearPass 80 = .ok (.aload_n 1, 1) := by decide +kernel
theorem dX5_letYearPass_81 : decode cX5_letYearPass 81 = .ok (.iload_n 3, 1) := by decide +kernel
theorem dX5_letYearPass_82 : decode cX5_letYearPass 82 = .ok (.iconst 0, 1) := by decide +kernel
theorem dX5_letYearPass_83 : decode cX5_letYearPass 83 = .ok (.iastore, 1) := by decide +kernel
theorem dX5_letYearPass_84 : decode cX5_letYearPass 84 = .ok (.iinc 3 1, 3) := by decide +kernel
theorem dX5_letYearPass_87 : decode cX5_letYearPass 87 = .ok (.goto (-21), 3) := by decide +kernel
theorem dX5_letYearPass_90 : decode cX5_letYearPass 90 = .ok (.iload_n 2, 1) := by decide +kernel
theorem dX5_letYearPass_91 : decode cX5_letYearPass 91 = .ok (.ireturn, 1) := by decide +kernel
theorem dX5_wetAround_0 : decode cX5_wetAround 0 = .ok (.iconst 0, 1) := by decide +kernel
theorem dX5_wetAround_1 : decode cX5_wetAround 1 = .ok (.istore_n 2, 1) := by decide +kernel
theorem dX5_wetAround_2 : decode cX5_wetAround 2 = .ok (.iconst 0, 1) := by decide +kernel
theorem dX5_wetAround_3 : decode cX5_wetAround 3 = .ok (.iload_n 1, 1) := by decide +kernel
theorem dX5_wetAround_4 : decode cX5_wetAround 4 = .ok (.iconst 1, 1) := by decide +kernel
theorem dX5_wetAround_5 : decode cX5_wetAround 5 = .ok (.isub, 1) := by decide +kernel
theorem dX5_wetAround_6 : decode cX5_wetAround 6 = .ok (.invokestatic 269, 3) := by decide +kernel
theorem dX5_wetAround_9 : decode cX5_wetAround 9 = .ok (.istore_n 3, 1) := by decide +kernel
theorem dX5_wetAround_10 : decode cX5_wetAround 10 = .ok (.iload_n 3, 1) := by decide +kernel
theorem dX5_wetAround_11 : decode cX5_wetAround 11 = .ok (.iload_n 1, 1) := by decide +kernel
theorem dX5_wetAround_12 : decode cX5_wetAround 12 = .ok (.iconst 1, 1) := by decide +kernel
theorem dX5_wetAround_13 : decode cX5_wetAround 13 = .ok (.iadd, 1) := by decide +kernel
theorem dX5_wetAround_14 : decode cX5_wetAround 14 = .ok (.if_icmp .gt 21, 3) := by decide +kernel
theorem dX5_wetAround_17 : decode cX5_wetAround 17 = .ok (.iload_n 3, 1) := by decide +kernel
theorem dX5_wetAround_18 : decode cX5_wetAround 18 = .ok (.aload_n 0, 1) := by decide +kernel
theorem dX5_wetAround_19 : decode cX5_wetAround 19 = .ok (.arraylength, 1) := by decide +kernel
theorem dX5_wetAround_20 : decode cX5_wetAround 20 = .ok (.if_icmp .ge 15, 3) := by decide +kernel
theorem dX5_wetAround_23 : decode cX5_wetAround 23 = .ok (.iload_n 2, 1) := by decide +kernel
theorem dX5_wetAround_24 : decode cX5_wetAround 24 = .ok (.aload_n 0, 1) := by decide +kernel
theorem dX5_wetAround_25 : decode cX5_wetAround 25 = .ok (.iload_n 3, 1) := by decide +kernel
theorem dX5_wetAround_26 : decode cX5_wetAround 26 = .ok (.iaload, 1) := by decide +kernel
theorem dX5_wetAround_27 : decode cX5_wetAround 27 = .ok (.iadd, 1) := by decide +kernel
theorem dX5_wetAround_28 : decode cX5_wetAround 28 = .ok (.istore_n 2, 1) := by decide +kernel
theorem dX5_wetAround_29 : decode cX5_wetAround 29 = .ok (.iinc 3 1, 3) := by decide +kernel
theorem dX5_wetAround_32 : decode cX5_wetAround 32 = .ok (.goto (-22), 3) := by decide +kernel
theorem dX5_wetAround_35 : decode cX5_wetAround 35 = .ok (.iload_n 2, 1) := by decide +kernel
theorem dX5_wetAround_36 : decode cX5_wetAround 36 = .ok (.ireturn, 1) := by decide +kernel
theorem dX5_firstSlide_0 : decode cX5_firstSlide 0 = .ok (.aload_n 0, 1) := by decide +kernel
theorem dX5_firstSlide_1 : decode cX5_firstSlide 1 = .ok (.iconst 0, 1) := by decide +kernel
theorem dX5_firstSlide_2 : decode cX5_firstSlide 2 = .ok (.invokevirtual 276, 3) := by decide +kernel
theorem dX5_firstSlide_5 : decode cX5_firstSlide 5 = .ok (.iconst 1, 1) := by decide +kernel
theorem dX5_firstSlide_6 : decode cX5_firstSlide 6 = .ok (.istore_n 2, 1) := by decide +kernel
theorem dX5_firstSlide_7 : decode cX5_firstSlide 7 = .ok (.iload_n 2, 1) := by decide +kernel
theorem dX5_firstSlide_8 : decode cX5_firstSlide 8 = .ok (.bipush 50, 2) := by decide +kernel
theorem dX5_firstSlide_10 : decode cX5_firstSlide 10 = .ok (.if_icmp .gt 26, 3) := by decide +kernel
theorem dX5_firstSlide_13 : decode cX5_firstSlide 13 = .ok (.aload_n 0, 1) := by decide +kernel
theorem dX5_firstSlide_14 : decode cX5_firstSlide 14 = .ok (.aload_n 0, 1) := by decide +kernel
theorem dX5_firstSlide_15 : decode cX5_firstSlide 15 = .ok (.getfield 49, 3) := by decide +kernel
theorem dX5_firstSlide_18 : decode cX5_firstSlide 18 = .ok (.invokevirtual 186, 3) := by decide +kernel
theorem dX5_firstSlide_21 : decode cX5_firstSlide 21 = .ok (.iload_n 1, 1) := by decide +kernel
theorem dX5_firstSlide_22 : decode cX5_firstSlide 22 = .ok (.invokestatic 193, 3) := by decide +kernel
theorem dX5_firstSlide_25 : decode cX5_firstSlide 25 = .ok (.ifCond .eq 5, 3) := by decide +kernel
theorem dX5_firstSlide_28 : decode cX5_firstSlide 28 = .ok (.iload_n 2, 1) := by decide +kernel
theorem dX5_firstSlide_29 : decode cX5_firstSlide 29 = .ok (.ireturn, 1) := by decide +kernel
theorem dX5_firstSlide_30 : decode cX5_firstSlide 30 = .ok (.iinc 2 1, 3) := by decide +kernel
theorem dX5_firstSlide_33 : decode cX5_firstSlide 33 = .ok (.goto (-26), 3) := by decide +kernel
theorem dX5_firstSlide_36 : decode cX5_firstSlide 36 = .ok (.bipush (-9), 2) := by decide +kernel
theorem dX5_firstSlide_38 : decode cX5_firstSlide 38 = .ok (.ireturn, 1) := by decide +kernel
theorem dX5_staysIfDry_0 : decode cX5_staysIfDry 0 = .ok (.aload_n 0, 1) := by decide +kernel
theorem dX5_staysIfDry_1 : decode cX5_staysIfDry 1 = .ok (.iload_n 1, 1) := by decide +kernel
theorem dX5_staysIfDry_2 : decode cX5_staysIfDry 2 = .ok (.invokevirtual 276, 3) := by decide +kernel
theorem dX5_staysIfDry_5 : decode cX5_staysIfDry 5 = .ok (.iconst 0, 1) := by decide +kernel
theorem dX5_staysIfDry_6 : decode cX5_staysIfDry 6 = .ok (.istore_n 3, 1) := by decide +kernel
theorem dX5_staysIfDry_7 : decode cX5_staysIfDry 7 = .ok (.iload_n 3, 1) := by decide +kernel
theorem dX5_staysIfDry_8 : decode cX5_staysIfDry 8 = .ok (.iload_n 2, 1) := by decide +kernel
theorem dX5_staysIfDry_9 : decode cX5_staysIfDry 9 = .ok (.if_icmp .ge 22, 3) := by decide +kernel
theorem dX5_staysIfDry_12 : decode cX5_staysIfDry 12 = .ok (.aload_n 0, 1) := by decide +kernel
theorem dX5_staysIfDry_13 : decode cX5_staysIfDry 13 = .ok (.aload_n 0, 1) := by decide +kernel
theorem dX5_staysIfDry_14 : decode cX5_staysIfDry 14 = .ok (.getfield 49, 3) := by decide +kernel
theorem dX5_staysIfDry_17 : decode cX5_staysIfDry 17 = .ok (.invokevirtual 186, 3) := by decide +kernel
theorem dX5_staysIfDry_20 : decode cX5_staysIfDry 20 = .ok (.ifCond .eq 5, 3) := by decide +kernel
theorem dX5_staysIfDry_23 : decode cX5_staysIfDry 23 = .ok (.iconst 0, 1) := by decide +kernel
theorem dX5_staysIfDry_24 : decode cX5_staysIfDry 24 = .ok (.ireturn, 1) := by decide +kernel
theorem dX5_staysIfDry_25 : decode cX5_staysIfDry 25 = .ok (.iinc 3 1, 3) := by decide +kernel
theorem dX5_staysIfDry_28 : decode cX5_staysIfDry 28 = .ok (.goto (-21), 3) := by decide +kernel
theorem dX5_staysIfDry_31 : decode cX5_staysIfDry 31 = .ok (.iconst 1, 1) := by decide +kernel
theorem dX5_staysIfDry_32 : decode cX5_staysIfDry 32 = .ok (.ireturn, 1) := by decide +kernel
theorem dX5_beginWetThen_0 : decode cX5_beginWetThen 0 = .ok (.iconst 0, 1) := by decide +kernel
theorem dX5_beginWetThen_1 : decode cX5_beginWetThen 1 = .ok (.istore_n 2, 1) := by decide +kernel
theorem dX5_beginWetThen_2 : decode cX5_beginWetThen 2 = .ok (.iload_n 2, 1) := by decide +kernel
theorem dX5_beginWetThen_3 : decode cX5_beginWetThen 3 = .ok (.bipush 6, 2) := by decide +kernel
theorem dX5_beginWetThen_5 : decode cX5_beginWetThen 5 = .ok (.if_icmp .ge 36, 3) := by decide +kernel
theorem dX5_beginWetThen_8 : decode cX5_beginWetThen 8 = .ok (.aload_n 0, 1) := by decide +kernel
theorem dX5_beginWetThen_9 : decode cX5_beginWetThen 9 = .ok (.getfield 49, 3) := by decide +kernel
theorem dX5_beginWetThen_12 : decode cX5_beginWetThen 12 = .ok (.iload_n 2, 1) := by decide +kernel
theorem dX5_beginWetThen_13 : decode cX5_beginWetThen 13 = .ok (.iload_n 1, 1) := by decide +kernel
theorem dX5_beginWetThen_14 : decode cX5_beginWetThen 14 = .ok (.iload_n 2, 1) := by decide +kernel
theorem dX5_beginWetThen_15 : decode cX5_beginWetThen 15 = .ok (.invokestatic 193, 3) := by decide +kernel
theorem dX5_beginWetThen_18 : decode cX5_beginWetThen 18 = .ok (.ifCond .eq 7, 3) := by decide +kernel
theorem dX5_beginWetThen_21 : decode cX5_beginWetThen 21 = .ok (.iconst 0, 1) := by decide +kernel
theorem dX5_beginWetThen_22 : decode cX5_beginWetThen 22 = .ok (.goto 12, 3) := by decide +kernel
theorem dX5_beginWetThen_25 : decode cX5_beginWetThen 25 = .ok (.aload_n 0, 1) := by decide +kernel
theorem dX5_beginWetThen_26 : decode cX5_beginWetThen 26 = .ok (.getfield 26, 3) := by decide +kernel
theorem dX5_beginWetThen_29 : decode cX5_beginWetThen 29 = .ok (.getfield 140, 3) := by decide +kernel
theorem dX5_beginWetThen_32 : decode cX5_beginWetThen 32 = .ok (.iload_n 2, 1) := by decide +kernel
theorem dX5_beginWetThen_33 : decode cX5_beginWetThen 33 = .ok (.iaload, 1) := by decide +kernel
theorem dX5_beginWetThen_34 : decode cX5_beginWetThen 34 = .ok (.iastore, 1) := by decide +kernel
theorem dX5_beginWetThen_35 : decode cX5_beginWetThen 35 = .ok (.iinc 2 1, 3) := by decide +kernel
theorem dX5_beginWetThen_38 : decode cX5_beginWetThen 38 = .ok (.goto (-36), 3) := by decide +kernel
theorem dX5_beginWetThen_41 : decode cX5_beginWetThen 41 = .ok (.return_, 1) := by decide +kernel
theorem dX5_bestKept_0 : decode cX5_bestKept 0 = .ok (.aload_n 0, 1) := by decide +kernel
theorem dX5_bestKept_1 : decode cX5_bestKept 1 = .ok (.iconst 2, 1) := by decide +kernel
theorem dX5_bestKept_2 : decode cX5_bestKept 2 = .ok (.invokevirtual 153, 3) := by decide +kernel
theorem dX5_bestKept_5 : decode cX5_bestKept 5 = .ok (.istore_n 1, 1) := by decide +kernel
theorem dX5_bestKept_6 : decode cX5_bestKept 6 = .ok (.iconst 0, 1) := by decide +kernel
theorem dX5_bestKept_7 : decode cX5_bestKept 7 = .ok (.istore_n 2, 1) := by decide +kernel
theorem dX5_bestKept_8 : decode cX5_bestKept 8 = .ok (.iconst 0, 1) := by decide +kernel
theorem dX5_bestKept_9 : decode cX5_bestKept 9 = .ok (.istore_n 3, 1) := by decide +kernel
theorem dX5_bestKept_10 : decode cX5_bestKept 10 = .ok (.iload_n 3, 1) := by decide +kernel
theorem dX5_bestKept_11 : decode cX5_bestKept 11 = .ok (.bipush 8, 2) := by decide +kernel
theorem dX5_bestKept_13 : decode cX5_bestKept 13 = .ok (.if_icmp .ge 24, 3) := by decide +kernel
theorem dX5_bestKept_16 : decode cX5_bestKept 16 = .ok (.aload_n 0, 1) := by decide +kernel
theorem dX5_bestKept_17 : decode cX5_bestKept 17 = .ok (.iload_n 3, 1) := by decide +kernel
theorem dX5_bestKept_18 : decode cX5_bestKept 18 = .ok (.iload_n 1, 1) := by decide +kernel
theorem dX5_bestKept_19 : decode cX5_bestKept 19 = .ok (.invokevirtual 178, 3) := by decide +kernel
theorem dX5_bestKept_22 : decode cX5_bestKept 22 = .ok (.ifCond .eq 9, 3) := by decide +kernel
theorem dX5_bestKept_25 : decode cX5_bestKept 25 = .ok (.iload_n 2, 1) := by decide +kernel
theorem dX5_bestKept_26 : decode cX5_bestKept 26 = .ok (.iconst 1, 1) := by decide +kernel
theorem dX5_bestKept_27 : decode cX5_bestKept 27 = .ok (.iload_n 3, 1) := by decide +kernel
theorem dX5_bestKept_28 : decode cX5_bestKept 28 = .ok (.ishl, 1) := by decide +kernel
theorem dX5_bestKept_29 : decode cX5_bestKept 29 = .ok (.ior, 1) := by decide +kernel
theorem dX5_bestKept_30 : decode cX5_bestKept 30 = .ok (.istore_n 2, 1) := by decide +kernel
theorem dX5_bestKept_31 : decode cX5_bestKept 31 = .ok (.iinc 3 1, 3) := by decide +kernel
theorem dX5_bestKept_34 : decode cX5_bestKept 34 = .ok (.goto (-24), 3) := by decide +kernel
theorem dX5_bestKept_37 : decode cX5_bestKept 37 = .ok (.iconst 0, 1) := by decide +kernel
theorem dX5_bestKept_38 : decode cX5_bestKept 38 = .ok (.istore_n 3, 1) := by decide +kernel
theorem dX5_bestKept_39 : decode cX5_bestKept 39 = .ok (.iconst 0, 1) := by decide +kernel
theorem dX5_bestKept_40 : decode cX5_bestKept 40 = .ok (.istore 4, 2) := by decide +kernel
theorem dX5_bestKept_42 : decode cX5_bestKept 42 = .ok (.iconst 0, 1) := by decide +kernel
theorem dX5_bestKept_43 : decode cX5_bestKept 43 = .ok (.istore 5, 2) := by decide +kernel
theorem dX5_bestKept_45 : decode cX5_bestKept 45 = .ok (.iload 5, 2) := by decide +kernel
theorem dX5_bestKept_47 : decode cX5_bestKept 47 = .ok (.sipush 256, 3) := by decide +kernel
theorem dX5_bestKept_50 : decode cX5_bestKept 50 = .ok (.if_icmp .ge 49, 3) := by decide +kernel
theorem dX5_bestKept_53 : decode cX5_bestKept 53 = .ok (.iload 5, 2) := by decide +kernel
theorem dX5_bestKept_55 : decode cX5_bestKept 55 = .ok (.iload_n 2, 1) := by decide +kernel
theorem dX5_bestKept_56 : decode cX5_bestKept 56 = .ok (.iconst (-1), 1) := by decide +kernel
theorem dX5_bestKept_57 : decode cX5_bestKept 57 = .ok (.ixor, 1) := by decide +kernel
theorem dX5_bestKept_58 : decode cX5_bestKept 58 = .ok (.iand, 1) := by decide +kernel
theorem dX5_bestKept_59 : decode cX5_bestKept 59 = .ok (.ifCond .ne 34, 3) := by decide +kernel
theorem dX5_bestKept_62 : decode cX5_bestKept 62 = .ok (.aload_n 0, 1) := by decide +kernel
theorem dX5_bestKept_63 : decode cX5_bestKept 63 = .ok (.iload 5, 2) := by decide +kernel
theorem dX5_bestKept_65 : decode cX5_bestKept 65 = .ok (.invokevirtual 280, 3) := by decide +kernel
theorem dX5_bestKept_68 : decode cX5_bestKept 68 = .ok (.ifCond .ne 25, 3) := by decide +kernel
theorem dX5_bestKept_71 : decode cX5_bestKept 71 = .ok (.aload_n 0, 1) := by decide +kernel
theorem dX5_bestKept_72 : decode cX5_bestKept 72 = .ok (.iload 5, 2) := by decide +kernel
theorem dX5_bestKept_74 : decode cX5_bestKept 74 = .ok (.invokevirtual 212, 3) := by decide +kernel
theorem dX5_bestKept_77 : decode cX5_bestKept 77 = .ok (.iload 4, 2) := by decide +kernel
theorem dX5_bestKept_79 : decode cX5_bestKept 79 = .ok (.if_icmp .le 14, 3) := by decide +kernel
theorem dX5_bestKept_82 : decode cX5_bestKept 82 = .ok (.iload 5, 2) := by decide +kernel
theorem dX5_bestKept_84 : decode cX5_bestKept 84 = .ok (.istore_n 3, 1) := by decide +kernel
theorem dX5_bestKept_85 : decode cX5_bestKept 85 = .ok (.aload_n 0, 1) := by decide +kernel
theorem dX5_bestKept_86 : decode cX5_bestKept 86 = .ok (.iload 5, 2) := by decide +kernel
theorem dX5_bestKept_88 : decode cX5_bestKept 88 = .ok (.invokevirtual 212, 3) := by decide +kernel
theorem dX5_bestKept_91 : decode cX5_bestKept 91 = .ok (.istore 4, 2) := by decide +kernel
theorem dX5_bestKept_93 : decode cX5_bestKept 93 = .ok (.iinc 5 1, 3) := by decide +kernel
theorem dX5_bestKept_96 : decode cX5_bestKept 96 = .ok (.goto (-51), 3) := by decide +kernel
theorem dX5_bestKept_99 : decode cX5_bestKept 99 = .ok (.iload_n 3, 1) := by decide +kernel
theorem dX5_bestKept_100 : decode cX5_bestKept 100 = .ok (.ireturn, 1) := by decide +kernel
theorem dX5_clashesWithin_0 : decode cX5_clashesWithin 0 = .ok (.iconst 0, 1) := by decide +kernel
theorem dX5_clashesWithin_1 : decode cX5_clashesWithin 1 = .ok (.istore_n 2, 1) := by decide +kernel
theorem dX5_clashesWithin_2 : decode cX5_clashesWithin 2 = .ok (.iload_n 2, 1) := by decide +kernel
theorem dX5_clashesWithin_3 : decode cX5_clashesWithin 3 = .ok (.bipush 8, 2) := by decide +kernel
theorem dX5_clashesWithin_5 : decode cX5_clashesWithin 5 = .ok (.if_icmp .ge 33, 3) := by decide +kernel
theorem dX5_clashesWithin_8 : decode cX5_clashesWithin 8 = .ok (.iload_n 1, 1) := by decide +kernel
theorem dX5_clashesWithin_9 : decode cX5_clashesWithin 9 = .ok (.iload_n 2, 1) := by decide +kernel
theorem dX5_clashesWithin_10 : decode cX5_clashesWithin 10 = .ok (.invokestatic 193, 3) := by decide +kernel
theorem dX5_clashesWithin_13 : decode cX5_clashesWithin 13 = .ok (.ifCond .eq 19, 3) := by decide +kernel
theorem dX5_clashesWithin_16 : decode cX5_clashesWithin 16 = .ok (.aload_n 0, 1) := by decide +kernel
theorem dX5_clashesWithin_17 : decode cX5_clashesWithin 17 = .ok (.getfield 19, 3) := by decide +kernel
theorem dX5_clashesWithin_20 : decode cX5_clashesWithin 20 = .ok (.getfield 121, 3) := by decide +kernel
theorem dX5_clashesWithin_23 : decode cX5_clashesWithin 23 = .ok (.iload_n 2, 1) := by decide +kernel
theorem dX5_clashesWithin_24 : decode cX5_clashesWithin 24 = .ok (.iaload, 1) := by decide +kernel
theorem dX5_clashesWithin_25 : decode cX5_clashesWithin 25 = .ok (.iload_n 1, 1) := by decide +kernel
theorem dX5_clashesWithin_26 : decode cX5_clashesWithin 26 = .ok (.iand, 1) := by decide +kernel
theorem dX5_clashesWithin_27 : decode cX5_clashesWithin 27 = .ok (.ifCond .eq 5, 3) := by decide +kernel
theorem dX5_clashesWithin_30 : decode cX5_clashesWithin 30 = .ok (.iconst 1, 1) := by decide +kernel
theorem dX5_clashesWithin_31 : decode cX5_clashesWithin 31 = .ok (.ireturn, 1) := by decide +kernel
theorem dX5_clashesWithin_32 : decode cX5_clashesWithin 32 = .ok (.iinc 2 1, 3) := by decide +kernel
theorem dX5_clashesWithin_35 : decode cX5_clashesWithin 35 = .ok (.goto (-33), 3) := by decide +kernel
theorem dX5_clashesWithin_38 : decode cX5_clashesWithin 38 = .ok (.iconst 0, 1) := by decide +kernel
theorem dX5_clashesWithin_39 : decode cX5_clashesWithin 39 = .ok (.ireturn, 1) := by decide +kernel
theorem dX5_wordsLeftOf_0 : decode cX5_wordsLeftOf 0 = .ok (.iconst 0, 1) := by decide +kernel
theorem dX5_wordsLeftOf_1 : decode cX5_wordsLeftOf 1 = .ok (.istore_n 2, 1) := by decide +kernel
theorem dX5_wordsLeftOf_2 : decode cX5_wordsLeftOf 2 = .ok (.iconst 0, 1) := by decide +kernel
theorem dX5_wordsLeftOf_3 : decode cX5_wordsLeftOf 3 = .ok (.istore_n 3, 1) := by decide +kernel
theorem dX5_wordsLeftOf_4 : decode cX5_wordsLeftOf 4 = .ok (.iload_n 3, 1) := by decide +kernel
theorem dX5_wordsLeftOf_5 : decode cX5_wordsLeftOf 5 = .ok (.bipush 8, 2) := by decide +kernel
theorem dX5_wordsLeftOf_7 : decode cX5_wordsLeftOf 7 = .ok (.if_icmp .ge 26, 3) := by decide +kernel
theorem dX5_wordsLeftOf_10 : decode cX5_wordsLeftOf 10 = .ok (.iload_n 1, 1) := by decide +kernel
theorem dX5_wordsLeftOf_11 : decode cX5_wordsLeftOf 11 = .ok (.iload_n 3, 1) := by decide +kernel
theorem dX5_wordsLeftOf_12 : decode cX5_wordsLeftOf 12 = .ok (.invokestatic 193, 3) := by decide +kernel
theorem dX5_wordsLeftOf_15 : decode cX5_wordsLeftOf 15 = .ok (.ifCond .eq 12, 3) := by decide +kernel
theorem dX5_wordsLeftOf_18 : decode cX5_wordsLeftOf 18 = .ok (.iload_n 2, 1) := by decide +kernel
theorem dX5_wordsLeftOf_19 : decode cX5_wordsLeftOf 19 = .ok (.aload_n 0, 1) := by decide +kernel
theorem dX5_wordsLeftOf_20 : decode cX5_wordsLeftOf 20 = .ok (.iload_n 3, 1) := by decide +kernel
theorem dX5_wordsLeftOf_21 : decode cX5_wordsLeftOf 21 = .ok (.iconst 0, 1) := by decide +kernel
theorem dX5_wordsLeftOf_22 : decode cX5_wordsLeftOf 22 = .ok (.invokevirtual 127, 3) := by decide +kernel
theorem dX5_wordsLeftOf_25 : decode cX5_wordsLeftOf 25 = .ok (.iadd, 1) := by decide +kernel
theorem dX5_wordsLeftOf_26 : decode cX5_wordsLeftOf 26 = .ok (.istore_n 2, 1) := by decide +kernel
theorem dX5_wordsLeftOf_27 : decode cX5_wordsLeftOf 27 = .ok (.iinc 3 1, 3) := by decide +kernel
theorem dX5_wordsLeftOf_30 : decode cX5_wordsLeftOf 30 = .ok (.goto (-26), 3) := by decide +kernel
theorem dX5_wordsLeftOf_33 : decode cX5_wordsLeftOf 33 = .ok (.iload_n 2, 1) := by decide +kernel
theorem dX5_wordsLeftOf_34 : decode cX5_wordsLeftOf 34 = .ok (.ireturn, 1) := by decide +kernel
theorem dX5_bestOrdered_0 : decode cX5_bestOrdered 0 = .ok (.aload_n 0, 1) := by decide +kernel
theorem dX5_bestOrdered_1 : decode cX5_bestOrdered 1 = .ok (.iconst 1, 1) := by decide +kernel
theorem dX5_bestOrdered_2 : decode cX5_bestOrdered 2 = .ok (.invokevirtual 153, 3) := by decide +kernel
theorem dX5_bestOrdered_5 : decode cX5_bestOrdered 5 = .ok (.istore_n 1, 1) := by decide +kernel
theorem dX5_bestOrdered_6 : decode cX5_bestOrdered 6 = .ok (.iconst 0, 1) := by decide +kernel
theorem dX5_bestOrdered_7 : decode cX5_bestOrdered 7 = .ok (.istore_n 2, 1) := by decide +kernel
theorem dX5_bestOrdered_8 : decode cX5_bestOrdered 8 = .ok (.iconst 0, 1) := by decide +kernel
theorem dX5_bestOrdered_9 : decode cX5_bestOrdered 9 = .ok (.istore_n 3, 1) := by decide +kernel
theorem dX5_bestOrdered_10 : decode cX5_bestOrdered 10 = .ok (.iload_n 3, 1) := by decide +kernel
theorem dX5_bestOrdered_11 : decode cX5_bestOrdered 11 = .ok (.sipush 256, 3) := by decide +kernel
theorem dX5_bestOrdered_14 : decode cX5_bestOrdered 14 = .ok (.if_icmp .ge 38, 3) := by decide +kernel
theorem dX5_bestOrdered_17 : decode cX5_bestOrdered 17 = .ok (.iload_n 3, 1) := by decide +kernel
theorem dX5_bestOrdered_18 : decode cX5_bestOrdered 18 = .ok (.iload_n 1, 1) := by decide +kernel
theorem dX5_bestOrdered_19 : decode cX5_bestOrdered 19 = .ok (.iconst (-1), 1) := by decide +kernel
theorem dX5_bestOrdered_20 : decode cX5_bestOrdered 20 = .ok (.ixor, 1) := by decide +kernel
theorem dX5_bestOrdered_21 : decode cX5_bestOrdered 21 = .ok (.iand, 1) := by decide +kernel
theorem dX5_bestOrdered_22 : decode cX5_bestOrdered 22 = .ok (.ifCond .ne 24, 3) := by decide +kernel
theorem dX5_bestOrdered_25 : decode cX5_bestOrdered 25 = .ok (.iload_n 3, 1) := by decide +kernel
theorem dX5_bestOrdered_26 : decode cX5_bestOrdered 26 = .ok (.invokestatic 181, 3) := by decide +kernel
theorem dX5_bestOrdered_29 : decode cX5_bestOrdered 29 = .ok (.iload_n 2, 1) := by decide +kernel
theorem dX5_bestOrdered_30 : decode cX5_bestOrdered 30 = .ok (.invokestatic 181, 3) := by decide +kernel
theorem dX5_bestOrdered_33 : decode cX5_bestOrdered 33 = .ok (.if_icmp .le 13, 3) := by decide +kernel
theorem dX5_bestOrdered_36 : decode cX5_bestOrdered 36 = .ok (.aload_n 0, 1) := by decide +kernel
theorem dX5_bestOrdered_37 : decode cX5_bestOrdered 37 = .ok (.iload_n 3, 1) := by decide +kernel
theorem dX5_bestOrdered_38 : decode cX5_bestOrdered 38 = .ok (.invokevirtual 283, 3) := by decide +kernel
theorem dX5_bestOrdered_41 : decode cX5_bestOrdered 41 = .ok (.ifCond .eq 5, 3) := by decide +kernel
theorem dX5_bestOrdered_44 : decode cX5_bestOrdered 44 = .ok (.iload_n 3, 1) := by decide +kernel
theorem dX5_bestOrdered_45 : decode cX5_bestOrdered 45 = .ok (.istore_n 2, 1) := by decide +kernel
theorem dX5_bestOrdered_46 : decode cX5_bestOrdered 46 = .ok (.iinc 3 1, 3) := by decide +kernel
theorem dX5_bestOrdered_49 : decode cX5_bestOrdered 49 = .ok (.goto (-39), 3) := by decide +kernel
theorem dX5_bestOrdered_52 : decode cX5_bestOrdered 52 = .ok (.iload_n 2, 1) := by decide +kernel
theorem dX5_bestOrdered_53 : decode cX5_bestOrdered 53 = .ok (.ireturn, 1) := by decide +kernel
theorem dX5_endsByDue_0 : decode cX5_endsByDue 0 = .ok (.aload_n 0, 1) := by decide +kernel
theorem dX5_endsByDue_1 : decode cX5_endsByDue 1 = .ok (.getfield 26, 3) := by decide +kernel
theorem dX5_endsByDue_4 : decode cX5_endsByDue 4 = .ok (.getfield 150, 3) := by decide +kernel
theorem dX5_endsByDue_7 : decode cX5_endsByDue 7 = .ok (.istore_n 2, 1) := by decide +kernel
theorem dX5_endsByDue_8 : decode cX5_endsByDue 8 = .ok (.iload_n 1, 1) := by decide +kernel
theorem dX5_endsByDue_9 : decode cX5_endsByDue 9 = .ok (.istore_n 3, 1) := by decide +kernel
theorem dX5_endsByDue_10 : decode cX5_endsByDue 10 = .ok (.iconst 0, 1) := by decide +kernel
theorem dX5_endsByDue_11 : decode cX5_endsByDue 11 = .ok (.istore 4, 2) := by decide +kernel
theorem dX5_endsByDue_13 : decode cX5_endsByDue 13 = .ok (.iload 4, 2) := by decide +kernel
theorem dX5_endsByDue_15 : decode cX5_endsByDue 15 = .ok (.bipush 8, 2) := by decide +kernel
theorem dX5_endsByDue_17 : decode cX5_endsByDue 17 = .ok (.if_icmp .ge 66, 3) := by decide +kernel
theorem dX5_endsByDue_20 : decode cX5_endsByDue 20 = .ok (.aload_n 0, 1) := by decide +kernel
theorem dX5_endsByDue_21 : decode cX5_endsByDue 21 = .ok (.iload_n 3, 1) := by decide +kernel
theorem dX5_endsByDue_22 : decode cX5_endsByDue 22 = .ok (.invokevirtual 218, 3) := by decide +kernel
theorem dX5_endsByDue_25 : decode cX5_endsByDue 25 = .ok (.istore 5, 2) := by decide +kernel
theorem dX5_endsByDue_27 : decode cX5_endsByDue 27 = .ok (.aload_n 0, 1) := by decide +kernel
theorem dX5_endsByDue_28 : decode cX5_endsByDue 28 = .ok (.getfield 19, 3) := by decide +kernel
theorem dX5_endsByDue_31 : decode cX5_endsByDue 31 = .ok (.iload 5, 2) := by decide +kernel
theorem dX5_endsByDue_33 : decode cX5_endsByDue 33 = .ok (.invokevirtual 100, 3) := by decide +kernel
theorem dX5_endsByDue_36 : decode cX5_endsByDue 36 = .ok (.ifCond .ne 5, 3) := by decide +kernel
theorem dX5_endsByDue_39 : decode cX5_endsByDue 39 = .ok (.iconst 1, 1) := by decide +kernel
theorem dX5_endsByDue_40 : decode cX5_endsByDue 40 = .ok (.ireturn, 1) := by decide +kernel
theorem dX5_endsByDue_41 : decode cX5_endsByDue 41 = .ok (.iload_n 2, 1) := by decide +kernel
theorem dX5_endsByDue_42 : decode cX5_endsByDue 42 = .ok (.aload_n 0, 1) := by decide +kernel
theorem dX5_endsByDue_43 : decode cX5_endsByDue 43 = .ok (.getfield 19, 3) := by decide +kernel
theorem dX5_endsByDue_46 : decode cX5_endsByDue 46 = .ok (.getfield 112, 3) := by decide +kernel
theorem dX5_endsByDue_49 : decode cX5_endsByDue 49 = .ok (.iload 5, 2) := by decide +kernel
theorem dX5_endsByDue_51 : decode cX5_endsByDue 51 = .ok (.iaload, 1) := by decide +kernel
theorem dX5_endsByDue_52 : decode cX5_endsByDue 52 = .ok (.iadd, 1) := by decide +kernel
theorem dX5_endsByDue_53 : decode cX5_endsByDue 53 = .ok (.istore_n 2, 1) := by decide +kernel
theorem dX5_endsByDue_54 : decode cX5_endsByDue 54 = .ok (.iload_n 2, 1) := by decide +kernel
theorem dX5_endsByDue_55 : decode cX5_endsByDue 55 = .ok (.aload_n 0, 1) := by decide +kernel
theorem dX5_endsByDue_56 : decode cX5_endsByDue 56 = .ok (.getfield 19, 3) := by decide +kernel
theorem dX5_endsByDue_59 : decode cX5_endsByDue 59 = .ok (.getfield 115, 3) := by decide +kernel
theorem dX5_endsByDue_62 : decode cX5_endsByDue 62 = .ok (.iload 5, 2) := by decide +kernel
theorem dX5_endsByDue_64 : decode cX5_endsByDue 64 = .ok (.iaload, 1) := by decide +kernel
theorem dX5_endsByDue_65 : decode cX5_endsByDue 65 = .ok (.if_icmp .le 5, 3) := by decide +kernel
theorem dX5_endsByDue_68 : decode cX5_endsByDue 68 = .ok (.iconst 0, 1) := by decide +kernel
theorem dX5_endsByDue_69 : decode cX5_endsByDue 69 = .ok (.ireturn, 1) := by decide +kernel
theorem dX5_endsByDue_70 : decode cX5_endsByDue 70 = .ok (.iload_n 3, 1) := by decide +kernel
theorem dX5_endsByDue_71 : decode cX5_endsByDue 71 = .ok (.iload 5, 2) := by decide +kernel
theorem dX5_endsByDue_73 : decode cX5_endsByDue 73 = .ok (.invokestatic 221, 3) := by decide +kernel
theorem dX5_endsByDue_76 : decode cX5_endsByDue 76 = .ok (.istore_n 3, 1) := by decide +kernel
theorem dX5_endsByDue_77 : decode cX5_endsByDue 77 = .ok (.iinc 4 1, 3) := by decide +kernel
theorem dX5_endsByDue_80 : decode cX5_endsByDue 80 = .ok (.goto (-67), 3) := by decide +kernel
theorem dX5_endsByDue_83 : decode cX5_endsByDue 83 = .ok (.iconst 1, 1) := by decide +kernel
theorem dX5_endsByDue_84 : decode cX5_endsByDue 84 = .ok (.ireturn, 1) := by decide +kernel
theorem dX5_earliestDue_0 : decode cX5_earliestDue 0 = .ok (.bipush (-9), 2) := by decide +kernel
theorem dX5_earliestDue_2 : decode cX5_earliestDue 2 = .ok (.istore_n 2, 1) := by decide +kernel
theorem dX5_earliestDue_3 : decode cX5_earliestDue 3 = .ok (.bipush 100, 2) := by decide +kernel
theorem dX5_earliestDue_5 : decode cX5_earliestDue 5 = .ok (.istore_n 3, 1) := by decide +kernel
theorem dX5_earliestDue_6 : decode cX5_earliestDue 6 = .ok (.iconst 0, 1) := by decide +kernel
theorem dX5_earliestDue_7 : decode cX5_earliestDue 7 = .ok (.istore 4, 2) := by decide +kernel
theorem dX5_earliestDue_9 : decode cX5_earliestDue 9 = .ok (.iload 4, 2) := by decide +kernel
theorem dX5_earliestDue_11 : decode cX5_earliestDue 11 = .ok (.bipush 8, 2) := by decide +kernel
theorem dX5_earliestDue_13 : decode cX5_earliestDue 13 = .ok (.if_icmp .ge 46, 3) := by decide +kernel
theorem dX5_earliestDue_16 : decode cX5_earliestDue 16 = .ok (.iload_n 1, 1) := by decide +kernel
theorem dX5_earliestDue_17 : decode cX5_earliestDue 17 = .ok (.iload 4, 2) := by decide +kernel
theorem dX5_earliestDue_19 : decode cX5_earliestDue 19 = .ok (.invokestatic 193, 3) := by decide +kernel
theorem dX5_earliestDue_22 : decode cX5_earliestDue 22 = .ok (.ifCond .eq 31, 3) := by decide +kernel
theorem dX5_earliestDue_25 : decode cX5_earliestDue 25 = .ok (.aload_n 0, 1) := by decide +kernel
theorem dX5_earliestDue_26 : decode cX5_earliestDue 26 = .ok (.getfield 19, 3) := by decide +kernel
theorem dX5_earliestDue_29 : decode cX5_earliestDue 29 = .ok (.getfield 115, 3) := by decide +kernel
theorem dX5_earliestDue_32 : decode cX5_earliestDue 32 = .ok (.iload 4, 2) := by decide +kernel
theorem dX5_earliestDue_34 : decode cX5_earliestDue 34 = .ok (.iaload, 1) := by decide +kernel
theorem dX5_earliestDue_35 : decode cX5_earliestDue 35 = .ok (.iload_n 3, 1) := by decide +kernel
theorem dX5_earliestDue_36 : decode cX5_earliestDue 36 = .ok (.if_icmp .ge 17, 3) := by decide +kernel
theorem dX5_earliestDue_39 : decode cX5_earliestDue 39 = .ok (.iload 4, 2) := by decide +kernel
theorem dX5_earliestDue_41 : decode cX5_earliestDue 41 = .ok (.istore_n 2, 1) := by decide +kernel
theorem dX5_earliestDue_42 : decode cX5_earliestDue 42 = .ok (.aload_n 0, 1) := by decide +kernel
theorem dX5_earliestDue_43 : decode cX5_earliestDue 43 = .ok (.getfield 19, 3) := by decide +kernel
theorem dX5_earliestDue_46 : decode cX5_earliestDue 46 = .ok (.getfield 115, 3) := by decide +kernel
theorem dX5_earliestDue_49 : decode cX5_earliestDue 49 = .ok (.iload 4, 2) := by decide +kernel
theorem dX5_earliestDue_51 : decode cX5_earliestDue 51 = .ok (.iaload, 1) := by decide +kernel
theorem dX5_earliestDue_52 : decode cX5_earliestDue 52 = .ok (.istore_n 3, 1) := by decide +kernel
theorem dX5_earliestDue_53 : decode cX5_earliestDue 53 = .ok (.iinc 4 1, 3) := by decide +kernel
theorem dX5_earliestDue_56 : decode cX5_earliestDue 56 = .ok (.goto (-47), 3) := by decide +kernel
theorem dX5_earliestDue_59 : decode cX5_earliestDue 59 = .ok (.iload_n 2, 1) := by decide +kernel
theorem dX5_earliestDue_60 : decode cX5_earliestDue 60 = .ok (.ireturn, 1) := by decide +kernel
theorem dX5_choices_0 : decode cX5_choices 0 = .ok (.iconst 1, 1) := by decide +kernel
theorem dX5_choices_1 : decode cX5_choices 1 = .ok (.istore_n 2, 1) := by decide +kernel
theorem dX5_choices_2 : decode cX5_choices 2 = .ok (.iconst 1, 1) := by decide +kernel
theorem dX5_choices_3 : decode cX5_choices 3 = .ok (.istore_n 3, 1) := by decide +kernel
theorem dX5_choices_4 : decode cX5_choices 4 = .ok (.iload_n 3, 1) := by decide +kernel
theorem dX5_choices_5 : decode cX5_choices 5 = .ok (.iload_n 1, 1) := by decide +kernel
theorem dX5_choices_6 : decode cX5_choices 6 = .ok (.if_icmp .gt 19, 3) := by decide +kernel
theorem dX5_choices_9 : decode cX5_choices 9 = .ok (.iload_n 2, 1) := by decide +kernel
theorem dX5_choices_10 : decode cX5_choices 10 = .ok (.iload_n 0, 1) := by decide +kernel
theorem dX5_choices_11 : decode cX5_choices 11 = .ok (.iload_n 3, 1) := by decide +kernel
theorem dX5_choices_12 : decode cX5_choices 12 = .ok (.isub, 1) := by decide +kernel
theorem dX5_choices_13 : decode cX5_choices 13 = .ok (.iconst 1, 1) := by decide +kernel
theorem dX5_choices_14 : decode cX5_choices 14 = .ok (.iadd, 1) := by decide +kernel
theorem dX5_choices_15 : decode cX5_choices 15 = .ok (.imul, 1) := by decide +kernel
theorem dX5_choices_16 : decode cX5_choices 16 = .ok (.iload_n 3, 1) := by decide +kernel
theorem dX5_choices_17 : decode cX5_choices 17 = .ok (.idiv, 1) := by decide +kernel
theorem dX5_choices_18 : decode cX5_choices 18 = .ok (.istore_n 2, 1) := by decide +kernel
theorem dX5_choices_19 : decode cX5_choices 19 = .ok (.iinc 3 1, 3) := by decide +kernel
theorem dX5_choices_22 : decode cX5_choices 22 = .ok (.goto (-18), 3) := by decide +kernel
theorem dX5_choices_25 : decode cX5_choices 25 = .ok (.iload_n 2, 1) := by decide +kernel
theorem dX5_choices_26 : decode cX5_choices 26 = .ok (.ireturn, 1) := by decide +kernel
theorem dX5_power_0 : decode cX5_power 0 = .ok (.iconst 1, 1) := by decide +kernel
theorem dX5_power_1 : decode cX5_power 1 = .ok (.istore_n 2, 1) := by decide +kernel
theorem dX5_power_2 : decode cX5_power 2 = .ok (.iconst 0, 1) := by decide +kernel
theorem dX5_power_3 : decode cX5_power 3 = .ok (.istore_n 3, 1) := by decide +kernel
theorem dX5_power_4 : decode cX5_power 4 = .ok (.iload_n 3, 1) := by decide +kernel
theorem dX5_power_5 : decode cX5_power 5 = .ok (.iload_n 1, 1) := by decide +kernel
theorem dX5_power_6 : decode cX5_power 6 = .ok (.if_icmp .ge 13, 3) := by decide +kernel
theorem dX5_power_9 : decode cX5_power 9 = .ok (.iload_n 2, 1) := by decide +kernel
theorem dX5_power_10 : decode cX5_power 10 = .ok (.iload_n 0, 1) := by decide +kernel
theorem dX5_power_11 : decode cX5_power 11 = .ok (.imul, 1) := by decide +kernel
theorem dX5_power_12 : decode cX5_power 12 = .ok (.istore_n 2, 1) := by decide +kernel
theorem dX5_power_13 : decode cX5_power 13 = .ok (.iinc 3 1, 3) := by decide +kernel
theorem dX5_power_16 : decode cX5_power 16 = .ok (.goto (-12), 3) := by decide +kernel
theorem dX5_power_19 : decode cX5_power 19 = .ok (.iload_n 2, 1) := by decide +kernel
theorem dX5_power_20 : decode cX5_power 20 = .ok (.ireturn, 1) := by decide +kernel
theorem dX5_commonDivisor_0 : decode cX5_commonDivisor 0 = .ok (.iload_n 0, 1) := by decide +kernel
theorem dX5_commonDivisor_1 : decode cX5_commonDivisor 1 = .ok (.istore_n 2, 1) := by decide +kernel
theorem dX5_commonDivisor_2 : decode cX5_commonDivisor 2 = .ok (.iload_n 1, 1) := by decide +kernel
theorem dX5_commonDivisor_3 : decode cX5_commonDivisor 3 = .ok (.istore_n 3, 1) := by decide +kernel
theorem dX5_commonDivisor_4 : decode cX5_commonDivisor 4 = .ok (.iconst 0, 1) := by decide +kernel
theorem dX5_commonDivisor_5 : decode cX5_commonDivisor 5 = .ok (.istore 4, 2) := by decide +kernel
theorem dX5_commonDivisor_7 : decode cX5_commonDivisor 7 = .ok (.iload 4, 2) := by decide +kernel
theorem dX5_commonDivisor_9 : decode cX5_commonDivisor 9 = .ok (.bipush 64, 2) := by decide +kernel
theorem dX5_commonDivisor_11 : decode cX5_commonDivisor 11 = .ok (.if_icmp .ge 23, 3) := by decide +kernel
theorem dX5_commonDivisor_14 : decode cX5_commonDivisor 14 = .ok (.iload_n 3, 1) := by decide +kernel
theorem dX5_commonDivisor_15 : decode cX5_commonDivisor 15 = .ok (.ifCond .eq 19, 3) := by decide +kernel
theorem dX5_commonDivisor_18 : decode cX5_commonDivisor 18 = .ok (.iload_n 2, 1) := by decide +kernel
theorem dX5_commonDivisor_19 : decode cX5_commonDivisor 19 = .ok (.iload_n 3, 1) := by decide +kernel
theorem dX5_commonDivisor_20 : decode cX5_commonDivisor 20 = .ok (.irem, 1) := by decide +kernel
theorem dX5_commonDivisor_21 : decode cX5_commonDivisor 21 = .ok (.istore 5, 2) := by decide +kernel
theorem dX5_commonDivisor_23 : decode cX5_commonDivisor 23 = .ok (.iload_n 3, 1) := by decide +kernel
theorem dX5_commonDivisor_24 : decode cX5_commonDivisor 24 = .ok (.istore_n 2, 1) := by decide +kernel
theorem dX5_commonDivisor_25 : decode cX5_commonDivisor 25 = .ok (.iload 5, 2) := by decide +kernel
theorem dX5_commonDivisor_27 : decode cX5_commonDivisor 27 = .ok (.istore_n 3, 1) := by decide +kernel
theorem dX5_commonDivisor_28 : decode cX5_commonDivisor 28 = .ok (.iinc 4 1, 3) := by decide +kernel
theorem dX5_commonDivisor_31 : decode cX5_commonDivisor 31 = .ok (.goto (-24), 3) := by decide +kernel
theorem dX5_commonDivisor_34 : decode cX5_commonDivisor 34 = .ok (.iload_n 2, 1) := by decide +kernel
theorem dX5_commonDivisor_35 : decode cX5_commonDivisor 35 = .ok (.ireturn, 1) := by decide +kernel
theorem dX5_asWord_0 : decode cX5_asWord 0 = .ok (.aload_n 0, 1) := by decide +kernel
theorem dX5_asWord_1 : decode cX5_asWord 1 = .ok (.dup, 1) := by decide +kernel
theorem dX5_asWord_2 : decode cX5_asWord 2 = .ok (.getfield 59, 3) := by decide +kernel
theorem dX5_asWord_5 : decode cX5_asWord 5 = .ok (.lconst 1, 1) := by decide +kernel
theorem dX5_asWord_6 : decode cX5_asWord 6 = .ok (.ladd, 1) := by decide +kernel
theorem dX5_asWord_7 : decode cX5_asWord 7 = .ok (.putfield 59, 3) := by decide +kernel
theorem dX5_asWord_10 : decode cX5_asWord 10 = .ok (.aload_n 0, 1) := by decide +kernel
theorem dX5_asWord_11 : decode cX5_asWord 11 = .ok (.iload_n 1, 1) := by decide +kernel
theorem dX5_asWord_12 : decode cX5_asWord 12 = .ok (.iconst 0, 1) := by decide +kernel
theorem dX5_asWord_13 : decode cX5_asWord 13 = .ok (.invokevirtual 127, 3) := by decide +kernel
theorem dX5_asWord_16 : decode cX5_asWord 16 = .ok (.ireturn, 1) := by decide +kernel
theorem dX5_asVow_0 : decode cX5_asVow 0 = .ok (.aload_n 0, 1) := by decide +kernel
theorem dX5_asVow_1 : decode cX5_asVow 1 = .ok (.dup, 1) := by decide +kernel
theorem dX5_asVow_2 : decode cX5_asVow 2 = .ok (.getfield 59, 3) := by decide +kernel
theorem dX5_asVow_5 : decode cX5_asVow 5 = .ok (.ldc2_w 286, 3) := by decide +kernel
theorem dX5_asVow_8 : decode cX5_asVow 8 = .ok (.ladd, 1) := by decide +kernel
theorem dX5_asVow_9 : decode cX5_asVow 9 = .ok (.putfield 59, 3) := by decide +kernel
theorem dX5_asVow_12 : decode cX5_asVow 12 = .ok (.aload_n 0, 1) := by decide +kernel
theorem dX5_asVow_13 : decode cX5_asVow 13 = .ok (.iload_n 1, 1) := by decide +kernel
theorem dX5_asVow_14 : decode cX5_asVow 14 = .ok (.invokevirtual 237, 3) := by decide +kernel
theorem dX5_asVow_17 : decode cX5_asVow 17 = .ok (.aload_n 0, 1) := by decide +kernel
theorem dX5_asVow_18 : decode cX5_asVow 18 = .ok (.getfield 19, 3) := by decide +kernel
theorem dX5_asVow_21 : decode cX5_asVow 21 = .ok (.getfield 109, 3) := by decide +kernel
theorem dX5_asVow_24 : decode cX5_asVow 24 = .ok (.iload_n 1, 1) := by decide +kernel
theorem dX5_asVow_25 : decode cX5_asVow 25 = .ok (.iaload, 1) := by decide +kernel
theorem dX5_asVow_26 : decode cX5_asVow 26 = .ok (.iadd, 1) := by decide +kernel
theorem dX5_asVow_27 : decode cX5_asVow 27 = .ok (.ireturn, 1) := by decide +kernel
theorem dX5_asLoan_0 : decode cX5_asLoan 0 = .ok (.aload_n 0, 1) := by decide +kernel
theorem dX5_asLoan_1 : decode cX5_asLoan 1 = .ok (.dup, 1) := by decide +kernel
theorem dX5_asLoan_2 : decode cX5_asLoan 2 = .ok (.getfield 59, 3) := by decide +kernel
theorem dX5_asLoan_5 : decode cX5_asLoan 5 = .ok (.ldc2_w 288, 3) := by decide +kernel
theorem dX5_asLoan_8 : decode cX5_asLoan 8 = .ok (.ladd, 1) := by decide +kernel
theorem dX5_asLoan_9 : decode cX5_asLoan 9 = .ok (.putfield 59, 3) := by decide +kernel
theorem dX5_asLoan_12 : decode cX5_asLoan 12 = .ok (.aload_n 0, 1) := by decide +kernel
theorem dX5_asLoan_13 : decode cX5_asLoan 13 = .ok (.iload_n 1, 1) := by decide +kernel
theorem dX5_asLoan_14 : decode cX5_asLoan 14 = .ok (.invokevirtual 237, 3) := by decide +kernel
theorem dX5_asLoan_17 : decode cX5_asLoan 17 = .ok (.aload_n 0, 1) := by decide +kernel
theorem dX5_asLoan_18 : decode cX5_asLoan 18 = .ok (.getfield 19, 3) := by decide +kernel
theorem dX5_asLoan_21 : decode cX5_asLoan 21 = .ok (.getfield 112, 3) := by decide +kernel
theorem dX5_asLoan_24 : decode cX5_asLoan 24 = .ok (.iload_n 1, 1) := by decide +kernel
theorem dX5_asLoan_25 : decode cX5_asLoan 25 = .ok (.iaload, 1) := by decide +kernel
theorem dX5_asLoan_26 : decode cX5_asLoan 26 = .ok (.isub, 1) := by decide +kernel
theorem dX5_asLoan_27 : decode cX5_asLoan 27 = .ok (.ireturn, 1) := by decide +kernel
theorem dX5_asBride_0 : decode cX5_asBride 0 = .ok (.aload_n 0, 1) := by decide +kernel
theorem dX5_asBride_1 : decode cX5_asBride 1 = .ok (.dup, 1) := by decide +kernel
theorem dX5_asBride_2 : decode cX5_asBride 2 = .ok (.getfield 59, 3) := by decide +kernel
theorem dX5_asBride_5 : decode cX5_asBride 5 = .ok (.ldc2_w 290, 3) := by decide +kernel
theorem dX5_asBride_8 : decode cX5_asBride 8 = .ok (.ladd, 1) := by decide +kernel
theorem dX5_asBride_9 : decode cX5_asBride 9 = .ok (.putfield 59, 3) := by decide +kernel
theorem dX5_asBride_12 : decode cX5_asBride 12 = .ok (.iconst 2, 1) := by decide +kernel
theorem dX5_asBride_13 : decode cX5_asBride 13 = .ok (.aload_n 0, 1) := by decide +kernel
theorem dX5_asBride_14 : decode cX5_asBride 14 = .ok (.iload_n 1, 1) := by decide +kernel
theorem dX5_asBride_15 : decode cX5_asBride 15 = .ok (.invokevirtual 240, 3) := by decide +kernel
theorem dX5_asBride_18 : decode cX5_asBride 18 = .ok (.imul, 1) := by decide +kernel
theorem dX5_asBride_19 : decode cX5_asBride 19 = .ok (.ireturn, 1) := by decide +kernel
theorem dX5_asOak_0 : decode cX5_asOak 0 = .ok (.aload_n 0, 1) := by decide +kernel
theorem dX5_asOak_1 : decode cX5_asOak 1 = .ok (.dup, 1) := by decide +kernel
theorem dX5_asOak_2 : decode cX5_asOak 2 = .ok (.getfield 59, 3) := by decide +kernel
theorem dX5_asOak_5 : decode cX5_asOak 5 = .ok (.ldc2_w 292, 3) := by decide +kernel
theorem dX5_asOak_8 : decode cX5_asOak 8 = .ok (.ladd, 1) := by decide +kernel
theorem dX5_asOak_9 : decode cX5_asOak 9 = .ok (.putfield 59, 3) := by decide +kernel
theorem dX5_asOak_12 : decode cX5_asOak 12 = .ok (.aload_n 0, 1) := by decide +kernel
theorem dX5_asOak_13 : decode cX5_asOak 13 = .ok (.iload_n 1, 1) := by decide +kernel
theorem dX5_asOak_14 : decode cX5_asOak 14 = .ok (.invokevirtual 243, 3) := by decide +kernel
theorem dX5_asOak_17 : decode cX5_asOak 17 = .ok (.iload_n 1, 1) := by decide +kernel
theorem dX5_asOak_18 : decode cX5_asOak 18 = .ok (.iadd, 1) := by decide +kernel
theorem dX5_asOak_19 : decode cX5_asOak 19 = .ok (.ireturn, 1) := by decide +kernel
theorem dX5_asThumb_0 : decode cX5_asThumb 0 = .ok (.aload_n 0, 1) := by decide +kernel
theorem dX5_asThumb_1 : decode cX5_asThumb 1 = .ok (.dup, 1) := by decide +kernel
theorem dX5_asThumb_2 : decode cX5_asThumb 2 = .ok (.getfield 59, 3) := by decide +kernel
theorem dX5_asThumb_5 : decode cX5_asThumb 5 = .ok (.ldc2_w 294, 3) := by decide +kernel
theorem dX5_asThumb_8 : decode cX5_asThumb 8 = .ok (.ladd, 1) := by decide +kernel
theorem dX5_asThumb_9 : decode cX5_asThumb 9 = .ok (.putfield 59, 3) := by decide +kernel
theorem dX5_asThumb_12 : decode cX5_asThumb 12 = .ok (.aload_n 0, 1) := by decide +kernel
theorem dX5_asThumb_13 : decode cX5_asThumb 13 = .ok (.iload_n 1, 1) := by decide +kernel
theorem dX5_asThumb_14 : decode cX5_asThumb 14 = .ok (.invokevirtual 237, 3) := by decide +kernel
theorem dX5_asThumb_17 : decode cX5_asThumb 17 = .ok (.aload_n 0, 1) := by decide +kernel
theorem dX5_asThumb_18 : decode cX5_asThumb 18 = .ok (.getfield 26, 3) := by decide +kernel
theorem dX5_asThumb_21 : decode cX5_asThumb 21 = .ok (.getfield 150, 3) := by decide +kernel
theorem dX5_asThumb_24 : decode cX5_asThumb 24 = .ok (.iadd, 1) := by decide +kernel
theorem dX5_asThumb_25 : decode cX5_asThumb 25 = .ok (.ireturn, 1) := by decide +kernel
end
section
theorem dX0_init_0 : decode cX0_init 0 = .ok (.aload_n 0, 1) := by decide +kernel
theorem dX0_init_1 : decode cX0_init 1 = .ok (.invokespecial 3, 3) := by decide +kernel
theorem dX0_init_4 : decode cX0_init 4 = .ok (.aload_n 0, 1) := by decide +kernel
theorem dX0_init_5 : decode cX0_init 5 = .ok (.bipush 6, 2) := by decide +kernel
theorem dX0_init_7 : decode cX0_init 7 = .ok (.newarray .int, 2) := by decide +kernel
theorem dX0_init_9 : decode cX0_init 9 = .ok (.putfield 9, 3) := by decide +kernel
theorem dX0_init_12 : decode cX0_init 12 = .ok (.aload_n 0, 1) := by decide +kernel
theorem dX0_init_13 : decode cX0_init 13 = .ok (.bipush 6, 2) := by decide +kernel
theorem dX0_init_15 : decode cX0_init 15 = .ok (.newarray .int, 2) := by decide +kernel
theorem dX0_init_17 : decode cX0_init 17 = .ok (.putfield 15, 3) := by decide +kernel
theorem dX0_init_20 : decode cX0_init 20 = .ok (.aload_n 0, 1) := by decide +kernel
theorem dX0_init_21 : decode cX0_init 21 = .ok (.bipush 8, 2) := by decide +kernel
theorem dX0_init_23 : decode cX0_init 23 = .ok (.newarray .int, 2) := by decide +kernel
theorem dX0_init_25 : decode cX0_init 25 = .ok (.putfield 18, 3) := by decide +kernel
theorem dX0_init_28 : decode cX0_init 28 = .ok (.aload_n 0, 1) := by decide +kernel
theorem dX0_init_29 : decode cX0_init 29 = .ok (.bipush 8, 2) := by decide +kernel
theorem dX0_init_31 : decode cX0_init 31 = .ok (.newarray .int, 2) := by decide +kernel
theorem dX0_init_33 : decode cX0_init 33 = .ok (.putfield 21, 3) := by decide +kernel
theorem dX0_init_36 : decode cX0_init 36 = .ok (.aload_n 0, 1) := by decide +kernel
theorem dX0_init_37 : decode cX0_init 37 = .ok (.bipush 8, 2) := by decide +kernel
theorem dX0_init_39 : decode cX0_init 39 = .ok (.newarray .int, 2) := by decide +kernel
theorem dX0_init_41 : decode cX0_init 41 = .ok (.putfield 24, 3) := by decide +kernel
theorem dX0_init_44 : decode cX0_init 44 = .ok (.aload_n 0, 1) := by decide +kernel
theorem dX0_init_45 : decode cX0_init 45 = .ok (.iconst 0, 1) := by decide +kernel
theorem dX0_init_46 : decode cX0_init 46 = .ok (.putfield 27, 3) := by decide +kernel
theorem dX0_init_49 : decode cX0_init 49 = .ok (.return_, 1) := by decide +kernel
theorem dX0_beginAgain_0 : decode cX0_beginAgain 0 = .ok (.iconst 0, 1) := by decide +kernel
theorem dX0_beginAgain_1 : decode cX0_beginAgain 1 = .ok (.istore_n 1, 1) := by decide +kernel
theorem dX0_beginAgain_2 : decode cX0_beginAgain 2 = .ok (.iload_n 1, 1) := by decide +kernel
theorem dX0_beginAgain_3 : decode cX0_beginAgain 3 = .ok (.bipush 6, 2) := by decide +kernel
theorem dX0_beginAgain_5 : decode cX0_beginAgain 5 = .ok (.if_icmp .ge 23, 3) := by decide +kernel
theorem dX0_beginAgain_8 : decode cX0_beginAgain 8 = .ok (.aload_n 0, 1) := by decide +kernel
theorem dX0_beginAgain_9 : decode cX0_beginAgain 9 = .ok (.getfield 9, 3) := by decide +kernel
theorem dX0_beginAgain_12 : decode cX0_beginAgain 12 = .ok (.iload_n 1, 1) := by decide +kernel
theorem dX0_beginAgain_13 : decode cX0_beginAgain 13 = .ok (.iconst 0, 1) := by decide +kernel
theorem dX0_beginAgain_14 : decode cX0_beginAgain 14 = .ok (.iastore, 1) := by decide +kernel
theorem dX0_beginAgain_15 : decode cX0_beginAgain 15 = .ok (.aload_n 0, 1) := by decide +kernel
theorem dX0_beginAgain_16 : decode cX0_beginAgain 16 = .ok (.getfield 15, 3) := by decide +kernel
theorem dX0_beginAgain_19 : decode cX0_beginAgain 19 = .ok (.iload_n 1, 1) := by decide +kernel
theorem dX0_beginAgain_20 : decode cX0_beginAgain 20 = .ok (.iconst 0, 1) := by decide +kernel
theorem dX0_beginAgain_21 : decode cX0_beginAgain 21 = .ok (.iastore, 1) := by decide +kernel
theorem dX0_beginAgain_22 : decode cX0_beginAgain 22 = .ok (.iinc 1 1, 3) := by decide +kernel
theorem dX0_beginAgain_25 : decode cX0_beginAgain 25 = .ok (.goto (-23), 3) := by decide +kernel
theorem dX0_beginAgain_28 : decode cX0_beginAgain 28 = .ok (.iconst 0, 1) := by decide +kernel
theorem dX0_beginAgain_29 : decode cX0_beginAgain 29 = .ok (.istore_n 1, 1) := by decide +kernel
theorem dX0_beginAgain_30 : decode cX0_beginAgain 30 = .ok (.iload_n 1, 1) := by decide +kernel
theorem dX0_beginAgain_31 : decode cX0_beginAgain 31 = .ok (.bipush 8, 2) := by decide +kernel
theorem dX0_beginAgain_33 : decode cX0_beginAgain 33 = .ok (.if_icmp .ge 30, 3) := by decide +kernel
theorem dX0_beginAgain_36 : decode cX0_beginAgain 36 = .ok (.aload_n 0, 1) := by decide +kernel
theorem dX0_beginAgain_37 : decode cX0_beginAgain 37 = .ok (.getfield 18, 3) := by decide +kernel
theorem dX0_beginAgain_40 : decode cX0_beginAgain 40 = .ok (.iload_n 1, 1) := by decide +kernel
theorem dX0_beginAgain_41 : decode cX0_beginAgain 41 = .ok (.iconst 0, 1) := by decide +kernel
theorem dX0_beginAgain_42 : decode cX0_beginAgain 42 = .ok (.iastore, 1) := by decide +kernel
theorem dX0_beginAgain_43 : decode cX0_beginAgain 43 = .ok (.aload_n 0, 1) := by decide +kernel
theorem dX0_beginAgain_44 : decode cX0_beginAgain 44 = .ok (.getfield 21, 3) := by decide +kernel
theorem dX0_beginAgain_47 : decode cX0_beginAgain 47 = .ok (.iload_n 1, 1) := by decide +kernel
theorem dX0_beginAgain_48 : decode cX0_beginAgain 48 = .ok (.iconst 0, 1) := by decide +kernel
theorem dX0_beginAgain_49 : decode cX0_beginAgain 49 = .ok (.iastore, 1) := by decide +kernel
theorem dX0_beginAgain_50 : decode cX0_beginAgain 50 = .ok (.aload_n 0, 1) := by decide +kernel
theorem dX0_beginAgain_51 : decode cX0_beginAgain 51 = .ok (.getfield 24, 3) := by decide +kernel
theorem dX0_beginAgain_54 : decode cX0_beginAgain 54 = .ok (.iload_n 1, 1) := by decide +kernel
theorem dX0_beginAgain_55 : decode cX0_beginAgain 55 = .ok (.iconst 0, 1) := by decide +kernel
theorem dX0_beginAgain_56 : decode cX0_beginAgain 56 = .ok (.iastore, 1) := by decide +kernel
theorem dX0_beginAgain_57 : decode cX0_beginAgain 57 = .ok (.iinc 1 1, 3) := by decide +kernel
theorem dX0_beginAgain_60 : decode cX0_beginAgain 60 = .ok (.goto (-30), 3) := by decide +kernel
theorem dX0_beginAgain_63 : decode cX0_beginAgain 63 = .ok (.aload_n 0, 1) := by decide +kernel
theorem dX0_beginAgain_64 : decode cX0_beginAgain 64 = .ok (.iconst 0, 1) := by decide +kernel
theorem dX0_beginAgain_65 : decode cX0_beginAgain 65 = .ok (.putfield 27, 3) := by decide +kernel
theorem dX0_beginAgain_68 : decode cX0_beginAgain 68 = .ok (.return_, 1) := by decide +kernel
theorem dX0_become_0 : decode cX0_become 0 = .ok (.aload_n 1, 1) := by decide +kernel
theorem dX0_become_1 : decode cX0_become 1 = .ok (.getfield 9, 3) := by decide +kernel
theorem dX0_become_4 : decode cX0_become 4 = .ok (.iconst 0, 1) := by decide +kernel
theorem dX0_become_5 : decode cX0_become 5 = .ok (.aload_n 0, 1) := by decide +kernel
theorem dX0_become_6 : decode cX0_become 6 = .ok (.getfield 9, 3) := by decide +kernel
theorem dX0_become_9 : decode cX0_become 9 = .ok (.iconst 0, 1) := by decide +kernel
theorem dX0_become_10 : decode cX0_become 10 = .ok (.bipush 6, 2) := by decide +kernel
theorem dX0_become_12 : decode cX0_become 12 = .ok (.invokestatic 31, 3) := by decide +kernel
theorem dX0_become_15 : decode cX0_become 15 = .ok (.aload_n 1, 1) := by decide +kernel
theorem dX0_become_16 : decode cX0_become 16 = .ok (.getfield 15, 3) := by decide +kernel
theorem dX0_become_19 : decode cX0_become 19 = .ok (.iconst 0, 1) := by decide +kernel
theorem dX0_become_20 : decode cX0_become 20 = .ok (.aload_n 0, 1) := by decide +kernel
theorem dX0_become_21 : decode cX0_become 21 = .ok (.getfield 15, 3) := by decide +kernel
theorem dX0_become_24 : decode cX0_become 24 = .ok (.iconst 0, 1) := by decide +kernel
theorem dX0_become_25 : decode cX0_become 25 = .ok (.bipush 6, 2) := by decide +kernel
theorem dX0_become_27 : decode cX0_become 27 = .ok (.invokestatic 31, 3) := by decide +kernel
theorem dX0_become_30 : decode cX0_become 30 = .ok (.aload_n 1, 1) := by decide +kernel
theorem dX0_become_31 : decode cX0_become 31 = .ok (.getfield 18, 3) := by decide +kernel
theorem dX0_become_34 : decode cX0_become 34 = .ok (.iconst 0, 1) := by decide +kernel
theorem dX0_become_35 : decode cX0_become 35 = .ok (.aload_n 0, 1) := by decide +kernel
theorem dX0_become_36 : decode cX0_become 36 = .ok (.getfield 18, 3) := by decide +kernel
theorem dX0_become_39 : decode cX0_become 39 = .ok (.iconst 0, 1) := by decide +kernel
theorem dX0_become_40 : decode cX0_become 40 = .ok (.bipush 8, 2) := by decide +kernel
theorem dX0_become_42 : decode cX0_become 42 = .ok (.invokestatic 31, 3) := by decide +kernel
theorem dX0_become_45 : decode cX0_become 45 = .ok (.aload_n 1, 1) := by decide +kernel
theorem dX0_become_46 : decode cX0_become 46 = .ok (.getfield 21, 3) := by decide +kernel
theorem dX0_become_49 : decode cX0_become 49 = .ok (.iconst 0, 1) := by decide +kernel
theorem dX0_become_50 : decode cX0_become 50 = .ok (.aload_n 0, 1) := by decide +kernel
theorem dX0_become_51 : decode cX0_become 51 = .ok (.getfield 21, 3) := by decide +kernel
theorem dX0_become_54 : decode cX0_become 54 = .ok (.iconst 0, 1) := by decide +kernel
theorem dX0_become_55 : decode cX0_become 55 = .ok (.bipush 8, 2) := by decide +kernel
theorem dX0_become_57 : decode cX0_become 57 = .ok (.invokestatic 31, 3) := by decide +kernel
theorem dX0_become_60 : decode cX0_become 60 = .ok (.aload_n 1, 1) := by decide +kernel
theorem dX0_become_61 : decode cX0_become 61 = .ok (.getfield 24, 3) := by decide +kernel
theorem dX0_become_64 : decode cX0_become 64 = .ok (.iconst 0, 1) := by decide +kernel
theorem dX0_become_65 : decode cX0_become 65 = .ok (.aload_n 0, 1) := by decide +kernel
theorem dX0_become_66 : decode cX0_become 66 = .ok (.getfield 24, 3) := by decide +kernel
theorem dX0_become_69 : decode cX0_become 69 = .ok (.iconst 0, 1) := by decide +kernel
theorem dX0_become_70 : decode cX0_become 70 = .ok (.bipush 8, 2) := by decide +kernel
theorem dX0_become_72 : decode cX0_become 72 = .ok (.invokestatic 31, 3) := by decide +kernel
theorem dX0_become_75 : decode cX0_become 75 = .ok (.aload_n 0, 1) := by decide +kernel
theorem dX0_become_76 : decode cX0_become 76 = .ok (.aload_n 1, 1) := by decide +kernel
theorem dX0_become_77 : decode cX0_become 77 = .ok (.getfield 27, 3) := by decide +kernel
theorem dX0_become_80 : decode cX0_become 80 = .ok (.putfield 27, 3) := by decide +kernel
theorem dX0_become_83 : decode cX0_become 83 = .ok (.return_, 1) := by decide +kernel
theorem dX1_init_0 : decode cX1_init 0 = .ok (.aload_n 0, 1) := by decide +kernel
theorem dX1_init_1 : decode cX1_init 1 = .ok (.invokespecial 3, 3) := by decide +kernel
theorem dX1_init_4 : decode cX1_init 4 = .ok (.aload_n 0, 1) := by decide +kernel
theorem dX1_init_5 : decode cX1_init 5 = .ok (.bipush 10, 2) := by decide +kernel
theorem dX1_init_7 : decode cX1_init 7 = .ok (.anewarray 9, 3) := by decide +kernel
theorem dX1_init_10 : decode cX1_init 10 = .ok (.putfield 11, 3) := by decide +kernel
theorem dX1_init_13 : decode cX1_init 13 = .ok (.aload_n 0, 1) := by decide +kernel
theorem dX1_init_14 : decode cX1_init 14 = .ok (.iconst 0, 1) := by decide +kernel
theorem dX1_init_15 : decode cX1_init 15 = .ok (.putfield 17, 3) := by decide +kernel
theorem dX1_init_18 : decode cX1_init 18 = .ok (.aload_n 0, 1) := by decide +kernel
theorem dX1_init_19 : decode cX1_init 19 = .ok (.iconst 0, 1) := by decide +kernel
theorem dX1_init_20 : decode cX1_init 20 = .ok (.putfield 21, 3) := by decide +kernel
theorem dX1_init_23 : decode cX1_init 23 = .ok (.iconst 0, 1) := by decide +kernel
theorem dX1_init_24 : decode cX1_init 24 = .ok (.istore_n 1, 1) := by decide +kernel
theorem dX1_init_25 : decode cX1_init 25 = .ok (.iload_n 1, 1) := by decide +kernel
theorem dX1_init_26 : decode cX1_init 26 = .ok (.bipush 10, 2) := by decide +kernel
theorem dX1_init_28 : decode cX1_init 28 = .ok (.if_icmp .ge 22, 3) := by decide +kernel
theorem dX1_init_31 : decode cX1_init 31 = .ok (.aload_n 0, 1) := by decide +kernel
theorem dX1_init_32 : decode cX1_init 32 = .ok (.getfield 11, 3) := by decide +kernel
theorem dX1_init_35 : decode cX1_init 35 = .ok (.iload_n 1, 1) := by decide +kernel
theorem dX1_init_36 : decode cX1_init 36 = .ok (.new 9, 3) := by decide +kernel
theorem dX1_init_39 : decode cX1_init 39 = .ok (.dup, 1) := by decide +kernel
theorem dX1_init_40 : decode cX1_init 40 = .ok (.invokespecial 24, 3) := by decide +kernel
theorem dX1_init_43 : decode cX1_init 43 = .ok (.aastore, 1) := by decide +kernel
theorem dX1_init_44 : decode cX1_init 44 = .ok (.iinc 1 1, 3) := by decide +kernel
theorem dX1_init_47 : decode cX1_init 47 = .ok (.goto (-22), 3) := by decide +kernel
theorem dX1_init_50 : decode cX1_init 50 = .ok (.return_, 1) := by decide +kernel
theorem dX1_empty_0 : decode cX1_empty 0 = .ok (.aload_n 0, 1) := by decide +kernel
theorem dX1_empty_1 : decode cX1_empty 1 = .ok (.iconst 0, 1) := by decide +kernel
theorem dX1_empty_2 : decode cX1_empty 2 = .ok (.putfield 21, 3) := by decide +kernel
theorem dX1_empty_5 : decode cX1_empty 5 = .ok (.return_, 1) := by decide +kernel
theorem dX1_remember_0 : decode cX1_remember 0 = .ok (.aload_n 0, 1) := by decide +kernel
theorem dX1_remember_1 : decode cX1_remember 1 = .ok (.getfield 17, 3) := by decide +kernel
theorem dX1_remember_4 : decode cX1_remember 4 = .ok (.ifCond .lt 77, 3) := by decide +kernel
theorem dX1_remember_7 : decode cX1_remember 7 = .ok (.aload_n 0, 1) := by decide +kernel
theorem dX1_remember_8 : decode cX1_remember 8 = .ok (.getfield 17, 3) := by decide +kernel
theorem dX1_remember_11 : decode cX1_remember 11 = .ok (.bipush 10, 2) := by decide +kernel
theorem dX1_remember_13 : decode cX1_remember 13 = .ok (.if_icmp .ge 68, 3) := by decide +kernel
theorem dX1_remember_16 : decode cX1_remember 16 = .ok (.aload_n 0, 1) := by decide +kernel
theorem dX1_remember_17 : decode cX1_remember 17 = .ok (.getfield 11, 3) := by decide +kernel
theorem dX1_remember_20 : decode cX1_remember 20 = .ok (.aload_n 0, 1) := by decide +kernel
theorem dX1_remember_21 : decode cX1_remember 21 = .ok (.getfield 17, 3) := by decide +kernel
theorem dX1_remember_24 : decode cX1_remember 24 = .ok (.aaload, 1) := by decide +kernel
theorem dX1_remember_25 : decode cX1_remember 25 = .ok (.ifnull 56, 3) := by decide +kernel
theorem dX1_remember_28 : decode cX1_remember 28 = .ok (.aload_n 0, 1) := by decide +kernel
theorem dX1_remember_29 : decode cX1_remember 29 = .ok (.getfield 11, 3) := by decide +kernel
theorem dX1_remember_32 : decode cX1_remember 32 = .ok (.aload_n 0, 1) := by decide +kernel
theorem dX1_remember_33 : decode cX1_remember 33 = .ok (.getfield 17, 3) := by decide +kernel
theorem dX1_remember_36 : decode cX1_remember 36 = .ok (.aaload, 1) := by decide +kernel
theorem dX1_remember_37 : decode cX1_remember 37 = .ok (.aload_n 1, 1) := by decide +kernel
theorem dX1_remember_38 : decode cX1_remember 38 = .ok (.invokevirtual 25, 3) := by decide +kernel
theorem dX1_remember_41 : decode cX1_remember 41 = .ok (.aload_n 0, 1) := by decide +kernel
theorem dX1_remember_42 : decode cX1_remember 42 = .ok (.aload_n 0, 1) := by decide +kernel
theorem dX1_remember_43 : decode cX1_remember 43 = .ok (.getfield 17, 3) := by decide +kernel
theorem dX1_remember_46 : decode cX1_remember 46 = .ok (.iconst 1, 1) := by decide +kernel
theorem dX1_remember_47 : decode cX1_remember 47 = .ok (.iadd, 1) := by decide +kernel
theorem dX1_remember_48 : decode cX1_remember 48 = .ok (.bipush 10, 2) := by decide +kernel
theorem dX1_remember_50 : decode cX1_remember 50 = .ok (.if_icmp .ge 12, 3) := by decide +kernel
theorem dX1_remember_53 : decode cX1_remember 53 = .ok (.aload_n 0, 1) := by decide +kernel
theorem dX1_remember_54 : decode cX1_remember 54 = .ok (.getfield 17, 3) := by decide +kernel
theorem dX1_remember_57 : decode cX1_remember 57 = .ok (.iconst 1, 1) := by decide +kernel
theorem dX1_remember_58 : decode cX1_remember 58 = .ok (.iadd, 1) := by decide +kernel
theorem dX1_remember_59 : decode cX1_remember 59 = .ok (.goto 4, 3) := by decide +kernel
theorem dX1_remember_62 : decode cX1_remember 62 = .ok (.iconst 0, 1) := by decide +kernel
theorem dX1_remember_63 : decode cX1_remember 63 = .ok (.putfield 17, 3) := by decide +kernel
theorem dX1_remember_66 : decode cX1_remember 66 = .ok (.aload_n 0, 1) := by decide +kernel
theorem dX1_remember_67 : decode cX1_remember 67 = .ok (.bipush 10, 2) := by decide +kernel
theorem dX1_remember_69 : decode cX1_remember 69 = .ok (.aload_n 0, 1) := by decide +kernel
theorem dX1_remember_70 : decode cX1_remember 70 = .ok (.getfield 21, 3) := by decide +kernel
theorem dX1_remember_73 : decode cX1_remember 73 = .ok (.iconst 1, 1) := by decide +kernel
theorem dX1_remember_74 : decode cX1_remember 74 = .ok (.iadd, 1) := by decide +kernel
theorem dX1_remember_75 : decode cX1_remember 75 = .ok (.invokestatic 29, 3) := by decide +kernel
theorem dX1_remember_78 : decode cX1_remember 78 = .ok (.putfield 21, 3) := by decide +kernel
theorem dX1_remember_81 : decode cX1_remember 81 = .ok (.return_, 1) := by decide +kernel
theorem dX1_giveBack_0 : decode cX1_giveBack 0 = .ok (.aload_n 0, 1) := by decide +kernel
theorem dX1_giveBack_1 : decode cX1_giveBack 1 = .ok (.getfield 17, 3) := by decide +kernel
theorem dX1_giveBack_4 : decode cX1_giveBack 4 = .ok (.ifCond .le 12, 3) := by decide +kernel
theorem dX1_giveBack_7 : decode cX1_giveBack 7 = .ok (.aload_n 0, 1) := by decide +kernel
theorem dX1_giveBack_8 : decode cX1_giveBack 8 = .ok (.getfield 17, 3) := by decide +kernel
theorem dX1_giveBack_11 : decode cX1_giveBack 11 = .ok (.iconst 1, 1) := by decide +kernel
theorem dX1_giveBack_12 : decode cX1_giveBack 12 = .ok (.isub, 1) := by decide +kernel
theorem dX1_giveBack_13 : decode cX1_giveBack 13 = .ok (.goto 5, 3) := by decide +kernel
theorem dX1_giveBack_16 : decode cX1_giveBack 16 = .ok (.bipush 9, 2) := by decide +kernel
theorem dX1_giveBack_18 : decode cX1_giveBack 18 = .ok (.istore_n 2, 1) := by decide +kernel
theorem dX1_giveBack_19 : decode cX1_giveBack 19 = .ok (.aload_n 0, 1) := by decide +kernel
theorem dX1_giveBack_20 : decode cX1_giveBack 20 = .ok (.getfield 21, 3) := by decide +kernel
theorem dX1_giveBack_23 : decode cX1_giveBack 23 = .ok (.ifCond .le 43, 3) := by decide +kernel
theorem dX1_giveBack_26 : decode cX1_giveBack 26 = .ok (.iload_n 2, 1) := by decide +kernel
theorem dX1_giveBack_27 : decode cX1_giveBack 27 = .ok (.bipush 10, 2) := by decide +kernel
theorem dX1_giveBack_29 : decode cX1_giveBack 29 = .ok (.if_icmp .ge 37, 3) := by decide +kernel
theorem dX1_giveBack_32 : decode cX1_giveBack 32 = .ok (.aload_n 0, 1) := by decide +kernel
theorem dX1_giveBack_33 : decode cX1_giveBack 33 = .ok (.getfield 11, 3) := by decide +kernel
theorem dX1_giveBack_36 : decode cX1_giveBack 36 = .ok (.iload_n 2, 1) := by decide +kernel
theorem dX1_giveBack_37 : decode cX1_giveBack 37 = .ok (.aaload, 1) := by decide +kernel
theorem dX1_giveBack_38 : decode cX1_giveBack 38 = .ok (.ifnull 28, 3) := by decide +kernel
theorem dX1_giveBack_41 : decode cX1_giveBack 41 = .ok (.aload_n 1, 1) := by decide +kernel
theorem dX1_giveBack_42 : decode cX1_giveBack 42 = .ok (.aload_n 0, 1) := by decide +kernel
theorem dX1_giveBack_43 : decode cX1_giveBack 43 = .ok (.getfield 11, 3) := by decide +kernel
theorem dX1_giveBack_46 : decode cX1_giveBack 46 = .ok (.iload_n 2, 1) := by decide +kernel
theorem dX1_giveBack_47 : decode cX1_giveBack 47 = .ok (.aaload, 1) := by decide +kernel
theorem dX1_giveBack_48 : decode cX1_giveBack 48 = .ok (.invokevirtual 25, 3) := by decide +kernel
theorem dX1_giveBack_51 : decode cX1_giveBack 51 = .ok (.aload_n 0, 1) := by decide +kernel
theorem dX1_giveBack_52 : decode cX1_giveBack 52 = .ok (.iload_n 2, 1) := by decide +kernel
theorem dX1_giveBack_53 : decode cX1_giveBack 53 = .ok (.putfield 17, 3) := by decide +kernel
theorem dX1_giveBack_56 : decode cX1_giveBack 56 = .ok (.aload_n 0, 1) := by decide +kernel
theorem dX1_giveBack_57 : decode cX1_giveBack 57 = .ok (.dup, 1) := by decide +kernel
theorem dX1_giveBack_58 : decode cX1_giveBack 58 = .ok (.getfield 21, 3) := by decide +kernel
theorem dX1_giveBack_61 : decode cX1_giveBack 61 = .ok (.iconst 1, 1) := by decide +kernel
theorem dX1_giveBack_62 : decode cX1_giveBack 62 = .ok (.isub, 1) := by decide +kernel
theorem dX1_giveBack_63 : decode cX1_giveBack 63 = .ok (.putfield 21, 3) := by decide +kernel
theorem dX1_giveBack_66 : decode cX1_giveBack 66 = .ok (.return_, 1) := by decide +kernel
theorem dX2_init_0 : decode cX2_init 0 = .ok (.aload_n 0, 1) := by decide +kernel
theorem dX2_init_1 : decode cX2_init 1 = .ok (.invokespecial 3, 3) := by decide +kernel
theorem dX2_init_4 : decode cX2_init 4 = .ok (.aload_n 0, 1) := by decide +kernel
theorem dX2_init_5 : decode cX2_init 5 = .ok (.new 9, 3) := by decide +kernel
theorem dX2_init_8 : decode cX2_init 8 = .ok (.dup, 1) := by decide +kernel
theorem dX2_init_9 : decode cX2_init 9 = .ok (.invokespecial 11, 3) := by decide +kernel
theorem dX2_init_12 : decode cX2_init 12 = .ok (.putfield 12, 3) := by decide +kernel
theorem dX2_init_15 : decode cX2_init 15 = .ok (.aload_n 0, 1) := by decide +kernel
theorem dX2_init_16 : decode cX2_init 16 = .ok (.new 18, 3) := by decide +kernel
theorem dX2_init_19 : decode cX2_init 19 = .ok (.dup, 1) := by decide +kernel
theorem dX2_init_20 : decode cX2_init 20 = .ok (.invokespecial 20, 3) := by decide +kernel
theorem dX2_init_23 : decode cX2_init 23 = .ok (.putfield 21, 3) := by decide +kernel
theorem dX2_init_26 : decode cX2_init 26 = .ok (.aload_n 0, 1) := by decide +kernel
theorem dX2_init_27 : decode cX2_init 27 = .ok (.iconst 0, 1) := by decide +kernel
theorem dX2_init_28 : decode cX2_init 28 = .ok (.putfield 25, 3) := by decide +kernel
theorem dX2_init_31 : decode cX2_init 31 = .ok (.aload_n 0, 1) := by decide +kernel
theorem dX2_init_32 : decode cX2_init 32 = .ok (.iconst 0, 1) := by decide +kernel
theorem dX2_init_33 : decode cX2_init 33 = .ok (.putfield 29, 3) := by decide +kernel
theorem dX2_init_36 : decode cX2_init 36 = .ok (.return_, 1) := by decide +kernel
theorem dX2_readAll_0 : decode cX2_readAll 0 = .ok (.aload_n 0, 1) := by decide +kernel
theorem dX2_readAll_1 : decode cX2_readAll 1 = .ok (.getfield 21, 3) := by decide +kernel
theorem dX2_readAll_4 : decode cX2_readAll 4 = .ok (.invokevirtual 32, 3) := by decide +kernel
theorem dX2_readAll_7 : decode cX2_readAll 7 = .ok (.aload_n 0, 1) := by decide +kernel
theorem dX2_readAll_8 : decode cX2_readAll 8 = .ok (.iconst 0, 1) := by decide +kernel
theorem dX2_readAll_9 : decode cX2_readAll 9 = .ok (.putfield 25, 3) := by decide +kernel
theorem dX2_readAll_12 : decode cX2_readAll 12 = .ok (.aload_n 0, 1) := by decide +kernel
theorem dX2_readAll_13 : decode cX2_readAll 13 = .ok (.iconst 0, 1) := by decide +kernel
theorem dX2_readAll_14 : decode cX2_readAll 14 = .ok (.putfield 29, 3) := by decide +kernel
theorem dX2_readAll_17 : decode cX2_readAll 17 = .ok (.aload_n 0, 1) := by decide +kernel
theorem dX2_readAll_18 : decode cX2_readAll 18 = .ok (.getfield 12, 3) := by decide +kernel
theorem dX2_readAll_21 : decode cX2_readAll 21 = .ok (.invokevirtual 35, 3) := by decide +kernel
theorem dX2_readAll_24 : decode cX2_readAll 24 = .ok (.iconst 0, 1) := by decide +kernel
theorem dX2_readAll_25 : decode cX2_readAll 25 = .ok (.istore_n 1, 1) := by decide +kernel
theorem dX2_readAll_26 : decode cX2_readAll 26 = .ok (.iload_n 1, 1) := by decide +kernel
theorem dX2_readAll_27 : decode cX2_readAll 27 = .ok (.sipush 200, 3) := by decide +kernel
theorem dX2_readAll_30 : decode cX2_readAll 30 = .ok (.if_icmp .gt 131, 3) := by decide +kernel
theorem dX2_readAll_33 : decode cX2_readAll 33 = .ok (.aload_n 0, 1) := by decide +kernel
theorem dX2_readAll_34 : decode cX2_readAll 34 = .ok (.getfield 12, 3) := by decide +kernel
theorem dX2_readAll_37 : decode cX2_readAll 37 = .ok (.invokevirtual 38, 3) := by decide +kernel
theorem dX2_readAll_40 : decode cX2_readAll 40 = .ok (.aload_n 0, 1) := by decide +kernel
theorem dX2_readAll_41 : decode cX2_readAll 41 = .ok (.getfield 12, 3) := by decide +kernel
theorem dX2_readAll_44 : decode cX2_readAll 44 = .ok (.getfield 41, 3) := by decide +kernel
theorem dX2_readAll_47 : decode cX2_readAll 47 = .ok (.lookupswitch 99 #[(-1, 57), (97, 83), (109, 67), (112, 59), (115, 91), (120, 75)], 57) := by decide +kernel
theorem dX2_readAll_104 : decode cX2_readAll 104 = .ok (.iload_n 1, 1) := by decide +kernel
theorem dX2_readAll_105 : decode cX2_readAll 105 = .ok (.ireturn, 1) := by decide +kernel
theorem dX2_readAll_106 : decode cX2_readAll 106 = .ok (.aload_n 0, 1) := by decide +kernel
theorem dX2_readAll_107 : decode cX2_readAll 107 = .ok (.invokevirtual 45, 3) := by decide +kernel
theorem dX2_readAll_110 : decode cX2_readAll 110 = .ok (.istore_n 2, 1) := by decide +kernel
theorem dX2_readAll_111 : decode cX2_readAll 111 = .ok (.goto 37, 3) := by decide +kernel
theorem dX2_readAll_114 : decode cX2_readAll 114 = .ok (.aload_n 0, 1) := by decide +kernel
theorem dX2_readAll_115 : decode cX2_readAll 115 = .ok (.invokevirtual 49, 3) := by decide +kernel
theorem dX2_readAll_118 : decode cX2_readAll 118 = .ok (.istore_n 2, 1) := by decide +kernel
theorem dX2_readAll_119 : decode cX2_readAll 119 = .ok (.goto 29, 3) := by decide +kernel
theorem dX2_readAll_122 : decode cX2_readAll 122 = .ok (.aload_n 0, 1) := by decide +kernel
theorem dX2_readAll_123 : decode cX2_readAll 123 = .ok (.invokevirtual 52, 3) := by decide +kernel
theorem dX2_readAll_126 : decode cX2_readAll 126 = .ok (.istore_n 2, 1) := by decide +kernel
theorem dX2_readAll_127 : decode cX2_readAll 127 = .ok (.goto 21, 3) := by decide +kernel
theorem dX2_readAll_130 : decode cX2_readAll 130 = .ok (.aload_n 0, 1) := by decide +kernel
theorem dX2_readAll_131 : decode cX2_readAll 131 = .ok (.invokevirtual 55, 3) := by decide +kernel
theorem dX2_readAll_134 : decode cX2_readAll 134 = .ok (.istore_n 2, 1) := by decide +kernel
theorem dX2_readAll_135 : decode cX2_readAll 135 = .ok (.goto 13, 3) := by decide +kernel
theorem dX2_readAll_138 : decode cX2_readAll 138 = .ok (.aload_n 0, 1) := by decide +kernel
theorem dX2_readAll_139 : decode cX2_readAll 139 = .ok (.invokevirtual 58, 3) := by decide +kernel
theorem dX2_readAll_142 : decode cX2_readAll 142 = .ok (.istore_n 2, 1) := by decide +kernel
theorem dX2_readAll_143 : decode cX2_readAll 143 = .ok (.goto 5, 3) := by decide +kernel
theorem dX2_readAll_146 : decode cX2_readAll 146 = .ok (.iconst 0, 1) := by decide +kernel
theorem dX2_readAll_147 : decode cX2_readAll 147 = .ok (.istore_n 2, 1) := by decide +kernel
theorem dX2_readAll_148 : decode cX2_readAll 148 = .ok (.iload_n 2, 1) := by decide +kernel
theorem dX2_readAll_149 : decode cX2_readAll 149 = .ok (.ifCond .ne 6, 3) := by decide +kernel
theorem dX2_readAll_152 : decode cX2_readAll 152 = .ok (.goto 9, 3) := by decide +kernel
theorem dX2_readAll_155 : decode cX2_readAll 155 = .ok (.iinc 1 1, 3) := by decide +kernel
theorem dX2_readAll_158 : decode cX2_readAll 158 = .ok (.goto (-132), 3) := by decide +kernel
theorem dX2_readAll_161 : decode cX2_readAll 161 = .ok (.bipush (-10), 2) := by decide +kernel
theorem dX2_readAll_163 : decode cX2_readAll 163 = .ok (.aload_n 0, 1) := by decide +kernel
theorem dX2_readAll_164 : decode cX2_readAll 164 = .ok (.getfield 12, 3) := by decide +kernel
theorem dX2_readAll_167 : decode cX2_readAll 167 = .ok (.getfield 61, 3) := by decide +kernel
theorem dX2_readAll_170 : decode cX2_readAll 170 = .ok (.isub, 1) := by decide +kernel
theorem dX2_readAll_171 : decode cX2_readAll 171 = .ok (.ireturn, 1) := by decide +kernel
theorem dX2_readPerson_0 : decode cX2_readPerson 0 = .ok (.aload_n 0, 1) := by decide +kernel
theorem dX2_readPerson_1 : decode cX2_readPerson 1 = .ok (.getfield 21, 3) := by decide +kernel
theorem dX2_readPerson_4 : decode cX2_readPerson 4 = .ok (.getfield 64, 3) := by decide +kernel
theorem dX2_readPerson_7 : decode cX2_readPerson 7 = .ok (.istore_n 1, 1) := by decide +kernel
theorem dX2_readPerson_8 : decode cX2_readPerson 8 = .ok (.iload_n 1, 1) := by decide +kernel
theorem dX2_readPerson_9 : decode cX2_readPerson 9 = .ok (.bipush 6, 2) := by decide +kernel
theorem dX2_readPerson_11 : decode cX2_readPerson 11 = .ok (.if_icmp .ge 13, 3) := by decide +kernel
theorem dX2_readPerson_14 : decode cX2_readPerson 14 = .ok (.aload_n 0, 1) := by decide +kernel
theorem dX2_readPerson_15 : decode cX2_readPerson 15 = .ok (.iconst 0, 1) := by decide +kernel
theorem dX2_readPerson_16 : decode cX2_readPerson 16 = .ok (.bipush 99, 2) := by decide +kernel
theorem dX2_readPerson_18 : decode cX2_readPerson 18 = .ok (.invokevirtual 67, 3) := by decide +kernel
theorem dX2_readPerson_21 : decode cX2_readPerson 21 = .ok (.ifCond .ne 5, 3) := by decide +kernel
theorem dX2_readPerson_24 : decode cX2_readPerson 24 = .ok (.iconst 0, 1) := by decide +kernel
theorem dX2_readPerson_25 : decode cX2_readPerson 25 = .ok (.ireturn, 1) := by decide +kernel
theorem dX2_readPerson_26 : decode cX2_readPerson 26 = .ok (.aload_n 0, 1) := by decide +kernel
theorem dX2_readPerson_27 : decode cX2_readPerson 27 = .ok (.getfield 21, 3) := by decide +kernel
theorem dX2_readPerson_30 : decode cX2_readPerson 30 = .ok (.getfield 71, 3) := by decide +kernel
theorem dX2_readPerson_33 : decode cX2_readPerson 33 = .ok (.iload_n 1, 1) := by decide +kernel
theorem dX2_readPerson_34 : decode cX2_readPerson 34 = .ok (.aload_n 0, 1) := by decide +kernel
theorem dX2_readPerson_35 : decode cX2_readPerson 35 = .ok (.getfield 12, 3) := by decide +kernel
theorem dX2_readPerson_38 : decode cX2_readPerson 38 = .ok (.getfield 75, 3) := by decide +kernel
theorem dX2_readPerson_41 : decode cX2_readPerson 41 = .ok (.iastore, 1) := by decide +kernel
theorem dX2_readPerson_42 : decode cX2_readPerson 42 = .ok (.aload_n 0, 1) := by decide +kernel
theorem dX2_readPerson_43 : decode cX2_readPerson 43 = .ok (.iconst 0, 1) := by decide +kernel
theorem dX2_readPerson_44 : decode cX2_readPerson 44 = .ok (.bipush 9, 2) := by decide +kernel
theorem dX2_readPerson_46 : decode cX2_readPerson 46 = .ok (.invokevirtual 67, 3) := by decide +kernel
theorem dX2_readPerson_49 : decode cX2_readPerson 49 = .ok (.ifCond .eq 26, 3) := by decide +kernel
theorem dX2_readPerson_52 : decode cX2_readPerson 52 = .ok (.aload_n 0, 1) := by decide +kernel
theorem dX2_readPerson_53 : decode cX2_readPerson 53 = .ok (.getfield 12, 3) := by decide +kernel
theorem dX2_readPerson_56 : decode cX2_readPerson 56 = .ok (.getfield 75, 3) := by decide +kernel
theorem dX2_readPerson_59 : decode cX2_readPerson 59 = .ok (.iload_n 1, 1) := by decide +kernel
theorem dX2_readPerson_60 : decode cX2_readPerson 60 = .ok (.if_icmp .lt 17, 3) := by decide +kernel
theorem dX2_readPerson_63 : decode cX2_readPerson 63 = .ok (.aload_n 0, 1) := by decide +kernel
theorem dX2_readPerson_64 : decode cX2_readPerson 64 = .ok (.getfield 12, 3) := by decide +kernel
theorem dX2_readPerson_67 : decode cX2_readPerson 67 = .ok (.getfield 75, 3) := by decide +kernel
theorem dX2_readPerson_70 : decode cX2_readPerson 70 = .ok (.bipush 9, 2) := by decide +kernel
theorem dX2_readPerson_72 : decode cX2_readPerson 72 = .ok (.if_icmp .eq 5, 3) := by decide +kernel
theorem dX2_readPerson_75 : decode cX2_readPerson 75 = .ok (.iconst 0, 1) := by decide +kernel
theorem dX2_readPerson_76 : decode cX2_readPerson 76 = .ok (.ireturn, 1) := by decide +kernel
theorem dX2_readPerson_77 : decode cX2_readPerson 77 = .ok (.aload_n 0, 1) := by decide +kernel
theorem dX2_readPerson_78 : decode cX2_readPerson 78 = .ok (.getfield 21, 3) := by decide +kernel
theorem dX2_readPerson_81 : decode cX2_readPerson 81 = .ok (.getfield 78, 3) := by decide +kernel
theorem dX2_readPerson_84 : decode cX2_readPerson 84 = .ok (.iload_n 1, 1) := by decide +kernel
theorem dX2_readPerson_85 : decode cX2_readPerson 85 = .ok (.aload_n 0, 1) := by decide +kernel
theorem dX2_readPerson_86 : decode cX2_readPerson 86 = .ok (.getfield 12, 3) := by decide +kernel
theorem dX2_readPerson_89 : decode cX2_readPerson 89 = .ok (.getfield 75, 3) := by decide +kernel
theorem dX2_readPerson_92 : decode cX2_readPerson 92 = .ok (.bipush 9, 2) := by decide +kernel
theorem dX2_readPerson_94 : decode cX2_readPerson 94 = .ok (.if_icmp .ne 8, 3) := by decide +kernel
theorem dX2_readPerson_97 : decode cX2_readPerson 97 = .ok (.bipush (-9), 2) := by decide +kernel
theorem dX2_readPerson_99 : decode cX2_readPerson 99 = .ok (.goto 10, 3) := by decide +kernel
theorem dX2_readPerson_102 : decode cX2_readPerson 102 = .ok (.aload_n 0, 1) := by decide +kernel
theorem dX2_readPerson_103 : decode cX2_readPerson 103 = .ok (.getfield 12, 3) := by decide +kernel
theorem dX2_readPerson_106 : decode cX2_readPerson 106 = .ok (.getfield 75, 3) := by decide +kernel
theorem dX2_readPerson_109 : decode cX2_readPerson 109 = .ok (.iastore, 1) := by decide +kernel
theorem dX2_readPerson_110 : decode cX2_readPerson 110 = .ok (.aload_n 0, 1) := by decide +kernel
theorem dX2_readPerson_111 : decode cX2_readPerson 111 = .ok (.getfield 21, 3) := by decide +kernel
theorem dX2_readPerson_114 : decode cX2_readPerson 114 = .ok (.dup, 1) := by decide +kernel
theorem dX2_readPerson_115 : decode cX2_readPerson 115 = .ok (.getfield 64, 3) := by decide +kernel
theorem dX2_readPerson_118 : decode cX2_readPerson 118 = .ok (.iconst 1, 1) := by decide +kernel
theorem dX2_readPerson_119 : decode cX2_readPerson 119 = .ok (.iadd, 1) := by decide +kernel
theorem dX2_readPerson_120 : decode cX2_readPerson 120 = .ok (.putfield 64, 3) := by decide +kernel
theorem dX2_readPerson_123 : decode cX2_readPerson 123 = .ok (.aload_n 0, 1) := by decide +kernel
theorem dX2_readPerson_124 : decode cX2_readPerson 124 = .ok (.invokevirtual 81, 3) := by decide +kernel
theorem dX2_readPerson_127 : decode cX2_readPerson 127 = .ok (.ireturn, 1) := by decide +kernel
theorem dX2_readPromise_0 : decode cX2_readPromise 0 = .ok (.aload_n 0, 1) := by decide +kernel
theorem dX2_readPromise_1 : decode cX2_readPromise 1 = .ok (.getfield 21, 3) := by decide +kernel
theorem dX2_readPromise_4 : decode cX2_readPromise 4 = .ok (.getfield 84, 3) := by decide +kernel
theorem dX2_readPromise_7 : decode cX2_readPromise 7 = .ok (.istore_n 1, 1) := by decide +kernel
theorem dX2_readPromise_8 : decode cX2_readPromise 8 = .ok (.iload_n 1, 1) := by decide +kernel
theorem dX2_readPromise_9 : decode cX2_readPromise 9 = .ok (.bipush 8, 2) := by decide +kernel
theorem dX2_readPromise_11 : decode cX2_readPromise 11 = .ok (.if_icmp .ge 20, 3) := by decide +kernel
theorem dX2_readPromise_14 : decode cX2_readPromise 14 = .ok (.aload_n 0, 1) := by decide +kernel
theorem dX2_readPromise_15 : decode cX2_readPromise 15 = .ok (.iconst 0, 1) := by decide +kernel
theorem dX2_readPromise_16 : decode cX2_readPromise 16 = .ok (.aload_n 0, 1) := by decide +kernel
theorem dX2_readPromise_17 : decode cX2_readPromise 17 = .ok (.getfield 21, 3) := by decide +kernel
theorem dX2_readPromise_20 : decode cX2_readPromise 20 = .ok (.getfield 64, 3) := by decide +kernel
theorem dX2_readPromise_23 : decode cX2_readPromise 23 = .ok (.iconst 1, 1) := by decide +kernel
theorem dX2_readPromise_24 : decode cX2_readPromise 24 = .ok (.isub, 1) := by decide +kernel
theorem dX2_readPromise_25 : decode cX2_readPromise 25 = .ok (.invokevirtual 67, 3) := by decide +kernel
theorem dX2_readPromise_28 : decode cX2_readPromise 28 = .ok (.ifCond .ne 5, 3) := by decide +kernel
theorem dX2_readPromise_31 : decode cX2_readPromise 31 = .ok (.iconst 0, 1) := by decide +kernel
theorem dX2_readPromise_32 : decode cX2_readPromise 32 = .ok (.ireturn, 1) := by decide +kernel
theorem dX2_readPromise_33 : decode cX2_readPromise 33 = .ok (.aload_n 0, 1) := by decide +kernel
theorem dX2_readPromise_34 : decode cX2_readPromise 34 = .ok (.getfield 21, 3) := by decide +kernel
theorem dX2_readPromise_37 : decode cX2_readPromise 37 = .ok (.getfield 87, 3) := by decide +kernel
theorem dX2_readPromise_40 : decode cX2_readPromise 40 = .ok (.iload_n 1, 1) := by decide +kernel
theorem dX2_readPromise_41 : decode cX2_readPromise 41 = .ok (.aload_n 0, 1) := by decide +kernel
theorem dX2_readPromise_42 : decode cX2_readPromise 42 = .ok (.getfield 12, 3) := by decide +kernel
theorem dX2_readPromise_45 : decode cX2_readPromise 45 = .ok (.getfield 75, 3) := by decide +kernel
theorem dX2_readPromise_48 : decode cX2_readPromise 48 = .ok (.iastore, 1) := by decide +kernel
theorem dX2_readPromise_49 : decode cX2_readPromise 49 = .ok (.aload_n 0, 1) := by decide +kernel
theorem dX2_readPromise_50 : decode cX2_readPromise 50 = .ok (.iconst 0, 1) := by decide +kernel
theorem dX2_readPromise_51 : decode cX2_readPromise 51 = .ok (.iconst 5, 1) := by decide +kernel
theorem dX2_readPromise_52 : decode cX2_readPromise 52 = .ok (.invokevirtual 67, 3) := by decide +kernel
theorem dX2_readPromise_55 : decode cX2_readPromise 55 = .ok (.ifCond .ne 5, 3) := by decide +kernel
theorem dX2_readPromise_58 : decode cX2_readPromise 58 = .ok (.iconst 0, 1) := by decide +kernel
theorem dX2_readPromise_59 : decode cX2_readPromise 59 = .ok (.ireturn, 1) := by decide +kernel
theorem dX2_readPromise_60 : decode cX2_readPromise 60 = .ok (.aload_n 0, 1) := by decide +kernel
theorem dX2_readPromise_61 : decode cX2_readPromise 61 = .ok (.getfield 21, 3) := by decide +kernel
theorem dX2_readPromise_64 : decode cX2_readPromise 64 = .ok (.getfield 90, 3) := by decide +kernel
theorem dX2_readPromise_67 : decode cX2_readPromise 67 = .ok (.iload_n 1, 1) := by decide +kernel
theorem dX2_readPromise_68 : decode cX2_readPromise 68 = .ok (.aload_n 0, 1) := by decide +kernel
theorem dX2_readPromise_69 : decode cX2_readPromise 69 = .ok (.getfield 12, 3) := by decide +kernel
theorem dX2_readPromise_72 : decode cX2_readPromise 72 = .ok (.getfield 75, 3) := by decide +kernel
theorem dX2_readPromise_75 : decode cX2_readPromise 75 = .ok (.iastore, 1) := by decide +kernel
theorem dX2_readPromise_76 : decode cX2_readPromise 76 = .ok (.aload_n 0, 1) := by decide +kernel
theorem dX2_readPromise_77 : decode cX2_readPromise 77 = .ok (.iconst 0, 1) := by decide +kernel
theorem dX2_readPromise_78 : decode cX2_readPromise 78 = .ok (.iconst 5, 1) := by decide +kernel
theorem dX2_readPromise_79 : decode cX2_readPromise 79 = .ok (.invokevirtual 67, 3) := by decide +kernel
theorem dX2_readPromise_82 : decode cX2_readPromise 82 = .ok (.ifCond .ne 5, 3) := by decide +kernel
theorem dX2_readPromise_85 : decode cX2_readPromise 85 = .ok (.iconst 0, 1) := by decide +kernel
theorem dX2_readPromise_86 : decode cX2_readPromise 86 = .ok (.ireturn, 1) := by decide +kernel
theorem dX2_readPromise_87 : decode cX2_readPromise 87 = .ok (.aload_n 0, 1) := by decide +kernel
theorem dX2_readPromise_88 : decode cX2_readPromise 88 = .ok (.getfield 21, 3) := by decide +kernel
theorem dX2_readPromise_91 : decode cX2_readPromise 91 = .ok (.getfield 93, 3) := by decide +kernel
theorem dX2_readPromise_94 : decode cX2_readPromise 94 = .ok (.iload_n 1, 1) := by decide +kernel
theorem dX2_readPromise_95 : decode cX2_readPromise 95 = .ok (.aload_n 0, 1) := by decide +kernel
theorem dX2_readPromise_96 : decode cX2_readPromise 96 = .ok (.getfield 12, 3) := by decide +kernel
theorem dX2_readPromise_99 : decode cX2_readPromise 99 = .ok (.getfield 75, 3) := by decide +kernel
theorem dX2_readPromise_102 : decode cX2_readPromise 102 = .ok (.iastore, 1) := by decide +kernel
theorem dX2_readPromise_103 : decode cX2_readPromise 103 = .ok (.aload_n 0, 1) := by decide +kernel
theorem dX2_readPromise_104 : decode cX2_readPromise 104 = .ok (.iconst 1, 1) := by decide +kernel
theorem dX2_readPromise_105 : decode cX2_readPromise 105 = .ok (.bipush 9, 2) := by decide +kernel
theorem dX2_readPromise_107 : decode cX2_readPromise 107 = .ok (.invokevirtual 67, 3) := by decide +kernel
theorem dX2_readPromise_110 : decode cX2_readPromise 110 = .ok (.ifCond .ne 5, 3) := by decide +kernel
theorem dX2_readPromise_113 : decode cX2_readPromise 113 = .ok (.iconst 0, 1) := by decide +kernel
theorem dX2_readPromise_114 : decode cX2_readPromise 114 = .ok (.ireturn, 1) := by decide +kernel
theorem dX2_readPromise_115 : decode cX2_readPromise 115 = .ok (.aload_n 0, 1) := by decide +kernel
theorem dX2_readPromise_116 : decode cX2_readPromise 116 = .ok (.getfield 21, 3) := by decide +kernel
theorem dX2_readPromise_119 : decode cX2_readPromise 119 = .ok (.getfield 96, 3) := by decide +kernel
theorem dX2_readPromise_122 : decode cX2_readPromise 122 = .ok (.iload_n 1, 1) := by decide +kernel
theorem dX2_readPromise_123 : decode cX2_readPromise 123 = .ok (.aload_n 0, 1) := by decide +kernel
theorem dX2_readPromise_124 : decode cX2_readPromise 124 = .ok (.getfield 12, 3) := by decide +kernel
theorem dX2_readPromise_127 : decode cX2_readPromise 127 = .ok (.getfield 75, 3) := by decide +kernel
theorem dX2_readPromise_130 : decode cX2_readPromise 130 = .ok (.iastore, 1) := by decide +kernel
theorem dX2_readPromise_131 : decode cX2_readPromise 131 = .ok (.aload_n 0, 1) := by decide +kernel
theorem dX2_readPromise_132 : decode cX2_readPromise 132 = .ok (.iconst 0, 1) := by decide +kernel
theorem dX2_readPromise_133 : decode cX2_readPromise 133 = .ok (.bipush 99, 2) := by decide +kernel
theorem dX2_readPromise_135 : decode cX2_readPromise 135 = .ok (.invokevirtual 67, 3) := by decide +kernel
theorem dX2_readPromise_138 : decode cX2_readPromise 138 = .ok (.ifCond .ne 5, 3) := by decide +kernel
theorem dX2_readPromise_141 : decode cX2_readPromise 141 = .ok (.iconst 0, 1) := by decide +kernel
theorem dX2_readPromise_142 : decode cX2_readPromise 142 = .ok (.ireturn, 1) := by decide +kernel
theorem dX2_readPromise_143 : decode cX2_readPromise 143 = .ok (.aload_n 0, 1) := by decide +kernel
theorem dX2_readPromise_144 : decode cX2_readPromise 144 = .ok (.getfield 21, 3) := by decide +kernel
theorem dX2_readPromise_147 : decode cX2_readPromise 147 = .ok (.getfield 99, 3) := by decide +kernel
theorem dX2_readPromise_150 : decode cX2_readPromise 150 = .ok (.iload_n 1, 1) := by decide +kernel
theorem dX2_readPromise_151 : decode cX2_readPromise 151 = .ok (.aload_n 0, 1) := by decide +kernel
theorem dX2_readPromise_152 : decode cX2_readPromise 152 = .ok (.getfield 12, 3) := by decide +kernel
theorem dX2_readPromise_155 : decode cX2_readPromise 155 = .ok (.getfield 75, 3) := by decide +kernel
theorem dX2_readPromise_158 : decode cX2_readPromise 158 = .ok (.iastore, 1) := by decide +kernel
theorem dX2_readPromise_159 : decode cX2_readPromise 159 = .ok (.aload_n 0, 1) := by decide +kernel
theorem dX2_readPromise_160 : decode cX2_readPromise 160 = .ok (.getfield 21, 3) := by decide +kernel
theorem dX2_readPromise_163 : decode cX2_readPromise 163 = .ok (.getfield 102, 3) := by decide +kernel
theorem dX2_readPromise_166 : decode cX2_readPromise 166 = .ok (.iload_n 1, 1) := by decide +kernel
theorem dX2_readPromise_167 : decode cX2_readPromise 167 = .ok (.iconst 0, 1) := by decide +kernel
theorem dX2_readPromise_168 : decode cX2_readPromise 168 = .ok (.iastore, 1) := by decide +kernel
theorem dX2_readPromise_169 : decode cX2_readPromise 169 = .ok (.aload_n 0, 1) := by decide +kernel
theorem dX2_readPromise_170 : decode cX2_readPromise 170 = .ok (.getfield 21, 3) := by decide +kernel
theorem dX2_readPromise_173 : decode cX2_readPromise 173 = .ok (.dup, 1) := by decide +kernel
theorem dX2_readPromise_174 : decode cX2_readPromise 174 = .ok (.getfield 84, 3) := by decide +kernel
theorem dX2_readPromise_177 : decode cX2_readPromise 177 = .ok (.iconst 1, 1) := by decide +kernel
theorem dX2_readPromise_178 : decode cX2_readPromise 178 = .ok (.iadd, 1) := by decide +kernel
theorem dX2_readPromise_179 : decode cX2_readPromise 179 = .ok (.putfield 84, 3) := by decide +kernel
theorem dX2_readPromise_182 : decode cX2_readPromise 182 = .ok (.aload_n 0, 1) := by decide +kernel
theorem dX2_readPromise_183 : decode cX2_readPromise 183 = .ok (.iload_n 1, 1) := by decide +kernel
theorem dX2_readPromise_184 : decode cX2_readPromise 184 = .ok (.invokevirtual 105, 3) := by decide +kernel
theorem dX2_readPromise_187 : decode cX2_readPromise 187 = .ok (.ireturn, 1) := by decide +kernel
theorem dX2_readWords_0 : decode cX2_readWords 0 = .ok (.iconst 0, 1) := by decide +kernel
theorem dX2_readWords_1 : decode cX2_readWords 1 = .ok (.istore_n 2, 1) := by decide +kernel
theorem dX2_readWords_2 : decode cX2_readWords 2 = .ok (.iload_n 2, 1) := by decide +kernel
theorem dX2_readWords_3 : decode cX2_readWords 3 = .ok (.iconst 4, 1) := by decide +kernel
theorem dX2_readWords_4 : decode cX2_readWords 4 = .ok (.if_icmp .gt 101, 3) := by decide +kernel
theorem dX2_readWords_7 : decode cX2_readWords 7 = .ok (.aload_n 0, 1) := by decide +kernel
theorem dX2_readWords_8 : decode cX2_readWords 8 = .ok (.getfield 12, 3) := by decide +kernel
theorem dX2_readWords_11 : decode cX2_readWords 11 = .ok (.invokevirtual 38, 3) := by decide +kernel
theorem dX2_readWords_14 : decode cX2_readWords 14 = .ok (.aload_n 0, 1) := by decide +kernel
theorem dX2_readWords_15 : decode cX2_readWords 15 = .ok (.getfield 12, 3) := by decide +kernel
theorem dX2_readWords_18 : decode cX2_readWords 18 = .ok (.getfield 41, 3) := by decide +kernel
theorem dX2_readWords_21 : decode cX2_readWords 21 = .ok (.bipush 59, 2) := by decide +kernel
theorem dX2_readWords_23 : decode cX2_readWords 23 = .ok (.if_icmp .ne 13, 3) := by decide +kernel
theorem dX2_readWords_26 : decode cX2_readWords 26 = .ok (.iload_n 2, 1) := by decide +kernel
theorem dX2_readWords_27 : decode cX2_readWords 27 = .ok (.ifCond .le 7, 3) := by decide +kernel
theorem dX2_readWords_30 : decode cX2_readWords 30 = .ok (.iconst 1, 1) := by decide +kernel
theorem dX2_readWords_31 : decode cX2_readWords 31 = .ok (.goto 4, 3) := by decide +kernel
theorem dX2_readWords_34 : decode cX2_readWords 34 = .ok (.iconst 0, 1) := by decide +kernel
theorem dX2_readWords_35 : decode cX2_readWords 35 = .ok (.ireturn, 1) := by decide +kernel
theorem dX2_readWords_36 : decode cX2_readWords 36 = .ok (.aload_n 0, 1) := by decide +kernel
theorem dX2_readWords_37 : decode cX2_readWords 37 = .ok (.getfield 12, 3) := by decide +kernel
theorem dX2_readWords_40 : decode cX2_readWords 40 = .ok (.getfield 41, 3) := by decide +kernel
theorem dX2_readWords_43 : decode cX2_readWords 43 = .ok (.bipush 48, 2) := by decide +kernel
theorem dX2_readWords_45 : decode cX2_readWords 45 = .ok (.if_icmp .ne 20, 3) := by decide +kernel
theorem dX2_readWords_48 : decode cX2_readWords 48 = .ok (.aload_n 0, 1) := by decide +kernel
theorem dX2_readWords_49 : decode cX2_readWords 49 = .ok (.getfield 12, 3) := by decide +kernel
theorem dX2_readWords_52 : decode cX2_readWords 52 = .ok (.getfield 75, 3) := by decide +kernel
theorem dX2_readWords_55 : decode cX2_readWords 55 = .ok (.bipush 9, 2) := by decide +kernel
theorem dX2_readWords_57 : decode cX2_readWords 57 = .ok (.if_icmp .gt 8, 3) := by decide +kernel
theorem dX2_readWords_60 : decode cX2_readWords 60 = .ok (.iload_n 2, 1) := by decide +kernel
theorem dX2_readWords_61 : decode cX2_readWords 61 = .ok (.iconst 4, 1) := by decide +kernel
theorem dX2_readWords_62 : decode cX2_readWords 62 = .ok (.if_icmp .ne 5, 3) := by decide +kernel
theorem dX2_readWords_65 : decode cX2_readWords 65 = .ok (.iconst 0, 1) := by decide +kernel
theorem dX2_readWords_66 : decode cX2_readWords 66 = .ok (.ireturn, 1) := by decide +kernel
theorem dX2_readWords_67 : decode cX2_readWords 67 = .ok (.aload_n 0, 1) := by decide +kernel
theorem dX2_readWords_68 : decode cX2_readWords 68 = .ok (.getfield 21, 3) := by decide +kernel
theorem dX2_readWords_71 : decode cX2_readWords 71 = .ok (.getfield 109, 3) := by decide +kernel
theorem dX2_readWords_74 : decode cX2_readWords 74 = .ok (.iload_n 1, 1) := by decide +kernel
theorem dX2_readWords_75 : decode cX2_readWords 75 = .ok (.iconst 4, 1) := by decide +kernel
theorem dX2_readWords_76 : decode cX2_readWords 76 = .ok (.imul, 1) := by decide +kernel
theorem dX2_readWords_77 : decode cX2_readWords 77 = .ok (.iload_n 2, 1) := by decide +kernel
theorem dX2_readWords_78 : decode cX2_readWords 78 = .ok (.iadd, 1) := by decide +kernel
theorem dX2_readWords_79 : decode cX2_readWords 79 = .ok (.aload_n 0, 1) := by decide +kernel
theorem dX2_readWords_80 : decode cX2_readWords 80 = .ok (.getfield 12, 3) := by decide +kernel
theorem dX2_readWords_83 : decode cX2_readWords 83 = .ok (.getfield 75, 3) := by decide +kernel
theorem dX2_readWords_86 : decode cX2_readWords 86 = .ok (.iastore, 1) := by decide +kernel
theorem dX2_readWords_87 : decode cX2_readWords 87 = .ok (.aload_n 0, 1) := by decide +kernel
theorem dX2_readWords_88 : decode cX2_readWords 88 = .ok (.getfield 21, 3) := by decide +kernel
theorem dX2_readWords_91 : decode cX2_readWords 91 = .ok (.getfield 112, 3) := by decide +kernel
theorem dX2_readWords_94 : decode cX2_readWords 94 = .ok (.iload_n 1, 1) := by decide +kernel
theorem dX2_readWords_95 : decode cX2_readWords 95 = .ok (.iload_n 2, 1) := by decide +kernel
theorem dX2_readWords_96 : decode cX2_readWords 96 = .ok (.iconst 1, 1) := by decide +kernel
theorem dX2_readWords_97 : decode cX2_readWords 97 = .ok (.iadd, 1) := by decide +kernel
theorem dX2_readWords_98 : decode cX2_readWords 98 = .ok (.iastore, 1) := by decide +kernel
theorem dX2_readWords_99 : decode cX2_readWords 99 = .ok (.iinc 2 1, 3) := by decide +kernel
theorem dX2_readWords_102 : decode cX2_readWords 102 = .ok (.goto (-100), 3) := by decide +kernel
theorem dX2_readWords_105 : decode cX2_readWords 105 = .ok (.iconst 0, 1) := by decide +kernel
theorem dX2_readWords_106 : decode cX2_readWords 106 = .ok (.ireturn, 1) := by decide +kernel
theorem dX2_readClash_0 : decode cX2_readClash 0 = .ok (.aload_n 0, 1) := by decide +kernel
theorem dX2_readClash_1 : decode cX2_readClash 1 = .ok (.iconst 0, 1) := by decide +kernel
theorem dX2_readClash_2 : decode cX2_readClash 2 = .ok (.aload_n 0, 1) := by decide +kernel
theorem dX2_readClash_3 : decode cX2_readClash 3 = .ok (.getfield 21, 3) := by decide +kernel
theorem dX2_readClash_6 : decode cX2_readClash 6 = .ok (.getfield 84, 3) := by decide +kernel
theorem dX2_readClash_9 : decode cX2_readClash 9 = .ok (.iconst 1, 1) := by decide +kernel
theorem dX2_readClash_10 : decode cX2_readClash 10 = .ok (.isub, 1) := by decide +kernel
theorem dX2_readClash_11 : decode cX2_readClash 11 = .ok (.invokevirtual 67, 3) := by decide +kernel
theorem dX2_readClash_14 : decode cX2_readClash 14 = .ok (.ifCond .ne 5, 3) := by decide +kernel
theorem dX2_readClash_17 : decode cX2_readClash 17 = .ok (.iconst 0, 1) := by decide +kernel
theorem dX2_readClash_18 : decode cX2_readClash 18 = .ok (.ireturn, 1) := by decide +kernel
theorem dX2_readClash_19 : decode cX2_readClash 19 = .ok (.aload_n 0, 1) := by decide +kernel
theorem dX2_readClash_20 : decode cX2_readClash 20 = .ok (.getfield 12, 3) := by decide +kernel
theorem dX2_readClash_23 : decode cX2_readClash 23 = .ok (.getfield 75, 3) := by decide +kernel
theorem dX2_readClash_26 : decode cX2_readClash 26 = .ok (.istore_n 1, 1) := by decide +kernel
theorem dX2_readClash_27 : decode cX2_readClash 27 = .ok (.aload_n 0, 1) := by decide +kernel
theorem dX2_readClash_28 : decode cX2_readClash 28 = .ok (.iconst 0, 1) := by decide +kernel
theorem dX2_readClash_29 : decode cX2_readClash 29 = .ok (.aload_n 0, 1) := by decide +kernel
theorem dX2_readClash_30 : decode cX2_readClash 30 = .ok (.getfield 21, 3) := by decide +kernel
theorem dX2_readClash_33 : decode cX2_readClash 33 = .ok (.getfield 84, 3) := by decide +kernel
theorem dX2_readClash_36 : decode cX2_readClash 36 = .ok (.iconst 1, 1) := by decide +kernel
theorem dX2_readClash_37 : decode cX2_readClash 37 = .ok (.isub, 1) := by decide +kernel
theorem dX2_readClash_38 : decode cX2_readClash 38 = .ok (.invokevirtual 67, 3) := by decide +kernel
theorem dX2_readClash_41 : decode cX2_readClash 41 = .ok (.ifCond .eq 14, 3) := by decide +kernel
theorem dX2_readClash_44 : decode cX2_readClash 44 = .ok (.aload_n 0, 1) := by decide +kernel
theorem dX2_readClash_45 : decode cX2_readClash 45 = .ok (.getfield 12, 3) := by decide +kernel
theorem dX2_readClash_48 : decode cX2_readClash 48 = .ok (.getfield 75, 3) := by decide +kernel
theorem dX2_readClash_51 : decode cX2_readClash 51 = .ok (.iload_n 1, 1) := by decide +kernel
theorem dX2_readClash_52 : decode cX2_readClash 52 = .ok (.if_icmp .ne 5, 3) := by decide +kernel
theorem dX2_readClash_55 : decode cX2_readClash 55 = .ok (.iconst 0, 1) := by decide +kernel
theorem dX2_readClash_56 : decode cX2_readClash 56 = .ok (.ireturn, 1) := by decide +kernel
theorem dX2_readClash_57 : decode cX2_readClash 57 = .ok (.aload_n 0, 1) := by decide +kernel
theorem dX2_readClash_58 : decode cX2_readClash 58 = .ok (.getfield 12, 3) := by decide +kernel
theorem dX2_readClash_61 : decode cX2_readClash 61 = .ok (.getfield 75, 3) := by decide +kernel
theorem dX2_readClash_64 : decode cX2_readClash 64 = .ok (.istore_n 2, 1) := by decide +kernel
theorem dX2_readClash_65 : decode cX2_readClash 65 = .ok (.aload_n 0, 1) := by decide +kernel
theorem dX2_readClash_66 : decode cX2_readClash 66 = .ok (.getfield 21, 3) := by decide +kernel
theorem dX2_readClash_69 : decode cX2_readClash 69 = .ok (.getfield 102, 3) := by decide +kernel
theorem dX2_readClash_72 : decode cX2_readClash 72 = .ok (.iload_n 1, 1) := by decide +kernel
theorem dX2_readClash_73 : decode cX2_readClash 73 = .ok (.dup2, 1) := by decide +kernel
theorem dX2_readClash_74 : decode cX2_readClash 74 = .ok (.iaload, 1) := by decide +kernel
theorem dX2_readClash_75 : decode cX2_readClash 75 = .ok (.iconst 1, 1) := by decide +kernel
theorem dX2_readClash_76 : decode cX2_readClash 76 = .ok (.iload_n 2, 1) := by decide +kernel
theorem dX2_readClash_77 : decode cX2_readClash 77 = .ok (.ishl, 1) := by decide +kernel
theorem dX2_readClash_78 : decode cX2_readClash 78 = .ok (.ior, 1) := by decide +kernel
theorem dX2_readClash_79 : decode cX2_readClash 79 = .ok (.iastore, 1) := by decide +kernel
theorem dX2_readClash_80 : decode cX2_readClash 80 = .ok (.aload_n 0, 1) := by decide +kernel
theorem dX2_readClash_81 : decode cX2_readClash 81 = .ok (.getfield 21, 3) := by decide +kernel
theorem dX2_readClash_84 : decode cX2_readClash 84 = .ok (.getfield 102, 3) := by decide +kernel
theorem dX2_readClash_87 : decode cX2_readClash 87 = .ok (.iload_n 2, 1) := by decide +kernel
theorem dX2_readClash_88 : decode cX2_readClash 88 = .ok (.dup2, 1) := by decide +kernel
theorem dX2_readClash_89 : decode cX2_readClash 89 = .ok (.iaload, 1) := by decide +kernel
theorem dX2_readClash_90 : decode cX2_readClash 90 = .ok (.iconst 1, 1) := by decide +kernel
theorem dX2_readClash_91 : decode cX2_readClash 91 = .ok (.iload_n 1, 1) := by decide +kernel
theorem dX2_readClash_92 : decode cX2_readClash 92 = .ok (.ishl, 1) := by decide +kernel
theorem dX2_readClash_93 : decode cX2_readClash 93 = .ok (.ior, 1) := by decide +kernel
theorem dX2_readClash_94 : decode cX2_readClash 94 = .ok (.iastore, 1) := by decide +kernel
theorem dX2_readClash_95 : decode cX2_readClash 95 = .ok (.aload_n 0, 1) := by decide +kernel
theorem dX2_readClash_96 : decode cX2_readClash 96 = .ok (.invokevirtual 81, 3) := by decide +kernel
theorem dX2_readClash_99 : decode cX2_readClash 99 = .ok (.ireturn, 1) := by decide +kernel
theorem dX2_readAcid_0 : decode cX2_readAcid 0 = .ok (.aload_n 0, 1) := by decide +kernel
theorem dX2_readAcid_1 : decode cX2_readAcid 1 = .ok (.getfield 25, 3) := by decide +kernel
theorem dX2_readAcid_4 : decode cX2_readAcid 4 = .ok (.ifCond .ne 13, 3) := by decide +kernel
theorem dX2_readAcid_7 : decode cX2_readAcid 7 = .ok (.aload_n 0, 1) := by decide +kernel
theorem dX2_readAcid_8 : decode cX2_readAcid 8 = .ok (.iconst 1, 1) := by decide +kernel
theorem dX2_readAcid_9 : decode cX2_readAcid 9 = .ok (.bipush 20, 2) := by decide +kernel
theorem dX2_readAcid_11 : decode cX2_readAcid 11 = .ok (.invokevirtual 67, 3) := by decide +kernel
theorem dX2_readAcid_14 : decode cX2_readAcid 14 = .ok (.ifCond .ne 5, 3) := by decide +kernel
theorem dX2_readAcid_17 : decode cX2_readAcid 17 = .ok (.iconst 0, 1) := by decide +kernel
theorem dX2_readAcid_18 : decode cX2_readAcid 18 = .ok (.ireturn, 1) := by decide +kernel
theorem dX2_readAcid_19 : decode cX2_readAcid 19 = .ok (.aload_n 0, 1) := by decide +kernel
theorem dX2_readAcid_20 : decode cX2_readAcid 20 = .ok (.iconst 1, 1) := by decide +kernel
theorem dX2_readAcid_21 : decode cX2_readAcid 21 = .ok (.putfield 25, 3) := by decide +kernel
theorem dX2_readAcid_24 : decode cX2_readAcid 24 = .ok (.aload_n 0, 1) := by decide +kernel
theorem dX2_readAcid_25 : decode cX2_readAcid 25 = .ok (.getfield 21, 3) := by decide +kernel
theorem dX2_readAcid_28 : decode cX2_readAcid 28 = .ok (.aload_n 0, 1) := by decide +kernel
theorem dX2_readAcid_29 : decode cX2_readAcid 29 = .ok (.getfield 12, 3) := by decide +kernel
theorem dX2_readAcid_32 : decode cX2_readAcid 32 = .ok (.getfield 75, 3) := by decide +kernel
theorem dX2_readAcid_35 : decode cX2_readAcid 35 = .ok (.putfield 115, 3) := by decide +kernel
theorem dX2_readAcid_38 : decode cX2_readAcid 38 = .ok (.aload_n 0, 1) := by decide +kernel
theorem dX2_readAcid_39 : decode cX2_readAcid 39 = .ok (.invokevirtual 81, 3) := by decide +kernel
theorem dX2_readAcid_42 : decode cX2_readAcid 42 = .ok (.ireturn, 1) := by decide +kernel
theorem dX2_readSlide_0 : decode cX2_readSlide 0 = .ok (.aload_n 0, 1) := by decide +kernel
theorem dX2_readSlide_1 : decode cX2_readSlide 1 = .ok (.getfield 29, 3) := by decide +kernel
theorem dX2_readSlide_4 : decode cX2_readSlide 4 = .ok (.ifCond .ne 13, 3) := by decide +kernel
theorem dX2_readSlide_7 : decode cX2_readSlide 7 = .ok (.aload_n 0, 1) := by decide +kernel
theorem dX2_readSlide_8 : decode cX2_readSlide 8 = .ok (.iconst 1, 1) := by decide +kernel
theorem dX2_readSlide_9 : decode cX2_readSlide 9 = .ok (.bipush 27, 2) := by decide +kernel
theorem dX2_readSlide_11 : decode cX2_readSlide 11 = .ok (.invokevirtual 67, 3) := by decide +kernel
theorem dX2_readSlide_14 : decode cX2_readSlide 14 = .ok (.ifCond .ne 5, 3) := by decide +kernel
theorem dX2_readSlide_17 : decode cX2_readSlide 17 = .ok (.iconst 0, 1) := by decide +kernel
theorem dX2_readSlide_18 : decode cX2_readSlide 18 = .ok (.ireturn, 1) := by decide +kernel
theorem dX2_readSlide_19 : decode cX2_readSlide 19 = .ok (.aload_n 0, 1) := by decide +kernel
theorem dX2_readSlide_20 : decode cX2_readSlide 20 = .ok (.iconst 1, 1) := by decide +kernel
theorem dX2_readSlide_21 : decode cX2_readSlide 21 = .ok (.putfield 29, 3) := by decide +kernel
theorem dX2_readSlide_24 : decode cX2_readSlide 24 = .ok (.aload_n 0, 1) := by decide +kernel
theorem dX2_readSlide_25 : decode cX2_readSlide 25 = .ok (.getfield 21, 3) := by decide +kernel
theorem dX2_readSlide_28 : decode cX2_readSlide 28 = .ok (.aload_n 0, 1) := by decide +kernel
theorem dX2_readSlide_29 : decode cX2_readSlide 29 = .ok (.getfield 12, 3) := by decide +kernel
theorem dX2_readSlide_32 : decode cX2_readSlide 32 = .ok (.getfield 75, 3) := by decide +kernel
theorem dX2_readSlide_35 : decode cX2_readSlide 35 = .ok (.putfield 118, 3) := by decide +kernel
theorem dX2_readSlide_38 : decode cX2_readSlide 38 = .ok (.aload_n 0, 1) := by decide +kernel
theorem dX2_readSlide_39 : decode cX2_readSlide 39 = .ok (.invokevirtual 81, 3) := by decide +kernel
theorem dX2_readSlide_42 : decode cX2_readSlide 42 = .ok (.ireturn, 1) := by decide +kernel
theorem dX2_readNumber_0 : decode cX2_readNumber 0 = .ok (.aload_n 0, 1) := by decide +kernel
theorem dX2_readNumber_1 : decode cX2_readNumber 1 = .ok (.getfield 12, 3) := by decide +kernel
theorem dX2_readNumber_4 : decode cX2_readNumber 4 = .ok (.invokevirtual 38, 3) := by decide +kernel
theorem dX2_readNumber_7 : decode cX2_readNumber 7 = .ok (.aload_n 0, 1) := by decide +kernel
theorem dX2_readNumber_8 : decode cX2_readNumber 8 = .ok (.getfield 12, 3) := by decide +kernel
theorem dX2_readNumber_11 : decode cX2_readNumber 11 = .ok (.getfield 41, 3) := by decide +kernel
theorem dX2_readNumber_14 : decode cX2_readNumber 14 = .ok (.bipush 48, 2) := by decide +kernel
theorem dX2_readNumber_16 : decode cX2_readNumber 16 = .ok (.if_icmp .ne 29, 3) := by decide +kernel
theorem dX2_readNumber_19 : decode cX2_readNumber 19 = .ok (.aload_n 0, 1) := by decide +kernel
theorem dX2_readNumber_20 : decode cX2_readNumber 20 = .ok (.getfield 12, 3) := by decide +kernel
theorem dX2_readNumber_23 : decode cX2_readNumber 23 = .ok (.getfield 75, 3) := by decide +kernel
theorem dX2_readNumber_26 : decode cX2_readNumber 26 = .ok (.iload_n 1, 1) := by decide +kernel
theorem dX2_readNumber_27 : decode cX2_readNumber 27 = .ok (.if_icmp .lt 18, 3) := by decide +kernel
theorem dX2_readNumber_30 : decode cX2_readNumber 30 = .ok (.aload_n 0, 1) := by decide +kernel
theorem dX2_readNumber_31 : decode cX2_readNumber 31 = .ok (.getfield 12, 3) := by decide +kernel
theorem dX2_readNumber_34 : decode cX2_readNumber 34 = .ok (.getfield 75, 3) := by decide +kernel
theorem dX2_readNumber_37 : decode cX2_readNumber 37 = .ok (.iload_n 2, 1) := by decide +kernel
theorem dX2_readNumber_38 : decode cX2_readNumber 38 = .ok (.if_icmp .gt 7, 3) := by decide +kernel
theorem dX2_readNumber_41 : decode cX2_readNumber 41 = .ok (.iconst 1, 1) := by decide +kernel
theorem dX2_readNumber_42 : decode cX2_readNumber 42 = .ok (.goto 4, 3) := by decide +kernel
theorem dX2_readNumber_45 : decode cX2_readNumber 45 = .ok (.iconst 0, 1) := by decide +kernel
theorem dX2_readNumber_46 : decode cX2_readNumber 46 = .ok (.ireturn, 1) := by decide +kernel
theorem dX2_readEnd_0 : decode cX2_readEnd 0 = .ok (.aload_n 0, 1) := by decide +kernel
theorem dX2_readEnd_1 : decode cX2_readEnd 1 = .ok (.getfield 12, 3) := by decide +kernel
theorem dX2_readEnd_4 : decode cX2_readEnd 4 = .ok (.invokevirtual 38, 3) := by decide +kernel
theorem dX2_readEnd_7 : decode cX2_readEnd 7 = .ok (.aload_n 0, 1) := by decide +kernel
theorem dX2_readEnd_8 : decode cX2_readEnd 8 = .ok (.getfield 12, 3) := by decide +kernel
theorem dX2_readEnd_11 : decode cX2_readEnd 11 = .ok (.getfield 41, 3) := by decide +kernel
theorem dX2_readEnd_14 : decode cX2_readEnd 14 = .ok (.bipush 59, 2) := by decide +kernel
theorem dX2_readEnd_16 : decode cX2_readEnd 16 = .ok (.if_icmp .ne 7, 3) := by decide +kernel
theorem dX2_readEnd_19 : decode cX2_readEnd 19 = .ok (.iconst 1, 1) := by decide +kernel
theorem dX2_readEnd_20 : decode cX2_readEnd 20 = .ok (.goto 4, 3) := by decide +kernel
theorem dX2_readEnd_23 : decode cX2_readEnd 23 = .ok (.iconst 0, 1) := by decide +kernel
theorem dX2_readEnd_24 : decode cX2_readEnd 24 = .ok (.ireturn, 1) := by decide +kernel
theorem dX3_init_0 : decode cX3_init 0 = .ok (.aload_n 0, 1) := by decide +kernel
theorem dX3_init_1 : decode cX3_init 1 = .ok (.invokespecial 3, 3) := by decide +kernel
theorem dX3_init_4 : decode cX3_init 4 = .ok (.aload_n 0, 1) := by decide +kernel
theorem dX3_init_5 : decode cX3_init 5 = .ok (.sipush 200, 3) := by decide +kernel
theorem dX3_init_8 : decode cX3_init 8 = .ok (.newarray .int, 2) := by decide +kernel
theorem dX3_init_10 : decode cX3_init 10 = .ok (.putfield 9, 3) := by decide +kernel
theorem dX3_init_13 : decode cX3_init 13 = .ok (.aload_n 0, 1) := by decide +kernel
theorem dX3_init_14 : decode cX3_init 14 = .ok (.iconst 0, 1) := by decide +kernel
theorem dX3_init_15 : decode cX3_init 15 = .ok (.putfield 15, 3) := by decide +kernel
theorem dX3_init_18 : decode cX3_init 18 = .ok (.aload_n 0, 1) := by decide +kernel
theorem dX3_init_19 : decode cX3_init 19 = .ok (.iconst (-1), 1) := by decide +kernel
theorem dX3_init_20 : decode cX3_init 20 = .ok (.putfield 19, 3) := by decide +kernel
theorem dX3_init_23 : decode cX3_init 23 = .ok (.aload_n 0, 1) := by decide +kernel
theorem dX3_init_24 : decode cX3_init 24 = .ok (.iconst 0, 1) := by decide +kernel
theorem dX3_init_25 : decode cX3_init 25 = .ok (.putfield 22, 3) := by decide +kernel
theorem dX3_init_28 : decode cX3_init 28 = .ok (.aload_n 0, 1) := by decide +kernel
theorem dX3_init_29 : decode cX3_init 29 = .ok (.iconst 0, 1) := by decide +kernel
theorem dX3_init_30 : decode cX3_init 30 = .ok (.putfield 25, 3) := by decide +kernel
theorem dX3_init_33 : decode cX3_init 33 = .ok (.aload_n 0, 1) := by decide +kernel
theorem dX3_init_34 : decode cX3_init 34 = .ok (.iconst 0, 1) := by decide +kernel
theorem dX3_init_35 : decode cX3_init 35 = .ok (.putfield 28, 3) := by decide +kernel
theorem dX3_init_38 : decode cX3_init 38 = .ok (.return_, 1) := by decide +kernel
theorem dX3_add_0 : decode cX3_add 0 = .ok (.aload_n 0, 1) := by decide +kernel
theorem dX3_add_1 : decode cX3_add 1 = .ok (.getfield 15, 3) := by decide +kernel
theorem dX3_add_4 : decode cX3_add 4 = .ok (.ifCond .lt 13, 3) := by decide +kernel
theorem dX3_add_7 : decode cX3_add 7 = .ok (.aload_n 0, 1) := by decide +kernel
theorem dX3_add_8 : decode cX3_add 8 = .ok (.getfield 15, 3) := by decide +kernel
theorem dX3_add_11 : decode cX3_add 11 = .ok (.sipush 200, 3) := by decide +kernel
theorem dX3_add_14 : decode cX3_add 14 = .ok (.if_icmp .lt 5, 3) := by decide +kernel
theorem dX3_add_17 : decode cX3_add 17 = .ok (.iconst 0, 1) := by decide +kernel
theorem dX3_add_18 : decode cX3_add 18 = .ok (.ireturn, 1) := by decide +kernel
theorem dX3_add_19 : decode cX3_add 19 = .ok (.aload_n 0, 1) := by decide +kernel
theorem dX3_add_20 : decode cX3_add 20 = .ok (.getfield 9, 3) := by decide +kernel
theorem dX3_add_23 : decode cX3_add 23 = .ok (.aload_n 0, 1) := by decide +kernel
theorem dX3_add_24 : decode cX3_add 24 = .ok (.getfield 15, 3) := by decide +kernel
theorem dX3_add_27 : decode cX3_add 27 = .ok (.iload_n 1, 1) := by decide +kernel
theorem dX3_add_28 : decode cX3_add 28 = .ok (.iastore, 1) := by decide +kernel
theorem dX3_add_29 : decode cX3_add 29 = .ok (.aload_n 0, 1) := by decide +kernel
theorem dX3_add_30 : decode cX3_add 30 = .ok (.dup, 1) := by decide +kernel
theorem dX3_add_31 : decode cX3_add 31 = .ok (.getfield 15, 3) := by decide +kernel
theorem dX3_add_34 : decode cX3_add 34 = .ok (.iconst 1, 1) := by decide +kernel
theorem dX3_add_35 : decode cX3_add 35 = .ok (.iadd, 1) := by decide +kernel
theorem dX3_add_36 : decode cX3_add 36 = .ok (.putfield 15, 3) := by decide +kernel
theorem dX3_add_39 : decode cX3_add 39 = .ok (.iconst 1, 1) := by decide +kernel
theorem dX3_add_40 : decode cX3_add 40 = .ok (.ireturn, 1) := by decide +kernel
theorem dX3_toFront_0 : decode cX3_toFront 0 = .ok (.aload_n 0, 1) := by decide +kernel
theorem dX3_toFront_1 : decode cX3_toFront 1 = .ok (.iconst 0, 1) := by decide +kernel
theorem dX3_toFront_2 : decode cX3_toFront 2 = .ok (.putfield 25, 3) := by decide +kernel
theorem dX3_toFront_5 : decode cX3_toFront 5 = .ok (.return_, 1) := by decide +kernel
theorem dX3_readToken_0 : decode cX3_readToken 0 = .ok (.aload_n 0, 1) := by decide +kernel
theorem dX3_readToken_1 : decode cX3_readToken 1 = .ok (.aload_n 0, 1) := by decide +kernel
theorem dX3_readToken_2 : decode cX3_readToken 2 = .ok (.getfield 25, 3) := by decide +kernel
theorem dX3_readToken_5 : decode cX3_readToken 5 = .ok (.putfield 22, 3) := by decide +kernel
theorem dX3_readToken_8 : decode cX3_readToken 8 = .ok (.aload_n 0, 1) := by decide +kernel
theorem dX3_readToken_9 : decode cX3_readToken 9 = .ok (.getfield 22, 3) := by decide +kernel
theorem dX3_readToken_12 : decode cX3_readToken 12 = .ok (.aload_n 0, 1) := by decide +kernel
theorem dX3_readToken_13 : decode cX3_readToken 13 = .ok (.getfield 15, 3) := by decide +kernel
theorem dX3_readToken_16 : decode cX3_readToken 16 = .ok (.if_icmp .ge 29, 3) := by decide +kernel
theorem dX3_readToken_19 : decode cX3_readToken 19 = .ok (.aload_n 0, 1) := by decide +kernel
theorem dX3_readToken_20 : decode cX3_readToken 20 = .ok (.aload_n 0, 1) := by decide +kernel
theorem dX3_readToken_21 : decode cX3_readToken 21 = .ok (.getfield 22, 3) := by decide +kernel
theorem dX3_readToken_24 : decode cX3_readToken 24 = .ok (.invokevirtual 31, 3) := by decide +kernel
theorem dX3_readToken_27 : decode cX3_readToken 27 = .ok (.bipush 32, 2) := by decide +kernel
theorem dX3_readToken_29 : decode cX3_readToken 29 = .ok (.if_icmp .ne 16, 3) := by decide +kernel
theorem dX3_readToken_32 : decode cX3_readToken 32 = .ok (.aload_n 0, 1) := by decide +kernel
theorem dX3_readToken_33 : decode cX3_readToken 33 = .ok (.dup, 1) := by decide +kernel
theorem dX3_readToken_34 : decode cX3_readToken 34 = .ok (.getfield 22, 3) := by decide +kernel
theorem dX3_readToken_37 : decode cX3_readToken 37 = .ok (.iconst 1, 1) := by decide +kernel
theorem dX3_readToken_38 : decode cX3_readToken 38 = .ok (.iadd, 1) := by decide +kernel
theorem dX3_readToken_39 : decode cX3_readToken 39 = .ok (.putfield 22, 3) := by decide +kernel
theorem dX3_readToken_42 : decode cX3_readToken 42 = .ok (.goto (-34), 3) := by decide +kernel
theorem dX3_readToken_45 : decode cX3_readToken 45 = .ok (.aload_n 0, 1) := by decide +kernel
theorem dX3_readToken_46 : decode cX3_readToken 46 = .ok (.aload_n 0, 1) := by decide +kernel
theorem dX3_readToken_47 : decode cX3_readToken 47 = .ok (.getfield 22, 3) := by decide +kernel
theorem dX3_readToken_50 : decode cX3_readToken 50 = .ok (.iconst 1, 1) := by decide +kernel
theorem dX3_readToken_51 : decode cX3_readToken 51 = .ok (.iadd, 1) := by decide +kernel
theorem dX3_readToken_52 : decode cX3_readToken 52 = .ok (.aload_n 0, 1) := by decide +kernel
theorem dX3_readToken_53 : decode cX3_readToken 53 = .ok (.getfield 15, 3) := by decide +kernel
theorem dX3_readToken_56 : decode cX3_readToken 56 = .ok (.invokestatic 35, 3) := by decide +kernel
theorem dX3_readToken_59 : decode cX3_readToken 59 = .ok (.putfield 25, 3) := by decide +kernel
theorem dX3_readToken_62 : decode cX3_readToken 62 = .ok (.aload_n 0, 1) := by decide +kernel
theorem dX3_readToken_63 : decode cX3_readToken 63 = .ok (.aload_n 0, 1) := by decide +kernel
theorem dX3_readToken_64 : decode cX3_readToken 64 = .ok (.getfield 22, 3) := by decide +kernel
theorem dX3_readToken_67 : decode cX3_readToken 67 = .ok (.invokevirtual 31, 3) := by decide +kernel
theorem dX3_readToken_70 : decode cX3_readToken 70 = .ok (.istore_n 1, 1) := by decide +kernel
theorem dX3_readToken_71 : decode cX3_readToken 71 = .ok (.iload_n 1, 1) := by decide +kernel
theorem dX3_readToken_72 : decode cX3_readToken 72 = .ok (.lookupswitch 76 #[(-1, 68), (59, 68), (97, 68), (109, 68), (112, 68), (115, 68), (120, 68)], 68) := by decide +kernel
theorem dX3_readToken_140 : decode cX3_readToken 140 = .ok (.aload_n 0, 1) := by decide +kernel
theorem dX3_readToken_141 : decode cX3_readToken 141 = .ok (.iload_n 1, 1) := by decide +kernel
theorem dX3_readToken_142 : decode cX3_readToken 142 = .ok (.putfield 19, 3) := by decide +kernel
theorem dX3_readToken_145 : decode cX3_readToken 145 = .ok (.goto 20, 3) := by decide +kernel
theorem dX3_readToken_148 : decode cX3_readToken 148 = .ok (.aload_n 0, 1) := by decide +kernel
theorem dX3_readToken_149 : decode cX3_readToken 149 = .ok (.bipush (-2), 2) := by decide +kernel
theorem dX3_readToken_151 : decode cX3_readToken 151 = .ok (.putfield 19, 3) := by decide +kernel
theorem dX3_readToken_154 : decode cX3_readToken 154 = .ok (.iload_n 1, 1) := by decide +kernel
theorem dX3_readToken_155 : decode cX3_readToken 155 = .ok (.invokestatic 41, 3) := by decide +kernel
theorem dX3_readToken_158 : decode cX3_readToken 158 = .ok (.ifCond .eq 7, 3) := by decide +kernel
theorem dX3_readToken_161 : decode cX3_readToken 161 = .ok (.aload_n 0, 1) := by decide +kernel
theorem dX3_readToken_162 : decode cX3_readToken 162 = .ok (.invokevirtual 45, 3) := by decide +kernel
theorem dX3_readToken_165 : decode cX3_readToken 165 = .ok (.return_, 1) := by decide +kernel
theorem dX3_readDigits_0 : decode cX3_readDigits 0 = .ok (.aload_n 0, 1) := by decide +kernel
theorem dX3_readDigits_1 : decode cX3_readDigits 1 = .ok (.iconst 0, 1) := by decide +kernel
theorem dX3_readDigits_2 : decode cX3_readDigits 2 = .ok (.putfield 28, 3) := by decide +kernel
theorem dX3_readDigits_5 : decode cX3_readDigits 5 = .ok (.aload_n 0, 1) := by decide +kernel
theorem dX3_readDigits_6 : decode cX3_readDigits 6 = .ok (.aload_n 0, 1) := by decide +kernel
theorem dX3_readDigits_7 : decode cX3_readDigits 7 = .ok (.getfield 22, 3) := by decide +kernel
theorem dX3_readDigits_10 : decode cX3_readDigits 10 = .ok (.putfield 25, 3) := by decide +kernel
theorem dX3_readDigits_13 : decode cX3_readDigits 13 = .ok (.aload_n 0, 1) := by decide +kernel
theorem dX3_readDigits_14 : decode cX3_readDigits 14 = .ok (.getfield 25, 3) := by decide +kernel
theorem dX3_readDigits_17 : decode cX3_readDigits 17 = .ok (.aload_n 0, 1) := by decide +kernel
theorem dX3_readDigits_18 : decode cX3_readDigits 18 = .ok (.getfield 15, 3) := by decide +kernel
theorem dX3_readDigits_21 : decode cX3_readDigits 21 = .ok (.if_icmp .ge 58, 3) := by decide +kernel
theorem dX3_readDigits_24 : decode cX3_readDigits 24 = .ok (.aload_n 0, 1) := by decide +kernel
theorem dX3_readDigits_25 : decode cX3_readDigits 25 = .ok (.aload_n 0, 1) := by decide +kernel
theorem dX3_readDigits_26 : decode cX3_readDigits 26 = .ok (.getfield 25, 3) := by decide +kernel
theorem dX3_readDigits_29 : decode cX3_readDigits 29 = .ok (.invokevirtual 31, 3) := by decide +kernel
theorem dX3_readDigits_32 : decode cX3_readDigits 32 = .ok (.invokestatic 41, 3) := by decide +kernel
theorem dX3_readDigits_35 : decode cX3_readDigits 35 = .ok (.ifCond .eq 44, 3) := by decide +kernel
theorem dX3_readDigits_38 : decode cX3_readDigits 38 = .ok (.aload_n 0, 1) := by decide +kernel
theorem dX3_readDigits_39 : decode cX3_readDigits 39 = .ok (.bipush 100, 2) := by decide +kernel
theorem dX3_readDigits_41 : decode cX3_readDigits 41 = .ok (.aload_n 0, 1) := by decide +kernel
theorem dX3_readDigits_42 : decode cX3_readDigits 42 = .ok (.getfield 28, 3) := by decide +kernel
theorem dX3_readDigits_45 : decode cX3_readDigits 45 = .ok (.bipush 10, 2) := by decide +kernel
theorem dX3_readDigits_47 : decode cX3_readDigits 47 = .ok (.imul, 1) := by decide +kernel
theorem dX3_readDigits_48 : decode cX3_readDigits 48 = .ok (.aload_n 0, 1) := by decide +kernel
theorem dX3_readDigits_49 : decode cX3_readDigits 49 = .ok (.aload_n 0, 1) := by decide +kernel
theorem dX3_readDigits_50 : decode cX3_readDigits 50 = .ok (.getfield 25, 3) := by decide +kernel
theorem dX3_readDigits_53 : decode cX3_readDigits 53 = .ok (.invokevirtual 31, 3) := by decide +kernel
theorem dX3_readDigits_56 : decode cX3_readDigits 56 = .ok (.iadd, 1) := by decide +kernel
theorem dX3_readDigits_57 : decode cX3_readDigits 57 = .ok (.bipush 48, 2) := by decide +kernel
theorem dX3_readDigits_59 : decode cX3_readDigits 59 = .ok (.isub, 1) := by decide +kernel
theorem dX3_readDigits_60 : decode cX3_readDigits 60 = .ok (.invokestatic 35, 3) := by decide +kernel
theorem dX3_readDigits_63 : decode cX3_readDigits 63 = .ok (.putfield 28, 3) := by decide +kernel
theorem dX3_readDigits_66 : decode cX3_readDigits 66 = .ok (.aload_n 0, 1) := by decide +kernel
theorem dX3_readDigits_67 : decode cX3_readDigits 67 = .ok (.dup, 1) := by decide +kernel
theorem dX3_readDigits_68 : decode cX3_readDigits 68 = .ok (.getfield 25, 3) := by decide +kernel
theorem dX3_readDigits_71 : decode cX3_readDigits 71 = .ok (.iconst 1, 1) := by decide +kernel
theorem dX3_readDigits_72 : decode cX3_readDigits 72 = .ok (.iadd, 1) := by decide +kernel
theorem dX3_readDigits_73 : decode cX3_readDigits 73 = .ok (.putfield 25, 3) := by decide +kernel
theorem dX3_readDigits_76 : decode cX3_readDigits 76 = .ok (.goto (-63), 3) := by decide +kernel
theorem dX3_readDigits_79 : decode cX3_readDigits 79 = .ok (.aload_n 0, 1) := by decide +kernel
theorem dX3_readDigits_80 : decode cX3_readDigits 80 = .ok (.aload_n 0, 1) := by decide +kernel
theorem dX3_readDigits_81 : decode cX3_readDigits 81 = .ok (.getfield 22, 3) := by decide +kernel
theorem dX3_readDigits_84 : decode cX3_readDigits 84 = .ok (.invokevirtual 31, 3) := by decide +kernel
theorem dX3_readDigits_87 : decode cX3_readDigits 87 = .ok (.bipush 48, 2) := by decide +kernel
theorem dX3_readDigits_89 : decode cX3_readDigits 89 = .ok (.if_icmp .ne 20, 3) := by decide +kernel
theorem dX3_readDigits_92 : decode cX3_readDigits 92 = .ok (.aload_n 0, 1) := by decide +kernel
theorem dX3_readDigits_93 : decode cX3_readDigits 93 = .ok (.getfield 25, 3) := by decide +kernel
theorem dX3_readDigits_96 : decode cX3_readDigits 96 = .ok (.aload_n 0, 1) := by decide +kernel
theorem dX3_readDigits_97 : decode cX3_readDigits 97 = .ok (.getfield 22, 3) := by decide +kernel
theorem dX3_readDigits_100 : decode cX3_readDigits 100 = .ok (.iconst 1, 1) := by decide +kernel
theorem dX3_readDigits_101 : decode cX3_readDigits 101 = .ok (.iadd, 1) := by decide +kernel
theorem dX3_readDigits_102 : decode cX3_readDigits 102 = .ok (.if_icmp .le 7, 3) := by decide +kernel
theorem dX3_readDigits_105 : decode cX3_readDigits 105 = .ok (.iconst 1, 1) := by decide +kernel
theorem dX3_readDigits_106 : decode cX3_readDigits 106 = .ok (.goto 4, 3) := by decide +kernel
theorem dX3_readDigits_109 : decode cX3_readDigits 109 = .ok (.iconst 0, 1) := by decide +kernel
theorem dX3_readDigits_110 : decode cX3_readDigits 110 = .ok (.istore_n 1, 1) := by decide +kernel
theorem dX3_readDigits_111 : decode cX3_readDigits 111 = .ok (.aload_n 0, 1) := by decide +kernel
theorem dX3_readDigits_112 : decode cX3_readDigits 112 = .ok (.iload_n 1, 1) := by decide +kernel
theorem dX3_readDigits_113 : decode cX3_readDigits 113 = .ok (.ifCond .ne 12, 3) := by decide +kernel
theorem dX3_readDigits_116 : decode cX3_readDigits 116 = .ok (.aload_n 0, 1) := by decide +kernel
theorem dX3_readDigits_117 : decode cX3_readDigits 117 = .ok (.getfield 28, 3) := by decide +kernel
theorem dX3_readDigits_120 : decode cX3_readDigits 120 = .ok (.bipush 100, 2) := by decide +kernel
theorem dX3_readDigits_122 : decode cX3_readDigits 122 = .ok (.if_icmp .ne 8, 3) := by decide +kernel
theorem dX3_readDigits_125 : decode cX3_readDigits 125 = .ok (.bipush (-2), 2) := by decide +kernel
theorem dX3_readDigits_127 : decode cX3_readDigits 127 = .ok (.goto 5, 3) := by decide +kernel
theorem dX3_readDigits_130 : decode cX3_readDigits 130 = .ok (.bipush 48, 2) := by decide +kernel
theorem dX3_readDigits_132 : decode cX3_readDigits 132 = .ok (.putfield 19, 3) := by decide +kernel
theorem dX3_readDigits_135 : decode cX3_readDigits 135 = .ok (.return_, 1) := by decide +kernel
theorem dX3_letterAt_0 : decode cX3_letterAt 0 = .ok (.iload_n 1, 1) := by decide +kernel
theorem dX3_letterAt_1 : decode cX3_letterAt 1 = .ok (.ifCond .lt 27, 3) := by decide +kernel
theorem dX3_letterAt_4 : decode cX3_letterAt 4 = .ok (.iload_n 1, 1) := by decide +kernel
theorem dX3_letterAt_5 : decode cX3_letterAt 5 = .ok (.aload_n 0, 1) := by decide +kernel
theorem dX3_letterAt_6 : decode cX3_letterAt 6 = .ok (.getfield 15, 3) := by decide +kernel
theorem dX3_letterAt_9 : decode cX3_letterAt 9 = .ok (.if_icmp .ge 19, 3) := by decide +kernel
theorem dX3_letterAt_12 : decode cX3_letterAt 12 = .ok (.iload_n 1, 1) := by decide +kernel
theorem dX3_letterAt_13 : decode cX3_letterAt 13 = .ok (.sipush 200, 3) := by decide +kernel
theorem dX3_letterAt_16 : decode cX3_letterAt 16 = .ok (.if_icmp .ge 12, 3) := by decide +kernel
theorem dX3_letterAt_19 : decode cX3_letterAt 19 = .ok (.aload_n 0, 1) := by decide +kernel
theorem dX3_letterAt_20 : decode cX3_letterAt 20 = .ok (.getfield 9, 3) := by decide +kernel
theorem dX3_letterAt_23 : decode cX3_letterAt 23 = .ok (.iload_n 1, 1) := by decide +kernel
theorem dX3_letterAt_24 : decode cX3_letterAt 24 = .ok (.iaload, 1) := by decide +kernel
theorem dX3_letterAt_25 : decode cX3_letterAt 25 = .ok (.goto 4, 3) := by decide +kernel
theorem dX3_letterAt_28 : decode cX3_letterAt 28 = .ok (.iconst (-1), 1) := by decide +kernel
theorem dX3_letterAt_29 : decode cX3_letterAt 29 = .ok (.ireturn, 1) := by decide +kernel
theorem dX3_isDigit_0 : decode cX3_isDigit 0 = .ok (.iload_n 0, 1) := by decide +kernel
theorem dX3_isDigit_1 : decode cX3_isDigit 1 = .ok (.bipush 48, 2) := by decide +kernel
theorem dX3_isDigit_3 : decode cX3_isDigit 3 = .ok (.if_icmp .lt 13, 3) := by decide +kernel
theorem dX3_isDigit_6 : decode cX3_isDigit 6 = .ok (.iload_n 0, 1) := by decide +kernel
theorem dX3_isDigit_7 : decode cX3_isDigit 7 = .ok (.bipush 57, 2) := by decide +kernel
theorem dX3_isDigit_9 : decode cX3_isDigit 9 = .ok (.if_icmp .gt 7, 3) := by decide +kernel
theorem dX3_isDigit_12 : decode cX3_isDigit 12 = .ok (.iconst 1, 1) := by decide +kernel
theorem dX3_isDigit_13 : decode cX3_isDigit 13 = .ok (.goto 4, 3) := by decide +kernel
theorem dX3_isDigit_16 : decode cX3_isDigit 16 = .ok (.iconst 0, 1) := by decide +kernel
theorem dX3_isDigit_17 : decode cX3_isDigit 17 = .ok (.ireturn, 1) := by decide +kernel
theorem dX4_init_0 : decode cX4_init 0 = .ok (.aload_n 0, 1) := by decide +kernel
theorem dX4_init_1 : decode cX4_init 1 = .ok (.invokespecial 3, 3) := by decide +kernel
theorem dX4_init_4 : decode cX4_init 4 = .ok (.aload_n 0, 1) := by decide +kernel
theorem dX4_init_5 : decode cX4_init 5 = .ok (.bipush 6, 2) := by decide +kernel
theorem dX4_init_7 : decode cX4_init 7 = .ok (.newarray .int, 2) := by decide +kernel
theorem dX4_init_9 : decode cX4_init 9 = .ok (.putfield 9, 3) := by decide +kernel
theorem dX4_init_12 : decode cX4_init 12 = .ok (.aload_n 0, 1) := by decide +kernel
theorem dX4_init_13 : decode cX4_init 13 = .ok (.bipush 6, 2) := by decide +kernel
theorem dX4_init_15 : decode cX4_init 15 = .ok (.newarray .int, 2) := by decide +kernel
theorem dX4_init_17 : decode cX4_init 17 = .ok (.putfield 15, 3) := by decide +kernel
theorem dX4_init_20 : decode cX4_init 20 = .ok (.aload_n 0, 1) := by decide +kernel
theorem dX4_init_21 : decode cX4_init 21 = .ok (.bipush 8, 2) := by decide +kernel
theorem dX4_init_23 : decode cX4_init 23 = .ok (.newarray .int, 2) := by decide +kernel
theorem dX4_init_25 : decode cX4_init 25 = .ok (.putfield 18, 3) := by decide +kernel
theorem dX4_init_28 : decode cX4_init 28 = .ok (.aload_n 0, 1) := by decide +kernel
theorem dX4_init_29 : decode cX4_init 29 = .ok (.bipush 8, 2) := by decide +kernel
theorem dX4_init_31 : decode cX4_init 31 = .ok (.newarray .int, 2) := by decide +kernel
theorem dX4_init_33 : decode cX4_init 33 = .ok (.putfield 21, 3) := by decide +kernel
theorem dX4_init_36 : decode cX4_init 36 = .ok (.aload_n 0, 1) := by decide +kernel
theorem dX4_init_37 : decode cX4_init 37 = .ok (.bipush 8, 2) := by decide +kernel
theorem dX4_init_39 : decode cX4_init 39 = .ok (.newarray .int, 2) := by decide +kernel
theorem dX4_init_41 : decode cX4_init 41 = .ok (.putfield 24, 3) := by decide +kernel
theorem dX4_init_44 : decode cX4_init 44 = .ok (.aload_n 0, 1) := by decide +kernel
theorem dX4_init_45 : decode cX4_init 45 = .ok (.bipush 8, 2) := by decide +kernel
theorem dX4_init_47 : decode cX4_init 47 = .ok (.newarray .int, 2) := by decide +kernel
theorem dX4_init_49 : decode cX4_init 49 = .ok (.putfield 27, 3) := by decide +kernel
theorem dX4_init_52 : decode cX4_init 52 = .ok (.aload_n 0, 1) := by decide +kernel
theorem dX4_init_53 : decode cX4_init 53 = .ok (.bipush 8, 2) := by decide +kernel
theorem dX4_init_55 : decode cX4_init 55 = .ok (.newarray .int, 2) := by decide +kernel
theorem dX4_init_57 : decode cX4_init 57 = .ok (.putfield 30, 3) := by decide +kernel
theorem dX4_init_60 : decode cX4_init 60 = .ok (.aload_n 0, 1) := by decide +kernel
theorem dX4_init_61 : decode cX4_init 61 = .ok (.bipush 8, 2) := by decide +kernel
theorem dX4_init_63 : decode cX4_init 63 = .ok (.newarray .int, 2) := by decide +kernel
theorem dX4_init_65 : decode cX4_init 65 = .ok (.putfield 33, 3) := by decide +kernel
theorem dX4_init_68 : decode cX4_init 68 = .ok (.aload_n 0, 1) := by decide +kernel
theorem dX4_init_69 : decode cX4_init 69 = .ok (.bipush 32, 2) := by decide +kernel
theorem dX4_init_71 : decode cX4_init 71 = .ok (.newarray .int, 2) := by decide +kernel
theorem dX4_init_73 : decode cX4_init 73 = .ok (.putfield 36, 3) := by decide +kernel
theorem dX4_init_76 : decode cX4_init 76 = .ok (.aload_n 0, 1) := by decide +kernel
theorem dX4_init_77 : decode cX4_init 77 = .ok (.bipush 8, 2) := by decide +kernel
theorem dX4_init_79 : decode cX4_init 79 = .ok (.newarray .int, 2) := by decide +kernel
theorem dX4_init_81 : decode cX4_init 81 = .ok (.putfield 39, 3) := by decide +kernel
theorem dX4_init_84 : decode cX4_init 84 = .ok (.aload_n 0, 1) := by decide +kernel
theorem dX4_init_85 : decode cX4_init 85 = .ok (.iconst 0, 1) := by decide +kernel
theorem dX4_init_86 : decode cX4_init 86 = .ok (.putfield 42, 3) := by decide +kernel
theorem dX4_init_89 : decode cX4_init 89 = .ok (.aload_n 0, 1) := by decide +kernel
theorem dX4_init_90 : decode cX4_init 90 = .ok (.iconst 0, 1) := by decide +kernel
theorem dX4_init_91 : decode cX4_init 91 = .ok (.putfield 46, 3) := by decide +kernel
theorem dX4_init_94 : decode cX4_init 94 = .ok (.aload_n 0, 1) := by decide +kernel
theorem dX4_init_95 : decode cX4_init 95 = .ok (.bipush 10, 2) := by decide +kernel
theorem dX4_init_97 : decode cX4_init 97 = .ok (.putfield 49, 3) := by decide +kernel
theorem dX4_init_100 : decode cX4_init 100 = .ok (.aload_n 0, 1) := by decide +kernel
theorem dX4_init_101 : decode cX4_init 101 = .ok (.bipush 12, 2) := by decide +kernel
theorem dX4_init_103 : decode cX4_init 103 = .ok (.putfield 52, 3) := by decide +kernel
theorem dX4_init_106 : decode cX4_init 106 = .ok (.return_, 1) := by decide +kernel
theorem dX4_beginAgain_0 : decode cX4_beginAgain 0 = .ok (.aload_n 0, 1) := by decide +kernel
theorem dX4_beginAgain_1 : decode cX4_beginAgain 1 = .ok (.iconst 0, 1) := by decide +kernel
theorem dX4_beginAgain_2 : decode cX4_beginAgain 2 = .ok (.putfield 42, 3) := by decide +kernel
theorem dX4_beginAgain_5 : decode cX4_beginAgain 5 = .ok (.aload_n 0, 1) := by decide +kernel
theorem dX4_beginAgain_6 : decode cX4_beginAgain 6 = .ok (.iconst 0, 1) := by decide +kernel
theorem dX4_beginAgain_7 : decode cX4_beginAgain 7 = .ok (.putfield 46, 3) := by decide +kernel
theorem dX4_beginAgain_10 : decode cX4_beginAgain 10 = .ok (.aload_n 0, 1) := by decide +kernel
theorem dX4_beginAgain_11 : decode cX4_beginAgain 11 = .ok (.bipush 10, 2) := by decide +kernel
theorem dX4_beginAgain_13 : decode cX4_beginAgain 13 = .ok (.putfield 49, 3) := by decide +kernel
theorem dX4_beginAgain_16 : decode cX4_beginAgain 16 = .ok (.aload_n 0, 1) := by decide +kernel
theorem dX4_beginAgain_17 : decode cX4_beginAgain 17 = .ok (.bipush 12, 2) := by decide +kernel
theorem dX4_beginAgain_19 : decode cX4_beginAgain 19 = .ok (.putfield 52, 3) := by decide +kernel
theorem dX4_beginAgain_22 : decode cX4_beginAgain 22 = .ok (.return_, 1) := by decide +kernel
theorem dX4_become_0 : decode cX4_become 0 = .ok (.aload_n 1, 1) := by decide +kernel
theorem dX4_become_1 : decode cX4_become 1 = .ok (.getfield 9, 3) := by decide +kernel
theorem dX4_become_4 : decode cX4_become 4 = .ok (.iconst 0, 1) := by decide +kernel
theorem dX4_become_5 : decode cX4_become 5 = .ok (.aload_n 0, 1) := by decide +kernel
theorem dX4_become_6 : decode cX4_become 6 = .ok (.getfield 9, 3) := by decide +kernel
theorem dX4_become_9 : decode cX4_become 9 = .ok (.iconst 0, 1) := by decide +kernel
theorem dX4_become_10 : decode cX4_become 10 = .ok (.bipush 6, 2) := by decide +kernel
theorem dX4_become_12 : decode cX4_become 12 = .ok (.invokestatic 55, 3) := by decide +kernel
theorem dX4_become_15 : decode cX4_become 15 = .ok (.aload_n 1, 1) := by decide +kernel
theorem dX4_become_16 : decode cX4_become 16 = .ok (.getfield 15, 3) := by decide +kernel
theorem dX4_become_19 : decode cX4_become 19 = .ok (.iconst 0, 1) := by decide +kernel
theorem dX4_become_20 : decode cX4_become 20 = .ok (.aload_n 0, 1) := by decide +kernel
theorem dX4_become_21 : decode cX4_become 21 = .ok (.getfield 15, 3) := by decide +kernel
theorem dX4_become_24 : decode cX4_become 24 = .ok (.iconst 0, 1) := by decide +kernel
theorem dX4_become_25 : decode cX4_become 25 = .ok (.bipush 6, 2) := by decide +kernel
theorem dX4_become_27 : decode cX4_become 27 = .ok (.invokestatic 55, 3) := by decide +kernel
theorem dX4_become_30 : decode cX4_become 30 = .ok (.aload_n 1, 1) := by decide +kernel
theorem dX4_become_31 : decode cX4_become 31 = .ok (.getfield 18, 3) := by decide +kernel
theorem dX4_become_34 : decode cX4_become 34 = .ok (.iconst 0, 1) := by decide +kernel
theorem dX4_become_35 : decode cX4_become 35 = .ok (.aload_n 0, 1) := by decide +kernel
theorem dX4_become_36 : decode cX4_become 36 = .ok (.getfield 18, 3) := by decide +kernel
theorem dX4_become_39 : decode cX4_become 39 = .ok (.iconst 0, 1) := by decide +kernel
theorem dX4_become_40 : decode cX4_become 40 = .ok (.bipush 8, 2) := by decide +kernel
theorem dX4_become_42 : decode cX4_become 42 = .ok (.invokestatic 55, 3) := by decide +kernel
theorem dX4_become_45 : decode cX4_become 45 = .ok (.aload_n 1, 1) := by decide +kernel
theorem dX4_become_46 : decode cX4_become 46 = .ok (.getfield 21, 3) := by decide +kernel
theorem dX4_become_49 : decode cX4_become 49 = .ok (.iconst 0, 1) := by decide +kernel
theorem dX4_become_50 : decode cX4_become 50 = .ok (.aload_n 0, 1) := by decide +kernel
theorem dX4_become_51 : decode cX4_become 51 = .ok (.getfield 21, 3) := by decide +kernel
theorem dX4_become_54 : decode cX4_become 54 = .ok (.iconst 0, 1) := by decide +kernel
theorem dX4_become_55 : decode cX4_become 55 = .ok (.bipush 8, 2) := by decide +kernel
theorem dX4_become_57 : decode cX4_become 57 = .ok (.invokestatic 55, 3) := by decide +kernel
theorem dX4_become_60 : decode cX4_become 60 = .ok (.aload_n 1, 1) := by decide +kernel
theorem dX4_become_61 : decode cX4_become 61 = .ok (.getfield 24, 3) := by decide +kernel
theorem dX4_become_64 : decode cX4_become 64 = .ok (.iconst 0, 1) := by decide +kernel
theorem dX4_become_65 : decode cX4_become 65 = .ok (.aload_n 0, 1) := by decide +kernel
theorem dX4_become_66 : decode cX4_become 66 = .ok (.getfield 24, 3) := by decide +kernel
theorem dX4_become_69 : decode cX4_become 69 = .ok (.iconst 0, 1) := by decide +kernel
theorem dX4_become_70 : decode cX4_become 70 = .ok (.bipush 8, 2) := by decide +kernel
theorem dX4_become_72 : decode cX4_become 72 = .ok (.invokestatic 55, 3) := by decide +kernel
theorem dX4_become_75 : decode cX4_become 75 = .ok (.aload_n 1, 1) := by decide +kernel
theorem dX4_become_76 : decode cX4_become 76 = .ok (.getfield 27, 3) := by decide +kernel
theorem dX4_become_79 : decode cX4_become 79 = .ok (.iconst 0, 1) := by decide +kernel
theorem dX4_become_80 : decode cX4_become 80 = .ok (.aload_n 0, 1) := by decide +kernel
theorem dX4_become_81 : decode cX4_become 81 = .ok (.getfield 27, 3) := by decide +kernel
theorem dX4_become_84 : decode cX4_become 84 = .ok (.iconst 0, 1) := by decide +kernel
theorem dX4_become_85 : decode cX4_become 85 = .ok (.bipush 8, 2) := by decide +kernel
theorem dX4_become_87 : decode cX4_become 87 = .ok (.invokestatic 55, 3) := by decide +kernel
theorem dX4_become_90 : decode cX4_become 90 = .ok (.aload_n 1, 1) := by decide +kernel
theorem dX4_become_91 : decode cX4_become 91 = .ok (.getfield 30, 3) := by decide +kernel
theorem dX4_become_94 : decode cX4_become 94 = .ok (.iconst 0, 1) := by decide +kernel
theorem dX4_become_95 : decode cX4_become 95 = .ok (.aload_n 0, 1) := by decide +kernel
theorem dX4_become_96 : decode cX4_become 96 = .ok (.getfield 30, 3) := by decide +kernel
theorem dX4_become_99 : decode cX4_become 99 = .ok (.iconst 0, 1) := by decide +kernel
theorem dX4_become_100 : decode cX4_become 100 = .ok (.bipush 8, 2) := by decide +kernel
theorem dX4_become_102 : decode cX4_become 102 = .ok (.invokestatic 55, 3) := by decide +kernel
theorem dX4_become_105 : decode cX4_become 105 = .ok (.aload_n 1, 1) := by decide +kernel
theorem dX4_become_106 : decode cX4_become 106 = .ok (.getfield 33, 3) := by decide +kernel
theorem dX4_become_109 : decode cX4_become 109 = .ok (.iconst 0, 1) := by decide +kernel
theorem dX4_become_110 : decode cX4_become 110 = .ok (.aload_n 0, 1) := by decide +kernel
theorem dX4_become_111 : decode cX4_become 111 = .ok (.getfield 33, 3) := by decide +kernel
theorem dX4_become_114 : decode cX4_become 114 = .ok (.iconst 0, 1) := by decide +kernel
theorem dX4_become_115 : decode cX4_become 115 = .ok (.bipush 8, 2) := by decide +kernel
theorem dX4_become_117 : decode cX4_become 117 = .ok (.invokestatic 55, 3) := by decide +kernel
theorem dX4_become_120 : decode cX4_become 120 = .ok (.aload_n 1, 1) := by decide +kernel
theorem dX4_become_121 : decode cX4_become 121 = .ok (.getfield 36, 3) := by decide +kernel
theorem dX4_become_124 : decode cX4_become 124 = .ok (.iconst 0, 1) := by decide +kernel
theorem dX4_become_125 : decode cX4_become 125 = .ok (.aload_n 0, 1) := by decide +kernel
theorem dX4_become_126 : decode cX4_become 126 = .ok (.getfield 36, 3) := by decide +kernel
theorem dX4_become_129 : decode cX4_become 129 = .ok (.iconst 0, 1) := by decide +kernel
theorem dX4_become_130 : decode cX4_become 130 = .ok (.bipush 32, 2) := by decide +kernel
theorem dX4_become_132 : decode cX4_become 132 = .ok (.invokestatic 55, 3) := by decide +kernel
theorem dX4_become_135 : decode cX4_become 135 = .ok (.aload_n 1, 1) := by decide +kernel
theorem dX4_become_136 : decode cX4_become 136 = .ok (.getfield 39, 3) := by decide +kernel
theorem dX4_become_139 : decode cX4_become 139 = .ok (.iconst 0, 1) := by decide +kernel
theorem dX4_become_140 : decode cX4_become 140 = .ok (.aload_n 0, 1) := by decide +kernel
theorem dX4_become_141 : decode cX4_become 141 = .ok (.getfield 39, 3) := by decide +kernel
theorem dX4_become_144 : decode cX4_become 144 = .ok (.iconst 0, 1) := by decide +kernel
theorem dX4_become_145 : decode cX4_become 145 = .ok (.bipush 8, 2) := by decide +kernel
theorem dX4_become_147 : decode cX4_become 147 = .ok (.invokestatic 55, 3) := by decide +kernel
theorem dX4_become_150 : decode cX4_become 150 = .ok (.aload_n 0, 1) := by decide +kernel
theorem dX4_become_151 : decode cX4_become 151 = .ok (.aload_n 1, 1) := by decide +kernel
theorem dX4_become_152 : decode cX4_become 152 = .ok (.getfield 42, 3) := by decide +kernel
theorem dX4_become_155 : decode cX4_become 155 = .ok (.putfield 42, 3) := by decide +kernel
theorem dX4_become_158 : decode cX4_become 158 = .ok (.aload_n 0, 1) := by decide +kernel
theorem dX4_become_159 : decode cX4_become 159 = .ok (.aload_n 1, 1) := by decide +kernel
theorem dX4_become_160 : decode cX4_become 160 = .ok (.getfield 46, 3) := by decide +kernel
theorem dX4_become_163 : decode cX4_become 163 = .ok (.putfield 46, 3) := by decide +kernel
theorem dX4_become_166 : decode cX4_become 166 = .ok (.aload_n 0, 1) := by decide +kernel
theorem dX4_become_167 : decode cX4_become 167 = .ok (.aload_n 1, 1) := by decide +kernel
theorem dX4_become_168 : decode cX4_become 168 = .ok (.getfield 49, 3) := by decide +kernel
theorem dX4_become_171 : decode cX4_become 171 = .ok (.putfield 49, 3) := by decide +kernel
theorem dX4_become_174 : decode cX4_become 174 = .ok (.aload_n 0, 1) := by decide +kernel
theorem dX4_become_175 : decode cX4_become 175 = .ok (.aload_n 1, 1) := by decide +kernel
theorem dX4_become_176 : decode cX4_become 176 = .ok (.getfield 52, 3) := by decide +kernel
theorem dX4_become_179 : decode cX4_become 179 = .ok (.putfield 52, 3) := by decide +kernel
theorem dX4_become_182 : decode cX4_become 182 = .ok (.return_, 1) := by decide +kernel
theorem dX4_hasPerson_0 : decode cX4_hasPerson 0 = .ok (.iload_n 1, 1) := by decide +kernel
theorem dX4_hasPerson_1 : decode cX4_hasPerson 1 = .ok (.ifCond .lt 21, 3) := by decide +kernel
theorem dX4_hasPerson_4 : decode cX4_hasPerson 4 = .ok (.iload_n 1, 1) := by decide +kernel
theorem dX4_hasPerson_5 : decode cX4_hasPerson 5 = .ok (.aload_n 0, 1) := by decide +kernel
theorem dX4_hasPerson_6 : decode cX4_hasPerson 6 = .ok (.getfield 42, 3) := by decide +kernel
theorem dX4_hasPerson_9 : decode cX4_hasPerson 9 = .ok (.if_icmp .ge 13, 3) := by decide +kernel
theorem dX4_hasPerson_12 : decode cX4_hasPerson 12 = .ok (.iload_n 1, 1) := by decide +kernel
theorem dX4_hasPerson_13 : decode cX4_hasPerson 13 = .ok (.bipush 6, 2) := by decide +kernel
theorem dX4_hasPerson_15 : decode cX4_hasPerson 15 = .ok (.if_icmp .ge 7, 3) := by decide +kernel
theorem dX4_hasPerson_18 : decode cX4_hasPerson 18 = .ok (.iconst 1, 1) := by decide +kernel
theorem dX4_hasPerson_19 : decode cX4_hasPerson 19 = .ok (.goto 4, 3) := by decide +kernel
theorem dX4_hasPerson_22 : decode cX4_hasPerson 22 = .ok (.iconst 0, 1) := by decide +kernel
theorem dX4_hasPerson_23 : decode cX4_hasPerson 23 = .ok (.ireturn, 1) := by decide +kernel
theorem dX4_hasPromise_0 : decode cX4_hasPromise 0 = .ok (.iload_n 1, 1) := by decide +kernel
theorem dX4_hasPromise_1 : decode cX4_hasPromise 1 = .ok (.ifCond .lt 21, 3) := by decide +kernel
theorem dX4_hasPromise_4 : decode cX4_hasPromise 4 = .ok (.iload_n 1, 1) := by decide +kernel
theorem dX4_hasPromise_5 : decode cX4_hasPromise 5 = .ok (.aload_n 0, 1) := by decide +kernel
theorem dX4_hasPromise_6 : decode cX4_hasPromise 6 = .ok (.getfield 46, 3) := by decide +kernel
theorem dX4_hasPromise_9 : decode cX4_hasPromise 9 = .ok (.if_icmp .ge 13, 3) := by decide +kernel
theorem dX4_hasPromise_12 : decode cX4_hasPromise 12 = .ok (.iload_n 1, 1) := by decide +kernel
theorem dX4_hasPromise_13 : decode cX4_hasPromise 13 = .ok (.bipush 8, 2) := by decide +kernel
theorem dX4_hasPromise_15 : decode cX4_hasPromise 15 = .ok (.if_icmp .ge 7, 3) := by decide +kernel
theorem dX4_hasPromise_18 : decode cX4_hasPromise 18 = .ok (.iconst 1, 1) := by decide +kernel
theorem dX4_hasPromise_19 : decode cX4_hasPromise 19 = .ok (.goto 4, 3) := by decide +kernel
theorem dX4_hasPromise_22 : decode cX4_hasPromise 22 = .ok (.iconst 0, 1) := by decide +kernel
theorem dX4_hasPromise_23 : decode cX4_hasPromise 23 = .ok (.ireturn, 1) := by decide +kernel
theorem dX4_wordAt_0 : decode cX4_wordAt 0 = .ok (.aload_n 0, 1) := by decide +kernel
theorem dX4_wordAt_1 : decode cX4_wordAt 1 = .ok (.iload_n 1, 1) := by decide +kernel
theorem dX4_wordAt_2 : decode cX4_wordAt 2 = .ok (.invokevirtual 61, 3) := by decide +kernel
theorem dX4_wordAt_5 : decode cX4_wordAt 5 = .ok (.ifCond .eq 35, 3) := by decide +kernel
theorem dX4_wordAt_8 : decode cX4_wordAt 8 = .ok (.iload_n 2, 1) := by decide +kernel
theorem dX4_wordAt_9 : decode cX4_wordAt 9 = .ok (.ifCond .lt 31, 3) := by decide +kernel
theorem dX4_wordAt_12 : decode cX4_wordAt 12 = .ok (.iload_n 2, 1) := by decide +kernel
theorem dX4_wordAt_13 : decode cX4_wordAt 13 = .ok (.aload_n 0, 1) := by decide +kernel
theorem dX4_wordAt_14 : decode cX4_wordAt 14 = .ok (.getfield 33, 3) := by decide +kernel
theorem dX4_wordAt_17 : decode cX4_wordAt 17 = .ok (.iload_n 1, 1) := by decide +kernel
theorem dX4_wordAt_18 : decode cX4_wordAt 18 = .ok (.iaload, 1) := by decide +kernel
theorem dX4_wordAt_19 : decode cX4_wordAt 19 = .ok (.if_icmp .ge 21, 3) := by decide +kernel
theorem dX4_wordAt_22 : decode cX4_wordAt 22 = .ok (.iload_n 2, 1) := by decide +kernel
theorem dX4_wordAt_23 : decode cX4_wordAt 23 = .ok (.iconst 4, 1) := by decide +kernel
theorem dX4_wordAt_24 : decode cX4_wordAt 24 = .ok (.if_icmp .ge 16, 3) := by decide +kernel
theorem dX4_wordAt_27 : decode cX4_wordAt 27 = .ok (.aload_n 0, 1) := by decide +kernel
theorem dX4_wordAt_28 : decode cX4_wordAt 28 = .ok (.getfield 36, 3) := by decide +kernel
theorem dX4_wordAt_31 : decode cX4_wordAt 31 = .ok (.iload_n 1, 1) := by decide +kernel
theorem dX4_wordAt_32 : decode cX4_wordAt 32 = .ok (.iconst 4, 1) := by decide +kernel
theorem dX4_wordAt_33 : decode cX4_wordAt 33 = .ok (.imul, 1) := by decide +kernel
theorem dX4_wordAt_34 : decode cX4_wordAt 34 = .ok (.iload_n 2, 1) := by decide +kernel
theorem dX4_wordAt_35 : decode cX4_wordAt 35 = .ok (.iadd, 1) := by decide +kernel
theorem dX4_wordAt_36 : decode cX4_wordAt 36 = .ok (.iaload, 1) := by decide +kernel
theorem dX4_wordAt_37 : decode cX4_wordAt 37 = .ok (.goto 5, 3) := by decide +kernel
theorem dX4_wordAt_40 : decode cX4_wordAt 40 = .ok (.bipush (-9), 2) := by decide +kernel
theorem dX4_wordAt_42 : decode cX4_wordAt 42 = .ok (.ireturn, 1) := by decide +kernel
theorem dJ6_bitCount_0f7a4_0 : decode cJ6_bitCount_0f7a4 0 = .ok (.iload_n 0, 1) := by decide +kernel
theorem dJ6_bitCount_0f7a4_1 : decode cJ6_bitCount_0f7a4 1 = .ok (.iload_n 0, 1) := by decide +kernel
theorem dJ6_bitCount_0f7a4_2 : decode cJ6_bitCount_0f7a4 2 = .ok (.iconst 1, 1) := by decide +kernel
theorem dJ6_bitCount_0f7a4_3 : decode cJ6_bitCount_0f7a4 3 = .ok (.iushr, 1) := by decide +kernel
theorem dJ6_bitCount_0f7a4_4 : decode cJ6_bitCount_0f7a4 4 = .ok (.ldc_w 265, 3) := by decide +kernel
theorem dJ6_bitCount_0f7a4_7 : decode cJ6_bitCount_0f7a4 7 = .ok (.iand, 1) := by decide +kernel
theorem dJ6_bitCount_0f7a4_8 : decode cJ6_bitCount_0f7a4 8 = .ok (.isub, 1) := by decide +kernel
theorem dJ6_bitCount_0f7a4_9 : decode cJ6_bitCount_0f7a4 9 = .ok (.istore_n 0, 1) := by decide +kernel
theorem dJ6_bitCount_0f7a4_10 : decode cJ6_bitCount_0f7a4 10 = .ok (.iload_n 0, 1) := by decide +kernel
theorem dJ6_bitCount_0f7a4_11 : decode cJ6_bitCount_0f7a4 11 = .ok (.ldc_w 266, 3) := by decide +kernel
theorem dJ6_bitCount_0f7a4_14 : decode cJ6_bitCount_0f7a4 14 = .ok (.iand, 1) := by decide +kernel
theorem dJ6_bitCount_0f7a4_15 : decode cJ6_bitCount_0f7a4 15 = .ok (.iload_n 0, 1) := by decide +kernel
theorem dJ6_bitCount_0f7a4_16 : decode cJ6_bitCount_0f7a4 16 = .ok (.iconst 2, 1) := by decide +kernel
theorem dJ6_bitCount_0f7a4_17 : decode cJ6_bitCount_0f7a4 17 = .ok (.iushr, 1) := by decide +kernel
theorem dJ6_bitCount_0f7a4_18 : decode cJ6_bitCount_0f7a4 18 = .ok (.ldc_w 266, 3) := by decide +kernel
theorem dJ6_bitCount_0f7a4_21 : decode cJ6_bitCount_0f7a4 21 = .ok (.iand, 1) := by decide +kernel
theorem dJ6_bitCount_0f7a4_22 : decode cJ6_bitCount_0f7a4 22 = .ok (.iadd, 1) := by decide +kernel
theorem dJ6_bitCount_0f7a4_23 : decode cJ6_bitCount_0f7a4 23 = .ok (.istore_n 0, 1) := by decide +kernel
theorem dJ6_bitCount_0f7a4_24 : decode cJ6_bitCount_0f7a4 24 = .ok (.iload_n 0, 1) := by decide +kernel
theorem dJ6_bitCount_0f7a4_25 : decode cJ6_bitCount_0f7a4 25 = .ok (.iload_n 0, 1) := by decide +kernel
theorem dJ6_bitCount_0f7a4_26 : decode cJ6_bitCount_0f7a4 26 = .ok (.iconst 4, 1) := by decide +kernel
theorem dJ6_bitCount_0f7a4_27 : decode cJ6_bitCount_0f7a4 27 = .ok (.iushr, 1) := by decide +kernel
theorem dJ6_bitCount_0f7a4_28 : decode cJ6_bitCount_0f7a4 28 = .ok (.iadd, 1) := by decide +kernel
theorem dJ6_bitCount_0f7a4_29 : decode cJ6_bitCount_0f7a4 29 = .ok (.ldc_w 267, 3) := by decide +kernel
theorem dJ6_bitCount_0f7a4_32 : decode cJ6_bitCount_0f7a4 32 = .ok (.iand, 1) := by decide +kernel
theorem dJ6_bitCount_0f7a4_33 : decode cJ6_bitCount_0f7a4 33 = .ok (.istore_n 0, 1) := by decide +kernel
theorem dJ6_bitCount_0f7a4_34 : decode cJ6_bitCount_0f7a4 34 = .ok (.iload_n 0, 1) := by decide +kernel
theorem dJ6_bitCount_0f7a4_35 : decode cJ6_bitCount_0f7a4 35 = .ok (.iload_n 0, 1) := by decide +kernel
theorem dJ6_bitCount_0f7a4_36 : decode cJ6_bitCount_0f7a4 36 = .ok (.bipush 8, 2) := by decide +kernel
theorem dJ6_bitCount_0f7a4_38 : decode cJ6_bitCount_0f7a4 38 = .ok (.iushr, 1) := by decide +kernel
theorem dJ6_bitCount_0f7a4_39 : decode cJ6_bitCount_0f7a4 39 = .ok (.iadd, 1) := by decide +kernel
theorem dJ6_bitCount_0f7a4_40 : decode cJ6_bitCount_0f7a4 40 = .ok (.istore_n 0, 1) := by decide +kernel
theorem dJ6_bitCount_0f7a4_41 : decode cJ6_bitCount_0f7a4 41 = .ok (.iload_n 0, 1) := by decide +kernel
theorem dJ6_bitCount_0f7a4_42 : decode cJ6_bitCount_0f7a4 42 = .ok (.iload_n 0, 1) := by decide +kernel
theorem dJ6_bitCount_0f7a4_43 : decode cJ6_bitCount_0f7a4 43 = .ok (.bipush 16, 2) := by decide +kernel
theorem dJ6_bitCount_0f7a4_45 : decode cJ6_bitCount_0f7a4 45 = .ok (.iushr, 1) := by decide +kernel
theorem dJ6_bitCount_0f7a4_46 : decode cJ6_bitCount_0f7a4 46 = .ok (.iadd, 1) := by decide +kernel
theorem dJ6_bitCount_0f7a4_47 : decode cJ6_bitCount_0f7a4 47 = .ok (.istore_n 0, 1) := by decide +kernel
theorem dJ6_bitCount_0f7a4_48 : decode cJ6_bitCount_0f7a4 48 = .ok (.iload_n 0, 1) := by decide +kernel
theorem dJ6_bitCount_0f7a4_49 : decode cJ6_bitCount_0f7a4 49 = .ok (.bipush 63, 2) := by decide +kernel
theorem dJ6_bitCount_0f7a4_51 : decode cJ6_bitCount_0f7a4 51 = .ok (.iand, 1) := by decide +kernel
theorem dJ6_bitCount_0f7a4_52 : decode cJ6_bitCount_0f7a4 52 = .ok (.ireturn, 1) := by decide +kernel
theorem dJ9_max_7cf53_0 : decode cJ9_max_7cf53 0 = .ok (.iload_n 0, 1) := by decide +kernel
theorem dJ9_max_7cf53_1 : decode cJ9_max_7cf53 1 = .ok (.iload_n 1, 1) := by decide +kernel
theorem dJ9_max_7cf53_2 : decode cJ9_max_7cf53 2 = .ok (.if_icmp .lt 7, 3) := by decide +kernel
theorem dJ9_max_7cf53_5 : decode cJ9_max_7cf53 5 = .ok (.iload_n 0, 1) := by decide +kernel
theorem dJ9_max_7cf53_6 : decode cJ9_max_7cf53 6 = .ok (.goto 4, 3) := by decide +kernel
theorem dJ9_max_7cf53_9 : decode cJ9_max_7cf53 9 = .ok (.iload_n 1, 1) := by decide +kernel
theorem dJ9_max_7cf53_10 : decode cJ9_max_7cf53 10 = .ok (.ireturn, 1) := by decide +kernel
theorem dJ9_min_7cf53_0 : decode cJ9_min_7cf53 0 = .ok (.iload_n 0, 1) := by decide +kernel
theorem dJ9_min_7cf53_1 : decode cJ9_min_7cf53 1 = .ok (.iload_n 1, 1) := by decide +kernel
theorem dJ9_min_7cf53_2 : decode cJ9_min_7cf53 2 = .ok (.if_icmp .gt 7, 3) := by decide +kernel
theorem dJ9_min_7cf53_5 : decode cJ9_min_7cf53 5 = .ok (.iload_n 0, 1) := by decide +kernel
theorem dJ9_min_7cf53_6 : decode cJ9_min_7cf53 6 = .ok (.goto 4, 3) := by decide +kernel
theorem dJ9_min_7cf53_9 : decode cJ9_min_7cf53 9 = .ok (.iload_n 1, 1) := by decide +kernel
theorem dJ9_min_7cf53_10 : decode cJ9_min_7cf53 10 = .ok (.ireturn, 1) := by decide +kernel
theorem dL_law_0 : decode cL_law 0 = .ok (.new 7, 3) := by decide +kernel
theorem dL_law_3 : decode cL_law 3 = .ok (.dup, 1) := by decide +kernel
theorem dL_law_4 : decode cL_law 4 = .ok (.invokespecial 9, 3) := by decide +kernel
theorem dL_law_7 : decode cL_law 7 = .ok (.astore_n 1, 1) := by decide +kernel
theorem dL_law_8 : decode cL_law 8 = .ok (.new 10, 3) := by decide +kernel
theorem dL_law_11 : decode cL_law 11 = .ok (.dup, 1) := by decide +kernel
theorem dL_law_12 : decode cL_law 12 = .ok (.invokespecial 12, 3) := by decide +kernel
theorem dL_law_15 : decode cL_law 15 = .ok (.astore_n 2, 1) := by decide +kernel
theorem dL_law_16 : decode cL_law 16 = .ok (.iconst 0, 1) := by decide +kernel
theorem dL_law_17 : decode cL_law 17 = .ok (.istore_n 3, 1) := by decide +kernel
theorem dL_law_18 : decode cL_law 18 = .ok (.iload_n 3, 1) := by decide +kernel
theorem dL_law_19 : decode cL_law 19 = .ok (.aload_n 0, 1) := by decide +kernel
theorem dL_law_20 : decode cL_law 20 = .ok (.arraylength, 1) := by decide +kernel
theorem dL_law_21 : decode cL_law 21 = .ok (.iconst 5, 1) := by decide +kernel
theorem dL_law_22 : decode cL_law 22 = .ok (.isub, 1) := by decide +kernel
theorem dL_law_23 : decode cL_law 23 = .ok (.if_icmp .gt 855, 3) := by decide +kernel
theorem dL_law_26 : decode cL_law 26 = .ok (.aload_n 0, 1) := by decide +kernel
theorem dL_law_27 : decode cL_law 27 = .ok (.iload_n 3, 1) := by decide +kernel
theorem dL_law_28 : decode cL_law 28 = .ok (.iaload, 1) := by decide +kernel
theorem dL_law_29 : decode cL_law 29 = .ok (.bipush 31, 2) := by decide +kernel
theorem dL_law_31 : decode cL_law 31 = .ok (.iand, 1) := by decide +kernel
theorem dL_law_32 : decode cL_law 32 = .ok (.tableswitch 840 0 28 #[132, 155, 168, 181, 214, 247, 280, 313, 336, 359, 382, 405, 418, 431, 464, 507, 540, 563, 576, 589, 602, 625, 648, 671, 724, 757, 780, 803, 826], 132) := by decide +kernel
theorem dL_law_164 : decode cL_law 164 = .ok (.aload_n 1, 1) := by decide +kernel
theorem dL_law_165 : decode cL_law 165 = .ok (.aload_n 0, 1) := by decide +kernel
theorem dL_law_166 : decode cL_law 166 = .ok (.iload_n 3, 1) := by decide +kernel
theorem dL_law_167 : decode cL_law 167 = .ok (.iconst 1, 1) := by decide +kernel
theorem dL_law_168 : decode cL_law 168 = .ok (.iadd, 1) := by decide +kernel
theorem dL_law_169 : decode cL_law 169 = .ok (.iaload, 1) := by decide +kernel
theorem dL_law_170 : decode cL_law 170 = .ok (.invokevirtual 13, 3) := by decide +kernel
theorem dL_law_173 : decode cL_law 173 = .ok (.aload_n 2, 1) := by decide +kernel
theorem dL_law_174 : decode cL_law 174 = .ok (.aload_n 0, 1) := by decide +kernel
theorem dL_law_175 : decode cL_law 175 = .ok (.iload_n 3, 1) := by decide +kernel
theorem dL_law_176 : decode cL_law 176 = .ok (.iconst 1, 1) := by decide +kernel
theorem dL_law_177 : decode cL_law 177 = .ok (.iadd, 1) := by decide +kernel
theorem dL_law_178 : decode cL_law 178 = .ok (.iaload, 1) := by decide +kernel
theorem dL_law_179 : decode cL_law 179 = .ok (.invokevirtual 17, 3) := by decide +kernel
theorem dL_law_182 : decode cL_law 182 = .ok (.if_icmp .eq 690, 3) := by decide +kernel
theorem dL_law_185 : decode cL_law 185 = .ok (.iconst 0, 1) := by decide +kernel
theorem dL_law_186 : decode cL_law 186 = .ok (.ireturn, 1) := by decide +kernel
theorem dL_law_187 : decode cL_law 187 = .ok (.aload_n 1, 1) := by decide +kernel
theorem dL_law_188 : decode cL_law 188 = .ok (.invokevirtual 18, 3) := by decide +kernel
theorem dL_law_191 : decode cL_law 191 = .ok (.aload_n 2, 1) := by decide +kernel
theorem dL_law_192 : decode cL_law 192 = .ok (.invokevirtual 22, 3) := by decide +kernel
theorem dL_law_195 : decode cL_law 195 = .ok (.if_icmp .eq 677, 3) := by decide +kernel
theorem dL_law_198 : decode cL_law 198 = .ok (.iconst 0, 1) := by decide +kernel
theorem dL_law_199 : decode cL_law 199 = .ok (.ireturn, 1) := by decide +kernel
theorem dL_law_200 : decode cL_law 200 = .ok (.aload_n 1, 1) := by decide +kernel
theorem dL_law_201 : decode cL_law 201 = .ok (.invokevirtual 23, 3) := by decide +kernel
theorem dL_law_204 : decode cL_law 204 = .ok (.aload_n 2, 1) := by decide +kernel
theorem dL_law_205 : decode cL_law 205 = .ok (.invokevirtual 26, 3) := by decide +kernel
theorem dL_law_208 : decode cL_law 208 = .ok (.if_icmp .eq 664, 3) := by decide +kernel
theorem dL_law_211 : decode cL_law 211 = .ok (.iconst 0, 1) := by decide +kernel
theorem dL_law_212 : decode cL_law 212 = .ok (.ireturn, 1) := by decide +kernel
theorem dL_law_213 : decode cL_law 213 = .ok (.aload_n 1, 1) := by decide +kernel
theorem dL_law_214 : decode cL_law 214 = .ok (.aload_n 0, 1) := by decide +kernel
theorem dL_law_215 : decode cL_law 215 = .ok (.iload_n 3, 1) := by decide +kernel
theorem dL_law_216 : decode cL_law 216 = .ok (.iconst 1, 1) := by decide +kernel
theorem dL_law_217 : decode cL_law 217 = .ok (.iadd, 1) := by decide +kernel
theorem dL_law_218 : decode cL_law 218 = .ok (.iaload, 1) := by decide +kernel
theorem dL_law_219 : decode cL_law 219 = .ok (.aload_n 0, 1) := by decide +kernel
theorem dL_law_220 : decode cL_law 220 = .ok (.iload_n 3, 1) := by decide +kernel
theorem dL_law_221 : decode cL_law 221 = .ok (.iconst 2, 1) := by decide +kernel
theorem dL_law_222 : decode cL_law 222 = .ok (.iadd, 1) := by decide +kernel
theorem dL_law_223 : decode cL_law 223 = .ok (.iaload, 1) := by decide +kernel
theorem dL_law_224 : decode cL_law 224 = .ok (.invokevirtual 27, 3) := by decide +kernel
theorem dL_law_227 : decode cL_law 227 = .ok (.aload_n 2, 1) := by decide +kernel
theorem dL_law_228 : decode cL_law 228 = .ok (.aload_n 0, 1) := by decide +kernel
theorem dL_law_229 : decode cL_law 229 = .ok (.iload_n 3, 1) := by decide +kernel
theorem dL_law_230 : decode cL_law 230 = .ok (.iconst 1, 1) := by decide +kernel
theorem dL_law_231 : decode cL_law 231 = .ok (.iadd, 1) := by decide +kernel
theorem dL_law_232 : decode cL_law 232 = .ok (.iaload, 1) := by decide +kernel
theorem dL_law_233 : decode cL_law 233 = .ok (.aload_n 0, 1) := by decide +kernel
theorem dL_law_234 : decode cL_law 234 = .ok (.iload_n 3, 1) := by decide +kernel
theorem dL_law_235 : decode cL_law 235 = .ok (.iconst 2, 1) := by decide +kernel
theorem dL_law_236 : decode cL_law 236 = .ok (.iadd, 1) := by decide +kernel
theorem dL_law_237 : decode cL_law 237 = .ok (.iaload, 1) := by decide +kernel
theorem dL_law_238 : decode cL_law 238 = .ok (.invokevirtual 31, 3) := by decide +kernel
theorem dL_law_241 : decode cL_law 241 = .ok (.if_icmp .eq 631, 3) := by decide +kernel
theorem dL_law_244 : decode cL_law 244 = .ok (.iconst 0, 1) := by decide +kernel
theorem dL_law_245 : decode cL_law 245 = .ok (.ireturn, 1) := by decide +kernel
theorem dL_law_246 : decode cL_law 246 = .ok (.aload_n 1, 1) := by decide +kernel
theorem dL_law_247 : decode cL_law 247 = .ok (.aload_n 0, 1) := by decide +kernel
theorem dL_law_248 : decode cL_law 248 = .ok (.iload_n 3, 1) := by decide +kernel
theorem dL_law_249 : decode cL_law 249 = .ok (.iconst 1, 1) := by decide +kernel
theorem dL_law_250 : decode cL_law 250 = .ok (.iadd, 1) := by decide +kernel
theorem dL_law_251 : decode cL_law 251 = .ok (.iaload, 1) := by decide +kernel
theorem dL_law_252 : decode cL_law 252 = .ok (.aload_n 0, 1) := by decide +kernel
theorem dL_law_253 : decode cL_law 253 = .ok (.iload_n 3, 1) := by decide +kernel
theorem dL_law_254 : decode cL_law 254 = .ok (.iconst 2, 1) := by decide +kernel
theorem dL_law_255 : decode cL_law 255 = .ok (.iadd, 1) := by decide +kernel
theorem dL_law_256 : decode cL_law 256 = .ok (.iaload, 1) := by decide +kernel
theorem dL_law_257 : decode cL_law 257 = .ok (.invokevirtual 32, 3) := by decide +kernel
theorem dL_law_260 : decode cL_law 260 = .ok (.aload_n 2, 1) := by decide +kernel
theorem dL_law_261 : decode cL_law 261 = .ok (.aload_n 0, 1) := by decide +kernel
theorem dL_law_262 : decode cL_law 262 = .ok (.iload_n 3, 1) := by decide +kernel
theorem dL_law_263 : decode cL_law 263 = .ok (.iconst 1, 1) := by decide +kernel
theorem dL_law_264 : decode cL_law 264 = .ok (.iadd, 1) := by decide +kernel
theorem dL_law_265 : decode cL_law 265 = .ok (.iaload, 1) := by decide +kernel
theorem dL_law_266 : decode cL_law 266 = .ok (.aload_n 0, 1) := by decide +kernel
theorem dL_law_267 : decode cL_law 267 = .ok (.iload_n 3, 1) := by decide +kernel
theorem dL_law_268 : decode cL_law 268 = .ok (.iconst 2, 1) := by decide +kernel
theorem dL_law_269 : decode cL_law 269 = .ok (.iadd, 1) := by decide +kernel
theorem dL_law_270 : decode cL_law 270 = .ok (.iaload, 1) := by decide +kernel
theorem dL_law_271 : decode cL_law 271 = .ok (.invokevirtual 35, 3) := by decide +kernel
theorem dL_law_274 : decode cL_law 274 = .ok (.if_icmp .eq 598, 3) := by decide +kernel
theorem dL_law_277 : decode cL_law 277 = .ok (.iconst 0, 1) := by decide +kernel
theorem dL_law_278 : decode cL_law 278 = .ok (.ireturn, 1) := by decide +kernel
theorem dL_law_279 : decode cL_law 279 = .ok (.aload_n 1, 1) := by decide +kernel
theorem dL_law_280 : decode cL_law 280 = .ok (.aload_n 0, 1) := by decide +kernel
theorem dL_law_281 : decode cL_law 281 = .ok (.iload_n 3, 1) := by decide +kernel
theorem dL_law_282 : decode cL_law 282 = .ok (.iconst 1, 1) := by decide +kernel
theorem dL_law_283 : decode cL_law 283 = .ok (.iadd, 1) := by decide +kernel
theorem dL_law_284 : decode cL_law 284 = .ok (.iaload, 1) := by decide +kernel
theorem dL_law_285 : decode cL_law 285 = .ok (.aload_n 0, 1) := by decide +kernel
theorem dL_law_286 : decode cL_law 286 = .ok (.iload_n 3, 1) := by decide +kernel
theorem dL_law_287 : decode cL_law 287 = .ok (.iconst 2, 1) := by decide +kernel
theorem dL_law_288 : decode cL_law 288 = .ok (.iadd, 1) := by decide +kernel
theorem dL_law_289 : decode cL_law 289 = .ok (.iaload, 1) := by decide +kernel
theorem dL_law_290 : decode cL_law 290 = .ok (.invokevirtual 36, 3) := by decide +kernel
theorem dL_law_293 : decode cL_law 293 = .ok (.aload_n 2, 1) := by decide +kernel
theorem dL_law_294 : decode cL_law 294 = .ok (.aload_n 0, 1) := by decide +kernel
theorem dL_law_295 : decode cL_law 295 = .ok (.iload_n 3, 1) := by decide +kernel
theorem dL_law_296 : decode cL_law 296 = .ok (.iconst 1, 1) := by decide +kernel
theorem dL_law_297 : decode cL_law 297 = .ok (.iadd, 1) := by decide +kernel
theorem dL_law_298 : decode cL_law 298 = .ok (.iaload, 1) := by decide +kernel
theorem dL_law_299 : decode cL_law 299 = .ok (.aload_n 0, 1) := by decide +kernel
theorem dL_law_300 : decode cL_law 300 = .ok (.iload_n 3, 1) := by decide +kernel
theorem dL_law_301 : decode cL_law 301 = .ok (.iconst 2, 1) := by decide +kernel
theorem dL_law_302 : decode cL_law 302 = .ok (.iadd, 1) := by decide +kernel
theorem dL_law_303 : decode cL_law 303 = .ok (.iaload, 1) := by decide +kernel
theorem dL_law_304 : decode cL_law 304 = .ok (.invokevirtual 39, 3) := by decide +kernel
theorem dL_law_307 : decode cL_law 307 = .ok (.if_icmp .eq 565, 3) := by decide +kernel
theorem dL_law_310 : decode cL_law 310 = .ok (.iconst 0, 1) := by decide +kernel
theorem dL_law_311 : decode cL_law 311 = .ok (.ireturn, 1) := by decide +kernel
theorem dL_law_312 : decode cL_law 312 = .ok (.aload_n 1, 1) := by decide +kernel
theorem dL_law_313 : decode cL_law 313 = .ok (.aload_n 0, 1) := by decide +kernel
theorem dL_law_314 : decode cL_law 314 = .ok (.iload_n 3, 1) := by decide +kernel
theorem dL_law_315 : decode cL_law 315 = .ok (.iconst 1, 1) := by decide +kernel
theorem dL_law_316 : decode cL_law 316 = .ok (.iadd, 1) := by decide +kernel
theorem dL_law_317 : decode cL_law 317 = .ok (.iaload, 1) := by decide +kernel
theorem dL_law_318 : decode cL_law 318 = .ok (.aload_n 0, 1) := by decide +kernel
theorem dL_law_319 : decode cL_law 319 = .ok (.iload_n 3, 1) := by decide +kernel
theorem dL_law_320 : decode cL_law 320 = .ok (.iconst 2, 1) := by decide +kernel
theorem dL_law_321 : decode cL_law 321 = .ok (.iadd, 1) := by decide +kernel
theorem dL_law_322 : decode cL_law 322 = .ok (.iaload, 1) := by decide +kernel
theorem dL_law_323 : decode cL_law 323 = .ok (.invokevirtual 40, 3) := by decide +kernel
theorem dL_law_326 : decode cL_law 326 = .ok (.aload_n 2, 1) := by decide +kernel
theorem dL_law_327 : decode cL_law 327 = .ok (.aload_n 0, 1) := by decide +kernel
theorem dL_law_328 : decode cL_law 328 = .ok (.iload_n 3, 1) := by decide +kernel
theorem dL_law_329 : decode cL_law 329 = .ok (.iconst 1, 1) := by decide +kernel
theorem dL_law_330 : decode cL_law 330 = .ok (.iadd, 1) := by decide +kernel
theorem dL_law_331 : decode cL_law 331 = .ok (.iaload, 1) := by decide +kernel
theorem dL_law_332 : decode cL_law 332 = .ok (.aload_n 0, 1) := by decide +kernel
theorem dL_law_333 : decode cL_law 333 = .ok (.iload_n 3, 1) := by decide +kernel
theorem dL_law_334 : decode cL_law 334 = .ok (.iconst 2, 1) := by decide +kernel
theorem dL_law_335 : decode cL_law 335 = .ok (.iadd, 1) := by decide +kernel
theorem dL_law_336 : decode cL_law 336 = .ok (.iaload, 1) := by decide +kernel
theorem dL_law_337 : decode cL_law 337 = .ok (.invokevirtual 43, 3) := by decide +kernel
theorem dL_law_340 : decode cL_law 340 = .ok (.if_icmp .eq 532, 3) := by decide +kernel
theorem dL_law_343 : decode cL_law 343 = .ok (.iconst 0, 1) := by decide +kernel
theorem dL_law_344 : decode cL_law 344 = .ok (.ireturn, 1) := by decide +kernel
theorem dL_law_345 : decode cL_law 345 = .ok (.aload_n 1, 1) := by decide +kernel
theorem dL_law_346 : decode cL_law 346 = .ok (.aload_n 0, 1) := by decide +kernel
theorem dL_law_347 : decode cL_law 347 = .ok (.iload_n 3, 1) := by decide +kernel
theorem dL_law_348 : decode cL_law 348 = .ok (.iconst 1, 1) := by decide +kernel
theorem dL_law_349 : decode cL_law 349 = .ok (.iadd, 1) := by decide +kernel
theorem dL_law_350 : decode cL_law 350 = .ok (.iaload, 1) := by decide +kernel
theorem dL_law_351 : decode cL_law 351 = .ok (.invokevirtual 44, 3) := by decide +kernel
theorem dL_law_354 : decode cL_law 354 = .ok (.aload_n 2, 1) := by decide +kernel
theorem dL_law_355 : decode cL_law 355 = .ok (.aload_n 0, 1) := by decide +kernel
theorem dL_law_356 : decode cL_law 356 = .ok (.iload_n 3, 1) := by decide +kernel
theorem dL_law_357 : decode cL_law 357 = .ok (.iconst 1, 1) := by decide +kernel
theorem dL_law_358 : decode cL_law 358 = .ok (.iadd, 1) := by decide +kernel
theorem dL_law_359 : decode cL_law 359 = .ok (.iaload, 1) := by decide +kernel
theorem dL_law_360 : decode cL_law 360 = .ok (.invokevirtual 47, 3) := by decide +kernel
theorem dL_law_363 : decode cL_law 363 = .ok (.if_icmp .eq 509, 3) := by decide +kernel
theorem dL_law_366 : decode cL_law 366 = .ok (.iconst 0, 1) := by decide +kernel
theorem dL_law_367 : decode cL_law 367 = .ok (.ireturn, 1) := by decide +kernel
theorem dL_law_368 : decode cL_law 368 = .ok (.aload_n 1, 1) := by decide +kernel
theorem dL_law_369 : decode cL_law 369 = .ok (.aload_n 0, 1) := by decide +kernel
theorem dL_law_370 : decode cL_law 370 = .ok (.iload_n 3, 1) := by decide +kernel
theorem dL_law_371 : decode cL_law 371 = .ok (.iconst 1, 1) := by decide +kernel
theorem dL_law_372 : decode cL_law 372 = .ok (.iadd, 1) := by decide +kernel
theorem dL_law_373 : decode cL_law 373 = .ok (.iaload, 1) := by decide +kernel
theorem dL_law_374 : decode cL_law 374 = .ok (.invokevirtual 48, 3) := by decide +kernel
theorem dL_law_377 : decode cL_law 377 = .ok (.aload_n 2, 1) := by decide +kernel
theorem dL_law_378 : decode cL_law 378 = .ok (.aload_n 0, 1) := by decide +kernel
theorem dL_law_379 : decode cL_law 379 = .ok (.iload_n 3, 1) := by decide +kernel
theorem dL_law_380 : decode cL_law 380 = .ok (.iconst 1, 1) := by decide +kernel
theorem dL_law_381 : decode cL_law 381 = .ok (.iadd, 1) := by decide +kernel
theorem dL_law_382 : decode cL_law 382 = .ok (.iaload, 1) := by decide +kernel
theorem dL_law_383 : decode cL_law 383 = .ok (.invokevirtual 51, 3) := by decide +kernel
theorem dL_law_386 : decode cL_law 386 = .ok (.if_icmp .eq 486, 3) := by decide +kernel
theorem dL_law_389 : decode cL_law 389 = .ok (.iconst 0, 1) := by decide +kernel
theorem dL_law_390 : decode cL_law 390 = .ok (.ireturn, 1) := by decide +kernel
theorem dL_law_391 : decode cL_law 391 = .ok (.aload_n 1, 1) := by decide +kernel
theorem dL_law_392 : decode cL_law 392 = .ok (.aload_n 0, 1) := by decide +kernel
theorem dL_law_393 : decode cL_law 393 = .ok (.iload_n 3, 1) := by decide +kernel
theorem dL_law_394 : decode cL_law 394 = .ok (.iconst 1, 1) := by decide +kernel
theorem dL_law_395 : decode cL_law 395 = .ok (.iadd, 1) := by decide +kernel
theorem dL_law_396 : decode cL_law 396 = .ok (.iaload, 1) := by decide +kernel
theorem dL_law_397 : decode cL_law 397 = .ok (.invokevirtual 52, 3) := by decide +kernel
theorem dL_law_400 : decode cL_law 400 = .ok (.aload_n 2, 1) := by decide +kernel
theorem dL_law_401 : decode cL_law 401 = .ok (.aload_n 0, 1) := by decide +kernel
theorem dL_law_402 : decode cL_law 402 = .ok (.iload_n 3, 1) := by decide +kernel
theorem dL_law_403 : decode cL_law 403 = .ok (.iconst 1, 1) := by decide +kernel
theorem dL_law_404 : decode cL_law 404 = .ok (.iadd, 1) := by decide +kernel
theorem dL_law_405 : decode cL_law 405 = .ok (.iaload, 1) := by decide +kernel
theorem dL_law_406 : decode cL_law 406 = .ok (.invokevirtual 55, 3) := by decide +kernel
theorem dL_law_409 : decode cL_law 409 = .ok (.if_icmp .eq 463, 3) := by decide +kernel
theorem dL_law_412 : decode cL_law 412 = .ok (.iconst 0, 1) := by decide +kernel
theorem dL_law_413 : decode cL_law 413 = .ok (.ireturn, 1) := by decide +kernel
theorem dL_law_414 : decode cL_law 414 = .ok (.aload_n 1, 1) := by decide +kernel
theorem dL_law_415 : decode cL_law 415 = .ok (.aload_n 0, 1) := by decide +kernel
theorem dL_law_416 : decode cL_law 416 = .ok (.iload_n 3, 1) := by decide +kernel
theorem dL_law_417 : decode cL_law 417 = .ok (.iconst 1, 1) := by decide +kernel
theorem dL_law_418 : decode cL_law 418 = .ok (.iadd, 1) := by decide +kernel
theorem dL_law_419 : decode cL_law 419 = .ok (.iaload, 1) := by decide +kernel
theorem dL_law_420 : decode cL_law 420 = .ok (.invokevirtual 56, 3) := by decide +kernel
theorem dL_law_423 : decode cL_law 423 = .ok (.aload_n 2, 1) := by decide +kernel
theorem dL_law_424 : decode cL_law 424 = .ok (.aload_n 0, 1) := by decide +kernel
theorem dL_law_425 : decode cL_law 425 = .ok (.iload_n 3, 1) := by decide +kernel
theorem dL_law_426 : decode cL_law 426 = .ok (.iconst 1, 1) := by decide +kernel
theorem dL_law_427 : decode cL_law 427 = .ok (.iadd, 1) := by decide +kernel
theorem dL_law_428 : decode cL_law 428 = .ok (.iaload, 1) := by decide +kernel
theorem dL_law_429 : decode cL_law 429 = .ok (.invokevirtual 59, 3) := by decide +kernel
theorem dL_law_432 : decode cL_law 432 = .ok (.if_icmp .eq 440, 3) := by decide +kernel
theorem dL_law_435 : decode cL_law 435 = .ok (.iconst 0, 1) := by decide +kernel
theorem dL_law_436 : decode cL_law 436 = .ok (.ireturn, 1) := by decide +kernel
theorem dL_law_437 : decode cL_law 437 = .ok (.aload_n 1, 1) := by decide +kernel
theorem dL_law_438 : decode cL_law 438 = .ok (.invokevirtual 60, 3) := by decide +kernel
theorem dL_law_441 : decode cL_law 441 = .ok (.aload_n 2, 1) := by decide +kernel
theorem dL_law_442 : decode cL_law 442 = .ok (.invokevirtual 63, 3) := by decide +kernel
theorem dL_law_445 : decode cL_law 445 = .ok (.if_icmp .eq 427, 3) := by decide +kernel
theorem dL_law_448 : decode cL_law 448 = .ok (.iconst 0, 1) := by decide +kernel
theorem dL_law_449 : decode cL_law 449 = .ok (.ireturn, 1) := by decide +kernel
theorem dL_law_450 : decode cL_law 450 = .ok (.aload_n 1, 1) := by decide +kernel
theorem dL_law_451 : decode cL_law 451 = .ok (.invokevirtual 64, 3) := by decide +kernel
theorem dL_law_454 : decode cL_law 454 = .ok (.aload_n 2, 1) := by decide +kernel
theorem dL_law_455 : decode cL_law 455 = .ok (.invokevirtual 67, 3) := by decide +kernel
theorem dL_law_458 : decode cL_law 458 = .ok (.if_icmp .eq 414, 3) := by decide +kernel
theorem dL_law_461 : decode cL_law 461 = .ok (.iconst 0, 1) := by decide +kernel
theorem dL_law_462 : decode cL_law 462 = .ok (.ireturn, 1) := by decide +kernel
theorem dL_law_463 : decode cL_law 463 = .ok (.aload_n 1, 1) := by decide +kernel
theorem dL_law_464 : decode cL_law 464 = .ok (.aload_n 0, 1) := by decide +kernel
theorem dL_law_465 : decode cL_law 465 = .ok (.iload_n 3, 1) := by decide +kernel
theorem dL_law_466 : decode cL_law 466 = .ok (.iconst 1, 1) := by decide +kernel
theorem dL_law_467 : decode cL_law 467 = .ok (.iadd, 1) := by decide +kernel
theorem dL_law_468 : decode cL_law 468 = .ok (.iaload, 1) := by decide +kernel
theorem dL_law_469 : decode cL_law 469 = .ok (.aload_n 0, 1) := by decide +kernel
theorem dL_law_470 : decode cL_law 470 = .ok (.iload_n 3, 1) := by decide +kernel
theorem dL_law_471 : decode cL_law 471 = .ok (.iconst 2, 1) := by decide +kernel
theorem dL_law_472 : decode cL_law 472 = .ok (.iadd, 1) := by decide +kernel
theorem dL_law_473 : decode cL_law 473 = .ok (.iaload, 1) := by decide +kernel
theorem dL_law_474 : decode cL_law 474 = .ok (.invokevirtual 68, 3) := by decide +kernel
theorem dL_law_477 : decode cL_law 477 = .ok (.aload_n 2, 1) := by decide +kernel
theorem dL_law_478 : decode cL_law 478 = .ok (.aload_n 0, 1) := by decide +kernel
theorem dL_law_479 : decode cL_law 479 = .ok (.iload_n 3, 1) := by decide +kernel
theorem dL_law_480 : decode cL_law 480 = .ok (.iconst 1, 1) := by decide +kernel
theorem dL_law_481 : decode cL_law 481 = .ok (.iadd, 1) := by decide +kernel
theorem dL_law_482 : decode cL_law 482 = .ok (.iaload, 1) := by decide +kernel
theorem dL_law_483 : decode cL_law 483 = .ok (.aload_n 0, 1) := by decide +kernel
theorem dL_law_484 : decode cL_law 484 = .ok (.iload_n 3, 1) := by decide +kernel
theorem dL_law_485 : decode cL_law 485 = .ok (.iconst 2, 1) := by decide +kernel
theorem dL_law_486 : decode cL_law 486 = .ok (.iadd, 1) := by decide +kernel
theorem dL_law_487 : decode cL_law 487 = .ok (.iaload, 1) := by decide +kernel
theorem dL_law_488 : decode cL_law 488 = .ok (.invokevirtual 71, 3) := by decide +kernel
theorem dL_law_491 : decode cL_law 491 = .ok (.if_icmp .eq 381, 3) := by decide +kernel
theorem dL_law_494 : decode cL_law 494 = .ok (.iconst 0, 1) := by decide +kernel
theorem dL_law_495 : decode cL_law 495 = .ok (.ireturn, 1) := by decide +kernel
theorem dL_law_496 : decode cL_law 496 = .ok (.aload_n 1, 1) := by decide +kernel
theorem dL_law_497 : decode cL_law 497 = .ok (.aload_n 0, 1) := by decide +kernel
theorem dL_law_498 : decode cL_law 498 = .ok (.iload_n 3, 1) := by decide +kernel
theorem dL_law_499 : decode cL_law 499 = .ok (.iconst 1, 1) := by decide +kernel
theorem dL_law_500 : decode cL_law 500 = .ok (.iadd, 1) := by decide +kernel
theorem dL_law_501 : decode cL_law 501 = .ok (.iaload, 1) := by decide +kernel
theorem dL_law_502 : decode cL_law 502 = .ok (.aload_n 0, 1) := by decide +kernel
theorem dL_law_503 : decode cL_law 503 = .ok (.iload_n 3, 1) := by decide +kernel
theorem dL_law_504 : decode cL_law 504 = .ok (.iconst 2, 1) := by decide +kernel
theorem dL_law_505 : decode cL_law 505 = .ok (.iadd, 1) := by decide +kernel
theorem dL_law_506 : decode cL_law 506 = .ok (.iaload, 1) := by decide +kernel
theorem dL_law_507 : decode cL_law 507 = .ok (.aload_n 0, 1) := by decide +kernel
theorem dL_law_508 : decode cL_law 508 = .ok (.iload_n 3, 1) := by decide +kernel
theorem dL_law_509 : decode cL_law 509 = .ok (.iconst 3, 1) := by decide +kernel
theorem dL_law_510 : decode cL_law 510 = .ok (.iadd, 1) := by decide +kernel
theorem dL_law_511 : decode cL_law 511 = .ok (.iaload, 1) := by decide +kernel
theorem dL_law_512 : decode cL_law 512 = .ok (.invokevirtual 72, 3) := by decide +kernel
theorem dL_law_515 : decode cL_law 515 = .ok (.aload_n 2, 1) := by decide +kernel
theorem dL_law_516 : decode cL_law 516 = .ok (.aload_n 0, 1) := by decide +kernel
theorem dL_law_517 : decode cL_law 517 = .ok (.iload_n 3, 1) := by decide +kernel
theorem dL_law_518 : decode cL_law 518 = .ok (.iconst 1, 1) := by decide +kernel
theorem dL_law_519 : decode cL_law 519 = .ok (.iadd, 1) := by decide +kernel
theorem dL_law_520 : decode cL_law 520 = .ok (.iaload, 1) := by decide +kernel
theorem dL_law_521 : decode cL_law 521 = .ok (.aload_n 0, 1) := by decide +kernel
theorem dL_law_522 : decode cL_law 522 = .ok (.iload_n 3, 1) := by decide +kernel
theorem dL_law_523 : decode cL_law 523 = .ok (.iconst 2, 1) := by decide +kernel
theorem dL_law_524 : decode cL_law 524 = .ok (.iadd, 1) := by decide +kernel
theorem dL_law_525 : decode cL_law 525 = .ok (.iaload, 1) := by decide +kernel
theorem dL_law_526 : decode cL_law 526 = .ok (.aload_n 0, 1) := by decide +kernel
theorem dL_law_527 : decode cL_law 527 = .ok (.iload_n 3, 1) := by decide +kernel
theorem dL_law_528 : decode cL_law 528 = .ok (.iconst 3, 1) := by decide +kernel
theorem dL_law_529 : decode cL_law 529 = .ok (.iadd, 1) := by decide +kernel
theorem dL_law_530 : decode cL_law 530 = .ok (.iaload, 1) := by decide +kernel
theorem dL_law_531 : decode cL_law 531 = .ok (.invokevirtual 76, 3) := by decide +kernel
theorem dL_law_534 : decode cL_law 534 = .ok (.if_icmp .eq 338, 3) := by decide +kernel
theorem dL_law_537 : decode cL_law 537 = .ok (.iconst 0, 1) := by decide +kernel
theorem dL_law_538 : decode cL_law 538 = .ok (.ireturn, 1) := by decide +kernel
theorem dL_law_539 : decode cL_law 539 = .ok (.aload_n 1, 1) := by decide +kernel
theorem dL_law_540 : decode cL_law 540 = .ok (.aload_n 0, 1) := by decide +kernel
theorem dL_law_541 : decode cL_law 541 = .ok (.iload_n 3, 1) := by decide +kernel
theorem dL_law_542 : decode cL_law 542 = .ok (.iconst 1, 1) := by decide +kernel
theorem dL_law_543 : decode cL_law 543 = .ok (.iadd, 1) := by decide +kernel
theorem dL_law_544 : decode cL_law 544 = .ok (.iaload, 1) := by decide +kernel
theorem dL_law_545 : decode cL_law 545 = .ok (.aload_n 0, 1) := by decide +kernel
theorem dL_law_546 : decode cL_law 546 = .ok (.iload_n 3, 1) := by decide +kernel
theorem dL_law_547 : decode cL_law 547 = .ok (.iconst 2, 1) := by decide +kernel
theorem dL_law_548 : decode cL_law 548 = .ok (.iadd, 1) := by decide +kernel
theorem dL_law_549 : decode cL_law 549 = .ok (.iaload, 1) := by decide +kernel
theorem dL_law_550 : decode cL_law 550 = .ok (.invokevirtual 77, 3) := by decide +kernel
theorem dL_law_553 : decode cL_law 553 = .ok (.aload_n 2, 1) := by decide +kernel
theorem dL_law_554 : decode cL_law 554 = .ok (.aload_n 0, 1) := by decide +kernel
theorem dL_law_555 : decode cL_law 555 = .ok (.iload_n 3, 1) := by decide +kernel
theorem dL_law_556 : decode cL_law 556 = .ok (.iconst 1, 1) := by decide +kernel
theorem dL_law_557 : decode cL_law 557 = .ok (.iadd, 1) := by decide +kernel
theorem dL_law_558 : decode cL_law 558 = .ok (.iaload, 1) := by decide +kernel
theorem dL_law_559 : decode cL_law 559 = .ok (.aload_n 0, 1) := by decide +kernel
theorem dL_law_560 : decode cL_law 560 = .ok (.iload_n 3, 1) := by decide +kernel
theorem dL_law_561 : decode cL_law 561 = .ok (.iconst 2, 1) := by decide +kernel
theorem dL_law_562 : decode cL_law 562 = .ok (.iadd, 1) := by decide +kernel
theorem dL_law_563 : decode cL_law 563 = .ok (.iaload, 1) := by decide +kernel
theorem dL_law_564 : decode cL_law 564 = .ok (.invokevirtual 80, 3) := by decide +kernel
theorem dL_law_567 : decode cL_law 567 = .ok (.if_icmp .eq 305, 3) := by decide +kernel
theorem dL_law_570 : decode cL_law 570 = .ok (.iconst 0, 1) := by decide +kernel
theorem dL_law_571 : decode cL_law 571 = .ok (.ireturn, 1) := by decide +kernel
theorem dL_law_572 : decode cL_law 572 = .ok (.aload_n 1, 1) := by decide +kernel
theorem dL_law_573 : decode cL_law 573 = .ok (.aload_n 0, 1) := by decide +kernel
theorem dL_law_574 : decode cL_law 574 = .ok (.iload_n 3, 1) := by decide +kernel
theorem dL_law_575 : decode cL_law 575 = .ok (.iconst 1, 1) := by decide +kernel
theorem dL_law_576 : decode cL_law 576 = .ok (.iadd, 1) := by decide +kernel
theorem dL_law_577 : decode cL_law 577 = .ok (.iaload, 1) := by decide +kernel
theorem dL_law_578 : decode cL_law 578 = .ok (.invokevirtual 81, 3) := by decide +kernel
theorem dL_law_581 : decode cL_law 581 = .ok (.aload_n 2, 1) := by decide +kernel
theorem dL_law_582 : decode cL_law 582 = .ok (.aload_n 0, 1) := by decide +kernel
theorem dL_law_583 : decode cL_law 583 = .ok (.iload_n 3, 1) := by decide +kernel
theorem dL_law_584 : decode cL_law 584 = .ok (.iconst 1, 1) := by decide +kernel
theorem dL_law_585 : decode cL_law 585 = .ok (.iadd, 1) := by decide +kernel
theorem dL_law_586 : decode cL_law 586 = .ok (.iaload, 1) := by decide +kernel
theorem dL_law_587 : decode cL_law 587 = .ok (.invokevirtual 84, 3) := by decide +kernel
theorem dL_law_590 : decode cL_law 590 = .ok (.if_icmp .eq 282, 3) := by decide +kernel
theorem dL_law_593 : decode cL_law 593 = .ok (.iconst 0, 1) := by decide +kernel
theorem dL_law_594 : decode cL_law 594 = .ok (.ireturn, 1) := by decide +kernel
theorem dL_law_595 : decode cL_law 595 = .ok (.aload_n 1, 1) := by decide +kernel
theorem dL_law_596 : decode cL_law 596 = .ok (.invokevirtual 85, 3) := by decide +kernel
theorem dL_law_599 : decode cL_law 599 = .ok (.aload_n 2, 1) := by decide +kernel
theorem dL_law_600 : decode cL_law 600 = .ok (.invokevirtual 88, 3) := by decide +kernel
theorem dL_law_603 : decode cL_law 603 = .ok (.if_icmp .eq 269, 3) := by decide +kernel
theorem dL_law_606 : decode cL_law 606 = .ok (.iconst 0, 1) := by decide +kernel
theorem dL_law_607 : decode cL_law 607 = .ok (.ireturn, 1) := by decide +kernel
theorem dL_law_608 : decode cL_law 608 = .ok (.aload_n 1, 1) := by decide +kernel
theorem dL_law_609 : decode cL_law 609 = .ok (.invokevirtual 89, 3) := by decide +kernel
theorem dL_law_612 : decode cL_law 612 = .ok (.aload_n 2, 1) := by decide +kernel
theorem dL_law_613 : decode cL_law 613 = .ok (.invokevirtual 92, 3) := by decide +kernel
theorem dL_law_616 : decode cL_law 616 = .ok (.if_icmp .eq 256, 3) := by decide +kernel
theorem dL_law_619 : decode cL_law 619 = .ok (.iconst 0, 1) := by decide +kernel
theorem dL_law_620 : decode cL_law 620 = .ok (.ireturn, 1) := by decide +kernel
theorem dL_law_621 : decode cL_law 621 = .ok (.aload_n 1, 1) := by decide +kernel
theorem dL_law_622 : decode cL_law 622 = .ok (.invokevirtual 93, 3) := by decide +kernel
theorem dL_law_625 : decode cL_law 625 = .ok (.aload_n 2, 1) := by decide +kernel
theorem dL_law_626 : decode cL_law 626 = .ok (.invokevirtual 96, 3) := by decide +kernel
theorem dL_law_629 : decode cL_law 629 = .ok (.if_icmp .eq 243, 3) := by decide +kernel
theorem dL_law_632 : decode cL_law 632 = .ok (.iconst 0, 1) := by decide +kernel
theorem dL_law_633 : decode cL_law 633 = .ok (.ireturn, 1) := by decide +kernel
theorem dL_law_634 : decode cL_law 634 = .ok (.aload_n 1, 1) := by decide +kernel
theorem dL_law_635 : decode cL_law 635 = .ok (.aload_n 0, 1) := by decide +kernel
theorem dL_law_636 : decode cL_law 636 = .ok (.iload_n 3, 1) := by decide +kernel
theorem dL_law_637 : decode cL_law 637 = .ok (.iconst 1, 1) := by decide +kernel
theorem dL_law_638 : decode cL_law 638 = .ok (.iadd, 1) := by decide +kernel
theorem dL_law_639 : decode cL_law 639 = .ok (.iaload, 1) := by decide +kernel
theorem dL_law_640 : decode cL_law 640 = .ok (.invokevirtual 97, 3) := by decide +kernel
theorem dL_law_643 : decode cL_law 643 = .ok (.aload_n 2, 1) := by decide +kernel
theorem dL_law_644 : decode cL_law 644 = .ok (.aload_n 0, 1) := by decide +kernel
theorem dL_law_645 : decode cL_law 645 = .ok (.iload_n 3, 1) := by decide +kernel
theorem dL_law_646 : decode cL_law 646 = .ok (.iconst 1, 1) := by decide +kernel
theorem dL_law_647 : decode cL_law 647 = .ok (.iadd, 1) := by decide +kernel
theorem dL_law_648 : decode cL_law 648 = .ok (.iaload, 1) := by decide +kernel
theorem dL_law_649 : decode cL_law 649 = .ok (.invokevirtual 100, 3) := by decide +kernel
theorem dL_law_652 : decode cL_law 652 = .ok (.if_icmp .eq 220, 3) := by decide +kernel
theorem dL_law_655 : decode cL_law 655 = .ok (.iconst 0, 1) := by decide +kernel
theorem dL_law_656 : decode cL_law 656 = .ok (.ireturn, 1) := by decide +kernel
theorem dL_law_657 : decode cL_law 657 = .ok (.aload_n 1, 1) := by decide +kernel
theorem dL_law_658 : decode cL_law 658 = .ok (.aload_n 0, 1) := by decide +kernel
theorem dL_law_659 : decode cL_law 659 = .ok (.iload_n 3, 1) := by decide +kernel
theorem dL_law_660 : decode cL_law 660 = .ok (.iconst 1, 1) := by decide +kernel
theorem dL_law_661 : decode cL_law 661 = .ok (.iadd, 1) := by decide +kernel
theorem dL_law_662 : decode cL_law 662 = .ok (.iaload, 1) := by decide +kernel
theorem dL_law_663 : decode cL_law 663 = .ok (.invokevirtual 101, 3) := by decide +kernel
theorem dL_law_666 : decode cL_law 666 = .ok (.aload_n 2, 1) := by decide +kernel
theorem dL_law_667 : decode cL_law 667 = .ok (.aload_n 0, 1) := by decide +kernel
theorem dL_law_668 : decode cL_law 668 = .ok (.iload_n 3, 1) := by decide +kernel
theorem dL_law_669 : decode cL_law 669 = .ok (.iconst 1, 1) := by decide +kernel
theorem dL_law_670 : decode cL_law 670 = .ok (.iadd, 1) := by decide +kernel
theorem dL_law_671 : decode cL_law 671 = .ok (.iaload, 1) := by decide +kernel
theorem dL_law_672 : decode cL_law 672 = .ok (.invokevirtual 104, 3) := by decide +kernel
theorem dL_law_675 : decode cL_law 675 = .ok (.if_icmp .eq 197, 3) := by decide +kernel
theorem dL_law_678 : decode cL_law 678 = .ok (.iconst 0, 1) := by decide +kernel
theorem dL_law_679 : decode cL_law 679 = .ok (.ireturn, 1) := by decide +kernel
theorem dL_law_680 : decode cL_law 680 = .ok (.aload_n 1, 1) := by decide +kernel
theorem dL_law_681 : decode cL_law 681 = .ok (.aload_n 0, 1) := by decide +kernel
theorem dL_law_682 : decode cL_law 682 = .ok (.iload_n 3, 1) := by decide +kernel
theorem dL_law_683 : decode cL_law 683 = .ok (.iconst 1, 1) := by decide +kernel
theorem dL_law_684 : decode cL_law 684 = .ok (.iadd, 1) := by decide +kernel
theorem dL_law_685 : decode cL_law 685 = .ok (.iaload, 1) := by decide +kernel
theorem dL_law_686 : decode cL_law 686 = .ok (.invokevirtual 105, 3) := by decide +kernel
theorem dL_law_689 : decode cL_law 689 = .ok (.aload_n 2, 1) := by decide +kernel
theorem dL_law_690 : decode cL_law 690 = .ok (.aload_n 0, 1) := by decide +kernel
theorem dL_law_691 : decode cL_law 691 = .ok (.iload_n 3, 1) := by decide +kernel
theorem dL_law_692 : decode cL_law 692 = .ok (.iconst 1, 1) := by decide +kernel
theorem dL_law_693 : decode cL_law 693 = .ok (.iadd, 1) := by decide +kernel
theorem dL_law_694 : decode cL_law 694 = .ok (.iaload, 1) := by decide +kernel
theorem dL_law_695 : decode cL_law 695 = .ok (.invokevirtual 108, 3) := by decide +kernel
theorem dL_law_698 : decode cL_law 698 = .ok (.if_icmp .eq 174, 3) := by decide +kernel
theorem dL_law_701 : decode cL_law 701 = .ok (.iconst 0, 1) := by decide +kernel
theorem dL_law_702 : decode cL_law 702 = .ok (.ireturn, 1) := by decide +kernel
theorem dL_law_703 : decode cL_law 703 = .ok (.aload_n 1, 1) := by decide +kernel
theorem dL_law_704 : decode cL_law 704 = .ok (.aload_n 0, 1) := by decide +kernel
theorem dL_law_705 : decode cL_law 705 = .ok (.iload_n 3, 1) := by decide +kernel
theorem dL_law_706 : decode cL_law 706 = .ok (.iconst 1, 1) := by decide +kernel
theorem dL_law_707 : decode cL_law 707 = .ok (.iadd, 1) := by decide +kernel
theorem dL_law_708 : decode cL_law 708 = .ok (.iaload, 1) := by decide +kernel
theorem dL_law_709 : decode cL_law 709 = .ok (.aload_n 0, 1) := by decide +kernel
theorem dL_law_710 : decode cL_law 710 = .ok (.iload_n 3, 1) := by decide +kernel
theorem dL_law_711 : decode cL_law 711 = .ok (.iconst 2, 1) := by decide +kernel
theorem dL_law_712 : decode cL_law 712 = .ok (.iadd, 1) := by decide +kernel
theorem dL_law_713 : decode cL_law 713 = .ok (.iaload, 1) := by decide +kernel
theorem dL_law_714 : decode cL_law 714 = .ok (.aload_n 0, 1) := by decide +kernel
theorem dL_law_715 : decode cL_law 715 = .ok (.iload_n 3, 1) := by decide +kernel
theorem dL_law_716 : decode cL_law 716 = .ok (.iconst 3, 1) := by decide +kernel
theorem dL_law_717 : decode cL_law 717 = .ok (.iadd, 1) := by decide +kernel
theorem dL_law_718 : decode cL_law 718 = .ok (.iaload, 1) := by decide +kernel
theorem dL_law_719 : decode cL_law 719 = .ok (.aload_n 0, 1) := by decide +kernel
theorem dL_law_720 : decode cL_law 720 = .ok (.iload_n 3, 1) := by decide +kernel
theorem dL_law_721 : decode cL_law 721 = .ok (.iconst 4, 1) := by decide +kernel
theorem dL_law_722 : decode cL_law 722 = .ok (.iadd, 1) := by decide +kernel
theorem dL_law_723 : decode cL_law 723 = .ok (.iaload, 1) := by decide +kernel
theorem dL_law_724 : decode cL_law 724 = .ok (.invokevirtual 109, 3) := by decide +kernel
theorem dL_law_727 : decode cL_law 727 = .ok (.aload_n 2, 1) := by decide +kernel
theorem dL_law_728 : decode cL_law 728 = .ok (.aload_n 0, 1) := by decide +kernel
theorem dL_law_729 : decode cL_law 729 = .ok (.iload_n 3, 1) := by decide +kernel
theorem dL_law_730 : decode cL_law 730 = .ok (.iconst 1, 1) := by decide +kernel
theorem dL_law_731 : decode cL_law 731 = .ok (.iadd, 1) := by decide +kernel
theorem dL_law_732 : decode cL_law 732 = .ok (.iaload, 1) := by decide +kernel
theorem dL_law_733 : decode cL_law 733 = .ok (.aload_n 0, 1) := by decide +kernel
theorem dL_law_734 : decode cL_law 734 = .ok (.iload_n 3, 1) := by decide +kernel
theorem dL_law_735 : decode cL_law 735 = .ok (.iconst 2, 1) := by decide +kernel
theorem dL_law_736 : decode cL_law 736 = .ok (.iadd, 1) := by decide +kernel
theorem dL_law_737 : decode cL_law 737 = .ok (.iaload, 1) := by decide +kernel
theorem dL_law_738 : decode cL_law 738 = .ok (.aload_n 0, 1) := by decide +kernel
theorem dL_law_739 : decode cL_law 739 = .ok (.iload_n 3, 1) := by decide +kernel
theorem dL_law_740 : decode cL_law 740 = .ok (.iconst 3, 1) := by decide +kernel
theorem dL_law_741 : decode cL_law 741 = .ok (.iadd, 1) := by decide +kernel
theorem dL_law_742 : decode cL_law 742 = .ok (.iaload, 1) := by decide +kernel
theorem dL_law_743 : decode cL_law 743 = .ok (.aload_n 0, 1) := by decide +kernel
theorem dL_law_744 : decode cL_law 744 = .ok (.iload_n 3, 1) := by decide +kernel
theorem dL_law_745 : decode cL_law 745 = .ok (.iconst 4, 1) := by decide +kernel
theorem dL_law_746 : decode cL_law 746 = .ok (.iadd, 1) := by decide +kernel
theorem dL_law_747 : decode cL_law 747 = .ok (.iaload, 1) := by decide +kernel
theorem dL_law_748 : decode cL_law 748 = .ok (.invokevirtual 113, 3) := by decide +kernel
theorem dL_law_751 : decode cL_law 751 = .ok (.if_icmp .eq 121, 3) := by decide +kernel
theorem dL_law_754 : decode cL_law 754 = .ok (.iconst 0, 1) := by decide +kernel
theorem dL_law_755 : decode cL_law 755 = .ok (.ireturn, 1) := by decide +kernel
theorem dL_law_756 : decode cL_law 756 = .ok (.aload_n 1, 1) := by decide +kernel
theorem dL_law_757 : decode cL_law 757 = .ok (.aload_n 0, 1) := by decide +kernel
theorem dL_law_758 : decode cL_law 758 = .ok (.iload_n 3, 1) := by decide +kernel
theorem dL_law_759 : decode cL_law 759 = .ok (.iconst 1, 1) := by decide +kernel
theorem dL_law_760 : decode cL_law 760 = .ok (.iadd, 1) := by decide +kernel
theorem dL_law_761 : decode cL_law 761 = .ok (.iaload, 1) := by decide +kernel
theorem dL_law_762 : decode cL_law 762 = .ok (.aload_n 0, 1) := by decide +kernel
theorem dL_law_763 : decode cL_law 763 = .ok (.iload_n 3, 1) := by decide +kernel
theorem dL_law_764 : decode cL_law 764 = .ok (.iconst 2, 1) := by decide +kernel
theorem dL_law_765 : decode cL_law 765 = .ok (.iadd, 1) := by decide +kernel
theorem dL_law_766 : decode cL_law 766 = .ok (.iaload, 1) := by decide +kernel
theorem dL_law_767 : decode cL_law 767 = .ok (.invokevirtual 114, 3) := by decide +kernel
theorem dL_law_770 : decode cL_law 770 = .ok (.aload_n 2, 1) := by decide +kernel
theorem dL_law_771 : decode cL_law 771 = .ok (.aload_n 0, 1) := by decide +kernel
theorem dL_law_772 : decode cL_law 772 = .ok (.iload_n 3, 1) := by decide +kernel
theorem dL_law_773 : decode cL_law 773 = .ok (.iconst 1, 1) := by decide +kernel
theorem dL_law_774 : decode cL_law 774 = .ok (.iadd, 1) := by decide +kernel
theorem dL_law_775 : decode cL_law 775 = .ok (.iaload, 1) := by decide +kernel
theorem dL_law_776 : decode cL_law 776 = .ok (.aload_n 0, 1) := by decide +kernel
theorem dL_law_777 : decode cL_law 777 = .ok (.iload_n 3, 1) := by decide +kernel
theorem dL_law_778 : decode cL_law 778 = .ok (.iconst 2, 1) := by decide +kernel
theorem dL_law_779 : decode cL_law 779 = .ok (.iadd, 1) := by decide +kernel
theorem dL_law_780 : decode cL_law 780 = .ok (.iaload, 1) := by decide +kernel
theorem dL_law_781 : decode cL_law 781 = .ok (.invokevirtual 117, 3) := by decide +kernel
theorem dL_law_784 : decode cL_law 784 = .ok (.if_icmp .eq 88, 3) := by decide +kernel
theorem dL_law_787 : decode cL_law 787 = .ok (.iconst 0, 1) := by decide +kernel
theorem dL_law_788 : decode cL_law 788 = .ok (.ireturn, 1) := by decide +kernel
theorem dL_law_789 : decode cL_law 789 = .ok (.aload_n 1, 1) := by decide +kernel
theorem dL_law_790 : decode cL_law 790 = .ok (.aload_n 0, 1) := by decide +kernel
theorem dL_law_791 : decode cL_law 791 = .ok (.iload_n 3, 1) := by decide +kernel
theorem dL_law_792 : decode cL_law 792 = .ok (.iconst 1, 1) := by decide +kernel
theorem dL_law_793 : decode cL_law 793 = .ok (.iadd, 1) := by decide +kernel
theorem dL_law_794 : decode cL_law 794 = .ok (.iaload, 1) := by decide +kernel
theorem dL_law_795 : decode cL_law 795 = .ok (.invokevirtual 118, 3) := by decide +kernel
theorem dL_law_798 : decode cL_law 798 = .ok (.aload_n 2, 1) := by decide +kernel
theorem dL_law_799 : decode cL_law 799 = .ok (.aload_n 0, 1) := by decide +kernel
theorem dL_law_800 : decode cL_law 800 = .ok (.iload_n 3, 1) := by decide +kernel
theorem dL_law_801 : decode cL_law 801 = .ok (.iconst 1, 1) := by decide +kernel
theorem dL_law_802 : decode cL_law 802 = .ok (.iadd, 1) := by decide +kernel
theorem dL_law_803 : decode cL_law 803 = .ok (.iaload, 1) := by decide +kernel
theorem dL_law_804 : decode cL_law 804 = .ok (.invokevirtual 121, 3) := by decide +kernel
theorem dL_law_807 : decode cL_law 807 = .ok (.if_icmp .eq 65, 3) := by decide +kernel
theorem dL_law_810 : decode cL_law 810 = .ok (.iconst 0, 1) := by decide +kernel
theorem dL_law_811 : decode cL_law 811 = .ok (.ireturn, 1) := by decide +kernel
theorem dL_law_812 : decode cL_law 812 = .ok (.aload_n 1, 1) := by decide +kernel
theorem dL_law_813 : decode cL_law 813 = .ok (.aload_n 0, 1) := by decide +kernel
theorem dL_law_814 : decode cL_law 814 = .ok (.iload_n 3, 1) := by decide +kernel
theorem dL_law_815 : decode cL_law 815 = .ok (.iconst 1, 1) := by decide +kernel
theorem dL_law_816 : decode cL_law 816 = .ok (.iadd, 1) := by decide +kernel
theorem dL_law_817 : decode cL_law 817 = .ok (.iaload, 1) := by decide +kernel
theorem dL_law_818 : decode cL_law 818 = .ok (.invokevirtual 122, 3) := by decide +kernel
theorem dL_law_821 : decode cL_law 821 = .ok (.aload_n 2, 1) := by decide +kernel
theorem dL_law_822 : decode cL_law 822 = .ok (.aload_n 0, 1) := by decide +kernel
theorem dL_law_823 : decode cL_law 823 = .ok (.iload_n 3, 1) := by decide +kernel
theorem dL_law_824 : decode cL_law 824 = .ok (.iconst 1, 1) := by decide +kernel
theorem dL_law_825 : decode cL_law 825 = .ok (.iadd, 1) := by decide +kernel
theorem dL_law_826 : decode cL_law 826 = .ok (.iaload, 1) := by decide +kernel
theorem dL_law_827 : decode cL_law 827 = .ok (.invokevirtual 125, 3) := by decide +kernel
theorem dL_law_830 : decode cL_law 830 = .ok (.if_icmp .eq 42, 3) := by decide +kernel
theorem dL_law_833 : decode cL_law 833 = .ok (.iconst 0, 1) := by decide +kernel
theorem dL_law_834 : decode cL_law 834 = .ok (.ireturn, 1) := by decide +kernel
theorem dL_law_835 : decode cL_law 835 = .ok (.aload_n 1, 1) := by decide +kernel
theorem dL_law_836 : decode cL_law 836 = .ok (.aload_n 0, 1) := by decide +kernel
theorem dL_law_837 : decode cL_law 837 = .ok (.iload_n 3, 1) := by decide +kernel
theorem dL_law_838 : decode cL_law 838 = .ok (.iconst 1, 1) := by decide +kernel
theorem dL_law_839 : decode cL_law 839 = .ok (.iadd, 1) := by decide +kernel
theorem dL_law_840 : decode cL_law 840 = .ok (.iaload, 1) := by decide +kernel
theorem dL_law_841 : decode cL_law 841 = .ok (.invokevirtual 126, 3) := by decide +kernel
theorem dL_law_844 : decode cL_law 844 = .ok (.aload_n 2, 1) := by decide +kernel
theorem dL_law_845 : decode cL_law 845 = .ok (.aload_n 0, 1) := by decide +kernel
theorem dL_law_846 : decode cL_law 846 = .ok (.iload_n 3, 1) := by decide +kernel
theorem dL_law_847 : decode cL_law 847 = .ok (.iconst 1, 1) := by decide +kernel
theorem dL_law_848 : decode cL_law 848 = .ok (.iadd, 1) := by decide +kernel
theorem dL_law_849 : decode cL_law 849 = .ok (.iaload, 1) := by decide +kernel
theorem dL_law_850 : decode cL_law 850 = .ok (.invokevirtual 129, 3) := by decide +kernel
theorem dL_law_853 : decode cL_law 853 = .ok (.if_icmp .eq 19, 3) := by decide +kernel
theorem dL_law_856 : decode cL_law 856 = .ok (.iconst 0, 1) := by decide +kernel
theorem dL_law_857 : decode cL_law 857 = .ok (.ireturn, 1) := by decide +kernel
theorem dL_law_858 : decode cL_law 858 = .ok (.aload_n 1, 1) := by decide +kernel
theorem dL_law_859 : decode cL_law 859 = .ok (.invokevirtual 130, 3) := by decide +kernel
theorem dL_law_862 : decode cL_law 862 = .ok (.aload_n 2, 1) := by decide +kernel
theorem dL_law_863 : decode cL_law 863 = .ok (.invokevirtual 134, 3) := by decide +kernel
theorem dL_law_866 : decode cL_law 866 = .ok (.lcmp, 1) := by decide +kernel
theorem dL_law_867 : decode cL_law 867 = .ok (.ifCond .eq 5, 3) := by decide +kernel
theorem dL_law_870 : decode cL_law 870 = .ok (.iconst 0, 1) := by decide +kernel
theorem dL_law_871 : decode cL_law 871 = .ok (.ireturn, 1) := by decide +kernel
theorem dL_law_872 : decode cL_law 872 = .ok (.iinc 3 5, 3) := by decide +kernel
theorem dL_law_875 : decode cL_law 875 = .ok (.goto (-857), 3) := by decide +kernel
theorem dL_law_878 : decode cL_law 878 = .ok (.iconst 1, 1) := by decide +kernel
theorem dL_law_879 : decode cL_law 879 = .ok (.ireturn, 1) := by decide +kernel
end
section
/-! ===== BASE: the state of a world as rows of numbers; contracts as 'a function's value'; one row an access ===== -/
/-- a world's numbers: row i, place j; and one long -/
abbrev Sg : Type := (Nat → Nat → Int32) × Int64
def pr (g : Sg) (i : Nat) (f : Nat → Int32) : Sg := (fun a => if a = i then f else g.1 a, g.2)
def pu (g : Sg) (i j : Nat) (v : Int32) : Sg := pr g i (upd (g.1 i) j v)
def pl (g : Sg) (t : Int64) : Sg := (g.1, t)
/-! the functions' own words -/
def ix {β : Type} (i : Int32) (n : Nat) (k : Option β) : Option β := if i < 0 ∨ n ≤ i.toNatClampNeg then none else k
def nz {β : Type} (y : Int32) (k : Option β) : Option β := if y = 0 then none else k
def bd {α β : Type} (v : Option α) (k : α → Option β) : Option β := match v with
  | none => none
  | some a => k a
def bd2 {α γ β : Type} (v : Option (α × γ)) (k : α → γ → Option β) : Option β := match v with
  | none => none
  | some a => k a.1 a.2
def nx {α β : Type} (v : α) (k : α → Option β) : Option β := k v
theorem ix_elim {β : Type} {i : Int32} {n : Nat} {k : Option β} {r : β} (h : ix i n k = some r) : vp_in i n ∧ k = some r := by
  unfold ix at h
  split at h
  · cases h
  · exact ⟨by assumption, h⟩
theorem nz_elim {β : Type} {y : Int32} {k : Option β} {r : β} (h : nz y k = some r) : ¬ y = 0 ∧ k = some r := by
  unfold nz at h
  split at h
  · cases h
  · exact ⟨by assumption, h⟩
theorem bd_elim {α β : Type} {v : Option α} {k : α → Option β} {r : β} (h : bd v k = some r) : ∃ a, v = some a ∧ k a = some r := by
  cases v with
  | none => cases h
  | some a => exact ⟨a, rfl, h⟩
theorem bd2_elim {α γ β : Type} {v : Option (α × γ)} {k : α → γ → Option β} {r : β} (h : bd2 v k = some r) : ∃ a c, v = some (a, c) ∧ k a c = some r := by
  cases v with
  | none => cases h
  | some a => exact ⟨a.1, a.2, rfl, h⟩
theorem nx_elim {α β : Type} {v : α} {k : α → Option β} {r : β} (h : nx v k = some r) : ∃ z, z = v ∧ k z = some r := ⟨v, rfl, h⟩
theorem ite_t {α : Type} {c : Prop} [Decidable c] {a b r : α} (h : (if c then a else b) = r) (hc : c) : a = r := (if_pos hc).symm.trans h
theorem ite_f {α : Type} {c : Prop} [Decidable c] {a b r : α} (h : (if c then a else b) = r) (hc : ¬ c) : b = r := (if_neg hc).symm.trans h
def rz (x : Int32) (g : Sg) : Option (Int32 × Sg) := if x = 0 ∨ x = 1 then some (x, g) else none
theorem rz_spec {x : Int32} {g : Sg} {res : Int32 × Sg} (h : rz x g = some res) : (x = 0 ∨ x = 1) ∧ (x, g) = res := by
  unfold rz at h
  split at h
  · exact ⟨by assumption, Option.some.inj h⟩
  · cases h
abbrev tyL (cI cZ cB : ClassId) : List (ClassId × FieldType) := [(cI, .int), (cZ, .boolean), (cB, .object RX0)]
/-! what stands where in a world -/
def oB (w : Sg → va_W) (pos ad ci : Nat) : Prop := ∀ g, ∃ fs, (w g)[pos]? = some (ad, .inr (ci, fs))
def fI (w : Sg → va_W) (pos ad ci k r j : Nat) : Prop := ∀ g, ∃ fs, (w g)[pos]? = some (ad, .inr (ci, fs)) ∧ fs[k]? = some (.int (g.1 r j)) ∧ k < fs.length ∧ ∀ v, (w g).set pos (ad, .inr (ci, fs.set k (.int v))) = w (pu g r j v)
def fL (w : Sg → va_W) (pos ad ci k : Nat) : Prop := ∀ g, ∃ fs, (w g)[pos]? = some (ad, .inr (ci, fs)) ∧ fs[k]? = some (.long g.2) ∧ k < fs.length ∧ ∀ v, (w g).set pos (ad, .inr (ci, fs.set k (.long v))) = w (pl g v)
def fR (w : Sg → va_W) (pos ad ci k ad2 : Nat) : Prop := ∀ g, ∃ fs, (w g)[pos]? = some (ad, .inr (ci, fs)) ∧ fs[k]? = some (.ref ad2)
def aI (w : Sg → va_W) (cA : ClassId) (pos ad n a : Nat) : Prop := ∀ g, (w g)[pos]? = some (ad, .inl (cA, n, .inl (g.1 a))) ∧ ∀ f, (w g).set pos (ad, .inl (cA, n, .inl f)) = w (pr g a f)
def aQ (w : Sg → va_W) (cB : ClassId) (pos ad n : Nat) (f : Nat → Nat) : Prop := ∀ g, (w g)[pos]? = some (ad, .inl (cB, n, .inr (.inr (.inr (.inr (fun i => some (f i)))))))
theorem fI.o {w : Sg → va_W} {pos ad ci k r j : Nat} (h : fI w pos ad ci k r j) : oB w pos ad ci := fun g => by
  obtain ⟨fs, h1, -⟩ := h g
  exact ⟨fs, h1⟩
theorem fR.o {w : Sg → va_W} {pos ad ci k ad2 : Nat} (h : fR w pos ad ci k ad2) : oB w pos ad ci := fun g => by
  obtain ⟨fs, h1, -⟩ := h g
  exact ⟨fs, h1⟩
/-- a world in a heap, in a walk -/
def Zs (D : va_G) (w : Sg → va_W) (A : Nat → Prop) (H0 H : Heap) (locs : List Loc) (g : Sg) : Prop := va_P D vwCl (w g) H ∧ va_D A (w g) ∧ va_S A H0 H locs ∧ ∀ q, H0.size ≤ q → A q
def Cx (p : Program) (m : MethodId) (c : Code) (cc : ByteArray) (nL : Nat) (s : State) (args : Array Value) (own : String) (D : va_G) (tys : List (ClassId × FieldType)) : Prop := CallFix p m c cc nL s args wsA own ∧ va_K D vwCl tys s
/-! contracts: the answer r and the new numbers g1 are what the function says -/
def KP (D : va_G) (tys : List (ClassId × FieldType)) (w : Sg → va_W) (sz : Nat) (g : Sg) : State → Prop := fun U => U.heap.size = sz ∧ va_P D vwCl (w g) U.heap ∧ va_K D vwCl tys U ∧ va_D (fun _ => True) (w g)
def KB (D : va_G) (tys : List (ClassId × FieldType)) (w : Sg → va_W) (sz : Nat) (g : Sg) : Sg → State → Prop := fun v t => va_P D vwCl (w v) t.heap ∧ va_K D vwCl tys t ∧ va_D (va_A (w g) sz) (w v)
def KI (l : Launch) (D : va_G) (tys : List (ClassId × FieldType)) (w : Sg → va_W) (y : MethodName) (cc : ByteArray) (nL : Nat) (ret : Option FieldType) (rm : Room) (av : List Value) (g : Sg) (r : Int32) (g1 : Sg) : Prop :=
  ∀ sz, Met l y (Cond.code y cc nL ret :: wsA) rm (va_Pc av (KP D tys w sz g)) (va_Qi (fun x v => x = r ∧ v = g1) (KB D tys w sz g) (va_A (w g) sz)) 0 0 (va_A (w g) sz)
def KL (l : Launch) (D : va_G) (tys : List (ClassId × FieldType)) (w : Sg → va_W) (y : MethodName) (cc : ByteArray) (nL : Nat) (ret : Option FieldType) (rm : Room) (av : List Value) (g : Sg) (r : Int64) (g1 : Sg) : Prop :=
  ∀ sz, Met l y (Cond.code y cc nL ret :: wsA) rm (va_Pc av (KP D tys w sz g)) (va_Ql (fun x v => x = r ∧ v = g1) (KB D tys w sz g) (va_A (w g) sz)) 0 0 (va_A (w g) sz)
def KV (l : Launch) (D : va_G) (tys : List (ClassId × FieldType)) (w : Sg → va_W) (y : MethodName) (cc : ByteArray) (nL : Nat) (ret : Option FieldType) (rm : Room) (av : List Value) (g : Sg) (g1 : Sg) : Prop :=
  ∀ sz, Met l y (Cond.code y cc nL ret :: wsA) rm (va_Pc av (KP D tys w sz g)) (va_Qv (fun v => v = g1) (KB D tys w sz g) (va_A (w g) sz)) 0 0 (va_A (w g) sz)
/-! the ends of a method -/
def EndI (p : Program) (l : Launch) (e : Env) (R : Room) (s : State) (m : MethodId) (args : Array Value) (below : List Frame) (meth : Method) (c : Code) (Q : State → Prop) (D : va_G) (w : Sg → va_W) (A : Nat → Prop) (cc : ByteArray) (res : Int32 × Sg) : Prop :=
  ∀ (x : Int32) (g : Sg) (H : Heap) (locs : List Loc) (pc : Nat) (ls : Array Slot), (x, g) = res → Zs D w A s.heap H locs g → decode cc pc = .ok (.ireturn, 1) → W p l e R s m args below meth c H locs 0 0 Q (F0 m pc ls [.int x])
def EndZ (p : Program) (l : Launch) (e : Env) (R : Room) (s : State) (m : MethodId) (args : Array Value) (below : List Frame) (meth : Method) (c : Code) (Q : State → Prop) (D : va_G) (w : Sg → va_W) (A : Nat → Prop) (cc : ByteArray) (res : Int32 × Sg) : Prop :=
  ∀ (x : Int32) (g : Sg) (H : Heap) (locs : List Loc) (pc : Nat) (ls : Array Slot), rz x g = some res → Zs D w A s.heap H locs g → decode cc pc = .ok (.ireturn, 1) → W p l e R s m args below meth c H locs 0 0 Q (F0 m pc ls [.int x])
def EndL (p : Program) (l : Launch) (e : Env) (R : Room) (s : State) (m : MethodId) (args : Array Value) (below : List Frame) (meth : Method) (c : Code) (Q : State → Prop) (D : va_G) (w : Sg → va_W) (A : Nat → Prop) (cc : ByteArray) (res : Int64 × Sg) : Prop :=
  ∀ (x : Int64) (g : Sg) (H : Heap) (locs : List Loc) (pc : Nat) (ls : Array Slot), (x, g) = res → Zs D w A s.heap H locs g → decode cc pc = .ok (.lreturn, 1) → W p l e R s m args below meth c H locs 0 0 Q (F0 m pc ls [.long x])
def EndV (p : Program) (l : Launch) (e : Env) (R : Room) (s : State) (m : MethodId) (args : Array Value) (below : List Frame) (meth : Method) (c : Code) (Q : State → Prop) (D : va_G) (w : Sg → va_W) (A : Nat → Prop) (cc : ByteArray) (res : Sg) : Prop :=
  ∀ (g : Sg) (H : Heap) (locs : List Loc) (pc : Nat) (ls : Array Slot), g = res → Zs D w A s.heap H locs g → decode cc pc = .ok (.return_, 1) → W p l e R s m args below meth c H locs 0 0 Q (F0 m pc ls [])
section RZ
variable {p : Program} {l : Launch} {e : Env} {R : Room} {s : State} {m : MethodId} {args : Array Value} {below : List Frame} {meth : Method} {c : Code} {H : Heap} {locs : List Loc} {cells slots : Nat} {Q : State → Prop}
variable {cc : ByteArray} {nL : Nat} {own : String} {D : va_G} {cI cZ cB : ClassId} {w : Sg → va_W} {A : Nat → Prop} {H0 : Heap} {g : Sg} {pc : Nat} {ls : Array Slot} {rest : List Value} {tys : List (ClassId × FieldType)}
theorem z_getI {ci k r j N pos ad index : Nat} {Cn : String} {T : u_T} (C : Cx p m c cc nL s args own D tys) (hz : Zs D w A H0 H locs g) (hf : fI w pos ad ci k r j) (hc : vwCl[ci]? = some (Cn, T, N)) (hin : ∀ x ∈ u_ws Cn T N, x ∈ wsA) (hk : k < N) (hl : Cond.fieldLink own index (T k).1 (T k).2.1 (T k).2.2.1 ∈ wsA) (hdg : decode cc pc = .ok (.getfield index, 3))
    (kk : W p l e R s m args below meth c H locs cells slots Q (F0 m (pc + 3) ls (.int (g.1 r j) :: rest))) : W p l e R s m args below meth c H locs cells slots Q (F0 m pc ls (.ref ad :: rest)) := by
  obtain ⟨fs, h1, h2, -⟩ := hf g
  exact va_get C.1.1 C.1.2.1 C.1.2.2.2.2 hin C.1.2.2.2.1 C.2 hz.1 pos h1 hc k hk (C.1.2.2.2.2 _ hl) (fun _ h => h) h2 hdg kk
theorem z_getL {ci k N pos ad index : Nat} {Cn : String} {T : u_T} (C : Cx p m c cc nL s args own D tys) (hz : Zs D w A H0 H locs g) (hf : fL w pos ad ci k) (hc : vwCl[ci]? = some (Cn, T, N)) (hin : ∀ x ∈ u_ws Cn T N, x ∈ wsA) (hk : k < N) (hl : Cond.fieldLink own index (T k).1 (T k).2.1 (T k).2.2.1 ∈ wsA) (hdg : decode cc pc = .ok (.getfield index, 3))
    (kk : W p l e R s m args below meth c H locs cells slots Q (F0 m (pc + 3) ls (.long g.2 :: rest))) : W p l e R s m args below meth c H locs cells slots Q (F0 m pc ls (.ref ad :: rest)) := by
  obtain ⟨fs, h1, h2, -⟩ := hf g
  exact va_get C.1.1 C.1.2.1 C.1.2.2.2.2 hin C.1.2.2.2.1 C.2 hz.1 pos h1 hc k hk (C.1.2.2.2.2 _ hl) (fun _ h => h) h2 hdg kk
theorem z_getR {ci k N pos ad ad2 index : Nat} {Cn : String} {T : u_T} (C : Cx p m c cc nL s args own D tys) (hz : Zs D w A H0 H locs g) (hf : fR w pos ad ci k ad2) (hc : vwCl[ci]? = some (Cn, T, N)) (hin : ∀ x ∈ u_ws Cn T N, x ∈ wsA) (hk : k < N) (hl : Cond.fieldLink own index (T k).1 (T k).2.1 (T k).2.2.1 ∈ wsA) (hdg : decode cc pc = .ok (.getfield index, 3))
    (kk : W p l e R s m args below meth c H locs cells slots Q (F0 m (pc + 3) ls (.ref ad2 :: rest))) : W p l e R s m args below meth c H locs cells slots Q (F0 m pc ls (.ref ad :: rest)) := by
  obtain ⟨fs, h1, h2⟩ := hf g
  exact va_get C.1.1 C.1.2.1 C.1.2.2.2.2 hin C.1.2.2.2.1 C.2 hz.1 pos h1 hc k hk (C.1.2.2.2.2 _ hl) (fun _ h => h) h2 hdg kk
theorem z_putI {ci k r j N pos ad index : Nat} {Cn : String} {T : u_T} {ty0 : Nat → FieldType} {v : Int32} {g1 : Sg} (C : Cx p m c cc nL s args own D tys) (hz : Zs D w A H0 H locs g) (hf : fI w pos ad ci k r j) (hc : vwCl[ci]? = some (Cn, T, N)) (hin : ∀ x ∈ u_ws Cn T N, x ∈ wsA) (hty : ∀ k, k < N → parseFieldDescriptor (T k).2.2.1 = some (ty0 k)) (hnm : ∀ a, a < N → ∀ b, b < N → a ≠ b → (T a).2.1 ≠ (T b).2.1) (hk : k < N) (hl : Cond.fieldLink own index (T k).1 (T k).2.1 (T k).2.2.1 ∈ wsA) (hfin : (T k).2.2.2 = false) (hn : narrow (ty0 k) (.int v) = .int v) (hfit : Jvm.fits (ty0 k) (.int v) = true) (e1 : g1 = pu g r j v) (hdg : decode cc pc = .ok (.putfield index, 3))
    (kk : ∀ (H1 : Heap) (locs1 : List Loc), Zs D w A H0 H1 locs1 g1 → W p l e R s m args below meth c H1 locs1 cells slots Q (F0 m (pc + 3) ls rest)) : W p l e R s m args below meth c H locs cells slots Q (F0 m pc ls (.int v :: .ref ad :: rest)) := by
  obtain ⟨fs, h1, h2, h3, h4⟩ := hf g
  refine va_put C.1.1 C.1.2.1 C.1.2.2.2.2 hin ty0 hty hnm C.1.2.2.2.1 C.2 hz.1 hz.2.1 hz.2.2.1 pos h1 hc k hk (C.1.2.2.2.2 _ hl) (fun _ h => h) hfin (hty k hk) hn hfit h3 hdg (fun H1 locs1 hP hD hS => ?_)
  rw [h4, ← e1] at hP hD
  exact kk H1 locs1 ⟨hP, hD, hS, hz.2.2.2⟩
theorem z_putL {ci k N pos ad index : Nat} {Cn : String} {T : u_T} {ty0 : Nat → FieldType} {v : Int64} {g1 : Sg} (C : Cx p m c cc nL s args own D tys) (hz : Zs D w A H0 H locs g) (hf : fL w pos ad ci k) (hc : vwCl[ci]? = some (Cn, T, N)) (hin : ∀ x ∈ u_ws Cn T N, x ∈ wsA) (hty : ∀ k, k < N → parseFieldDescriptor (T k).2.2.1 = some (ty0 k)) (hnm : ∀ a, a < N → ∀ b, b < N → a ≠ b → (T a).2.1 ≠ (T b).2.1) (hk : k < N) (hl : Cond.fieldLink own index (T k).1 (T k).2.1 (T k).2.2.1 ∈ wsA) (hfin : (T k).2.2.2 = false) (hn : narrow (ty0 k) (.long v) = .long v) (hfit : Jvm.fits (ty0 k) (.long v) = true) (e1 : g1 = pl g v) (hdg : decode cc pc = .ok (.putfield index, 3))
    (kk : ∀ (H1 : Heap) (locs1 : List Loc), Zs D w A H0 H1 locs1 g1 → W p l e R s m args below meth c H1 locs1 cells slots Q (F0 m (pc + 3) ls rest)) : W p l e R s m args below meth c H locs cells slots Q (F0 m pc ls (.long v :: .ref ad :: rest)) := by
  obtain ⟨fs, h1, h2, h3, h4⟩ := hf g
  refine va_put C.1.1 C.1.2.1 C.1.2.2.2.2 hin ty0 hty hnm C.1.2.2.2.1 C.2 hz.1 hz.2.1 hz.2.2.1 pos h1 hc k hk (C.1.2.2.2.2 _ hl) (fun _ h => h) hfin (hty k hk) hn hfit h3 hdg (fun H1 locs1 hP hD hS => ?_)
  rw [h4, ← e1] at hP hD
  exact kk H1 locs1 ⟨hP, hD, hS, hz.2.2.2⟩
theorem z_iald {pos ad n a : Nat} {i : Int32} (C : Cx p m c cc nL s args own D (tyL cI cZ cB)) (hz : Zs D w A H0 H locs g) (hf : aI w cI pos ad n a) (hin : vp_in i n) (hdg : decode cc pc = .ok (.iaload, 1))
    (kk : W p l e R s m args below meth c H locs cells slots Q (F0 m (pc + 1) ls (.int (g.1 a i.toNatClampNeg) :: rest))) : W p l e R s m args below meth c H locs cells slots Q (F0 m pc ls (.int i :: .ref ad :: rest)) :=
  va_iald C.1.1 C.1.2.1 C.2 hz.1 pos 0 (hf g).1 rfl hin hdg kk
theorem z_zald {pos ad n a : Nat} {i : Int32} (C : Cx p m c cc nL s args own D (tyL cI cZ cB)) (hz : Zs D w A H0 H locs g) (hf : aI w cZ pos ad n a) (hin : vp_in i n) (hdg : decode cc pc = .ok (.baload, 1))
    (kk : W p l e R s m args below meth c H locs cells slots Q (F0 m (pc + 1) ls (.int (g.1 a i.toNatClampNeg) :: rest))) : W p l e R s m args below meth c H locs cells slots Q (F0 m pc ls (.int i :: .ref ad :: rest)) :=
  va_zald C.1.1 C.1.2.1 C.2 hz.1 pos 1 (hf g).1 rfl hin hdg kk
theorem z_aald {pos ad n : Nat} {f : Nat → Nat} {i : Int32} (C : Cx p m c cc nL s args own D (tyL cI cZ cB)) (hz : Zs D w A H0 H locs g) (hf : aQ w cB pos ad n f) (hin : vp_in i n) (hdg : decode cc pc = .ok (.aaload, 1))
    (kk : W p l e R s m args below meth c H locs cells slots Q (F0 m (pc + 1) ls (.ref (f i.toNatClampNeg) :: rest))) : W p l e R s m args below meth c H locs cells slots Q (F0 m pc ls (.int i :: .ref ad :: rest)) :=
  va_aldq C.1.1 C.1.2.1 C.2 hz.1 pos 2 (hf g) rfl hin hdg kk
theorem z_iast {pos ad n a : Nat} {i v : Int32} {g1 : Sg} (C : Cx p m c cc nL s args own D (tyL cI cZ cB)) (hz : Zs D w A H0 H locs g) (hf : aI w cI pos ad n a) (hin : vp_in i n) (e1 : g1 = pu g a i.toNatClampNeg v) (hdg : decode cc pc = .ok (.iastore, 1))
    (kk : ∀ (H1 : Heap) (locs1 : List Loc), Zs D w A H0 H1 locs1 g1 → W p l e R s m args below meth c H1 locs1 cells slots Q (F0 m (pc + 1) ls rest)) : W p l e R s m args below meth c H locs cells slots Q (F0 m pc ls (.int v :: .int i :: .ref ad :: rest)) := by
  refine va_iast C.1.1 C.1.2.1 C.2 hz.1 hz.2.1 hz.2.2.1 pos 0 (hf g).1 rfl hin hdg (fun H1 locs1 hP hD hS => ?_)
  rw [(hf g).2] at hP hD
  have e2 : g1 = pr g a (upd (g.1 a) i.toNatClampNeg v) := e1
  rw [← e2] at hP hD
  exact kk H1 locs1 ⟨hP, hD, hS, hz.2.2.2⟩
theorem z_zast {pos ad n a : Nat} {i v : Int32} {g1 : Sg} (C : Cx p m c cc nL s args own D (tyL cI cZ cB)) (hz : Zs D w A H0 H locs g) (hf : aI w cZ pos ad n a) (hin : vp_in i n) (hv : vp_nar .boolean v = v) (e1 : g1 = pu g a i.toNatClampNeg v) (hdg : decode cc pc = .ok (.bastore, 1))
    (kk : ∀ (H1 : Heap) (locs1 : List Loc), Zs D w A H0 H1 locs1 g1 → W p l e R s m args below meth c H1 locs1 cells slots Q (F0 m (pc + 1) ls rest)) : W p l e R s m args below meth c H locs cells slots Q (F0 m pc ls (.int v :: .int i :: .ref ad :: rest)) := by
  refine va_zast C.1.1 C.1.2.1 C.2 hz.1 hz.2.1 hz.2.2.1 pos 1 (hf g).1 rfl hin hdg (fun H1 locs1 hP hD hS => ?_)
  rw [(hf g).2, hv] at hP hD
  have e2 : g1 = pr g a (upd (g.1 a) i.toNatClampNeg v) := e1
  rw [← e2] at hP hD
  exact kk H1 locs1 ⟨hP, hD, hS, hz.2.2.2⟩
theorem z_alen {pos ad n a : Nat} {v : Int32} (C : Cx p m c cc nL s args own D (tyL cI cZ cB)) (hz : Zs D w A H0 H locs g) (hf : aI w cI pos ad n a) (hv : Int32.ofNat n = v) (hdg : decode cc pc = .ok (.arraylength, 1))
    (kk : W p l e R s m args below meth c H locs cells slots Q (F0 m (pc + 1) ls (.int v :: rest))) : W p l e R s m args below meth c H locs cells slots Q (F0 m pc ls (.ref ad :: rest)) :=
  va_alen C.1.1 C.1.2.1 C.2 hz.1 pos 0 (hf g).1 rfl hv hdg kk
theorem z_copy {pos0 pos1 ad0 ad1 n0 n1 a0 a1 N index : Nat} {n : Int32} {g1 : Sg} (C : Cx p m c cc nL s args own D (tyL cI cZ cB)) (hz : Zs D w A H0 H locs g) (hf0 : aI w cI pos0 ad0 n0 a0) (hf1 : aI w cI pos1 ad1 n1 a1) (hsz : ls.size = nL) (hl : Cond.methodLink own index arraycopyName ∈ wsA) (hnat : Cond.native arraycopyName ∈ wsA) (hstat : Cond.static arraycopyName ∈ wsA) (hini : Cond.initialized "java/lang/System" ∈ wsA) (hN : n.toNatClampNeg = N) (h3 : ¬ n < 0) (h4 : N ≤ n0) (h5 : N ≤ n1) (hframes : 1 ≤ R.frames) (hlocals : (rest.map fun v => v.category).sum + (nativeFrameWords "java/lang/System" "arraycopy" 5 + 11) ≤ R.locals) (e1 : g1 = pr g a1 (va_cpy (g.1 a0) (g.1 a1) 0 0 N)) (hdg : decode cc pc = .ok (.invokestatic index, 3))
    (kk : ∀ (H1 : Heap) (locs1 : List Loc), Zs D w A H0 H1 locs1 g1 → W p l e R s m args below meth c H1 locs1 cells slots Q (F0 m (pc + 3) ls rest)) : W p l e R s m args below meth c H locs cells slots Q (F0 m pc ls (.int n :: .int 0 :: .ref ad1 :: .int 0 :: .ref ad0 :: rest)) := by
  have hts := C.1.2.2.2.2
  refine va_copyi C.1.1 C.1.2.1 (C.1.2.2.1.trans hsz.symm) C.1.2.2.2.1 (hts _ hl) (hts _ hnat) (hts _ hstat) (hts _ hini) C.2 hz.1 hz.2.1 hz.2.2.1 pos0 pos1 0 0 (hf0 g).1 (hf1 g).1 rfl rfl rfl (by decide) (by decide) h3 (by rw [hN]; show 0 + N ≤ n0; omega) (by rw [hN]; show 0 + N ≤ n1; omega) (fun i _ => rfl) hframes hlocals hdg (fun H1 locs1 hP hD hS => ?_)
  rw [(hf1 g).2, hN] at hP hD
  have e2 : g1 = pr g a1 (va_cpy (g.1 a0) (g.1 a1) (0 : Int32).toNatClampNeg (0 : Int32).toNatClampNeg N) := e1
  rw [← e2] at hP hD
  exact kk H1 locs1 ⟨hP, hD, hS, hz.2.2.2⟩
theorem z_max {index : Nat} {x y : Int32} (C : Cx p m c cc nL s args own D tys) (hsz : ls.size = nL) (hl : Cond.methodLink own index Lib.Math.max.name ∈ wsA) (hstat : Cond.static Lib.Math.max.name ∈ wsA) (hini : Cond.initialized "java/lang/Math" ∈ wsA) (hcode : Cond.code Lib.Math.max.name Lib.Math.max.code 2 (some .int) ∈ wsA) (hframes : 1 ≤ R.frames) (hlocals : (rest.map fun v => v.category).sum + 13 ≤ R.locals) (hc : cells ≤ R.cells) (hs : slots ≤ R.slots) (hdg : decode cc pc = .ok (.invokestatic index, 3))
    (kk : W p l e R s m args below meth c H locs cells slots Q (F0 m (pc + 3) ls (.int (if x < y then y else x) :: rest))) : W p l e R s m args below meth c H locs cells slots Q (F0 m pc ls (.int y :: .int x :: rest)) :=
  va_mmax C.1.1 C.1.2.1 (C.1.2.2.1.trans hsz.symm) C.1.2.2.2.1 (C.1.2.2.2.2 _ hl) (C.1.2.2.2.2 _ hstat) (C.1.2.2.2.2 _ hini) (C.1.2.2.2.2 _ hcode) hframes hlocals hc hs hdg kk
theorem z_min {index : Nat} {x y : Int32} (C : Cx p m c cc nL s args own D tys) (hsz : ls.size = nL) (hl : Cond.methodLink own index Lib.Math.min.name ∈ wsA) (hstat : Cond.static Lib.Math.min.name ∈ wsA) (hini : Cond.initialized "java/lang/Math" ∈ wsA) (hcode : Cond.code Lib.Math.min.name Lib.Math.min.code 2 (some .int) ∈ wsA) (hframes : 1 ≤ R.frames) (hlocals : (rest.map fun v => v.category).sum + 13 ≤ R.locals) (hc : cells ≤ R.cells) (hs : slots ≤ R.slots) (hdg : decode cc pc = .ok (.invokestatic index, 3))
    (kk : W p l e R s m args below meth c H locs cells slots Q (F0 m (pc + 3) ls (.int (if y < x then y else x) :: rest))) : W p l e R s m args below meth c H locs cells slots Q (F0 m pc ls (.int y :: .int x :: rest)) :=
  va_mmin C.1.1 C.1.2.1 (C.1.2.2.1.trans hsz.symm) C.1.2.2.2.1 (C.1.2.2.2.2 _ hl) (C.1.2.2.2.2 _ hstat) (C.1.2.2.2.2 _ hini) (C.1.2.2.2.2 _ hcode) hframes hlocals hc hs hdg kk
theorem z_ldc {index : Nat} {v : Int32} (C : Cx p m c cc nL s args own D tys) (hl : Cond.constant own index v ∈ wsA) (hdg : decode cc pc = .ok (.ldc index, 2))
    (kk : W p l e R s m args below meth c H locs cells slots Q (F0 m (pc + 2) ls (.int v :: rest))) : W p l e R s m args below meth c H locs cells slots Q (F0 m pc ls rest) :=
  lv_ldc C.1.1 C.1.2.1 C.1.2.2.2.1 (C.1.2.2.2.2 _ hl) hdg kk
theorem z_ldcw {index : Nat} {v : Int32} (C : Cx p m c cc nL s args own D tys) (hl : Cond.constant own index v ∈ wsA) (hdg : decode cc pc = .ok (.ldc_w index, 3))
    (kk : W p l e R s m args below meth c H locs cells slots Q (F0 m (pc + 3) ls (.int v :: rest))) : W p l e R s m args below meth c H locs cells slots Q (F0 m pc ls rest) :=
  lv_ldcw C.1.1 C.1.2.1 C.1.2.2.2.1 (C.1.2.2.2.2 _ hl) hdg kk
theorem z_ldc2 {index : Nat} {v : Int64} (C : Cx p m c cc nL s args own D tys) (hl : Cond.constantLong own index v ∈ wsA) (hdg : decode cc pc = .ok (.ldc2_w index, 3))
    (kk : W p l e R s m args below meth c H locs cells slots Q (F0 m (pc + 3) ls (.long v :: rest))) : W p l e R s m args below meth c H locs cells slots Q (F0 m pc ls rest) :=
  lv_ldc2 C.1.1 C.1.2.1 C.1.2.2.2.1 (C.1.2.2.2.2 _ hl) hdg kk
end RZ
/-! ===== CALLS and HEADS ===== -/
theorem goodOf {x : Cond} (h : x ∈ wsA) : x ∈ wsA ∧ ((x.onTables && x.keeps) = true ∨ ∃ ty, x = .arrayClass ty) := ⟨h, good_of_word (wsA_good h)⟩
theorem goodCons {c0 : Cond} (h : c0 ∈ wsA) : GoodIn wsA (c0 :: wsA) := fun x hx => goodOf ((List.mem_cons.mp hx).elim (fun e => e ▸ h) id)
theorem lkV.good {own : String} {index : Nat} {y : MethodName} {Cn : String} {bytes : ByteArray} {maxL : Nat} {ret : Option FieldType} {n : Nat} (h : lkV own index y Cn bytes maxL ret n) : GoodIn wsA (wsV own index Cn y (Cond.code y bytes maxL ret :: wsA)) := by
  intro x hx
  unfold wsV at hx
  rcases List.mem_append.mp hx with h1 | h1
  · simp only [List.mem_cons, List.not_mem_nil, or_false] at h1
    rcases h1 with rfl | rfl | rfl | rfl
    · exact goodOf h.2.1
    · exact goodOf h.2.2.1
    · exact goodOf h.2.2.2.1
    · exact goodOf h.2.2.2.2.1
  · exact goodCons h.1 x h1
theorem lkS.good {own : String} {index : Nat} {y : MethodName} {bytes : ByteArray} {maxL : Nat} {ret : Option FieldType} {n : Nat} (h : lkS own index y bytes maxL ret n) : GoodIn wsA (va_wsS own index y (Cond.code y bytes maxL ret :: wsA)) := by
  intro x hx
  unfold va_wsS at hx
  rcases List.mem_append.mp hx with h1 | h1
  · simp only [List.mem_cons, List.not_mem_nil, or_false] at h1
    rcases h1 with rfl | rfl | rfl
    · exact goodOf h.2.1
    · exact goodOf h.2.2.1
    · exact goodOf h.2.2.2.1
  · exact goodCons h.1 x h1
theorem KP_blind {D : va_G} {tys : List (ClassId × FieldType)} {w : Sg → va_W} {sz : Nat} {g : Sg} {av : List Value} : FrameBlind (va_Pc av (KP D tys w sz g)) := fun a U gg mk q => by
  obtain ⟨q0, q1, qP, qK, qD⟩ := q
  exact ⟨q0, q1, qP, va_K.moved (u := U) (U := U.calling gg mk a) (Vm.Alike.refl U.vm) qK, qD⟩
theorem Zs.free {D : va_G} {w : Sg → va_W} {A : Nat → Prop} {H0 H : Heap} {locs : List Loc} {g : Sg} (hz : Zs D w A H0 H locs g) : ∀ q, va_A (w g) H.size q → A q := by
  intro q h
  rcases h with ⟨k, e, h⟩ | h
  · exact hz.2.1.2 k _ h
  · exact hz.2.2.2 q (Nat.le_trans hz.2.2.1.1 h)
section RC
variable {p : Program} {l : Launch} {e : Env} {R : Room} {s : State} {m : MethodId} {args : Array Value} {below : List Frame} {meth : Method} {c : Code} {H : Heap} {locs : List Loc} {cells slots : Nat} {Q : State → Prop}
variable {cc : ByteArray} {nL : Nat} {own : String} {D : va_G} {w : Sg → va_W} {A : Nat → Prop} {g : Sg} {pc : Nat} {ls : Array Slot} {rest : List Value} {tys : List (ClassId × FieldType)}
theorem z_pre {av : List Value} (C : Cx p m c cc nL s args own D tys) (hz : Zs D w A s.heap H locs g) : ∀ U : State, U.heap = H → s.WarmedH U.vm → va_Pc av (KP D tys w H.size g) av.toArray U := fun U hU hW => ⟨rfl, by rw [hU], by rw [hU]; exact hz.1, va_K.moved hW.alike C.2, hz.2.1.weaken (fun _ _ _ _ => trivial)⟩
theorem z_recv {b pos ci : Nat} {Cn : String} (C : Cx p m c cc nL s args own D tys) (hz : Zs D w A s.heap H locs g) (ho : oB w pos b ci) (hc : (vwCl[ci]?).map (fun q => q.1) = some Cn) : ∃ cellB : Cell, H[b]? = some cellB ∧ cellB.vm.isStatics = false ∧ s.vm.findClass Cn = some cellB.cls := by
  obtain ⟨fs, h1⟩ := ho g
  cases hq : vwCl[ci]? with
  | none => rw [hq] at hc; cases hc
  | some q =>
    rw [hq] at hc
    cases hc
    exact va_recv C.2 hz.1 hq h1
theorem z_VI {y : MethodName} {bytes : ByteArray} {maxL n index : Nat} {ret : Option FieldType} {rm : Room} {Cn : String} {b pos ci : Nat} {As stk : List Value} {r : Int32} {g1 : Sg} (C : Cx p m c cc nL s args own D tys) (hM : KI l D tys w y bytes maxL ret rm (.ref b :: As) g r g1) (lk : lkV own index y Cn bytes maxL ret n) (hrm : rm.cells = 0 ∧ rm.slots = 0 ∧ rm.frames + 1 ≤ R.frames ∧ 8 + (maxL + 11) + rm.locals ≤ R.locals) (hcl : cells ≤ R.cells ∧ slots ≤ R.slots) (ho : oB w pos b ci) (hc : (vwCl[ci]?).map (fun q => q.1) = some Cn) (hn : As.length = n) (hcap : (rest.map fun v => v.category).sum ≤ 8) (hst : stk = As.reverse ++ .ref b :: rest) (hsz : ls.size = nL) (hdg : decode cc pc = .ok (.invokevirtual index, 3)) (hz : Zs D w A s.heap H locs g)
    (kk : ∀ (H1 : Heap) (locs1 : List Loc), Zs D w A s.heap H1 locs1 g1 → W p l e R s m args below meth c H1 locs1 cells slots Q (F0 m (pc + 3) ls (.int r :: rest))) : W p l e R s m args below meth c H locs cells slots Q (F0 m pc ls stk) := by
  subst hst
  have hF := hz.free
  refine va_calli (va_runV (As := As) (rest := rest) C.1 (hM H.size) (cwV n C.1.2.2.2.2 lk.good rfl hrm.1 hrm.2.1 lk.2.2.2.2.2 hrm.2.2) ⟨KP_blind, z_recv C hz ho hc, z_pre C hz⟩ rfl hn hsz rfl (lv_room hcap) hdg hcl) hz.2.2.1 (fun q _ h => hF q h) hF (fun x v t H1 locs1 ht hvm hw hB hz1 hk1 hS => ?_)
  obtain ⟨rfl, rfl⟩ := hw
  exact kk H1 locs1 ⟨ht ▸ hB.1, hB.2.2.weaken (fun _ q _ h => hF q.1 h), hS, hz.2.2.2⟩
theorem z_VL {y : MethodName} {bytes : ByteArray} {maxL n index : Nat} {ret : Option FieldType} {rm : Room} {Cn : String} {b pos ci : Nat} {As stk : List Value} {r : Int64} {g1 : Sg} (C : Cx p m c cc nL s args own D tys) (hM : KL l D tys w y bytes maxL ret rm (.ref b :: As) g r g1) (lk : lkV own index y Cn bytes maxL ret n) (hrm : rm.cells = 0 ∧ rm.slots = 0 ∧ rm.frames + 1 ≤ R.frames ∧ 8 + (maxL + 11) + rm.locals ≤ R.locals) (hcl : cells ≤ R.cells ∧ slots ≤ R.slots) (ho : oB w pos b ci) (hc : (vwCl[ci]?).map (fun q => q.1) = some Cn) (hn : As.length = n) (hcap : (rest.map fun v => v.category).sum ≤ 8) (hst : stk = As.reverse ++ .ref b :: rest) (hsz : ls.size = nL) (hdg : decode cc pc = .ok (.invokevirtual index, 3)) (hz : Zs D w A s.heap H locs g)
    (kk : ∀ (H1 : Heap) (locs1 : List Loc), Zs D w A s.heap H1 locs1 g1 → W p l e R s m args below meth c H1 locs1 cells slots Q (F0 m (pc + 3) ls (.long r :: rest))) : W p l e R s m args below meth c H locs cells slots Q (F0 m pc ls stk) := by
  subst hst
  have hF := hz.free
  refine va_calll (va_runV (As := As) (rest := rest) C.1 (hM H.size) (cwV n C.1.2.2.2.2 lk.good rfl hrm.1 hrm.2.1 lk.2.2.2.2.2 hrm.2.2) ⟨KP_blind, z_recv C hz ho hc, z_pre C hz⟩ rfl hn hsz rfl (lv_room hcap) hdg hcl) hz.2.2.1 (fun q _ h => hF q h) hF (fun x v t H1 locs1 ht hvm hw hB hz1 hk1 hS => ?_)
  obtain ⟨rfl, rfl⟩ := hw
  exact kk H1 locs1 ⟨ht ▸ hB.1, hB.2.2.weaken (fun _ q _ h => hF q.1 h), hS, hz.2.2.2⟩
theorem z_VV {y : MethodName} {bytes : ByteArray} {maxL n index : Nat} {ret : Option FieldType} {rm : Room} {Cn : String} {b pos ci : Nat} {As stk : List Value} {g1 : Sg} (C : Cx p m c cc nL s args own D tys) (hM : KV l D tys w y bytes maxL ret rm (.ref b :: As) g g1) (lk : lkV own index y Cn bytes maxL ret n) (hrm : rm.cells = 0 ∧ rm.slots = 0 ∧ rm.frames + 1 ≤ R.frames ∧ 8 + (maxL + 11) + rm.locals ≤ R.locals) (hcl : cells ≤ R.cells ∧ slots ≤ R.slots) (ho : oB w pos b ci) (hc : (vwCl[ci]?).map (fun q => q.1) = some Cn) (hn : As.length = n) (hcap : (rest.map fun v => v.category).sum ≤ 8) (hst : stk = As.reverse ++ .ref b :: rest) (hsz : ls.size = nL) (hdg : decode cc pc = .ok (.invokevirtual index, 3)) (hz : Zs D w A s.heap H locs g)
    (kk : ∀ (H1 : Heap) (locs1 : List Loc), Zs D w A s.heap H1 locs1 g1 → W p l e R s m args below meth c H1 locs1 cells slots Q (F0 m (pc + 3) ls rest)) : W p l e R s m args below meth c H locs cells slots Q (F0 m pc ls stk) := by
  subst hst
  have hF := hz.free
  refine va_callv (va_runV (As := As) (rest := rest) C.1 (hM H.size) (cwV n C.1.2.2.2.2 lk.good rfl hrm.1 hrm.2.1 lk.2.2.2.2.2 hrm.2.2) ⟨KP_blind, z_recv C hz ho hc, z_pre C hz⟩ rfl hn hsz rfl (lv_room hcap) hdg hcl) hz.2.2.1 (fun q _ h => hF q h) hF (fun v t H1 locs1 ht hvm hw hB hz1 hk1 hS => ?_)
  subst hw
  exact kk H1 locs1 ⟨ht ▸ hB.1, hB.2.2.weaken (fun _ q _ h => hF q.1 h), hS, hz.2.2.2⟩
theorem z_SI {y : MethodName} {bytes : ByteArray} {maxL n index : Nat} {ret : Option FieldType} {rm : Room} {As stk : List Value} {r : Int32} {g1 : Sg} (C : Cx p m c cc nL s args own D tys) (hM : KI l D tys w y bytes maxL ret rm As g r g1) (lk : lkS own index y bytes maxL ret n) (hrm : rm.cells = 0 ∧ rm.slots = 0 ∧ rm.frames + 1 ≤ R.frames ∧ 8 + (maxL + 11) + rm.locals ≤ R.locals) (hcl : cells ≤ R.cells ∧ slots ≤ R.slots) (hn : As.length = n) (hcap : (rest.map fun v => v.category).sum ≤ 8) (hst : stk = As.reverse ++ rest) (hsz : ls.size = nL) (hdg : decode cc pc = .ok (.invokestatic index, 3)) (hz : Zs D w A s.heap H locs g)
    (kk : ∀ (H1 : Heap) (locs1 : List Loc), Zs D w A s.heap H1 locs1 g1 → W p l e R s m args below meth c H1 locs1 cells slots Q (F0 m (pc + 3) ls (.int r :: rest))) : W p l e R s m args below meth c H locs cells slots Q (F0 m pc ls stk) := by
  subst hst
  have hF := hz.free
  refine va_calli (va_runS (As := As) (rest := rest) C.1 (hM H.size) (va_cwS n C.1.2.2.2.2 lk.good rfl hrm.1 hrm.2.1 lk.2.2.2.2 hrm.2.2) ⟨KP_blind, z_pre C hz⟩ rfl hn hsz rfl (lv_room hcap) hdg hcl) hz.2.2.1 (fun q _ h => hF q h) hF (fun x v t H1 locs1 ht hvm hw hB hz1 hk1 hS => ?_)
  obtain ⟨rfl, rfl⟩ := hw
  exact kk H1 locs1 ⟨ht ▸ hB.1, hB.2.2.weaken (fun _ q _ h => hF q.1 h), hS, hz.2.2.2⟩
end RC
section HEADS
variable {l : Launch} {D : va_G} {tys : List (ClassId × FieldType)} {w : Sg → va_W} {y : MethodName} {cc : ByteArray} {nL : Nat} {rm : Room} {av : List Value} {g g1 : Sg} {own : String}
theorem KI_mk {r : Int32} (hy : plainName y.cls = true) (ho : y.cls = own) (hlen : (lg_sl av).length ≤ nL)
    (body : ∀ (p : Program) (e : Env) (s : State) (m : MethodId) (below : List Frame) (meth : Method) (c : Code) (A : Nat → Prop) (Q : State → Prop) (ls : Array Slot), Cx p m c cc nL s av.toArray own D tys → EndI p l e rm s m av.toArray below meth c Q D w A cc (r, g1) → Zs D w A s.heap s.heap [] g → lv_has ls nL (lv_args 0 av) → W p l e rm s m av.toArray below meth c s.heap [] 0 0 Q (F0 m 0 ls [])) : KI l D tys w y cc nL (some .int) rm av g r g1 := by
  intro sz
  refine Met.ofW (cc := cc) (maxL := nL) (ret := some .int) hy rfl ?_
  intro p e s m args below meth c s₁ B hml hv
  obtain ⟨rfl, hsz, hP, hK, hD0⟩ := hv
  have hts := atoms_spec (ws := Cond.code y cc nL (some .int) :: wsA) B.pre
  have hown' : s.vm.findClass own = some m.cls := ho ▸ findClass_of_methodNamed B.named
  subst hsz
  have hl := lv_entry av (n := nL) hlen
  rw [lg_entry_eq]
  refine body p e s m below meth c (va_A (w g) s.heap.size) _ _ ⟨⟨B.exec, B.bytes, hml, hown', fun x hx => hts x (List.mem_cons_of_mem _ hx)⟩, hK⟩ ?_ ⟨hP, hD0.self, va_S.rf, fun q h => Or.inr h⟩ hl
  intro x g2 H locs pc ls he hz hdg
  cases he
  exact W.iret (v := r) B.exec B.bytes B.returns (fun t ht hW => ⟨⟨r, g1, rfl, ⟨rfl, rfl⟩, by rw [ht]; exact hz.1, va_K.moved hW.alike hK, hz.2.1⟩, hz.2.2.1.F ht⟩) hz.2.2.1.2.2 hdg B.notSynchronized
theorem KZ_mk {r : Int32} (hy : plainName y.cls = true) (ho : y.cls = own) (hlen : (lg_sl av).length ≤ nL)
    (body : ∀ (p : Program) (e : Env) (s : State) (m : MethodId) (below : List Frame) (meth : Method) (c : Code) (A : Nat → Prop) (Q : State → Prop) (ls : Array Slot), Cx p m c cc nL s av.toArray own D tys → EndZ p l e rm s m av.toArray below meth c Q D w A cc (r, g1) → Zs D w A s.heap s.heap [] g → lv_has ls nL (lv_args 0 av) → W p l e rm s m av.toArray below meth c s.heap [] 0 0 Q (F0 m 0 ls [])) : KI l D tys w y cc nL (some .boolean) rm av g r g1 := by
  intro sz
  refine Met.ofW (cc := cc) (maxL := nL) (ret := some .boolean) hy rfl ?_
  intro p e s m args below meth c s₁ B hml hv
  obtain ⟨rfl, hsz, hP, hK, hD0⟩ := hv
  have hts := atoms_spec (ws := Cond.code y cc nL (some .boolean) :: wsA) B.pre
  have hown' : s.vm.findClass own = some m.cls := ho ▸ findClass_of_methodNamed B.named
  subst hsz
  have hl := lv_entry av (n := nL) hlen
  rw [lg_entry_eq]
  refine body p e s m below meth c (va_A (w g) s.heap.size) _ _ ⟨⟨B.exec, B.bytes, hml, hown', fun x hx => hts x (List.mem_cons_of_mem _ hx)⟩, hK⟩ ?_ ⟨hP, hD0.self, va_S.rf, fun q h => Or.inr h⟩ hl
  intro x g2 H locs pc ls he hz hdg
  obtain ⟨hx01, he⟩ := rz_spec he
  cases he
  exact W.zret (v := r) (ty := .boolean) B.exec B.bytes B.returns (by rcases hx01 with rfl | rfl <;> rfl) (fun t ht hW => ⟨⟨r, g1, rfl, ⟨rfl, rfl⟩, by rw [ht]; exact hz.1, va_K.moved hW.alike hK, hz.2.1⟩, hz.2.2.1.F ht⟩) hz.2.2.1.2.2 hdg B.notSynchronized
theorem KL_mk {r : Int64} (hy : plainName y.cls = true) (ho : y.cls = own) (hlen : (lg_sl av).length ≤ nL)
    (body : ∀ (p : Program) (e : Env) (s : State) (m : MethodId) (below : List Frame) (meth : Method) (c : Code) (A : Nat → Prop) (Q : State → Prop) (ls : Array Slot), Cx p m c cc nL s av.toArray own D tys → EndL p l e rm s m av.toArray below meth c Q D w A cc (r, g1) → Zs D w A s.heap s.heap [] g → lv_has ls nL (lv_args 0 av) → W p l e rm s m av.toArray below meth c s.heap [] 0 0 Q (F0 m 0 ls [])) : KL l D tys w y cc nL (some .long) rm av g r g1 := by
  intro sz
  refine Met.ofW (cc := cc) (maxL := nL) (ret := some .long) hy rfl ?_
  intro p e s m args below meth c s₁ B hml hv
  obtain ⟨rfl, hsz, hP, hK, hD0⟩ := hv
  have hts := atoms_spec (ws := Cond.code y cc nL (some .long) :: wsA) B.pre
  have hown' : s.vm.findClass own = some m.cls := ho ▸ findClass_of_methodNamed B.named
  subst hsz
  have hl := lv_entry av (n := nL) hlen
  rw [lg_entry_eq]
  refine body p e s m below meth c (va_A (w g) s.heap.size) _ _ ⟨⟨B.exec, B.bytes, hml, hown', fun x hx => hts x (List.mem_cons_of_mem _ hx)⟩, hK⟩ ?_ ⟨hP, hD0.self, va_S.rf, fun q h => Or.inr h⟩ hl
  intro x g2 H locs pc ls he hz hdg
  cases he
  exact W.lret (v := r) B.exec B.bytes B.returns (fun t ht hW => ⟨⟨r, g1, rfl, ⟨rfl, rfl⟩, by rw [ht]; exact hz.1, va_K.moved hW.alike hK, hz.2.1⟩, hz.2.2.1.F ht⟩) hz.2.2.1.2.2 hdg B.notSynchronized
theorem KV_mk (hy : plainName y.cls = true) (ho : y.cls = own) (hlen : (lg_sl av).length ≤ nL)
    (body : ∀ (p : Program) (e : Env) (s : State) (m : MethodId) (below : List Frame) (meth : Method) (c : Code) (A : Nat → Prop) (Q : State → Prop) (ls : Array Slot), Cx p m c cc nL s av.toArray own D tys → EndV p l e rm s m av.toArray below meth c Q D w A cc g1 → Zs D w A s.heap s.heap [] g → lv_has ls nL (lv_args 0 av) → W p l e rm s m av.toArray below meth c s.heap [] 0 0 Q (F0 m 0 ls [])) : KV l D tys w y cc nL none rm av g g1 := by
  intro sz
  refine Met.ofW (cc := cc) (maxL := nL) (ret := none) hy rfl ?_
  intro p e s m args below meth c s₁ B hml hv
  obtain ⟨rfl, hsz, hP, hK, hD0⟩ := hv
  have hts := atoms_spec (ws := Cond.code y cc nL none :: wsA) B.pre
  have hown' : s.vm.findClass own = some m.cls := ho ▸ findClass_of_methodNamed B.named
  subst hsz
  have hl := lv_entry av (n := nL) hlen
  rw [lg_entry_eq]
  refine body p e s m below meth c (va_A (w g) s.heap.size) _ _ ⟨⟨B.exec, B.bytes, hml, hown', fun x hx => hts x (List.mem_cons_of_mem _ hx)⟩, hK⟩ ?_ ⟨hP, hD0.self, va_S.rf, fun q h => Or.inr h⟩ hl
  intro g2 H locs pc ls he hz hdg
  subst he
  exact W.vret B.exec B.bytes B.returns (fun t ht hW => ⟨⟨g2, rfl, rfl, by rw [ht]; exact hz.1, va_K.moved hW.alike hK, hz.2.1⟩, hz.2.2.1.F ht⟩) hz.2.2.1.2.2 hdg B.notSynchronized
end HEADS
end
