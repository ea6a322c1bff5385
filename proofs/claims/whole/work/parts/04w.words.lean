theorem inA0k : ∀ k, k < 6 → u_lay RX0 TX0 k ∈ wsA
  | 0, _ => mA (tA1 (List.mem_of_getElem? (i := 166) rfl)) rfl
  | 1, _ => mA (tA1 (List.mem_of_getElem? (i := 168) rfl)) rfl
  | 2, _ => mA (tA1 (List.mem_of_getElem? (i := 170) rfl)) rfl
  | 3, _ => mA (tA1 (List.mem_of_getElem? (i := 172) rfl)) rfl
  | 4, _ => mA (tA1 (List.mem_of_getElem? (i := 174) rfl)) rfl
  | 5, _ => mA (tA1 (List.mem_of_getElem? (i := 176) rfl)) rfl
  | n + 6, h => absurd h (by omega)
theorem inA0 : ∀ x ∈ u_ws RX0 TX0 6, x ∈ wsA := by
  intro x hx
  obtain ⟨k, hk, rfl⟩ := List.mem_map.mp hx
  exact inA0k k (List.mem_range.mp hk)
theorem inA1k : ∀ k, k < 3 → u_lay RX1 TX1 k ∈ wsA
  | 0, _ => mA (tA1 (List.mem_of_getElem? (i := 192) rfl)) rfl
  | 1, _ => mA (tA1 (List.mem_of_getElem? (i := 194) rfl)) rfl
  | 2, _ => mA (tA1 (List.mem_of_getElem? (i := 196) rfl)) rfl
  | n + 3, h => absurd h (by omega)
theorem inA1 : ∀ x ∈ u_ws RX1 TX1 3, x ∈ wsA := by
  intro x hx
  obtain ⟨k, hk, rfl⟩ := List.mem_map.mp hx
  exact inA1k k (List.mem_range.mp hk)
theorem inA2k : ∀ k, k < 4 → u_lay RX2 TX2 k ∈ wsA
  | 0, _ => mA (tA1 (List.mem_of_getElem? (i := 137) rfl)) rfl
  | 1, _ => mA (tA1 (List.mem_of_getElem? (i := 139) rfl)) rfl
  | 2, _ => mA (tA1 (List.mem_of_getElem? (i := 141) rfl)) rfl
  | 3, _ => mA (tA1 (List.mem_of_getElem? (i := 143) rfl)) rfl
  | n + 4, h => absurd h (by omega)
theorem inA2 : ∀ x ∈ u_ws RX2 TX2 4, x ∈ wsA := by
  intro x hx
  obtain ⟨k, hk, rfl⟩ := List.mem_map.mp hx
  exact inA2k k (List.mem_range.mp hk)
theorem inA3k : ∀ k, k < 6 → u_lay RX3 TX3 k ∈ wsA
  | 0, _ => mA (tA1 (List.mem_of_getElem? (i := 41) rfl)) rfl
  | 1, _ => mA (tA1 (List.mem_of_getElem? (i := 43) rfl)) rfl
  | 2, _ => mA (tA1 (List.mem_of_getElem? (i := 45) rfl)) rfl
  | 3, _ => mA (tA1 (List.mem_of_getElem? (i := 47) rfl)) rfl
  | 4, _ => mA (tA1 (List.mem_of_getElem? (i := 49) rfl)) rfl
  | 5, _ => mA (tA1 (List.mem_of_getElem? (i := 51) rfl)) rfl
  | n + 6, h => absurd h (by omega)
theorem inA3 : ∀ x ∈ u_ws RX3 TX3 6, x ∈ wsA := by
  intro x hx
  obtain ⟨k, hk, rfl⟩ := List.mem_map.mp hx
  exact inA3k k (List.mem_range.mp hk)
theorem inA4k : ∀ k, k < 14 → u_lay RX4 TX4 k ∈ wsA
  | 0, _ => mA (tA1 (List.mem_of_getElem? (i := 102) rfl)) rfl
  | 1, _ => mA (tA1 (List.mem_of_getElem? (i := 104) rfl)) rfl
  | 2, _ => mA (tA1 (List.mem_of_getElem? (i := 106) rfl)) rfl
  | 3, _ => mA (tA1 (List.mem_of_getElem? (i := 108) rfl)) rfl
  | 4, _ => mA (tA1 (List.mem_of_getElem? (i := 110) rfl)) rfl
  | 5, _ => mA (tA1 (List.mem_of_getElem? (i := 112) rfl)) rfl
  | 6, _ => mA (tA1 (List.mem_of_getElem? (i := 114) rfl)) rfl
  | 7, _ => mA (tA1 (List.mem_of_getElem? (i := 116) rfl)) rfl
  | 8, _ => mA (tA1 (List.mem_of_getElem? (i := 118) rfl)) rfl
  | 9, _ => mA (tA1 (List.mem_of_getElem? (i := 120) rfl)) rfl
  | 10, _ => mA (tA1 (List.mem_of_getElem? (i := 122) rfl)) rfl
  | 11, _ => mA (tA1 (List.mem_of_getElem? (i := 124) rfl)) rfl
  | 12, _ => mA (tA1 (List.mem_of_getElem? (i := 126) rfl)) rfl
  | 13, _ => mA (tA1 (List.mem_of_getElem? (i := 128) rfl)) rfl
  | n + 14, h => absurd h (by omega)
theorem inA4 : ∀ x ∈ u_ws RX4 TX4 14, x ∈ wsA := by
  intro x hx
  obtain ⟨k, hk, rfl⟩ := List.mem_map.mp hx
  exact inA4k k (List.mem_range.mp hk)
theorem inA5k : ∀ k, k < 11 → u_lay RX5 TX5 k ∈ wsA
  | 0, _ => mA (tA1 (List.mem_of_getElem? (i := 210) rfl)) rfl
  | 1, _ => mA (tA1 (List.mem_of_getElem? (i := 212) rfl)) rfl
  | 2, _ => mA (tA1 (List.mem_of_getElem? (i := 214) rfl)) rfl
  | 3, _ => mA (tA1 (List.mem_of_getElem? (i := 216) rfl)) rfl
  | 4, _ => mA (tA1 (List.mem_of_getElem? (i := 218) rfl)) rfl
  | 5, _ => mA (tA1 (List.mem_of_getElem? (i := 220) rfl)) rfl
  | 6, _ => mA (tA1 (List.mem_of_getElem? (i := 222) rfl)) rfl
  | 7, _ => mA (tA1 (List.mem_of_getElem? (i := 224) rfl)) rfl
  | 8, _ => mA (tA1 (List.mem_of_getElem? (i := 226) rfl)) rfl
  | 9, _ => mA (tA1 (List.mem_of_getElem? (i := 228) rfl)) rfl
  | 10, _ => mA (tA1 (List.mem_of_getElem? (i := 230) rfl)) rfl
  | n + 11, h => absurd h (by omega)
theorem inA5 : ∀ x ∈ u_ws RX5 TX5 11, x ∈ wsA := by
  intro x hx
  obtain ⟨k, hk, rfl⟩ := List.mem_map.mp hx
  exact inA5k k (List.mem_range.mp hk)
theorem inA6k : ∀ k, k < 30 → u_lay RX6 TX6 k ∈ wsA
  | 0, _ => mA (tA3 (List.mem_of_getElem? (i := 159) rfl)) rfl
  | 1, _ => mA (tA3 (List.mem_of_getElem? (i := 161) rfl)) rfl
  | 2, _ => mA (tA3 (List.mem_of_getElem? (i := 163) rfl)) rfl
  | 3, _ => mA (tA3 (List.mem_of_getElem? (i := 165) rfl)) rfl
  | 4, _ => mA (tA3 (List.mem_of_getElem? (i := 167) rfl)) rfl
  | 5, _ => mA (tA3 (List.mem_of_getElem? (i := 169) rfl)) rfl
  | 6, _ => mA (tA3 (List.mem_of_getElem? (i := 171) rfl)) rfl
  | 7, _ => mA (tA3 (List.mem_of_getElem? (i := 173) rfl)) rfl
  | 8, _ => mA (tA3 (List.mem_of_getElem? (i := 175) rfl)) rfl
  | 9, _ => mA (tA3 (List.mem_of_getElem? (i := 177) rfl)) rfl
  | 10, _ => mA (tA3 (List.mem_of_getElem? (i := 179) rfl)) rfl
  | 11, _ => mA (tA3 (List.mem_of_getElem? (i := 181) rfl)) rfl
  | 12, _ => mA (tA3 (List.mem_of_getElem? (i := 183) rfl)) rfl
  | 13, _ => mA (tA3 (List.mem_of_getElem? (i := 185) rfl)) rfl
  | 14, _ => mA (tA3 (List.mem_of_getElem? (i := 187) rfl)) rfl
  | 15, _ => mA (tA3 (List.mem_of_getElem? (i := 189) rfl)) rfl
  | 16, _ => mA (tA3 (List.mem_of_getElem? (i := 191) rfl)) rfl
  | 17, _ => mA (tA3 (List.mem_of_getElem? (i := 193) rfl)) rfl
  | 18, _ => mA (tA3 (List.mem_of_getElem? (i := 195) rfl)) rfl
  | 19, _ => mA (tA3 (List.mem_of_getElem? (i := 197) rfl)) rfl
  | 20, _ => mA (tA3 (List.mem_of_getElem? (i := 199) rfl)) rfl
  | 21, _ => mA (tA3 (List.mem_of_getElem? (i := 201) rfl)) rfl
  | 22, _ => mA (tA3 (List.mem_of_getElem? (i := 203) rfl)) rfl
  | 23, _ => mA (tA3 (List.mem_of_getElem? (i := 205) rfl)) rfl
  | 24, _ => mA (tA3 (List.mem_of_getElem? (i := 207) rfl)) rfl
  | 25, _ => mA (tA3 (List.mem_of_getElem? (i := 209) rfl)) rfl
  | 26, _ => mA (tA3 (List.mem_of_getElem? (i := 211) rfl)) rfl
  | 27, _ => mA (tA3 (List.mem_of_getElem? (i := 213) rfl)) rfl
  | 28, _ => mA (tA3 (List.mem_of_getElem? (i := 215) rfl)) rfl
  | 29, _ => mA (tA3 (List.mem_of_getElem? (i := 217) rfl)) rfl
  | n + 30, h => absurd h (by omega)
theorem inA6 : ∀ x ∈ u_ws RX6 TX6 30, x ∈ wsA := by
  intro x hx
  obtain ⟨k, hk, rfl⟩ := List.mem_map.mp hx
  exact inA6k k (List.mem_range.mp hk)
theorem wd_0 : Cond.fieldLink RX3 9 "MossPromises$Text" "letters" "[I" ∈ wsA := mA (tA1 (List.mem_of_getElem? (i := 31) rfl)) rfl
theorem wd_1 : Cond.fieldLink RX3 15 "MossPromises$Text" "length" "I" ∈ wsA := mA (tA1 (List.mem_of_getElem? (i := 32) rfl)) rfl
theorem wd_2 : Cond.fieldLink RX5 73 "MossPromises$Text" "length" "I" ∈ wsA := mA (tA1 (List.mem_of_getElem? (i := 33) rfl)) rfl
theorem wd_3 : Cond.fieldLink RX3 19 "MossPromises$Text" "sign" "I" ∈ wsA := mA (tA1 (List.mem_of_getElem? (i := 34) rfl)) rfl
theorem wd_4 : Cond.fieldLink RX2 41 "MossPromises$Text" "sign" "I" ∈ wsA := mA (tA1 (List.mem_of_getElem? (i := 35) rfl)) rfl
theorem wd_5 : Cond.fieldLink RX3 22 "MossPromises$Text" "start" "I" ∈ wsA := mA (tA1 (List.mem_of_getElem? (i := 36) rfl)) rfl
theorem wd_6 : Cond.fieldLink RX2 61 "MossPromises$Text" "start" "I" ∈ wsA := mA (tA1 (List.mem_of_getElem? (i := 37) rfl)) rfl
theorem wd_7 : Cond.fieldLink RX3 25 "MossPromises$Text" "behind" "I" ∈ wsA := mA (tA1 (List.mem_of_getElem? (i := 38) rfl)) rfl
theorem wd_8 : Cond.fieldLink RX3 28 "MossPromises$Text" "number" "I" ∈ wsA := mA (tA1 (List.mem_of_getElem? (i := 39) rfl)) rfl
theorem wd_9 : Cond.fieldLink RX2 75 "MossPromises$Text" "number" "I" ∈ wsA := mA (tA1 (List.mem_of_getElem? (i := 40) rfl)) rfl
theorem wd_10 : Cond.fieldLink RX4 9 "MossPromises$Told" "dies" "[I" ∈ wsA := mA (tA1 (List.mem_of_getElem? (i := 61) rfl)) rfl
theorem wd_11 : Cond.fieldLink RX2 71 "MossPromises$Told" "dies" "[I" ∈ wsA := mA (tA1 (List.mem_of_getElem? (i := 62) rfl)) rfl
theorem wd_12 : Cond.fieldLink RX5 94 "MossPromises$Told" "dies" "[I" ∈ wsA := mA (tA1 (List.mem_of_getElem? (i := 63) rfl)) rfl
theorem wd_13 : Cond.fieldLink RX4 15 "MossPromises$Told" "heir" "[I" ∈ wsA := mA (tA1 (List.mem_of_getElem? (i := 64) rfl)) rfl
theorem wd_14 : Cond.fieldLink RX2 78 "MossPromises$Told" "heir" "[I" ∈ wsA := mA (tA1 (List.mem_of_getElem? (i := 65) rfl)) rfl
theorem wd_15 : Cond.fieldLink RX5 97 "MossPromises$Told" "heir" "[I" ∈ wsA := mA (tA1 (List.mem_of_getElem? (i := 66) rfl)) rfl
theorem wd_16 : Cond.fieldLink RX4 18 "MossPromises$Told" "who" "[I" ∈ wsA := mA (tA1 (List.mem_of_getElem? (i := 67) rfl)) rfl
theorem wd_17 : Cond.fieldLink RX2 87 "MossPromises$Told" "who" "[I" ∈ wsA := mA (tA1 (List.mem_of_getElem? (i := 68) rfl)) rfl
theorem wd_18 : Cond.fieldLink RX5 103 "MossPromises$Told" "who" "[I" ∈ wsA := mA (tA1 (List.mem_of_getElem? (i := 69) rfl)) rfl
theorem wd_19 : Cond.fieldLink RX4 21 "MossPromises$Told" "cell" "[I" ∈ wsA := mA (tA1 (List.mem_of_getElem? (i := 70) rfl)) rfl
theorem wd_20 : Cond.fieldLink RX2 90 "MossPromises$Told" "cell" "[I" ∈ wsA := mA (tA1 (List.mem_of_getElem? (i := 71) rfl)) rfl
theorem wd_21 : Cond.fieldLink RX5 106 "MossPromises$Told" "cell" "[I" ∈ wsA := mA (tA1 (List.mem_of_getElem? (i := 72) rfl)) rfl
theorem wd_22 : Cond.fieldLink RX4 24 "MossPromises$Told" "depth" "[I" ∈ wsA := mA (tA1 (List.mem_of_getElem? (i := 73) rfl)) rfl
theorem wd_23 : Cond.fieldLink RX2 93 "MossPromises$Told" "depth" "[I" ∈ wsA := mA (tA1 (List.mem_of_getElem? (i := 74) rfl)) rfl
theorem wd_24 : Cond.fieldLink RX5 109 "MossPromises$Told" "depth" "[I" ∈ wsA := mA (tA1 (List.mem_of_getElem? (i := 75) rfl)) rfl
theorem wd_25 : Cond.fieldLink RX4 27 "MossPromises$Told" "span" "[I" ∈ wsA := mA (tA1 (List.mem_of_getElem? (i := 76) rfl)) rfl
theorem wd_26 : Cond.fieldLink RX2 96 "MossPromises$Told" "span" "[I" ∈ wsA := mA (tA1 (List.mem_of_getElem? (i := 77) rfl)) rfl
theorem wd_27 : Cond.fieldLink RX5 112 "MossPromises$Told" "span" "[I" ∈ wsA := mA (tA1 (List.mem_of_getElem? (i := 78) rfl)) rfl
theorem wd_28 : Cond.fieldLink RX4 30 "MossPromises$Told" "due" "[I" ∈ wsA := mA (tA1 (List.mem_of_getElem? (i := 79) rfl)) rfl
theorem wd_29 : Cond.fieldLink RX2 99 "MossPromises$Told" "due" "[I" ∈ wsA := mA (tA1 (List.mem_of_getElem? (i := 80) rfl)) rfl
theorem wd_30 : Cond.fieldLink RX5 115 "MossPromises$Told" "due" "[I" ∈ wsA := mA (tA1 (List.mem_of_getElem? (i := 81) rfl)) rfl
theorem wd_31 : Cond.fieldLink RX4 33 "MossPromises$Told" "wordCount" "[I" ∈ wsA := mA (tA1 (List.mem_of_getElem? (i := 82) rfl)) rfl
theorem wd_32 : Cond.fieldLink RX2 112 "MossPromises$Told" "wordCount" "[I" ∈ wsA := mA (tA1 (List.mem_of_getElem? (i := 83) rfl)) rfl
theorem wd_33 : Cond.fieldLink RX5 118 "MossPromises$Told" "wordCount" "[I" ∈ wsA := mA (tA1 (List.mem_of_getElem? (i := 84) rfl)) rfl
theorem wd_34 : Cond.fieldLink RX4 36 "MossPromises$Told" "words" "[I" ∈ wsA := mA (tA1 (List.mem_of_getElem? (i := 85) rfl)) rfl
theorem wd_35 : Cond.fieldLink RX2 109 "MossPromises$Told" "words" "[I" ∈ wsA := mA (tA1 (List.mem_of_getElem? (i := 86) rfl)) rfl
theorem wd_36 : Cond.fieldLink RX4 39 "MossPromises$Told" "clashes" "[I" ∈ wsA := mA (tA1 (List.mem_of_getElem? (i := 87) rfl)) rfl
theorem wd_37 : Cond.fieldLink RX2 102 "MossPromises$Told" "clashes" "[I" ∈ wsA := mA (tA1 (List.mem_of_getElem? (i := 88) rfl)) rfl
theorem wd_38 : Cond.fieldLink RX5 121 "MossPromises$Told" "clashes" "[I" ∈ wsA := mA (tA1 (List.mem_of_getElem? (i := 89) rfl)) rfl
theorem wd_39 : Cond.fieldLink RX4 42 "MossPromises$Told" "persons" "I" ∈ wsA := mA (tA1 (List.mem_of_getElem? (i := 90) rfl)) rfl
theorem wd_40 : Cond.fieldLink RX2 64 "MossPromises$Told" "persons" "I" ∈ wsA := mA (tA1 (List.mem_of_getElem? (i := 91) rfl)) rfl
theorem wd_41 : Cond.fieldLink RX5 257 "MossPromises$Told" "persons" "I" ∈ wsA := mA (tA1 (List.mem_of_getElem? (i := 92) rfl)) rfl
theorem wd_42 : Cond.fieldLink RX4 46 "MossPromises$Told" "promises" "I" ∈ wsA := mA (tA1 (List.mem_of_getElem? (i := 93) rfl)) rfl
theorem wd_43 : Cond.fieldLink RX2 84 "MossPromises$Told" "promises" "I" ∈ wsA := mA (tA1 (List.mem_of_getElem? (i := 94) rfl)) rfl
theorem wd_44 : Cond.fieldLink RX5 260 "MossPromises$Told" "promises" "I" ∈ wsA := mA (tA1 (List.mem_of_getElem? (i := 95) rfl)) rfl
theorem wd_45 : Cond.fieldLink RX4 49 "MossPromises$Told" "acid" "I" ∈ wsA := mA (tA1 (List.mem_of_getElem? (i := 96) rfl)) rfl
theorem wd_46 : Cond.fieldLink RX2 115 "MossPromises$Told" "acid" "I" ∈ wsA := mA (tA1 (List.mem_of_getElem? (i := 97) rfl)) rfl
theorem wd_47 : Cond.fieldLink RX5 263 "MossPromises$Told" "acid" "I" ∈ wsA := mA (tA1 (List.mem_of_getElem? (i := 98) rfl)) rfl
theorem wd_48 : Cond.fieldLink RX4 52 "MossPromises$Told" "slide" "I" ∈ wsA := mA (tA1 (List.mem_of_getElem? (i := 99) rfl)) rfl
theorem wd_49 : Cond.fieldLink RX2 118 "MossPromises$Told" "slide" "I" ∈ wsA := mA (tA1 (List.mem_of_getElem? (i := 100) rfl)) rfl
theorem wd_50 : Cond.fieldLink RX5 266 "MossPromises$Told" "slide" "I" ∈ wsA := mA (tA1 (List.mem_of_getElem? (i := 101) rfl)) rfl
theorem wd_51 : Cond.fieldLink RX2 12 "MossPromises$Reader" "text" "LMossPromises$Text;" ∈ wsA := mA (tA1 (List.mem_of_getElem? (i := 131) rfl)) rfl
theorem wd_52 : Cond.fieldLink RX5 63 "MossPromises$Reader" "text" "LMossPromises$Text;" ∈ wsA := mA (tA1 (List.mem_of_getElem? (i := 132) rfl)) rfl
theorem wd_53 : Cond.fieldLink RX2 21 "MossPromises$Reader" "told" "LMossPromises$Told;" ∈ wsA := mA (tA1 (List.mem_of_getElem? (i := 133) rfl)) rfl
theorem wd_54 : Cond.fieldLink RX5 80 "MossPromises$Reader" "told" "LMossPromises$Told;" ∈ wsA := mA (tA1 (List.mem_of_getElem? (i := 134) rfl)) rfl
theorem wd_55 : Cond.fieldLink RX2 25 "MossPromises$Reader" "acidTold" "Z" ∈ wsA := mA (tA1 (List.mem_of_getElem? (i := 135) rfl)) rfl
theorem wd_56 : Cond.fieldLink RX2 29 "MossPromises$Reader" "slideTold" "Z" ∈ wsA := mA (tA1 (List.mem_of_getElem? (i := 136) rfl)) rfl
theorem wd_57 : Cond.fieldLink RX0 9 "MossPromises$Bog" "cut" "[I" ∈ wsA := mA (tA1 (List.mem_of_getElem? (i := 154) rfl)) rfl
theorem wd_58 : Cond.fieldLink RX5 137 "MossPromises$Bog" "cut" "[I" ∈ wsA := mA (tA1 (List.mem_of_getElem? (i := 155) rfl)) rfl
theorem wd_59 : Cond.fieldLink RX0 15 "MossPromises$Bog" "wet" "[I" ∈ wsA := mA (tA1 (List.mem_of_getElem? (i := 156) rfl)) rfl
theorem wd_60 : Cond.fieldLink RX5 140 "MossPromises$Bog" "wet" "[I" ∈ wsA := mA (tA1 (List.mem_of_getElem? (i := 157) rfl)) rfl
theorem wd_61 : Cond.fieldLink RX0 18 "MossPromises$Bog" "is" "[I" ∈ wsA := mA (tA1 (List.mem_of_getElem? (i := 158) rfl)) rfl
theorem wd_62 : Cond.fieldLink RX5 124 "MossPromises$Bog" "is" "[I" ∈ wsA := mA (tA1 (List.mem_of_getElem? (i := 159) rfl)) rfl
theorem wd_63 : Cond.fieldLink RX0 21 "MossPromises$Bog" "dried" "[I" ∈ wsA := mA (tA1 (List.mem_of_getElem? (i := 160) rfl)) rfl
theorem wd_64 : Cond.fieldLink RX5 170 "MossPromises$Bog" "dried" "[I" ∈ wsA := mA (tA1 (List.mem_of_getElem? (i := 161) rfl)) rfl
theorem wd_65 : Cond.fieldLink RX0 24 "MossPromises$Bog" "leftWhenFound" "[I" ∈ wsA := mA (tA1 (List.mem_of_getElem? (i := 162) rfl)) rfl
theorem wd_66 : Cond.fieldLink RX5 167 "MossPromises$Bog" "leftWhenFound" "[I" ∈ wsA := mA (tA1 (List.mem_of_getElem? (i := 163) rfl)) rfl
theorem wd_67 : Cond.fieldLink RX0 27 "MossPromises$Bog" "year" "I" ∈ wsA := mA (tA1 (List.mem_of_getElem? (i := 164) rfl)) rfl
theorem wd_68 : Cond.fieldLink RX5 150 "MossPromises$Bog" "year" "I" ∈ wsA := mA (tA1 (List.mem_of_getElem? (i := 165) rfl)) rfl
theorem wd_69 : Cond.fieldLink RX1 11 "MossPromises$Past" "ring" "[LMossPromises$Bog;" ∈ wsA := mA (tA1 (List.mem_of_getElem? (i := 188) rfl)) rfl
theorem wd_70 : Cond.fieldLink RX1 17 "MossPromises$Past" "next" "I" ∈ wsA := mA (tA1 (List.mem_of_getElem? (i := 189) rfl)) rfl
theorem wd_71 : Cond.fieldLink RX1 21 "MossPromises$Past" "count" "I" ∈ wsA := mA (tA1 (List.mem_of_getElem? (i := 190) rfl)) rfl
theorem wd_72 : Cond.fieldLink RX5 156 "MossPromises$Past" "count" "I" ∈ wsA := mA (tA1 (List.mem_of_getElem? (i := 191) rfl)) rfl
theorem wd_73 : Cond.fieldLink RX5 10 "MossPromises" "reader" "LMossPromises$Reader;" ∈ wsA := mA (tA1 (List.mem_of_getElem? (i := 199) rfl)) rfl
theorem wd_74 : Cond.fieldLink RX5 19 "MossPromises" "told" "LMossPromises$Told;" ∈ wsA := mA (tA1 (List.mem_of_getElem? (i := 200) rfl)) rfl
theorem wd_75 : Cond.fieldLink RX5 26 "MossPromises" "now" "LMossPromises$Bog;" ∈ wsA := mA (tA1 (List.mem_of_getElem? (i := 201) rfl)) rfl
theorem wd_76 : Cond.fieldLink RX5 33 "MossPromises" "past" "LMossPromises$Past;" ∈ wsA := mA (tA1 (List.mem_of_getElem? (i := 202) rfl)) rfl
theorem wd_77 : Cond.fieldLink RX5 37 "MossPromises" "images" "[LMossPromises$Bog;" ∈ wsA := mA (tA1 (List.mem_of_getElem? (i := 203) rfl)) rfl
theorem wd_78 : Cond.fieldLink RX5 41 "MossPromises" "imageKept" "[Z" ∈ wsA := mA (tA1 (List.mem_of_getElem? (i := 204) rfl)) rfl
theorem wd_79 : Cond.fieldLink RX5 45 "MossPromises" "seen" "[I" ∈ wsA := mA (tA1 (List.mem_of_getElem? (i := 205) rfl)) rfl
theorem wd_80 : Cond.fieldLink RX5 49 "MossPromises" "wetThen" "[I" ∈ wsA := mA (tA1 (List.mem_of_getElem? (i := 206) rfl)) rfl
theorem wd_81 : Cond.fieldLink RX5 52 "MossPromises" "wordVotes" "[I" ∈ wsA := mA (tA1 (List.mem_of_getElem? (i := 207) rfl)) rfl
theorem wd_82 : Cond.fieldLink RX5 55 "MossPromises" "seenCount" "I" ∈ wsA := mA (tA1 (List.mem_of_getElem? (i := 208) rfl)) rfl
theorem wd_83 : Cond.fieldLink RX5 59 "MossPromises" "traced" "J" ∈ wsA := mA (tA1 (List.mem_of_getElem? (i := 209) rfl)) rfl
theorem wd_84 : Cond.fieldLink RX6 74 "MossPromisesModel" "thrown" "I" ∈ wsA := mA (tA3 (List.mem_of_getElem? (i := 129) rfl)) rfl
theorem wd_85 : Cond.fieldLink RX6 205 "MossPromisesModel" "trace" "J" ∈ wsA := mA (tA3 (List.mem_of_getElem? (i := 130) rfl)) rfl
theorem wd_86 : Cond.fieldLink RX6 7 "MossPromisesModel" "text" "[I" ∈ wsA := mA (tA3 (List.mem_of_getElem? (i := 131) rfl)) rfl
theorem wd_87 : Cond.fieldLink RX6 82 "MossPromisesModel" "typed" "I" ∈ wsA := mA (tA3 (List.mem_of_getElem? (i := 132) rfl)) rfl
theorem wd_88 : Cond.fieldLink RX6 85 "MossPromisesModel" "next" "I" ∈ wsA := mA (tA3 (List.mem_of_getElem? (i := 133) rfl)) rfl
theorem wd_89 : Cond.fieldLink RX6 95 "MossPromisesModel" "token" "I" ∈ wsA := mA (tA3 (List.mem_of_getElem? (i := 134) rfl)) rfl
theorem wd_90 : Cond.fieldLink RX6 92 "MossPromisesModel" "place" "I" ∈ wsA := mA (tA3 (List.mem_of_getElem? (i := 135) rfl)) rfl
theorem wd_91 : Cond.fieldLink RX6 98 "MossPromisesModel" "value" "I" ∈ wsA := mA (tA3 (List.mem_of_getElem? (i := 136) rfl)) rfl
theorem wd_92 : Cond.fieldLink RX6 105 "MossPromisesModel" "fault" "I" ∈ wsA := mA (tA3 (List.mem_of_getElem? (i := 137) rfl)) rfl
theorem wd_93 : Cond.fieldLink RX6 13 "MossPromisesModel" "many" "[I" ∈ wsA := mA (tA3 (List.mem_of_getElem? (i := 138) rfl)) rfl
theorem wd_94 : Cond.fieldLink RX6 119 "MossPromisesModel" "told" "I" ∈ wsA := mA (tA3 (List.mem_of_getElem? (i := 139) rfl)) rfl
theorem wd_95 : Cond.fieldLink RX6 16 "MossPromisesModel" "dies" "[I" ∈ wsA := mA (tA3 (List.mem_of_getElem? (i := 140) rfl)) rfl
theorem wd_96 : Cond.fieldLink RX6 19 "MossPromisesModel" "heir" "[I" ∈ wsA := mA (tA3 (List.mem_of_getElem? (i := 141) rfl)) rfl
theorem wd_97 : Cond.fieldLink RX6 22 "MossPromisesModel" "who" "[I" ∈ wsA := mA (tA3 (List.mem_of_getElem? (i := 142) rfl)) rfl
theorem wd_98 : Cond.fieldLink RX6 25 "MossPromisesModel" "where" "[I" ∈ wsA := mA (tA3 (List.mem_of_getElem? (i := 143) rfl)) rfl
theorem wd_99 : Cond.fieldLink RX6 28 "MossPromisesModel" "depth" "[I" ∈ wsA := mA (tA3 (List.mem_of_getElem? (i := 144) rfl)) rfl
theorem wd_100 : Cond.fieldLink RX6 31 "MossPromisesModel" "span" "[I" ∈ wsA := mA (tA3 (List.mem_of_getElem? (i := 145) rfl)) rfl
theorem wd_101 : Cond.fieldLink RX6 34 "MossPromisesModel" "due" "[I" ∈ wsA := mA (tA3 (List.mem_of_getElem? (i := 146) rfl)) rfl
theorem wd_102 : Cond.fieldLink RX6 37 "MossPromisesModel" "words" "[I" ∈ wsA := mA (tA3 (List.mem_of_getElem? (i := 147) rfl)) rfl
theorem wd_103 : Cond.fieldLink RX6 40 "MossPromisesModel" "wordOf" "[I" ∈ wsA := mA (tA3 (List.mem_of_getElem? (i := 148) rfl)) rfl
theorem wd_104 : Cond.fieldLink RX6 43 "MossPromisesModel" "clash" "[I" ∈ wsA := mA (tA3 (List.mem_of_getElem? (i := 149) rfl)) rfl
theorem wd_105 : Cond.fieldLink RX6 46 "MossPromisesModel" "s" "[I" ∈ wsA := mA (tA3 (List.mem_of_getElem? (i := 150) rfl)) rfl
theorem wd_106 : Cond.fieldLink RX6 49 "MossPromisesModel" "kept" "[I" ∈ wsA := mA (tA3 (List.mem_of_getElem? (i := 151) rfl)) rfl
theorem wd_107 : Cond.fieldLink RX6 52 "MossPromisesModel" "isKept" "[Z" ∈ wsA := mA (tA3 (List.mem_of_getElem? (i := 152) rfl)) rfl
theorem wd_108 : Cond.fieldLink RX6 56 "MossPromisesModel" "undos" "[I" ∈ wsA := mA (tA3 (List.mem_of_getElem? (i := 153) rfl)) rfl
theorem wd_109 : Cond.fieldLink RX6 142 "MossPromisesModel" "undoMany" "I" ∈ wsA := mA (tA3 (List.mem_of_getElem? (i := 154) rfl)) rfl
theorem wd_110 : Cond.fieldLink RX6 59 "MossPromisesModel" "seen" "[I" ∈ wsA := mA (tA3 (List.mem_of_getElem? (i := 155) rfl)) rfl
theorem wd_111 : Cond.fieldLink RX6 139 "MossPromisesModel" "seenMany" "I" ∈ wsA := mA (tA3 (List.mem_of_getElem? (i := 156) rfl)) rfl
theorem wd_112 : Cond.fieldLink RX6 62 "MossPromisesModel" "wet" "[I" ∈ wsA := mA (tA3 (List.mem_of_getElem? (i := 157) rfl)) rfl
theorem wd_113 : Cond.fieldLink RX6 65 "MossPromisesModel" "by" "[I" ∈ wsA := mA (tA3 (List.mem_of_getElem? (i := 158) rfl)) rfl
theorem wd_114 : Cond.constant RJ6 265 (1431655765) ∈ wsA := mA (tA2 (List.mem_of_getElem? (i := 198) rfl)) rfl
theorem wd_115 : Cond.constant RJ6 266 (858993459) ∈ wsA := mA (tA2 (List.mem_of_getElem? (i := 199) rfl)) rfl
theorem wd_116 : Cond.constant RJ6 267 (252645135) ∈ wsA := mA (tA2 (List.mem_of_getElem? (i := 200) rfl)) rfl
theorem wd_117 : Cond.constant RX5 236 (-1000000) ∈ wsA := mA (tA3 (List.mem_of_getElem? (i := 68) rfl)) rfl
theorem wd_118 : Cond.constantLong RX5 286 (10) ∈ wsA := mA (tA3 (List.mem_of_getElem? (i := 77) rfl)) rfl
theorem wd_119 : Cond.constantLong RX5 288 (100) ∈ wsA := mA (tA3 (List.mem_of_getElem? (i := 82) rfl)) rfl
theorem wd_120 : Cond.constantLong RX5 290 (1000) ∈ wsA := mA (tA3 (List.mem_of_getElem? (i := 87) rfl)) rfl
theorem wd_121 : Cond.constantLong RX5 292 (10000) ∈ wsA := mA (tA3 (List.mem_of_getElem? (i := 92) rfl)) rfl
theorem wd_122 : Cond.constantLong RX5 294 (100000) ∈ wsA := mA (tA3 (List.mem_of_getElem? (i := 97) rfl)) rfl
theorem wd_123 : Cond.constant RX6 204 (-1000000) ∈ wsA := mA (tA4 (List.mem_of_getElem? (i := 194) rfl)) rfl
theorem wd_124 : Cond.constantLong RX6 209 (11) ∈ wsA := mA (tA4 (List.mem_of_getElem? (i := 195) rfl)) rfl
theorem wd_125 : Cond.constantLong RX6 211 (101) ∈ wsA := mA (tA4 (List.mem_of_getElem? (i := 196) rfl)) rfl
theorem wd_126 : Cond.constantLong RX6 213 (1011) ∈ wsA := mA (tA4 (List.mem_of_getElem? (i := 197) rfl)) rfl
theorem wd_127 : Cond.constantLong RX6 215 (10101) ∈ wsA := mA (tA4 (List.mem_of_getElem? (i := 198) rfl)) rfl
theorem wd_128 : Cond.constantLong RX6 217 (100001) ∈ wsA := mA (tA4 (List.mem_of_getElem? (i := 199) rfl)) rfl
theorem wd_129 : Cond.methodLink RL 13 yX5_type ∈ wsA := mA (tA1 (List.mem_of_getElem? (i := 234) rfl)) rfl
theorem wd_130 : Cond.code yX5_type cX5_type 2 (some .int) ∈ wsA := mA (tA1 (List.mem_of_getElem? (i := 237) rfl)) rfl
theorem wd_131 : Cond.initialized RX5 ∈ wsA := mA (tA1 (List.mem_of_getElem? (i := 1) rfl)) rfl
theorem wd_132 : Cond.instanceMethod yX5_type ∈ wsA := mA (tA1 (List.mem_of_getElem? (i := 235) rfl)) rfl
theorem wd_133 : Cond.selects RX5 yX5_type yX5_type ∈ wsA := mA (tA1 (List.mem_of_getElem? (i := 236) rfl)) rfl
theorem lk_RL_13 : lkV RL 13 yX5_type RX5 cX5_type 2 (some .int) 1 := ⟨wd_130, wd_129, wd_132, wd_133, wd_131, ⟨rfl, by decide +kernel, by decide +kernel, by decide +kernel⟩⟩
theorem wd_134 : Cond.methodLink RX5 67 yX3_add ∈ wsA := mA (tA1 (List.mem_of_getElem? (i := 238) rfl)) rfl
theorem wd_135 : Cond.code yX3_add cX3_add 2 (some .boolean) ∈ wsA := mA (tA2 (List.mem_of_getElem? (i := 1) rfl)) rfl
theorem wd_136 : Cond.initialized RX3 ∈ wsA := mA (tA1 (List.mem_of_getElem? (i := 3) rfl)) rfl
theorem wd_137 : Cond.instanceMethod yX3_add ∈ wsA := mA (tA1 (List.mem_of_getElem? (i := 239) rfl)) rfl
theorem wd_138 : Cond.selects RX3 yX3_add yX3_add ∈ wsA := mA (tA2 (List.mem_of_getElem? (i := 0) rfl)) rfl
theorem lk_RX5_67 : lkV RX5 67 yX3_add RX3 cX3_add 2 (some .boolean) 1 := ⟨wd_135, wd_134, wd_137, wd_138, wd_136, ⟨rfl, by decide +kernel, by decide +kernel, by decide +kernel⟩⟩
theorem wd_139 : Cond.methodLink RL 18 yX5_clear ∈ wsA := mA (tA2 (List.mem_of_getElem? (i := 2) rfl)) rfl
theorem wd_140 : Cond.code yX5_clear cX5_clear 2 (some .int) ∈ wsA := mA (tA2 (List.mem_of_getElem? (i := 5) rfl)) rfl
theorem wd_141 : Cond.instanceMethod yX5_clear ∈ wsA := mA (tA2 (List.mem_of_getElem? (i := 3) rfl)) rfl
theorem wd_142 : Cond.selects RX5 yX5_clear yX5_clear ∈ wsA := mA (tA2 (List.mem_of_getElem? (i := 4) rfl)) rfl
theorem lk_RL_18 : lkV RL 18 yX5_clear RX5 cX5_clear 2 (some .int) 0 := ⟨wd_140, wd_139, wd_141, wd_142, wd_131, ⟨rfl, by decide +kernel, by decide +kernel, by decide +kernel⟩⟩
theorem wd_143 : Cond.methodLink RL 23 yX5_moss ∈ wsA := mA (tA2 (List.mem_of_getElem? (i := 6) rfl)) rfl
theorem wd_144 : Cond.code yX5_moss cX5_moss 3 (some .int) ∈ wsA := mA (tA2 (List.mem_of_getElem? (i := 9) rfl)) rfl
theorem wd_145 : Cond.instanceMethod yX5_moss ∈ wsA := mA (tA2 (List.mem_of_getElem? (i := 7) rfl)) rfl
theorem wd_146 : Cond.selects RX5 yX5_moss yX5_moss ∈ wsA := mA (tA2 (List.mem_of_getElem? (i := 8) rfl)) rfl
theorem lk_RL_23 : lkV RL 23 yX5_moss RX5 cX5_moss 3 (some .int) 0 := ⟨wd_144, wd_143, wd_145, wd_146, wd_131, ⟨rfl, by decide +kernel, by decide +kernel, by decide +kernel⟩⟩
theorem wd_147 : Cond.methodLink RX5 76 yX2_readAll ∈ wsA := mA (tA2 (List.mem_of_getElem? (i := 10) rfl)) rfl
theorem wd_148 : Cond.code yX2_readAll cX2_readAll 3 (some .int) ∈ wsA := mA (tA2 (List.mem_of_getElem? (i := 13) rfl)) rfl
theorem wd_149 : Cond.initialized RX2 ∈ wsA := mA (tA1 (List.mem_of_getElem? (i := 2) rfl)) rfl
theorem wd_150 : Cond.instanceMethod yX2_readAll ∈ wsA := mA (tA2 (List.mem_of_getElem? (i := 11) rfl)) rfl
theorem wd_151 : Cond.selects RX2 yX2_readAll yX2_readAll ∈ wsA := mA (tA2 (List.mem_of_getElem? (i := 12) rfl)) rfl
theorem lk_RX5_76 : lkV RX5 76 yX2_readAll RX2 cX2_readAll 3 (some .int) 0 := ⟨wd_148, wd_147, wd_150, wd_151, wd_149, ⟨rfl, by decide +kernel, by decide +kernel, by decide +kernel⟩⟩
theorem wd_152 : Cond.methodLink RX2 32 yX4_beginAgain ∈ wsA := mA (tA2 (List.mem_of_getElem? (i := 14) rfl)) rfl
theorem wd_153 : Cond.code yX4_beginAgain cX4_beginAgain 1 none ∈ wsA := mA (tA2 (List.mem_of_getElem? (i := 17) rfl)) rfl
theorem wd_154 : Cond.initialized RX4 ∈ wsA := mA (tA1 (List.mem_of_getElem? (i := 4) rfl)) rfl
theorem wd_155 : Cond.instanceMethod yX4_beginAgain ∈ wsA := mA (tA2 (List.mem_of_getElem? (i := 15) rfl)) rfl
theorem wd_156 : Cond.selects RX4 yX4_beginAgain yX4_beginAgain ∈ wsA := mA (tA2 (List.mem_of_getElem? (i := 16) rfl)) rfl
theorem lk_RX2_32 : lkV RX2 32 yX4_beginAgain RX4 cX4_beginAgain 1 none 0 := ⟨wd_153, wd_152, wd_155, wd_156, wd_154, ⟨rfl, by decide +kernel, by decide +kernel, by decide +kernel⟩⟩
theorem wd_157 : Cond.methodLink RX2 35 yX3_toFront ∈ wsA := mA (tA2 (List.mem_of_getElem? (i := 18) rfl)) rfl
theorem wd_158 : Cond.code yX3_toFront cX3_toFront 1 none ∈ wsA := mA (tA2 (List.mem_of_getElem? (i := 21) rfl)) rfl
theorem wd_159 : Cond.instanceMethod yX3_toFront ∈ wsA := mA (tA2 (List.mem_of_getElem? (i := 19) rfl)) rfl
theorem wd_160 : Cond.selects RX3 yX3_toFront yX3_toFront ∈ wsA := mA (tA2 (List.mem_of_getElem? (i := 20) rfl)) rfl
theorem lk_RX2_35 : lkV RX2 35 yX3_toFront RX3 cX3_toFront 1 none 0 := ⟨wd_158, wd_157, wd_159, wd_160, wd_136, ⟨rfl, by decide +kernel, by decide +kernel, by decide +kernel⟩⟩
theorem wd_161 : Cond.methodLink RX2 38 yX3_readToken ∈ wsA := mA (tA2 (List.mem_of_getElem? (i := 22) rfl)) rfl
theorem wd_162 : Cond.code yX3_readToken cX3_readToken 2 none ∈ wsA := mA (tA2 (List.mem_of_getElem? (i := 25) rfl)) rfl
theorem wd_163 : Cond.instanceMethod yX3_readToken ∈ wsA := mA (tA2 (List.mem_of_getElem? (i := 23) rfl)) rfl
theorem wd_164 : Cond.selects RX3 yX3_readToken yX3_readToken ∈ wsA := mA (tA2 (List.mem_of_getElem? (i := 24) rfl)) rfl
theorem lk_RX2_38 : lkV RX2 38 yX3_readToken RX3 cX3_readToken 2 none 0 := ⟨wd_162, wd_161, wd_163, wd_164, wd_136, ⟨rfl, by decide +kernel, by decide +kernel, by decide +kernel⟩⟩
theorem wd_165 : Cond.methodLink RX3 31 yX3_letterAt ∈ wsA := mA (tA2 (List.mem_of_getElem? (i := 26) rfl)) rfl
theorem wd_166 : Cond.code yX3_letterAt cX3_letterAt 2 (some .int) ∈ wsA := mA (tA2 (List.mem_of_getElem? (i := 29) rfl)) rfl
theorem wd_167 : Cond.instanceMethod yX3_letterAt ∈ wsA := mA (tA2 (List.mem_of_getElem? (i := 28) rfl)) rfl
theorem wd_168 : Cond.selects RX3 yX3_letterAt yX3_letterAt ∈ wsA := mA (tS (q := (yX3_letterAt, 6)) (tP1 (List.mem_of_getElem? (i := 0) rfl))) rfl
theorem lk_RX3_31 : lkV RX3 31 yX3_letterAt RX3 cX3_letterAt 2 (some .int) 1 := ⟨wd_166, wd_165, wd_167, wd_168, wd_136, ⟨rfl, by decide +kernel, by decide +kernel, by decide +kernel⟩⟩
theorem wd_169 : Cond.methodLink RX3 35 Lib.Math.min.name ∈ wsA := mA (tA2 (List.mem_of_getElem? (i := 30) rfl)) rfl
theorem wd_170 : Cond.code Lib.Math.min.name Lib.Math.min.code 2 (some .int) ∈ wsA := mA (tA2 (List.mem_of_getElem? (i := 32) rfl)) rfl
theorem wd_171 : Cond.initialized RJ9 ∈ wsA := mA (tA1 (List.mem_of_getElem? (i := 8) rfl)) rfl
theorem wd_172 : Cond.static Lib.Math.min.name ∈ wsA := mA (tA2 (List.mem_of_getElem? (i := 31) rfl)) rfl
theorem wd_173 : Cond.methodLink RX3 41 yX3_isDigit ∈ wsA := mA (tA2 (List.mem_of_getElem? (i := 33) rfl)) rfl
theorem wd_174 : Cond.code yX3_isDigit cX3_isDigit 1 (some .boolean) ∈ wsA := mA (tA2 (List.mem_of_getElem? (i := 35) rfl)) rfl
theorem wd_175 : Cond.static yX3_isDigit ∈ wsA := mA (tA2 (List.mem_of_getElem? (i := 34) rfl)) rfl
theorem lk_RX3_41 : lkS RX3 41 yX3_isDigit cX3_isDigit 1 (some .boolean) 1 := ⟨wd_174, wd_173, wd_175, wd_136, ⟨by decide +kernel, by decide +kernel, by decide +kernel⟩⟩
theorem wd_176 : Cond.methodLink RX3 45 yX3_readDigits ∈ wsA := mA (tA2 (List.mem_of_getElem? (i := 36) rfl)) rfl
theorem wd_177 : Cond.code yX3_readDigits cX3_readDigits 2 none ∈ wsA := mA (tA2 (List.mem_of_getElem? (i := 39) rfl)) rfl
theorem wd_178 : Cond.instanceMethod yX3_readDigits ∈ wsA := mA (tA2 (List.mem_of_getElem? (i := 38) rfl)) rfl
theorem wd_179 : Cond.selects RX3 yX3_readDigits yX3_readDigits ∈ wsA := mA (tS (q := (yX3_readDigits, 6)) (tP1 (List.mem_of_getElem? (i := 1) rfl))) rfl
theorem lk_RX3_45 : lkV RX3 45 yX3_readDigits RX3 cX3_readDigits 2 none 0 := ⟨wd_177, wd_176, wd_178, wd_179, wd_136, ⟨rfl, by decide +kernel, by decide +kernel, by decide +kernel⟩⟩
theorem wd_180 : Cond.methodLink RX2 45 yX2_readPerson ∈ wsA := mA (tA2 (List.mem_of_getElem? (i := 40) rfl)) rfl
theorem wd_181 : Cond.code yX2_readPerson cX2_readPerson 2 (some .boolean) ∈ wsA := mA (tA2 (List.mem_of_getElem? (i := 43) rfl)) rfl
theorem wd_182 : Cond.instanceMethod yX2_readPerson ∈ wsA := mA (tA2 (List.mem_of_getElem? (i := 42) rfl)) rfl
theorem wd_183 : Cond.selects RX2 yX2_readPerson yX2_readPerson ∈ wsA := mA (tS (q := (yX2_readPerson, 4)) (tP1 (List.mem_of_getElem? (i := 2) rfl))) rfl
theorem lk_RX2_45 : lkV RX2 45 yX2_readPerson RX2 cX2_readPerson 2 (some .boolean) 0 := ⟨wd_181, wd_180, wd_182, wd_183, wd_149, ⟨rfl, by decide +kernel, by decide +kernel, by decide +kernel⟩⟩
theorem wd_184 : Cond.methodLink RX2 67 yX2_readNumber ∈ wsA := mA (tA2 (List.mem_of_getElem? (i := 44) rfl)) rfl
theorem wd_185 : Cond.code yX2_readNumber cX2_readNumber 3 (some .boolean) ∈ wsA := mA (tA2 (List.mem_of_getElem? (i := 47) rfl)) rfl
theorem wd_186 : Cond.instanceMethod yX2_readNumber ∈ wsA := mA (tA2 (List.mem_of_getElem? (i := 46) rfl)) rfl
theorem wd_187 : Cond.selects RX2 yX2_readNumber yX2_readNumber ∈ wsA := mA (tS (q := (yX2_readNumber, 4)) (tP1 (List.mem_of_getElem? (i := 3) rfl))) rfl
theorem lk_RX2_67 : lkV RX2 67 yX2_readNumber RX2 cX2_readNumber 3 (some .boolean) 2 := ⟨wd_185, wd_184, wd_186, wd_187, wd_149, ⟨rfl, by decide +kernel, by decide +kernel, by decide +kernel⟩⟩
theorem wd_188 : Cond.methodLink RX2 81 yX2_readEnd ∈ wsA := mA (tA2 (List.mem_of_getElem? (i := 48) rfl)) rfl
theorem wd_189 : Cond.code yX2_readEnd cX2_readEnd 1 (some .boolean) ∈ wsA := mA (tA2 (List.mem_of_getElem? (i := 51) rfl)) rfl
theorem wd_190 : Cond.instanceMethod yX2_readEnd ∈ wsA := mA (tA2 (List.mem_of_getElem? (i := 50) rfl)) rfl
theorem wd_191 : Cond.selects RX2 yX2_readEnd yX2_readEnd ∈ wsA := mA (tS (q := (yX2_readEnd, 4)) (tP1 (List.mem_of_getElem? (i := 4) rfl))) rfl
theorem lk_RX2_81 : lkV RX2 81 yX2_readEnd RX2 cX2_readEnd 1 (some .boolean) 0 := ⟨wd_189, wd_188, wd_190, wd_191, wd_149, ⟨rfl, by decide +kernel, by decide +kernel, by decide +kernel⟩⟩
theorem wd_192 : Cond.methodLink RX2 49 yX2_readPromise ∈ wsA := mA (tA2 (List.mem_of_getElem? (i := 52) rfl)) rfl
theorem wd_193 : Cond.code yX2_readPromise cX2_readPromise 2 (some .boolean) ∈ wsA := mA (tA2 (List.mem_of_getElem? (i := 55) rfl)) rfl
theorem wd_194 : Cond.instanceMethod yX2_readPromise ∈ wsA := mA (tA2 (List.mem_of_getElem? (i := 54) rfl)) rfl
theorem wd_195 : Cond.selects RX2 yX2_readPromise yX2_readPromise ∈ wsA := mA (tS (q := (yX2_readPromise, 4)) (tP1 (List.mem_of_getElem? (i := 5) rfl))) rfl
theorem lk_RX2_49 : lkV RX2 49 yX2_readPromise RX2 cX2_readPromise 2 (some .boolean) 0 := ⟨wd_193, wd_192, wd_194, wd_195, wd_149, ⟨rfl, by decide +kernel, by decide +kernel, by decide +kernel⟩⟩
theorem wd_196 : Cond.methodLink RX2 105 yX2_readWords ∈ wsA := mA (tA2 (List.mem_of_getElem? (i := 56) rfl)) rfl
theorem wd_197 : Cond.code yX2_readWords cX2_readWords 3 (some .boolean) ∈ wsA := mA (tA2 (List.mem_of_getElem? (i := 59) rfl)) rfl
theorem wd_198 : Cond.instanceMethod yX2_readWords ∈ wsA := mA (tA2 (List.mem_of_getElem? (i := 58) rfl)) rfl
theorem wd_199 : Cond.selects RX2 yX2_readWords yX2_readWords ∈ wsA := mA (tS (q := (yX2_readWords, 4)) (tP1 (List.mem_of_getElem? (i := 6) rfl))) rfl
theorem lk_RX2_105 : lkV RX2 105 yX2_readWords RX2 cX2_readWords 3 (some .boolean) 1 := ⟨wd_197, wd_196, wd_198, wd_199, wd_149, ⟨rfl, by decide +kernel, by decide +kernel, by decide +kernel⟩⟩
theorem wd_200 : Cond.methodLink RX2 52 yX2_readClash ∈ wsA := mA (tA2 (List.mem_of_getElem? (i := 60) rfl)) rfl
theorem wd_201 : Cond.code yX2_readClash cX2_readClash 3 (some .boolean) ∈ wsA := mA (tA2 (List.mem_of_getElem? (i := 63) rfl)) rfl
theorem wd_202 : Cond.instanceMethod yX2_readClash ∈ wsA := mA (tA2 (List.mem_of_getElem? (i := 62) rfl)) rfl
theorem wd_203 : Cond.selects RX2 yX2_readClash yX2_readClash ∈ wsA := mA (tS (q := (yX2_readClash, 4)) (tP1 (List.mem_of_getElem? (i := 7) rfl))) rfl
theorem lk_RX2_52 : lkV RX2 52 yX2_readClash RX2 cX2_readClash 3 (some .boolean) 0 := ⟨wd_201, wd_200, wd_202, wd_203, wd_149, ⟨rfl, by decide +kernel, by decide +kernel, by decide +kernel⟩⟩
theorem wd_204 : Cond.methodLink RX2 55 yX2_readAcid ∈ wsA := mA (tA2 (List.mem_of_getElem? (i := 64) rfl)) rfl
theorem wd_205 : Cond.code yX2_readAcid cX2_readAcid 1 (some .boolean) ∈ wsA := mA (tA2 (List.mem_of_getElem? (i := 67) rfl)) rfl
theorem wd_206 : Cond.instanceMethod yX2_readAcid ∈ wsA := mA (tA2 (List.mem_of_getElem? (i := 66) rfl)) rfl
theorem wd_207 : Cond.selects RX2 yX2_readAcid yX2_readAcid ∈ wsA := mA (tS (q := (yX2_readAcid, 4)) (tP1 (List.mem_of_getElem? (i := 8) rfl))) rfl
theorem lk_RX2_55 : lkV RX2 55 yX2_readAcid RX2 cX2_readAcid 1 (some .boolean) 0 := ⟨wd_205, wd_204, wd_206, wd_207, wd_149, ⟨rfl, by decide +kernel, by decide +kernel, by decide +kernel⟩⟩
theorem wd_208 : Cond.methodLink RX2 58 yX2_readSlide ∈ wsA := mA (tA2 (List.mem_of_getElem? (i := 68) rfl)) rfl
theorem wd_209 : Cond.code yX2_readSlide cX2_readSlide 1 (some .boolean) ∈ wsA := mA (tA2 (List.mem_of_getElem? (i := 71) rfl)) rfl
theorem wd_210 : Cond.instanceMethod yX2_readSlide ∈ wsA := mA (tA2 (List.mem_of_getElem? (i := 70) rfl)) rfl
theorem wd_211 : Cond.selects RX2 yX2_readSlide yX2_readSlide ∈ wsA := mA (tS (q := (yX2_readSlide, 4)) (tP1 (List.mem_of_getElem? (i := 9) rfl))) rfl
theorem lk_RX2_58 : lkV RX2 58 yX2_readSlide RX2 cX2_readSlide 1 (some .boolean) 0 := ⟨wd_209, wd_208, wd_210, wd_211, wd_149, ⟨rfl, by decide +kernel, by decide +kernel, by decide +kernel⟩⟩
theorem wd_212 : Cond.methodLink RX5 81 yX4_become ∈ wsA := mA (tA2 (List.mem_of_getElem? (i := 72) rfl)) rfl
theorem wd_213 : Cond.code yX4_become cX4_become 2 none ∈ wsA := mA (tA2 (List.mem_of_getElem? (i := 75) rfl)) rfl
theorem wd_214 : Cond.instanceMethod yX4_become ∈ wsA := mA (tA2 (List.mem_of_getElem? (i := 73) rfl)) rfl
theorem wd_215 : Cond.selects RX4 yX4_become yX4_become ∈ wsA := mA (tA2 (List.mem_of_getElem? (i := 74) rfl)) rfl
theorem lk_RX5_81 : lkV RX5 81 yX4_become RX4 cX4_become 2 none 1 := ⟨wd_213, wd_212, wd_214, wd_215, wd_154, ⟨rfl, by decide +kernel, by decide +kernel, by decide +kernel⟩⟩
theorem wd_216 : Cond.methodLink RX5 85 yX0_beginAgain ∈ wsA := mA (tA2 (List.mem_of_getElem? (i := 79) rfl)) rfl
theorem wd_217 : Cond.code yX0_beginAgain cX0_beginAgain 2 none ∈ wsA := mA (tA2 (List.mem_of_getElem? (i := 82) rfl)) rfl
theorem wd_218 : Cond.initialized RX0 ∈ wsA := mA (tA1 (List.mem_of_getElem? (i := 5) rfl)) rfl
theorem wd_219 : Cond.instanceMethod yX0_beginAgain ∈ wsA := mA (tA2 (List.mem_of_getElem? (i := 80) rfl)) rfl
theorem wd_220 : Cond.selects RX0 yX0_beginAgain yX0_beginAgain ∈ wsA := mA (tA2 (List.mem_of_getElem? (i := 81) rfl)) rfl
theorem lk_RX5_85 : lkV RX5 85 yX0_beginAgain RX0 cX0_beginAgain 2 none 0 := ⟨wd_217, wd_216, wd_219, wd_220, wd_218, ⟨rfl, by decide +kernel, by decide +kernel, by decide +kernel⟩⟩
theorem wd_221 : Cond.methodLink RX5 88 yX1_empty ∈ wsA := mA (tA2 (List.mem_of_getElem? (i := 83) rfl)) rfl
theorem wd_222 : Cond.code yX1_empty cX1_empty 1 none ∈ wsA := mA (tA2 (List.mem_of_getElem? (i := 86) rfl)) rfl
theorem wd_223 : Cond.initialized RX1 ∈ wsA := mA (tA1 (List.mem_of_getElem? (i := 6) rfl)) rfl
theorem wd_224 : Cond.instanceMethod yX1_empty ∈ wsA := mA (tA2 (List.mem_of_getElem? (i := 84) rfl)) rfl
theorem wd_225 : Cond.selects RX1 yX1_empty yX1_empty ∈ wsA := mA (tA2 (List.mem_of_getElem? (i := 85) rfl)) rfl
theorem lk_RX5_88 : lkV RX5 88 yX1_empty RX1 cX1_empty 1 none 0 := ⟨wd_222, wd_221, wd_224, wd_225, wd_223, ⟨rfl, by decide +kernel, by decide +kernel, by decide +kernel⟩⟩
theorem wd_226 : Cond.methodLink RL 27 yX5_person ∈ wsA := mA (tA2 (List.mem_of_getElem? (i := 87) rfl)) rfl
theorem wd_227 : Cond.code yX5_person cX5_person 3 (some .int) ∈ wsA := mA (tA2 (List.mem_of_getElem? (i := 90) rfl)) rfl
theorem wd_228 : Cond.instanceMethod yX5_person ∈ wsA := mA (tA2 (List.mem_of_getElem? (i := 88) rfl)) rfl
theorem wd_229 : Cond.selects RX5 yX5_person yX5_person ∈ wsA := mA (tA2 (List.mem_of_getElem? (i := 89) rfl)) rfl
theorem lk_RL_27 : lkV RL 27 yX5_person RX5 cX5_person 3 (some .int) 2 := ⟨wd_227, wd_226, wd_228, wd_229, wd_131, ⟨rfl, by decide +kernel, by decide +kernel, by decide +kernel⟩⟩
theorem wd_230 : Cond.methodLink RX5 91 yX4_hasPerson ∈ wsA := mA (tA2 (List.mem_of_getElem? (i := 91) rfl)) rfl
theorem wd_231 : Cond.code yX4_hasPerson cX4_hasPerson 2 (some .boolean) ∈ wsA := mA (tA2 (List.mem_of_getElem? (i := 94) rfl)) rfl
theorem wd_232 : Cond.instanceMethod yX4_hasPerson ∈ wsA := mA (tA2 (List.mem_of_getElem? (i := 92) rfl)) rfl
theorem wd_233 : Cond.selects RX4 yX4_hasPerson yX4_hasPerson ∈ wsA := mA (tA2 (List.mem_of_getElem? (i := 93) rfl)) rfl
theorem lk_RX5_91 : lkV RX5 91 yX4_hasPerson RX4 cX4_hasPerson 2 (some .boolean) 1 := ⟨wd_231, wd_230, wd_232, wd_233, wd_154, ⟨rfl, by decide +kernel, by decide +kernel, by decide +kernel⟩⟩
theorem wd_234 : Cond.methodLink RL 32 yX5_promise ∈ wsA := mA (tA2 (List.mem_of_getElem? (i := 95) rfl)) rfl
theorem wd_235 : Cond.code yX5_promise cX5_promise 3 (some .int) ∈ wsA := mA (tA2 (List.mem_of_getElem? (i := 98) rfl)) rfl
theorem wd_236 : Cond.instanceMethod yX5_promise ∈ wsA := mA (tA2 (List.mem_of_getElem? (i := 96) rfl)) rfl
theorem wd_237 : Cond.selects RX5 yX5_promise yX5_promise ∈ wsA := mA (tA2 (List.mem_of_getElem? (i := 97) rfl)) rfl
theorem lk_RL_32 : lkV RL 32 yX5_promise RX5 cX5_promise 3 (some .int) 2 := ⟨wd_235, wd_234, wd_236, wd_237, wd_131, ⟨rfl, by decide +kernel, by decide +kernel, by decide +kernel⟩⟩
theorem wd_238 : Cond.methodLink RX5 100 yX4_hasPromise ∈ wsA := mA (tA2 (List.mem_of_getElem? (i := 99) rfl)) rfl
theorem wd_239 : Cond.code yX4_hasPromise cX4_hasPromise 2 (some .boolean) ∈ wsA := mA (tA2 (List.mem_of_getElem? (i := 102) rfl)) rfl
theorem wd_240 : Cond.instanceMethod yX4_hasPromise ∈ wsA := mA (tA2 (List.mem_of_getElem? (i := 100) rfl)) rfl
theorem wd_241 : Cond.selects RX4 yX4_hasPromise yX4_hasPromise ∈ wsA := mA (tA2 (List.mem_of_getElem? (i := 101) rfl)) rfl
theorem lk_RX5_100 : lkV RX5 100 yX4_hasPromise RX4 cX4_hasPromise 2 (some .boolean) 1 := ⟨wd_239, wd_238, wd_240, wd_241, wd_154, ⟨rfl, by decide +kernel, by decide +kernel, by decide +kernel⟩⟩
theorem wd_242 : Cond.methodLink RL 36 yX5_word ∈ wsA := mA (tA2 (List.mem_of_getElem? (i := 103) rfl)) rfl
theorem wd_243 : Cond.code yX5_word cX5_word 3 (some .int) ∈ wsA := mA (tA2 (List.mem_of_getElem? (i := 106) rfl)) rfl
theorem wd_244 : Cond.instanceMethod yX5_word ∈ wsA := mA (tA2 (List.mem_of_getElem? (i := 104) rfl)) rfl
theorem wd_245 : Cond.selects RX5 yX5_word yX5_word ∈ wsA := mA (tA2 (List.mem_of_getElem? (i := 105) rfl)) rfl
theorem lk_RL_36 : lkV RL 36 yX5_word RX5 cX5_word 3 (some .int) 2 := ⟨wd_243, wd_242, wd_244, wd_245, wd_131, ⟨rfl, by decide +kernel, by decide +kernel, by decide +kernel⟩⟩
theorem wd_246 : Cond.methodLink RX5 127 yX5_leftIn ∈ wsA := mA (tA2 (List.mem_of_getElem? (i := 107) rfl)) rfl
theorem wd_247 : Cond.code yX5_leftIn cX5_leftIn 3 (some .int) ∈ wsA := mA (tA2 (List.mem_of_getElem? (i := 110) rfl)) rfl
theorem wd_248 : Cond.instanceMethod yX5_leftIn ∈ wsA := mA (tA2 (List.mem_of_getElem? (i := 109) rfl)) rfl
theorem wd_249 : Cond.selects RX5 yX5_leftIn yX5_leftIn ∈ wsA := mA (tS (q := (yX5_leftIn, 11)) (tP1 (List.mem_of_getElem? (i := 10) rfl))) rfl
theorem lk_RX5_127 : lkV RX5 127 yX5_leftIn RX5 cX5_leftIn 3 (some .int) 2 := ⟨wd_247, wd_246, wd_248, wd_249, wd_131, ⟨rfl, by decide +kernel, by decide +kernel, by decide +kernel⟩⟩
theorem wd_250 : Cond.methodLink RX5 202 yX5_lyingLeft ∈ wsA := mA (tA2 (List.mem_of_getElem? (i := 111) rfl)) rfl
theorem wd_251 : Cond.code yX5_lyingLeft cX5_lyingLeft 6 (some .int) ∈ wsA := mA (tA2 (List.mem_of_getElem? (i := 114) rfl)) rfl
theorem wd_252 : Cond.instanceMethod yX5_lyingLeft ∈ wsA := mA (tA2 (List.mem_of_getElem? (i := 113) rfl)) rfl
theorem wd_253 : Cond.selects RX5 yX5_lyingLeft yX5_lyingLeft ∈ wsA := mA (tS (q := (yX5_lyingLeft, 11)) (tP1 (List.mem_of_getElem? (i := 11) rfl))) rfl
theorem lk_RX5_202 : lkV RX5 202 yX5_lyingLeft RX5 cX5_lyingLeft 6 (some .int) 4 := ⟨wd_251, wd_250, wd_252, wd_253, wd_131, ⟨rfl, by decide +kernel, by decide +kernel, by decide +kernel⟩⟩
theorem wd_254 : Cond.methodLink RX5 269 Lib.Math.max.name ∈ wsA := mA (tA2 (List.mem_of_getElem? (i := 115) rfl)) rfl
theorem wd_255 : Cond.code Lib.Math.max.name Lib.Math.max.code 2 (some .int) ∈ wsA := mA (tA2 (List.mem_of_getElem? (i := 117) rfl)) rfl
theorem wd_256 : Cond.static Lib.Math.max.name ∈ wsA := mA (tA2 (List.mem_of_getElem? (i := 116) rfl)) rfl
theorem wd_257 : Cond.methodLink RX5 131 yX4_wordAt ∈ wsA := mA (tA2 (List.mem_of_getElem? (i := 118) rfl)) rfl
theorem wd_258 : Cond.code yX4_wordAt cX4_wordAt 3 (some .int) ∈ wsA := mA (tA2 (List.mem_of_getElem? (i := 121) rfl)) rfl
theorem wd_259 : Cond.instanceMethod yX4_wordAt ∈ wsA := mA (tA2 (List.mem_of_getElem? (i := 119) rfl)) rfl
theorem wd_260 : Cond.selects RX4 yX4_wordAt yX4_wordAt ∈ wsA := mA (tA2 (List.mem_of_getElem? (i := 120) rfl)) rfl
theorem lk_RX5_131 : lkV RX5 131 yX4_wordAt RX4 cX4_wordAt 3 (some .int) 2 := ⟨wd_258, wd_257, wd_259, wd_260, wd_154, ⟨rfl, by decide +kernel, by decide +kernel, by decide +kernel⟩⟩
theorem wd_261 : Cond.methodLink RX4 61 yX4_hasPromise ∈ wsA := mA (tA2 (List.mem_of_getElem? (i := 122) rfl)) rfl
theorem lk_RX4_61 : lkV RX4 61 yX4_hasPromise RX4 cX4_hasPromise 2 (some .boolean) 1 := ⟨wd_239, wd_261, wd_240, wd_241, wd_154, ⟨rfl, by decide +kernel, by decide +kernel, by decide +kernel⟩⟩
theorem wd_262 : Cond.methodLink RL 40 yX5_cell ∈ wsA := mA (tA2 (List.mem_of_getElem? (i := 123) rfl)) rfl
theorem wd_263 : Cond.code yX5_cell cX5_cell 3 (some .int) ∈ wsA := mA (tA2 (List.mem_of_getElem? (i := 126) rfl)) rfl
theorem wd_264 : Cond.instanceMethod yX5_cell ∈ wsA := mA (tA2 (List.mem_of_getElem? (i := 124) rfl)) rfl
theorem wd_265 : Cond.selects RX5 yX5_cell yX5_cell ∈ wsA := mA (tA2 (List.mem_of_getElem? (i := 125) rfl)) rfl
theorem lk_RL_40 : lkV RL 40 yX5_cell RX5 cX5_cell 3 (some .int) 2 := ⟨wd_263, wd_262, wd_264, wd_265, wd_131, ⟨rfl, by decide +kernel, by decide +kernel, by decide +kernel⟩⟩
theorem wd_266 : Cond.methodLink RX5 134 yX5_isCell ∈ wsA := mA (tA2 (List.mem_of_getElem? (i := 127) rfl)) rfl
theorem wd_267 : Cond.code yX5_isCell cX5_isCell 1 (some .boolean) ∈ wsA := mA (tA2 (List.mem_of_getElem? (i := 129) rfl)) rfl
theorem wd_268 : Cond.static yX5_isCell ∈ wsA := mA (tA2 (List.mem_of_getElem? (i := 128) rfl)) rfl
theorem lk_RX5_134 : lkS RX5 134 yX5_isCell cX5_isCell 1 (some .boolean) 1 := ⟨wd_267, wd_266, wd_268, wd_131, ⟨by decide +kernel, by decide +kernel, by decide +kernel⟩⟩
theorem wd_269 : Cond.methodLink RX5 143 yX5_lyingIn ∈ wsA := mA (tA2 (List.mem_of_getElem? (i := 130) rfl)) rfl
theorem wd_270 : Cond.code yX5_lyingIn cX5_lyingIn 4 (some .int) ∈ wsA := mA (tA2 (List.mem_of_getElem? (i := 133) rfl)) rfl
theorem wd_271 : Cond.instanceMethod yX5_lyingIn ∈ wsA := mA (tA2 (List.mem_of_getElem? (i := 132) rfl)) rfl
theorem wd_272 : Cond.selects RX5 yX5_lyingIn yX5_lyingIn ∈ wsA := mA (tS (q := (yX5_lyingIn, 11)) (tP1 (List.mem_of_getElem? (i := 12) rfl))) rfl
theorem lk_RX5_143 : lkV RX5 143 yX5_lyingIn RX5 cX5_lyingIn 4 (some .int) 1 := ⟨wd_270, wd_269, wd_271, wd_272, wd_131, ⟨rfl, by decide +kernel, by decide +kernel, by decide +kernel⟩⟩
theorem wd_273 : Cond.methodLink RX5 163 yX5_liesIn ∈ wsA := mA (tA2 (List.mem_of_getElem? (i := 134) rfl)) rfl
theorem wd_274 : Cond.code yX5_liesIn cX5_liesIn 3 (some .boolean) ∈ wsA := mA (tA2 (List.mem_of_getElem? (i := 137) rfl)) rfl
theorem wd_275 : Cond.instanceMethod yX5_liesIn ∈ wsA := mA (tA2 (List.mem_of_getElem? (i := 136) rfl)) rfl
theorem wd_276 : Cond.selects RX5 yX5_liesIn yX5_liesIn ∈ wsA := mA (tS (q := (yX5_liesIn, 11)) (tP1 (List.mem_of_getElem? (i := 13) rfl))) rfl
theorem lk_RX5_163 : lkV RX5 163 yX5_liesIn RX5 cX5_liesIn 3 (some .boolean) 2 := ⟨wd_274, wd_273, wd_275, wd_276, wd_131, ⟨rfl, by decide +kernel, by decide +kernel, by decide +kernel⟩⟩
theorem wd_277 : Cond.methodLink RX5 190 yX5_isNow ∈ wsA := mA (tA2 (List.mem_of_getElem? (i := 138) rfl)) rfl
theorem wd_278 : Cond.code yX5_isNow cX5_isNow 3 (some .boolean) ∈ wsA := mA (tA2 (List.mem_of_getElem? (i := 141) rfl)) rfl
theorem wd_279 : Cond.instanceMethod yX5_isNow ∈ wsA := mA (tA2 (List.mem_of_getElem? (i := 140) rfl)) rfl
theorem wd_280 : Cond.selects RX5 yX5_isNow yX5_isNow ∈ wsA := mA (tS (q := (yX5_isNow, 11)) (tP1 (List.mem_of_getElem? (i := 14) rfl))) rfl
theorem lk_RX5_190 : lkV RX5 190 yX5_isNow RX5 cX5_isNow 3 (some .boolean) 2 := ⟨wd_278, wd_277, wd_279, wd_280, wd_131, ⟨rfl, by decide +kernel, by decide +kernel, by decide +kernel⟩⟩
theorem wd_281 : Cond.methodLink RX5 147 yX5_firstSlide ∈ wsA := mA (tA2 (List.mem_of_getElem? (i := 142) rfl)) rfl
theorem wd_282 : Cond.code yX5_firstSlide cX5_firstSlide 3 (some .int) ∈ wsA := mA (tA2 (List.mem_of_getElem? (i := 145) rfl)) rfl
theorem wd_283 : Cond.instanceMethod yX5_firstSlide ∈ wsA := mA (tA2 (List.mem_of_getElem? (i := 144) rfl)) rfl
theorem wd_284 : Cond.selects RX5 yX5_firstSlide yX5_firstSlide ∈ wsA := mA (tS (q := (yX5_firstSlide, 11)) (tP1 (List.mem_of_getElem? (i := 15) rfl))) rfl
theorem lk_RX5_147 : lkV RX5 147 yX5_firstSlide RX5 cX5_firstSlide 3 (some .int) 1 := ⟨wd_282, wd_281, wd_283, wd_284, wd_131, ⟨rfl, by decide +kernel, by decide +kernel, by decide +kernel⟩⟩
theorem wd_285 : Cond.methodLink RX5 276 yX5_beginWetThen ∈ wsA := mA (tA2 (List.mem_of_getElem? (i := 146) rfl)) rfl
theorem wd_286 : Cond.code yX5_beginWetThen cX5_beginWetThen 3 none ∈ wsA := mA (tA2 (List.mem_of_getElem? (i := 149) rfl)) rfl
theorem wd_287 : Cond.instanceMethod yX5_beginWetThen ∈ wsA := mA (tA2 (List.mem_of_getElem? (i := 148) rfl)) rfl
theorem wd_288 : Cond.selects RX5 yX5_beginWetThen yX5_beginWetThen ∈ wsA := mA (tS (q := (yX5_beginWetThen, 11)) (tP2 (List.mem_of_getElem? (i := 0) rfl))) rfl
theorem lk_RX5_276 : lkV RX5 276 yX5_beginWetThen RX5 cX5_beginWetThen 3 none 1 := ⟨wd_286, wd_285, wd_287, wd_288, wd_131, ⟨rfl, by decide +kernel, by decide +kernel, by decide +kernel⟩⟩
theorem wd_289 : Cond.methodLink RX5 193 yX5_holds ∈ wsA := mA (tA2 (List.mem_of_getElem? (i := 150) rfl)) rfl
theorem wd_290 : Cond.code yX5_holds cX5_holds 2 (some .boolean) ∈ wsA := mA (tA2 (List.mem_of_getElem? (i := 152) rfl)) rfl
theorem wd_291 : Cond.static yX5_holds ∈ wsA := mA (tA2 (List.mem_of_getElem? (i := 151) rfl)) rfl
theorem lk_RX5_193 : lkS RX5 193 yX5_holds cX5_holds 2 (some .boolean) 2 := ⟨wd_290, wd_289, wd_291, wd_131, ⟨by decide +kernel, by decide +kernel, by decide +kernel⟩⟩
theorem wd_292 : Cond.methodLink RX5 186 yX5_letYearPass ∈ wsA := mA (tA2 (List.mem_of_getElem? (i := 153) rfl)) rfl
theorem wd_293 : Cond.code yX5_letYearPass cX5_letYearPass 4 (some .int) ∈ wsA := mA (tA2 (List.mem_of_getElem? (i := 156) rfl)) rfl
theorem wd_294 : Cond.instanceMethod yX5_letYearPass ∈ wsA := mA (tA2 (List.mem_of_getElem? (i := 155) rfl)) rfl
theorem wd_295 : Cond.selects RX5 yX5_letYearPass yX5_letYearPass ∈ wsA := mA (tS (q := (yX5_letYearPass, 11)) (tP2 (List.mem_of_getElem? (i := 1) rfl))) rfl
theorem lk_RX5_186 : lkV RX5 186 yX5_letYearPass RX5 cX5_letYearPass 4 (some .int) 1 := ⟨wd_293, wd_292, wd_294, wd_295, wd_131, ⟨rfl, by decide +kernel, by decide +kernel, by decide +kernel⟩⟩
theorem wd_296 : Cond.methodLink RX5 173 Lib.Math.min.name ∈ wsA := mA (tA2 (List.mem_of_getElem? (i := 157) rfl)) rfl
theorem wd_297 : Cond.methodLink RX5 272 yX5_wetAround ∈ wsA := mA (tA2 (List.mem_of_getElem? (i := 158) rfl)) rfl
theorem wd_298 : Cond.code yX5_wetAround cX5_wetAround 4 (some .int) ∈ wsA := mA (tA2 (List.mem_of_getElem? (i := 160) rfl)) rfl
theorem wd_299 : Cond.static yX5_wetAround ∈ wsA := mA (tA2 (List.mem_of_getElem? (i := 159) rfl)) rfl
theorem lk_RX5_272 : lkS RX5 272 yX5_wetAround cX5_wetAround 4 (some .int) 2 := ⟨wd_298, wd_297, wd_299, wd_131, ⟨by decide +kernel, by decide +kernel, by decide +kernel⟩⟩
theorem wd_300 : Cond.methodLink RL 44 yX5_now ∈ wsA := mA (tA2 (List.mem_of_getElem? (i := 161) rfl)) rfl
theorem wd_301 : Cond.code yX5_now cX5_now 2 (some .int) ∈ wsA := mA (tA2 (List.mem_of_getElem? (i := 164) rfl)) rfl
theorem wd_302 : Cond.instanceMethod yX5_now ∈ wsA := mA (tA2 (List.mem_of_getElem? (i := 162) rfl)) rfl
theorem wd_303 : Cond.selects RX5 yX5_now yX5_now ∈ wsA := mA (tA2 (List.mem_of_getElem? (i := 163) rfl)) rfl
theorem lk_RL_44 : lkV RL 44 yX5_now RX5 cX5_now 2 (some .int) 1 := ⟨wd_301, wd_300, wd_302, wd_303, wd_131, ⟨rfl, by decide +kernel, by decide +kernel, by decide +kernel⟩⟩
theorem wd_304 : Cond.methodLink RX5 153 yX5_thoseThatAre ∈ wsA := mA (tA2 (List.mem_of_getElem? (i := 165) rfl)) rfl
theorem wd_305 : Cond.code yX5_thoseThatAre cX5_thoseThatAre 4 (some .int) ∈ wsA := mA (tA2 (List.mem_of_getElem? (i := 168) rfl)) rfl
theorem wd_306 : Cond.instanceMethod yX5_thoseThatAre ∈ wsA := mA (tA2 (List.mem_of_getElem? (i := 167) rfl)) rfl
theorem wd_307 : Cond.selects RX5 yX5_thoseThatAre yX5_thoseThatAre ∈ wsA := mA (tS (q := (yX5_thoseThatAre, 11)) (tP2 (List.mem_of_getElem? (i := 2) rfl))) rfl
theorem lk_RX5_153 : lkV RX5 153 yX5_thoseThatAre RX5 cX5_thoseThatAre 4 (some .int) 1 := ⟨wd_305, wd_304, wd_306, wd_307, wd_131, ⟨rfl, by decide +kernel, by decide +kernel, by decide +kernel⟩⟩
theorem wd_308 : Cond.methodLink RL 48 yX5_cuts ∈ wsA := mA (tA2 (List.mem_of_getElem? (i := 169) rfl)) rfl
theorem wd_309 : Cond.code yX5_cuts cX5_cuts 4 (some .int) ∈ wsA := mA (tA2 (List.mem_of_getElem? (i := 172) rfl)) rfl
theorem wd_310 : Cond.instanceMethod yX5_cuts ∈ wsA := mA (tA2 (List.mem_of_getElem? (i := 170) rfl)) rfl
theorem wd_311 : Cond.selects RX5 yX5_cuts yX5_cuts ∈ wsA := mA (tA2 (List.mem_of_getElem? (i := 171) rfl)) rfl
theorem lk_RL_48 : lkV RL 48 yX5_cuts RX5 cX5_cuts 4 (some .int) 1 := ⟨wd_309, wd_308, wd_310, wd_311, wd_131, ⟨rfl, by decide +kernel, by decide +kernel, by decide +kernel⟩⟩
theorem wd_312 : Cond.methodLink RX5 159 yX1_remember ∈ wsA := mA (tA2 (List.mem_of_getElem? (i := 173) rfl)) rfl
theorem wd_313 : Cond.code yX1_remember cX1_remember 2 none ∈ wsA := mA (tA2 (List.mem_of_getElem? (i := 176) rfl)) rfl
theorem wd_314 : Cond.instanceMethod yX1_remember ∈ wsA := mA (tA2 (List.mem_of_getElem? (i := 174) rfl)) rfl
theorem wd_315 : Cond.selects RX1 yX1_remember yX1_remember ∈ wsA := mA (tA2 (List.mem_of_getElem? (i := 175) rfl)) rfl
theorem lk_RX5_159 : lkV RX5 159 yX1_remember RX1 cX1_remember 2 none 1 := ⟨wd_313, wd_312, wd_314, wd_315, wd_223, ⟨rfl, by decide +kernel, by decide +kernel, by decide +kernel⟩⟩
theorem wd_316 : Cond.methodLink RX1 25 yX0_become ∈ wsA := mA (tA2 (List.mem_of_getElem? (i := 177) rfl)) rfl
theorem wd_317 : Cond.code yX0_become cX0_become 2 none ∈ wsA := mA (tA2 (List.mem_of_getElem? (i := 180) rfl)) rfl
theorem wd_318 : Cond.instanceMethod yX0_become ∈ wsA := mA (tA2 (List.mem_of_getElem? (i := 178) rfl)) rfl
theorem wd_319 : Cond.selects RX0 yX0_become yX0_become ∈ wsA := mA (tA2 (List.mem_of_getElem? (i := 179) rfl)) rfl
theorem lk_RX1_25 : lkV RX1 25 yX0_become RX0 cX0_become 2 none 1 := ⟨wd_317, wd_316, wd_318, wd_319, wd_218, ⟨rfl, by decide +kernel, by decide +kernel, by decide +kernel⟩⟩
theorem wd_320 : Cond.methodLink RX1 29 Lib.Math.min.name ∈ wsA := mA (tA2 (List.mem_of_getElem? (i := 182) rfl)) rfl
theorem wd_321 : Cond.methodLink RL 52 yX5_drains ∈ wsA := mA (tA2 (List.mem_of_getElem? (i := 183) rfl)) rfl
theorem wd_322 : Cond.code yX5_drains cX5_drains 4 (some .int) ∈ wsA := mA (tA2 (List.mem_of_getElem? (i := 186) rfl)) rfl
theorem wd_323 : Cond.instanceMethod yX5_drains ∈ wsA := mA (tA2 (List.mem_of_getElem? (i := 184) rfl)) rfl
theorem wd_324 : Cond.selects RX5 yX5_drains yX5_drains ∈ wsA := mA (tA2 (List.mem_of_getElem? (i := 185) rfl)) rfl
theorem lk_RL_52 : lkV RL 52 yX5_drains RX5 cX5_drains 4 (some .int) 1 := ⟨wd_322, wd_321, wd_323, wd_324, wd_131, ⟨rfl, by decide +kernel, by decide +kernel, by decide +kernel⟩⟩
theorem wd_325 : Cond.methodLink RL 56 yX5_does ∈ wsA := mA (tA2 (List.mem_of_getElem? (i := 187) rfl)) rfl
theorem wd_326 : Cond.code yX5_does cX5_does 2 (some .int) ∈ wsA := mA (tA2 (List.mem_of_getElem? (i := 190) rfl)) rfl
theorem wd_327 : Cond.instanceMethod yX5_does ∈ wsA := mA (tA2 (List.mem_of_getElem? (i := 188) rfl)) rfl
theorem wd_328 : Cond.selects RX5 yX5_does yX5_does ∈ wsA := mA (tA2 (List.mem_of_getElem? (i := 189) rfl)) rfl
theorem lk_RL_56 : lkV RL 56 yX5_does RX5 cX5_does 2 (some .int) 1 := ⟨wd_326, wd_325, wd_327, wd_328, wd_131, ⟨rfl, by decide +kernel, by decide +kernel, by decide +kernel⟩⟩
theorem wd_329 : Cond.methodLink RX5 178 yX5_mayBeDone ∈ wsA := mA (tA2 (List.mem_of_getElem? (i := 191) rfl)) rfl
theorem wd_330 : Cond.code yX5_mayBeDone cX5_mayBeDone 3 (some .boolean) ∈ wsA := mA (tA2 (List.mem_of_getElem? (i := 194) rfl)) rfl
theorem wd_331 : Cond.instanceMethod yX5_mayBeDone ∈ wsA := mA (tA2 (List.mem_of_getElem? (i := 193) rfl)) rfl
theorem wd_332 : Cond.selects RX5 yX5_mayBeDone yX5_mayBeDone ∈ wsA := mA (tS (q := (yX5_mayBeDone, 11)) (tP2 (List.mem_of_getElem? (i := 3) rfl))) rfl
theorem lk_RX5_178 : lkV RX5 178 yX5_mayBeDone RX5 cX5_mayBeDone 3 (some .boolean) 2 := ⟨wd_330, wd_329, wd_331, wd_332, wd_131, ⟨rfl, by decide +kernel, by decide +kernel, by decide +kernel⟩⟩
theorem wd_333 : Cond.methodLink RX5 181 yJ6_bitCount_0f7a4 ∈ wsA := mA (tA2 (List.mem_of_getElem? (i := 195) rfl)) rfl
theorem wd_334 : Cond.code yJ6_bitCount_0f7a4 cJ6_bitCount_0f7a4 1 (some .int) ∈ wsA := mA (tA2 (List.mem_of_getElem? (i := 197) rfl)) rfl
theorem wd_335 : Cond.initialized RJ6 ∈ wsA := mA (tA1 (List.mem_of_getElem? (i := 10) rfl)) rfl
theorem wd_336 : Cond.static yJ6_bitCount_0f7a4 ∈ wsA := mA (tA2 (List.mem_of_getElem? (i := 196) rfl)) rfl
theorem lk_RX5_181 : lkS RX5 181 yJ6_bitCount_0f7a4 cJ6_bitCount_0f7a4 1 (some .int) 1 := ⟨wd_334, wd_333, wd_336, wd_335, ⟨by decide +kernel, by decide +kernel, by decide +kernel⟩⟩
theorem wd_337 : Cond.methodLink RL 60 yX5_year ∈ wsA := mA (tA2 (List.mem_of_getElem? (i := 201) rfl)) rfl
theorem wd_338 : Cond.code yX5_year cX5_year 4 (some .int) ∈ wsA := mA (tA2 (List.mem_of_getElem? (i := 204) rfl)) rfl
theorem wd_339 : Cond.instanceMethod yX5_year ∈ wsA := mA (tA2 (List.mem_of_getElem? (i := 202) rfl)) rfl
theorem wd_340 : Cond.selects RX5 yX5_year yX5_year ∈ wsA := mA (tA2 (List.mem_of_getElem? (i := 203) rfl)) rfl
theorem lk_RL_60 : lkV RL 60 yX5_year RX5 cX5_year 4 (some .int) 0 := ⟨wd_338, wd_337, wd_339, wd_340, wd_131, ⟨rfl, by decide +kernel, by decide +kernel, by decide +kernel⟩⟩
theorem wd_341 : Cond.methodLink RL 64 yX5_undo ∈ wsA := mA (tA2 (List.mem_of_getElem? (i := 205) rfl)) rfl
theorem wd_342 : Cond.code yX5_undo cX5_undo 1 (some .int) ∈ wsA := mA (tA2 (List.mem_of_getElem? (i := 208) rfl)) rfl
theorem wd_343 : Cond.instanceMethod yX5_undo ∈ wsA := mA (tA2 (List.mem_of_getElem? (i := 206) rfl)) rfl
theorem wd_344 : Cond.selects RX5 yX5_undo yX5_undo ∈ wsA := mA (tA2 (List.mem_of_getElem? (i := 207) rfl)) rfl
theorem lk_RL_64 : lkV RL 64 yX5_undo RX5 cX5_undo 1 (some .int) 0 := ⟨wd_342, wd_341, wd_343, wd_344, wd_131, ⟨rfl, by decide +kernel, by decide +kernel, by decide +kernel⟩⟩
theorem wd_345 : Cond.methodLink RX5 196 yX1_giveBack ∈ wsA := mA (tA2 (List.mem_of_getElem? (i := 209) rfl)) rfl
theorem wd_346 : Cond.code yX1_giveBack cX1_giveBack 3 none ∈ wsA := mA (tA2 (List.mem_of_getElem? (i := 212) rfl)) rfl
theorem wd_347 : Cond.instanceMethod yX1_giveBack ∈ wsA := mA (tA2 (List.mem_of_getElem? (i := 210) rfl)) rfl
theorem wd_348 : Cond.selects RX1 yX1_giveBack yX1_giveBack ∈ wsA := mA (tA2 (List.mem_of_getElem? (i := 211) rfl)) rfl
theorem lk_RX5_196 : lkV RX5 196 yX1_giveBack RX1 cX1_giveBack 3 none 1 := ⟨wd_346, wd_345, wd_347, wd_348, wd_223, ⟨rfl, by decide +kernel, by decide +kernel, by decide +kernel⟩⟩
theorem wd_349 : Cond.methodLink RL 68 yX5_left ∈ wsA := mA (tA2 (List.mem_of_getElem? (i := 213) rfl)) rfl
theorem wd_350 : Cond.code yX5_left cX5_left 3 (some .int) ∈ wsA := mA (tA2 (List.mem_of_getElem? (i := 216) rfl)) rfl
theorem wd_351 : Cond.instanceMethod yX5_left ∈ wsA := mA (tA2 (List.mem_of_getElem? (i := 214) rfl)) rfl
theorem wd_352 : Cond.selects RX5 yX5_left yX5_left ∈ wsA := mA (tA2 (List.mem_of_getElem? (i := 215) rfl)) rfl
theorem lk_RL_68 : lkV RL 68 yX5_left RX5 cX5_left 3 (some .int) 2 := ⟨wd_350, wd_349, wd_351, wd_352, wd_131, ⟨rfl, by decide +kernel, by decide +kernel, by decide +kernel⟩⟩
theorem wd_353 : Cond.methodLink RX5 199 yX5_isToldYear ∈ wsA := mA (tA2 (List.mem_of_getElem? (i := 217) rfl)) rfl
theorem wd_354 : Cond.code yX5_isToldYear cX5_isToldYear 1 (some .boolean) ∈ wsA := mA (tA2 (List.mem_of_getElem? (i := 219) rfl)) rfl
theorem wd_355 : Cond.static yX5_isToldYear ∈ wsA := mA (tA2 (List.mem_of_getElem? (i := 218) rfl)) rfl
theorem lk_RX5_199 : lkS RX5 199 yX5_isToldYear cX5_isToldYear 1 (some .boolean) 1 := ⟨wd_354, wd_353, wd_355, wd_131, ⟨by decide +kernel, by decide +kernel, by decide +kernel⟩⟩
theorem wd_356 : Cond.methodLink RL 72 yX5_lasts ∈ wsA := mA (tA2 (List.mem_of_getElem? (i := 220) rfl)) rfl
theorem wd_357 : Cond.code yX5_lasts cX5_lasts 5 (some .int) ∈ wsA := mA (tA2 (List.mem_of_getElem? (i := 223) rfl)) rfl
theorem wd_358 : Cond.instanceMethod yX5_lasts ∈ wsA := mA (tA2 (List.mem_of_getElem? (i := 221) rfl)) rfl
theorem wd_359 : Cond.selects RX5 yX5_lasts yX5_lasts ∈ wsA := mA (tA2 (List.mem_of_getElem? (i := 222) rfl)) rfl
theorem lk_RL_72 : lkV RL 72 yX5_lasts RX5 cX5_lasts 5 (some .int) 3 := ⟨wd_357, wd_356, wd_358, wd_359, wd_131, ⟨rfl, by decide +kernel, by decide +kernel, by decide +kernel⟩⟩
theorem wd_360 : Cond.methodLink RL 77 yX5_duty ∈ wsA := mA (tA2 (List.mem_of_getElem? (i := 224) rfl)) rfl
theorem wd_361 : Cond.code yX5_duty cX5_duty 5 (some .int) ∈ wsA := mA (tA2 (List.mem_of_getElem? (i := 227) rfl)) rfl
theorem wd_362 : Cond.instanceMethod yX5_duty ∈ wsA := mA (tA2 (List.mem_of_getElem? (i := 225) rfl)) rfl
theorem wd_363 : Cond.selects RX5 yX5_duty yX5_duty ∈ wsA := mA (tA2 (List.mem_of_getElem? (i := 226) rfl)) rfl
theorem lk_RL_77 : lkV RL 77 yX5_duty RX5 cX5_duty 5 (some .int) 2 := ⟨wd_361, wd_360, wd_362, wd_363, wd_131, ⟨rfl, by decide +kernel, by decide +kernel, by decide +kernel⟩⟩
theorem wd_364 : Cond.methodLink RL 81 yX5_sees ∈ wsA := mA (tA2 (List.mem_of_getElem? (i := 228) rfl)) rfl
theorem wd_365 : Cond.code yX5_sees cX5_sees 2 (some .int) ∈ wsA := mA (tA2 (List.mem_of_getElem? (i := 231) rfl)) rfl
theorem wd_366 : Cond.instanceMethod yX5_sees ∈ wsA := mA (tA2 (List.mem_of_getElem? (i := 229) rfl)) rfl
theorem wd_367 : Cond.selects RX5 yX5_sees yX5_sees ∈ wsA := mA (tA2 (List.mem_of_getElem? (i := 230) rfl)) rfl
theorem lk_RL_81 : lkV RL 81 yX5_sees RX5 cX5_sees 2 (some .int) 1 := ⟨wd_365, wd_364, wd_366, wd_367, wd_131, ⟨rfl, by decide +kernel, by decide +kernel, by decide +kernel⟩⟩
theorem wd_368 : Cond.methodLink RL 85 yX5_forget ∈ wsA := mA (tA2 (List.mem_of_getElem? (i := 232) rfl)) rfl
theorem wd_369 : Cond.code yX5_forget cX5_forget 2 (some .int) ∈ wsA := mA (tA2 (List.mem_of_getElem? (i := 235) rfl)) rfl
theorem wd_370 : Cond.instanceMethod yX5_forget ∈ wsA := mA (tA2 (List.mem_of_getElem? (i := 233) rfl)) rfl
theorem wd_371 : Cond.selects RX5 yX5_forget yX5_forget ∈ wsA := mA (tA2 (List.mem_of_getElem? (i := 234) rfl)) rfl
theorem lk_RL_85 : lkV RL 85 yX5_forget RX5 cX5_forget 2 (some .int) 0 := ⟨wd_369, wd_368, wd_370, wd_371, wd_131, ⟨rfl, by decide +kernel, by decide +kernel, by decide +kernel⟩⟩
theorem wd_372 : Cond.methodLink RL 89 yX5_fits ∈ wsA := mA (tA2 (List.mem_of_getElem? (i := 236) rfl)) rfl
theorem wd_373 : Cond.code yX5_fits cX5_fits 3 (some .int) ∈ wsA := mA (tA2 (List.mem_of_getElem? (i := 239) rfl)) rfl
theorem wd_374 : Cond.instanceMethod yX5_fits ∈ wsA := mA (tA2 (List.mem_of_getElem? (i := 237) rfl)) rfl
theorem wd_375 : Cond.selects RX5 yX5_fits yX5_fits ∈ wsA := mA (tA2 (List.mem_of_getElem? (i := 238) rfl)) rfl
theorem lk_RL_89 : lkV RL 89 yX5_fits RX5 cX5_fits 3 (some .int) 0 := ⟨wd_373, wd_372, wd_374, wd_375, wd_131, ⟨rfl, by decide +kernel, by decide +kernel, by decide +kernel⟩⟩
theorem wd_376 : Cond.methodLink RX5 206 yX5_beginsAsSeen ∈ wsA := mA (tA3 (List.mem_of_getElem? (i := 0) rfl)) rfl
theorem wd_377 : Cond.code yX5_beginsAsSeen cX5_beginsAsSeen 3 (some .boolean) ∈ wsA := mA (tA3 (List.mem_of_getElem? (i := 3) rfl)) rfl
theorem wd_378 : Cond.instanceMethod yX5_beginsAsSeen ∈ wsA := mA (tA3 (List.mem_of_getElem? (i := 2) rfl)) rfl
theorem wd_379 : Cond.selects RX5 yX5_beginsAsSeen yX5_beginsAsSeen ∈ wsA := mA (tS (q := (yX5_beginsAsSeen, 11)) (tP2 (List.mem_of_getElem? (i := 4) rfl))) rfl
theorem lk_RX5_206 : lkV RX5 206 yX5_beginsAsSeen RX5 cX5_beginsAsSeen 3 (some .boolean) 1 := ⟨wd_377, wd_376, wd_378, wd_379, wd_131, ⟨rfl, by decide +kernel, by decide +kernel, by decide +kernel⟩⟩
theorem wd_380 : Cond.methodLink RL 93 yX5_likely ∈ wsA := mA (tA3 (List.mem_of_getElem? (i := 4) rfl)) rfl
theorem wd_381 : Cond.code yX5_likely cX5_likely 4 (some .int) ∈ wsA := mA (tA3 (List.mem_of_getElem? (i := 7) rfl)) rfl
theorem wd_382 : Cond.instanceMethod yX5_likely ∈ wsA := mA (tA3 (List.mem_of_getElem? (i := 5) rfl)) rfl
theorem wd_383 : Cond.selects RX5 yX5_likely yX5_likely ∈ wsA := mA (tA3 (List.mem_of_getElem? (i := 6) rfl)) rfl
theorem lk_RL_93 : lkV RL 93 yX5_likely RX5 cX5_likely 4 (some .int) 0 := ⟨wd_381, wd_380, wd_382, wd_383, wd_131, ⟨rfl, by decide +kernel, by decide +kernel, by decide +kernel⟩⟩
theorem wd_384 : Cond.methodLink RL 97 yX5_kept ∈ wsA := mA (tA3 (List.mem_of_getElem? (i := 8) rfl)) rfl
theorem wd_385 : Cond.code yX5_kept cX5_kept 2 (some .int) ∈ wsA := mA (tA3 (List.mem_of_getElem? (i := 11) rfl)) rfl
theorem wd_386 : Cond.instanceMethod yX5_kept ∈ wsA := mA (tA3 (List.mem_of_getElem? (i := 9) rfl)) rfl
theorem wd_387 : Cond.selects RX5 yX5_kept yX5_kept ∈ wsA := mA (tA3 (List.mem_of_getElem? (i := 10) rfl)) rfl
theorem lk_RL_97 : lkV RL 97 yX5_kept RX5 cX5_kept 2 (some .int) 1 := ⟨wd_385, wd_384, wd_386, wd_387, wd_131, ⟨rfl, by decide +kernel, by decide +kernel, by decide +kernel⟩⟩
theorem wd_388 : Cond.methodLink RX5 209 yX5_bestKept ∈ wsA := mA (tA3 (List.mem_of_getElem? (i := 12) rfl)) rfl
theorem wd_389 : Cond.code yX5_bestKept cX5_bestKept 6 (some .int) ∈ wsA := mA (tA3 (List.mem_of_getElem? (i := 15) rfl)) rfl
theorem wd_390 : Cond.instanceMethod yX5_bestKept ∈ wsA := mA (tA3 (List.mem_of_getElem? (i := 14) rfl)) rfl
theorem wd_391 : Cond.selects RX5 yX5_bestKept yX5_bestKept ∈ wsA := mA (tS (q := (yX5_bestKept, 11)) (tP2 (List.mem_of_getElem? (i := 5) rfl))) rfl
theorem lk_RX5_209 : lkV RX5 209 yX5_bestKept RX5 cX5_bestKept 6 (some .int) 0 := ⟨wd_389, wd_388, wd_390, wd_391, wd_131, ⟨rfl, by decide +kernel, by decide +kernel, by decide +kernel⟩⟩
theorem wd_392 : Cond.methodLink RX5 280 yX5_clashesWithin ∈ wsA := mA (tA3 (List.mem_of_getElem? (i := 16) rfl)) rfl
theorem wd_393 : Cond.code yX5_clashesWithin cX5_clashesWithin 3 (some .boolean) ∈ wsA := mA (tA3 (List.mem_of_getElem? (i := 19) rfl)) rfl
theorem wd_394 : Cond.instanceMethod yX5_clashesWithin ∈ wsA := mA (tA3 (List.mem_of_getElem? (i := 18) rfl)) rfl
theorem wd_395 : Cond.selects RX5 yX5_clashesWithin yX5_clashesWithin ∈ wsA := mA (tS (q := (yX5_clashesWithin, 11)) (tP2 (List.mem_of_getElem? (i := 6) rfl))) rfl
theorem lk_RX5_280 : lkV RX5 280 yX5_clashesWithin RX5 cX5_clashesWithin 3 (some .boolean) 1 := ⟨wd_393, wd_392, wd_394, wd_395, wd_131, ⟨rfl, by decide +kernel, by decide +kernel, by decide +kernel⟩⟩
theorem wd_396 : Cond.methodLink RX5 212 yX5_wordsLeftOf ∈ wsA := mA (tA3 (List.mem_of_getElem? (i := 20) rfl)) rfl
theorem wd_397 : Cond.code yX5_wordsLeftOf cX5_wordsLeftOf 4 (some .int) ∈ wsA := mA (tA3 (List.mem_of_getElem? (i := 23) rfl)) rfl
theorem wd_398 : Cond.instanceMethod yX5_wordsLeftOf ∈ wsA := mA (tA3 (List.mem_of_getElem? (i := 22) rfl)) rfl
theorem wd_399 : Cond.selects RX5 yX5_wordsLeftOf yX5_wordsLeftOf ∈ wsA := mA (tS (q := (yX5_wordsLeftOf, 11)) (tP2 (List.mem_of_getElem? (i := 7) rfl))) rfl
theorem lk_RX5_212 : lkV RX5 212 yX5_wordsLeftOf RX5 cX5_wordsLeftOf 4 (some .int) 1 := ⟨wd_397, wd_396, wd_398, wd_399, wd_131, ⟨rfl, by decide +kernel, by decide +kernel, by decide +kernel⟩⟩
theorem wd_400 : Cond.methodLink RL 101 yX5_order ∈ wsA := mA (tA3 (List.mem_of_getElem? (i := 24) rfl)) rfl
theorem wd_401 : Cond.code yX5_order cX5_order 4 (some .int) ∈ wsA := mA (tA3 (List.mem_of_getElem? (i := 27) rfl)) rfl
theorem wd_402 : Cond.instanceMethod yX5_order ∈ wsA := mA (tA3 (List.mem_of_getElem? (i := 25) rfl)) rfl
theorem wd_403 : Cond.selects RX5 yX5_order yX5_order ∈ wsA := mA (tA3 (List.mem_of_getElem? (i := 26) rfl)) rfl
theorem lk_RL_101 : lkV RL 101 yX5_order RX5 cX5_order 4 (some .int) 1 := ⟨wd_401, wd_400, wd_402, wd_403, wd_131, ⟨rfl, by decide +kernel, by decide +kernel, by decide +kernel⟩⟩
theorem wd_404 : Cond.methodLink RX5 215 yX5_bestOrdered ∈ wsA := mA (tA3 (List.mem_of_getElem? (i := 28) rfl)) rfl
theorem wd_405 : Cond.code yX5_bestOrdered cX5_bestOrdered 4 (some .int) ∈ wsA := mA (tA3 (List.mem_of_getElem? (i := 31) rfl)) rfl
theorem wd_406 : Cond.instanceMethod yX5_bestOrdered ∈ wsA := mA (tA3 (List.mem_of_getElem? (i := 30) rfl)) rfl
theorem wd_407 : Cond.selects RX5 yX5_bestOrdered yX5_bestOrdered ∈ wsA := mA (tS (q := (yX5_bestOrdered, 11)) (tP2 (List.mem_of_getElem? (i := 8) rfl))) rfl
theorem lk_RX5_215 : lkV RX5 215 yX5_bestOrdered RX5 cX5_bestOrdered 4 (some .int) 0 := ⟨wd_405, wd_404, wd_406, wd_407, wd_131, ⟨rfl, by decide +kernel, by decide +kernel, by decide +kernel⟩⟩
theorem wd_408 : Cond.methodLink RX5 283 yX5_endsByDue ∈ wsA := mA (tA3 (List.mem_of_getElem? (i := 32) rfl)) rfl
theorem wd_409 : Cond.code yX5_endsByDue cX5_endsByDue 6 (some .boolean) ∈ wsA := mA (tA3 (List.mem_of_getElem? (i := 35) rfl)) rfl
theorem wd_410 : Cond.instanceMethod yX5_endsByDue ∈ wsA := mA (tA3 (List.mem_of_getElem? (i := 34) rfl)) rfl
theorem wd_411 : Cond.selects RX5 yX5_endsByDue yX5_endsByDue ∈ wsA := mA (tS (q := (yX5_endsByDue, 11)) (tP2 (List.mem_of_getElem? (i := 9) rfl))) rfl
theorem lk_RX5_283 : lkV RX5 283 yX5_endsByDue RX5 cX5_endsByDue 6 (some .boolean) 1 := ⟨wd_409, wd_408, wd_410, wd_411, wd_131, ⟨rfl, by decide +kernel, by decide +kernel, by decide +kernel⟩⟩
theorem wd_412 : Cond.methodLink RX5 218 yX5_earliestDue ∈ wsA := mA (tA3 (List.mem_of_getElem? (i := 36) rfl)) rfl
theorem wd_413 : Cond.code yX5_earliestDue cX5_earliestDue 5 (some .int) ∈ wsA := mA (tA3 (List.mem_of_getElem? (i := 39) rfl)) rfl
theorem wd_414 : Cond.instanceMethod yX5_earliestDue ∈ wsA := mA (tA3 (List.mem_of_getElem? (i := 38) rfl)) rfl
theorem wd_415 : Cond.selects RX5 yX5_earliestDue yX5_earliestDue ∈ wsA := mA (tS (q := (yX5_earliestDue, 11)) (tP2 (List.mem_of_getElem? (i := 10) rfl))) rfl
theorem lk_RX5_218 : lkV RX5 218 yX5_earliestDue RX5 cX5_earliestDue 5 (some .int) 1 := ⟨wd_413, wd_412, wd_414, wd_415, wd_131, ⟨rfl, by decide +kernel, by decide +kernel, by decide +kernel⟩⟩
theorem wd_416 : Cond.methodLink RX5 221 yX5_without ∈ wsA := mA (tA3 (List.mem_of_getElem? (i := 40) rfl)) rfl
theorem wd_417 : Cond.code yX5_without cX5_without 2 (some .int) ∈ wsA := mA (tA3 (List.mem_of_getElem? (i := 42) rfl)) rfl
theorem wd_418 : Cond.static yX5_without ∈ wsA := mA (tA3 (List.mem_of_getElem? (i := 41) rfl)) rfl
theorem lk_RX5_221 : lkS RX5 221 yX5_without cX5_without 2 (some .int) 2 := ⟨wd_417, wd_416, wd_418, wd_131, ⟨by decide +kernel, by decide +kernel, by decide +kernel⟩⟩
theorem wd_419 : Cond.methodLink RL 105 yX5_drain ∈ wsA := mA (tA3 (List.mem_of_getElem? (i := 43) rfl)) rfl
theorem wd_420 : Cond.code yX5_drain cX5_drain 5 (some .int) ∈ wsA := mA (tA3 (List.mem_of_getElem? (i := 46) rfl)) rfl
theorem wd_421 : Cond.instanceMethod yX5_drain ∈ wsA := mA (tA3 (List.mem_of_getElem? (i := 44) rfl)) rfl
theorem wd_422 : Cond.selects RX5 yX5_drain yX5_drain ∈ wsA := mA (tA3 (List.mem_of_getElem? (i := 45) rfl)) rfl
theorem lk_RL_105 : lkV RL 105 yX5_drain RX5 cX5_drain 5 (some .int) 1 := ⟨wd_420, wd_419, wd_421, wd_422, wd_131, ⟨rfl, by decide +kernel, by decide +kernel, by decide +kernel⟩⟩
theorem wd_423 : Cond.methodLink RX5 224 yX5_staysIfDry ∈ wsA := mA (tA3 (List.mem_of_getElem? (i := 47) rfl)) rfl
theorem wd_424 : Cond.code yX5_staysIfDry cX5_staysIfDry 4 (some .boolean) ∈ wsA := mA (tA3 (List.mem_of_getElem? (i := 50) rfl)) rfl
theorem wd_425 : Cond.instanceMethod yX5_staysIfDry ∈ wsA := mA (tA3 (List.mem_of_getElem? (i := 49) rfl)) rfl
theorem wd_426 : Cond.selects RX5 yX5_staysIfDry yX5_staysIfDry ∈ wsA := mA (tS (q := (yX5_staysIfDry, 11)) (tP2 (List.mem_of_getElem? (i := 11) rfl))) rfl
theorem lk_RX5_224 : lkV RX5 224 yX5_staysIfDry RX5 cX5_staysIfDry 4 (some .boolean) 2 := ⟨wd_424, wd_423, wd_425, wd_426, wd_131, ⟨rfl, by decide +kernel, by decide +kernel, by decide +kernel⟩⟩
theorem wd_427 : Cond.methodLink RL 109 yX5_odds ∈ wsA := mA (tA3 (List.mem_of_getElem? (i := 51) rfl)) rfl
theorem wd_428 : Cond.code yX5_odds cX5_odds 8 (some .int) ∈ wsA := mA (tA3 (List.mem_of_getElem? (i := 54) rfl)) rfl
theorem wd_429 : Cond.instanceMethod yX5_odds ∈ wsA := mA (tA3 (List.mem_of_getElem? (i := 52) rfl)) rfl
theorem wd_430 : Cond.selects RX5 yX5_odds yX5_odds ∈ wsA := mA (tA3 (List.mem_of_getElem? (i := 53) rfl)) rfl
theorem lk_RL_109 : lkV RL 109 yX5_odds RX5 cX5_odds 8 (some .int) 4 := ⟨wd_428, wd_427, wd_429, wd_430, wd_131, ⟨rfl, by decide +kernel, by decide +kernel, by decide +kernel⟩⟩
theorem wd_431 : Cond.methodLink RX5 227 yX5_choices ∈ wsA := mA (tA3 (List.mem_of_getElem? (i := 55) rfl)) rfl
theorem wd_432 : Cond.code yX5_choices cX5_choices 4 (some .int) ∈ wsA := mA (tA3 (List.mem_of_getElem? (i := 57) rfl)) rfl
theorem wd_433 : Cond.static yX5_choices ∈ wsA := mA (tA3 (List.mem_of_getElem? (i := 56) rfl)) rfl
theorem lk_RX5_227 : lkS RX5 227 yX5_choices cX5_choices 4 (some .int) 2 := ⟨wd_432, wd_431, wd_433, wd_131, ⟨by decide +kernel, by decide +kernel, by decide +kernel⟩⟩
theorem wd_434 : Cond.methodLink RX5 230 yX5_power ∈ wsA := mA (tA3 (List.mem_of_getElem? (i := 58) rfl)) rfl
theorem wd_435 : Cond.code yX5_power cX5_power 4 (some .int) ∈ wsA := mA (tA3 (List.mem_of_getElem? (i := 60) rfl)) rfl
theorem wd_436 : Cond.static yX5_power ∈ wsA := mA (tA3 (List.mem_of_getElem? (i := 59) rfl)) rfl
theorem lk_RX5_230 : lkS RX5 230 yX5_power cX5_power 4 (some .int) 2 := ⟨wd_435, wd_434, wd_436, wd_131, ⟨by decide +kernel, by decide +kernel, by decide +kernel⟩⟩
theorem wd_437 : Cond.methodLink RX5 233 yX5_commonDivisor ∈ wsA := mA (tA3 (List.mem_of_getElem? (i := 61) rfl)) rfl
theorem wd_438 : Cond.code yX5_commonDivisor cX5_commonDivisor 6 (some .int) ∈ wsA := mA (tA3 (List.mem_of_getElem? (i := 63) rfl)) rfl
theorem wd_439 : Cond.static yX5_commonDivisor ∈ wsA := mA (tA3 (List.mem_of_getElem? (i := 62) rfl)) rfl
theorem lk_RX5_233 : lkS RX5 233 yX5_commonDivisor cX5_commonDivisor 6 (some .int) 2 := ⟨wd_438, wd_437, wd_439, wd_131, ⟨by decide +kernel, by decide +kernel, by decide +kernel⟩⟩
theorem wd_440 : Cond.methodLink RL 114 yX5_rate ∈ wsA := mA (tA3 (List.mem_of_getElem? (i := 64) rfl)) rfl
theorem wd_441 : Cond.code yX5_rate cX5_rate 3 (some .int) ∈ wsA := mA (tA3 (List.mem_of_getElem? (i := 67) rfl)) rfl
theorem wd_442 : Cond.instanceMethod yX5_rate ∈ wsA := mA (tA3 (List.mem_of_getElem? (i := 65) rfl)) rfl
theorem wd_443 : Cond.selects RX5 yX5_rate yX5_rate ∈ wsA := mA (tA3 (List.mem_of_getElem? (i := 66) rfl)) rfl
theorem lk_RL_114 : lkV RL 114 yX5_rate RX5 cX5_rate 3 (some .int) 2 := ⟨wd_441, wd_440, wd_442, wd_443, wd_131, ⟨rfl, by decide +kernel, by decide +kernel, by decide +kernel⟩⟩
theorem wd_444 : Cond.methodLink RX5 237 yX5_asWord ∈ wsA := mA (tA3 (List.mem_of_getElem? (i := 69) rfl)) rfl
theorem wd_445 : Cond.code yX5_asWord cX5_asWord 2 (some .int) ∈ wsA := mA (tA3 (List.mem_of_getElem? (i := 72) rfl)) rfl
theorem wd_446 : Cond.instanceMethod yX5_asWord ∈ wsA := mA (tA3 (List.mem_of_getElem? (i := 71) rfl)) rfl
theorem wd_447 : Cond.selects RX5 yX5_asWord yX5_asWord ∈ wsA := mA (tS (q := (yX5_asWord, 11)) (tP2 (List.mem_of_getElem? (i := 12) rfl))) rfl
theorem lk_RX5_237 : lkV RX5 237 yX5_asWord RX5 cX5_asWord 2 (some .int) 1 := ⟨wd_445, wd_444, wd_446, wd_447, wd_131, ⟨rfl, by decide +kernel, by decide +kernel, by decide +kernel⟩⟩
theorem wd_448 : Cond.methodLink RX5 240 yX5_asVow ∈ wsA := mA (tA3 (List.mem_of_getElem? (i := 73) rfl)) rfl
theorem wd_449 : Cond.code yX5_asVow cX5_asVow 2 (some .int) ∈ wsA := mA (tA3 (List.mem_of_getElem? (i := 76) rfl)) rfl
theorem wd_450 : Cond.instanceMethod yX5_asVow ∈ wsA := mA (tA3 (List.mem_of_getElem? (i := 75) rfl)) rfl
theorem wd_451 : Cond.selects RX5 yX5_asVow yX5_asVow ∈ wsA := mA (tS (q := (yX5_asVow, 11)) (tP2 (List.mem_of_getElem? (i := 13) rfl))) rfl
theorem lk_RX5_240 : lkV RX5 240 yX5_asVow RX5 cX5_asVow 2 (some .int) 1 := ⟨wd_449, wd_448, wd_450, wd_451, wd_131, ⟨rfl, by decide +kernel, by decide +kernel, by decide +kernel⟩⟩
theorem wd_452 : Cond.methodLink RX5 243 yX5_asLoan ∈ wsA := mA (tA3 (List.mem_of_getElem? (i := 78) rfl)) rfl
theorem wd_453 : Cond.code yX5_asLoan cX5_asLoan 2 (some .int) ∈ wsA := mA (tA3 (List.mem_of_getElem? (i := 81) rfl)) rfl
theorem wd_454 : Cond.instanceMethod yX5_asLoan ∈ wsA := mA (tA3 (List.mem_of_getElem? (i := 80) rfl)) rfl
theorem wd_455 : Cond.selects RX5 yX5_asLoan yX5_asLoan ∈ wsA := mA (tS (q := (yX5_asLoan, 11)) (tP2 (List.mem_of_getElem? (i := 14) rfl))) rfl
theorem lk_RX5_243 : lkV RX5 243 yX5_asLoan RX5 cX5_asLoan 2 (some .int) 1 := ⟨wd_453, wd_452, wd_454, wd_455, wd_131, ⟨rfl, by decide +kernel, by decide +kernel, by decide +kernel⟩⟩
theorem wd_456 : Cond.methodLink RX5 246 yX5_asBride ∈ wsA := mA (tA3 (List.mem_of_getElem? (i := 83) rfl)) rfl
theorem wd_457 : Cond.code yX5_asBride cX5_asBride 2 (some .int) ∈ wsA := mA (tA3 (List.mem_of_getElem? (i := 86) rfl)) rfl
theorem wd_458 : Cond.instanceMethod yX5_asBride ∈ wsA := mA (tA3 (List.mem_of_getElem? (i := 85) rfl)) rfl
theorem wd_459 : Cond.selects RX5 yX5_asBride yX5_asBride ∈ wsA := mA (tS (q := (yX5_asBride, 11)) (tP2 (List.mem_of_getElem? (i := 15) rfl))) rfl
theorem lk_RX5_246 : lkV RX5 246 yX5_asBride RX5 cX5_asBride 2 (some .int) 1 := ⟨wd_457, wd_456, wd_458, wd_459, wd_131, ⟨rfl, by decide +kernel, by decide +kernel, by decide +kernel⟩⟩
theorem wd_460 : Cond.methodLink RX5 249 yX5_asOak ∈ wsA := mA (tA3 (List.mem_of_getElem? (i := 88) rfl)) rfl
theorem wd_461 : Cond.code yX5_asOak cX5_asOak 2 (some .int) ∈ wsA := mA (tA3 (List.mem_of_getElem? (i := 91) rfl)) rfl
theorem wd_462 : Cond.instanceMethod yX5_asOak ∈ wsA := mA (tA3 (List.mem_of_getElem? (i := 90) rfl)) rfl
theorem wd_463 : Cond.selects RX5 yX5_asOak yX5_asOak ∈ wsA := mA (tS (q := (yX5_asOak, 11)) (tP3 (List.mem_of_getElem? (i := 0) rfl))) rfl
theorem lk_RX5_249 : lkV RX5 249 yX5_asOak RX5 cX5_asOak 2 (some .int) 1 := ⟨wd_461, wd_460, wd_462, wd_463, wd_131, ⟨rfl, by decide +kernel, by decide +kernel, by decide +kernel⟩⟩
theorem wd_464 : Cond.methodLink RX5 252 yX5_asThumb ∈ wsA := mA (tA3 (List.mem_of_getElem? (i := 93) rfl)) rfl
theorem wd_465 : Cond.code yX5_asThumb cX5_asThumb 2 (some .int) ∈ wsA := mA (tA3 (List.mem_of_getElem? (i := 96) rfl)) rfl
theorem wd_466 : Cond.instanceMethod yX5_asThumb ∈ wsA := mA (tA3 (List.mem_of_getElem? (i := 95) rfl)) rfl
theorem wd_467 : Cond.selects RX5 yX5_asThumb yX5_asThumb ∈ wsA := mA (tS (q := (yX5_asThumb, 11)) (tP3 (List.mem_of_getElem? (i := 1) rfl))) rfl
theorem lk_RX5_252 : lkV RX5 252 yX5_asThumb RX5 cX5_asThumb 2 (some .int) 1 := ⟨wd_465, wd_464, wd_466, wd_467, wd_131, ⟨rfl, by decide +kernel, by decide +kernel, by decide +kernel⟩⟩
theorem wd_468 : Cond.methodLink RL 118 yX5_keep ∈ wsA := mA (tA3 (List.mem_of_getElem? (i := 98) rfl)) rfl
theorem wd_469 : Cond.code yX5_keep cX5_keep 2 (some .int) ∈ wsA := mA (tA3 (List.mem_of_getElem? (i := 101) rfl)) rfl
theorem wd_470 : Cond.instanceMethod yX5_keep ∈ wsA := mA (tA3 (List.mem_of_getElem? (i := 99) rfl)) rfl
theorem wd_471 : Cond.selects RX5 yX5_keep yX5_keep ∈ wsA := mA (tA3 (List.mem_of_getElem? (i := 100) rfl)) rfl
theorem lk_RL_118 : lkV RL 118 yX5_keep RX5 cX5_keep 2 (some .int) 1 := ⟨wd_469, wd_468, wd_470, wd_471, wd_131, ⟨rfl, by decide +kernel, by decide +kernel, by decide +kernel⟩⟩
theorem wd_472 : Cond.methodLink RX5 255 yX0_become ∈ wsA := mA (tA3 (List.mem_of_getElem? (i := 102) rfl)) rfl
theorem lk_RX5_255 : lkV RX5 255 yX0_become RX0 cX0_become 2 none 1 := ⟨wd_317, wd_472, wd_318, wd_319, wd_218, ⟨rfl, by decide +kernel, by decide +kernel, by decide +kernel⟩⟩
theorem wd_473 : Cond.methodLink RL 122 yX5_back ∈ wsA := mA (tA3 (List.mem_of_getElem? (i := 103) rfl)) rfl
theorem wd_474 : Cond.code yX5_back cX5_back 2 (some .int) ∈ wsA := mA (tA3 (List.mem_of_getElem? (i := 106) rfl)) rfl
theorem wd_475 : Cond.instanceMethod yX5_back ∈ wsA := mA (tA3 (List.mem_of_getElem? (i := 104) rfl)) rfl
theorem wd_476 : Cond.selects RX5 yX5_back yX5_back ∈ wsA := mA (tA3 (List.mem_of_getElem? (i := 105) rfl)) rfl
theorem lk_RL_122 : lkV RL 122 yX5_back RX5 cX5_back 2 (some .int) 1 := ⟨wd_474, wd_473, wd_475, wd_476, wd_131, ⟨rfl, by decide +kernel, by decide +kernel, by decide +kernel⟩⟩
theorem wd_477 : Cond.methodLink RL 126 yX5_count ∈ wsA := mA (tA3 (List.mem_of_getElem? (i := 107) rfl)) rfl
theorem wd_478 : Cond.code yX5_count cX5_count 2 (some .int) ∈ wsA := mA (tA3 (List.mem_of_getElem? (i := 110) rfl)) rfl
theorem wd_479 : Cond.instanceMethod yX5_count ∈ wsA := mA (tA3 (List.mem_of_getElem? (i := 108) rfl)) rfl
theorem wd_480 : Cond.selects RX5 yX5_count yX5_count ∈ wsA := mA (tA3 (List.mem_of_getElem? (i := 109) rfl)) rfl
theorem lk_RL_126 : lkV RL 126 yX5_count RX5 cX5_count 2 (some .int) 1 := ⟨wd_478, wd_477, wd_479, wd_480, wd_131, ⟨rfl, by decide +kernel, by decide +kernel, by decide +kernel⟩⟩
theorem wd_481 : Cond.methodLink RL 130 yX5_trace ∈ wsA := mA (tA3 (List.mem_of_getElem? (i := 111) rfl)) rfl
theorem wd_482 : Cond.code yX5_trace cX5_trace 1 (some .long) ∈ wsA := mA (tA3 (List.mem_of_getElem? (i := 114) rfl)) rfl
theorem wd_483 : Cond.instanceMethod yX5_trace ∈ wsA := mA (tA3 (List.mem_of_getElem? (i := 112) rfl)) rfl
theorem wd_484 : Cond.selects RX5 yX5_trace yX5_trace ∈ wsA := mA (tA3 (List.mem_of_getElem? (i := 113) rfl)) rfl
theorem lk_RL_130 : lkV RL 130 yX5_trace RX5 cX5_trace 1 (some .long) 0 := ⟨wd_482, wd_481, wd_483, wd_484, wd_131, ⟨rfl, by decide +kernel, by decide +kernel, by decide +kernel⟩⟩
theorem wd_485 : Cond.methodLink RX6 68 yX6_begins ∈ wsA := mA (tA3 (List.mem_of_getElem? (i := 121) rfl)) rfl
theorem wd_486 : Cond.code yX6_begins cX6_begins 2 none ∈ wsA := mA (tA3 (List.mem_of_getElem? (i := 124) rfl)) rfl
theorem wd_487 : Cond.initialized RX6 ∈ wsA := mA (tA1 (List.mem_of_getElem? (i := 7) rfl)) rfl
theorem wd_488 : Cond.instanceMethod yX6_begins ∈ wsA := mA (tA3 (List.mem_of_getElem? (i := 123) rfl)) rfl
theorem wd_489 : Cond.selects RX6 yX6_begins yX6_begins ∈ wsA := mA (tS (q := (yX6_begins, 30)) (tP3 (List.mem_of_getElem? (i := 2) rfl))) rfl
theorem lk_RX6_68 : lkV RX6 68 yX6_begins RX6 cX6_begins 2 none 0 := ⟨wd_486, wd_485, wd_488, wd_489, wd_487, ⟨rfl, by decide +kernel, by decide +kernel, by decide +kernel⟩⟩
theorem wd_490 : Cond.methodLink RX6 71 yX6_settles ∈ wsA := mA (tA3 (List.mem_of_getElem? (i := 125) rfl)) rfl
theorem wd_491 : Cond.code yX6_settles cX6_settles 2 none ∈ wsA := mA (tA3 (List.mem_of_getElem? (i := 128) rfl)) rfl
theorem wd_492 : Cond.instanceMethod yX6_settles ∈ wsA := mA (tA3 (List.mem_of_getElem? (i := 127) rfl)) rfl
theorem wd_493 : Cond.selects RX6 yX6_settles yX6_settles ∈ wsA := mA (tS (q := (yX6_settles, 30)) (tP3 (List.mem_of_getElem? (i := 3) rfl))) rfl
theorem lk_RX6_71 : lkV RX6 71 yX6_settles RX6 cX6_settles 2 none 0 := ⟨wd_491, wd_490, wd_492, wd_493, wd_487, ⟨rfl, by decide +kernel, by decide +kernel, by decide +kernel⟩⟩
theorem wd_494 : Cond.methodLink RL 17 yX6_type ∈ wsA := mA (tA3 (List.mem_of_getElem? (i := 220) rfl)) rfl
theorem wd_495 : Cond.code yX6_type cX6_type 2 (some .int) ∈ wsA := mA (tA3 (List.mem_of_getElem? (i := 223) rfl)) rfl
theorem wd_496 : Cond.instanceMethod yX6_type ∈ wsA := mA (tA3 (List.mem_of_getElem? (i := 221) rfl)) rfl
theorem wd_497 : Cond.selects RX6 yX6_type yX6_type ∈ wsA := mA (tA3 (List.mem_of_getElem? (i := 222) rfl)) rfl
theorem lk_RL_17 : lkV RL 17 yX6_type RX6 cX6_type 2 (some .int) 1 := ⟨wd_495, wd_494, wd_496, wd_497, wd_487, ⟨rfl, by decide +kernel, by decide +kernel, by decide +kernel⟩⟩
theorem wd_498 : Cond.methodLink RX6 78 yX6_in ∈ wsA := mA (tA3 (List.mem_of_getElem? (i := 224) rfl)) rfl
theorem wd_499 : Cond.code yX6_in cX6_in 3 (some .boolean) ∈ wsA := mA (tA3 (List.mem_of_getElem? (i := 226) rfl)) rfl
theorem wd_500 : Cond.static yX6_in ∈ wsA := mA (tA3 (List.mem_of_getElem? (i := 225) rfl)) rfl
theorem lk_RX6_78 : lkS RX6 78 yX6_in cX6_in 3 (some .boolean) 3 := ⟨wd_499, wd_498, wd_500, wd_487, ⟨by decide +kernel, by decide +kernel, by decide +kernel⟩⟩
theorem wd_501 : Cond.methodLink RL 22 yX6_clear ∈ wsA := mA (tA3 (List.mem_of_getElem? (i := 227) rfl)) rfl
theorem wd_502 : Cond.code yX6_clear cX6_clear 2 (some .int) ∈ wsA := mA (tA3 (List.mem_of_getElem? (i := 230) rfl)) rfl
theorem wd_503 : Cond.instanceMethod yX6_clear ∈ wsA := mA (tA3 (List.mem_of_getElem? (i := 228) rfl)) rfl
theorem wd_504 : Cond.selects RX6 yX6_clear yX6_clear ∈ wsA := mA (tA3 (List.mem_of_getElem? (i := 229) rfl)) rfl
theorem lk_RL_22 : lkV RL 22 yX6_clear RX6 cX6_clear 2 (some .int) 0 := ⟨wd_502, wd_501, wd_503, wd_504, wd_487, ⟨rfl, by decide +kernel, by decide +kernel, by decide +kernel⟩⟩
theorem wd_505 : Cond.methodLink RL 26 yX6_moss ∈ wsA := mA (tA3 (List.mem_of_getElem? (i := 231) rfl)) rfl
theorem wd_506 : Cond.code yX6_moss cX6_moss 3 (some .int) ∈ wsA := mA (tA3 (List.mem_of_getElem? (i := 234) rfl)) rfl
theorem wd_507 : Cond.instanceMethod yX6_moss ∈ wsA := mA (tA3 (List.mem_of_getElem? (i := 232) rfl)) rfl
theorem wd_508 : Cond.selects RX6 yX6_moss yX6_moss ∈ wsA := mA (tA3 (List.mem_of_getElem? (i := 233) rfl)) rfl
theorem lk_RL_26 : lkV RL 26 yX6_moss RX6 cX6_moss 3 (some .int) 0 := ⟨wd_506, wd_505, wd_507, wd_508, wd_487, ⟨rfl, by decide +kernel, by decide +kernel, by decide +kernel⟩⟩
theorem wd_509 : Cond.methodLink RX6 112 yX6_advances ∈ wsA := mA (tA3 (List.mem_of_getElem? (i := 235) rfl)) rfl
theorem wd_510 : Cond.code yX6_advances cX6_advances 2 none ∈ wsA := mA (tA3 (List.mem_of_getElem? (i := 238) rfl)) rfl
theorem wd_511 : Cond.instanceMethod yX6_advances ∈ wsA := mA (tA3 (List.mem_of_getElem? (i := 237) rfl)) rfl
theorem wd_512 : Cond.selects RX6 yX6_advances yX6_advances ∈ wsA := mA (tS (q := (yX6_advances, 30)) (tP3 (List.mem_of_getElem? (i := 4) rfl))) rfl
theorem lk_RX6_112 : lkV RX6 112 yX6_advances RX6 cX6_advances 2 none 0 := ⟨wd_510, wd_509, wd_511, wd_512, wd_487, ⟨rfl, by decide +kernel, by decide +kernel, by decide +kernel⟩⟩
theorem wd_513 : Cond.methodLink RX6 88 yX6_letterAt ∈ wsA := mA (tA3 (List.mem_of_getElem? (i := 239) rfl)) rfl
theorem wd_514 : Cond.code yX6_letterAt cX6_letterAt 2 (some .int) ∈ wsA := mA (tA4 (List.mem_of_getElem? (i := 2) rfl)) rfl
theorem wd_515 : Cond.instanceMethod yX6_letterAt ∈ wsA := mA (tA4 (List.mem_of_getElem? (i := 1) rfl)) rfl
theorem wd_516 : Cond.selects RX6 yX6_letterAt yX6_letterAt ∈ wsA := mA (tS (q := (yX6_letterAt, 30)) (tP3 (List.mem_of_getElem? (i := 5) rfl))) rfl
theorem lk_RX6_88 : lkV RX6 88 yX6_letterAt RX6 cX6_letterAt 2 (some .int) 1 := ⟨wd_514, wd_513, wd_515, wd_516, wd_487, ⟨rfl, by decide +kernel, by decide +kernel, by decide +kernel⟩⟩
theorem wd_517 : Cond.methodLink RX6 101 yX6_isLetter ∈ wsA := mA (tA4 (List.mem_of_getElem? (i := 3) rfl)) rfl
theorem wd_518 : Cond.code yX6_isLetter cX6_isLetter 1 (some .boolean) ∈ wsA := mA (tA4 (List.mem_of_getElem? (i := 5) rfl)) rfl
theorem wd_519 : Cond.static yX6_isLetter ∈ wsA := mA (tA4 (List.mem_of_getElem? (i := 4) rfl)) rfl
theorem lk_RX6_101 : lkS RX6 101 yX6_isLetter cX6_isLetter 1 (some .boolean) 1 := ⟨wd_518, wd_517, wd_519, wd_487, ⟨by decide +kernel, by decide +kernel, by decide +kernel⟩⟩
theorem wd_520 : Cond.methodLink RX6 108 yX6_isWell ∈ wsA := mA (tA4 (List.mem_of_getElem? (i := 6) rfl)) rfl
theorem wd_521 : Cond.code yX6_isWell cX6_isWell 1 (some .boolean) ∈ wsA := mA (tA4 (List.mem_of_getElem? (i := 9) rfl)) rfl
theorem wd_522 : Cond.instanceMethod yX6_isWell ∈ wsA := mA (tA4 (List.mem_of_getElem? (i := 8) rfl)) rfl
theorem wd_523 : Cond.selects RX6 yX6_isWell yX6_isWell ∈ wsA := mA (tS (q := (yX6_isWell, 30)) (tP3 (List.mem_of_getElem? (i := 6) rfl))) rfl
theorem lk_RX6_108 : lkV RX6 108 yX6_isWell RX6 cX6_isWell 1 (some .boolean) 0 := ⟨wd_521, wd_520, wd_522, wd_523, wd_487, ⟨rfl, by decide +kernel, by decide +kernel, by decide +kernel⟩⟩
theorem wd_524 : Cond.methodLink RX6 132 yX6_mayBegin ∈ wsA := mA (tA4 (List.mem_of_getElem? (i := 10) rfl)) rfl
theorem wd_525 : Cond.code yX6_mayBegin cX6_mayBegin 1 (some .boolean) ∈ wsA := mA (tA4 (List.mem_of_getElem? (i := 13) rfl)) rfl
theorem wd_526 : Cond.instanceMethod yX6_mayBegin ∈ wsA := mA (tA4 (List.mem_of_getElem? (i := 12) rfl)) rfl
theorem wd_527 : Cond.selects RX6 yX6_mayBegin yX6_mayBegin ∈ wsA := mA (tS (q := (yX6_mayBegin, 30)) (tP3 (List.mem_of_getElem? (i := 7) rfl))) rfl
theorem lk_RX6_132 : lkV RX6 132 yX6_mayBegin RX6 cX6_mayBegin 1 (some .boolean) 0 := ⟨wd_525, wd_524, wd_526, wd_527, wd_487, ⟨rfl, by decide +kernel, by decide +kernel, by decide +kernel⟩⟩
theorem wd_528 : Cond.methodLink RX6 115 yX6_takes ∈ wsA := mA (tA4 (List.mem_of_getElem? (i := 14) rfl)) rfl
theorem wd_529 : Cond.code yX6_takes cX6_takes 3 (some .int) ∈ wsA := mA (tA4 (List.mem_of_getElem? (i := 17) rfl)) rfl
theorem wd_530 : Cond.instanceMethod yX6_takes ∈ wsA := mA (tA4 (List.mem_of_getElem? (i := 16) rfl)) rfl
theorem wd_531 : Cond.selects RX6 yX6_takes yX6_takes ∈ wsA := mA (tS (q := (yX6_takes, 30)) (tP3 (List.mem_of_getElem? (i := 8) rfl))) rfl
theorem lk_RX6_115 : lkV RX6 115 yX6_takes RX6 cX6_takes 3 (some .int) 1 := ⟨wd_529, wd_528, wd_530, wd_531, wd_487, ⟨rfl, by decide +kernel, by decide +kernel, by decide +kernel⟩⟩
theorem wd_532 : Cond.methodLink RX6 135 yX6_readsItem ∈ wsA := mA (tA4 (List.mem_of_getElem? (i := 18) rfl)) rfl
theorem wd_533 : Cond.code yX6_readsItem cX6_readsItem 4 none ∈ wsA := mA (tA4 (List.mem_of_getElem? (i := 21) rfl)) rfl
theorem wd_534 : Cond.instanceMethod yX6_readsItem ∈ wsA := mA (tA4 (List.mem_of_getElem? (i := 20) rfl)) rfl
theorem wd_535 : Cond.selects RX6 yX6_readsItem yX6_readsItem ∈ wsA := mA (tS (q := (yX6_readsItem, 30)) (tP3 (List.mem_of_getElem? (i := 9) rfl))) rfl
theorem lk_RX6_135 : lkV RX6 135 yX6_readsItem RX6 cX6_readsItem 4 none 1 := ⟨wd_533, wd_532, wd_534, wd_535, wd_487, ⟨rfl, by decide +kernel, by decide +kernel, by decide +kernel⟩⟩
theorem wd_536 : Cond.methodLink RX6 122 yX6_number ∈ wsA := mA (tA4 (List.mem_of_getElem? (i := 22) rfl)) rfl
theorem wd_537 : Cond.code yX6_number cX6_number 3 (some .int) ∈ wsA := mA (tA4 (List.mem_of_getElem? (i := 25) rfl)) rfl
theorem wd_538 : Cond.instanceMethod yX6_number ∈ wsA := mA (tA4 (List.mem_of_getElem? (i := 24) rfl)) rfl
theorem wd_539 : Cond.selects RX6 yX6_number yX6_number ∈ wsA := mA (tS (q := (yX6_number, 30)) (tP3 (List.mem_of_getElem? (i := 10) rfl))) rfl
theorem lk_RX6_122 : lkV RX6 122 yX6_number RX6 cX6_number 3 (some .int) 2 := ⟨wd_537, wd_536, wd_538, wd_539, wd_487, ⟨rfl, by decide +kernel, by decide +kernel, by decide +kernel⟩⟩
theorem wd_540 : Cond.methodLink RX6 126 yX6_readsPromise ∈ wsA := mA (tA4 (List.mem_of_getElem? (i := 26) rfl)) rfl
theorem wd_541 : Cond.code yX6_readsPromise cX6_readsPromise 4 none ∈ wsA := mA (tA4 (List.mem_of_getElem? (i := 29) rfl)) rfl
theorem wd_542 : Cond.instanceMethod yX6_readsPromise ∈ wsA := mA (tA4 (List.mem_of_getElem? (i := 28) rfl)) rfl
theorem wd_543 : Cond.selects RX6 yX6_readsPromise yX6_readsPromise ∈ wsA := mA (tS (q := (yX6_readsPromise, 30)) (tP3 (List.mem_of_getElem? (i := 11) rfl))) rfl
theorem lk_RX6_126 : lkV RX6 126 yX6_readsPromise RX6 cX6_readsPromise 4 none 0 := ⟨wd_541, wd_540, wd_542, wd_543, wd_487, ⟨rfl, by decide +kernel, by decide +kernel, by decide +kernel⟩⟩
theorem wd_544 : Cond.methodLink RX6 129 yX6_readsClash ∈ wsA := mA (tA4 (List.mem_of_getElem? (i := 30) rfl)) rfl
theorem wd_545 : Cond.code yX6_readsClash cX6_readsClash 4 none ∈ wsA := mA (tA4 (List.mem_of_getElem? (i := 33) rfl)) rfl
theorem wd_546 : Cond.instanceMethod yX6_readsClash ∈ wsA := mA (tA4 (List.mem_of_getElem? (i := 32) rfl)) rfl
theorem wd_547 : Cond.selects RX6 yX6_readsClash yX6_readsClash ∈ wsA := mA (tS (q := (yX6_readsClash, 30)) (tP3 (List.mem_of_getElem? (i := 12) rfl))) rfl
theorem lk_RX6_129 : lkV RX6 129 yX6_readsClash RX6 cX6_readsClash 4 none 0 := ⟨wd_545, wd_544, wd_546, wd_547, wd_487, ⟨rfl, by decide +kernel, by decide +kernel, by decide +kernel⟩⟩
theorem wd_548 : Cond.methodLink RL 31 yX6_person ∈ wsA := mA (tA4 (List.mem_of_getElem? (i := 34) rfl)) rfl
theorem wd_549 : Cond.code yX6_person cX6_person 3 (some .int) ∈ wsA := mA (tA4 (List.mem_of_getElem? (i := 37) rfl)) rfl
theorem wd_550 : Cond.instanceMethod yX6_person ∈ wsA := mA (tA4 (List.mem_of_getElem? (i := 35) rfl)) rfl
theorem wd_551 : Cond.selects RX6 yX6_person yX6_person ∈ wsA := mA (tA4 (List.mem_of_getElem? (i := 36) rfl)) rfl
theorem lk_RL_31 : lkV RL 31 yX6_person RX6 cX6_person 3 (some .int) 2 := ⟨wd_549, wd_548, wd_550, wd_551, wd_487, ⟨rfl, by decide +kernel, by decide +kernel, by decide +kernel⟩⟩
theorem wd_552 : Cond.methodLink RL 35 yX6_promise ∈ wsA := mA (tA4 (List.mem_of_getElem? (i := 38) rfl)) rfl
theorem wd_553 : Cond.code yX6_promise cX6_promise 3 (some .int) ∈ wsA := mA (tA4 (List.mem_of_getElem? (i := 41) rfl)) rfl
theorem wd_554 : Cond.instanceMethod yX6_promise ∈ wsA := mA (tA4 (List.mem_of_getElem? (i := 39) rfl)) rfl
theorem wd_555 : Cond.selects RX6 yX6_promise yX6_promise ∈ wsA := mA (tA4 (List.mem_of_getElem? (i := 40) rfl)) rfl
theorem lk_RL_35 : lkV RL 35 yX6_promise RX6 cX6_promise 3 (some .int) 2 := ⟨wd_553, wd_552, wd_554, wd_555, wd_487, ⟨rfl, by decide +kernel, by decide +kernel, by decide +kernel⟩⟩
theorem wd_556 : Cond.methodLink RX6 148 yX6_isPromise ∈ wsA := mA (tA4 (List.mem_of_getElem? (i := 42) rfl)) rfl
theorem wd_557 : Cond.code yX6_isPromise cX6_isPromise 2 (some .boolean) ∈ wsA := mA (tA4 (List.mem_of_getElem? (i := 45) rfl)) rfl
theorem wd_558 : Cond.instanceMethod yX6_isPromise ∈ wsA := mA (tA4 (List.mem_of_getElem? (i := 44) rfl)) rfl
theorem wd_559 : Cond.selects RX6 yX6_isPromise yX6_isPromise ∈ wsA := mA (tS (q := (yX6_isPromise, 30)) (tP3 (List.mem_of_getElem? (i := 13) rfl))) rfl
theorem lk_RX6_148 : lkV RX6 148 yX6_isPromise RX6 cX6_isPromise 2 (some .boolean) 1 := ⟨wd_557, wd_556, wd_558, wd_559, wd_487, ⟨rfl, by decide +kernel, by decide +kernel, by decide +kernel⟩⟩
theorem wd_560 : Cond.methodLink RL 39 yX6_word ∈ wsA := mA (tA4 (List.mem_of_getElem? (i := 46) rfl)) rfl
theorem wd_561 : Cond.code yX6_word cX6_word 3 (some .int) ∈ wsA := mA (tA4 (List.mem_of_getElem? (i := 49) rfl)) rfl
theorem wd_562 : Cond.instanceMethod yX6_word ∈ wsA := mA (tA4 (List.mem_of_getElem? (i := 47) rfl)) rfl
theorem wd_563 : Cond.selects RX6 yX6_word yX6_word ∈ wsA := mA (tA4 (List.mem_of_getElem? (i := 48) rfl)) rfl
theorem lk_RL_39 : lkV RL 39 yX6_word RX6 cX6_word 3 (some .int) 2 := ⟨wd_561, wd_560, wd_562, wd_563, wd_487, ⟨rfl, by decide +kernel, by decide +kernel, by decide +kernel⟩⟩
theorem wd_564 : Cond.methodLink RX6 151 yX6_leftNow ∈ wsA := mA (tA4 (List.mem_of_getElem? (i := 50) rfl)) rfl
theorem wd_565 : Cond.code yX6_leftNow cX6_leftNow 2 (some .int) ∈ wsA := mA (tA4 (List.mem_of_getElem? (i := 53) rfl)) rfl
theorem wd_566 : Cond.instanceMethod yX6_leftNow ∈ wsA := mA (tA4 (List.mem_of_getElem? (i := 52) rfl)) rfl
theorem wd_567 : Cond.selects RX6 yX6_leftNow yX6_leftNow ∈ wsA := mA (tS (q := (yX6_leftNow, 30)) (tP3 (List.mem_of_getElem? (i := 14) rfl))) rfl
theorem lk_RX6_151 : lkV RX6 151 yX6_leftNow RX6 cX6_leftNow 2 (some .int) 1 := ⟨wd_565, wd_564, wd_566, wd_567, wd_487, ⟨rfl, by decide +kernel, by decide +kernel, by decide +kernel⟩⟩
theorem wd_568 : Cond.methodLink RX6 145 yX6_leftIn ∈ wsA := mA (tA4 (List.mem_of_getElem? (i := 54) rfl)) rfl
theorem wd_569 : Cond.code yX6_leftIn cX6_leftIn 4 (some .int) ∈ wsA := mA (tA4 (List.mem_of_getElem? (i := 57) rfl)) rfl
theorem wd_570 : Cond.instanceMethod yX6_leftIn ∈ wsA := mA (tA4 (List.mem_of_getElem? (i := 56) rfl)) rfl
theorem wd_571 : Cond.selects RX6 yX6_leftIn yX6_leftIn ∈ wsA := mA (tS (q := (yX6_leftIn, 30)) (tP3 (List.mem_of_getElem? (i := 15) rfl))) rfl
theorem lk_RX6_145 : lkV RX6 145 yX6_leftIn RX6 cX6_leftIn 4 (some .int) 2 := ⟨wd_569, wd_568, wd_570, wd_571, wd_487, ⟨rfl, by decide +kernel, by decide +kernel, by decide +kernel⟩⟩
theorem wd_572 : Cond.methodLink RL 43 yX6_cell ∈ wsA := mA (tA4 (List.mem_of_getElem? (i := 58) rfl)) rfl
theorem wd_573 : Cond.code yX6_cell cX6_cell 3 (some .int) ∈ wsA := mA (tA4 (List.mem_of_getElem? (i := 61) rfl)) rfl
theorem wd_574 : Cond.instanceMethod yX6_cell ∈ wsA := mA (tA4 (List.mem_of_getElem? (i := 59) rfl)) rfl
theorem wd_575 : Cond.selects RX6 yX6_cell yX6_cell ∈ wsA := mA (tA4 (List.mem_of_getElem? (i := 60) rfl)) rfl
theorem lk_RL_43 : lkV RL 43 yX6_cell RX6 cX6_cell 3 (some .int) 2 := ⟨wd_573, wd_572, wd_574, wd_575, wd_487, ⟨rfl, by decide +kernel, by decide +kernel, by decide +kernel⟩⟩
theorem wd_576 : Cond.methodLink RX6 161 yX6_isCell ∈ wsA := mA (tA4 (List.mem_of_getElem? (i := 62) rfl)) rfl
theorem wd_577 : Cond.code yX6_isCell cX6_isCell 1 (some .boolean) ∈ wsA := mA (tA4 (List.mem_of_getElem? (i := 64) rfl)) rfl
theorem wd_578 : Cond.static yX6_isCell ∈ wsA := mA (tA4 (List.mem_of_getElem? (i := 63) rfl)) rfl
theorem lk_RX6_161 : lkS RX6 161 yX6_isCell cX6_isCell 1 (some .boolean) 1 := ⟨wd_577, wd_576, wd_578, wd_487, ⟨by decide +kernel, by decide +kernel, by decide +kernel⟩⟩
theorem wd_579 : Cond.methodLink RX6 164 yX6_lyingIn ∈ wsA := mA (tA4 (List.mem_of_getElem? (i := 65) rfl)) rfl
theorem wd_580 : Cond.code yX6_lyingIn cX6_lyingIn 4 (some .int) ∈ wsA := mA (tA4 (List.mem_of_getElem? (i := 68) rfl)) rfl
theorem wd_581 : Cond.instanceMethod yX6_lyingIn ∈ wsA := mA (tA4 (List.mem_of_getElem? (i := 67) rfl)) rfl
theorem wd_582 : Cond.selects RX6 yX6_lyingIn yX6_lyingIn ∈ wsA := mA (tS (q := (yX6_lyingIn, 30)) (tP4 (List.mem_of_getElem? (i := 0) rfl))) rfl
theorem lk_RX6_164 : lkV RX6 164 yX6_lyingIn RX6 cX6_lyingIn 4 (some .int) 1 := ⟨wd_580, wd_579, wd_581, wd_582, wd_487, ⟨rfl, by decide +kernel, by decide +kernel, by decide +kernel⟩⟩
theorem wd_583 : Cond.methodLink RX6 167 yX6_slides ∈ wsA := mA (tA4 (List.mem_of_getElem? (i := 69) rfl)) rfl
theorem wd_584 : Cond.code yX6_slides cX6_slides 3 (some .int) ∈ wsA := mA (tA4 (List.mem_of_getElem? (i := 72) rfl)) rfl
theorem wd_585 : Cond.instanceMethod yX6_slides ∈ wsA := mA (tA4 (List.mem_of_getElem? (i := 71) rfl)) rfl
theorem wd_586 : Cond.selects RX6 yX6_slides yX6_slides ∈ wsA := mA (tS (q := (yX6_slides, 30)) (tP4 (List.mem_of_getElem? (i := 1) rfl))) rfl
theorem lk_RX6_167 : lkV RX6 167 yX6_slides RX6 cX6_slides 3 (some .int) 1 := ⟨wd_584, wd_583, wd_585, wd_586, wd_487, ⟨rfl, by decide +kernel, by decide +kernel, by decide +kernel⟩⟩
theorem wd_587 : Cond.methodLink RX6 154 yX6_wetNow ∈ wsA := mA (tA4 (List.mem_of_getElem? (i := 73) rfl)) rfl
theorem wd_588 : Cond.code yX6_wetNow cX6_wetNow 2 none ∈ wsA := mA (tA4 (List.mem_of_getElem? (i := 76) rfl)) rfl
theorem wd_589 : Cond.instanceMethod yX6_wetNow ∈ wsA := mA (tA4 (List.mem_of_getElem? (i := 75) rfl)) rfl
theorem wd_590 : Cond.selects RX6 yX6_wetNow yX6_wetNow ∈ wsA := mA (tS (q := (yX6_wetNow, 30)) (tP4 (List.mem_of_getElem? (i := 2) rfl))) rfl
theorem lk_RX6_154 : lkV RX6 154 yX6_wetNow RX6 cX6_wetNow 2 none 0 := ⟨wd_588, wd_587, wd_589, wd_590, wd_487, ⟨rfl, by decide +kernel, by decide +kernel, by decide +kernel⟩⟩
theorem wd_591 : Cond.methodLink RX6 157 yX6_slidesOf ∈ wsA := mA (tA4 (List.mem_of_getElem? (i := 77) rfl)) rfl
theorem wd_592 : Cond.code yX6_slidesOf cX6_slidesOf 4 (some .int) ∈ wsA := mA (tA4 (List.mem_of_getElem? (i := 80) rfl)) rfl
theorem wd_593 : Cond.instanceMethod yX6_slidesOf ∈ wsA := mA (tA4 (List.mem_of_getElem? (i := 79) rfl)) rfl
theorem wd_594 : Cond.selects RX6 yX6_slidesOf yX6_slidesOf ∈ wsA := mA (tS (q := (yX6_slidesOf, 30)) (tP4 (List.mem_of_getElem? (i := 3) rfl))) rfl
theorem lk_RX6_157 : lkV RX6 157 yX6_slidesOf RX6 cX6_slidesOf 4 (some .int) 0 := ⟨wd_592, wd_591, wd_593, wd_594, wd_487, ⟨rfl, by decide +kernel, by decide +kernel, by decide +kernel⟩⟩
theorem wd_595 : Cond.methodLink RL 47 yX6_now ∈ wsA := mA (tA4 (List.mem_of_getElem? (i := 81) rfl)) rfl
theorem wd_596 : Cond.code yX6_now cX6_now 2 (some .int) ∈ wsA := mA (tA4 (List.mem_of_getElem? (i := 84) rfl)) rfl
theorem wd_597 : Cond.instanceMethod yX6_now ∈ wsA := mA (tA4 (List.mem_of_getElem? (i := 82) rfl)) rfl
theorem wd_598 : Cond.selects RX6 yX6_now yX6_now ∈ wsA := mA (tA4 (List.mem_of_getElem? (i := 83) rfl)) rfl
theorem lk_RL_47 : lkV RL 47 yX6_now RX6 cX6_now 2 (some .int) 1 := ⟨wd_596, wd_595, wd_597, wd_598, wd_487, ⟨rfl, by decide +kernel, by decide +kernel, by decide +kernel⟩⟩
theorem wd_599 : Cond.methodLink RX6 170 yX6_those ∈ wsA := mA (tA4 (List.mem_of_getElem? (i := 85) rfl)) rfl
theorem wd_600 : Cond.code yX6_those cX6_those 4 (some .int) ∈ wsA := mA (tA4 (List.mem_of_getElem? (i := 88) rfl)) rfl
theorem wd_601 : Cond.instanceMethod yX6_those ∈ wsA := mA (tA4 (List.mem_of_getElem? (i := 87) rfl)) rfl
theorem wd_602 : Cond.selects RX6 yX6_those yX6_those ∈ wsA := mA (tS (q := (yX6_those, 30)) (tP4 (List.mem_of_getElem? (i := 4) rfl))) rfl
theorem lk_RX6_170 : lkV RX6 170 yX6_those RX6 cX6_those 4 (some .int) 1 := ⟨wd_600, wd_599, wd_601, wd_602, wd_487, ⟨rfl, by decide +kernel, by decide +kernel, by decide +kernel⟩⟩
theorem wd_603 : Cond.methodLink RL 51 yX6_cuts ∈ wsA := mA (tA4 (List.mem_of_getElem? (i := 89) rfl)) rfl
theorem wd_604 : Cond.code yX6_cuts cX6_cuts 5 (some .int) ∈ wsA := mA (tA4 (List.mem_of_getElem? (i := 92) rfl)) rfl
theorem wd_605 : Cond.instanceMethod yX6_cuts ∈ wsA := mA (tA4 (List.mem_of_getElem? (i := 90) rfl)) rfl
theorem wd_606 : Cond.selects RX6 yX6_cuts yX6_cuts ∈ wsA := mA (tA4 (List.mem_of_getElem? (i := 91) rfl)) rfl
theorem lk_RL_51 : lkV RL 51 yX6_cuts RX6 cX6_cuts 5 (some .int) 1 := ⟨wd_604, wd_603, wd_605, wd_606, wd_487, ⟨rfl, by decide +kernel, by decide +kernel, by decide +kernel⟩⟩
theorem wd_607 : Cond.methodLink RX6 173 yX6_notes ∈ wsA := mA (tA4 (List.mem_of_getElem? (i := 93) rfl)) rfl
theorem wd_608 : Cond.code yX6_notes cX6_notes 2 none ∈ wsA := mA (tA4 (List.mem_of_getElem? (i := 96) rfl)) rfl
theorem wd_609 : Cond.instanceMethod yX6_notes ∈ wsA := mA (tA4 (List.mem_of_getElem? (i := 95) rfl)) rfl
theorem wd_610 : Cond.selects RX6 yX6_notes yX6_notes ∈ wsA := mA (tS (q := (yX6_notes, 30)) (tP4 (List.mem_of_getElem? (i := 5) rfl))) rfl
theorem lk_RX6_173 : lkV RX6 173 yX6_notes RX6 cX6_notes 2 none 0 := ⟨wd_608, wd_607, wd_609, wd_610, wd_487, ⟨rfl, by decide +kernel, by decide +kernel, by decide +kernel⟩⟩
theorem wd_611 : Cond.methodLink RL 55 yX6_drains ∈ wsA := mA (tA4 (List.mem_of_getElem? (i := 97) rfl)) rfl
theorem wd_612 : Cond.code yX6_drains cX6_drains 4 (some .int) ∈ wsA := mA (tA4 (List.mem_of_getElem? (i := 100) rfl)) rfl
theorem wd_613 : Cond.instanceMethod yX6_drains ∈ wsA := mA (tA4 (List.mem_of_getElem? (i := 98) rfl)) rfl
theorem wd_614 : Cond.selects RX6 yX6_drains yX6_drains ∈ wsA := mA (tA4 (List.mem_of_getElem? (i := 99) rfl)) rfl
theorem lk_RL_55 : lkV RL 55 yX6_drains RX6 cX6_drains 4 (some .int) 1 := ⟨wd_612, wd_611, wd_613, wd_614, wd_487, ⟨rfl, by decide +kernel, by decide +kernel, by decide +kernel⟩⟩
theorem wd_615 : Cond.methodLink RL 59 yX6_does ∈ wsA := mA (tA4 (List.mem_of_getElem? (i := 101) rfl)) rfl
theorem wd_616 : Cond.code yX6_does cX6_does 2 (some .int) ∈ wsA := mA (tA4 (List.mem_of_getElem? (i := 104) rfl)) rfl
theorem wd_617 : Cond.instanceMethod yX6_does ∈ wsA := mA (tA4 (List.mem_of_getElem? (i := 102) rfl)) rfl
theorem wd_618 : Cond.selects RX6 yX6_does yX6_does ∈ wsA := mA (tA4 (List.mem_of_getElem? (i := 103) rfl)) rfl
theorem lk_RL_59 : lkV RL 59 yX6_does RX6 cX6_does 2 (some .int) 1 := ⟨wd_616, wd_615, wd_617, wd_618, wd_487, ⟨rfl, by decide +kernel, by decide +kernel, by decide +kernel⟩⟩
theorem wd_619 : Cond.methodLink RX6 176 yX6_ones ∈ wsA := mA (tA4 (List.mem_of_getElem? (i := 105) rfl)) rfl
theorem wd_620 : Cond.code yX6_ones cX6_ones 3 (some .int) ∈ wsA := mA (tA4 (List.mem_of_getElem? (i := 107) rfl)) rfl
theorem wd_621 : Cond.static yX6_ones ∈ wsA := mA (tA4 (List.mem_of_getElem? (i := 106) rfl)) rfl
theorem lk_RX6_176 : lkS RX6 176 yX6_ones cX6_ones 3 (some .int) 1 := ⟨wd_620, wd_619, wd_621, wd_487, ⟨by decide +kernel, by decide +kernel, by decide +kernel⟩⟩
theorem wd_622 : Cond.methodLink RL 63 yX6_year ∈ wsA := mA (tA4 (List.mem_of_getElem? (i := 108) rfl)) rfl
theorem wd_623 : Cond.code yX6_year cX6_year 5 (some .int) ∈ wsA := mA (tA4 (List.mem_of_getElem? (i := 111) rfl)) rfl
theorem wd_624 : Cond.instanceMethod yX6_year ∈ wsA := mA (tA4 (List.mem_of_getElem? (i := 109) rfl)) rfl
theorem wd_625 : Cond.selects RX6 yX6_year yX6_year ∈ wsA := mA (tA4 (List.mem_of_getElem? (i := 110) rfl)) rfl
theorem lk_RL_63 : lkV RL 63 yX6_year RX6 cX6_year 5 (some .int) 0 := ⟨wd_623, wd_622, wd_624, wd_625, wd_487, ⟨rfl, by decide +kernel, by decide +kernel, by decide +kernel⟩⟩
theorem wd_626 : Cond.methodLink RL 67 yX6_undo ∈ wsA := mA (tA4 (List.mem_of_getElem? (i := 112) rfl)) rfl
theorem wd_627 : Cond.code yX6_undo cX6_undo 2 (some .int) ∈ wsA := mA (tA4 (List.mem_of_getElem? (i := 115) rfl)) rfl
theorem wd_628 : Cond.instanceMethod yX6_undo ∈ wsA := mA (tA4 (List.mem_of_getElem? (i := 113) rfl)) rfl
theorem wd_629 : Cond.selects RX6 yX6_undo yX6_undo ∈ wsA := mA (tA4 (List.mem_of_getElem? (i := 114) rfl)) rfl
theorem lk_RL_67 : lkV RL 67 yX6_undo RX6 cX6_undo 2 (some .int) 0 := ⟨wd_627, wd_626, wd_628, wd_629, wd_487, ⟨rfl, by decide +kernel, by decide +kernel, by decide +kernel⟩⟩
theorem wd_630 : Cond.methodLink RL 71 yX6_left ∈ wsA := mA (tA4 (List.mem_of_getElem? (i := 116) rfl)) rfl
theorem wd_631 : Cond.code yX6_left cX6_left 3 (some .int) ∈ wsA := mA (tA4 (List.mem_of_getElem? (i := 119) rfl)) rfl
theorem wd_632 : Cond.instanceMethod yX6_left ∈ wsA := mA (tA4 (List.mem_of_getElem? (i := 117) rfl)) rfl
theorem wd_633 : Cond.selects RX6 yX6_left yX6_left ∈ wsA := mA (tA4 (List.mem_of_getElem? (i := 118) rfl)) rfl
theorem lk_RL_71 : lkV RL 71 yX6_left RX6 cX6_left 3 (some .int) 2 := ⟨wd_631, wd_630, wd_632, wd_633, wd_487, ⟨rfl, by decide +kernel, by decide +kernel, by decide +kernel⟩⟩
theorem wd_634 : Cond.methodLink RL 76 yX6_lasts ∈ wsA := mA (tA4 (List.mem_of_getElem? (i := 120) rfl)) rfl
theorem wd_635 : Cond.code yX6_lasts cX6_lasts 7 (some .int) ∈ wsA := mA (tA4 (List.mem_of_getElem? (i := 123) rfl)) rfl
theorem wd_636 : Cond.instanceMethod yX6_lasts ∈ wsA := mA (tA4 (List.mem_of_getElem? (i := 121) rfl)) rfl
theorem wd_637 : Cond.selects RX6 yX6_lasts yX6_lasts ∈ wsA := mA (tA4 (List.mem_of_getElem? (i := 122) rfl)) rfl
theorem lk_RL_76 : lkV RL 76 yX6_lasts RX6 cX6_lasts 7 (some .int) 3 := ⟨wd_635, wd_634, wd_636, wd_637, wd_487, ⟨rfl, by decide +kernel, by decide +kernel, by decide +kernel⟩⟩
theorem wd_638 : Cond.methodLink RL 80 yX6_duty ∈ wsA := mA (tA4 (List.mem_of_getElem? (i := 124) rfl)) rfl
theorem wd_639 : Cond.code yX6_duty cX6_duty 4 (some .int) ∈ wsA := mA (tA4 (List.mem_of_getElem? (i := 127) rfl)) rfl
theorem wd_640 : Cond.instanceMethod yX6_duty ∈ wsA := mA (tA4 (List.mem_of_getElem? (i := 125) rfl)) rfl
theorem wd_641 : Cond.selects RX6 yX6_duty yX6_duty ∈ wsA := mA (tA4 (List.mem_of_getElem? (i := 126) rfl)) rfl
theorem lk_RL_80 : lkV RL 80 yX6_duty RX6 cX6_duty 4 (some .int) 2 := ⟨wd_639, wd_638, wd_640, wd_641, wd_487, ⟨rfl, by decide +kernel, by decide +kernel, by decide +kernel⟩⟩
theorem wd_642 : Cond.methodLink RL 84 yX6_sees ∈ wsA := mA (tA4 (List.mem_of_getElem? (i := 128) rfl)) rfl
theorem wd_643 : Cond.code yX6_sees cX6_sees 2 (some .int) ∈ wsA := mA (tA4 (List.mem_of_getElem? (i := 131) rfl)) rfl
theorem wd_644 : Cond.instanceMethod yX6_sees ∈ wsA := mA (tA4 (List.mem_of_getElem? (i := 129) rfl)) rfl
theorem wd_645 : Cond.selects RX6 yX6_sees yX6_sees ∈ wsA := mA (tA4 (List.mem_of_getElem? (i := 130) rfl)) rfl
theorem lk_RL_84 : lkV RL 84 yX6_sees RX6 cX6_sees 2 (some .int) 1 := ⟨wd_643, wd_642, wd_644, wd_645, wd_487, ⟨rfl, by decide +kernel, by decide +kernel, by decide +kernel⟩⟩
theorem wd_646 : Cond.methodLink RL 88 yX6_forget ∈ wsA := mA (tA4 (List.mem_of_getElem? (i := 132) rfl)) rfl
theorem wd_647 : Cond.code yX6_forget cX6_forget 2 (some .int) ∈ wsA := mA (tA4 (List.mem_of_getElem? (i := 135) rfl)) rfl
theorem wd_648 : Cond.instanceMethod yX6_forget ∈ wsA := mA (tA4 (List.mem_of_getElem? (i := 133) rfl)) rfl
theorem wd_649 : Cond.selects RX6 yX6_forget yX6_forget ∈ wsA := mA (tA4 (List.mem_of_getElem? (i := 134) rfl)) rfl
theorem lk_RL_88 : lkV RL 88 yX6_forget RX6 cX6_forget 2 (some .int) 0 := ⟨wd_647, wd_646, wd_648, wd_649, wd_487, ⟨rfl, by decide +kernel, by decide +kernel, by decide +kernel⟩⟩
theorem wd_650 : Cond.methodLink RL 92 yX6_fits ∈ wsA := mA (tA4 (List.mem_of_getElem? (i := 136) rfl)) rfl
theorem wd_651 : Cond.code yX6_fits cX6_fits 3 (some .int) ∈ wsA := mA (tA4 (List.mem_of_getElem? (i := 139) rfl)) rfl
theorem wd_652 : Cond.instanceMethod yX6_fits ∈ wsA := mA (tA4 (List.mem_of_getElem? (i := 137) rfl)) rfl
theorem wd_653 : Cond.selects RX6 yX6_fits yX6_fits ∈ wsA := mA (tA4 (List.mem_of_getElem? (i := 138) rfl)) rfl
theorem lk_RL_92 : lkV RL 92 yX6_fits RX6 cX6_fits 3 (some .int) 0 := ⟨wd_651, wd_650, wd_652, wd_653, wd_487, ⟨rfl, by decide +kernel, by decide +kernel, by decide +kernel⟩⟩
theorem wd_654 : Cond.methodLink RX6 179 yX6_canBe ∈ wsA := mA (tA4 (List.mem_of_getElem? (i := 140) rfl)) rfl
theorem wd_655 : Cond.code yX6_canBe cX6_canBe 4 (some .boolean) ∈ wsA := mA (tA4 (List.mem_of_getElem? (i := 143) rfl)) rfl
theorem wd_656 : Cond.instanceMethod yX6_canBe ∈ wsA := mA (tA4 (List.mem_of_getElem? (i := 142) rfl)) rfl
theorem wd_657 : Cond.selects RX6 yX6_canBe yX6_canBe ∈ wsA := mA (tS (q := (yX6_canBe, 30)) (tP4 (List.mem_of_getElem? (i := 6) rfl))) rfl
theorem lk_RX6_179 : lkV RX6 179 yX6_canBe RX6 cX6_canBe 4 (some .boolean) 1 := ⟨wd_655, wd_654, wd_656, wd_657, wd_487, ⟨rfl, by decide +kernel, by decide +kernel, by decide +kernel⟩⟩
theorem wd_658 : Cond.methodLink RL 96 yX6_likely ∈ wsA := mA (tA4 (List.mem_of_getElem? (i := 144) rfl)) rfl
theorem wd_659 : Cond.code yX6_likely cX6_likely 4 (some .int) ∈ wsA := mA (tA4 (List.mem_of_getElem? (i := 147) rfl)) rfl
theorem wd_660 : Cond.instanceMethod yX6_likely ∈ wsA := mA (tA4 (List.mem_of_getElem? (i := 145) rfl)) rfl
theorem wd_661 : Cond.selects RX6 yX6_likely yX6_likely ∈ wsA := mA (tA4 (List.mem_of_getElem? (i := 146) rfl)) rfl
theorem lk_RL_96 : lkV RL 96 yX6_likely RX6 cX6_likely 4 (some .int) 0 := ⟨wd_659, wd_658, wd_660, wd_661, wd_487, ⟨rfl, by decide +kernel, by decide +kernel, by decide +kernel⟩⟩
theorem wd_662 : Cond.methodLink RL 100 yX6_kept ∈ wsA := mA (tA4 (List.mem_of_getElem? (i := 148) rfl)) rfl
theorem wd_663 : Cond.code yX6_kept cX6_kept 4 (some .int) ∈ wsA := mA (tA4 (List.mem_of_getElem? (i := 151) rfl)) rfl
theorem wd_664 : Cond.instanceMethod yX6_kept ∈ wsA := mA (tA4 (List.mem_of_getElem? (i := 149) rfl)) rfl
theorem wd_665 : Cond.selects RX6 yX6_kept yX6_kept ∈ wsA := mA (tA4 (List.mem_of_getElem? (i := 150) rfl)) rfl
theorem lk_RL_100 : lkV RL 100 yX6_kept RX6 cX6_kept 4 (some .int) 1 := ⟨wd_663, wd_662, wd_664, wd_665, wd_487, ⟨rfl, by decide +kernel, by decide +kernel, by decide +kernel⟩⟩
theorem wd_666 : Cond.methodLink RX6 182 yX6_wordsOf ∈ wsA := mA (tA4 (List.mem_of_getElem? (i := 152) rfl)) rfl
theorem wd_667 : Cond.code yX6_wordsOf cX6_wordsOf 4 (some .int) ∈ wsA := mA (tA4 (List.mem_of_getElem? (i := 155) rfl)) rfl
theorem wd_668 : Cond.instanceMethod yX6_wordsOf ∈ wsA := mA (tA4 (List.mem_of_getElem? (i := 154) rfl)) rfl
theorem wd_669 : Cond.selects RX6 yX6_wordsOf yX6_wordsOf ∈ wsA := mA (tS (q := (yX6_wordsOf, 30)) (tP4 (List.mem_of_getElem? (i := 7) rfl))) rfl
theorem lk_RX6_182 : lkV RX6 182 yX6_wordsOf RX6 cX6_wordsOf 4 (some .int) 1 := ⟨wd_667, wd_666, wd_668, wd_669, wd_487, ⟨rfl, by decide +kernel, by decide +kernel, by decide +kernel⟩⟩
theorem wd_670 : Cond.methodLink RX6 185 yX6_agree ∈ wsA := mA (tA4 (List.mem_of_getElem? (i := 156) rfl)) rfl
theorem wd_671 : Cond.code yX6_agree cX6_agree 4 (some .boolean) ∈ wsA := mA (tA4 (List.mem_of_getElem? (i := 159) rfl)) rfl
theorem wd_672 : Cond.instanceMethod yX6_agree ∈ wsA := mA (tA4 (List.mem_of_getElem? (i := 158) rfl)) rfl
theorem wd_673 : Cond.selects RX6 yX6_agree yX6_agree ∈ wsA := mA (tS (q := (yX6_agree, 30)) (tP4 (List.mem_of_getElem? (i := 8) rfl))) rfl
theorem lk_RX6_185 : lkV RX6 185 yX6_agree RX6 cX6_agree 4 (some .boolean) 1 := ⟨wd_671, wd_670, wd_672, wd_673, wd_487, ⟨rfl, by decide +kernel, by decide +kernel, by decide +kernel⟩⟩
theorem wd_674 : Cond.methodLink RL 104 yX6_order ∈ wsA := mA (tA4 (List.mem_of_getElem? (i := 160) rfl)) rfl
theorem wd_675 : Cond.code yX6_order cX6_order 5 (some .int) ∈ wsA := mA (tA4 (List.mem_of_getElem? (i := 163) rfl)) rfl
theorem wd_676 : Cond.instanceMethod yX6_order ∈ wsA := mA (tA4 (List.mem_of_getElem? (i := 161) rfl)) rfl
theorem wd_677 : Cond.selects RX6 yX6_order yX6_order ∈ wsA := mA (tA4 (List.mem_of_getElem? (i := 162) rfl)) rfl
theorem lk_RL_104 : lkV RL 104 yX6_order RX6 cX6_order 5 (some .int) 1 := ⟨wd_675, wd_674, wd_676, wd_677, wd_487, ⟨rfl, by decide +kernel, by decide +kernel, by decide +kernel⟩⟩
theorem wd_678 : Cond.methodLink RX6 191 yX6_canOrder ∈ wsA := mA (tA4 (List.mem_of_getElem? (i := 164) rfl)) rfl
theorem wd_679 : Cond.code yX6_canOrder cX6_canOrder 6 (some .boolean) ∈ wsA := mA (tA4 (List.mem_of_getElem? (i := 167) rfl)) rfl
theorem wd_680 : Cond.instanceMethod yX6_canOrder ∈ wsA := mA (tA4 (List.mem_of_getElem? (i := 166) rfl)) rfl
theorem wd_681 : Cond.selects RX6 yX6_canOrder yX6_canOrder ∈ wsA := mA (tS (q := (yX6_canOrder, 30)) (tP4 (List.mem_of_getElem? (i := 9) rfl))) rfl
theorem lk_RX6_191 : lkV RX6 191 yX6_canOrder RX6 cX6_canOrder 6 (some .boolean) 1 := ⟨wd_679, wd_678, wd_680, wd_681, wd_487, ⟨rfl, by decide +kernel, by decide +kernel, by decide +kernel⟩⟩
theorem wd_682 : Cond.methodLink RX6 188 yX6_soonest ∈ wsA := mA (tA4 (List.mem_of_getElem? (i := 168) rfl)) rfl
theorem wd_683 : Cond.code yX6_soonest cX6_soonest 4 (some .int) ∈ wsA := mA (tA4 (List.mem_of_getElem? (i := 171) rfl)) rfl
theorem wd_684 : Cond.instanceMethod yX6_soonest ∈ wsA := mA (tA4 (List.mem_of_getElem? (i := 170) rfl)) rfl
theorem wd_685 : Cond.selects RX6 yX6_soonest yX6_soonest ∈ wsA := mA (tS (q := (yX6_soonest, 30)) (tP4 (List.mem_of_getElem? (i := 10) rfl))) rfl
theorem lk_RX6_188 : lkV RX6 188 yX6_soonest RX6 cX6_soonest 4 (some .int) 1 := ⟨wd_683, wd_682, wd_684, wd_685, wd_487, ⟨rfl, by decide +kernel, by decide +kernel, by decide +kernel⟩⟩
theorem wd_686 : Cond.methodLink RL 108 yX6_drain ∈ wsA := mA (tA4 (List.mem_of_getElem? (i := 172) rfl)) rfl
theorem wd_687 : Cond.code yX6_drain cX6_drain 4 (some .int) ∈ wsA := mA (tA4 (List.mem_of_getElem? (i := 175) rfl)) rfl
theorem wd_688 : Cond.instanceMethod yX6_drain ∈ wsA := mA (tA4 (List.mem_of_getElem? (i := 173) rfl)) rfl
theorem wd_689 : Cond.selects RX6 yX6_drain yX6_drain ∈ wsA := mA (tA4 (List.mem_of_getElem? (i := 174) rfl)) rfl
theorem lk_RL_108 : lkV RL 108 yX6_drain RX6 cX6_drain 4 (some .int) 1 := ⟨wd_687, wd_686, wd_688, wd_689, wd_487, ⟨rfl, by decide +kernel, by decide +kernel, by decide +kernel⟩⟩
theorem wd_690 : Cond.methodLink RX6 194 yX6_staysFor ∈ wsA := mA (tA4 (List.mem_of_getElem? (i := 176) rfl)) rfl
theorem wd_691 : Cond.code yX6_staysFor cX6_staysFor 5 (some .boolean) ∈ wsA := mA (tA4 (List.mem_of_getElem? (i := 179) rfl)) rfl
theorem wd_692 : Cond.instanceMethod yX6_staysFor ∈ wsA := mA (tA4 (List.mem_of_getElem? (i := 178) rfl)) rfl
theorem wd_693 : Cond.selects RX6 yX6_staysFor yX6_staysFor ∈ wsA := mA (tS (q := (yX6_staysFor, 30)) (tP4 (List.mem_of_getElem? (i := 11) rfl))) rfl
theorem lk_RX6_194 : lkV RX6 194 yX6_staysFor RX6 cX6_staysFor 5 (some .boolean) 2 := ⟨wd_691, wd_690, wd_692, wd_693, wd_487, ⟨rfl, by decide +kernel, by decide +kernel, by decide +kernel⟩⟩
theorem wd_694 : Cond.methodLink RL 113 yX6_odds ∈ wsA := mA (tA4 (List.mem_of_getElem? (i := 180) rfl)) rfl
theorem wd_695 : Cond.code yX6_odds cX6_odds 8 (some .int) ∈ wsA := mA (tA4 (List.mem_of_getElem? (i := 183) rfl)) rfl
theorem wd_696 : Cond.instanceMethod yX6_odds ∈ wsA := mA (tA4 (List.mem_of_getElem? (i := 181) rfl)) rfl
theorem wd_697 : Cond.selects RX6 yX6_odds yX6_odds ∈ wsA := mA (tA4 (List.mem_of_getElem? (i := 182) rfl)) rfl
theorem lk_RL_113 : lkV RL 113 yX6_odds RX6 cX6_odds 8 (some .int) 4 := ⟨wd_695, wd_694, wd_696, wd_697, wd_487, ⟨rfl, by decide +kernel, by decide +kernel, by decide +kernel⟩⟩
theorem wd_698 : Cond.methodLink RX6 198 yX6_power ∈ wsA := mA (tA4 (List.mem_of_getElem? (i := 184) rfl)) rfl
theorem wd_699 : Cond.code yX6_power cX6_power 4 (some .int) ∈ wsA := mA (tA4 (List.mem_of_getElem? (i := 186) rfl)) rfl
theorem wd_700 : Cond.static yX6_power ∈ wsA := mA (tA4 (List.mem_of_getElem? (i := 185) rfl)) rfl
theorem lk_RX6_198 : lkS RX6 198 yX6_power cX6_power 4 (some .int) 2 := ⟨wd_699, wd_698, wd_700, wd_487, ⟨by decide +kernel, by decide +kernel, by decide +kernel⟩⟩
theorem wd_701 : Cond.methodLink RX6 201 yX6_gcd ∈ wsA := mA (tA4 (List.mem_of_getElem? (i := 187) rfl)) rfl
theorem wd_702 : Cond.code yX6_gcd cX6_gcd 5 (some .int) ∈ wsA := mA (tA4 (List.mem_of_getElem? (i := 189) rfl)) rfl
theorem wd_703 : Cond.static yX6_gcd ∈ wsA := mA (tA4 (List.mem_of_getElem? (i := 188) rfl)) rfl
theorem lk_RX6_201 : lkS RX6 201 yX6_gcd cX6_gcd 5 (some .int) 2 := ⟨wd_702, wd_701, wd_703, wd_487, ⟨by decide +kernel, by decide +kernel, by decide +kernel⟩⟩
theorem wd_704 : Cond.methodLink RL 117 yX6_rate ∈ wsA := mA (tA4 (List.mem_of_getElem? (i := 190) rfl)) rfl
theorem wd_705 : Cond.code yX6_rate cX6_rate 6 (some .int) ∈ wsA := mA (tA4 (List.mem_of_getElem? (i := 193) rfl)) rfl
theorem wd_706 : Cond.instanceMethod yX6_rate ∈ wsA := mA (tA4 (List.mem_of_getElem? (i := 191) rfl)) rfl
theorem wd_707 : Cond.selects RX6 yX6_rate yX6_rate ∈ wsA := mA (tA4 (List.mem_of_getElem? (i := 192) rfl)) rfl
theorem lk_RL_117 : lkV RL 117 yX6_rate RX6 cX6_rate 6 (some .int) 2 := ⟨wd_705, wd_704, wd_706, wd_707, wd_487, ⟨rfl, by decide +kernel, by decide +kernel, by decide +kernel⟩⟩
theorem wd_708 : Cond.methodLink RL 121 yX6_keep ∈ wsA := mA (tA4 (List.mem_of_getElem? (i := 200) rfl)) rfl
theorem wd_709 : Cond.code yX6_keep cX6_keep 3 (some .int) ∈ wsA := mA (tA4 (List.mem_of_getElem? (i := 203) rfl)) rfl
theorem wd_710 : Cond.instanceMethod yX6_keep ∈ wsA := mA (tA4 (List.mem_of_getElem? (i := 201) rfl)) rfl
theorem wd_711 : Cond.selects RX6 yX6_keep yX6_keep ∈ wsA := mA (tA4 (List.mem_of_getElem? (i := 202) rfl)) rfl
theorem lk_RL_121 : lkV RL 121 yX6_keep RX6 cX6_keep 3 (some .int) 1 := ⟨wd_709, wd_708, wd_710, wd_711, wd_487, ⟨rfl, by decide +kernel, by decide +kernel, by decide +kernel⟩⟩
theorem wd_712 : Cond.methodLink RL 125 yX6_back ∈ wsA := mA (tA4 (List.mem_of_getElem? (i := 204) rfl)) rfl
theorem wd_713 : Cond.code yX6_back cX6_back 3 (some .int) ∈ wsA := mA (tA4 (List.mem_of_getElem? (i := 207) rfl)) rfl
theorem wd_714 : Cond.instanceMethod yX6_back ∈ wsA := mA (tA4 (List.mem_of_getElem? (i := 205) rfl)) rfl
theorem wd_715 : Cond.selects RX6 yX6_back yX6_back ∈ wsA := mA (tA4 (List.mem_of_getElem? (i := 206) rfl)) rfl
theorem lk_RL_125 : lkV RL 125 yX6_back RX6 cX6_back 3 (some .int) 1 := ⟨wd_713, wd_712, wd_714, wd_715, wd_487, ⟨rfl, by decide +kernel, by decide +kernel, by decide +kernel⟩⟩
theorem wd_716 : Cond.methodLink RL 129 yX6_count ∈ wsA := mA (tA4 (List.mem_of_getElem? (i := 208) rfl)) rfl
theorem wd_717 : Cond.code yX6_count cX6_count 2 (some .int) ∈ wsA := mA (tA4 (List.mem_of_getElem? (i := 211) rfl)) rfl
theorem wd_718 : Cond.instanceMethod yX6_count ∈ wsA := mA (tA4 (List.mem_of_getElem? (i := 209) rfl)) rfl
theorem wd_719 : Cond.selects RX6 yX6_count yX6_count ∈ wsA := mA (tA4 (List.mem_of_getElem? (i := 210) rfl)) rfl
theorem lk_RL_129 : lkV RL 129 yX6_count RX6 cX6_count 2 (some .int) 1 := ⟨wd_717, wd_716, wd_718, wd_719, wd_487, ⟨rfl, by decide +kernel, by decide +kernel, by decide +kernel⟩⟩
theorem wd_720 : Cond.methodLink RL 134 yX6_trace ∈ wsA := mA (tA4 (List.mem_of_getElem? (i := 212) rfl)) rfl
theorem wd_721 : Cond.code yX6_trace cX6_trace 1 (some .long) ∈ wsA := mA (tA4 (List.mem_of_getElem? (i := 215) rfl)) rfl
theorem wd_722 : Cond.instanceMethod yX6_trace ∈ wsA := mA (tA4 (List.mem_of_getElem? (i := 213) rfl)) rfl
theorem wd_723 : Cond.selects RX6 yX6_trace yX6_trace ∈ wsA := mA (tA4 (List.mem_of_getElem? (i := 214) rfl)) rfl
theorem lk_RL_134 : lkV RL 134 yX6_trace RX6 cX6_trace 1 (some .long) 0 := ⟨wd_721, wd_720, wd_722, wd_723, wd_487, ⟨rfl, by decide +kernel, by decide +kernel, by decide +kernel⟩⟩
theorem wd_724 : Cond.native arraycopyName ∈ wsA := mA (tA2 (List.mem_of_getElem? (i := 78) rfl)) rfl
theorem wd_725 : Cond.static arraycopyName ∈ wsA := mA (tA2 (List.mem_of_getElem? (i := 77) rfl)) rfl
theorem wd_726 : Cond.initialized "java/lang/System" ∈ wsA := mA (tA1 (List.mem_of_getElem? (i := 9) rfl)) rfl
theorem wd_727 : Cond.methodLink RX4 55 arraycopyName ∈ wsA := mA (tA2 (List.mem_of_getElem? (i := 76) rfl)) rfl
theorem wd_728 : Cond.methodLink RX0 31 arraycopyName ∈ wsA := mA (tA2 (List.mem_of_getElem? (i := 181) rfl)) rfl
theorem wd_729 : Cond.initialized RL ∈ wsA := mA (tA1 (List.mem_of_getElem? (i := 0) rfl)) rfl
theorem wd_730 : Cond.classLink RL 7 RX5 ∈ wsA := mA (tA1 (List.mem_of_getElem? (i := 11) rfl)) rfl
theorem wd_731 : Cond.instantiable RX5 11 ∈ wsA := mA (tA1 (List.mem_of_getElem? (i := 12) rfl)) rfl
theorem wd_732 : Cond.methodLink RL 9 yX5_init ∈ wsA := mA (tA1 (List.mem_of_getElem? (i := 13) rfl)) rfl
theorem wd_733 : Cond.instanceMethod yX5_init ∈ wsA := mA (tA1 (List.mem_of_getElem? (i := 14) rfl)) rfl
theorem wd_734 : Cond.code yX5_init cX5_init 2 none ∈ wsA := mA (tA1 (List.mem_of_getElem? (i := 15) rfl)) rfl
theorem wd_735 : Cond.methodLink RX5 1 objectInit ∈ wsA := mA (tA1 (List.mem_of_getElem? (i := 16) rfl)) rfl
theorem wd_736 : Cond.instanceMethod objectInit ∈ wsA := mA (tA1 (List.mem_of_getElem? (i := 17) rfl)) rfl
theorem wd_737 : Cond.code objectInit ⟨#[0xb1]⟩ 1 none ∈ wsA := mA (tA1 (List.mem_of_getElem? (i := 18) rfl)) rfl
theorem wd_738 : Cond.classLink RX5 7 RX2 ∈ wsA := mA (tA1 (List.mem_of_getElem? (i := 19) rfl)) rfl
theorem wd_739 : Cond.instantiable RX2 4 ∈ wsA := mA (tA1 (List.mem_of_getElem? (i := 20) rfl)) rfl
theorem wd_740 : Cond.instanceMethod yX2_init ∈ wsA := mA (tA1 (List.mem_of_getElem? (i := 22) rfl)) rfl
theorem wd_741 : Cond.code yX2_init cX2_init 1 none ∈ wsA := mA (tA1 (List.mem_of_getElem? (i := 23) rfl)) rfl
theorem wd_742 : Cond.methodLink RX2 3 objectInit ∈ wsA := mA (tA1 (List.mem_of_getElem? (i := 24) rfl)) rfl
theorem wd_743 : Cond.classLink RX2 9 RX3 ∈ wsA := mA (tA1 (List.mem_of_getElem? (i := 25) rfl)) rfl
theorem wd_744 : Cond.instantiable RX3 6 ∈ wsA := mA (tA1 (List.mem_of_getElem? (i := 26) rfl)) rfl
theorem wd_745 : Cond.instanceMethod yX3_init ∈ wsA := mA (tA1 (List.mem_of_getElem? (i := 28) rfl)) rfl
theorem wd_746 : Cond.code yX3_init cX3_init 1 none ∈ wsA := mA (tA1 (List.mem_of_getElem? (i := 29) rfl)) rfl
theorem wd_747 : Cond.methodLink RX3 3 objectInit ∈ wsA := mA (tA1 (List.mem_of_getElem? (i := 30) rfl)) rfl
theorem wd_748 : Cond.arrayClass .int ∈ wsA := mA (tA1 (List.mem_of_getElem? (i := 54) rfl)) rfl
theorem wd_749 : Cond.classLink RX2 18 RX4 ∈ wsA := mA (tA1 (List.mem_of_getElem? (i := 55) rfl)) rfl
theorem wd_750 : Cond.instantiable RX4 14 ∈ wsA := mA (tA1 (List.mem_of_getElem? (i := 56) rfl)) rfl
theorem wd_751 : Cond.instanceMethod yX4_init ∈ wsA := mA (tA1 (List.mem_of_getElem? (i := 58) rfl)) rfl
theorem wd_752 : Cond.code yX4_init cX4_init 1 none ∈ wsA := mA (tA1 (List.mem_of_getElem? (i := 59) rfl)) rfl
theorem wd_753 : Cond.methodLink RX4 3 objectInit ∈ wsA := mA (tA1 (List.mem_of_getElem? (i := 60) rfl)) rfl
theorem wd_754 : Cond.classLink RX5 16 RX4 ∈ wsA := mA (tA1 (List.mem_of_getElem? (i := 146) rfl)) rfl
theorem wd_755 : Cond.classLink RX5 23 RX0 ∈ wsA := mA (tA1 (List.mem_of_getElem? (i := 148) rfl)) rfl
theorem wd_756 : Cond.instantiable RX0 6 ∈ wsA := mA (tA1 (List.mem_of_getElem? (i := 149) rfl)) rfl
theorem wd_757 : Cond.instanceMethod yX0_init ∈ wsA := mA (tA1 (List.mem_of_getElem? (i := 151) rfl)) rfl
theorem wd_758 : Cond.code yX0_init cX0_init 1 none ∈ wsA := mA (tA1 (List.mem_of_getElem? (i := 152) rfl)) rfl
theorem wd_759 : Cond.methodLink RX0 3 objectInit ∈ wsA := mA (tA1 (List.mem_of_getElem? (i := 153) rfl)) rfl
theorem wd_760 : Cond.classLink RX5 30 RX1 ∈ wsA := mA (tA1 (List.mem_of_getElem? (i := 179) rfl)) rfl
theorem wd_761 : Cond.instantiable RX1 3 ∈ wsA := mA (tA1 (List.mem_of_getElem? (i := 180) rfl)) rfl
theorem wd_762 : Cond.methodLink RX5 32 yX1_init ∈ wsA := mA (tA1 (List.mem_of_getElem? (i := 181) rfl)) rfl
theorem wd_763 : Cond.instanceMethod yX1_init ∈ wsA := mA (tA1 (List.mem_of_getElem? (i := 182) rfl)) rfl
theorem wd_764 : Cond.code yX1_init cX1_init 2 none ∈ wsA := mA (tA1 (List.mem_of_getElem? (i := 183) rfl)) rfl
theorem wd_765 : Cond.methodLink RX1 3 objectInit ∈ wsA := mA (tA1 (List.mem_of_getElem? (i := 184) rfl)) rfl
theorem wd_766 : Cond.classLink RX1 9 RX0 ∈ wsA := mA (tA1 (List.mem_of_getElem? (i := 185) rfl)) rfl
theorem wd_767 : Cond.arrayClass .boolean ∈ wsA := mA (tA1 (List.mem_of_getElem? (i := 233) rfl)) rfl
theorem wd_768 : Cond.classLink RL 10 RX6 ∈ wsA := mA (tA3 (List.mem_of_getElem? (i := 115) rfl)) rfl
theorem wd_769 : Cond.instantiable RX6 30 ∈ wsA := mA (tA3 (List.mem_of_getElem? (i := 116) rfl)) rfl
theorem wd_770 : Cond.methodLink RL 12 yX6_init ∈ wsA := mA (tA3 (List.mem_of_getElem? (i := 117) rfl)) rfl
theorem wd_771 : Cond.instanceMethod yX6_init ∈ wsA := mA (tA3 (List.mem_of_getElem? (i := 118) rfl)) rfl
theorem wd_772 : Cond.code yX6_init cX6_init 1 none ∈ wsA := mA (tA3 (List.mem_of_getElem? (i := 119) rfl)) rfl
theorem wd_773 : Cond.methodLink RX6 1 objectInit ∈ wsA := mA (tA3 (List.mem_of_getElem? (i := 120) rfl)) rfl
theorem nest_RX5_9 : Cond.methodLinkNest RX5 9 yX2_init RX5 ∈ lw_tbl := tA1 (List.mem_of_getElem? (i := 21) rfl)
theorem nest_RX2_11 : Cond.methodLinkNest RX2 11 yX3_init RX5 ∈ lw_tbl := tA1 (List.mem_of_getElem? (i := 27) rfl)
theorem nest_RX2_20 : Cond.methodLinkNest RX2 20 yX4_init RX5 ∈ lw_tbl := tA1 (List.mem_of_getElem? (i := 57) rfl)
theorem nest_RX5_18 : Cond.methodLinkNest RX5 18 yX4_init RX5 ∈ lw_tbl := tA1 (List.mem_of_getElem? (i := 147) rfl)
theorem nest_RX5_25 : Cond.methodLinkNest RX5 25 yX0_init RX5 ∈ lw_tbl := tA1 (List.mem_of_getElem? (i := 150) rfl)
theorem over_Bog : Cond.arrayOver (.object RX0) ∈ lw_tbl := tA1 (List.mem_of_getElem? (i := 186) rfl)
theorem nest_RX1_24 : Cond.methodLinkNest RX1 24 yX0_init RX5 ∈ lw_tbl := tA1 (List.mem_of_getElem? (i := 187) rfl)
