section WK
variable {p : Program} {l : Launch} {e : Env} {s : State} {m : MethodId} {args : Array Value} {below : List Frame} {meth : Method} {c : Code} {Q : State → Prop} {D : va_G} {cI cZ cB : ClassId} {A : Nat → Prop} {h : Nat → Nat}
abbrev rm2_readSlide : Room := { frames := 4, cells := 0, slots := 0, locals := 85 }
set_option maxHeartbeats 4000000 in
set_option maxRecDepth 100000 in
theorem w2_readSlide_b0 {res : Int32 × Sg} (C : Cx p m c cX2_readSlide 1 s args RX2 D (tyL cI cZ cB)) (hR : EndZ p l e rm2_readSlide s m args below meth c Q D (wX cI cZ cB h) A cX2_readSlide res) : ∀ (g : Sg) (H : Heap) (locs : List Loc) (ls : Array Slot), f2_readSlide g = some res → Zs D (wX cI cZ cB h) A s.heap H locs g → lv_has ls 1 [(0, .ref (h 122))] → W p l e rm2_readSlide s m args below meth c H locs 0 0 Q (F0 m 0 ls []) := by
  have hx := C.1.1
  have hb := C.1.2.1
  intro g H locs ls hf hz hl
  unfold f2_readSlide at hf
  refine lv_aload_n hx hb dX2_readSlide_0 rfl (lv_at hl 0 rfl) ?_
  refine g_RX2_29_reader C hz dX2_readSlide_1 ?_
  refine lv_if_ne (tgt := 17) hx hb dX2_readSlide_4 (by decide) (fun c1 => ?_) (fun c1 => ?_)
  · have hf := ite_f hf c1
    refine lv_iconst (v := (0 : Int32)) hx hb dX2_readSlide_17 (by decide) ?_
    exact hR _ _ _ _ _ _ hf hz dX2_readSlide_18
  · have hf := ite_t hf c1
    refine lv_aload_n hx hb dX2_readSlide_7 rfl (lv_at hl 0 rfl) ?_
    refine lv_iconst (v := (1 : Int32)) hx hb dX2_readSlide_8 (by decide) ?_
    refine lv_bipush (v := (27 : Int32)) hx hb dX2_readSlide_9 (by decide) ?_
    obtain ⟨r4, g3, hc2, hf⟩ := bd2_elim hf
    refine z_VI (As := [.int (1 : Int32), .int (27 : Int32)]) (rest := []) C (c2_readNumber hc2) lk_RX2_67 ⟨rfl, rfl, Nat.le_of_ble_eq_true rfl, Nat.le_of_ble_eq_true rfl⟩ ⟨Nat.zero_le _, Nat.zero_le _⟩ o_reader rfl rfl (Nat.le_of_ble_eq_true rfl) rfl hl.1 dX2_readSlide_11 hz (fun H locs hz => ?_)
    refine lv_if_ne (tgt := 19) hx hb dX2_readSlide_14 (by decide) (fun c5 => ?_) (fun c5 => ?_)
    · have hf := ite_f hf c5
      refine lv_aload_n hx hb dX2_readSlide_19 rfl (lv_at hl 0 rfl) ?_
      refine lv_iconst (v := (1 : Int32)) hx hb dX2_readSlide_20 (by decide) ?_
      obtain ⟨g6, eg6, hf⟩ := nx_elim hf
      refine p_RX2_29_reader C hz rfl rfl eg6 dX2_readSlide_21 (fun H locs hz => ?_)
      refine lv_aload_n hx hb dX2_readSlide_24 rfl (lv_at hl 0 rfl) ?_
      refine g_RX2_21_reader C hz dX2_readSlide_25 ?_
      refine lv_aload_n hx hb dX2_readSlide_28 rfl (lv_at hl 0 rfl) ?_
      refine g_RX2_12_reader C hz dX2_readSlide_29 ?_
      refine g_RX2_75_text C hz dX2_readSlide_32 ?_
      obtain ⟨g7, eg7, hf⟩ := nx_elim hf
      refine p_RX2_118_rtold C hz eg7 dX2_readSlide_35 (fun H locs hz => ?_)
      refine lv_aload_n hx hb dX2_readSlide_38 rfl (lv_at hl 0 rfl) ?_
      obtain ⟨r10, g9, hc8, hf⟩ := bd2_elim hf
      refine z_VI (As := []) (rest := []) C (c2_readEnd hc8) lk_RX2_81 ⟨rfl, rfl, Nat.le_of_ble_eq_true rfl, Nat.le_of_ble_eq_true rfl⟩ ⟨Nat.zero_le _, Nat.zero_le _⟩ o_reader rfl rfl (Nat.le_of_ble_eq_true rfl) rfl hl.1 dX2_readSlide_39 hz (fun H locs hz => ?_)
      exact hR _ _ _ _ _ _ hf hz dX2_readSlide_42
    · have hf := ite_t hf c5
      refine lv_iconst (v := (0 : Int32)) hx hb dX2_readSlide_17 (by decide) ?_
      exact hR _ _ _ _ _ _ hf hz dX2_readSlide_18
set_option maxHeartbeats 4000000 in
set_option maxRecDepth 100000 in
theorem c2_readSlide {l : Launch} {D : va_G} {cI cZ cB : ClassId} {h : Nat → Nat} {g : Sg} {r : Int32} {g1 : Sg} (hf : f2_readSlide g = some (r, g1)) : KI l D (tyL cI cZ cB) (wX cI cZ cB h) yX2_readSlide cX2_readSlide 1 (some .boolean) rm2_readSlide [.ref (h 122)] g r g1 := by
  refine KZ_mk (own := RX2) (by decide +kernel) rfl (Nat.le_of_ble_eq_true rfl) ?_
  intro p e s m below meth c A Q ls C hR hz hl
  have hl : lv_has ls 1 [(0, .ref (h 122))] := hl
  exact w2_readSlide_b0 C hR _ _ _ _ hf hz hl
abbrev rm2_readAll : Room := { frames := 5, cells := 0, slots := 0, locals := 107 }
set_option maxHeartbeats 4000000 in
set_option maxRecDepth 100000 in
theorem w2_readAll_b161 {res : Int32 × Sg} (C : Cx p m c cX2_readAll 3 s args RX2 D (tyL cI cZ cB)) (hR : EndI p l e rm2_readAll s m args below meth c Q D (wX cI cZ cB h) A cX2_readAll res) : ∀ (g : Sg) (H : Heap) (locs : List Loc) (ls : Array Slot), f2_readAll_b161 g = some res → Zs D (wX cI cZ cB h) A s.heap H locs g → lv_has ls 3 [(0, .ref (h 122))] → W p l e rm2_readAll s m args below meth c H locs 0 0 Q (F0 m 161 ls []) := by
  have hx := C.1.1
  have hb := C.1.2.1
  intro g H locs ls hf hz hl
  unfold f2_readAll_b161 at hf
  refine lv_bipush (v := (-10 : Int32)) hx hb dX2_readAll_161 (by decide) ?_
  refine lv_aload_n hx hb dX2_readAll_163 rfl (lv_at hl 0 rfl) ?_
  refine g_RX2_12_reader C hz dX2_readAll_164 ?_
  refine g_RX2_61_text C hz dX2_readAll_167 ?_
  refine lv_isub hx hb dX2_readAll_170 ?_
  exact hR _ _ _ _ _ _ (Option.some.inj hf) hz dX2_readAll_171
set_option maxHeartbeats 4000000 in
set_option maxRecDepth 100000 in
theorem w2_readAll_b148 {res : Int32 × Sg} {k26 : Int32 → Sg → Option (Int32 × Sg)} (C : Cx p m c cX2_readAll 3 s args RX2 D (tyL cI cZ cB)) (hR : EndI p l e rm2_readAll s m args below meth c Q D (wX cI cZ cB h) A cX2_readAll res) (hk26 : ∀ (x1 : Int32) (g : Sg) (H : Heap) (locs : List Loc) (ls : Array Slot), k26 x1 g = some res → Zs D (wX cI cZ cB h) A s.heap H locs g → lv_has ls 3 [(0, .ref (h 122)), (1, .int x1)] → W p l e rm2_readAll s m args below meth c H locs 0 0 Q (F0 m 26 ls [])) : ∀ (x1 : Int32) (x2 : Int32) (g : Sg) (H : Heap) (locs : List Loc) (ls : Array Slot), f2_readAll_b148 k26 x1 x2 g = some res → Zs D (wX cI cZ cB h) A s.heap H locs g → lv_has ls 3 [(0, .ref (h 122)), (1, .int x1), (2, .int x2)] → W p l e rm2_readAll s m args below meth c H locs 0 0 Q (F0 m 148 ls []) := by
  have hx := C.1.1
  have hb := C.1.2.1
  intro x1 x2 g H locs ls hf hz hl
  unfold f2_readAll_b148 at hf
  refine lv_iload_n hx hb dX2_readAll_148 rfl (lv_at hl 2 rfl) ?_
  refine lv_if_ne (tgt := 155) hx hb dX2_readAll_149 (by decide) (fun c1 => ?_) (fun c1 => ?_)
  · have hf := ite_f hf c1
    obtain ⟨v2, ev2, hf⟩ := nx_elim hf
    refine lv_iinc (v := v2) (lv' := [(1, .int v2), (0, .ref (h 122)), (2, .int x2)]) hx hb dX2_readAll_155 hl (k := 1) rfl (by rw [ev2]; rfl) (by decide) rfl (fun ls hl => ?_)
    refine lv_goto (tgt := 26) hx hb dX2_readAll_158 (by decide) ?_
    exact hk26 _ _ _ _ _ hf hz (lv_sub hl [1, 0] rfl)
  · have hf := ite_t hf c1
    refine lv_goto (tgt := 161) hx hb dX2_readAll_152 (by decide) ?_
    exact w2_readAll_b161 C hR _ _ _ _ hf hz (lv_sub hl [0] rfl)
set_option maxHeartbeats 4000000 in
set_option maxRecDepth 100000 in
theorem w2_readAll_b26 {res : Int32 × Sg} (C : Cx p m c cX2_readAll 3 s args RX2 D (tyL cI cZ cB)) (hR : EndI p l e rm2_readAll s m args below meth c Q D (wX cI cZ cB h) A cX2_readAll res) : ∀ n : Nat, ∀ (x1 : Int32) (g : Sg) (H : Heap) (locs : List Loc) (ls : Array Slot), f2_readAll_b26 n x1 g = some res → Zs D (wX cI cZ cB h) A s.heap H locs g → lv_has ls 3 [(0, .ref (h 122)), (1, .int x1)] → W p l e rm2_readAll s m args below meth c H locs 0 0 Q (F0 m 26 ls []) := by
  have hx := C.1.1
  have hb := C.1.2.1
  intro n
  induction n with
  | zero =>
    intro x1 g H locs ls hf hz hl
    cases hf
  | succ n ih =>
    intro x1 g H locs ls hf hz hl
    rw [f2_readAll_b26] at hf
    refine lv_iload_n hx hb dX2_readAll_26 rfl (lv_at hl 1 rfl) ?_
    refine lv_sipush (v := (200 : Int32)) hx hb dX2_readAll_27 (by decide) ?_
    refine lv_icmp_gt (tgt := 161) hx hb dX2_readAll_30 (by decide) (fun c3 => ?_) (fun c3 => ?_)
    · have hf := ite_t hf c3
      exact w2_readAll_b161 C hR _ _ _ _ hf hz (lv_sub hl [0] rfl)
    · have hf := ite_f hf c3
      refine lv_aload_n hx hb dX2_readAll_33 rfl (lv_at hl 0 rfl) ?_
      refine g_RX2_12_reader C hz dX2_readAll_34 ?_
      obtain ⟨g5, hc4, hf⟩ := bd_elim hf
      refine z_VV (As := []) (rest := []) C (c3_readToken hc4) lk_RX2_38 ⟨rfl, rfl, Nat.le_of_ble_eq_true rfl, Nat.le_of_ble_eq_true rfl⟩ ⟨Nat.zero_le _, Nat.zero_le _⟩ o_text rfl rfl (Nat.le_of_ble_eq_true rfl) rfl hl.1 dX2_readAll_37 hz (fun H locs hz => ?_)
      refine lv_aload_n hx hb dX2_readAll_40 rfl (lv_at hl 0 rfl) ?_
      refine g_RX2_12_reader C hz dX2_readAll_41 ?_
      refine g_RX2_41_text C hz dX2_readAll_44 ?_
      by_cases c6 : (g5.1 121 1) = (-1 : Int32)
      · have hf := ite_t hf c6
        refine lv_lookup (off := 57) (tgt := 104) hx hb dX2_readAll_47 (by decide) (by rw [c6]; decide) (by decide) ?_
        refine lv_iload_n hx hb dX2_readAll_104 rfl (lv_at hl 1 rfl) ?_
        exact hR _ _ _ _ _ _ (Option.some.inj hf) hz dX2_readAll_105
      have hf := ite_f hf c6
      by_cases c7 : (g5.1 121 1) = (97 : Int32)
      · have hf := ite_t hf c7
        refine lv_lookup (off := 83) (tgt := 130) hx hb dX2_readAll_47 (by decide) (by rw [c7]; decide) (by decide) ?_
        refine lv_aload_n hx hb dX2_readAll_130 rfl (lv_at hl 0 rfl) ?_
        obtain ⟨r10, g9, hc8, hf⟩ := bd2_elim hf
        refine z_VI (As := []) (rest := []) C (c2_readAcid hc8) lk_RX2_55 ⟨rfl, rfl, Nat.le_of_ble_eq_true rfl, Nat.le_of_ble_eq_true rfl⟩ ⟨Nat.zero_le _, Nat.zero_le _⟩ o_reader rfl rfl (Nat.le_of_ble_eq_true rfl) rfl hl.1 dX2_readAll_131 hz (fun H locs hz => ?_)
        refine lv_istore_n (lv' := [(2, .int r10), (0, .ref (h 122)), (1, .int x1)]) hx hb dX2_readAll_134 rfl hl (by decide) rfl (fun ls hl => ?_)
        refine lv_goto (tgt := 148) hx hb dX2_readAll_135 (by decide) ?_
        exact w2_readAll_b148 C hR ih _ _ _ _ _ _ hf hz (lv_sub hl [1, 2, 0] rfl)
      have hf := ite_f hf c7
      by_cases c11 : (g5.1 121 1) = (109 : Int32)
      · have hf := ite_t hf c11
        refine lv_lookup (off := 67) (tgt := 114) hx hb dX2_readAll_47 (by decide) (by rw [c11]; decide) (by decide) ?_
        refine lv_aload_n hx hb dX2_readAll_114 rfl (lv_at hl 0 rfl) ?_
        obtain ⟨r14, g13, hc12, hf⟩ := bd2_elim hf
        refine z_VI (As := []) (rest := []) C (c2_readPromise hc12) lk_RX2_49 ⟨rfl, rfl, Nat.le_of_ble_eq_true rfl, Nat.le_of_ble_eq_true rfl⟩ ⟨Nat.zero_le _, Nat.zero_le _⟩ o_reader rfl rfl (Nat.le_of_ble_eq_true rfl) rfl hl.1 dX2_readAll_115 hz (fun H locs hz => ?_)
        refine lv_istore_n (lv' := [(2, .int r14), (0, .ref (h 122)), (1, .int x1)]) hx hb dX2_readAll_118 rfl hl (by decide) rfl (fun ls hl => ?_)
        refine lv_goto (tgt := 148) hx hb dX2_readAll_119 (by decide) ?_
        exact w2_readAll_b148 C hR ih _ _ _ _ _ _ hf hz (lv_sub hl [1, 2, 0] rfl)
      have hf := ite_f hf c11
      by_cases c15 : (g5.1 121 1) = (112 : Int32)
      · have hf := ite_t hf c15
        refine lv_lookup (off := 59) (tgt := 106) hx hb dX2_readAll_47 (by decide) (by rw [c15]; decide) (by decide) ?_
        refine lv_aload_n hx hb dX2_readAll_106 rfl (lv_at hl 0 rfl) ?_
        obtain ⟨r18, g17, hc16, hf⟩ := bd2_elim hf
        refine z_VI (As := []) (rest := []) C (c2_readPerson hc16) lk_RX2_45 ⟨rfl, rfl, Nat.le_of_ble_eq_true rfl, Nat.le_of_ble_eq_true rfl⟩ ⟨Nat.zero_le _, Nat.zero_le _⟩ o_reader rfl rfl (Nat.le_of_ble_eq_true rfl) rfl hl.1 dX2_readAll_107 hz (fun H locs hz => ?_)
        refine lv_istore_n (lv' := [(2, .int r18), (0, .ref (h 122)), (1, .int x1)]) hx hb dX2_readAll_110 rfl hl (by decide) rfl (fun ls hl => ?_)
        refine lv_goto (tgt := 148) hx hb dX2_readAll_111 (by decide) ?_
        exact w2_readAll_b148 C hR ih _ _ _ _ _ _ hf hz (lv_sub hl [1, 2, 0] rfl)
      have hf := ite_f hf c15
      by_cases c19 : (g5.1 121 1) = (115 : Int32)
      · have hf := ite_t hf c19
        refine lv_lookup (off := 91) (tgt := 138) hx hb dX2_readAll_47 (by decide) (by rw [c19]; decide) (by decide) ?_
        refine lv_aload_n hx hb dX2_readAll_138 rfl (lv_at hl 0 rfl) ?_
        obtain ⟨r22, g21, hc20, hf⟩ := bd2_elim hf
        refine z_VI (As := []) (rest := []) C (c2_readSlide hc20) lk_RX2_58 ⟨rfl, rfl, Nat.le_of_ble_eq_true rfl, Nat.le_of_ble_eq_true rfl⟩ ⟨Nat.zero_le _, Nat.zero_le _⟩ o_reader rfl rfl (Nat.le_of_ble_eq_true rfl) rfl hl.1 dX2_readAll_139 hz (fun H locs hz => ?_)
        refine lv_istore_n (lv' := [(2, .int r22), (0, .ref (h 122)), (1, .int x1)]) hx hb dX2_readAll_142 rfl hl (by decide) rfl (fun ls hl => ?_)
        refine lv_goto (tgt := 148) hx hb dX2_readAll_143 (by decide) ?_
        exact w2_readAll_b148 C hR ih _ _ _ _ _ _ hf hz (lv_sub hl [1, 2, 0] rfl)
      have hf := ite_f hf c19
      by_cases c23 : (g5.1 121 1) = (120 : Int32)
      · have hf := ite_t hf c23
        refine lv_lookup (off := 75) (tgt := 122) hx hb dX2_readAll_47 (by decide) (by rw [c23]; decide) (by decide) ?_
        refine lv_aload_n hx hb dX2_readAll_122 rfl (lv_at hl 0 rfl) ?_
        obtain ⟨r26, g25, hc24, hf⟩ := bd2_elim hf
        refine z_VI (As := []) (rest := []) C (c2_readClash hc24) lk_RX2_52 ⟨rfl, rfl, Nat.le_of_ble_eq_true rfl, Nat.le_of_ble_eq_true rfl⟩ ⟨Nat.zero_le _, Nat.zero_le _⟩ o_reader rfl rfl (Nat.le_of_ble_eq_true rfl) rfl hl.1 dX2_readAll_123 hz (fun H locs hz => ?_)
        refine lv_istore_n (lv' := [(2, .int r26), (0, .ref (h 122)), (1, .int x1)]) hx hb dX2_readAll_126 rfl hl (by decide) rfl (fun ls hl => ?_)
        refine lv_goto (tgt := 148) hx hb dX2_readAll_127 (by decide) ?_
        exact w2_readAll_b148 C hR ih _ _ _ _ _ _ hf hz (lv_sub hl [1, 2, 0] rfl)
      have hf := ite_f hf c23
      refine lv_lookup (off := 99) (tgt := 146) hx hb dX2_readAll_47 (by decide) (by show Op.lookupswitch.offset [(-1, 57), (97, 83), (109, 67), (112, 59), (115, 91), (120, 75)] 99 _ = _; rw [lv_osw (a := -1) c6 rfl, lv_osw (a := 97) c7 rfl, lv_osw (a := 109) c11 rfl, lv_osw (a := 112) c15 rfl, lv_osw (a := 115) c19 rfl, lv_osw (a := 120) c23 rfl]; rfl) (by decide) ?_
      refine lv_iconst (v := (0 : Int32)) hx hb dX2_readAll_146 (by decide) ?_
      refine lv_istore_n (lv' := [(2, .int (0 : Int32)), (0, .ref (h 122)), (1, .int x1)]) hx hb dX2_readAll_147 rfl hl (by decide) rfl (fun ls hl => ?_)
      exact w2_readAll_b148 C hR ih _ _ _ _ _ _ hf hz (lv_sub hl [1, 2, 0] rfl)
set_option maxHeartbeats 4000000 in
set_option maxRecDepth 100000 in
theorem w2_readAll_b0 {res : Int32 × Sg} (C : Cx p m c cX2_readAll 3 s args RX2 D (tyL cI cZ cB)) (hR : EndI p l e rm2_readAll s m args below meth c Q D (wX cI cZ cB h) A cX2_readAll res) : ∀ (g : Sg) (H : Heap) (locs : List Loc) (ls : Array Slot), f2_readAll g = some res → Zs D (wX cI cZ cB h) A s.heap H locs g → lv_has ls 3 [(0, .ref (h 122))] → W p l e rm2_readAll s m args below meth c H locs 0 0 Q (F0 m 0 ls []) := by
  have hx := C.1.1
  have hb := C.1.2.1
  intro g H locs ls hf hz hl
  unfold f2_readAll at hf
  refine lv_aload_n hx hb dX2_readAll_0 rfl (lv_at hl 0 rfl) ?_
  refine g_RX2_21_reader C hz dX2_readAll_1 ?_
  obtain ⟨g28, hc27, hf⟩ := bd_elim hf
  refine z_VV (As := []) (rest := []) C (c4_beginAgain hc27) lk_RX2_32 ⟨rfl, rfl, Nat.le_of_ble_eq_true rfl, Nat.le_of_ble_eq_true rfl⟩ ⟨Nat.zero_le _, Nat.zero_le _⟩ o_rtold rfl rfl (Nat.le_of_ble_eq_true rfl) rfl hl.1 dX2_readAll_4 hz (fun H locs hz => ?_)
  refine lv_aload_n hx hb dX2_readAll_7 rfl (lv_at hl 0 rfl) ?_
  refine lv_iconst (v := (0 : Int32)) hx hb dX2_readAll_8 (by decide) ?_
  obtain ⟨g29, eg29, hf⟩ := nx_elim hf
  refine p_RX2_25_reader C hz rfl rfl eg29 dX2_readAll_9 (fun H locs hz => ?_)
  refine lv_aload_n hx hb dX2_readAll_12 rfl (lv_at hl 0 rfl) ?_
  refine lv_iconst (v := (0 : Int32)) hx hb dX2_readAll_13 (by decide) ?_
  obtain ⟨g30, eg30, hf⟩ := nx_elim hf
  refine p_RX2_29_reader C hz rfl rfl eg30 dX2_readAll_14 (fun H locs hz => ?_)
  refine lv_aload_n hx hb dX2_readAll_17 rfl (lv_at hl 0 rfl) ?_
  refine g_RX2_12_reader C hz dX2_readAll_18 ?_
  obtain ⟨g32, hc31, hf⟩ := bd_elim hf
  refine z_VV (As := []) (rest := []) C (c3_toFront hc31) lk_RX2_35 ⟨rfl, rfl, Nat.le_of_ble_eq_true rfl, Nat.le_of_ble_eq_true rfl⟩ ⟨Nat.zero_le _, Nat.zero_le _⟩ o_text rfl rfl (Nat.le_of_ble_eq_true rfl) rfl hl.1 dX2_readAll_21 hz (fun H locs hz => ?_)
  refine lv_iconst (v := (0 : Int32)) hx hb dX2_readAll_24 (by decide) ?_
  refine lv_istore_n (lv' := [(1, .int (0 : Int32)), (0, .ref (h 122))]) hx hb dX2_readAll_25 rfl hl (by decide) rfl (fun ls hl => ?_)
  exact w2_readAll_b26 C hR 1000 _ _ _ _ _ hf hz (lv_sub hl [1, 0] rfl)
set_option maxHeartbeats 4000000 in
set_option maxRecDepth 100000 in
theorem c2_readAll {l : Launch} {D : va_G} {cI cZ cB : ClassId} {h : Nat → Nat} {g : Sg} {r : Int32} {g1 : Sg} (hf : f2_readAll g = some (r, g1)) : KI l D (tyL cI cZ cB) (wX cI cZ cB h) yX2_readAll cX2_readAll 3 (some .int) rm2_readAll [.ref (h 122)] g r g1 := by
  refine KI_mk (own := RX2) (by decide +kernel) rfl (Nat.le_of_ble_eq_true rfl) ?_
  intro p e s m below meth c A Q ls C hR hz hl
  have hl : lv_has ls 3 [(0, .ref (h 122))] := hl
  exact w2_readAll_b0 C hR _ _ _ _ hf hz hl
abbrev rm3_add : Room := { frames := 0, cells := 0, slots := 0, locals := 0 }
set_option maxHeartbeats 4000000 in
set_option maxRecDepth 100000 in
theorem w3_add_b0 {res : Int32 × Sg} (C : Cx p m c cX3_add 2 s args RX3 D (tyL cI cZ cB)) (hR : EndZ p l e rm3_add s m args below meth c Q D (wX cI cZ cB h) A cX3_add res) : ∀ (x1 : Int32) (g : Sg) (H : Heap) (locs : List Loc) (ls : Array Slot), f3_add x1 g = some res → Zs D (wX cI cZ cB h) A s.heap H locs g → lv_has ls 2 [(0, .ref (h 121)), (1, .int x1)] → W p l e rm3_add s m args below meth c H locs 0 0 Q (F0 m 0 ls []) := by
  have hx := C.1.1
  have hb := C.1.2.1
  intro x1 g H locs ls hf hz hl
  unfold f3_add at hf
  refine lv_aload_n hx hb dX3_add_0 rfl (lv_at hl 0 rfl) ?_
  refine g_RX3_15_text C hz dX3_add_1 ?_
  refine lv_if_lt (tgt := 17) hx hb dX3_add_4 (by decide) (fun c1 => ?_) (fun c1 => ?_)
  · have hf := ite_t hf c1
    refine lv_iconst (v := (0 : Int32)) hx hb dX3_add_17 (by decide) ?_
    exact hR _ _ _ _ _ _ hf hz dX3_add_18
  · have hf := ite_f hf c1
    refine lv_aload_n hx hb dX3_add_7 rfl (lv_at hl 0 rfl) ?_
    refine g_RX3_15_text C hz dX3_add_8 ?_
    refine lv_sipush (v := (200 : Int32)) hx hb dX3_add_11 (by decide) ?_
    refine lv_icmp_lt (tgt := 19) hx hb dX3_add_14 (by decide) (fun c2 => ?_) (fun c2 => ?_)
    · have hf := ite_t hf c2
      refine lv_aload_n hx hb dX3_add_19 rfl (lv_at hl 0 rfl) ?_
      refine g_RX3_9_text C hz dX3_add_20 ?_
      refine lv_aload_n hx hb dX3_add_23 rfl (lv_at hl 0 rfl) ?_
      refine g_RX3_15_text C hz dX3_add_24 ?_
      refine lv_iload_n hx hb dX3_add_27 rfl (lv_at hl 1 rfl) ?_
      obtain ⟨c3, hf⟩ := ix_elim hf
      obtain ⟨g4, eg4, hf⟩ := nx_elim hf
      refine z_iast C hz a_x_letters c3 eg4 dX3_add_28 (fun H locs hz => ?_)
      refine lv_aload_n hx hb dX3_add_29 rfl (lv_at hl 0 rfl) ?_
      refine lv_dup hx hb dX3_add_30 rfl ?_
      refine g_RX3_15_text C hz dX3_add_31 ?_
      refine lv_iconst (v := (1 : Int32)) hx hb dX3_add_34 (by decide) ?_
      refine lv_iadd hx hb dX3_add_35 ?_
      obtain ⟨g5, eg5, hf⟩ := nx_elim hf
      refine p_RX3_15_text C hz eg5 dX3_add_36 (fun H locs hz => ?_)
      refine lv_iconst (v := (1 : Int32)) hx hb dX3_add_39 (by decide) ?_
      exact hR _ _ _ _ _ _ hf hz dX3_add_40
    · have hf := ite_f hf c2
      refine lv_iconst (v := (0 : Int32)) hx hb dX3_add_17 (by decide) ?_
      exact hR _ _ _ _ _ _ hf hz dX3_add_18
set_option maxHeartbeats 4000000 in
set_option maxRecDepth 100000 in
theorem c3_add {l : Launch} {D : va_G} {cI cZ cB : ClassId} {h : Nat → Nat} {x1 : Int32} {g : Sg} {r : Int32} {g1 : Sg} (hf : f3_add x1 g = some (r, g1)) : KI l D (tyL cI cZ cB) (wX cI cZ cB h) yX3_add cX3_add 2 (some .boolean) rm3_add [.ref (h 121), .int x1] g r g1 := by
  refine KZ_mk (own := RX3) (by decide +kernel) rfl (Nat.le_of_ble_eq_true rfl) ?_
  intro p e s m below meth c A Q ls C hR hz hl
  have hl : lv_has ls 2 [(0, .ref (h 121)), (1, .int x1)] := hl
  exact w3_add_b0 C hR _ _ _ _ _ hf hz hl
abbrev rm4_become : Room := { frames := 1, cells := 0, slots := 0, locals := 26 }
set_option maxHeartbeats 4000000 in
set_option maxRecDepth 100000 in
theorem w4_become_b0 {res : Sg} (C : Cx p m c cX4_become 2 s args RX4 D (tyL cI cZ cB)) (hR : EndV p l e rm4_become s m args below meth c Q D (wX cI cZ cB h) A cX4_become res) : ∀ (g : Sg) (H : Heap) (locs : List Loc) (ls : Array Slot), f4_become g = some res → Zs D (wX cI cZ cB h) A s.heap H locs g → lv_has ls 2 [(0, .ref (h 90)), (1, .ref (h 110))] → W p l e rm4_become s m args below meth c H locs 0 0 Q (F0 m 0 ls []) := by
  have hx := C.1.1
  have hb := C.1.2.1
  intro g H locs ls hf hz hl
  unfold f4_become at hf
  refine lv_aload_n hx hb dX4_become_0 rfl (lv_at hl 1 rfl) ?_
  refine g_RX4_9_rtold C hz dX4_become_1 ?_
  refine lv_iconst (v := (0 : Int32)) hx hb dX4_become_4 (by decide) ?_
  refine lv_aload_n hx hb dX4_become_5 rfl (lv_at hl 0 rfl) ?_
  refine g_RX4_9_told C hz dX4_become_6 ?_
  refine lv_iconst (v := (0 : Int32)) hx hb dX4_become_9 (by decide) ?_
  refine lv_bipush (v := (6 : Int32)) hx hb dX4_become_10 (by decide) ?_
  obtain ⟨g1, eg1, hf⟩ := nx_elim hf
  refine z_copy (N := 6) C hz a_rtold_dies a_told_dies hl.1 wd_727 wd_724 wd_725 wd_726 rfl (by decide) (by decide) (by decide) (Nat.le_of_ble_eq_true rfl) (Nat.le_of_ble_eq_true (by decide +kernel)) eg1 dX4_become_12 (fun H locs hz => ?_)
  refine lv_aload_n hx hb dX4_become_15 rfl (lv_at hl 1 rfl) ?_
  refine g_RX4_15_rtold C hz dX4_become_16 ?_
  refine lv_iconst (v := (0 : Int32)) hx hb dX4_become_19 (by decide) ?_
  refine lv_aload_n hx hb dX4_become_20 rfl (lv_at hl 0 rfl) ?_
  refine g_RX4_15_told C hz dX4_become_21 ?_
  refine lv_iconst (v := (0 : Int32)) hx hb dX4_become_24 (by decide) ?_
  refine lv_bipush (v := (6 : Int32)) hx hb dX4_become_25 (by decide) ?_
  obtain ⟨g2, eg2, hf⟩ := nx_elim hf
  refine z_copy (N := 6) C hz a_rtold_heir a_told_heir hl.1 wd_727 wd_724 wd_725 wd_726 rfl (by decide) (by decide) (by decide) (Nat.le_of_ble_eq_true rfl) (Nat.le_of_ble_eq_true (by decide +kernel)) eg2 dX4_become_27 (fun H locs hz => ?_)
  refine lv_aload_n hx hb dX4_become_30 rfl (lv_at hl 1 rfl) ?_
  refine g_RX4_18_rtold C hz dX4_become_31 ?_
  refine lv_iconst (v := (0 : Int32)) hx hb dX4_become_34 (by decide) ?_
  refine lv_aload_n hx hb dX4_become_35 rfl (lv_at hl 0 rfl) ?_
  refine g_RX4_18_told C hz dX4_become_36 ?_
  refine lv_iconst (v := (0 : Int32)) hx hb dX4_become_39 (by decide) ?_
  refine lv_bipush (v := (8 : Int32)) hx hb dX4_become_40 (by decide) ?_
  obtain ⟨g3, eg3, hf⟩ := nx_elim hf
  refine z_copy (N := 8) C hz a_rtold_who a_told_who hl.1 wd_727 wd_724 wd_725 wd_726 rfl (by decide) (by decide) (by decide) (Nat.le_of_ble_eq_true rfl) (Nat.le_of_ble_eq_true (by decide +kernel)) eg3 dX4_become_42 (fun H locs hz => ?_)
  refine lv_aload_n hx hb dX4_become_45 rfl (lv_at hl 1 rfl) ?_
  refine g_RX4_21_rtold C hz dX4_become_46 ?_
  refine lv_iconst (v := (0 : Int32)) hx hb dX4_become_49 (by decide) ?_
  refine lv_aload_n hx hb dX4_become_50 rfl (lv_at hl 0 rfl) ?_
  refine g_RX4_21_told C hz dX4_become_51 ?_
  refine lv_iconst (v := (0 : Int32)) hx hb dX4_become_54 (by decide) ?_
  refine lv_bipush (v := (8 : Int32)) hx hb dX4_become_55 (by decide) ?_
  obtain ⟨g4, eg4, hf⟩ := nx_elim hf
  refine z_copy (N := 8) C hz a_rtold_cell a_told_cell hl.1 wd_727 wd_724 wd_725 wd_726 rfl (by decide) (by decide) (by decide) (Nat.le_of_ble_eq_true rfl) (Nat.le_of_ble_eq_true (by decide +kernel)) eg4 dX4_become_57 (fun H locs hz => ?_)
  refine lv_aload_n hx hb dX4_become_60 rfl (lv_at hl 1 rfl) ?_
  refine g_RX4_24_rtold C hz dX4_become_61 ?_
  refine lv_iconst (v := (0 : Int32)) hx hb dX4_become_64 (by decide) ?_
  refine lv_aload_n hx hb dX4_become_65 rfl (lv_at hl 0 rfl) ?_
  refine g_RX4_24_told C hz dX4_become_66 ?_
  refine lv_iconst (v := (0 : Int32)) hx hb dX4_become_69 (by decide) ?_
  refine lv_bipush (v := (8 : Int32)) hx hb dX4_become_70 (by decide) ?_
  obtain ⟨g5, eg5, hf⟩ := nx_elim hf
  refine z_copy (N := 8) C hz a_rtold_depth a_told_depth hl.1 wd_727 wd_724 wd_725 wd_726 rfl (by decide) (by decide) (by decide) (Nat.le_of_ble_eq_true rfl) (Nat.le_of_ble_eq_true (by decide +kernel)) eg5 dX4_become_72 (fun H locs hz => ?_)
  refine lv_aload_n hx hb dX4_become_75 rfl (lv_at hl 1 rfl) ?_
  refine g_RX4_27_rtold C hz dX4_become_76 ?_
  refine lv_iconst (v := (0 : Int32)) hx hb dX4_become_79 (by decide) ?_
  refine lv_aload_n hx hb dX4_become_80 rfl (lv_at hl 0 rfl) ?_
  refine g_RX4_27_told C hz dX4_become_81 ?_
  refine lv_iconst (v := (0 : Int32)) hx hb dX4_become_84 (by decide) ?_
  refine lv_bipush (v := (8 : Int32)) hx hb dX4_become_85 (by decide) ?_
  obtain ⟨g6, eg6, hf⟩ := nx_elim hf
  refine z_copy (N := 8) C hz a_rtold_span a_told_span hl.1 wd_727 wd_724 wd_725 wd_726 rfl (by decide) (by decide) (by decide) (Nat.le_of_ble_eq_true rfl) (Nat.le_of_ble_eq_true (by decide +kernel)) eg6 dX4_become_87 (fun H locs hz => ?_)
  refine lv_aload_n hx hb dX4_become_90 rfl (lv_at hl 1 rfl) ?_
  refine g_RX4_30_rtold C hz dX4_become_91 ?_
  refine lv_iconst (v := (0 : Int32)) hx hb dX4_become_94 (by decide) ?_
  refine lv_aload_n hx hb dX4_become_95 rfl (lv_at hl 0 rfl) ?_
  refine g_RX4_30_told C hz dX4_become_96 ?_
  refine lv_iconst (v := (0 : Int32)) hx hb dX4_become_99 (by decide) ?_
  refine lv_bipush (v := (8 : Int32)) hx hb dX4_become_100 (by decide) ?_
  obtain ⟨g7, eg7, hf⟩ := nx_elim hf
  refine z_copy (N := 8) C hz a_rtold_due a_told_due hl.1 wd_727 wd_724 wd_725 wd_726 rfl (by decide) (by decide) (by decide) (Nat.le_of_ble_eq_true rfl) (Nat.le_of_ble_eq_true (by decide +kernel)) eg7 dX4_become_102 (fun H locs hz => ?_)
  refine lv_aload_n hx hb dX4_become_105 rfl (lv_at hl 1 rfl) ?_
  refine g_RX4_33_rtold C hz dX4_become_106 ?_
  refine lv_iconst (v := (0 : Int32)) hx hb dX4_become_109 (by decide) ?_
  refine lv_aload_n hx hb dX4_become_110 rfl (lv_at hl 0 rfl) ?_
  refine g_RX4_33_told C hz dX4_become_111 ?_
  refine lv_iconst (v := (0 : Int32)) hx hb dX4_become_114 (by decide) ?_
  refine lv_bipush (v := (8 : Int32)) hx hb dX4_become_115 (by decide) ?_
  obtain ⟨g8, eg8, hf⟩ := nx_elim hf
  refine z_copy (N := 8) C hz a_rtold_wordCount a_told_wordCount hl.1 wd_727 wd_724 wd_725 wd_726 rfl (by decide) (by decide) (by decide) (Nat.le_of_ble_eq_true rfl) (Nat.le_of_ble_eq_true (by decide +kernel)) eg8 dX4_become_117 (fun H locs hz => ?_)
  refine lv_aload_n hx hb dX4_become_120 rfl (lv_at hl 1 rfl) ?_
  refine g_RX4_36_rtold C hz dX4_become_121 ?_
  refine lv_iconst (v := (0 : Int32)) hx hb dX4_become_124 (by decide) ?_
  refine lv_aload_n hx hb dX4_become_125 rfl (lv_at hl 0 rfl) ?_
  refine g_RX4_36_told C hz dX4_become_126 ?_
  refine lv_iconst (v := (0 : Int32)) hx hb dX4_become_129 (by decide) ?_
  refine lv_bipush (v := (32 : Int32)) hx hb dX4_become_130 (by decide) ?_
  obtain ⟨g9, eg9, hf⟩ := nx_elim hf
  refine z_copy (N := 32) C hz a_rtold_words a_told_words hl.1 wd_727 wd_724 wd_725 wd_726 rfl (by decide) (by decide) (by decide) (Nat.le_of_ble_eq_true rfl) (Nat.le_of_ble_eq_true (by decide +kernel)) eg9 dX4_become_132 (fun H locs hz => ?_)
  refine lv_aload_n hx hb dX4_become_135 rfl (lv_at hl 1 rfl) ?_
  refine g_RX4_39_rtold C hz dX4_become_136 ?_
  refine lv_iconst (v := (0 : Int32)) hx hb dX4_become_139 (by decide) ?_
  refine lv_aload_n hx hb dX4_become_140 rfl (lv_at hl 0 rfl) ?_
  refine g_RX4_39_told C hz dX4_become_141 ?_
  refine lv_iconst (v := (0 : Int32)) hx hb dX4_become_144 (by decide) ?_
  refine lv_bipush (v := (8 : Int32)) hx hb dX4_become_145 (by decide) ?_
  obtain ⟨g10, eg10, hf⟩ := nx_elim hf
  refine z_copy (N := 8) C hz a_rtold_clashes a_told_clashes hl.1 wd_727 wd_724 wd_725 wd_726 rfl (by decide) (by decide) (by decide) (Nat.le_of_ble_eq_true rfl) (Nat.le_of_ble_eq_true (by decide +kernel)) eg10 dX4_become_147 (fun H locs hz => ?_)
  refine lv_aload_n hx hb dX4_become_150 rfl (lv_at hl 0 rfl) ?_
  refine lv_aload_n hx hb dX4_become_151 rfl (lv_at hl 1 rfl) ?_
  refine g_RX4_42_rtold C hz dX4_become_152 ?_
  obtain ⟨g11, eg11, hf⟩ := nx_elim hf
  refine p_RX4_42_told C hz eg11 dX4_become_155 (fun H locs hz => ?_)
  refine lv_aload_n hx hb dX4_become_158 rfl (lv_at hl 0 rfl) ?_
  refine lv_aload_n hx hb dX4_become_159 rfl (lv_at hl 1 rfl) ?_
  refine g_RX4_46_rtold C hz dX4_become_160 ?_
  obtain ⟨g12, eg12, hf⟩ := nx_elim hf
  refine p_RX4_46_told C hz eg12 dX4_become_163 (fun H locs hz => ?_)
  refine lv_aload_n hx hb dX4_become_166 rfl (lv_at hl 0 rfl) ?_
  refine lv_aload_n hx hb dX4_become_167 rfl (lv_at hl 1 rfl) ?_
  refine g_RX4_49_rtold C hz dX4_become_168 ?_
  obtain ⟨g13, eg13, hf⟩ := nx_elim hf
  refine p_RX4_49_told C hz eg13 dX4_become_171 (fun H locs hz => ?_)
  refine lv_aload_n hx hb dX4_become_174 rfl (lv_at hl 0 rfl) ?_
  refine lv_aload_n hx hb dX4_become_175 rfl (lv_at hl 1 rfl) ?_
  refine g_RX4_52_rtold C hz dX4_become_176 ?_
  obtain ⟨g14, eg14, hf⟩ := nx_elim hf
  refine p_RX4_52_told C hz eg14 dX4_become_179 (fun H locs hz => ?_)
  exact hR _ _ _ _ _ (Option.some.inj hf) hz dX4_become_182
set_option maxHeartbeats 4000000 in
set_option maxRecDepth 100000 in
theorem c4_become {l : Launch} {D : va_G} {cI cZ cB : ClassId} {h : Nat → Nat} {g : Sg} {g1 : Sg} (hf : f4_become g = some g1) : KV l D (tyL cI cZ cB) (wX cI cZ cB h) yX4_become cX4_become 2 none rm4_become [.ref (h 90), .ref (h 110)] g g1 := by
  refine KV_mk (own := RX4) (by decide +kernel) rfl (Nat.le_of_ble_eq_true rfl) ?_
  intro p e s m below meth c A Q ls C hR hz hl
  have hl : lv_has ls 2 [(0, .ref (h 90)), (1, .ref (h 110))] := hl
  exact w4_become_b0 C hR _ _ _ _ hf hz hl
abbrev rm4_hasPerson : Room := { frames := 0, cells := 0, slots := 0, locals := 0 }
set_option maxHeartbeats 4000000 in
set_option maxRecDepth 100000 in
theorem w4_hasPerson_b0 {res : Int32 × Sg} (C : Cx p m c cX4_hasPerson 2 s args RX4 D (tyL cI cZ cB)) (hR : EndZ p l e rm4_hasPerson s m args below meth c Q D (wX cI cZ cB h) A cX4_hasPerson res) : ∀ (x1 : Int32) (g : Sg) (H : Heap) (locs : List Loc) (ls : Array Slot), f4_hasPerson x1 g = some res → Zs D (wX cI cZ cB h) A s.heap H locs g → lv_has ls 2 [(0, .ref (h 90)), (1, .int x1)] → W p l e rm4_hasPerson s m args below meth c H locs 0 0 Q (F0 m 0 ls []) := by
  have hx := C.1.1
  have hb := C.1.2.1
  intro x1 g H locs ls hf hz hl
  unfold f4_hasPerson at hf
  refine lv_iload_n hx hb dX4_hasPerson_0 rfl (lv_at hl 1 rfl) ?_
  refine lv_if_lt (tgt := 22) hx hb dX4_hasPerson_1 (by decide) (fun c1 => ?_) (fun c1 => ?_)
  · have hf := ite_t hf c1
    refine lv_iconst (v := (0 : Int32)) hx hb dX4_hasPerson_22 (by decide) ?_
    exact hR _ _ _ _ _ _ hf hz dX4_hasPerson_23
  · have hf := ite_f hf c1
    refine lv_iload_n hx hb dX4_hasPerson_4 rfl (lv_at hl 1 rfl) ?_
    refine lv_aload_n hx hb dX4_hasPerson_5 rfl (lv_at hl 0 rfl) ?_
    refine g_RX4_42_told C hz dX4_hasPerson_6 ?_
    refine lv_icmp_ge (tgt := 22) hx hb dX4_hasPerson_9 (by decide) (fun c2 => ?_) (fun c2 => ?_)
    · have hf := ite_t hf c2
      refine lv_iconst (v := (0 : Int32)) hx hb dX4_hasPerson_22 (by decide) ?_
      exact hR _ _ _ _ _ _ hf hz dX4_hasPerson_23
    · have hf := ite_f hf c2
      refine lv_iload_n hx hb dX4_hasPerson_12 rfl (lv_at hl 1 rfl) ?_
      refine lv_bipush (v := (6 : Int32)) hx hb dX4_hasPerson_13 (by decide) ?_
      refine lv_icmp_ge (tgt := 22) hx hb dX4_hasPerson_15 (by decide) (fun c3 => ?_) (fun c3 => ?_)
      · have hf := ite_t hf c3
        refine lv_iconst (v := (0 : Int32)) hx hb dX4_hasPerson_22 (by decide) ?_
        exact hR _ _ _ _ _ _ hf hz dX4_hasPerson_23
      · have hf := ite_f hf c3
        refine lv_iconst (v := (1 : Int32)) hx hb dX4_hasPerson_18 (by decide) ?_
        refine lv_goto (tgt := 23) hx hb dX4_hasPerson_19 (by decide) ?_
        exact hR _ _ _ _ _ _ hf hz dX4_hasPerson_23
set_option maxHeartbeats 4000000 in
set_option maxRecDepth 100000 in
theorem c4_hasPerson {l : Launch} {D : va_G} {cI cZ cB : ClassId} {h : Nat → Nat} {x1 : Int32} {g : Sg} {r : Int32} {g1 : Sg} (hf : f4_hasPerson x1 g = some (r, g1)) : KI l D (tyL cI cZ cB) (wX cI cZ cB h) yX4_hasPerson cX4_hasPerson 2 (some .boolean) rm4_hasPerson [.ref (h 90), .int x1] g r g1 := by
  refine KZ_mk (own := RX4) (by decide +kernel) rfl (Nat.le_of_ble_eq_true rfl) ?_
  intro p e s m below meth c A Q ls C hR hz hl
  have hl : lv_has ls 2 [(0, .ref (h 90)), (1, .int x1)] := hl
  exact w4_hasPerson_b0 C hR _ _ _ _ _ hf hz hl
abbrev rm4_hasPromise : Room := { frames := 0, cells := 0, slots := 0, locals := 0 }
set_option maxHeartbeats 4000000 in
set_option maxRecDepth 100000 in
theorem w4_hasPromise_b0 {res : Int32 × Sg} (C : Cx p m c cX4_hasPromise 2 s args RX4 D (tyL cI cZ cB)) (hR : EndZ p l e rm4_hasPromise s m args below meth c Q D (wX cI cZ cB h) A cX4_hasPromise res) : ∀ (x1 : Int32) (g : Sg) (H : Heap) (locs : List Loc) (ls : Array Slot), f4_hasPromise x1 g = some res → Zs D (wX cI cZ cB h) A s.heap H locs g → lv_has ls 2 [(0, .ref (h 90)), (1, .int x1)] → W p l e rm4_hasPromise s m args below meth c H locs 0 0 Q (F0 m 0 ls []) := by
  have hx := C.1.1
  have hb := C.1.2.1
  intro x1 g H locs ls hf hz hl
  unfold f4_hasPromise at hf
  refine lv_iload_n hx hb dX4_hasPromise_0 rfl (lv_at hl 1 rfl) ?_
  refine lv_if_lt (tgt := 22) hx hb dX4_hasPromise_1 (by decide) (fun c1 => ?_) (fun c1 => ?_)
  · have hf := ite_t hf c1
    refine lv_iconst (v := (0 : Int32)) hx hb dX4_hasPromise_22 (by decide) ?_
    exact hR _ _ _ _ _ _ hf hz dX4_hasPromise_23
  · have hf := ite_f hf c1
    refine lv_iload_n hx hb dX4_hasPromise_4 rfl (lv_at hl 1 rfl) ?_
    refine lv_aload_n hx hb dX4_hasPromise_5 rfl (lv_at hl 0 rfl) ?_
    refine g_RX4_46_told C hz dX4_hasPromise_6 ?_
    refine lv_icmp_ge (tgt := 22) hx hb dX4_hasPromise_9 (by decide) (fun c2 => ?_) (fun c2 => ?_)
    · have hf := ite_t hf c2
      refine lv_iconst (v := (0 : Int32)) hx hb dX4_hasPromise_22 (by decide) ?_
      exact hR _ _ _ _ _ _ hf hz dX4_hasPromise_23
    · have hf := ite_f hf c2
      refine lv_iload_n hx hb dX4_hasPromise_12 rfl (lv_at hl 1 rfl) ?_
      refine lv_bipush (v := (8 : Int32)) hx hb dX4_hasPromise_13 (by decide) ?_
      refine lv_icmp_ge (tgt := 22) hx hb dX4_hasPromise_15 (by decide) (fun c3 => ?_) (fun c3 => ?_)
      · have hf := ite_t hf c3
        refine lv_iconst (v := (0 : Int32)) hx hb dX4_hasPromise_22 (by decide) ?_
        exact hR _ _ _ _ _ _ hf hz dX4_hasPromise_23
      · have hf := ite_f hf c3
        refine lv_iconst (v := (1 : Int32)) hx hb dX4_hasPromise_18 (by decide) ?_
        refine lv_goto (tgt := 23) hx hb dX4_hasPromise_19 (by decide) ?_
        exact hR _ _ _ _ _ _ hf hz dX4_hasPromise_23
set_option maxHeartbeats 4000000 in
set_option maxRecDepth 100000 in
theorem c4_hasPromise {l : Launch} {D : va_G} {cI cZ cB : ClassId} {h : Nat → Nat} {x1 : Int32} {g : Sg} {r : Int32} {g1 : Sg} (hf : f4_hasPromise x1 g = some (r, g1)) : KI l D (tyL cI cZ cB) (wX cI cZ cB h) yX4_hasPromise cX4_hasPromise 2 (some .boolean) rm4_hasPromise [.ref (h 90), .int x1] g r g1 := by
  refine KZ_mk (own := RX4) (by decide +kernel) rfl (Nat.le_of_ble_eq_true rfl) ?_
  intro p e s m below meth c A Q ls C hR hz hl
  have hl : lv_has ls 2 [(0, .ref (h 90)), (1, .int x1)] := hl
  exact w4_hasPromise_b0 C hR _ _ _ _ _ hf hz hl
abbrev rm4_wordAt : Room := { frames := 1, cells := 0, slots := 0, locals := 21 }
set_option maxHeartbeats 4000000 in
set_option maxRecDepth 100000 in
theorem w4_wordAt_b0 {res : Int32 × Sg} (C : Cx p m c cX4_wordAt 3 s args RX4 D (tyL cI cZ cB)) (hR : EndI p l e rm4_wordAt s m args below meth c Q D (wX cI cZ cB h) A cX4_wordAt res) : ∀ (x1 : Int32) (x2 : Int32) (g : Sg) (H : Heap) (locs : List Loc) (ls : Array Slot), f4_wordAt x1 x2 g = some res → Zs D (wX cI cZ cB h) A s.heap H locs g → lv_has ls 3 [(0, .ref (h 90)), (1, .int x1), (2, .int x2)] → W p l e rm4_wordAt s m args below meth c H locs 0 0 Q (F0 m 0 ls []) := by
  have hx := C.1.1
  have hb := C.1.2.1
  intro x1 x2 g H locs ls hf hz hl
  unfold f4_wordAt at hf
  refine lv_aload_n hx hb dX4_wordAt_0 rfl (lv_at hl 0 rfl) ?_
  refine lv_iload_n hx hb dX4_wordAt_1 rfl (lv_at hl 1 rfl) ?_
  obtain ⟨r3, g2, hc1, hf⟩ := bd2_elim hf
  refine z_VI (As := [.int x1]) (rest := []) C (c4_hasPromise hc1) lk_RX4_61 ⟨rfl, rfl, Nat.le_of_ble_eq_true rfl, Nat.le_of_ble_eq_true rfl⟩ ⟨Nat.zero_le _, Nat.zero_le _⟩ o_told rfl rfl (Nat.le_of_ble_eq_true rfl) rfl hl.1 dX4_wordAt_2 hz (fun H locs hz => ?_)
  refine lv_if_eq (tgt := 40) hx hb dX4_wordAt_5 (by decide) (fun c4 => ?_) (fun c4 => ?_)
  · have hf := ite_t hf c4
    refine lv_bipush (v := (-9 : Int32)) hx hb dX4_wordAt_40 (by decide) ?_
    exact hR _ _ _ _ _ _ (Option.some.inj hf) hz dX4_wordAt_42
  · have hf := ite_f hf c4
    refine lv_iload_n hx hb dX4_wordAt_8 rfl (lv_at hl 2 rfl) ?_
    refine lv_if_lt (tgt := 40) hx hb dX4_wordAt_9 (by decide) (fun c5 => ?_) (fun c5 => ?_)
    · have hf := ite_t hf c5
      refine lv_bipush (v := (-9 : Int32)) hx hb dX4_wordAt_40 (by decide) ?_
      exact hR _ _ _ _ _ _ (Option.some.inj hf) hz dX4_wordAt_42
    · have hf := ite_f hf c5
      refine lv_iload_n hx hb dX4_wordAt_12 rfl (lv_at hl 2 rfl) ?_
      refine lv_aload_n hx hb dX4_wordAt_13 rfl (lv_at hl 0 rfl) ?_
      refine g_RX4_33_told C hz dX4_wordAt_14 ?_
      refine lv_iload_n hx hb dX4_wordAt_17 rfl (lv_at hl 1 rfl) ?_
      obtain ⟨c6, hf⟩ := ix_elim hf
      refine z_iald C hz a_told_wordCount c6 dX4_wordAt_18 ?_
      refine lv_icmp_ge (tgt := 40) hx hb dX4_wordAt_19 (by decide) (fun c7 => ?_) (fun c7 => ?_)
      · have hf := ite_t hf c7
        refine lv_bipush (v := (-9 : Int32)) hx hb dX4_wordAt_40 (by decide) ?_
        exact hR _ _ _ _ _ _ (Option.some.inj hf) hz dX4_wordAt_42
      · have hf := ite_f hf c7
        refine lv_iload_n hx hb dX4_wordAt_22 rfl (lv_at hl 2 rfl) ?_
        refine lv_iconst (v := (4 : Int32)) hx hb dX4_wordAt_23 (by decide) ?_
        refine lv_icmp_ge (tgt := 40) hx hb dX4_wordAt_24 (by decide) (fun c8 => ?_) (fun c8 => ?_)
        · have hf := ite_t hf c8
          refine lv_bipush (v := (-9 : Int32)) hx hb dX4_wordAt_40 (by decide) ?_
          exact hR _ _ _ _ _ _ (Option.some.inj hf) hz dX4_wordAt_42
        · have hf := ite_f hf c8
          refine lv_aload_n hx hb dX4_wordAt_27 rfl (lv_at hl 0 rfl) ?_
          refine g_RX4_36_told C hz dX4_wordAt_28 ?_
          refine lv_iload_n hx hb dX4_wordAt_31 rfl (lv_at hl 1 rfl) ?_
          refine lv_iconst (v := (4 : Int32)) hx hb dX4_wordAt_32 (by decide) ?_
          refine lv_imul hx hb dX4_wordAt_33 ?_
          refine lv_iload_n hx hb dX4_wordAt_34 rfl (lv_at hl 2 rfl) ?_
          refine lv_iadd hx hb dX4_wordAt_35 ?_
          obtain ⟨c9, hf⟩ := ix_elim hf
          refine z_iald C hz a_told_words c9 dX4_wordAt_36 ?_
          refine lv_goto (tgt := 42) hx hb dX4_wordAt_37 (by decide) ?_
          exact hR _ _ _ _ _ _ (Option.some.inj hf) hz dX4_wordAt_42
set_option maxHeartbeats 4000000 in
set_option maxRecDepth 100000 in
theorem c4_wordAt {l : Launch} {D : va_G} {cI cZ cB : ClassId} {h : Nat → Nat} {x1 : Int32} {x2 : Int32} {g : Sg} {r : Int32} {g1 : Sg} (hf : f4_wordAt x1 x2 g = some (r, g1)) : KI l D (tyL cI cZ cB) (wX cI cZ cB h) yX4_wordAt cX4_wordAt 3 (some .int) rm4_wordAt [.ref (h 90), .int x1, .int x2] g r g1 := by
  refine KI_mk (own := RX4) (by decide +kernel) rfl (Nat.le_of_ble_eq_true rfl) ?_
  intro p e s m below meth c A Q ls C hR hz hl
  have hl : lv_has ls 3 [(0, .ref (h 90)), (1, .int x1), (2, .int x2)] := hl
  exact w4_wordAt_b0 C hR _ _ _ _ _ _ hf hz hl
abbrev rm5_type : Room := { frames := 1, cells := 0, slots := 0, locals := 21 }
set_option maxHeartbeats 4000000 in
set_option maxRecDepth 100000 in
theorem w5_type_b0 {res : Int32 × Sg} (C : Cx p m c cX5_type 2 s args RX5 D (tyL cI cZ cB)) (hR : EndI p l e rm5_type s m args below meth c Q D (wX cI cZ cB h) A cX5_type res) : ∀ (x1 : Int32) (g : Sg) (H : Heap) (locs : List Loc) (ls : Array Slot), f5_type x1 g = some res → Zs D (wX cI cZ cB h) A s.heap H locs g → lv_has ls 2 [(0, .ref (h 134)), (1, .int x1)] → W p l e rm5_type s m args below meth c H locs 0 0 Q (F0 m 0 ls []) := by
  have hx := C.1.1
  have hb := C.1.2.1
  intro x1 g H locs ls hf hz hl
  unfold f5_type at hf
  refine lv_iload_n hx hb dX5_type_0 rfl (lv_at hl 1 rfl) ?_
  refine lv_if_lt (tgt := 11) hx hb dX5_type_1 (by decide) (fun c1 => ?_) (fun c1 => ?_)
  · have hf := ite_t hf c1
    refine lv_iconst (v := (-1 : Int32)) hx hb dX5_type_11 (by decide) ?_
    exact hR _ _ _ _ _ _ (Option.some.inj hf) hz dX5_type_12
  · have hf := ite_f hf c1
    refine lv_iload_n hx hb dX5_type_4 rfl (lv_at hl 1 rfl) ?_
    refine lv_sipush (v := (255 : Int32)) hx hb dX5_type_5 (by decide) ?_
    refine lv_icmp_le (tgt := 13) hx hb dX5_type_8 (by decide) (fun c2 => ?_) (fun c2 => ?_)
    · have hf := ite_t hf c2
      refine lv_aload_n hx hb dX5_type_13 rfl (lv_at hl 0 rfl) ?_
      refine g_RX5_10_moss C hz dX5_type_14 ?_
      refine g_RX5_63_reader C hz dX5_type_17 ?_
      refine lv_iload_n hx hb dX5_type_20 rfl (lv_at hl 1 rfl) ?_
      obtain ⟨r5, g4, hc3, hf⟩ := bd2_elim hf
      refine z_VI (As := [.int x1]) (rest := []) C (c3_add hc3) lk_RX5_67 ⟨rfl, rfl, Nat.le_of_ble_eq_true rfl, Nat.le_of_ble_eq_true rfl⟩ ⟨Nat.zero_le _, Nat.zero_le _⟩ o_text rfl rfl (Nat.le_of_ble_eq_true rfl) rfl hl.1 dX5_type_21 hz (fun H locs hz => ?_)
      refine lv_if_eq (tgt := 40) hx hb dX5_type_24 (by decide) (fun c6 => ?_) (fun c6 => ?_)
      · have hf := ite_t hf c6
        refine lv_bipush (v := (-3 : Int32)) hx hb dX5_type_40 (by decide) ?_
        exact hR _ _ _ _ _ _ (Option.some.inj hf) hz dX5_type_42
      · have hf := ite_f hf c6
        refine lv_aload_n hx hb dX5_type_27 rfl (lv_at hl 0 rfl) ?_
        refine g_RX5_10_moss C hz dX5_type_28 ?_
        refine g_RX5_63_reader C hz dX5_type_31 ?_
        refine g_RX5_73_text C hz dX5_type_34 ?_
        refine lv_goto (tgt := 42) hx hb dX5_type_37 (by decide) ?_
        exact hR _ _ _ _ _ _ (Option.some.inj hf) hz dX5_type_42
    · have hf := ite_f hf c2
      refine lv_iconst (v := (-1 : Int32)) hx hb dX5_type_11 (by decide) ?_
      exact hR _ _ _ _ _ _ (Option.some.inj hf) hz dX5_type_12
set_option maxHeartbeats 4000000 in
set_option maxRecDepth 100000 in
theorem c5_type {l : Launch} {D : va_G} {cI cZ cB : ClassId} {h : Nat → Nat} {x1 : Int32} {g : Sg} {r : Int32} {g1 : Sg} (hf : f5_type x1 g = some (r, g1)) : KI l D (tyL cI cZ cB) (wX cI cZ cB h) yX5_type cX5_type 2 (some .int) rm5_type [.ref (h 134), .int x1] g r g1 := by
  refine KI_mk (own := RX5) (by decide +kernel) rfl (Nat.le_of_ble_eq_true rfl) ?_
  intro p e s m below meth c A Q ls C hR hz hl
  have hl : lv_has ls 2 [(0, .ref (h 134)), (1, .int x1)] := hl
  exact w5_type_b0 C hR _ _ _ _ _ hf hz hl
abbrev rm5_clear : Room := { frames := 0, cells := 0, slots := 0, locals := 0 }
set_option maxHeartbeats 4000000 in
set_option maxRecDepth 100000 in
theorem w5_clear_b0 {res : Int32 × Sg} (C : Cx p m c cX5_clear 2 s args RX5 D (tyL cI cZ cB)) (hR : EndI p l e rm5_clear s m args below meth c Q D (wX cI cZ cB h) A cX5_clear res) : ∀ (g : Sg) (H : Heap) (locs : List Loc) (ls : Array Slot), f5_clear g = some res → Zs D (wX cI cZ cB h) A s.heap H locs g → lv_has ls 2 [(0, .ref (h 134))] → W p l e rm5_clear s m args below meth c H locs 0 0 Q (F0 m 0 ls []) := by
  have hx := C.1.1
  have hb := C.1.2.1
  intro g H locs ls hf hz hl
  unfold f5_clear at hf
  refine lv_aload_n hx hb dX5_clear_0 rfl (lv_at hl 0 rfl) ?_
  refine g_RX5_10_moss C hz dX5_clear_1 ?_
  refine g_RX5_63_reader C hz dX5_clear_4 ?_
  refine g_RX5_73_text C hz dX5_clear_7 ?_
  obtain ⟨v1, ev1, hf⟩ := nx_elim hf
  refine z_nm ev1 ?_
  refine lv_istore_n (lv' := [(1, .int v1), (0, .ref (h 134))]) hx hb dX5_clear_10 rfl hl (by decide) rfl (fun ls hl => ?_)
  refine lv_aload_n hx hb dX5_clear_11 rfl (lv_at hl 1 rfl) ?_
  refine g_RX5_10_moss C hz dX5_clear_12 ?_
  refine g_RX5_63_reader C hz dX5_clear_15 ?_
  refine lv_iconst (v := (0 : Int32)) hx hb dX5_clear_18 (by decide) ?_
  obtain ⟨g2, eg2, hf⟩ := nx_elim hf
  refine p_RX5_73_text C hz eg2 dX5_clear_19 (fun H locs hz => ?_)
  refine lv_iload_n hx hb dX5_clear_22 rfl (lv_at hl 0 rfl) ?_
  exact hR _ _ _ _ _ _ (Option.some.inj hf) hz dX5_clear_23
set_option maxHeartbeats 4000000 in
set_option maxRecDepth 100000 in
theorem c5_clear {l : Launch} {D : va_G} {cI cZ cB : ClassId} {h : Nat → Nat} {g : Sg} {r : Int32} {g1 : Sg} (hf : f5_clear g = some (r, g1)) : KI l D (tyL cI cZ cB) (wX cI cZ cB h) yX5_clear cX5_clear 2 (some .int) rm5_clear [.ref (h 134)] g r g1 := by
  refine KI_mk (own := RX5) (by decide +kernel) rfl (Nat.le_of_ble_eq_true rfl) ?_
  intro p e s m below meth c A Q ls C hR hz hl
  have hl : lv_has ls 2 [(0, .ref (h 134))] := hl
  exact w5_clear_b0 C hR _ _ _ _ hf hz hl
abbrev rm5_moss : Room := { frames := 6, cells := 0, slots := 0, locals := 129 }
set_option maxHeartbeats 4000000 in
set_option maxRecDepth 100000 in
theorem w5_moss_b60 {res : Int32 × Sg} (C : Cx p m c cX5_moss 3 s args RX5 D (tyL cI cZ cB)) (hR : EndI p l e rm5_moss s m args below meth c Q D (wX cI cZ cB h) A cX5_moss res) : ∀ n : Nat, ∀ (x1 : Int32) (x2 : Int32) (g : Sg) (H : Heap) (locs : List Loc) (ls : Array Slot), f5_moss_b60 n x1 x2 g = some res → Zs D (wX cI cZ cB h) A s.heap H locs g → lv_has ls 3 [(0, .ref (h 134)), (1, .int x1), (2, .int x2)] → W p l e rm5_moss s m args below meth c H locs 0 0 Q (F0 m 60 ls []) := by
  have hx := C.1.1
  have hb := C.1.2.1
  intro n
  induction n with
  | zero =>
    intro x1 x2 g H locs ls hf hz hl
    cases hf
  | succ n ih =>
    intro x1 x2 g H locs ls hf hz hl
    rw [f5_moss_b60] at hf
    refine lv_iload_n hx hb dX5_moss_60 rfl (lv_at hl 2 rfl) ?_
    refine lv_iconst (v := (2 : Int32)) hx hb dX5_moss_61 (by decide) ?_
    refine lv_icmp_ge (tgt := 78) hx hb dX5_moss_62 (by decide) (fun c1 => ?_) (fun c1 => ?_)
    · have hf := ite_t hf c1
      refine lv_iload_n hx hb dX5_moss_78 rfl (lv_at hl 1 rfl) ?_
      exact hR _ _ _ _ _ _ (Option.some.inj hf) hz dX5_moss_79
    · have hf := ite_f hf c1
      refine lv_aload_n hx hb dX5_moss_65 rfl (lv_at hl 0 rfl) ?_
      refine g_RX5_41_moss C hz dX5_moss_66 ?_
      refine lv_iload_n hx hb dX5_moss_69 rfl (lv_at hl 2 rfl) ?_
      refine lv_iconst (v := (0 : Int32)) hx hb dX5_moss_70 (by decide) ?_
      obtain ⟨c2, hf⟩ := ix_elim hf
      obtain ⟨g3, eg3, hf⟩ := nx_elim hf
      refine z_zast C hz a_x_imageKept c2 rfl eg3 dX5_moss_71 (fun H locs hz => ?_)
      obtain ⟨v4, ev4, hf⟩ := nx_elim hf
      refine lv_iinc (v := v4) (lv' := [(2, .int v4), (0, .ref (h 134)), (1, .int x1)]) hx hb dX5_moss_72 hl (k := 2) rfl (by rw [ev4]; rfl) (by decide) rfl (fun ls hl => ?_)
      refine lv_goto (tgt := 60) hx hb dX5_moss_75 (by decide) ?_
      exact ih _ _ _ _ _ _ hf hz (lv_sub hl [1, 2, 0] rfl)
set_option maxHeartbeats 4000000 in
set_option maxRecDepth 100000 in
theorem w5_moss_b0 {res : Int32 × Sg} (C : Cx p m c cX5_moss 3 s args RX5 D (tyL cI cZ cB)) (hR : EndI p l e rm5_moss s m args below meth c Q D (wX cI cZ cB h) A cX5_moss res) : ∀ (g : Sg) (H : Heap) (locs : List Loc) (ls : Array Slot), f5_moss g = some res → Zs D (wX cI cZ cB h) A s.heap H locs g → lv_has ls 3 [(0, .ref (h 134))] → W p l e rm5_moss s m args below meth c H locs 0 0 Q (F0 m 0 ls []) := by
  have hx := C.1.1
  have hb := C.1.2.1
  intro g H locs ls hf hz hl
  unfold f5_moss at hf
  refine lv_aload_n hx hb dX5_moss_0 rfl (lv_at hl 0 rfl) ?_
  refine g_RX5_10_moss C hz dX5_moss_1 ?_
  obtain ⟨r7, g6, hc5, hf⟩ := bd2_elim hf
  refine z_VI (As := []) (rest := []) C (c2_readAll hc5) lk_RX5_76 ⟨rfl, rfl, Nat.le_of_ble_eq_true rfl, Nat.le_of_ble_eq_true rfl⟩ ⟨Nat.zero_le _, Nat.zero_le _⟩ o_reader rfl rfl (Nat.le_of_ble_eq_true rfl) rfl hl.1 dX5_moss_4 hz (fun H locs hz => ?_)
  refine lv_istore_n (lv' := [(1, .int r7), (0, .ref (h 134))]) hx hb dX5_moss_7 rfl hl (by decide) rfl (fun ls hl => ?_)
  refine lv_iload_n hx hb dX5_moss_8 rfl (lv_at hl 0 rfl) ?_
  refine lv_if_ge (tgt := 14) hx hb dX5_moss_9 (by decide) (fun c8 => ?_) (fun c8 => ?_)
  · have hf := ite_t hf c8
    refine lv_aload_n hx hb dX5_moss_14 rfl (lv_at hl 1 rfl) ?_
    refine g_RX5_19_moss C hz dX5_moss_15 ?_
    refine lv_aload_n hx hb dX5_moss_18 rfl (lv_at hl 1 rfl) ?_
    refine g_RX5_10_moss C hz dX5_moss_19 ?_
    refine g_RX5_80_reader C hz dX5_moss_22 ?_
    obtain ⟨g10, hc9, hf⟩ := bd_elim hf
    refine z_VV (As := [.ref (h 110)]) (rest := []) C (c4_become hc9) lk_RX5_81 ⟨rfl, rfl, Nat.le_of_ble_eq_true rfl, Nat.le_of_ble_eq_true rfl⟩ ⟨Nat.zero_le _, Nat.zero_le _⟩ o_told rfl rfl (Nat.le_of_ble_eq_true rfl) rfl hl.1 dX5_moss_25 hz (fun H locs hz => ?_)
    refine lv_aload_n hx hb dX5_moss_28 rfl (lv_at hl 1 rfl) ?_
    refine g_RX5_10_moss C hz dX5_moss_29 ?_
    refine g_RX5_63_reader C hz dX5_moss_32 ?_
    refine lv_iconst (v := (0 : Int32)) hx hb dX5_moss_35 (by decide) ?_
    obtain ⟨g11, eg11, hf⟩ := nx_elim hf
    refine p_RX5_73_text C hz eg11 dX5_moss_36 (fun H locs hz => ?_)
    refine lv_aload_n hx hb dX5_moss_39 rfl (lv_at hl 1 rfl) ?_
    refine g_RX5_26_moss C hz dX5_moss_40 ?_
    obtain ⟨g13, hc12, hf⟩ := bd_elim hf
    refine z_VV (As := []) (rest := []) C (c0_beginAgain hc12) lk_RX5_85 ⟨rfl, rfl, Nat.le_of_ble_eq_true rfl, Nat.le_of_ble_eq_true rfl⟩ ⟨Nat.zero_le _, Nat.zero_le _⟩ o_bog0 rfl rfl (Nat.le_of_ble_eq_true rfl) rfl hl.1 dX5_moss_43 hz (fun H locs hz => ?_)
    refine lv_aload_n hx hb dX5_moss_46 rfl (lv_at hl 1 rfl) ?_
    refine g_RX5_33_moss C hz dX5_moss_47 ?_
    obtain ⟨g15, hc14, hf⟩ := bd_elim hf
    refine z_VV (As := []) (rest := []) C (c1_empty hc14) lk_RX5_88 ⟨rfl, rfl, Nat.le_of_ble_eq_true rfl, Nat.le_of_ble_eq_true rfl⟩ ⟨Nat.zero_le _, Nat.zero_le _⟩ o_past rfl rfl (Nat.le_of_ble_eq_true rfl) rfl hl.1 dX5_moss_50 hz (fun H locs hz => ?_)
    refine lv_aload_n hx hb dX5_moss_53 rfl (lv_at hl 1 rfl) ?_
    refine lv_iconst (v := (0 : Int32)) hx hb dX5_moss_54 (by decide) ?_
    obtain ⟨g16, eg16, hf⟩ := nx_elim hf
    refine p_RX5_55_moss C hz eg16 dX5_moss_55 (fun H locs hz => ?_)
    refine lv_iconst (v := (0 : Int32)) hx hb dX5_moss_58 (by decide) ?_
    refine lv_istore_n (lv' := [(2, .int (0 : Int32)), (1, .int r7), (0, .ref (h 134))]) hx hb dX5_moss_59 rfl hl (by decide) rfl (fun ls hl => ?_)
    exact w5_moss_b60 C hR 1000 _ _ _ _ _ _ hf hz (lv_sub hl [2, 1, 0] rfl)
  · have hf := ite_f hf c8
    refine lv_iload_n hx hb dX5_moss_12 rfl (lv_at hl 0 rfl) ?_
    exact hR _ _ _ _ _ _ (Option.some.inj hf) hz dX5_moss_13
set_option maxHeartbeats 4000000 in
set_option maxRecDepth 100000 in
theorem c5_moss {l : Launch} {D : va_G} {cI cZ cB : ClassId} {h : Nat → Nat} {g : Sg} {r : Int32} {g1 : Sg} (hf : f5_moss g = some (r, g1)) : KI l D (tyL cI cZ cB) (wX cI cZ cB h) yX5_moss cX5_moss 3 (some .int) rm5_moss [.ref (h 134)] g r g1 := by
  refine KI_mk (own := RX5) (by decide +kernel) rfl (Nat.le_of_ble_eq_true rfl) ?_
  intro p e s m below meth c A Q ls C hR hz hl
  have hl : lv_has ls 3 [(0, .ref (h 134))] := hl
  exact w5_moss_b0 C hR _ _ _ _ hf hz hl
abbrev rm5_person : Room := { frames := 1, cells := 0, slots := 0, locals := 21 }
set_option maxHeartbeats 4000000 in
set_option maxRecDepth 100000 in
theorem w5_person_b0 {res : Int32 × Sg} (C : Cx p m c cX5_person 3 s args RX5 D (tyL cI cZ cB)) (hR : EndI p l e rm5_person s m args below meth c Q D (wX cI cZ cB h) A cX5_person res) : ∀ (x1 : Int32) (x2 : Int32) (g : Sg) (H : Heap) (locs : List Loc) (ls : Array Slot), f5_person x1 x2 g = some res → Zs D (wX cI cZ cB h) A s.heap H locs g → lv_has ls 3 [(0, .ref (h 134)), (1, .int x1), (2, .int x2)] → W p l e rm5_person s m args below meth c H locs 0 0 Q (F0 m 0 ls []) := by
  have hx := C.1.1
  have hb := C.1.2.1
  intro x1 x2 g H locs ls hf hz hl
  unfold f5_person at hf
  refine lv_aload_n hx hb dX5_person_0 rfl (lv_at hl 0 rfl) ?_
  refine g_RX5_19_moss C hz dX5_person_1 ?_
  refine lv_iload_n hx hb dX5_person_4 rfl (lv_at hl 1 rfl) ?_
  obtain ⟨r3, g2, hc1, hf⟩ := bd2_elim hf
  refine z_VI (As := [.int x1]) (rest := []) C (c4_hasPerson hc1) lk_RX5_91 ⟨rfl, rfl, Nat.le_of_ble_eq_true rfl, Nat.le_of_ble_eq_true rfl⟩ ⟨Nat.zero_le _, Nat.zero_le _⟩ o_told rfl rfl (Nat.le_of_ble_eq_true rfl) rfl hl.1 dX5_person_5 hz (fun H locs hz => ?_)
  refine lv_if_ne (tgt := 13) hx hb dX5_person_8 (by decide) (fun c4 => ?_) (fun c4 => ?_)
  · have hf := ite_f hf c4
    refine lv_iload_n hx hb dX5_person_13 rfl (lv_at hl 2 rfl) ?_
    by_cases c5 : x2 = (0 : Int32)
    · have hf := ite_t hf c5
      refine lv_lookup (off := 26) (tgt := 40) hx hb dX5_person_14 (by decide) (by rw [c5]; decide) (by decide) ?_
      refine lv_aload_n hx hb dX5_person_40 rfl (lv_at hl 0 rfl) ?_
      refine g_RX5_19_moss C hz dX5_person_41 ?_
      refine g_RX5_94_told C hz dX5_person_44 ?_
      refine lv_iload_n hx hb dX5_person_47 rfl (lv_at hl 1 rfl) ?_
      obtain ⟨c6, hf⟩ := ix_elim hf
      refine z_iald C hz a_told_dies c6 dX5_person_48 ?_
      exact hR _ _ _ _ _ _ (Option.some.inj hf) hz dX5_person_49
    have hf := ite_f hf c5
    by_cases c7 : x2 = (1 : Int32)
    · have hf := ite_t hf c7
      refine lv_lookup (off := 36) (tgt := 50) hx hb dX5_person_14 (by decide) (by rw [c7]; decide) (by decide) ?_
      refine lv_aload_n hx hb dX5_person_50 rfl (lv_at hl 0 rfl) ?_
      refine g_RX5_19_moss C hz dX5_person_51 ?_
      refine g_RX5_97_told C hz dX5_person_54 ?_
      refine lv_iload_n hx hb dX5_person_57 rfl (lv_at hl 1 rfl) ?_
      obtain ⟨c8, hf⟩ := ix_elim hf
      refine z_iald C hz a_told_heir c8 dX5_person_58 ?_
      exact hR _ _ _ _ _ _ (Option.some.inj hf) hz dX5_person_59
    have hf := ite_f hf c7
    refine lv_lookup (off := 46) (tgt := 60) hx hb dX5_person_14 (by decide) (by show Op.lookupswitch.offset [(0, 26), (1, 36)] 46 _ = _; rw [lv_osw (a := 0) c5 rfl, lv_osw (a := 1) c7 rfl]; rfl) (by decide) ?_
    refine lv_iconst (v := (-1 : Int32)) hx hb dX5_person_60 (by decide) ?_
    exact hR _ _ _ _ _ _ (Option.some.inj hf) hz dX5_person_61
  · have hf := ite_t hf c4
    refine lv_iconst (v := (-1 : Int32)) hx hb dX5_person_11 (by decide) ?_
    exact hR _ _ _ _ _ _ (Option.some.inj hf) hz dX5_person_12
set_option maxHeartbeats 4000000 in
set_option maxRecDepth 100000 in
theorem c5_person {l : Launch} {D : va_G} {cI cZ cB : ClassId} {h : Nat → Nat} {x1 : Int32} {x2 : Int32} {g : Sg} {r : Int32} {g1 : Sg} (hf : f5_person x1 x2 g = some (r, g1)) : KI l D (tyL cI cZ cB) (wX cI cZ cB h) yX5_person cX5_person 3 (some .int) rm5_person [.ref (h 134), .int x1, .int x2] g r g1 := by
  refine KI_mk (own := RX5) (by decide +kernel) rfl (Nat.le_of_ble_eq_true rfl) ?_
  intro p e s m below meth c A Q ls C hR hz hl
  have hl : lv_has ls 3 [(0, .ref (h 134)), (1, .int x1), (2, .int x2)] := hl
  exact w5_person_b0 C hR _ _ _ _ _ _ hf hz hl
abbrev rm5_promise : Room := { frames := 1, cells := 0, slots := 0, locals := 21 }
set_option maxHeartbeats 4000000 in
set_option maxRecDepth 100000 in
theorem w5_promise_b0 {res : Int32 × Sg} (C : Cx p m c cX5_promise 3 s args RX5 D (tyL cI cZ cB)) (hR : EndI p l e rm5_promise s m args below meth c Q D (wX cI cZ cB h) A cX5_promise res) : ∀ (x1 : Int32) (x2 : Int32) (g : Sg) (H : Heap) (locs : List Loc) (ls : Array Slot), f5_promise x1 x2 g = some res → Zs D (wX cI cZ cB h) A s.heap H locs g → lv_has ls 3 [(0, .ref (h 134)), (1, .int x1), (2, .int x2)] → W p l e rm5_promise s m args below meth c H locs 0 0 Q (F0 m 0 ls []) := by
  have hx := C.1.1
  have hb := C.1.2.1
  intro x1 x2 g H locs ls hf hz hl
  unfold f5_promise at hf
  refine lv_aload_n hx hb dX5_promise_0 rfl (lv_at hl 0 rfl) ?_
  refine g_RX5_19_moss C hz dX5_promise_1 ?_
  refine lv_iload_n hx hb dX5_promise_4 rfl (lv_at hl 1 rfl) ?_
  obtain ⟨r3, g2, hc1, hf⟩ := bd2_elim hf
  refine z_VI (As := [.int x1]) (rest := []) C (c4_hasPromise hc1) lk_RX5_100 ⟨rfl, rfl, Nat.le_of_ble_eq_true rfl, Nat.le_of_ble_eq_true rfl⟩ ⟨Nat.zero_le _, Nat.zero_le _⟩ o_told rfl rfl (Nat.le_of_ble_eq_true rfl) rfl hl.1 dX5_promise_5 hz (fun H locs hz => ?_)
  refine lv_if_ne (tgt := 13) hx hb dX5_promise_8 (by decide) (fun c4 => ?_) (fun c4 => ?_)
  · have hf := ite_f hf c4
    refine lv_iload_n hx hb dX5_promise_13 rfl (lv_at hl 2 rfl) ?_
    by_cases c5 : x2 = (0 : Int32)
    · have hf := ite_t hf c5
      refine lv_tableIn (off := 46) (tgt := 60) hx hb dX5_promise_14 (by rw [c5]; decide) (by rw [c5]; decide) (by rw [c5]; decide) (by decide) ?_
      refine lv_aload_n hx hb dX5_promise_60 rfl (lv_at hl 0 rfl) ?_
      refine g_RX5_19_moss C hz dX5_promise_61 ?_
      refine g_RX5_103_told C hz dX5_promise_64 ?_
      refine lv_iload_n hx hb dX5_promise_67 rfl (lv_at hl 1 rfl) ?_
      obtain ⟨c6, hf⟩ := ix_elim hf
      refine z_iald C hz a_told_who c6 dX5_promise_68 ?_
      exact hR _ _ _ _ _ _ (Option.some.inj hf) hz dX5_promise_69
    have hf := ite_f hf c5
    by_cases c7 : x2 = (1 : Int32)
    · have hf := ite_t hf c7
      refine lv_tableIn (off := 56) (tgt := 70) hx hb dX5_promise_14 (by rw [c7]; decide) (by rw [c7]; decide) (by rw [c7]; decide) (by decide) ?_
      refine lv_aload_n hx hb dX5_promise_70 rfl (lv_at hl 0 rfl) ?_
      refine g_RX5_19_moss C hz dX5_promise_71 ?_
      refine g_RX5_106_told C hz dX5_promise_74 ?_
      refine lv_iload_n hx hb dX5_promise_77 rfl (lv_at hl 1 rfl) ?_
      obtain ⟨c8, hf⟩ := ix_elim hf
      refine z_iald C hz a_told_cell c8 dX5_promise_78 ?_
      exact hR _ _ _ _ _ _ (Option.some.inj hf) hz dX5_promise_79
    have hf := ite_f hf c7
    by_cases c9 : x2 = (2 : Int32)
    · have hf := ite_t hf c9
      refine lv_tableIn (off := 66) (tgt := 80) hx hb dX5_promise_14 (by rw [c9]; decide) (by rw [c9]; decide) (by rw [c9]; decide) (by decide) ?_
      refine lv_aload_n hx hb dX5_promise_80 rfl (lv_at hl 0 rfl) ?_
      refine g_RX5_19_moss C hz dX5_promise_81 ?_
      refine g_RX5_109_told C hz dX5_promise_84 ?_
      refine lv_iload_n hx hb dX5_promise_87 rfl (lv_at hl 1 rfl) ?_
      obtain ⟨c10, hf⟩ := ix_elim hf
      refine z_iald C hz a_told_depth c10 dX5_promise_88 ?_
      exact hR _ _ _ _ _ _ (Option.some.inj hf) hz dX5_promise_89
    have hf := ite_f hf c9
    by_cases c11 : x2 = (3 : Int32)
    · have hf := ite_t hf c11
      refine lv_tableIn (off := 76) (tgt := 90) hx hb dX5_promise_14 (by rw [c11]; decide) (by rw [c11]; decide) (by rw [c11]; decide) (by decide) ?_
      refine lv_aload_n hx hb dX5_promise_90 rfl (lv_at hl 0 rfl) ?_
      refine g_RX5_19_moss C hz dX5_promise_91 ?_
      refine g_RX5_112_told C hz dX5_promise_94 ?_
      refine lv_iload_n hx hb dX5_promise_97 rfl (lv_at hl 1 rfl) ?_
      obtain ⟨c12, hf⟩ := ix_elim hf
      refine z_iald C hz a_told_span c12 dX5_promise_98 ?_
      exact hR _ _ _ _ _ _ (Option.some.inj hf) hz dX5_promise_99
    have hf := ite_f hf c11
    by_cases c13 : x2 = (4 : Int32)
    · have hf := ite_t hf c13
      refine lv_tableIn (off := 86) (tgt := 100) hx hb dX5_promise_14 (by rw [c13]; decide) (by rw [c13]; decide) (by rw [c13]; decide) (by decide) ?_
      refine lv_aload_n hx hb dX5_promise_100 rfl (lv_at hl 0 rfl) ?_
      refine g_RX5_19_moss C hz dX5_promise_101 ?_
      refine g_RX5_115_told C hz dX5_promise_104 ?_
      refine lv_iload_n hx hb dX5_promise_107 rfl (lv_at hl 1 rfl) ?_
      obtain ⟨c14, hf⟩ := ix_elim hf
      refine z_iald C hz a_told_due c14 dX5_promise_108 ?_
      exact hR _ _ _ _ _ _ (Option.some.inj hf) hz dX5_promise_109
    have hf := ite_f hf c13
    by_cases c15 : x2 = (5 : Int32)
    · have hf := ite_t hf c15
      refine lv_tableIn (off := 96) (tgt := 110) hx hb dX5_promise_14 (by rw [c15]; decide) (by rw [c15]; decide) (by rw [c15]; decide) (by decide) ?_
      refine lv_aload_n hx hb dX5_promise_110 rfl (lv_at hl 0 rfl) ?_
      refine g_RX5_19_moss C hz dX5_promise_111 ?_
      refine g_RX5_118_told C hz dX5_promise_114 ?_
      refine lv_iload_n hx hb dX5_promise_117 rfl (lv_at hl 1 rfl) ?_
      obtain ⟨c16, hf⟩ := ix_elim hf
      refine z_iald C hz a_told_wordCount c16 dX5_promise_118 ?_
      exact hR _ _ _ _ _ _ (Option.some.inj hf) hz dX5_promise_119
    have hf := ite_f hf c15
    by_cases c17 : x2 = (6 : Int32)
    · have hf := ite_t hf c17
      refine lv_tableIn (off := 106) (tgt := 120) hx hb dX5_promise_14 (by rw [c17]; decide) (by rw [c17]; decide) (by rw [c17]; decide) (by decide) ?_
      refine lv_aload_n hx hb dX5_promise_120 rfl (lv_at hl 0 rfl) ?_
      refine g_RX5_19_moss C hz dX5_promise_121 ?_
      refine g_RX5_121_told C hz dX5_promise_124 ?_
      refine lv_iload_n hx hb dX5_promise_127 rfl (lv_at hl 1 rfl) ?_
      obtain ⟨c18, hf⟩ := ix_elim hf
      refine z_iald C hz a_told_clashes c18 dX5_promise_128 ?_
      exact hR _ _ _ _ _ _ (Option.some.inj hf) hz dX5_promise_129
    have hf := ite_f hf c17
    by_cases c19 : x2 = (7 : Int32)
    · have hf := ite_t hf c19
      refine lv_tableIn (off := 116) (tgt := 130) hx hb dX5_promise_14 (by rw [c19]; decide) (by rw [c19]; decide) (by rw [c19]; decide) (by decide) ?_
      refine lv_aload_n hx hb dX5_promise_130 rfl (lv_at hl 0 rfl) ?_
      refine g_RX5_26_moss C hz dX5_promise_131 ?_
      refine g_RX5_124_bog0 C hz dX5_promise_134 ?_
      refine lv_iload_n hx hb dX5_promise_137 rfl (lv_at hl 1 rfl) ?_
      obtain ⟨c20, hf⟩ := ix_elim hf
      refine z_iald C hz a_n_is c20 dX5_promise_138 ?_
      exact hR _ _ _ _ _ _ (Option.some.inj hf) hz dX5_promise_139
    have hf := ite_f hf c19
    refine lv_tableOut (tgt := 140) hx hb dX5_promise_14 (by have hc5 := lv_neT c5 (a := 0) rfl; have hc7 := lv_neT c7 (a := 1) rfl; have hc9 := lv_neT c9 (a := 2) rfl; have hc11 := lv_neT c11 (a := 3) rfl; have hc13 := lv_neT c13 (a := 4) rfl; have hc15 := lv_neT c15 (a := 5) rfl; have hc17 := lv_neT c17 (a := 6) rfl; have hc19 := lv_neT c19 (a := 7) rfl; omega) (by decide) ?_
    refine lv_iconst (v := (-1 : Int32)) hx hb dX5_promise_140 (by decide) ?_
    exact hR _ _ _ _ _ _ (Option.some.inj hf) hz dX5_promise_141
  · have hf := ite_t hf c4
    refine lv_iconst (v := (-1 : Int32)) hx hb dX5_promise_11 (by decide) ?_
    exact hR _ _ _ _ _ _ (Option.some.inj hf) hz dX5_promise_12
set_option maxHeartbeats 4000000 in
set_option maxRecDepth 100000 in
theorem c5_promise {l : Launch} {D : va_G} {cI cZ cB : ClassId} {h : Nat → Nat} {x1 : Int32} {x2 : Int32} {g : Sg} {r : Int32} {g1 : Sg} (hf : f5_promise x1 x2 g = some (r, g1)) : KI l D (tyL cI cZ cB) (wX cI cZ cB h) yX5_promise cX5_promise 3 (some .int) rm5_promise [.ref (h 134), .int x1, .int x2] g r g1 := by
  refine KI_mk (own := RX5) (by decide +kernel) rfl (Nat.le_of_ble_eq_true rfl) ?_
  intro p e s m below meth c A Q ls C hR hz hl
  have hl : lv_has ls 3 [(0, .ref (h 134)), (1, .int x1), (2, .int x2)] := hl
  exact w5_promise_b0 C hR _ _ _ _ _ _ hf hz hl
abbrev rm5_lyingLeft : Room := { frames := 1, cells := 0, slots := 0, locals := 21 }
set_option maxHeartbeats 4000000 in
set_option maxRecDepth 100000 in
theorem w5_lyingLeft_b27 {res : Int32 × Sg} (C : Cx p m c cX5_lyingLeft 6 s args RX5 D (tyL cI cZ cB)) (hR : EndI p l e rm5_lyingLeft s m args below meth c Q D (wX cI cZ cB h) A cX5_lyingLeft res) : ∀ (x1 : Int32) (x4 : Int32) (y0 : Int32) (g : Sg) (H : Heap) (locs : List Loc) (ls : Array Slot), f5_lyingLeft_b27 x1 x4 y0 g = some res → Zs D (wX cI cZ cB h) A s.heap H locs g → lv_has ls 6 [(1, .int x1), (4, .int x4)] → W p l e rm5_lyingLeft s m args below meth c H locs 0 0 Q (F0 m 27 ls [.int y0]) := by
  have hx := C.1.1
  have hb := C.1.2.1
  intro x1 x4 y0 g H locs ls hf hz hl
  unfold f5_lyingLeft_b27 at hf
  refine lv_istore (lv' := [(5, .int y0), (1, .int x1), (4, .int x4)]) hx hb dX5_lyingLeft_27 hl (by decide) rfl (fun ls hl => ?_)
  refine lv_iconst (v := (1 : Int32)) hx hb dX5_lyingLeft_29 (by decide) ?_
  refine lv_iload_n hx hb dX5_lyingLeft_30 rfl (lv_at hl 1 rfl) ?_
  refine lv_iload hx hb dX5_lyingLeft_31 (lv_at hl 0 rfl) ?_
  refine lv_isub hx hb dX5_lyingLeft_33 ?_
  refine lv_iload hx hb dX5_lyingLeft_34 (lv_at hl 2 rfl) ?_
  refine lv_isub hx hb dX5_lyingLeft_36 ?_
  refine z_max C hl.1 wd_254 wd_256 wd_171 wd_255 (Nat.le_of_ble_eq_true rfl) (Nat.le_of_ble_eq_true rfl) (Nat.zero_le _) (Nat.zero_le _) dX5_lyingLeft_37 ?_
  exact hR _ _ _ _ _ _ (Option.some.inj hf) hz dX5_lyingLeft_40
set_option maxHeartbeats 4000000 in
set_option maxRecDepth 100000 in
theorem w5_lyingLeft_b0 {res : Int32 × Sg} (C : Cx p m c cX5_lyingLeft 6 s args RX5 D (tyL cI cZ cB)) (hR : EndI p l e rm5_lyingLeft s m args below meth c Q D (wX cI cZ cB h) A cX5_lyingLeft res) : ∀ (x1 : Int32) (x2 : Int32) (x3 : Int32) (x4 : Int32) (g : Sg) (H : Heap) (locs : List Loc) (ls : Array Slot), f5_lyingLeft x1 x2 x3 x4 g = some res → Zs D (wX cI cZ cB h) A s.heap H locs g → lv_has ls 6 [(0, .ref (h 134)), (1, .int x1), (2, .int x2), (3, .int x3), (4, .int x4)] → W p l e rm5_lyingLeft s m args below meth c H locs 0 0 Q (F0 m 0 ls []) := by
  have hx := C.1.1
  have hb := C.1.2.1
  intro x1 x2 x3 x4 g H locs ls hf hz hl
  unfold f5_lyingLeft at hf
  refine lv_aload_n hx hb dX5_lyingLeft_0 rfl (lv_at hl 0 rfl) ?_
  refine g_RX5_19_moss C hz dX5_lyingLeft_1 ?_
  refine g_RX5_263_told C hz dX5_lyingLeft_4 ?_
  refine lv_if_le (tgt := 26) hx hb dX5_lyingLeft_7 (by decide) (fun c1 => ?_) (fun c1 => ?_)
  · have hf := ite_t hf c1
    refine lv_iconst (v := (0 : Int32)) hx hb dX5_lyingLeft_26 (by decide) ?_
    exact w5_lyingLeft_b27 C hR _ _ _ _ _ _ _ hf hz (lv_sub hl [1, 4] rfl)
  · have hf := ite_f hf c1
    refine lv_iload_n hx hb dX5_lyingLeft_10 rfl (lv_at hl 3 rfl) ?_
    refine lv_iload_n hx hb dX5_lyingLeft_11 rfl (lv_at hl 2 rfl) ?_
    refine lv_iconst (v := (1 : Int32)) hx hb dX5_lyingLeft_12 (by decide) ?_
    refine lv_iadd hx hb dX5_lyingLeft_13 ?_
    refine lv_imul hx hb dX5_lyingLeft_14 ?_
    refine lv_aload_n hx hb dX5_lyingLeft_15 rfl (lv_at hl 0 rfl) ?_
    refine g_RX5_19_moss C hz dX5_lyingLeft_16 ?_
    refine g_RX5_263_told C hz dX5_lyingLeft_19 ?_
    obtain ⟨c2, hf⟩ := nz_elim hf
    refine lv_idiv hx hb dX5_lyingLeft_22 c2 ?_
    refine lv_goto (tgt := 27) hx hb dX5_lyingLeft_23 (by decide) ?_
    exact w5_lyingLeft_b27 C hR _ _ _ _ _ _ _ hf hz (lv_sub hl [1, 4] rfl)
set_option maxHeartbeats 4000000 in
set_option maxRecDepth 100000 in
theorem c5_lyingLeft {l : Launch} {D : va_G} {cI cZ cB : ClassId} {h : Nat → Nat} {x1 : Int32} {x2 : Int32} {x3 : Int32} {x4 : Int32} {g : Sg} {r : Int32} {g1 : Sg} (hf : f5_lyingLeft x1 x2 x3 x4 g = some (r, g1)) : KI l D (tyL cI cZ cB) (wX cI cZ cB h) yX5_lyingLeft cX5_lyingLeft 6 (some .int) rm5_lyingLeft [.ref (h 134), .int x1, .int x2, .int x3, .int x4] g r g1 := by
  refine KI_mk (own := RX5) (by decide +kernel) rfl (Nat.le_of_ble_eq_true rfl) ?_
  intro p e s m below meth c A Q ls C hR hz hl
  have hl : lv_has ls 6 [(0, .ref (h 134)), (1, .int x1), (2, .int x2), (3, .int x3), (4, .int x4)] := hl
  exact w5_lyingLeft_b0 C hR _ _ _ _ _ _ _ _ hf hz hl
abbrev rm5_leftIn : Room := { frames := 2, cells := 0, slots := 0, locals := 46 }
set_option maxHeartbeats 4000000 in
set_option maxRecDepth 100000 in
theorem w5_leftIn_b0 {res : Int32 × Sg} (C : Cx p m c cX5_leftIn 3 s args RX5 D (tyL cI cZ cB)) (hR : EndI p l e rm5_leftIn s m args below meth c Q D (wX cI cZ cB h) A cX5_leftIn res) : ∀ (x1 : Int32) (x2 : Int32) (g : Sg) (H : Heap) (locs : List Loc) (ls : Array Slot), f5_leftIn x1 x2 g = some res → Zs D (wX cI cZ cB h) A s.heap H locs g → lv_has ls 3 [(0, .ref (h 134)), (1, .int x1), (2, .int x2)] → W p l e rm5_leftIn s m args below meth c H locs 0 0 Q (F0 m 0 ls []) := by
  have hx := C.1.1
  have hb := C.1.2.1
  intro x1 x2 g H locs ls hf hz hl
  unfold f5_leftIn at hf
  refine lv_aload_n hx hb dX5_leftIn_0 rfl (lv_at hl 0 rfl) ?_
  refine g_RX5_19_moss C hz dX5_leftIn_1 ?_
  refine lv_iload_n hx hb dX5_leftIn_4 rfl (lv_at hl 1 rfl) ?_
  obtain ⟨r3, g2, hc1, hf⟩ := bd2_elim hf
  refine z_VI (As := [.int x1]) (rest := []) C (c4_hasPromise hc1) lk_RX5_100 ⟨rfl, rfl, Nat.le_of_ble_eq_true rfl, Nat.le_of_ble_eq_true rfl⟩ ⟨Nat.zero_le _, Nat.zero_le _⟩ o_told rfl rfl (Nat.le_of_ble_eq_true rfl) rfl hl.1 dX5_leftIn_5 hz (fun H locs hz => ?_)
  refine lv_if_ne (tgt := 13) hx hb dX5_leftIn_8 (by decide) (fun c4 => ?_) (fun c4 => ?_)
  · have hf := ite_f hf c4
    refine lv_aload_n hx hb dX5_leftIn_13 rfl (lv_at hl 0 rfl) ?_
    refine g_RX5_26_moss C hz dX5_leftIn_14 ?_
    refine g_RX5_124_bog0 C hz dX5_leftIn_17 ?_
    refine lv_iload_n hx hb dX5_leftIn_20 rfl (lv_at hl 1 rfl) ?_
    obtain ⟨c5, hf⟩ := ix_elim hf
    refine z_iald C hz a_n_is c5 dX5_leftIn_21 ?_
    by_cases c6 : (g2.1 2 (x1.toNatClampNeg)) = (0 : Int32)
    · have hf := ite_t hf c6
      refine lv_lookup (off := 26) (tgt := 48) hx hb dX5_leftIn_22 (by decide) (by rw [c6]; decide) (by decide) ?_
      refine lv_aload_n hx hb dX5_leftIn_48 rfl (lv_at hl 0 rfl) ?_
      refine lv_aload_n hx hb dX5_leftIn_49 rfl (lv_at hl 0 rfl) ?_
      refine g_RX5_19_moss C hz dX5_leftIn_50 ?_
      refine g_RX5_118_told C hz dX5_leftIn_53 ?_
      refine lv_iload_n hx hb dX5_leftIn_56 rfl (lv_at hl 1 rfl) ?_
      obtain ⟨c7, hf⟩ := ix_elim hf
      refine z_iald C hz a_told_wordCount c7 dX5_leftIn_57 ?_
      refine lv_aload_n hx hb dX5_leftIn_58 rfl (lv_at hl 0 rfl) ?_
      refine g_RX5_19_moss C hz dX5_leftIn_59 ?_
      refine g_RX5_109_told C hz dX5_leftIn_62 ?_
      refine lv_iload_n hx hb dX5_leftIn_65 rfl (lv_at hl 1 rfl) ?_
      obtain ⟨c8, hf⟩ := ix_elim hf
      refine z_iald C hz a_told_depth c8 dX5_leftIn_66 ?_
      refine lv_aload_n hx hb dX5_leftIn_67 rfl (lv_at hl 0 rfl) ?_
      refine g_RX5_26_moss C hz dX5_leftIn_68 ?_
      refine g_RX5_150_bog0 C hz dX5_leftIn_71 ?_
      refine lv_iload_n hx hb dX5_leftIn_74 rfl (lv_at hl 2 rfl) ?_
      refine lv_iadd hx hb dX5_leftIn_75 ?_
      refine lv_aload_n hx hb dX5_leftIn_76 rfl (lv_at hl 0 rfl) ?_
      refine g_RX5_26_moss C hz dX5_leftIn_77 ?_
      refine g_RX5_170_bog0 C hz dX5_leftIn_80 ?_
      refine lv_iload_n hx hb dX5_leftIn_83 rfl (lv_at hl 1 rfl) ?_
      obtain ⟨c9, hf⟩ := ix_elim hf
      refine z_iald C hz a_n_dried c9 dX5_leftIn_84 ?_
      obtain ⟨r12, g11, hc10, hf⟩ := bd2_elim hf
      refine z_VI (As := [.int (g2.1 87 (x1.toNatClampNeg)), .int (g2.1 84 (x1.toNatClampNeg)), .int ((g2.1 5 0) + x2), .int (g2.1 3 (x1.toNatClampNeg))]) (rest := []) C (c5_lyingLeft hc10) lk_RX5_202 ⟨rfl, rfl, Nat.le_of_ble_eq_true rfl, Nat.le_of_ble_eq_true rfl⟩ ⟨Nat.zero_le _, Nat.zero_le _⟩ o_moss rfl rfl (Nat.le_of_ble_eq_true rfl) rfl hl.1 dX5_leftIn_85 hz (fun H locs hz => ?_)
      exact hR _ _ _ _ _ _ (Option.some.inj hf) hz dX5_leftIn_88
    have hf := ite_f hf c6
    by_cases c13 : (g2.1 2 (x1.toNatClampNeg)) = (3 : Int32)
    · have hf := ite_t hf c13
      refine lv_lookup (off := 67) (tgt := 89) hx hb dX5_leftIn_22 (by decide) (by rw [c13]; decide) (by decide) ?_
      refine lv_iconst (v := (0 : Int32)) hx hb dX5_leftIn_89 (by decide) ?_
      exact hR _ _ _ _ _ _ (Option.some.inj hf) hz dX5_leftIn_90
    have hf := ite_f hf c13
    refine lv_lookup (off := 69) (tgt := 91) hx hb dX5_leftIn_22 (by decide) (by show Op.lookupswitch.offset [(0, 26), (3, 67)] 69 _ = _; rw [lv_osw (a := 0) c6 rfl, lv_osw (a := 3) c13 rfl]; rfl) (by decide) ?_
    refine lv_aload_n hx hb dX5_leftIn_91 rfl (lv_at hl 0 rfl) ?_
    refine g_RX5_26_moss C hz dX5_leftIn_92 ?_
    refine g_RX5_167_bog0 C hz dX5_leftIn_95 ?_
    refine lv_iload_n hx hb dX5_leftIn_98 rfl (lv_at hl 1 rfl) ?_
    obtain ⟨c14, hf⟩ := ix_elim hf
    refine z_iald C hz a_n_leftWhenFound c14 dX5_leftIn_99 ?_
    exact hR _ _ _ _ _ _ (Option.some.inj hf) hz dX5_leftIn_100
  · have hf := ite_t hf c4
    refine lv_iconst (v := (0 : Int32)) hx hb dX5_leftIn_11 (by decide) ?_
    exact hR _ _ _ _ _ _ (Option.some.inj hf) hz dX5_leftIn_12
set_option maxHeartbeats 4000000 in
set_option maxRecDepth 100000 in
theorem c5_leftIn {l : Launch} {D : va_G} {cI cZ cB : ClassId} {h : Nat → Nat} {x1 : Int32} {x2 : Int32} {g : Sg} {r : Int32} {g1 : Sg} (hf : f5_leftIn x1 x2 g = some (r, g1)) : KI l D (tyL cI cZ cB) (wX cI cZ cB h) yX5_leftIn cX5_leftIn 3 (some .int) rm5_leftIn [.ref (h 134), .int x1, .int x2] g r g1 := by
  refine KI_mk (own := RX5) (by decide +kernel) rfl (Nat.le_of_ble_eq_true rfl) ?_
  intro p e s m below meth c A Q ls C hR hz hl
  have hl : lv_has ls 3 [(0, .ref (h 134)), (1, .int x1), (2, .int x2)] := hl
  exact w5_leftIn_b0 C hR _ _ _ _ _ _ hf hz hl
abbrev rm5_word : Room := { frames := 3, cells := 0, slots := 0, locals := 68 }
set_option maxHeartbeats 4000000 in
set_option maxRecDepth 100000 in
theorem w5_word_b0 {res : Int32 × Sg} (C : Cx p m c cX5_word 3 s args RX5 D (tyL cI cZ cB)) (hR : EndI p l e rm5_word s m args below meth c Q D (wX cI cZ cB h) A cX5_word res) : ∀ (x1 : Int32) (x2 : Int32) (g : Sg) (H : Heap) (locs : List Loc) (ls : Array Slot), f5_word x1 x2 g = some res → Zs D (wX cI cZ cB h) A s.heap H locs g → lv_has ls 3 [(0, .ref (h 134)), (1, .int x1), (2, .int x2)] → W p l e rm5_word s m args below meth c H locs 0 0 Q (F0 m 0 ls []) := by
  have hx := C.1.1
  have hb := C.1.2.1
  intro x1 x2 g H locs ls hf hz hl
  unfold f5_word at hf
  refine lv_aload_n hx hb dX5_word_0 rfl (lv_at hl 0 rfl) ?_
  refine g_RX5_19_moss C hz dX5_word_1 ?_
  refine lv_iload_n hx hb dX5_word_4 rfl (lv_at hl 1 rfl) ?_
  obtain ⟨r3, g2, hc1, hf⟩ := bd2_elim hf
  refine z_VI (As := [.int x1]) (rest := []) C (c4_hasPromise hc1) lk_RX5_100 ⟨rfl, rfl, Nat.le_of_ble_eq_true rfl, Nat.le_of_ble_eq_true rfl⟩ ⟨Nat.zero_le _, Nat.zero_le _⟩ o_told rfl rfl (Nat.le_of_ble_eq_true rfl) rfl hl.1 dX5_word_5 hz (fun H locs hz => ?_)
  refine lv_if_eq (tgt := 20) hx hb dX5_word_8 (by decide) (fun c4 => ?_) (fun c4 => ?_)
  · have hf := ite_t hf c4
    refine lv_iconst (v := (-1 : Int32)) hx hb dX5_word_20 (by decide) ?_
    exact hR _ _ _ _ _ _ (Option.some.inj hf) hz dX5_word_21
  · have hf := ite_f hf c4
    refine lv_iload_n hx hb dX5_word_11 rfl (lv_at hl 2 rfl) ?_
    refine lv_if_lt (tgt := 20) hx hb dX5_word_12 (by decide) (fun c5 => ?_) (fun c5 => ?_)
    · have hf := ite_t hf c5
      refine lv_iconst (v := (-1 : Int32)) hx hb dX5_word_20 (by decide) ?_
      exact hR _ _ _ _ _ _ (Option.some.inj hf) hz dX5_word_21
    · have hf := ite_f hf c5
      refine lv_iload_n hx hb dX5_word_15 rfl (lv_at hl 2 rfl) ?_
      refine lv_iconst (v := (4 : Int32)) hx hb dX5_word_16 (by decide) ?_
      refine lv_icmp_lt (tgt := 22) hx hb dX5_word_17 (by decide) (fun c6 => ?_) (fun c6 => ?_)
      · have hf := ite_t hf c6
        refine lv_iload_n hx hb dX5_word_22 rfl (lv_at hl 2 rfl) ?_
        refine lv_aload_n hx hb dX5_word_23 rfl (lv_at hl 0 rfl) ?_
        refine lv_iload_n hx hb dX5_word_24 rfl (lv_at hl 1 rfl) ?_
        refine lv_iconst (v := (0 : Int32)) hx hb dX5_word_25 (by decide) ?_
        obtain ⟨r9, g8, hc7, hf⟩ := bd2_elim hf
        refine z_VI (As := [.int x1, .int (0 : Int32)]) (rest := [.int x2]) C (c5_leftIn hc7) lk_RX5_127 ⟨rfl, rfl, Nat.le_of_ble_eq_true rfl, Nat.le_of_ble_eq_true rfl⟩ ⟨Nat.zero_le _, Nat.zero_le _⟩ o_moss rfl rfl (Nat.le_of_ble_eq_true rfl) rfl hl.1 dX5_word_26 hz (fun H locs hz => ?_)
        refine lv_icmp_ge (tgt := 44) hx hb dX5_word_29 (by decide) (fun c10 => ?_) (fun c10 => ?_)
        · have hf := ite_t hf c10
          refine lv_bipush (v := (-9 : Int32)) hx hb dX5_word_44 (by decide) ?_
          exact hR _ _ _ _ _ _ (Option.some.inj hf) hz dX5_word_46
        · have hf := ite_f hf c10
          refine lv_aload_n hx hb dX5_word_32 rfl (lv_at hl 0 rfl) ?_
          refine g_RX5_19_moss C hz dX5_word_33 ?_
          refine lv_iload_n hx hb dX5_word_36 rfl (lv_at hl 1 rfl) ?_
          refine lv_iload_n hx hb dX5_word_37 rfl (lv_at hl 2 rfl) ?_
          obtain ⟨r13, g12, hc11, hf⟩ := bd2_elim hf
          refine z_VI (As := [.int x1, .int x2]) (rest := []) C (c4_wordAt hc11) lk_RX5_131 ⟨rfl, rfl, Nat.le_of_ble_eq_true rfl, Nat.le_of_ble_eq_true rfl⟩ ⟨Nat.zero_le _, Nat.zero_le _⟩ o_told rfl rfl (Nat.le_of_ble_eq_true rfl) rfl hl.1 dX5_word_38 hz (fun H locs hz => ?_)
          refine lv_goto (tgt := 46) hx hb dX5_word_41 (by decide) ?_
          exact hR _ _ _ _ _ _ (Option.some.inj hf) hz dX5_word_46
      · have hf := ite_f hf c6
        refine lv_iconst (v := (-1 : Int32)) hx hb dX5_word_20 (by decide) ?_
        exact hR _ _ _ _ _ _ (Option.some.inj hf) hz dX5_word_21
set_option maxHeartbeats 4000000 in
set_option maxRecDepth 100000 in
theorem c5_word {l : Launch} {D : va_G} {cI cZ cB : ClassId} {h : Nat → Nat} {x1 : Int32} {x2 : Int32} {g : Sg} {r : Int32} {g1 : Sg} (hf : f5_word x1 x2 g = some (r, g1)) : KI l D (tyL cI cZ cB) (wX cI cZ cB h) yX5_word cX5_word 3 (some .int) rm5_word [.ref (h 134), .int x1, .int x2] g r g1 := by
  refine KI_mk (own := RX5) (by decide +kernel) rfl (Nat.le_of_ble_eq_true rfl) ?_
  intro p e s m below meth c A Q ls C hR hz hl
  have hl : lv_has ls 3 [(0, .ref (h 134)), (1, .int x1), (2, .int x2)] := hl
  exact w5_word_b0 C hR _ _ _ _ _ _ hf hz hl
abbrev rm5_isCell : Room := { frames := 0, cells := 0, slots := 0, locals := 0 }
set_option maxHeartbeats 4000000 in
set_option maxRecDepth 100000 in
theorem w5_isCell_b0 {res : Int32 × Sg} (C : Cx p m c cX5_isCell 1 s args RX5 D (tyL cI cZ cB)) (hR : EndZ p l e rm5_isCell s m args below meth c Q D (wX cI cZ cB h) A cX5_isCell res) : ∀ (x0 : Int32) (g : Sg) (H : Heap) (locs : List Loc) (ls : Array Slot), f5_isCell x0 g = some res → Zs D (wX cI cZ cB h) A s.heap H locs g → lv_has ls 1 [(0, .int x0)] → W p l e rm5_isCell s m args below meth c H locs 0 0 Q (F0 m 0 ls []) := by
  have hx := C.1.1
  have hb := C.1.2.1
  intro x0 g H locs ls hf hz hl
  unfold f5_isCell at hf
  refine lv_iload_n hx hb dX5_isCell_0 rfl (lv_at hl 0 rfl) ?_
  refine lv_if_lt (tgt := 14) hx hb dX5_isCell_1 (by decide) (fun c1 => ?_) (fun c1 => ?_)
  · have hf := ite_t hf c1
    refine lv_iconst (v := (0 : Int32)) hx hb dX5_isCell_14 (by decide) ?_
    exact hR _ _ _ _ _ _ hf hz dX5_isCell_15
  · have hf := ite_f hf c1
    refine lv_iload_n hx hb dX5_isCell_4 rfl (lv_at hl 0 rfl) ?_
    refine lv_bipush (v := (6 : Int32)) hx hb dX5_isCell_5 (by decide) ?_
    refine lv_icmp_ge (tgt := 14) hx hb dX5_isCell_7 (by decide) (fun c2 => ?_) (fun c2 => ?_)
    · have hf := ite_t hf c2
      refine lv_iconst (v := (0 : Int32)) hx hb dX5_isCell_14 (by decide) ?_
      exact hR _ _ _ _ _ _ hf hz dX5_isCell_15
    · have hf := ite_f hf c2
      refine lv_iconst (v := (1 : Int32)) hx hb dX5_isCell_10 (by decide) ?_
      refine lv_goto (tgt := 15) hx hb dX5_isCell_11 (by decide) ?_
      exact hR _ _ _ _ _ _ hf hz dX5_isCell_15
set_option maxHeartbeats 4000000 in
set_option maxRecDepth 100000 in
theorem c5_isCell {l : Launch} {D : va_G} {cI cZ cB : ClassId} {h : Nat → Nat} {x0 : Int32} {g : Sg} {r : Int32} {g1 : Sg} (hf : f5_isCell x0 g = some (r, g1)) : KI l D (tyL cI cZ cB) (wX cI cZ cB h) yX5_isCell cX5_isCell 1 (some .boolean) rm5_isCell [.int x0] g r g1 := by
  refine KZ_mk (own := RX5) (by decide +kernel) rfl (Nat.le_of_ble_eq_true rfl) ?_
  intro p e s m below meth c A Q ls C hR hz hl
  have hl : lv_has ls 1 [(0, .int x0)] := hl
  exact w5_isCell_b0 C hR _ _ _ _ _ hf hz hl
abbrev rm5_isNow : Room := { frames := 1, cells := 0, slots := 0, locals := 21 }
set_option maxHeartbeats 4000000 in
set_option maxRecDepth 100000 in
theorem w5_isNow_b0 {res : Int32 × Sg} (C : Cx p m c cX5_isNow 3 s args RX5 D (tyL cI cZ cB)) (hR : EndZ p l e rm5_isNow s m args below meth c Q D (wX cI cZ cB h) A cX5_isNow res) : ∀ (x1 : Int32) (x2 : Int32) (g : Sg) (H : Heap) (locs : List Loc) (ls : Array Slot), f5_isNow x1 x2 g = some res → Zs D (wX cI cZ cB h) A s.heap H locs g → lv_has ls 3 [(0, .ref (h 134)), (1, .int x1), (2, .int x2)] → W p l e rm5_isNow s m args below meth c H locs 0 0 Q (F0 m 0 ls []) := by
  have hx := C.1.1
  have hb := C.1.2.1
  intro x1 x2 g H locs ls hf hz hl
  unfold f5_isNow at hf
  refine lv_aload_n hx hb dX5_isNow_0 rfl (lv_at hl 0 rfl) ?_
  refine g_RX5_19_moss C hz dX5_isNow_1 ?_
  refine lv_iload_n hx hb dX5_isNow_4 rfl (lv_at hl 1 rfl) ?_
  obtain ⟨r3, g2, hc1, hf⟩ := bd2_elim hf
  refine z_VI (As := [.int x1]) (rest := []) C (c4_hasPromise hc1) lk_RX5_100 ⟨rfl, rfl, Nat.le_of_ble_eq_true rfl, Nat.le_of_ble_eq_true rfl⟩ ⟨Nat.zero_le _, Nat.zero_le _⟩ o_told rfl rfl (Nat.le_of_ble_eq_true rfl) rfl hl.1 dX5_isNow_5 hz (fun H locs hz => ?_)
  refine lv_if_eq (tgt := 28) hx hb dX5_isNow_8 (by decide) (fun c4 => ?_) (fun c4 => ?_)
  · have hf := ite_t hf c4
    refine lv_iconst (v := (0 : Int32)) hx hb dX5_isNow_28 (by decide) ?_
    exact hR _ _ _ _ _ _ hf hz dX5_isNow_29
  · have hf := ite_f hf c4
    refine lv_aload_n hx hb dX5_isNow_11 rfl (lv_at hl 0 rfl) ?_
    refine g_RX5_26_moss C hz dX5_isNow_12 ?_
    refine g_RX5_124_bog0 C hz dX5_isNow_15 ?_
    refine lv_iload_n hx hb dX5_isNow_18 rfl (lv_at hl 1 rfl) ?_
    obtain ⟨c5, hf⟩ := ix_elim hf
    refine z_iald C hz a_n_is c5 dX5_isNow_19 ?_
    refine lv_iload_n hx hb dX5_isNow_20 rfl (lv_at hl 2 rfl) ?_
    refine lv_icmp_ne (tgt := 28) hx hb dX5_isNow_21 (by decide) (fun c6 => ?_) (fun c6 => ?_)
    · have hf := ite_f hf c6
      refine lv_iconst (v := (0 : Int32)) hx hb dX5_isNow_28 (by decide) ?_
      exact hR _ _ _ _ _ _ hf hz dX5_isNow_29
    · have hf := ite_t hf c6
      refine lv_iconst (v := (1 : Int32)) hx hb dX5_isNow_24 (by decide) ?_
      refine lv_goto (tgt := 29) hx hb dX5_isNow_25 (by decide) ?_
      exact hR _ _ _ _ _ _ hf hz dX5_isNow_29
set_option maxHeartbeats 4000000 in
set_option maxRecDepth 100000 in
theorem c5_isNow {l : Launch} {D : va_G} {cI cZ cB : ClassId} {h : Nat → Nat} {x1 : Int32} {x2 : Int32} {g : Sg} {r : Int32} {g1 : Sg} (hf : f5_isNow x1 x2 g = some (r, g1)) : KI l D (tyL cI cZ cB) (wX cI cZ cB h) yX5_isNow cX5_isNow 3 (some .boolean) rm5_isNow [.ref (h 134), .int x1, .int x2] g r g1 := by
  refine KZ_mk (own := RX5) (by decide +kernel) rfl (Nat.le_of_ble_eq_true rfl) ?_
  intro p e s m below meth c A Q ls C hR hz hl
  have hl : lv_has ls 3 [(0, .ref (h 134)), (1, .int x1), (2, .int x2)] := hl
  exact w5_isNow_b0 C hR _ _ _ _ _ _ hf hz hl
abbrev rm5_liesIn : Room := { frames := 2, cells := 0, slots := 0, locals := 43 }
set_option maxHeartbeats 4000000 in
set_option maxRecDepth 100000 in
theorem w5_liesIn_b0 {res : Int32 × Sg} (C : Cx p m c cX5_liesIn 3 s args RX5 D (tyL cI cZ cB)) (hR : EndZ p l e rm5_liesIn s m args below meth c Q D (wX cI cZ cB h) A cX5_liesIn res) : ∀ (x1 : Int32) (x2 : Int32) (g : Sg) (H : Heap) (locs : List Loc) (ls : Array Slot), f5_liesIn x1 x2 g = some res → Zs D (wX cI cZ cB h) A s.heap H locs g → lv_has ls 3 [(0, .ref (h 134)), (1, .int x1), (2, .int x2)] → W p l e rm5_liesIn s m args below meth c H locs 0 0 Q (F0 m 0 ls []) := by
  have hx := C.1.1
  have hb := C.1.2.1
  intro x1 x2 g H locs ls hf hz hl
  unfold f5_liesIn at hf
  refine lv_aload_n hx hb dX5_liesIn_0 rfl (lv_at hl 0 rfl) ?_
  refine lv_iload_n hx hb dX5_liesIn_1 rfl (lv_at hl 1 rfl) ?_
  refine lv_iconst (v := (0 : Int32)) hx hb dX5_liesIn_2 (by decide) ?_
  obtain ⟨r3, g2, hc1, hf⟩ := bd2_elim hf
  refine z_VI (As := [.int x1, .int (0 : Int32)]) (rest := []) C (c5_isNow hc1) lk_RX5_190 ⟨rfl, rfl, Nat.le_of_ble_eq_true rfl, Nat.le_of_ble_eq_true rfl⟩ ⟨Nat.zero_le _, Nat.zero_le _⟩ o_moss rfl rfl (Nat.le_of_ble_eq_true rfl) rfl hl.1 dX5_liesIn_3 hz (fun H locs hz => ?_)
  refine lv_if_eq (tgt := 26) hx hb dX5_liesIn_6 (by decide) (fun c4 => ?_) (fun c4 => ?_)
  · have hf := ite_t hf c4
    refine lv_iconst (v := (0 : Int32)) hx hb dX5_liesIn_26 (by decide) ?_
    exact hR _ _ _ _ _ _ hf hz dX5_liesIn_27
  · have hf := ite_f hf c4
    refine lv_aload_n hx hb dX5_liesIn_9 rfl (lv_at hl 0 rfl) ?_
    refine g_RX5_19_moss C hz dX5_liesIn_10 ?_
    refine g_RX5_106_told C hz dX5_liesIn_13 ?_
    refine lv_iload_n hx hb dX5_liesIn_16 rfl (lv_at hl 1 rfl) ?_
    obtain ⟨c5, hf⟩ := ix_elim hf
    refine z_iald C hz a_told_cell c5 dX5_liesIn_17 ?_
    refine lv_iload_n hx hb dX5_liesIn_18 rfl (lv_at hl 2 rfl) ?_
    refine lv_icmp_ne (tgt := 26) hx hb dX5_liesIn_19 (by decide) (fun c6 => ?_) (fun c6 => ?_)
    · have hf := ite_f hf c6
      refine lv_iconst (v := (0 : Int32)) hx hb dX5_liesIn_26 (by decide) ?_
      exact hR _ _ _ _ _ _ hf hz dX5_liesIn_27
    · have hf := ite_t hf c6
      refine lv_iconst (v := (1 : Int32)) hx hb dX5_liesIn_22 (by decide) ?_
      refine lv_goto (tgt := 27) hx hb dX5_liesIn_23 (by decide) ?_
      exact hR _ _ _ _ _ _ hf hz dX5_liesIn_27
set_option maxHeartbeats 4000000 in
set_option maxRecDepth 100000 in
theorem c5_liesIn {l : Launch} {D : va_G} {cI cZ cB : ClassId} {h : Nat → Nat} {x1 : Int32} {x2 : Int32} {g : Sg} {r : Int32} {g1 : Sg} (hf : f5_liesIn x1 x2 g = some (r, g1)) : KI l D (tyL cI cZ cB) (wX cI cZ cB h) yX5_liesIn cX5_liesIn 3 (some .boolean) rm5_liesIn [.ref (h 134), .int x1, .int x2] g r g1 := by
  refine KZ_mk (own := RX5) (by decide +kernel) rfl (Nat.le_of_ble_eq_true rfl) ?_
  intro p e s m below meth c A Q ls C hR hz hl
  have hl : lv_has ls 3 [(0, .ref (h 134)), (1, .int x1), (2, .int x2)] := hl
  exact w5_liesIn_b0 C hR _ _ _ _ _ _ hf hz hl
abbrev rm5_lyingIn : Room := { frames := 3, cells := 0, slots := 0, locals := 65 }
set_option maxHeartbeats 4000000 in
set_option maxRecDepth 100000 in
theorem w5_lyingIn_b25 {res : Int32 × Sg} {k4 : Int32 → Int32 → Int32 → Sg → Option (Int32 × Sg)} (C : Cx p m c cX5_lyingIn 4 s args RX5 D (tyL cI cZ cB)) (hR : EndI p l e rm5_lyingIn s m args below meth c Q D (wX cI cZ cB h) A cX5_lyingIn res) (hk4 : ∀ (x1 : Int32) (x2 : Int32) (x3 : Int32) (g : Sg) (H : Heap) (locs : List Loc) (ls : Array Slot), k4 x1 x2 x3 g = some res → Zs D (wX cI cZ cB h) A s.heap H locs g → lv_has ls 4 [(0, .ref (h 134)), (1, .int x1), (2, .int x2), (3, .int x3)] → W p l e rm5_lyingIn s m args below meth c H locs 0 0 Q (F0 m 4 ls [])) : ∀ (x1 : Int32) (x2 : Int32) (x3 : Int32) (g : Sg) (H : Heap) (locs : List Loc) (ls : Array Slot), f5_lyingIn_b25 k4 x1 x2 x3 g = some res → Zs D (wX cI cZ cB h) A s.heap H locs g → lv_has ls 4 [(0, .ref (h 134)), (1, .int x1), (2, .int x2), (3, .int x3)] → W p l e rm5_lyingIn s m args below meth c H locs 0 0 Q (F0 m 25 ls []) := by
  have hx := C.1.1
  have hb := C.1.2.1
  intro x1 x2 x3 g H locs ls hf hz hl
  unfold f5_lyingIn_b25 at hf
  obtain ⟨v1, ev1, hf⟩ := nx_elim hf
  refine lv_iinc (v := v1) (lv' := [(3, .int v1), (0, .ref (h 134)), (1, .int x1), (2, .int x2)]) hx hb dX5_lyingIn_25 hl (k := 3) rfl (by rw [ev1]; rfl) (by decide) rfl (fun ls hl => ?_)
  refine lv_goto (tgt := 4) hx hb dX5_lyingIn_28 (by decide) ?_
  exact hk4 _ _ _ _ _ _ _ hf hz (lv_sub hl [1, 2, 3, 0] rfl)
set_option maxHeartbeats 4000000 in
set_option maxRecDepth 100000 in
theorem w5_lyingIn_b4 {res : Int32 × Sg} (C : Cx p m c cX5_lyingIn 4 s args RX5 D (tyL cI cZ cB)) (hR : EndI p l e rm5_lyingIn s m args below meth c Q D (wX cI cZ cB h) A cX5_lyingIn res) : ∀ n : Nat, ∀ (x1 : Int32) (x2 : Int32) (x3 : Int32) (g : Sg) (H : Heap) (locs : List Loc) (ls : Array Slot), f5_lyingIn_b4 n x1 x2 x3 g = some res → Zs D (wX cI cZ cB h) A s.heap H locs g → lv_has ls 4 [(0, .ref (h 134)), (1, .int x1), (2, .int x2), (3, .int x3)] → W p l e rm5_lyingIn s m args below meth c H locs 0 0 Q (F0 m 4 ls []) := by
  have hx := C.1.1
  have hb := C.1.2.1
  intro n
  induction n with
  | zero =>
    intro x1 x2 x3 g H locs ls hf hz hl
    cases hf
  | succ n ih =>
    intro x1 x2 x3 g H locs ls hf hz hl
    rw [f5_lyingIn_b4] at hf
    refine lv_iload_n hx hb dX5_lyingIn_4 rfl (lv_at hl 3 rfl) ?_
    refine lv_bipush (v := (8 : Int32)) hx hb dX5_lyingIn_5 (by decide) ?_
    refine lv_icmp_ge (tgt := 31) hx hb dX5_lyingIn_7 (by decide) (fun c2 => ?_) (fun c2 => ?_)
    · have hf := ite_t hf c2
      refine lv_iload_n hx hb dX5_lyingIn_31 rfl (lv_at hl 2 rfl) ?_
      exact hR _ _ _ _ _ _ (Option.some.inj hf) hz dX5_lyingIn_32
    · have hf := ite_f hf c2
      refine lv_aload_n hx hb dX5_lyingIn_10 rfl (lv_at hl 0 rfl) ?_
      refine lv_iload_n hx hb dX5_lyingIn_11 rfl (lv_at hl 3 rfl) ?_
      refine lv_iload_n hx hb dX5_lyingIn_12 rfl (lv_at hl 1 rfl) ?_
      obtain ⟨r5, g4, hc3, hf⟩ := bd2_elim hf
      refine z_VI (As := [.int x3, .int x1]) (rest := []) C (c5_liesIn hc3) lk_RX5_163 ⟨rfl, rfl, Nat.le_of_ble_eq_true rfl, Nat.le_of_ble_eq_true rfl⟩ ⟨Nat.zero_le _, Nat.zero_le _⟩ o_moss rfl rfl (Nat.le_of_ble_eq_true rfl) rfl hl.1 dX5_lyingIn_13 hz (fun H locs hz => ?_)
      refine lv_if_eq (tgt := 25) hx hb dX5_lyingIn_16 (by decide) (fun c6 => ?_) (fun c6 => ?_)
      · have hf := ite_t hf c6
        exact w5_lyingIn_b25 C hR ih _ _ _ _ _ _ _ hf hz (lv_sub hl [0, 1, 2, 3] rfl)
      · have hf := ite_f hf c6
        refine lv_iload_n hx hb dX5_lyingIn_19 rfl (lv_at hl 2 rfl) ?_
        refine lv_iconst (v := (1 : Int32)) hx hb dX5_lyingIn_20 (by decide) ?_
        refine lv_iload_n hx hb dX5_lyingIn_21 rfl (lv_at hl 3 rfl) ?_
        refine lv_ishl hx hb dX5_lyingIn_22 ?_
        refine lv_ior hx hb dX5_lyingIn_23 ?_
        obtain ⟨v7, ev7, hf⟩ := nx_elim hf
        refine z_nm ev7 ?_
        refine lv_istore_n (lv' := [(2, .int v7), (0, .ref (h 134)), (1, .int x1), (3, .int x3)]) hx hb dX5_lyingIn_24 rfl hl (by decide) rfl (fun ls hl => ?_)
        exact w5_lyingIn_b25 C hR ih _ _ _ _ _ _ _ hf hz (lv_sub hl [1, 2, 0, 3] rfl)
set_option maxHeartbeats 4000000 in
set_option maxRecDepth 100000 in
theorem w5_lyingIn_b0 {res : Int32 × Sg} (C : Cx p m c cX5_lyingIn 4 s args RX5 D (tyL cI cZ cB)) (hR : EndI p l e rm5_lyingIn s m args below meth c Q D (wX cI cZ cB h) A cX5_lyingIn res) : ∀ (x1 : Int32) (g : Sg) (H : Heap) (locs : List Loc) (ls : Array Slot), f5_lyingIn x1 g = some res → Zs D (wX cI cZ cB h) A s.heap H locs g → lv_has ls 4 [(0, .ref (h 134)), (1, .int x1)] → W p l e rm5_lyingIn s m args below meth c H locs 0 0 Q (F0 m 0 ls []) := by
  have hx := C.1.1
  have hb := C.1.2.1
  intro x1 g H locs ls hf hz hl
  unfold f5_lyingIn at hf
  refine lv_iconst (v := (0 : Int32)) hx hb dX5_lyingIn_0 (by decide) ?_
  refine lv_istore_n (lv' := [(2, .int (0 : Int32)), (0, .ref (h 134)), (1, .int x1)]) hx hb dX5_lyingIn_1 rfl hl (by decide) rfl (fun ls hl => ?_)
  refine lv_iconst (v := (0 : Int32)) hx hb dX5_lyingIn_2 (by decide) ?_
  refine lv_istore_n (lv' := [(3, .int (0 : Int32)), (2, .int (0 : Int32)), (0, .ref (h 134)), (1, .int x1)]) hx hb dX5_lyingIn_3 rfl hl (by decide) rfl (fun ls hl => ?_)
  exact w5_lyingIn_b4 C hR 1000 _ _ _ _ _ _ _ hf hz (lv_sub hl [2, 3, 1, 0] rfl)
set_option maxHeartbeats 4000000 in
set_option maxRecDepth 100000 in
theorem c5_lyingIn {l : Launch} {D : va_G} {cI cZ cB : ClassId} {h : Nat → Nat} {x1 : Int32} {g : Sg} {r : Int32} {g1 : Sg} (hf : f5_lyingIn x1 g = some (r, g1)) : KI l D (tyL cI cZ cB) (wX cI cZ cB h) yX5_lyingIn cX5_lyingIn 4 (some .int) rm5_lyingIn [.ref (h 134), .int x1] g r g1 := by
  refine KI_mk (own := RX5) (by decide +kernel) rfl (Nat.le_of_ble_eq_true rfl) ?_
  intro p e s m below meth c A Q ls C hR hz hl
  have hl : lv_has ls 4 [(0, .ref (h 134)), (1, .int x1)] := hl
  exact w5_lyingIn_b0 C hR _ _ _ _ _ hf hz hl
abbrev rm5_holds : Room := { frames := 0, cells := 0, slots := 0, locals := 0 }
set_option maxHeartbeats 4000000 in
set_option maxRecDepth 100000 in
theorem w5_holds_b0 {res : Int32 × Sg} (C : Cx p m c cX5_holds 2 s args RX5 D (tyL cI cZ cB)) (hR : EndZ p l e rm5_holds s m args below meth c Q D (wX cI cZ cB h) A cX5_holds res) : ∀ (x0 : Int32) (x1 : Int32) (g : Sg) (H : Heap) (locs : List Loc) (ls : Array Slot), f5_holds x0 x1 g = some res → Zs D (wX cI cZ cB h) A s.heap H locs g → lv_has ls 2 [(0, .int x0), (1, .int x1)] → W p l e rm5_holds s m args below meth c H locs 0 0 Q (F0 m 0 ls []) := by
  have hx := C.1.1
  have hb := C.1.2.1
  intro x0 x1 g H locs ls hf hz hl
  unfold f5_holds at hf
  refine lv_iload_n hx hb dX5_holds_0 rfl (lv_at hl 1 rfl) ?_
  refine lv_if_lt (tgt := 17) hx hb dX5_holds_1 (by decide) (fun c1 => ?_) (fun c1 => ?_)
  · have hf := ite_t hf c1
    refine lv_iconst (v := (0 : Int32)) hx hb dX5_holds_17 (by decide) ?_
    exact hR _ _ _ _ _ _ hf hz dX5_holds_18
  · have hf := ite_f hf c1
    refine lv_iload_n hx hb dX5_holds_4 rfl (lv_at hl 0 rfl) ?_
    refine lv_iload_n hx hb dX5_holds_5 rfl (lv_at hl 1 rfl) ?_
    refine lv_ishr hx hb dX5_holds_6 ?_
    refine lv_iconst (v := (1 : Int32)) hx hb dX5_holds_7 (by decide) ?_
    refine lv_iand hx hb dX5_holds_8 ?_
    refine lv_iconst (v := (1 : Int32)) hx hb dX5_holds_9 (by decide) ?_
    refine lv_icmp_ne (tgt := 17) hx hb dX5_holds_10 (by decide) (fun c2 => ?_) (fun c2 => ?_)
    · have hf := ite_f hf c2
      refine lv_iconst (v := (0 : Int32)) hx hb dX5_holds_17 (by decide) ?_
      exact hR _ _ _ _ _ _ hf hz dX5_holds_18
    · have hf := ite_t hf c2
      refine lv_iconst (v := (1 : Int32)) hx hb dX5_holds_13 (by decide) ?_
      refine lv_goto (tgt := 18) hx hb dX5_holds_14 (by decide) ?_
      exact hR _ _ _ _ _ _ hf hz dX5_holds_18
set_option maxHeartbeats 4000000 in
set_option maxRecDepth 100000 in
theorem c5_holds {l : Launch} {D : va_G} {cI cZ cB : ClassId} {h : Nat → Nat} {x0 : Int32} {x1 : Int32} {g : Sg} {r : Int32} {g1 : Sg} (hf : f5_holds x0 x1 g = some (r, g1)) : KI l D (tyL cI cZ cB) (wX cI cZ cB h) yX5_holds cX5_holds 2 (some .boolean) rm5_holds [.int x0, .int x1] g r g1 := by
  refine KZ_mk (own := RX5) (by decide +kernel) rfl (Nat.le_of_ble_eq_true rfl) ?_
  intro p e s m below meth c A Q ls C hR hz hl
  have hl : lv_has ls 2 [(0, .int x0), (1, .int x1)] := hl
  exact w5_holds_b0 C hR _ _ _ _ _ _ hf hz hl
abbrev rm5_beginWetThen : Room := { frames := 1, cells := 0, slots := 0, locals := 21 }
set_option maxHeartbeats 4000000 in
set_option maxRecDepth 100000 in
theorem w5_beginWetThen_b34 {res : Sg} {k2 : Int32 → Int32 → Sg → Option (Sg)} (C : Cx p m c cX5_beginWetThen 3 s args RX5 D (tyL cI cZ cB)) (hR : EndV p l e rm5_beginWetThen s m args below meth c Q D (wX cI cZ cB h) A cX5_beginWetThen res) (hk2 : ∀ (x1 : Int32) (x2 : Int32) (g : Sg) (H : Heap) (locs : List Loc) (ls : Array Slot), k2 x1 x2 g = some res → Zs D (wX cI cZ cB h) A s.heap H locs g → lv_has ls 3 [(0, .ref (h 134)), (1, .int x1), (2, .int x2)] → W p l e rm5_beginWetThen s m args below meth c H locs 0 0 Q (F0 m 2 ls [])) : ∀ (x1 : Int32) (x2 : Int32) (y0 : Int32) (y1 : Int32) (g : Sg) (H : Heap) (locs : List Loc) (ls : Array Slot), f5_beginWetThen_b34 k2 x1 x2 y0 y1 g = some res → Zs D (wX cI cZ cB h) A s.heap H locs g → lv_has ls 3 [(0, .ref (h 134)), (1, .int x1), (2, .int x2)] → W p l e rm5_beginWetThen s m args below meth c H locs 0 0 Q (F0 m 34 ls [.int y0, .int y1, .ref (h 131)]) := by
  have hx := C.1.1
  have hb := C.1.2.1
  intro x1 x2 y0 y1 g H locs ls hf hz hl
  unfold f5_beginWetThen_b34 at hf
  obtain ⟨c1, hf⟩ := ix_elim hf
  obtain ⟨g2, eg2, hf⟩ := nx_elim hf
  refine z_iast C hz a_x_wetThen c1 eg2 dX5_beginWetThen_34 (fun H locs hz => ?_)
  obtain ⟨v3, ev3, hf⟩ := nx_elim hf
  refine lv_iinc (v := v3) (lv' := [(2, .int v3), (0, .ref (h 134)), (1, .int x1)]) hx hb dX5_beginWetThen_35 hl (k := 2) rfl (by rw [ev3]; rfl) (by decide) rfl (fun ls hl => ?_)
  refine lv_goto (tgt := 2) hx hb dX5_beginWetThen_38 (by decide) ?_
  exact hk2 _ _ _ _ _ _ hf hz (lv_sub hl [1, 2, 0] rfl)
set_option maxHeartbeats 4000000 in
set_option maxRecDepth 100000 in
theorem w5_beginWetThen_b2 {res : Sg} (C : Cx p m c cX5_beginWetThen 3 s args RX5 D (tyL cI cZ cB)) (hR : EndV p l e rm5_beginWetThen s m args below meth c Q D (wX cI cZ cB h) A cX5_beginWetThen res) : ∀ n : Nat, ∀ (x1 : Int32) (x2 : Int32) (g : Sg) (H : Heap) (locs : List Loc) (ls : Array Slot), f5_beginWetThen_b2 n x1 x2 g = some res → Zs D (wX cI cZ cB h) A s.heap H locs g → lv_has ls 3 [(0, .ref (h 134)), (1, .int x1), (2, .int x2)] → W p l e rm5_beginWetThen s m args below meth c H locs 0 0 Q (F0 m 2 ls []) := by
  have hx := C.1.1
  have hb := C.1.2.1
  intro n
  induction n with
  | zero =>
    intro x1 x2 g H locs ls hf hz hl
    cases hf
  | succ n ih =>
    intro x1 x2 g H locs ls hf hz hl
    rw [f5_beginWetThen_b2] at hf
    refine lv_iload_n hx hb dX5_beginWetThen_2 rfl (lv_at hl 2 rfl) ?_
    refine lv_bipush (v := (6 : Int32)) hx hb dX5_beginWetThen_3 (by decide) ?_
    refine lv_icmp_ge (tgt := 41) hx hb dX5_beginWetThen_5 (by decide) (fun c4 => ?_) (fun c4 => ?_)
    · have hf := ite_t hf c4
      exact hR _ _ _ _ _ (Option.some.inj hf) hz dX5_beginWetThen_41
    · have hf := ite_f hf c4
      refine lv_aload_n hx hb dX5_beginWetThen_8 rfl (lv_at hl 0 rfl) ?_
      refine g_RX5_49_moss C hz dX5_beginWetThen_9 ?_
      refine lv_iload_n hx hb dX5_beginWetThen_12 rfl (lv_at hl 2 rfl) ?_
      refine lv_iload_n hx hb dX5_beginWetThen_13 rfl (lv_at hl 1 rfl) ?_
      refine lv_iload_n hx hb dX5_beginWetThen_14 rfl (lv_at hl 2 rfl) ?_
      obtain ⟨r7, g6, hc5, hf⟩ := bd2_elim hf
      refine z_SI (As := [.int x1, .int x2]) (rest := [.int x2, .ref (h 131)]) C (c5_holds hc5) lk_RX5_193 ⟨rfl, rfl, Nat.le_of_ble_eq_true rfl, Nat.le_of_ble_eq_true rfl⟩ ⟨Nat.zero_le _, Nat.zero_le _⟩ rfl (Nat.le_of_ble_eq_true rfl) rfl hl.1 dX5_beginWetThen_15 hz (fun H locs hz => ?_)
      refine lv_if_eq (tgt := 25) hx hb dX5_beginWetThen_18 (by decide) (fun c8 => ?_) (fun c8 => ?_)
      · have hf := ite_t hf c8
        refine lv_aload_n hx hb dX5_beginWetThen_25 rfl (lv_at hl 0 rfl) ?_
        refine g_RX5_26_moss C hz dX5_beginWetThen_26 ?_
        refine g_RX5_140_bog0 C hz dX5_beginWetThen_29 ?_
        refine lv_iload_n hx hb dX5_beginWetThen_32 rfl (lv_at hl 2 rfl) ?_
        obtain ⟨c9, hf⟩ := ix_elim hf
        refine z_iald C hz a_n_wet c9 dX5_beginWetThen_33 ?_
        exact w5_beginWetThen_b34 C hR ih _ _ _ _ _ _ _ _ hf hz (lv_sub hl [0, 1, 2] rfl)
      · have hf := ite_f hf c8
        refine lv_iconst (v := (0 : Int32)) hx hb dX5_beginWetThen_21 (by decide) ?_
        refine lv_goto (tgt := 34) hx hb dX5_beginWetThen_22 (by decide) ?_
        exact w5_beginWetThen_b34 C hR ih _ _ _ _ _ _ _ _ hf hz (lv_sub hl [0, 1, 2] rfl)
set_option maxHeartbeats 4000000 in
set_option maxRecDepth 100000 in
theorem w5_beginWetThen_b0 {res : Sg} (C : Cx p m c cX5_beginWetThen 3 s args RX5 D (tyL cI cZ cB)) (hR : EndV p l e rm5_beginWetThen s m args below meth c Q D (wX cI cZ cB h) A cX5_beginWetThen res) : ∀ (x1 : Int32) (g : Sg) (H : Heap) (locs : List Loc) (ls : Array Slot), f5_beginWetThen x1 g = some res → Zs D (wX cI cZ cB h) A s.heap H locs g → lv_has ls 3 [(0, .ref (h 134)), (1, .int x1)] → W p l e rm5_beginWetThen s m args below meth c H locs 0 0 Q (F0 m 0 ls []) := by
  have hx := C.1.1
  have hb := C.1.2.1
  intro x1 g H locs ls hf hz hl
  unfold f5_beginWetThen at hf
  refine lv_iconst (v := (0 : Int32)) hx hb dX5_beginWetThen_0 (by decide) ?_
  refine lv_istore_n (lv' := [(2, .int (0 : Int32)), (0, .ref (h 134)), (1, .int x1)]) hx hb dX5_beginWetThen_1 rfl hl (by decide) rfl (fun ls hl => ?_)
  exact w5_beginWetThen_b2 C hR 1000 _ _ _ _ _ _ hf hz (lv_sub hl [1, 2, 0] rfl)
set_option maxHeartbeats 4000000 in
set_option maxRecDepth 100000 in
theorem c5_beginWetThen {l : Launch} {D : va_G} {cI cZ cB : ClassId} {h : Nat → Nat} {x1 : Int32} {g : Sg} {g1 : Sg} (hf : f5_beginWetThen x1 g = some g1) : KV l D (tyL cI cZ cB) (wX cI cZ cB h) yX5_beginWetThen cX5_beginWetThen 3 none rm5_beginWetThen [.ref (h 134), .int x1] g g1 := by
  refine KV_mk (own := RX5) (by decide +kernel) rfl (Nat.le_of_ble_eq_true rfl) ?_
  intro p e s m below meth c A Q ls C hR hz hl
  have hl : lv_has ls 3 [(0, .ref (h 134)), (1, .int x1)] := hl
  exact w5_beginWetThen_b0 C hR _ _ _ _ _ hf hz hl
abbrev rm5_wetAround : Room := { frames := 1, cells := 0, slots := 0, locals := 21 }
set_option maxHeartbeats 4000000 in
set_option maxRecDepth 100000 in
theorem w5_wetAround_b10 {a : Nat} {pos : Nat} {res : Int32 × Sg} (C : Cx p m c cX5_wetAround 4 s args RX5 D (tyL cI cZ cB)) (ha : aI (wX cI cZ cB h) cI pos (h a) 6 a) (hR : EndI p l e rm5_wetAround s m args below meth c Q D (wX cI cZ cB h) A cX5_wetAround res) : ∀ n : Nat, ∀ (x1 : Int32) (x2 : Int32) (x3 : Int32) (g : Sg) (H : Heap) (locs : List Loc) (ls : Array Slot), f5_wetAround_b10 a n x1 x2 x3 g = some res → Zs D (wX cI cZ cB h) A s.heap H locs g → lv_has ls 4 [(0, .ref (h a)), (1, .int x1), (2, .int x2), (3, .int x3)] → W p l e rm5_wetAround s m args below meth c H locs 0 0 Q (F0 m 10 ls []) := by
  have hx := C.1.1
  have hb := C.1.2.1
  intro n
  induction n with
  | zero =>
    intro x1 x2 x3 g H locs ls hf hz hl
    cases hf
  | succ n ih =>
    intro x1 x2 x3 g H locs ls hf hz hl
    rw [f5_wetAround_b10] at hf
    refine lv_iload_n hx hb dX5_wetAround_10 rfl (lv_at hl 3 rfl) ?_
    refine lv_iload_n hx hb dX5_wetAround_11 rfl (lv_at hl 1 rfl) ?_
    refine lv_iconst (v := (1 : Int32)) hx hb dX5_wetAround_12 (by decide) ?_
    refine lv_iadd hx hb dX5_wetAround_13 ?_
    refine lv_icmp_gt (tgt := 35) hx hb dX5_wetAround_14 (by decide) (fun c1 => ?_) (fun c1 => ?_)
    · have hf := ite_t hf c1
      refine lv_iload_n hx hb dX5_wetAround_35 rfl (lv_at hl 2 rfl) ?_
      exact hR _ _ _ _ _ _ (Option.some.inj hf) hz dX5_wetAround_36
    · have hf := ite_f hf c1
      refine lv_iload_n hx hb dX5_wetAround_17 rfl (lv_at hl 3 rfl) ?_
      refine lv_aload_n hx hb dX5_wetAround_18 rfl (lv_at hl 0 rfl) ?_
      refine z_alen (v := (6 : Int32)) C hz ha rfl dX5_wetAround_19 ?_
      refine lv_icmp_ge (tgt := 35) hx hb dX5_wetAround_20 (by decide) (fun c2 => ?_) (fun c2 => ?_)
      · have hf := ite_t hf c2
        refine lv_iload_n hx hb dX5_wetAround_35 rfl (lv_at hl 2 rfl) ?_
        exact hR _ _ _ _ _ _ (Option.some.inj hf) hz dX5_wetAround_36
      · have hf := ite_f hf c2
        refine lv_iload_n hx hb dX5_wetAround_23 rfl (lv_at hl 2 rfl) ?_
        refine lv_aload_n hx hb dX5_wetAround_24 rfl (lv_at hl 0 rfl) ?_
        refine lv_iload_n hx hb dX5_wetAround_25 rfl (lv_at hl 3 rfl) ?_
        obtain ⟨c3, hf⟩ := ix_elim hf
        refine z_iald C hz ha c3 dX5_wetAround_26 ?_
        refine lv_iadd hx hb dX5_wetAround_27 ?_
        obtain ⟨v4, ev4, hf⟩ := nx_elim hf
        refine z_nm ev4 ?_
        refine lv_istore_n (lv' := [(2, .int v4), (0, .ref (h a)), (1, .int x1), (3, .int x3)]) hx hb dX5_wetAround_28 rfl hl (by decide) rfl (fun ls hl => ?_)
        obtain ⟨v5, ev5, hf⟩ := nx_elim hf
        refine lv_iinc (v := v5) (lv' := [(3, .int v5), (2, .int v4), (0, .ref (h a)), (1, .int x1)]) hx hb dX5_wetAround_29 hl (k := 3) rfl (by rw [ev5]; rfl) (by decide) rfl (fun ls hl => ?_)
        refine lv_goto (tgt := 10) hx hb dX5_wetAround_32 (by decide) ?_
        exact ih _ _ _ _ _ _ _ hf hz (lv_sub hl [2, 3, 1, 0] rfl)
set_option maxHeartbeats 4000000 in
set_option maxRecDepth 100000 in
theorem w5_wetAround_b0 {a : Nat} {pos : Nat} {res : Int32 × Sg} (C : Cx p m c cX5_wetAround 4 s args RX5 D (tyL cI cZ cB)) (ha : aI (wX cI cZ cB h) cI pos (h a) 6 a) (hR : EndI p l e rm5_wetAround s m args below meth c Q D (wX cI cZ cB h) A cX5_wetAround res) : ∀ (x1 : Int32) (g : Sg) (H : Heap) (locs : List Loc) (ls : Array Slot), f5_wetAround a x1 g = some res → Zs D (wX cI cZ cB h) A s.heap H locs g → lv_has ls 4 [(0, .ref (h a)), (1, .int x1)] → W p l e rm5_wetAround s m args below meth c H locs 0 0 Q (F0 m 0 ls []) := by
  have hx := C.1.1
  have hb := C.1.2.1
  intro x1 g H locs ls hf hz hl
  unfold f5_wetAround at hf
  refine lv_iconst (v := (0 : Int32)) hx hb dX5_wetAround_0 (by decide) ?_
  refine lv_istore_n (lv' := [(2, .int (0 : Int32)), (0, .ref (h a)), (1, .int x1)]) hx hb dX5_wetAround_1 rfl hl (by decide) rfl (fun ls hl => ?_)
  refine lv_iconst (v := (0 : Int32)) hx hb dX5_wetAround_2 (by decide) ?_
  refine lv_iload_n hx hb dX5_wetAround_3 rfl (lv_at hl 2 rfl) ?_
  refine lv_iconst (v := (1 : Int32)) hx hb dX5_wetAround_4 (by decide) ?_
  refine lv_isub hx hb dX5_wetAround_5 ?_
  refine z_max C hl.1 wd_254 wd_256 wd_171 wd_255 (Nat.le_of_ble_eq_true rfl) (Nat.le_of_ble_eq_true rfl) (Nat.zero_le _) (Nat.zero_le _) dX5_wetAround_6 ?_
  obtain ⟨v6, ev6, hf⟩ := nx_elim hf
  refine z_nm ev6 ?_
  refine lv_istore_n (lv' := [(3, .int v6), (2, .int (0 : Int32)), (0, .ref (h a)), (1, .int x1)]) hx hb dX5_wetAround_9 rfl hl (by decide) rfl (fun ls hl => ?_)
  exact w5_wetAround_b10 C ha hR 1000 _ _ _ _ _ _ _ hf hz (lv_sub hl [2, 3, 1, 0] rfl)
set_option maxHeartbeats 4000000 in
set_option maxRecDepth 100000 in
theorem c5_wetAround {l : Launch} {D : va_G} {cI cZ cB : ClassId} {h : Nat → Nat} {a : Nat} {pos : Nat} {x1 : Int32} {g : Sg} {r : Int32} {g1 : Sg} (ha : aI (wX cI cZ cB h) cI pos (h a) 6 a) (hf : f5_wetAround a x1 g = some (r, g1)) : KI l D (tyL cI cZ cB) (wX cI cZ cB h) yX5_wetAround cX5_wetAround 4 (some .int) rm5_wetAround [.ref (h a), .int x1] g r g1 := by
  refine KI_mk (own := RX5) (by decide +kernel) rfl (Nat.le_of_ble_eq_true rfl) ?_
  intro p e s m below meth c A Q ls C hR hz hl
  have hl : lv_has ls 4 [(0, .ref (h a)), (1, .int x1)] := hl
  exact w5_wetAround_b0 C ha hR _ _ _ _ _ hf hz hl
abbrev rm5_letYearPass : Room := { frames := 2, cells := 0, slots := 0, locals := 44 }
set_option maxHeartbeats 4000000 in
set_option maxRecDepth 100000 in
theorem w5_letYearPass_b84 {a : Nat} {pos : Nat} {res : Int32 × Sg} {k66 : Int32 → Int32 → Sg → Option (Int32 × Sg)} (C : Cx p m c cX5_letYearPass 4 s args RX5 D (tyL cI cZ cB)) (ha : aI (wX cI cZ cB h) cI pos (h a) 6 a) (hR : EndI p l e rm5_letYearPass s m args below meth c Q D (wX cI cZ cB h) A cX5_letYearPass res) (hk66 : ∀ (x2 : Int32) (x3 : Int32) (g : Sg) (H : Heap) (locs : List Loc) (ls : Array Slot), k66 x2 x3 g = some res → Zs D (wX cI cZ cB h) A s.heap H locs g → lv_has ls 4 [(1, .ref (h a)), (2, .int x2), (3, .int x3)] → W p l e rm5_letYearPass s m args below meth c H locs 0 0 Q (F0 m 66 ls [])) : ∀ (x2 : Int32) (x3 : Int32) (g : Sg) (H : Heap) (locs : List Loc) (ls : Array Slot), f5_letYearPass_b84 a k66 x2 x3 g = some res → Zs D (wX cI cZ cB h) A s.heap H locs g → lv_has ls 4 [(1, .ref (h a)), (2, .int x2), (3, .int x3)] → W p l e rm5_letYearPass s m args below meth c H locs 0 0 Q (F0 m 84 ls []) := by
  have hx := C.1.1
  have hb := C.1.2.1
  intro x2 x3 g H locs ls hf hz hl
  unfold f5_letYearPass_b84 at hf
  obtain ⟨v1, ev1, hf⟩ := nx_elim hf
  refine lv_iinc (v := v1) (lv' := [(3, .int v1), (1, .ref (h a)), (2, .int x2)]) hx hb dX5_letYearPass_84 hl (k := 2) rfl (by rw [ev1]; rfl) (by decide) rfl (fun ls hl => ?_)
  refine lv_goto (tgt := 66) hx hb dX5_letYearPass_87 (by decide) ?_
  exact hk66 _ _ _ _ _ _ hf hz (lv_sub hl [1, 2, 0] rfl)
set_option maxHeartbeats 4000000 in
set_option maxRecDepth 100000 in
theorem w5_letYearPass_b66 {a : Nat} {pos : Nat} {res : Int32 × Sg} (C : Cx p m c cX5_letYearPass 4 s args RX5 D (tyL cI cZ cB)) (ha : aI (wX cI cZ cB h) cI pos (h a) 6 a) (hR : EndI p l e rm5_letYearPass s m args below meth c Q D (wX cI cZ cB h) A cX5_letYearPass res) : ∀ n : Nat, ∀ (x2 : Int32) (x3 : Int32) (g : Sg) (H : Heap) (locs : List Loc) (ls : Array Slot), f5_letYearPass_b66 a n x2 x3 g = some res → Zs D (wX cI cZ cB h) A s.heap H locs g → lv_has ls 4 [(1, .ref (h a)), (2, .int x2), (3, .int x3)] → W p l e rm5_letYearPass s m args below meth c H locs 0 0 Q (F0 m 66 ls []) := by
  have hx := C.1.1
  have hb := C.1.2.1
  intro n
  induction n with
  | zero =>
    intro x2 x3 g H locs ls hf hz hl
    cases hf
  | succ n ih =>
    intro x2 x3 g H locs ls hf hz hl
    rw [f5_letYearPass_b66] at hf
    refine lv_iload_n hx hb dX5_letYearPass_66 rfl (lv_at hl 2 rfl) ?_
    refine lv_aload_n hx hb dX5_letYearPass_67 rfl (lv_at hl 0 rfl) ?_
    refine z_alen (v := (6 : Int32)) C hz ha rfl dX5_letYearPass_68 ?_
    refine lv_icmp_ge (tgt := 90) hx hb dX5_letYearPass_69 (by decide) (fun c2 => ?_) (fun c2 => ?_)
    · have hf := ite_t hf c2
      refine lv_iload_n hx hb dX5_letYearPass_90 rfl (lv_at hl 1 rfl) ?_
      exact hR _ _ _ _ _ _ (Option.some.inj hf) hz dX5_letYearPass_91
    · have hf := ite_f hf c2
      refine lv_iload_n hx hb dX5_letYearPass_72 rfl (lv_at hl 1 rfl) ?_
      refine lv_iload_n hx hb dX5_letYearPass_73 rfl (lv_at hl 2 rfl) ?_
      obtain ⟨r5, g4, hc3, hf⟩ := bd2_elim hf
      refine z_SI (As := [.int x2, .int x3]) (rest := []) C (c5_holds hc3) lk_RX5_193 ⟨rfl, rfl, Nat.le_of_ble_eq_true rfl, Nat.le_of_ble_eq_true rfl⟩ ⟨Nat.zero_le _, Nat.zero_le _⟩ rfl (Nat.le_of_ble_eq_true rfl) rfl hl.1 dX5_letYearPass_74 hz (fun H locs hz => ?_)
      refine lv_if_eq (tgt := 84) hx hb dX5_letYearPass_77 (by decide) (fun c6 => ?_) (fun c6 => ?_)
      · have hf := ite_t hf c6
        exact w5_letYearPass_b84 C ha hR ih _ _ _ _ _ _ hf hz (lv_sub hl [0, 1, 2] rfl)
      · have hf := ite_f hf c6
        refine lv_aload_n hx hb dX5_letYearPass_80 rfl (lv_at hl 0 rfl) ?_
        refine lv_iload_n hx hb dX5_letYearPass_81 rfl (lv_at hl 2 rfl) ?_
        refine lv_iconst (v := (0 : Int32)) hx hb dX5_letYearPass_82 (by decide) ?_
        obtain ⟨c7, hf⟩ := ix_elim hf
        obtain ⟨g8, eg8, hf⟩ := nx_elim hf
        refine z_iast C hz ha c7 eg8 dX5_letYearPass_83 (fun H locs hz => ?_)
        exact w5_letYearPass_b84 C ha hR ih _ _ _ _ _ _ hf hz (lv_sub hl [0, 1, 2] rfl)
set_option maxHeartbeats 4000000 in
set_option maxRecDepth 100000 in
theorem w5_letYearPass_b58 {a : Nat} {pos : Nat} {res : Int32 × Sg} {k31 : Int32 → Int32 → Sg → Option (Int32 × Sg)} (C : Cx p m c cX5_letYearPass 4 s args RX5 D (tyL cI cZ cB)) (ha : aI (wX cI cZ cB h) cI pos (h a) 6 a) (hR : EndI p l e rm5_letYearPass s m args below meth c Q D (wX cI cZ cB h) A cX5_letYearPass res) (hk31 : ∀ (x2 : Int32) (x3 : Int32) (g : Sg) (H : Heap) (locs : List Loc) (ls : Array Slot), k31 x2 x3 g = some res → Zs D (wX cI cZ cB h) A s.heap H locs g → lv_has ls 4 [(0, .ref (h 134)), (1, .ref (h a)), (2, .int x2), (3, .int x3)] → W p l e rm5_letYearPass s m args below meth c H locs 0 0 Q (F0 m 31 ls [])) : ∀ (x2 : Int32) (x3 : Int32) (g : Sg) (H : Heap) (locs : List Loc) (ls : Array Slot), f5_letYearPass_b58 a k31 x2 x3 g = some res → Zs D (wX cI cZ cB h) A s.heap H locs g → lv_has ls 4 [(0, .ref (h 134)), (1, .ref (h a)), (2, .int x2), (3, .int x3)] → W p l e rm5_letYearPass s m args below meth c H locs 0 0 Q (F0 m 58 ls []) := by
  have hx := C.1.1
  have hb := C.1.2.1
  intro x2 x3 g H locs ls hf hz hl
  unfold f5_letYearPass_b58 at hf
  obtain ⟨v9, ev9, hf⟩ := nx_elim hf
  refine lv_iinc (v := v9) (lv' := [(3, .int v9), (0, .ref (h 134)), (1, .ref (h a)), (2, .int x2)]) hx hb dX5_letYearPass_58 hl (k := 3) rfl (by rw [ev9]; rfl) (by decide) rfl (fun ls hl => ?_)
  refine lv_goto (tgt := 31) hx hb dX5_letYearPass_61 (by decide) ?_
  exact hk31 _ _ _ _ _ _ hf hz (lv_sub hl [1, 2, 3, 0] rfl)
set_option maxHeartbeats 4000000 in
set_option maxRecDepth 100000 in
theorem w5_letYearPass_b31 {a : Nat} {pos : Nat} {res : Int32 × Sg} (C : Cx p m c cX5_letYearPass 4 s args RX5 D (tyL cI cZ cB)) (ha : aI (wX cI cZ cB h) cI pos (h a) 6 a) (hR : EndI p l e rm5_letYearPass s m args below meth c Q D (wX cI cZ cB h) A cX5_letYearPass res) : ∀ n : Nat, ∀ (x2 : Int32) (x3 : Int32) (g : Sg) (H : Heap) (locs : List Loc) (ls : Array Slot), f5_letYearPass_b31 a n x2 x3 g = some res → Zs D (wX cI cZ cB h) A s.heap H locs g → lv_has ls 4 [(0, .ref (h 134)), (1, .ref (h a)), (2, .int x2), (3, .int x3)] → W p l e rm5_letYearPass s m args below meth c H locs 0 0 Q (F0 m 31 ls []) := by
  have hx := C.1.1
  have hb := C.1.2.1
  intro n
  induction n with
  | zero =>
    intro x2 x3 g H locs ls hf hz hl
    cases hf
  | succ n ih =>
    intro x2 x3 g H locs ls hf hz hl
    rw [f5_letYearPass_b31] at hf
    refine lv_iload_n hx hb dX5_letYearPass_31 rfl (lv_at hl 3 rfl) ?_
    refine lv_aload_n hx hb dX5_letYearPass_32 rfl (lv_at hl 1 rfl) ?_
    refine z_alen (v := (6 : Int32)) C hz ha rfl dX5_letYearPass_33 ?_
    refine lv_icmp_ge (tgt := 64) hx hb dX5_letYearPass_34 (by decide) (fun c10 => ?_) (fun c10 => ?_)
    · have hf := ite_t hf c10
      refine lv_iconst (v := (0 : Int32)) hx hb dX5_letYearPass_64 (by decide) ?_
      refine lv_istore_n (lv' := [(3, .int (0 : Int32)), (0, .ref (h 134)), (1, .ref (h a)), (2, .int x2)]) hx hb dX5_letYearPass_65 rfl hl (by decide) rfl (fun ls hl => ?_)
      exact w5_letYearPass_b66 C ha hR 1000 _ _ _ _ _ _ hf hz (lv_sub hl [2, 3, 0] rfl)
    · have hf := ite_f hf c10
      refine lv_aload_n hx hb dX5_letYearPass_37 rfl (lv_at hl 1 rfl) ?_
      refine lv_iload_n hx hb dX5_letYearPass_38 rfl (lv_at hl 3 rfl) ?_
      obtain ⟨r13, g12, hc11, hf⟩ := bd2_elim hf
      refine z_SI (As := [.ref (h a), .int x3]) (rest := []) C (c5_wetAround ha hc11) lk_RX5_272 ⟨rfl, rfl, Nat.le_of_ble_eq_true rfl, Nat.le_of_ble_eq_true rfl⟩ ⟨Nat.zero_le _, Nat.zero_le _⟩ rfl (Nat.le_of_ble_eq_true rfl) rfl hl.1 dX5_letYearPass_39 hz (fun H locs hz => ?_)
      refine lv_aload_n hx hb dX5_letYearPass_42 rfl (lv_at hl 0 rfl) ?_
      refine g_RX5_19_moss C hz dX5_letYearPass_43 ?_
      refine g_RX5_266_told C hz dX5_letYearPass_46 ?_
      refine lv_icmp_lt (tgt := 58) hx hb dX5_letYearPass_49 (by decide) (fun c14 => ?_) (fun c14 => ?_)
      · have hf := ite_t hf c14
        exact w5_letYearPass_b58 C ha hR ih _ _ _ _ _ _ hf hz (lv_sub hl [0, 1, 2, 3] rfl)
      · have hf := ite_f hf c14
        refine lv_iload_n hx hb dX5_letYearPass_52 rfl (lv_at hl 2 rfl) ?_
        refine lv_iconst (v := (1 : Int32)) hx hb dX5_letYearPass_53 (by decide) ?_
        refine lv_iload_n hx hb dX5_letYearPass_54 rfl (lv_at hl 3 rfl) ?_
        refine lv_ishl hx hb dX5_letYearPass_55 ?_
        refine lv_ior hx hb dX5_letYearPass_56 ?_
        obtain ⟨v15, ev15, hf⟩ := nx_elim hf
        refine z_nm ev15 ?_
        refine lv_istore_n (lv' := [(2, .int v15), (0, .ref (h 134)), (1, .ref (h a)), (3, .int x3)]) hx hb dX5_letYearPass_57 rfl hl (by decide) rfl (fun ls hl => ?_)
        exact w5_letYearPass_b58 C ha hR ih _ _ _ _ _ _ hf hz (lv_sub hl [1, 2, 0, 3] rfl)
set_option maxHeartbeats 4000000 in
set_option maxRecDepth 100000 in
theorem w5_letYearPass_b2 {a : Nat} {pos : Nat} {res : Int32 × Sg} (C : Cx p m c cX5_letYearPass 4 s args RX5 D (tyL cI cZ cB)) (ha : aI (wX cI cZ cB h) cI pos (h a) 6 a) (hR : EndI p l e rm5_letYearPass s m args below meth c Q D (wX cI cZ cB h) A cX5_letYearPass res) : ∀ n : Nat, ∀ (x2 : Int32) (g : Sg) (H : Heap) (locs : List Loc) (ls : Array Slot), f5_letYearPass_b2 a n x2 g = some res → Zs D (wX cI cZ cB h) A s.heap H locs g → lv_has ls 4 [(0, .ref (h 134)), (1, .ref (h a)), (2, .int x2)] → W p l e rm5_letYearPass s m args below meth c H locs 0 0 Q (F0 m 2 ls []) := by
  have hx := C.1.1
  have hb := C.1.2.1
  intro n
  induction n with
  | zero =>
    intro x2 g H locs ls hf hz hl
    cases hf
  | succ n ih =>
    intro x2 g H locs ls hf hz hl
    rw [f5_letYearPass_b2] at hf
    refine lv_iload_n hx hb dX5_letYearPass_2 rfl (lv_at hl 2 rfl) ?_
    refine lv_aload_n hx hb dX5_letYearPass_3 rfl (lv_at hl 1 rfl) ?_
    refine z_alen (v := (6 : Int32)) C hz ha rfl dX5_letYearPass_4 ?_
    refine lv_icmp_ge (tgt := 27) hx hb dX5_letYearPass_5 (by decide) (fun c16 => ?_) (fun c16 => ?_)
    · have hf := ite_t hf c16
      refine lv_iconst (v := (0 : Int32)) hx hb dX5_letYearPass_27 (by decide) ?_
      refine lv_istore_n (lv' := [(2, .int (0 : Int32)), (0, .ref (h 134)), (1, .ref (h a))]) hx hb dX5_letYearPass_28 rfl hl (by decide) rfl (fun ls hl => ?_)
      refine lv_iconst (v := (0 : Int32)) hx hb dX5_letYearPass_29 (by decide) ?_
      refine lv_istore_n (lv' := [(3, .int (0 : Int32)), (2, .int (0 : Int32)), (0, .ref (h 134)), (1, .ref (h a))]) hx hb dX5_letYearPass_30 rfl hl (by decide) rfl (fun ls hl => ?_)
      exact w5_letYearPass_b31 C ha hR 1000 _ _ _ _ _ _ hf hz (lv_sub hl [2, 3, 1, 0] rfl)
    · have hf := ite_f hf c16
      refine lv_aload_n hx hb dX5_letYearPass_8 rfl (lv_at hl 1 rfl) ?_
      refine lv_iload_n hx hb dX5_letYearPass_9 rfl (lv_at hl 2 rfl) ?_
      refine lv_bipush (v := (9 : Int32)) hx hb dX5_letYearPass_10 (by decide) ?_
      refine lv_aload_n hx hb dX5_letYearPass_12 rfl (lv_at hl 1 rfl) ?_
      refine lv_iload_n hx hb dX5_letYearPass_13 rfl (lv_at hl 2 rfl) ?_
      obtain ⟨c17, hf⟩ := ix_elim hf
      refine z_iald C hz ha c17 dX5_letYearPass_14 ?_
      refine lv_iconst (v := (1 : Int32)) hx hb dX5_letYearPass_15 (by decide) ?_
      refine lv_iadd hx hb dX5_letYearPass_16 ?_
      refine z_min C hl.1 wd_296 wd_172 wd_171 wd_170 (Nat.le_of_ble_eq_true rfl) (Nat.le_of_ble_eq_true rfl) (Nat.zero_le _) (Nat.zero_le _) dX5_letYearPass_17 ?_
      obtain ⟨c18, hf⟩ := ix_elim hf
      obtain ⟨g19, eg19, hf⟩ := nx_elim hf
      refine z_iast C hz ha c18 eg19 dX5_letYearPass_20 (fun H locs hz => ?_)
      obtain ⟨v20, ev20, hf⟩ := nx_elim hf
      refine lv_iinc (v := v20) (lv' := [(2, .int v20), (0, .ref (h 134)), (1, .ref (h a))]) hx hb dX5_letYearPass_21 hl (k := 2) rfl (by rw [ev20]; rfl) (by decide) rfl (fun ls hl => ?_)
      refine lv_goto (tgt := 2) hx hb dX5_letYearPass_24 (by decide) ?_
      exact ih _ _ _ _ _ hf hz (lv_sub hl [1, 2, 0] rfl)
set_option maxHeartbeats 4000000 in
set_option maxRecDepth 100000 in
theorem w5_letYearPass_b0 {a : Nat} {pos : Nat} {res : Int32 × Sg} (C : Cx p m c cX5_letYearPass 4 s args RX5 D (tyL cI cZ cB)) (ha : aI (wX cI cZ cB h) cI pos (h a) 6 a) (hR : EndI p l e rm5_letYearPass s m args below meth c Q D (wX cI cZ cB h) A cX5_letYearPass res) : ∀ (g : Sg) (H : Heap) (locs : List Loc) (ls : Array Slot), f5_letYearPass a g = some res → Zs D (wX cI cZ cB h) A s.heap H locs g → lv_has ls 4 [(0, .ref (h 134)), (1, .ref (h a))] → W p l e rm5_letYearPass s m args below meth c H locs 0 0 Q (F0 m 0 ls []) := by
  have hx := C.1.1
  have hb := C.1.2.1
  intro g H locs ls hf hz hl
  unfold f5_letYearPass at hf
  refine lv_iconst (v := (0 : Int32)) hx hb dX5_letYearPass_0 (by decide) ?_
  refine lv_istore_n (lv' := [(2, .int (0 : Int32)), (0, .ref (h 134)), (1, .ref (h a))]) hx hb dX5_letYearPass_1 rfl hl (by decide) rfl (fun ls hl => ?_)
  exact w5_letYearPass_b2 C ha hR 1000 _ _ _ _ _ hf hz (lv_sub hl [1, 2, 0] rfl)
set_option maxHeartbeats 4000000 in
set_option maxRecDepth 100000 in
theorem c5_letYearPass {l : Launch} {D : va_G} {cI cZ cB : ClassId} {h : Nat → Nat} {a : Nat} {pos : Nat} {g : Sg} {r : Int32} {g1 : Sg} (ha : aI (wX cI cZ cB h) cI pos (h a) 6 a) (hf : f5_letYearPass a g = some (r, g1)) : KI l D (tyL cI cZ cB) (wX cI cZ cB h) yX5_letYearPass cX5_letYearPass 4 (some .int) rm5_letYearPass [.ref (h 134), .ref (h a)] g r g1 := by
  refine KI_mk (own := RX5) (by decide +kernel) rfl (Nat.le_of_ble_eq_true rfl) ?_
  intro p e s m below meth c A Q ls C hR hz hl
  have hl : lv_has ls 4 [(0, .ref (h 134)), (1, .ref (h a))] := hl
  exact w5_letYearPass_b0 C ha hR _ _ _ _ hf hz hl
end WK
