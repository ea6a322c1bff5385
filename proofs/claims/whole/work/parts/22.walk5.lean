section WK
variable {p : Program} {l : Launch} {e : Env} {s : State} {m : MethodId} {args : Array Value} {below : List Frame} {meth : Method} {c : Code} {Q : State → Prop} {D : va_G} {cI cZ cB : ClassId} {A : Nat → Prop} {h : Nat → Nat}
abbrev rm5_firstSlide : Room := { frames := 3, cells := 0, slots := 0, locals := 67 }
set_option maxHeartbeats 4000000 in
set_option maxRecDepth 100000 in
theorem w5_firstSlide_b7 {res : Int32 × Sg} (C : Cx p m c cX5_firstSlide 3 s args RX5 D (tyL cI cZ cB)) (hR : EndI p l e rm5_firstSlide s m args below meth c Q D (wX cI cZ cB h) A cX5_firstSlide res) : ∀ n : Nat, ∀ (x1 : Int32) (x2 : Int32) (g : Sg) (H : Heap) (locs : List Loc) (ls : Array Slot), f5_firstSlide_b7 n x1 x2 g = some res → Zs D (wX cI cZ cB h) A s.heap H locs g → lv_has ls 3 [(0, .ref (h 134)), (1, .int x1), (2, .int x2)] → W p l e rm5_firstSlide s m args below meth c H locs 0 0 Q (F0 m 7 ls []) := by
  have hx := C.1.1
  have hb := C.1.2.1
  intro n
  induction n with
  | zero =>
    intro x1 x2 g H locs ls hf hz hl
    cases hf
  | succ n ih =>
    intro x1 x2 g H locs ls hf hz hl
    rw [f5_firstSlide_b7] at hf
    refine lv_iload_n hx hb dX5_firstSlide_7 rfl (lv_at hl 2 rfl) ?_
    refine lv_bipush (v := (50 : Int32)) hx hb dX5_firstSlide_8 (by decide) ?_
    refine lv_icmp_gt (tgt := 36) hx hb dX5_firstSlide_10 (by decide) (fun c1 => ?_) (fun c1 => ?_)
    · have hf := ite_t hf c1
      refine lv_bipush (v := (-9 : Int32)) hx hb dX5_firstSlide_36 (by decide) ?_
      exact hR _ _ _ _ _ _ (Option.some.inj hf) hz dX5_firstSlide_38
    · have hf := ite_f hf c1
      refine lv_aload_n hx hb dX5_firstSlide_13 rfl (lv_at hl 0 rfl) ?_
      refine lv_aload_n hx hb dX5_firstSlide_14 rfl (lv_at hl 0 rfl) ?_
      refine g_RX5_49_moss C hz dX5_firstSlide_15 ?_
      obtain ⟨r4, g3, hc2, hf⟩ := bd2_elim hf
      refine z_VI (As := [.ref (h 131)]) (rest := []) C (c5_letYearPass a_x_wetThen hc2) lk_RX5_186 ⟨rfl, rfl, Nat.le_of_ble_eq_true rfl, Nat.le_of_ble_eq_true rfl⟩ ⟨Nat.zero_le _, Nat.zero_le _⟩ o_moss rfl rfl (Nat.le_of_ble_eq_true rfl) rfl hl.1 dX5_firstSlide_18 hz (fun H locs hz => ?_)
      refine lv_iload_n hx hb dX5_firstSlide_21 rfl (lv_at hl 1 rfl) ?_
      obtain ⟨r7, g6, hc5, hf⟩ := bd2_elim hf
      refine z_SI (As := [.int r4, .int x1]) (rest := []) C (c5_holds hc5) lk_RX5_193 ⟨rfl, rfl, Nat.le_of_ble_eq_true rfl, Nat.le_of_ble_eq_true rfl⟩ ⟨Nat.zero_le _, Nat.zero_le _⟩ rfl (Nat.le_of_ble_eq_true rfl) rfl hl.1 dX5_firstSlide_22 hz (fun H locs hz => ?_)
      refine lv_if_eq (tgt := 30) hx hb dX5_firstSlide_25 (by decide) (fun c8 => ?_) (fun c8 => ?_)
      · have hf := ite_t hf c8
        obtain ⟨v9, ev9, hf⟩ := nx_elim hf
        refine lv_iinc (v := v9) (lv' := [(2, .int v9), (0, .ref (h 134)), (1, .int x1)]) hx hb dX5_firstSlide_30 hl (k := 2) rfl (by rw [ev9]; rfl) (by decide) rfl (fun ls hl => ?_)
        refine lv_goto (tgt := 7) hx hb dX5_firstSlide_33 (by decide) ?_
        exact ih _ _ _ _ _ _ hf hz (lv_sub hl [1, 2, 0] rfl)
      · have hf := ite_f hf c8
        refine lv_iload_n hx hb dX5_firstSlide_28 rfl (lv_at hl 2 rfl) ?_
        exact hR _ _ _ _ _ _ (Option.some.inj hf) hz dX5_firstSlide_29
set_option maxHeartbeats 4000000 in
set_option maxRecDepth 100000 in
theorem w5_firstSlide_b0 {res : Int32 × Sg} (C : Cx p m c cX5_firstSlide 3 s args RX5 D (tyL cI cZ cB)) (hR : EndI p l e rm5_firstSlide s m args below meth c Q D (wX cI cZ cB h) A cX5_firstSlide res) : ∀ (x1 : Int32) (g : Sg) (H : Heap) (locs : List Loc) (ls : Array Slot), f5_firstSlide x1 g = some res → Zs D (wX cI cZ cB h) A s.heap H locs g → lv_has ls 3 [(0, .ref (h 134)), (1, .int x1)] → W p l e rm5_firstSlide s m args below meth c H locs 0 0 Q (F0 m 0 ls []) := by
  have hx := C.1.1
  have hb := C.1.2.1
  intro x1 g H locs ls hf hz hl
  unfold f5_firstSlide at hf
  refine lv_aload_n hx hb dX5_firstSlide_0 rfl (lv_at hl 0 rfl) ?_
  refine lv_iconst (v := (0 : Int32)) hx hb dX5_firstSlide_1 (by decide) ?_
  obtain ⟨g11, hc10, hf⟩ := bd_elim hf
  refine z_VV (As := [.int (0 : Int32)]) (rest := []) C (c5_beginWetThen hc10) lk_RX5_276 ⟨rfl, rfl, Nat.le_of_ble_eq_true rfl, Nat.le_of_ble_eq_true rfl⟩ ⟨Nat.zero_le _, Nat.zero_le _⟩ o_moss rfl rfl (Nat.le_of_ble_eq_true rfl) rfl hl.1 dX5_firstSlide_2 hz (fun H locs hz => ?_)
  refine lv_iconst (v := (1 : Int32)) hx hb dX5_firstSlide_5 (by decide) ?_
  refine lv_istore_n (lv' := [(2, .int (1 : Int32)), (0, .ref (h 134)), (1, .int x1)]) hx hb dX5_firstSlide_6 rfl hl (by decide) rfl (fun ls hl => ?_)
  exact w5_firstSlide_b7 C hR 1000 _ _ _ _ _ _ hf hz (lv_sub hl [1, 2, 0] rfl)
set_option maxHeartbeats 4000000 in
set_option maxRecDepth 100000 in
theorem c5_firstSlide {l : Launch} {D : va_G} {cI cZ cB : ClassId} {h : Nat → Nat} {x1 : Int32} {g : Sg} {r : Int32} {g1 : Sg} (hf : f5_firstSlide x1 g = some (r, g1)) : KI l D (tyL cI cZ cB) (wX cI cZ cB h) yX5_firstSlide cX5_firstSlide 3 (some .int) rm5_firstSlide [.ref (h 134), .int x1] g r g1 := by
  refine KI_mk (own := RX5) (by decide +kernel) rfl (Nat.le_of_ble_eq_true rfl) ?_
  intro p e s m below meth c A Q ls C hR hz hl
  have hl : lv_has ls 3 [(0, .ref (h 134)), (1, .int x1)] := hl
  exact w5_firstSlide_b0 C hR _ _ _ _ _ hf hz hl
abbrev rm5_cell : Room := { frames := 4, cells := 0, slots := 0, locals := 89 }
set_option maxHeartbeats 4000000 in
set_option maxRecDepth 100000 in
theorem w5_cell_b0 {res : Int32 × Sg} (C : Cx p m c cX5_cell 3 s args RX5 D (tyL cI cZ cB)) (hR : EndI p l e rm5_cell s m args below meth c Q D (wX cI cZ cB h) A cX5_cell res) : ∀ (x1 : Int32) (x2 : Int32) (g : Sg) (H : Heap) (locs : List Loc) (ls : Array Slot), f5_cell x1 x2 g = some res → Zs D (wX cI cZ cB h) A s.heap H locs g → lv_has ls 3 [(0, .ref (h 134)), (1, .int x1), (2, .int x2)] → W p l e rm5_cell s m args below meth c H locs 0 0 Q (F0 m 0 ls []) := by
  have hx := C.1.1
  have hb := C.1.2.1
  intro x1 x2 g H locs ls hf hz hl
  unfold f5_cell at hf
  refine lv_iload_n hx hb dX5_cell_0 rfl (lv_at hl 1 rfl) ?_
  obtain ⟨r3, g2, hc1, hf⟩ := bd2_elim hf
  refine z_SI (As := [.int x1]) (rest := []) C (c5_isCell hc1) lk_RX5_134 ⟨rfl, rfl, Nat.le_of_ble_eq_true rfl, Nat.le_of_ble_eq_true rfl⟩ ⟨Nat.zero_le _, Nat.zero_le _⟩ rfl (Nat.le_of_ble_eq_true rfl) rfl hl.1 dX5_cell_1 hz (fun H locs hz => ?_)
  refine lv_if_ne (tgt := 9) hx hb dX5_cell_4 (by decide) (fun c4 => ?_) (fun c4 => ?_)
  · have hf := ite_f hf c4
    refine lv_iload_n hx hb dX5_cell_9 rfl (lv_at hl 2 rfl) ?_
    by_cases c5 : x2 = (0 : Int32)
    · have hf := ite_t hf c5
      refine lv_tableIn (off := 30) (tgt := 40) hx hb dX5_cell_10 (by rw [c5]; decide) (by rw [c5]; decide) (by rw [c5]; decide) (by decide) ?_
      refine lv_aload_n hx hb dX5_cell_40 rfl (lv_at hl 0 rfl) ?_
      refine g_RX5_26_moss C hz dX5_cell_41 ?_
      refine g_RX5_137_bog0 C hz dX5_cell_44 ?_
      refine lv_iload_n hx hb dX5_cell_47 rfl (lv_at hl 1 rfl) ?_
      obtain ⟨c6, hf⟩ := ix_elim hf
      refine z_iald C hz a_n_cut c6 dX5_cell_48 ?_
      exact hR _ _ _ _ _ _ (Option.some.inj hf) hz dX5_cell_49
    have hf := ite_f hf c5
    by_cases c7 : x2 = (1 : Int32)
    · have hf := ite_t hf c7
      refine lv_tableIn (off := 40) (tgt := 50) hx hb dX5_cell_10 (by rw [c7]; decide) (by rw [c7]; decide) (by rw [c7]; decide) (by decide) ?_
      refine lv_aload_n hx hb dX5_cell_50 rfl (lv_at hl 0 rfl) ?_
      refine g_RX5_26_moss C hz dX5_cell_51 ?_
      refine g_RX5_140_bog0 C hz dX5_cell_54 ?_
      refine lv_iload_n hx hb dX5_cell_57 rfl (lv_at hl 1 rfl) ?_
      obtain ⟨c8, hf⟩ := ix_elim hf
      refine z_iald C hz a_n_wet c8 dX5_cell_58 ?_
      exact hR _ _ _ _ _ _ (Option.some.inj hf) hz dX5_cell_59
    have hf := ite_f hf c7
    by_cases c9 : x2 = (2 : Int32)
    · have hf := ite_t hf c9
      refine lv_tableIn (off := 50) (tgt := 60) hx hb dX5_cell_10 (by rw [c9]; decide) (by rw [c9]; decide) (by rw [c9]; decide) (by decide) ?_
      refine lv_aload_n hx hb dX5_cell_60 rfl (lv_at hl 0 rfl) ?_
      refine lv_iload_n hx hb dX5_cell_61 rfl (lv_at hl 1 rfl) ?_
      obtain ⟨r12, g11, hc10, hf⟩ := bd2_elim hf
      refine z_VI (As := [.int x1]) (rest := []) C (c5_lyingIn hc10) lk_RX5_143 ⟨rfl, rfl, Nat.le_of_ble_eq_true rfl, Nat.le_of_ble_eq_true rfl⟩ ⟨Nat.zero_le _, Nat.zero_le _⟩ o_moss rfl rfl (Nat.le_of_ble_eq_true rfl) rfl hl.1 dX5_cell_62 hz (fun H locs hz => ?_)
      exact hR _ _ _ _ _ _ (Option.some.inj hf) hz dX5_cell_65
    have hf := ite_f hf c9
    by_cases c13 : x2 = (3 : Int32)
    · have hf := ite_t hf c13
      refine lv_tableIn (off := 56) (tgt := 66) hx hb dX5_cell_10 (by rw [c13]; decide) (by rw [c13]; decide) (by rw [c13]; decide) (by decide) ?_
      refine lv_aload_n hx hb dX5_cell_66 rfl (lv_at hl 0 rfl) ?_
      refine lv_iload_n hx hb dX5_cell_67 rfl (lv_at hl 1 rfl) ?_
      obtain ⟨r16, g15, hc14, hf⟩ := bd2_elim hf
      refine z_VI (As := [.int x1]) (rest := []) C (c5_firstSlide hc14) lk_RX5_147 ⟨rfl, rfl, Nat.le_of_ble_eq_true rfl, Nat.le_of_ble_eq_true rfl⟩ ⟨Nat.zero_le _, Nat.zero_le _⟩ o_moss rfl rfl (Nat.le_of_ble_eq_true rfl) rfl hl.1 dX5_cell_68 hz (fun H locs hz => ?_)
      exact hR _ _ _ _ _ _ (Option.some.inj hf) hz dX5_cell_71
    have hf := ite_f hf c13
    refine lv_tableOut (tgt := 72) hx hb dX5_cell_10 (by have hc5 := lv_neT c5 (a := 0) rfl; have hc7 := lv_neT c7 (a := 1) rfl; have hc9 := lv_neT c9 (a := 2) rfl; have hc13 := lv_neT c13 (a := 3) rfl; omega) (by decide) ?_
    refine lv_iconst (v := (-1 : Int32)) hx hb dX5_cell_72 (by decide) ?_
    exact hR _ _ _ _ _ _ (Option.some.inj hf) hz dX5_cell_73
  · have hf := ite_t hf c4
    refine lv_iconst (v := (-1 : Int32)) hx hb dX5_cell_7 (by decide) ?_
    exact hR _ _ _ _ _ _ (Option.some.inj hf) hz dX5_cell_8
set_option maxHeartbeats 4000000 in
set_option maxRecDepth 100000 in
theorem c5_cell {l : Launch} {D : va_G} {cI cZ cB : ClassId} {h : Nat → Nat} {x1 : Int32} {x2 : Int32} {g : Sg} {r : Int32} {g1 : Sg} (hf : f5_cell x1 x2 g = some (r, g1)) : KI l D (tyL cI cZ cB) (wX cI cZ cB h) yX5_cell cX5_cell 3 (some .int) rm5_cell [.ref (h 134), .int x1, .int x2] g r g1 := by
  refine KI_mk (own := RX5) (by decide +kernel) rfl (Nat.le_of_ble_eq_true rfl) ?_
  intro p e s m below meth c A Q ls C hR hz hl
  have hl : lv_has ls 3 [(0, .ref (h 134)), (1, .int x1), (2, .int x2)] := hl
  exact w5_cell_b0 C hR _ _ _ _ _ _ hf hz hl
abbrev rm5_thoseThatAre : Room := { frames := 2, cells := 0, slots := 0, locals := 43 }
set_option maxHeartbeats 4000000 in
set_option maxRecDepth 100000 in
theorem w5_thoseThatAre_b25 {res : Int32 × Sg} {k4 : Int32 → Int32 → Int32 → Sg → Option (Int32 × Sg)} (C : Cx p m c cX5_thoseThatAre 4 s args RX5 D (tyL cI cZ cB)) (hR : EndI p l e rm5_thoseThatAre s m args below meth c Q D (wX cI cZ cB h) A cX5_thoseThatAre res) (hk4 : ∀ (x1 : Int32) (x2 : Int32) (x3 : Int32) (g : Sg) (H : Heap) (locs : List Loc) (ls : Array Slot), k4 x1 x2 x3 g = some res → Zs D (wX cI cZ cB h) A s.heap H locs g → lv_has ls 4 [(0, .ref (h 134)), (1, .int x1), (2, .int x2), (3, .int x3)] → W p l e rm5_thoseThatAre s m args below meth c H locs 0 0 Q (F0 m 4 ls [])) : ∀ (x1 : Int32) (x2 : Int32) (x3 : Int32) (g : Sg) (H : Heap) (locs : List Loc) (ls : Array Slot), f5_thoseThatAre_b25 k4 x1 x2 x3 g = some res → Zs D (wX cI cZ cB h) A s.heap H locs g → lv_has ls 4 [(0, .ref (h 134)), (1, .int x1), (2, .int x2), (3, .int x3)] → W p l e rm5_thoseThatAre s m args below meth c H locs 0 0 Q (F0 m 25 ls []) := by
  have hx := C.1.1
  have hb := C.1.2.1
  intro x1 x2 x3 g H locs ls hf hz hl
  unfold f5_thoseThatAre_b25 at hf
  obtain ⟨v1, ev1, hf⟩ := nx_elim hf
  refine lv_iinc (v := v1) (lv' := [(3, .int v1), (0, .ref (h 134)), (1, .int x1), (2, .int x2)]) hx hb dX5_thoseThatAre_25 hl (k := 3) rfl (by rw [ev1]; rfl) (by decide) rfl (fun ls hl => ?_)
  refine lv_goto (tgt := 4) hx hb dX5_thoseThatAre_28 (by decide) ?_
  exact hk4 _ _ _ _ _ _ _ hf hz (lv_sub hl [1, 2, 3, 0] rfl)
set_option maxHeartbeats 4000000 in
set_option maxRecDepth 100000 in
theorem w5_thoseThatAre_b4 {res : Int32 × Sg} (C : Cx p m c cX5_thoseThatAre 4 s args RX5 D (tyL cI cZ cB)) (hR : EndI p l e rm5_thoseThatAre s m args below meth c Q D (wX cI cZ cB h) A cX5_thoseThatAre res) : ∀ n : Nat, ∀ (x1 : Int32) (x2 : Int32) (x3 : Int32) (g : Sg) (H : Heap) (locs : List Loc) (ls : Array Slot), f5_thoseThatAre_b4 n x1 x2 x3 g = some res → Zs D (wX cI cZ cB h) A s.heap H locs g → lv_has ls 4 [(0, .ref (h 134)), (1, .int x1), (2, .int x2), (3, .int x3)] → W p l e rm5_thoseThatAre s m args below meth c H locs 0 0 Q (F0 m 4 ls []) := by
  have hx := C.1.1
  have hb := C.1.2.1
  intro n
  induction n with
  | zero =>
    intro x1 x2 x3 g H locs ls hf hz hl
    cases hf
  | succ n ih =>
    intro x1 x2 x3 g H locs ls hf hz hl
    rw [f5_thoseThatAre_b4] at hf
    refine lv_iload_n hx hb dX5_thoseThatAre_4 rfl (lv_at hl 3 rfl) ?_
    refine lv_bipush (v := (8 : Int32)) hx hb dX5_thoseThatAre_5 (by decide) ?_
    refine lv_icmp_ge (tgt := 31) hx hb dX5_thoseThatAre_7 (by decide) (fun c2 => ?_) (fun c2 => ?_)
    · have hf := ite_t hf c2
      refine lv_iload_n hx hb dX5_thoseThatAre_31 rfl (lv_at hl 2 rfl) ?_
      exact hR _ _ _ _ _ _ (Option.some.inj hf) hz dX5_thoseThatAre_32
    · have hf := ite_f hf c2
      refine lv_aload_n hx hb dX5_thoseThatAre_10 rfl (lv_at hl 0 rfl) ?_
      refine lv_iload_n hx hb dX5_thoseThatAre_11 rfl (lv_at hl 3 rfl) ?_
      refine lv_iload_n hx hb dX5_thoseThatAre_12 rfl (lv_at hl 1 rfl) ?_
      obtain ⟨r5, g4, hc3, hf⟩ := bd2_elim hf
      refine z_VI (As := [.int x3, .int x1]) (rest := []) C (c5_isNow hc3) lk_RX5_190 ⟨rfl, rfl, Nat.le_of_ble_eq_true rfl, Nat.le_of_ble_eq_true rfl⟩ ⟨Nat.zero_le _, Nat.zero_le _⟩ o_moss rfl rfl (Nat.le_of_ble_eq_true rfl) rfl hl.1 dX5_thoseThatAre_13 hz (fun H locs hz => ?_)
      refine lv_if_eq (tgt := 25) hx hb dX5_thoseThatAre_16 (by decide) (fun c6 => ?_) (fun c6 => ?_)
      · have hf := ite_t hf c6
        exact w5_thoseThatAre_b25 C hR ih _ _ _ _ _ _ _ hf hz (lv_sub hl [0, 1, 2, 3] rfl)
      · have hf := ite_f hf c6
        refine lv_iload_n hx hb dX5_thoseThatAre_19 rfl (lv_at hl 2 rfl) ?_
        refine lv_iconst (v := (1 : Int32)) hx hb dX5_thoseThatAre_20 (by decide) ?_
        refine lv_iload_n hx hb dX5_thoseThatAre_21 rfl (lv_at hl 3 rfl) ?_
        refine lv_ishl hx hb dX5_thoseThatAre_22 ?_
        refine lv_ior hx hb dX5_thoseThatAre_23 ?_
        obtain ⟨v7, ev7, hf⟩ := nx_elim hf
        refine z_nm ev7 ?_
        refine lv_istore_n (lv' := [(2, .int v7), (0, .ref (h 134)), (1, .int x1), (3, .int x3)]) hx hb dX5_thoseThatAre_24 rfl hl (by decide) rfl (fun ls hl => ?_)
        exact w5_thoseThatAre_b25 C hR ih _ _ _ _ _ _ _ hf hz (lv_sub hl [1, 2, 0, 3] rfl)
set_option maxHeartbeats 4000000 in
set_option maxRecDepth 100000 in
theorem w5_thoseThatAre_b0 {res : Int32 × Sg} (C : Cx p m c cX5_thoseThatAre 4 s args RX5 D (tyL cI cZ cB)) (hR : EndI p l e rm5_thoseThatAre s m args below meth c Q D (wX cI cZ cB h) A cX5_thoseThatAre res) : ∀ (x1 : Int32) (g : Sg) (H : Heap) (locs : List Loc) (ls : Array Slot), f5_thoseThatAre x1 g = some res → Zs D (wX cI cZ cB h) A s.heap H locs g → lv_has ls 4 [(0, .ref (h 134)), (1, .int x1)] → W p l e rm5_thoseThatAre s m args below meth c H locs 0 0 Q (F0 m 0 ls []) := by
  have hx := C.1.1
  have hb := C.1.2.1
  intro x1 g H locs ls hf hz hl
  unfold f5_thoseThatAre at hf
  refine lv_iconst (v := (0 : Int32)) hx hb dX5_thoseThatAre_0 (by decide) ?_
  refine lv_istore_n (lv' := [(2, .int (0 : Int32)), (0, .ref (h 134)), (1, .int x1)]) hx hb dX5_thoseThatAre_1 rfl hl (by decide) rfl (fun ls hl => ?_)
  refine lv_iconst (v := (0 : Int32)) hx hb dX5_thoseThatAre_2 (by decide) ?_
  refine lv_istore_n (lv' := [(3, .int (0 : Int32)), (2, .int (0 : Int32)), (0, .ref (h 134)), (1, .int x1)]) hx hb dX5_thoseThatAre_3 rfl hl (by decide) rfl (fun ls hl => ?_)
  exact w5_thoseThatAre_b4 C hR 1000 _ _ _ _ _ _ _ hf hz (lv_sub hl [2, 3, 1, 0] rfl)
set_option maxHeartbeats 4000000 in
set_option maxRecDepth 100000 in
theorem c5_thoseThatAre {l : Launch} {D : va_G} {cI cZ cB : ClassId} {h : Nat → Nat} {x1 : Int32} {g : Sg} {r : Int32} {g1 : Sg} (hf : f5_thoseThatAre x1 g = some (r, g1)) : KI l D (tyL cI cZ cB) (wX cI cZ cB h) yX5_thoseThatAre cX5_thoseThatAre 4 (some .int) rm5_thoseThatAre [.ref (h 134), .int x1] g r g1 := by
  refine KI_mk (own := RX5) (by decide +kernel) rfl (Nat.le_of_ble_eq_true rfl) ?_
  intro p e s m below meth c A Q ls C hR hz hl
  have hl : lv_has ls 4 [(0, .ref (h 134)), (1, .int x1)] := hl
  exact w5_thoseThatAre_b0 C hR _ _ _ _ _ hf hz hl
abbrev rm5_now : Room := { frames := 3, cells := 0, slots := 0, locals := 66 }
set_option maxHeartbeats 4000000 in
set_option maxRecDepth 100000 in
theorem w5_now_b0 {res : Int32 × Sg} (C : Cx p m c cX5_now 2 s args RX5 D (tyL cI cZ cB)) (hR : EndI p l e rm5_now s m args below meth c Q D (wX cI cZ cB h) A cX5_now res) : ∀ (x1 : Int32) (g : Sg) (H : Heap) (locs : List Loc) (ls : Array Slot), f5_now x1 g = some res → Zs D (wX cI cZ cB h) A s.heap H locs g → lv_has ls 2 [(0, .ref (h 134)), (1, .int x1)] → W p l e rm5_now s m args below meth c H locs 0 0 Q (F0 m 0 ls []) := by
  have hx := C.1.1
  have hb := C.1.2.1
  intro x1 g H locs ls hf hz hl
  unfold f5_now at hf
  refine lv_iload_n hx hb dX5_now_0 rfl (lv_at hl 1 rfl) ?_
  by_cases c1 : x1 = (0 : Int32)
  · have hf := ite_t hf c1
    refine lv_tableIn (off := 39) (tgt := 40) hx hb dX5_now_1 (by rw [c1]; decide) (by rw [c1]; decide) (by rw [c1]; decide) (by decide) ?_
    refine lv_aload_n hx hb dX5_now_40 rfl (lv_at hl 0 rfl) ?_
    refine g_RX5_26_moss C hz dX5_now_41 ?_
    refine g_RX5_150_bog0 C hz dX5_now_44 ?_
    exact hR _ _ _ _ _ _ (Option.some.inj hf) hz dX5_now_47
  have hf := ite_f hf c1
  by_cases c2 : x1 = (1 : Int32)
  · have hf := ite_t hf c2
    refine lv_tableIn (off := 47) (tgt := 48) hx hb dX5_now_1 (by rw [c2]; decide) (by rw [c2]; decide) (by rw [c2]; decide) (by decide) ?_
    refine lv_aload_n hx hb dX5_now_48 rfl (lv_at hl 0 rfl) ?_
    refine lv_iconst (v := (0 : Int32)) hx hb dX5_now_49 (by decide) ?_
    obtain ⟨r5, g4, hc3, hf⟩ := bd2_elim hf
    refine z_VI (As := [.int (0 : Int32)]) (rest := []) C (c5_thoseThatAre hc3) lk_RX5_153 ⟨rfl, rfl, Nat.le_of_ble_eq_true rfl, Nat.le_of_ble_eq_true rfl⟩ ⟨Nat.zero_le _, Nat.zero_le _⟩ o_moss rfl rfl (Nat.le_of_ble_eq_true rfl) rfl hl.1 dX5_now_50 hz (fun H locs hz => ?_)
    exact hR _ _ _ _ _ _ (Option.some.inj hf) hz dX5_now_53
  have hf := ite_f hf c2
  by_cases c6 : x1 = (2 : Int32)
  · have hf := ite_t hf c6
    refine lv_tableIn (off := 53) (tgt := 54) hx hb dX5_now_1 (by rw [c6]; decide) (by rw [c6]; decide) (by rw [c6]; decide) (by decide) ?_
    refine lv_aload_n hx hb dX5_now_54 rfl (lv_at hl 0 rfl) ?_
    refine lv_iconst (v := (1 : Int32)) hx hb dX5_now_55 (by decide) ?_
    obtain ⟨r9, g8, hc7, hf⟩ := bd2_elim hf
    refine z_VI (As := [.int (1 : Int32)]) (rest := []) C (c5_thoseThatAre hc7) lk_RX5_153 ⟨rfl, rfl, Nat.le_of_ble_eq_true rfl, Nat.le_of_ble_eq_true rfl⟩ ⟨Nat.zero_le _, Nat.zero_le _⟩ o_moss rfl rfl (Nat.le_of_ble_eq_true rfl) rfl hl.1 dX5_now_56 hz (fun H locs hz => ?_)
    exact hR _ _ _ _ _ _ (Option.some.inj hf) hz dX5_now_59
  have hf := ite_f hf c6
  by_cases c10 : x1 = (3 : Int32)
  · have hf := ite_t hf c10
    refine lv_tableIn (off := 59) (tgt := 60) hx hb dX5_now_1 (by rw [c10]; decide) (by rw [c10]; decide) (by rw [c10]; decide) (by decide) ?_
    refine lv_aload_n hx hb dX5_now_60 rfl (lv_at hl 0 rfl) ?_
    refine lv_iconst (v := (2 : Int32)) hx hb dX5_now_61 (by decide) ?_
    obtain ⟨r13, g12, hc11, hf⟩ := bd2_elim hf
    refine z_VI (As := [.int (2 : Int32)]) (rest := []) C (c5_thoseThatAre hc11) lk_RX5_153 ⟨rfl, rfl, Nat.le_of_ble_eq_true rfl, Nat.le_of_ble_eq_true rfl⟩ ⟨Nat.zero_le _, Nat.zero_le _⟩ o_moss rfl rfl (Nat.le_of_ble_eq_true rfl) rfl hl.1 dX5_now_62 hz (fun H locs hz => ?_)
    exact hR _ _ _ _ _ _ (Option.some.inj hf) hz dX5_now_65
  have hf := ite_f hf c10
  by_cases c14 : x1 = (4 : Int32)
  · have hf := ite_t hf c14
    refine lv_tableIn (off := 65) (tgt := 66) hx hb dX5_now_1 (by rw [c14]; decide) (by rw [c14]; decide) (by rw [c14]; decide) (by decide) ?_
    refine lv_aload_n hx hb dX5_now_66 rfl (lv_at hl 0 rfl) ?_
    refine lv_iconst (v := (3 : Int32)) hx hb dX5_now_67 (by decide) ?_
    obtain ⟨r17, g16, hc15, hf⟩ := bd2_elim hf
    refine z_VI (As := [.int (3 : Int32)]) (rest := []) C (c5_thoseThatAre hc15) lk_RX5_153 ⟨rfl, rfl, Nat.le_of_ble_eq_true rfl, Nat.le_of_ble_eq_true rfl⟩ ⟨Nat.zero_le _, Nat.zero_le _⟩ o_moss rfl rfl (Nat.le_of_ble_eq_true rfl) rfl hl.1 dX5_now_68 hz (fun H locs hz => ?_)
    exact hR _ _ _ _ _ _ (Option.some.inj hf) hz dX5_now_71
  have hf := ite_f hf c14
  by_cases c18 : x1 = (5 : Int32)
  · have hf := ite_t hf c18
    refine lv_tableIn (off := 71) (tgt := 72) hx hb dX5_now_1 (by rw [c18]; decide) (by rw [c18]; decide) (by rw [c18]; decide) (by decide) ?_
    refine lv_aload_n hx hb dX5_now_72 rfl (lv_at hl 0 rfl) ?_
    refine g_RX5_33_moss C hz dX5_now_73 ?_
    refine g_RX5_156_past C hz dX5_now_76 ?_
    exact hR _ _ _ _ _ _ (Option.some.inj hf) hz dX5_now_79
  have hf := ite_f hf c18
  refine lv_tableOut (tgt := 80) hx hb dX5_now_1 (by have hc1 := lv_neT c1 (a := 0) rfl; have hc2 := lv_neT c2 (a := 1) rfl; have hc6 := lv_neT c6 (a := 2) rfl; have hc10 := lv_neT c10 (a := 3) rfl; have hc14 := lv_neT c14 (a := 4) rfl; have hc18 := lv_neT c18 (a := 5) rfl; omega) (by decide) ?_
  refine lv_iconst (v := (-1 : Int32)) hx hb dX5_now_80 (by decide) ?_
  exact hR _ _ _ _ _ _ (Option.some.inj hf) hz dX5_now_81
set_option maxHeartbeats 4000000 in
set_option maxRecDepth 100000 in
theorem c5_now {l : Launch} {D : va_G} {cI cZ cB : ClassId} {h : Nat → Nat} {x1 : Int32} {g : Sg} {r : Int32} {g1 : Sg} (hf : f5_now x1 g = some (r, g1)) : KI l D (tyL cI cZ cB) (wX cI cZ cB h) yX5_now cX5_now 2 (some .int) rm5_now [.ref (h 134), .int x1] g r g1 := by
  refine KI_mk (own := RX5) (by decide +kernel) rfl (Nat.le_of_ble_eq_true rfl) ?_
  intro p e s m below meth c A Q ls C hR hz hl
  have hl : lv_has ls 2 [(0, .ref (h 134)), (1, .int x1)] := hl
  exact w5_now_b0 C hR _ _ _ _ _ hf hz hl
abbrev rm5_cuts : Room := { frames := 3, cells := 0, slots := 0, locals := 68 }
set_option maxHeartbeats 4000000 in
set_option maxRecDepth 100000 in
theorem w5_cuts_b105 {res : Int32 × Sg} {k41 : Int32 → Int32 → Int32 → Sg → Option (Int32 × Sg)} (C : Cx p m c cX5_cuts 4 s args RX5 D (tyL cI cZ cB)) (hR : EndI p l e rm5_cuts s m args below meth c Q D (wX cI cZ cB h) A cX5_cuts res) (hk41 : ∀ (x1 : Int32) (x2 : Int32) (x3 : Int32) (g : Sg) (H : Heap) (locs : List Loc) (ls : Array Slot), k41 x1 x2 x3 g = some res → Zs D (wX cI cZ cB h) A s.heap H locs g → lv_has ls 4 [(0, .ref (h 134)), (1, .int x1), (2, .int x2), (3, .int x3)] → W p l e rm5_cuts s m args below meth c H locs 0 0 Q (F0 m 41 ls [])) : ∀ (x1 : Int32) (x2 : Int32) (x3 : Int32) (g : Sg) (H : Heap) (locs : List Loc) (ls : Array Slot), f5_cuts_b105 k41 x1 x2 x3 g = some res → Zs D (wX cI cZ cB h) A s.heap H locs g → lv_has ls 4 [(0, .ref (h 134)), (1, .int x1), (2, .int x2), (3, .int x3)] → W p l e rm5_cuts s m args below meth c H locs 0 0 Q (F0 m 105 ls []) := by
  have hx := C.1.1
  have hb := C.1.2.1
  intro x1 x2 x3 g H locs ls hf hz hl
  unfold f5_cuts_b105 at hf
  obtain ⟨v1, ev1, hf⟩ := nx_elim hf
  refine lv_iinc (v := v1) (lv' := [(3, .int v1), (0, .ref (h 134)), (1, .int x1), (2, .int x2)]) hx hb dX5_cuts_105 hl (k := 3) rfl (by rw [ev1]; rfl) (by decide) rfl (fun ls hl => ?_)
  refine lv_goto (tgt := 41) hx hb dX5_cuts_108 (by decide) ?_
  exact hk41 _ _ _ _ _ _ _ hf hz (lv_sub hl [1, 2, 3, 0] rfl)
set_option maxHeartbeats 4000000 in
set_option maxRecDepth 100000 in
theorem w5_cuts_b41 {res : Int32 × Sg} (C : Cx p m c cX5_cuts 4 s args RX5 D (tyL cI cZ cB)) (hR : EndI p l e rm5_cuts s m args below meth c Q D (wX cI cZ cB h) A cX5_cuts res) : ∀ n : Nat, ∀ (x1 : Int32) (x2 : Int32) (x3 : Int32) (g : Sg) (H : Heap) (locs : List Loc) (ls : Array Slot), f5_cuts_b41 n x1 x2 x3 g = some res → Zs D (wX cI cZ cB h) A s.heap H locs g → lv_has ls 4 [(0, .ref (h 134)), (1, .int x1), (2, .int x2), (3, .int x3)] → W p l e rm5_cuts s m args below meth c H locs 0 0 Q (F0 m 41 ls []) := by
  have hx := C.1.1
  have hb := C.1.2.1
  intro n
  induction n with
  | zero =>
    intro x1 x2 x3 g H locs ls hf hz hl
    cases hf
  | succ n ih =>
    intro x1 x2 x3 g H locs ls hf hz hl
    rw [f5_cuts_b41] at hf
    refine lv_iload_n hx hb dX5_cuts_41 rfl (lv_at hl 3 rfl) ?_
    refine lv_bipush (v := (8 : Int32)) hx hb dX5_cuts_42 (by decide) ?_
    refine lv_icmp_ge (tgt := 111) hx hb dX5_cuts_44 (by decide) (fun c2 => ?_) (fun c2 => ?_)
    · have hf := ite_t hf c2
      refine lv_aload_n hx hb dX5_cuts_111 rfl (lv_at hl 0 rfl) ?_
      refine g_RX5_26_moss C hz dX5_cuts_112 ?_
      refine g_RX5_137_bog0 C hz dX5_cuts_115 ?_
      refine lv_iload_n hx hb dX5_cuts_118 rfl (lv_at hl 1 rfl) ?_
      refine lv_dup2_11 hx hb dX5_cuts_119 rfl rfl ?_
      obtain ⟨c3, hf⟩ := ix_elim hf
      refine z_iald C hz a_n_cut c3 dX5_cuts_120 ?_
      refine lv_iconst (v := (1 : Int32)) hx hb dX5_cuts_121 (by decide) ?_
      refine lv_iadd hx hb dX5_cuts_122 ?_
      obtain ⟨c4, hf⟩ := ix_elim hf
      obtain ⟨g5, eg5, hf⟩ := nx_elim hf
      refine z_iast C hz a_n_cut c4 eg5 dX5_cuts_123 (fun H locs hz => ?_)
      refine lv_iload_n hx hb dX5_cuts_124 rfl (lv_at hl 2 rfl) ?_
      exact hR _ _ _ _ _ _ (Option.some.inj hf) hz dX5_cuts_125
    · have hf := ite_f hf c2
      refine lv_aload_n hx hb dX5_cuts_47 rfl (lv_at hl 0 rfl) ?_
      refine lv_iload_n hx hb dX5_cuts_48 rfl (lv_at hl 3 rfl) ?_
      refine lv_iload_n hx hb dX5_cuts_49 rfl (lv_at hl 1 rfl) ?_
      obtain ⟨r8, g7, hc6, hf⟩ := bd2_elim hf
      refine z_VI (As := [.int x3, .int x1]) (rest := []) C (c5_liesIn hc6) lk_RX5_163 ⟨rfl, rfl, Nat.le_of_ble_eq_true rfl, Nat.le_of_ble_eq_true rfl⟩ ⟨Nat.zero_le _, Nat.zero_le _⟩ o_moss rfl rfl (Nat.le_of_ble_eq_true rfl) rfl hl.1 dX5_cuts_50 hz (fun H locs hz => ?_)
      refine lv_if_eq (tgt := 105) hx hb dX5_cuts_53 (by decide) (fun c9 => ?_) (fun c9 => ?_)
      · have hf := ite_t hf c9
        exact w5_cuts_b105 C hR ih _ _ _ _ _ _ _ hf hz (lv_sub hl [0, 1, 2, 3] rfl)
      · have hf := ite_f hf c9
        refine lv_aload_n hx hb dX5_cuts_56 rfl (lv_at hl 0 rfl) ?_
        refine g_RX5_19_moss C hz dX5_cuts_57 ?_
        refine g_RX5_109_told C hz dX5_cuts_60 ?_
        refine lv_iload_n hx hb dX5_cuts_63 rfl (lv_at hl 3 rfl) ?_
        obtain ⟨c10, hf⟩ := ix_elim hf
        refine z_iald C hz a_told_depth c10 dX5_cuts_64 ?_
        refine lv_aload_n hx hb dX5_cuts_65 rfl (lv_at hl 0 rfl) ?_
        refine g_RX5_26_moss C hz dX5_cuts_66 ?_
        refine g_RX5_137_bog0 C hz dX5_cuts_69 ?_
        refine lv_iload_n hx hb dX5_cuts_72 rfl (lv_at hl 1 rfl) ?_
        obtain ⟨c11, hf⟩ := ix_elim hf
        refine z_iald C hz a_n_cut c11 dX5_cuts_73 ?_
        refine lv_icmp_ne (tgt := 105) hx hb dX5_cuts_74 (by decide) (fun c12 => ?_) (fun c12 => ?_)
        · have hf := ite_f hf c12
          exact w5_cuts_b105 C hR ih _ _ _ _ _ _ _ hf hz (lv_sub hl [0, 1, 2, 3] rfl)
        · have hf := ite_t hf c12
          refine lv_aload_n hx hb dX5_cuts_77 rfl (lv_at hl 0 rfl) ?_
          refine g_RX5_26_moss C hz dX5_cuts_78 ?_
          refine g_RX5_167_bog0 C hz dX5_cuts_81 ?_
          refine lv_iload_n hx hb dX5_cuts_84 rfl (lv_at hl 3 rfl) ?_
          refine lv_aload_n hx hb dX5_cuts_85 rfl (lv_at hl 0 rfl) ?_
          refine lv_iload_n hx hb dX5_cuts_86 rfl (lv_at hl 3 rfl) ?_
          refine lv_iconst (v := (0 : Int32)) hx hb dX5_cuts_87 (by decide) ?_
          obtain ⟨r15, g14, hc13, hf⟩ := bd2_elim hf
          refine z_VI (As := [.int x3, .int (0 : Int32)]) (rest := [.int x3, .ref (h 4)]) C (c5_leftIn hc13) lk_RX5_127 ⟨rfl, rfl, Nat.le_of_ble_eq_true rfl, Nat.le_of_ble_eq_true rfl⟩ ⟨Nat.zero_le _, Nat.zero_le _⟩ o_moss rfl rfl (Nat.le_of_ble_eq_true rfl) rfl hl.1 dX5_cuts_88 hz (fun H locs hz => ?_)
          obtain ⟨c16, hf⟩ := ix_elim hf
          obtain ⟨g17, eg17, hf⟩ := nx_elim hf
          refine z_iast C hz a_n_leftWhenFound c16 eg17 dX5_cuts_91 (fun H locs hz => ?_)
          refine lv_aload_n hx hb dX5_cuts_92 rfl (lv_at hl 0 rfl) ?_
          refine g_RX5_26_moss C hz dX5_cuts_93 ?_
          refine g_RX5_124_bog0 C hz dX5_cuts_96 ?_
          refine lv_iload_n hx hb dX5_cuts_99 rfl (lv_at hl 3 rfl) ?_
          refine lv_iconst (v := (1 : Int32)) hx hb dX5_cuts_100 (by decide) ?_
          obtain ⟨c18, hf⟩ := ix_elim hf
          obtain ⟨g19, eg19, hf⟩ := nx_elim hf
          refine z_iast C hz a_n_is c18 eg19 dX5_cuts_101 (fun H locs hz => ?_)
          obtain ⟨v20, ev20, hf⟩ := nx_elim hf
          refine lv_iinc (v := v20) (lv' := [(2, .int v20), (0, .ref (h 134)), (1, .int x1), (3, .int x3)]) hx hb dX5_cuts_102 hl (k := 2) rfl (by rw [ev20]; rfl) (by decide) rfl (fun ls hl => ?_)
          exact w5_cuts_b105 C hR ih _ _ _ _ _ _ _ hf hz (lv_sub hl [1, 2, 0, 3] rfl)
set_option maxHeartbeats 4000000 in
set_option maxRecDepth 100000 in
theorem w5_cuts_b0 {res : Int32 × Sg} (C : Cx p m c cX5_cuts 4 s args RX5 D (tyL cI cZ cB)) (hR : EndI p l e rm5_cuts s m args below meth c Q D (wX cI cZ cB h) A cX5_cuts res) : ∀ (x1 : Int32) (g : Sg) (H : Heap) (locs : List Loc) (ls : Array Slot), f5_cuts x1 g = some res → Zs D (wX cI cZ cB h) A s.heap H locs g → lv_has ls 4 [(0, .ref (h 134)), (1, .int x1)] → W p l e rm5_cuts s m args below meth c H locs 0 0 Q (F0 m 0 ls []) := by
  have hx := C.1.1
  have hb := C.1.2.1
  intro x1 g H locs ls hf hz hl
  unfold f5_cuts at hf
  refine lv_iload_n hx hb dX5_cuts_0 rfl (lv_at hl 1 rfl) ?_
  obtain ⟨r23, g22, hc21, hf⟩ := bd2_elim hf
  refine z_SI (As := [.int x1]) (rest := []) C (c5_isCell hc21) lk_RX5_134 ⟨rfl, rfl, Nat.le_of_ble_eq_true rfl, Nat.le_of_ble_eq_true rfl⟩ ⟨Nat.zero_le _, Nat.zero_le _⟩ rfl (Nat.le_of_ble_eq_true rfl) rfl hl.1 dX5_cuts_1 hz (fun H locs hz => ?_)
  refine lv_if_ne (tgt := 9) hx hb dX5_cuts_4 (by decide) (fun c24 => ?_) (fun c24 => ?_)
  · have hf := ite_f hf c24
    refine lv_aload_n hx hb dX5_cuts_9 rfl (lv_at hl 0 rfl) ?_
    refine g_RX5_26_moss C hz dX5_cuts_10 ?_
    refine g_RX5_137_bog0 C hz dX5_cuts_13 ?_
    refine lv_iload_n hx hb dX5_cuts_16 rfl (lv_at hl 1 rfl) ?_
    obtain ⟨c25, hf⟩ := ix_elim hf
    refine z_iald C hz a_n_cut c25 dX5_cuts_17 ?_
    refine lv_bipush (v := (6 : Int32)) hx hb dX5_cuts_18 (by decide) ?_
    refine lv_icmp_lt (tgt := 26) hx hb dX5_cuts_20 (by decide) (fun c26 => ?_) (fun c26 => ?_)
    · have hf := ite_t hf c26
      refine lv_aload_n hx hb dX5_cuts_26 rfl (lv_at hl 0 rfl) ?_
      refine g_RX5_33_moss C hz dX5_cuts_27 ?_
      refine lv_aload_n hx hb dX5_cuts_30 rfl (lv_at hl 0 rfl) ?_
      refine g_RX5_26_moss C hz dX5_cuts_31 ?_
      obtain ⟨g28, hc27, hf⟩ := bd_elim hf
      refine z_VV (As := [.ref (h 5)]) (rest := []) C (c1_remember hc27) lk_RX5_159 ⟨rfl, rfl, Nat.le_of_ble_eq_true rfl, Nat.le_of_ble_eq_true rfl⟩ ⟨Nat.zero_le _, Nat.zero_le _⟩ o_past rfl rfl (Nat.le_of_ble_eq_true rfl) rfl hl.1 dX5_cuts_34 hz (fun H locs hz => ?_)
      refine lv_iconst (v := (0 : Int32)) hx hb dX5_cuts_37 (by decide) ?_
      refine lv_istore_n (lv' := [(2, .int (0 : Int32)), (0, .ref (h 134)), (1, .int x1)]) hx hb dX5_cuts_38 rfl hl (by decide) rfl (fun ls hl => ?_)
      refine lv_iconst (v := (0 : Int32)) hx hb dX5_cuts_39 (by decide) ?_
      refine lv_istore_n (lv' := [(3, .int (0 : Int32)), (2, .int (0 : Int32)), (0, .ref (h 134)), (1, .int x1)]) hx hb dX5_cuts_40 rfl hl (by decide) rfl (fun ls hl => ?_)
      exact w5_cuts_b41 C hR 1000 _ _ _ _ _ _ _ hf hz (lv_sub hl [2, 3, 1, 0] rfl)
    · have hf := ite_f hf c26
      refine lv_bipush (v := (-2 : Int32)) hx hb dX5_cuts_23 (by decide) ?_
      exact hR _ _ _ _ _ _ (Option.some.inj hf) hz dX5_cuts_25
  · have hf := ite_t hf c24
    refine lv_iconst (v := (-1 : Int32)) hx hb dX5_cuts_7 (by decide) ?_
    exact hR _ _ _ _ _ _ (Option.some.inj hf) hz dX5_cuts_8
set_option maxHeartbeats 4000000 in
set_option maxRecDepth 100000 in
theorem c5_cuts {l : Launch} {D : va_G} {cI cZ cB : ClassId} {h : Nat → Nat} {x1 : Int32} {g : Sg} {r : Int32} {g1 : Sg} (hf : f5_cuts x1 g = some (r, g1)) : KI l D (tyL cI cZ cB) (wX cI cZ cB h) yX5_cuts cX5_cuts 4 (some .int) rm5_cuts [.ref (h 134), .int x1] g r g1 := by
  refine KI_mk (own := RX5) (by decide +kernel) rfl (Nat.le_of_ble_eq_true rfl) ?_
  intro p e s m below meth c A Q ls C hR hz hl
  have hl : lv_has ls 4 [(0, .ref (h 134)), (1, .int x1)] := hl
  exact w5_cuts_b0 C hR _ _ _ _ _ hf hz hl
abbrev rm5_drains : Room := { frames := 3, cells := 0, slots := 0, locals := 68 }
set_option maxHeartbeats 4000000 in
set_option maxRecDepth 100000 in
theorem w5_drains_b89 {res : Int32 × Sg} {k49 : Int32 → Int32 → Int32 → Sg → Option (Int32 × Sg)} (C : Cx p m c cX5_drains 4 s args RX5 D (tyL cI cZ cB)) (hR : EndI p l e rm5_drains s m args below meth c Q D (wX cI cZ cB h) A cX5_drains res) (hk49 : ∀ (x1 : Int32) (x2 : Int32) (x3 : Int32) (g : Sg) (H : Heap) (locs : List Loc) (ls : Array Slot), k49 x1 x2 x3 g = some res → Zs D (wX cI cZ cB h) A s.heap H locs g → lv_has ls 4 [(0, .ref (h 134)), (1, .int x1), (2, .int x2), (3, .int x3)] → W p l e rm5_drains s m args below meth c H locs 0 0 Q (F0 m 49 ls [])) : ∀ (x1 : Int32) (x2 : Int32) (x3 : Int32) (g : Sg) (H : Heap) (locs : List Loc) (ls : Array Slot), f5_drains_b89 k49 x1 x2 x3 g = some res → Zs D (wX cI cZ cB h) A s.heap H locs g → lv_has ls 4 [(0, .ref (h 134)), (1, .int x1), (2, .int x2), (3, .int x3)] → W p l e rm5_drains s m args below meth c H locs 0 0 Q (F0 m 89 ls []) := by
  have hx := C.1.1
  have hb := C.1.2.1
  intro x1 x2 x3 g H locs ls hf hz hl
  unfold f5_drains_b89 at hf
  obtain ⟨v1, ev1, hf⟩ := nx_elim hf
  refine lv_iinc (v := v1) (lv' := [(3, .int v1), (0, .ref (h 134)), (1, .int x1), (2, .int x2)]) hx hb dX5_drains_89 hl (k := 3) rfl (by rw [ev1]; rfl) (by decide) rfl (fun ls hl => ?_)
  refine lv_goto (tgt := 49) hx hb dX5_drains_92 (by decide) ?_
  exact hk49 _ _ _ _ _ _ _ hf hz (lv_sub hl [1, 2, 3, 0] rfl)
set_option maxHeartbeats 4000000 in
set_option maxRecDepth 100000 in
theorem w5_drains_b49 {res : Int32 × Sg} (C : Cx p m c cX5_drains 4 s args RX5 D (tyL cI cZ cB)) (hR : EndI p l e rm5_drains s m args below meth c Q D (wX cI cZ cB h) A cX5_drains res) : ∀ n : Nat, ∀ (x1 : Int32) (x2 : Int32) (x3 : Int32) (g : Sg) (H : Heap) (locs : List Loc) (ls : Array Slot), f5_drains_b49 n x1 x2 x3 g = some res → Zs D (wX cI cZ cB h) A s.heap H locs g → lv_has ls 4 [(0, .ref (h 134)), (1, .int x1), (2, .int x2), (3, .int x3)] → W p l e rm5_drains s m args below meth c H locs 0 0 Q (F0 m 49 ls []) := by
  have hx := C.1.1
  have hb := C.1.2.1
  intro n
  induction n with
  | zero =>
    intro x1 x2 x3 g H locs ls hf hz hl
    cases hf
  | succ n ih =>
    intro x1 x2 x3 g H locs ls hf hz hl
    rw [f5_drains_b49] at hf
    refine lv_iload_n hx hb dX5_drains_49 rfl (lv_at hl 3 rfl) ?_
    refine lv_bipush (v := (8 : Int32)) hx hb dX5_drains_50 (by decide) ?_
    refine lv_icmp_ge (tgt := 95) hx hb dX5_drains_52 (by decide) (fun c2 => ?_) (fun c2 => ?_)
    · have hf := ite_t hf c2
      refine lv_iload_n hx hb dX5_drains_95 rfl (lv_at hl 2 rfl) ?_
      exact hR _ _ _ _ _ _ (Option.some.inj hf) hz dX5_drains_96
    · have hf := ite_f hf c2
      refine lv_aload_n hx hb dX5_drains_55 rfl (lv_at hl 0 rfl) ?_
      refine lv_iload_n hx hb dX5_drains_56 rfl (lv_at hl 3 rfl) ?_
      refine lv_iload_n hx hb dX5_drains_57 rfl (lv_at hl 1 rfl) ?_
      obtain ⟨r5, g4, hc3, hf⟩ := bd2_elim hf
      refine z_VI (As := [.int x3, .int x1]) (rest := []) C (c5_liesIn hc3) lk_RX5_163 ⟨rfl, rfl, Nat.le_of_ble_eq_true rfl, Nat.le_of_ble_eq_true rfl⟩ ⟨Nat.zero_le _, Nat.zero_le _⟩ o_moss rfl rfl (Nat.le_of_ble_eq_true rfl) rfl hl.1 dX5_drains_58 hz (fun H locs hz => ?_)
      refine lv_if_eq (tgt := 89) hx hb dX5_drains_61 (by decide) (fun c6 => ?_) (fun c6 => ?_)
      · have hf := ite_t hf c6
        exact w5_drains_b89 C hR ih _ _ _ _ _ _ _ hf hz (lv_sub hl [0, 1, 2, 3] rfl)
      · have hf := ite_f hf c6
        refine lv_aload_n hx hb dX5_drains_64 rfl (lv_at hl 0 rfl) ?_
        refine g_RX5_26_moss C hz dX5_drains_65 ?_
        refine g_RX5_170_bog0 C hz dX5_drains_68 ?_
        refine lv_iload_n hx hb dX5_drains_71 rfl (lv_at hl 3 rfl) ?_
        refine lv_bipush (v := (9 : Int32)) hx hb dX5_drains_72 (by decide) ?_
        refine lv_aload_n hx hb dX5_drains_74 rfl (lv_at hl 0 rfl) ?_
        refine g_RX5_26_moss C hz dX5_drains_75 ?_
        refine g_RX5_170_bog0 C hz dX5_drains_78 ?_
        refine lv_iload_n hx hb dX5_drains_81 rfl (lv_at hl 3 rfl) ?_
        obtain ⟨c7, hf⟩ := ix_elim hf
        refine z_iald C hz a_n_dried c7 dX5_drains_82 ?_
        refine lv_iconst (v := (1 : Int32)) hx hb dX5_drains_83 (by decide) ?_
        refine lv_iadd hx hb dX5_drains_84 ?_
        refine z_min C hl.1 wd_296 wd_172 wd_171 wd_170 (Nat.le_of_ble_eq_true rfl) (Nat.le_of_ble_eq_true rfl) (Nat.zero_le _) (Nat.zero_le _) dX5_drains_85 ?_
        obtain ⟨c8, hf⟩ := ix_elim hf
        obtain ⟨g9, eg9, hf⟩ := nx_elim hf
        refine z_iast C hz a_n_dried c8 eg9 dX5_drains_88 (fun H locs hz => ?_)
        exact w5_drains_b89 C hR ih _ _ _ _ _ _ _ hf hz (lv_sub hl [0, 1, 2, 3] rfl)
set_option maxHeartbeats 4000000 in
set_option maxRecDepth 100000 in
theorem w5_drains_b0 {res : Int32 × Sg} (C : Cx p m c cX5_drains 4 s args RX5 D (tyL cI cZ cB)) (hR : EndI p l e rm5_drains s m args below meth c Q D (wX cI cZ cB h) A cX5_drains res) : ∀ (x1 : Int32) (g : Sg) (H : Heap) (locs : List Loc) (ls : Array Slot), f5_drains x1 g = some res → Zs D (wX cI cZ cB h) A s.heap H locs g → lv_has ls 4 [(0, .ref (h 134)), (1, .int x1)] → W p l e rm5_drains s m args below meth c H locs 0 0 Q (F0 m 0 ls []) := by
  have hx := C.1.1
  have hb := C.1.2.1
  intro x1 g H locs ls hf hz hl
  unfold f5_drains at hf
  refine lv_iload_n hx hb dX5_drains_0 rfl (lv_at hl 1 rfl) ?_
  obtain ⟨r12, g11, hc10, hf⟩ := bd2_elim hf
  refine z_SI (As := [.int x1]) (rest := []) C (c5_isCell hc10) lk_RX5_134 ⟨rfl, rfl, Nat.le_of_ble_eq_true rfl, Nat.le_of_ble_eq_true rfl⟩ ⟨Nat.zero_le _, Nat.zero_le _⟩ rfl (Nat.le_of_ble_eq_true rfl) rfl hl.1 dX5_drains_1 hz (fun H locs hz => ?_)
  refine lv_if_ne (tgt := 9) hx hb dX5_drains_4 (by decide) (fun c13 => ?_) (fun c13 => ?_)
  · have hf := ite_f hf c13
    refine lv_aload_n hx hb dX5_drains_9 rfl (lv_at hl 0 rfl) ?_
    refine g_RX5_26_moss C hz dX5_drains_10 ?_
    refine g_RX5_140_bog0 C hz dX5_drains_13 ?_
    refine lv_iload_n hx hb dX5_drains_16 rfl (lv_at hl 1 rfl) ?_
    obtain ⟨c14, hf⟩ := ix_elim hf
    refine z_iald C hz a_n_wet c14 dX5_drains_17 ?_
    obtain ⟨v15, ev15, hf⟩ := nx_elim hf
    refine z_nm ev15 ?_
    refine lv_istore_n (lv' := [(2, .int v15), (0, .ref (h 134)), (1, .int x1)]) hx hb dX5_drains_18 rfl hl (by decide) rfl (fun ls hl => ?_)
    refine lv_iload_n hx hb dX5_drains_19 rfl (lv_at hl 0 rfl) ?_
    refine lv_if_ne (tgt := 26) hx hb dX5_drains_20 (by decide) (fun c16 => ?_) (fun c16 => ?_)
    · have hf := ite_f hf c16
      refine lv_aload_n hx hb dX5_drains_26 rfl (lv_at hl 1 rfl) ?_
      refine g_RX5_33_moss C hz dX5_drains_27 ?_
      refine lv_aload_n hx hb dX5_drains_30 rfl (lv_at hl 1 rfl) ?_
      refine g_RX5_26_moss C hz dX5_drains_31 ?_
      obtain ⟨g18, hc17, hf⟩ := bd_elim hf
      refine z_VV (As := [.ref (h 5)]) (rest := []) C (c1_remember hc17) lk_RX5_159 ⟨rfl, rfl, Nat.le_of_ble_eq_true rfl, Nat.le_of_ble_eq_true rfl⟩ ⟨Nat.zero_le _, Nat.zero_le _⟩ o_past rfl rfl (Nat.le_of_ble_eq_true rfl) rfl hl.1 dX5_drains_34 hz (fun H locs hz => ?_)
      refine lv_aload_n hx hb dX5_drains_37 rfl (lv_at hl 1 rfl) ?_
      refine g_RX5_26_moss C hz dX5_drains_38 ?_
      refine g_RX5_140_bog0 C hz dX5_drains_41 ?_
      refine lv_iload_n hx hb dX5_drains_44 rfl (lv_at hl 2 rfl) ?_
      refine lv_iconst (v := (0 : Int32)) hx hb dX5_drains_45 (by decide) ?_
      obtain ⟨c19, hf⟩ := ix_elim hf
      obtain ⟨g20, eg20, hf⟩ := nx_elim hf
      refine z_iast C hz a_n_wet c19 eg20 dX5_drains_46 (fun H locs hz => ?_)
      refine lv_iconst (v := (0 : Int32)) hx hb dX5_drains_47 (by decide) ?_
      refine lv_istore_n (lv' := [(3, .int (0 : Int32)), (2, .int v15), (0, .ref (h 134)), (1, .int x1)]) hx hb dX5_drains_48 rfl hl (by decide) rfl (fun ls hl => ?_)
      exact w5_drains_b49 C hR 1000 _ _ _ _ _ _ _ hf hz (lv_sub hl [2, 3, 1, 0] rfl)
    · have hf := ite_t hf c16
      refine lv_bipush (v := (-2 : Int32)) hx hb dX5_drains_23 (by decide) ?_
      exact hR _ _ _ _ _ _ (Option.some.inj hf) hz dX5_drains_25
  · have hf := ite_t hf c13
    refine lv_iconst (v := (-1 : Int32)) hx hb dX5_drains_7 (by decide) ?_
    exact hR _ _ _ _ _ _ (Option.some.inj hf) hz dX5_drains_8
set_option maxHeartbeats 4000000 in
set_option maxRecDepth 100000 in
theorem c5_drains {l : Launch} {D : va_G} {cI cZ cB : ClassId} {h : Nat → Nat} {x1 : Int32} {g : Sg} {r : Int32} {g1 : Sg} (hf : f5_drains x1 g = some (r, g1)) : KI l D (tyL cI cZ cB) (wX cI cZ cB h) yX5_drains cX5_drains 4 (some .int) rm5_drains [.ref (h 134), .int x1] g r g1 := by
  refine KI_mk (own := RX5) (by decide +kernel) rfl (Nat.le_of_ble_eq_true rfl) ?_
  intro p e s m below meth c A Q ls C hR hz hl
  have hl : lv_has ls 4 [(0, .ref (h 134)), (1, .int x1)] := hl
  exact w5_drains_b0 C hR _ _ _ _ _ hf hz hl
abbrev rm5_mayBeDone : Room := { frames := 2, cells := 0, slots := 0, locals := 43 }
set_option maxHeartbeats 4000000 in
set_option maxRecDepth 100000 in
theorem w5_mayBeDone_b0 {res : Int32 × Sg} (C : Cx p m c cX5_mayBeDone 3 s args RX5 D (tyL cI cZ cB)) (hR : EndZ p l e rm5_mayBeDone s m args below meth c Q D (wX cI cZ cB h) A cX5_mayBeDone res) : ∀ (x1 : Int32) (x2 : Int32) (g : Sg) (H : Heap) (locs : List Loc) (ls : Array Slot), f5_mayBeDone x1 x2 g = some res → Zs D (wX cI cZ cB h) A s.heap H locs g → lv_has ls 3 [(0, .ref (h 134)), (1, .int x1), (2, .int x2)] → W p l e rm5_mayBeDone s m args below meth c H locs 0 0 Q (F0 m 0 ls []) := by
  have hx := C.1.1
  have hb := C.1.2.1
  intro x1 x2 g H locs ls hf hz hl
  unfold f5_mayBeDone at hf
  refine lv_aload_n hx hb dX5_mayBeDone_0 rfl (lv_at hl 0 rfl) ?_
  refine lv_iload_n hx hb dX5_mayBeDone_1 rfl (lv_at hl 1 rfl) ?_
  refine lv_iconst (v := (1 : Int32)) hx hb dX5_mayBeDone_2 (by decide) ?_
  obtain ⟨r3, g2, hc1, hf⟩ := bd2_elim hf
  refine z_VI (As := [.int x1, .int (1 : Int32)]) (rest := []) C (c5_isNow hc1) lk_RX5_190 ⟨rfl, rfl, Nat.le_of_ble_eq_true rfl, Nat.le_of_ble_eq_true rfl⟩ ⟨Nat.zero_le _, Nat.zero_le _⟩ o_moss rfl rfl (Nat.le_of_ble_eq_true rfl) rfl hl.1 dX5_mayBeDone_3 hz (fun H locs hz => ?_)
  refine lv_if_eq (tgt := 27) hx hb dX5_mayBeDone_6 (by decide) (fun c4 => ?_) (fun c4 => ?_)
  · have hf := ite_t hf c4
    refine lv_iconst (v := (0 : Int32)) hx hb dX5_mayBeDone_27 (by decide) ?_
    exact hR _ _ _ _ _ _ hf hz dX5_mayBeDone_28
  · have hf := ite_f hf c4
    refine lv_aload_n hx hb dX5_mayBeDone_9 rfl (lv_at hl 0 rfl) ?_
    refine g_RX5_19_moss C hz dX5_mayBeDone_10 ?_
    refine g_RX5_121_told C hz dX5_mayBeDone_13 ?_
    refine lv_iload_n hx hb dX5_mayBeDone_16 rfl (lv_at hl 1 rfl) ?_
    obtain ⟨c5, hf⟩ := ix_elim hf
    refine z_iald C hz a_told_clashes c5 dX5_mayBeDone_17 ?_
    refine lv_iload_n hx hb dX5_mayBeDone_18 rfl (lv_at hl 2 rfl) ?_
    refine lv_iand hx hb dX5_mayBeDone_19 ?_
    refine lv_if_ne (tgt := 27) hx hb dX5_mayBeDone_20 (by decide) (fun c6 => ?_) (fun c6 => ?_)
    · have hf := ite_f hf c6
      refine lv_iconst (v := (0 : Int32)) hx hb dX5_mayBeDone_27 (by decide) ?_
      exact hR _ _ _ _ _ _ hf hz dX5_mayBeDone_28
    · have hf := ite_t hf c6
      refine lv_iconst (v := (1 : Int32)) hx hb dX5_mayBeDone_23 (by decide) ?_
      refine lv_goto (tgt := 28) hx hb dX5_mayBeDone_24 (by decide) ?_
      exact hR _ _ _ _ _ _ hf hz dX5_mayBeDone_28
set_option maxHeartbeats 4000000 in
set_option maxRecDepth 100000 in
theorem c5_mayBeDone {l : Launch} {D : va_G} {cI cZ cB : ClassId} {h : Nat → Nat} {x1 : Int32} {x2 : Int32} {g : Sg} {r : Int32} {g1 : Sg} (hf : f5_mayBeDone x1 x2 g = some (r, g1)) : KI l D (tyL cI cZ cB) (wX cI cZ cB h) yX5_mayBeDone cX5_mayBeDone 3 (some .boolean) rm5_mayBeDone [.ref (h 134), .int x1, .int x2] g r g1 := by
  refine KZ_mk (own := RX5) (by decide +kernel) rfl (Nat.le_of_ble_eq_true rfl) ?_
  intro p e s m below meth c A Q ls C hR hz hl
  have hl : lv_has ls 3 [(0, .ref (h 134)), (1, .int x1), (2, .int x2)] := hl
  exact w5_mayBeDone_b0 C hR _ _ _ _ _ _ hf hz hl
abbrev rm9_bitCount : Room := { frames := 0, cells := 0, slots := 0, locals := 0 }
set_option maxHeartbeats 4000000 in
set_option maxRecDepth 100000 in
theorem w9_bitCount_b0 {res : Int32 × Sg} (C : Cx p m c cJ6_bitCount_0f7a4 1 s args RJ6 D (tyL cI cZ cB)) (hR : EndI p l e rm9_bitCount s m args below meth c Q D (wX cI cZ cB h) A cJ6_bitCount_0f7a4 res) : ∀ (x0 : Int32) (g : Sg) (H : Heap) (locs : List Loc) (ls : Array Slot), f9_bitCount x0 g = some res → Zs D (wX cI cZ cB h) A s.heap H locs g → lv_has ls 1 [(0, .int x0)] → W p l e rm9_bitCount s m args below meth c H locs 0 0 Q (F0 m 0 ls []) := by
  have hx := C.1.1
  have hb := C.1.2.1
  intro x0 g H locs ls hf hz hl
  unfold f9_bitCount at hf
  refine lv_iload_n hx hb dJ6_bitCount_0f7a4_0 rfl (lv_at hl 0 rfl) ?_
  refine lv_iload_n hx hb dJ6_bitCount_0f7a4_1 rfl (lv_at hl 0 rfl) ?_
  refine lv_iconst (v := (1 : Int32)) hx hb dJ6_bitCount_0f7a4_2 (by decide) ?_
  refine lv_iushr (v := ((x0).toUInt32 >>> (((1 : Int32)).toUInt32 &&& Int32.toUInt32 31)).toInt32) hx hb dJ6_bitCount_0f7a4_3 rfl ?_
  refine z_ldcw C wd_114 dJ6_bitCount_0f7a4_4 ?_
  refine lv_iand hx hb dJ6_bitCount_0f7a4_7 ?_
  refine lv_isub hx hb dJ6_bitCount_0f7a4_8 ?_
  obtain ⟨v1, ev1, hf⟩ := nx_elim hf
  refine z_nm ev1 ?_
  refine lv_istore_n (lv' := [(0, .int v1)]) hx hb dJ6_bitCount_0f7a4_9 rfl hl (by decide) rfl (fun ls hl => ?_)
  refine lv_iload_n hx hb dJ6_bitCount_0f7a4_10 rfl (lv_at hl 0 rfl) ?_
  refine z_ldcw C wd_115 dJ6_bitCount_0f7a4_11 ?_
  refine lv_iand hx hb dJ6_bitCount_0f7a4_14 ?_
  refine lv_iload_n hx hb dJ6_bitCount_0f7a4_15 rfl (lv_at hl 0 rfl) ?_
  refine lv_iconst (v := (2 : Int32)) hx hb dJ6_bitCount_0f7a4_16 (by decide) ?_
  refine lv_iushr (v := ((v1).toUInt32 >>> (((2 : Int32)).toUInt32 &&& Int32.toUInt32 31)).toInt32) hx hb dJ6_bitCount_0f7a4_17 rfl ?_
  refine z_ldcw C wd_115 dJ6_bitCount_0f7a4_18 ?_
  refine lv_iand hx hb dJ6_bitCount_0f7a4_21 ?_
  refine lv_iadd hx hb dJ6_bitCount_0f7a4_22 ?_
  obtain ⟨v2, ev2, hf⟩ := nx_elim hf
  refine z_nm ev2 ?_
  refine lv_istore_n (lv' := [(0, .int v2)]) hx hb dJ6_bitCount_0f7a4_23 rfl hl (by decide) rfl (fun ls hl => ?_)
  refine lv_iload_n hx hb dJ6_bitCount_0f7a4_24 rfl (lv_at hl 0 rfl) ?_
  refine lv_iload_n hx hb dJ6_bitCount_0f7a4_25 rfl (lv_at hl 0 rfl) ?_
  refine lv_iconst (v := (4 : Int32)) hx hb dJ6_bitCount_0f7a4_26 (by decide) ?_
  refine lv_iushr (v := ((v2).toUInt32 >>> (((4 : Int32)).toUInt32 &&& Int32.toUInt32 31)).toInt32) hx hb dJ6_bitCount_0f7a4_27 rfl ?_
  refine lv_iadd hx hb dJ6_bitCount_0f7a4_28 ?_
  refine z_ldcw C wd_116 dJ6_bitCount_0f7a4_29 ?_
  refine lv_iand hx hb dJ6_bitCount_0f7a4_32 ?_
  obtain ⟨v3, ev3, hf⟩ := nx_elim hf
  refine z_nm ev3 ?_
  refine lv_istore_n (lv' := [(0, .int v3)]) hx hb dJ6_bitCount_0f7a4_33 rfl hl (by decide) rfl (fun ls hl => ?_)
  refine lv_iload_n hx hb dJ6_bitCount_0f7a4_34 rfl (lv_at hl 0 rfl) ?_
  refine lv_iload_n hx hb dJ6_bitCount_0f7a4_35 rfl (lv_at hl 0 rfl) ?_
  refine lv_bipush (v := (8 : Int32)) hx hb dJ6_bitCount_0f7a4_36 (by decide) ?_
  refine lv_iushr (v := ((v3).toUInt32 >>> (((8 : Int32)).toUInt32 &&& Int32.toUInt32 31)).toInt32) hx hb dJ6_bitCount_0f7a4_38 rfl ?_
  refine lv_iadd hx hb dJ6_bitCount_0f7a4_39 ?_
  obtain ⟨v4, ev4, hf⟩ := nx_elim hf
  refine z_nm ev4 ?_
  refine lv_istore_n (lv' := [(0, .int v4)]) hx hb dJ6_bitCount_0f7a4_40 rfl hl (by decide) rfl (fun ls hl => ?_)
  refine lv_iload_n hx hb dJ6_bitCount_0f7a4_41 rfl (lv_at hl 0 rfl) ?_
  refine lv_iload_n hx hb dJ6_bitCount_0f7a4_42 rfl (lv_at hl 0 rfl) ?_
  refine lv_bipush (v := (16 : Int32)) hx hb dJ6_bitCount_0f7a4_43 (by decide) ?_
  refine lv_iushr (v := ((v4).toUInt32 >>> (((16 : Int32)).toUInt32 &&& Int32.toUInt32 31)).toInt32) hx hb dJ6_bitCount_0f7a4_45 rfl ?_
  refine lv_iadd hx hb dJ6_bitCount_0f7a4_46 ?_
  obtain ⟨v5, ev5, hf⟩ := nx_elim hf
  refine z_nm ev5 ?_
  refine lv_istore_n (lv' := [(0, .int v5)]) hx hb dJ6_bitCount_0f7a4_47 rfl hl (by decide) rfl (fun ls hl => ?_)
  refine lv_iload_n hx hb dJ6_bitCount_0f7a4_48 rfl (lv_at hl 0 rfl) ?_
  refine lv_bipush (v := (63 : Int32)) hx hb dJ6_bitCount_0f7a4_49 (by decide) ?_
  refine lv_iand hx hb dJ6_bitCount_0f7a4_51 ?_
  exact hR _ _ _ _ _ _ (Option.some.inj hf) hz dJ6_bitCount_0f7a4_52
set_option maxHeartbeats 4000000 in
set_option maxRecDepth 100000 in
theorem c9_bitCount {l : Launch} {D : va_G} {cI cZ cB : ClassId} {h : Nat → Nat} {x0 : Int32} {g : Sg} {r : Int32} {g1 : Sg} (hf : f9_bitCount x0 g = some (r, g1)) : KI l D (tyL cI cZ cB) (wX cI cZ cB h) yJ6_bitCount_0f7a4 cJ6_bitCount_0f7a4 1 (some .int) rm9_bitCount [.int x0] g r g1 := by
  refine KI_mk (own := RJ6) (by decide +kernel) rfl (Nat.le_of_ble_eq_true rfl) ?_
  intro p e s m below meth c A Q ls C hR hz hl
  have hl : lv_has ls 1 [(0, .int x0)] := hl
  exact w9_bitCount_b0 C hR _ _ _ _ _ hf hz hl
abbrev rm5_does : Room := { frames := 3, cells := 0, slots := 0, locals := 68 }
set_option maxHeartbeats 4000000 in
set_option maxRecDepth 100000 in
theorem w5_does_b0 {res : Int32 × Sg} (C : Cx p m c cX5_does 2 s args RX5 D (tyL cI cZ cB)) (hR : EndI p l e rm5_does s m args below meth c Q D (wX cI cZ cB h) A cX5_does res) : ∀ (x1 : Int32) (g : Sg) (H : Heap) (locs : List Loc) (ls : Array Slot), f5_does x1 g = some res → Zs D (wX cI cZ cB h) A s.heap H locs g → lv_has ls 2 [(0, .ref (h 134)), (1, .int x1)] → W p l e rm5_does s m args below meth c H locs 0 0 Q (F0 m 0 ls []) := by
  have hx := C.1.1
  have hb := C.1.2.1
  intro x1 g H locs ls hf hz hl
  unfold f5_does at hf
  refine lv_aload_n hx hb dX5_does_0 rfl (lv_at hl 0 rfl) ?_
  refine g_RX5_19_moss C hz dX5_does_1 ?_
  refine lv_iload_n hx hb dX5_does_4 rfl (lv_at hl 1 rfl) ?_
  obtain ⟨r3, g2, hc1, hf⟩ := bd2_elim hf
  refine z_VI (As := [.int x1]) (rest := []) C (c4_hasPromise hc1) lk_RX5_100 ⟨rfl, rfl, Nat.le_of_ble_eq_true rfl, Nat.le_of_ble_eq_true rfl⟩ ⟨Nat.zero_le _, Nat.zero_le _⟩ o_told rfl rfl (Nat.le_of_ble_eq_true rfl) rfl hl.1 dX5_does_5 hz (fun H locs hz => ?_)
  refine lv_if_ne (tgt := 13) hx hb dX5_does_8 (by decide) (fun c4 => ?_) (fun c4 => ?_)
  · have hf := ite_f hf c4
    refine lv_aload_n hx hb dX5_does_13 rfl (lv_at hl 0 rfl) ?_
    refine lv_iload_n hx hb dX5_does_14 rfl (lv_at hl 1 rfl) ?_
    refine lv_aload_n hx hb dX5_does_15 rfl (lv_at hl 0 rfl) ?_
    refine lv_iconst (v := (2 : Int32)) hx hb dX5_does_16 (by decide) ?_
    obtain ⟨r7, g6, hc5, hf⟩ := bd2_elim hf
    refine z_VI (As := [.int (2 : Int32)]) (rest := [.int x1, .ref (h 134)]) C (c5_thoseThatAre hc5) lk_RX5_153 ⟨rfl, rfl, Nat.le_of_ble_eq_true rfl, Nat.le_of_ble_eq_true rfl⟩ ⟨Nat.zero_le _, Nat.zero_le _⟩ o_moss rfl rfl (Nat.le_of_ble_eq_true rfl) rfl hl.1 dX5_does_17 hz (fun H locs hz => ?_)
    obtain ⟨r10, g9, hc8, hf⟩ := bd2_elim hf
    refine z_VI (As := [.int x1, .int r7]) (rest := []) C (c5_mayBeDone hc8) lk_RX5_178 ⟨rfl, rfl, Nat.le_of_ble_eq_true rfl, Nat.le_of_ble_eq_true rfl⟩ ⟨Nat.zero_le _, Nat.zero_le _⟩ o_moss rfl rfl (Nat.le_of_ble_eq_true rfl) rfl hl.1 dX5_does_20 hz (fun H locs hz => ?_)
    refine lv_if_ne (tgt := 29) hx hb dX5_does_23 (by decide) (fun c11 => ?_) (fun c11 => ?_)
    · have hf := ite_f hf c11
      refine lv_aload_n hx hb dX5_does_29 rfl (lv_at hl 0 rfl) ?_
      refine g_RX5_33_moss C hz dX5_does_30 ?_
      refine lv_aload_n hx hb dX5_does_33 rfl (lv_at hl 0 rfl) ?_
      refine g_RX5_26_moss C hz dX5_does_34 ?_
      obtain ⟨g13, hc12, hf⟩ := bd_elim hf
      refine z_VV (As := [.ref (h 5)]) (rest := []) C (c1_remember hc12) lk_RX5_159 ⟨rfl, rfl, Nat.le_of_ble_eq_true rfl, Nat.le_of_ble_eq_true rfl⟩ ⟨Nat.zero_le _, Nat.zero_le _⟩ o_past rfl rfl (Nat.le_of_ble_eq_true rfl) rfl hl.1 dX5_does_37 hz (fun H locs hz => ?_)
      refine lv_aload_n hx hb dX5_does_40 rfl (lv_at hl 0 rfl) ?_
      refine g_RX5_26_moss C hz dX5_does_41 ?_
      refine g_RX5_124_bog0 C hz dX5_does_44 ?_
      refine lv_iload_n hx hb dX5_does_47 rfl (lv_at hl 1 rfl) ?_
      refine lv_iconst (v := (2 : Int32)) hx hb dX5_does_48 (by decide) ?_
      obtain ⟨c14, hf⟩ := ix_elim hf
      obtain ⟨g15, eg15, hf⟩ := nx_elim hf
      refine z_iast C hz a_n_is c14 eg15 dX5_does_49 (fun H locs hz => ?_)
      refine lv_aload_n hx hb dX5_does_50 rfl (lv_at hl 0 rfl) ?_
      refine lv_iconst (v := (2 : Int32)) hx hb dX5_does_51 (by decide) ?_
      obtain ⟨r18, g17, hc16, hf⟩ := bd2_elim hf
      refine z_VI (As := [.int (2 : Int32)]) (rest := []) C (c5_thoseThatAre hc16) lk_RX5_153 ⟨rfl, rfl, Nat.le_of_ble_eq_true rfl, Nat.le_of_ble_eq_true rfl⟩ ⟨Nat.zero_le _, Nat.zero_le _⟩ o_moss rfl rfl (Nat.le_of_ble_eq_true rfl) rfl hl.1 dX5_does_52 hz (fun H locs hz => ?_)
      obtain ⟨r21, g20, hc19, hf⟩ := bd2_elim hf
      refine z_SI (As := [.int r18]) (rest := []) C (c9_bitCount hc19) lk_RX5_181 ⟨rfl, rfl, Nat.le_of_ble_eq_true rfl, Nat.le_of_ble_eq_true rfl⟩ ⟨Nat.zero_le _, Nat.zero_le _⟩ rfl (Nat.le_of_ble_eq_true rfl) rfl hl.1 dX5_does_55 hz (fun H locs hz => ?_)
      exact hR _ _ _ _ _ _ (Option.some.inj hf) hz dX5_does_58
    · have hf := ite_t hf c11
      refine lv_bipush (v := (-2 : Int32)) hx hb dX5_does_26 (by decide) ?_
      exact hR _ _ _ _ _ _ (Option.some.inj hf) hz dX5_does_28
  · have hf := ite_t hf c4
    refine lv_iconst (v := (-1 : Int32)) hx hb dX5_does_11 (by decide) ?_
    exact hR _ _ _ _ _ _ (Option.some.inj hf) hz dX5_does_12
set_option maxHeartbeats 4000000 in
set_option maxRecDepth 100000 in
theorem c5_does {l : Launch} {D : va_G} {cI cZ cB : ClassId} {h : Nat → Nat} {x1 : Int32} {g : Sg} {r : Int32} {g1 : Sg} (hf : f5_does x1 g = some (r, g1)) : KI l D (tyL cI cZ cB) (wX cI cZ cB h) yX5_does cX5_does 2 (some .int) rm5_does [.ref (h 134), .int x1] g r g1 := by
  refine KI_mk (own := RX5) (by decide +kernel) rfl (Nat.le_of_ble_eq_true rfl) ?_
  intro p e s m below meth c A Q ls C hR hz hl
  have hl : lv_has ls 2 [(0, .ref (h 134)), (1, .int x1)] := hl
  exact w5_does_b0 C hR _ _ _ _ _ hf hz hl
abbrev rm5_year : Room := { frames := 3, cells := 0, slots := 0, locals := 68 }
set_option maxHeartbeats 4000000 in
set_option maxRecDepth 100000 in
theorem w5_year_b100 {res : Int32 × Sg} {k56 : Int32 → Int32 → Int32 → Sg → Option (Int32 × Sg)} (C : Cx p m c cX5_year 4 s args RX5 D (tyL cI cZ cB)) (hR : EndI p l e rm5_year s m args below meth c Q D (wX cI cZ cB h) A cX5_year res) (hk56 : ∀ (x1 : Int32) (x2 : Int32) (x3 : Int32) (g : Sg) (H : Heap) (locs : List Loc) (ls : Array Slot), k56 x1 x2 x3 g = some res → Zs D (wX cI cZ cB h) A s.heap H locs g → lv_has ls 4 [(0, .ref (h 134)), (1, .int x1), (2, .int x2), (3, .int x3)] → W p l e rm5_year s m args below meth c H locs 0 0 Q (F0 m 56 ls [])) : ∀ (x1 : Int32) (x2 : Int32) (x3 : Int32) (g : Sg) (H : Heap) (locs : List Loc) (ls : Array Slot), f5_year_b100 k56 x1 x2 x3 g = some res → Zs D (wX cI cZ cB h) A s.heap H locs g → lv_has ls 4 [(0, .ref (h 134)), (1, .int x1), (2, .int x2), (3, .int x3)] → W p l e rm5_year s m args below meth c H locs 0 0 Q (F0 m 100 ls []) := by
  have hx := C.1.1
  have hb := C.1.2.1
  intro x1 x2 x3 g H locs ls hf hz hl
  unfold f5_year_b100 at hf
  obtain ⟨v1, ev1, hf⟩ := nx_elim hf
  refine lv_iinc (v := v1) (lv' := [(3, .int v1), (0, .ref (h 134)), (1, .int x1), (2, .int x2)]) hx hb dX5_year_100 hl (k := 3) rfl (by rw [ev1]; rfl) (by decide) rfl (fun ls hl => ?_)
  refine lv_goto (tgt := 56) hx hb dX5_year_103 (by decide) ?_
  exact hk56 _ _ _ _ _ _ _ hf hz (lv_sub hl [1, 2, 3, 0] rfl)
set_option maxHeartbeats 4000000 in
set_option maxRecDepth 100000 in
theorem w5_year_b56 {res : Int32 × Sg} (C : Cx p m c cX5_year 4 s args RX5 D (tyL cI cZ cB)) (hR : EndI p l e rm5_year s m args below meth c Q D (wX cI cZ cB h) A cX5_year res) : ∀ n : Nat, ∀ (x1 : Int32) (x2 : Int32) (x3 : Int32) (g : Sg) (H : Heap) (locs : List Loc) (ls : Array Slot), f5_year_b56 n x1 x2 x3 g = some res → Zs D (wX cI cZ cB h) A s.heap H locs g → lv_has ls 4 [(0, .ref (h 134)), (1, .int x1), (2, .int x2), (3, .int x3)] → W p l e rm5_year s m args below meth c H locs 0 0 Q (F0 m 56 ls []) := by
  have hx := C.1.1
  have hb := C.1.2.1
  intro n
  induction n with
  | zero =>
    intro x1 x2 x3 g H locs ls hf hz hl
    cases hf
  | succ n ih =>
    intro x1 x2 x3 g H locs ls hf hz hl
    rw [f5_year_b56] at hf
    refine lv_iload_n hx hb dX5_year_56 rfl (lv_at hl 3 rfl) ?_
    refine lv_bipush (v := (8 : Int32)) hx hb dX5_year_57 (by decide) ?_
    refine lv_icmp_ge (tgt := 106) hx hb dX5_year_59 (by decide) (fun c2 => ?_) (fun c2 => ?_)
    · have hf := ite_t hf c2
      refine lv_iload_n hx hb dX5_year_106 rfl (lv_at hl 2 rfl) ?_
      exact hR _ _ _ _ _ _ (Option.some.inj hf) hz dX5_year_107
    · have hf := ite_f hf c2
      refine lv_aload_n hx hb dX5_year_62 rfl (lv_at hl 0 rfl) ?_
      refine lv_iload_n hx hb dX5_year_63 rfl (lv_at hl 3 rfl) ?_
      refine lv_iconst (v := (0 : Int32)) hx hb dX5_year_64 (by decide) ?_
      obtain ⟨r5, g4, hc3, hf⟩ := bd2_elim hf
      refine z_VI (As := [.int x3, .int (0 : Int32)]) (rest := []) C (c5_isNow hc3) lk_RX5_190 ⟨rfl, rfl, Nat.le_of_ble_eq_true rfl, Nat.le_of_ble_eq_true rfl⟩ ⟨Nat.zero_le _, Nat.zero_le _⟩ o_moss rfl rfl (Nat.le_of_ble_eq_true rfl) rfl hl.1 dX5_year_65 hz (fun H locs hz => ?_)
      refine lv_if_eq (tgt := 100) hx hb dX5_year_68 (by decide) (fun c6 => ?_) (fun c6 => ?_)
      · have hf := ite_t hf c6
        exact w5_year_b100 C hR ih _ _ _ _ _ _ _ hf hz (lv_sub hl [0, 1, 2, 3] rfl)
      · have hf := ite_f hf c6
        refine lv_iload_n hx hb dX5_year_71 rfl (lv_at hl 1 rfl) ?_
        refine lv_aload_n hx hb dX5_year_72 rfl (lv_at hl 0 rfl) ?_
        refine g_RX5_19_moss C hz dX5_year_73 ?_
        refine g_RX5_106_told C hz dX5_year_76 ?_
        refine lv_iload_n hx hb dX5_year_79 rfl (lv_at hl 3 rfl) ?_
        obtain ⟨c7, hf⟩ := ix_elim hf
        refine z_iald C hz a_told_cell c7 dX5_year_80 ?_
        obtain ⟨r10, g9, hc8, hf⟩ := bd2_elim hf
        refine z_SI (As := [.int x1, .int (g4.1 83 (x3.toNatClampNeg))]) (rest := []) C (c5_holds hc8) lk_RX5_193 ⟨rfl, rfl, Nat.le_of_ble_eq_true rfl, Nat.le_of_ble_eq_true rfl⟩ ⟨Nat.zero_le _, Nat.zero_le _⟩ rfl (Nat.le_of_ble_eq_true rfl) rfl hl.1 dX5_year_81 hz (fun H locs hz => ?_)
        refine lv_if_eq (tgt := 100) hx hb dX5_year_84 (by decide) (fun c11 => ?_) (fun c11 => ?_)
        · have hf := ite_t hf c11
          exact w5_year_b100 C hR ih _ _ _ _ _ _ _ hf hz (lv_sub hl [0, 1, 2, 3] rfl)
        · have hf := ite_f hf c11
          refine lv_aload_n hx hb dX5_year_87 rfl (lv_at hl 0 rfl) ?_
          refine g_RX5_26_moss C hz dX5_year_88 ?_
          refine g_RX5_124_bog0 C hz dX5_year_91 ?_
          refine lv_iload_n hx hb dX5_year_94 rfl (lv_at hl 3 rfl) ?_
          refine lv_iconst (v := (3 : Int32)) hx hb dX5_year_95 (by decide) ?_
          obtain ⟨c12, hf⟩ := ix_elim hf
          obtain ⟨g13, eg13, hf⟩ := nx_elim hf
          refine z_iast C hz a_n_is c12 eg13 dX5_year_96 (fun H locs hz => ?_)
          obtain ⟨v14, ev14, hf⟩ := nx_elim hf
          refine lv_iinc (v := v14) (lv' := [(2, .int v14), (0, .ref (h 134)), (1, .int x1), (3, .int x3)]) hx hb dX5_year_97 hl (k := 2) rfl (by rw [ev14]; rfl) (by decide) rfl (fun ls hl => ?_)
          exact w5_year_b100 C hR ih _ _ _ _ _ _ _ hf hz (lv_sub hl [1, 2, 0, 3] rfl)
set_option maxHeartbeats 4000000 in
set_option maxRecDepth 100000 in
theorem w5_year_b0 {res : Int32 × Sg} (C : Cx p m c cX5_year 4 s args RX5 D (tyL cI cZ cB)) (hR : EndI p l e rm5_year s m args below meth c Q D (wX cI cZ cB h) A cX5_year res) : ∀ (g : Sg) (H : Heap) (locs : List Loc) (ls : Array Slot), f5_year g = some res → Zs D (wX cI cZ cB h) A s.heap H locs g → lv_has ls 4 [(0, .ref (h 134))] → W p l e rm5_year s m args below meth c H locs 0 0 Q (F0 m 0 ls []) := by
  have hx := C.1.1
  have hb := C.1.2.1
  intro g H locs ls hf hz hl
  unfold f5_year at hf
  refine lv_aload_n hx hb dX5_year_0 rfl (lv_at hl 0 rfl) ?_
  refine g_RX5_26_moss C hz dX5_year_1 ?_
  refine g_RX5_150_bog0 C hz dX5_year_4 ?_
  refine lv_sipush (v := (999 : Int32)) hx hb dX5_year_7 (by decide) ?_
  refine lv_icmp_lt (tgt := 16) hx hb dX5_year_10 (by decide) (fun c15 => ?_) (fun c15 => ?_)
  · have hf := ite_t hf c15
    refine lv_aload_n hx hb dX5_year_16 rfl (lv_at hl 0 rfl) ?_
    refine g_RX5_33_moss C hz dX5_year_17 ?_
    refine lv_aload_n hx hb dX5_year_20 rfl (lv_at hl 0 rfl) ?_
    refine g_RX5_26_moss C hz dX5_year_21 ?_
    obtain ⟨g17, hc16, hf⟩ := bd_elim hf
    refine z_VV (As := [.ref (h 5)]) (rest := []) C (c1_remember hc16) lk_RX5_159 ⟨rfl, rfl, Nat.le_of_ble_eq_true rfl, Nat.le_of_ble_eq_true rfl⟩ ⟨Nat.zero_le _, Nat.zero_le _⟩ o_past rfl rfl (Nat.le_of_ble_eq_true rfl) rfl hl.1 dX5_year_24 hz (fun H locs hz => ?_)
    refine lv_aload_n hx hb dX5_year_27 rfl (lv_at hl 0 rfl) ?_
    refine g_RX5_26_moss C hz dX5_year_28 ?_
    refine lv_dup hx hb dX5_year_31 rfl ?_
    refine g_RX5_150_bog0 C hz dX5_year_32 ?_
    refine lv_iconst (v := (1 : Int32)) hx hb dX5_year_35 (by decide) ?_
    refine lv_iadd hx hb dX5_year_36 ?_
    obtain ⟨g18, eg18, hf⟩ := nx_elim hf
    refine p_RX5_150_bog0 C hz eg18 dX5_year_37 (fun H locs hz => ?_)
    refine lv_aload_n hx hb dX5_year_40 rfl (lv_at hl 0 rfl) ?_
    refine lv_aload_n hx hb dX5_year_41 rfl (lv_at hl 0 rfl) ?_
    refine g_RX5_26_moss C hz dX5_year_42 ?_
    refine g_RX5_140_bog0 C hz dX5_year_45 ?_
    obtain ⟨r21, g20, hc19, hf⟩ := bd2_elim hf
    refine z_VI (As := [.ref (h 1)]) (rest := []) C (c5_letYearPass a_n_wet hc19) lk_RX5_186 ⟨rfl, rfl, Nat.le_of_ble_eq_true rfl, Nat.le_of_ble_eq_true rfl⟩ ⟨Nat.zero_le _, Nat.zero_le _⟩ o_moss rfl rfl (Nat.le_of_ble_eq_true rfl) rfl hl.1 dX5_year_48 hz (fun H locs hz => ?_)
    refine lv_istore_n (lv' := [(1, .int r21), (0, .ref (h 134))]) hx hb dX5_year_51 rfl hl (by decide) rfl (fun ls hl => ?_)
    refine lv_iconst (v := (0 : Int32)) hx hb dX5_year_52 (by decide) ?_
    refine lv_istore_n (lv' := [(2, .int (0 : Int32)), (1, .int r21), (0, .ref (h 134))]) hx hb dX5_year_53 rfl hl (by decide) rfl (fun ls hl => ?_)
    refine lv_iconst (v := (0 : Int32)) hx hb dX5_year_54 (by decide) ?_
    refine lv_istore_n (lv' := [(3, .int (0 : Int32)), (2, .int (0 : Int32)), (1, .int r21), (0, .ref (h 134))]) hx hb dX5_year_55 rfl hl (by decide) rfl (fun ls hl => ?_)
    exact w5_year_b56 C hR 1000 _ _ _ _ _ _ _ hf hz (lv_sub hl [3, 2, 1, 0] rfl)
  · have hf := ite_f hf c15
    refine lv_bipush (v := (-2 : Int32)) hx hb dX5_year_13 (by decide) ?_
    exact hR _ _ _ _ _ _ (Option.some.inj hf) hz dX5_year_15
set_option maxHeartbeats 4000000 in
set_option maxRecDepth 100000 in
theorem c5_year {l : Launch} {D : va_G} {cI cZ cB : ClassId} {h : Nat → Nat} {g : Sg} {r : Int32} {g1 : Sg} (hf : f5_year g = some (r, g1)) : KI l D (tyL cI cZ cB) (wX cI cZ cB h) yX5_year cX5_year 4 (some .int) rm5_year [.ref (h 134)] g r g1 := by
  refine KI_mk (own := RX5) (by decide +kernel) rfl (Nat.le_of_ble_eq_true rfl) ?_
  intro p e s m below meth c A Q ls C hR hz hl
  have hl : lv_has ls 4 [(0, .ref (h 134))] := hl
  exact w5_year_b0 C hR _ _ _ _ hf hz hl
abbrev rm5_undo : Room := { frames := 3, cells := 0, slots := 0, locals := 69 }
set_option maxHeartbeats 4000000 in
set_option maxRecDepth 100000 in
theorem w5_undo_b0 {res : Int32 × Sg} (C : Cx p m c cX5_undo 1 s args RX5 D (tyL cI cZ cB)) (hR : EndI p l e rm5_undo s m args below meth c Q D (wX cI cZ cB h) A cX5_undo res) : ∀ (g : Sg) (H : Heap) (locs : List Loc) (ls : Array Slot), f5_undo g = some res → Zs D (wX cI cZ cB h) A s.heap H locs g → lv_has ls 1 [(0, .ref (h 134))] → W p l e rm5_undo s m args below meth c H locs 0 0 Q (F0 m 0 ls []) := by
  have hx := C.1.1
  have hb := C.1.2.1
  intro g H locs ls hf hz hl
  unfold f5_undo at hf
  refine lv_aload_n hx hb dX5_undo_0 rfl (lv_at hl 0 rfl) ?_
  refine g_RX5_33_moss C hz dX5_undo_1 ?_
  refine g_RX5_156_past C hz dX5_undo_4 ?_
  refine lv_if_ne (tgt := 13) hx hb dX5_undo_7 (by decide) (fun c1 => ?_) (fun c1 => ?_)
  · have hf := ite_f hf c1
    refine lv_aload_n hx hb dX5_undo_13 rfl (lv_at hl 0 rfl) ?_
    refine g_RX5_33_moss C hz dX5_undo_14 ?_
    refine lv_aload_n hx hb dX5_undo_17 rfl (lv_at hl 0 rfl) ?_
    refine g_RX5_26_moss C hz dX5_undo_18 ?_
    obtain ⟨g3, hc2, hf⟩ := bd_elim hf
    refine z_VV (As := [.ref (h 5)]) (rest := []) C (c1_giveBack hc2) lk_RX5_196 ⟨rfl, rfl, Nat.le_of_ble_eq_true rfl, Nat.le_of_ble_eq_true rfl⟩ ⟨Nat.zero_le _, Nat.zero_le _⟩ o_past rfl rfl (Nat.le_of_ble_eq_true rfl) rfl hl.1 dX5_undo_21 hz (fun H locs hz => ?_)
    refine lv_aload_n hx hb dX5_undo_24 rfl (lv_at hl 0 rfl) ?_
    refine g_RX5_33_moss C hz dX5_undo_25 ?_
    refine g_RX5_156_past C hz dX5_undo_28 ?_
    exact hR _ _ _ _ _ _ (Option.some.inj hf) hz dX5_undo_31
  · have hf := ite_t hf c1
    refine lv_bipush (v := (-2 : Int32)) hx hb dX5_undo_10 (by decide) ?_
    exact hR _ _ _ _ _ _ (Option.some.inj hf) hz dX5_undo_12
set_option maxHeartbeats 4000000 in
set_option maxRecDepth 100000 in
theorem c5_undo {l : Launch} {D : va_G} {cI cZ cB : ClassId} {h : Nat → Nat} {g : Sg} {r : Int32} {g1 : Sg} (hf : f5_undo g = some (r, g1)) : KI l D (tyL cI cZ cB) (wX cI cZ cB h) yX5_undo cX5_undo 1 (some .int) rm5_undo [.ref (h 134)] g r g1 := by
  refine KI_mk (own := RX5) (by decide +kernel) rfl (Nat.le_of_ble_eq_true rfl) ?_
  intro p e s m below meth c A Q ls C hR hz hl
  have hl : lv_has ls 1 [(0, .ref (h 134))] := hl
  exact w5_undo_b0 C hR _ _ _ _ hf hz hl
abbrev rm5_isToldYear : Room := { frames := 0, cells := 0, slots := 0, locals := 0 }
set_option maxHeartbeats 4000000 in
set_option maxRecDepth 100000 in
theorem w5_isToldYear_b0 {res : Int32 × Sg} (C : Cx p m c cX5_isToldYear 1 s args RX5 D (tyL cI cZ cB)) (hR : EndZ p l e rm5_isToldYear s m args below meth c Q D (wX cI cZ cB h) A cX5_isToldYear res) : ∀ (x0 : Int32) (g : Sg) (H : Heap) (locs : List Loc) (ls : Array Slot), f5_isToldYear x0 g = some res → Zs D (wX cI cZ cB h) A s.heap H locs g → lv_has ls 1 [(0, .int x0)] → W p l e rm5_isToldYear s m args below meth c H locs 0 0 Q (F0 m 0 ls []) := by
  have hx := C.1.1
  have hb := C.1.2.1
  intro x0 g H locs ls hf hz hl
  unfold f5_isToldYear at hf
  refine lv_iload_n hx hb dX5_isToldYear_0 rfl (lv_at hl 0 rfl) ?_
  refine lv_if_lt (tgt := 14) hx hb dX5_isToldYear_1 (by decide) (fun c1 => ?_) (fun c1 => ?_)
  · have hf := ite_t hf c1
    refine lv_iconst (v := (0 : Int32)) hx hb dX5_isToldYear_14 (by decide) ?_
    exact hR _ _ _ _ _ _ hf hz dX5_isToldYear_15
  · have hf := ite_f hf c1
    refine lv_iload_n hx hb dX5_isToldYear_4 rfl (lv_at hl 0 rfl) ?_
    refine lv_bipush (v := (99 : Int32)) hx hb dX5_isToldYear_5 (by decide) ?_
    refine lv_icmp_gt (tgt := 14) hx hb dX5_isToldYear_7 (by decide) (fun c2 => ?_) (fun c2 => ?_)
    · have hf := ite_t hf c2
      refine lv_iconst (v := (0 : Int32)) hx hb dX5_isToldYear_14 (by decide) ?_
      exact hR _ _ _ _ _ _ hf hz dX5_isToldYear_15
    · have hf := ite_f hf c2
      refine lv_iconst (v := (1 : Int32)) hx hb dX5_isToldYear_10 (by decide) ?_
      refine lv_goto (tgt := 15) hx hb dX5_isToldYear_11 (by decide) ?_
      exact hR _ _ _ _ _ _ hf hz dX5_isToldYear_15
set_option maxHeartbeats 4000000 in
set_option maxRecDepth 100000 in
theorem c5_isToldYear {l : Launch} {D : va_G} {cI cZ cB : ClassId} {h : Nat → Nat} {x0 : Int32} {g : Sg} {r : Int32} {g1 : Sg} (hf : f5_isToldYear x0 g = some (r, g1)) : KI l D (tyL cI cZ cB) (wX cI cZ cB h) yX5_isToldYear cX5_isToldYear 1 (some .boolean) rm5_isToldYear [.int x0] g r g1 := by
  refine KZ_mk (own := RX5) (by decide +kernel) rfl (Nat.le_of_ble_eq_true rfl) ?_
  intro p e s m below meth c A Q ls C hR hz hl
  have hl : lv_has ls 1 [(0, .int x0)] := hl
  exact w5_isToldYear_b0 C hR _ _ _ _ _ hf hz hl
abbrev rm5_left : Room := { frames := 3, cells := 0, slots := 0, locals := 68 }
set_option maxHeartbeats 4000000 in
set_option maxRecDepth 100000 in
theorem w5_left_b0 {res : Int32 × Sg} (C : Cx p m c cX5_left 3 s args RX5 D (tyL cI cZ cB)) (hR : EndI p l e rm5_left s m args below meth c Q D (wX cI cZ cB h) A cX5_left res) : ∀ (x1 : Int32) (x2 : Int32) (g : Sg) (H : Heap) (locs : List Loc) (ls : Array Slot), f5_left x1 x2 g = some res → Zs D (wX cI cZ cB h) A s.heap H locs g → lv_has ls 3 [(0, .ref (h 134)), (1, .int x1), (2, .int x2)] → W p l e rm5_left s m args below meth c H locs 0 0 Q (F0 m 0 ls []) := by
  have hx := C.1.1
  have hb := C.1.2.1
  intro x1 x2 g H locs ls hf hz hl
  unfold f5_left at hf
  refine lv_aload_n hx hb dX5_left_0 rfl (lv_at hl 0 rfl) ?_
  refine g_RX5_19_moss C hz dX5_left_1 ?_
  refine lv_iload_n hx hb dX5_left_4 rfl (lv_at hl 1 rfl) ?_
  obtain ⟨r3, g2, hc1, hf⟩ := bd2_elim hf
  refine z_VI (As := [.int x1]) (rest := []) C (c4_hasPromise hc1) lk_RX5_100 ⟨rfl, rfl, Nat.le_of_ble_eq_true rfl, Nat.le_of_ble_eq_true rfl⟩ ⟨Nat.zero_le _, Nat.zero_le _⟩ o_told rfl rfl (Nat.le_of_ble_eq_true rfl) rfl hl.1 dX5_left_5 hz (fun H locs hz => ?_)
  refine lv_if_eq (tgt := 18) hx hb dX5_left_8 (by decide) (fun c4 => ?_) (fun c4 => ?_)
  · have hf := ite_t hf c4
    refine lv_iconst (v := (-1 : Int32)) hx hb dX5_left_18 (by decide) ?_
    exact hR _ _ _ _ _ _ (Option.some.inj hf) hz dX5_left_19
  · have hf := ite_f hf c4
    refine lv_iload_n hx hb dX5_left_11 rfl (lv_at hl 2 rfl) ?_
    obtain ⟨r7, g6, hc5, hf⟩ := bd2_elim hf
    refine z_SI (As := [.int x2]) (rest := []) C (c5_isToldYear hc5) lk_RX5_199 ⟨rfl, rfl, Nat.le_of_ble_eq_true rfl, Nat.le_of_ble_eq_true rfl⟩ ⟨Nat.zero_le _, Nat.zero_le _⟩ rfl (Nat.le_of_ble_eq_true rfl) rfl hl.1 dX5_left_12 hz (fun H locs hz => ?_)
    refine lv_if_ne (tgt := 20) hx hb dX5_left_15 (by decide) (fun c8 => ?_) (fun c8 => ?_)
    · have hf := ite_f hf c8
      refine lv_aload_n hx hb dX5_left_20 rfl (lv_at hl 0 rfl) ?_
      refine lv_iload_n hx hb dX5_left_21 rfl (lv_at hl 1 rfl) ?_
      refine lv_iload_n hx hb dX5_left_22 rfl (lv_at hl 2 rfl) ?_
      obtain ⟨r11, g10, hc9, hf⟩ := bd2_elim hf
      refine z_VI (As := [.int x1, .int x2]) (rest := []) C (c5_leftIn hc9) lk_RX5_127 ⟨rfl, rfl, Nat.le_of_ble_eq_true rfl, Nat.le_of_ble_eq_true rfl⟩ ⟨Nat.zero_le _, Nat.zero_le _⟩ o_moss rfl rfl (Nat.le_of_ble_eq_true rfl) rfl hl.1 dX5_left_23 hz (fun H locs hz => ?_)
      exact hR _ _ _ _ _ _ (Option.some.inj hf) hz dX5_left_26
    · have hf := ite_t hf c8
      refine lv_iconst (v := (-1 : Int32)) hx hb dX5_left_18 (by decide) ?_
      exact hR _ _ _ _ _ _ (Option.some.inj hf) hz dX5_left_19
set_option maxHeartbeats 4000000 in
set_option maxRecDepth 100000 in
theorem c5_left {l : Launch} {D : va_G} {cI cZ cB : ClassId} {h : Nat → Nat} {x1 : Int32} {x2 : Int32} {g : Sg} {r : Int32} {g1 : Sg} (hf : f5_left x1 x2 g = some (r, g1)) : KI l D (tyL cI cZ cB) (wX cI cZ cB h) yX5_left cX5_left 3 (some .int) rm5_left [.ref (h 134), .int x1, .int x2] g r g1 := by
  refine KI_mk (own := RX5) (by decide +kernel) rfl (Nat.le_of_ble_eq_true rfl) ?_
  intro p e s m below meth c A Q ls C hR hz hl
  have hl : lv_has ls 3 [(0, .ref (h 134)), (1, .int x1), (2, .int x2)] := hl
  exact w5_left_b0 C hR _ _ _ _ _ _ hf hz hl
abbrev rm5_lasts : Room := { frames := 2, cells := 0, slots := 0, locals := 46 }
set_option maxHeartbeats 4000000 in
set_option maxRecDepth 100000 in
theorem w5_lasts_b32 {res : Int32 × Sg} (C : Cx p m c cX5_lasts 5 s args RX5 D (tyL cI cZ cB)) (hR : EndI p l e rm5_lasts s m args below meth c Q D (wX cI cZ cB h) A cX5_lasts res) : ∀ n : Nat, ∀ (x1 : Int32) (x2 : Int32) (x3 : Int32) (x4 : Int32) (g : Sg) (H : Heap) (locs : List Loc) (ls : Array Slot), f5_lasts_b32 n x1 x2 x3 x4 g = some res → Zs D (wX cI cZ cB h) A s.heap H locs g → lv_has ls 5 [(0, .ref (h 134)), (1, .int x1), (2, .int x2), (3, .int x3), (4, .int x4)] → W p l e rm5_lasts s m args below meth c H locs 0 0 Q (F0 m 32 ls []) := by
  have hx := C.1.1
  have hb := C.1.2.1
  intro n
  induction n with
  | zero =>
    intro x1 x2 x3 x4 g H locs ls hf hz hl
    cases hf
  | succ n ih =>
    intro x1 x2 x3 x4 g H locs ls hf hz hl
    rw [f5_lasts_b32] at hf
    refine lv_iload hx hb dX5_lasts_32 (lv_at hl 4 rfl) ?_
    refine lv_if_lt (tgt := 59) hx hb dX5_lasts_34 (by decide) (fun c1 => ?_) (fun c1 => ?_)
    · have hf := ite_t hf c1
      refine lv_bipush (v := (-9 : Int32)) hx hb dX5_lasts_59 (by decide) ?_
      exact hR _ _ _ _ _ _ (Option.some.inj hf) hz dX5_lasts_61
    · have hf := ite_f hf c1
      refine lv_aload_n hx hb dX5_lasts_37 rfl (lv_at hl 0 rfl) ?_
      refine lv_iload_n hx hb dX5_lasts_38 rfl (lv_at hl 1 rfl) ?_
      refine lv_iload hx hb dX5_lasts_39 (lv_at hl 4 rfl) ?_
      refine lv_iload_n hx hb dX5_lasts_41 rfl (lv_at hl 3 rfl) ?_
      refine lv_iconst (v := (0 : Int32)) hx hb dX5_lasts_42 (by decide) ?_
      obtain ⟨r4, g3, hc2, hf⟩ := bd2_elim hf
      refine z_VI (As := [.int x1, .int x4, .int x3, .int (0 : Int32)]) (rest := []) C (c5_lyingLeft hc2) lk_RX5_202 ⟨rfl, rfl, Nat.le_of_ble_eq_true rfl, Nat.le_of_ble_eq_true rfl⟩ ⟨Nat.zero_le _, Nat.zero_le _⟩ o_moss rfl rfl (Nat.le_of_ble_eq_true rfl) rfl hl.1 dX5_lasts_43 hz (fun H locs hz => ?_)
      refine lv_iload_n hx hb dX5_lasts_46 rfl (lv_at hl 2 rfl) ?_
      refine lv_icmp_lt (tgt := 53) hx hb dX5_lasts_47 (by decide) (fun c5 => ?_) (fun c5 => ?_)
      · have hf := ite_t hf c5
        obtain ⟨v6, ev6, hf⟩ := nx_elim hf
        refine lv_iinc (v := v6) (lv' := [(4, .int v6), (0, .ref (h 134)), (1, .int x1), (2, .int x2), (3, .int x3)]) hx hb dX5_lasts_53 hl (k := 4) rfl (by rw [ev6]; rfl) (by decide) rfl (fun ls hl => ?_)
        refine lv_goto (tgt := 32) hx hb dX5_lasts_56 (by decide) ?_
        exact ih _ _ _ _ _ _ _ _ hf hz (lv_sub hl [1, 2, 3, 4, 0] rfl)
      · have hf := ite_f hf c5
        refine lv_iload hx hb dX5_lasts_50 (lv_at hl 4 rfl) ?_
        exact hR _ _ _ _ _ _ (Option.some.inj hf) hz dX5_lasts_52
set_option maxHeartbeats 4000000 in
set_option maxRecDepth 100000 in
theorem w5_lasts_b0 {res : Int32 × Sg} (C : Cx p m c cX5_lasts 5 s args RX5 D (tyL cI cZ cB)) (hR : EndI p l e rm5_lasts s m args below meth c Q D (wX cI cZ cB h) A cX5_lasts res) : ∀ (x1 : Int32) (x2 : Int32) (x3 : Int32) (g : Sg) (H : Heap) (locs : List Loc) (ls : Array Slot), f5_lasts x1 x2 x3 g = some res → Zs D (wX cI cZ cB h) A s.heap H locs g → lv_has ls 5 [(0, .ref (h 134)), (1, .int x1), (2, .int x2), (3, .int x3)] → W p l e rm5_lasts s m args below meth c H locs 0 0 Q (F0 m 0 ls []) := by
  have hx := C.1.1
  have hb := C.1.2.1
  intro x1 x2 x3 g H locs ls hf hz hl
  unfold f5_lasts at hf
  refine lv_iload_n hx hb dX5_lasts_0 rfl (lv_at hl 1 rfl) ?_
  refine lv_iconst (v := (1 : Int32)) hx hb dX5_lasts_1 (by decide) ?_
  refine lv_icmp_lt (tgt := 27) hx hb dX5_lasts_2 (by decide) (fun c7 => ?_) (fun c7 => ?_)
  · have hf := ite_t hf c7
    refine lv_iconst (v := (-1 : Int32)) hx hb dX5_lasts_27 (by decide) ?_
    exact hR _ _ _ _ _ _ (Option.some.inj hf) hz dX5_lasts_28
  · have hf := ite_f hf c7
    refine lv_iload_n hx hb dX5_lasts_5 rfl (lv_at hl 1 rfl) ?_
    refine lv_iconst (v := (4 : Int32)) hx hb dX5_lasts_6 (by decide) ?_
    refine lv_icmp_gt (tgt := 27) hx hb dX5_lasts_7 (by decide) (fun c8 => ?_) (fun c8 => ?_)
    · have hf := ite_t hf c8
      refine lv_iconst (v := (-1 : Int32)) hx hb dX5_lasts_27 (by decide) ?_
      exact hR _ _ _ _ _ _ (Option.some.inj hf) hz dX5_lasts_28
    · have hf := ite_f hf c8
      refine lv_iload_n hx hb dX5_lasts_10 rfl (lv_at hl 2 rfl) ?_
      refine lv_iconst (v := (1 : Int32)) hx hb dX5_lasts_11 (by decide) ?_
      refine lv_icmp_lt (tgt := 27) hx hb dX5_lasts_12 (by decide) (fun c9 => ?_) (fun c9 => ?_)
      · have hf := ite_t hf c9
        refine lv_iconst (v := (-1 : Int32)) hx hb dX5_lasts_27 (by decide) ?_
        exact hR _ _ _ _ _ _ (Option.some.inj hf) hz dX5_lasts_28
      · have hf := ite_f hf c9
        refine lv_iload_n hx hb dX5_lasts_15 rfl (lv_at hl 2 rfl) ?_
        refine lv_iconst (v := (4 : Int32)) hx hb dX5_lasts_16 (by decide) ?_
        refine lv_icmp_gt (tgt := 27) hx hb dX5_lasts_17 (by decide) (fun c10 => ?_) (fun c10 => ?_)
        · have hf := ite_t hf c10
          refine lv_iconst (v := (-1 : Int32)) hx hb dX5_lasts_27 (by decide) ?_
          exact hR _ _ _ _ _ _ (Option.some.inj hf) hz dX5_lasts_28
        · have hf := ite_f hf c10
          refine lv_iload_n hx hb dX5_lasts_20 rfl (lv_at hl 3 rfl) ?_
          obtain ⟨r13, g12, hc11, hf⟩ := bd2_elim hf
          refine z_SI (As := [.int x3]) (rest := []) C (c5_isToldYear hc11) lk_RX5_199 ⟨rfl, rfl, Nat.le_of_ble_eq_true rfl, Nat.le_of_ble_eq_true rfl⟩ ⟨Nat.zero_le _, Nat.zero_le _⟩ rfl (Nat.le_of_ble_eq_true rfl) rfl hl.1 dX5_lasts_21 hz (fun H locs hz => ?_)
          refine lv_if_ne (tgt := 29) hx hb dX5_lasts_24 (by decide) (fun c14 => ?_) (fun c14 => ?_)
          · have hf := ite_f hf c14
            refine lv_iconst (v := (5 : Int32)) hx hb dX5_lasts_29 (by decide) ?_
            refine lv_istore (lv' := [(4, .int (5 : Int32)), (0, .ref (h 134)), (1, .int x1), (2, .int x2), (3, .int x3)]) hx hb dX5_lasts_30 hl (by decide) rfl (fun ls hl => ?_)
            exact w5_lasts_b32 C hR 1000 _ _ _ _ _ _ _ _ hf hz (lv_sub hl [1, 2, 3, 4, 0] rfl)
          · have hf := ite_t hf c14
            refine lv_iconst (v := (-1 : Int32)) hx hb dX5_lasts_27 (by decide) ?_
            exact hR _ _ _ _ _ _ (Option.some.inj hf) hz dX5_lasts_28
set_option maxHeartbeats 4000000 in
set_option maxRecDepth 100000 in
theorem c5_lasts {l : Launch} {D : va_G} {cI cZ cB : ClassId} {h : Nat → Nat} {x1 : Int32} {x2 : Int32} {x3 : Int32} {g : Sg} {r : Int32} {g1 : Sg} (hf : f5_lasts x1 x2 x3 g = some (r, g1)) : KI l D (tyL cI cZ cB) (wX cI cZ cB h) yX5_lasts cX5_lasts 5 (some .int) rm5_lasts [.ref (h 134), .int x1, .int x2, .int x3] g r g1 := by
  refine KI_mk (own := RX5) (by decide +kernel) rfl (Nat.le_of_ble_eq_true rfl) ?_
  intro p e s m below meth c A Q ls C hR hz hl
  have hl : lv_has ls 5 [(0, .ref (h 134)), (1, .int x1), (2, .int x2), (3, .int x3)] := hl
  exact w5_lasts_b0 C hR _ _ _ _ _ _ _ hf hz hl
abbrev rm5_duty : Room := { frames := 1, cells := 0, slots := 0, locals := 21 }
set_option maxHeartbeats 4000000 in
set_option maxRecDepth 100000 in
theorem w5_duty_b33 {res : Int32 × Sg} (C : Cx p m c cX5_duty 5 s args RX5 D (tyL cI cZ cB)) (hR : EndI p l e rm5_duty s m args below meth c Q D (wX cI cZ cB h) A cX5_duty res) : ∀ n : Nat, ∀ (x2 : Int32) (x3 : Int32) (x4 : Int32) (g : Sg) (H : Heap) (locs : List Loc) (ls : Array Slot), f5_duty_b33 n x2 x3 x4 g = some res → Zs D (wX cI cZ cB h) A s.heap H locs g → lv_has ls 5 [(0, .ref (h 134)), (2, .int x2), (3, .int x3), (4, .int x4)] → W p l e rm5_duty s m args below meth c H locs 0 0 Q (F0 m 33 ls []) := by
  have hx := C.1.1
  have hb := C.1.2.1
  intro n
  induction n with
  | zero =>
    intro x2 x3 x4 g H locs ls hf hz hl
    cases hf
  | succ n ih =>
    intro x2 x3 x4 g H locs ls hf hz hl
    rw [f5_duty_b33] at hf
    refine lv_iload hx hb dX5_duty_33 (lv_at hl 3 rfl) ?_
    refine lv_bipush (v := (6 : Int32)) hx hb dX5_duty_35 (by decide) ?_
    refine lv_icmp_ge (tgt := 90) hx hb dX5_duty_37 (by decide) (fun c1 => ?_) (fun c1 => ?_)
    · have hf := ite_t hf c1
      refine lv_bipush (v := (-9 : Int32)) hx hb dX5_duty_90 (by decide) ?_
      exact hR _ _ _ _ _ _ (Option.some.inj hf) hz dX5_duty_92
    · have hf := ite_f hf c1
      refine lv_aload_n hx hb dX5_duty_40 rfl (lv_at hl 0 rfl) ?_
      refine g_RX5_19_moss C hz dX5_duty_41 ?_
      refine lv_iload_n hx hb dX5_duty_44 rfl (lv_at hl 2 rfl) ?_
      obtain ⟨r4, g3, hc2, hf⟩ := bd2_elim hf
      refine z_VI (As := [.int x3]) (rest := []) C (c4_hasPerson hc2) lk_RX5_91 ⟨rfl, rfl, Nat.le_of_ble_eq_true rfl, Nat.le_of_ble_eq_true rfl⟩ ⟨Nat.zero_le _, Nat.zero_le _⟩ o_told rfl rfl (Nat.le_of_ble_eq_true rfl) rfl hl.1 dX5_duty_45 hz (fun H locs hz => ?_)
      refine lv_if_eq (tgt := 90) hx hb dX5_duty_48 (by decide) (fun c5 => ?_) (fun c5 => ?_)
      · have hf := ite_t hf c5
        refine lv_bipush (v := (-9 : Int32)) hx hb dX5_duty_90 (by decide) ?_
        exact hR _ _ _ _ _ _ (Option.some.inj hf) hz dX5_duty_92
      · have hf := ite_f hf c5
        refine lv_aload_n hx hb dX5_duty_51 rfl (lv_at hl 0 rfl) ?_
        refine g_RX5_19_moss C hz dX5_duty_52 ?_
        refine g_RX5_94_told C hz dX5_duty_55 ?_
        refine lv_iload_n hx hb dX5_duty_58 rfl (lv_at hl 2 rfl) ?_
        obtain ⟨c6, hf⟩ := ix_elim hf
        refine z_iald C hz a_told_dies c6 dX5_duty_59 ?_
        refine lv_aload_n hx hb dX5_duty_60 rfl (lv_at hl 0 rfl) ?_
        refine g_RX5_26_moss C hz dX5_duty_61 ?_
        refine g_RX5_150_bog0 C hz dX5_duty_64 ?_
        refine lv_iload_n hx hb dX5_duty_67 rfl (lv_at hl 1 rfl) ?_
        refine lv_iadd hx hb dX5_duty_68 ?_
        refine lv_icmp_le (tgt := 74) hx hb dX5_duty_69 (by decide) (fun c7 => ?_) (fun c7 => ?_)
        · have hf := ite_t hf c7
          refine lv_aload_n hx hb dX5_duty_74 rfl (lv_at hl 0 rfl) ?_
          refine g_RX5_19_moss C hz dX5_duty_75 ?_
          refine g_RX5_97_told C hz dX5_duty_78 ?_
          refine lv_iload_n hx hb dX5_duty_81 rfl (lv_at hl 2 rfl) ?_
          obtain ⟨c8, hf⟩ := ix_elim hf
          refine z_iald C hz a_told_heir c8 dX5_duty_82 ?_
          obtain ⟨v9, ev9, hf⟩ := nx_elim hf
          refine z_nm ev9 ?_
          refine lv_istore_n (lv' := [(3, .int v9), (0, .ref (h 134)), (2, .int x2), (4, .int x4)]) hx hb dX5_duty_83 rfl hl (by decide) rfl (fun ls hl => ?_)
          obtain ⟨v10, ev10, hf⟩ := nx_elim hf
          refine lv_iinc (v := v10) (lv' := [(4, .int v10), (3, .int v9), (0, .ref (h 134)), (2, .int x2)]) hx hb dX5_duty_84 hl (k := 3) rfl (by rw [ev10]; rfl) (by decide) rfl (fun ls hl => ?_)
          refine lv_goto (tgt := 33) hx hb dX5_duty_87 (by decide) ?_
          exact ih _ _ _ _ _ _ _ hf hz (lv_sub hl [2, 3, 1, 0] rfl)
        · have hf := ite_f hf c7
          refine lv_iload_n hx hb dX5_duty_72 rfl (lv_at hl 2 rfl) ?_
          exact hR _ _ _ _ _ _ (Option.some.inj hf) hz dX5_duty_73
set_option maxHeartbeats 4000000 in
set_option maxRecDepth 100000 in
theorem w5_duty_b0 {res : Int32 × Sg} (C : Cx p m c cX5_duty 5 s args RX5 D (tyL cI cZ cB)) (hR : EndI p l e rm5_duty s m args below meth c Q D (wX cI cZ cB h) A cX5_duty res) : ∀ (x1 : Int32) (x2 : Int32) (g : Sg) (H : Heap) (locs : List Loc) (ls : Array Slot), f5_duty x1 x2 g = some res → Zs D (wX cI cZ cB h) A s.heap H locs g → lv_has ls 5 [(0, .ref (h 134)), (1, .int x1), (2, .int x2)] → W p l e rm5_duty s m args below meth c H locs 0 0 Q (F0 m 0 ls []) := by
  have hx := C.1.1
  have hb := C.1.2.1
  intro x1 x2 g H locs ls hf hz hl
  unfold f5_duty at hf
  refine lv_aload_n hx hb dX5_duty_0 rfl (lv_at hl 0 rfl) ?_
  refine g_RX5_19_moss C hz dX5_duty_1 ?_
  refine lv_iload_n hx hb dX5_duty_4 rfl (lv_at hl 1 rfl) ?_
  obtain ⟨r13, g12, hc11, hf⟩ := bd2_elim hf
  refine z_VI (As := [.int x1]) (rest := []) C (c4_hasPromise hc11) lk_RX5_100 ⟨rfl, rfl, Nat.le_of_ble_eq_true rfl, Nat.le_of_ble_eq_true rfl⟩ ⟨Nat.zero_le _, Nat.zero_le _⟩ o_told rfl rfl (Nat.le_of_ble_eq_true rfl) rfl hl.1 dX5_duty_5 hz (fun H locs hz => ?_)
  refine lv_if_eq (tgt := 18) hx hb dX5_duty_8 (by decide) (fun c14 => ?_) (fun c14 => ?_)
  · have hf := ite_t hf c14
    refine lv_iconst (v := (-1 : Int32)) hx hb dX5_duty_18 (by decide) ?_
    exact hR _ _ _ _ _ _ (Option.some.inj hf) hz dX5_duty_19
  · have hf := ite_f hf c14
    refine lv_iload_n hx hb dX5_duty_11 rfl (lv_at hl 2 rfl) ?_
    obtain ⟨r17, g16, hc15, hf⟩ := bd2_elim hf
    refine z_SI (As := [.int x2]) (rest := []) C (c5_isToldYear hc15) lk_RX5_199 ⟨rfl, rfl, Nat.le_of_ble_eq_true rfl, Nat.le_of_ble_eq_true rfl⟩ ⟨Nat.zero_le _, Nat.zero_le _⟩ rfl (Nat.le_of_ble_eq_true rfl) rfl hl.1 dX5_duty_12 hz (fun H locs hz => ?_)
    refine lv_if_ne (tgt := 20) hx hb dX5_duty_15 (by decide) (fun c18 => ?_) (fun c18 => ?_)
    · have hf := ite_f hf c18
      refine lv_aload_n hx hb dX5_duty_20 rfl (lv_at hl 0 rfl) ?_
      refine g_RX5_19_moss C hz dX5_duty_21 ?_
      refine g_RX5_103_told C hz dX5_duty_24 ?_
      refine lv_iload_n hx hb dX5_duty_27 rfl (lv_at hl 1 rfl) ?_
      obtain ⟨c19, hf⟩ := ix_elim hf
      refine z_iald C hz a_told_who c19 dX5_duty_28 ?_
      obtain ⟨v20, ev20, hf⟩ := nx_elim hf
      refine z_nm ev20 ?_
      refine lv_istore_n (lv' := [(3, .int v20), (0, .ref (h 134)), (1, .int x1), (2, .int x2)]) hx hb dX5_duty_29 rfl hl (by decide) rfl (fun ls hl => ?_)
      refine lv_iconst (v := (0 : Int32)) hx hb dX5_duty_30 (by decide) ?_
      refine lv_istore (lv' := [(4, .int (0 : Int32)), (3, .int v20), (0, .ref (h 134)), (1, .int x1), (2, .int x2)]) hx hb dX5_duty_31 hl (by decide) rfl (fun ls hl => ?_)
      exact w5_duty_b33 C hR 1000 _ _ _ _ _ _ _ hf hz (lv_sub hl [2, 4, 1, 0] rfl)
    · have hf := ite_t hf c18
      refine lv_iconst (v := (-1 : Int32)) hx hb dX5_duty_18 (by decide) ?_
      exact hR _ _ _ _ _ _ (Option.some.inj hf) hz dX5_duty_19
set_option maxHeartbeats 4000000 in
set_option maxRecDepth 100000 in
theorem c5_duty {l : Launch} {D : va_G} {cI cZ cB : ClassId} {h : Nat → Nat} {x1 : Int32} {x2 : Int32} {g : Sg} {r : Int32} {g1 : Sg} (hf : f5_duty x1 x2 g = some (r, g1)) : KI l D (tyL cI cZ cB) (wX cI cZ cB h) yX5_duty cX5_duty 5 (some .int) rm5_duty [.ref (h 134), .int x1, .int x2] g r g1 := by
  refine KI_mk (own := RX5) (by decide +kernel) rfl (Nat.le_of_ble_eq_true rfl) ?_
  intro p e s m below meth c A Q ls C hR hz hl
  have hl : lv_has ls 5 [(0, .ref (h 134)), (1, .int x1), (2, .int x2)] := hl
  exact w5_duty_b0 C hR _ _ _ _ _ _ hf hz hl
abbrev rm5_sees : Room := { frames := 0, cells := 0, slots := 0, locals := 0 }
set_option maxHeartbeats 4000000 in
set_option maxRecDepth 100000 in
theorem w5_sees_b0 {res : Int32 × Sg} (C : Cx p m c cX5_sees 2 s args RX5 D (tyL cI cZ cB)) (hR : EndI p l e rm5_sees s m args below meth c Q D (wX cI cZ cB h) A cX5_sees res) : ∀ (x1 : Int32) (g : Sg) (H : Heap) (locs : List Loc) (ls : Array Slot), f5_sees x1 g = some res → Zs D (wX cI cZ cB h) A s.heap H locs g → lv_has ls 2 [(0, .ref (h 134)), (1, .int x1)] → W p l e rm5_sees s m args below meth c H locs 0 0 Q (F0 m 0 ls []) := by
  have hx := C.1.1
  have hb := C.1.2.1
  intro x1 g H locs ls hf hz hl
  unfold f5_sees at hf
  refine lv_iload_n hx hb dX5_sees_0 rfl (lv_at hl 1 rfl) ?_
  refine lv_if_lt (tgt := 10) hx hb dX5_sees_1 (by decide) (fun c1 => ?_) (fun c1 => ?_)
  · have hf := ite_t hf c1
    refine lv_iconst (v := (-1 : Int32)) hx hb dX5_sees_10 (by decide) ?_
    exact hR _ _ _ _ _ _ (Option.some.inj hf) hz dX5_sees_11
  · have hf := ite_f hf c1
    refine lv_iload_n hx hb dX5_sees_4 rfl (lv_at hl 1 rfl) ?_
    refine lv_bipush (v := (9 : Int32)) hx hb dX5_sees_5 (by decide) ?_
    refine lv_icmp_le (tgt := 12) hx hb dX5_sees_7 (by decide) (fun c2 => ?_) (fun c2 => ?_)
    · have hf := ite_t hf c2
      refine lv_aload_n hx hb dX5_sees_12 rfl (lv_at hl 0 rfl) ?_
      refine g_RX5_55_moss C hz dX5_sees_13 ?_
      refine lv_iconst (v := (4 : Int32)) hx hb dX5_sees_16 (by decide) ?_
      refine lv_icmp_lt (tgt := 23) hx hb dX5_sees_17 (by decide) (fun c3 => ?_) (fun c3 => ?_)
      · have hf := ite_t hf c3
        refine lv_aload_n hx hb dX5_sees_23 rfl (lv_at hl 0 rfl) ?_
        refine g_RX5_45_moss C hz dX5_sees_24 ?_
        refine lv_aload_n hx hb dX5_sees_27 rfl (lv_at hl 0 rfl) ?_
        refine g_RX5_55_moss C hz dX5_sees_28 ?_
        refine lv_iload_n hx hb dX5_sees_31 rfl (lv_at hl 1 rfl) ?_
        obtain ⟨c4, hf⟩ := ix_elim hf
        obtain ⟨g5, eg5, hf⟩ := nx_elim hf
        refine z_iast C hz a_x_seen c4 eg5 dX5_sees_32 (fun H locs hz => ?_)
        refine lv_aload_n hx hb dX5_sees_33 rfl (lv_at hl 0 rfl) ?_
        refine lv_dup hx hb dX5_sees_34 rfl ?_
        refine g_RX5_55_moss C hz dX5_sees_35 ?_
        refine lv_iconst (v := (1 : Int32)) hx hb dX5_sees_38 (by decide) ?_
        refine lv_iadd hx hb dX5_sees_39 ?_
        obtain ⟨g6, eg6, hf⟩ := nx_elim hf
        refine p_RX5_55_moss C hz eg6 dX5_sees_40 (fun H locs hz => ?_)
        refine lv_aload_n hx hb dX5_sees_43 rfl (lv_at hl 0 rfl) ?_
        refine g_RX5_55_moss C hz dX5_sees_44 ?_
        exact hR _ _ _ _ _ _ (Option.some.inj hf) hz dX5_sees_47
      · have hf := ite_f hf c3
        refine lv_bipush (v := (-3 : Int32)) hx hb dX5_sees_20 (by decide) ?_
        exact hR _ _ _ _ _ _ (Option.some.inj hf) hz dX5_sees_22
    · have hf := ite_f hf c2
      refine lv_iconst (v := (-1 : Int32)) hx hb dX5_sees_10 (by decide) ?_
      exact hR _ _ _ _ _ _ (Option.some.inj hf) hz dX5_sees_11
set_option maxHeartbeats 4000000 in
set_option maxRecDepth 100000 in
theorem c5_sees {l : Launch} {D : va_G} {cI cZ cB : ClassId} {h : Nat → Nat} {x1 : Int32} {g : Sg} {r : Int32} {g1 : Sg} (hf : f5_sees x1 g = some (r, g1)) : KI l D (tyL cI cZ cB) (wX cI cZ cB h) yX5_sees cX5_sees 2 (some .int) rm5_sees [.ref (h 134), .int x1] g r g1 := by
  refine KI_mk (own := RX5) (by decide +kernel) rfl (Nat.le_of_ble_eq_true rfl) ?_
  intro p e s m below meth c A Q ls C hR hz hl
  have hl : lv_has ls 2 [(0, .ref (h 134)), (1, .int x1)] := hl
  exact w5_sees_b0 C hR _ _ _ _ _ hf hz hl
abbrev rm5_forget : Room := { frames := 0, cells := 0, slots := 0, locals := 0 }
set_option maxHeartbeats 4000000 in
set_option maxRecDepth 100000 in
theorem w5_forget_b0 {res : Int32 × Sg} (C : Cx p m c cX5_forget 2 s args RX5 D (tyL cI cZ cB)) (hR : EndI p l e rm5_forget s m args below meth c Q D (wX cI cZ cB h) A cX5_forget res) : ∀ (g : Sg) (H : Heap) (locs : List Loc) (ls : Array Slot), f5_forget g = some res → Zs D (wX cI cZ cB h) A s.heap H locs g → lv_has ls 2 [(0, .ref (h 134))] → W p l e rm5_forget s m args below meth c H locs 0 0 Q (F0 m 0 ls []) := by
  have hx := C.1.1
  have hb := C.1.2.1
  intro g H locs ls hf hz hl
  unfold f5_forget at hf
  refine lv_aload_n hx hb dX5_forget_0 rfl (lv_at hl 0 rfl) ?_
  refine g_RX5_55_moss C hz dX5_forget_1 ?_
  obtain ⟨v1, ev1, hf⟩ := nx_elim hf
  refine z_nm ev1 ?_
  refine lv_istore_n (lv' := [(1, .int v1), (0, .ref (h 134))]) hx hb dX5_forget_4 rfl hl (by decide) rfl (fun ls hl => ?_)
  refine lv_aload_n hx hb dX5_forget_5 rfl (lv_at hl 1 rfl) ?_
  refine lv_iconst (v := (0 : Int32)) hx hb dX5_forget_6 (by decide) ?_
  obtain ⟨g2, eg2, hf⟩ := nx_elim hf
  refine p_RX5_55_moss C hz eg2 dX5_forget_7 (fun H locs hz => ?_)
  refine lv_iload_n hx hb dX5_forget_10 rfl (lv_at hl 0 rfl) ?_
  exact hR _ _ _ _ _ _ (Option.some.inj hf) hz dX5_forget_11
set_option maxHeartbeats 4000000 in
set_option maxRecDepth 100000 in
theorem c5_forget {l : Launch} {D : va_G} {cI cZ cB : ClassId} {h : Nat → Nat} {g : Sg} {r : Int32} {g1 : Sg} (hf : f5_forget g = some (r, g1)) : KI l D (tyL cI cZ cB) (wX cI cZ cB h) yX5_forget cX5_forget 2 (some .int) rm5_forget [.ref (h 134)] g r g1 := by
  refine KI_mk (own := RX5) (by decide +kernel) rfl (Nat.le_of_ble_eq_true rfl) ?_
  intro p e s m below meth c A Q ls C hR hz hl
  have hl : lv_has ls 2 [(0, .ref (h 134))] := hl
  exact w5_forget_b0 C hR _ _ _ _ hf hz hl
abbrev rm5_beginsAsSeen : Room := { frames := 3, cells := 0, slots := 0, locals := 68 }
set_option maxHeartbeats 4000000 in
set_option maxRecDepth 100000 in
theorem w5_beginsAsSeen_b26 {res : Int32 × Sg} (C : Cx p m c cX5_beginsAsSeen 3 s args RX5 D (tyL cI cZ cB)) (hR : EndZ p l e rm5_beginsAsSeen s m args below meth c Q D (wX cI cZ cB h) A cX5_beginsAsSeen res) : ∀ n : Nat, ∀ (x1 : Int32) (x2 : Int32) (g : Sg) (H : Heap) (locs : List Loc) (ls : Array Slot), f5_beginsAsSeen_b26 n x1 x2 g = some res → Zs D (wX cI cZ cB h) A s.heap H locs g → lv_has ls 3 [(0, .ref (h 134)), (1, .int x1), (2, .int x2)] → W p l e rm5_beginsAsSeen s m args below meth c H locs 0 0 Q (F0 m 26 ls []) := by
  have hx := C.1.1
  have hb := C.1.2.1
  intro n
  induction n with
  | zero =>
    intro x1 x2 g H locs ls hf hz hl
    cases hf
  | succ n ih =>
    intro x1 x2 g H locs ls hf hz hl
    rw [f5_beginsAsSeen_b26] at hf
    refine lv_iload_n hx hb dX5_beginsAsSeen_26 rfl (lv_at hl 2 rfl) ?_
    refine lv_aload_n hx hb dX5_beginsAsSeen_27 rfl (lv_at hl 0 rfl) ?_
    refine g_RX5_55_moss C hz dX5_beginsAsSeen_28 ?_
    refine lv_icmp_ge (tgt := 65) hx hb dX5_beginsAsSeen_31 (by decide) (fun c1 => ?_) (fun c1 => ?_)
    · have hf := ite_t hf c1
      refine lv_iconst (v := (1 : Int32)) hx hb dX5_beginsAsSeen_65 (by decide) ?_
      exact hR _ _ _ _ _ _ hf hz dX5_beginsAsSeen_66
    · have hf := ite_f hf c1
      refine lv_iload_n hx hb dX5_beginsAsSeen_34 rfl (lv_at hl 2 rfl) ?_
      refine lv_iconst (v := (4 : Int32)) hx hb dX5_beginsAsSeen_35 (by decide) ?_
      refine lv_icmp_ge (tgt := 65) hx hb dX5_beginsAsSeen_36 (by decide) (fun c2 => ?_) (fun c2 => ?_)
      · have hf := ite_t hf c2
        refine lv_iconst (v := (1 : Int32)) hx hb dX5_beginsAsSeen_65 (by decide) ?_
        exact hR _ _ _ _ _ _ hf hz dX5_beginsAsSeen_66
      · have hf := ite_f hf c2
        refine lv_aload_n hx hb dX5_beginsAsSeen_39 rfl (lv_at hl 0 rfl) ?_
        refine g_RX5_19_moss C hz dX5_beginsAsSeen_40 ?_
        refine lv_iload_n hx hb dX5_beginsAsSeen_43 rfl (lv_at hl 1 rfl) ?_
        refine lv_iload_n hx hb dX5_beginsAsSeen_44 rfl (lv_at hl 2 rfl) ?_
        obtain ⟨r5, g4, hc3, hf⟩ := bd2_elim hf
        refine z_VI (As := [.int x1, .int x2]) (rest := []) C (c4_wordAt hc3) lk_RX5_131 ⟨rfl, rfl, Nat.le_of_ble_eq_true rfl, Nat.le_of_ble_eq_true rfl⟩ ⟨Nat.zero_le _, Nat.zero_le _⟩ o_told rfl rfl (Nat.le_of_ble_eq_true rfl) rfl hl.1 dX5_beginsAsSeen_45 hz (fun H locs hz => ?_)
        refine lv_aload_n hx hb dX5_beginsAsSeen_48 rfl (lv_at hl 0 rfl) ?_
        refine g_RX5_45_moss C hz dX5_beginsAsSeen_49 ?_
        refine lv_iload_n hx hb dX5_beginsAsSeen_52 rfl (lv_at hl 2 rfl) ?_
        obtain ⟨c6, hf⟩ := ix_elim hf
        refine z_iald C hz a_x_seen c6 dX5_beginsAsSeen_53 ?_
        refine lv_icmp_eq (tgt := 59) hx hb dX5_beginsAsSeen_54 (by decide) (fun c7 => ?_) (fun c7 => ?_)
        · have hf := ite_t hf c7
          obtain ⟨v8, ev8, hf⟩ := nx_elim hf
          refine lv_iinc (v := v8) (lv' := [(2, .int v8), (0, .ref (h 134)), (1, .int x1)]) hx hb dX5_beginsAsSeen_59 hl (k := 2) rfl (by rw [ev8]; rfl) (by decide) rfl (fun ls hl => ?_)
          refine lv_goto (tgt := 26) hx hb dX5_beginsAsSeen_62 (by decide) ?_
          exact ih _ _ _ _ _ _ hf hz (lv_sub hl [1, 2, 0] rfl)
        · have hf := ite_f hf c7
          refine lv_iconst (v := (0 : Int32)) hx hb dX5_beginsAsSeen_57 (by decide) ?_
          exact hR _ _ _ _ _ _ hf hz dX5_beginsAsSeen_58
set_option maxHeartbeats 4000000 in
set_option maxRecDepth 100000 in
theorem w5_beginsAsSeen_b0 {res : Int32 × Sg} (C : Cx p m c cX5_beginsAsSeen 3 s args RX5 D (tyL cI cZ cB)) (hR : EndZ p l e rm5_beginsAsSeen s m args below meth c Q D (wX cI cZ cB h) A cX5_beginsAsSeen res) : ∀ (x1 : Int32) (g : Sg) (H : Heap) (locs : List Loc) (ls : Array Slot), f5_beginsAsSeen x1 g = some res → Zs D (wX cI cZ cB h) A s.heap H locs g → lv_has ls 3 [(0, .ref (h 134)), (1, .int x1)] → W p l e rm5_beginsAsSeen s m args below meth c H locs 0 0 Q (F0 m 0 ls []) := by
  have hx := C.1.1
  have hb := C.1.2.1
  intro x1 g H locs ls hf hz hl
  unfold f5_beginsAsSeen at hf
  refine lv_aload_n hx hb dX5_beginsAsSeen_0 rfl (lv_at hl 0 rfl) ?_
  refine lv_iload_n hx hb dX5_beginsAsSeen_1 rfl (lv_at hl 1 rfl) ?_
  refine lv_iconst (v := (0 : Int32)) hx hb dX5_beginsAsSeen_2 (by decide) ?_
  obtain ⟨r11, g10, hc9, hf⟩ := bd2_elim hf
  refine z_VI (As := [.int x1, .int (0 : Int32)]) (rest := []) C (c5_isNow hc9) lk_RX5_190 ⟨rfl, rfl, Nat.le_of_ble_eq_true rfl, Nat.le_of_ble_eq_true rfl⟩ ⟨Nat.zero_le _, Nat.zero_le _⟩ o_moss rfl rfl (Nat.le_of_ble_eq_true rfl) rfl hl.1 dX5_beginsAsSeen_3 hz (fun H locs hz => ?_)
  refine lv_if_eq (tgt := 22) hx hb dX5_beginsAsSeen_6 (by decide) (fun c12 => ?_) (fun c12 => ?_)
  · have hf := ite_t hf c12
    refine lv_iconst (v := (0 : Int32)) hx hb dX5_beginsAsSeen_22 (by decide) ?_
    exact hR _ _ _ _ _ _ hf hz dX5_beginsAsSeen_23
  · have hf := ite_f hf c12
    refine lv_aload_n hx hb dX5_beginsAsSeen_9 rfl (lv_at hl 0 rfl) ?_
    refine lv_iload_n hx hb dX5_beginsAsSeen_10 rfl (lv_at hl 1 rfl) ?_
    refine lv_iconst (v := (0 : Int32)) hx hb dX5_beginsAsSeen_11 (by decide) ?_
    obtain ⟨r15, g14, hc13, hf⟩ := bd2_elim hf
    refine z_VI (As := [.int x1, .int (0 : Int32)]) (rest := []) C (c5_leftIn hc13) lk_RX5_127 ⟨rfl, rfl, Nat.le_of_ble_eq_true rfl, Nat.le_of_ble_eq_true rfl⟩ ⟨Nat.zero_le _, Nat.zero_le _⟩ o_moss rfl rfl (Nat.le_of_ble_eq_true rfl) rfl hl.1 dX5_beginsAsSeen_12 hz (fun H locs hz => ?_)
    refine lv_aload_n hx hb dX5_beginsAsSeen_15 rfl (lv_at hl 0 rfl) ?_
    refine g_RX5_55_moss C hz dX5_beginsAsSeen_16 ?_
    refine lv_icmp_ge (tgt := 24) hx hb dX5_beginsAsSeen_19 (by decide) (fun c16 => ?_) (fun c16 => ?_)
    · have hf := ite_t hf c16
      refine lv_iconst (v := (0 : Int32)) hx hb dX5_beginsAsSeen_24 (by decide) ?_
      refine lv_istore_n (lv' := [(2, .int (0 : Int32)), (0, .ref (h 134)), (1, .int x1)]) hx hb dX5_beginsAsSeen_25 rfl hl (by decide) rfl (fun ls hl => ?_)
      exact w5_beginsAsSeen_b26 C hR 1000 _ _ _ _ _ _ hf hz (lv_sub hl [1, 2, 0] rfl)
    · have hf := ite_f hf c16
      refine lv_iconst (v := (0 : Int32)) hx hb dX5_beginsAsSeen_22 (by decide) ?_
      exact hR _ _ _ _ _ _ hf hz dX5_beginsAsSeen_23
set_option maxHeartbeats 4000000 in
set_option maxRecDepth 100000 in
theorem c5_beginsAsSeen {l : Launch} {D : va_G} {cI cZ cB : ClassId} {h : Nat → Nat} {x1 : Int32} {g : Sg} {r : Int32} {g1 : Sg} (hf : f5_beginsAsSeen x1 g = some (r, g1)) : KI l D (tyL cI cZ cB) (wX cI cZ cB h) yX5_beginsAsSeen cX5_beginsAsSeen 3 (some .boolean) rm5_beginsAsSeen [.ref (h 134), .int x1] g r g1 := by
  refine KZ_mk (own := RX5) (by decide +kernel) rfl (Nat.le_of_ble_eq_true rfl) ?_
  intro p e s m below meth c A Q ls C hR hz hl
  have hl : lv_has ls 3 [(0, .ref (h 134)), (1, .int x1)] := hl
  exact w5_beginsAsSeen_b0 C hR _ _ _ _ _ hf hz hl
abbrev rm5_fits : Room := { frames := 4, cells := 0, slots := 0, locals := 90 }
set_option maxHeartbeats 4000000 in
set_option maxRecDepth 100000 in
theorem w5_fits_b24 {res : Int32 × Sg} {k4 : Int32 → Int32 → Sg → Option (Int32 × Sg)} (C : Cx p m c cX5_fits 3 s args RX5 D (tyL cI cZ cB)) (hR : EndI p l e rm5_fits s m args below meth c Q D (wX cI cZ cB h) A cX5_fits res) (hk4 : ∀ (x1 : Int32) (x2 : Int32) (g : Sg) (H : Heap) (locs : List Loc) (ls : Array Slot), k4 x1 x2 g = some res → Zs D (wX cI cZ cB h) A s.heap H locs g → lv_has ls 3 [(0, .ref (h 134)), (1, .int x1), (2, .int x2)] → W p l e rm5_fits s m args below meth c H locs 0 0 Q (F0 m 4 ls [])) : ∀ (x1 : Int32) (x2 : Int32) (g : Sg) (H : Heap) (locs : List Loc) (ls : Array Slot), f5_fits_b24 k4 x1 x2 g = some res → Zs D (wX cI cZ cB h) A s.heap H locs g → lv_has ls 3 [(0, .ref (h 134)), (1, .int x1), (2, .int x2)] → W p l e rm5_fits s m args below meth c H locs 0 0 Q (F0 m 24 ls []) := by
  have hx := C.1.1
  have hb := C.1.2.1
  intro x1 x2 g H locs ls hf hz hl
  unfold f5_fits_b24 at hf
  obtain ⟨v1, ev1, hf⟩ := nx_elim hf
  refine lv_iinc (v := v1) (lv' := [(2, .int v1), (0, .ref (h 134)), (1, .int x1)]) hx hb dX5_fits_24 hl (k := 2) rfl (by rw [ev1]; rfl) (by decide) rfl (fun ls hl => ?_)
  refine lv_goto (tgt := 4) hx hb dX5_fits_27 (by decide) ?_
  exact hk4 _ _ _ _ _ _ hf hz (lv_sub hl [1, 2, 0] rfl)
set_option maxHeartbeats 4000000 in
set_option maxRecDepth 100000 in
theorem w5_fits_b4 {res : Int32 × Sg} (C : Cx p m c cX5_fits 3 s args RX5 D (tyL cI cZ cB)) (hR : EndI p l e rm5_fits s m args below meth c Q D (wX cI cZ cB h) A cX5_fits res) : ∀ n : Nat, ∀ (x1 : Int32) (x2 : Int32) (g : Sg) (H : Heap) (locs : List Loc) (ls : Array Slot), f5_fits_b4 n x1 x2 g = some res → Zs D (wX cI cZ cB h) A s.heap H locs g → lv_has ls 3 [(0, .ref (h 134)), (1, .int x1), (2, .int x2)] → W p l e rm5_fits s m args below meth c H locs 0 0 Q (F0 m 4 ls []) := by
  have hx := C.1.1
  have hb := C.1.2.1
  intro n
  induction n with
  | zero =>
    intro x1 x2 g H locs ls hf hz hl
    cases hf
  | succ n ih =>
    intro x1 x2 g H locs ls hf hz hl
    rw [f5_fits_b4] at hf
    refine lv_iload_n hx hb dX5_fits_4 rfl (lv_at hl 2 rfl) ?_
    refine lv_bipush (v := (8 : Int32)) hx hb dX5_fits_5 (by decide) ?_
    refine lv_icmp_ge (tgt := 30) hx hb dX5_fits_7 (by decide) (fun c2 => ?_) (fun c2 => ?_)
    · have hf := ite_t hf c2
      refine lv_iload_n hx hb dX5_fits_30 rfl (lv_at hl 1 rfl) ?_
      exact hR _ _ _ _ _ _ (Option.some.inj hf) hz dX5_fits_31
    · have hf := ite_f hf c2
      refine lv_aload_n hx hb dX5_fits_10 rfl (lv_at hl 0 rfl) ?_
      refine lv_iload_n hx hb dX5_fits_11 rfl (lv_at hl 2 rfl) ?_
      obtain ⟨r5, g4, hc3, hf⟩ := bd2_elim hf
      refine z_VI (As := [.int x2]) (rest := []) C (c5_beginsAsSeen hc3) lk_RX5_206 ⟨rfl, rfl, Nat.le_of_ble_eq_true rfl, Nat.le_of_ble_eq_true rfl⟩ ⟨Nat.zero_le _, Nat.zero_le _⟩ o_moss rfl rfl (Nat.le_of_ble_eq_true rfl) rfl hl.1 dX5_fits_12 hz (fun H locs hz => ?_)
      refine lv_if_eq (tgt := 24) hx hb dX5_fits_15 (by decide) (fun c6 => ?_) (fun c6 => ?_)
      · have hf := ite_t hf c6
        exact w5_fits_b24 C hR ih _ _ _ _ _ _ hf hz (lv_sub hl [0, 1, 2] rfl)
      · have hf := ite_f hf c6
        refine lv_iload_n hx hb dX5_fits_18 rfl (lv_at hl 1 rfl) ?_
        refine lv_iconst (v := (1 : Int32)) hx hb dX5_fits_19 (by decide) ?_
        refine lv_iload_n hx hb dX5_fits_20 rfl (lv_at hl 2 rfl) ?_
        refine lv_ishl hx hb dX5_fits_21 ?_
        refine lv_ior hx hb dX5_fits_22 ?_
        obtain ⟨v7, ev7, hf⟩ := nx_elim hf
        refine z_nm ev7 ?_
        refine lv_istore_n (lv' := [(1, .int v7), (0, .ref (h 134)), (2, .int x2)]) hx hb dX5_fits_23 rfl hl (by decide) rfl (fun ls hl => ?_)
        exact w5_fits_b24 C hR ih _ _ _ _ _ _ hf hz (lv_sub hl [1, 0, 2] rfl)
set_option maxHeartbeats 4000000 in
set_option maxRecDepth 100000 in
theorem w5_fits_b0 {res : Int32 × Sg} (C : Cx p m c cX5_fits 3 s args RX5 D (tyL cI cZ cB)) (hR : EndI p l e rm5_fits s m args below meth c Q D (wX cI cZ cB h) A cX5_fits res) : ∀ (g : Sg) (H : Heap) (locs : List Loc) (ls : Array Slot), f5_fits g = some res → Zs D (wX cI cZ cB h) A s.heap H locs g → lv_has ls 3 [(0, .ref (h 134))] → W p l e rm5_fits s m args below meth c H locs 0 0 Q (F0 m 0 ls []) := by
  have hx := C.1.1
  have hb := C.1.2.1
  intro g H locs ls hf hz hl
  unfold f5_fits at hf
  refine lv_iconst (v := (0 : Int32)) hx hb dX5_fits_0 (by decide) ?_
  refine lv_istore_n (lv' := [(1, .int (0 : Int32)), (0, .ref (h 134))]) hx hb dX5_fits_1 rfl hl (by decide) rfl (fun ls hl => ?_)
  refine lv_iconst (v := (0 : Int32)) hx hb dX5_fits_2 (by decide) ?_
  refine lv_istore_n (lv' := [(2, .int (0 : Int32)), (1, .int (0 : Int32)), (0, .ref (h 134))]) hx hb dX5_fits_3 rfl hl (by decide) rfl (fun ls hl => ?_)
  exact w5_fits_b4 C hR 1000 _ _ _ _ _ _ hf hz (lv_sub hl [2, 1, 0] rfl)
set_option maxHeartbeats 4000000 in
set_option maxRecDepth 100000 in
theorem c5_fits {l : Launch} {D : va_G} {cI cZ cB : ClassId} {h : Nat → Nat} {g : Sg} {r : Int32} {g1 : Sg} (hf : f5_fits g = some (r, g1)) : KI l D (tyL cI cZ cB) (wX cI cZ cB h) yX5_fits cX5_fits 3 (some .int) rm5_fits [.ref (h 134)] g r g1 := by
  refine KI_mk (own := RX5) (by decide +kernel) rfl (Nat.le_of_ble_eq_true rfl) ?_
  intro p e s m below meth c A Q ls C hR hz hl
  have hl : lv_has ls 3 [(0, .ref (h 134))] := hl
  exact w5_fits_b0 C hR _ _ _ _ hf hz hl
abbrev rm5_likely : Room := { frames := 4, cells := 0, slots := 0, locals := 90 }
set_option maxHeartbeats 4000000 in
set_option maxRecDepth 100000 in
theorem w5_likely_b121 {res : Int32 × Sg} {k96 : Int32 → Int32 → Int32 → Sg → Option (Int32 × Sg)} (C : Cx p m c cX5_likely 4 s args RX5 D (tyL cI cZ cB)) (hR : EndI p l e rm5_likely s m args below meth c Q D (wX cI cZ cB h) A cX5_likely res) (hk96 : ∀ (x1 : Int32) (x2 : Int32) (x3 : Int32) (g : Sg) (H : Heap) (locs : List Loc) (ls : Array Slot), k96 x1 x2 x3 g = some res → Zs D (wX cI cZ cB h) A s.heap H locs g → lv_has ls 4 [(0, .ref (h 134)), (1, .int x1), (2, .int x2), (3, .int x3)] → W p l e rm5_likely s m args below meth c H locs 0 0 Q (F0 m 96 ls [])) : ∀ (x1 : Int32) (x2 : Int32) (x3 : Int32) (g : Sg) (H : Heap) (locs : List Loc) (ls : Array Slot), f5_likely_b121 k96 x1 x2 x3 g = some res → Zs D (wX cI cZ cB h) A s.heap H locs g → lv_has ls 4 [(0, .ref (h 134)), (1, .int x1), (2, .int x2), (3, .int x3)] → W p l e rm5_likely s m args below meth c H locs 0 0 Q (F0 m 121 ls []) := by
  have hx := C.1.1
  have hb := C.1.2.1
  intro x1 x2 x3 g H locs ls hf hz hl
  unfold f5_likely_b121 at hf
  obtain ⟨v1, ev1, hf⟩ := nx_elim hf
  refine lv_iinc (v := v1) (lv' := [(3, .int v1), (0, .ref (h 134)), (1, .int x1), (2, .int x2)]) hx hb dX5_likely_121 hl (k := 3) rfl (by rw [ev1]; rfl) (by decide) rfl (fun ls hl => ?_)
  refine lv_goto (tgt := 96) hx hb dX5_likely_124 (by decide) ?_
  exact hk96 _ _ _ _ _ _ _ hf hz (lv_sub hl [1, 2, 3, 0] rfl)
set_option maxHeartbeats 4000000 in
set_option maxRecDepth 100000 in
theorem w5_likely_b96 {res : Int32 × Sg} (C : Cx p m c cX5_likely 4 s args RX5 D (tyL cI cZ cB)) (hR : EndI p l e rm5_likely s m args below meth c Q D (wX cI cZ cB h) A cX5_likely res) : ∀ n : Nat, ∀ (x1 : Int32) (x2 : Int32) (x3 : Int32) (g : Sg) (H : Heap) (locs : List Loc) (ls : Array Slot), f5_likely_b96 n x1 x2 x3 g = some res → Zs D (wX cI cZ cB h) A s.heap H locs g → lv_has ls 4 [(0, .ref (h 134)), (1, .int x1), (2, .int x2), (3, .int x3)] → W p l e rm5_likely s m args below meth c H locs 0 0 Q (F0 m 96 ls []) := by
  have hx := C.1.1
  have hb := C.1.2.1
  intro n
  induction n with
  | zero =>
    intro x1 x2 x3 g H locs ls hf hz hl
    cases hf
  | succ n ih =>
    intro x1 x2 x3 g H locs ls hf hz hl
    rw [f5_likely_b96] at hf
    refine lv_iload_n hx hb dX5_likely_96 rfl (lv_at hl 3 rfl) ?_
    refine lv_bipush (v := (9 : Int32)) hx hb dX5_likely_97 (by decide) ?_
    refine lv_icmp_gt (tgt := 127) hx hb dX5_likely_99 (by decide) (fun c2 => ?_) (fun c2 => ?_)
    · have hf := ite_t hf c2
      refine lv_iload_n hx hb dX5_likely_127 rfl (lv_at hl 1 rfl) ?_
      exact hR _ _ _ _ _ _ (Option.some.inj hf) hz dX5_likely_128
    · have hf := ite_f hf c2
      refine lv_aload_n hx hb dX5_likely_102 rfl (lv_at hl 0 rfl) ?_
      refine g_RX5_52_moss C hz dX5_likely_103 ?_
      refine lv_iload_n hx hb dX5_likely_106 rfl (lv_at hl 3 rfl) ?_
      obtain ⟨c3, hf⟩ := ix_elim hf
      refine z_iald C hz a_x_wordVotes c3 dX5_likely_107 ?_
      refine lv_iload_n hx hb dX5_likely_108 rfl (lv_at hl 2 rfl) ?_
      refine lv_icmp_le (tgt := 121) hx hb dX5_likely_109 (by decide) (fun c4 => ?_) (fun c4 => ?_)
      · have hf := ite_t hf c4
        exact w5_likely_b121 C hR ih _ _ _ _ _ _ _ hf hz (lv_sub hl [0, 1, 2, 3] rfl)
      · have hf := ite_f hf c4
        refine lv_aload_n hx hb dX5_likely_112 rfl (lv_at hl 0 rfl) ?_
        refine g_RX5_52_moss C hz dX5_likely_113 ?_
        refine lv_iload_n hx hb dX5_likely_116 rfl (lv_at hl 3 rfl) ?_
        obtain ⟨c5, hf⟩ := ix_elim hf
        refine z_iald C hz a_x_wordVotes c5 dX5_likely_117 ?_
        obtain ⟨v6, ev6, hf⟩ := nx_elim hf
        refine z_nm ev6 ?_
        refine lv_istore_n (lv' := [(2, .int v6), (0, .ref (h 134)), (1, .int x1), (3, .int x3)]) hx hb dX5_likely_118 rfl hl (by decide) rfl (fun ls hl => ?_)
        refine lv_iload_n hx hb dX5_likely_119 rfl (lv_at hl 3 rfl) ?_
        refine lv_istore_n (lv' := [(1, .int x3), (2, .int v6), (0, .ref (h 134)), (3, .int x3)]) hx hb dX5_likely_120 rfl hl (by decide) rfl (fun ls hl => ?_)
        exact w5_likely_b121 C hR ih _ _ _ _ _ _ _ hf hz (lv_sub hl [2, 0, 1, 3] rfl)
set_option maxHeartbeats 4000000 in
set_option maxRecDepth 100000 in
theorem w5_likely_b83 {res : Int32 × Sg} {k23 : Int32 → Sg → Option (Int32 × Sg)} (C : Cx p m c cX5_likely 4 s args RX5 D (tyL cI cZ cB)) (hR : EndI p l e rm5_likely s m args below meth c Q D (wX cI cZ cB h) A cX5_likely res) (hk23 : ∀ (x1 : Int32) (g : Sg) (H : Heap) (locs : List Loc) (ls : Array Slot), k23 x1 g = some res → Zs D (wX cI cZ cB h) A s.heap H locs g → lv_has ls 4 [(0, .ref (h 134)), (1, .int x1)] → W p l e rm5_likely s m args below meth c H locs 0 0 Q (F0 m 23 ls [])) : ∀ (x1 : Int32) (g : Sg) (H : Heap) (locs : List Loc) (ls : Array Slot), f5_likely_b83 k23 x1 g = some res → Zs D (wX cI cZ cB h) A s.heap H locs g → lv_has ls 4 [(0, .ref (h 134)), (1, .int x1)] → W p l e rm5_likely s m args below meth c H locs 0 0 Q (F0 m 83 ls []) := by
  have hx := C.1.1
  have hb := C.1.2.1
  intro x1 g H locs ls hf hz hl
  unfold f5_likely_b83 at hf
  obtain ⟨v7, ev7, hf⟩ := nx_elim hf
  refine lv_iinc (v := v7) (lv' := [(1, .int v7), (0, .ref (h 134))]) hx hb dX5_likely_83 hl (k := 1) rfl (by rw [ev7]; rfl) (by decide) rfl (fun ls hl => ?_)
  refine lv_goto (tgt := 23) hx hb dX5_likely_86 (by decide) ?_
  exact hk23 _ _ _ _ _ hf hz (lv_sub hl [1, 0] rfl)
set_option maxHeartbeats 4000000 in
set_option maxRecDepth 100000 in
theorem w5_likely_b23 {res : Int32 × Sg} (C : Cx p m c cX5_likely 4 s args RX5 D (tyL cI cZ cB)) (hR : EndI p l e rm5_likely s m args below meth c Q D (wX cI cZ cB h) A cX5_likely res) : ∀ n : Nat, ∀ (x1 : Int32) (g : Sg) (H : Heap) (locs : List Loc) (ls : Array Slot), f5_likely_b23 n x1 g = some res → Zs D (wX cI cZ cB h) A s.heap H locs g → lv_has ls 4 [(0, .ref (h 134)), (1, .int x1)] → W p l e rm5_likely s m args below meth c H locs 0 0 Q (F0 m 23 ls []) := by
  have hx := C.1.1
  have hb := C.1.2.1
  intro n
  induction n with
  | zero =>
    intro x1 g H locs ls hf hz hl
    cases hf
  | succ n ih =>
    intro x1 g H locs ls hf hz hl
    rw [f5_likely_b23] at hf
    refine lv_iload_n hx hb dX5_likely_23 rfl (lv_at hl 1 rfl) ?_
    refine lv_bipush (v := (8 : Int32)) hx hb dX5_likely_24 (by decide) ?_
    refine lv_icmp_ge (tgt := 89) hx hb dX5_likely_26 (by decide) (fun c8 => ?_) (fun c8 => ?_)
    · have hf := ite_t hf c8
      refine lv_bipush (v := (-9 : Int32)) hx hb dX5_likely_89 (by decide) ?_
      refine lv_istore_n (lv' := [(1, .int (-9 : Int32)), (0, .ref (h 134))]) hx hb dX5_likely_91 rfl hl (by decide) rfl (fun ls hl => ?_)
      refine lv_iconst (v := (0 : Int32)) hx hb dX5_likely_92 (by decide) ?_
      refine lv_istore_n (lv' := [(2, .int (0 : Int32)), (1, .int (-9 : Int32)), (0, .ref (h 134))]) hx hb dX5_likely_93 rfl hl (by decide) rfl (fun ls hl => ?_)
      refine lv_iconst (v := (0 : Int32)) hx hb dX5_likely_94 (by decide) ?_
      refine lv_istore_n (lv' := [(3, .int (0 : Int32)), (2, .int (0 : Int32)), (1, .int (-9 : Int32)), (0, .ref (h 134))]) hx hb dX5_likely_95 rfl hl (by decide) rfl (fun ls hl => ?_)
      exact w5_likely_b96 C hR 1000 _ _ _ _ _ _ _ hf hz (lv_sub hl [3, 2, 1, 0] rfl)
    · have hf := ite_f hf c8
      refine lv_aload_n hx hb dX5_likely_29 rfl (lv_at hl 0 rfl) ?_
      refine lv_iload_n hx hb dX5_likely_30 rfl (lv_at hl 1 rfl) ?_
      obtain ⟨r11, g10, hc9, hf⟩ := bd2_elim hf
      refine z_VI (As := [.int x1]) (rest := []) C (c5_beginsAsSeen hc9) lk_RX5_206 ⟨rfl, rfl, Nat.le_of_ble_eq_true rfl, Nat.le_of_ble_eq_true rfl⟩ ⟨Nat.zero_le _, Nat.zero_le _⟩ o_moss rfl rfl (Nat.le_of_ble_eq_true rfl) rfl hl.1 dX5_likely_31 hz (fun H locs hz => ?_)
      refine lv_if_eq (tgt := 83) hx hb dX5_likely_34 (by decide) (fun c12 => ?_) (fun c12 => ?_)
      · have hf := ite_t hf c12
        exact w5_likely_b83 C hR ih _ _ _ _ _ hf hz (lv_sub hl [0, 1] rfl)
      · have hf := ite_f hf c12
        refine lv_aload_n hx hb dX5_likely_37 rfl (lv_at hl 0 rfl) ?_
        refine lv_iload_n hx hb dX5_likely_38 rfl (lv_at hl 1 rfl) ?_
        refine lv_iconst (v := (0 : Int32)) hx hb dX5_likely_39 (by decide) ?_
        obtain ⟨r15, g14, hc13, hf⟩ := bd2_elim hf
        refine z_VI (As := [.int x1, .int (0 : Int32)]) (rest := []) C (c5_leftIn hc13) lk_RX5_127 ⟨rfl, rfl, Nat.le_of_ble_eq_true rfl, Nat.le_of_ble_eq_true rfl⟩ ⟨Nat.zero_le _, Nat.zero_le _⟩ o_moss rfl rfl (Nat.le_of_ble_eq_true rfl) rfl hl.1 dX5_likely_40 hz (fun H locs hz => ?_)
        refine lv_aload_n hx hb dX5_likely_43 rfl (lv_at hl 0 rfl) ?_
        refine g_RX5_55_moss C hz dX5_likely_44 ?_
        refine lv_icmp_le (tgt := 83) hx hb dX5_likely_47 (by decide) (fun c16 => ?_) (fun c16 => ?_)
        · have hf := ite_t hf c16
          exact w5_likely_b83 C hR ih _ _ _ _ _ hf hz (lv_sub hl [0, 1] rfl)
        · have hf := ite_f hf c16
          refine lv_aload_n hx hb dX5_likely_50 rfl (lv_at hl 0 rfl) ?_
          refine g_RX5_19_moss C hz dX5_likely_51 ?_
          refine lv_iload_n hx hb dX5_likely_54 rfl (lv_at hl 1 rfl) ?_
          refine lv_aload_n hx hb dX5_likely_55 rfl (lv_at hl 0 rfl) ?_
          refine g_RX5_55_moss C hz dX5_likely_56 ?_
          obtain ⟨r19, g18, hc17, hf⟩ := bd2_elim hf
          refine z_VI (As := [.int x1, .int (g14.1 134 0)]) (rest := []) C (c4_wordAt hc17) lk_RX5_131 ⟨rfl, rfl, Nat.le_of_ble_eq_true rfl, Nat.le_of_ble_eq_true rfl⟩ ⟨Nat.zero_le _, Nat.zero_le _⟩ o_told rfl rfl (Nat.le_of_ble_eq_true rfl) rfl hl.1 dX5_likely_59 hz (fun H locs hz => ?_)
          refine lv_istore_n (lv' := [(2, .int r19), (0, .ref (h 134)), (1, .int x1)]) hx hb dX5_likely_62 rfl hl (by decide) rfl (fun ls hl => ?_)
          refine lv_iload_n hx hb dX5_likely_63 rfl (lv_at hl 0 rfl) ?_
          refine lv_if_lt (tgt := 83) hx hb dX5_likely_64 (by decide) (fun c20 => ?_) (fun c20 => ?_)
          · have hf := ite_t hf c20
            exact w5_likely_b83 C hR ih _ _ _ _ _ hf hz (lv_sub hl [1, 2] rfl)
          · have hf := ite_f hf c20
            refine lv_iload_n hx hb dX5_likely_67 rfl (lv_at hl 0 rfl) ?_
            refine lv_bipush (v := (9 : Int32)) hx hb dX5_likely_68 (by decide) ?_
            refine lv_icmp_gt (tgt := 83) hx hb dX5_likely_70 (by decide) (fun c21 => ?_) (fun c21 => ?_)
            · have hf := ite_t hf c21
              exact w5_likely_b83 C hR ih _ _ _ _ _ hf hz (lv_sub hl [1, 2] rfl)
            · have hf := ite_f hf c21
              refine lv_aload_n hx hb dX5_likely_73 rfl (lv_at hl 1 rfl) ?_
              refine g_RX5_52_moss C hz dX5_likely_74 ?_
              refine lv_iload_n hx hb dX5_likely_77 rfl (lv_at hl 0 rfl) ?_
              refine lv_dup2_11 hx hb dX5_likely_78 rfl rfl ?_
              obtain ⟨c22, hf⟩ := ix_elim hf
              refine z_iald C hz a_x_wordVotes c22 dX5_likely_79 ?_
              refine lv_iconst (v := (1 : Int32)) hx hb dX5_likely_80 (by decide) ?_
              refine lv_iadd hx hb dX5_likely_81 ?_
              obtain ⟨c23, hf⟩ := ix_elim hf
              obtain ⟨g24, eg24, hf⟩ := nx_elim hf
              refine z_iast C hz a_x_wordVotes c23 eg24 dX5_likely_82 (fun H locs hz => ?_)
              exact w5_likely_b83 C hR ih _ _ _ _ _ hf hz (lv_sub hl [1, 2] rfl)
set_option maxHeartbeats 4000000 in
set_option maxRecDepth 100000 in
theorem w5_likely_b2 {res : Int32 × Sg} (C : Cx p m c cX5_likely 4 s args RX5 D (tyL cI cZ cB)) (hR : EndI p l e rm5_likely s m args below meth c Q D (wX cI cZ cB h) A cX5_likely res) : ∀ n : Nat, ∀ (x1 : Int32) (g : Sg) (H : Heap) (locs : List Loc) (ls : Array Slot), f5_likely_b2 n x1 g = some res → Zs D (wX cI cZ cB h) A s.heap H locs g → lv_has ls 4 [(0, .ref (h 134)), (1, .int x1)] → W p l e rm5_likely s m args below meth c H locs 0 0 Q (F0 m 2 ls []) := by
  have hx := C.1.1
  have hb := C.1.2.1
  intro n
  induction n with
  | zero =>
    intro x1 g H locs ls hf hz hl
    cases hf
  | succ n ih =>
    intro x1 g H locs ls hf hz hl
    rw [f5_likely_b2] at hf
    refine lv_iload_n hx hb dX5_likely_2 rfl (lv_at hl 1 rfl) ?_
    refine lv_bipush (v := (9 : Int32)) hx hb dX5_likely_3 (by decide) ?_
    refine lv_icmp_gt (tgt := 21) hx hb dX5_likely_5 (by decide) (fun c25 => ?_) (fun c25 => ?_)
    · have hf := ite_t hf c25
      refine lv_iconst (v := (0 : Int32)) hx hb dX5_likely_21 (by decide) ?_
      refine lv_istore_n (lv' := [(1, .int (0 : Int32)), (0, .ref (h 134))]) hx hb dX5_likely_22 rfl hl (by decide) rfl (fun ls hl => ?_)
      exact w5_likely_b23 C hR 1000 _ _ _ _ _ hf hz (lv_sub hl [1, 0] rfl)
    · have hf := ite_f hf c25
      refine lv_aload_n hx hb dX5_likely_8 rfl (lv_at hl 0 rfl) ?_
      refine g_RX5_52_moss C hz dX5_likely_9 ?_
      refine lv_iload_n hx hb dX5_likely_12 rfl (lv_at hl 1 rfl) ?_
      refine lv_iconst (v := (0 : Int32)) hx hb dX5_likely_13 (by decide) ?_
      obtain ⟨c26, hf⟩ := ix_elim hf
      obtain ⟨g27, eg27, hf⟩ := nx_elim hf
      refine z_iast C hz a_x_wordVotes c26 eg27 dX5_likely_14 (fun H locs hz => ?_)
      obtain ⟨v28, ev28, hf⟩ := nx_elim hf
      refine lv_iinc (v := v28) (lv' := [(1, .int v28), (0, .ref (h 134))]) hx hb dX5_likely_15 hl (k := 1) rfl (by rw [ev28]; rfl) (by decide) rfl (fun ls hl => ?_)
      refine lv_goto (tgt := 2) hx hb dX5_likely_18 (by decide) ?_
      exact ih _ _ _ _ _ hf hz (lv_sub hl [1, 0] rfl)
set_option maxHeartbeats 4000000 in
set_option maxRecDepth 100000 in
theorem w5_likely_b0 {res : Int32 × Sg} (C : Cx p m c cX5_likely 4 s args RX5 D (tyL cI cZ cB)) (hR : EndI p l e rm5_likely s m args below meth c Q D (wX cI cZ cB h) A cX5_likely res) : ∀ (g : Sg) (H : Heap) (locs : List Loc) (ls : Array Slot), f5_likely g = some res → Zs D (wX cI cZ cB h) A s.heap H locs g → lv_has ls 4 [(0, .ref (h 134))] → W p l e rm5_likely s m args below meth c H locs 0 0 Q (F0 m 0 ls []) := by
  have hx := C.1.1
  have hb := C.1.2.1
  intro g H locs ls hf hz hl
  unfold f5_likely at hf
  refine lv_iconst (v := (0 : Int32)) hx hb dX5_likely_0 (by decide) ?_
  refine lv_istore_n (lv' := [(1, .int (0 : Int32)), (0, .ref (h 134))]) hx hb dX5_likely_1 rfl hl (by decide) rfl (fun ls hl => ?_)
  exact w5_likely_b2 C hR 1000 _ _ _ _ _ hf hz (lv_sub hl [1, 0] rfl)
set_option maxHeartbeats 4000000 in
set_option maxRecDepth 100000 in
theorem c5_likely {l : Launch} {D : va_G} {cI cZ cB : ClassId} {h : Nat → Nat} {g : Sg} {r : Int32} {g1 : Sg} (hf : f5_likely g = some (r, g1)) : KI l D (tyL cI cZ cB) (wX cI cZ cB h) yX5_likely cX5_likely 4 (some .int) rm5_likely [.ref (h 134)] g r g1 := by
  refine KI_mk (own := RX5) (by decide +kernel) rfl (Nat.le_of_ble_eq_true rfl) ?_
  intro p e s m below meth c A Q ls C hR hz hl
  have hl : lv_has ls 4 [(0, .ref (h 134))] := hl
  exact w5_likely_b0 C hR _ _ _ _ hf hz hl
abbrev rm5_clashesWithin : Room := { frames := 1, cells := 0, slots := 0, locals := 21 }
set_option maxHeartbeats 4000000 in
set_option maxRecDepth 100000 in
theorem w5_clashesWithin_b32 {res : Int32 × Sg} {k2 : Int32 → Int32 → Sg → Option (Int32 × Sg)} (C : Cx p m c cX5_clashesWithin 3 s args RX5 D (tyL cI cZ cB)) (hR : EndZ p l e rm5_clashesWithin s m args below meth c Q D (wX cI cZ cB h) A cX5_clashesWithin res) (hk2 : ∀ (x1 : Int32) (x2 : Int32) (g : Sg) (H : Heap) (locs : List Loc) (ls : Array Slot), k2 x1 x2 g = some res → Zs D (wX cI cZ cB h) A s.heap H locs g → lv_has ls 3 [(0, .ref (h 134)), (1, .int x1), (2, .int x2)] → W p l e rm5_clashesWithin s m args below meth c H locs 0 0 Q (F0 m 2 ls [])) : ∀ (x1 : Int32) (x2 : Int32) (g : Sg) (H : Heap) (locs : List Loc) (ls : Array Slot), f5_clashesWithin_b32 k2 x1 x2 g = some res → Zs D (wX cI cZ cB h) A s.heap H locs g → lv_has ls 3 [(0, .ref (h 134)), (1, .int x1), (2, .int x2)] → W p l e rm5_clashesWithin s m args below meth c H locs 0 0 Q (F0 m 32 ls []) := by
  have hx := C.1.1
  have hb := C.1.2.1
  intro x1 x2 g H locs ls hf hz hl
  unfold f5_clashesWithin_b32 at hf
  obtain ⟨v1, ev1, hf⟩ := nx_elim hf
  refine lv_iinc (v := v1) (lv' := [(2, .int v1), (0, .ref (h 134)), (1, .int x1)]) hx hb dX5_clashesWithin_32 hl (k := 2) rfl (by rw [ev1]; rfl) (by decide) rfl (fun ls hl => ?_)
  refine lv_goto (tgt := 2) hx hb dX5_clashesWithin_35 (by decide) ?_
  exact hk2 _ _ _ _ _ _ hf hz (lv_sub hl [1, 2, 0] rfl)
set_option maxHeartbeats 4000000 in
set_option maxRecDepth 100000 in
theorem w5_clashesWithin_b2 {res : Int32 × Sg} (C : Cx p m c cX5_clashesWithin 3 s args RX5 D (tyL cI cZ cB)) (hR : EndZ p l e rm5_clashesWithin s m args below meth c Q D (wX cI cZ cB h) A cX5_clashesWithin res) : ∀ n : Nat, ∀ (x1 : Int32) (x2 : Int32) (g : Sg) (H : Heap) (locs : List Loc) (ls : Array Slot), f5_clashesWithin_b2 n x1 x2 g = some res → Zs D (wX cI cZ cB h) A s.heap H locs g → lv_has ls 3 [(0, .ref (h 134)), (1, .int x1), (2, .int x2)] → W p l e rm5_clashesWithin s m args below meth c H locs 0 0 Q (F0 m 2 ls []) := by
  have hx := C.1.1
  have hb := C.1.2.1
  intro n
  induction n with
  | zero =>
    intro x1 x2 g H locs ls hf hz hl
    cases hf
  | succ n ih =>
    intro x1 x2 g H locs ls hf hz hl
    rw [f5_clashesWithin_b2] at hf
    refine lv_iload_n hx hb dX5_clashesWithin_2 rfl (lv_at hl 2 rfl) ?_
    refine lv_bipush (v := (8 : Int32)) hx hb dX5_clashesWithin_3 (by decide) ?_
    refine lv_icmp_ge (tgt := 38) hx hb dX5_clashesWithin_5 (by decide) (fun c2 => ?_) (fun c2 => ?_)
    · have hf := ite_t hf c2
      refine lv_iconst (v := (0 : Int32)) hx hb dX5_clashesWithin_38 (by decide) ?_
      exact hR _ _ _ _ _ _ hf hz dX5_clashesWithin_39
    · have hf := ite_f hf c2
      refine lv_iload_n hx hb dX5_clashesWithin_8 rfl (lv_at hl 1 rfl) ?_
      refine lv_iload_n hx hb dX5_clashesWithin_9 rfl (lv_at hl 2 rfl) ?_
      obtain ⟨r5, g4, hc3, hf⟩ := bd2_elim hf
      refine z_SI (As := [.int x1, .int x2]) (rest := []) C (c5_holds hc3) lk_RX5_193 ⟨rfl, rfl, Nat.le_of_ble_eq_true rfl, Nat.le_of_ble_eq_true rfl⟩ ⟨Nat.zero_le _, Nat.zero_le _⟩ rfl (Nat.le_of_ble_eq_true rfl) rfl hl.1 dX5_clashesWithin_10 hz (fun H locs hz => ?_)
      refine lv_if_eq (tgt := 32) hx hb dX5_clashesWithin_13 (by decide) (fun c6 => ?_) (fun c6 => ?_)
      · have hf := ite_t hf c6
        exact w5_clashesWithin_b32 C hR ih _ _ _ _ _ _ hf hz (lv_sub hl [0, 1, 2] rfl)
      · have hf := ite_f hf c6
        refine lv_aload_n hx hb dX5_clashesWithin_16 rfl (lv_at hl 0 rfl) ?_
        refine g_RX5_19_moss C hz dX5_clashesWithin_17 ?_
        refine g_RX5_121_told C hz dX5_clashesWithin_20 ?_
        refine lv_iload_n hx hb dX5_clashesWithin_23 rfl (lv_at hl 2 rfl) ?_
        obtain ⟨c7, hf⟩ := ix_elim hf
        refine z_iald C hz a_told_clashes c7 dX5_clashesWithin_24 ?_
        refine lv_iload_n hx hb dX5_clashesWithin_25 rfl (lv_at hl 1 rfl) ?_
        refine lv_iand hx hb dX5_clashesWithin_26 ?_
        refine lv_if_eq (tgt := 32) hx hb dX5_clashesWithin_27 (by decide) (fun c8 => ?_) (fun c8 => ?_)
        · have hf := ite_t hf c8
          exact w5_clashesWithin_b32 C hR ih _ _ _ _ _ _ hf hz (lv_sub hl [0, 1, 2] rfl)
        · have hf := ite_f hf c8
          refine lv_iconst (v := (1 : Int32)) hx hb dX5_clashesWithin_30 (by decide) ?_
          exact hR _ _ _ _ _ _ hf hz dX5_clashesWithin_31
set_option maxHeartbeats 4000000 in
set_option maxRecDepth 100000 in
theorem w5_clashesWithin_b0 {res : Int32 × Sg} (C : Cx p m c cX5_clashesWithin 3 s args RX5 D (tyL cI cZ cB)) (hR : EndZ p l e rm5_clashesWithin s m args below meth c Q D (wX cI cZ cB h) A cX5_clashesWithin res) : ∀ (x1 : Int32) (g : Sg) (H : Heap) (locs : List Loc) (ls : Array Slot), f5_clashesWithin x1 g = some res → Zs D (wX cI cZ cB h) A s.heap H locs g → lv_has ls 3 [(0, .ref (h 134)), (1, .int x1)] → W p l e rm5_clashesWithin s m args below meth c H locs 0 0 Q (F0 m 0 ls []) := by
  have hx := C.1.1
  have hb := C.1.2.1
  intro x1 g H locs ls hf hz hl
  unfold f5_clashesWithin at hf
  refine lv_iconst (v := (0 : Int32)) hx hb dX5_clashesWithin_0 (by decide) ?_
  refine lv_istore_n (lv' := [(2, .int (0 : Int32)), (0, .ref (h 134)), (1, .int x1)]) hx hb dX5_clashesWithin_1 rfl hl (by decide) rfl (fun ls hl => ?_)
  exact w5_clashesWithin_b2 C hR 1000 _ _ _ _ _ _ hf hz (lv_sub hl [1, 2, 0] rfl)
set_option maxHeartbeats 4000000 in
set_option maxRecDepth 100000 in
theorem c5_clashesWithin {l : Launch} {D : va_G} {cI cZ cB : ClassId} {h : Nat → Nat} {x1 : Int32} {g : Sg} {r : Int32} {g1 : Sg} (hf : f5_clashesWithin x1 g = some (r, g1)) : KI l D (tyL cI cZ cB) (wX cI cZ cB h) yX5_clashesWithin cX5_clashesWithin 3 (some .boolean) rm5_clashesWithin [.ref (h 134), .int x1] g r g1 := by
  refine KZ_mk (own := RX5) (by decide +kernel) rfl (Nat.le_of_ble_eq_true rfl) ?_
  intro p e s m below meth c A Q ls C hR hz hl
  have hl : lv_has ls 3 [(0, .ref (h 134)), (1, .int x1)] := hl
  exact w5_clashesWithin_b0 C hR _ _ _ _ _ hf hz hl
end WK
