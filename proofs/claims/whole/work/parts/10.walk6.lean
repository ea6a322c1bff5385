section WK
variable {p : Program} {l : Launch} {e : Env} {s : State} {m : MethodId} {args : Array Value} {below : List Frame} {meth : Method} {c : Code} {Q : State → Prop} {D : va_G} {cI cZ cB : ClassId} {A : Nat → Prop} {h : Nat → Nat}
abbrev rm6_in : Room := { frames := 0, cells := 0, slots := 0, locals := 0 }
set_option maxHeartbeats 4000000 in
set_option maxRecDepth 100000 in
theorem w6_in_b0 {res : Int32 × Sg} (C : Cx p m c cX6_in 3 s args RX6 D (tyL cI cZ cB)) (hR : EndZ p l e rm6_in s m args below meth c Q D (wM cI cZ h) A cX6_in res) : ∀ (x0 : Int32) (x1 : Int32) (x2 : Int32) (g : Sg) (H : Heap) (locs : List Loc) (ls : Array Slot), f6_in x0 x1 x2 g = some res → Zs D (wM cI cZ h) A s.heap H locs g → lv_has ls 3 [(0, .int x0), (1, .int x1), (2, .int x2)] → W p l e rm6_in s m args below meth c H locs 0 0 Q (F0 m 0 ls []) := by
  have hx := C.1.1
  have hb := C.1.2.1
  intro x0 x1 x2 g H locs ls hf hz hl
  unfold f6_in at hf
  refine lv_iload_n hx hb dX6_in_0 rfl (lv_at hl 0 rfl) ?_
  refine lv_iload_n hx hb dX6_in_1 rfl (lv_at hl 1 rfl) ?_
  refine lv_icmp_lt (tgt := 14) hx hb dX6_in_2 (by decide) (fun c1 => ?_) (fun c1 => ?_)
  · have hf := ite_t hf c1
    refine lv_iconst (v := (0 : Int32)) hx hb dX6_in_14 (by decide) ?_
    exact hR _ _ _ _ _ _ hf hz dX6_in_15
  · have hf := ite_f hf c1
    refine lv_iload_n hx hb dX6_in_5 rfl (lv_at hl 0 rfl) ?_
    refine lv_iload_n hx hb dX6_in_6 rfl (lv_at hl 2 rfl) ?_
    refine lv_icmp_gt (tgt := 14) hx hb dX6_in_7 (by decide) (fun c2 => ?_) (fun c2 => ?_)
    · have hf := ite_t hf c2
      refine lv_iconst (v := (0 : Int32)) hx hb dX6_in_14 (by decide) ?_
      exact hR _ _ _ _ _ _ hf hz dX6_in_15
    · have hf := ite_f hf c2
      refine lv_iconst (v := (1 : Int32)) hx hb dX6_in_10 (by decide) ?_
      refine lv_goto (tgt := 15) hx hb dX6_in_11 (by decide) ?_
      exact hR _ _ _ _ _ _ hf hz dX6_in_15
set_option maxHeartbeats 4000000 in
set_option maxRecDepth 100000 in
theorem c6_in {l : Launch} {D : va_G} {cI cZ cB : ClassId} {h : Nat → Nat} {x0 : Int32} {x1 : Int32} {x2 : Int32} {g : Sg} {r : Int32} {g1 : Sg} (hf : f6_in x0 x1 x2 g = some (r, g1)) : KI l D (tyL cI cZ cB) (wM cI cZ h) yX6_in cX6_in 3 (some .boolean) rm6_in [.int x0, .int x1, .int x2] g r g1 := by
  refine KZ_mk (own := RX6) (by decide +kernel) rfl (Nat.le_of_ble_eq_true rfl) ?_
  intro p e s m below meth c A Q ls C hR hz hl
  have hl : lv_has ls 3 [(0, .int x0), (1, .int x1), (2, .int x2)] := hl
  exact w6_in_b0 C hR _ _ _ _ _ _ _ hf hz hl
abbrev rm6_ones : Room := { frames := 0, cells := 0, slots := 0, locals := 0 }
set_option maxHeartbeats 4000000 in
set_option maxRecDepth 100000 in
theorem w6_ones_b4 {res : Int32 × Sg} (C : Cx p m c cX6_ones 3 s args RX6 D (tyL cI cZ cB)) (hR : EndI p l e rm6_ones s m args below meth c Q D (wM cI cZ h) A cX6_ones res) : ∀ n : Nat, ∀ (x0 : Int32) (x1 : Int32) (x2 : Int32) (g : Sg) (H : Heap) (locs : List Loc) (ls : Array Slot), f6_ones_b4 n x0 x1 x2 g = some res → Zs D (wM cI cZ h) A s.heap H locs g → lv_has ls 3 [(0, .int x0), (1, .int x1), (2, .int x2)] → W p l e rm6_ones s m args below meth c H locs 0 0 Q (F0 m 4 ls []) := by
  have hx := C.1.1
  have hb := C.1.2.1
  intro n
  induction n with
  | zero =>
    intro x0 x1 x2 g H locs ls hf hz hl
    cases hf
  | succ n ih =>
    intro x0 x1 x2 g H locs ls hf hz hl
    rw [f6_ones_b4] at hf
    refine lv_iload_n hx hb dX6_ones_4 rfl (lv_at hl 2 rfl) ?_
    refine lv_bipush (v := (8 : Int32)) hx hb dX6_ones_5 (by decide) ?_
    refine lv_icmp_ge (tgt := 24) hx hb dX6_ones_7 (by decide) (fun c1 => ?_) (fun c1 => ?_)
    · have hf := ite_t hf c1
      refine lv_iload_n hx hb dX6_ones_24 rfl (lv_at hl 1 rfl) ?_
      exact hR _ _ _ _ _ _ (Option.some.inj hf) hz dX6_ones_25
    · have hf := ite_f hf c1
      refine lv_iload_n hx hb dX6_ones_10 rfl (lv_at hl 1 rfl) ?_
      refine lv_iload_n hx hb dX6_ones_11 rfl (lv_at hl 0 rfl) ?_
      refine lv_iload_n hx hb dX6_ones_12 rfl (lv_at hl 2 rfl) ?_
      refine lv_ishr hx hb dX6_ones_13 ?_
      refine lv_iconst (v := (1 : Int32)) hx hb dX6_ones_14 (by decide) ?_
      refine lv_iand hx hb dX6_ones_15 ?_
      refine lv_iadd hx hb dX6_ones_16 ?_
      obtain ⟨v2, ev2, hf⟩ := nx_elim hf
      refine z_nm ev2 ?_
      refine lv_istore_n (lv' := [(1, .int v2), (0, .int x0), (2, .int x2)]) hx hb dX6_ones_17 rfl hl (by decide) rfl (fun ls hl => ?_)
      obtain ⟨v3, ev3, hf⟩ := nx_elim hf
      refine lv_iinc (v := v3) (lv' := [(2, .int v3), (1, .int v2), (0, .int x0)]) hx hb dX6_ones_18 hl (k := 2) rfl (by rw [ev3]; rfl) (by decide) rfl (fun ls hl => ?_)
      refine lv_goto (tgt := 4) hx hb dX6_ones_21 (by decide) ?_
      exact ih _ _ _ _ _ _ _ hf hz (lv_sub hl [2, 1, 0] rfl)
set_option maxHeartbeats 4000000 in
set_option maxRecDepth 100000 in
theorem w6_ones_b0 {res : Int32 × Sg} (C : Cx p m c cX6_ones 3 s args RX6 D (tyL cI cZ cB)) (hR : EndI p l e rm6_ones s m args below meth c Q D (wM cI cZ h) A cX6_ones res) : ∀ (x0 : Int32) (g : Sg) (H : Heap) (locs : List Loc) (ls : Array Slot), f6_ones x0 g = some res → Zs D (wM cI cZ h) A s.heap H locs g → lv_has ls 3 [(0, .int x0)] → W p l e rm6_ones s m args below meth c H locs 0 0 Q (F0 m 0 ls []) := by
  have hx := C.1.1
  have hb := C.1.2.1
  intro x0 g H locs ls hf hz hl
  unfold f6_ones at hf
  refine lv_iconst (v := (0 : Int32)) hx hb dX6_ones_0 (by decide) ?_
  refine lv_istore_n (lv' := [(1, .int (0 : Int32)), (0, .int x0)]) hx hb dX6_ones_1 rfl hl (by decide) rfl (fun ls hl => ?_)
  refine lv_iconst (v := (0 : Int32)) hx hb dX6_ones_2 (by decide) ?_
  refine lv_istore_n (lv' := [(2, .int (0 : Int32)), (1, .int (0 : Int32)), (0, .int x0)]) hx hb dX6_ones_3 rfl hl (by decide) rfl (fun ls hl => ?_)
  exact w6_ones_b4 C hR 1000 _ _ _ _ _ _ _ hf hz (lv_sub hl [2, 1, 0] rfl)
set_option maxHeartbeats 4000000 in
set_option maxRecDepth 100000 in
theorem c6_ones {l : Launch} {D : va_G} {cI cZ cB : ClassId} {h : Nat → Nat} {x0 : Int32} {g : Sg} {r : Int32} {g1 : Sg} (hf : f6_ones x0 g = some (r, g1)) : KI l D (tyL cI cZ cB) (wM cI cZ h) yX6_ones cX6_ones 3 (some .int) rm6_ones [.int x0] g r g1 := by
  refine KI_mk (own := RX6) (by decide +kernel) rfl (Nat.le_of_ble_eq_true rfl) ?_
  intro p e s m below meth c A Q ls C hR hz hl
  have hl : lv_has ls 3 [(0, .int x0)] := hl
  exact w6_ones_b0 C hR _ _ _ _ _ hf hz hl
abbrev rm6_type : Room := { frames := 1, cells := 0, slots := 0, locals := 22 }
set_option maxHeartbeats 4000000 in
set_option maxRecDepth 100000 in
theorem w6_type_b0 {res : Int32 × Sg} (C : Cx p m c cX6_type 2 s args RX6 D (tyL cI cZ cB)) (hR : EndI p l e rm6_type s m args below meth c Q D (wM cI cZ h) A cX6_type res) : ∀ (x1 : Int32) (g : Sg) (H : Heap) (locs : List Loc) (ls : Array Slot), f6_type x1 g = some res → Zs D (wM cI cZ h) A s.heap H locs g → lv_has ls 2 [(0, .ref (h 0)), (1, .int x1)] → W p l e rm6_type s m args below meth c H locs 0 0 Q (F0 m 0 ls []) := by
  have hx := C.1.1
  have hb := C.1.2.1
  intro x1 g H locs ls hf hz hl
  unfold f6_type at hf
  refine lv_aload_n hx hb dX6_type_0 rfl (lv_at hl 0 rfl) ?_
  refine lv_iconst (v := (0 : Int32)) hx hb dX6_type_1 (by decide) ?_
  obtain ⟨g1, eg1, hf⟩ := nx_elim hf
  refine p_RX6_74_model C hz eg1 dX6_type_2 (fun H locs hz => ?_)
  refine lv_iload_n hx hb dX6_type_5 rfl (lv_at hl 1 rfl) ?_
  refine lv_iconst (v := (0 : Int32)) hx hb dX6_type_6 (by decide) ?_
  refine lv_sipush (v := (255 : Int32)) hx hb dX6_type_7 (by decide) ?_
  obtain ⟨r4, g3, hc2, hf⟩ := bd2_elim hf
  refine z_SI (As := [.int x1, .int (0 : Int32), .int (255 : Int32)]) (rest := []) C (c6_in hc2) lk_RX6_78 ⟨rfl, rfl, Nat.le_of_ble_eq_true rfl, Nat.le_of_ble_eq_true rfl⟩ ⟨Nat.zero_le _, Nat.zero_le _⟩ rfl (Nat.le_of_ble_eq_true rfl) rfl hl.1 dX6_type_10 hz (fun H locs hz => ?_)
  refine lv_if_ne (tgt := 18) hx hb dX6_type_13 (by decide) (fun c5 => ?_) (fun c5 => ?_)
  · have hf := ite_f hf c5
    refine lv_aload_n hx hb dX6_type_18 rfl (lv_at hl 0 rfl) ?_
    refine g_RX6_82_model C hz dX6_type_19 ?_
    refine lv_sipush (v := (200 : Int32)) hx hb dX6_type_22 (by decide) ?_
    refine lv_icmp_ne (tgt := 31) hx hb dX6_type_25 (by decide) (fun c6 => ?_) (fun c6 => ?_)
    · have hf := ite_f hf c6
      refine lv_aload_n hx hb dX6_type_31 rfl (lv_at hl 0 rfl) ?_
      refine g_RX6_7_model C hz dX6_type_32 ?_
      refine lv_aload_n hx hb dX6_type_35 rfl (lv_at hl 0 rfl) ?_
      refine g_RX6_82_model C hz dX6_type_36 ?_
      refine lv_iload_n hx hb dX6_type_39 rfl (lv_at hl 1 rfl) ?_
      obtain ⟨c7, hf⟩ := ix_elim hf
      obtain ⟨g8, eg8, hf⟩ := nx_elim hf
      refine z_iast C hz a_m_text c7 eg8 dX6_type_40 (fun H locs hz => ?_)
      refine lv_aload_n hx hb dX6_type_41 rfl (lv_at hl 0 rfl) ?_
      refine lv_dup hx hb dX6_type_42 rfl ?_
      refine g_RX6_82_model C hz dX6_type_43 ?_
      refine lv_iconst (v := (1 : Int32)) hx hb dX6_type_46 (by decide) ?_
      refine lv_iadd hx hb dX6_type_47 ?_
      obtain ⟨g9, eg9, hf⟩ := nx_elim hf
      refine p_RX6_82_model C hz eg9 dX6_type_48 (fun H locs hz => ?_)
      refine lv_aload_n hx hb dX6_type_51 rfl (lv_at hl 0 rfl) ?_
      refine g_RX6_82_model C hz dX6_type_52 ?_
      exact hR _ _ _ _ _ _ (Option.some.inj hf) hz dX6_type_55
    · have hf := ite_t hf c6
      refine lv_bipush (v := (-3 : Int32)) hx hb dX6_type_28 (by decide) ?_
      exact hR _ _ _ _ _ _ (Option.some.inj hf) hz dX6_type_30
  · have hf := ite_t hf c5
    refine lv_iconst (v := (-1 : Int32)) hx hb dX6_type_16 (by decide) ?_
    exact hR _ _ _ _ _ _ (Option.some.inj hf) hz dX6_type_17
set_option maxHeartbeats 4000000 in
set_option maxRecDepth 100000 in
theorem c6_type {l : Launch} {D : va_G} {cI cZ cB : ClassId} {h : Nat → Nat} {x1 : Int32} {g : Sg} {r : Int32} {g1 : Sg} (hf : f6_type x1 g = some (r, g1)) : KI l D (tyL cI cZ cB) (wM cI cZ h) yX6_type cX6_type 2 (some .int) rm6_type [.ref (h 0), .int x1] g r g1 := by
  refine KI_mk (own := RX6) (by decide +kernel) rfl (Nat.le_of_ble_eq_true rfl) ?_
  intro p e s m below meth c A Q ls C hR hz hl
  have hl : lv_has ls 2 [(0, .ref (h 0)), (1, .int x1)] := hl
  exact w6_type_b0 C hR _ _ _ _ _ hf hz hl
abbrev rm6_clear : Room := { frames := 0, cells := 0, slots := 0, locals := 0 }
set_option maxHeartbeats 4000000 in
set_option maxRecDepth 100000 in
theorem w6_clear_b0 {res : Int32 × Sg} (C : Cx p m c cX6_clear 2 s args RX6 D (tyL cI cZ cB)) (hR : EndI p l e rm6_clear s m args below meth c Q D (wM cI cZ h) A cX6_clear res) : ∀ (g : Sg) (H : Heap) (locs : List Loc) (ls : Array Slot), f6_clear g = some res → Zs D (wM cI cZ h) A s.heap H locs g → lv_has ls 2 [(0, .ref (h 0))] → W p l e rm6_clear s m args below meth c H locs 0 0 Q (F0 m 0 ls []) := by
  have hx := C.1.1
  have hb := C.1.2.1
  intro g H locs ls hf hz hl
  unfold f6_clear at hf
  refine lv_aload_n hx hb dX6_clear_0 rfl (lv_at hl 0 rfl) ?_
  refine lv_iconst (v := (0 : Int32)) hx hb dX6_clear_1 (by decide) ?_
  obtain ⟨g1, eg1, hf⟩ := nx_elim hf
  refine p_RX6_74_model C hz eg1 dX6_clear_2 (fun H locs hz => ?_)
  refine lv_aload_n hx hb dX6_clear_5 rfl (lv_at hl 0 rfl) ?_
  refine g_RX6_82_model C hz dX6_clear_6 ?_
  obtain ⟨v2, ev2, hf⟩ := nx_elim hf
  refine z_nm ev2 ?_
  refine lv_istore_n (lv' := [(1, .int v2), (0, .ref (h 0))]) hx hb dX6_clear_9 rfl hl (by decide) rfl (fun ls hl => ?_)
  refine lv_aload_n hx hb dX6_clear_10 rfl (lv_at hl 1 rfl) ?_
  refine lv_iconst (v := (0 : Int32)) hx hb dX6_clear_11 (by decide) ?_
  obtain ⟨g3, eg3, hf⟩ := nx_elim hf
  refine p_RX6_82_model C hz eg3 dX6_clear_12 (fun H locs hz => ?_)
  refine lv_iload_n hx hb dX6_clear_15 rfl (lv_at hl 0 rfl) ?_
  exact hR _ _ _ _ _ _ (Option.some.inj hf) hz dX6_clear_16
set_option maxHeartbeats 4000000 in
set_option maxRecDepth 100000 in
theorem c6_clear {l : Launch} {D : va_G} {cI cZ cB : ClassId} {h : Nat → Nat} {g : Sg} {r : Int32} {g1 : Sg} (hf : f6_clear g = some (r, g1)) : KI l D (tyL cI cZ cB) (wM cI cZ h) yX6_clear cX6_clear 2 (some .int) rm6_clear [.ref (h 0)] g r g1 := by
  refine KI_mk (own := RX6) (by decide +kernel) rfl (Nat.le_of_ble_eq_true rfl) ?_
  intro p e s m below meth c A Q ls C hR hz hl
  have hl : lv_has ls 2 [(0, .ref (h 0))] := hl
  exact w6_clear_b0 C hR _ _ _ _ hf hz hl
abbrev rm6_letterAt : Room := { frames := 0, cells := 0, slots := 0, locals := 0 }
set_option maxHeartbeats 4000000 in
set_option maxRecDepth 100000 in
theorem w6_letterAt_b0 {res : Int32 × Sg} (C : Cx p m c cX6_letterAt 2 s args RX6 D (tyL cI cZ cB)) (hR : EndI p l e rm6_letterAt s m args below meth c Q D (wM cI cZ h) A cX6_letterAt res) : ∀ (x1 : Int32) (g : Sg) (H : Heap) (locs : List Loc) (ls : Array Slot), f6_letterAt x1 g = some res → Zs D (wM cI cZ h) A s.heap H locs g → lv_has ls 2 [(0, .ref (h 0)), (1, .int x1)] → W p l e rm6_letterAt s m args below meth c H locs 0 0 Q (F0 m 0 ls []) := by
  have hx := C.1.1
  have hb := C.1.2.1
  intro x1 g H locs ls hf hz hl
  unfold f6_letterAt at hf
  refine lv_iload_n hx hb dX6_letterAt_0 rfl (lv_at hl 1 rfl) ?_
  refine lv_aload_n hx hb dX6_letterAt_1 rfl (lv_at hl 0 rfl) ?_
  refine g_RX6_82_model C hz dX6_letterAt_2 ?_
  refine lv_icmp_ge (tgt := 17) hx hb dX6_letterAt_5 (by decide) (fun c1 => ?_) (fun c1 => ?_)
  · have hf := ite_t hf c1
    refine lv_iconst (v := (-1 : Int32)) hx hb dX6_letterAt_17 (by decide) ?_
    exact hR _ _ _ _ _ _ (Option.some.inj hf) hz dX6_letterAt_18
  · have hf := ite_f hf c1
    refine lv_aload_n hx hb dX6_letterAt_8 rfl (lv_at hl 0 rfl) ?_
    refine g_RX6_7_model C hz dX6_letterAt_9 ?_
    refine lv_iload_n hx hb dX6_letterAt_12 rfl (lv_at hl 1 rfl) ?_
    obtain ⟨c2, hf⟩ := ix_elim hf
    refine z_iald C hz a_m_text c2 dX6_letterAt_13 ?_
    refine lv_goto (tgt := 18) hx hb dX6_letterAt_14 (by decide) ?_
    exact hR _ _ _ _ _ _ (Option.some.inj hf) hz dX6_letterAt_18
set_option maxHeartbeats 4000000 in
set_option maxRecDepth 100000 in
theorem c6_letterAt {l : Launch} {D : va_G} {cI cZ cB : ClassId} {h : Nat → Nat} {x1 : Int32} {g : Sg} {r : Int32} {g1 : Sg} (hf : f6_letterAt x1 g = some (r, g1)) : KI l D (tyL cI cZ cB) (wM cI cZ h) yX6_letterAt cX6_letterAt 2 (some .int) rm6_letterAt [.ref (h 0), .int x1] g r g1 := by
  refine KI_mk (own := RX6) (by decide +kernel) rfl (Nat.le_of_ble_eq_true rfl) ?_
  intro p e s m below meth c A Q ls C hR hz hl
  have hl : lv_has ls 2 [(0, .ref (h 0)), (1, .int x1)] := hl
  exact w6_letterAt_b0 C hR _ _ _ _ _ hf hz hl
abbrev rm6_isLetter : Room := { frames := 0, cells := 0, slots := 0, locals := 0 }
set_option maxHeartbeats 4000000 in
set_option maxRecDepth 100000 in
theorem w6_isLetter_b30 {res : Int32 × Sg} (C : Cx p m c cX6_isLetter 1 s args RX6 D (tyL cI cZ cB)) (hR : EndZ p l e rm6_isLetter s m args below meth c Q D (wM cI cZ h) A cX6_isLetter res) : ∀ (g : Sg) (H : Heap) (locs : List Loc) (ls : Array Slot), f6_isLetter_b30 g = some res → Zs D (wM cI cZ h) A s.heap H locs g → lv_has ls 1 [] → W p l e rm6_isLetter s m args below meth c H locs 0 0 Q (F0 m 30 ls []) := by
  have hx := C.1.1
  have hb := C.1.2.1
  intro g H locs ls hf hz hl
  unfold f6_isLetter_b30 at hf
  refine lv_iconst (v := (1 : Int32)) hx hb dX6_isLetter_30 (by decide) ?_
  refine lv_goto (tgt := 35) hx hb dX6_isLetter_31 (by decide) ?_
  exact hR _ _ _ _ _ _ hf hz dX6_isLetter_35
set_option maxHeartbeats 4000000 in
set_option maxRecDepth 100000 in
theorem w6_isLetter_b0 {res : Int32 × Sg} (C : Cx p m c cX6_isLetter 1 s args RX6 D (tyL cI cZ cB)) (hR : EndZ p l e rm6_isLetter s m args below meth c Q D (wM cI cZ h) A cX6_isLetter res) : ∀ (x0 : Int32) (g : Sg) (H : Heap) (locs : List Loc) (ls : Array Slot), f6_isLetter x0 g = some res → Zs D (wM cI cZ h) A s.heap H locs g → lv_has ls 1 [(0, .int x0)] → W p l e rm6_isLetter s m args below meth c H locs 0 0 Q (F0 m 0 ls []) := by
  have hx := C.1.1
  have hb := C.1.2.1
  intro x0 g H locs ls hf hz hl
  unfold f6_isLetter at hf
  refine lv_iload_n hx hb dX6_isLetter_0 rfl (lv_at hl 0 rfl) ?_
  refine lv_bipush (v := (112 : Int32)) hx hb dX6_isLetter_1 (by decide) ?_
  refine lv_icmp_eq (tgt := 30) hx hb dX6_isLetter_3 (by decide) (fun c1 => ?_) (fun c1 => ?_)
  · have hf := ite_t hf c1
    exact w6_isLetter_b30 C hR _ _ _ _ hf hz (lv_sub hl [] rfl)
  · have hf := ite_f hf c1
    refine lv_iload_n hx hb dX6_isLetter_6 rfl (lv_at hl 0 rfl) ?_
    refine lv_bipush (v := (109 : Int32)) hx hb dX6_isLetter_7 (by decide) ?_
    refine lv_icmp_eq (tgt := 30) hx hb dX6_isLetter_9 (by decide) (fun c2 => ?_) (fun c2 => ?_)
    · have hf := ite_t hf c2
      exact w6_isLetter_b30 C hR _ _ _ _ hf hz (lv_sub hl [] rfl)
    · have hf := ite_f hf c2
      refine lv_iload_n hx hb dX6_isLetter_12 rfl (lv_at hl 0 rfl) ?_
      refine lv_bipush (v := (120 : Int32)) hx hb dX6_isLetter_13 (by decide) ?_
      refine lv_icmp_eq (tgt := 30) hx hb dX6_isLetter_15 (by decide) (fun c3 => ?_) (fun c3 => ?_)
      · have hf := ite_t hf c3
        exact w6_isLetter_b30 C hR _ _ _ _ hf hz (lv_sub hl [] rfl)
      · have hf := ite_f hf c3
        refine lv_iload_n hx hb dX6_isLetter_18 rfl (lv_at hl 0 rfl) ?_
        refine lv_bipush (v := (97 : Int32)) hx hb dX6_isLetter_19 (by decide) ?_
        refine lv_icmp_eq (tgt := 30) hx hb dX6_isLetter_21 (by decide) (fun c4 => ?_) (fun c4 => ?_)
        · have hf := ite_t hf c4
          exact w6_isLetter_b30 C hR _ _ _ _ hf hz (lv_sub hl [] rfl)
        · have hf := ite_f hf c4
          refine lv_iload_n hx hb dX6_isLetter_24 rfl (lv_at hl 0 rfl) ?_
          refine lv_bipush (v := (115 : Int32)) hx hb dX6_isLetter_25 (by decide) ?_
          refine lv_icmp_ne (tgt := 34) hx hb dX6_isLetter_27 (by decide) (fun c5 => ?_) (fun c5 => ?_)
          · have hf := ite_f hf c5
            refine lv_iconst (v := (0 : Int32)) hx hb dX6_isLetter_34 (by decide) ?_
            exact hR _ _ _ _ _ _ hf hz dX6_isLetter_35
          · have hf := ite_t hf c5
            exact w6_isLetter_b30 C hR _ _ _ _ hf hz (lv_sub hl [] rfl)
set_option maxHeartbeats 4000000 in
set_option maxRecDepth 100000 in
theorem c6_isLetter {l : Launch} {D : va_G} {cI cZ cB : ClassId} {h : Nat → Nat} {x0 : Int32} {g : Sg} {r : Int32} {g1 : Sg} (hf : f6_isLetter x0 g = some (r, g1)) : KI l D (tyL cI cZ cB) (wM cI cZ h) yX6_isLetter cX6_isLetter 1 (some .boolean) rm6_isLetter [.int x0] g r g1 := by
  refine KZ_mk (own := RX6) (by decide +kernel) rfl (Nat.le_of_ble_eq_true rfl) ?_
  intro p e s m below meth c A Q ls C hR hz hl
  have hl : lv_has ls 1 [(0, .int x0)] := hl
  exact w6_isLetter_b0 C hR _ _ _ _ _ hf hz hl
abbrev rm6_advances : Room := { frames := 1, cells := 0, slots := 0, locals := 22 }
set_option maxHeartbeats 4000000 in
set_option maxRecDepth 100000 in
theorem w6_advances_b219 {res : Sg} (C : Cx p m c cX6_advances 2 s args RX6 D (tyL cI cZ cB)) (hR : EndV p l e rm6_advances s m args below meth c Q D (wM cI cZ h) A cX6_advances res) : ∀ (y0 : Int32) (g : Sg) (H : Heap) (locs : List Loc) (ls : Array Slot), f6_advances_b219 y0 g = some res → Zs D (wM cI cZ h) A s.heap H locs g → lv_has ls 2 [] → W p l e rm6_advances s m args below meth c H locs 0 0 Q (F0 m 219 ls [.int y0, .ref (h 0)]) := by
  have hx := C.1.1
  have hb := C.1.2.1
  intro y0 g H locs ls hf hz hl
  unfold f6_advances_b219 at hf
  obtain ⟨g1, eg1, hf⟩ := nx_elim hf
  refine p_RX6_95_model C hz eg1 dX6_advances_219 (fun H locs hz => ?_)
  exact hR _ _ _ _ _ (Option.some.inj hf) hz dX6_advances_222
set_option maxHeartbeats 4000000 in
set_option maxRecDepth 100000 in
theorem w6_advances_b175 {res : Sg} (C : Cx p m c cX6_advances 2 s args RX6 D (tyL cI cZ cB)) (hR : EndV p l e rm6_advances s m args below meth c Q D (wM cI cZ h) A cX6_advances res) : ∀ (y0 : Int32) (g : Sg) (H : Heap) (locs : List Loc) (ls : Array Slot), f6_advances_b175 y0 g = some res → Zs D (wM cI cZ h) A s.heap H locs g → lv_has ls 2 [] → W p l e rm6_advances s m args below meth c H locs 0 0 Q (F0 m 175 ls [.int y0, .ref (h 0)]) := by
  have hx := C.1.1
  have hb := C.1.2.1
  intro y0 g H locs ls hf hz hl
  unfold f6_advances_b175 at hf
  obtain ⟨g2, eg2, hf⟩ := nx_elim hf
  refine p_RX6_95_model C hz eg2 dX6_advances_175 (fun H locs hz => ?_)
  refine lv_goto (tgt := 222) hx hb dX6_advances_178 (by decide) ?_
  exact hR _ _ _ _ _ (Option.some.inj hf) hz dX6_advances_222
set_option maxHeartbeats 4000000 in
set_option maxRecDepth 100000 in
theorem w6_advances_b174 {res : Sg} (C : Cx p m c cX6_advances 2 s args RX6 D (tyL cI cZ cB)) (hR : EndV p l e rm6_advances s m args below meth c Q D (wM cI cZ h) A cX6_advances res) : ∀ (g : Sg) (H : Heap) (locs : List Loc) (ls : Array Slot), f6_advances_b174 g = some res → Zs D (wM cI cZ h) A s.heap H locs g → lv_has ls 2 [] → W p l e rm6_advances s m args below meth c H locs 0 0 Q (F0 m 174 ls [.ref (h 0)]) := by
  have hx := C.1.1
  have hb := C.1.2.1
  intro g H locs ls hf hz hl
  unfold f6_advances_b174 at hf
  refine lv_iconst (v := (2 : Int32)) hx hb dX6_advances_174 (by decide) ?_
  exact w6_advances_b175 C hR _ _ _ _ _ hf hz (lv_sub hl [] rfl)
set_option maxHeartbeats 4000000 in
set_option maxRecDepth 100000 in
theorem w6_advances_b170 {res : Sg} (C : Cx p m c cX6_advances 2 s args RX6 D (tyL cI cZ cB)) (hR : EndV p l e rm6_advances s m args below meth c Q D (wM cI cZ h) A cX6_advances res) : ∀ (g : Sg) (H : Heap) (locs : List Loc) (ls : Array Slot), f6_advances_b170 g = some res → Zs D (wM cI cZ h) A s.heap H locs g → lv_has ls 2 [] → W p l e rm6_advances s m args below meth c H locs 0 0 Q (F0 m 170 ls [.ref (h 0)]) := by
  have hx := C.1.1
  have hb := C.1.2.1
  intro g H locs ls hf hz hl
  unfold f6_advances_b170 at hf
  refine lv_iconst (v := (4 : Int32)) hx hb dX6_advances_170 (by decide) ?_
  refine lv_goto (tgt := 175) hx hb dX6_advances_171 (by decide) ?_
  exact w6_advances_b175 C hR _ _ _ _ _ hf hz (lv_sub hl [] rfl)
set_option maxHeartbeats 4000000 in
set_option maxRecDepth 100000 in
theorem w6_advances_b125 {res : Sg} {k71 : Int32 → Sg → Option (Sg)} (C : Cx p m c cX6_advances 2 s args RX6 D (tyL cI cZ cB)) (hR : EndV p l e rm6_advances s m args below meth c Q D (wM cI cZ h) A cX6_advances res) (hk71 : ∀ (x1 : Int32) (g : Sg) (H : Heap) (locs : List Loc) (ls : Array Slot), k71 x1 g = some res → Zs D (wM cI cZ h) A s.heap H locs g → lv_has ls 2 [(0, .ref (h 0)), (1, .int x1)] → W p l e rm6_advances s m args below meth c H locs 0 0 Q (F0 m 71 ls [])) : ∀ (x1 : Int32) (y0 : Int32) (g : Sg) (H : Heap) (locs : List Loc) (ls : Array Slot), f6_advances_b125 k71 x1 y0 g = some res → Zs D (wM cI cZ h) A s.heap H locs g → lv_has ls 2 [(0, .ref (h 0)), (1, .int x1)] → W p l e rm6_advances s m args below meth c H locs 0 0 Q (F0 m 125 ls [.int y0, .ref (h 0)]) := by
  have hx := C.1.1
  have hb := C.1.2.1
  intro x1 y0 g H locs ls hf hz hl
  unfold f6_advances_b125 at hf
  obtain ⟨g3, eg3, hf⟩ := nx_elim hf
  refine p_RX6_98_model C hz eg3 dX6_advances_125 (fun H locs hz => ?_)
  refine lv_aload_n hx hb dX6_advances_128 rfl (lv_at hl 0 rfl) ?_
  refine lv_dup hx hb dX6_advances_129 rfl ?_
  refine g_RX6_85_model C hz dX6_advances_130 ?_
  refine lv_iconst (v := (1 : Int32)) hx hb dX6_advances_133 (by decide) ?_
  refine lv_iadd hx hb dX6_advances_134 ?_
  obtain ⟨g4, eg4, hf⟩ := nx_elim hf
  refine p_RX6_85_model C hz eg4 dX6_advances_135 (fun H locs hz => ?_)
  refine lv_goto (tgt := 71) hx hb dX6_advances_138 (by decide) ?_
  exact hk71 _ _ _ _ _ hf hz (lv_sub hl [0, 1] rfl)
set_option maxHeartbeats 4000000 in
set_option maxRecDepth 100000 in
theorem w6_advances_b71 {res : Sg} (C : Cx p m c cX6_advances 2 s args RX6 D (tyL cI cZ cB)) (hR : EndV p l e rm6_advances s m args below meth c Q D (wM cI cZ h) A cX6_advances res) : ∀ n : Nat, ∀ (x1 : Int32) (g : Sg) (H : Heap) (locs : List Loc) (ls : Array Slot), f6_advances_b71 n x1 g = some res → Zs D (wM cI cZ h) A s.heap H locs g → lv_has ls 2 [(0, .ref (h 0)), (1, .int x1)] → W p l e rm6_advances s m args below meth c H locs 0 0 Q (F0 m 71 ls []) := by
  have hx := C.1.1
  have hb := C.1.2.1
  intro n
  induction n with
  | zero =>
    intro x1 g H locs ls hf hz hl
    cases hf
  | succ n ih =>
    intro x1 g H locs ls hf hz hl
    rw [f6_advances_b71] at hf
    refine lv_aload_n hx hb dX6_advances_71 rfl (lv_at hl 0 rfl) ?_
    refine lv_aload_n hx hb dX6_advances_72 rfl (lv_at hl 0 rfl) ?_
    refine g_RX6_85_model C hz dX6_advances_73 ?_
    obtain ⟨r7, g6, hc5, hf⟩ := bd2_elim hf
    refine z_VI (As := [.int (g.1 0 4)]) (rest := []) C (c6_letterAt hc5) lk_RX6_88 ⟨rfl, rfl, Nat.le_of_ble_eq_true rfl, Nat.le_of_ble_eq_true rfl⟩ ⟨Nat.zero_le _, Nat.zero_le _⟩ o_model rfl rfl (Nat.le_of_ble_eq_true rfl) rfl hl.1 dX6_advances_76 hz (fun H locs hz => ?_)
    refine lv_bipush (v := (48 : Int32)) hx hb dX6_advances_79 (by decide) ?_
    refine lv_bipush (v := (57 : Int32)) hx hb dX6_advances_81 (by decide) ?_
    obtain ⟨r10, g9, hc8, hf⟩ := bd2_elim hf
    refine z_SI (As := [.int r7, .int (48 : Int32), .int (57 : Int32)]) (rest := []) C (c6_in hc8) lk_RX6_78 ⟨rfl, rfl, Nat.le_of_ble_eq_true rfl, Nat.le_of_ble_eq_true rfl⟩ ⟨Nat.zero_le _, Nat.zero_le _⟩ rfl (Nat.le_of_ble_eq_true rfl) rfl hl.1 dX6_advances_83 hz (fun H locs hz => ?_)
    refine lv_if_eq (tgt := 141) hx hb dX6_advances_86 (by decide) (fun c11 => ?_) (fun c11 => ?_)
    · have hf := ite_t hf c11
      refine lv_aload_n hx hb dX6_advances_141 rfl (lv_at hl 0 rfl) ?_
      refine lv_aload_n hx hb dX6_advances_142 rfl (lv_at hl 0 rfl) ?_
      refine g_RX6_98_model C hz dX6_advances_143 ?_
      refine lv_bipush (v := (99 : Int32)) hx hb dX6_advances_146 (by decide) ?_
      refine lv_icmp_gt (tgt := 170) hx hb dX6_advances_148 (by decide) (fun c12 => ?_) (fun c12 => ?_)
      · have hf := ite_t hf c12
        exact w6_advances_b170 C hR _ _ _ _ hf hz (lv_sub hl [] rfl)
      · have hf := ite_f hf c12
        refine lv_iload_n hx hb dX6_advances_151 rfl (lv_at hl 1 rfl) ?_
        refine lv_bipush (v := (48 : Int32)) hx hb dX6_advances_152 (by decide) ?_
        refine lv_icmp_ne (tgt := 174) hx hb dX6_advances_154 (by decide) (fun c13 => ?_) (fun c13 => ?_)
        · have hf := ite_f hf c13
          exact w6_advances_b174 C hR _ _ _ _ hf hz (lv_sub hl [] rfl)
        · have hf := ite_t hf c13
          refine lv_aload_n hx hb dX6_advances_157 rfl (lv_at hl 0 rfl) ?_
          refine g_RX6_85_model C hz dX6_advances_158 ?_
          refine lv_aload_n hx hb dX6_advances_161 rfl (lv_at hl 0 rfl) ?_
          refine g_RX6_92_model C hz dX6_advances_162 ?_
          refine lv_isub hx hb dX6_advances_165 ?_
          refine lv_iconst (v := (1 : Int32)) hx hb dX6_advances_166 (by decide) ?_
          refine lv_icmp_le (tgt := 174) hx hb dX6_advances_167 (by decide) (fun c14 => ?_) (fun c14 => ?_)
          · have hf := ite_t hf c14
            exact w6_advances_b174 C hR _ _ _ _ hf hz (lv_sub hl [] rfl)
          · have hf := ite_f hf c14
            exact w6_advances_b170 C hR _ _ _ _ hf hz (lv_sub hl [] rfl)
    · have hf := ite_f hf c11
      refine lv_aload_n hx hb dX6_advances_89 rfl (lv_at hl 0 rfl) ?_
      refine lv_aload_n hx hb dX6_advances_90 rfl (lv_at hl 0 rfl) ?_
      refine g_RX6_98_model C hz dX6_advances_91 ?_
      refine lv_bipush (v := (99 : Int32)) hx hb dX6_advances_94 (by decide) ?_
      refine lv_icmp_le (tgt := 106) hx hb dX6_advances_96 (by decide) (fun c15 => ?_) (fun c15 => ?_)
      · have hf := ite_t hf c15
        refine lv_bipush (v := (10 : Int32)) hx hb dX6_advances_106 (by decide) ?_
        refine lv_aload_n hx hb dX6_advances_108 rfl (lv_at hl 0 rfl) ?_
        refine g_RX6_98_model C hz dX6_advances_109 ?_
        refine lv_imul hx hb dX6_advances_112 ?_
        refine lv_aload_n hx hb dX6_advances_113 rfl (lv_at hl 0 rfl) ?_
        refine lv_aload_n hx hb dX6_advances_114 rfl (lv_at hl 0 rfl) ?_
        refine g_RX6_85_model C hz dX6_advances_115 ?_
        obtain ⟨r18, g17, hc16, hf⟩ := bd2_elim hf
        refine z_VI (As := [.int (g9.1 0 4)]) (rest := [.int ((10 : Int32) * (g9.1 0 7)), .ref (h 0)]) C (c6_letterAt hc16) lk_RX6_88 ⟨rfl, rfl, Nat.le_of_ble_eq_true rfl, Nat.le_of_ble_eq_true rfl⟩ ⟨Nat.zero_le _, Nat.zero_le _⟩ o_model rfl rfl (Nat.le_of_ble_eq_true rfl) rfl hl.1 dX6_advances_118 hz (fun H locs hz => ?_)
        refine lv_iadd hx hb dX6_advances_121 ?_
        refine lv_bipush (v := (48 : Int32)) hx hb dX6_advances_122 (by decide) ?_
        refine lv_isub hx hb dX6_advances_124 ?_
        exact w6_advances_b125 C hR ih _ _ _ _ _ _ hf hz (lv_sub hl [0, 1] rfl)
      · have hf := ite_f hf c15
        refine lv_aload_n hx hb dX6_advances_99 rfl (lv_at hl 0 rfl) ?_
        refine g_RX6_98_model C hz dX6_advances_100 ?_
        refine lv_goto (tgt := 125) hx hb dX6_advances_103 (by decide) ?_
        exact w6_advances_b125 C hR ih _ _ _ _ _ _ hf hz (lv_sub hl [0, 1] rfl)
set_option maxHeartbeats 4000000 in
set_option maxRecDepth 100000 in
theorem w6_advances_b0 {res : Sg} (C : Cx p m c cX6_advances 2 s args RX6 D (tyL cI cZ cB)) (hR : EndV p l e rm6_advances s m args below meth c Q D (wM cI cZ h) A cX6_advances res) : ∀ n : Nat, ∀ (g : Sg) (H : Heap) (locs : List Loc) (ls : Array Slot), f6_advances_b0 n g = some res → Zs D (wM cI cZ h) A s.heap H locs g → lv_has ls 2 [(0, .ref (h 0))] → W p l e rm6_advances s m args below meth c H locs 0 0 Q (F0 m 0 ls []) := by
  have hx := C.1.1
  have hb := C.1.2.1
  intro n
  induction n with
  | zero =>
    intro g H locs ls hf hz hl
    cases hf
  | succ n ih =>
    intro g H locs ls hf hz hl
    rw [f6_advances_b0] at hf
    refine lv_aload_n hx hb dX6_advances_0 rfl (lv_at hl 0 rfl) ?_
    refine lv_aload_n hx hb dX6_advances_1 rfl (lv_at hl 0 rfl) ?_
    refine g_RX6_85_model C hz dX6_advances_2 ?_
    obtain ⟨r21, g20, hc19, hf⟩ := bd2_elim hf
    refine z_VI (As := [.int (g.1 0 4)]) (rest := []) C (c6_letterAt hc19) lk_RX6_88 ⟨rfl, rfl, Nat.le_of_ble_eq_true rfl, Nat.le_of_ble_eq_true rfl⟩ ⟨Nat.zero_le _, Nat.zero_le _⟩ o_model rfl rfl (Nat.le_of_ble_eq_true rfl) rfl hl.1 dX6_advances_5 hz (fun H locs hz => ?_)
    refine lv_bipush (v := (32 : Int32)) hx hb dX6_advances_8 (by decide) ?_
    refine lv_icmp_ne (tgt := 26) hx hb dX6_advances_10 (by decide) (fun c22 => ?_) (fun c22 => ?_)
    · have hf := ite_f hf c22
      refine lv_aload_n hx hb dX6_advances_26 rfl (lv_at hl 0 rfl) ?_
      refine lv_aload_n hx hb dX6_advances_27 rfl (lv_at hl 0 rfl) ?_
      refine g_RX6_85_model C hz dX6_advances_28 ?_
      obtain ⟨g23, eg23, hf⟩ := nx_elim hf
      refine p_RX6_92_model C hz eg23 dX6_advances_31 (fun H locs hz => ?_)
      refine lv_aload_n hx hb dX6_advances_34 rfl (lv_at hl 0 rfl) ?_
      refine lv_aload_n hx hb dX6_advances_35 rfl (lv_at hl 0 rfl) ?_
      refine g_RX6_85_model C hz dX6_advances_36 ?_
      obtain ⟨r26, g25, hc24, hf⟩ := bd2_elim hf
      refine z_VI (As := [.int (g23.1 0 4)]) (rest := []) C (c6_letterAt hc24) lk_RX6_88 ⟨rfl, rfl, Nat.le_of_ble_eq_true rfl, Nat.le_of_ble_eq_true rfl⟩ ⟨Nat.zero_le _, Nat.zero_le _⟩ o_model rfl rfl (Nat.le_of_ble_eq_true rfl) rfl hl.1 dX6_advances_39 hz (fun H locs hz => ?_)
      refine lv_istore_n (lv' := [(1, .int r26), (0, .ref (h 0))]) hx hb dX6_advances_42 rfl hl (by decide) rfl (fun ls hl => ?_)
      refine lv_iload_n hx hb dX6_advances_43 rfl (lv_at hl 0 rfl) ?_
      refine lv_if_ge (tgt := 55) hx hb dX6_advances_44 (by decide) (fun c27 => ?_) (fun c27 => ?_)
      · have hf := ite_t hf c27
        refine lv_iload_n hx hb dX6_advances_55 rfl (lv_at hl 0 rfl) ?_
        refine lv_bipush (v := (48 : Int32)) hx hb dX6_advances_56 (by decide) ?_
        refine lv_bipush (v := (57 : Int32)) hx hb dX6_advances_58 (by decide) ?_
        obtain ⟨r30, g29, hc28, hf⟩ := bd2_elim hf
        refine z_SI (As := [.int r26, .int (48 : Int32), .int (57 : Int32)]) (rest := []) C (c6_in hc28) lk_RX6_78 ⟨rfl, rfl, Nat.le_of_ble_eq_true rfl, Nat.le_of_ble_eq_true rfl⟩ ⟨Nat.zero_le _, Nat.zero_le _⟩ rfl (Nat.le_of_ble_eq_true rfl) rfl hl.1 dX6_advances_60 hz (fun H locs hz => ?_)
        refine lv_if_eq (tgt := 181) hx hb dX6_advances_63 (by decide) (fun c31 => ?_) (fun c31 => ?_)
        · have hf := ite_t hf c31
          refine lv_aload_n hx hb dX6_advances_181 rfl (lv_at hl 1 rfl) ?_
          refine lv_dup hx hb dX6_advances_182 rfl ?_
          refine g_RX6_85_model C hz dX6_advances_183 ?_
          refine lv_iconst (v := (1 : Int32)) hx hb dX6_advances_186 (by decide) ?_
          refine lv_iadd hx hb dX6_advances_187 ?_
          obtain ⟨g32, eg32, hf⟩ := nx_elim hf
          refine p_RX6_85_model C hz eg32 dX6_advances_188 (fun H locs hz => ?_)
          refine lv_aload_n hx hb dX6_advances_191 rfl (lv_at hl 1 rfl) ?_
          refine lv_iload_n hx hb dX6_advances_192 rfl (lv_at hl 0 rfl) ?_
          obtain ⟨g33, eg33, hf⟩ := nx_elim hf
          refine p_RX6_98_model C hz eg33 dX6_advances_193 (fun H locs hz => ?_)
          refine lv_aload_n hx hb dX6_advances_196 rfl (lv_at hl 1 rfl) ?_
          refine lv_iload_n hx hb dX6_advances_197 rfl (lv_at hl 0 rfl) ?_
          refine lv_bipush (v := (59 : Int32)) hx hb dX6_advances_198 (by decide) ?_
          refine lv_icmp_ne (tgt := 207) hx hb dX6_advances_200 (by decide) (fun c34 => ?_) (fun c34 => ?_)
          · have hf := ite_f hf c34
            refine lv_iload_n hx hb dX6_advances_207 rfl (lv_at hl 0 rfl) ?_
            obtain ⟨r37, g36, hc35, hf⟩ := bd2_elim hf
            refine z_SI (As := [.int r26]) (rest := [.ref (h 0)]) C (c6_isLetter hc35) lk_RX6_101 ⟨rfl, rfl, Nat.le_of_ble_eq_true rfl, Nat.le_of_ble_eq_true rfl⟩ ⟨Nat.zero_le _, Nat.zero_le _⟩ rfl (Nat.le_of_ble_eq_true rfl) rfl hl.1 dX6_advances_208 hz (fun H locs hz => ?_)
            refine lv_if_eq (tgt := 218) hx hb dX6_advances_211 (by decide) (fun c38 => ?_) (fun c38 => ?_)
            · have hf := ite_t hf c38
              refine lv_iconst (v := (4 : Int32)) hx hb dX6_advances_218 (by decide) ?_
              exact w6_advances_b219 C hR _ _ _ _ _ hf hz (lv_sub hl [] rfl)
            · have hf := ite_f hf c38
              refine lv_iconst (v := (1 : Int32)) hx hb dX6_advances_214 (by decide) ?_
              refine lv_goto (tgt := 219) hx hb dX6_advances_215 (by decide) ?_
              exact w6_advances_b219 C hR _ _ _ _ _ hf hz (lv_sub hl [] rfl)
          · have hf := ite_t hf c34
            refine lv_iconst (v := (3 : Int32)) hx hb dX6_advances_203 (by decide) ?_
            refine lv_goto (tgt := 219) hx hb dX6_advances_204 (by decide) ?_
            exact w6_advances_b219 C hR _ _ _ _ _ hf hz (lv_sub hl [] rfl)
        · have hf := ite_f hf c31
          refine lv_aload_n hx hb dX6_advances_66 rfl (lv_at hl 1 rfl) ?_
          refine lv_iconst (v := (0 : Int32)) hx hb dX6_advances_67 (by decide) ?_
          obtain ⟨g39, eg39, hf⟩ := nx_elim hf
          refine p_RX6_98_model C hz eg39 dX6_advances_68 (fun H locs hz => ?_)
          exact w6_advances_b71 C hR 1000 _ _ _ _ _ hf hz (lv_sub hl [1, 0] rfl)
      · have hf := ite_f hf c27
        refine lv_aload_n hx hb dX6_advances_47 rfl (lv_at hl 1 rfl) ?_
        refine lv_iconst (v := (0 : Int32)) hx hb dX6_advances_48 (by decide) ?_
        obtain ⟨g40, eg40, hf⟩ := nx_elim hf
        refine p_RX6_95_model C hz eg40 dX6_advances_49 (fun H locs hz => ?_)
        refine lv_goto (tgt := 222) hx hb dX6_advances_52 (by decide) ?_
        exact hR _ _ _ _ _ (Option.some.inj hf) hz dX6_advances_222
    · have hf := ite_t hf c22
      refine lv_aload_n hx hb dX6_advances_13 rfl (lv_at hl 0 rfl) ?_
      refine lv_dup hx hb dX6_advances_14 rfl ?_
      refine g_RX6_85_model C hz dX6_advances_15 ?_
      refine lv_iconst (v := (1 : Int32)) hx hb dX6_advances_18 (by decide) ?_
      refine lv_iadd hx hb dX6_advances_19 ?_
      obtain ⟨g41, eg41, hf⟩ := nx_elim hf
      refine p_RX6_85_model C hz eg41 dX6_advances_20 (fun H locs hz => ?_)
      refine lv_goto (tgt := 0) hx hb dX6_advances_23 (by decide) ?_
      exact ih _ _ _ _ hf hz (lv_sub hl [0] rfl)
set_option maxHeartbeats 4000000 in
set_option maxRecDepth 100000 in
theorem c6_advances {l : Launch} {D : va_G} {cI cZ cB : ClassId} {h : Nat → Nat} {g : Sg} {g1 : Sg} (hf : f6_advances g = some g1) : KV l D (tyL cI cZ cB) (wM cI cZ h) yX6_advances cX6_advances 2 none rm6_advances [.ref (h 0)] g g1 := by
  refine KV_mk (own := RX6) (by decide +kernel) rfl (Nat.le_of_ble_eq_true rfl) ?_
  intro p e s m below meth c A Q ls C hR hz hl
  have hl : lv_has ls 2 [(0, .ref (h 0))] := hl
  exact w6_advances_b0 C hR 1000 _ _ _ _ hf hz hl
abbrev rm6_isWell : Room := { frames := 0, cells := 0, slots := 0, locals := 0 }
set_option maxHeartbeats 4000000 in
set_option maxRecDepth 100000 in
theorem w6_isWell_b0 {res : Int32 × Sg} (C : Cx p m c cX6_isWell 1 s args RX6 D (tyL cI cZ cB)) (hR : EndZ p l e rm6_isWell s m args below meth c Q D (wM cI cZ h) A cX6_isWell res) : ∀ (g : Sg) (H : Heap) (locs : List Loc) (ls : Array Slot), f6_isWell g = some res → Zs D (wM cI cZ h) A s.heap H locs g → lv_has ls 1 [(0, .ref (h 0))] → W p l e rm6_isWell s m args below meth c H locs 0 0 Q (F0 m 0 ls []) := by
  have hx := C.1.1
  have hb := C.1.2.1
  intro g H locs ls hf hz hl
  unfold f6_isWell at hf
  refine lv_aload_n hx hb dX6_isWell_0 rfl (lv_at hl 0 rfl) ?_
  refine g_RX6_105_model C hz dX6_isWell_1 ?_
  refine lv_if_ge (tgt := 11) hx hb dX6_isWell_4 (by decide) (fun c1 => ?_) (fun c1 => ?_)
  · have hf := ite_t hf c1
    refine lv_iconst (v := (0 : Int32)) hx hb dX6_isWell_11 (by decide) ?_
    exact hR _ _ _ _ _ _ hf hz dX6_isWell_12
  · have hf := ite_f hf c1
    refine lv_iconst (v := (1 : Int32)) hx hb dX6_isWell_7 (by decide) ?_
    refine lv_goto (tgt := 12) hx hb dX6_isWell_8 (by decide) ?_
    exact hR _ _ _ _ _ _ hf hz dX6_isWell_12
set_option maxHeartbeats 4000000 in
set_option maxRecDepth 100000 in
theorem c6_isWell {l : Launch} {D : va_G} {cI cZ cB : ClassId} {h : Nat → Nat} {g : Sg} {r : Int32} {g1 : Sg} (hf : f6_isWell g = some (r, g1)) : KI l D (tyL cI cZ cB) (wM cI cZ h) yX6_isWell cX6_isWell 1 (some .boolean) rm6_isWell [.ref (h 0)] g r g1 := by
  refine KZ_mk (own := RX6) (by decide +kernel) rfl (Nat.le_of_ble_eq_true rfl) ?_
  intro p e s m below meth c A Q ls C hR hz hl
  have hl : lv_has ls 1 [(0, .ref (h 0))] := hl
  exact w6_isWell_b0 C hR _ _ _ _ hf hz hl
abbrev rm6_takes : Room := { frames := 2, cells := 0, slots := 0, locals := 43 }
set_option maxHeartbeats 4000000 in
set_option maxRecDepth 100000 in
theorem w6_takes_b0 {res : Int32 × Sg} (C : Cx p m c cX6_takes 3 s args RX6 D (tyL cI cZ cB)) (hR : EndI p l e rm6_takes s m args below meth c Q D (wM cI cZ h) A cX6_takes res) : ∀ (x1 : Int32) (g : Sg) (H : Heap) (locs : List Loc) (ls : Array Slot), f6_takes x1 g = some res → Zs D (wM cI cZ h) A s.heap H locs g → lv_has ls 3 [(0, .ref (h 0)), (1, .int x1)] → W p l e rm6_takes s m args below meth c H locs 0 0 Q (F0 m 0 ls []) := by
  have hx := C.1.1
  have hb := C.1.2.1
  intro x1 g H locs ls hf hz hl
  unfold f6_takes at hf
  refine lv_aload_n hx hb dX6_takes_0 rfl (lv_at hl 0 rfl) ?_
  obtain ⟨r3, g2, hc1, hf⟩ := bd2_elim hf
  refine z_VI (As := []) (rest := []) C (c6_isWell hc1) lk_RX6_108 ⟨rfl, rfl, Nat.le_of_ble_eq_true rfl, Nat.le_of_ble_eq_true rfl⟩ ⟨Nat.zero_le _, Nat.zero_le _⟩ o_model rfl rfl (Nat.le_of_ble_eq_true rfl) rfl hl.1 dX6_takes_1 hz (fun H locs hz => ?_)
  refine lv_if_ne (tgt := 9) hx hb dX6_takes_4 (by decide) (fun c4 => ?_) (fun c4 => ?_)
  · have hf := ite_f hf c4
    refine lv_iload_n hx hb dX6_takes_9 rfl (lv_at hl 1 rfl) ?_
    refine lv_if_ne (tgt := 23) hx hb dX6_takes_10 (by decide) (fun c5 => ?_) (fun c5 => ?_)
    · have hf := ite_f hf c5
      refine lv_aload_n hx hb dX6_takes_23 rfl (lv_at hl 0 rfl) ?_
      refine g_RX6_98_model C hz dX6_takes_24 ?_
      obtain ⟨v6, ev6, hf⟩ := nx_elim hf
      refine z_nm ev6 ?_
      refine lv_istore_n (lv' := [(2, .int v6), (0, .ref (h 0)), (1, .int x1)]) hx hb dX6_takes_27 rfl hl (by decide) rfl (fun ls hl => ?_)
      refine lv_aload_n hx hb dX6_takes_28 rfl (lv_at hl 1 rfl) ?_
      obtain ⟨g8, hc7, hf⟩ := bd_elim hf
      refine z_VV (As := []) (rest := []) C (c6_advances hc7) lk_RX6_112 ⟨rfl, rfl, Nat.le_of_ble_eq_true rfl, Nat.le_of_ble_eq_true rfl⟩ ⟨Nat.zero_le _, Nat.zero_le _⟩ o_model rfl rfl (Nat.le_of_ble_eq_true rfl) rfl hl.1 dX6_takes_29 hz (fun H locs hz => ?_)
      refine lv_iload_n hx hb dX6_takes_32 rfl (lv_at hl 0 rfl) ?_
      exact hR _ _ _ _ _ _ (Option.some.inj hf) hz dX6_takes_33
    · have hf := ite_t hf c5
      refine lv_aload_n hx hb dX6_takes_13 rfl (lv_at hl 0 rfl) ?_
      refine lv_aload_n hx hb dX6_takes_14 rfl (lv_at hl 0 rfl) ?_
      refine g_RX6_92_model C hz dX6_takes_15 ?_
      obtain ⟨g9, eg9, hf⟩ := nx_elim hf
      refine p_RX6_105_model C hz eg9 dX6_takes_18 (fun H locs hz => ?_)
      refine lv_iconst (v := (0 : Int32)) hx hb dX6_takes_21 (by decide) ?_
      exact hR _ _ _ _ _ _ (Option.some.inj hf) hz dX6_takes_22
  · have hf := ite_t hf c4
    refine lv_iconst (v := (0 : Int32)) hx hb dX6_takes_7 (by decide) ?_
    exact hR _ _ _ _ _ _ (Option.some.inj hf) hz dX6_takes_8
set_option maxHeartbeats 4000000 in
set_option maxRecDepth 100000 in
theorem c6_takes {l : Launch} {D : va_G} {cI cZ cB : ClassId} {h : Nat → Nat} {x1 : Int32} {g : Sg} {r : Int32} {g1 : Sg} (hf : f6_takes x1 g = some (r, g1)) : KI l D (tyL cI cZ cB) (wM cI cZ h) yX6_takes cX6_takes 3 (some .int) rm6_takes [.ref (h 0), .int x1] g r g1 := by
  refine KI_mk (own := RX6) (by decide +kernel) rfl (Nat.le_of_ble_eq_true rfl) ?_
  intro p e s m below meth c A Q ls C hR hz hl
  have hl : lv_has ls 3 [(0, .ref (h 0)), (1, .int x1)] := hl
  exact w6_takes_b0 C hR _ _ _ _ _ hf hz hl
abbrev rm6_number : Room := { frames := 3, cells := 0, slots := 0, locals := 65 }
set_option maxHeartbeats 4000000 in
set_option maxRecDepth 100000 in
theorem w6_number_b26 {res : Int32 × Sg} (C : Cx p m c cX6_number 3 s args RX6 D (tyL cI cZ cB)) (hR : EndI p l e rm6_number s m args below meth c Q D (wM cI cZ h) A cX6_number res) : ∀ (y0 : Int32) (g : Sg) (H : Heap) (locs : List Loc) (ls : Array Slot), f6_number_b26 y0 g = some res → Zs D (wM cI cZ h) A s.heap H locs g → lv_has ls 3 [] → W p l e rm6_number s m args below meth c H locs 0 0 Q (F0 m 26 ls [.int y0, .ref (h 0)]) := by
  have hx := C.1.1
  have hb := C.1.2.1
  intro y0 g H locs ls hf hz hl
  unfold f6_number_b26 at hf
  obtain ⟨r3, g2, hc1, hf⟩ := bd2_elim hf
  refine z_VI (As := [.int y0]) (rest := []) C (c6_takes hc1) lk_RX6_115 ⟨rfl, rfl, Nat.le_of_ble_eq_true rfl, Nat.le_of_ble_eq_true rfl⟩ ⟨Nat.zero_le _, Nat.zero_le _⟩ o_model rfl rfl (Nat.le_of_ble_eq_true rfl) rfl hl.1 dX6_number_26 hz (fun H locs hz => ?_)
  exact hR _ _ _ _ _ _ (Option.some.inj hf) hz dX6_number_29
set_option maxHeartbeats 4000000 in
set_option maxRecDepth 100000 in
theorem w6_number_b25 {res : Int32 × Sg} (C : Cx p m c cX6_number 3 s args RX6 D (tyL cI cZ cB)) (hR : EndI p l e rm6_number s m args below meth c Q D (wM cI cZ h) A cX6_number res) : ∀ (g : Sg) (H : Heap) (locs : List Loc) (ls : Array Slot), f6_number_b25 g = some res → Zs D (wM cI cZ h) A s.heap H locs g → lv_has ls 3 [] → W p l e rm6_number s m args below meth c H locs 0 0 Q (F0 m 25 ls [.ref (h 0)]) := by
  have hx := C.1.1
  have hb := C.1.2.1
  intro g H locs ls hf hz hl
  unfold f6_number_b25 at hf
  refine lv_iconst (v := (0 : Int32)) hx hb dX6_number_25 (by decide) ?_
  exact w6_number_b26 C hR _ _ _ _ _ hf hz (lv_sub hl [] rfl)
set_option maxHeartbeats 4000000 in
set_option maxRecDepth 100000 in
theorem w6_number_b0 {res : Int32 × Sg} (C : Cx p m c cX6_number 3 s args RX6 D (tyL cI cZ cB)) (hR : EndI p l e rm6_number s m args below meth c Q D (wM cI cZ h) A cX6_number res) : ∀ (x1 : Int32) (x2 : Int32) (g : Sg) (H : Heap) (locs : List Loc) (ls : Array Slot), f6_number x1 x2 g = some res → Zs D (wM cI cZ h) A s.heap H locs g → lv_has ls 3 [(0, .ref (h 0)), (1, .int x1), (2, .int x2)] → W p l e rm6_number s m args below meth c H locs 0 0 Q (F0 m 0 ls []) := by
  have hx := C.1.1
  have hb := C.1.2.1
  intro x1 x2 g H locs ls hf hz hl
  unfold f6_number at hf
  refine lv_aload_n hx hb dX6_number_0 rfl (lv_at hl 0 rfl) ?_
  refine lv_aload_n hx hb dX6_number_1 rfl (lv_at hl 0 rfl) ?_
  refine g_RX6_95_model C hz dX6_number_2 ?_
  refine lv_iconst (v := (2 : Int32)) hx hb dX6_number_5 (by decide) ?_
  refine lv_icmp_ne (tgt := 25) hx hb dX6_number_6 (by decide) (fun c4 => ?_) (fun c4 => ?_)
  · have hf := ite_f hf c4
    exact w6_number_b25 C hR _ _ _ _ hf hz (lv_sub hl [] rfl)
  · have hf := ite_t hf c4
    refine lv_aload_n hx hb dX6_number_9 rfl (lv_at hl 0 rfl) ?_
    refine g_RX6_98_model C hz dX6_number_10 ?_
    refine lv_iload_n hx hb dX6_number_13 rfl (lv_at hl 1 rfl) ?_
    refine lv_iload_n hx hb dX6_number_14 rfl (lv_at hl 2 rfl) ?_
    obtain ⟨r7, g6, hc5, hf⟩ := bd2_elim hf
    refine z_SI (As := [.int (g.1 0 7), .int x1, .int x2]) (rest := [.ref (h 0)]) C (c6_in hc5) lk_RX6_78 ⟨rfl, rfl, Nat.le_of_ble_eq_true rfl, Nat.le_of_ble_eq_true rfl⟩ ⟨Nat.zero_le _, Nat.zero_le _⟩ rfl (Nat.le_of_ble_eq_true rfl) rfl hl.1 dX6_number_15 hz (fun H locs hz => ?_)
    refine lv_if_eq (tgt := 25) hx hb dX6_number_18 (by decide) (fun c8 => ?_) (fun c8 => ?_)
    · have hf := ite_t hf c8
      exact w6_number_b25 C hR _ _ _ _ hf hz (lv_sub hl [] rfl)
    · have hf := ite_f hf c8
      refine lv_iconst (v := (1 : Int32)) hx hb dX6_number_21 (by decide) ?_
      refine lv_goto (tgt := 26) hx hb dX6_number_22 (by decide) ?_
      exact w6_number_b26 C hR _ _ _ _ _ hf hz (lv_sub hl [] rfl)
set_option maxHeartbeats 4000000 in
set_option maxRecDepth 100000 in
theorem c6_number {l : Launch} {D : va_G} {cI cZ cB : ClassId} {h : Nat → Nat} {x1 : Int32} {x2 : Int32} {g : Sg} {r : Int32} {g1 : Sg} (hf : f6_number x1 x2 g = some (r, g1)) : KI l D (tyL cI cZ cB) (wM cI cZ h) yX6_number cX6_number 3 (some .int) rm6_number [.ref (h 0), .int x1, .int x2] g r g1 := by
  refine KI_mk (own := RX6) (by decide +kernel) rfl (Nat.le_of_ble_eq_true rfl) ?_
  intro p e s m below meth c A Q ls C hR hz hl
  have hl : lv_has ls 3 [(0, .ref (h 0)), (1, .int x1), (2, .int x2)] := hl
  exact w6_number_b0 C hR _ _ _ _ _ _ hf hz hl
abbrev rm6_begins : Room := { frames := 0, cells := 0, slots := 0, locals := 0 }
set_option maxHeartbeats 4000000 in
set_option maxRecDepth 100000 in
theorem w6_begins_b40 {res : Sg} (C : Cx p m c cX6_begins 2 s args RX6 D (tyL cI cZ cB)) (hR : EndV p l e rm6_begins s m args below meth c Q D (wM cI cZ h) A cX6_begins res) : ∀ n : Nat, ∀ (x1 : Int32) (g : Sg) (H : Heap) (locs : List Loc) (ls : Array Slot), f6_begins_b40 n x1 g = some res → Zs D (wM cI cZ h) A s.heap H locs g → lv_has ls 2 [(0, .ref (h 0)), (1, .int x1)] → W p l e rm6_begins s m args below meth c H locs 0 0 Q (F0 m 40 ls []) := by
  have hx := C.1.1
  have hb := C.1.2.1
  intro n
  induction n with
  | zero =>
    intro x1 g H locs ls hf hz hl
    cases hf
  | succ n ih =>
    intro x1 g H locs ls hf hz hl
    rw [f6_begins_b40] at hf
    refine lv_iload_n hx hb dX6_begins_40 rfl (lv_at hl 1 rfl) ?_
    refine lv_bipush (v := (16 : Int32)) hx hb dX6_begins_41 (by decide) ?_
    refine lv_icmp_ge (tgt := 59) hx hb dX6_begins_43 (by decide) (fun c1 => ?_) (fun c1 => ?_)
    · have hf := ite_t hf c1
      exact hR _ _ _ _ _ (Option.some.inj hf) hz dX6_begins_59
    · have hf := ite_f hf c1
      refine lv_aload_n hx hb dX6_begins_46 rfl (lv_at hl 0 rfl) ?_
      refine g_RX6_43_model C hz dX6_begins_47 ?_
      refine lv_iload_n hx hb dX6_begins_50 rfl (lv_at hl 1 rfl) ?_
      refine lv_iconst (v := (0 : Int32)) hx hb dX6_begins_51 (by decide) ?_
      obtain ⟨c2, hf⟩ := ix_elim hf
      obtain ⟨g3, eg3, hf⟩ := nx_elim hf
      refine z_iast C hz a_m_clash c2 eg3 dX6_begins_52 (fun H locs hz => ?_)
      obtain ⟨v4, ev4, hf⟩ := nx_elim hf
      refine lv_iinc (v := v4) (lv' := [(1, .int v4), (0, .ref (h 0))]) hx hb dX6_begins_53 hl (k := 1) rfl (by rw [ev4]; rfl) (by decide) rfl (fun ls hl => ?_)
      refine lv_goto (tgt := 40) hx hb dX6_begins_56 (by decide) ?_
      exact ih _ _ _ _ _ hf hz (lv_sub hl [1, 0] rfl)
set_option maxHeartbeats 4000000 in
set_option maxRecDepth 100000 in
theorem w6_begins_b0 {res : Sg} (C : Cx p m c cX6_begins 2 s args RX6 D (tyL cI cZ cB)) (hR : EndV p l e rm6_begins s m args below meth c Q D (wM cI cZ h) A cX6_begins res) : ∀ (g : Sg) (H : Heap) (locs : List Loc) (ls : Array Slot), f6_begins g = some res → Zs D (wM cI cZ h) A s.heap H locs g → lv_has ls 2 [(0, .ref (h 0))] → W p l e rm6_begins s m args below meth c H locs 0 0 Q (F0 m 0 ls []) := by
  have hx := C.1.1
  have hb := C.1.2.1
  intro g H locs ls hf hz hl
  unfold f6_begins at hf
  refine lv_aload_n hx hb dX6_begins_0 rfl (lv_at hl 0 rfl) ?_
  refine lv_iconst (v := (0 : Int32)) hx hb dX6_begins_1 (by decide) ?_
  obtain ⟨g5, eg5, hf⟩ := nx_elim hf
  refine p_RX6_119_model C hz eg5 dX6_begins_2 (fun H locs hz => ?_)
  refine lv_aload_n hx hb dX6_begins_5 rfl (lv_at hl 0 rfl) ?_
  refine g_RX6_13_model C hz dX6_begins_6 ?_
  refine lv_iconst (v := (4 : Int32)) hx hb dX6_begins_9 (by decide) ?_
  refine lv_iconst (v := (0 : Int32)) hx hb dX6_begins_10 (by decide) ?_
  obtain ⟨g6, eg6, hf⟩ := nx_elim hf
  refine z_iastL C hz a_m_many (vpl (n := 4) (by decide) (by decide)) (k := 4) (by decide) eg6 dX6_begins_11 (fun H locs hz => ?_)
  refine lv_aload_n hx hb dX6_begins_12 rfl (lv_at hl 0 rfl) ?_
  refine g_RX6_13_model C hz dX6_begins_13 ?_
  refine lv_iconst (v := (5 : Int32)) hx hb dX6_begins_16 (by decide) ?_
  refine lv_iconst (v := (0 : Int32)) hx hb dX6_begins_17 (by decide) ?_
  obtain ⟨g7, eg7, hf⟩ := nx_elim hf
  refine z_iastL C hz a_m_many (vpl (n := 5) (by decide) (by decide)) (k := 5) (by decide) eg7 dX6_begins_18 (fun H locs hz => ?_)
  refine lv_aload_n hx hb dX6_begins_19 rfl (lv_at hl 0 rfl) ?_
  refine g_RX6_13_model C hz dX6_begins_20 ?_
  refine lv_bipush (v := (6 : Int32)) hx hb dX6_begins_23 (by decide) ?_
  refine lv_bipush (v := (10 : Int32)) hx hb dX6_begins_25 (by decide) ?_
  obtain ⟨g8, eg8, hf⟩ := nx_elim hf
  refine z_iastL C hz a_m_many (vpl (n := 6) (by decide) (by decide)) (k := 6) (by decide) eg8 dX6_begins_27 (fun H locs hz => ?_)
  refine lv_aload_n hx hb dX6_begins_28 rfl (lv_at hl 0 rfl) ?_
  refine g_RX6_13_model C hz dX6_begins_29 ?_
  refine lv_bipush (v := (7 : Int32)) hx hb dX6_begins_32 (by decide) ?_
  refine lv_bipush (v := (12 : Int32)) hx hb dX6_begins_34 (by decide) ?_
  obtain ⟨g9, eg9, hf⟩ := nx_elim hf
  refine z_iastL C hz a_m_many (vpl (n := 7) (by decide) (by decide)) (k := 7) (by decide) eg9 dX6_begins_36 (fun H locs hz => ?_)
  refine lv_bipush (v := (8 : Int32)) hx hb dX6_begins_37 (by decide) ?_
  refine lv_istore_n (lv' := [(1, .int (8 : Int32)), (0, .ref (h 0))]) hx hb dX6_begins_39 rfl hl (by decide) rfl (fun ls hl => ?_)
  exact w6_begins_b40 C hR 1000 _ _ _ _ _ hf hz (lv_sub hl [1, 0] rfl)
set_option maxHeartbeats 4000000 in
set_option maxRecDepth 100000 in
theorem c6_begins {l : Launch} {D : va_G} {cI cZ cB : ClassId} {h : Nat → Nat} {g : Sg} {g1 : Sg} (hf : f6_begins g = some g1) : KV l D (tyL cI cZ cB) (wM cI cZ h) yX6_begins cX6_begins 2 none rm6_begins [.ref (h 0)] g g1 := by
  refine KV_mk (own := RX6) (by decide +kernel) rfl (Nat.le_of_ble_eq_true rfl) ?_
  intro p e s m below meth c A Q ls C hR hz hl
  have hl : lv_has ls 2 [(0, .ref (h 0))] := hl
  exact w6_begins_b0 C hR _ _ _ _ hf hz hl
abbrev rm6_mayBegin : Room := { frames := 0, cells := 0, slots := 0, locals := 0 }
set_option maxHeartbeats 4000000 in
set_option maxRecDepth 100000 in
theorem w6_mayBegin_b94 {res : Int32 × Sg} (C : Cx p m c cX6_mayBegin 1 s args RX6 D (tyL cI cZ cB)) (hR : EndZ p l e rm6_mayBegin s m args below meth c Q D (wM cI cZ h) A cX6_mayBegin res) : ∀ (g : Sg) (H : Heap) (locs : List Loc) (ls : Array Slot), f6_mayBegin_b94 g = some res → Zs D (wM cI cZ h) A s.heap H locs g → lv_has ls 1 [] → W p l e rm6_mayBegin s m args below meth c H locs 0 0 Q (F0 m 94 ls []) := by
  have hx := C.1.1
  have hb := C.1.2.1
  intro g H locs ls hf hz hl
  unfold f6_mayBegin_b94 at hf
  refine lv_iconst (v := (1 : Int32)) hx hb dX6_mayBegin_94 (by decide) ?_
  refine lv_goto (tgt := 99) hx hb dX6_mayBegin_95 (by decide) ?_
  exact hR _ _ _ _ _ _ hf hz dX6_mayBegin_99
set_option maxHeartbeats 4000000 in
set_option maxRecDepth 100000 in
theorem w6_mayBegin_b90 {res : Int32 × Sg} (C : Cx p m c cX6_mayBegin 1 s args RX6 D (tyL cI cZ cB)) (hR : EndZ p l e rm6_mayBegin s m args below meth c Q D (wM cI cZ h) A cX6_mayBegin res) : ∀ (y0 : Int32) (y1 : Int32) (g : Sg) (H : Heap) (locs : List Loc) (ls : Array Slot), f6_mayBegin_b90 y0 y1 g = some res → Zs D (wM cI cZ h) A s.heap H locs g → lv_has ls 1 [] → W p l e rm6_mayBegin s m args below meth c H locs 0 0 Q (F0 m 90 ls [.int y0, .int y1]) := by
  have hx := C.1.1
  have hb := C.1.2.1
  intro y0 y1 g H locs ls hf hz hl
  unfold f6_mayBegin_b90 at hf
  refine lv_iand hx hb dX6_mayBegin_90 ?_
  refine lv_if_ne (tgt := 98) hx hb dX6_mayBegin_91 (by decide) (fun c1 => ?_) (fun c1 => ?_)
  · have hf := ite_f hf c1
    refine lv_iconst (v := (0 : Int32)) hx hb dX6_mayBegin_98 (by decide) ?_
    exact hR _ _ _ _ _ _ hf hz dX6_mayBegin_99
  · have hf := ite_t hf c1
    exact w6_mayBegin_b94 C hR _ _ _ _ hf hz (lv_sub hl [] rfl)
set_option maxHeartbeats 4000000 in
set_option maxRecDepth 100000 in
theorem w6_mayBegin_b18 {res : Int32 × Sg} (C : Cx p m c cX6_mayBegin 1 s args RX6 D (tyL cI cZ cB)) (hR : EndZ p l e rm6_mayBegin s m args below meth c Q D (wM cI cZ h) A cX6_mayBegin res) : ∀ (g : Sg) (H : Heap) (locs : List Loc) (ls : Array Slot), f6_mayBegin_b18 g = some res → Zs D (wM cI cZ h) A s.heap H locs g → lv_has ls 1 [(0, .ref (h 0))] → W p l e rm6_mayBegin s m args below meth c H locs 0 0 Q (F0 m 18 ls []) := by
  have hx := C.1.1
  have hb := C.1.2.1
  intro g H locs ls hf hz hl
  unfold f6_mayBegin_b18 at hf
  refine lv_aload_n hx hb dX6_mayBegin_18 rfl (lv_at hl 0 rfl) ?_
  refine g_RX6_98_model C hz dX6_mayBegin_19 ?_
  refine lv_bipush (v := (112 : Int32)) hx hb dX6_mayBegin_22 (by decide) ?_
  refine lv_icmp_ne (tgt := 46) hx hb dX6_mayBegin_24 (by decide) (fun c2 => ?_) (fun c2 => ?_)
  · have hf := ite_f hf c2
    refine lv_aload_n hx hb dX6_mayBegin_46 rfl (lv_at hl 0 rfl) ?_
    refine g_RX6_13_model C hz dX6_mayBegin_47 ?_
    refine lv_iconst (v := (5 : Int32)) hx hb dX6_mayBegin_50 (by decide) ?_
    refine z_ialdL C hz a_m_many (vpl (n := 5) (by decide) (by decide)) (k := 5) (by decide) dX6_mayBegin_51 ?_
    refine lv_bipush (v := (8 : Int32)) hx hb dX6_mayBegin_52 (by decide) ?_
    refine lv_icmp_ge (tgt := 61) hx hb dX6_mayBegin_54 (by decide) (fun c3 => ?_) (fun c3 => ?_)
    · have hf := ite_t hf c3
      refine lv_iconst (v := (0 : Int32)) hx hb dX6_mayBegin_61 (by decide) ?_
      exact hR _ _ _ _ _ _ hf hz dX6_mayBegin_62
    · have hf := ite_f hf c3
      refine lv_iconst (v := (1 : Int32)) hx hb dX6_mayBegin_57 (by decide) ?_
      refine lv_goto (tgt := 62) hx hb dX6_mayBegin_58 (by decide) ?_
      exact hR _ _ _ _ _ _ hf hz dX6_mayBegin_62
  · have hf := ite_t hf c2
    refine lv_aload_n hx hb dX6_mayBegin_27 rfl (lv_at hl 0 rfl) ?_
    refine g_RX6_13_model C hz dX6_mayBegin_28 ?_
    refine lv_iconst (v := (4 : Int32)) hx hb dX6_mayBegin_31 (by decide) ?_
    refine z_ialdL C hz a_m_many (vpl (n := 4) (by decide) (by decide)) (k := 4) (by decide) dX6_mayBegin_32 ?_
    refine lv_bipush (v := (6 : Int32)) hx hb dX6_mayBegin_33 (by decide) ?_
    refine lv_icmp_ge (tgt := 42) hx hb dX6_mayBegin_35 (by decide) (fun c4 => ?_) (fun c4 => ?_)
    · have hf := ite_t hf c4
      refine lv_iconst (v := (0 : Int32)) hx hb dX6_mayBegin_42 (by decide) ?_
      refine lv_goto (tgt := 62) hx hb dX6_mayBegin_43 (by decide) ?_
      exact hR _ _ _ _ _ _ hf hz dX6_mayBegin_62
    · have hf := ite_f hf c4
      refine lv_iconst (v := (1 : Int32)) hx hb dX6_mayBegin_38 (by decide) ?_
      refine lv_goto (tgt := 62) hx hb dX6_mayBegin_39 (by decide) ?_
      exact hR _ _ _ _ _ _ hf hz dX6_mayBegin_62
set_option maxHeartbeats 4000000 in
set_option maxRecDepth 100000 in
theorem w6_mayBegin_b0 {res : Int32 × Sg} (C : Cx p m c cX6_mayBegin 1 s args RX6 D (tyL cI cZ cB)) (hR : EndZ p l e rm6_mayBegin s m args below meth c Q D (wM cI cZ h) A cX6_mayBegin res) : ∀ (g : Sg) (H : Heap) (locs : List Loc) (ls : Array Slot), f6_mayBegin g = some res → Zs D (wM cI cZ h) A s.heap H locs g → lv_has ls 1 [(0, .ref (h 0))] → W p l e rm6_mayBegin s m args below meth c H locs 0 0 Q (F0 m 0 ls []) := by
  have hx := C.1.1
  have hb := C.1.2.1
  intro g H locs ls hf hz hl
  unfold f6_mayBegin at hf
  refine lv_aload_n hx hb dX6_mayBegin_0 rfl (lv_at hl 0 rfl) ?_
  refine g_RX6_98_model C hz dX6_mayBegin_1 ?_
  refine lv_bipush (v := (112 : Int32)) hx hb dX6_mayBegin_4 (by decide) ?_
  refine lv_icmp_eq (tgt := 18) hx hb dX6_mayBegin_6 (by decide) (fun c5 => ?_) (fun c5 => ?_)
  · have hf := ite_t hf c5
    exact w6_mayBegin_b18 C hR _ _ _ _ hf hz (lv_sub hl [0] rfl)
  · have hf := ite_f hf c5
    refine lv_aload_n hx hb dX6_mayBegin_9 rfl (lv_at hl 0 rfl) ?_
    refine g_RX6_98_model C hz dX6_mayBegin_10 ?_
    refine lv_bipush (v := (109 : Int32)) hx hb dX6_mayBegin_13 (by decide) ?_
    refine lv_icmp_ne (tgt := 63) hx hb dX6_mayBegin_15 (by decide) (fun c6 => ?_) (fun c6 => ?_)
    · have hf := ite_f hf c6
      refine lv_aload_n hx hb dX6_mayBegin_63 rfl (lv_at hl 0 rfl) ?_
      refine g_RX6_98_model C hz dX6_mayBegin_64 ?_
      refine lv_bipush (v := (120 : Int32)) hx hb dX6_mayBegin_67 (by decide) ?_
      refine lv_icmp_eq (tgt := 94) hx hb dX6_mayBegin_69 (by decide) (fun c7 => ?_) (fun c7 => ?_)
      · have hf := ite_t hf c7
        exact w6_mayBegin_b94 C hR _ _ _ _ hf hz (lv_sub hl [] rfl)
      · have hf := ite_f hf c7
        refine lv_aload_n hx hb dX6_mayBegin_72 rfl (lv_at hl 0 rfl) ?_
        refine g_RX6_119_model C hz dX6_mayBegin_73 ?_
        refine lv_aload_n hx hb dX6_mayBegin_76 rfl (lv_at hl 0 rfl) ?_
        refine g_RX6_98_model C hz dX6_mayBegin_77 ?_
        refine lv_bipush (v := (97 : Int32)) hx hb dX6_mayBegin_80 (by decide) ?_
        refine lv_icmp_ne (tgt := 89) hx hb dX6_mayBegin_82 (by decide) (fun c8 => ?_) (fun c8 => ?_)
        · have hf := ite_f hf c8
          refine lv_iconst (v := (2 : Int32)) hx hb dX6_mayBegin_89 (by decide) ?_
          exact w6_mayBegin_b90 C hR _ _ _ _ _ _ hf hz (lv_sub hl [] rfl)
        · have hf := ite_t hf c8
          refine lv_iconst (v := (1 : Int32)) hx hb dX6_mayBegin_85 (by decide) ?_
          refine lv_goto (tgt := 90) hx hb dX6_mayBegin_86 (by decide) ?_
          exact w6_mayBegin_b90 C hR _ _ _ _ _ _ hf hz (lv_sub hl [] rfl)
    · have hf := ite_t hf c6
      exact w6_mayBegin_b18 C hR _ _ _ _ hf hz (lv_sub hl [0] rfl)
set_option maxHeartbeats 4000000 in
set_option maxRecDepth 100000 in
theorem c6_mayBegin {l : Launch} {D : va_G} {cI cZ cB : ClassId} {h : Nat → Nat} {g : Sg} {r : Int32} {g1 : Sg} (hf : f6_mayBegin g = some (r, g1)) : KI l D (tyL cI cZ cB) (wM cI cZ h) yX6_mayBegin cX6_mayBegin 1 (some .boolean) rm6_mayBegin [.ref (h 0)] g r g1 := by
  refine KZ_mk (own := RX6) (by decide +kernel) rfl (Nat.le_of_ble_eq_true rfl) ?_
  intro p e s m below meth c A Q ls C hR hz hl
  have hl : lv_has ls 1 [(0, .ref (h 0))] := hl
  exact w6_mayBegin_b0 C hR _ _ _ _ hf hz hl
abbrev rm6_readsPromise : Room := { frames := 4, cells := 0, slots := 0, locals := 87 }
set_option maxHeartbeats 4000000 in
set_option maxRecDepth 100000 in
theorem w6_readsPromise_b160 {res : Sg} (C : Cx p m c cX6_readsPromise 4 s args RX6 D (tyL cI cZ cB)) (hR : EndV p l e rm6_readsPromise s m args below meth c Q D (wM cI cZ h) A cX6_readsPromise res) : ∀ (x1 : Int32) (x2 : Int32) (g : Sg) (H : Heap) (locs : List Loc) (ls : Array Slot), f6_readsPromise_b160 x1 x2 g = some res → Zs D (wM cI cZ h) A s.heap H locs g → lv_has ls 4 [(0, .ref (h 0)), (1, .int x1), (2, .int x2)] → W p l e rm6_readsPromise s m args below meth c H locs 0 0 Q (F0 m 160 ls []) := by
  have hx := C.1.1
  have hb := C.1.2.1
  intro x1 x2 g H locs ls hf hz hl
  unfold f6_readsPromise_b160 at hf
  refine lv_aload_n hx hb dX6_readsPromise_160 rfl (lv_at hl 0 rfl) ?_
  refine g_RX6_37_model C hz dX6_readsPromise_161 ?_
  refine lv_iload_n hx hb dX6_readsPromise_164 rfl (lv_at hl 1 rfl) ?_
  refine lv_iload_n hx hb dX6_readsPromise_165 rfl (lv_at hl 2 rfl) ?_
  obtain ⟨c1, hf⟩ := ix_elim hf
  obtain ⟨g2, eg2, hf⟩ := nx_elim hf
  refine z_iast C hz a_m_words c1 eg2 dX6_readsPromise_166 (fun H locs hz => ?_)
  refine lv_aload_n hx hb dX6_readsPromise_167 rfl (lv_at hl 0 rfl) ?_
  refine g_RX6_13_model C hz dX6_readsPromise_168 ?_
  refine lv_iconst (v := (5 : Int32)) hx hb dX6_readsPromise_171 (by decide) ?_
  refine lv_dup2_11 hx hb dX6_readsPromise_172 rfl rfl ?_
  refine z_ialdL C hz a_m_many (vpl (n := 5) (by decide) (by decide)) (k := 5) (by decide) dX6_readsPromise_173 ?_
  refine lv_iconst (v := (1 : Int32)) hx hb dX6_readsPromise_174 (by decide) ?_
  refine lv_iadd hx hb dX6_readsPromise_175 ?_
  obtain ⟨g3, eg3, hf⟩ := nx_elim hf
  refine z_iastL C hz a_m_many (vpl (n := 5) (by decide) (by decide)) (k := 5) (by decide) eg3 dX6_readsPromise_176 (fun H locs hz => ?_)
  exact hR _ _ _ _ _ (Option.some.inj hf) hz dX6_readsPromise_177
set_option maxHeartbeats 4000000 in
set_option maxRecDepth 100000 in
theorem w6_readsPromise_b157 {res : Sg} {k81 : Int32 → Int32 → Sg → Option (Sg)} (C : Cx p m c cX6_readsPromise 4 s args RX6 D (tyL cI cZ cB)) (hR : EndV p l e rm6_readsPromise s m args below meth c Q D (wM cI cZ h) A cX6_readsPromise res) (hk81 : ∀ (x1 : Int32) (x2 : Int32) (g : Sg) (H : Heap) (locs : List Loc) (ls : Array Slot), k81 x1 x2 g = some res → Zs D (wM cI cZ h) A s.heap H locs g → lv_has ls 4 [(0, .ref (h 0)), (1, .int x1), (2, .int x2)] → W p l e rm6_readsPromise s m args below meth c H locs 0 0 Q (F0 m 81 ls [])) : ∀ (x1 : Int32) (x2 : Int32) (g : Sg) (H : Heap) (locs : List Loc) (ls : Array Slot), f6_readsPromise_b157 k81 x1 x2 g = some res → Zs D (wM cI cZ h) A s.heap H locs g → lv_has ls 4 [(0, .ref (h 0)), (1, .int x1), (2, .int x2)] → W p l e rm6_readsPromise s m args below meth c H locs 0 0 Q (F0 m 157 ls []) := by
  have hx := C.1.1
  have hb := C.1.2.1
  intro x1 x2 g H locs ls hf hz hl
  unfold f6_readsPromise_b157 at hf
  refine lv_goto (tgt := 81) hx hb dX6_readsPromise_157 (by decide) ?_
  exact hk81 _ _ _ _ _ _ hf hz (lv_sub hl [0, 1, 2] rfl)
set_option maxHeartbeats 4000000 in
set_option maxRecDepth 100000 in
theorem w6_readsPromise_b132 {res : Sg} {k81 : Int32 → Int32 → Sg → Option (Sg)} (C : Cx p m c cX6_readsPromise 4 s args RX6 D (tyL cI cZ cB)) (hR : EndV p l e rm6_readsPromise s m args below meth c Q D (wM cI cZ h) A cX6_readsPromise res) (hk81 : ∀ (x1 : Int32) (x2 : Int32) (g : Sg) (H : Heap) (locs : List Loc) (ls : Array Slot), k81 x1 x2 g = some res → Zs D (wM cI cZ h) A s.heap H locs g → lv_has ls 4 [(0, .ref (h 0)), (1, .int x1), (2, .int x2)] → W p l e rm6_readsPromise s m args below meth c H locs 0 0 Q (F0 m 81 ls [])) : ∀ (x1 : Int32) (x2 : Int32) (y0 : Int32) (g : Sg) (H : Heap) (locs : List Loc) (ls : Array Slot), f6_readsPromise_b132 k81 x1 x2 y0 g = some res → Zs D (wM cI cZ h) A s.heap H locs g → lv_has ls 4 [(0, .ref (h 0)), (1, .int x1), (2, .int x2)] → W p l e rm6_readsPromise s m args below meth c H locs 0 0 Q (F0 m 132 ls [.int y0, .ref (h 0)]) := by
  have hx := C.1.1
  have hb := C.1.2.1
  intro x1 x2 y0 g H locs ls hf hz hl
  unfold f6_readsPromise_b132 at hf
  obtain ⟨r6, g5, hc4, hf⟩ := bd2_elim hf
  refine z_VI (As := [.int y0]) (rest := []) C (c6_takes hc4) lk_RX6_115 ⟨rfl, rfl, Nat.le_of_ble_eq_true rfl, Nat.le_of_ble_eq_true rfl⟩ ⟨Nat.zero_le _, Nat.zero_le _⟩ o_model rfl rfl (Nat.le_of_ble_eq_true rfl) rfl hl.1 dX6_readsPromise_132 hz (fun H locs hz => ?_)
  refine lv_istore_n (lv' := [(3, .int r6), (0, .ref (h 0)), (1, .int x1), (2, .int x2)]) hx hb dX6_readsPromise_135 rfl hl (by decide) rfl (fun ls hl => ?_)
  refine lv_aload_n hx hb dX6_readsPromise_136 rfl (lv_at hl 1 rfl) ?_
  obtain ⟨r9, g8, hc7, hf⟩ := bd2_elim hf
  refine z_VI (As := []) (rest := []) C (c6_isWell hc7) lk_RX6_108 ⟨rfl, rfl, Nat.le_of_ble_eq_true rfl, Nat.le_of_ble_eq_true rfl⟩ ⟨Nat.zero_le _, Nat.zero_le _⟩ o_model rfl rfl (Nat.le_of_ble_eq_true rfl) rfl hl.1 dX6_readsPromise_137 hz (fun H locs hz => ?_)
  refine lv_if_eq (tgt := 157) hx hb dX6_readsPromise_140 (by decide) (fun c10 => ?_) (fun c10 => ?_)
  · have hf := ite_t hf c10
    exact w6_readsPromise_b157 C hR hk81 _ _ _ _ _ _ hf hz (lv_sub hl [1, 2, 3] rfl)
  · have hf := ite_f hf c10
    refine lv_aload_n hx hb dX6_readsPromise_143 rfl (lv_at hl 1 rfl) ?_
    refine g_RX6_40_model C hz dX6_readsPromise_144 ?_
    refine lv_iconst (v := (4 : Int32)) hx hb dX6_readsPromise_147 (by decide) ?_
    refine lv_iload_n hx hb dX6_readsPromise_148 rfl (lv_at hl 2 rfl) ?_
    refine lv_imul hx hb dX6_readsPromise_149 ?_
    refine lv_iload_n hx hb dX6_readsPromise_150 rfl (lv_at hl 3 rfl) ?_
    refine lv_iadd hx hb dX6_readsPromise_151 ?_
    refine lv_iload_n hx hb dX6_readsPromise_152 rfl (lv_at hl 0 rfl) ?_
    obtain ⟨c11, hf⟩ := ix_elim hf
    obtain ⟨g12, eg12, hf⟩ := nx_elim hf
    refine z_iast C hz a_m_wordOf c11 eg12 dX6_readsPromise_153 (fun H locs hz => ?_)
    obtain ⟨v13, ev13, hf⟩ := nx_elim hf
    refine lv_iinc (v := v13) (lv' := [(2, .int v13), (3, .int r6), (0, .ref (h 0)), (1, .int x1)]) hx hb dX6_readsPromise_154 hl (k := 3) rfl (by rw [ev13]; rfl) (by decide) rfl (fun ls hl => ?_)
    exact w6_readsPromise_b157 C hR hk81 _ _ _ _ _ _ hf hz (lv_sub hl [2, 3, 0] rfl)
set_option maxHeartbeats 4000000 in
set_option maxRecDepth 100000 in
theorem w6_readsPromise_b131 {res : Sg} {k81 : Int32 → Int32 → Sg → Option (Sg)} (C : Cx p m c cX6_readsPromise 4 s args RX6 D (tyL cI cZ cB)) (hR : EndV p l e rm6_readsPromise s m args below meth c Q D (wM cI cZ h) A cX6_readsPromise res) (hk81 : ∀ (x1 : Int32) (x2 : Int32) (g : Sg) (H : Heap) (locs : List Loc) (ls : Array Slot), k81 x1 x2 g = some res → Zs D (wM cI cZ h) A s.heap H locs g → lv_has ls 4 [(0, .ref (h 0)), (1, .int x1), (2, .int x2)] → W p l e rm6_readsPromise s m args below meth c H locs 0 0 Q (F0 m 81 ls [])) : ∀ (x1 : Int32) (x2 : Int32) (g : Sg) (H : Heap) (locs : List Loc) (ls : Array Slot), f6_readsPromise_b131 k81 x1 x2 g = some res → Zs D (wM cI cZ h) A s.heap H locs g → lv_has ls 4 [(0, .ref (h 0)), (1, .int x1), (2, .int x2)] → W p l e rm6_readsPromise s m args below meth c H locs 0 0 Q (F0 m 131 ls [.ref (h 0)]) := by
  have hx := C.1.1
  have hb := C.1.2.1
  intro x1 x2 g H locs ls hf hz hl
  unfold f6_readsPromise_b131 at hf
  refine lv_iconst (v := (0 : Int32)) hx hb dX6_readsPromise_131 (by decide) ?_
  exact w6_readsPromise_b132 C hR hk81 _ _ _ _ _ _ _ hf hz (lv_sub hl [0, 1, 2] rfl)
set_option maxHeartbeats 4000000 in
set_option maxRecDepth 100000 in
theorem w6_readsPromise_b100 {res : Sg} {k81 : Int32 → Int32 → Sg → Option (Sg)} (C : Cx p m c cX6_readsPromise 4 s args RX6 D (tyL cI cZ cB)) (hR : EndV p l e rm6_readsPromise s m args below meth c Q D (wM cI cZ h) A cX6_readsPromise res) (hk81 : ∀ (x1 : Int32) (x2 : Int32) (g : Sg) (H : Heap) (locs : List Loc) (ls : Array Slot), k81 x1 x2 g = some res → Zs D (wM cI cZ h) A s.heap H locs g → lv_has ls 4 [(0, .ref (h 0)), (1, .int x1), (2, .int x2)] → W p l e rm6_readsPromise s m args below meth c H locs 0 0 Q (F0 m 81 ls [])) : ∀ (x1 : Int32) (x2 : Int32) (g : Sg) (H : Heap) (locs : List Loc) (ls : Array Slot), f6_readsPromise_b100 k81 x1 x2 g = some res → Zs D (wM cI cZ h) A s.heap H locs g → lv_has ls 4 [(0, .ref (h 0)), (1, .int x1), (2, .int x2)] → W p l e rm6_readsPromise s m args below meth c H locs 0 0 Q (F0 m 100 ls []) := by
  have hx := C.1.1
  have hb := C.1.2.1
  intro x1 x2 g H locs ls hf hz hl
  unfold f6_readsPromise_b100 at hf
  refine lv_aload_n hx hb dX6_readsPromise_100 rfl (lv_at hl 0 rfl) ?_
  refine lv_iload_n hx hb dX6_readsPromise_101 rfl (lv_at hl 2 rfl) ?_
  refine lv_iconst (v := (4 : Int32)) hx hb dX6_readsPromise_102 (by decide) ?_
  refine lv_icmp_ge (tgt := 131) hx hb dX6_readsPromise_103 (by decide) (fun c14 => ?_) (fun c14 => ?_)
  · have hf := ite_t hf c14
    exact w6_readsPromise_b131 C hR hk81 _ _ _ _ _ _ hf hz (lv_sub hl [0, 1, 2] rfl)
  · have hf := ite_f hf c14
    refine lv_aload_n hx hb dX6_readsPromise_106 rfl (lv_at hl 0 rfl) ?_
    refine g_RX6_95_model C hz dX6_readsPromise_107 ?_
    refine lv_iconst (v := (2 : Int32)) hx hb dX6_readsPromise_110 (by decide) ?_
    refine lv_icmp_ne (tgt := 131) hx hb dX6_readsPromise_111 (by decide) (fun c15 => ?_) (fun c15 => ?_)
    · have hf := ite_f hf c15
      exact w6_readsPromise_b131 C hR hk81 _ _ _ _ _ _ hf hz (lv_sub hl [0, 1, 2] rfl)
    · have hf := ite_t hf c15
      refine lv_aload_n hx hb dX6_readsPromise_114 rfl (lv_at hl 0 rfl) ?_
      refine g_RX6_98_model C hz dX6_readsPromise_115 ?_
      refine lv_iconst (v := (0 : Int32)) hx hb dX6_readsPromise_118 (by decide) ?_
      refine lv_bipush (v := (9 : Int32)) hx hb dX6_readsPromise_119 (by decide) ?_
      obtain ⟨r18, g17, hc16, hf⟩ := bd2_elim hf
      refine z_SI (As := [.int (g.1 0 7), .int (0 : Int32), .int (9 : Int32)]) (rest := [.ref (h 0)]) C (c6_in hc16) lk_RX6_78 ⟨rfl, rfl, Nat.le_of_ble_eq_true rfl, Nat.le_of_ble_eq_true rfl⟩ ⟨Nat.zero_le _, Nat.zero_le _⟩ rfl (Nat.le_of_ble_eq_true rfl) rfl hl.1 dX6_readsPromise_121 hz (fun H locs hz => ?_)
      refine lv_if_eq (tgt := 131) hx hb dX6_readsPromise_124 (by decide) (fun c19 => ?_) (fun c19 => ?_)
      · have hf := ite_t hf c19
        exact w6_readsPromise_b131 C hR hk81 _ _ _ _ _ _ hf hz (lv_sub hl [0, 1, 2] rfl)
      · have hf := ite_f hf c19
        refine lv_iconst (v := (1 : Int32)) hx hb dX6_readsPromise_127 (by decide) ?_
        refine lv_goto (tgt := 132) hx hb dX6_readsPromise_128 (by decide) ?_
        exact w6_readsPromise_b132 C hR hk81 _ _ _ _ _ _ _ hf hz (lv_sub hl [0, 1, 2] rfl)
set_option maxHeartbeats 4000000 in
set_option maxRecDepth 100000 in
theorem w6_readsPromise_b81 {res : Sg} (C : Cx p m c cX6_readsPromise 4 s args RX6 D (tyL cI cZ cB)) (hR : EndV p l e rm6_readsPromise s m args below meth c Q D (wM cI cZ h) A cX6_readsPromise res) : ∀ n : Nat, ∀ (x1 : Int32) (x2 : Int32) (g : Sg) (H : Heap) (locs : List Loc) (ls : Array Slot), f6_readsPromise_b81 n x1 x2 g = some res → Zs D (wM cI cZ h) A s.heap H locs g → lv_has ls 4 [(0, .ref (h 0)), (1, .int x1), (2, .int x2)] → W p l e rm6_readsPromise s m args below meth c H locs 0 0 Q (F0 m 81 ls []) := by
  have hx := C.1.1
  have hb := C.1.2.1
  intro n
  induction n with
  | zero =>
    intro x1 x2 g H locs ls hf hz hl
    cases hf
  | succ n ih =>
    intro x1 x2 g H locs ls hf hz hl
    rw [f6_readsPromise_b81] at hf
    refine lv_aload_n hx hb dX6_readsPromise_81 rfl (lv_at hl 0 rfl) ?_
    obtain ⟨r22, g21, hc20, hf⟩ := bd2_elim hf
    refine z_VI (As := []) (rest := []) C (c6_isWell hc20) lk_RX6_108 ⟨rfl, rfl, Nat.le_of_ble_eq_true rfl, Nat.le_of_ble_eq_true rfl⟩ ⟨Nat.zero_le _, Nat.zero_le _⟩ o_model rfl rfl (Nat.le_of_ble_eq_true rfl) rfl hl.1 dX6_readsPromise_82 hz (fun H locs hz => ?_)
    refine lv_if_eq (tgt := 160) hx hb dX6_readsPromise_85 (by decide) (fun c23 => ?_) (fun c23 => ?_)
    · have hf := ite_t hf c23
      exact w6_readsPromise_b160 C hR _ _ _ _ _ _ hf hz (lv_sub hl [0, 1, 2] rfl)
    · have hf := ite_f hf c23
      refine lv_iload_n hx hb dX6_readsPromise_88 rfl (lv_at hl 2 rfl) ?_
      refine lv_if_eq (tgt := 100) hx hb dX6_readsPromise_89 (by decide) (fun c24 => ?_) (fun c24 => ?_)
      · have hf := ite_t hf c24
        exact w6_readsPromise_b100 C hR ih _ _ _ _ _ _ hf hz (lv_sub hl [0, 1, 2] rfl)
      · have hf := ite_f hf c24
        refine lv_aload_n hx hb dX6_readsPromise_92 rfl (lv_at hl 0 rfl) ?_
        refine g_RX6_95_model C hz dX6_readsPromise_93 ?_
        refine lv_iconst (v := (3 : Int32)) hx hb dX6_readsPromise_96 (by decide) ?_
        refine lv_icmp_eq (tgt := 160) hx hb dX6_readsPromise_97 (by decide) (fun c25 => ?_) (fun c25 => ?_)
        · have hf := ite_t hf c25
          exact w6_readsPromise_b160 C hR _ _ _ _ _ _ hf hz (lv_sub hl [0, 1, 2] rfl)
        · have hf := ite_f hf c25
          exact w6_readsPromise_b100 C hR ih _ _ _ _ _ _ hf hz (lv_sub hl [0, 1, 2] rfl)
set_option maxHeartbeats 4000000 in
set_option maxRecDepth 100000 in
theorem w6_readsPromise_b0 {res : Sg} (C : Cx p m c cX6_readsPromise 4 s args RX6 D (tyL cI cZ cB)) (hR : EndV p l e rm6_readsPromise s m args below meth c Q D (wM cI cZ h) A cX6_readsPromise res) : ∀ (g : Sg) (H : Heap) (locs : List Loc) (ls : Array Slot), f6_readsPromise g = some res → Zs D (wM cI cZ h) A s.heap H locs g → lv_has ls 4 [(0, .ref (h 0))] → W p l e rm6_readsPromise s m args below meth c H locs 0 0 Q (F0 m 0 ls []) := by
  have hx := C.1.1
  have hb := C.1.2.1
  intro g H locs ls hf hz hl
  unfold f6_readsPromise at hf
  refine lv_bipush (v := (8 : Int32)) hx hb dX6_readsPromise_0 (by decide) ?_
  refine lv_aload_n hx hb dX6_readsPromise_2 rfl (lv_at hl 0 rfl) ?_
  refine g_RX6_13_model C hz dX6_readsPromise_3 ?_
  refine lv_iconst (v := (5 : Int32)) hx hb dX6_readsPromise_6 (by decide) ?_
  refine z_ialdL C hz a_m_many (vpl (n := 5) (by decide) (by decide)) (k := 5) (by decide) dX6_readsPromise_7 ?_
  refine lv_iadd hx hb dX6_readsPromise_8 ?_
  obtain ⟨v26, ev26, hf⟩ := nx_elim hf
  refine z_nm ev26 ?_
  refine lv_istore_n (lv' := [(1, .int v26), (0, .ref (h 0))]) hx hb dX6_readsPromise_9 rfl hl (by decide) rfl (fun ls hl => ?_)
  refine lv_aload_n hx hb dX6_readsPromise_10 rfl (lv_at hl 1 rfl) ?_
  refine g_RX6_22_model C hz dX6_readsPromise_11 ?_
  refine lv_iload_n hx hb dX6_readsPromise_14 rfl (lv_at hl 0 rfl) ?_
  refine lv_aload_n hx hb dX6_readsPromise_15 rfl (lv_at hl 1 rfl) ?_
  refine lv_iconst (v := (0 : Int32)) hx hb dX6_readsPromise_16 (by decide) ?_
  refine lv_aload_n hx hb dX6_readsPromise_17 rfl (lv_at hl 1 rfl) ?_
  refine g_RX6_13_model C hz dX6_readsPromise_18 ?_
  refine lv_iconst (v := (4 : Int32)) hx hb dX6_readsPromise_21 (by decide) ?_
  refine z_ialdL C hz a_m_many (vpl (n := 4) (by decide) (by decide)) (k := 4) (by decide) dX6_readsPromise_22 ?_
  refine lv_iconst (v := (1 : Int32)) hx hb dX6_readsPromise_23 (by decide) ?_
  refine lv_isub hx hb dX6_readsPromise_24 ?_
  obtain ⟨r29, g28, hc27, hf⟩ := bd2_elim hf
  refine z_VI (As := [.int (0 : Int32), .int ((g.1 9 4) - (1 : Int32))]) (rest := [.int v26, .ref (h 13)]) C (c6_number hc27) lk_RX6_122 ⟨rfl, rfl, Nat.le_of_ble_eq_true rfl, Nat.le_of_ble_eq_true rfl⟩ ⟨Nat.zero_le _, Nat.zero_le _⟩ o_model rfl rfl (Nat.le_of_ble_eq_true rfl) rfl hl.1 dX6_readsPromise_25 hz (fun H locs hz => ?_)
  obtain ⟨c30, hf⟩ := ix_elim hf
  obtain ⟨g31, eg31, hf⟩ := nx_elim hf
  refine z_iast C hz a_m_who c30 eg31 dX6_readsPromise_28 (fun H locs hz => ?_)
  refine lv_aload_n hx hb dX6_readsPromise_29 rfl (lv_at hl 1 rfl) ?_
  refine g_RX6_25_model C hz dX6_readsPromise_30 ?_
  refine lv_iload_n hx hb dX6_readsPromise_33 rfl (lv_at hl 0 rfl) ?_
  refine lv_aload_n hx hb dX6_readsPromise_34 rfl (lv_at hl 1 rfl) ?_
  refine lv_iconst (v := (0 : Int32)) hx hb dX6_readsPromise_35 (by decide) ?_
  refine lv_iconst (v := (5 : Int32)) hx hb dX6_readsPromise_36 (by decide) ?_
  obtain ⟨r34, g33, hc32, hf⟩ := bd2_elim hf
  refine z_VI (As := [.int (0 : Int32), .int (5 : Int32)]) (rest := [.int v26, .ref (h 14)]) C (c6_number hc32) lk_RX6_122 ⟨rfl, rfl, Nat.le_of_ble_eq_true rfl, Nat.le_of_ble_eq_true rfl⟩ ⟨Nat.zero_le _, Nat.zero_le _⟩ o_model rfl rfl (Nat.le_of_ble_eq_true rfl) rfl hl.1 dX6_readsPromise_37 hz (fun H locs hz => ?_)
  obtain ⟨c35, hf⟩ := ix_elim hf
  obtain ⟨g36, eg36, hf⟩ := nx_elim hf
  refine z_iast C hz a_m_where c35 eg36 dX6_readsPromise_40 (fun H locs hz => ?_)
  refine lv_aload_n hx hb dX6_readsPromise_41 rfl (lv_at hl 1 rfl) ?_
  refine g_RX6_28_model C hz dX6_readsPromise_42 ?_
  refine lv_iload_n hx hb dX6_readsPromise_45 rfl (lv_at hl 0 rfl) ?_
  refine lv_aload_n hx hb dX6_readsPromise_46 rfl (lv_at hl 1 rfl) ?_
  refine lv_iconst (v := (0 : Int32)) hx hb dX6_readsPromise_47 (by decide) ?_
  refine lv_iconst (v := (5 : Int32)) hx hb dX6_readsPromise_48 (by decide) ?_
  obtain ⟨r39, g38, hc37, hf⟩ := bd2_elim hf
  refine z_VI (As := [.int (0 : Int32), .int (5 : Int32)]) (rest := [.int v26, .ref (h 15)]) C (c6_number hc37) lk_RX6_122 ⟨rfl, rfl, Nat.le_of_ble_eq_true rfl, Nat.le_of_ble_eq_true rfl⟩ ⟨Nat.zero_le _, Nat.zero_le _⟩ o_model rfl rfl (Nat.le_of_ble_eq_true rfl) rfl hl.1 dX6_readsPromise_49 hz (fun H locs hz => ?_)
  obtain ⟨c40, hf⟩ := ix_elim hf
  obtain ⟨g41, eg41, hf⟩ := nx_elim hf
  refine z_iast C hz a_m_depth c40 eg41 dX6_readsPromise_52 (fun H locs hz => ?_)
  refine lv_aload_n hx hb dX6_readsPromise_53 rfl (lv_at hl 1 rfl) ?_
  refine g_RX6_31_model C hz dX6_readsPromise_54 ?_
  refine lv_iload_n hx hb dX6_readsPromise_57 rfl (lv_at hl 0 rfl) ?_
  refine lv_aload_n hx hb dX6_readsPromise_58 rfl (lv_at hl 1 rfl) ?_
  refine lv_iconst (v := (1 : Int32)) hx hb dX6_readsPromise_59 (by decide) ?_
  refine lv_bipush (v := (9 : Int32)) hx hb dX6_readsPromise_60 (by decide) ?_
  obtain ⟨r44, g43, hc42, hf⟩ := bd2_elim hf
  refine z_VI (As := [.int (1 : Int32), .int (9 : Int32)]) (rest := [.int v26, .ref (h 16)]) C (c6_number hc42) lk_RX6_122 ⟨rfl, rfl, Nat.le_of_ble_eq_true rfl, Nat.le_of_ble_eq_true rfl⟩ ⟨Nat.zero_le _, Nat.zero_le _⟩ o_model rfl rfl (Nat.le_of_ble_eq_true rfl) rfl hl.1 dX6_readsPromise_62 hz (fun H locs hz => ?_)
  obtain ⟨c45, hf⟩ := ix_elim hf
  obtain ⟨g46, eg46, hf⟩ := nx_elim hf
  refine z_iast C hz a_m_span c45 eg46 dX6_readsPromise_65 (fun H locs hz => ?_)
  refine lv_aload_n hx hb dX6_readsPromise_66 rfl (lv_at hl 1 rfl) ?_
  refine g_RX6_34_model C hz dX6_readsPromise_67 ?_
  refine lv_iload_n hx hb dX6_readsPromise_70 rfl (lv_at hl 0 rfl) ?_
  refine lv_aload_n hx hb dX6_readsPromise_71 rfl (lv_at hl 1 rfl) ?_
  refine lv_iconst (v := (0 : Int32)) hx hb dX6_readsPromise_72 (by decide) ?_
  refine lv_bipush (v := (99 : Int32)) hx hb dX6_readsPromise_73 (by decide) ?_
  obtain ⟨r49, g48, hc47, hf⟩ := bd2_elim hf
  refine z_VI (As := [.int (0 : Int32), .int (99 : Int32)]) (rest := [.int v26, .ref (h 17)]) C (c6_number hc47) lk_RX6_122 ⟨rfl, rfl, Nat.le_of_ble_eq_true rfl, Nat.le_of_ble_eq_true rfl⟩ ⟨Nat.zero_le _, Nat.zero_le _⟩ o_model rfl rfl (Nat.le_of_ble_eq_true rfl) rfl hl.1 dX6_readsPromise_75 hz (fun H locs hz => ?_)
  obtain ⟨c50, hf⟩ := ix_elim hf
  obtain ⟨g51, eg51, hf⟩ := nx_elim hf
  refine z_iast C hz a_m_due c50 eg51 dX6_readsPromise_78 (fun H locs hz => ?_)
  refine lv_iconst (v := (0 : Int32)) hx hb dX6_readsPromise_79 (by decide) ?_
  refine lv_istore_n (lv' := [(2, .int (0 : Int32)), (1, .int v26), (0, .ref (h 0))]) hx hb dX6_readsPromise_80 rfl hl (by decide) rfl (fun ls hl => ?_)
  exact w6_readsPromise_b81 C hR 1000 _ _ _ _ _ _ hf hz (lv_sub hl [2, 1, 0] rfl)
set_option maxHeartbeats 4000000 in
set_option maxRecDepth 100000 in
theorem c6_readsPromise {l : Launch} {D : va_G} {cI cZ cB : ClassId} {h : Nat → Nat} {g : Sg} {g1 : Sg} (hf : f6_readsPromise g = some g1) : KV l D (tyL cI cZ cB) (wM cI cZ h) yX6_readsPromise cX6_readsPromise 4 none rm6_readsPromise [.ref (h 0)] g g1 := by
  refine KV_mk (own := RX6) (by decide +kernel) rfl (Nat.le_of_ble_eq_true rfl) ?_
  intro p e s m below meth c A Q ls C hR hz hl
  have hl : lv_has ls 4 [(0, .ref (h 0))] := hl
  exact w6_readsPromise_b0 C hR _ _ _ _ hf hz hl
abbrev rm6_readsClash : Room := { frames := 4, cells := 0, slots := 0, locals := 87 }
set_option maxHeartbeats 4000000 in
set_option maxRecDepth 100000 in
theorem w6_readsClash_b50 {res : Sg} (C : Cx p m c cX6_readsClash 4 s args RX6 D (tyL cI cZ cB)) (hR : EndV p l e rm6_readsClash s m args below meth c Q D (wM cI cZ h) A cX6_readsClash res) : ∀ (x2 : Int32) (y0 : Int32) (g : Sg) (H : Heap) (locs : List Loc) (ls : Array Slot), f6_readsClash_b50 x2 y0 g = some res → Zs D (wM cI cZ h) A s.heap H locs g → lv_has ls 4 [(0, .ref (h 0)), (2, .int x2)] → W p l e rm6_readsClash s m args below meth c H locs 0 0 Q (F0 m 50 ls [.int y0, .ref (h 0)]) := by
  have hx := C.1.1
  have hb := C.1.2.1
  intro x2 y0 g H locs ls hf hz hl
  unfold f6_readsClash_b50 at hf
  obtain ⟨r3, g2, hc1, hf⟩ := bd2_elim hf
  refine z_VI (As := [.int y0]) (rest := []) C (c6_takes hc1) lk_RX6_115 ⟨rfl, rfl, Nat.le_of_ble_eq_true rfl, Nat.le_of_ble_eq_true rfl⟩ ⟨Nat.zero_le _, Nat.zero_le _⟩ o_model rfl rfl (Nat.le_of_ble_eq_true rfl) rfl hl.1 dX6_readsClash_50 hz (fun H locs hz => ?_)
  refine lv_istore_n (lv' := [(3, .int r3), (0, .ref (h 0)), (2, .int x2)]) hx hb dX6_readsClash_53 rfl hl (by decide) rfl (fun ls hl => ?_)
  refine lv_aload_n hx hb dX6_readsClash_54 rfl (lv_at hl 1 rfl) ?_
  obtain ⟨r6, g5, hc4, hf⟩ := bd2_elim hf
  refine z_VI (As := []) (rest := []) C (c6_isWell hc4) lk_RX6_108 ⟨rfl, rfl, Nat.le_of_ble_eq_true rfl, Nat.le_of_ble_eq_true rfl⟩ ⟨Nat.zero_le _, Nat.zero_le _⟩ o_model rfl rfl (Nat.le_of_ble_eq_true rfl) rfl hl.1 dX6_readsClash_55 hz (fun H locs hz => ?_)
  refine lv_if_eq (tgt := 91) hx hb dX6_readsClash_58 (by decide) (fun c7 => ?_) (fun c7 => ?_)
  · have hf := ite_t hf c7
    exact hR _ _ _ _ _ (Option.some.inj hf) hz dX6_readsClash_91
  · have hf := ite_f hf c7
    refine lv_aload_n hx hb dX6_readsClash_61 rfl (lv_at hl 1 rfl) ?_
    refine g_RX6_43_model C hz dX6_readsClash_62 ?_
    refine lv_bipush (v := (8 : Int32)) hx hb dX6_readsClash_65 (by decide) ?_
    refine lv_iload_n hx hb dX6_readsClash_67 rfl (lv_at hl 2 rfl) ?_
    refine lv_iadd hx hb dX6_readsClash_68 ?_
    refine lv_dup2_11 hx hb dX6_readsClash_69 rfl rfl ?_
    obtain ⟨c8, hf⟩ := ix_elim hf
    refine z_iald C hz a_m_clash c8 dX6_readsClash_70 ?_
    refine lv_iconst (v := (1 : Int32)) hx hb dX6_readsClash_71 (by decide) ?_
    refine lv_iload_n hx hb dX6_readsClash_72 rfl (lv_at hl 0 rfl) ?_
    refine lv_ishl hx hb dX6_readsClash_73 ?_
    refine lv_ior hx hb dX6_readsClash_74 ?_
    obtain ⟨c9, hf⟩ := ix_elim hf
    obtain ⟨g10, eg10, hf⟩ := nx_elim hf
    refine z_iast C hz a_m_clash c9 eg10 dX6_readsClash_75 (fun H locs hz => ?_)
    refine lv_aload_n hx hb dX6_readsClash_76 rfl (lv_at hl 1 rfl) ?_
    refine g_RX6_43_model C hz dX6_readsClash_77 ?_
    refine lv_bipush (v := (8 : Int32)) hx hb dX6_readsClash_80 (by decide) ?_
    refine lv_iload_n hx hb dX6_readsClash_82 rfl (lv_at hl 0 rfl) ?_
    refine lv_iadd hx hb dX6_readsClash_83 ?_
    refine lv_dup2_11 hx hb dX6_readsClash_84 rfl rfl ?_
    obtain ⟨c11, hf⟩ := ix_elim hf
    refine z_iald C hz a_m_clash c11 dX6_readsClash_85 ?_
    refine lv_iconst (v := (1 : Int32)) hx hb dX6_readsClash_86 (by decide) ?_
    refine lv_iload_n hx hb dX6_readsClash_87 rfl (lv_at hl 2 rfl) ?_
    refine lv_ishl hx hb dX6_readsClash_88 ?_
    refine lv_ior hx hb dX6_readsClash_89 ?_
    obtain ⟨c12, hf⟩ := ix_elim hf
    obtain ⟨g13, eg13, hf⟩ := nx_elim hf
    refine z_iast C hz a_m_clash c12 eg13 dX6_readsClash_90 (fun H locs hz => ?_)
    exact hR _ _ _ _ _ (Option.some.inj hf) hz dX6_readsClash_91
set_option maxHeartbeats 4000000 in
set_option maxRecDepth 100000 in
theorem w6_readsClash_b49 {res : Sg} (C : Cx p m c cX6_readsClash 4 s args RX6 D (tyL cI cZ cB)) (hR : EndV p l e rm6_readsClash s m args below meth c Q D (wM cI cZ h) A cX6_readsClash res) : ∀ (x2 : Int32) (g : Sg) (H : Heap) (locs : List Loc) (ls : Array Slot), f6_readsClash_b49 x2 g = some res → Zs D (wM cI cZ h) A s.heap H locs g → lv_has ls 4 [(0, .ref (h 0)), (2, .int x2)] → W p l e rm6_readsClash s m args below meth c H locs 0 0 Q (F0 m 49 ls [.ref (h 0)]) := by
  have hx := C.1.1
  have hb := C.1.2.1
  intro x2 g H locs ls hf hz hl
  unfold f6_readsClash_b49 at hf
  refine lv_iconst (v := (0 : Int32)) hx hb dX6_readsClash_49 (by decide) ?_
  exact w6_readsClash_b50 C hR _ _ _ _ _ _ hf hz (lv_sub hl [0, 1] rfl)
set_option maxHeartbeats 4000000 in
set_option maxRecDepth 100000 in
theorem w6_readsClash_b0 {res : Sg} (C : Cx p m c cX6_readsClash 4 s args RX6 D (tyL cI cZ cB)) (hR : EndV p l e rm6_readsClash s m args below meth c Q D (wM cI cZ h) A cX6_readsClash res) : ∀ (g : Sg) (H : Heap) (locs : List Loc) (ls : Array Slot), f6_readsClash g = some res → Zs D (wM cI cZ h) A s.heap H locs g → lv_has ls 4 [(0, .ref (h 0))] → W p l e rm6_readsClash s m args below meth c H locs 0 0 Q (F0 m 0 ls []) := by
  have hx := C.1.1
  have hb := C.1.2.1
  intro g H locs ls hf hz hl
  unfold f6_readsClash at hf
  refine lv_aload_n hx hb dX6_readsClash_0 rfl (lv_at hl 0 rfl) ?_
  refine g_RX6_13_model C hz dX6_readsClash_1 ?_
  refine lv_iconst (v := (5 : Int32)) hx hb dX6_readsClash_4 (by decide) ?_
  refine z_ialdL C hz a_m_many (vpl (n := 5) (by decide) (by decide)) (k := 5) (by decide) dX6_readsClash_5 ?_
  refine lv_iconst (v := (1 : Int32)) hx hb dX6_readsClash_6 (by decide) ?_
  refine lv_isub hx hb dX6_readsClash_7 ?_
  obtain ⟨v14, ev14, hf⟩ := nx_elim hf
  refine z_nm ev14 ?_
  refine lv_istore_n (lv' := [(1, .int v14), (0, .ref (h 0))]) hx hb dX6_readsClash_8 rfl hl (by decide) rfl (fun ls hl => ?_)
  refine lv_aload_n hx hb dX6_readsClash_9 rfl (lv_at hl 1 rfl) ?_
  refine lv_iconst (v := (0 : Int32)) hx hb dX6_readsClash_10 (by decide) ?_
  refine lv_iload_n hx hb dX6_readsClash_11 rfl (lv_at hl 0 rfl) ?_
  obtain ⟨r17, g16, hc15, hf⟩ := bd2_elim hf
  refine z_VI (As := [.int (0 : Int32), .int v14]) (rest := []) C (c6_number hc15) lk_RX6_122 ⟨rfl, rfl, Nat.le_of_ble_eq_true rfl, Nat.le_of_ble_eq_true rfl⟩ ⟨Nat.zero_le _, Nat.zero_le _⟩ o_model rfl rfl (Nat.le_of_ble_eq_true rfl) rfl hl.1 dX6_readsClash_12 hz (fun H locs hz => ?_)
  refine lv_istore_n (lv' := [(2, .int r17), (1, .int v14), (0, .ref (h 0))]) hx hb dX6_readsClash_15 rfl hl (by decide) rfl (fun ls hl => ?_)
  refine lv_aload_n hx hb dX6_readsClash_16 rfl (lv_at hl 2 rfl) ?_
  refine lv_aload_n hx hb dX6_readsClash_17 rfl (lv_at hl 2 rfl) ?_
  refine g_RX6_95_model C hz dX6_readsClash_18 ?_
  refine lv_iconst (v := (2 : Int32)) hx hb dX6_readsClash_21 (by decide) ?_
  refine lv_icmp_ne (tgt := 49) hx hb dX6_readsClash_22 (by decide) (fun c18 => ?_) (fun c18 => ?_)
  · have hf := ite_f hf c18
    exact w6_readsClash_b49 C hR _ _ _ _ _ hf hz (lv_sub hl [2, 0] rfl)
  · have hf := ite_t hf c18
    refine lv_aload_n hx hb dX6_readsClash_25 rfl (lv_at hl 2 rfl) ?_
    refine g_RX6_98_model C hz dX6_readsClash_26 ?_
    refine lv_iconst (v := (0 : Int32)) hx hb dX6_readsClash_29 (by decide) ?_
    refine lv_iload_n hx hb dX6_readsClash_30 rfl (lv_at hl 1 rfl) ?_
    obtain ⟨r21, g20, hc19, hf⟩ := bd2_elim hf
    refine z_SI (As := [.int (g16.1 0 7), .int (0 : Int32), .int v14]) (rest := [.ref (h 0)]) C (c6_in hc19) lk_RX6_78 ⟨rfl, rfl, Nat.le_of_ble_eq_true rfl, Nat.le_of_ble_eq_true rfl⟩ ⟨Nat.zero_le _, Nat.zero_le _⟩ rfl (Nat.le_of_ble_eq_true rfl) rfl hl.1 dX6_readsClash_31 hz (fun H locs hz => ?_)
    refine lv_if_eq (tgt := 49) hx hb dX6_readsClash_34 (by decide) (fun c22 => ?_) (fun c22 => ?_)
    · have hf := ite_t hf c22
      exact w6_readsClash_b49 C hR _ _ _ _ _ hf hz (lv_sub hl [2, 0] rfl)
    · have hf := ite_f hf c22
      refine lv_aload_n hx hb dX6_readsClash_37 rfl (lv_at hl 2 rfl) ?_
      refine g_RX6_98_model C hz dX6_readsClash_38 ?_
      refine lv_iload_n hx hb dX6_readsClash_41 rfl (lv_at hl 0 rfl) ?_
      refine lv_icmp_eq (tgt := 49) hx hb dX6_readsClash_42 (by decide) (fun c23 => ?_) (fun c23 => ?_)
      · have hf := ite_t hf c23
        exact w6_readsClash_b49 C hR _ _ _ _ _ hf hz (lv_sub hl [2, 0] rfl)
      · have hf := ite_f hf c23
        refine lv_iconst (v := (1 : Int32)) hx hb dX6_readsClash_45 (by decide) ?_
        refine lv_goto (tgt := 50) hx hb dX6_readsClash_46 (by decide) ?_
        exact w6_readsClash_b50 C hR _ _ _ _ _ _ hf hz (lv_sub hl [2, 0] rfl)
set_option maxHeartbeats 4000000 in
set_option maxRecDepth 100000 in
theorem c6_readsClash {l : Launch} {D : va_G} {cI cZ cB : ClassId} {h : Nat → Nat} {g : Sg} {g1 : Sg} (hf : f6_readsClash g = some g1) : KV l D (tyL cI cZ cB) (wM cI cZ h) yX6_readsClash cX6_readsClash 4 none rm6_readsClash [.ref (h 0)] g g1 := by
  refine KV_mk (own := RX6) (by decide +kernel) rfl (Nat.le_of_ble_eq_true rfl) ?_
  intro p e s m below meth c A Q ls C hR hz hl
  have hl : lv_has ls 4 [(0, .ref (h 0))] := hl
  exact w6_readsClash_b0 C hR _ _ _ _ hf hz hl
abbrev rm6_readsItem : Room := { frames := 5, cells := 0, slots := 0, locals := 110 }
set_option maxHeartbeats 4000000 in
set_option maxRecDepth 100000 in
theorem w6_readsItem_b184 {res : Sg} (C : Cx p m c cX6_readsItem 4 s args RX6 D (tyL cI cZ cB)) (hR : EndV p l e rm6_readsItem s m args below meth c Q D (wM cI cZ h) A cX6_readsItem res) : ∀ (y0 : Int32) (y1 : Int32) (g : Sg) (H : Heap) (locs : List Loc) (ls : Array Slot), f6_readsItem_b184 y0 y1 g = some res → Zs D (wM cI cZ h) A s.heap H locs g → lv_has ls 4 [] → W p l e rm6_readsItem s m args below meth c H locs 0 0 Q (F0 m 184 ls [.int y0, .int y1, .ref (h 0)]) := by
  have hx := C.1.1
  have hb := C.1.2.1
  intro y0 y1 g H locs ls hf hz hl
  unfold f6_readsItem_b184 at hf
  refine lv_ior hx hb dX6_readsItem_184 ?_
  obtain ⟨g1, eg1, hf⟩ := nx_elim hf
  refine p_RX6_119_model C hz eg1 dX6_readsItem_185 (fun H locs hz => ?_)
  exact hR _ _ _ _ _ (Option.some.inj hf) hz dX6_readsItem_188
set_option maxHeartbeats 4000000 in
set_option maxRecDepth 100000 in
theorem w6_readsItem_b164 {res : Sg} (C : Cx p m c cX6_readsItem 4 s args RX6 D (tyL cI cZ cB)) (hR : EndV p l e rm6_readsItem s m args below meth c Q D (wM cI cZ h) A cX6_readsItem res) : ∀ (x1 : Int32) (y0 : Int32) (y1 : Int32) (y3 : Int32) (g : Sg) (H : Heap) (locs : List Loc) (ls : Array Slot), f6_readsItem_b164 x1 y0 y1 y3 g = some res → Zs D (wM cI cZ h) A s.heap H locs g → lv_has ls 4 [(0, .ref (h 0)), (1, .int x1)] → W p l e rm6_readsItem s m args below meth c H locs 0 0 Q (F0 m 164 ls [.int y0, .int y1, .ref (h 0), .int y3, .ref (h 9)]) := by
  have hx := C.1.1
  have hb := C.1.2.1
  intro x1 y0 y1 y3 g H locs ls hf hz hl
  unfold f6_readsItem_b164 at hf
  obtain ⟨r4, g3, hc2, hf⟩ := bd2_elim hf
  refine z_VI (As := [.int y1, .int y0]) (rest := [.int y3, .ref (h 9)]) C (c6_number hc2) lk_RX6_122 ⟨rfl, rfl, Nat.le_of_ble_eq_true rfl, Nat.le_of_ble_eq_true rfl⟩ ⟨Nat.zero_le _, Nat.zero_le _⟩ o_model rfl rfl (Nat.le_of_ble_eq_true rfl) rfl hl.1 dX6_readsItem_164 hz (fun H locs hz => ?_)
  obtain ⟨c5, hf⟩ := ix_elim hf
  obtain ⟨g6, eg6, hf⟩ := nx_elim hf
  refine z_iast C hz a_m_many c5 eg6 dX6_readsItem_167 (fun H locs hz => ?_)
  refine lv_aload_n hx hb dX6_readsItem_168 rfl (lv_at hl 0 rfl) ?_
  refine lv_dup hx hb dX6_readsItem_169 rfl ?_
  refine g_RX6_119_model C hz dX6_readsItem_170 ?_
  refine lv_iload_n hx hb dX6_readsItem_173 rfl (lv_at hl 1 rfl) ?_
  refine lv_bipush (v := (97 : Int32)) hx hb dX6_readsItem_174 (by decide) ?_
  refine lv_icmp_ne (tgt := 183) hx hb dX6_readsItem_176 (by decide) (fun c7 => ?_) (fun c7 => ?_)
  · have hf := ite_f hf c7
    refine lv_iconst (v := (2 : Int32)) hx hb dX6_readsItem_183 (by decide) ?_
    exact w6_readsItem_b184 C hR _ _ _ _ _ _ hf hz (lv_sub hl [] rfl)
  · have hf := ite_t hf c7
    refine lv_iconst (v := (1 : Int32)) hx hb dX6_readsItem_179 (by decide) ?_
    refine lv_goto (tgt := 184) hx hb dX6_readsItem_180 (by decide) ?_
    exact w6_readsItem_b184 C hR _ _ _ _ _ _ hf hz (lv_sub hl [] rfl)
set_option maxHeartbeats 4000000 in
set_option maxRecDepth 100000 in
theorem w6_readsItem_b141 {res : Sg} (C : Cx p m c cX6_readsItem 4 s args RX6 D (tyL cI cZ cB)) (hR : EndV p l e rm6_readsItem s m args below meth c Q D (wM cI cZ h) A cX6_readsItem res) : ∀ (x1 : Int32) (y0 : Int32) (g : Sg) (H : Heap) (locs : List Loc) (ls : Array Slot), f6_readsItem_b141 x1 y0 g = some res → Zs D (wM cI cZ h) A s.heap H locs g → lv_has ls 4 [(0, .ref (h 0)), (1, .int x1)] → W p l e rm6_readsItem s m args below meth c H locs 0 0 Q (F0 m 141 ls [.int y0]) := by
  have hx := C.1.1
  have hb := C.1.2.1
  intro x1 y0 g H locs ls hf hz hl
  unfold f6_readsItem_b141 at hf
  refine lv_istore_n (lv' := [(2, .int y0), (0, .ref (h 0)), (1, .int x1)]) hx hb dX6_readsItem_141 rfl hl (by decide) rfl (fun ls hl => ?_)
  refine lv_aload_n hx hb dX6_readsItem_142 rfl (lv_at hl 1 rfl) ?_
  refine g_RX6_13_model C hz dX6_readsItem_143 ?_
  refine lv_iconst (v := (4 : Int32)) hx hb dX6_readsItem_146 (by decide) ?_
  refine lv_iload_n hx hb dX6_readsItem_147 rfl (lv_at hl 0 rfl) ?_
  refine lv_iadd hx hb dX6_readsItem_148 ?_
  refine lv_aload_n hx hb dX6_readsItem_149 rfl (lv_at hl 1 rfl) ?_
  refine lv_iconst (v := (1 : Int32)) hx hb dX6_readsItem_150 (by decide) ?_
  refine lv_iload_n hx hb dX6_readsItem_151 rfl (lv_at hl 2 rfl) ?_
  refine lv_bipush (v := (97 : Int32)) hx hb dX6_readsItem_152 (by decide) ?_
  refine lv_icmp_ne (tgt := 162) hx hb dX6_readsItem_154 (by decide) (fun c8 => ?_) (fun c8 => ?_)
  · have hf := ite_f hf c8
    refine lv_bipush (v := (27 : Int32)) hx hb dX6_readsItem_162 (by decide) ?_
    exact w6_readsItem_b164 C hR _ _ _ _ _ _ _ _ hf hz (lv_sub hl [1, 2] rfl)
  · have hf := ite_t hf c8
    refine lv_bipush (v := (20 : Int32)) hx hb dX6_readsItem_157 (by decide) ?_
    refine lv_goto (tgt := 164) hx hb dX6_readsItem_159 (by decide) ?_
    exact w6_readsItem_b164 C hR _ _ _ _ _ _ _ _ hf hz (lv_sub hl [1, 2] rfl)
set_option maxHeartbeats 4000000 in
set_option maxRecDepth 100000 in
theorem w6_readsItem_b90 {res : Sg} (C : Cx p m c cX6_readsItem 4 s args RX6 D (tyL cI cZ cB)) (hR : EndV p l e rm6_readsItem s m args below meth c Q D (wM cI cZ h) A cX6_readsItem res) : ∀ (y0 : Int32) (y1 : Int32) (g : Sg) (H : Heap) (locs : List Loc) (ls : Array Slot), f6_readsItem_b90 y0 y1 g = some res → Zs D (wM cI cZ h) A s.heap H locs g → lv_has ls 4 [(0, .ref (h 0))] → W p l e rm6_readsItem s m args below meth c H locs 0 0 Q (F0 m 90 ls [.int y0, .int y1, .ref (h 12)]) := by
  have hx := C.1.1
  have hb := C.1.2.1
  intro y0 y1 g H locs ls hf hz hl
  unfold f6_readsItem_b90 at hf
  obtain ⟨c9, hf⟩ := ix_elim hf
  obtain ⟨g10, eg10, hf⟩ := nx_elim hf
  refine z_iast C hz a_m_heir c9 eg10 dX6_readsItem_90 (fun H locs hz => ?_)
  refine lv_aload_n hx hb dX6_readsItem_91 rfl (lv_at hl 0 rfl) ?_
  refine g_RX6_13_model C hz dX6_readsItem_92 ?_
  refine lv_iconst (v := (4 : Int32)) hx hb dX6_readsItem_95 (by decide) ?_
  refine lv_dup2_11 hx hb dX6_readsItem_96 rfl rfl ?_
  refine z_ialdL C hz a_m_many (vpl (n := 4) (by decide) (by decide)) (k := 4) (by decide) dX6_readsItem_97 ?_
  refine lv_iconst (v := (1 : Int32)) hx hb dX6_readsItem_98 (by decide) ?_
  refine lv_iadd hx hb dX6_readsItem_99 ?_
  obtain ⟨g11, eg11, hf⟩ := nx_elim hf
  refine z_iastL C hz a_m_many (vpl (n := 4) (by decide) (by decide)) (k := 4) (by decide) eg11 dX6_readsItem_100 (fun H locs hz => ?_)
  refine lv_goto (tgt := 188) hx hb dX6_readsItem_101 (by decide) ?_
  exact hR _ _ _ _ _ (Option.some.inj hf) hz dX6_readsItem_188
set_option maxHeartbeats 4000000 in
set_option maxRecDepth 100000 in
theorem w6_readsItem_b66 {res : Sg} (C : Cx p m c cX6_readsItem 4 s args RX6 D (tyL cI cZ cB)) (hR : EndV p l e rm6_readsItem s m args below meth c Q D (wM cI cZ h) A cX6_readsItem res) : ∀ (x2 : Int32) (y0 : Int32) (g : Sg) (H : Heap) (locs : List Loc) (ls : Array Slot), f6_readsItem_b66 x2 y0 g = some res → Zs D (wM cI cZ h) A s.heap H locs g → lv_has ls 4 [(0, .ref (h 0)), (2, .int x2)] → W p l e rm6_readsItem s m args below meth c H locs 0 0 Q (F0 m 66 ls [.int y0, .ref (h 0)]) := by
  have hx := C.1.1
  have hb := C.1.2.1
  intro x2 y0 g H locs ls hf hz hl
  unfold f6_readsItem_b66 at hf
  obtain ⟨r14, g13, hc12, hf⟩ := bd2_elim hf
  refine z_VI (As := [.int y0]) (rest := []) C (c6_takes hc12) lk_RX6_115 ⟨rfl, rfl, Nat.le_of_ble_eq_true rfl, Nat.le_of_ble_eq_true rfl⟩ ⟨Nat.zero_le _, Nat.zero_le _⟩ o_model rfl rfl (Nat.le_of_ble_eq_true rfl) rfl hl.1 dX6_readsItem_66 hz (fun H locs hz => ?_)
  refine lv_istore_n (lv' := [(3, .int r14), (0, .ref (h 0)), (2, .int x2)]) hx hb dX6_readsItem_69 rfl hl (by decide) rfl (fun ls hl => ?_)
  refine lv_aload_n hx hb dX6_readsItem_70 rfl (lv_at hl 1 rfl) ?_
  refine g_RX6_19_model C hz dX6_readsItem_71 ?_
  refine lv_bipush (v := (6 : Int32)) hx hb dX6_readsItem_74 (by decide) ?_
  refine lv_iload_n hx hb dX6_readsItem_76 rfl (lv_at hl 2 rfl) ?_
  refine lv_iadd hx hb dX6_readsItem_77 ?_
  refine lv_iload_n hx hb dX6_readsItem_78 rfl (lv_at hl 0 rfl) ?_
  refine lv_bipush (v := (9 : Int32)) hx hb dX6_readsItem_79 (by decide) ?_
  refine lv_icmp_ne (tgt := 89) hx hb dX6_readsItem_81 (by decide) (fun c15 => ?_) (fun c15 => ?_)
  · have hf := ite_f hf c15
    refine lv_iload_n hx hb dX6_readsItem_89 rfl (lv_at hl 0 rfl) ?_
    exact w6_readsItem_b90 C hR _ _ _ _ _ _ hf hz (lv_sub hl [1] rfl)
  · have hf := ite_t hf c15
    refine lv_bipush (v := (-9 : Int32)) hx hb dX6_readsItem_84 (by decide) ?_
    refine lv_goto (tgt := 90) hx hb dX6_readsItem_86 (by decide) ?_
    exact w6_readsItem_b90 C hR _ _ _ _ _ _ hf hz (lv_sub hl [1] rfl)
set_option maxHeartbeats 4000000 in
set_option maxRecDepth 100000 in
theorem w6_readsItem_b65 {res : Sg} (C : Cx p m c cX6_readsItem 4 s args RX6 D (tyL cI cZ cB)) (hR : EndV p l e rm6_readsItem s m args below meth c Q D (wM cI cZ h) A cX6_readsItem res) : ∀ (x2 : Int32) (g : Sg) (H : Heap) (locs : List Loc) (ls : Array Slot), f6_readsItem_b65 x2 g = some res → Zs D (wM cI cZ h) A s.heap H locs g → lv_has ls 4 [(0, .ref (h 0)), (2, .int x2)] → W p l e rm6_readsItem s m args below meth c H locs 0 0 Q (F0 m 65 ls [.ref (h 0)]) := by
  have hx := C.1.1
  have hb := C.1.2.1
  intro x2 g H locs ls hf hz hl
  unfold f6_readsItem_b65 at hf
  refine lv_iconst (v := (0 : Int32)) hx hb dX6_readsItem_65 (by decide) ?_
  exact w6_readsItem_b66 C hR _ _ _ _ _ _ hf hz (lv_sub hl [0, 1] rfl)
set_option maxHeartbeats 4000000 in
set_option maxRecDepth 100000 in
theorem w6_readsItem_b61 {res : Sg} (C : Cx p m c cX6_readsItem 4 s args RX6 D (tyL cI cZ cB)) (hR : EndV p l e rm6_readsItem s m args below meth c Q D (wM cI cZ h) A cX6_readsItem res) : ∀ (x2 : Int32) (g : Sg) (H : Heap) (locs : List Loc) (ls : Array Slot), f6_readsItem_b61 x2 g = some res → Zs D (wM cI cZ h) A s.heap H locs g → lv_has ls 4 [(0, .ref (h 0)), (2, .int x2)] → W p l e rm6_readsItem s m args below meth c H locs 0 0 Q (F0 m 61 ls [.ref (h 0)]) := by
  have hx := C.1.1
  have hb := C.1.2.1
  intro x2 g H locs ls hf hz hl
  unfold f6_readsItem_b61 at hf
  refine lv_iconst (v := (1 : Int32)) hx hb dX6_readsItem_61 (by decide) ?_
  refine lv_goto (tgt := 66) hx hb dX6_readsItem_62 (by decide) ?_
  exact w6_readsItem_b66 C hR _ _ _ _ _ _ hf hz (lv_sub hl [0, 1] rfl)
set_option maxHeartbeats 4000000 in
set_option maxRecDepth 100000 in
theorem w6_readsItem_b0 {res : Sg} (C : Cx p m c cX6_readsItem 4 s args RX6 D (tyL cI cZ cB)) (hR : EndV p l e rm6_readsItem s m args below meth c Q D (wM cI cZ h) A cX6_readsItem res) : ∀ (x1 : Int32) (g : Sg) (H : Heap) (locs : List Loc) (ls : Array Slot), f6_readsItem x1 g = some res → Zs D (wM cI cZ h) A s.heap H locs g → lv_has ls 4 [(0, .ref (h 0)), (1, .int x1)] → W p l e rm6_readsItem s m args below meth c H locs 0 0 Q (F0 m 0 ls []) := by
  have hx := C.1.1
  have hb := C.1.2.1
  intro x1 g H locs ls hf hz hl
  unfold f6_readsItem at hf
  refine lv_iload_n hx hb dX6_readsItem_0 rfl (lv_at hl 1 rfl) ?_
  refine lv_bipush (v := (112 : Int32)) hx hb dX6_readsItem_1 (by decide) ?_
  refine lv_icmp_ne (tgt := 104) hx hb dX6_readsItem_3 (by decide) (fun c16 => ?_) (fun c16 => ?_)
  · have hf := ite_f hf c16
    refine lv_iload_n hx hb dX6_readsItem_104 rfl (lv_at hl 1 rfl) ?_
    refine lv_bipush (v := (109 : Int32)) hx hb dX6_readsItem_105 (by decide) ?_
    refine lv_icmp_ne (tgt := 117) hx hb dX6_readsItem_107 (by decide) (fun c17 => ?_) (fun c17 => ?_)
    · have hf := ite_f hf c17
      refine lv_iload_n hx hb dX6_readsItem_117 rfl (lv_at hl 1 rfl) ?_
      refine lv_bipush (v := (120 : Int32)) hx hb dX6_readsItem_118 (by decide) ?_
      refine lv_icmp_ne (tgt := 130) hx hb dX6_readsItem_120 (by decide) (fun c18 => ?_) (fun c18 => ?_)
      · have hf := ite_f hf c18
        refine lv_iload_n hx hb dX6_readsItem_130 rfl (lv_at hl 1 rfl) ?_
        refine lv_bipush (v := (97 : Int32)) hx hb dX6_readsItem_131 (by decide) ?_
        refine lv_icmp_ne (tgt := 140) hx hb dX6_readsItem_133 (by decide) (fun c19 => ?_) (fun c19 => ?_)
        · have hf := ite_f hf c19
          refine lv_iconst (v := (3 : Int32)) hx hb dX6_readsItem_140 (by decide) ?_
          exact w6_readsItem_b141 C hR _ _ _ _ _ _ hf hz (lv_sub hl [0, 1] rfl)
        · have hf := ite_t hf c19
          refine lv_iconst (v := (2 : Int32)) hx hb dX6_readsItem_136 (by decide) ?_
          refine lv_goto (tgt := 141) hx hb dX6_readsItem_137 (by decide) ?_
          exact w6_readsItem_b141 C hR _ _ _ _ _ _ hf hz (lv_sub hl [0, 1] rfl)
      · have hf := ite_t hf c18
        refine lv_aload_n hx hb dX6_readsItem_123 rfl (lv_at hl 0 rfl) ?_
        obtain ⟨g21, hc20, hf⟩ := bd_elim hf
        refine z_VV (As := []) (rest := []) C (c6_readsClash hc20) lk_RX6_129 ⟨rfl, rfl, Nat.le_of_ble_eq_true rfl, Nat.le_of_ble_eq_true rfl⟩ ⟨Nat.zero_le _, Nat.zero_le _⟩ o_model rfl rfl (Nat.le_of_ble_eq_true rfl) rfl hl.1 dX6_readsItem_124 hz (fun H locs hz => ?_)
        refine lv_goto (tgt := 188) hx hb dX6_readsItem_127 (by decide) ?_
        exact hR _ _ _ _ _ (Option.some.inj hf) hz dX6_readsItem_188
    · have hf := ite_t hf c17
      refine lv_aload_n hx hb dX6_readsItem_110 rfl (lv_at hl 0 rfl) ?_
      obtain ⟨g23, hc22, hf⟩ := bd_elim hf
      refine z_VV (As := []) (rest := []) C (c6_readsPromise hc22) lk_RX6_126 ⟨rfl, rfl, Nat.le_of_ble_eq_true rfl, Nat.le_of_ble_eq_true rfl⟩ ⟨Nat.zero_le _, Nat.zero_le _⟩ o_model rfl rfl (Nat.le_of_ble_eq_true rfl) rfl hl.1 dX6_readsItem_111 hz (fun H locs hz => ?_)
      refine lv_goto (tgt := 188) hx hb dX6_readsItem_114 (by decide) ?_
      exact hR _ _ _ _ _ (Option.some.inj hf) hz dX6_readsItem_188
  · have hf := ite_t hf c16
    refine lv_aload_n hx hb dX6_readsItem_6 rfl (lv_at hl 0 rfl) ?_
    refine g_RX6_13_model C hz dX6_readsItem_7 ?_
    refine lv_iconst (v := (4 : Int32)) hx hb dX6_readsItem_10 (by decide) ?_
    refine z_ialdL C hz a_m_many (vpl (n := 4) (by decide) (by decide)) (k := 4) (by decide) dX6_readsItem_11 ?_
    obtain ⟨v24, ev24, hf⟩ := nx_elim hf
    refine z_nm ev24 ?_
    refine lv_istore_n (lv' := [(2, .int v24), (0, .ref (h 0)), (1, .int x1)]) hx hb dX6_readsItem_12 rfl hl (by decide) rfl (fun ls hl => ?_)
    refine lv_aload_n hx hb dX6_readsItem_13 rfl (lv_at hl 1 rfl) ?_
    refine g_RX6_16_model C hz dX6_readsItem_14 ?_
    refine lv_bipush (v := (6 : Int32)) hx hb dX6_readsItem_17 (by decide) ?_
    refine lv_iload_n hx hb dX6_readsItem_19 rfl (lv_at hl 0 rfl) ?_
    refine lv_iadd hx hb dX6_readsItem_20 ?_
    refine lv_aload_n hx hb dX6_readsItem_21 rfl (lv_at hl 1 rfl) ?_
    refine lv_iconst (v := (0 : Int32)) hx hb dX6_readsItem_22 (by decide) ?_
    refine lv_bipush (v := (99 : Int32)) hx hb dX6_readsItem_23 (by decide) ?_
    obtain ⟨r27, g26, hc25, hf⟩ := bd2_elim hf
    refine z_VI (As := [.int (0 : Int32), .int (99 : Int32)]) (rest := [.int ((6 : Int32) + v24), .ref (h 11)]) C (c6_number hc25) lk_RX6_122 ⟨rfl, rfl, Nat.le_of_ble_eq_true rfl, Nat.le_of_ble_eq_true rfl⟩ ⟨Nat.zero_le _, Nat.zero_le _⟩ o_model rfl rfl (Nat.le_of_ble_eq_true rfl) rfl hl.1 dX6_readsItem_25 hz (fun H locs hz => ?_)
    obtain ⟨c28, hf⟩ := ix_elim hf
    obtain ⟨g29, eg29, hf⟩ := nx_elim hf
    refine z_iast C hz a_m_dies c28 eg29 dX6_readsItem_28 (fun H locs hz => ?_)
    refine lv_aload_n hx hb dX6_readsItem_29 rfl (lv_at hl 1 rfl) ?_
    refine lv_aload_n hx hb dX6_readsItem_30 rfl (lv_at hl 1 rfl) ?_
    refine g_RX6_95_model C hz dX6_readsItem_31 ?_
    refine lv_iconst (v := (2 : Int32)) hx hb dX6_readsItem_34 (by decide) ?_
    refine lv_icmp_ne (tgt := 65) hx hb dX6_readsItem_35 (by decide) (fun c30 => ?_) (fun c30 => ?_)
    · have hf := ite_f hf c30
      exact w6_readsItem_b65 C hR _ _ _ _ _ hf hz (lv_sub hl [1, 0] rfl)
    · have hf := ite_t hf c30
      refine lv_aload_n hx hb dX6_readsItem_38 rfl (lv_at hl 1 rfl) ?_
      refine g_RX6_98_model C hz dX6_readsItem_39 ?_
      refine lv_iconst (v := (0 : Int32)) hx hb dX6_readsItem_42 (by decide) ?_
      refine lv_iload_n hx hb dX6_readsItem_43 rfl (lv_at hl 0 rfl) ?_
      refine lv_iconst (v := (1 : Int32)) hx hb dX6_readsItem_44 (by decide) ?_
      refine lv_isub hx hb dX6_readsItem_45 ?_
      obtain ⟨r33, g32, hc31, hf⟩ := bd2_elim hf
      refine z_SI (As := [.int (g29.1 0 7), .int (0 : Int32), .int (v24 - (1 : Int32))]) (rest := [.ref (h 0)]) C (c6_in hc31) lk_RX6_78 ⟨rfl, rfl, Nat.le_of_ble_eq_true rfl, Nat.le_of_ble_eq_true rfl⟩ ⟨Nat.zero_le _, Nat.zero_le _⟩ rfl (Nat.le_of_ble_eq_true rfl) rfl hl.1 dX6_readsItem_46 hz (fun H locs hz => ?_)
      refine lv_if_ne (tgt := 61) hx hb dX6_readsItem_49 (by decide) (fun c34 => ?_) (fun c34 => ?_)
      · have hf := ite_f hf c34
        exact w6_readsItem_b61 C hR _ _ _ _ _ hf hz (lv_sub hl [1, 0] rfl)
      · have hf := ite_t hf c34
        refine lv_aload_n hx hb dX6_readsItem_52 rfl (lv_at hl 1 rfl) ?_
        refine g_RX6_98_model C hz dX6_readsItem_53 ?_
        refine lv_bipush (v := (9 : Int32)) hx hb dX6_readsItem_56 (by decide) ?_
        refine lv_icmp_ne (tgt := 65) hx hb dX6_readsItem_58 (by decide) (fun c35 => ?_) (fun c35 => ?_)
        · have hf := ite_f hf c35
          exact w6_readsItem_b65 C hR _ _ _ _ _ hf hz (lv_sub hl [1, 0] rfl)
        · have hf := ite_t hf c35
          exact w6_readsItem_b61 C hR _ _ _ _ _ hf hz (lv_sub hl [1, 0] rfl)
set_option maxHeartbeats 4000000 in
set_option maxRecDepth 100000 in
theorem c6_readsItem {l : Launch} {D : va_G} {cI cZ cB : ClassId} {h : Nat → Nat} {x1 : Int32} {g : Sg} {g1 : Sg} (hf : f6_readsItem x1 g = some g1) : KV l D (tyL cI cZ cB) (wM cI cZ h) yX6_readsItem cX6_readsItem 4 none rm6_readsItem [.ref (h 0), .int x1] g g1 := by
  refine KV_mk (own := RX6) (by decide +kernel) rfl (Nat.le_of_ble_eq_true rfl) ?_
  intro p e s m below meth c A Q ls C hR hz hl
  have hl : lv_has ls 4 [(0, .ref (h 0)), (1, .int x1)] := hl
  exact w6_readsItem_b0 C hR _ _ _ _ _ hf hz hl
abbrev rm6_settles : Room := { frames := 0, cells := 0, slots := 0, locals := 0 }
set_option maxHeartbeats 4000000 in
set_option maxRecDepth 100000 in
theorem w6_settles_b221 {res : Sg} (C : Cx p m c cX6_settles 2 s args RX6 D (tyL cI cZ cB)) (hR : EndV p l e rm6_settles s m args below meth c Q D (wM cI cZ h) A cX6_settles res) : ∀ n : Nat, ∀ (x1 : Int32) (g : Sg) (H : Heap) (locs : List Loc) (ls : Array Slot), f6_settles_b221 n x1 g = some res → Zs D (wM cI cZ h) A s.heap H locs g → lv_has ls 2 [(0, .ref (h 0)), (1, .int x1)] → W p l e rm6_settles s m args below meth c H locs 0 0 Q (F0 m 221 ls []) := by
  have hx := C.1.1
  have hb := C.1.2.1
  intro n
  induction n with
  | zero =>
    intro x1 g H locs ls hf hz hl
    cases hf
  | succ n ih =>
    intro x1 g H locs ls hf hz hl
    rw [f6_settles_b221] at hf
    refine lv_iload_n hx hb dX6_settles_221 rfl (lv_at hl 1 rfl) ?_
    refine lv_bipush (v := (37 : Int32)) hx hb dX6_settles_222 (by decide) ?_
    refine lv_icmp_ge (tgt := 240) hx hb dX6_settles_224 (by decide) (fun c1 => ?_) (fun c1 => ?_)
    · have hf := ite_t hf c1
      refine lv_aload_n hx hb dX6_settles_240 rfl (lv_at hl 0 rfl) ?_
      refine lv_iconst (v := (0 : Int32)) hx hb dX6_settles_241 (by decide) ?_
      obtain ⟨g2, eg2, hf⟩ := nx_elim hf
      refine p_RX6_82_model C hz eg2 dX6_settles_242 (fun H locs hz => ?_)
      refine lv_aload_n hx hb dX6_settles_245 rfl (lv_at hl 0 rfl) ?_
      refine lv_iconst (v := (0 : Int32)) hx hb dX6_settles_246 (by decide) ?_
      obtain ⟨g3, eg3, hf⟩ := nx_elim hf
      refine p_RX6_139_model C hz eg3 dX6_settles_247 (fun H locs hz => ?_)
      refine lv_aload_n hx hb dX6_settles_250 rfl (lv_at hl 0 rfl) ?_
      refine lv_iconst (v := (0 : Int32)) hx hb dX6_settles_251 (by decide) ?_
      obtain ⟨g4, eg4, hf⟩ := nx_elim hf
      refine p_RX6_142_model C hz eg4 dX6_settles_252 (fun H locs hz => ?_)
      refine lv_aload_n hx hb dX6_settles_255 rfl (lv_at hl 0 rfl) ?_
      refine g_RX6_52_model C hz dX6_settles_256 ?_
      refine lv_iconst (v := (0 : Int32)) hx hb dX6_settles_259 (by decide) ?_
      refine lv_iconst (v := (0 : Int32)) hx hb dX6_settles_260 (by decide) ?_
      obtain ⟨g5, eg5, hf⟩ := nx_elim hf
      refine z_zastL C hz a_m_isKept (vpl (n := 0) (by decide) (by decide)) (k := 0) (by decide) rfl eg5 dX6_settles_261 (fun H locs hz => ?_)
      refine lv_aload_n hx hb dX6_settles_262 rfl (lv_at hl 0 rfl) ?_
      refine g_RX6_52_model C hz dX6_settles_263 ?_
      refine lv_iconst (v := (1 : Int32)) hx hb dX6_settles_266 (by decide) ?_
      refine lv_iconst (v := (0 : Int32)) hx hb dX6_settles_267 (by decide) ?_
      obtain ⟨g6, eg6, hf⟩ := nx_elim hf
      refine z_zastL C hz a_m_isKept (vpl (n := 1) (by decide) (by decide)) (k := 1) (by decide) rfl eg6 dX6_settles_268 (fun H locs hz => ?_)
      exact hR _ _ _ _ _ (Option.some.inj hf) hz dX6_settles_269
    · have hf := ite_f hf c1
      refine lv_aload_n hx hb dX6_settles_227 rfl (lv_at hl 0 rfl) ?_
      refine g_RX6_46_model C hz dX6_settles_228 ?_
      refine lv_iload_n hx hb dX6_settles_231 rfl (lv_at hl 1 rfl) ?_
      refine lv_iconst (v := (0 : Int32)) hx hb dX6_settles_232 (by decide) ?_
      obtain ⟨c7, hf⟩ := ix_elim hf
      obtain ⟨g8, eg8, hf⟩ := nx_elim hf
      refine z_iast C hz a_m_s c7 eg8 dX6_settles_233 (fun H locs hz => ?_)
      obtain ⟨v9, ev9, hf⟩ := nx_elim hf
      refine lv_iinc (v := v9) (lv' := [(1, .int v9), (0, .ref (h 0))]) hx hb dX6_settles_234 hl (k := 1) rfl (by rw [ev9]; rfl) (by decide) rfl (fun ls hl => ?_)
      refine lv_goto (tgt := 221) hx hb dX6_settles_237 (by decide) ?_
      exact ih _ _ _ _ _ hf hz (lv_sub hl [1, 0] rfl)
set_option maxHeartbeats 4000000 in
set_option maxRecDepth 100000 in
theorem w6_settles_b192 {res : Sg} (C : Cx p m c cX6_settles 2 s args RX6 D (tyL cI cZ cB)) (hR : EndV p l e rm6_settles s m args below meth c Q D (wM cI cZ h) A cX6_settles res) : ∀ n : Nat, ∀ (x1 : Int32) (g : Sg) (H : Heap) (locs : List Loc) (ls : Array Slot), f6_settles_b192 n x1 g = some res → Zs D (wM cI cZ h) A s.heap H locs g → lv_has ls 2 [(0, .ref (h 0)), (1, .int x1)] → W p l e rm6_settles s m args below meth c H locs 0 0 Q (F0 m 192 ls []) := by
  have hx := C.1.1
  have hb := C.1.2.1
  intro n
  induction n with
  | zero =>
    intro x1 g H locs ls hf hz hl
    cases hf
  | succ n ih =>
    intro x1 g H locs ls hf hz hl
    rw [f6_settles_b192] at hf
    refine lv_iload_n hx hb dX6_settles_192 rfl (lv_at hl 1 rfl) ?_
    refine lv_bipush (v := (32 : Int32)) hx hb dX6_settles_193 (by decide) ?_
    refine lv_icmp_ge (tgt := 219) hx hb dX6_settles_195 (by decide) (fun c10 => ?_) (fun c10 => ?_)
    · have hf := ite_t hf c10
      refine lv_iconst (v := (0 : Int32)) hx hb dX6_settles_219 (by decide) ?_
      refine lv_istore_n (lv' := [(1, .int (0 : Int32)), (0, .ref (h 0))]) hx hb dX6_settles_220 rfl hl (by decide) rfl (fun ls hl => ?_)
      exact w6_settles_b221 C hR 1000 _ _ _ _ _ hf hz (lv_sub hl [1, 0] rfl)
    · have hf := ite_f hf c10
      refine lv_aload_n hx hb dX6_settles_198 rfl (lv_at hl 0 rfl) ?_
      refine g_RX6_40_model C hz dX6_settles_199 ?_
      refine lv_iload_n hx hb dX6_settles_202 rfl (lv_at hl 1 rfl) ?_
      refine lv_aload_n hx hb dX6_settles_203 rfl (lv_at hl 0 rfl) ?_
      refine g_RX6_40_model C hz dX6_settles_204 ?_
      refine lv_bipush (v := (32 : Int32)) hx hb dX6_settles_207 (by decide) ?_
      refine lv_iload_n hx hb dX6_settles_209 rfl (lv_at hl 1 rfl) ?_
      refine lv_iadd hx hb dX6_settles_210 ?_
      obtain ⟨c11, hf⟩ := ix_elim hf
      refine z_iald C hz a_m_wordOf c11 dX6_settles_211 ?_
      obtain ⟨c12, hf⟩ := ix_elim hf
      obtain ⟨g13, eg13, hf⟩ := nx_elim hf
      refine z_iast C hz a_m_wordOf c12 eg13 dX6_settles_212 (fun H locs hz => ?_)
      obtain ⟨v14, ev14, hf⟩ := nx_elim hf
      refine lv_iinc (v := v14) (lv' := [(1, .int v14), (0, .ref (h 0))]) hx hb dX6_settles_213 hl (k := 1) rfl (by rw [ev14]; rfl) (by decide) rfl (fun ls hl => ?_)
      refine lv_goto (tgt := 192) hx hb dX6_settles_216 (by decide) ?_
      exact ih _ _ _ _ _ hf hz (lv_sub hl [1, 0] rfl)
set_option maxHeartbeats 4000000 in
set_option maxRecDepth 100000 in
theorem w6_settles_b73 {res : Sg} (C : Cx p m c cX6_settles 2 s args RX6 D (tyL cI cZ cB)) (hR : EndV p l e rm6_settles s m args below meth c Q D (wM cI cZ h) A cX6_settles res) : ∀ n : Nat, ∀ (x1 : Int32) (g : Sg) (H : Heap) (locs : List Loc) (ls : Array Slot), f6_settles_b73 n x1 g = some res → Zs D (wM cI cZ h) A s.heap H locs g → lv_has ls 2 [(0, .ref (h 0)), (1, .int x1)] → W p l e rm6_settles s m args below meth c H locs 0 0 Q (F0 m 73 ls []) := by
  have hx := C.1.1
  have hb := C.1.2.1
  intro n
  induction n with
  | zero =>
    intro x1 g H locs ls hf hz hl
    cases hf
  | succ n ih =>
    intro x1 g H locs ls hf hz hl
    rw [f6_settles_b73] at hf
    refine lv_iload_n hx hb dX6_settles_73 rfl (lv_at hl 1 rfl) ?_
    refine lv_bipush (v := (8 : Int32)) hx hb dX6_settles_74 (by decide) ?_
    refine lv_icmp_ge (tgt := 190) hx hb dX6_settles_76 (by decide) (fun c15 => ?_) (fun c15 => ?_)
    · have hf := ite_t hf c15
      refine lv_iconst (v := (0 : Int32)) hx hb dX6_settles_190 (by decide) ?_
      refine lv_istore_n (lv' := [(1, .int (0 : Int32)), (0, .ref (h 0))]) hx hb dX6_settles_191 rfl hl (by decide) rfl (fun ls hl => ?_)
      exact w6_settles_b192 C hR 1000 _ _ _ _ _ hf hz (lv_sub hl [1, 0] rfl)
    · have hf := ite_f hf c15
      refine lv_aload_n hx hb dX6_settles_79 rfl (lv_at hl 0 rfl) ?_
      refine g_RX6_22_model C hz dX6_settles_80 ?_
      refine lv_iload_n hx hb dX6_settles_83 rfl (lv_at hl 1 rfl) ?_
      refine lv_aload_n hx hb dX6_settles_84 rfl (lv_at hl 0 rfl) ?_
      refine g_RX6_22_model C hz dX6_settles_85 ?_
      refine lv_bipush (v := (8 : Int32)) hx hb dX6_settles_88 (by decide) ?_
      refine lv_iload_n hx hb dX6_settles_90 rfl (lv_at hl 1 rfl) ?_
      refine lv_iadd hx hb dX6_settles_91 ?_
      obtain ⟨c16, hf⟩ := ix_elim hf
      refine z_iald C hz a_m_who c16 dX6_settles_92 ?_
      obtain ⟨c17, hf⟩ := ix_elim hf
      obtain ⟨g18, eg18, hf⟩ := nx_elim hf
      refine z_iast C hz a_m_who c17 eg18 dX6_settles_93 (fun H locs hz => ?_)
      refine lv_aload_n hx hb dX6_settles_94 rfl (lv_at hl 0 rfl) ?_
      refine g_RX6_25_model C hz dX6_settles_95 ?_
      refine lv_iload_n hx hb dX6_settles_98 rfl (lv_at hl 1 rfl) ?_
      refine lv_aload_n hx hb dX6_settles_99 rfl (lv_at hl 0 rfl) ?_
      refine g_RX6_25_model C hz dX6_settles_100 ?_
      refine lv_bipush (v := (8 : Int32)) hx hb dX6_settles_103 (by decide) ?_
      refine lv_iload_n hx hb dX6_settles_105 rfl (lv_at hl 1 rfl) ?_
      refine lv_iadd hx hb dX6_settles_106 ?_
      obtain ⟨c19, hf⟩ := ix_elim hf
      refine z_iald C hz a_m_where c19 dX6_settles_107 ?_
      obtain ⟨c20, hf⟩ := ix_elim hf
      obtain ⟨g21, eg21, hf⟩ := nx_elim hf
      refine z_iast C hz a_m_where c20 eg21 dX6_settles_108 (fun H locs hz => ?_)
      refine lv_aload_n hx hb dX6_settles_109 rfl (lv_at hl 0 rfl) ?_
      refine g_RX6_28_model C hz dX6_settles_110 ?_
      refine lv_iload_n hx hb dX6_settles_113 rfl (lv_at hl 1 rfl) ?_
      refine lv_aload_n hx hb dX6_settles_114 rfl (lv_at hl 0 rfl) ?_
      refine g_RX6_28_model C hz dX6_settles_115 ?_
      refine lv_bipush (v := (8 : Int32)) hx hb dX6_settles_118 (by decide) ?_
      refine lv_iload_n hx hb dX6_settles_120 rfl (lv_at hl 1 rfl) ?_
      refine lv_iadd hx hb dX6_settles_121 ?_
      obtain ⟨c22, hf⟩ := ix_elim hf
      refine z_iald C hz a_m_depth c22 dX6_settles_122 ?_
      obtain ⟨c23, hf⟩ := ix_elim hf
      obtain ⟨g24, eg24, hf⟩ := nx_elim hf
      refine z_iast C hz a_m_depth c23 eg24 dX6_settles_123 (fun H locs hz => ?_)
      refine lv_aload_n hx hb dX6_settles_124 rfl (lv_at hl 0 rfl) ?_
      refine g_RX6_31_model C hz dX6_settles_125 ?_
      refine lv_iload_n hx hb dX6_settles_128 rfl (lv_at hl 1 rfl) ?_
      refine lv_aload_n hx hb dX6_settles_129 rfl (lv_at hl 0 rfl) ?_
      refine g_RX6_31_model C hz dX6_settles_130 ?_
      refine lv_bipush (v := (8 : Int32)) hx hb dX6_settles_133 (by decide) ?_
      refine lv_iload_n hx hb dX6_settles_135 rfl (lv_at hl 1 rfl) ?_
      refine lv_iadd hx hb dX6_settles_136 ?_
      obtain ⟨c25, hf⟩ := ix_elim hf
      refine z_iald C hz a_m_span c25 dX6_settles_137 ?_
      obtain ⟨c26, hf⟩ := ix_elim hf
      obtain ⟨g27, eg27, hf⟩ := nx_elim hf
      refine z_iast C hz a_m_span c26 eg27 dX6_settles_138 (fun H locs hz => ?_)
      refine lv_aload_n hx hb dX6_settles_139 rfl (lv_at hl 0 rfl) ?_
      refine g_RX6_34_model C hz dX6_settles_140 ?_
      refine lv_iload_n hx hb dX6_settles_143 rfl (lv_at hl 1 rfl) ?_
      refine lv_aload_n hx hb dX6_settles_144 rfl (lv_at hl 0 rfl) ?_
      refine g_RX6_34_model C hz dX6_settles_145 ?_
      refine lv_bipush (v := (8 : Int32)) hx hb dX6_settles_148 (by decide) ?_
      refine lv_iload_n hx hb dX6_settles_150 rfl (lv_at hl 1 rfl) ?_
      refine lv_iadd hx hb dX6_settles_151 ?_
      obtain ⟨c28, hf⟩ := ix_elim hf
      refine z_iald C hz a_m_due c28 dX6_settles_152 ?_
      obtain ⟨c29, hf⟩ := ix_elim hf
      obtain ⟨g30, eg30, hf⟩ := nx_elim hf
      refine z_iast C hz a_m_due c29 eg30 dX6_settles_153 (fun H locs hz => ?_)
      refine lv_aload_n hx hb dX6_settles_154 rfl (lv_at hl 0 rfl) ?_
      refine g_RX6_37_model C hz dX6_settles_155 ?_
      refine lv_iload_n hx hb dX6_settles_158 rfl (lv_at hl 1 rfl) ?_
      refine lv_aload_n hx hb dX6_settles_159 rfl (lv_at hl 0 rfl) ?_
      refine g_RX6_37_model C hz dX6_settles_160 ?_
      refine lv_bipush (v := (8 : Int32)) hx hb dX6_settles_163 (by decide) ?_
      refine lv_iload_n hx hb dX6_settles_165 rfl (lv_at hl 1 rfl) ?_
      refine lv_iadd hx hb dX6_settles_166 ?_
      obtain ⟨c31, hf⟩ := ix_elim hf
      refine z_iald C hz a_m_words c31 dX6_settles_167 ?_
      obtain ⟨c32, hf⟩ := ix_elim hf
      obtain ⟨g33, eg33, hf⟩ := nx_elim hf
      refine z_iast C hz a_m_words c32 eg33 dX6_settles_168 (fun H locs hz => ?_)
      refine lv_aload_n hx hb dX6_settles_169 rfl (lv_at hl 0 rfl) ?_
      refine g_RX6_43_model C hz dX6_settles_170 ?_
      refine lv_iload_n hx hb dX6_settles_173 rfl (lv_at hl 1 rfl) ?_
      refine lv_aload_n hx hb dX6_settles_174 rfl (lv_at hl 0 rfl) ?_
      refine g_RX6_43_model C hz dX6_settles_175 ?_
      refine lv_bipush (v := (8 : Int32)) hx hb dX6_settles_178 (by decide) ?_
      refine lv_iload_n hx hb dX6_settles_180 rfl (lv_at hl 1 rfl) ?_
      refine lv_iadd hx hb dX6_settles_181 ?_
      obtain ⟨c34, hf⟩ := ix_elim hf
      refine z_iald C hz a_m_clash c34 dX6_settles_182 ?_
      obtain ⟨c35, hf⟩ := ix_elim hf
      obtain ⟨g36, eg36, hf⟩ := nx_elim hf
      refine z_iast C hz a_m_clash c35 eg36 dX6_settles_183 (fun H locs hz => ?_)
      obtain ⟨v37, ev37, hf⟩ := nx_elim hf
      refine lv_iinc (v := v37) (lv' := [(1, .int v37), (0, .ref (h 0))]) hx hb dX6_settles_184 hl (k := 1) rfl (by rw [ev37]; rfl) (by decide) rfl (fun ls hl => ?_)
      refine lv_goto (tgt := 73) hx hb dX6_settles_187 (by decide) ?_
      exact ih _ _ _ _ _ hf hz (lv_sub hl [1, 0] rfl)
set_option maxHeartbeats 4000000 in
set_option maxRecDepth 100000 in
theorem w6_settles_b29 {res : Sg} (C : Cx p m c cX6_settles 2 s args RX6 D (tyL cI cZ cB)) (hR : EndV p l e rm6_settles s m args below meth c Q D (wM cI cZ h) A cX6_settles res) : ∀ n : Nat, ∀ (x1 : Int32) (g : Sg) (H : Heap) (locs : List Loc) (ls : Array Slot), f6_settles_b29 n x1 g = some res → Zs D (wM cI cZ h) A s.heap H locs g → lv_has ls 2 [(0, .ref (h 0)), (1, .int x1)] → W p l e rm6_settles s m args below meth c H locs 0 0 Q (F0 m 29 ls []) := by
  have hx := C.1.1
  have hb := C.1.2.1
  intro n
  induction n with
  | zero =>
    intro x1 g H locs ls hf hz hl
    cases hf
  | succ n ih =>
    intro x1 g H locs ls hf hz hl
    rw [f6_settles_b29] at hf
    refine lv_iload_n hx hb dX6_settles_29 rfl (lv_at hl 1 rfl) ?_
    refine lv_bipush (v := (6 : Int32)) hx hb dX6_settles_30 (by decide) ?_
    refine lv_icmp_ge (tgt := 71) hx hb dX6_settles_32 (by decide) (fun c38 => ?_) (fun c38 => ?_)
    · have hf := ite_t hf c38
      refine lv_iconst (v := (0 : Int32)) hx hb dX6_settles_71 (by decide) ?_
      refine lv_istore_n (lv' := [(1, .int (0 : Int32)), (0, .ref (h 0))]) hx hb dX6_settles_72 rfl hl (by decide) rfl (fun ls hl => ?_)
      exact w6_settles_b73 C hR 1000 _ _ _ _ _ hf hz (lv_sub hl [1, 0] rfl)
    · have hf := ite_f hf c38
      refine lv_aload_n hx hb dX6_settles_35 rfl (lv_at hl 0 rfl) ?_
      refine g_RX6_16_model C hz dX6_settles_36 ?_
      refine lv_iload_n hx hb dX6_settles_39 rfl (lv_at hl 1 rfl) ?_
      refine lv_aload_n hx hb dX6_settles_40 rfl (lv_at hl 0 rfl) ?_
      refine g_RX6_16_model C hz dX6_settles_41 ?_
      refine lv_bipush (v := (6 : Int32)) hx hb dX6_settles_44 (by decide) ?_
      refine lv_iload_n hx hb dX6_settles_46 rfl (lv_at hl 1 rfl) ?_
      refine lv_iadd hx hb dX6_settles_47 ?_
      obtain ⟨c39, hf⟩ := ix_elim hf
      refine z_iald C hz a_m_dies c39 dX6_settles_48 ?_
      obtain ⟨c40, hf⟩ := ix_elim hf
      obtain ⟨g41, eg41, hf⟩ := nx_elim hf
      refine z_iast C hz a_m_dies c40 eg41 dX6_settles_49 (fun H locs hz => ?_)
      refine lv_aload_n hx hb dX6_settles_50 rfl (lv_at hl 0 rfl) ?_
      refine g_RX6_19_model C hz dX6_settles_51 ?_
      refine lv_iload_n hx hb dX6_settles_54 rfl (lv_at hl 1 rfl) ?_
      refine lv_aload_n hx hb dX6_settles_55 rfl (lv_at hl 0 rfl) ?_
      refine g_RX6_19_model C hz dX6_settles_56 ?_
      refine lv_bipush (v := (6 : Int32)) hx hb dX6_settles_59 (by decide) ?_
      refine lv_iload_n hx hb dX6_settles_61 rfl (lv_at hl 1 rfl) ?_
      refine lv_iadd hx hb dX6_settles_62 ?_
      obtain ⟨c42, hf⟩ := ix_elim hf
      refine z_iald C hz a_m_heir c42 dX6_settles_63 ?_
      obtain ⟨c43, hf⟩ := ix_elim hf
      obtain ⟨g44, eg44, hf⟩ := nx_elim hf
      refine z_iast C hz a_m_heir c43 eg44 dX6_settles_64 (fun H locs hz => ?_)
      obtain ⟨v45, ev45, hf⟩ := nx_elim hf
      refine lv_iinc (v := v45) (lv' := [(1, .int v45), (0, .ref (h 0))]) hx hb dX6_settles_65 hl (k := 1) rfl (by rw [ev45]; rfl) (by decide) rfl (fun ls hl => ?_)
      refine lv_goto (tgt := 29) hx hb dX6_settles_68 (by decide) ?_
      exact ih _ _ _ _ _ hf hz (lv_sub hl [1, 0] rfl)
set_option maxHeartbeats 4000000 in
set_option maxRecDepth 100000 in
theorem w6_settles_b2 {res : Sg} (C : Cx p m c cX6_settles 2 s args RX6 D (tyL cI cZ cB)) (hR : EndV p l e rm6_settles s m args below meth c Q D (wM cI cZ h) A cX6_settles res) : ∀ n : Nat, ∀ (x1 : Int32) (g : Sg) (H : Heap) (locs : List Loc) (ls : Array Slot), f6_settles_b2 n x1 g = some res → Zs D (wM cI cZ h) A s.heap H locs g → lv_has ls 2 [(0, .ref (h 0)), (1, .int x1)] → W p l e rm6_settles s m args below meth c H locs 0 0 Q (F0 m 2 ls []) := by
  have hx := C.1.1
  have hb := C.1.2.1
  intro n
  induction n with
  | zero =>
    intro x1 g H locs ls hf hz hl
    cases hf
  | succ n ih =>
    intro x1 g H locs ls hf hz hl
    rw [f6_settles_b2] at hf
    refine lv_iload_n hx hb dX6_settles_2 rfl (lv_at hl 1 rfl) ?_
    refine lv_iconst (v := (4 : Int32)) hx hb dX6_settles_3 (by decide) ?_
    refine lv_icmp_ge (tgt := 27) hx hb dX6_settles_4 (by decide) (fun c46 => ?_) (fun c46 => ?_)
    · have hf := ite_t hf c46
      refine lv_iconst (v := (0 : Int32)) hx hb dX6_settles_27 (by decide) ?_
      refine lv_istore_n (lv' := [(1, .int (0 : Int32)), (0, .ref (h 0))]) hx hb dX6_settles_28 rfl hl (by decide) rfl (fun ls hl => ?_)
      exact w6_settles_b29 C hR 1000 _ _ _ _ _ hf hz (lv_sub hl [1, 0] rfl)
    · have hf := ite_f hf c46
      refine lv_aload_n hx hb dX6_settles_7 rfl (lv_at hl 0 rfl) ?_
      refine g_RX6_13_model C hz dX6_settles_8 ?_
      refine lv_iload_n hx hb dX6_settles_11 rfl (lv_at hl 1 rfl) ?_
      refine lv_aload_n hx hb dX6_settles_12 rfl (lv_at hl 0 rfl) ?_
      refine g_RX6_13_model C hz dX6_settles_13 ?_
      refine lv_iconst (v := (4 : Int32)) hx hb dX6_settles_16 (by decide) ?_
      refine lv_iload_n hx hb dX6_settles_17 rfl (lv_at hl 1 rfl) ?_
      refine lv_iadd hx hb dX6_settles_18 ?_
      obtain ⟨c47, hf⟩ := ix_elim hf
      refine z_iald C hz a_m_many c47 dX6_settles_19 ?_
      obtain ⟨c48, hf⟩ := ix_elim hf
      obtain ⟨g49, eg49, hf⟩ := nx_elim hf
      refine z_iast C hz a_m_many c48 eg49 dX6_settles_20 (fun H locs hz => ?_)
      obtain ⟨v50, ev50, hf⟩ := nx_elim hf
      refine lv_iinc (v := v50) (lv' := [(1, .int v50), (0, .ref (h 0))]) hx hb dX6_settles_21 hl (k := 1) rfl (by rw [ev50]; rfl) (by decide) rfl (fun ls hl => ?_)
      refine lv_goto (tgt := 2) hx hb dX6_settles_24 (by decide) ?_
      exact ih _ _ _ _ _ hf hz (lv_sub hl [1, 0] rfl)
set_option maxHeartbeats 4000000 in
set_option maxRecDepth 100000 in
theorem w6_settles_b0 {res : Sg} (C : Cx p m c cX6_settles 2 s args RX6 D (tyL cI cZ cB)) (hR : EndV p l e rm6_settles s m args below meth c Q D (wM cI cZ h) A cX6_settles res) : ∀ (g : Sg) (H : Heap) (locs : List Loc) (ls : Array Slot), f6_settles g = some res → Zs D (wM cI cZ h) A s.heap H locs g → lv_has ls 2 [(0, .ref (h 0))] → W p l e rm6_settles s m args below meth c H locs 0 0 Q (F0 m 0 ls []) := by
  have hx := C.1.1
  have hb := C.1.2.1
  intro g H locs ls hf hz hl
  unfold f6_settles at hf
  refine lv_iconst (v := (0 : Int32)) hx hb dX6_settles_0 (by decide) ?_
  refine lv_istore_n (lv' := [(1, .int (0 : Int32)), (0, .ref (h 0))]) hx hb dX6_settles_1 rfl hl (by decide) rfl (fun ls hl => ?_)
  exact w6_settles_b2 C hR 1000 _ _ _ _ _ hf hz (lv_sub hl [1, 0] rfl)
set_option maxHeartbeats 4000000 in
set_option maxRecDepth 100000 in
theorem c6_settles {l : Launch} {D : va_G} {cI cZ cB : ClassId} {h : Nat → Nat} {g : Sg} {g1 : Sg} (hf : f6_settles g = some g1) : KV l D (tyL cI cZ cB) (wM cI cZ h) yX6_settles cX6_settles 2 none rm6_settles [.ref (h 0)] g g1 := by
  refine KV_mk (own := RX6) (by decide +kernel) rfl (Nat.le_of_ble_eq_true rfl) ?_
  intro p e s m below meth c A Q ls C hR hz hl
  have hl : lv_has ls 2 [(0, .ref (h 0))] := hl
  exact w6_settles_b0 C hR _ _ _ _ hf hz hl
end WK
