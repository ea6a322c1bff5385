section WK
variable {p : Program} {l : Launch} {e : Env} {s : State} {m : MethodId} {args : Array Value} {below : List Frame} {meth : Method} {c : Code} {Q : State → Prop} {D : va_G} {cI cZ cB : ClassId} {A : Nat → Prop} {h : Nat → Nat}
abbrev rm0_beginAgain : Room := { frames := 0, cells := 0, slots := 0, locals := 0 }
set_option maxHeartbeats 4000000 in
set_option maxRecDepth 100000 in
theorem w0_beginAgain_b30 {res : Sg} (C : Cx p m c cX0_beginAgain 2 s args RX0 D (tyL cI cZ cB)) (hR : EndV p l e rm0_beginAgain s m args below meth c Q D (wX cI cZ cB h) A cX0_beginAgain res) : ∀ n : Nat, ∀ (x1 : Int32) (g : Sg) (H : Heap) (locs : List Loc) (ls : Array Slot), f0_beginAgain_b30 n x1 g = some res → Zs D (wX cI cZ cB h) A s.heap H locs g → lv_has ls 2 [(0, .ref (h 5)), (1, .int x1)] → W p l e rm0_beginAgain s m args below meth c H locs 0 0 Q (F0 m 30 ls []) := by
  have hx := C.1.1
  have hb := C.1.2.1
  intro n
  induction n with
  | zero =>
    intro x1 g H locs ls hf hz hl
    cases hf
  | succ n ih =>
    intro x1 g H locs ls hf hz hl
    rw [f0_beginAgain_b30] at hf
    refine lv_iload_n hx hb dX0_beginAgain_30 rfl (lv_at hl 1 rfl) ?_
    refine lv_bipush (v := (8 : Int32)) hx hb dX0_beginAgain_31 (by decide) ?_
    refine lv_icmp_ge (tgt := 63) hx hb dX0_beginAgain_33 (by decide) (fun c1 => ?_) (fun c1 => ?_)
    · have hf := ite_t hf c1
      refine lv_aload_n hx hb dX0_beginAgain_63 rfl (lv_at hl 0 rfl) ?_
      refine lv_iconst (v := (0 : Int32)) hx hb dX0_beginAgain_64 (by decide) ?_
      obtain ⟨g2, eg2, hf⟩ := nx_elim hf
      refine p_RX0_27_bog0 C hz eg2 dX0_beginAgain_65 (fun H locs hz => ?_)
      exact hR _ _ _ _ _ (Option.some.inj hf) hz dX0_beginAgain_68
    · have hf := ite_f hf c1
      refine lv_aload_n hx hb dX0_beginAgain_36 rfl (lv_at hl 0 rfl) ?_
      refine g_RX0_18_bog0 C hz dX0_beginAgain_37 ?_
      refine lv_iload_n hx hb dX0_beginAgain_40 rfl (lv_at hl 1 rfl) ?_
      refine lv_iconst (v := (0 : Int32)) hx hb dX0_beginAgain_41 (by decide) ?_
      obtain ⟨c3, hf⟩ := ix_elim hf
      obtain ⟨g4, eg4, hf⟩ := nx_elim hf
      refine z_iast C hz a_n_is c3 eg4 dX0_beginAgain_42 (fun H locs hz => ?_)
      refine lv_aload_n hx hb dX0_beginAgain_43 rfl (lv_at hl 0 rfl) ?_
      refine g_RX0_21_bog0 C hz dX0_beginAgain_44 ?_
      refine lv_iload_n hx hb dX0_beginAgain_47 rfl (lv_at hl 1 rfl) ?_
      refine lv_iconst (v := (0 : Int32)) hx hb dX0_beginAgain_48 (by decide) ?_
      obtain ⟨c5, hf⟩ := ix_elim hf
      obtain ⟨g6, eg6, hf⟩ := nx_elim hf
      refine z_iast C hz a_n_dried c5 eg6 dX0_beginAgain_49 (fun H locs hz => ?_)
      refine lv_aload_n hx hb dX0_beginAgain_50 rfl (lv_at hl 0 rfl) ?_
      refine g_RX0_24_bog0 C hz dX0_beginAgain_51 ?_
      refine lv_iload_n hx hb dX0_beginAgain_54 rfl (lv_at hl 1 rfl) ?_
      refine lv_iconst (v := (0 : Int32)) hx hb dX0_beginAgain_55 (by decide) ?_
      obtain ⟨c7, hf⟩ := ix_elim hf
      obtain ⟨g8, eg8, hf⟩ := nx_elim hf
      refine z_iast C hz a_n_leftWhenFound c7 eg8 dX0_beginAgain_56 (fun H locs hz => ?_)
      obtain ⟨v9, ev9, hf⟩ := nx_elim hf
      refine lv_iinc (v := v9) (lv' := [(1, .int v9), (0, .ref (h 5))]) hx hb dX0_beginAgain_57 hl (k := 1) rfl (by rw [ev9]; rfl) (by decide) rfl (fun ls hl => ?_)
      refine lv_goto (tgt := 30) hx hb dX0_beginAgain_60 (by decide) ?_
      exact ih _ _ _ _ _ hf hz (lv_sub hl [1, 0] rfl)
set_option maxHeartbeats 4000000 in
set_option maxRecDepth 100000 in
theorem w0_beginAgain_b2 {res : Sg} (C : Cx p m c cX0_beginAgain 2 s args RX0 D (tyL cI cZ cB)) (hR : EndV p l e rm0_beginAgain s m args below meth c Q D (wX cI cZ cB h) A cX0_beginAgain res) : ∀ n : Nat, ∀ (x1 : Int32) (g : Sg) (H : Heap) (locs : List Loc) (ls : Array Slot), f0_beginAgain_b2 n x1 g = some res → Zs D (wX cI cZ cB h) A s.heap H locs g → lv_has ls 2 [(0, .ref (h 5)), (1, .int x1)] → W p l e rm0_beginAgain s m args below meth c H locs 0 0 Q (F0 m 2 ls []) := by
  have hx := C.1.1
  have hb := C.1.2.1
  intro n
  induction n with
  | zero =>
    intro x1 g H locs ls hf hz hl
    cases hf
  | succ n ih =>
    intro x1 g H locs ls hf hz hl
    rw [f0_beginAgain_b2] at hf
    refine lv_iload_n hx hb dX0_beginAgain_2 rfl (lv_at hl 1 rfl) ?_
    refine lv_bipush (v := (6 : Int32)) hx hb dX0_beginAgain_3 (by decide) ?_
    refine lv_icmp_ge (tgt := 28) hx hb dX0_beginAgain_5 (by decide) (fun c10 => ?_) (fun c10 => ?_)
    · have hf := ite_t hf c10
      refine lv_iconst (v := (0 : Int32)) hx hb dX0_beginAgain_28 (by decide) ?_
      refine lv_istore_n (lv' := [(1, .int (0 : Int32)), (0, .ref (h 5))]) hx hb dX0_beginAgain_29 rfl hl (by decide) rfl (fun ls hl => ?_)
      exact w0_beginAgain_b30 C hR 1000 _ _ _ _ _ hf hz (lv_sub hl [1, 0] rfl)
    · have hf := ite_f hf c10
      refine lv_aload_n hx hb dX0_beginAgain_8 rfl (lv_at hl 0 rfl) ?_
      refine g_RX0_9_bog0 C hz dX0_beginAgain_9 ?_
      refine lv_iload_n hx hb dX0_beginAgain_12 rfl (lv_at hl 1 rfl) ?_
      refine lv_iconst (v := (0 : Int32)) hx hb dX0_beginAgain_13 (by decide) ?_
      obtain ⟨c11, hf⟩ := ix_elim hf
      obtain ⟨g12, eg12, hf⟩ := nx_elim hf
      refine z_iast C hz a_n_cut c11 eg12 dX0_beginAgain_14 (fun H locs hz => ?_)
      refine lv_aload_n hx hb dX0_beginAgain_15 rfl (lv_at hl 0 rfl) ?_
      refine g_RX0_15_bog0 C hz dX0_beginAgain_16 ?_
      refine lv_iload_n hx hb dX0_beginAgain_19 rfl (lv_at hl 1 rfl) ?_
      refine lv_iconst (v := (0 : Int32)) hx hb dX0_beginAgain_20 (by decide) ?_
      obtain ⟨c13, hf⟩ := ix_elim hf
      obtain ⟨g14, eg14, hf⟩ := nx_elim hf
      refine z_iast C hz a_n_wet c13 eg14 dX0_beginAgain_21 (fun H locs hz => ?_)
      obtain ⟨v15, ev15, hf⟩ := nx_elim hf
      refine lv_iinc (v := v15) (lv' := [(1, .int v15), (0, .ref (h 5))]) hx hb dX0_beginAgain_22 hl (k := 1) rfl (by rw [ev15]; rfl) (by decide) rfl (fun ls hl => ?_)
      refine lv_goto (tgt := 2) hx hb dX0_beginAgain_25 (by decide) ?_
      exact ih _ _ _ _ _ hf hz (lv_sub hl [1, 0] rfl)
set_option maxHeartbeats 4000000 in
set_option maxRecDepth 100000 in
theorem w0_beginAgain_b0 {res : Sg} (C : Cx p m c cX0_beginAgain 2 s args RX0 D (tyL cI cZ cB)) (hR : EndV p l e rm0_beginAgain s m args below meth c Q D (wX cI cZ cB h) A cX0_beginAgain res) : ∀ (g : Sg) (H : Heap) (locs : List Loc) (ls : Array Slot), f0_beginAgain g = some res → Zs D (wX cI cZ cB h) A s.heap H locs g → lv_has ls 2 [(0, .ref (h 5))] → W p l e rm0_beginAgain s m args below meth c H locs 0 0 Q (F0 m 0 ls []) := by
  have hx := C.1.1
  have hb := C.1.2.1
  intro g H locs ls hf hz hl
  unfold f0_beginAgain at hf
  refine lv_iconst (v := (0 : Int32)) hx hb dX0_beginAgain_0 (by decide) ?_
  refine lv_istore_n (lv' := [(1, .int (0 : Int32)), (0, .ref (h 5))]) hx hb dX0_beginAgain_1 rfl hl (by decide) rfl (fun ls hl => ?_)
  exact w0_beginAgain_b2 C hR 1000 _ _ _ _ _ hf hz (lv_sub hl [1, 0] rfl)
set_option maxHeartbeats 4000000 in
set_option maxRecDepth 100000 in
theorem c0_beginAgain {l : Launch} {D : va_G} {cI cZ cB : ClassId} {h : Nat → Nat} {g : Sg} {g1 : Sg} (hf : f0_beginAgain g = some g1) : KV l D (tyL cI cZ cB) (wX cI cZ cB h) yX0_beginAgain cX0_beginAgain 2 none rm0_beginAgain [.ref (h 5)] g g1 := by
  refine KV_mk (own := RX0) (by decide +kernel) rfl (Nat.le_of_ble_eq_true rfl) ?_
  intro p e s m below meth c A Q ls C hR hz hl
  have hl : lv_has ls 2 [(0, .ref (h 5))] := hl
  exact w0_beginAgain_b0 C hR _ _ _ _ hf hz hl
abbrev rm0_become : Room := { frames := 1, cells := 0, slots := 0, locals := 26 }
set_option maxHeartbeats 4000000 in
set_option maxRecDepth 100000 in
theorem w0_become_b0 {b1 : Nat} {b2 : Nat} {res : Sg} (C : Cx p m c cX0_become 2 s args RX0 D (tyL cI cZ cB)) (hb1 : b1 < 13) (hb2 : b2 < 13) (hR : EndV p l e rm0_become s m args below meth c Q D (wX cI cZ cB h) A cX0_become res) : ∀ (g : Sg) (H : Heap) (locs : List Loc) (ls : Array Slot), f0_become b1 b2 g = some res → Zs D (wX cI cZ cB h) A s.heap H locs g → lv_has ls 2 [(0, .ref (h (6 * b1 + 5))), (1, .ref (h (6 * b2 + 5)))] → W p l e rm0_become s m args below meth c H locs 0 0 Q (F0 m 0 ls []) := by
  have hx := C.1.1
  have hb := C.1.2.1
  intro g H locs ls hf hz hl
  unfold f0_become at hf
  refine lv_aload_n hx hb dX0_become_0 rfl (lv_at hl 1 rfl) ?_
  refine g_RX0_9_bog hb2 C hz dX0_become_1 ?_
  refine lv_iconst (v := (0 : Int32)) hx hb dX0_become_4 (by decide) ?_
  refine lv_aload_n hx hb dX0_become_5 rfl (lv_at hl 0 rfl) ?_
  refine g_RX0_9_bog hb1 C hz dX0_become_6 ?_
  refine lv_iconst (v := (0 : Int32)) hx hb dX0_become_9 (by decide) ?_
  refine lv_bipush (v := (6 : Int32)) hx hb dX0_become_10 (by decide) ?_
  obtain ⟨g1, eg1, hf⟩ := nx_elim hf
  refine z_copy (N := 6) C hz (a_bog_cut _ hb2) (a_bog_cut _ hb1) hl.1 wd_728 wd_724 wd_725 wd_726 rfl (by decide) (by decide) (by decide) (Nat.le_of_ble_eq_true rfl) (Nat.le_of_ble_eq_true (by decide +kernel)) eg1 dX0_become_12 (fun H locs hz => ?_)
  refine lv_aload_n hx hb dX0_become_15 rfl (lv_at hl 1 rfl) ?_
  refine g_RX0_15_bog hb2 C hz dX0_become_16 ?_
  refine lv_iconst (v := (0 : Int32)) hx hb dX0_become_19 (by decide) ?_
  refine lv_aload_n hx hb dX0_become_20 rfl (lv_at hl 0 rfl) ?_
  refine g_RX0_15_bog hb1 C hz dX0_become_21 ?_
  refine lv_iconst (v := (0 : Int32)) hx hb dX0_become_24 (by decide) ?_
  refine lv_bipush (v := (6 : Int32)) hx hb dX0_become_25 (by decide) ?_
  obtain ⟨g2, eg2, hf⟩ := nx_elim hf
  refine z_copy (N := 6) C hz (a_bog_wet _ hb2) (a_bog_wet _ hb1) hl.1 wd_728 wd_724 wd_725 wd_726 rfl (by decide) (by decide) (by decide) (Nat.le_of_ble_eq_true rfl) (Nat.le_of_ble_eq_true (by decide +kernel)) eg2 dX0_become_27 (fun H locs hz => ?_)
  refine lv_aload_n hx hb dX0_become_30 rfl (lv_at hl 1 rfl) ?_
  refine g_RX0_18_bog hb2 C hz dX0_become_31 ?_
  refine lv_iconst (v := (0 : Int32)) hx hb dX0_become_34 (by decide) ?_
  refine lv_aload_n hx hb dX0_become_35 rfl (lv_at hl 0 rfl) ?_
  refine g_RX0_18_bog hb1 C hz dX0_become_36 ?_
  refine lv_iconst (v := (0 : Int32)) hx hb dX0_become_39 (by decide) ?_
  refine lv_bipush (v := (8 : Int32)) hx hb dX0_become_40 (by decide) ?_
  obtain ⟨g3, eg3, hf⟩ := nx_elim hf
  refine z_copy (N := 8) C hz (a_bog_is _ hb2) (a_bog_is _ hb1) hl.1 wd_728 wd_724 wd_725 wd_726 rfl (by decide) (by decide) (by decide) (Nat.le_of_ble_eq_true rfl) (Nat.le_of_ble_eq_true (by decide +kernel)) eg3 dX0_become_42 (fun H locs hz => ?_)
  refine lv_aload_n hx hb dX0_become_45 rfl (lv_at hl 1 rfl) ?_
  refine g_RX0_21_bog hb2 C hz dX0_become_46 ?_
  refine lv_iconst (v := (0 : Int32)) hx hb dX0_become_49 (by decide) ?_
  refine lv_aload_n hx hb dX0_become_50 rfl (lv_at hl 0 rfl) ?_
  refine g_RX0_21_bog hb1 C hz dX0_become_51 ?_
  refine lv_iconst (v := (0 : Int32)) hx hb dX0_become_54 (by decide) ?_
  refine lv_bipush (v := (8 : Int32)) hx hb dX0_become_55 (by decide) ?_
  obtain ⟨g4, eg4, hf⟩ := nx_elim hf
  refine z_copy (N := 8) C hz (a_bog_dried _ hb2) (a_bog_dried _ hb1) hl.1 wd_728 wd_724 wd_725 wd_726 rfl (by decide) (by decide) (by decide) (Nat.le_of_ble_eq_true rfl) (Nat.le_of_ble_eq_true (by decide +kernel)) eg4 dX0_become_57 (fun H locs hz => ?_)
  refine lv_aload_n hx hb dX0_become_60 rfl (lv_at hl 1 rfl) ?_
  refine g_RX0_24_bog hb2 C hz dX0_become_61 ?_
  refine lv_iconst (v := (0 : Int32)) hx hb dX0_become_64 (by decide) ?_
  refine lv_aload_n hx hb dX0_become_65 rfl (lv_at hl 0 rfl) ?_
  refine g_RX0_24_bog hb1 C hz dX0_become_66 ?_
  refine lv_iconst (v := (0 : Int32)) hx hb dX0_become_69 (by decide) ?_
  refine lv_bipush (v := (8 : Int32)) hx hb dX0_become_70 (by decide) ?_
  obtain ⟨g5, eg5, hf⟩ := nx_elim hf
  refine z_copy (N := 8) C hz (a_bog_leftWhenFound _ hb2) (a_bog_leftWhenFound _ hb1) hl.1 wd_728 wd_724 wd_725 wd_726 rfl (by decide) (by decide) (by decide) (Nat.le_of_ble_eq_true rfl) (Nat.le_of_ble_eq_true (by decide +kernel)) eg5 dX0_become_72 (fun H locs hz => ?_)
  refine lv_aload_n hx hb dX0_become_75 rfl (lv_at hl 0 rfl) ?_
  refine lv_aload_n hx hb dX0_become_76 rfl (lv_at hl 1 rfl) ?_
  refine g_RX0_27_bog hb2 C hz dX0_become_77 ?_
  obtain ⟨g6, eg6, hf⟩ := nx_elim hf
  refine p_RX0_27_bog hb1 C hz eg6 dX0_become_80 (fun H locs hz => ?_)
  exact hR _ _ _ _ _ (Option.some.inj hf) hz dX0_become_83
set_option maxHeartbeats 4000000 in
set_option maxRecDepth 100000 in
theorem c0_become {l : Launch} {D : va_G} {cI cZ cB : ClassId} {h : Nat → Nat} {b1 : Nat} {b2 : Nat} {g : Sg} {g1 : Sg} (hb1 : b1 < 13) (hb2 : b2 < 13) (hf : f0_become b1 b2 g = some g1) : KV l D (tyL cI cZ cB) (wX cI cZ cB h) yX0_become cX0_become 2 none rm0_become [.ref (h (6 * b1 + 5)), .ref (h (6 * b2 + 5))] g g1 := by
  refine KV_mk (own := RX0) (by decide +kernel) rfl (Nat.le_of_ble_eq_true rfl) ?_
  intro p e s m below meth c A Q ls C hR hz hl
  have hl : lv_has ls 2 [(0, .ref (h (6 * b1 + 5))), (1, .ref (h (6 * b2 + 5)))] := hl
  exact w0_become_b0 C hb1 hb2 hR _ _ _ _ hf hz hl
abbrev rm1_empty : Room := { frames := 0, cells := 0, slots := 0, locals := 0 }
set_option maxHeartbeats 4000000 in
set_option maxRecDepth 100000 in
theorem w1_empty_b0 {res : Sg} (C : Cx p m c cX1_empty 1 s args RX1 D (tyL cI cZ cB)) (hR : EndV p l e rm1_empty s m args below meth c Q D (wX cI cZ cB h) A cX1_empty res) : ∀ (g : Sg) (H : Heap) (locs : List Loc) (ls : Array Slot), f1_empty g = some res → Zs D (wX cI cZ cB h) A s.heap H locs g → lv_has ls 1 [(0, .ref (h 123))] → W p l e rm1_empty s m args below meth c H locs 0 0 Q (F0 m 0 ls []) := by
  have hx := C.1.1
  have hb := C.1.2.1
  intro g H locs ls hf hz hl
  unfold f1_empty at hf
  refine lv_aload_n hx hb dX1_empty_0 rfl (lv_at hl 0 rfl) ?_
  refine lv_iconst (v := (0 : Int32)) hx hb dX1_empty_1 (by decide) ?_
  obtain ⟨g1, eg1, hf⟩ := nx_elim hf
  refine p_RX1_21_past C hz eg1 dX1_empty_2 (fun H locs hz => ?_)
  exact hR _ _ _ _ _ (Option.some.inj hf) hz dX1_empty_5
set_option maxHeartbeats 4000000 in
set_option maxRecDepth 100000 in
theorem c1_empty {l : Launch} {D : va_G} {cI cZ cB : ClassId} {h : Nat → Nat} {g : Sg} {g1 : Sg} (hf : f1_empty g = some g1) : KV l D (tyL cI cZ cB) (wX cI cZ cB h) yX1_empty cX1_empty 1 none rm1_empty [.ref (h 123)] g g1 := by
  refine KV_mk (own := RX1) (by decide +kernel) rfl (Nat.le_of_ble_eq_true rfl) ?_
  intro p e s m below meth c A Q ls C hR hz hl
  have hl : lv_has ls 1 [(0, .ref (h 123))] := hl
  exact w1_empty_b0 C hR _ _ _ _ hf hz hl
abbrev rm1_remember : Room := { frames := 2, cells := 0, slots := 0, locals := 47 }
set_option maxHeartbeats 4000000 in
set_option maxRecDepth 100000 in
theorem w1_remember_b63 {res : Sg} (C : Cx p m c cX1_remember 2 s args RX1 D (tyL cI cZ cB)) (hR : EndV p l e rm1_remember s m args below meth c Q D (wX cI cZ cB h) A cX1_remember res) : ∀ (y0 : Int32) (g : Sg) (H : Heap) (locs : List Loc) (ls : Array Slot), f1_remember_b63 y0 g = some res → Zs D (wX cI cZ cB h) A s.heap H locs g → lv_has ls 2 [(0, .ref (h 123))] → W p l e rm1_remember s m args below meth c H locs 0 0 Q (F0 m 63 ls [.int y0, .ref (h 123)]) := by
  have hx := C.1.1
  have hb := C.1.2.1
  intro y0 g H locs ls hf hz hl
  unfold f1_remember_b63 at hf
  obtain ⟨g1, eg1, hf⟩ := nx_elim hf
  refine p_RX1_17_past C hz eg1 dX1_remember_63 (fun H locs hz => ?_)
  refine lv_aload_n hx hb dX1_remember_66 rfl (lv_at hl 0 rfl) ?_
  refine lv_bipush (v := (10 : Int32)) hx hb dX1_remember_67 (by decide) ?_
  refine lv_aload_n hx hb dX1_remember_69 rfl (lv_at hl 0 rfl) ?_
  refine g_RX1_21_past C hz dX1_remember_70 ?_
  refine lv_iconst (v := (1 : Int32)) hx hb dX1_remember_73 (by decide) ?_
  refine lv_iadd hx hb dX1_remember_74 ?_
  refine z_min C hl.1 wd_320 wd_172 wd_171 wd_170 (Nat.le_of_ble_eq_true rfl) (Nat.le_of_ble_eq_true rfl) (Nat.zero_le _) (Nat.zero_le _) dX1_remember_75 ?_
  obtain ⟨g2, eg2, hf⟩ := nx_elim hf
  refine p_RX1_21_past C hz eg2 dX1_remember_78 (fun H locs hz => ?_)
  exact hR _ _ _ _ _ (Option.some.inj hf) hz dX1_remember_81
set_option maxHeartbeats 4000000 in
set_option maxRecDepth 100000 in
theorem w1_remember_b0 {res : Sg} (C : Cx p m c cX1_remember 2 s args RX1 D (tyL cI cZ cB)) (hR : EndV p l e rm1_remember s m args below meth c Q D (wX cI cZ cB h) A cX1_remember res) : ∀ (g : Sg) (H : Heap) (locs : List Loc) (ls : Array Slot), f1_remember g = some res → Zs D (wX cI cZ cB h) A s.heap H locs g → lv_has ls 2 [(0, .ref (h 123)), (1, .ref (h 5))] → W p l e rm1_remember s m args below meth c H locs 0 0 Q (F0 m 0 ls []) := by
  have hx := C.1.1
  have hb := C.1.2.1
  intro g H locs ls hf hz hl
  unfold f1_remember at hf
  refine lv_aload_n hx hb dX1_remember_0 rfl (lv_at hl 0 rfl) ?_
  refine g_RX1_17_past C hz dX1_remember_1 ?_
  refine lv_if_lt (tgt := 81) hx hb dX1_remember_4 (by decide) (fun c3 => ?_) (fun c3 => ?_)
  · have hf := ite_t hf c3
    exact hR _ _ _ _ _ (Option.some.inj hf) hz dX1_remember_81
  · have hf := ite_f hf c3
    refine lv_aload_n hx hb dX1_remember_7 rfl (lv_at hl 0 rfl) ?_
    refine g_RX1_17_past C hz dX1_remember_8 ?_
    refine lv_bipush (v := (10 : Int32)) hx hb dX1_remember_11 (by decide) ?_
    refine lv_icmp_ge (tgt := 81) hx hb dX1_remember_13 (by decide) (fun c4 => ?_) (fun c4 => ?_)
    · have hf := ite_t hf c4
      exact hR _ _ _ _ _ (Option.some.inj hf) hz dX1_remember_81
    · have hf := ite_f hf c4
      refine lv_aload_n hx hb dX1_remember_16 rfl (lv_at hl 0 rfl) ?_
      refine g_RX1_11_past C hz dX1_remember_17 ?_
      refine lv_aload_n hx hb dX1_remember_20 rfl (lv_at hl 0 rfl) ?_
      refine g_RX1_17_past C hz dX1_remember_21 ?_
      obtain ⟨c5, hf⟩ := ix_elim hf
      refine z_aald C hz a_x_ring c5 dX1_remember_24 ?_
      refine lv_ifnull hx hb dX1_remember_25 ?_
      refine lv_aload_n hx hb dX1_remember_28 rfl (lv_at hl 0 rfl) ?_
      refine g_RX1_11_past C hz dX1_remember_29 ?_
      refine lv_aload_n hx hb dX1_remember_32 rfl (lv_at hl 0 rfl) ?_
      refine g_RX1_17_past C hz dX1_remember_33 ?_
      obtain ⟨c6, hf⟩ := ix_elim hf
      refine z_aald C hz a_x_ring c6 dX1_remember_36 ?_
      refine lv_aload_n hx hb dX1_remember_37 rfl (lv_at hl 1 rfl) ?_
      obtain ⟨g8, hc7, hf⟩ := bd_elim hf
      refine z_VV (As := [.ref (h 5)]) (rest := []) C (c0_become (bogR c6) (by decide) hc7) lk_RX1_25 ⟨rfl, rfl, Nat.le_of_ble_eq_true rfl, Nat.le_of_ble_eq_true rfl⟩ ⟨Nat.zero_le _, Nat.zero_le _⟩ (f_bog_year _ (bogR c6)).o rfl rfl (Nat.le_of_ble_eq_true rfl) rfl hl.1 dX1_remember_38 hz (fun H locs hz => ?_)
      refine lv_aload_n hx hb dX1_remember_41 rfl (lv_at hl 0 rfl) ?_
      refine lv_aload_n hx hb dX1_remember_42 rfl (lv_at hl 0 rfl) ?_
      refine g_RX1_17_past C hz dX1_remember_43 ?_
      refine lv_iconst (v := (1 : Int32)) hx hb dX1_remember_46 (by decide) ?_
      refine lv_iadd hx hb dX1_remember_47 ?_
      refine lv_bipush (v := (10 : Int32)) hx hb dX1_remember_48 (by decide) ?_
      refine lv_icmp_ge (tgt := 62) hx hb dX1_remember_50 (by decide) (fun c9 => ?_) (fun c9 => ?_)
      · have hf := ite_t hf c9
        refine lv_iconst (v := (0 : Int32)) hx hb dX1_remember_62 (by decide) ?_
        exact w1_remember_b63 C hR _ _ _ _ _ hf hz (lv_sub hl [0] rfl)
      · have hf := ite_f hf c9
        refine lv_aload_n hx hb dX1_remember_53 rfl (lv_at hl 0 rfl) ?_
        refine g_RX1_17_past C hz dX1_remember_54 ?_
        refine lv_iconst (v := (1 : Int32)) hx hb dX1_remember_57 (by decide) ?_
        refine lv_iadd hx hb dX1_remember_58 ?_
        refine lv_goto (tgt := 63) hx hb dX1_remember_59 (by decide) ?_
        exact w1_remember_b63 C hR _ _ _ _ _ hf hz (lv_sub hl [0] rfl)
set_option maxHeartbeats 4000000 in
set_option maxRecDepth 100000 in
theorem c1_remember {l : Launch} {D : va_G} {cI cZ cB : ClassId} {h : Nat → Nat} {g : Sg} {g1 : Sg} (hf : f1_remember g = some g1) : KV l D (tyL cI cZ cB) (wX cI cZ cB h) yX1_remember cX1_remember 2 none rm1_remember [.ref (h 123), .ref (h 5)] g g1 := by
  refine KV_mk (own := RX1) (by decide +kernel) rfl (Nat.le_of_ble_eq_true rfl) ?_
  intro p e s m below meth c A Q ls C hR hz hl
  have hl : lv_has ls 2 [(0, .ref (h 123)), (1, .ref (h 5))] := hl
  exact w1_remember_b0 C hR _ _ _ _ hf hz hl
abbrev rm1_giveBack : Room := { frames := 2, cells := 0, slots := 0, locals := 47 }
set_option maxHeartbeats 4000000 in
set_option maxRecDepth 100000 in
theorem w1_giveBack_b18 {res : Sg} (C : Cx p m c cX1_giveBack 3 s args RX1 D (tyL cI cZ cB)) (hR : EndV p l e rm1_giveBack s m args below meth c Q D (wX cI cZ cB h) A cX1_giveBack res) : ∀ (y0 : Int32) (g : Sg) (H : Heap) (locs : List Loc) (ls : Array Slot), f1_giveBack_b18 y0 g = some res → Zs D (wX cI cZ cB h) A s.heap H locs g → lv_has ls 3 [(0, .ref (h 123)), (1, .ref (h 5))] → W p l e rm1_giveBack s m args below meth c H locs 0 0 Q (F0 m 18 ls [.int y0]) := by
  have hx := C.1.1
  have hb := C.1.2.1
  intro y0 g H locs ls hf hz hl
  unfold f1_giveBack_b18 at hf
  refine lv_istore_n (lv' := [(2, .int y0), (0, .ref (h 123)), (1, .ref (h 5))]) hx hb dX1_giveBack_18 rfl hl (by decide) rfl (fun ls hl => ?_)
  refine lv_aload_n hx hb dX1_giveBack_19 rfl (lv_at hl 1 rfl) ?_
  refine g_RX1_21_past C hz dX1_giveBack_20 ?_
  refine lv_if_le (tgt := 66) hx hb dX1_giveBack_23 (by decide) (fun c1 => ?_) (fun c1 => ?_)
  · have hf := ite_t hf c1
    exact hR _ _ _ _ _ (Option.some.inj hf) hz dX1_giveBack_66
  · have hf := ite_f hf c1
    refine lv_iload_n hx hb dX1_giveBack_26 rfl (lv_at hl 0 rfl) ?_
    refine lv_bipush (v := (10 : Int32)) hx hb dX1_giveBack_27 (by decide) ?_
    refine lv_icmp_ge (tgt := 66) hx hb dX1_giveBack_29 (by decide) (fun c2 => ?_) (fun c2 => ?_)
    · have hf := ite_t hf c2
      exact hR _ _ _ _ _ (Option.some.inj hf) hz dX1_giveBack_66
    · have hf := ite_f hf c2
      refine lv_aload_n hx hb dX1_giveBack_32 rfl (lv_at hl 1 rfl) ?_
      refine g_RX1_11_past C hz dX1_giveBack_33 ?_
      refine lv_iload_n hx hb dX1_giveBack_36 rfl (lv_at hl 0 rfl) ?_
      obtain ⟨c3, hf⟩ := ix_elim hf
      refine z_aald C hz a_x_ring c3 dX1_giveBack_37 ?_
      refine lv_ifnull hx hb dX1_giveBack_38 ?_
      refine lv_aload_n hx hb dX1_giveBack_41 rfl (lv_at hl 2 rfl) ?_
      refine lv_aload_n hx hb dX1_giveBack_42 rfl (lv_at hl 1 rfl) ?_
      refine g_RX1_11_past C hz dX1_giveBack_43 ?_
      refine lv_iload_n hx hb dX1_giveBack_46 rfl (lv_at hl 0 rfl) ?_
      obtain ⟨c4, hf⟩ := ix_elim hf
      refine z_aald C hz a_x_ring c4 dX1_giveBack_47 ?_
      obtain ⟨g6, hc5, hf⟩ := bd_elim hf
      refine z_VV (As := [.ref (h (6 * (y0.toNatClampNeg + 3) + 5))]) (rest := []) C (c0_become (by decide) (bogR c4) hc5) lk_RX1_25 ⟨rfl, rfl, Nat.le_of_ble_eq_true rfl, Nat.le_of_ble_eq_true rfl⟩ ⟨Nat.zero_le _, Nat.zero_le _⟩ o_bog0 rfl rfl (Nat.le_of_ble_eq_true rfl) rfl hl.1 dX1_giveBack_48 hz (fun H locs hz => ?_)
      refine lv_aload_n hx hb dX1_giveBack_51 rfl (lv_at hl 1 rfl) ?_
      refine lv_iload_n hx hb dX1_giveBack_52 rfl (lv_at hl 0 rfl) ?_
      obtain ⟨g7, eg7, hf⟩ := nx_elim hf
      refine p_RX1_17_past C hz eg7 dX1_giveBack_53 (fun H locs hz => ?_)
      refine lv_aload_n hx hb dX1_giveBack_56 rfl (lv_at hl 1 rfl) ?_
      refine lv_dup hx hb dX1_giveBack_57 rfl ?_
      refine g_RX1_21_past C hz dX1_giveBack_58 ?_
      refine lv_iconst (v := (1 : Int32)) hx hb dX1_giveBack_61 (by decide) ?_
      refine lv_isub hx hb dX1_giveBack_62 ?_
      obtain ⟨g8, eg8, hf⟩ := nx_elim hf
      refine p_RX1_21_past C hz eg8 dX1_giveBack_63 (fun H locs hz => ?_)
      exact hR _ _ _ _ _ (Option.some.inj hf) hz dX1_giveBack_66
set_option maxHeartbeats 4000000 in
set_option maxRecDepth 100000 in
theorem w1_giveBack_b0 {res : Sg} (C : Cx p m c cX1_giveBack 3 s args RX1 D (tyL cI cZ cB)) (hR : EndV p l e rm1_giveBack s m args below meth c Q D (wX cI cZ cB h) A cX1_giveBack res) : ∀ (g : Sg) (H : Heap) (locs : List Loc) (ls : Array Slot), f1_giveBack g = some res → Zs D (wX cI cZ cB h) A s.heap H locs g → lv_has ls 3 [(0, .ref (h 123)), (1, .ref (h 5))] → W p l e rm1_giveBack s m args below meth c H locs 0 0 Q (F0 m 0 ls []) := by
  have hx := C.1.1
  have hb := C.1.2.1
  intro g H locs ls hf hz hl
  unfold f1_giveBack at hf
  refine lv_aload_n hx hb dX1_giveBack_0 rfl (lv_at hl 0 rfl) ?_
  refine g_RX1_17_past C hz dX1_giveBack_1 ?_
  refine lv_if_le (tgt := 16) hx hb dX1_giveBack_4 (by decide) (fun c9 => ?_) (fun c9 => ?_)
  · have hf := ite_t hf c9
    refine lv_bipush (v := (9 : Int32)) hx hb dX1_giveBack_16 (by decide) ?_
    exact w1_giveBack_b18 C hR _ _ _ _ _ hf hz (lv_sub hl [0, 1] rfl)
  · have hf := ite_f hf c9
    refine lv_aload_n hx hb dX1_giveBack_7 rfl (lv_at hl 0 rfl) ?_
    refine g_RX1_17_past C hz dX1_giveBack_8 ?_
    refine lv_iconst (v := (1 : Int32)) hx hb dX1_giveBack_11 (by decide) ?_
    refine lv_isub hx hb dX1_giveBack_12 ?_
    refine lv_goto (tgt := 18) hx hb dX1_giveBack_13 (by decide) ?_
    exact w1_giveBack_b18 C hR _ _ _ _ _ hf hz (lv_sub hl [0, 1] rfl)
set_option maxHeartbeats 4000000 in
set_option maxRecDepth 100000 in
theorem c1_giveBack {l : Launch} {D : va_G} {cI cZ cB : ClassId} {h : Nat → Nat} {g : Sg} {g1 : Sg} (hf : f1_giveBack g = some g1) : KV l D (tyL cI cZ cB) (wX cI cZ cB h) yX1_giveBack cX1_giveBack 3 none rm1_giveBack [.ref (h 123), .ref (h 5)] g g1 := by
  refine KV_mk (own := RX1) (by decide +kernel) rfl (Nat.le_of_ble_eq_true rfl) ?_
  intro p e s m below meth c A Q ls C hR hz hl
  have hl : lv_has ls 3 [(0, .ref (h 123)), (1, .ref (h 5))] := hl
  exact w1_giveBack_b0 C hR _ _ _ _ hf hz hl
abbrev rm4_beginAgain : Room := { frames := 0, cells := 0, slots := 0, locals := 0 }
set_option maxHeartbeats 4000000 in
set_option maxRecDepth 100000 in
theorem w4_beginAgain_b0 {res : Sg} (C : Cx p m c cX4_beginAgain 1 s args RX4 D (tyL cI cZ cB)) (hR : EndV p l e rm4_beginAgain s m args below meth c Q D (wX cI cZ cB h) A cX4_beginAgain res) : ∀ (g : Sg) (H : Heap) (locs : List Loc) (ls : Array Slot), f4_beginAgain g = some res → Zs D (wX cI cZ cB h) A s.heap H locs g → lv_has ls 1 [(0, .ref (h 110))] → W p l e rm4_beginAgain s m args below meth c H locs 0 0 Q (F0 m 0 ls []) := by
  have hx := C.1.1
  have hb := C.1.2.1
  intro g H locs ls hf hz hl
  unfold f4_beginAgain at hf
  refine lv_aload_n hx hb dX4_beginAgain_0 rfl (lv_at hl 0 rfl) ?_
  refine lv_iconst (v := (0 : Int32)) hx hb dX4_beginAgain_1 (by decide) ?_
  obtain ⟨g1, eg1, hf⟩ := nx_elim hf
  refine p_RX4_42_rtold C hz eg1 dX4_beginAgain_2 (fun H locs hz => ?_)
  refine lv_aload_n hx hb dX4_beginAgain_5 rfl (lv_at hl 0 rfl) ?_
  refine lv_iconst (v := (0 : Int32)) hx hb dX4_beginAgain_6 (by decide) ?_
  obtain ⟨g2, eg2, hf⟩ := nx_elim hf
  refine p_RX4_46_rtold C hz eg2 dX4_beginAgain_7 (fun H locs hz => ?_)
  refine lv_aload_n hx hb dX4_beginAgain_10 rfl (lv_at hl 0 rfl) ?_
  refine lv_bipush (v := (10 : Int32)) hx hb dX4_beginAgain_11 (by decide) ?_
  obtain ⟨g3, eg3, hf⟩ := nx_elim hf
  refine p_RX4_49_rtold C hz eg3 dX4_beginAgain_13 (fun H locs hz => ?_)
  refine lv_aload_n hx hb dX4_beginAgain_16 rfl (lv_at hl 0 rfl) ?_
  refine lv_bipush (v := (12 : Int32)) hx hb dX4_beginAgain_17 (by decide) ?_
  obtain ⟨g4, eg4, hf⟩ := nx_elim hf
  refine p_RX4_52_rtold C hz eg4 dX4_beginAgain_19 (fun H locs hz => ?_)
  exact hR _ _ _ _ _ (Option.some.inj hf) hz dX4_beginAgain_22
set_option maxHeartbeats 4000000 in
set_option maxRecDepth 100000 in
theorem c4_beginAgain {l : Launch} {D : va_G} {cI cZ cB : ClassId} {h : Nat → Nat} {g : Sg} {g1 : Sg} (hf : f4_beginAgain g = some g1) : KV l D (tyL cI cZ cB) (wX cI cZ cB h) yX4_beginAgain cX4_beginAgain 1 none rm4_beginAgain [.ref (h 110)] g g1 := by
  refine KV_mk (own := RX4) (by decide +kernel) rfl (Nat.le_of_ble_eq_true rfl) ?_
  intro p e s m below meth c A Q ls C hR hz hl
  have hl : lv_has ls 1 [(0, .ref (h 110))] := hl
  exact w4_beginAgain_b0 C hR _ _ _ _ hf hz hl
abbrev rm3_toFront : Room := { frames := 0, cells := 0, slots := 0, locals := 0 }
set_option maxHeartbeats 4000000 in
set_option maxRecDepth 100000 in
theorem w3_toFront_b0 {res : Sg} (C : Cx p m c cX3_toFront 1 s args RX3 D (tyL cI cZ cB)) (hR : EndV p l e rm3_toFront s m args below meth c Q D (wX cI cZ cB h) A cX3_toFront res) : ∀ (g : Sg) (H : Heap) (locs : List Loc) (ls : Array Slot), f3_toFront g = some res → Zs D (wX cI cZ cB h) A s.heap H locs g → lv_has ls 1 [(0, .ref (h 121))] → W p l e rm3_toFront s m args below meth c H locs 0 0 Q (F0 m 0 ls []) := by
  have hx := C.1.1
  have hb := C.1.2.1
  intro g H locs ls hf hz hl
  unfold f3_toFront at hf
  refine lv_aload_n hx hb dX3_toFront_0 rfl (lv_at hl 0 rfl) ?_
  refine lv_iconst (v := (0 : Int32)) hx hb dX3_toFront_1 (by decide) ?_
  obtain ⟨g1, eg1, hf⟩ := nx_elim hf
  refine p_RX3_25_text C hz eg1 dX3_toFront_2 (fun H locs hz => ?_)
  exact hR _ _ _ _ _ (Option.some.inj hf) hz dX3_toFront_5
set_option maxHeartbeats 4000000 in
set_option maxRecDepth 100000 in
theorem c3_toFront {l : Launch} {D : va_G} {cI cZ cB : ClassId} {h : Nat → Nat} {g : Sg} {g1 : Sg} (hf : f3_toFront g = some g1) : KV l D (tyL cI cZ cB) (wX cI cZ cB h) yX3_toFront cX3_toFront 1 none rm3_toFront [.ref (h 121)] g g1 := by
  refine KV_mk (own := RX3) (by decide +kernel) rfl (Nat.le_of_ble_eq_true rfl) ?_
  intro p e s m below meth c A Q ls C hR hz hl
  have hl : lv_has ls 1 [(0, .ref (h 121))] := hl
  exact w3_toFront_b0 C hR _ _ _ _ hf hz hl
abbrev rm3_letterAt : Room := { frames := 0, cells := 0, slots := 0, locals := 0 }
set_option maxHeartbeats 4000000 in
set_option maxRecDepth 100000 in
theorem w3_letterAt_b0 {res : Int32 × Sg} (C : Cx p m c cX3_letterAt 2 s args RX3 D (tyL cI cZ cB)) (hR : EndI p l e rm3_letterAt s m args below meth c Q D (wX cI cZ cB h) A cX3_letterAt res) : ∀ (x1 : Int32) (g : Sg) (H : Heap) (locs : List Loc) (ls : Array Slot), f3_letterAt x1 g = some res → Zs D (wX cI cZ cB h) A s.heap H locs g → lv_has ls 2 [(0, .ref (h 121)), (1, .int x1)] → W p l e rm3_letterAt s m args below meth c H locs 0 0 Q (F0 m 0 ls []) := by
  have hx := C.1.1
  have hb := C.1.2.1
  intro x1 g H locs ls hf hz hl
  unfold f3_letterAt at hf
  refine lv_iload_n hx hb dX3_letterAt_0 rfl (lv_at hl 1 rfl) ?_
  refine lv_if_lt (tgt := 28) hx hb dX3_letterAt_1 (by decide) (fun c1 => ?_) (fun c1 => ?_)
  · have hf := ite_t hf c1
    refine lv_iconst (v := (-1 : Int32)) hx hb dX3_letterAt_28 (by decide) ?_
    exact hR _ _ _ _ _ _ (Option.some.inj hf) hz dX3_letterAt_29
  · have hf := ite_f hf c1
    refine lv_iload_n hx hb dX3_letterAt_4 rfl (lv_at hl 1 rfl) ?_
    refine lv_aload_n hx hb dX3_letterAt_5 rfl (lv_at hl 0 rfl) ?_
    refine g_RX3_15_text C hz dX3_letterAt_6 ?_
    refine lv_icmp_ge (tgt := 28) hx hb dX3_letterAt_9 (by decide) (fun c2 => ?_) (fun c2 => ?_)
    · have hf := ite_t hf c2
      refine lv_iconst (v := (-1 : Int32)) hx hb dX3_letterAt_28 (by decide) ?_
      exact hR _ _ _ _ _ _ (Option.some.inj hf) hz dX3_letterAt_29
    · have hf := ite_f hf c2
      refine lv_iload_n hx hb dX3_letterAt_12 rfl (lv_at hl 1 rfl) ?_
      refine lv_sipush (v := (200 : Int32)) hx hb dX3_letterAt_13 (by decide) ?_
      refine lv_icmp_ge (tgt := 28) hx hb dX3_letterAt_16 (by decide) (fun c3 => ?_) (fun c3 => ?_)
      · have hf := ite_t hf c3
        refine lv_iconst (v := (-1 : Int32)) hx hb dX3_letterAt_28 (by decide) ?_
        exact hR _ _ _ _ _ _ (Option.some.inj hf) hz dX3_letterAt_29
      · have hf := ite_f hf c3
        refine lv_aload_n hx hb dX3_letterAt_19 rfl (lv_at hl 0 rfl) ?_
        refine g_RX3_9_text C hz dX3_letterAt_20 ?_
        refine lv_iload_n hx hb dX3_letterAt_23 rfl (lv_at hl 1 rfl) ?_
        obtain ⟨c4, hf⟩ := ix_elim hf
        refine z_iald C hz a_x_letters c4 dX3_letterAt_24 ?_
        refine lv_goto (tgt := 29) hx hb dX3_letterAt_25 (by decide) ?_
        exact hR _ _ _ _ _ _ (Option.some.inj hf) hz dX3_letterAt_29
set_option maxHeartbeats 4000000 in
set_option maxRecDepth 100000 in
theorem c3_letterAt {l : Launch} {D : va_G} {cI cZ cB : ClassId} {h : Nat → Nat} {x1 : Int32} {g : Sg} {r : Int32} {g1 : Sg} (hf : f3_letterAt x1 g = some (r, g1)) : KI l D (tyL cI cZ cB) (wX cI cZ cB h) yX3_letterAt cX3_letterAt 2 (some .int) rm3_letterAt [.ref (h 121), .int x1] g r g1 := by
  refine KI_mk (own := RX3) (by decide +kernel) rfl (Nat.le_of_ble_eq_true rfl) ?_
  intro p e s m below meth c A Q ls C hR hz hl
  have hl : lv_has ls 2 [(0, .ref (h 121)), (1, .int x1)] := hl
  exact w3_letterAt_b0 C hR _ _ _ _ _ hf hz hl
abbrev rm3_isDigit : Room := { frames := 0, cells := 0, slots := 0, locals := 0 }
set_option maxHeartbeats 4000000 in
set_option maxRecDepth 100000 in
theorem w3_isDigit_b0 {res : Int32 × Sg} (C : Cx p m c cX3_isDigit 1 s args RX3 D (tyL cI cZ cB)) (hR : EndZ p l e rm3_isDigit s m args below meth c Q D (wX cI cZ cB h) A cX3_isDigit res) : ∀ (x0 : Int32) (g : Sg) (H : Heap) (locs : List Loc) (ls : Array Slot), f3_isDigit x0 g = some res → Zs D (wX cI cZ cB h) A s.heap H locs g → lv_has ls 1 [(0, .int x0)] → W p l e rm3_isDigit s m args below meth c H locs 0 0 Q (F0 m 0 ls []) := by
  have hx := C.1.1
  have hb := C.1.2.1
  intro x0 g H locs ls hf hz hl
  unfold f3_isDigit at hf
  refine lv_iload_n hx hb dX3_isDigit_0 rfl (lv_at hl 0 rfl) ?_
  refine lv_bipush (v := (48 : Int32)) hx hb dX3_isDigit_1 (by decide) ?_
  refine lv_icmp_lt (tgt := 16) hx hb dX3_isDigit_3 (by decide) (fun c1 => ?_) (fun c1 => ?_)
  · have hf := ite_t hf c1
    refine lv_iconst (v := (0 : Int32)) hx hb dX3_isDigit_16 (by decide) ?_
    exact hR _ _ _ _ _ _ hf hz dX3_isDigit_17
  · have hf := ite_f hf c1
    refine lv_iload_n hx hb dX3_isDigit_6 rfl (lv_at hl 0 rfl) ?_
    refine lv_bipush (v := (57 : Int32)) hx hb dX3_isDigit_7 (by decide) ?_
    refine lv_icmp_gt (tgt := 16) hx hb dX3_isDigit_9 (by decide) (fun c2 => ?_) (fun c2 => ?_)
    · have hf := ite_t hf c2
      refine lv_iconst (v := (0 : Int32)) hx hb dX3_isDigit_16 (by decide) ?_
      exact hR _ _ _ _ _ _ hf hz dX3_isDigit_17
    · have hf := ite_f hf c2
      refine lv_iconst (v := (1 : Int32)) hx hb dX3_isDigit_12 (by decide) ?_
      refine lv_goto (tgt := 17) hx hb dX3_isDigit_13 (by decide) ?_
      exact hR _ _ _ _ _ _ hf hz dX3_isDigit_17
set_option maxHeartbeats 4000000 in
set_option maxRecDepth 100000 in
theorem c3_isDigit {l : Launch} {D : va_G} {cI cZ cB : ClassId} {h : Nat → Nat} {x0 : Int32} {g : Sg} {r : Int32} {g1 : Sg} (hf : f3_isDigit x0 g = some (r, g1)) : KI l D (tyL cI cZ cB) (wX cI cZ cB h) yX3_isDigit cX3_isDigit 1 (some .boolean) rm3_isDigit [.int x0] g r g1 := by
  refine KZ_mk (own := RX3) (by decide +kernel) rfl (Nat.le_of_ble_eq_true rfl) ?_
  intro p e s m below meth c A Q ls C hR hz hl
  have hl : lv_has ls 1 [(0, .int x0)] := hl
  exact w3_isDigit_b0 C hR _ _ _ _ _ hf hz hl
abbrev rm3_readDigits : Room := { frames := 1, cells := 0, slots := 0, locals := 21 }
set_option maxHeartbeats 4000000 in
set_option maxRecDepth 100000 in
theorem w3_readDigits_b132 {res : Sg} (C : Cx p m c cX3_readDigits 2 s args RX3 D (tyL cI cZ cB)) (hR : EndV p l e rm3_readDigits s m args below meth c Q D (wX cI cZ cB h) A cX3_readDigits res) : ∀ (y0 : Int32) (g : Sg) (H : Heap) (locs : List Loc) (ls : Array Slot), f3_readDigits_b132 y0 g = some res → Zs D (wX cI cZ cB h) A s.heap H locs g → lv_has ls 2 [] → W p l e rm3_readDigits s m args below meth c H locs 0 0 Q (F0 m 132 ls [.int y0, .ref (h 121)]) := by
  have hx := C.1.1
  have hb := C.1.2.1
  intro y0 g H locs ls hf hz hl
  unfold f3_readDigits_b132 at hf
  obtain ⟨g1, eg1, hf⟩ := nx_elim hf
  refine p_RX3_19_text C hz eg1 dX3_readDigits_132 (fun H locs hz => ?_)
  exact hR _ _ _ _ _ (Option.some.inj hf) hz dX3_readDigits_135
set_option maxHeartbeats 4000000 in
set_option maxRecDepth 100000 in
theorem w3_readDigits_b125 {res : Sg} (C : Cx p m c cX3_readDigits 2 s args RX3 D (tyL cI cZ cB)) (hR : EndV p l e rm3_readDigits s m args below meth c Q D (wX cI cZ cB h) A cX3_readDigits res) : ∀ (g : Sg) (H : Heap) (locs : List Loc) (ls : Array Slot), f3_readDigits_b125 g = some res → Zs D (wX cI cZ cB h) A s.heap H locs g → lv_has ls 2 [] → W p l e rm3_readDigits s m args below meth c H locs 0 0 Q (F0 m 125 ls [.ref (h 121)]) := by
  have hx := C.1.1
  have hb := C.1.2.1
  intro g H locs ls hf hz hl
  unfold f3_readDigits_b125 at hf
  refine lv_bipush (v := (-2 : Int32)) hx hb dX3_readDigits_125 (by decide) ?_
  refine lv_goto (tgt := 132) hx hb dX3_readDigits_127 (by decide) ?_
  exact w3_readDigits_b132 C hR _ _ _ _ _ hf hz (lv_sub hl [] rfl)
set_option maxHeartbeats 4000000 in
set_option maxRecDepth 100000 in
theorem w3_readDigits_b110 {res : Sg} (C : Cx p m c cX3_readDigits 2 s args RX3 D (tyL cI cZ cB)) (hR : EndV p l e rm3_readDigits s m args below meth c Q D (wX cI cZ cB h) A cX3_readDigits res) : ∀ (y0 : Int32) (g : Sg) (H : Heap) (locs : List Loc) (ls : Array Slot), f3_readDigits_b110 y0 g = some res → Zs D (wX cI cZ cB h) A s.heap H locs g → lv_has ls 2 [(0, .ref (h 121))] → W p l e rm3_readDigits s m args below meth c H locs 0 0 Q (F0 m 110 ls [.int y0]) := by
  have hx := C.1.1
  have hb := C.1.2.1
  intro y0 g H locs ls hf hz hl
  unfold f3_readDigits_b110 at hf
  refine lv_istore_n (lv' := [(1, .int y0), (0, .ref (h 121))]) hx hb dX3_readDigits_110 rfl hl (by decide) rfl (fun ls hl => ?_)
  refine lv_aload_n hx hb dX3_readDigits_111 rfl (lv_at hl 1 rfl) ?_
  refine lv_iload_n hx hb dX3_readDigits_112 rfl (lv_at hl 0 rfl) ?_
  refine lv_if_ne (tgt := 125) hx hb dX3_readDigits_113 (by decide) (fun c2 => ?_) (fun c2 => ?_)
  · have hf := ite_f hf c2
    exact w3_readDigits_b125 C hR _ _ _ _ hf hz (lv_sub hl [] rfl)
  · have hf := ite_t hf c2
    refine lv_aload_n hx hb dX3_readDigits_116 rfl (lv_at hl 1 rfl) ?_
    refine g_RX3_28_text C hz dX3_readDigits_117 ?_
    refine lv_bipush (v := (100 : Int32)) hx hb dX3_readDigits_120 (by decide) ?_
    refine lv_icmp_ne (tgt := 130) hx hb dX3_readDigits_122 (by decide) (fun c3 => ?_) (fun c3 => ?_)
    · have hf := ite_f hf c3
      refine lv_bipush (v := (48 : Int32)) hx hb dX3_readDigits_130 (by decide) ?_
      exact w3_readDigits_b132 C hR _ _ _ _ _ hf hz (lv_sub hl [] rfl)
    · have hf := ite_t hf c3
      exact w3_readDigits_b125 C hR _ _ _ _ hf hz (lv_sub hl [] rfl)
set_option maxHeartbeats 4000000 in
set_option maxRecDepth 100000 in
theorem w3_readDigits_b109 {res : Sg} (C : Cx p m c cX3_readDigits 2 s args RX3 D (tyL cI cZ cB)) (hR : EndV p l e rm3_readDigits s m args below meth c Q D (wX cI cZ cB h) A cX3_readDigits res) : ∀ (g : Sg) (H : Heap) (locs : List Loc) (ls : Array Slot), f3_readDigits_b109 g = some res → Zs D (wX cI cZ cB h) A s.heap H locs g → lv_has ls 2 [(0, .ref (h 121))] → W p l e rm3_readDigits s m args below meth c H locs 0 0 Q (F0 m 109 ls []) := by
  have hx := C.1.1
  have hb := C.1.2.1
  intro g H locs ls hf hz hl
  unfold f3_readDigits_b109 at hf
  refine lv_iconst (v := (0 : Int32)) hx hb dX3_readDigits_109 (by decide) ?_
  exact w3_readDigits_b110 C hR _ _ _ _ _ hf hz (lv_sub hl [0] rfl)
set_option maxHeartbeats 4000000 in
set_option maxRecDepth 100000 in
theorem w3_readDigits_b79 {res : Sg} (C : Cx p m c cX3_readDigits 2 s args RX3 D (tyL cI cZ cB)) (hR : EndV p l e rm3_readDigits s m args below meth c Q D (wX cI cZ cB h) A cX3_readDigits res) : ∀ (g : Sg) (H : Heap) (locs : List Loc) (ls : Array Slot), f3_readDigits_b79 g = some res → Zs D (wX cI cZ cB h) A s.heap H locs g → lv_has ls 2 [(0, .ref (h 121))] → W p l e rm3_readDigits s m args below meth c H locs 0 0 Q (F0 m 79 ls []) := by
  have hx := C.1.1
  have hb := C.1.2.1
  intro g H locs ls hf hz hl
  unfold f3_readDigits_b79 at hf
  refine lv_aload_n hx hb dX3_readDigits_79 rfl (lv_at hl 0 rfl) ?_
  refine lv_aload_n hx hb dX3_readDigits_80 rfl (lv_at hl 0 rfl) ?_
  refine g_RX3_22_text C hz dX3_readDigits_81 ?_
  obtain ⟨r6, g5, hc4, hf⟩ := bd2_elim hf
  refine z_VI (As := [.int (g.1 121 2)]) (rest := []) C (c3_letterAt hc4) lk_RX3_31 ⟨rfl, rfl, Nat.le_of_ble_eq_true rfl, Nat.le_of_ble_eq_true rfl⟩ ⟨Nat.zero_le _, Nat.zero_le _⟩ o_text rfl rfl (Nat.le_of_ble_eq_true rfl) rfl hl.1 dX3_readDigits_84 hz (fun H locs hz => ?_)
  refine lv_bipush (v := (48 : Int32)) hx hb dX3_readDigits_87 (by decide) ?_
  refine lv_icmp_ne (tgt := 109) hx hb dX3_readDigits_89 (by decide) (fun c7 => ?_) (fun c7 => ?_)
  · have hf := ite_f hf c7
    exact w3_readDigits_b109 C hR _ _ _ _ hf hz (lv_sub hl [0] rfl)
  · have hf := ite_t hf c7
    refine lv_aload_n hx hb dX3_readDigits_92 rfl (lv_at hl 0 rfl) ?_
    refine g_RX3_25_text C hz dX3_readDigits_93 ?_
    refine lv_aload_n hx hb dX3_readDigits_96 rfl (lv_at hl 0 rfl) ?_
    refine g_RX3_22_text C hz dX3_readDigits_97 ?_
    refine lv_iconst (v := (1 : Int32)) hx hb dX3_readDigits_100 (by decide) ?_
    refine lv_iadd hx hb dX3_readDigits_101 ?_
    refine lv_icmp_le (tgt := 109) hx hb dX3_readDigits_102 (by decide) (fun c8 => ?_) (fun c8 => ?_)
    · have hf := ite_t hf c8
      exact w3_readDigits_b109 C hR _ _ _ _ hf hz (lv_sub hl [0] rfl)
    · have hf := ite_f hf c8
      refine lv_iconst (v := (1 : Int32)) hx hb dX3_readDigits_105 (by decide) ?_
      refine lv_goto (tgt := 110) hx hb dX3_readDigits_106 (by decide) ?_
      exact w3_readDigits_b110 C hR _ _ _ _ _ hf hz (lv_sub hl [0] rfl)
set_option maxHeartbeats 4000000 in
set_option maxRecDepth 100000 in
theorem w3_readDigits_b13 {res : Sg} (C : Cx p m c cX3_readDigits 2 s args RX3 D (tyL cI cZ cB)) (hR : EndV p l e rm3_readDigits s m args below meth c Q D (wX cI cZ cB h) A cX3_readDigits res) : ∀ n : Nat, ∀ (g : Sg) (H : Heap) (locs : List Loc) (ls : Array Slot), f3_readDigits_b13 n g = some res → Zs D (wX cI cZ cB h) A s.heap H locs g → lv_has ls 2 [(0, .ref (h 121))] → W p l e rm3_readDigits s m args below meth c H locs 0 0 Q (F0 m 13 ls []) := by
  have hx := C.1.1
  have hb := C.1.2.1
  intro n
  induction n with
  | zero =>
    intro g H locs ls hf hz hl
    cases hf
  | succ n ih =>
    intro g H locs ls hf hz hl
    rw [f3_readDigits_b13] at hf
    refine lv_aload_n hx hb dX3_readDigits_13 rfl (lv_at hl 0 rfl) ?_
    refine g_RX3_25_text C hz dX3_readDigits_14 ?_
    refine lv_aload_n hx hb dX3_readDigits_17 rfl (lv_at hl 0 rfl) ?_
    refine g_RX3_15_text C hz dX3_readDigits_18 ?_
    refine lv_icmp_ge (tgt := 79) hx hb dX3_readDigits_21 (by decide) (fun c9 => ?_) (fun c9 => ?_)
    · have hf := ite_t hf c9
      exact w3_readDigits_b79 C hR _ _ _ _ hf hz (lv_sub hl [0] rfl)
    · have hf := ite_f hf c9
      refine lv_aload_n hx hb dX3_readDigits_24 rfl (lv_at hl 0 rfl) ?_
      refine lv_aload_n hx hb dX3_readDigits_25 rfl (lv_at hl 0 rfl) ?_
      refine g_RX3_25_text C hz dX3_readDigits_26 ?_
      obtain ⟨r12, g11, hc10, hf⟩ := bd2_elim hf
      refine z_VI (As := [.int (g.1 121 3)]) (rest := []) C (c3_letterAt hc10) lk_RX3_31 ⟨rfl, rfl, Nat.le_of_ble_eq_true rfl, Nat.le_of_ble_eq_true rfl⟩ ⟨Nat.zero_le _, Nat.zero_le _⟩ o_text rfl rfl (Nat.le_of_ble_eq_true rfl) rfl hl.1 dX3_readDigits_29 hz (fun H locs hz => ?_)
      obtain ⟨r15, g14, hc13, hf⟩ := bd2_elim hf
      refine z_SI (As := [.int r12]) (rest := []) C (c3_isDigit hc13) lk_RX3_41 ⟨rfl, rfl, Nat.le_of_ble_eq_true rfl, Nat.le_of_ble_eq_true rfl⟩ ⟨Nat.zero_le _, Nat.zero_le _⟩ rfl (Nat.le_of_ble_eq_true rfl) rfl hl.1 dX3_readDigits_32 hz (fun H locs hz => ?_)
      refine lv_if_eq (tgt := 79) hx hb dX3_readDigits_35 (by decide) (fun c16 => ?_) (fun c16 => ?_)
      · have hf := ite_t hf c16
        exact w3_readDigits_b79 C hR _ _ _ _ hf hz (lv_sub hl [0] rfl)
      · have hf := ite_f hf c16
        refine lv_aload_n hx hb dX3_readDigits_38 rfl (lv_at hl 0 rfl) ?_
        refine lv_bipush (v := (100 : Int32)) hx hb dX3_readDigits_39 (by decide) ?_
        refine lv_aload_n hx hb dX3_readDigits_41 rfl (lv_at hl 0 rfl) ?_
        refine g_RX3_28_text C hz dX3_readDigits_42 ?_
        refine lv_bipush (v := (10 : Int32)) hx hb dX3_readDigits_45 (by decide) ?_
        refine lv_imul hx hb dX3_readDigits_47 ?_
        refine lv_aload_n hx hb dX3_readDigits_48 rfl (lv_at hl 0 rfl) ?_
        refine lv_aload_n hx hb dX3_readDigits_49 rfl (lv_at hl 0 rfl) ?_
        refine g_RX3_25_text C hz dX3_readDigits_50 ?_
        obtain ⟨r19, g18, hc17, hf⟩ := bd2_elim hf
        refine z_VI (As := [.int (g14.1 121 3)]) (rest := [.int ((g14.1 121 4) * (10 : Int32)), .int (100 : Int32), .ref (h 121)]) C (c3_letterAt hc17) lk_RX3_31 ⟨rfl, rfl, Nat.le_of_ble_eq_true rfl, Nat.le_of_ble_eq_true rfl⟩ ⟨Nat.zero_le _, Nat.zero_le _⟩ o_text rfl rfl (Nat.le_of_ble_eq_true rfl) rfl hl.1 dX3_readDigits_53 hz (fun H locs hz => ?_)
        refine lv_iadd hx hb dX3_readDigits_56 ?_
        refine lv_bipush (v := (48 : Int32)) hx hb dX3_readDigits_57 (by decide) ?_
        refine lv_isub hx hb dX3_readDigits_59 ?_
        refine z_min C hl.1 wd_169 wd_172 wd_171 wd_170 (Nat.le_of_ble_eq_true rfl) (Nat.le_of_ble_eq_true rfl) (Nat.zero_le _) (Nat.zero_le _) dX3_readDigits_60 ?_
        obtain ⟨g20, eg20, hf⟩ := nx_elim hf
        refine p_RX3_28_text C hz eg20 dX3_readDigits_63 (fun H locs hz => ?_)
        refine lv_aload_n hx hb dX3_readDigits_66 rfl (lv_at hl 0 rfl) ?_
        refine lv_dup hx hb dX3_readDigits_67 rfl ?_
        refine g_RX3_25_text C hz dX3_readDigits_68 ?_
        refine lv_iconst (v := (1 : Int32)) hx hb dX3_readDigits_71 (by decide) ?_
        refine lv_iadd hx hb dX3_readDigits_72 ?_
        obtain ⟨g21, eg21, hf⟩ := nx_elim hf
        refine p_RX3_25_text C hz eg21 dX3_readDigits_73 (fun H locs hz => ?_)
        refine lv_goto (tgt := 13) hx hb dX3_readDigits_76 (by decide) ?_
        exact ih _ _ _ _ hf hz (lv_sub hl [0] rfl)
set_option maxHeartbeats 4000000 in
set_option maxRecDepth 100000 in
theorem w3_readDigits_b0 {res : Sg} (C : Cx p m c cX3_readDigits 2 s args RX3 D (tyL cI cZ cB)) (hR : EndV p l e rm3_readDigits s m args below meth c Q D (wX cI cZ cB h) A cX3_readDigits res) : ∀ (g : Sg) (H : Heap) (locs : List Loc) (ls : Array Slot), f3_readDigits g = some res → Zs D (wX cI cZ cB h) A s.heap H locs g → lv_has ls 2 [(0, .ref (h 121))] → W p l e rm3_readDigits s m args below meth c H locs 0 0 Q (F0 m 0 ls []) := by
  have hx := C.1.1
  have hb := C.1.2.1
  intro g H locs ls hf hz hl
  unfold f3_readDigits at hf
  refine lv_aload_n hx hb dX3_readDigits_0 rfl (lv_at hl 0 rfl) ?_
  refine lv_iconst (v := (0 : Int32)) hx hb dX3_readDigits_1 (by decide) ?_
  obtain ⟨g22, eg22, hf⟩ := nx_elim hf
  refine p_RX3_28_text C hz eg22 dX3_readDigits_2 (fun H locs hz => ?_)
  refine lv_aload_n hx hb dX3_readDigits_5 rfl (lv_at hl 0 rfl) ?_
  refine lv_aload_n hx hb dX3_readDigits_6 rfl (lv_at hl 0 rfl) ?_
  refine g_RX3_22_text C hz dX3_readDigits_7 ?_
  obtain ⟨g23, eg23, hf⟩ := nx_elim hf
  refine p_RX3_25_text C hz eg23 dX3_readDigits_10 (fun H locs hz => ?_)
  exact w3_readDigits_b13 C hR 1000 _ _ _ _ hf hz (lv_sub hl [0] rfl)
set_option maxHeartbeats 4000000 in
set_option maxRecDepth 100000 in
theorem c3_readDigits {l : Launch} {D : va_G} {cI cZ cB : ClassId} {h : Nat → Nat} {g : Sg} {g1 : Sg} (hf : f3_readDigits g = some g1) : KV l D (tyL cI cZ cB) (wX cI cZ cB h) yX3_readDigits cX3_readDigits 2 none rm3_readDigits [.ref (h 121)] g g1 := by
  refine KV_mk (own := RX3) (by decide +kernel) rfl (Nat.le_of_ble_eq_true rfl) ?_
  intro p e s m below meth c A Q ls C hR hz hl
  have hl : lv_has ls 2 [(0, .ref (h 121))] := hl
  exact w3_readDigits_b0 C hR _ _ _ _ hf hz hl
abbrev rm3_readToken : Room := { frames := 2, cells := 0, slots := 0, locals := 42 }
set_option maxHeartbeats 4000000 in
set_option maxRecDepth 100000 in
theorem w3_readToken_b140 {res : Sg} (C : Cx p m c cX3_readToken 2 s args RX3 D (tyL cI cZ cB)) (hR : EndV p l e rm3_readToken s m args below meth c Q D (wX cI cZ cB h) A cX3_readToken res) : ∀ (x1 : Int32) (g : Sg) (H : Heap) (locs : List Loc) (ls : Array Slot), f3_readToken_b140 x1 g = some res → Zs D (wX cI cZ cB h) A s.heap H locs g → lv_has ls 2 [(0, .ref (h 121)), (1, .int x1)] → W p l e rm3_readToken s m args below meth c H locs 0 0 Q (F0 m 140 ls []) := by
  have hx := C.1.1
  have hb := C.1.2.1
  intro x1 g H locs ls hf hz hl
  unfold f3_readToken_b140 at hf
  refine lv_aload_n hx hb dX3_readToken_140 rfl (lv_at hl 0 rfl) ?_
  refine lv_iload_n hx hb dX3_readToken_141 rfl (lv_at hl 1 rfl) ?_
  obtain ⟨g1, eg1, hf⟩ := nx_elim hf
  refine p_RX3_19_text C hz eg1 dX3_readToken_142 (fun H locs hz => ?_)
  refine lv_goto (tgt := 165) hx hb dX3_readToken_145 (by decide) ?_
  exact hR _ _ _ _ _ (Option.some.inj hf) hz dX3_readToken_165
set_option maxHeartbeats 4000000 in
set_option maxRecDepth 100000 in
theorem w3_readToken_b45 {res : Sg} (C : Cx p m c cX3_readToken 2 s args RX3 D (tyL cI cZ cB)) (hR : EndV p l e rm3_readToken s m args below meth c Q D (wX cI cZ cB h) A cX3_readToken res) : ∀ (g : Sg) (H : Heap) (locs : List Loc) (ls : Array Slot), f3_readToken_b45 g = some res → Zs D (wX cI cZ cB h) A s.heap H locs g → lv_has ls 2 [(0, .ref (h 121))] → W p l e rm3_readToken s m args below meth c H locs 0 0 Q (F0 m 45 ls []) := by
  have hx := C.1.1
  have hb := C.1.2.1
  intro g H locs ls hf hz hl
  unfold f3_readToken_b45 at hf
  refine lv_aload_n hx hb dX3_readToken_45 rfl (lv_at hl 0 rfl) ?_
  refine lv_aload_n hx hb dX3_readToken_46 rfl (lv_at hl 0 rfl) ?_
  refine g_RX3_22_text C hz dX3_readToken_47 ?_
  refine lv_iconst (v := (1 : Int32)) hx hb dX3_readToken_50 (by decide) ?_
  refine lv_iadd hx hb dX3_readToken_51 ?_
  refine lv_aload_n hx hb dX3_readToken_52 rfl (lv_at hl 0 rfl) ?_
  refine g_RX3_15_text C hz dX3_readToken_53 ?_
  refine z_min C hl.1 wd_169 wd_172 wd_171 wd_170 (Nat.le_of_ble_eq_true rfl) (Nat.le_of_ble_eq_true rfl) (Nat.zero_le _) (Nat.zero_le _) dX3_readToken_56 ?_
  obtain ⟨g2, eg2, hf⟩ := nx_elim hf
  refine p_RX3_25_text C hz eg2 dX3_readToken_59 (fun H locs hz => ?_)
  refine lv_aload_n hx hb dX3_readToken_62 rfl (lv_at hl 0 rfl) ?_
  refine lv_aload_n hx hb dX3_readToken_63 rfl (lv_at hl 0 rfl) ?_
  refine g_RX3_22_text C hz dX3_readToken_64 ?_
  obtain ⟨r5, g4, hc3, hf⟩ := bd2_elim hf
  refine z_VI (As := [.int (g2.1 121 2)]) (rest := []) C (c3_letterAt hc3) lk_RX3_31 ⟨rfl, rfl, Nat.le_of_ble_eq_true rfl, Nat.le_of_ble_eq_true rfl⟩ ⟨Nat.zero_le _, Nat.zero_le _⟩ o_text rfl rfl (Nat.le_of_ble_eq_true rfl) rfl hl.1 dX3_readToken_67 hz (fun H locs hz => ?_)
  refine lv_istore_n (lv' := [(1, .int r5), (0, .ref (h 121))]) hx hb dX3_readToken_70 rfl hl (by decide) rfl (fun ls hl => ?_)
  refine lv_iload_n hx hb dX3_readToken_71 rfl (lv_at hl 0 rfl) ?_
  by_cases c6 : r5 = (-1 : Int32)
  · have hf := ite_t hf c6
    refine lv_lookup (off := 68) (tgt := 140) hx hb dX3_readToken_72 (by decide) (by rw [c6]; decide) (by decide) ?_
    exact w3_readToken_b140 C hR _ _ _ _ _ hf hz (lv_sub hl [1, 0] rfl)
  have hf := ite_f hf c6
  by_cases c7 : r5 = (59 : Int32)
  · have hf := ite_t hf c7
    refine lv_lookup (off := 68) (tgt := 140) hx hb dX3_readToken_72 (by decide) (by rw [c7]; decide) (by decide) ?_
    exact w3_readToken_b140 C hR _ _ _ _ _ hf hz (lv_sub hl [1, 0] rfl)
  have hf := ite_f hf c7
  by_cases c8 : r5 = (97 : Int32)
  · have hf := ite_t hf c8
    refine lv_lookup (off := 68) (tgt := 140) hx hb dX3_readToken_72 (by decide) (by rw [c8]; decide) (by decide) ?_
    exact w3_readToken_b140 C hR _ _ _ _ _ hf hz (lv_sub hl [1, 0] rfl)
  have hf := ite_f hf c8
  by_cases c9 : r5 = (109 : Int32)
  · have hf := ite_t hf c9
    refine lv_lookup (off := 68) (tgt := 140) hx hb dX3_readToken_72 (by decide) (by rw [c9]; decide) (by decide) ?_
    exact w3_readToken_b140 C hR _ _ _ _ _ hf hz (lv_sub hl [1, 0] rfl)
  have hf := ite_f hf c9
  by_cases c10 : r5 = (112 : Int32)
  · have hf := ite_t hf c10
    refine lv_lookup (off := 68) (tgt := 140) hx hb dX3_readToken_72 (by decide) (by rw [c10]; decide) (by decide) ?_
    exact w3_readToken_b140 C hR _ _ _ _ _ hf hz (lv_sub hl [1, 0] rfl)
  have hf := ite_f hf c10
  by_cases c11 : r5 = (115 : Int32)
  · have hf := ite_t hf c11
    refine lv_lookup (off := 68) (tgt := 140) hx hb dX3_readToken_72 (by decide) (by rw [c11]; decide) (by decide) ?_
    exact w3_readToken_b140 C hR _ _ _ _ _ hf hz (lv_sub hl [1, 0] rfl)
  have hf := ite_f hf c11
  by_cases c12 : r5 = (120 : Int32)
  · have hf := ite_t hf c12
    refine lv_lookup (off := 68) (tgt := 140) hx hb dX3_readToken_72 (by decide) (by rw [c12]; decide) (by decide) ?_
    exact w3_readToken_b140 C hR _ _ _ _ _ hf hz (lv_sub hl [1, 0] rfl)
  have hf := ite_f hf c12
  refine lv_lookup (off := 76) (tgt := 148) hx hb dX3_readToken_72 (by decide) (by show Op.lookupswitch.offset [(-1, 68), (59, 68), (97, 68), (109, 68), (112, 68), (115, 68), (120, 68)] 76 _ = _; rw [lv_osw (a := -1) c6 rfl, lv_osw (a := 59) c7 rfl, lv_osw (a := 97) c8 rfl, lv_osw (a := 109) c9 rfl, lv_osw (a := 112) c10 rfl, lv_osw (a := 115) c11 rfl, lv_osw (a := 120) c12 rfl]; rfl) (by decide) ?_
  refine lv_aload_n hx hb dX3_readToken_148 rfl (lv_at hl 1 rfl) ?_
  refine lv_bipush (v := (-2 : Int32)) hx hb dX3_readToken_149 (by decide) ?_
  obtain ⟨g13, eg13, hf⟩ := nx_elim hf
  refine p_RX3_19_text C hz eg13 dX3_readToken_151 (fun H locs hz => ?_)
  refine lv_iload_n hx hb dX3_readToken_154 rfl (lv_at hl 0 rfl) ?_
  obtain ⟨r16, g15, hc14, hf⟩ := bd2_elim hf
  refine z_SI (As := [.int r5]) (rest := []) C (c3_isDigit hc14) lk_RX3_41 ⟨rfl, rfl, Nat.le_of_ble_eq_true rfl, Nat.le_of_ble_eq_true rfl⟩ ⟨Nat.zero_le _, Nat.zero_le _⟩ rfl (Nat.le_of_ble_eq_true rfl) rfl hl.1 dX3_readToken_155 hz (fun H locs hz => ?_)
  refine lv_if_eq (tgt := 165) hx hb dX3_readToken_158 (by decide) (fun c17 => ?_) (fun c17 => ?_)
  · have hf := ite_t hf c17
    exact hR _ _ _ _ _ (Option.some.inj hf) hz dX3_readToken_165
  · have hf := ite_f hf c17
    refine lv_aload_n hx hb dX3_readToken_161 rfl (lv_at hl 1 rfl) ?_
    obtain ⟨g19, hc18, hf⟩ := bd_elim hf
    refine z_VV (As := []) (rest := []) C (c3_readDigits hc18) lk_RX3_45 ⟨rfl, rfl, Nat.le_of_ble_eq_true rfl, Nat.le_of_ble_eq_true rfl⟩ ⟨Nat.zero_le _, Nat.zero_le _⟩ o_text rfl rfl (Nat.le_of_ble_eq_true rfl) rfl hl.1 dX3_readToken_162 hz (fun H locs hz => ?_)
    exact hR _ _ _ _ _ (Option.some.inj hf) hz dX3_readToken_165
set_option maxHeartbeats 4000000 in
set_option maxRecDepth 100000 in
theorem w3_readToken_b8 {res : Sg} (C : Cx p m c cX3_readToken 2 s args RX3 D (tyL cI cZ cB)) (hR : EndV p l e rm3_readToken s m args below meth c Q D (wX cI cZ cB h) A cX3_readToken res) : ∀ n : Nat, ∀ (g : Sg) (H : Heap) (locs : List Loc) (ls : Array Slot), f3_readToken_b8 n g = some res → Zs D (wX cI cZ cB h) A s.heap H locs g → lv_has ls 2 [(0, .ref (h 121))] → W p l e rm3_readToken s m args below meth c H locs 0 0 Q (F0 m 8 ls []) := by
  have hx := C.1.1
  have hb := C.1.2.1
  intro n
  induction n with
  | zero =>
    intro g H locs ls hf hz hl
    cases hf
  | succ n ih =>
    intro g H locs ls hf hz hl
    rw [f3_readToken_b8] at hf
    refine lv_aload_n hx hb dX3_readToken_8 rfl (lv_at hl 0 rfl) ?_
    refine g_RX3_22_text C hz dX3_readToken_9 ?_
    refine lv_aload_n hx hb dX3_readToken_12 rfl (lv_at hl 0 rfl) ?_
    refine g_RX3_15_text C hz dX3_readToken_13 ?_
    refine lv_icmp_ge (tgt := 45) hx hb dX3_readToken_16 (by decide) (fun c20 => ?_) (fun c20 => ?_)
    · have hf := ite_t hf c20
      exact w3_readToken_b45 C hR _ _ _ _ hf hz (lv_sub hl [0] rfl)
    · have hf := ite_f hf c20
      refine lv_aload_n hx hb dX3_readToken_19 rfl (lv_at hl 0 rfl) ?_
      refine lv_aload_n hx hb dX3_readToken_20 rfl (lv_at hl 0 rfl) ?_
      refine g_RX3_22_text C hz dX3_readToken_21 ?_
      obtain ⟨r23, g22, hc21, hf⟩ := bd2_elim hf
      refine z_VI (As := [.int (g.1 121 2)]) (rest := []) C (c3_letterAt hc21) lk_RX3_31 ⟨rfl, rfl, Nat.le_of_ble_eq_true rfl, Nat.le_of_ble_eq_true rfl⟩ ⟨Nat.zero_le _, Nat.zero_le _⟩ o_text rfl rfl (Nat.le_of_ble_eq_true rfl) rfl hl.1 dX3_readToken_24 hz (fun H locs hz => ?_)
      refine lv_bipush (v := (32 : Int32)) hx hb dX3_readToken_27 (by decide) ?_
      refine lv_icmp_ne (tgt := 45) hx hb dX3_readToken_29 (by decide) (fun c24 => ?_) (fun c24 => ?_)
      · have hf := ite_f hf c24
        exact w3_readToken_b45 C hR _ _ _ _ hf hz (lv_sub hl [0] rfl)
      · have hf := ite_t hf c24
        refine lv_aload_n hx hb dX3_readToken_32 rfl (lv_at hl 0 rfl) ?_
        refine lv_dup hx hb dX3_readToken_33 rfl ?_
        refine g_RX3_22_text C hz dX3_readToken_34 ?_
        refine lv_iconst (v := (1 : Int32)) hx hb dX3_readToken_37 (by decide) ?_
        refine lv_iadd hx hb dX3_readToken_38 ?_
        obtain ⟨g25, eg25, hf⟩ := nx_elim hf
        refine p_RX3_22_text C hz eg25 dX3_readToken_39 (fun H locs hz => ?_)
        refine lv_goto (tgt := 8) hx hb dX3_readToken_42 (by decide) ?_
        exact ih _ _ _ _ hf hz (lv_sub hl [0] rfl)
set_option maxHeartbeats 4000000 in
set_option maxRecDepth 100000 in
theorem w3_readToken_b0 {res : Sg} (C : Cx p m c cX3_readToken 2 s args RX3 D (tyL cI cZ cB)) (hR : EndV p l e rm3_readToken s m args below meth c Q D (wX cI cZ cB h) A cX3_readToken res) : ∀ (g : Sg) (H : Heap) (locs : List Loc) (ls : Array Slot), f3_readToken g = some res → Zs D (wX cI cZ cB h) A s.heap H locs g → lv_has ls 2 [(0, .ref (h 121))] → W p l e rm3_readToken s m args below meth c H locs 0 0 Q (F0 m 0 ls []) := by
  have hx := C.1.1
  have hb := C.1.2.1
  intro g H locs ls hf hz hl
  unfold f3_readToken at hf
  refine lv_aload_n hx hb dX3_readToken_0 rfl (lv_at hl 0 rfl) ?_
  refine lv_aload_n hx hb dX3_readToken_1 rfl (lv_at hl 0 rfl) ?_
  refine g_RX3_25_text C hz dX3_readToken_2 ?_
  obtain ⟨g26, eg26, hf⟩ := nx_elim hf
  refine p_RX3_22_text C hz eg26 dX3_readToken_5 (fun H locs hz => ?_)
  exact w3_readToken_b8 C hR 1000 _ _ _ _ hf hz (lv_sub hl [0] rfl)
set_option maxHeartbeats 4000000 in
set_option maxRecDepth 100000 in
theorem c3_readToken {l : Launch} {D : va_G} {cI cZ cB : ClassId} {h : Nat → Nat} {g : Sg} {g1 : Sg} (hf : f3_readToken g = some g1) : KV l D (tyL cI cZ cB) (wX cI cZ cB h) yX3_readToken cX3_readToken 2 none rm3_readToken [.ref (h 121)] g g1 := by
  refine KV_mk (own := RX3) (by decide +kernel) rfl (Nat.le_of_ble_eq_true rfl) ?_
  intro p e s m below meth c A Q ls C hR hz hl
  have hl : lv_has ls 2 [(0, .ref (h 121))] := hl
  exact w3_readToken_b0 C hR _ _ _ _ hf hz hl
abbrev rm2_readNumber : Room := { frames := 3, cells := 0, slots := 0, locals := 63 }
set_option maxHeartbeats 4000000 in
set_option maxRecDepth 100000 in
theorem w2_readNumber_b0 {res : Int32 × Sg} (C : Cx p m c cX2_readNumber 3 s args RX2 D (tyL cI cZ cB)) (hR : EndZ p l e rm2_readNumber s m args below meth c Q D (wX cI cZ cB h) A cX2_readNumber res) : ∀ (x1 : Int32) (x2 : Int32) (g : Sg) (H : Heap) (locs : List Loc) (ls : Array Slot), f2_readNumber x1 x2 g = some res → Zs D (wX cI cZ cB h) A s.heap H locs g → lv_has ls 3 [(0, .ref (h 122)), (1, .int x1), (2, .int x2)] → W p l e rm2_readNumber s m args below meth c H locs 0 0 Q (F0 m 0 ls []) := by
  have hx := C.1.1
  have hb := C.1.2.1
  intro x1 x2 g H locs ls hf hz hl
  unfold f2_readNumber at hf
  refine lv_aload_n hx hb dX2_readNumber_0 rfl (lv_at hl 0 rfl) ?_
  refine g_RX2_12_reader C hz dX2_readNumber_1 ?_
  obtain ⟨g2, hc1, hf⟩ := bd_elim hf
  refine z_VV (As := []) (rest := []) C (c3_readToken hc1) lk_RX2_38 ⟨rfl, rfl, Nat.le_of_ble_eq_true rfl, Nat.le_of_ble_eq_true rfl⟩ ⟨Nat.zero_le _, Nat.zero_le _⟩ o_text rfl rfl (Nat.le_of_ble_eq_true rfl) rfl hl.1 dX2_readNumber_4 hz (fun H locs hz => ?_)
  refine lv_aload_n hx hb dX2_readNumber_7 rfl (lv_at hl 0 rfl) ?_
  refine g_RX2_12_reader C hz dX2_readNumber_8 ?_
  refine g_RX2_41_text C hz dX2_readNumber_11 ?_
  refine lv_bipush (v := (48 : Int32)) hx hb dX2_readNumber_14 (by decide) ?_
  refine lv_icmp_ne (tgt := 45) hx hb dX2_readNumber_16 (by decide) (fun c3 => ?_) (fun c3 => ?_)
  · have hf := ite_f hf c3
    refine lv_iconst (v := (0 : Int32)) hx hb dX2_readNumber_45 (by decide) ?_
    exact hR _ _ _ _ _ _ hf hz dX2_readNumber_46
  · have hf := ite_t hf c3
    refine lv_aload_n hx hb dX2_readNumber_19 rfl (lv_at hl 0 rfl) ?_
    refine g_RX2_12_reader C hz dX2_readNumber_20 ?_
    refine g_RX2_75_text C hz dX2_readNumber_23 ?_
    refine lv_iload_n hx hb dX2_readNumber_26 rfl (lv_at hl 1 rfl) ?_
    refine lv_icmp_lt (tgt := 45) hx hb dX2_readNumber_27 (by decide) (fun c4 => ?_) (fun c4 => ?_)
    · have hf := ite_t hf c4
      refine lv_iconst (v := (0 : Int32)) hx hb dX2_readNumber_45 (by decide) ?_
      exact hR _ _ _ _ _ _ hf hz dX2_readNumber_46
    · have hf := ite_f hf c4
      refine lv_aload_n hx hb dX2_readNumber_30 rfl (lv_at hl 0 rfl) ?_
      refine g_RX2_12_reader C hz dX2_readNumber_31 ?_
      refine g_RX2_75_text C hz dX2_readNumber_34 ?_
      refine lv_iload_n hx hb dX2_readNumber_37 rfl (lv_at hl 2 rfl) ?_
      refine lv_icmp_gt (tgt := 45) hx hb dX2_readNumber_38 (by decide) (fun c5 => ?_) (fun c5 => ?_)
      · have hf := ite_t hf c5
        refine lv_iconst (v := (0 : Int32)) hx hb dX2_readNumber_45 (by decide) ?_
        exact hR _ _ _ _ _ _ hf hz dX2_readNumber_46
      · have hf := ite_f hf c5
        refine lv_iconst (v := (1 : Int32)) hx hb dX2_readNumber_41 (by decide) ?_
        refine lv_goto (tgt := 46) hx hb dX2_readNumber_42 (by decide) ?_
        exact hR _ _ _ _ _ _ hf hz dX2_readNumber_46
set_option maxHeartbeats 4000000 in
set_option maxRecDepth 100000 in
theorem c2_readNumber {l : Launch} {D : va_G} {cI cZ cB : ClassId} {h : Nat → Nat} {x1 : Int32} {x2 : Int32} {g : Sg} {r : Int32} {g1 : Sg} (hf : f2_readNumber x1 x2 g = some (r, g1)) : KI l D (tyL cI cZ cB) (wX cI cZ cB h) yX2_readNumber cX2_readNumber 3 (some .boolean) rm2_readNumber [.ref (h 122), .int x1, .int x2] g r g1 := by
  refine KZ_mk (own := RX2) (by decide +kernel) rfl (Nat.le_of_ble_eq_true rfl) ?_
  intro p e s m below meth c A Q ls C hR hz hl
  have hl : lv_has ls 3 [(0, .ref (h 122)), (1, .int x1), (2, .int x2)] := hl
  exact w2_readNumber_b0 C hR _ _ _ _ _ _ hf hz hl
abbrev rm2_readEnd : Room := { frames := 3, cells := 0, slots := 0, locals := 63 }
set_option maxHeartbeats 4000000 in
set_option maxRecDepth 100000 in
theorem w2_readEnd_b0 {res : Int32 × Sg} (C : Cx p m c cX2_readEnd 1 s args RX2 D (tyL cI cZ cB)) (hR : EndZ p l e rm2_readEnd s m args below meth c Q D (wX cI cZ cB h) A cX2_readEnd res) : ∀ (g : Sg) (H : Heap) (locs : List Loc) (ls : Array Slot), f2_readEnd g = some res → Zs D (wX cI cZ cB h) A s.heap H locs g → lv_has ls 1 [(0, .ref (h 122))] → W p l e rm2_readEnd s m args below meth c H locs 0 0 Q (F0 m 0 ls []) := by
  have hx := C.1.1
  have hb := C.1.2.1
  intro g H locs ls hf hz hl
  unfold f2_readEnd at hf
  refine lv_aload_n hx hb dX2_readEnd_0 rfl (lv_at hl 0 rfl) ?_
  refine g_RX2_12_reader C hz dX2_readEnd_1 ?_
  obtain ⟨g2, hc1, hf⟩ := bd_elim hf
  refine z_VV (As := []) (rest := []) C (c3_readToken hc1) lk_RX2_38 ⟨rfl, rfl, Nat.le_of_ble_eq_true rfl, Nat.le_of_ble_eq_true rfl⟩ ⟨Nat.zero_le _, Nat.zero_le _⟩ o_text rfl rfl (Nat.le_of_ble_eq_true rfl) rfl hl.1 dX2_readEnd_4 hz (fun H locs hz => ?_)
  refine lv_aload_n hx hb dX2_readEnd_7 rfl (lv_at hl 0 rfl) ?_
  refine g_RX2_12_reader C hz dX2_readEnd_8 ?_
  refine g_RX2_41_text C hz dX2_readEnd_11 ?_
  refine lv_bipush (v := (59 : Int32)) hx hb dX2_readEnd_14 (by decide) ?_
  refine lv_icmp_ne (tgt := 23) hx hb dX2_readEnd_16 (by decide) (fun c3 => ?_) (fun c3 => ?_)
  · have hf := ite_f hf c3
    refine lv_iconst (v := (0 : Int32)) hx hb dX2_readEnd_23 (by decide) ?_
    exact hR _ _ _ _ _ _ hf hz dX2_readEnd_24
  · have hf := ite_t hf c3
    refine lv_iconst (v := (1 : Int32)) hx hb dX2_readEnd_19 (by decide) ?_
    refine lv_goto (tgt := 24) hx hb dX2_readEnd_20 (by decide) ?_
    exact hR _ _ _ _ _ _ hf hz dX2_readEnd_24
set_option maxHeartbeats 4000000 in
set_option maxRecDepth 100000 in
theorem c2_readEnd {l : Launch} {D : va_G} {cI cZ cB : ClassId} {h : Nat → Nat} {g : Sg} {r : Int32} {g1 : Sg} (hf : f2_readEnd g = some (r, g1)) : KI l D (tyL cI cZ cB) (wX cI cZ cB h) yX2_readEnd cX2_readEnd 1 (some .boolean) rm2_readEnd [.ref (h 122)] g r g1 := by
  refine KZ_mk (own := RX2) (by decide +kernel) rfl (Nat.le_of_ble_eq_true rfl) ?_
  intro p e s m below meth c A Q ls C hR hz hl
  have hl : lv_has ls 1 [(0, .ref (h 122))] := hl
  exact w2_readEnd_b0 C hR _ _ _ _ hf hz hl
abbrev rm2_readPerson : Room := { frames := 4, cells := 0, slots := 0, locals := 85 }
set_option maxHeartbeats 4000000 in
set_option maxRecDepth 100000 in
theorem w2_readPerson_b109 {res : Int32 × Sg} (C : Cx p m c cX2_readPerson 2 s args RX2 D (tyL cI cZ cB)) (hR : EndZ p l e rm2_readPerson s m args below meth c Q D (wX cI cZ cB h) A cX2_readPerson res) : ∀ (y0 : Int32) (y1 : Int32) (g : Sg) (H : Heap) (locs : List Loc) (ls : Array Slot), f2_readPerson_b109 y0 y1 g = some res → Zs D (wX cI cZ cB h) A s.heap H locs g → lv_has ls 2 [(0, .ref (h 122))] → W p l e rm2_readPerson s m args below meth c H locs 0 0 Q (F0 m 109 ls [.int y0, .int y1, .ref (h 101)]) := by
  have hx := C.1.1
  have hb := C.1.2.1
  intro y0 y1 g H locs ls hf hz hl
  unfold f2_readPerson_b109 at hf
  obtain ⟨c1, hf⟩ := ix_elim hf
  obtain ⟨g2, eg2, hf⟩ := nx_elim hf
  refine z_iast C hz a_rtold_heir c1 eg2 dX2_readPerson_109 (fun H locs hz => ?_)
  refine lv_aload_n hx hb dX2_readPerson_110 rfl (lv_at hl 0 rfl) ?_
  refine g_RX2_21_reader C hz dX2_readPerson_111 ?_
  refine lv_dup hx hb dX2_readPerson_114 rfl ?_
  refine g_RX2_64_rtold C hz dX2_readPerson_115 ?_
  refine lv_iconst (v := (1 : Int32)) hx hb dX2_readPerson_118 (by decide) ?_
  refine lv_iadd hx hb dX2_readPerson_119 ?_
  obtain ⟨g3, eg3, hf⟩ := nx_elim hf
  refine p_RX2_64_rtold C hz eg3 dX2_readPerson_120 (fun H locs hz => ?_)
  refine lv_aload_n hx hb dX2_readPerson_123 rfl (lv_at hl 0 rfl) ?_
  obtain ⟨r6, g5, hc4, hf⟩ := bd2_elim hf
  refine z_VI (As := []) (rest := []) C (c2_readEnd hc4) lk_RX2_81 ⟨rfl, rfl, Nat.le_of_ble_eq_true rfl, Nat.le_of_ble_eq_true rfl⟩ ⟨Nat.zero_le _, Nat.zero_le _⟩ o_reader rfl rfl (Nat.le_of_ble_eq_true rfl) rfl hl.1 dX2_readPerson_124 hz (fun H locs hz => ?_)
  exact hR _ _ _ _ _ _ hf hz dX2_readPerson_127
set_option maxHeartbeats 4000000 in
set_option maxRecDepth 100000 in
theorem w2_readPerson_b77 {res : Int32 × Sg} (C : Cx p m c cX2_readPerson 2 s args RX2 D (tyL cI cZ cB)) (hR : EndZ p l e rm2_readPerson s m args below meth c Q D (wX cI cZ cB h) A cX2_readPerson res) : ∀ (x1 : Int32) (g : Sg) (H : Heap) (locs : List Loc) (ls : Array Slot), f2_readPerson_b77 x1 g = some res → Zs D (wX cI cZ cB h) A s.heap H locs g → lv_has ls 2 [(0, .ref (h 122)), (1, .int x1)] → W p l e rm2_readPerson s m args below meth c H locs 0 0 Q (F0 m 77 ls []) := by
  have hx := C.1.1
  have hb := C.1.2.1
  intro x1 g H locs ls hf hz hl
  unfold f2_readPerson_b77 at hf
  refine lv_aload_n hx hb dX2_readPerson_77 rfl (lv_at hl 0 rfl) ?_
  refine g_RX2_21_reader C hz dX2_readPerson_78 ?_
  refine g_RX2_78_rtold C hz dX2_readPerson_81 ?_
  refine lv_iload_n hx hb dX2_readPerson_84 rfl (lv_at hl 1 rfl) ?_
  refine lv_aload_n hx hb dX2_readPerson_85 rfl (lv_at hl 0 rfl) ?_
  refine g_RX2_12_reader C hz dX2_readPerson_86 ?_
  refine g_RX2_75_text C hz dX2_readPerson_89 ?_
  refine lv_bipush (v := (9 : Int32)) hx hb dX2_readPerson_92 (by decide) ?_
  refine lv_icmp_ne (tgt := 102) hx hb dX2_readPerson_94 (by decide) (fun c7 => ?_) (fun c7 => ?_)
  · have hf := ite_f hf c7
    refine lv_aload_n hx hb dX2_readPerson_102 rfl (lv_at hl 0 rfl) ?_
    refine g_RX2_12_reader C hz dX2_readPerson_103 ?_
    refine g_RX2_75_text C hz dX2_readPerson_106 ?_
    exact w2_readPerson_b109 C hR _ _ _ _ _ _ hf hz (lv_sub hl [0] rfl)
  · have hf := ite_t hf c7
    refine lv_bipush (v := (-9 : Int32)) hx hb dX2_readPerson_97 (by decide) ?_
    refine lv_goto (tgt := 109) hx hb dX2_readPerson_99 (by decide) ?_
    exact w2_readPerson_b109 C hR _ _ _ _ _ _ hf hz (lv_sub hl [0] rfl)
set_option maxHeartbeats 4000000 in
set_option maxRecDepth 100000 in
theorem w2_readPerson_b0 {res : Int32 × Sg} (C : Cx p m c cX2_readPerson 2 s args RX2 D (tyL cI cZ cB)) (hR : EndZ p l e rm2_readPerson s m args below meth c Q D (wX cI cZ cB h) A cX2_readPerson res) : ∀ (g : Sg) (H : Heap) (locs : List Loc) (ls : Array Slot), f2_readPerson g = some res → Zs D (wX cI cZ cB h) A s.heap H locs g → lv_has ls 2 [(0, .ref (h 122))] → W p l e rm2_readPerson s m args below meth c H locs 0 0 Q (F0 m 0 ls []) := by
  have hx := C.1.1
  have hb := C.1.2.1
  intro g H locs ls hf hz hl
  unfold f2_readPerson at hf
  refine lv_aload_n hx hb dX2_readPerson_0 rfl (lv_at hl 0 rfl) ?_
  refine g_RX2_21_reader C hz dX2_readPerson_1 ?_
  refine g_RX2_64_rtold C hz dX2_readPerson_4 ?_
  obtain ⟨v8, ev8, hf⟩ := nx_elim hf
  refine z_nm ev8 ?_
  refine lv_istore_n (lv' := [(1, .int v8), (0, .ref (h 122))]) hx hb dX2_readPerson_7 rfl hl (by decide) rfl (fun ls hl => ?_)
  refine lv_iload_n hx hb dX2_readPerson_8 rfl (lv_at hl 0 rfl) ?_
  refine lv_bipush (v := (6 : Int32)) hx hb dX2_readPerson_9 (by decide) ?_
  refine lv_icmp_ge (tgt := 24) hx hb dX2_readPerson_11 (by decide) (fun c9 => ?_) (fun c9 => ?_)
  · have hf := ite_t hf c9
    refine lv_iconst (v := (0 : Int32)) hx hb dX2_readPerson_24 (by decide) ?_
    exact hR _ _ _ _ _ _ hf hz dX2_readPerson_25
  · have hf := ite_f hf c9
    refine lv_aload_n hx hb dX2_readPerson_14 rfl (lv_at hl 1 rfl) ?_
    refine lv_iconst (v := (0 : Int32)) hx hb dX2_readPerson_15 (by decide) ?_
    refine lv_bipush (v := (99 : Int32)) hx hb dX2_readPerson_16 (by decide) ?_
    obtain ⟨r12, g11, hc10, hf⟩ := bd2_elim hf
    refine z_VI (As := [.int (0 : Int32), .int (99 : Int32)]) (rest := []) C (c2_readNumber hc10) lk_RX2_67 ⟨rfl, rfl, Nat.le_of_ble_eq_true rfl, Nat.le_of_ble_eq_true rfl⟩ ⟨Nat.zero_le _, Nat.zero_le _⟩ o_reader rfl rfl (Nat.le_of_ble_eq_true rfl) rfl hl.1 dX2_readPerson_18 hz (fun H locs hz => ?_)
    refine lv_if_ne (tgt := 26) hx hb dX2_readPerson_21 (by decide) (fun c13 => ?_) (fun c13 => ?_)
    · have hf := ite_f hf c13
      refine lv_aload_n hx hb dX2_readPerson_26 rfl (lv_at hl 1 rfl) ?_
      refine g_RX2_21_reader C hz dX2_readPerson_27 ?_
      refine g_RX2_71_rtold C hz dX2_readPerson_30 ?_
      refine lv_iload_n hx hb dX2_readPerson_33 rfl (lv_at hl 0 rfl) ?_
      refine lv_aload_n hx hb dX2_readPerson_34 rfl (lv_at hl 1 rfl) ?_
      refine g_RX2_12_reader C hz dX2_readPerson_35 ?_
      refine g_RX2_75_text C hz dX2_readPerson_38 ?_
      obtain ⟨c14, hf⟩ := ix_elim hf
      obtain ⟨g15, eg15, hf⟩ := nx_elim hf
      refine z_iast C hz a_rtold_dies c14 eg15 dX2_readPerson_41 (fun H locs hz => ?_)
      refine lv_aload_n hx hb dX2_readPerson_42 rfl (lv_at hl 1 rfl) ?_
      refine lv_iconst (v := (0 : Int32)) hx hb dX2_readPerson_43 (by decide) ?_
      refine lv_bipush (v := (9 : Int32)) hx hb dX2_readPerson_44 (by decide) ?_
      obtain ⟨r18, g17, hc16, hf⟩ := bd2_elim hf
      refine z_VI (As := [.int (0 : Int32), .int (9 : Int32)]) (rest := []) C (c2_readNumber hc16) lk_RX2_67 ⟨rfl, rfl, Nat.le_of_ble_eq_true rfl, Nat.le_of_ble_eq_true rfl⟩ ⟨Nat.zero_le _, Nat.zero_le _⟩ o_reader rfl rfl (Nat.le_of_ble_eq_true rfl) rfl hl.1 dX2_readPerson_46 hz (fun H locs hz => ?_)
      refine lv_if_eq (tgt := 75) hx hb dX2_readPerson_49 (by decide) (fun c19 => ?_) (fun c19 => ?_)
      · have hf := ite_t hf c19
        refine lv_iconst (v := (0 : Int32)) hx hb dX2_readPerson_75 (by decide) ?_
        exact hR _ _ _ _ _ _ hf hz dX2_readPerson_76
      · have hf := ite_f hf c19
        refine lv_aload_n hx hb dX2_readPerson_52 rfl (lv_at hl 1 rfl) ?_
        refine g_RX2_12_reader C hz dX2_readPerson_53 ?_
        refine g_RX2_75_text C hz dX2_readPerson_56 ?_
        refine lv_iload_n hx hb dX2_readPerson_59 rfl (lv_at hl 0 rfl) ?_
        refine lv_icmp_lt (tgt := 77) hx hb dX2_readPerson_60 (by decide) (fun c20 => ?_) (fun c20 => ?_)
        · have hf := ite_t hf c20
          exact w2_readPerson_b77 C hR _ _ _ _ _ hf hz (lv_sub hl [1, 0] rfl)
        · have hf := ite_f hf c20
          refine lv_aload_n hx hb dX2_readPerson_63 rfl (lv_at hl 1 rfl) ?_
          refine g_RX2_12_reader C hz dX2_readPerson_64 ?_
          refine g_RX2_75_text C hz dX2_readPerson_67 ?_
          refine lv_bipush (v := (9 : Int32)) hx hb dX2_readPerson_70 (by decide) ?_
          refine lv_icmp_eq (tgt := 77) hx hb dX2_readPerson_72 (by decide) (fun c21 => ?_) (fun c21 => ?_)
          · have hf := ite_t hf c21
            exact w2_readPerson_b77 C hR _ _ _ _ _ hf hz (lv_sub hl [1, 0] rfl)
          · have hf := ite_f hf c21
            refine lv_iconst (v := (0 : Int32)) hx hb dX2_readPerson_75 (by decide) ?_
            exact hR _ _ _ _ _ _ hf hz dX2_readPerson_76
    · have hf := ite_t hf c13
      refine lv_iconst (v := (0 : Int32)) hx hb dX2_readPerson_24 (by decide) ?_
      exact hR _ _ _ _ _ _ hf hz dX2_readPerson_25
set_option maxHeartbeats 4000000 in
set_option maxRecDepth 100000 in
theorem c2_readPerson {l : Launch} {D : va_G} {cI cZ cB : ClassId} {h : Nat → Nat} {g : Sg} {r : Int32} {g1 : Sg} (hf : f2_readPerson g = some (r, g1)) : KI l D (tyL cI cZ cB) (wX cI cZ cB h) yX2_readPerson cX2_readPerson 2 (some .boolean) rm2_readPerson [.ref (h 122)] g r g1 := by
  refine KZ_mk (own := RX2) (by decide +kernel) rfl (Nat.le_of_ble_eq_true rfl) ?_
  intro p e s m below meth c A Q ls C hR hz hl
  have hl : lv_has ls 2 [(0, .ref (h 122))] := hl
  exact w2_readPerson_b0 C hR _ _ _ _ hf hz hl
abbrev rm2_readWords : Room := { frames := 3, cells := 0, slots := 0, locals := 63 }
set_option maxHeartbeats 4000000 in
set_option maxRecDepth 100000 in
theorem w2_readWords_b2 {res : Int32 × Sg} (C : Cx p m c cX2_readWords 3 s args RX2 D (tyL cI cZ cB)) (hR : EndZ p l e rm2_readWords s m args below meth c Q D (wX cI cZ cB h) A cX2_readWords res) : ∀ n : Nat, ∀ (x1 : Int32) (x2 : Int32) (g : Sg) (H : Heap) (locs : List Loc) (ls : Array Slot), f2_readWords_b2 n x1 x2 g = some res → Zs D (wX cI cZ cB h) A s.heap H locs g → lv_has ls 3 [(0, .ref (h 122)), (1, .int x1), (2, .int x2)] → W p l e rm2_readWords s m args below meth c H locs 0 0 Q (F0 m 2 ls []) := by
  have hx := C.1.1
  have hb := C.1.2.1
  intro n
  induction n with
  | zero =>
    intro x1 x2 g H locs ls hf hz hl
    cases hf
  | succ n ih =>
    intro x1 x2 g H locs ls hf hz hl
    rw [f2_readWords_b2] at hf
    refine lv_iload_n hx hb dX2_readWords_2 rfl (lv_at hl 2 rfl) ?_
    refine lv_iconst (v := (4 : Int32)) hx hb dX2_readWords_3 (by decide) ?_
    refine lv_icmp_gt (tgt := 105) hx hb dX2_readWords_4 (by decide) (fun c1 => ?_) (fun c1 => ?_)
    · have hf := ite_t hf c1
      refine lv_iconst (v := (0 : Int32)) hx hb dX2_readWords_105 (by decide) ?_
      exact hR _ _ _ _ _ _ hf hz dX2_readWords_106
    · have hf := ite_f hf c1
      refine lv_aload_n hx hb dX2_readWords_7 rfl (lv_at hl 0 rfl) ?_
      refine g_RX2_12_reader C hz dX2_readWords_8 ?_
      obtain ⟨g3, hc2, hf⟩ := bd_elim hf
      refine z_VV (As := []) (rest := []) C (c3_readToken hc2) lk_RX2_38 ⟨rfl, rfl, Nat.le_of_ble_eq_true rfl, Nat.le_of_ble_eq_true rfl⟩ ⟨Nat.zero_le _, Nat.zero_le _⟩ o_text rfl rfl (Nat.le_of_ble_eq_true rfl) rfl hl.1 dX2_readWords_11 hz (fun H locs hz => ?_)
      refine lv_aload_n hx hb dX2_readWords_14 rfl (lv_at hl 0 rfl) ?_
      refine g_RX2_12_reader C hz dX2_readWords_15 ?_
      refine g_RX2_41_text C hz dX2_readWords_18 ?_
      refine lv_bipush (v := (59 : Int32)) hx hb dX2_readWords_21 (by decide) ?_
      refine lv_icmp_ne (tgt := 36) hx hb dX2_readWords_23 (by decide) (fun c4 => ?_) (fun c4 => ?_)
      · have hf := ite_f hf c4
        refine lv_aload_n hx hb dX2_readWords_36 rfl (lv_at hl 0 rfl) ?_
        refine g_RX2_12_reader C hz dX2_readWords_37 ?_
        refine g_RX2_41_text C hz dX2_readWords_40 ?_
        refine lv_bipush (v := (48 : Int32)) hx hb dX2_readWords_43 (by decide) ?_
        refine lv_icmp_ne (tgt := 65) hx hb dX2_readWords_45 (by decide) (fun c5 => ?_) (fun c5 => ?_)
        · have hf := ite_f hf c5
          refine lv_iconst (v := (0 : Int32)) hx hb dX2_readWords_65 (by decide) ?_
          exact hR _ _ _ _ _ _ hf hz dX2_readWords_66
        · have hf := ite_t hf c5
          refine lv_aload_n hx hb dX2_readWords_48 rfl (lv_at hl 0 rfl) ?_
          refine g_RX2_12_reader C hz dX2_readWords_49 ?_
          refine g_RX2_75_text C hz dX2_readWords_52 ?_
          refine lv_bipush (v := (9 : Int32)) hx hb dX2_readWords_55 (by decide) ?_
          refine lv_icmp_gt (tgt := 65) hx hb dX2_readWords_57 (by decide) (fun c6 => ?_) (fun c6 => ?_)
          · have hf := ite_t hf c6
            refine lv_iconst (v := (0 : Int32)) hx hb dX2_readWords_65 (by decide) ?_
            exact hR _ _ _ _ _ _ hf hz dX2_readWords_66
          · have hf := ite_f hf c6
            refine lv_iload_n hx hb dX2_readWords_60 rfl (lv_at hl 2 rfl) ?_
            refine lv_iconst (v := (4 : Int32)) hx hb dX2_readWords_61 (by decide) ?_
            refine lv_icmp_ne (tgt := 67) hx hb dX2_readWords_62 (by decide) (fun c7 => ?_) (fun c7 => ?_)
            · have hf := ite_f hf c7
              refine lv_aload_n hx hb dX2_readWords_67 rfl (lv_at hl 0 rfl) ?_
              refine g_RX2_21_reader C hz dX2_readWords_68 ?_
              refine g_RX2_109_rtold C hz dX2_readWords_71 ?_
              refine lv_iload_n hx hb dX2_readWords_74 rfl (lv_at hl 1 rfl) ?_
              refine lv_iconst (v := (4 : Int32)) hx hb dX2_readWords_75 (by decide) ?_
              refine lv_imul hx hb dX2_readWords_76 ?_
              refine lv_iload_n hx hb dX2_readWords_77 rfl (lv_at hl 2 rfl) ?_
              refine lv_iadd hx hb dX2_readWords_78 ?_
              refine lv_aload_n hx hb dX2_readWords_79 rfl (lv_at hl 0 rfl) ?_
              refine g_RX2_12_reader C hz dX2_readWords_80 ?_
              refine g_RX2_75_text C hz dX2_readWords_83 ?_
              obtain ⟨c8, hf⟩ := ix_elim hf
              obtain ⟨g9, eg9, hf⟩ := nx_elim hf
              refine z_iast C hz a_rtold_words c8 eg9 dX2_readWords_86 (fun H locs hz => ?_)
              refine lv_aload_n hx hb dX2_readWords_87 rfl (lv_at hl 0 rfl) ?_
              refine g_RX2_21_reader C hz dX2_readWords_88 ?_
              refine g_RX2_112_rtold C hz dX2_readWords_91 ?_
              refine lv_iload_n hx hb dX2_readWords_94 rfl (lv_at hl 1 rfl) ?_
              refine lv_iload_n hx hb dX2_readWords_95 rfl (lv_at hl 2 rfl) ?_
              refine lv_iconst (v := (1 : Int32)) hx hb dX2_readWords_96 (by decide) ?_
              refine lv_iadd hx hb dX2_readWords_97 ?_
              obtain ⟨c10, hf⟩ := ix_elim hf
              obtain ⟨g11, eg11, hf⟩ := nx_elim hf
              refine z_iast C hz a_rtold_wordCount c10 eg11 dX2_readWords_98 (fun H locs hz => ?_)
              obtain ⟨v12, ev12, hf⟩ := nx_elim hf
              refine lv_iinc (v := v12) (lv' := [(2, .int v12), (0, .ref (h 122)), (1, .int x1)]) hx hb dX2_readWords_99 hl (k := 2) rfl (by rw [ev12]; rfl) (by decide) rfl (fun ls hl => ?_)
              refine lv_goto (tgt := 2) hx hb dX2_readWords_102 (by decide) ?_
              exact ih _ _ _ _ _ _ hf hz (lv_sub hl [1, 2, 0] rfl)
            · have hf := ite_t hf c7
              refine lv_iconst (v := (0 : Int32)) hx hb dX2_readWords_65 (by decide) ?_
              exact hR _ _ _ _ _ _ hf hz dX2_readWords_66
      · have hf := ite_t hf c4
        refine lv_iload_n hx hb dX2_readWords_26 rfl (lv_at hl 2 rfl) ?_
        refine lv_if_le (tgt := 34) hx hb dX2_readWords_27 (by decide) (fun c13 => ?_) (fun c13 => ?_)
        · have hf := ite_t hf c13
          refine lv_iconst (v := (0 : Int32)) hx hb dX2_readWords_34 (by decide) ?_
          exact hR _ _ _ _ _ _ hf hz dX2_readWords_35
        · have hf := ite_f hf c13
          refine lv_iconst (v := (1 : Int32)) hx hb dX2_readWords_30 (by decide) ?_
          refine lv_goto (tgt := 35) hx hb dX2_readWords_31 (by decide) ?_
          exact hR _ _ _ _ _ _ hf hz dX2_readWords_35
set_option maxHeartbeats 4000000 in
set_option maxRecDepth 100000 in
theorem w2_readWords_b0 {res : Int32 × Sg} (C : Cx p m c cX2_readWords 3 s args RX2 D (tyL cI cZ cB)) (hR : EndZ p l e rm2_readWords s m args below meth c Q D (wX cI cZ cB h) A cX2_readWords res) : ∀ (x1 : Int32) (g : Sg) (H : Heap) (locs : List Loc) (ls : Array Slot), f2_readWords x1 g = some res → Zs D (wX cI cZ cB h) A s.heap H locs g → lv_has ls 3 [(0, .ref (h 122)), (1, .int x1)] → W p l e rm2_readWords s m args below meth c H locs 0 0 Q (F0 m 0 ls []) := by
  have hx := C.1.1
  have hb := C.1.2.1
  intro x1 g H locs ls hf hz hl
  unfold f2_readWords at hf
  refine lv_iconst (v := (0 : Int32)) hx hb dX2_readWords_0 (by decide) ?_
  refine lv_istore_n (lv' := [(2, .int (0 : Int32)), (0, .ref (h 122)), (1, .int x1)]) hx hb dX2_readWords_1 rfl hl (by decide) rfl (fun ls hl => ?_)
  exact w2_readWords_b2 C hR 1000 _ _ _ _ _ _ hf hz (lv_sub hl [1, 2, 0] rfl)
set_option maxHeartbeats 4000000 in
set_option maxRecDepth 100000 in
theorem c2_readWords {l : Launch} {D : va_G} {cI cZ cB : ClassId} {h : Nat → Nat} {x1 : Int32} {g : Sg} {r : Int32} {g1 : Sg} (hf : f2_readWords x1 g = some (r, g1)) : KI l D (tyL cI cZ cB) (wX cI cZ cB h) yX2_readWords cX2_readWords 3 (some .boolean) rm2_readWords [.ref (h 122), .int x1] g r g1 := by
  refine KZ_mk (own := RX2) (by decide +kernel) rfl (Nat.le_of_ble_eq_true rfl) ?_
  intro p e s m below meth c A Q ls C hR hz hl
  have hl : lv_has ls 3 [(0, .ref (h 122)), (1, .int x1)] := hl
  exact w2_readWords_b0 C hR _ _ _ _ _ hf hz hl
abbrev rm2_readPromise : Room := { frames := 4, cells := 0, slots := 0, locals := 85 }
set_option maxHeartbeats 4000000 in
set_option maxRecDepth 100000 in
theorem w2_readPromise_b0 {res : Int32 × Sg} (C : Cx p m c cX2_readPromise 2 s args RX2 D (tyL cI cZ cB)) (hR : EndZ p l e rm2_readPromise s m args below meth c Q D (wX cI cZ cB h) A cX2_readPromise res) : ∀ (g : Sg) (H : Heap) (locs : List Loc) (ls : Array Slot), f2_readPromise g = some res → Zs D (wX cI cZ cB h) A s.heap H locs g → lv_has ls 2 [(0, .ref (h 122))] → W p l e rm2_readPromise s m args below meth c H locs 0 0 Q (F0 m 0 ls []) := by
  have hx := C.1.1
  have hb := C.1.2.1
  intro g H locs ls hf hz hl
  unfold f2_readPromise at hf
  refine lv_aload_n hx hb dX2_readPromise_0 rfl (lv_at hl 0 rfl) ?_
  refine g_RX2_21_reader C hz dX2_readPromise_1 ?_
  refine g_RX2_84_rtold C hz dX2_readPromise_4 ?_
  obtain ⟨v1, ev1, hf⟩ := nx_elim hf
  refine z_nm ev1 ?_
  refine lv_istore_n (lv' := [(1, .int v1), (0, .ref (h 122))]) hx hb dX2_readPromise_7 rfl hl (by decide) rfl (fun ls hl => ?_)
  refine lv_iload_n hx hb dX2_readPromise_8 rfl (lv_at hl 0 rfl) ?_
  refine lv_bipush (v := (8 : Int32)) hx hb dX2_readPromise_9 (by decide) ?_
  refine lv_icmp_ge (tgt := 31) hx hb dX2_readPromise_11 (by decide) (fun c2 => ?_) (fun c2 => ?_)
  · have hf := ite_t hf c2
    refine lv_iconst (v := (0 : Int32)) hx hb dX2_readPromise_31 (by decide) ?_
    exact hR _ _ _ _ _ _ hf hz dX2_readPromise_32
  · have hf := ite_f hf c2
    refine lv_aload_n hx hb dX2_readPromise_14 rfl (lv_at hl 1 rfl) ?_
    refine lv_iconst (v := (0 : Int32)) hx hb dX2_readPromise_15 (by decide) ?_
    refine lv_aload_n hx hb dX2_readPromise_16 rfl (lv_at hl 1 rfl) ?_
    refine g_RX2_21_reader C hz dX2_readPromise_17 ?_
    refine g_RX2_64_rtold C hz dX2_readPromise_20 ?_
    refine lv_iconst (v := (1 : Int32)) hx hb dX2_readPromise_23 (by decide) ?_
    refine lv_isub hx hb dX2_readPromise_24 ?_
    obtain ⟨r5, g4, hc3, hf⟩ := bd2_elim hf
    refine z_VI (As := [.int (0 : Int32), .int ((g.1 110 0) - (1 : Int32))]) (rest := []) C (c2_readNumber hc3) lk_RX2_67 ⟨rfl, rfl, Nat.le_of_ble_eq_true rfl, Nat.le_of_ble_eq_true rfl⟩ ⟨Nat.zero_le _, Nat.zero_le _⟩ o_reader rfl rfl (Nat.le_of_ble_eq_true rfl) rfl hl.1 dX2_readPromise_25 hz (fun H locs hz => ?_)
    refine lv_if_ne (tgt := 33) hx hb dX2_readPromise_28 (by decide) (fun c6 => ?_) (fun c6 => ?_)
    · have hf := ite_f hf c6
      refine lv_aload_n hx hb dX2_readPromise_33 rfl (lv_at hl 1 rfl) ?_
      refine g_RX2_21_reader C hz dX2_readPromise_34 ?_
      refine g_RX2_87_rtold C hz dX2_readPromise_37 ?_
      refine lv_iload_n hx hb dX2_readPromise_40 rfl (lv_at hl 0 rfl) ?_
      refine lv_aload_n hx hb dX2_readPromise_41 rfl (lv_at hl 1 rfl) ?_
      refine g_RX2_12_reader C hz dX2_readPromise_42 ?_
      refine g_RX2_75_text C hz dX2_readPromise_45 ?_
      obtain ⟨c7, hf⟩ := ix_elim hf
      obtain ⟨g8, eg8, hf⟩ := nx_elim hf
      refine z_iast C hz a_rtold_who c7 eg8 dX2_readPromise_48 (fun H locs hz => ?_)
      refine lv_aload_n hx hb dX2_readPromise_49 rfl (lv_at hl 1 rfl) ?_
      refine lv_iconst (v := (0 : Int32)) hx hb dX2_readPromise_50 (by decide) ?_
      refine lv_iconst (v := (5 : Int32)) hx hb dX2_readPromise_51 (by decide) ?_
      obtain ⟨r11, g10, hc9, hf⟩ := bd2_elim hf
      refine z_VI (As := [.int (0 : Int32), .int (5 : Int32)]) (rest := []) C (c2_readNumber hc9) lk_RX2_67 ⟨rfl, rfl, Nat.le_of_ble_eq_true rfl, Nat.le_of_ble_eq_true rfl⟩ ⟨Nat.zero_le _, Nat.zero_le _⟩ o_reader rfl rfl (Nat.le_of_ble_eq_true rfl) rfl hl.1 dX2_readPromise_52 hz (fun H locs hz => ?_)
      refine lv_if_ne (tgt := 60) hx hb dX2_readPromise_55 (by decide) (fun c12 => ?_) (fun c12 => ?_)
      · have hf := ite_f hf c12
        refine lv_aload_n hx hb dX2_readPromise_60 rfl (lv_at hl 1 rfl) ?_
        refine g_RX2_21_reader C hz dX2_readPromise_61 ?_
        refine g_RX2_90_rtold C hz dX2_readPromise_64 ?_
        refine lv_iload_n hx hb dX2_readPromise_67 rfl (lv_at hl 0 rfl) ?_
        refine lv_aload_n hx hb dX2_readPromise_68 rfl (lv_at hl 1 rfl) ?_
        refine g_RX2_12_reader C hz dX2_readPromise_69 ?_
        refine g_RX2_75_text C hz dX2_readPromise_72 ?_
        obtain ⟨c13, hf⟩ := ix_elim hf
        obtain ⟨g14, eg14, hf⟩ := nx_elim hf
        refine z_iast C hz a_rtold_cell c13 eg14 dX2_readPromise_75 (fun H locs hz => ?_)
        refine lv_aload_n hx hb dX2_readPromise_76 rfl (lv_at hl 1 rfl) ?_
        refine lv_iconst (v := (0 : Int32)) hx hb dX2_readPromise_77 (by decide) ?_
        refine lv_iconst (v := (5 : Int32)) hx hb dX2_readPromise_78 (by decide) ?_
        obtain ⟨r17, g16, hc15, hf⟩ := bd2_elim hf
        refine z_VI (As := [.int (0 : Int32), .int (5 : Int32)]) (rest := []) C (c2_readNumber hc15) lk_RX2_67 ⟨rfl, rfl, Nat.le_of_ble_eq_true rfl, Nat.le_of_ble_eq_true rfl⟩ ⟨Nat.zero_le _, Nat.zero_le _⟩ o_reader rfl rfl (Nat.le_of_ble_eq_true rfl) rfl hl.1 dX2_readPromise_79 hz (fun H locs hz => ?_)
        refine lv_if_ne (tgt := 87) hx hb dX2_readPromise_82 (by decide) (fun c18 => ?_) (fun c18 => ?_)
        · have hf := ite_f hf c18
          refine lv_aload_n hx hb dX2_readPromise_87 rfl (lv_at hl 1 rfl) ?_
          refine g_RX2_21_reader C hz dX2_readPromise_88 ?_
          refine g_RX2_93_rtold C hz dX2_readPromise_91 ?_
          refine lv_iload_n hx hb dX2_readPromise_94 rfl (lv_at hl 0 rfl) ?_
          refine lv_aload_n hx hb dX2_readPromise_95 rfl (lv_at hl 1 rfl) ?_
          refine g_RX2_12_reader C hz dX2_readPromise_96 ?_
          refine g_RX2_75_text C hz dX2_readPromise_99 ?_
          obtain ⟨c19, hf⟩ := ix_elim hf
          obtain ⟨g20, eg20, hf⟩ := nx_elim hf
          refine z_iast C hz a_rtold_depth c19 eg20 dX2_readPromise_102 (fun H locs hz => ?_)
          refine lv_aload_n hx hb dX2_readPromise_103 rfl (lv_at hl 1 rfl) ?_
          refine lv_iconst (v := (1 : Int32)) hx hb dX2_readPromise_104 (by decide) ?_
          refine lv_bipush (v := (9 : Int32)) hx hb dX2_readPromise_105 (by decide) ?_
          obtain ⟨r23, g22, hc21, hf⟩ := bd2_elim hf
          refine z_VI (As := [.int (1 : Int32), .int (9 : Int32)]) (rest := []) C (c2_readNumber hc21) lk_RX2_67 ⟨rfl, rfl, Nat.le_of_ble_eq_true rfl, Nat.le_of_ble_eq_true rfl⟩ ⟨Nat.zero_le _, Nat.zero_le _⟩ o_reader rfl rfl (Nat.le_of_ble_eq_true rfl) rfl hl.1 dX2_readPromise_107 hz (fun H locs hz => ?_)
          refine lv_if_ne (tgt := 115) hx hb dX2_readPromise_110 (by decide) (fun c24 => ?_) (fun c24 => ?_)
          · have hf := ite_f hf c24
            refine lv_aload_n hx hb dX2_readPromise_115 rfl (lv_at hl 1 rfl) ?_
            refine g_RX2_21_reader C hz dX2_readPromise_116 ?_
            refine g_RX2_96_rtold C hz dX2_readPromise_119 ?_
            refine lv_iload_n hx hb dX2_readPromise_122 rfl (lv_at hl 0 rfl) ?_
            refine lv_aload_n hx hb dX2_readPromise_123 rfl (lv_at hl 1 rfl) ?_
            refine g_RX2_12_reader C hz dX2_readPromise_124 ?_
            refine g_RX2_75_text C hz dX2_readPromise_127 ?_
            obtain ⟨c25, hf⟩ := ix_elim hf
            obtain ⟨g26, eg26, hf⟩ := nx_elim hf
            refine z_iast C hz a_rtold_span c25 eg26 dX2_readPromise_130 (fun H locs hz => ?_)
            refine lv_aload_n hx hb dX2_readPromise_131 rfl (lv_at hl 1 rfl) ?_
            refine lv_iconst (v := (0 : Int32)) hx hb dX2_readPromise_132 (by decide) ?_
            refine lv_bipush (v := (99 : Int32)) hx hb dX2_readPromise_133 (by decide) ?_
            obtain ⟨r29, g28, hc27, hf⟩ := bd2_elim hf
            refine z_VI (As := [.int (0 : Int32), .int (99 : Int32)]) (rest := []) C (c2_readNumber hc27) lk_RX2_67 ⟨rfl, rfl, Nat.le_of_ble_eq_true rfl, Nat.le_of_ble_eq_true rfl⟩ ⟨Nat.zero_le _, Nat.zero_le _⟩ o_reader rfl rfl (Nat.le_of_ble_eq_true rfl) rfl hl.1 dX2_readPromise_135 hz (fun H locs hz => ?_)
            refine lv_if_ne (tgt := 143) hx hb dX2_readPromise_138 (by decide) (fun c30 => ?_) (fun c30 => ?_)
            · have hf := ite_f hf c30
              refine lv_aload_n hx hb dX2_readPromise_143 rfl (lv_at hl 1 rfl) ?_
              refine g_RX2_21_reader C hz dX2_readPromise_144 ?_
              refine g_RX2_99_rtold C hz dX2_readPromise_147 ?_
              refine lv_iload_n hx hb dX2_readPromise_150 rfl (lv_at hl 0 rfl) ?_
              refine lv_aload_n hx hb dX2_readPromise_151 rfl (lv_at hl 1 rfl) ?_
              refine g_RX2_12_reader C hz dX2_readPromise_152 ?_
              refine g_RX2_75_text C hz dX2_readPromise_155 ?_
              obtain ⟨c31, hf⟩ := ix_elim hf
              obtain ⟨g32, eg32, hf⟩ := nx_elim hf
              refine z_iast C hz a_rtold_due c31 eg32 dX2_readPromise_158 (fun H locs hz => ?_)
              refine lv_aload_n hx hb dX2_readPromise_159 rfl (lv_at hl 1 rfl) ?_
              refine g_RX2_21_reader C hz dX2_readPromise_160 ?_
              refine g_RX2_102_rtold C hz dX2_readPromise_163 ?_
              refine lv_iload_n hx hb dX2_readPromise_166 rfl (lv_at hl 0 rfl) ?_
              refine lv_iconst (v := (0 : Int32)) hx hb dX2_readPromise_167 (by decide) ?_
              obtain ⟨c33, hf⟩ := ix_elim hf
              obtain ⟨g34, eg34, hf⟩ := nx_elim hf
              refine z_iast C hz a_rtold_clashes c33 eg34 dX2_readPromise_168 (fun H locs hz => ?_)
              refine lv_aload_n hx hb dX2_readPromise_169 rfl (lv_at hl 1 rfl) ?_
              refine g_RX2_21_reader C hz dX2_readPromise_170 ?_
              refine lv_dup hx hb dX2_readPromise_173 rfl ?_
              refine g_RX2_84_rtold C hz dX2_readPromise_174 ?_
              refine lv_iconst (v := (1 : Int32)) hx hb dX2_readPromise_177 (by decide) ?_
              refine lv_iadd hx hb dX2_readPromise_178 ?_
              obtain ⟨g35, eg35, hf⟩ := nx_elim hf
              refine p_RX2_84_rtold C hz eg35 dX2_readPromise_179 (fun H locs hz => ?_)
              refine lv_aload_n hx hb dX2_readPromise_182 rfl (lv_at hl 1 rfl) ?_
              refine lv_iload_n hx hb dX2_readPromise_183 rfl (lv_at hl 0 rfl) ?_
              obtain ⟨r38, g37, hc36, hf⟩ := bd2_elim hf
              refine z_VI (As := [.int v1]) (rest := []) C (c2_readWords hc36) lk_RX2_105 ⟨rfl, rfl, Nat.le_of_ble_eq_true rfl, Nat.le_of_ble_eq_true rfl⟩ ⟨Nat.zero_le _, Nat.zero_le _⟩ o_reader rfl rfl (Nat.le_of_ble_eq_true rfl) rfl hl.1 dX2_readPromise_184 hz (fun H locs hz => ?_)
              exact hR _ _ _ _ _ _ hf hz dX2_readPromise_187
            · have hf := ite_t hf c30
              refine lv_iconst (v := (0 : Int32)) hx hb dX2_readPromise_141 (by decide) ?_
              exact hR _ _ _ _ _ _ hf hz dX2_readPromise_142
          · have hf := ite_t hf c24
            refine lv_iconst (v := (0 : Int32)) hx hb dX2_readPromise_113 (by decide) ?_
            exact hR _ _ _ _ _ _ hf hz dX2_readPromise_114
        · have hf := ite_t hf c18
          refine lv_iconst (v := (0 : Int32)) hx hb dX2_readPromise_85 (by decide) ?_
          exact hR _ _ _ _ _ _ hf hz dX2_readPromise_86
      · have hf := ite_t hf c12
        refine lv_iconst (v := (0 : Int32)) hx hb dX2_readPromise_58 (by decide) ?_
        exact hR _ _ _ _ _ _ hf hz dX2_readPromise_59
    · have hf := ite_t hf c6
      refine lv_iconst (v := (0 : Int32)) hx hb dX2_readPromise_31 (by decide) ?_
      exact hR _ _ _ _ _ _ hf hz dX2_readPromise_32
set_option maxHeartbeats 4000000 in
set_option maxRecDepth 100000 in
theorem c2_readPromise {l : Launch} {D : va_G} {cI cZ cB : ClassId} {h : Nat → Nat} {g : Sg} {r : Int32} {g1 : Sg} (hf : f2_readPromise g = some (r, g1)) : KI l D (tyL cI cZ cB) (wX cI cZ cB h) yX2_readPromise cX2_readPromise 2 (some .boolean) rm2_readPromise [.ref (h 122)] g r g1 := by
  refine KZ_mk (own := RX2) (by decide +kernel) rfl (Nat.le_of_ble_eq_true rfl) ?_
  intro p e s m below meth c A Q ls C hR hz hl
  have hl : lv_has ls 2 [(0, .ref (h 122))] := hl
  exact w2_readPromise_b0 C hR _ _ _ _ hf hz hl
abbrev rm2_readClash : Room := { frames := 4, cells := 0, slots := 0, locals := 85 }
set_option maxHeartbeats 4000000 in
set_option maxRecDepth 100000 in
theorem w2_readClash_b0 {res : Int32 × Sg} (C : Cx p m c cX2_readClash 3 s args RX2 D (tyL cI cZ cB)) (hR : EndZ p l e rm2_readClash s m args below meth c Q D (wX cI cZ cB h) A cX2_readClash res) : ∀ (g : Sg) (H : Heap) (locs : List Loc) (ls : Array Slot), f2_readClash g = some res → Zs D (wX cI cZ cB h) A s.heap H locs g → lv_has ls 3 [(0, .ref (h 122))] → W p l e rm2_readClash s m args below meth c H locs 0 0 Q (F0 m 0 ls []) := by
  have hx := C.1.1
  have hb := C.1.2.1
  intro g H locs ls hf hz hl
  unfold f2_readClash at hf
  refine lv_aload_n hx hb dX2_readClash_0 rfl (lv_at hl 0 rfl) ?_
  refine lv_iconst (v := (0 : Int32)) hx hb dX2_readClash_1 (by decide) ?_
  refine lv_aload_n hx hb dX2_readClash_2 rfl (lv_at hl 0 rfl) ?_
  refine g_RX2_21_reader C hz dX2_readClash_3 ?_
  refine g_RX2_84_rtold C hz dX2_readClash_6 ?_
  refine lv_iconst (v := (1 : Int32)) hx hb dX2_readClash_9 (by decide) ?_
  refine lv_isub hx hb dX2_readClash_10 ?_
  obtain ⟨r3, g2, hc1, hf⟩ := bd2_elim hf
  refine z_VI (As := [.int (0 : Int32), .int ((g.1 110 1) - (1 : Int32))]) (rest := []) C (c2_readNumber hc1) lk_RX2_67 ⟨rfl, rfl, Nat.le_of_ble_eq_true rfl, Nat.le_of_ble_eq_true rfl⟩ ⟨Nat.zero_le _, Nat.zero_le _⟩ o_reader rfl rfl (Nat.le_of_ble_eq_true rfl) rfl hl.1 dX2_readClash_11 hz (fun H locs hz => ?_)
  refine lv_if_ne (tgt := 19) hx hb dX2_readClash_14 (by decide) (fun c4 => ?_) (fun c4 => ?_)
  · have hf := ite_f hf c4
    refine lv_aload_n hx hb dX2_readClash_19 rfl (lv_at hl 0 rfl) ?_
    refine g_RX2_12_reader C hz dX2_readClash_20 ?_
    refine g_RX2_75_text C hz dX2_readClash_23 ?_
    obtain ⟨v5, ev5, hf⟩ := nx_elim hf
    refine z_nm ev5 ?_
    refine lv_istore_n (lv' := [(1, .int v5), (0, .ref (h 122))]) hx hb dX2_readClash_26 rfl hl (by decide) rfl (fun ls hl => ?_)
    refine lv_aload_n hx hb dX2_readClash_27 rfl (lv_at hl 1 rfl) ?_
    refine lv_iconst (v := (0 : Int32)) hx hb dX2_readClash_28 (by decide) ?_
    refine lv_aload_n hx hb dX2_readClash_29 rfl (lv_at hl 1 rfl) ?_
    refine g_RX2_21_reader C hz dX2_readClash_30 ?_
    refine g_RX2_84_rtold C hz dX2_readClash_33 ?_
    refine lv_iconst (v := (1 : Int32)) hx hb dX2_readClash_36 (by decide) ?_
    refine lv_isub hx hb dX2_readClash_37 ?_
    obtain ⟨r8, g7, hc6, hf⟩ := bd2_elim hf
    refine z_VI (As := [.int (0 : Int32), .int ((g2.1 110 1) - (1 : Int32))]) (rest := []) C (c2_readNumber hc6) lk_RX2_67 ⟨rfl, rfl, Nat.le_of_ble_eq_true rfl, Nat.le_of_ble_eq_true rfl⟩ ⟨Nat.zero_le _, Nat.zero_le _⟩ o_reader rfl rfl (Nat.le_of_ble_eq_true rfl) rfl hl.1 dX2_readClash_38 hz (fun H locs hz => ?_)
    refine lv_if_eq (tgt := 55) hx hb dX2_readClash_41 (by decide) (fun c9 => ?_) (fun c9 => ?_)
    · have hf := ite_t hf c9
      refine lv_iconst (v := (0 : Int32)) hx hb dX2_readClash_55 (by decide) ?_
      exact hR _ _ _ _ _ _ hf hz dX2_readClash_56
    · have hf := ite_f hf c9
      refine lv_aload_n hx hb dX2_readClash_44 rfl (lv_at hl 1 rfl) ?_
      refine g_RX2_12_reader C hz dX2_readClash_45 ?_
      refine g_RX2_75_text C hz dX2_readClash_48 ?_
      refine lv_iload_n hx hb dX2_readClash_51 rfl (lv_at hl 0 rfl) ?_
      refine lv_icmp_ne (tgt := 57) hx hb dX2_readClash_52 (by decide) (fun c10 => ?_) (fun c10 => ?_)
      · have hf := ite_f hf c10
        refine lv_aload_n hx hb dX2_readClash_57 rfl (lv_at hl 1 rfl) ?_
        refine g_RX2_12_reader C hz dX2_readClash_58 ?_
        refine g_RX2_75_text C hz dX2_readClash_61 ?_
        obtain ⟨v11, ev11, hf⟩ := nx_elim hf
        refine z_nm ev11 ?_
        refine lv_istore_n (lv' := [(2, .int v11), (1, .int v5), (0, .ref (h 122))]) hx hb dX2_readClash_64 rfl hl (by decide) rfl (fun ls hl => ?_)
        refine lv_aload_n hx hb dX2_readClash_65 rfl (lv_at hl 2 rfl) ?_
        refine g_RX2_21_reader C hz dX2_readClash_66 ?_
        refine g_RX2_102_rtold C hz dX2_readClash_69 ?_
        refine lv_iload_n hx hb dX2_readClash_72 rfl (lv_at hl 1 rfl) ?_
        refine lv_dup2_11 hx hb dX2_readClash_73 rfl rfl ?_
        obtain ⟨c12, hf⟩ := ix_elim hf
        refine z_iald C hz a_rtold_clashes c12 dX2_readClash_74 ?_
        refine lv_iconst (v := (1 : Int32)) hx hb dX2_readClash_75 (by decide) ?_
        refine lv_iload_n hx hb dX2_readClash_76 rfl (lv_at hl 0 rfl) ?_
        refine lv_ishl hx hb dX2_readClash_77 ?_
        refine lv_ior hx hb dX2_readClash_78 ?_
        obtain ⟨c13, hf⟩ := ix_elim hf
        obtain ⟨g14, eg14, hf⟩ := nx_elim hf
        refine z_iast C hz a_rtold_clashes c13 eg14 dX2_readClash_79 (fun H locs hz => ?_)
        refine lv_aload_n hx hb dX2_readClash_80 rfl (lv_at hl 2 rfl) ?_
        refine g_RX2_21_reader C hz dX2_readClash_81 ?_
        refine g_RX2_102_rtold C hz dX2_readClash_84 ?_
        refine lv_iload_n hx hb dX2_readClash_87 rfl (lv_at hl 0 rfl) ?_
        refine lv_dup2_11 hx hb dX2_readClash_88 rfl rfl ?_
        obtain ⟨c15, hf⟩ := ix_elim hf
        refine z_iald C hz a_rtold_clashes c15 dX2_readClash_89 ?_
        refine lv_iconst (v := (1 : Int32)) hx hb dX2_readClash_90 (by decide) ?_
        refine lv_iload_n hx hb dX2_readClash_91 rfl (lv_at hl 1 rfl) ?_
        refine lv_ishl hx hb dX2_readClash_92 ?_
        refine lv_ior hx hb dX2_readClash_93 ?_
        obtain ⟨c16, hf⟩ := ix_elim hf
        obtain ⟨g17, eg17, hf⟩ := nx_elim hf
        refine z_iast C hz a_rtold_clashes c16 eg17 dX2_readClash_94 (fun H locs hz => ?_)
        refine lv_aload_n hx hb dX2_readClash_95 rfl (lv_at hl 2 rfl) ?_
        obtain ⟨r20, g19, hc18, hf⟩ := bd2_elim hf
        refine z_VI (As := []) (rest := []) C (c2_readEnd hc18) lk_RX2_81 ⟨rfl, rfl, Nat.le_of_ble_eq_true rfl, Nat.le_of_ble_eq_true rfl⟩ ⟨Nat.zero_le _, Nat.zero_le _⟩ o_reader rfl rfl (Nat.le_of_ble_eq_true rfl) rfl hl.1 dX2_readClash_96 hz (fun H locs hz => ?_)
        exact hR _ _ _ _ _ _ hf hz dX2_readClash_99
      · have hf := ite_t hf c10
        refine lv_iconst (v := (0 : Int32)) hx hb dX2_readClash_55 (by decide) ?_
        exact hR _ _ _ _ _ _ hf hz dX2_readClash_56
  · have hf := ite_t hf c4
    refine lv_iconst (v := (0 : Int32)) hx hb dX2_readClash_17 (by decide) ?_
    exact hR _ _ _ _ _ _ hf hz dX2_readClash_18
set_option maxHeartbeats 4000000 in
set_option maxRecDepth 100000 in
theorem c2_readClash {l : Launch} {D : va_G} {cI cZ cB : ClassId} {h : Nat → Nat} {g : Sg} {r : Int32} {g1 : Sg} (hf : f2_readClash g = some (r, g1)) : KI l D (tyL cI cZ cB) (wX cI cZ cB h) yX2_readClash cX2_readClash 3 (some .boolean) rm2_readClash [.ref (h 122)] g r g1 := by
  refine KZ_mk (own := RX2) (by decide +kernel) rfl (Nat.le_of_ble_eq_true rfl) ?_
  intro p e s m below meth c A Q ls C hR hz hl
  have hl : lv_has ls 3 [(0, .ref (h 122))] := hl
  exact w2_readClash_b0 C hR _ _ _ _ hf hz hl
abbrev rm2_readAcid : Room := { frames := 4, cells := 0, slots := 0, locals := 85 }
set_option maxHeartbeats 4000000 in
set_option maxRecDepth 100000 in
theorem w2_readAcid_b0 {res : Int32 × Sg} (C : Cx p m c cX2_readAcid 1 s args RX2 D (tyL cI cZ cB)) (hR : EndZ p l e rm2_readAcid s m args below meth c Q D (wX cI cZ cB h) A cX2_readAcid res) : ∀ (g : Sg) (H : Heap) (locs : List Loc) (ls : Array Slot), f2_readAcid g = some res → Zs D (wX cI cZ cB h) A s.heap H locs g → lv_has ls 1 [(0, .ref (h 122))] → W p l e rm2_readAcid s m args below meth c H locs 0 0 Q (F0 m 0 ls []) := by
  have hx := C.1.1
  have hb := C.1.2.1
  intro g H locs ls hf hz hl
  unfold f2_readAcid at hf
  refine lv_aload_n hx hb dX2_readAcid_0 rfl (lv_at hl 0 rfl) ?_
  refine g_RX2_25_reader C hz dX2_readAcid_1 ?_
  refine lv_if_ne (tgt := 17) hx hb dX2_readAcid_4 (by decide) (fun c1 => ?_) (fun c1 => ?_)
  · have hf := ite_f hf c1
    refine lv_iconst (v := (0 : Int32)) hx hb dX2_readAcid_17 (by decide) ?_
    exact hR _ _ _ _ _ _ hf hz dX2_readAcid_18
  · have hf := ite_t hf c1
    refine lv_aload_n hx hb dX2_readAcid_7 rfl (lv_at hl 0 rfl) ?_
    refine lv_iconst (v := (1 : Int32)) hx hb dX2_readAcid_8 (by decide) ?_
    refine lv_bipush (v := (20 : Int32)) hx hb dX2_readAcid_9 (by decide) ?_
    obtain ⟨r4, g3, hc2, hf⟩ := bd2_elim hf
    refine z_VI (As := [.int (1 : Int32), .int (20 : Int32)]) (rest := []) C (c2_readNumber hc2) lk_RX2_67 ⟨rfl, rfl, Nat.le_of_ble_eq_true rfl, Nat.le_of_ble_eq_true rfl⟩ ⟨Nat.zero_le _, Nat.zero_le _⟩ o_reader rfl rfl (Nat.le_of_ble_eq_true rfl) rfl hl.1 dX2_readAcid_11 hz (fun H locs hz => ?_)
    refine lv_if_ne (tgt := 19) hx hb dX2_readAcid_14 (by decide) (fun c5 => ?_) (fun c5 => ?_)
    · have hf := ite_f hf c5
      refine lv_aload_n hx hb dX2_readAcid_19 rfl (lv_at hl 0 rfl) ?_
      refine lv_iconst (v := (1 : Int32)) hx hb dX2_readAcid_20 (by decide) ?_
      obtain ⟨g6, eg6, hf⟩ := nx_elim hf
      refine p_RX2_25_reader C hz rfl rfl eg6 dX2_readAcid_21 (fun H locs hz => ?_)
      refine lv_aload_n hx hb dX2_readAcid_24 rfl (lv_at hl 0 rfl) ?_
      refine g_RX2_21_reader C hz dX2_readAcid_25 ?_
      refine lv_aload_n hx hb dX2_readAcid_28 rfl (lv_at hl 0 rfl) ?_
      refine g_RX2_12_reader C hz dX2_readAcid_29 ?_
      refine g_RX2_75_text C hz dX2_readAcid_32 ?_
      obtain ⟨g7, eg7, hf⟩ := nx_elim hf
      refine p_RX2_115_rtold C hz eg7 dX2_readAcid_35 (fun H locs hz => ?_)
      refine lv_aload_n hx hb dX2_readAcid_38 rfl (lv_at hl 0 rfl) ?_
      obtain ⟨r10, g9, hc8, hf⟩ := bd2_elim hf
      refine z_VI (As := []) (rest := []) C (c2_readEnd hc8) lk_RX2_81 ⟨rfl, rfl, Nat.le_of_ble_eq_true rfl, Nat.le_of_ble_eq_true rfl⟩ ⟨Nat.zero_le _, Nat.zero_le _⟩ o_reader rfl rfl (Nat.le_of_ble_eq_true rfl) rfl hl.1 dX2_readAcid_39 hz (fun H locs hz => ?_)
      exact hR _ _ _ _ _ _ hf hz dX2_readAcid_42
    · have hf := ite_t hf c5
      refine lv_iconst (v := (0 : Int32)) hx hb dX2_readAcid_17 (by decide) ?_
      exact hR _ _ _ _ _ _ hf hz dX2_readAcid_18
set_option maxHeartbeats 4000000 in
set_option maxRecDepth 100000 in
theorem c2_readAcid {l : Launch} {D : va_G} {cI cZ cB : ClassId} {h : Nat → Nat} {g : Sg} {r : Int32} {g1 : Sg} (hf : f2_readAcid g = some (r, g1)) : KI l D (tyL cI cZ cB) (wX cI cZ cB h) yX2_readAcid cX2_readAcid 1 (some .boolean) rm2_readAcid [.ref (h 122)] g r g1 := by
  refine KZ_mk (own := RX2) (by decide +kernel) rfl (Nat.le_of_ble_eq_true rfl) ?_
  intro p e s m below meth c A Q ls C hR hz hl
  have hl : lv_has ls 1 [(0, .ref (h 122))] := hl
  exact w2_readAcid_b0 C hR _ _ _ _ hf hz hl
end WK
