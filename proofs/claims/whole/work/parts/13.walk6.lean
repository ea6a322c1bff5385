section WK
variable {p : Program} {l : Launch} {e : Env} {s : State} {m : MethodId} {args : Array Value} {below : List Frame} {meth : Method} {c : Code} {Q : State → Prop} {D : va_G} {cI cZ cB : ClassId} {A : Nat → Prop} {h : Nat → Nat}
abbrev rm6_soonest : Room := { frames := 0, cells := 0, slots := 0, locals := 0 }
set_option maxHeartbeats 4000000 in
set_option maxRecDepth 100000 in
theorem w6_soonest_b50 {res : Int32 × Sg} {k5 : Int32 → Int32 → Int32 → Sg → Option (Int32 × Sg)} (C : Cx p m c cX6_soonest 4 s args RX6 D (tyL cI cZ cB)) (hR : EndI p l e rm6_soonest s m args below meth c Q D (wM cI cZ h) A cX6_soonest res) (hk5 : ∀ (x1 : Int32) (x2 : Int32) (x3 : Int32) (g : Sg) (H : Heap) (locs : List Loc) (ls : Array Slot), k5 x1 x2 x3 g = some res → Zs D (wM cI cZ h) A s.heap H locs g → lv_has ls 4 [(0, .ref (h 0)), (1, .int x1), (2, .int x2), (3, .int x3)] → W p l e rm6_soonest s m args below meth c H locs 0 0 Q (F0 m 5 ls [])) : ∀ (x1 : Int32) (x3 : Int32) (y0 : Int32) (g : Sg) (H : Heap) (locs : List Loc) (ls : Array Slot), f6_soonest_b50 k5 x1 x3 y0 g = some res → Zs D (wM cI cZ h) A s.heap H locs g → lv_has ls 4 [(0, .ref (h 0)), (1, .int x1), (3, .int x3)] → W p l e rm6_soonest s m args below meth c H locs 0 0 Q (F0 m 50 ls [.int y0]) := by
  have hx := C.1.1
  have hb := C.1.2.1
  intro x1 x3 y0 g H locs ls hf hz hl
  unfold f6_soonest_b50 at hf
  refine lv_istore_n (lv' := [(2, .int y0), (0, .ref (h 0)), (1, .int x1), (3, .int x3)]) hx hb dX6_soonest_50 rfl hl (by decide) rfl (fun ls hl => ?_)
  obtain ⟨v1, ev1, hf⟩ := nx_elim hf
  refine lv_iinc (v := v1) (lv' := [(3, .int v1), (2, .int y0), (0, .ref (h 0)), (1, .int x1)]) hx hb dX6_soonest_51 hl (k := 3) rfl (by rw [ev1]; rfl) (by decide) rfl (fun ls hl => ?_)
  refine lv_goto (tgt := 5) hx hb dX6_soonest_54 (by decide) ?_
  exact hk5 _ _ _ _ _ _ _ hf hz (lv_sub hl [2, 3, 1, 0] rfl)
set_option maxHeartbeats 4000000 in
set_option maxRecDepth 100000 in
theorem w6_soonest_b49 {res : Int32 × Sg} {k5 : Int32 → Int32 → Int32 → Sg → Option (Int32 × Sg)} (C : Cx p m c cX6_soonest 4 s args RX6 D (tyL cI cZ cB)) (hR : EndI p l e rm6_soonest s m args below meth c Q D (wM cI cZ h) A cX6_soonest res) (hk5 : ∀ (x1 : Int32) (x2 : Int32) (x3 : Int32) (g : Sg) (H : Heap) (locs : List Loc) (ls : Array Slot), k5 x1 x2 x3 g = some res → Zs D (wM cI cZ h) A s.heap H locs g → lv_has ls 4 [(0, .ref (h 0)), (1, .int x1), (2, .int x2), (3, .int x3)] → W p l e rm6_soonest s m args below meth c H locs 0 0 Q (F0 m 5 ls [])) : ∀ (x1 : Int32) (x2 : Int32) (x3 : Int32) (g : Sg) (H : Heap) (locs : List Loc) (ls : Array Slot), f6_soonest_b49 k5 x1 x2 x3 g = some res → Zs D (wM cI cZ h) A s.heap H locs g → lv_has ls 4 [(0, .ref (h 0)), (1, .int x1), (2, .int x2), (3, .int x3)] → W p l e rm6_soonest s m args below meth c H locs 0 0 Q (F0 m 49 ls []) := by
  have hx := C.1.1
  have hb := C.1.2.1
  intro x1 x2 x3 g H locs ls hf hz hl
  unfold f6_soonest_b49 at hf
  refine lv_iload_n hx hb dX6_soonest_49 rfl (lv_at hl 2 rfl) ?_
  exact w6_soonest_b50 C hR hk5 _ _ _ _ _ _ _ hf hz (lv_sub hl [0, 1, 3] rfl)
set_option maxHeartbeats 4000000 in
set_option maxRecDepth 100000 in
theorem w6_soonest_b45 {res : Int32 × Sg} {k5 : Int32 → Int32 → Int32 → Sg → Option (Int32 × Sg)} (C : Cx p m c cX6_soonest 4 s args RX6 D (tyL cI cZ cB)) (hR : EndI p l e rm6_soonest s m args below meth c Q D (wM cI cZ h) A cX6_soonest res) (hk5 : ∀ (x1 : Int32) (x2 : Int32) (x3 : Int32) (g : Sg) (H : Heap) (locs : List Loc) (ls : Array Slot), k5 x1 x2 x3 g = some res → Zs D (wM cI cZ h) A s.heap H locs g → lv_has ls 4 [(0, .ref (h 0)), (1, .int x1), (2, .int x2), (3, .int x3)] → W p l e rm6_soonest s m args below meth c H locs 0 0 Q (F0 m 5 ls [])) : ∀ (x1 : Int32) (x3 : Int32) (g : Sg) (H : Heap) (locs : List Loc) (ls : Array Slot), f6_soonest_b45 k5 x1 x3 g = some res → Zs D (wM cI cZ h) A s.heap H locs g → lv_has ls 4 [(0, .ref (h 0)), (1, .int x1), (3, .int x3)] → W p l e rm6_soonest s m args below meth c H locs 0 0 Q (F0 m 45 ls []) := by
  have hx := C.1.1
  have hb := C.1.2.1
  intro x1 x3 g H locs ls hf hz hl
  unfold f6_soonest_b45 at hf
  refine lv_iload_n hx hb dX6_soonest_45 rfl (lv_at hl 2 rfl) ?_
  refine lv_goto (tgt := 50) hx hb dX6_soonest_46 (by decide) ?_
  exact w6_soonest_b50 C hR hk5 _ _ _ _ _ _ _ hf hz (lv_sub hl [0, 1, 2] rfl)
set_option maxHeartbeats 4000000 in
set_option maxRecDepth 100000 in
theorem w6_soonest_b5 {res : Int32 × Sg} (C : Cx p m c cX6_soonest 4 s args RX6 D (tyL cI cZ cB)) (hR : EndI p l e rm6_soonest s m args below meth c Q D (wM cI cZ h) A cX6_soonest res) : ∀ n : Nat, ∀ (x1 : Int32) (x2 : Int32) (x3 : Int32) (g : Sg) (H : Heap) (locs : List Loc) (ls : Array Slot), f6_soonest_b5 n x1 x2 x3 g = some res → Zs D (wM cI cZ h) A s.heap H locs g → lv_has ls 4 [(0, .ref (h 0)), (1, .int x1), (2, .int x2), (3, .int x3)] → W p l e rm6_soonest s m args below meth c H locs 0 0 Q (F0 m 5 ls []) := by
  have hx := C.1.1
  have hb := C.1.2.1
  intro n
  induction n with
  | zero =>
    intro x1 x2 x3 g H locs ls hf hz hl
    cases hf
  | succ n ih =>
    intro x1 x2 x3 g H locs ls hf hz hl
    rw [f6_soonest_b5] at hf
    refine lv_iload_n hx hb dX6_soonest_5 rfl (lv_at hl 3 rfl) ?_
    refine lv_aload_n hx hb dX6_soonest_6 rfl (lv_at hl 0 rfl) ?_
    refine g_RX6_13_model C hz dX6_soonest_7 ?_
    refine lv_iconst (v := (1 : Int32)) hx hb dX6_soonest_10 (by decide) ?_
    refine z_ialdL C hz a_m_many (vpl (n := 1) (by decide) (by decide)) (k := 1) (by decide) dX6_soonest_11 ?_
    refine lv_icmp_ge (tgt := 57) hx hb dX6_soonest_12 (by decide) (fun c2 => ?_) (fun c2 => ?_)
    · have hf := ite_t hf c2
      refine lv_iload_n hx hb dX6_soonest_57 rfl (lv_at hl 2 rfl) ?_
      exact hR _ _ _ _ _ _ (Option.some.inj hf) hz dX6_soonest_58
    · have hf := ite_f hf c2
      refine lv_iload_n hx hb dX6_soonest_15 rfl (lv_at hl 1 rfl) ?_
      refine lv_iload_n hx hb dX6_soonest_16 rfl (lv_at hl 3 rfl) ?_
      refine lv_ishr hx hb dX6_soonest_17 ?_
      refine lv_iconst (v := (1 : Int32)) hx hb dX6_soonest_18 (by decide) ?_
      refine lv_iand hx hb dX6_soonest_19 ?_
      refine lv_iconst (v := (1 : Int32)) hx hb dX6_soonest_20 (by decide) ?_
      refine lv_icmp_ne (tgt := 49) hx hb dX6_soonest_21 (by decide) (fun c3 => ?_) (fun c3 => ?_)
      · have hf := ite_f hf c3
        exact w6_soonest_b49 C hR ih _ _ _ _ _ _ _ hf hz (lv_sub hl [0, 1, 2, 3] rfl)
      · have hf := ite_t hf c3
        refine lv_iload_n hx hb dX6_soonest_24 rfl (lv_at hl 2 rfl) ?_
        refine lv_bipush (v := (-9 : Int32)) hx hb dX6_soonest_25 (by decide) ?_
        refine lv_icmp_eq (tgt := 45) hx hb dX6_soonest_27 (by decide) (fun c4 => ?_) (fun c4 => ?_)
        · have hf := ite_t hf c4
          exact w6_soonest_b45 C hR ih _ _ _ _ _ _ hf hz (lv_sub hl [0, 1, 3] rfl)
        · have hf := ite_f hf c4
          refine lv_aload_n hx hb dX6_soonest_30 rfl (lv_at hl 0 rfl) ?_
          refine g_RX6_34_model C hz dX6_soonest_31 ?_
          refine lv_iload_n hx hb dX6_soonest_34 rfl (lv_at hl 3 rfl) ?_
          obtain ⟨c5, hf⟩ := ix_elim hf
          refine z_iald C hz a_m_due c5 dX6_soonest_35 ?_
          refine lv_aload_n hx hb dX6_soonest_36 rfl (lv_at hl 0 rfl) ?_
          refine g_RX6_34_model C hz dX6_soonest_37 ?_
          refine lv_iload_n hx hb dX6_soonest_40 rfl (lv_at hl 2 rfl) ?_
          obtain ⟨c6, hf⟩ := ix_elim hf
          refine z_iald C hz a_m_due c6 dX6_soonest_41 ?_
          refine lv_icmp_ge (tgt := 49) hx hb dX6_soonest_42 (by decide) (fun c7 => ?_) (fun c7 => ?_)
          · have hf := ite_t hf c7
            exact w6_soonest_b49 C hR ih _ _ _ _ _ _ _ hf hz (lv_sub hl [0, 1, 2, 3] rfl)
          · have hf := ite_f hf c7
            exact w6_soonest_b45 C hR ih _ _ _ _ _ _ hf hz (lv_sub hl [0, 1, 3] rfl)
set_option maxHeartbeats 4000000 in
set_option maxRecDepth 100000 in
theorem w6_soonest_b0 {res : Int32 × Sg} (C : Cx p m c cX6_soonest 4 s args RX6 D (tyL cI cZ cB)) (hR : EndI p l e rm6_soonest s m args below meth c Q D (wM cI cZ h) A cX6_soonest res) : ∀ (x1 : Int32) (g : Sg) (H : Heap) (locs : List Loc) (ls : Array Slot), f6_soonest x1 g = some res → Zs D (wM cI cZ h) A s.heap H locs g → lv_has ls 4 [(0, .ref (h 0)), (1, .int x1)] → W p l e rm6_soonest s m args below meth c H locs 0 0 Q (F0 m 0 ls []) := by
  have hx := C.1.1
  have hb := C.1.2.1
  intro x1 g H locs ls hf hz hl
  unfold f6_soonest at hf
  refine lv_bipush (v := (-9 : Int32)) hx hb dX6_soonest_0 (by decide) ?_
  refine lv_istore_n (lv' := [(2, .int (-9 : Int32)), (0, .ref (h 0)), (1, .int x1)]) hx hb dX6_soonest_2 rfl hl (by decide) rfl (fun ls hl => ?_)
  refine lv_iconst (v := (0 : Int32)) hx hb dX6_soonest_3 (by decide) ?_
  refine lv_istore_n (lv' := [(3, .int (0 : Int32)), (2, .int (-9 : Int32)), (0, .ref (h 0)), (1, .int x1)]) hx hb dX6_soonest_4 rfl hl (by decide) rfl (fun ls hl => ?_)
  exact w6_soonest_b5 C hR 1000 _ _ _ _ _ _ _ hf hz (lv_sub hl [2, 3, 1, 0] rfl)
set_option maxHeartbeats 4000000 in
set_option maxRecDepth 100000 in
theorem c6_soonest {l : Launch} {D : va_G} {cI cZ cB : ClassId} {h : Nat → Nat} {x1 : Int32} {g : Sg} {r : Int32} {g1 : Sg} (hf : f6_soonest x1 g = some (r, g1)) : KI l D (tyL cI cZ cB) (wM cI cZ h) yX6_soonest cX6_soonest 4 (some .int) rm6_soonest [.ref (h 0), .int x1] g r g1 := by
  refine KI_mk (own := RX6) (by decide +kernel) rfl (Nat.le_of_ble_eq_true rfl) ?_
  intro p e s m below meth c A Q ls C hR hz hl
  have hl : lv_has ls 4 [(0, .ref (h 0)), (1, .int x1)] := hl
  exact w6_soonest_b0 C hR _ _ _ _ _ hf hz hl
abbrev rm6_canOrder : Room := { frames := 1, cells := 0, slots := 0, locals := 23 }
set_option maxHeartbeats 4000000 in
set_option maxRecDepth 100000 in
theorem w6_canOrder_b66 {res : Int32 × Sg} {k12 : Int32 → Int32 → Int32 → Sg → Option (Int32 × Sg)} (C : Cx p m c cX6_canOrder 6 s args RX6 D (tyL cI cZ cB)) (hR : EndZ p l e rm6_canOrder s m args below meth c Q D (wM cI cZ h) A cX6_canOrder res) (hk12 : ∀ (x2 : Int32) (x3 : Int32) (x4 : Int32) (g : Sg) (H : Heap) (locs : List Loc) (ls : Array Slot), k12 x2 x3 x4 g = some res → Zs D (wM cI cZ h) A s.heap H locs g → lv_has ls 6 [(0, .ref (h 0)), (2, .int x2), (3, .int x3), (4, .int x4)] → W p l e rm6_canOrder s m args below meth c H locs 0 0 Q (F0 m 12 ls [])) : ∀ (x2 : Int32) (x4 : Int32) (y0 : Int32) (g : Sg) (H : Heap) (locs : List Loc) (ls : Array Slot), f6_canOrder_b66 k12 x2 x4 y0 g = some res → Zs D (wM cI cZ h) A s.heap H locs g → lv_has ls 6 [(0, .ref (h 0)), (2, .int x2), (4, .int x4)] → W p l e rm6_canOrder s m args below meth c H locs 0 0 Q (F0 m 66 ls [.int y0]) := by
  have hx := C.1.1
  have hb := C.1.2.1
  intro x2 x4 y0 g H locs ls hf hz hl
  unfold f6_canOrder_b66 at hf
  refine lv_istore_n (lv' := [(3, .int y0), (0, .ref (h 0)), (2, .int x2), (4, .int x4)]) hx hb dX6_canOrder_66 rfl hl (by decide) rfl (fun ls hl => ?_)
  refine lv_goto (tgt := 12) hx hb dX6_canOrder_67 (by decide) ?_
  exact hk12 _ _ _ _ _ _ _ hf hz (lv_sub hl [1, 2, 0, 3] rfl)
set_option maxHeartbeats 4000000 in
set_option maxRecDepth 100000 in
theorem w6_canOrder_b65 {res : Int32 × Sg} {k12 : Int32 → Int32 → Int32 → Sg → Option (Int32 × Sg)} (C : Cx p m c cX6_canOrder 6 s args RX6 D (tyL cI cZ cB)) (hR : EndZ p l e rm6_canOrder s m args below meth c Q D (wM cI cZ h) A cX6_canOrder res) (hk12 : ∀ (x2 : Int32) (x3 : Int32) (x4 : Int32) (g : Sg) (H : Heap) (locs : List Loc) (ls : Array Slot), k12 x2 x3 x4 g = some res → Zs D (wM cI cZ h) A s.heap H locs g → lv_has ls 6 [(0, .ref (h 0)), (2, .int x2), (3, .int x3), (4, .int x4)] → W p l e rm6_canOrder s m args below meth c H locs 0 0 Q (F0 m 12 ls [])) : ∀ (x2 : Int32) (x4 : Int32) (g : Sg) (H : Heap) (locs : List Loc) (ls : Array Slot), f6_canOrder_b65 k12 x2 x4 g = some res → Zs D (wM cI cZ h) A s.heap H locs g → lv_has ls 6 [(0, .ref (h 0)), (2, .int x2), (4, .int x4)] → W p l e rm6_canOrder s m args below meth c H locs 0 0 Q (F0 m 65 ls []) := by
  have hx := C.1.1
  have hb := C.1.2.1
  intro x2 x4 g H locs ls hf hz hl
  unfold f6_canOrder_b65 at hf
  refine lv_iconst (v := (0 : Int32)) hx hb dX6_canOrder_65 (by decide) ?_
  exact w6_canOrder_b66 C hR hk12 _ _ _ _ _ _ _ hf hz (lv_sub hl [0, 1, 2] rfl)
set_option maxHeartbeats 4000000 in
set_option maxRecDepth 100000 in
theorem w6_canOrder_b12 {res : Int32 × Sg} (C : Cx p m c cX6_canOrder 6 s args RX6 D (tyL cI cZ cB)) (hR : EndZ p l e rm6_canOrder s m args below meth c Q D (wM cI cZ h) A cX6_canOrder res) : ∀ n : Nat, ∀ (x2 : Int32) (x3 : Int32) (x4 : Int32) (g : Sg) (H : Heap) (locs : List Loc) (ls : Array Slot), f6_canOrder_b12 n x2 x3 x4 g = some res → Zs D (wM cI cZ h) A s.heap H locs g → lv_has ls 6 [(0, .ref (h 0)), (2, .int x2), (3, .int x3), (4, .int x4)] → W p l e rm6_canOrder s m args below meth c H locs 0 0 Q (F0 m 12 ls []) := by
  have hx := C.1.1
  have hb := C.1.2.1
  intro n
  induction n with
  | zero =>
    intro x2 x3 x4 g H locs ls hf hz hl
    cases hf
  | succ n ih =>
    intro x2 x3 x4 g H locs ls hf hz hl
    rw [f6_canOrder_b12] at hf
    refine lv_iload hx hb dX6_canOrder_12 (lv_at hl 3 rfl) ?_
    refine lv_if_eq (tgt := 70) hx hb dX6_canOrder_14 (by decide) (fun c1 => ?_) (fun c1 => ?_)
    · have hf := ite_t hf c1
      refine lv_iload_n hx hb dX6_canOrder_70 rfl (lv_at hl 2 rfl) ?_
      exact hR _ _ _ _ _ _ hf hz dX6_canOrder_71
    · have hf := ite_f hf c1
      refine lv_aload_n hx hb dX6_canOrder_17 rfl (lv_at hl 0 rfl) ?_
      refine lv_iload hx hb dX6_canOrder_18 (lv_at hl 3 rfl) ?_
      obtain ⟨r4, g3, hc2, hf⟩ := bd2_elim hf
      refine z_VI (As := [.int x4]) (rest := []) C (c6_soonest hc2) lk_RX6_188 ⟨rfl, rfl, Nat.le_of_ble_eq_true rfl, Nat.le_of_ble_eq_true rfl⟩ ⟨Nat.zero_le _, Nat.zero_le _⟩ o_model rfl rfl (Nat.le_of_ble_eq_true rfl) rfl hl.1 dX6_canOrder_20 hz (fun H locs hz => ?_)
      refine lv_istore (lv' := [(5, .int r4), (0, .ref (h 0)), (2, .int x2), (3, .int x3), (4, .int x4)]) hx hb dX6_canOrder_23 hl (by decide) rfl (fun ls hl => ?_)
      refine lv_iload hx hb dX6_canOrder_25 (lv_at hl 4 rfl) ?_
      refine lv_iconst (v := (1 : Int32)) hx hb dX6_canOrder_27 (by decide) ?_
      refine lv_iload hx hb dX6_canOrder_28 (lv_at hl 0 rfl) ?_
      refine lv_ishl hx hb dX6_canOrder_30 ?_
      refine lv_iconst (v := (-1 : Int32)) hx hb dX6_canOrder_31 (by decide) ?_
      refine lv_ixor hx hb dX6_canOrder_32 ?_
      refine lv_iand hx hb dX6_canOrder_33 ?_
      obtain ⟨v5, ev5, hf⟩ := nx_elim hf
      refine z_nm ev5 ?_
      refine lv_istore (lv' := [(4, .int v5), (5, .int r4), (0, .ref (h 0)), (2, .int x2), (3, .int x3)]) hx hb dX6_canOrder_34 hl (by decide) rfl (fun ls hl => ?_)
      refine lv_iload_n hx hb dX6_canOrder_36 rfl (lv_at hl 3 rfl) ?_
      refine lv_aload_n hx hb dX6_canOrder_37 rfl (lv_at hl 2 rfl) ?_
      refine g_RX6_31_model C hz dX6_canOrder_38 ?_
      refine lv_iload hx hb dX6_canOrder_41 (lv_at hl 1 rfl) ?_
      obtain ⟨c6, hf⟩ := ix_elim hf
      refine z_iald C hz a_m_span c6 dX6_canOrder_43 ?_
      refine lv_iadd hx hb dX6_canOrder_44 ?_
      obtain ⟨v7, ev7, hf⟩ := nx_elim hf
      refine z_nm ev7 ?_
      refine lv_istore_n (lv' := [(2, .int v7), (4, .int v5), (5, .int r4), (0, .ref (h 0)), (3, .int x3)]) hx hb dX6_canOrder_45 rfl hl (by decide) rfl (fun ls hl => ?_)
      refine lv_iload_n hx hb dX6_canOrder_46 rfl (lv_at hl 4 rfl) ?_
      refine lv_if_eq (tgt := 65) hx hb dX6_canOrder_47 (by decide) (fun c8 => ?_) (fun c8 => ?_)
      · have hf := ite_t hf c8
        exact w6_canOrder_b65 C hR ih _ _ _ _ _ _ hf hz (lv_sub hl [3, 0, 1] rfl)
      · have hf := ite_f hf c8
        refine lv_iload_n hx hb dX6_canOrder_50 rfl (lv_at hl 0 rfl) ?_
        refine lv_aload_n hx hb dX6_canOrder_51 rfl (lv_at hl 3 rfl) ?_
        refine g_RX6_34_model C hz dX6_canOrder_52 ?_
        refine lv_iload hx hb dX6_canOrder_55 (lv_at hl 2 rfl) ?_
        obtain ⟨c9, hf⟩ := ix_elim hf
        refine z_iald C hz a_m_due c9 dX6_canOrder_57 ?_
        refine lv_icmp_gt (tgt := 65) hx hb dX6_canOrder_58 (by decide) (fun c10 => ?_) (fun c10 => ?_)
        · have hf := ite_t hf c10
          exact w6_canOrder_b65 C hR ih _ _ _ _ _ _ hf hz (lv_sub hl [3, 0, 1] rfl)
        · have hf := ite_f hf c10
          refine lv_iconst (v := (1 : Int32)) hx hb dX6_canOrder_61 (by decide) ?_
          refine lv_goto (tgt := 66) hx hb dX6_canOrder_62 (by decide) ?_
          exact w6_canOrder_b66 C hR ih _ _ _ _ _ _ _ hf hz (lv_sub hl [3, 0, 1] rfl)
set_option maxHeartbeats 4000000 in
set_option maxRecDepth 100000 in
theorem w6_canOrder_b0 {res : Int32 × Sg} (C : Cx p m c cX6_canOrder 6 s args RX6 D (tyL cI cZ cB)) (hR : EndZ p l e rm6_canOrder s m args below meth c Q D (wM cI cZ h) A cX6_canOrder res) : ∀ (x1 : Int32) (g : Sg) (H : Heap) (locs : List Loc) (ls : Array Slot), f6_canOrder x1 g = some res → Zs D (wM cI cZ h) A s.heap H locs g → lv_has ls 6 [(0, .ref (h 0)), (1, .int x1)] → W p l e rm6_canOrder s m args below meth c H locs 0 0 Q (F0 m 0 ls []) := by
  have hx := C.1.1
  have hb := C.1.2.1
  intro x1 g H locs ls hf hz hl
  unfold f6_canOrder at hf
  refine lv_aload_n hx hb dX6_canOrder_0 rfl (lv_at hl 0 rfl) ?_
  refine g_RX6_46_model C hz dX6_canOrder_1 ?_
  refine lv_iconst (v := (0 : Int32)) hx hb dX6_canOrder_4 (by decide) ?_
  refine z_ialdL C hz a_m_s (vpl (n := 0) (by decide) (by decide)) (k := 0) (by decide) dX6_canOrder_5 ?_
  obtain ⟨v11, ev11, hf⟩ := nx_elim hf
  refine z_nm ev11 ?_
  refine lv_istore_n (lv' := [(2, .int v11), (0, .ref (h 0)), (1, .int x1)]) hx hb dX6_canOrder_6 rfl hl (by decide) rfl (fun ls hl => ?_)
  refine lv_iconst (v := (1 : Int32)) hx hb dX6_canOrder_7 (by decide) ?_
  refine lv_istore_n (lv' := [(3, .int (1 : Int32)), (2, .int v11), (0, .ref (h 0)), (1, .int x1)]) hx hb dX6_canOrder_8 rfl hl (by decide) rfl (fun ls hl => ?_)
  refine lv_iload_n hx hb dX6_canOrder_9 rfl (lv_at hl 3 rfl) ?_
  refine lv_istore (lv' := [(4, .int x1), (3, .int (1 : Int32)), (2, .int v11), (0, .ref (h 0)), (1, .int x1)]) hx hb dX6_canOrder_10 hl (by decide) rfl (fun ls hl => ?_)
  exact w6_canOrder_b12 C hR 1000 _ _ _ _ _ _ _ hf hz (lv_sub hl [3, 2, 1, 0] rfl)
set_option maxHeartbeats 4000000 in
set_option maxRecDepth 100000 in
theorem c6_canOrder {l : Launch} {D : va_G} {cI cZ cB : ClassId} {h : Nat → Nat} {x1 : Int32} {g : Sg} {r : Int32} {g1 : Sg} (hf : f6_canOrder x1 g = some (r, g1)) : KI l D (tyL cI cZ cB) (wM cI cZ h) yX6_canOrder cX6_canOrder 6 (some .boolean) rm6_canOrder [.ref (h 0), .int x1] g r g1 := by
  refine KZ_mk (own := RX6) (by decide +kernel) rfl (Nat.le_of_ble_eq_true rfl) ?_
  intro p e s m below meth c A Q ls C hR hz hl
  have hl : lv_has ls 6 [(0, .ref (h 0)), (1, .int x1)] := hl
  exact w6_canOrder_b0 C hR _ _ _ _ _ hf hz hl
abbrev rm6_order : Room := { frames := 2, cells := 0, slots := 0, locals := 48 }
set_option maxHeartbeats 4000000 in
set_option maxRecDepth 100000 in
theorem w6_order_b114 {res : Int32 × Sg} (C : Cx p m c cX6_order 5 s args RX6 D (tyL cI cZ cB)) (hR : EndI p l e rm6_order s m args below meth c Q D (wM cI cZ h) A cX6_order res) : ∀ (x3 : Int32) (g : Sg) (H : Heap) (locs : List Loc) (ls : Array Slot), f6_order_b114 x3 g = some res → Zs D (wM cI cZ h) A s.heap H locs g → lv_has ls 5 [(0, .ref (h 0)), (3, .int x3)] → W p l e rm6_order s m args below meth c H locs 0 0 Q (F0 m 114 ls []) := by
  have hx := C.1.1
  have hb := C.1.2.1
  intro x3 g H locs ls hf hz hl
  unfold f6_order_b114 at hf
  refine lv_aload_n hx hb dX6_order_114 rfl (lv_at hl 0 rfl) ?_
  refine lv_iload_n hx hb dX6_order_115 rfl (lv_at hl 1 rfl) ?_
  obtain ⟨r3, g2, hc1, hf⟩ := bd2_elim hf
  refine z_VI (As := [.int x3]) (rest := []) C (c6_soonest hc1) lk_RX6_188 ⟨rfl, rfl, Nat.le_of_ble_eq_true rfl, Nat.le_of_ble_eq_true rfl⟩ ⟨Nat.zero_le _, Nat.zero_le _⟩ o_model rfl rfl (Nat.le_of_ble_eq_true rfl) rfl hl.1 dX6_order_116 hz (fun H locs hz => ?_)
  exact hR _ _ _ _ _ _ (Option.some.inj hf) hz dX6_order_119
set_option maxHeartbeats 4000000 in
set_option maxRecDepth 100000 in
theorem w6_order_b86 {res : Int32 × Sg} (C : Cx p m c cX6_order 5 s args RX6 D (tyL cI cZ cB)) (hR : EndI p l e rm6_order s m args below meth c Q D (wM cI cZ h) A cX6_order res) : ∀ n : Nat, ∀ (x1 : Int32) (x3 : Int32) (x4 : Int32) (g : Sg) (H : Heap) (locs : List Loc) (ls : Array Slot), f6_order_b86 n x1 x3 x4 g = some res → Zs D (wM cI cZ h) A s.heap H locs g → lv_has ls 5 [(0, .ref (h 0)), (1, .int x1), (3, .int x3), (4, .int x4)] → W p l e rm6_order s m args below meth c H locs 0 0 Q (F0 m 86 ls []) := by
  have hx := C.1.1
  have hb := C.1.2.1
  intro n
  induction n with
  | zero =>
    intro x1 x3 x4 g H locs ls hf hz hl
    cases hf
  | succ n ih =>
    intro x1 x3 x4 g H locs ls hf hz hl
    rw [f6_order_b86] at hf
    refine lv_iload hx hb dX6_order_86 (lv_at hl 3 rfl) ?_
    refine lv_iload_n hx hb dX6_order_88 rfl (lv_at hl 1 rfl) ?_
    refine lv_icmp_ge (tgt := 114) hx hb dX6_order_89 (by decide) (fun c4 => ?_) (fun c4 => ?_)
    · have hf := ite_t hf c4
      exact w6_order_b114 C hR _ _ _ _ _ hf hz (lv_sub hl [0, 2] rfl)
    · have hf := ite_f hf c4
      refine lv_iload_n hx hb dX6_order_92 rfl (lv_at hl 2 rfl) ?_
      refine lv_if_eq (tgt := 114) hx hb dX6_order_93 (by decide) (fun c5 => ?_) (fun c5 => ?_)
      · have hf := ite_t hf c5
        exact w6_order_b114 C hR _ _ _ _ _ hf hz (lv_sub hl [0, 2] rfl)
      · have hf := ite_f hf c5
        refine lv_iload_n hx hb dX6_order_96 rfl (lv_at hl 2 rfl) ?_
        refine lv_iconst (v := (1 : Int32)) hx hb dX6_order_97 (by decide) ?_
        refine lv_aload_n hx hb dX6_order_98 rfl (lv_at hl 0 rfl) ?_
        refine lv_iload_n hx hb dX6_order_99 rfl (lv_at hl 2 rfl) ?_
        obtain ⟨r8, g7, hc6, hf⟩ := bd2_elim hf
        refine z_VI (As := [.int x3]) (rest := [.int (1 : Int32), .int x3]) C (c6_soonest hc6) lk_RX6_188 ⟨rfl, rfl, Nat.le_of_ble_eq_true rfl, Nat.le_of_ble_eq_true rfl⟩ ⟨Nat.zero_le _, Nat.zero_le _⟩ o_model rfl rfl (Nat.le_of_ble_eq_true rfl) rfl hl.1 dX6_order_100 hz (fun H locs hz => ?_)
        refine lv_ishl hx hb dX6_order_103 ?_
        refine lv_iconst (v := (-1 : Int32)) hx hb dX6_order_104 (by decide) ?_
        refine lv_ixor hx hb dX6_order_105 ?_
        refine lv_iand hx hb dX6_order_106 ?_
        obtain ⟨v9, ev9, hf⟩ := nx_elim hf
        refine z_nm ev9 ?_
        refine lv_istore_n (lv' := [(3, .int v9), (0, .ref (h 0)), (1, .int x1), (4, .int x4)]) hx hb dX6_order_107 rfl hl (by decide) rfl (fun ls hl => ?_)
        obtain ⟨v10, ev10, hf⟩ := nx_elim hf
        refine lv_iinc (v := v10) (lv' := [(4, .int v10), (3, .int v9), (0, .ref (h 0)), (1, .int x1)]) hx hb dX6_order_108 hl (k := 3) rfl (by rw [ev10]; rfl) (by decide) rfl (fun ls hl => ?_)
        refine lv_goto (tgt := 86) hx hb dX6_order_111 (by decide) ?_
        exact ih _ _ _ _ _ _ _ hf hz (lv_sub hl [2, 3, 1, 0] rfl)
set_option maxHeartbeats 4000000 in
set_option maxRecDepth 100000 in
theorem w6_order_b64 {res : Int32 × Sg} {k21 : Int32 → Int32 → Int32 → Sg → Option (Int32 × Sg)} (C : Cx p m c cX6_order 5 s args RX6 D (tyL cI cZ cB)) (hR : EndI p l e rm6_order s m args below meth c Q D (wM cI cZ h) A cX6_order res) (hk21 : ∀ (x1 : Int32) (x2 : Int32) (x3 : Int32) (g : Sg) (H : Heap) (locs : List Loc) (ls : Array Slot), k21 x1 x2 x3 g = some res → Zs D (wM cI cZ h) A s.heap H locs g → lv_has ls 5 [(0, .ref (h 0)), (1, .int x1), (2, .int x2), (3, .int x3)] → W p l e rm6_order s m args below meth c H locs 0 0 Q (F0 m 21 ls [])) : ∀ (x1 : Int32) (x3 : Int32) (y0 : Int32) (g : Sg) (H : Heap) (locs : List Loc) (ls : Array Slot), f6_order_b64 k21 x1 x3 y0 g = some res → Zs D (wM cI cZ h) A s.heap H locs g → lv_has ls 5 [(0, .ref (h 0)), (1, .int x1), (3, .int x3)] → W p l e rm6_order s m args below meth c H locs 0 0 Q (F0 m 64 ls [.int y0]) := by
  have hx := C.1.1
  have hb := C.1.2.1
  intro x1 x3 y0 g H locs ls hf hz hl
  unfold f6_order_b64 at hf
  refine lv_istore_n (lv' := [(2, .int y0), (0, .ref (h 0)), (1, .int x1), (3, .int x3)]) hx hb dX6_order_64 rfl hl (by decide) rfl (fun ls hl => ?_)
  obtain ⟨v11, ev11, hf⟩ := nx_elim hf
  refine lv_iinc (v := v11) (lv' := [(3, .int v11), (2, .int y0), (0, .ref (h 0)), (1, .int x1)]) hx hb dX6_order_65 hl (k := 3) rfl (by rw [ev11]; rfl) (by decide) rfl (fun ls hl => ?_)
  refine lv_goto (tgt := 21) hx hb dX6_order_68 (by decide) ?_
  exact hk21 _ _ _ _ _ _ _ hf hz (lv_sub hl [2, 3, 1, 0] rfl)
set_option maxHeartbeats 4000000 in
set_option maxRecDepth 100000 in
theorem w6_order_b63 {res : Int32 × Sg} {k21 : Int32 → Int32 → Int32 → Sg → Option (Int32 × Sg)} (C : Cx p m c cX6_order 5 s args RX6 D (tyL cI cZ cB)) (hR : EndI p l e rm6_order s m args below meth c Q D (wM cI cZ h) A cX6_order res) (hk21 : ∀ (x1 : Int32) (x2 : Int32) (x3 : Int32) (g : Sg) (H : Heap) (locs : List Loc) (ls : Array Slot), k21 x1 x2 x3 g = some res → Zs D (wM cI cZ h) A s.heap H locs g → lv_has ls 5 [(0, .ref (h 0)), (1, .int x1), (2, .int x2), (3, .int x3)] → W p l e rm6_order s m args below meth c H locs 0 0 Q (F0 m 21 ls [])) : ∀ (x1 : Int32) (x2 : Int32) (x3 : Int32) (g : Sg) (H : Heap) (locs : List Loc) (ls : Array Slot), f6_order_b63 k21 x1 x2 x3 g = some res → Zs D (wM cI cZ h) A s.heap H locs g → lv_has ls 5 [(0, .ref (h 0)), (1, .int x1), (2, .int x2), (3, .int x3)] → W p l e rm6_order s m args below meth c H locs 0 0 Q (F0 m 63 ls []) := by
  have hx := C.1.1
  have hb := C.1.2.1
  intro x1 x2 x3 g H locs ls hf hz hl
  unfold f6_order_b63 at hf
  refine lv_iload_n hx hb dX6_order_63 rfl (lv_at hl 2 rfl) ?_
  exact w6_order_b64 C hR hk21 _ _ _ _ _ _ _ hf hz (lv_sub hl [0, 1, 3] rfl)
set_option maxHeartbeats 4000000 in
set_option maxRecDepth 100000 in
theorem w6_order_b21 {res : Int32 × Sg} (C : Cx p m c cX6_order 5 s args RX6 D (tyL cI cZ cB)) (hR : EndI p l e rm6_order s m args below meth c Q D (wM cI cZ h) A cX6_order res) : ∀ n : Nat, ∀ (x1 : Int32) (x2 : Int32) (x3 : Int32) (g : Sg) (H : Heap) (locs : List Loc) (ls : Array Slot), f6_order_b21 n x1 x2 x3 g = some res → Zs D (wM cI cZ h) A s.heap H locs g → lv_has ls 5 [(0, .ref (h 0)), (1, .int x1), (2, .int x2), (3, .int x3)] → W p l e rm6_order s m args below meth c H locs 0 0 Q (F0 m 21 ls []) := by
  have hx := C.1.1
  have hb := C.1.2.1
  intro n
  induction n with
  | zero =>
    intro x1 x2 x3 g H locs ls hf hz hl
    cases hf
  | succ n ih =>
    intro x1 x2 x3 g H locs ls hf hz hl
    rw [f6_order_b21] at hf
    refine lv_iload_n hx hb dX6_order_21 rfl (lv_at hl 3 rfl) ?_
    refine lv_sipush (v := (256 : Int32)) hx hb dX6_order_22 (by decide) ?_
    refine lv_icmp_ge (tgt := 71) hx hb dX6_order_25 (by decide) (fun c12 => ?_) (fun c12 => ?_)
    · have hf := ite_t hf c12
      refine lv_iload_n hx hb dX6_order_71 rfl (lv_at hl 1 rfl) ?_
      refine lv_iconst (v := (-1 : Int32)) hx hb dX6_order_72 (by decide) ?_
      refine lv_icmp_ne (tgt := 81) hx hb dX6_order_73 (by decide) (fun c13 => ?_) (fun c13 => ?_)
      · have hf := ite_f hf c13
        refine lv_iload_n hx hb dX6_order_81 rfl (lv_at hl 2 rfl) ?_
        refine lv_istore_n (lv' := [(3, .int x2), (0, .ref (h 0)), (1, .int x1), (2, .int x2)]) hx hb dX6_order_82 rfl hl (by decide) rfl (fun ls hl => ?_)
        refine lv_iconst (v := (0 : Int32)) hx hb dX6_order_83 (by decide) ?_
        refine lv_istore (lv' := [(4, .int (0 : Int32)), (3, .int x2), (0, .ref (h 0)), (1, .int x1), (2, .int x2)]) hx hb dX6_order_84 hl (by decide) rfl (fun ls hl => ?_)
        exact w6_order_b86 C hR 1000 _ _ _ _ _ _ _ hf hz (lv_sub hl [2, 3, 1, 0] rfl)
      · have hf := ite_t hf c13
        refine lv_iload_n hx hb dX6_order_76 rfl (lv_at hl 2 rfl) ?_
        obtain ⟨r16, g15, hc14, hf⟩ := bd2_elim hf
        refine z_SI (As := [.int x2]) (rest := []) C (c6_ones hc14) lk_RX6_176 ⟨rfl, rfl, Nat.le_of_ble_eq_true rfl, Nat.le_of_ble_eq_true rfl⟩ ⟨Nat.zero_le _, Nat.zero_le _⟩ rfl (Nat.le_of_ble_eq_true rfl) rfl hl.1 dX6_order_77 hz (fun H locs hz => ?_)
        exact hR _ _ _ _ _ _ (Option.some.inj hf) hz dX6_order_80
    · have hf := ite_f hf c12
      refine lv_iload_n hx hb dX6_order_28 rfl (lv_at hl 3 rfl) ?_
      refine lv_aload_n hx hb dX6_order_29 rfl (lv_at hl 0 rfl) ?_
      refine lv_iconst (v := (1 : Int32)) hx hb dX6_order_30 (by decide) ?_
      obtain ⟨r19, g18, hc17, hf⟩ := bd2_elim hf
      refine z_VI (As := [.int (1 : Int32)]) (rest := [.int x3]) C (c6_those hc17) lk_RX6_170 ⟨rfl, rfl, Nat.le_of_ble_eq_true rfl, Nat.le_of_ble_eq_true rfl⟩ ⟨Nat.zero_le _, Nat.zero_le _⟩ o_model rfl rfl (Nat.le_of_ble_eq_true rfl) rfl hl.1 dX6_order_31 hz (fun H locs hz => ?_)
      refine lv_iconst (v := (-1 : Int32)) hx hb dX6_order_34 (by decide) ?_
      refine lv_ixor hx hb dX6_order_35 ?_
      refine lv_iand hx hb dX6_order_36 ?_
      refine lv_if_ne (tgt := 63) hx hb dX6_order_37 (by decide) (fun c20 => ?_) (fun c20 => ?_)
      · have hf := ite_f hf c20
        exact w6_order_b63 C hR ih _ _ _ _ _ _ _ hf hz (lv_sub hl [0, 1, 2, 3] rfl)
      · have hf := ite_t hf c20
        refine lv_iload_n hx hb dX6_order_40 rfl (lv_at hl 3 rfl) ?_
        obtain ⟨r23, g22, hc21, hf⟩ := bd2_elim hf
        refine z_SI (As := [.int x3]) (rest := []) C (c6_ones hc21) lk_RX6_176 ⟨rfl, rfl, Nat.le_of_ble_eq_true rfl, Nat.le_of_ble_eq_true rfl⟩ ⟨Nat.zero_le _, Nat.zero_le _⟩ rfl (Nat.le_of_ble_eq_true rfl) rfl hl.1 dX6_order_41 hz (fun H locs hz => ?_)
        refine lv_iload_n hx hb dX6_order_44 rfl (lv_at hl 2 rfl) ?_
        obtain ⟨r26, g25, hc24, hf⟩ := bd2_elim hf
        refine z_SI (As := [.int x2]) (rest := [.int r23]) C (c6_ones hc24) lk_RX6_176 ⟨rfl, rfl, Nat.le_of_ble_eq_true rfl, Nat.le_of_ble_eq_true rfl⟩ ⟨Nat.zero_le _, Nat.zero_le _⟩ rfl (Nat.le_of_ble_eq_true rfl) rfl hl.1 dX6_order_45 hz (fun H locs hz => ?_)
        refine lv_icmp_le (tgt := 63) hx hb dX6_order_48 (by decide) (fun c27 => ?_) (fun c27 => ?_)
        · have hf := ite_t hf c27
          exact w6_order_b63 C hR ih _ _ _ _ _ _ _ hf hz (lv_sub hl [0, 1, 2, 3] rfl)
        · have hf := ite_f hf c27
          refine lv_aload_n hx hb dX6_order_51 rfl (lv_at hl 0 rfl) ?_
          refine lv_iload_n hx hb dX6_order_52 rfl (lv_at hl 3 rfl) ?_
          obtain ⟨r30, g29, hc28, hf⟩ := bd2_elim hf
          refine z_VI (As := [.int x3]) (rest := []) C (c6_canOrder hc28) lk_RX6_191 ⟨rfl, rfl, Nat.le_of_ble_eq_true rfl, Nat.le_of_ble_eq_true rfl⟩ ⟨Nat.zero_le _, Nat.zero_le _⟩ o_model rfl rfl (Nat.le_of_ble_eq_true rfl) rfl hl.1 dX6_order_53 hz (fun H locs hz => ?_)
          refine lv_if_eq (tgt := 63) hx hb dX6_order_56 (by decide) (fun c31 => ?_) (fun c31 => ?_)
          · have hf := ite_t hf c31
            exact w6_order_b63 C hR ih _ _ _ _ _ _ _ hf hz (lv_sub hl [0, 1, 2, 3] rfl)
          · have hf := ite_f hf c31
            refine lv_iload_n hx hb dX6_order_59 rfl (lv_at hl 3 rfl) ?_
            refine lv_goto (tgt := 64) hx hb dX6_order_60 (by decide) ?_
            exact w6_order_b64 C hR ih _ _ _ _ _ _ _ hf hz (lv_sub hl [0, 1, 3] rfl)
set_option maxHeartbeats 4000000 in
set_option maxRecDepth 100000 in
theorem w6_order_b0 {res : Int32 × Sg} (C : Cx p m c cX6_order 5 s args RX6 D (tyL cI cZ cB)) (hR : EndI p l e rm6_order s m args below meth c Q D (wM cI cZ h) A cX6_order res) : ∀ (x1 : Int32) (g : Sg) (H : Heap) (locs : List Loc) (ls : Array Slot), f6_order x1 g = some res → Zs D (wM cI cZ h) A s.heap H locs g → lv_has ls 5 [(0, .ref (h 0)), (1, .int x1)] → W p l e rm6_order s m args below meth c H locs 0 0 Q (F0 m 0 ls []) := by
  have hx := C.1.1
  have hb := C.1.2.1
  intro x1 g H locs ls hf hz hl
  unfold f6_order at hf
  refine lv_aload_n hx hb dX6_order_0 rfl (lv_at hl 0 rfl) ?_
  refine lv_iconst (v := (0 : Int32)) hx hb dX6_order_1 (by decide) ?_
  obtain ⟨g32, eg32, hf⟩ := nx_elim hf
  refine p_RX6_74_model C hz eg32 dX6_order_2 (fun H locs hz => ?_)
  refine lv_iload_n hx hb dX6_order_5 rfl (lv_at hl 1 rfl) ?_
  refine lv_iconst (v := (-1 : Int32)) hx hb dX6_order_6 (by decide) ?_
  refine lv_bipush (v := (7 : Int32)) hx hb dX6_order_7 (by decide) ?_
  obtain ⟨r35, g34, hc33, hf⟩ := bd2_elim hf
  refine z_SI (As := [.int x1, .int (-1 : Int32), .int (7 : Int32)]) (rest := []) C (c6_in hc33) lk_RX6_78 ⟨rfl, rfl, Nat.le_of_ble_eq_true rfl, Nat.le_of_ble_eq_true rfl⟩ ⟨Nat.zero_le _, Nat.zero_le _⟩ rfl (Nat.le_of_ble_eq_true rfl) rfl hl.1 dX6_order_9 hz (fun H locs hz => ?_)
  refine lv_if_ne (tgt := 17) hx hb dX6_order_12 (by decide) (fun c36 => ?_) (fun c36 => ?_)
  · have hf := ite_f hf c36
    refine lv_iconst (v := (0 : Int32)) hx hb dX6_order_17 (by decide) ?_
    refine lv_istore_n (lv' := [(2, .int (0 : Int32)), (0, .ref (h 0)), (1, .int x1)]) hx hb dX6_order_18 rfl hl (by decide) rfl (fun ls hl => ?_)
    refine lv_iconst (v := (0 : Int32)) hx hb dX6_order_19 (by decide) ?_
    refine lv_istore_n (lv' := [(3, .int (0 : Int32)), (2, .int (0 : Int32)), (0, .ref (h 0)), (1, .int x1)]) hx hb dX6_order_20 rfl hl (by decide) rfl (fun ls hl => ?_)
    exact w6_order_b21 C hR 1000 _ _ _ _ _ _ _ hf hz (lv_sub hl [2, 3, 1, 0] rfl)
  · have hf := ite_t hf c36
    refine lv_iconst (v := (-1 : Int32)) hx hb dX6_order_15 (by decide) ?_
    exact hR _ _ _ _ _ _ (Option.some.inj hf) hz dX6_order_16
set_option maxHeartbeats 4000000 in
set_option maxRecDepth 100000 in
theorem c6_order {l : Launch} {D : va_G} {cI cZ cB : ClassId} {h : Nat → Nat} {x1 : Int32} {g : Sg} {r : Int32} {g1 : Sg} (hf : f6_order x1 g = some (r, g1)) : KI l D (tyL cI cZ cB) (wM cI cZ h) yX6_order cX6_order 5 (some .int) rm6_order [.ref (h 0), .int x1] g r g1 := by
  refine KI_mk (own := RX6) (by decide +kernel) rfl (Nat.le_of_ble_eq_true rfl) ?_
  intro p e s m below meth c A Q ls C hR hz hl
  have hl : lv_has ls 5 [(0, .ref (h 0)), (1, .int x1)] := hl
  exact w6_order_b0 C hR _ _ _ _ _ hf hz hl
abbrev rm6_staysFor : Room := { frames := 1, cells := 0, slots := 0, locals := 23 }
set_option maxHeartbeats 4000000 in
set_option maxRecDepth 100000 in
theorem w6_staysFor_b70 {res : Int32 × Sg} {k48 : Int32 → Int32 → Int32 → Sg → Option (Int32 × Sg)} (C : Cx p m c cX6_staysFor 5 s args RX6 D (tyL cI cZ cB)) (hR : EndZ p l e rm6_staysFor s m args below meth c Q D (wM cI cZ h) A cX6_staysFor res) (hk48 : ∀ (x2 : Int32) (x3 : Int32) (x4 : Int32) (g : Sg) (H : Heap) (locs : List Loc) (ls : Array Slot), k48 x2 x3 x4 g = some res → Zs D (wM cI cZ h) A s.heap H locs g → lv_has ls 5 [(0, .ref (h 0)), (2, .int x2), (3, .int x3), (4, .int x4)] → W p l e rm6_staysFor s m args below meth c H locs 0 0 Q (F0 m 48 ls [])) : ∀ (x2 : Int32) (x4 : Int32) (y0 : Int32) (g : Sg) (H : Heap) (locs : List Loc) (ls : Array Slot), f6_staysFor_b70 k48 x2 x4 y0 g = some res → Zs D (wM cI cZ h) A s.heap H locs g → lv_has ls 5 [(0, .ref (h 0)), (2, .int x2), (4, .int x4)] → W p l e rm6_staysFor s m args below meth c H locs 0 0 Q (F0 m 70 ls [.int y0]) := by
  have hx := C.1.1
  have hb := C.1.2.1
  intro x2 x4 y0 g H locs ls hf hz hl
  unfold f6_staysFor_b70 at hf
  refine lv_istore_n (lv' := [(3, .int y0), (0, .ref (h 0)), (2, .int x2), (4, .int x4)]) hx hb dX6_staysFor_70 rfl hl (by decide) rfl (fun ls hl => ?_)
  obtain ⟨v1, ev1, hf⟩ := nx_elim hf
  refine lv_iinc (v := v1) (lv' := [(4, .int v1), (3, .int y0), (0, .ref (h 0)), (2, .int x2)]) hx hb dX6_staysFor_71 hl (k := 3) rfl (by rw [ev1]; rfl) (by decide) rfl (fun ls hl => ?_)
  refine lv_goto (tgt := 48) hx hb dX6_staysFor_74 (by decide) ?_
  exact hk48 _ _ _ _ _ _ _ hf hz (lv_sub hl [2, 3, 1, 0] rfl)
set_option maxHeartbeats 4000000 in
set_option maxRecDepth 100000 in
theorem w6_staysFor_b48 {res : Int32 × Sg} (C : Cx p m c cX6_staysFor 5 s args RX6 D (tyL cI cZ cB)) (hR : EndZ p l e rm6_staysFor s m args below meth c Q D (wM cI cZ h) A cX6_staysFor res) : ∀ n : Nat, ∀ (x2 : Int32) (x3 : Int32) (x4 : Int32) (g : Sg) (H : Heap) (locs : List Loc) (ls : Array Slot), f6_staysFor_b48 n x2 x3 x4 g = some res → Zs D (wM cI cZ h) A s.heap H locs g → lv_has ls 5 [(0, .ref (h 0)), (2, .int x2), (3, .int x3), (4, .int x4)] → W p l e rm6_staysFor s m args below meth c H locs 0 0 Q (F0 m 48 ls []) := by
  have hx := C.1.1
  have hb := C.1.2.1
  intro n
  induction n with
  | zero =>
    intro x2 x3 x4 g H locs ls hf hz hl
    cases hf
  | succ n ih =>
    intro x2 x3 x4 g H locs ls hf hz hl
    rw [f6_staysFor_b48] at hf
    refine lv_iload hx hb dX6_staysFor_48 (lv_at hl 3 rfl) ?_
    refine lv_iload_n hx hb dX6_staysFor_50 rfl (lv_at hl 1 rfl) ?_
    refine lv_icmp_ge (tgt := 77) hx hb dX6_staysFor_51 (by decide) (fun c2 => ?_) (fun c2 => ?_)
    · have hf := ite_t hf c2
      refine lv_iload_n hx hb dX6_staysFor_77 rfl (lv_at hl 2 rfl) ?_
      exact hR _ _ _ _ _ _ hf hz dX6_staysFor_78
    · have hf := ite_f hf c2
      refine lv_iload_n hx hb dX6_staysFor_54 rfl (lv_at hl 2 rfl) ?_
      refine lv_if_eq (tgt := 77) hx hb dX6_staysFor_55 (by decide) (fun c3 => ?_) (fun c3 => ?_)
      · have hf := ite_t hf c3
        refine lv_iload_n hx hb dX6_staysFor_77 rfl (lv_at hl 2 rfl) ?_
        exact hR _ _ _ _ _ _ hf hz dX6_staysFor_78
      · have hf := ite_f hf c3
        refine lv_aload_n hx hb dX6_staysFor_58 rfl (lv_at hl 0 rfl) ?_
        obtain ⟨r6, g5, hc4, hf⟩ := bd2_elim hf
        refine z_VI (As := []) (rest := []) C (c6_slidesOf hc4) lk_RX6_157 ⟨rfl, rfl, Nat.le_of_ble_eq_true rfl, Nat.le_of_ble_eq_true rfl⟩ ⟨Nat.zero_le _, Nat.zero_le _⟩ o_model rfl rfl (Nat.le_of_ble_eq_true rfl) rfl hl.1 dX6_staysFor_59 hz (fun H locs hz => ?_)
        refine lv_if_ne (tgt := 69) hx hb dX6_staysFor_62 (by decide) (fun c7 => ?_) (fun c7 => ?_)
        · have hf := ite_f hf c7
          refine lv_iconst (v := (0 : Int32)) hx hb dX6_staysFor_69 (by decide) ?_
          exact w6_staysFor_b70 C hR ih _ _ _ _ _ _ _ hf hz (lv_sub hl [0, 1, 3] rfl)
        · have hf := ite_t hf c7
          refine lv_iconst (v := (1 : Int32)) hx hb dX6_staysFor_65 (by decide) ?_
          refine lv_goto (tgt := 70) hx hb dX6_staysFor_66 (by decide) ?_
          exact w6_staysFor_b70 C hR ih _ _ _ _ _ _ _ hf hz (lv_sub hl [0, 1, 3] rfl)
set_option maxHeartbeats 4000000 in
set_option maxRecDepth 100000 in
theorem w6_staysFor_b36 {res : Int32 × Sg} {k6 : Int32 → Int32 → Int32 → Sg → Option (Int32 × Sg)} (C : Cx p m c cX6_staysFor 5 s args RX6 D (tyL cI cZ cB)) (hR : EndZ p l e rm6_staysFor s m args below meth c Q D (wM cI cZ h) A cX6_staysFor res) (hk6 : ∀ (x1 : Int32) (x2 : Int32) (x3 : Int32) (g : Sg) (H : Heap) (locs : List Loc) (ls : Array Slot), k6 x1 x2 x3 g = some res → Zs D (wM cI cZ h) A s.heap H locs g → lv_has ls 5 [(0, .ref (h 0)), (1, .int x1), (2, .int x2), (3, .int x3)] → W p l e rm6_staysFor s m args below meth c H locs 0 0 Q (F0 m 6 ls [])) : ∀ (x1 : Int32) (x2 : Int32) (x3 : Int32) (y0 : Int32) (y1 : Int32) (g : Sg) (H : Heap) (locs : List Loc) (ls : Array Slot), f6_staysFor_b36 k6 x1 x2 x3 y0 y1 g = some res → Zs D (wM cI cZ h) A s.heap H locs g → lv_has ls 5 [(0, .ref (h 0)), (1, .int x1), (2, .int x2), (3, .int x3)] → W p l e rm6_staysFor s m args below meth c H locs 0 0 Q (F0 m 36 ls [.int y0, .int y1, .ref (h 28)]) := by
  have hx := C.1.1
  have hb := C.1.2.1
  intro x1 x2 x3 y0 y1 g H locs ls hf hz hl
  unfold f6_staysFor_b36 at hf
  obtain ⟨c8, hf⟩ := ix_elim hf
  obtain ⟨g9, eg9, hf⟩ := nx_elim hf
  refine z_iast C hz a_m_wet c8 eg9 dX6_staysFor_36 (fun H locs hz => ?_)
  obtain ⟨v10, ev10, hf⟩ := nx_elim hf
  refine lv_iinc (v := v10) (lv' := [(3, .int v10), (0, .ref (h 0)), (1, .int x1), (2, .int x2)]) hx hb dX6_staysFor_37 hl (k := 3) rfl (by rw [ev10]; rfl) (by decide) rfl (fun ls hl => ?_)
  refine lv_goto (tgt := 6) hx hb dX6_staysFor_40 (by decide) ?_
  exact hk6 _ _ _ _ _ _ _ hf hz (lv_sub hl [1, 2, 3, 0] rfl)
set_option maxHeartbeats 4000000 in
set_option maxRecDepth 100000 in
theorem w6_staysFor_b6 {res : Int32 × Sg} (C : Cx p m c cX6_staysFor 5 s args RX6 D (tyL cI cZ cB)) (hR : EndZ p l e rm6_staysFor s m args below meth c Q D (wM cI cZ h) A cX6_staysFor res) : ∀ n : Nat, ∀ (x1 : Int32) (x2 : Int32) (x3 : Int32) (g : Sg) (H : Heap) (locs : List Loc) (ls : Array Slot), f6_staysFor_b6 n x1 x2 x3 g = some res → Zs D (wM cI cZ h) A s.heap H locs g → lv_has ls 5 [(0, .ref (h 0)), (1, .int x1), (2, .int x2), (3, .int x3)] → W p l e rm6_staysFor s m args below meth c H locs 0 0 Q (F0 m 6 ls []) := by
  have hx := C.1.1
  have hb := C.1.2.1
  intro n
  induction n with
  | zero =>
    intro x1 x2 x3 g H locs ls hf hz hl
    cases hf
  | succ n ih =>
    intro x1 x2 x3 g H locs ls hf hz hl
    rw [f6_staysFor_b6] at hf
    refine lv_iload_n hx hb dX6_staysFor_6 rfl (lv_at hl 3 rfl) ?_
    refine lv_bipush (v := (6 : Int32)) hx hb dX6_staysFor_7 (by decide) ?_
    refine lv_icmp_ge (tgt := 43) hx hb dX6_staysFor_9 (by decide) (fun c11 => ?_) (fun c11 => ?_)
    · have hf := ite_t hf c11
      refine lv_iconst (v := (1 : Int32)) hx hb dX6_staysFor_43 (by decide) ?_
      refine lv_istore_n (lv' := [(3, .int (1 : Int32)), (0, .ref (h 0)), (1, .int x1), (2, .int x2)]) hx hb dX6_staysFor_44 rfl hl (by decide) rfl (fun ls hl => ?_)
      refine lv_iconst (v := (0 : Int32)) hx hb dX6_staysFor_45 (by decide) ?_
      refine lv_istore (lv' := [(4, .int (0 : Int32)), (3, .int (1 : Int32)), (0, .ref (h 0)), (1, .int x1), (2, .int x2)]) hx hb dX6_staysFor_46 hl (by decide) rfl (fun ls hl => ?_)
      exact w6_staysFor_b48 C hR 1000 _ _ _ _ _ _ _ hf hz (lv_sub hl [2, 4, 1, 0] rfl)
    · have hf := ite_f hf c11
      refine lv_aload_n hx hb dX6_staysFor_12 rfl (lv_at hl 0 rfl) ?_
      refine g_RX6_62_model C hz dX6_staysFor_13 ?_
      refine lv_iload_n hx hb dX6_staysFor_16 rfl (lv_at hl 3 rfl) ?_
      refine lv_iload_n hx hb dX6_staysFor_17 rfl (lv_at hl 1 rfl) ?_
      refine lv_iload_n hx hb dX6_staysFor_18 rfl (lv_at hl 3 rfl) ?_
      refine lv_ishr hx hb dX6_staysFor_19 ?_
      refine lv_iconst (v := (1 : Int32)) hx hb dX6_staysFor_20 (by decide) ?_
      refine lv_iand hx hb dX6_staysFor_21 ?_
      refine lv_iconst (v := (1 : Int32)) hx hb dX6_staysFor_22 (by decide) ?_
      refine lv_icmp_ne (tgt := 30) hx hb dX6_staysFor_23 (by decide) (fun c12 => ?_) (fun c12 => ?_)
      · have hf := ite_f hf c12
        refine lv_aload_n hx hb dX6_staysFor_30 rfl (lv_at hl 0 rfl) ?_
        refine g_RX6_62_model C hz dX6_staysFor_31 ?_
        refine lv_iload_n hx hb dX6_staysFor_34 rfl (lv_at hl 3 rfl) ?_
        obtain ⟨c13, hf⟩ := ix_elim hf
        refine z_iald C hz a_m_wet c13 dX6_staysFor_35 ?_
        exact w6_staysFor_b36 C hR ih _ _ _ _ _ _ _ _ _ hf hz (lv_sub hl [0, 1, 2, 3] rfl)
      · have hf := ite_t hf c12
        refine lv_iconst (v := (0 : Int32)) hx hb dX6_staysFor_26 (by decide) ?_
        refine lv_goto (tgt := 36) hx hb dX6_staysFor_27 (by decide) ?_
        exact w6_staysFor_b36 C hR ih _ _ _ _ _ _ _ _ _ hf hz (lv_sub hl [0, 1, 2, 3] rfl)
set_option maxHeartbeats 4000000 in
set_option maxRecDepth 100000 in
theorem w6_staysFor_b0 {res : Int32 × Sg} (C : Cx p m c cX6_staysFor 5 s args RX6 D (tyL cI cZ cB)) (hR : EndZ p l e rm6_staysFor s m args below meth c Q D (wM cI cZ h) A cX6_staysFor res) : ∀ (x1 : Int32) (x2 : Int32) (g : Sg) (H : Heap) (locs : List Loc) (ls : Array Slot), f6_staysFor x1 x2 g = some res → Zs D (wM cI cZ h) A s.heap H locs g → lv_has ls 5 [(0, .ref (h 0)), (1, .int x1), (2, .int x2)] → W p l e rm6_staysFor s m args below meth c H locs 0 0 Q (F0 m 0 ls []) := by
  have hx := C.1.1
  have hb := C.1.2.1
  intro x1 x2 g H locs ls hf hz hl
  unfold f6_staysFor at hf
  refine lv_aload_n hx hb dX6_staysFor_0 rfl (lv_at hl 0 rfl) ?_
  obtain ⟨g15, hc14, hf⟩ := bd_elim hf
  refine z_VV (As := []) (rest := []) C (c6_wetNow hc14) lk_RX6_154 ⟨rfl, rfl, Nat.le_of_ble_eq_true rfl, Nat.le_of_ble_eq_true rfl⟩ ⟨Nat.zero_le _, Nat.zero_le _⟩ o_model rfl rfl (Nat.le_of_ble_eq_true rfl) rfl hl.1 dX6_staysFor_1 hz (fun H locs hz => ?_)
  refine lv_iconst (v := (0 : Int32)) hx hb dX6_staysFor_4 (by decide) ?_
  refine lv_istore_n (lv' := [(3, .int (0 : Int32)), (0, .ref (h 0)), (1, .int x1), (2, .int x2)]) hx hb dX6_staysFor_5 rfl hl (by decide) rfl (fun ls hl => ?_)
  exact w6_staysFor_b6 C hR 1000 _ _ _ _ _ _ _ hf hz (lv_sub hl [1, 2, 3, 0] rfl)
set_option maxHeartbeats 4000000 in
set_option maxRecDepth 100000 in
theorem c6_staysFor {l : Launch} {D : va_G} {cI cZ cB : ClassId} {h : Nat → Nat} {x1 : Int32} {x2 : Int32} {g : Sg} {r : Int32} {g1 : Sg} (hf : f6_staysFor x1 x2 g = some (r, g1)) : KI l D (tyL cI cZ cB) (wM cI cZ h) yX6_staysFor cX6_staysFor 5 (some .boolean) rm6_staysFor [.ref (h 0), .int x1, .int x2] g r g1 := by
  refine KZ_mk (own := RX6) (by decide +kernel) rfl (Nat.le_of_ble_eq_true rfl) ?_
  intro p e s m below meth c A Q ls C hR hz hl
  have hl : lv_has ls 5 [(0, .ref (h 0)), (1, .int x1), (2, .int x2)] := hl
  exact w6_staysFor_b0 C hR _ _ _ _ _ _ hf hz hl
abbrev rm6_drain : Room := { frames := 2, cells := 0, slots := 0, locals := 47 }
set_option maxHeartbeats 4000000 in
set_option maxRecDepth 100000 in
theorem w6_drain_b58 {res : Int32 × Sg} {k23 : Int32 → Int32 → Int32 → Sg → Option (Int32 × Sg)} (C : Cx p m c cX6_drain 4 s args RX6 D (tyL cI cZ cB)) (hR : EndI p l e rm6_drain s m args below meth c Q D (wM cI cZ h) A cX6_drain res) (hk23 : ∀ (x1 : Int32) (x2 : Int32) (x3 : Int32) (g : Sg) (H : Heap) (locs : List Loc) (ls : Array Slot), k23 x1 x2 x3 g = some res → Zs D (wM cI cZ h) A s.heap H locs g → lv_has ls 4 [(0, .ref (h 0)), (1, .int x1), (2, .int x2), (3, .int x3)] → W p l e rm6_drain s m args below meth c H locs 0 0 Q (F0 m 23 ls [])) : ∀ (x1 : Int32) (x3 : Int32) (y0 : Int32) (g : Sg) (H : Heap) (locs : List Loc) (ls : Array Slot), f6_drain_b58 k23 x1 x3 y0 g = some res → Zs D (wM cI cZ h) A s.heap H locs g → lv_has ls 4 [(0, .ref (h 0)), (1, .int x1), (3, .int x3)] → W p l e rm6_drain s m args below meth c H locs 0 0 Q (F0 m 58 ls [.int y0]) := by
  have hx := C.1.1
  have hb := C.1.2.1
  intro x1 x3 y0 g H locs ls hf hz hl
  unfold f6_drain_b58 at hf
  refine lv_istore_n (lv' := [(2, .int y0), (0, .ref (h 0)), (1, .int x1), (3, .int x3)]) hx hb dX6_drain_58 rfl hl (by decide) rfl (fun ls hl => ?_)
  obtain ⟨v1, ev1, hf⟩ := nx_elim hf
  refine lv_iinc (v := v1) (lv' := [(3, .int v1), (2, .int y0), (0, .ref (h 0)), (1, .int x1)]) hx hb dX6_drain_59 hl (k := 3) rfl (by rw [ev1]; rfl) (by decide) rfl (fun ls hl => ?_)
  refine lv_goto (tgt := 23) hx hb dX6_drain_62 (by decide) ?_
  exact hk23 _ _ _ _ _ _ _ hf hz (lv_sub hl [2, 3, 1, 0] rfl)
set_option maxHeartbeats 4000000 in
set_option maxRecDepth 100000 in
theorem w6_drain_b57 {res : Int32 × Sg} {k23 : Int32 → Int32 → Int32 → Sg → Option (Int32 × Sg)} (C : Cx p m c cX6_drain 4 s args RX6 D (tyL cI cZ cB)) (hR : EndI p l e rm6_drain s m args below meth c Q D (wM cI cZ h) A cX6_drain res) (hk23 : ∀ (x1 : Int32) (x2 : Int32) (x3 : Int32) (g : Sg) (H : Heap) (locs : List Loc) (ls : Array Slot), k23 x1 x2 x3 g = some res → Zs D (wM cI cZ h) A s.heap H locs g → lv_has ls 4 [(0, .ref (h 0)), (1, .int x1), (2, .int x2), (3, .int x3)] → W p l e rm6_drain s m args below meth c H locs 0 0 Q (F0 m 23 ls [])) : ∀ (x1 : Int32) (x2 : Int32) (x3 : Int32) (g : Sg) (H : Heap) (locs : List Loc) (ls : Array Slot), f6_drain_b57 k23 x1 x2 x3 g = some res → Zs D (wM cI cZ h) A s.heap H locs g → lv_has ls 4 [(0, .ref (h 0)), (1, .int x1), (2, .int x2), (3, .int x3)] → W p l e rm6_drain s m args below meth c H locs 0 0 Q (F0 m 57 ls []) := by
  have hx := C.1.1
  have hb := C.1.2.1
  intro x1 x2 x3 g H locs ls hf hz hl
  unfold f6_drain_b57 at hf
  refine lv_iload_n hx hb dX6_drain_57 rfl (lv_at hl 2 rfl) ?_
  exact w6_drain_b58 C hR hk23 _ _ _ _ _ _ _ hf hz (lv_sub hl [0, 1, 3] rfl)
set_option maxHeartbeats 4000000 in
set_option maxRecDepth 100000 in
theorem w6_drain_b44 {res : Int32 × Sg} {k23 : Int32 → Int32 → Int32 → Sg → Option (Int32 × Sg)} (C : Cx p m c cX6_drain 4 s args RX6 D (tyL cI cZ cB)) (hR : EndI p l e rm6_drain s m args below meth c Q D (wM cI cZ h) A cX6_drain res) (hk23 : ∀ (x1 : Int32) (x2 : Int32) (x3 : Int32) (g : Sg) (H : Heap) (locs : List Loc) (ls : Array Slot), k23 x1 x2 x3 g = some res → Zs D (wM cI cZ h) A s.heap H locs g → lv_has ls 4 [(0, .ref (h 0)), (1, .int x1), (2, .int x2), (3, .int x3)] → W p l e rm6_drain s m args below meth c H locs 0 0 Q (F0 m 23 ls [])) : ∀ (x1 : Int32) (x2 : Int32) (x3 : Int32) (g : Sg) (H : Heap) (locs : List Loc) (ls : Array Slot), f6_drain_b44 k23 x1 x2 x3 g = some res → Zs D (wM cI cZ h) A s.heap H locs g → lv_has ls 4 [(0, .ref (h 0)), (1, .int x1), (2, .int x2), (3, .int x3)] → W p l e rm6_drain s m args below meth c H locs 0 0 Q (F0 m 44 ls []) := by
  have hx := C.1.1
  have hb := C.1.2.1
  intro x1 x2 x3 g H locs ls hf hz hl
  unfold f6_drain_b44 at hf
  refine lv_aload_n hx hb dX6_drain_44 rfl (lv_at hl 0 rfl) ?_
  refine lv_iload_n hx hb dX6_drain_45 rfl (lv_at hl 3 rfl) ?_
  refine lv_iload_n hx hb dX6_drain_46 rfl (lv_at hl 1 rfl) ?_
  obtain ⟨r4, g3, hc2, hf⟩ := bd2_elim hf
  refine z_VI (As := [.int x3, .int x1]) (rest := []) C (c6_staysFor hc2) lk_RX6_194 ⟨rfl, rfl, Nat.le_of_ble_eq_true rfl, Nat.le_of_ble_eq_true rfl⟩ ⟨Nat.zero_le _, Nat.zero_le _⟩ o_model rfl rfl (Nat.le_of_ble_eq_true rfl) rfl hl.1 dX6_drain_47 hz (fun H locs hz => ?_)
  refine lv_if_eq (tgt := 57) hx hb dX6_drain_50 (by decide) (fun c5 => ?_) (fun c5 => ?_)
  · have hf := ite_t hf c5
    exact w6_drain_b57 C hR hk23 _ _ _ _ _ _ _ hf hz (lv_sub hl [0, 1, 2, 3] rfl)
  · have hf := ite_f hf c5
    refine lv_iload_n hx hb dX6_drain_53 rfl (lv_at hl 3 rfl) ?_
    refine lv_goto (tgt := 58) hx hb dX6_drain_54 (by decide) ?_
    exact w6_drain_b58 C hR hk23 _ _ _ _ _ _ _ hf hz (lv_sub hl [0, 1, 3] rfl)
set_option maxHeartbeats 4000000 in
set_option maxRecDepth 100000 in
theorem w6_drain_b23 {res : Int32 × Sg} (C : Cx p m c cX6_drain 4 s args RX6 D (tyL cI cZ cB)) (hR : EndI p l e rm6_drain s m args below meth c Q D (wM cI cZ h) A cX6_drain res) : ∀ n : Nat, ∀ (x1 : Int32) (x2 : Int32) (x3 : Int32) (g : Sg) (H : Heap) (locs : List Loc) (ls : Array Slot), f6_drain_b23 n x1 x2 x3 g = some res → Zs D (wM cI cZ h) A s.heap H locs g → lv_has ls 4 [(0, .ref (h 0)), (1, .int x1), (2, .int x2), (3, .int x3)] → W p l e rm6_drain s m args below meth c H locs 0 0 Q (F0 m 23 ls []) := by
  have hx := C.1.1
  have hb := C.1.2.1
  intro n
  induction n with
  | zero =>
    intro x1 x2 x3 g H locs ls hf hz hl
    cases hf
  | succ n ih =>
    intro x1 x2 x3 g H locs ls hf hz hl
    rw [f6_drain_b23] at hf
    refine lv_iload_n hx hb dX6_drain_23 rfl (lv_at hl 3 rfl) ?_
    refine lv_if_lt (tgt := 65) hx hb dX6_drain_24 (by decide) (fun c6 => ?_) (fun c6 => ?_)
    · have hf := ite_t hf c6
      refine lv_iload_n hx hb dX6_drain_65 rfl (lv_at hl 2 rfl) ?_
      exact hR _ _ _ _ _ _ (Option.some.inj hf) hz dX6_drain_66
    · have hf := ite_f hf c6
      refine lv_iload_n hx hb dX6_drain_27 rfl (lv_at hl 2 rfl) ?_
      refine lv_bipush (v := (-9 : Int32)) hx hb dX6_drain_28 (by decide) ?_
      refine lv_icmp_eq (tgt := 44) hx hb dX6_drain_30 (by decide) (fun c7 => ?_) (fun c7 => ?_)
      · have hf := ite_t hf c7
        exact w6_drain_b44 C hR ih _ _ _ _ _ _ _ hf hz (lv_sub hl [0, 1, 2, 3] rfl)
      · have hf := ite_f hf c7
        refine lv_iload_n hx hb dX6_drain_33 rfl (lv_at hl 3 rfl) ?_
        obtain ⟨r10, g9, hc8, hf⟩ := bd2_elim hf
        refine z_SI (As := [.int x3]) (rest := []) C (c6_ones hc8) lk_RX6_176 ⟨rfl, rfl, Nat.le_of_ble_eq_true rfl, Nat.le_of_ble_eq_true rfl⟩ ⟨Nat.zero_le _, Nat.zero_le _⟩ rfl (Nat.le_of_ble_eq_true rfl) rfl hl.1 dX6_drain_34 hz (fun H locs hz => ?_)
        refine lv_iload_n hx hb dX6_drain_37 rfl (lv_at hl 2 rfl) ?_
        obtain ⟨r13, g12, hc11, hf⟩ := bd2_elim hf
        refine z_SI (As := [.int x2]) (rest := [.int r10]) C (c6_ones hc11) lk_RX6_176 ⟨rfl, rfl, Nat.le_of_ble_eq_true rfl, Nat.le_of_ble_eq_true rfl⟩ ⟨Nat.zero_le _, Nat.zero_le _⟩ rfl (Nat.le_of_ble_eq_true rfl) rfl hl.1 dX6_drain_38 hz (fun H locs hz => ?_)
        refine lv_icmp_gt (tgt := 57) hx hb dX6_drain_41 (by decide) (fun c14 => ?_) (fun c14 => ?_)
        · have hf := ite_t hf c14
          exact w6_drain_b57 C hR ih _ _ _ _ _ _ _ hf hz (lv_sub hl [0, 1, 2, 3] rfl)
        · have hf := ite_f hf c14
          exact w6_drain_b44 C hR ih _ _ _ _ _ _ _ hf hz (lv_sub hl [0, 1, 2, 3] rfl)
set_option maxHeartbeats 4000000 in
set_option maxRecDepth 100000 in
theorem w6_drain_b0 {res : Int32 × Sg} (C : Cx p m c cX6_drain 4 s args RX6 D (tyL cI cZ cB)) (hR : EndI p l e rm6_drain s m args below meth c Q D (wM cI cZ h) A cX6_drain res) : ∀ (x1 : Int32) (g : Sg) (H : Heap) (locs : List Loc) (ls : Array Slot), f6_drain x1 g = some res → Zs D (wM cI cZ h) A s.heap H locs g → lv_has ls 4 [(0, .ref (h 0)), (1, .int x1)] → W p l e rm6_drain s m args below meth c H locs 0 0 Q (F0 m 0 ls []) := by
  have hx := C.1.1
  have hb := C.1.2.1
  intro x1 g H locs ls hf hz hl
  unfold f6_drain at hf
  refine lv_aload_n hx hb dX6_drain_0 rfl (lv_at hl 0 rfl) ?_
  refine lv_iconst (v := (0 : Int32)) hx hb dX6_drain_1 (by decide) ?_
  obtain ⟨g15, eg15, hf⟩ := nx_elim hf
  refine p_RX6_74_model C hz eg15 dX6_drain_2 (fun H locs hz => ?_)
  refine lv_iload_n hx hb dX6_drain_5 rfl (lv_at hl 1 rfl) ?_
  refine lv_iconst (v := (0 : Int32)) hx hb dX6_drain_6 (by decide) ?_
  refine lv_bipush (v := (20 : Int32)) hx hb dX6_drain_7 (by decide) ?_
  obtain ⟨r18, g17, hc16, hf⟩ := bd2_elim hf
  refine z_SI (As := [.int x1, .int (0 : Int32), .int (20 : Int32)]) (rest := []) C (c6_in hc16) lk_RX6_78 ⟨rfl, rfl, Nat.le_of_ble_eq_true rfl, Nat.le_of_ble_eq_true rfl⟩ ⟨Nat.zero_le _, Nat.zero_le _⟩ rfl (Nat.le_of_ble_eq_true rfl) rfl hl.1 dX6_drain_9 hz (fun H locs hz => ?_)
  refine lv_if_ne (tgt := 17) hx hb dX6_drain_12 (by decide) (fun c19 => ?_) (fun c19 => ?_)
  · have hf := ite_f hf c19
    refine lv_bipush (v := (-9 : Int32)) hx hb dX6_drain_17 (by decide) ?_
    refine lv_istore_n (lv' := [(2, .int (-9 : Int32)), (0, .ref (h 0)), (1, .int x1)]) hx hb dX6_drain_19 rfl hl (by decide) rfl (fun ls hl => ?_)
    refine lv_bipush (v := (63 : Int32)) hx hb dX6_drain_20 (by decide) ?_
    refine lv_istore_n (lv' := [(3, .int (63 : Int32)), (2, .int (-9 : Int32)), (0, .ref (h 0)), (1, .int x1)]) hx hb dX6_drain_22 rfl hl (by decide) rfl (fun ls hl => ?_)
    exact w6_drain_b23 C hR 1000 _ _ _ _ _ _ _ hf hz (lv_sub hl [2, 3, 1, 0] rfl)
  · have hf := ite_t hf c19
    refine lv_iconst (v := (-1 : Int32)) hx hb dX6_drain_15 (by decide) ?_
    exact hR _ _ _ _ _ _ (Option.some.inj hf) hz dX6_drain_16
set_option maxHeartbeats 4000000 in
set_option maxRecDepth 100000 in
theorem c6_drain {l : Launch} {D : va_G} {cI cZ cB : ClassId} {h : Nat → Nat} {x1 : Int32} {g : Sg} {r : Int32} {g1 : Sg} (hf : f6_drain x1 g = some (r, g1)) : KI l D (tyL cI cZ cB) (wM cI cZ h) yX6_drain cX6_drain 4 (some .int) rm6_drain [.ref (h 0), .int x1] g r g1 := by
  refine KI_mk (own := RX6) (by decide +kernel) rfl (Nat.le_of_ble_eq_true rfl) ?_
  intro p e s m below meth c A Q ls C hR hz hl
  have hl : lv_has ls 4 [(0, .ref (h 0)), (1, .int x1)] := hl
  exact w6_drain_b0 C hR _ _ _ _ _ hf hz hl
abbrev rm6_power : Room := { frames := 0, cells := 0, slots := 0, locals := 0 }
set_option maxHeartbeats 4000000 in
set_option maxRecDepth 100000 in
theorem w6_power_b4 {res : Int32 × Sg} (C : Cx p m c cX6_power 4 s args RX6 D (tyL cI cZ cB)) (hR : EndI p l e rm6_power s m args below meth c Q D (wM cI cZ h) A cX6_power res) : ∀ n : Nat, ∀ (x0 : Int32) (x1 : Int32) (x2 : Int32) (x3 : Int32) (g : Sg) (H : Heap) (locs : List Loc) (ls : Array Slot), f6_power_b4 n x0 x1 x2 x3 g = some res → Zs D (wM cI cZ h) A s.heap H locs g → lv_has ls 4 [(0, .int x0), (1, .int x1), (2, .int x2), (3, .int x3)] → W p l e rm6_power s m args below meth c H locs 0 0 Q (F0 m 4 ls []) := by
  have hx := C.1.1
  have hb := C.1.2.1
  intro n
  induction n with
  | zero =>
    intro x0 x1 x2 x3 g H locs ls hf hz hl
    cases hf
  | succ n ih =>
    intro x0 x1 x2 x3 g H locs ls hf hz hl
    rw [f6_power_b4] at hf
    refine lv_iload_n hx hb dX6_power_4 rfl (lv_at hl 3 rfl) ?_
    refine lv_iload_n hx hb dX6_power_5 rfl (lv_at hl 1 rfl) ?_
    refine lv_icmp_ge (tgt := 19) hx hb dX6_power_6 (by decide) (fun c1 => ?_) (fun c1 => ?_)
    · have hf := ite_t hf c1
      refine lv_iload_n hx hb dX6_power_19 rfl (lv_at hl 2 rfl) ?_
      exact hR _ _ _ _ _ _ (Option.some.inj hf) hz dX6_power_20
    · have hf := ite_f hf c1
      refine lv_iload_n hx hb dX6_power_9 rfl (lv_at hl 2 rfl) ?_
      refine lv_iload_n hx hb dX6_power_10 rfl (lv_at hl 0 rfl) ?_
      refine lv_imul hx hb dX6_power_11 ?_
      obtain ⟨v2, ev2, hf⟩ := nx_elim hf
      refine z_nm ev2 ?_
      refine lv_istore_n (lv' := [(2, .int v2), (0, .int x0), (1, .int x1), (3, .int x3)]) hx hb dX6_power_12 rfl hl (by decide) rfl (fun ls hl => ?_)
      obtain ⟨v3, ev3, hf⟩ := nx_elim hf
      refine lv_iinc (v := v3) (lv' := [(3, .int v3), (2, .int v2), (0, .int x0), (1, .int x1)]) hx hb dX6_power_13 hl (k := 3) rfl (by rw [ev3]; rfl) (by decide) rfl (fun ls hl => ?_)
      refine lv_goto (tgt := 4) hx hb dX6_power_16 (by decide) ?_
      exact ih _ _ _ _ _ _ _ _ hf hz (lv_sub hl [2, 3, 1, 0] rfl)
set_option maxHeartbeats 4000000 in
set_option maxRecDepth 100000 in
theorem w6_power_b0 {res : Int32 × Sg} (C : Cx p m c cX6_power 4 s args RX6 D (tyL cI cZ cB)) (hR : EndI p l e rm6_power s m args below meth c Q D (wM cI cZ h) A cX6_power res) : ∀ (x0 : Int32) (x1 : Int32) (g : Sg) (H : Heap) (locs : List Loc) (ls : Array Slot), f6_power x0 x1 g = some res → Zs D (wM cI cZ h) A s.heap H locs g → lv_has ls 4 [(0, .int x0), (1, .int x1)] → W p l e rm6_power s m args below meth c H locs 0 0 Q (F0 m 0 ls []) := by
  have hx := C.1.1
  have hb := C.1.2.1
  intro x0 x1 g H locs ls hf hz hl
  unfold f6_power at hf
  refine lv_iconst (v := (1 : Int32)) hx hb dX6_power_0 (by decide) ?_
  refine lv_istore_n (lv' := [(2, .int (1 : Int32)), (0, .int x0), (1, .int x1)]) hx hb dX6_power_1 rfl hl (by decide) rfl (fun ls hl => ?_)
  refine lv_iconst (v := (0 : Int32)) hx hb dX6_power_2 (by decide) ?_
  refine lv_istore_n (lv' := [(3, .int (0 : Int32)), (2, .int (1 : Int32)), (0, .int x0), (1, .int x1)]) hx hb dX6_power_3 rfl hl (by decide) rfl (fun ls hl => ?_)
  exact w6_power_b4 C hR 1000 _ _ _ _ _ _ _ _ hf hz (lv_sub hl [2, 3, 1, 0] rfl)
set_option maxHeartbeats 4000000 in
set_option maxRecDepth 100000 in
theorem c6_power {l : Launch} {D : va_G} {cI cZ cB : ClassId} {h : Nat → Nat} {x0 : Int32} {x1 : Int32} {g : Sg} {r : Int32} {g1 : Sg} (hf : f6_power x0 x1 g = some (r, g1)) : KI l D (tyL cI cZ cB) (wM cI cZ h) yX6_power cX6_power 4 (some .int) rm6_power [.int x0, .int x1] g r g1 := by
  refine KI_mk (own := RX6) (by decide +kernel) rfl (Nat.le_of_ble_eq_true rfl) ?_
  intro p e s m below meth c A Q ls C hR hz hl
  have hl : lv_has ls 4 [(0, .int x0), (1, .int x1)] := hl
  exact w6_power_b0 C hR _ _ _ _ _ _ hf hz hl
abbrev rm6_gcd : Room := { frames := 0, cells := 0, slots := 0, locals := 0 }
set_option maxHeartbeats 4000000 in
set_option maxRecDepth 100000 in
theorem w6_gcd_b4 {res : Int32 × Sg} (C : Cx p m c cX6_gcd 5 s args RX6 D (tyL cI cZ cB)) (hR : EndI p l e rm6_gcd s m args below meth c Q D (wM cI cZ h) A cX6_gcd res) : ∀ n : Nat, ∀ (x2 : Int32) (x3 : Int32) (g : Sg) (H : Heap) (locs : List Loc) (ls : Array Slot), f6_gcd_b4 n x2 x3 g = some res → Zs D (wM cI cZ h) A s.heap H locs g → lv_has ls 5 [(2, .int x2), (3, .int x3)] → W p l e rm6_gcd s m args below meth c H locs 0 0 Q (F0 m 4 ls []) := by
  have hx := C.1.1
  have hb := C.1.2.1
  intro n
  induction n with
  | zero =>
    intro x2 x3 g H locs ls hf hz hl
    cases hf
  | succ n ih =>
    intro x2 x3 g H locs ls hf hz hl
    rw [f6_gcd_b4] at hf
    refine lv_iload_n hx hb dX6_gcd_4 rfl (lv_at hl 1 rfl) ?_
    refine lv_if_eq (tgt := 21) hx hb dX6_gcd_5 (by decide) (fun c1 => ?_) (fun c1 => ?_)
    · have hf := ite_t hf c1
      refine lv_iload_n hx hb dX6_gcd_21 rfl (lv_at hl 0 rfl) ?_
      exact hR _ _ _ _ _ _ (Option.some.inj hf) hz dX6_gcd_22
    · have hf := ite_f hf c1
      refine lv_iload_n hx hb dX6_gcd_8 rfl (lv_at hl 0 rfl) ?_
      refine lv_iload_n hx hb dX6_gcd_9 rfl (lv_at hl 1 rfl) ?_
      obtain ⟨c2, hf⟩ := nz_elim hf
      refine lv_irem hx hb dX6_gcd_10 c2 ?_
      obtain ⟨v3, ev3, hf⟩ := nx_elim hf
      refine z_nm ev3 ?_
      refine lv_istore (lv' := [(4, .int v3), (2, .int x2), (3, .int x3)]) hx hb dX6_gcd_11 hl (by decide) rfl (fun ls hl => ?_)
      refine lv_iload_n hx hb dX6_gcd_13 rfl (lv_at hl 2 rfl) ?_
      refine lv_istore_n (lv' := [(2, .int x3), (4, .int v3), (3, .int x3)]) hx hb dX6_gcd_14 rfl hl (by decide) rfl (fun ls hl => ?_)
      refine lv_iload hx hb dX6_gcd_15 (lv_at hl 1 rfl) ?_
      refine lv_istore_n (lv' := [(3, .int v3), (2, .int x3), (4, .int v3)]) hx hb dX6_gcd_17 rfl hl (by decide) rfl (fun ls hl => ?_)
      refine lv_goto (tgt := 4) hx hb dX6_gcd_18 (by decide) ?_
      exact ih _ _ _ _ _ _ hf hz (lv_sub hl [1, 0] rfl)
set_option maxHeartbeats 4000000 in
set_option maxRecDepth 100000 in
theorem w6_gcd_b0 {res : Int32 × Sg} (C : Cx p m c cX6_gcd 5 s args RX6 D (tyL cI cZ cB)) (hR : EndI p l e rm6_gcd s m args below meth c Q D (wM cI cZ h) A cX6_gcd res) : ∀ (x0 : Int32) (x1 : Int32) (g : Sg) (H : Heap) (locs : List Loc) (ls : Array Slot), f6_gcd x0 x1 g = some res → Zs D (wM cI cZ h) A s.heap H locs g → lv_has ls 5 [(0, .int x0), (1, .int x1)] → W p l e rm6_gcd s m args below meth c H locs 0 0 Q (F0 m 0 ls []) := by
  have hx := C.1.1
  have hb := C.1.2.1
  intro x0 x1 g H locs ls hf hz hl
  unfold f6_gcd at hf
  refine lv_iload_n hx hb dX6_gcd_0 rfl (lv_at hl 0 rfl) ?_
  refine lv_istore_n (lv' := [(2, .int x0), (0, .int x0), (1, .int x1)]) hx hb dX6_gcd_1 rfl hl (by decide) rfl (fun ls hl => ?_)
  refine lv_iload_n hx hb dX6_gcd_2 rfl (lv_at hl 2 rfl) ?_
  refine lv_istore_n (lv' := [(3, .int x1), (2, .int x0), (0, .int x0), (1, .int x1)]) hx hb dX6_gcd_3 rfl hl (by decide) rfl (fun ls hl => ?_)
  exact w6_gcd_b4 C hR 1000 _ _ _ _ _ _ hf hz (lv_sub hl [1, 0] rfl)
set_option maxHeartbeats 4000000 in
set_option maxRecDepth 100000 in
theorem c6_gcd {l : Launch} {D : va_G} {cI cZ cB : ClassId} {h : Nat → Nat} {x0 : Int32} {x1 : Int32} {g : Sg} {r : Int32} {g1 : Sg} (hf : f6_gcd x0 x1 g = some (r, g1)) : KI l D (tyL cI cZ cB) (wM cI cZ h) yX6_gcd cX6_gcd 5 (some .int) rm6_gcd [.int x0, .int x1] g r g1 := by
  refine KI_mk (own := RX6) (by decide +kernel) rfl (Nat.le_of_ble_eq_true rfl) ?_
  intro p e s m below meth c A Q ls C hR hz hl
  have hl : lv_has ls 5 [(0, .int x0), (1, .int x1)] := hl
  exact w6_gcd_b0 C hR _ _ _ _ _ _ hf hz hl
abbrev rm6_odds : Room := { frames := 1, cells := 0, slots := 0, locals := 24 }
set_option maxHeartbeats 4000000 in
set_option maxRecDepth 100000 in
theorem w6_odds_b100 {res : Int32 × Sg} {k53 : Int32 → Int32 → Int32 → Int32 → Int32 → Int32 → Sg → Option (Int32 × Sg)} (C : Cx p m c cX6_odds 8 s args RX6 D (tyL cI cZ cB)) (hR : EndI p l e rm6_odds s m args below meth c Q D (wM cI cZ h) A cX6_odds res) (hk53 : ∀ (x1 : Int32) (x2 : Int32) (x3 : Int32) (x4 : Int32) (x5 : Int32) (x6 : Int32) (g : Sg) (H : Heap) (locs : List Loc) (ls : Array Slot), k53 x1 x2 x3 x4 x5 x6 g = some res → Zs D (wM cI cZ h) A s.heap H locs g → lv_has ls 8 [(1, .int x1), (2, .int x2), (3, .int x3), (4, .int x4), (5, .int x5), (6, .int x6)] → W p l e rm6_odds s m args below meth c H locs 0 0 Q (F0 m 53 ls [])) : ∀ (x1 : Int32) (x2 : Int32) (x3 : Int32) (x4 : Int32) (x6 : Int32) (y0 : Int32) (y1 : Int32) (g : Sg) (H : Heap) (locs : List Loc) (ls : Array Slot), f6_odds_b100 k53 x1 x2 x3 x4 x6 y0 y1 g = some res → Zs D (wM cI cZ h) A s.heap H locs g → lv_has ls 8 [(1, .int x1), (2, .int x2), (3, .int x3), (4, .int x4), (6, .int x6)] → W p l e rm6_odds s m args below meth c H locs 0 0 Q (F0 m 100 ls [.int y0, .int y1]) := by
  have hx := C.1.1
  have hb := C.1.2.1
  intro x1 x2 x3 x4 x6 y0 y1 g H locs ls hf hz hl
  unfold f6_odds_b100 at hf
  refine lv_iadd hx hb dX6_odds_100 ?_
  obtain ⟨v1, ev1, hf⟩ := nx_elim hf
  refine z_nm ev1 ?_
  refine lv_istore (lv' := [(5, .int v1), (1, .int x1), (2, .int x2), (3, .int x3), (4, .int x4), (6, .int x6)]) hx hb dX6_odds_101 hl (by decide) rfl (fun ls hl => ?_)
  obtain ⟨v2, ev2, hf⟩ := nx_elim hf
  refine lv_iinc (v := v2) (lv' := [(6, .int v2), (5, .int v1), (1, .int x1), (2, .int x2), (3, .int x3), (4, .int x4)]) hx hb dX6_odds_103 hl (k := 5) rfl (by rw [ev2]; rfl) (by decide) rfl (fun ls hl => ?_)
  refine lv_goto (tgt := 53) hx hb dX6_odds_106 (by decide) ?_
  exact hk53 _ _ _ _ _ _ _ _ _ _ hf hz (lv_sub hl [2, 3, 4, 5, 1, 0] rfl)
set_option maxHeartbeats 4000000 in
set_option maxRecDepth 100000 in
theorem w6_odds_b53 {res : Int32 × Sg} (C : Cx p m c cX6_odds 8 s args RX6 D (tyL cI cZ cB)) (hR : EndI p l e rm6_odds s m args below meth c Q D (wM cI cZ h) A cX6_odds res) : ∀ n : Nat, ∀ (x1 : Int32) (x2 : Int32) (x3 : Int32) (x4 : Int32) (x5 : Int32) (x6 : Int32) (g : Sg) (H : Heap) (locs : List Loc) (ls : Array Slot), f6_odds_b53 n x1 x2 x3 x4 x5 x6 g = some res → Zs D (wM cI cZ h) A s.heap H locs g → lv_has ls 8 [(1, .int x1), (2, .int x2), (3, .int x3), (4, .int x4), (5, .int x5), (6, .int x6)] → W p l e rm6_odds s m args below meth c H locs 0 0 Q (F0 m 53 ls []) := by
  have hx := C.1.1
  have hb := C.1.2.1
  intro n
  induction n with
  | zero =>
    intro x1 x2 x3 x4 x5 x6 g H locs ls hf hz hl
    cases hf
  | succ n ih =>
    intro x1 x2 x3 x4 x5 x6 g H locs ls hf hz hl
    rw [f6_odds_b53] at hf
    refine lv_iload hx hb dX6_odds_53 (lv_at hl 5 rfl) ?_
    refine lv_iconst (v := (1 : Int32)) hx hb dX6_odds_55 (by decide) ?_
    refine lv_iload_n hx hb dX6_odds_56 rfl (lv_at hl 1 rfl) ?_
    refine lv_ishl hx hb dX6_odds_57 ?_
    refine lv_icmp_ge (tgt := 109) hx hb dX6_odds_58 (by decide) (fun c3 => ?_) (fun c3 => ?_)
    · have hf := ite_t hf c3
      refine lv_bipush (v := (10 : Int32)) hx hb dX6_odds_109 (by decide) ?_
      refine lv_iload_n hx hb dX6_odds_111 rfl (lv_at hl 1 rfl) ?_
      obtain ⟨r6, g5, hc4, hf⟩ := bd2_elim hf
      refine z_SI (As := [.int (10 : Int32), .int x2]) (rest := []) C (c6_power hc4) lk_RX6_198 ⟨rfl, rfl, Nat.le_of_ble_eq_true rfl, Nat.le_of_ble_eq_true rfl⟩ ⟨Nat.zero_le _, Nat.zero_le _⟩ rfl (Nat.le_of_ble_eq_true rfl) rfl hl.1 dX6_odds_112 hz (fun H locs hz => ?_)
      refine lv_istore (lv' := [(6, .int r6), (1, .int x1), (2, .int x2), (3, .int x3), (4, .int x4), (5, .int x5)]) hx hb dX6_odds_115 hl (by decide) rfl (fun ls hl => ?_)
      refine lv_iload hx hb dX6_odds_117 (lv_at hl 5 rfl) ?_
      refine lv_iload hx hb dX6_odds_119 (lv_at hl 0 rfl) ?_
      obtain ⟨r9, g8, hc7, hf⟩ := bd2_elim hf
      refine z_SI (As := [.int x5, .int r6]) (rest := []) C (c6_gcd hc7) lk_RX6_201 ⟨rfl, rfl, Nat.le_of_ble_eq_true rfl, Nat.le_of_ble_eq_true rfl⟩ ⟨Nat.zero_le _, Nat.zero_le _⟩ rfl (Nat.le_of_ble_eq_true rfl) rfl hl.1 dX6_odds_121 hz (fun H locs hz => ?_)
      refine lv_istore (lv' := [(7, .int r9), (6, .int r6), (1, .int x1), (2, .int x2), (3, .int x3), (4, .int x4), (5, .int x5)]) hx hb dX6_odds_124 hl (by decide) rfl (fun ls hl => ?_)
      refine lv_iload hx hb dX6_odds_126 (lv_at hl 5 rfl) ?_
      refine lv_if_ne (tgt := 139) hx hb dX6_odds_128 (by decide) (fun c10 => ?_) (fun c10 => ?_)
      · have hf := ite_f hf c10
        refine lv_iload hx hb dX6_odds_139 (lv_at hl 1 rfl) ?_
        refine lv_iload hx hb dX6_odds_141 (lv_at hl 0 rfl) ?_
        obtain ⟨c11, hf⟩ := nz_elim hf
        refine lv_idiv hx hb dX6_odds_143 c11 ?_
        exact hR _ _ _ _ _ _ (Option.some.inj hf) hz dX6_odds_144
      · have hf := ite_t hf c10
        refine lv_iload hx hb dX6_odds_131 (lv_at hl 6 rfl) ?_
        refine lv_iload hx hb dX6_odds_133 (lv_at hl 0 rfl) ?_
        obtain ⟨c12, hf⟩ := nz_elim hf
        refine lv_idiv hx hb dX6_odds_135 c12 ?_
        refine lv_goto (tgt := 144) hx hb dX6_odds_136 (by decide) ?_
        exact hR _ _ _ _ _ _ (Option.some.inj hf) hz dX6_odds_144
    · have hf := ite_f hf c3
      refine lv_iload hx hb dX6_odds_61 (lv_at hl 4 rfl) ?_
      refine lv_iload hx hb dX6_odds_63 (lv_at hl 5 rfl) ?_
      obtain ⟨r15, g14, hc13, hf⟩ := bd2_elim hf
      refine z_SI (As := [.int x6]) (rest := [.int x5]) C (c6_ones hc13) lk_RX6_176 ⟨rfl, rfl, Nat.le_of_ble_eq_true rfl, Nat.le_of_ble_eq_true rfl⟩ ⟨Nat.zero_le _, Nat.zero_le _⟩ rfl (Nat.le_of_ble_eq_true rfl) rfl hl.1 dX6_odds_65 hz (fun H locs hz => ?_)
      refine lv_iload_n hx hb dX6_odds_68 rfl (lv_at hl 2 rfl) ?_
      refine lv_icmp_lt (tgt := 99) hx hb dX6_odds_69 (by decide) (fun c16 => ?_) (fun c16 => ?_)
      · have hf := ite_t hf c16
        refine lv_iconst (v := (0 : Int32)) hx hb dX6_odds_99 (by decide) ?_
        exact w6_odds_b100 C hR ih _ _ _ _ _ _ _ _ _ _ _ hf hz (lv_sub hl [0, 1, 2, 3, 5] rfl)
      · have hf := ite_f hf c16
        refine lv_iload_n hx hb dX6_odds_72 rfl (lv_at hl 0 rfl) ?_
        refine lv_iload hx hb dX6_odds_73 (lv_at hl 5 rfl) ?_
        obtain ⟨r19, g18, hc17, hf⟩ := bd2_elim hf
        refine z_SI (As := [.int x6]) (rest := [.int x1, .int x5]) C (c6_ones hc17) lk_RX6_176 ⟨rfl, rfl, Nat.le_of_ble_eq_true rfl, Nat.le_of_ble_eq_true rfl⟩ ⟨Nat.zero_le _, Nat.zero_le _⟩ rfl (Nat.le_of_ble_eq_true rfl) rfl hl.1 dX6_odds_75 hz (fun H locs hz => ?_)
        obtain ⟨r22, g21, hc20, hf⟩ := bd2_elim hf
        refine z_SI (As := [.int x1, .int r19]) (rest := [.int x5]) C (c6_power hc20) lk_RX6_198 ⟨rfl, rfl, Nat.le_of_ble_eq_true rfl, Nat.le_of_ble_eq_true rfl⟩ ⟨Nat.zero_le _, Nat.zero_le _⟩ rfl (Nat.le_of_ble_eq_true rfl) rfl hl.1 dX6_odds_78 hz (fun H locs hz => ?_)
        refine lv_bipush (v := (10 : Int32)) hx hb dX6_odds_81 (by decide) ?_
        refine lv_iload_n hx hb dX6_odds_83 rfl (lv_at hl 0 rfl) ?_
        refine lv_isub hx hb dX6_odds_84 ?_
        refine lv_iload_n hx hb dX6_odds_85 rfl (lv_at hl 1 rfl) ?_
        refine lv_iload hx hb dX6_odds_86 (lv_at hl 5 rfl) ?_
        obtain ⟨r25, g24, hc23, hf⟩ := bd2_elim hf
        refine z_SI (As := [.int x6]) (rest := [.int x2, .int ((10 : Int32) - x1), .int r22, .int x5]) C (c6_ones hc23) lk_RX6_176 ⟨rfl, rfl, Nat.le_of_ble_eq_true rfl, Nat.le_of_ble_eq_true rfl⟩ ⟨Nat.zero_le _, Nat.zero_le _⟩ rfl (Nat.le_of_ble_eq_true rfl) rfl hl.1 dX6_odds_88 hz (fun H locs hz => ?_)
        refine lv_isub hx hb dX6_odds_91 ?_
        obtain ⟨r28, g27, hc26, hf⟩ := bd2_elim hf
        refine z_SI (As := [.int ((10 : Int32) - x1), .int (x2 - r25)]) (rest := [.int r22, .int x5]) C (c6_power hc26) lk_RX6_198 ⟨rfl, rfl, Nat.le_of_ble_eq_true rfl, Nat.le_of_ble_eq_true rfl⟩ ⟨Nat.zero_le _, Nat.zero_le _⟩ rfl (Nat.le_of_ble_eq_true rfl) rfl hl.1 dX6_odds_92 hz (fun H locs hz => ?_)
        refine lv_imul hx hb dX6_odds_95 ?_
        refine lv_goto (tgt := 100) hx hb dX6_odds_96 (by decide) ?_
        exact w6_odds_b100 C hR ih _ _ _ _ _ _ _ _ _ _ _ hf hz (lv_sub hl [0, 1, 2, 3, 5] rfl)
set_option maxHeartbeats 4000000 in
set_option maxRecDepth 100000 in
theorem w6_odds_b0 {res : Int32 × Sg} (C : Cx p m c cX6_odds 8 s args RX6 D (tyL cI cZ cB)) (hR : EndI p l e rm6_odds s m args below meth c Q D (wM cI cZ h) A cX6_odds res) : ∀ (x1 : Int32) (x2 : Int32) (x3 : Int32) (x4 : Int32) (g : Sg) (H : Heap) (locs : List Loc) (ls : Array Slot), f6_odds x1 x2 x3 x4 g = some res → Zs D (wM cI cZ h) A s.heap H locs g → lv_has ls 8 [(0, .ref (h 0)), (1, .int x1), (2, .int x2), (3, .int x3), (4, .int x4)] → W p l e rm6_odds s m args below meth c H locs 0 0 Q (F0 m 0 ls []) := by
  have hx := C.1.1
  have hb := C.1.2.1
  intro x1 x2 x3 x4 g H locs ls hf hz hl
  unfold f6_odds at hf
  refine lv_aload_n hx hb dX6_odds_0 rfl (lv_at hl 0 rfl) ?_
  refine lv_iconst (v := (0 : Int32)) hx hb dX6_odds_1 (by decide) ?_
  obtain ⟨g29, eg29, hf⟩ := nx_elim hf
  refine p_RX6_74_model C hz eg29 dX6_odds_2 (fun H locs hz => ?_)
  refine lv_iload_n hx hb dX6_odds_5 rfl (lv_at hl 1 rfl) ?_
  refine lv_iconst (v := (0 : Int32)) hx hb dX6_odds_6 (by decide) ?_
  refine lv_bipush (v := (10 : Int32)) hx hb dX6_odds_7 (by decide) ?_
  obtain ⟨r32, g31, hc30, hf⟩ := bd2_elim hf
  refine z_SI (As := [.int x1, .int (0 : Int32), .int (10 : Int32)]) (rest := []) C (c6_in hc30) lk_RX6_78 ⟨rfl, rfl, Nat.le_of_ble_eq_true rfl, Nat.le_of_ble_eq_true rfl⟩ ⟨Nat.zero_le _, Nat.zero_le _⟩ rfl (Nat.le_of_ble_eq_true rfl) rfl hl.1 dX6_odds_9 hz (fun H locs hz => ?_)
  refine lv_if_eq (tgt := 45) hx hb dX6_odds_12 (by decide) (fun c33 => ?_) (fun c33 => ?_)
  · have hf := ite_t hf c33
    refine lv_iconst (v := (-1 : Int32)) hx hb dX6_odds_45 (by decide) ?_
    exact hR _ _ _ _ _ _ (Option.some.inj hf) hz dX6_odds_46
  · have hf := ite_f hf c33
    refine lv_iload_n hx hb dX6_odds_15 rfl (lv_at hl 2 rfl) ?_
    refine lv_iconst (v := (0 : Int32)) hx hb dX6_odds_16 (by decide) ?_
    refine lv_bipush (v := (6 : Int32)) hx hb dX6_odds_17 (by decide) ?_
    obtain ⟨r36, g35, hc34, hf⟩ := bd2_elim hf
    refine z_SI (As := [.int x2, .int (0 : Int32), .int (6 : Int32)]) (rest := []) C (c6_in hc34) lk_RX6_78 ⟨rfl, rfl, Nat.le_of_ble_eq_true rfl, Nat.le_of_ble_eq_true rfl⟩ ⟨Nat.zero_le _, Nat.zero_le _⟩ rfl (Nat.le_of_ble_eq_true rfl) rfl hl.1 dX6_odds_19 hz (fun H locs hz => ?_)
    refine lv_if_eq (tgt := 45) hx hb dX6_odds_22 (by decide) (fun c37 => ?_) (fun c37 => ?_)
    · have hf := ite_t hf c37
      refine lv_iconst (v := (-1 : Int32)) hx hb dX6_odds_45 (by decide) ?_
      exact hR _ _ _ _ _ _ (Option.some.inj hf) hz dX6_odds_46
    · have hf := ite_f hf c37
      refine lv_iload_n hx hb dX6_odds_25 rfl (lv_at hl 3 rfl) ?_
      refine lv_iconst (v := (0 : Int32)) hx hb dX6_odds_26 (by decide) ?_
      refine lv_bipush (v := (6 : Int32)) hx hb dX6_odds_27 (by decide) ?_
      obtain ⟨r40, g39, hc38, hf⟩ := bd2_elim hf
      refine z_SI (As := [.int x3, .int (0 : Int32), .int (6 : Int32)]) (rest := []) C (c6_in hc38) lk_RX6_78 ⟨rfl, rfl, Nat.le_of_ble_eq_true rfl, Nat.le_of_ble_eq_true rfl⟩ ⟨Nat.zero_le _, Nat.zero_le _⟩ rfl (Nat.le_of_ble_eq_true rfl) rfl hl.1 dX6_odds_29 hz (fun H locs hz => ?_)
      refine lv_if_eq (tgt := 45) hx hb dX6_odds_32 (by decide) (fun c41 => ?_) (fun c41 => ?_)
      · have hf := ite_t hf c41
        refine lv_iconst (v := (-1 : Int32)) hx hb dX6_odds_45 (by decide) ?_
        exact hR _ _ _ _ _ _ (Option.some.inj hf) hz dX6_odds_46
      · have hf := ite_f hf c41
        refine lv_iload hx hb dX6_odds_35 (lv_at hl 4 rfl) ?_
        refine lv_iconst (v := (0 : Int32)) hx hb dX6_odds_37 (by decide) ?_
        refine lv_iconst (v := (1 : Int32)) hx hb dX6_odds_38 (by decide) ?_
        obtain ⟨r44, g43, hc42, hf⟩ := bd2_elim hf
        refine z_SI (As := [.int x4, .int (0 : Int32), .int (1 : Int32)]) (rest := []) C (c6_in hc42) lk_RX6_78 ⟨rfl, rfl, Nat.le_of_ble_eq_true rfl, Nat.le_of_ble_eq_true rfl⟩ ⟨Nat.zero_le _, Nat.zero_le _⟩ rfl (Nat.le_of_ble_eq_true rfl) rfl hl.1 dX6_odds_39 hz (fun H locs hz => ?_)
        refine lv_if_ne (tgt := 47) hx hb dX6_odds_42 (by decide) (fun c45 => ?_) (fun c45 => ?_)
        · have hf := ite_f hf c45
          refine lv_iconst (v := (0 : Int32)) hx hb dX6_odds_47 (by decide) ?_
          refine lv_istore (lv' := [(5, .int (0 : Int32)), (0, .ref (h 0)), (1, .int x1), (2, .int x2), (3, .int x3), (4, .int x4)]) hx hb dX6_odds_48 hl (by decide) rfl (fun ls hl => ?_)
          refine lv_iconst (v := (0 : Int32)) hx hb dX6_odds_50 (by decide) ?_
          refine lv_istore (lv' := [(6, .int (0 : Int32)), (5, .int (0 : Int32)), (0, .ref (h 0)), (1, .int x1), (2, .int x2), (3, .int x3), (4, .int x4)]) hx hb dX6_odds_51 hl (by decide) rfl (fun ls hl => ?_)
          exact w6_odds_b53 C hR 1000 _ _ _ _ _ _ _ _ _ _ hf hz (lv_sub hl [3, 4, 5, 6, 1, 0] rfl)
        · have hf := ite_t hf c45
          refine lv_iconst (v := (-1 : Int32)) hx hb dX6_odds_45 (by decide) ?_
          exact hR _ _ _ _ _ _ (Option.some.inj hf) hz dX6_odds_46
set_option maxHeartbeats 4000000 in
set_option maxRecDepth 100000 in
theorem c6_odds {l : Launch} {D : va_G} {cI cZ cB : ClassId} {h : Nat → Nat} {x1 : Int32} {x2 : Int32} {x3 : Int32} {x4 : Int32} {g : Sg} {r : Int32} {g1 : Sg} (hf : f6_odds x1 x2 x3 x4 g = some (r, g1)) : KI l D (tyL cI cZ cB) (wM cI cZ h) yX6_odds cX6_odds 8 (some .int) rm6_odds [.ref (h 0), .int x1, .int x2, .int x3, .int x4] g r g1 := by
  refine KI_mk (own := RX6) (by decide +kernel) rfl (Nat.le_of_ble_eq_true rfl) ?_
  intro p e s m below meth c A Q ls C hR hz hl
  have hl : lv_has ls 8 [(0, .ref (h 0)), (1, .int x1), (2, .int x2), (3, .int x3), (4, .int x4)] := hl
  exact w6_odds_b0 C hR _ _ _ _ _ _ _ _ hf hz hl
abbrev rm6_rate : Room := { frames := 2, cells := 0, slots := 0, locals := 44 }
set_option maxHeartbeats 4000000 in
set_option maxRecDepth 100000 in
theorem w6_rate_b111 {res : Int32 × Sg} (C : Cx p m c cX6_rate 6 s args RX6 D (tyL cI cZ cB)) (hR : EndI p l e rm6_rate s m args below meth c Q D (wM cI cZ h) A cX6_rate res) : ∀ (x1 : Int32) (x2 : Int32) (x3 : Int32) (x4 : Int32) (x5 : Int32) (y0 : Int64) (y1 : Int64) (g : Sg) (H : Heap) (locs : List Loc) (ls : Array Slot), f6_rate_b111 x1 x2 x3 x4 x5 y0 y1 g = some res → Zs D (wM cI cZ h) A s.heap H locs g → lv_has ls 6 [(0, .ref (h 0)), (1, .int x1), (2, .int x2), (3, .int x3), (4, .int x4), (5, .int x5)] → W p l e rm6_rate s m args below meth c H locs 0 0 Q (F0 m 111 ls [.long y0, .long y1, .ref (h 0)]) := by
  have hx := C.1.1
  have hb := C.1.2.1
  intro x1 x2 x3 x4 x5 y0 y1 g H locs ls hf hz hl
  unfold f6_rate_b111 at hf
  refine lv_ladd hx hb dX6_rate_111 ?_
  obtain ⟨g1, eg1, hf⟩ := nx_elim hf
  refine p_RX6_205_model C hz eg1 dX6_rate_112 (fun H locs hz => ?_)
  refine lv_iload_n hx hb dX6_rate_115 rfl (lv_at hl 1 rfl) ?_
  refine lv_if_ne (tgt := 123) hx hb dX6_rate_116 (by decide) (fun c2 => ?_) (fun c2 => ?_)
  · have hf := ite_f hf c2
    refine lv_iload_n hx hb dX6_rate_123 rfl (lv_at hl 1 rfl) ?_
    refine lv_iconst (v := (1 : Int32)) hx hb dX6_rate_124 (by decide) ?_
    refine lv_icmp_ne (tgt := 133) hx hb dX6_rate_125 (by decide) (fun c3 => ?_) (fun c3 => ?_)
    · have hf := ite_f hf c3
      refine lv_iload_n hx hb dX6_rate_133 rfl (lv_at hl 1 rfl) ?_
      refine lv_iconst (v := (2 : Int32)) hx hb dX6_rate_134 (by decide) ?_
      refine lv_icmp_ne (tgt := 143) hx hb dX6_rate_135 (by decide) (fun c4 => ?_) (fun c4 => ?_)
      · have hf := ite_f hf c4
        refine lv_iload_n hx hb dX6_rate_143 rfl (lv_at hl 1 rfl) ?_
        refine lv_iconst (v := (3 : Int32)) hx hb dX6_rate_144 (by decide) ?_
        refine lv_icmp_ne (tgt := 155) hx hb dX6_rate_145 (by decide) (fun c5 => ?_) (fun c5 => ?_)
        · have hf := ite_f hf c5
          refine lv_iload_n hx hb dX6_rate_155 rfl (lv_at hl 1 rfl) ?_
          refine lv_iconst (v := (4 : Int32)) hx hb dX6_rate_156 (by decide) ?_
          refine lv_icmp_ne (tgt := 167) hx hb dX6_rate_157 (by decide) (fun c6 => ?_) (fun c6 => ?_)
          · have hf := ite_f hf c6
            refine lv_iload_n hx hb dX6_rate_167 rfl (lv_at hl 3 rfl) ?_
            refine lv_aload_n hx hb dX6_rate_168 rfl (lv_at hl 0 rfl) ?_
            refine g_RX6_46_model C hz dX6_rate_169 ?_
            refine lv_iconst (v := (0 : Int32)) hx hb dX6_rate_172 (by decide) ?_
            refine z_ialdL C hz a_m_s (vpl (n := 0) (by decide) (by decide)) (k := 0) (by decide) dX6_rate_173 ?_
            refine lv_iadd hx hb dX6_rate_174 ?_
            exact hR _ _ _ _ _ _ (Option.some.inj hf) hz dX6_rate_175
          · have hf := ite_t hf c6
            refine lv_iload hx hb dX6_rate_160 (lv_at hl 5 rfl) ?_
            refine lv_iload_n hx hb dX6_rate_162 rfl (lv_at hl 2 rfl) ?_
            refine lv_iadd hx hb dX6_rate_163 ?_
            refine lv_goto (tgt := 175) hx hb dX6_rate_164 (by decide) ?_
            exact hR _ _ _ _ _ _ (Option.some.inj hf) hz dX6_rate_175
        · have hf := ite_t hf c5
          refine lv_iconst (v := (2 : Int32)) hx hb dX6_rate_148 (by decide) ?_
          refine lv_iload hx hb dX6_rate_149 (lv_at hl 4 rfl) ?_
          refine lv_imul hx hb dX6_rate_151 ?_
          refine lv_goto (tgt := 175) hx hb dX6_rate_152 (by decide) ?_
          exact hR _ _ _ _ _ _ (Option.some.inj hf) hz dX6_rate_175
      · have hf := ite_t hf c4
        refine lv_iload hx hb dX6_rate_138 (lv_at hl 5 rfl) ?_
        refine lv_goto (tgt := 175) hx hb dX6_rate_140 (by decide) ?_
        exact hR _ _ _ _ _ _ (Option.some.inj hf) hz dX6_rate_175
    · have hf := ite_t hf c3
      refine lv_iload hx hb dX6_rate_128 (lv_at hl 4 rfl) ?_
      refine lv_goto (tgt := 175) hx hb dX6_rate_130 (by decide) ?_
      exact hR _ _ _ _ _ _ (Option.some.inj hf) hz dX6_rate_175
  · have hf := ite_t hf c2
    refine lv_iload_n hx hb dX6_rate_119 rfl (lv_at hl 3 rfl) ?_
    refine lv_goto (tgt := 175) hx hb dX6_rate_120 (by decide) ?_
    exact hR _ _ _ _ _ _ (Option.some.inj hf) hz dX6_rate_175
set_option maxHeartbeats 4000000 in
set_option maxRecDepth 100000 in
theorem w6_rate_b0 {res : Int32 × Sg} (C : Cx p m c cX6_rate 6 s args RX6 D (tyL cI cZ cB)) (hR : EndI p l e rm6_rate s m args below meth c Q D (wM cI cZ h) A cX6_rate res) : ∀ (x1 : Int32) (x2 : Int32) (g : Sg) (H : Heap) (locs : List Loc) (ls : Array Slot), f6_rate x1 x2 g = some res → Zs D (wM cI cZ h) A s.heap H locs g → lv_has ls 6 [(0, .ref (h 0)), (1, .int x1), (2, .int x2)] → W p l e rm6_rate s m args below meth c H locs 0 0 Q (F0 m 0 ls []) := by
  have hx := C.1.1
  have hb := C.1.2.1
  intro x1 x2 g H locs ls hf hz hl
  unfold f6_rate at hf
  refine lv_aload_n hx hb dX6_rate_0 rfl (lv_at hl 0 rfl) ?_
  refine lv_iconst (v := (0 : Int32)) hx hb dX6_rate_1 (by decide) ?_
  obtain ⟨g7, eg7, hf⟩ := nx_elim hf
  refine p_RX6_74_model C hz eg7 dX6_rate_2 (fun H locs hz => ?_)
  refine lv_iload_n hx hb dX6_rate_5 rfl (lv_at hl 1 rfl) ?_
  refine lv_iconst (v := (0 : Int32)) hx hb dX6_rate_6 (by decide) ?_
  refine lv_iconst (v := (5 : Int32)) hx hb dX6_rate_7 (by decide) ?_
  obtain ⟨r10, g9, hc8, hf⟩ := bd2_elim hf
  refine z_SI (As := [.int x1, .int (0 : Int32), .int (5 : Int32)]) (rest := []) C (c6_in hc8) lk_RX6_78 ⟨rfl, rfl, Nat.le_of_ble_eq_true rfl, Nat.le_of_ble_eq_true rfl⟩ ⟨Nat.zero_le _, Nat.zero_le _⟩ rfl (Nat.le_of_ble_eq_true rfl) rfl hl.1 dX6_rate_8 hz (fun H locs hz => ?_)
  refine lv_if_eq (tgt := 22) hx hb dX6_rate_11 (by decide) (fun c11 => ?_) (fun c11 => ?_)
  · have hf := ite_t hf c11
    refine z_ldc C wd_123 dX6_rate_22 ?_
    exact hR _ _ _ _ _ _ (Option.some.inj hf) hz dX6_rate_24
  · have hf := ite_f hf c11
    refine lv_aload_n hx hb dX6_rate_14 rfl (lv_at hl 0 rfl) ?_
    refine lv_iload_n hx hb dX6_rate_15 rfl (lv_at hl 2 rfl) ?_
    obtain ⟨r14, g13, hc12, hf⟩ := bd2_elim hf
    refine z_VI (As := [.int x2]) (rest := []) C (c6_isPromise hc12) lk_RX6_148 ⟨rfl, rfl, Nat.le_of_ble_eq_true rfl, Nat.le_of_ble_eq_true rfl⟩ ⟨Nat.zero_le _, Nat.zero_le _⟩ o_model rfl rfl (Nat.le_of_ble_eq_true rfl) rfl hl.1 dX6_rate_16 hz (fun H locs hz => ?_)
    refine lv_if_ne (tgt := 25) hx hb dX6_rate_19 (by decide) (fun c15 => ?_) (fun c15 => ?_)
    · have hf := ite_f hf c15
      refine lv_aload_n hx hb dX6_rate_25 rfl (lv_at hl 0 rfl) ?_
      refine lv_iload_n hx hb dX6_rate_26 rfl (lv_at hl 2 rfl) ?_
      obtain ⟨r18, g17, hc16, hf⟩ := bd2_elim hf
      refine z_VI (As := [.int x2]) (rest := []) C (c6_leftNow hc16) lk_RX6_151 ⟨rfl, rfl, Nat.le_of_ble_eq_true rfl, Nat.le_of_ble_eq_true rfl⟩ ⟨Nat.zero_le _, Nat.zero_le _⟩ o_model rfl rfl (Nat.le_of_ble_eq_true rfl) rfl hl.1 dX6_rate_27 hz (fun H locs hz => ?_)
      refine lv_istore_n (lv' := [(3, .int r18), (0, .ref (h 0)), (1, .int x1), (2, .int x2)]) hx hb dX6_rate_30 rfl hl (by decide) rfl (fun ls hl => ?_)
      refine lv_iload_n hx hb dX6_rate_31 rfl (lv_at hl 0 rfl) ?_
      refine lv_aload_n hx hb dX6_rate_32 rfl (lv_at hl 1 rfl) ?_
      refine g_RX6_28_model C hz dX6_rate_33 ?_
      refine lv_iload_n hx hb dX6_rate_36 rfl (lv_at hl 3 rfl) ?_
      obtain ⟨c19, hf⟩ := ix_elim hf
      refine z_iald C hz a_m_depth c19 dX6_rate_37 ?_
      refine lv_iadd hx hb dX6_rate_38 ?_
      obtain ⟨v20, ev20, hf⟩ := nx_elim hf
      refine z_nm ev20 ?_
      refine lv_istore (lv' := [(4, .int v20), (3, .int r18), (0, .ref (h 0)), (1, .int x1), (2, .int x2)]) hx hb dX6_rate_39 hl (by decide) rfl (fun ls hl => ?_)
      refine lv_iload_n hx hb dX6_rate_41 rfl (lv_at hl 1 rfl) ?_
      refine lv_aload_n hx hb dX6_rate_42 rfl (lv_at hl 2 rfl) ?_
      refine g_RX6_31_model C hz dX6_rate_43 ?_
      refine lv_iload_n hx hb dX6_rate_46 rfl (lv_at hl 4 rfl) ?_
      obtain ⟨c21, hf⟩ := ix_elim hf
      refine z_iald C hz a_m_span c21 dX6_rate_47 ?_
      refine lv_isub hx hb dX6_rate_48 ?_
      obtain ⟨v22, ev22, hf⟩ := nx_elim hf
      refine z_nm ev22 ?_
      refine lv_istore (lv' := [(5, .int v22), (4, .int v20), (3, .int r18), (0, .ref (h 0)), (1, .int x1), (2, .int x2)]) hx hb dX6_rate_49 hl (by decide) rfl (fun ls hl => ?_)
      refine lv_aload_n hx hb dX6_rate_51 rfl (lv_at hl 3 rfl) ?_
      refine lv_dup hx hb dX6_rate_52 rfl ?_
      refine g_RX6_205_model C hz dX6_rate_53 ?_
      refine lv_iload_n hx hb dX6_rate_56 rfl (lv_at hl 4 rfl) ?_
      refine lv_if_ne (tgt := 64) hx hb dX6_rate_57 (by decide) (fun c23 => ?_) (fun c23 => ?_)
      · have hf := ite_f hf c23
        refine lv_iload_n hx hb dX6_rate_64 rfl (lv_at hl 4 rfl) ?_
        refine lv_iconst (v := (1 : Int32)) hx hb dX6_rate_65 (by decide) ?_
        refine lv_icmp_ne (tgt := 75) hx hb dX6_rate_66 (by decide) (fun c24 => ?_) (fun c24 => ?_)
        · have hf := ite_f hf c24
          refine lv_iload_n hx hb dX6_rate_75 rfl (lv_at hl 4 rfl) ?_
          refine lv_iconst (v := (2 : Int32)) hx hb dX6_rate_76 (by decide) ?_
          refine lv_icmp_ne (tgt := 86) hx hb dX6_rate_77 (by decide) (fun c25 => ?_) (fun c25 => ?_)
          · have hf := ite_f hf c25
            refine lv_iload_n hx hb dX6_rate_86 rfl (lv_at hl 4 rfl) ?_
            refine lv_iconst (v := (3 : Int32)) hx hb dX6_rate_87 (by decide) ?_
            refine lv_icmp_ne (tgt := 97) hx hb dX6_rate_88 (by decide) (fun c26 => ?_) (fun c26 => ?_)
            · have hf := ite_f hf c26
              refine lv_iload_n hx hb dX6_rate_97 rfl (lv_at hl 4 rfl) ?_
              refine lv_iconst (v := (4 : Int32)) hx hb dX6_rate_98 (by decide) ?_
              refine lv_icmp_ne (tgt := 108) hx hb dX6_rate_99 (by decide) (fun c27 => ?_) (fun c27 => ?_)
              · have hf := ite_f hf c27
                refine z_ldc2 C wd_128 dX6_rate_108 ?_
                exact w6_rate_b111 C hR _ _ _ _ _ _ _ _ _ _ _ hf hz (lv_sub hl [3, 4, 5, 2, 1, 0] rfl)
              · have hf := ite_t hf c27
                refine z_ldc2 C wd_127 dX6_rate_102 ?_
                refine lv_goto (tgt := 111) hx hb dX6_rate_105 (by decide) ?_
                exact w6_rate_b111 C hR _ _ _ _ _ _ _ _ _ _ _ hf hz (lv_sub hl [3, 4, 5, 2, 1, 0] rfl)
            · have hf := ite_t hf c26
              refine z_ldc2 C wd_126 dX6_rate_91 ?_
              refine lv_goto (tgt := 111) hx hb dX6_rate_94 (by decide) ?_
              exact w6_rate_b111 C hR _ _ _ _ _ _ _ _ _ _ _ hf hz (lv_sub hl [3, 4, 5, 2, 1, 0] rfl)
          · have hf := ite_t hf c25
            refine z_ldc2 C wd_125 dX6_rate_80 ?_
            refine lv_goto (tgt := 111) hx hb dX6_rate_83 (by decide) ?_
            exact w6_rate_b111 C hR _ _ _ _ _ _ _ _ _ _ _ hf hz (lv_sub hl [3, 4, 5, 2, 1, 0] rfl)
        · have hf := ite_t hf c24
          refine z_ldc2 C wd_124 dX6_rate_69 ?_
          refine lv_goto (tgt := 111) hx hb dX6_rate_72 (by decide) ?_
          exact w6_rate_b111 C hR _ _ _ _ _ _ _ _ _ _ _ hf hz (lv_sub hl [3, 4, 5, 2, 1, 0] rfl)
      · have hf := ite_t hf c23
        refine lv_lconst (v := (1 : Int64)) hx hb dX6_rate_60 rfl ?_
        refine lv_goto (tgt := 111) hx hb dX6_rate_61 (by decide) ?_
        exact w6_rate_b111 C hR _ _ _ _ _ _ _ _ _ _ _ hf hz (lv_sub hl [3, 4, 5, 2, 1, 0] rfl)
    · have hf := ite_t hf c15
      refine z_ldc C wd_123 dX6_rate_22 ?_
      exact hR _ _ _ _ _ _ (Option.some.inj hf) hz dX6_rate_24
set_option maxHeartbeats 4000000 in
set_option maxRecDepth 100000 in
theorem c6_rate {l : Launch} {D : va_G} {cI cZ cB : ClassId} {h : Nat → Nat} {x1 : Int32} {x2 : Int32} {g : Sg} {r : Int32} {g1 : Sg} (hf : f6_rate x1 x2 g = some (r, g1)) : KI l D (tyL cI cZ cB) (wM cI cZ h) yX6_rate cX6_rate 6 (some .int) rm6_rate [.ref (h 0), .int x1, .int x2] g r g1 := by
  refine KI_mk (own := RX6) (by decide +kernel) rfl (Nat.le_of_ble_eq_true rfl) ?_
  intro p e s m below meth c A Q ls C hR hz hl
  have hl : lv_has ls 6 [(0, .ref (h 0)), (1, .int x1), (2, .int x2)] := hl
  exact w6_rate_b0 C hR _ _ _ _ _ _ hf hz hl
abbrev rm6_keep : Room := { frames := 1, cells := 0, slots := 0, locals := 22 }
set_option maxHeartbeats 4000000 in
set_option maxRecDepth 100000 in
theorem w6_keep_b18 {res : Int32 × Sg} (C : Cx p m c cX6_keep 3 s args RX6 D (tyL cI cZ cB)) (hR : EndI p l e rm6_keep s m args below meth c Q D (wM cI cZ h) A cX6_keep res) : ∀ n : Nat, ∀ (x1 : Int32) (x2 : Int32) (g : Sg) (H : Heap) (locs : List Loc) (ls : Array Slot), f6_keep_b18 n x1 x2 g = some res → Zs D (wM cI cZ h) A s.heap H locs g → lv_has ls 3 [(0, .ref (h 0)), (1, .int x1), (2, .int x2)] → W p l e rm6_keep s m args below meth c H locs 0 0 Q (F0 m 18 ls []) := by
  have hx := C.1.1
  have hb := C.1.2.1
  intro n
  induction n with
  | zero =>
    intro x1 x2 g H locs ls hf hz hl
    cases hf
  | succ n ih =>
    intro x1 x2 g H locs ls hf hz hl
    rw [f6_keep_b18] at hf
    refine lv_iload_n hx hb dX6_keep_18 rfl (lv_at hl 2 rfl) ?_
    refine lv_bipush (v := (37 : Int32)) hx hb dX6_keep_19 (by decide) ?_
    refine lv_icmp_ge (tgt := 47) hx hb dX6_keep_21 (by decide) (fun c1 => ?_) (fun c1 => ?_)
    · have hf := ite_t hf c1
      refine lv_aload_n hx hb dX6_keep_47 rfl (lv_at hl 0 rfl) ?_
      refine g_RX6_52_model C hz dX6_keep_48 ?_
      refine lv_iload_n hx hb dX6_keep_51 rfl (lv_at hl 1 rfl) ?_
      refine lv_iconst (v := (1 : Int32)) hx hb dX6_keep_52 (by decide) ?_
      obtain ⟨c2, hf⟩ := ix_elim hf
      obtain ⟨g3, eg3, hf⟩ := nx_elim hf
      refine z_zast C hz a_m_isKept c2 rfl eg3 dX6_keep_53 (fun H locs hz => ?_)
      refine lv_aload_n hx hb dX6_keep_54 rfl (lv_at hl 0 rfl) ?_
      refine g_RX6_46_model C hz dX6_keep_55 ?_
      refine lv_iconst (v := (0 : Int32)) hx hb dX6_keep_58 (by decide) ?_
      refine z_ialdL C hz a_m_s (vpl (n := 0) (by decide) (by decide)) (k := 0) (by decide) dX6_keep_59 ?_
      exact hR _ _ _ _ _ _ (Option.some.inj hf) hz dX6_keep_60
    · have hf := ite_f hf c1
      refine lv_aload_n hx hb dX6_keep_24 rfl (lv_at hl 0 rfl) ?_
      refine g_RX6_49_model C hz dX6_keep_25 ?_
      refine lv_bipush (v := (37 : Int32)) hx hb dX6_keep_28 (by decide) ?_
      refine lv_iload_n hx hb dX6_keep_30 rfl (lv_at hl 1 rfl) ?_
      refine lv_imul hx hb dX6_keep_31 ?_
      refine lv_iload_n hx hb dX6_keep_32 rfl (lv_at hl 2 rfl) ?_
      refine lv_iadd hx hb dX6_keep_33 ?_
      refine lv_aload_n hx hb dX6_keep_34 rfl (lv_at hl 0 rfl) ?_
      refine g_RX6_46_model C hz dX6_keep_35 ?_
      refine lv_iload_n hx hb dX6_keep_38 rfl (lv_at hl 2 rfl) ?_
      obtain ⟨c4, hf⟩ := ix_elim hf
      refine z_iald C hz a_m_s c4 dX6_keep_39 ?_
      obtain ⟨c5, hf⟩ := ix_elim hf
      obtain ⟨g6, eg6, hf⟩ := nx_elim hf
      refine z_iast C hz a_m_kept c5 eg6 dX6_keep_40 (fun H locs hz => ?_)
      obtain ⟨v7, ev7, hf⟩ := nx_elim hf
      refine lv_iinc (v := v7) (lv' := [(2, .int v7), (0, .ref (h 0)), (1, .int x1)]) hx hb dX6_keep_41 hl (k := 2) rfl (by rw [ev7]; rfl) (by decide) rfl (fun ls hl => ?_)
      refine lv_goto (tgt := 18) hx hb dX6_keep_44 (by decide) ?_
      exact ih _ _ _ _ _ _ hf hz (lv_sub hl [1, 2, 0] rfl)
set_option maxHeartbeats 4000000 in
set_option maxRecDepth 100000 in
theorem w6_keep_b0 {res : Int32 × Sg} (C : Cx p m c cX6_keep 3 s args RX6 D (tyL cI cZ cB)) (hR : EndI p l e rm6_keep s m args below meth c Q D (wM cI cZ h) A cX6_keep res) : ∀ (x1 : Int32) (g : Sg) (H : Heap) (locs : List Loc) (ls : Array Slot), f6_keep x1 g = some res → Zs D (wM cI cZ h) A s.heap H locs g → lv_has ls 3 [(0, .ref (h 0)), (1, .int x1)] → W p l e rm6_keep s m args below meth c H locs 0 0 Q (F0 m 0 ls []) := by
  have hx := C.1.1
  have hb := C.1.2.1
  intro x1 g H locs ls hf hz hl
  unfold f6_keep at hf
  refine lv_aload_n hx hb dX6_keep_0 rfl (lv_at hl 0 rfl) ?_
  refine lv_iconst (v := (0 : Int32)) hx hb dX6_keep_1 (by decide) ?_
  obtain ⟨g8, eg8, hf⟩ := nx_elim hf
  refine p_RX6_74_model C hz eg8 dX6_keep_2 (fun H locs hz => ?_)
  refine lv_iload_n hx hb dX6_keep_5 rfl (lv_at hl 1 rfl) ?_
  refine lv_iconst (v := (0 : Int32)) hx hb dX6_keep_6 (by decide) ?_
  refine lv_iconst (v := (1 : Int32)) hx hb dX6_keep_7 (by decide) ?_
  obtain ⟨r11, g10, hc9, hf⟩ := bd2_elim hf
  refine z_SI (As := [.int x1, .int (0 : Int32), .int (1 : Int32)]) (rest := []) C (c6_in hc9) lk_RX6_78 ⟨rfl, rfl, Nat.le_of_ble_eq_true rfl, Nat.le_of_ble_eq_true rfl⟩ ⟨Nat.zero_le _, Nat.zero_le _⟩ rfl (Nat.le_of_ble_eq_true rfl) rfl hl.1 dX6_keep_8 hz (fun H locs hz => ?_)
  refine lv_if_ne (tgt := 16) hx hb dX6_keep_11 (by decide) (fun c12 => ?_) (fun c12 => ?_)
  · have hf := ite_f hf c12
    refine lv_iconst (v := (0 : Int32)) hx hb dX6_keep_16 (by decide) ?_
    refine lv_istore_n (lv' := [(2, .int (0 : Int32)), (0, .ref (h 0)), (1, .int x1)]) hx hb dX6_keep_17 rfl hl (by decide) rfl (fun ls hl => ?_)
    exact w6_keep_b18 C hR 1000 _ _ _ _ _ _ hf hz (lv_sub hl [1, 2, 0] rfl)
  · have hf := ite_t hf c12
    refine lv_iconst (v := (-1 : Int32)) hx hb dX6_keep_14 (by decide) ?_
    exact hR _ _ _ _ _ _ (Option.some.inj hf) hz dX6_keep_15
set_option maxHeartbeats 4000000 in
set_option maxRecDepth 100000 in
theorem c6_keep {l : Launch} {D : va_G} {cI cZ cB : ClassId} {h : Nat → Nat} {x1 : Int32} {g : Sg} {r : Int32} {g1 : Sg} (hf : f6_keep x1 g = some (r, g1)) : KI l D (tyL cI cZ cB) (wM cI cZ h) yX6_keep cX6_keep 3 (some .int) rm6_keep [.ref (h 0), .int x1] g r g1 := by
  refine KI_mk (own := RX6) (by decide +kernel) rfl (Nat.le_of_ble_eq_true rfl) ?_
  intro p e s m below meth c A Q ls C hR hz hl
  have hl : lv_has ls 3 [(0, .ref (h 0)), (1, .int x1)] := hl
  exact w6_keep_b0 C hR _ _ _ _ _ hf hz hl
abbrev rm6_back : Room := { frames := 1, cells := 0, slots := 0, locals := 22 }
set_option maxHeartbeats 4000000 in
set_option maxRecDepth 100000 in
theorem w6_back_b30 {res : Int32 × Sg} (C : Cx p m c cX6_back 3 s args RX6 D (tyL cI cZ cB)) (hR : EndI p l e rm6_back s m args below meth c Q D (wM cI cZ h) A cX6_back res) : ∀ n : Nat, ∀ (x1 : Int32) (x2 : Int32) (g : Sg) (H : Heap) (locs : List Loc) (ls : Array Slot), f6_back_b30 n x1 x2 g = some res → Zs D (wM cI cZ h) A s.heap H locs g → lv_has ls 3 [(0, .ref (h 0)), (1, .int x1), (2, .int x2)] → W p l e rm6_back s m args below meth c H locs 0 0 Q (F0 m 30 ls []) := by
  have hx := C.1.1
  have hb := C.1.2.1
  intro n
  induction n with
  | zero =>
    intro x1 x2 g H locs ls hf hz hl
    cases hf
  | succ n ih =>
    intro x1 x2 g H locs ls hf hz hl
    rw [f6_back_b30] at hf
    refine lv_iload_n hx hb dX6_back_30 rfl (lv_at hl 2 rfl) ?_
    refine lv_bipush (v := (37 : Int32)) hx hb dX6_back_31 (by decide) ?_
    refine lv_icmp_ge (tgt := 59) hx hb dX6_back_33 (by decide) (fun c1 => ?_) (fun c1 => ?_)
    · have hf := ite_t hf c1
      refine lv_aload_n hx hb dX6_back_59 rfl (lv_at hl 0 rfl) ?_
      refine lv_iconst (v := (0 : Int32)) hx hb dX6_back_60 (by decide) ?_
      obtain ⟨g2, eg2, hf⟩ := nx_elim hf
      refine p_RX6_142_model C hz eg2 dX6_back_61 (fun H locs hz => ?_)
      refine lv_aload_n hx hb dX6_back_64 rfl (lv_at hl 0 rfl) ?_
      refine g_RX6_46_model C hz dX6_back_65 ?_
      refine lv_iconst (v := (0 : Int32)) hx hb dX6_back_68 (by decide) ?_
      refine z_ialdL C hz a_m_s (vpl (n := 0) (by decide) (by decide)) (k := 0) (by decide) dX6_back_69 ?_
      exact hR _ _ _ _ _ _ (Option.some.inj hf) hz dX6_back_70
    · have hf := ite_f hf c1
      refine lv_aload_n hx hb dX6_back_36 rfl (lv_at hl 0 rfl) ?_
      refine g_RX6_46_model C hz dX6_back_37 ?_
      refine lv_iload_n hx hb dX6_back_40 rfl (lv_at hl 2 rfl) ?_
      refine lv_aload_n hx hb dX6_back_41 rfl (lv_at hl 0 rfl) ?_
      refine g_RX6_49_model C hz dX6_back_42 ?_
      refine lv_bipush (v := (37 : Int32)) hx hb dX6_back_45 (by decide) ?_
      refine lv_iload_n hx hb dX6_back_47 rfl (lv_at hl 1 rfl) ?_
      refine lv_imul hx hb dX6_back_48 ?_
      refine lv_iload_n hx hb dX6_back_49 rfl (lv_at hl 2 rfl) ?_
      refine lv_iadd hx hb dX6_back_50 ?_
      obtain ⟨c3, hf⟩ := ix_elim hf
      refine z_iald C hz a_m_kept c3 dX6_back_51 ?_
      obtain ⟨c4, hf⟩ := ix_elim hf
      obtain ⟨g5, eg5, hf⟩ := nx_elim hf
      refine z_iast C hz a_m_s c4 eg5 dX6_back_52 (fun H locs hz => ?_)
      obtain ⟨v6, ev6, hf⟩ := nx_elim hf
      refine lv_iinc (v := v6) (lv' := [(2, .int v6), (0, .ref (h 0)), (1, .int x1)]) hx hb dX6_back_53 hl (k := 2) rfl (by rw [ev6]; rfl) (by decide) rfl (fun ls hl => ?_)
      refine lv_goto (tgt := 30) hx hb dX6_back_56 (by decide) ?_
      exact ih _ _ _ _ _ _ hf hz (lv_sub hl [1, 2, 0] rfl)
set_option maxHeartbeats 4000000 in
set_option maxRecDepth 100000 in
theorem w6_back_b0 {res : Int32 × Sg} (C : Cx p m c cX6_back 3 s args RX6 D (tyL cI cZ cB)) (hR : EndI p l e rm6_back s m args below meth c Q D (wM cI cZ h) A cX6_back res) : ∀ (x1 : Int32) (g : Sg) (H : Heap) (locs : List Loc) (ls : Array Slot), f6_back x1 g = some res → Zs D (wM cI cZ h) A s.heap H locs g → lv_has ls 3 [(0, .ref (h 0)), (1, .int x1)] → W p l e rm6_back s m args below meth c H locs 0 0 Q (F0 m 0 ls []) := by
  have hx := C.1.1
  have hb := C.1.2.1
  intro x1 g H locs ls hf hz hl
  unfold f6_back at hf
  refine lv_aload_n hx hb dX6_back_0 rfl (lv_at hl 0 rfl) ?_
  refine lv_iconst (v := (0 : Int32)) hx hb dX6_back_1 (by decide) ?_
  obtain ⟨g7, eg7, hf⟩ := nx_elim hf
  refine p_RX6_74_model C hz eg7 dX6_back_2 (fun H locs hz => ?_)
  refine lv_iload_n hx hb dX6_back_5 rfl (lv_at hl 1 rfl) ?_
  refine lv_iconst (v := (0 : Int32)) hx hb dX6_back_6 (by decide) ?_
  refine lv_iconst (v := (1 : Int32)) hx hb dX6_back_7 (by decide) ?_
  obtain ⟨r10, g9, hc8, hf⟩ := bd2_elim hf
  refine z_SI (As := [.int x1, .int (0 : Int32), .int (1 : Int32)]) (rest := []) C (c6_in hc8) lk_RX6_78 ⟨rfl, rfl, Nat.le_of_ble_eq_true rfl, Nat.le_of_ble_eq_true rfl⟩ ⟨Nat.zero_le _, Nat.zero_le _⟩ rfl (Nat.le_of_ble_eq_true rfl) rfl hl.1 dX6_back_8 hz (fun H locs hz => ?_)
  refine lv_if_ne (tgt := 16) hx hb dX6_back_11 (by decide) (fun c11 => ?_) (fun c11 => ?_)
  · have hf := ite_f hf c11
    refine lv_aload_n hx hb dX6_back_16 rfl (lv_at hl 0 rfl) ?_
    refine g_RX6_52_model C hz dX6_back_17 ?_
    refine lv_iload_n hx hb dX6_back_20 rfl (lv_at hl 1 rfl) ?_
    obtain ⟨c12, hf⟩ := ix_elim hf
    refine z_zald C hz a_m_isKept c12 dX6_back_21 ?_
    refine lv_if_ne (tgt := 28) hx hb dX6_back_22 (by decide) (fun c13 => ?_) (fun c13 => ?_)
    · have hf := ite_f hf c13
      refine lv_iconst (v := (0 : Int32)) hx hb dX6_back_28 (by decide) ?_
      refine lv_istore_n (lv' := [(2, .int (0 : Int32)), (0, .ref (h 0)), (1, .int x1)]) hx hb dX6_back_29 rfl hl (by decide) rfl (fun ls hl => ?_)
      exact w6_back_b30 C hR 1000 _ _ _ _ _ _ hf hz (lv_sub hl [1, 2, 0] rfl)
    · have hf := ite_t hf c13
      refine lv_bipush (v := (-2 : Int32)) hx hb dX6_back_25 (by decide) ?_
      exact hR _ _ _ _ _ _ (Option.some.inj hf) hz dX6_back_27
  · have hf := ite_t hf c11
    refine lv_iconst (v := (-1 : Int32)) hx hb dX6_back_14 (by decide) ?_
    exact hR _ _ _ _ _ _ (Option.some.inj hf) hz dX6_back_15
set_option maxHeartbeats 4000000 in
set_option maxRecDepth 100000 in
theorem c6_back {l : Launch} {D : va_G} {cI cZ cB : ClassId} {h : Nat → Nat} {x1 : Int32} {g : Sg} {r : Int32} {g1 : Sg} (hf : f6_back x1 g = some (r, g1)) : KI l D (tyL cI cZ cB) (wM cI cZ h) yX6_back cX6_back 3 (some .int) rm6_back [.ref (h 0), .int x1] g r g1 := by
  refine KI_mk (own := RX6) (by decide +kernel) rfl (Nat.le_of_ble_eq_true rfl) ?_
  intro p e s m below meth c A Q ls C hR hz hl
  have hl : lv_has ls 3 [(0, .ref (h 0)), (1, .int x1)] := hl
  exact w6_back_b0 C hR _ _ _ _ _ hf hz hl
abbrev rm6_count : Room := { frames := 1, cells := 0, slots := 0, locals := 22 }
set_option maxHeartbeats 4000000 in
set_option maxRecDepth 100000 in
theorem w6_count_b0 {res : Int32 × Sg} (C : Cx p m c cX6_count 2 s args RX6 D (tyL cI cZ cB)) (hR : EndI p l e rm6_count s m args below meth c Q D (wM cI cZ h) A cX6_count res) : ∀ (x1 : Int32) (g : Sg) (H : Heap) (locs : List Loc) (ls : Array Slot), f6_count x1 g = some res → Zs D (wM cI cZ h) A s.heap H locs g → lv_has ls 2 [(0, .ref (h 0)), (1, .int x1)] → W p l e rm6_count s m args below meth c H locs 0 0 Q (F0 m 0 ls []) := by
  have hx := C.1.1
  have hb := C.1.2.1
  intro x1 g H locs ls hf hz hl
  unfold f6_count at hf
  refine lv_aload_n hx hb dX6_count_0 rfl (lv_at hl 0 rfl) ?_
  refine lv_iconst (v := (0 : Int32)) hx hb dX6_count_1 (by decide) ?_
  obtain ⟨g1, eg1, hf⟩ := nx_elim hf
  refine p_RX6_74_model C hz eg1 dX6_count_2 (fun H locs hz => ?_)
  refine lv_iload_n hx hb dX6_count_5 rfl (lv_at hl 1 rfl) ?_
  refine lv_iconst (v := (0 : Int32)) hx hb dX6_count_6 (by decide) ?_
  refine lv_iconst (v := (3 : Int32)) hx hb dX6_count_7 (by decide) ?_
  obtain ⟨r4, g3, hc2, hf⟩ := bd2_elim hf
  refine z_SI (As := [.int x1, .int (0 : Int32), .int (3 : Int32)]) (rest := []) C (c6_in hc2) lk_RX6_78 ⟨rfl, rfl, Nat.le_of_ble_eq_true rfl, Nat.le_of_ble_eq_true rfl⟩ ⟨Nat.zero_le _, Nat.zero_le _⟩ rfl (Nat.le_of_ble_eq_true rfl) rfl hl.1 dX6_count_8 hz (fun H locs hz => ?_)
  refine lv_if_eq (tgt := 23) hx hb dX6_count_11 (by decide) (fun c5 => ?_) (fun c5 => ?_)
  · have hf := ite_t hf c5
    refine lv_iload_n hx hb dX6_count_23 rfl (lv_at hl 1 rfl) ?_
    refine lv_iconst (v := (4 : Int32)) hx hb dX6_count_24 (by decide) ?_
    refine lv_icmp_ne (tgt := 35) hx hb dX6_count_25 (by decide) (fun c6 => ?_) (fun c6 => ?_)
    · have hf := ite_f hf c6
      refine lv_iload_n hx hb dX6_count_35 rfl (lv_at hl 1 rfl) ?_
      refine lv_iconst (v := (5 : Int32)) hx hb dX6_count_36 (by decide) ?_
      refine lv_icmp_ne (tgt := 47) hx hb dX6_count_37 (by decide) (fun c7 => ?_) (fun c7 => ?_)
      · have hf := ite_f hf c7
        refine lv_iconst (v := (-1 : Int32)) hx hb dX6_count_47 (by decide) ?_
        exact hR _ _ _ _ _ _ (Option.some.inj hf) hz dX6_count_48
      · have hf := ite_t hf c7
        refine lv_aload_n hx hb dX6_count_40 rfl (lv_at hl 0 rfl) ?_
        refine g_RX6_82_model C hz dX6_count_41 ?_
        refine lv_goto (tgt := 48) hx hb dX6_count_44 (by decide) ?_
        exact hR _ _ _ _ _ _ (Option.some.inj hf) hz dX6_count_48
    · have hf := ite_t hf c6
      refine lv_aload_n hx hb dX6_count_28 rfl (lv_at hl 0 rfl) ?_
      refine g_RX6_139_model C hz dX6_count_29 ?_
      refine lv_goto (tgt := 48) hx hb dX6_count_32 (by decide) ?_
      exact hR _ _ _ _ _ _ (Option.some.inj hf) hz dX6_count_48
  · have hf := ite_f hf c5
    refine lv_aload_n hx hb dX6_count_14 rfl (lv_at hl 0 rfl) ?_
    refine g_RX6_13_model C hz dX6_count_15 ?_
    refine lv_iload_n hx hb dX6_count_18 rfl (lv_at hl 1 rfl) ?_
    obtain ⟨c8, hf⟩ := ix_elim hf
    refine z_iald C hz a_m_many c8 dX6_count_19 ?_
    refine lv_goto (tgt := 48) hx hb dX6_count_20 (by decide) ?_
    exact hR _ _ _ _ _ _ (Option.some.inj hf) hz dX6_count_48
set_option maxHeartbeats 4000000 in
set_option maxRecDepth 100000 in
theorem c6_count {l : Launch} {D : va_G} {cI cZ cB : ClassId} {h : Nat → Nat} {x1 : Int32} {g : Sg} {r : Int32} {g1 : Sg} (hf : f6_count x1 g = some (r, g1)) : KI l D (tyL cI cZ cB) (wM cI cZ h) yX6_count cX6_count 2 (some .int) rm6_count [.ref (h 0), .int x1] g r g1 := by
  refine KI_mk (own := RX6) (by decide +kernel) rfl (Nat.le_of_ble_eq_true rfl) ?_
  intro p e s m below meth c A Q ls C hR hz hl
  have hl : lv_has ls 2 [(0, .ref (h 0)), (1, .int x1)] := hl
  exact w6_count_b0 C hR _ _ _ _ _ hf hz hl
abbrev rm6_trace : Room := { frames := 0, cells := 0, slots := 0, locals := 0 }
set_option maxHeartbeats 4000000 in
set_option maxRecDepth 100000 in
theorem w6_trace_b0 {res : Int64 × Sg} (C : Cx p m c cX6_trace 1 s args RX6 D (tyL cI cZ cB)) (hR : EndL p l e rm6_trace s m args below meth c Q D (wM cI cZ h) A cX6_trace res) : ∀ (g : Sg) (H : Heap) (locs : List Loc) (ls : Array Slot), f6_trace g = some res → Zs D (wM cI cZ h) A s.heap H locs g → lv_has ls 1 [(0, .ref (h 0))] → W p l e rm6_trace s m args below meth c H locs 0 0 Q (F0 m 0 ls []) := by
  have hx := C.1.1
  have hb := C.1.2.1
  intro g H locs ls hf hz hl
  unfold f6_trace at hf
  refine lv_aload_n hx hb dX6_trace_0 rfl (lv_at hl 0 rfl) ?_
  refine lv_iconst (v := (0 : Int32)) hx hb dX6_trace_1 (by decide) ?_
  obtain ⟨g1, eg1, hf⟩ := nx_elim hf
  refine p_RX6_74_model C hz eg1 dX6_trace_2 (fun H locs hz => ?_)
  refine lv_aload_n hx hb dX6_trace_5 rfl (lv_at hl 0 rfl) ?_
  refine g_RX6_205_model C hz dX6_trace_6 ?_
  exact hR _ _ _ _ _ _ (Option.some.inj hf) hz dX6_trace_9
set_option maxHeartbeats 4000000 in
set_option maxRecDepth 100000 in
theorem c6_trace {l : Launch} {D : va_G} {cI cZ cB : ClassId} {h : Nat → Nat} {g : Sg} {r : Int64} {g1 : Sg} (hf : f6_trace g = some (r, g1)) : KL l D (tyL cI cZ cB) (wM cI cZ h) yX6_trace cX6_trace 1 (some .long) rm6_trace [.ref (h 0)] g r g1 := by
  refine KL_mk (own := RX6) (by decide +kernel) rfl (Nat.le_of_ble_eq_true rfl) ?_
  intro p e s m below meth c A Q ls C hR hz hl
  have hl : lv_has ls 1 [(0, .ref (h 0))] := hl
  exact w6_trace_b0 C hR _ _ _ _ hf hz hl
end WK
