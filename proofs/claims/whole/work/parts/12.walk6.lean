section WK
variable {p : Program} {l : Launch} {e : Env} {s : State} {m : MethodId} {args : Array Value} {below : List Frame} {meth : Method} {c : Code} {Q : State → Prop} {D : va_G} {cI cZ cB : ClassId} {A : Nat → Prop} {h : Nat → Nat}
abbrev rm6_drains : Room := { frames := 2, cells := 0, slots := 0, locals := 42 }
set_option maxHeartbeats 4000000 in
set_option maxRecDepth 100000 in
theorem w6_drains_b107 {res : Int32 × Sg} {k55 : Int32 → Int32 → Int32 → Sg → Option (Int32 × Sg)} (C : Cx p m c cX6_drains 4 s args RX6 D (tyL cI cZ cB)) (hR : EndI p l e rm6_drains s m args below meth c Q D (wM cI cZ h) A cX6_drains res) (hk55 : ∀ (x1 : Int32) (x2 : Int32) (x3 : Int32) (g : Sg) (H : Heap) (locs : List Loc) (ls : Array Slot), k55 x1 x2 x3 g = some res → Zs D (wM cI cZ h) A s.heap H locs g → lv_has ls 4 [(0, .ref (h 0)), (1, .int x1), (2, .int x2), (3, .int x3)] → W p l e rm6_drains s m args below meth c H locs 0 0 Q (F0 m 55 ls [])) : ∀ (x1 : Int32) (x2 : Int32) (x3 : Int32) (y0 : Int32) (y1 : Int32) (y2 : Int32) (g : Sg) (H : Heap) (locs : List Loc) (ls : Array Slot), f6_drains_b107 k55 x1 x2 x3 y0 y1 y2 g = some res → Zs D (wM cI cZ h) A s.heap H locs g → lv_has ls 4 [(0, .ref (h 0)), (1, .int x1), (2, .int x2), (3, .int x3)] → W p l e rm6_drains s m args below meth c H locs 0 0 Q (F0 m 107 ls [.int y0, .int y1, .int y2, .ref (h 21)]) := by
  have hx := C.1.1
  have hb := C.1.2.1
  intro x1 x2 x3 y0 y1 y2 g H locs ls hf hz hl
  unfold f6_drains_b107 at hf
  refine lv_iadd hx hb dX6_drains_107 ?_
  obtain ⟨c1, hf⟩ := ix_elim hf
  obtain ⟨g2, eg2, hf⟩ := nx_elim hf
  refine z_iast C hz a_m_s c1 eg2 dX6_drains_108 (fun H locs hz => ?_)
  obtain ⟨v3, ev3, hf⟩ := nx_elim hf
  refine lv_iinc (v := v3) (lv' := [(3, .int v3), (0, .ref (h 0)), (1, .int x1), (2, .int x2)]) hx hb dX6_drains_109 hl (k := 3) rfl (by rw [ev3]; rfl) (by decide) rfl (fun ls hl => ?_)
  refine lv_goto (tgt := 55) hx hb dX6_drains_112 (by decide) ?_
  exact hk55 _ _ _ _ _ _ _ hf hz (lv_sub hl [1, 2, 3, 0] rfl)
set_option maxHeartbeats 4000000 in
set_option maxRecDepth 100000 in
theorem w6_drains_b106 {res : Int32 × Sg} {k55 : Int32 → Int32 → Int32 → Sg → Option (Int32 × Sg)} (C : Cx p m c cX6_drains 4 s args RX6 D (tyL cI cZ cB)) (hR : EndI p l e rm6_drains s m args below meth c Q D (wM cI cZ h) A cX6_drains res) (hk55 : ∀ (x1 : Int32) (x2 : Int32) (x3 : Int32) (g : Sg) (H : Heap) (locs : List Loc) (ls : Array Slot), k55 x1 x2 x3 g = some res → Zs D (wM cI cZ h) A s.heap H locs g → lv_has ls 4 [(0, .ref (h 0)), (1, .int x1), (2, .int x2), (3, .int x3)] → W p l e rm6_drains s m args below meth c H locs 0 0 Q (F0 m 55 ls [])) : ∀ (x1 : Int32) (x2 : Int32) (x3 : Int32) (y0 : Int32) (y1 : Int32) (g : Sg) (H : Heap) (locs : List Loc) (ls : Array Slot), f6_drains_b106 k55 x1 x2 x3 y0 y1 g = some res → Zs D (wM cI cZ h) A s.heap H locs g → lv_has ls 4 [(0, .ref (h 0)), (1, .int x1), (2, .int x2), (3, .int x3)] → W p l e rm6_drains s m args below meth c H locs 0 0 Q (F0 m 106 ls [.int y0, .int y1, .ref (h 21)]) := by
  have hx := C.1.1
  have hb := C.1.2.1
  intro x1 x2 x3 y0 y1 g H locs ls hf hz hl
  unfold f6_drains_b106 at hf
  refine lv_iconst (v := (0 : Int32)) hx hb dX6_drains_106 (by decide) ?_
  exact w6_drains_b107 C hR hk55 _ _ _ _ _ _ _ _ _ _ hf hz (lv_sub hl [0, 1, 2, 3] rfl)
set_option maxHeartbeats 4000000 in
set_option maxRecDepth 100000 in
theorem w6_drains_b55 {res : Int32 × Sg} (C : Cx p m c cX6_drains 4 s args RX6 D (tyL cI cZ cB)) (hR : EndI p l e rm6_drains s m args below meth c Q D (wM cI cZ h) A cX6_drains res) : ∀ n : Nat, ∀ (x1 : Int32) (x2 : Int32) (x3 : Int32) (g : Sg) (H : Heap) (locs : List Loc) (ls : Array Slot), f6_drains_b55 n x1 x2 x3 g = some res → Zs D (wM cI cZ h) A s.heap H locs g → lv_has ls 4 [(0, .ref (h 0)), (1, .int x1), (2, .int x2), (3, .int x3)] → W p l e rm6_drains s m args below meth c H locs 0 0 Q (F0 m 55 ls []) := by
  have hx := C.1.1
  have hb := C.1.2.1
  intro n
  induction n with
  | zero =>
    intro x1 x2 x3 g H locs ls hf hz hl
    cases hf
  | succ n ih =>
    intro x1 x2 x3 g H locs ls hf hz hl
    rw [f6_drains_b55] at hf
    refine lv_iload_n hx hb dX6_drains_55 rfl (lv_at hl 3 rfl) ?_
    refine lv_aload_n hx hb dX6_drains_56 rfl (lv_at hl 0 rfl) ?_
    refine g_RX6_13_model C hz dX6_drains_57 ?_
    refine lv_iconst (v := (1 : Int32)) hx hb dX6_drains_60 (by decide) ?_
    refine z_ialdL C hz a_m_many (vpl (n := 1) (by decide) (by decide)) (k := 1) (by decide) dX6_drains_61 ?_
    refine lv_icmp_ge (tgt := 115) hx hb dX6_drains_62 (by decide) (fun c4 => ?_) (fun c4 => ?_)
    · have hf := ite_t hf c4
      refine lv_iload_n hx hb dX6_drains_115 rfl (lv_at hl 2 rfl) ?_
      exact hR _ _ _ _ _ _ (Option.some.inj hf) hz dX6_drains_116
    · have hf := ite_f hf c4
      refine lv_aload_n hx hb dX6_drains_65 rfl (lv_at hl 0 rfl) ?_
      refine g_RX6_46_model C hz dX6_drains_66 ?_
      refine lv_bipush (v := (29 : Int32)) hx hb dX6_drains_69 (by decide) ?_
      refine lv_iload_n hx hb dX6_drains_71 rfl (lv_at hl 3 rfl) ?_
      refine lv_iadd hx hb dX6_drains_72 ?_
      refine lv_dup2_11 hx hb dX6_drains_73 rfl rfl ?_
      obtain ⟨c5, hf⟩ := ix_elim hf
      refine z_iald C hz a_m_s c5 dX6_drains_74 ?_
      refine lv_aload_n hx hb dX6_drains_75 rfl (lv_at hl 0 rfl) ?_
      refine lv_iload_n hx hb dX6_drains_76 rfl (lv_at hl 1 rfl) ?_
      obtain ⟨r8, g7, hc6, hf⟩ := bd2_elim hf
      refine z_VI (As := [.int x1]) (rest := [.int (g.1 21 ((((29 : Int32) + x3)).toNatClampNeg)), .int ((29 : Int32) + x3), .ref (h 21)]) C (c6_lyingIn hc6) lk_RX6_164 ⟨rfl, rfl, Nat.le_of_ble_eq_true rfl, Nat.le_of_ble_eq_true rfl⟩ ⟨Nat.zero_le _, Nat.zero_le _⟩ o_model rfl rfl (Nat.le_of_ble_eq_true rfl) rfl hl.1 dX6_drains_77 hz (fun H locs hz => ?_)
      refine lv_iload_n hx hb dX6_drains_80 rfl (lv_at hl 3 rfl) ?_
      refine lv_ishr hx hb dX6_drains_81 ?_
      refine lv_iconst (v := (1 : Int32)) hx hb dX6_drains_82 (by decide) ?_
      refine lv_iand hx hb dX6_drains_83 ?_
      refine lv_iconst (v := (1 : Int32)) hx hb dX6_drains_84 (by decide) ?_
      refine lv_icmp_ne (tgt := 106) hx hb dX6_drains_85 (by decide) (fun c9 => ?_) (fun c9 => ?_)
      · have hf := ite_f hf c9
        exact w6_drains_b106 C hR ih _ _ _ _ _ _ _ _ _ hf hz (lv_sub hl [0, 1, 2, 3] rfl)
      · have hf := ite_t hf c9
        refine lv_aload_n hx hb dX6_drains_88 rfl (lv_at hl 0 rfl) ?_
        refine g_RX6_46_model C hz dX6_drains_89 ?_
        refine lv_bipush (v := (29 : Int32)) hx hb dX6_drains_92 (by decide) ?_
        refine lv_iload_n hx hb dX6_drains_94 rfl (lv_at hl 3 rfl) ?_
        refine lv_iadd hx hb dX6_drains_95 ?_
        obtain ⟨c10, hf⟩ := ix_elim hf
        refine z_iald C hz a_m_s c10 dX6_drains_96 ?_
        refine lv_bipush (v := (9 : Int32)) hx hb dX6_drains_97 (by decide) ?_
        refine lv_icmp_ge (tgt := 106) hx hb dX6_drains_99 (by decide) (fun c11 => ?_) (fun c11 => ?_)
        · have hf := ite_t hf c11
          exact w6_drains_b106 C hR ih _ _ _ _ _ _ _ _ _ hf hz (lv_sub hl [0, 1, 2, 3] rfl)
        · have hf := ite_f hf c11
          refine lv_iconst (v := (1 : Int32)) hx hb dX6_drains_102 (by decide) ?_
          refine lv_goto (tgt := 107) hx hb dX6_drains_103 (by decide) ?_
          exact w6_drains_b107 C hR ih _ _ _ _ _ _ _ _ _ _ hf hz (lv_sub hl [0, 1, 2, 3] rfl)
set_option maxHeartbeats 4000000 in
set_option maxRecDepth 100000 in
theorem w6_drains_b0 {res : Int32 × Sg} (C : Cx p m c cX6_drains 4 s args RX6 D (tyL cI cZ cB)) (hR : EndI p l e rm6_drains s m args below meth c Q D (wM cI cZ h) A cX6_drains res) : ∀ (x1 : Int32) (g : Sg) (H : Heap) (locs : List Loc) (ls : Array Slot), f6_drains x1 g = some res → Zs D (wM cI cZ h) A s.heap H locs g → lv_has ls 4 [(0, .ref (h 0)), (1, .int x1)] → W p l e rm6_drains s m args below meth c H locs 0 0 Q (F0 m 0 ls []) := by
  have hx := C.1.1
  have hb := C.1.2.1
  intro x1 g H locs ls hf hz hl
  unfold f6_drains at hf
  refine lv_aload_n hx hb dX6_drains_0 rfl (lv_at hl 0 rfl) ?_
  refine lv_iconst (v := (0 : Int32)) hx hb dX6_drains_1 (by decide) ?_
  obtain ⟨g12, eg12, hf⟩ := nx_elim hf
  refine p_RX6_74_model C hz eg12 dX6_drains_2 (fun H locs hz => ?_)
  refine lv_iload_n hx hb dX6_drains_5 rfl (lv_at hl 1 rfl) ?_
  obtain ⟨r15, g14, hc13, hf⟩ := bd2_elim hf
  refine z_SI (As := [.int x1]) (rest := []) C (c6_isCell hc13) lk_RX6_161 ⟨rfl, rfl, Nat.le_of_ble_eq_true rfl, Nat.le_of_ble_eq_true rfl⟩ ⟨Nat.zero_le _, Nat.zero_le _⟩ rfl (Nat.le_of_ble_eq_true rfl) rfl hl.1 dX6_drains_6 hz (fun H locs hz => ?_)
  refine lv_if_ne (tgt := 14) hx hb dX6_drains_9 (by decide) (fun c16 => ?_) (fun c16 => ?_)
  · have hf := ite_f hf c16
    refine lv_aload_n hx hb dX6_drains_14 rfl (lv_at hl 0 rfl) ?_
    refine g_RX6_46_model C hz dX6_drains_15 ?_
    refine lv_bipush (v := (7 : Int32)) hx hb dX6_drains_18 (by decide) ?_
    refine lv_iload_n hx hb dX6_drains_20 rfl (lv_at hl 1 rfl) ?_
    refine lv_iadd hx hb dX6_drains_21 ?_
    obtain ⟨c17, hf⟩ := ix_elim hf
    refine z_iald C hz a_m_s c17 dX6_drains_22 ?_
    refine lv_if_ne (tgt := 29) hx hb dX6_drains_23 (by decide) (fun c18 => ?_) (fun c18 => ?_)
    · have hf := ite_f hf c18
      refine lv_aload_n hx hb dX6_drains_29 rfl (lv_at hl 0 rfl) ?_
      obtain ⟨g20, hc19, hf⟩ := bd_elim hf
      refine z_VV (As := []) (rest := []) C (c6_notes hc19) lk_RX6_173 ⟨rfl, rfl, Nat.le_of_ble_eq_true rfl, Nat.le_of_ble_eq_true rfl⟩ ⟨Nat.zero_le _, Nat.zero_le _⟩ o_model rfl rfl (Nat.le_of_ble_eq_true rfl) rfl hl.1 dX6_drains_30 hz (fun H locs hz => ?_)
      refine lv_aload_n hx hb dX6_drains_33 rfl (lv_at hl 0 rfl) ?_
      refine g_RX6_46_model C hz dX6_drains_34 ?_
      refine lv_bipush (v := (7 : Int32)) hx hb dX6_drains_37 (by decide) ?_
      refine lv_iload_n hx hb dX6_drains_39 rfl (lv_at hl 1 rfl) ?_
      refine lv_iadd hx hb dX6_drains_40 ?_
      obtain ⟨c21, hf⟩ := ix_elim hf
      refine z_iald C hz a_m_s c21 dX6_drains_41 ?_
      obtain ⟨v22, ev22, hf⟩ := nx_elim hf
      refine z_nm ev22 ?_
      refine lv_istore_n (lv' := [(2, .int v22), (0, .ref (h 0)), (1, .int x1)]) hx hb dX6_drains_42 rfl hl (by decide) rfl (fun ls hl => ?_)
      refine lv_aload_n hx hb dX6_drains_43 rfl (lv_at hl 1 rfl) ?_
      refine g_RX6_46_model C hz dX6_drains_44 ?_
      refine lv_bipush (v := (7 : Int32)) hx hb dX6_drains_47 (by decide) ?_
      refine lv_iload_n hx hb dX6_drains_49 rfl (lv_at hl 2 rfl) ?_
      refine lv_iadd hx hb dX6_drains_50 ?_
      refine lv_iconst (v := (0 : Int32)) hx hb dX6_drains_51 (by decide) ?_
      obtain ⟨c23, hf⟩ := ix_elim hf
      obtain ⟨g24, eg24, hf⟩ := nx_elim hf
      refine z_iast C hz a_m_s c23 eg24 dX6_drains_52 (fun H locs hz => ?_)
      refine lv_iconst (v := (0 : Int32)) hx hb dX6_drains_53 (by decide) ?_
      refine lv_istore_n (lv' := [(3, .int (0 : Int32)), (2, .int v22), (0, .ref (h 0)), (1, .int x1)]) hx hb dX6_drains_54 rfl hl (by decide) rfl (fun ls hl => ?_)
      exact w6_drains_b55 C hR 1000 _ _ _ _ _ _ _ hf hz (lv_sub hl [2, 3, 1, 0] rfl)
    · have hf := ite_t hf c18
      refine lv_bipush (v := (-2 : Int32)) hx hb dX6_drains_26 (by decide) ?_
      exact hR _ _ _ _ _ _ (Option.some.inj hf) hz dX6_drains_28
  · have hf := ite_t hf c16
    refine lv_iconst (v := (-1 : Int32)) hx hb dX6_drains_12 (by decide) ?_
    exact hR _ _ _ _ _ _ (Option.some.inj hf) hz dX6_drains_13
set_option maxHeartbeats 4000000 in
set_option maxRecDepth 100000 in
theorem c6_drains {l : Launch} {D : va_G} {cI cZ cB : ClassId} {h : Nat → Nat} {x1 : Int32} {g : Sg} {r : Int32} {g1 : Sg} (hf : f6_drains x1 g = some (r, g1)) : KI l D (tyL cI cZ cB) (wM cI cZ h) yX6_drains cX6_drains 4 (some .int) rm6_drains [.ref (h 0), .int x1] g r g1 := by
  refine KI_mk (own := RX6) (by decide +kernel) rfl (Nat.le_of_ble_eq_true rfl) ?_
  intro p e s m below meth c A Q ls C hR hz hl
  have hl : lv_has ls 4 [(0, .ref (h 0)), (1, .int x1)] := hl
  exact w6_drains_b0 C hR _ _ _ _ _ hf hz hl
abbrev rm6_does : Room := { frames := 2, cells := 0, slots := 0, locals := 43 }
set_option maxHeartbeats 4000000 in
set_option maxRecDepth 100000 in
theorem w6_does_b0 {res : Int32 × Sg} (C : Cx p m c cX6_does 2 s args RX6 D (tyL cI cZ cB)) (hR : EndI p l e rm6_does s m args below meth c Q D (wM cI cZ h) A cX6_does res) : ∀ (x1 : Int32) (g : Sg) (H : Heap) (locs : List Loc) (ls : Array Slot), f6_does x1 g = some res → Zs D (wM cI cZ h) A s.heap H locs g → lv_has ls 2 [(0, .ref (h 0)), (1, .int x1)] → W p l e rm6_does s m args below meth c H locs 0 0 Q (F0 m 0 ls []) := by
  have hx := C.1.1
  have hb := C.1.2.1
  intro x1 g H locs ls hf hz hl
  unfold f6_does at hf
  refine lv_aload_n hx hb dX6_does_0 rfl (lv_at hl 0 rfl) ?_
  refine lv_iconst (v := (0 : Int32)) hx hb dX6_does_1 (by decide) ?_
  obtain ⟨g1, eg1, hf⟩ := nx_elim hf
  refine p_RX6_74_model C hz eg1 dX6_does_2 (fun H locs hz => ?_)
  refine lv_aload_n hx hb dX6_does_5 rfl (lv_at hl 0 rfl) ?_
  refine lv_iload_n hx hb dX6_does_6 rfl (lv_at hl 1 rfl) ?_
  obtain ⟨r4, g3, hc2, hf⟩ := bd2_elim hf
  refine z_VI (As := [.int x1]) (rest := []) C (c6_isPromise hc2) lk_RX6_148 ⟨rfl, rfl, Nat.le_of_ble_eq_true rfl, Nat.le_of_ble_eq_true rfl⟩ ⟨Nat.zero_le _, Nat.zero_le _⟩ o_model rfl rfl (Nat.le_of_ble_eq_true rfl) rfl hl.1 dX6_does_7 hz (fun H locs hz => ?_)
  refine lv_if_ne (tgt := 15) hx hb dX6_does_10 (by decide) (fun c5 => ?_) (fun c5 => ?_)
  · have hf := ite_f hf c5
    refine lv_aload_n hx hb dX6_does_15 rfl (lv_at hl 0 rfl) ?_
    refine g_RX6_46_model C hz dX6_does_16 ?_
    refine lv_bipush (v := (13 : Int32)) hx hb dX6_does_19 (by decide) ?_
    refine lv_iload_n hx hb dX6_does_21 rfl (lv_at hl 1 rfl) ?_
    refine lv_iadd hx hb dX6_does_22 ?_
    obtain ⟨c6, hf⟩ := ix_elim hf
    refine z_iald C hz a_m_s c6 dX6_does_23 ?_
    refine lv_iconst (v := (1 : Int32)) hx hb dX6_does_24 (by decide) ?_
    refine lv_icmp_ne (tgt := 43) hx hb dX6_does_25 (by decide) (fun c7 => ?_) (fun c7 => ?_)
    · have hf := ite_f hf c7
      refine lv_bipush (v := (-2 : Int32)) hx hb dX6_does_43 (by decide) ?_
      exact hR _ _ _ _ _ _ (Option.some.inj hf) hz dX6_does_45
    · have hf := ite_t hf c7
      refine lv_aload_n hx hb dX6_does_28 rfl (lv_at hl 0 rfl) ?_
      refine g_RX6_43_model C hz dX6_does_29 ?_
      refine lv_iload_n hx hb dX6_does_32 rfl (lv_at hl 1 rfl) ?_
      obtain ⟨c8, hf⟩ := ix_elim hf
      refine z_iald C hz a_m_clash c8 dX6_does_33 ?_
      refine lv_aload_n hx hb dX6_does_34 rfl (lv_at hl 0 rfl) ?_
      refine lv_iconst (v := (2 : Int32)) hx hb dX6_does_35 (by decide) ?_
      obtain ⟨r11, g10, hc9, hf⟩ := bd2_elim hf
      refine z_VI (As := [.int (2 : Int32)]) (rest := [.int (g3.1 20 (x1.toNatClampNeg))]) C (c6_those hc9) lk_RX6_170 ⟨rfl, rfl, Nat.le_of_ble_eq_true rfl, Nat.le_of_ble_eq_true rfl⟩ ⟨Nat.zero_le _, Nat.zero_le _⟩ o_model rfl rfl (Nat.le_of_ble_eq_true rfl) rfl hl.1 dX6_does_36 hz (fun H locs hz => ?_)
      refine lv_iand hx hb dX6_does_39 ?_
      refine lv_if_eq (tgt := 46) hx hb dX6_does_40 (by decide) (fun c12 => ?_) (fun c12 => ?_)
      · have hf := ite_t hf c12
        refine lv_aload_n hx hb dX6_does_46 rfl (lv_at hl 0 rfl) ?_
        obtain ⟨g14, hc13, hf⟩ := bd_elim hf
        refine z_VV (As := []) (rest := []) C (c6_notes hc13) lk_RX6_173 ⟨rfl, rfl, Nat.le_of_ble_eq_true rfl, Nat.le_of_ble_eq_true rfl⟩ ⟨Nat.zero_le _, Nat.zero_le _⟩ o_model rfl rfl (Nat.le_of_ble_eq_true rfl) rfl hl.1 dX6_does_47 hz (fun H locs hz => ?_)
        refine lv_aload_n hx hb dX6_does_50 rfl (lv_at hl 0 rfl) ?_
        refine g_RX6_46_model C hz dX6_does_51 ?_
        refine lv_bipush (v := (13 : Int32)) hx hb dX6_does_54 (by decide) ?_
        refine lv_iload_n hx hb dX6_does_56 rfl (lv_at hl 1 rfl) ?_
        refine lv_iadd hx hb dX6_does_57 ?_
        refine lv_iconst (v := (2 : Int32)) hx hb dX6_does_58 (by decide) ?_
        obtain ⟨c15, hf⟩ := ix_elim hf
        obtain ⟨g16, eg16, hf⟩ := nx_elim hf
        refine z_iast C hz a_m_s c15 eg16 dX6_does_59 (fun H locs hz => ?_)
        refine lv_aload_n hx hb dX6_does_60 rfl (lv_at hl 0 rfl) ?_
        refine lv_iconst (v := (2 : Int32)) hx hb dX6_does_61 (by decide) ?_
        obtain ⟨r19, g18, hc17, hf⟩ := bd2_elim hf
        refine z_VI (As := [.int (2 : Int32)]) (rest := []) C (c6_those hc17) lk_RX6_170 ⟨rfl, rfl, Nat.le_of_ble_eq_true rfl, Nat.le_of_ble_eq_true rfl⟩ ⟨Nat.zero_le _, Nat.zero_le _⟩ o_model rfl rfl (Nat.le_of_ble_eq_true rfl) rfl hl.1 dX6_does_62 hz (fun H locs hz => ?_)
        obtain ⟨r22, g21, hc20, hf⟩ := bd2_elim hf
        refine z_SI (As := [.int r19]) (rest := []) C (c6_ones hc20) lk_RX6_176 ⟨rfl, rfl, Nat.le_of_ble_eq_true rfl, Nat.le_of_ble_eq_true rfl⟩ ⟨Nat.zero_le _, Nat.zero_le _⟩ rfl (Nat.le_of_ble_eq_true rfl) rfl hl.1 dX6_does_65 hz (fun H locs hz => ?_)
        exact hR _ _ _ _ _ _ (Option.some.inj hf) hz dX6_does_68
      · have hf := ite_f hf c12
        refine lv_bipush (v := (-2 : Int32)) hx hb dX6_does_43 (by decide) ?_
        exact hR _ _ _ _ _ _ (Option.some.inj hf) hz dX6_does_45
  · have hf := ite_t hf c5
    refine lv_iconst (v := (-1 : Int32)) hx hb dX6_does_13 (by decide) ?_
    exact hR _ _ _ _ _ _ (Option.some.inj hf) hz dX6_does_14
set_option maxHeartbeats 4000000 in
set_option maxRecDepth 100000 in
theorem c6_does {l : Launch} {D : va_G} {cI cZ cB : ClassId} {h : Nat → Nat} {x1 : Int32} {g : Sg} {r : Int32} {g1 : Sg} (hf : f6_does x1 g = some (r, g1)) : KI l D (tyL cI cZ cB) (wM cI cZ h) yX6_does cX6_does 2 (some .int) rm6_does [.ref (h 0), .int x1] g r g1 := by
  refine KI_mk (own := RX6) (by decide +kernel) rfl (Nat.le_of_ble_eq_true rfl) ?_
  intro p e s m below meth c A Q ls C hR hz hl
  have hl : lv_has ls 2 [(0, .ref (h 0)), (1, .int x1)] := hl
  exact w6_does_b0 C hR _ _ _ _ _ hf hz hl
abbrev rm6_year : Room := { frames := 1, cells := 0, slots := 0, locals := 23 }
set_option maxHeartbeats 4000000 in
set_option maxRecDepth 100000 in
theorem w6_year_b147 {res : Int32 × Sg} {k66 : Int32 → Int32 → Int32 → Sg → Option (Int32 × Sg)} (C : Cx p m c cX6_year 5 s args RX6 D (tyL cI cZ cB)) (hR : EndI p l e rm6_year s m args below meth c Q D (wM cI cZ h) A cX6_year res) (hk66 : ∀ (x1 : Int32) (x2 : Int32) (x3 : Int32) (g : Sg) (H : Heap) (locs : List Loc) (ls : Array Slot), k66 x1 x2 x3 g = some res → Zs D (wM cI cZ h) A s.heap H locs g → lv_has ls 5 [(0, .ref (h 0)), (1, .int x1), (2, .int x2), (3, .int x3)] → W p l e rm6_year s m args below meth c H locs 0 0 Q (F0 m 66 ls [])) : ∀ (x1 : Int32) (x3 : Int32) (y0 : Int32) (y1 : Int32) (g : Sg) (H : Heap) (locs : List Loc) (ls : Array Slot), f6_year_b147 k66 x1 x3 y0 y1 g = some res → Zs D (wM cI cZ h) A s.heap H locs g → lv_has ls 5 [(0, .ref (h 0)), (1, .int x1), (3, .int x3)] → W p l e rm6_year s m args below meth c H locs 0 0 Q (F0 m 147 ls [.int y0, .int y1]) := by
  have hx := C.1.1
  have hb := C.1.2.1
  intro x1 x3 y0 y1 g H locs ls hf hz hl
  unfold f6_year_b147 at hf
  refine lv_iadd hx hb dX6_year_147 ?_
  obtain ⟨v1, ev1, hf⟩ := nx_elim hf
  refine z_nm ev1 ?_
  refine lv_istore_n (lv' := [(2, .int v1), (0, .ref (h 0)), (1, .int x1), (3, .int x3)]) hx hb dX6_year_148 rfl hl (by decide) rfl (fun ls hl => ?_)
  obtain ⟨v2, ev2, hf⟩ := nx_elim hf
  refine lv_iinc (v := v2) (lv' := [(3, .int v2), (2, .int v1), (0, .ref (h 0)), (1, .int x1)]) hx hb dX6_year_149 hl (k := 3) rfl (by rw [ev2]; rfl) (by decide) rfl (fun ls hl => ?_)
  refine lv_goto (tgt := 66) hx hb dX6_year_152 (by decide) ?_
  exact hk66 _ _ _ _ _ _ _ hf hz (lv_sub hl [2, 3, 1, 0] rfl)
set_option maxHeartbeats 4000000 in
set_option maxRecDepth 100000 in
theorem w6_year_b135 {res : Int32 × Sg} {k66 : Int32 → Int32 → Int32 → Sg → Option (Int32 × Sg)} (C : Cx p m c cX6_year 5 s args RX6 D (tyL cI cZ cB)) (hR : EndI p l e rm6_year s m args below meth c Q D (wM cI cZ h) A cX6_year res) (hk66 : ∀ (x1 : Int32) (x2 : Int32) (x3 : Int32) (g : Sg) (H : Heap) (locs : List Loc) (ls : Array Slot), k66 x1 x2 x3 g = some res → Zs D (wM cI cZ h) A s.heap H locs g → lv_has ls 5 [(0, .ref (h 0)), (1, .int x1), (2, .int x2), (3, .int x3)] → W p l e rm6_year s m args below meth c H locs 0 0 Q (F0 m 66 ls [])) : ∀ (x1 : Int32) (x2 : Int32) (x3 : Int32) (x4 : Int32) (y0 : Int32) (y1 : Int32) (g : Sg) (H : Heap) (locs : List Loc) (ls : Array Slot), f6_year_b135 k66 x1 x2 x3 x4 y0 y1 g = some res → Zs D (wM cI cZ h) A s.heap H locs g → lv_has ls 5 [(0, .ref (h 0)), (1, .int x1), (2, .int x2), (3, .int x3), (4, .int x4)] → W p l e rm6_year s m args below meth c H locs 0 0 Q (F0 m 135 ls [.int y0, .int y1, .ref (h 21)]) := by
  have hx := C.1.1
  have hb := C.1.2.1
  intro x1 x2 x3 x4 y0 y1 g H locs ls hf hz hl
  unfold f6_year_b135 at hf
  obtain ⟨c3, hf⟩ := ix_elim hf
  obtain ⟨g4, eg4, hf⟩ := nx_elim hf
  refine z_iast C hz a_m_s c3 eg4 dX6_year_135 (fun H locs hz => ?_)
  refine lv_iload_n hx hb dX6_year_136 rfl (lv_at hl 2 rfl) ?_
  refine lv_iload hx hb dX6_year_137 (lv_at hl 4 rfl) ?_
  refine lv_if_eq (tgt := 146) hx hb dX6_year_139 (by decide) (fun c5 => ?_) (fun c5 => ?_)
  · have hf := ite_t hf c5
    refine lv_iconst (v := (0 : Int32)) hx hb dX6_year_146 (by decide) ?_
    exact w6_year_b147 C hR hk66 _ _ _ _ _ _ _ _ hf hz (lv_sub hl [0, 1, 3] rfl)
  · have hf := ite_f hf c5
    refine lv_iconst (v := (1 : Int32)) hx hb dX6_year_142 (by decide) ?_
    refine lv_goto (tgt := 147) hx hb dX6_year_143 (by decide) ?_
    exact w6_year_b147 C hR hk66 _ _ _ _ _ _ _ _ hf hz (lv_sub hl [0, 1, 3] rfl)
set_option maxHeartbeats 4000000 in
set_option maxRecDepth 100000 in
theorem w6_year_b107 {res : Int32 × Sg} {k66 : Int32 → Int32 → Int32 → Sg → Option (Int32 × Sg)} (C : Cx p m c cX6_year 5 s args RX6 D (tyL cI cZ cB)) (hR : EndI p l e rm6_year s m args below meth c Q D (wM cI cZ h) A cX6_year res) (hk66 : ∀ (x1 : Int32) (x2 : Int32) (x3 : Int32) (g : Sg) (H : Heap) (locs : List Loc) (ls : Array Slot), k66 x1 x2 x3 g = some res → Zs D (wM cI cZ h) A s.heap H locs g → lv_has ls 5 [(0, .ref (h 0)), (1, .int x1), (2, .int x2), (3, .int x3)] → W p l e rm6_year s m args below meth c H locs 0 0 Q (F0 m 66 ls [])) : ∀ (x1 : Int32) (x2 : Int32) (x3 : Int32) (y0 : Int32) (g : Sg) (H : Heap) (locs : List Loc) (ls : Array Slot), f6_year_b107 k66 x1 x2 x3 y0 g = some res → Zs D (wM cI cZ h) A s.heap H locs g → lv_has ls 5 [(0, .ref (h 0)), (1, .int x1), (2, .int x2), (3, .int x3)] → W p l e rm6_year s m args below meth c H locs 0 0 Q (F0 m 107 ls [.int y0]) := by
  have hx := C.1.1
  have hb := C.1.2.1
  intro x1 x2 x3 y0 g H locs ls hf hz hl
  unfold f6_year_b107 at hf
  refine lv_istore (lv' := [(4, .int y0), (0, .ref (h 0)), (1, .int x1), (2, .int x2), (3, .int x3)]) hx hb dX6_year_107 hl (by decide) rfl (fun ls hl => ?_)
  refine lv_aload_n hx hb dX6_year_109 rfl (lv_at hl 1 rfl) ?_
  refine g_RX6_46_model C hz dX6_year_110 ?_
  refine lv_bipush (v := (13 : Int32)) hx hb dX6_year_113 (by decide) ?_
  refine lv_iload_n hx hb dX6_year_115 rfl (lv_at hl 4 rfl) ?_
  refine lv_iadd hx hb dX6_year_116 ?_
  refine lv_iload hx hb dX6_year_117 (lv_at hl 0 rfl) ?_
  refine lv_if_eq (tgt := 126) hx hb dX6_year_119 (by decide) (fun c6 => ?_) (fun c6 => ?_)
  · have hf := ite_t hf c6
    refine lv_aload_n hx hb dX6_year_126 rfl (lv_at hl 1 rfl) ?_
    refine g_RX6_46_model C hz dX6_year_127 ?_
    refine lv_bipush (v := (13 : Int32)) hx hb dX6_year_130 (by decide) ?_
    refine lv_iload_n hx hb dX6_year_132 rfl (lv_at hl 4 rfl) ?_
    refine lv_iadd hx hb dX6_year_133 ?_
    obtain ⟨c7, hf⟩ := ix_elim hf
    refine z_iald C hz a_m_s c7 dX6_year_134 ?_
    exact w6_year_b135 C hR hk66 _ _ _ _ _ _ _ _ _ _ hf hz (lv_sub hl [1, 2, 3, 4, 0] rfl)
  · have hf := ite_f hf c6
    refine lv_iconst (v := (3 : Int32)) hx hb dX6_year_122 (by decide) ?_
    refine lv_goto (tgt := 135) hx hb dX6_year_123 (by decide) ?_
    exact w6_year_b135 C hR hk66 _ _ _ _ _ _ _ _ _ _ hf hz (lv_sub hl [1, 2, 3, 4, 0] rfl)
set_option maxHeartbeats 4000000 in
set_option maxRecDepth 100000 in
theorem w6_year_b106 {res : Int32 × Sg} {k66 : Int32 → Int32 → Int32 → Sg → Option (Int32 × Sg)} (C : Cx p m c cX6_year 5 s args RX6 D (tyL cI cZ cB)) (hR : EndI p l e rm6_year s m args below meth c Q D (wM cI cZ h) A cX6_year res) (hk66 : ∀ (x1 : Int32) (x2 : Int32) (x3 : Int32) (g : Sg) (H : Heap) (locs : List Loc) (ls : Array Slot), k66 x1 x2 x3 g = some res → Zs D (wM cI cZ h) A s.heap H locs g → lv_has ls 5 [(0, .ref (h 0)), (1, .int x1), (2, .int x2), (3, .int x3)] → W p l e rm6_year s m args below meth c H locs 0 0 Q (F0 m 66 ls [])) : ∀ (x1 : Int32) (x2 : Int32) (x3 : Int32) (g : Sg) (H : Heap) (locs : List Loc) (ls : Array Slot), f6_year_b106 k66 x1 x2 x3 g = some res → Zs D (wM cI cZ h) A s.heap H locs g → lv_has ls 5 [(0, .ref (h 0)), (1, .int x1), (2, .int x2), (3, .int x3)] → W p l e rm6_year s m args below meth c H locs 0 0 Q (F0 m 106 ls []) := by
  have hx := C.1.1
  have hb := C.1.2.1
  intro x1 x2 x3 g H locs ls hf hz hl
  unfold f6_year_b106 at hf
  refine lv_iconst (v := (0 : Int32)) hx hb dX6_year_106 (by decide) ?_
  exact w6_year_b107 C hR hk66 _ _ _ _ _ _ _ _ hf hz (lv_sub hl [0, 1, 2, 3] rfl)
set_option maxHeartbeats 4000000 in
set_option maxRecDepth 100000 in
theorem w6_year_b66 {res : Int32 × Sg} (C : Cx p m c cX6_year 5 s args RX6 D (tyL cI cZ cB)) (hR : EndI p l e rm6_year s m args below meth c Q D (wM cI cZ h) A cX6_year res) : ∀ n : Nat, ∀ (x1 : Int32) (x2 : Int32) (x3 : Int32) (g : Sg) (H : Heap) (locs : List Loc) (ls : Array Slot), f6_year_b66 n x1 x2 x3 g = some res → Zs D (wM cI cZ h) A s.heap H locs g → lv_has ls 5 [(0, .ref (h 0)), (1, .int x1), (2, .int x2), (3, .int x3)] → W p l e rm6_year s m args below meth c H locs 0 0 Q (F0 m 66 ls []) := by
  have hx := C.1.1
  have hb := C.1.2.1
  intro n
  induction n with
  | zero =>
    intro x1 x2 x3 g H locs ls hf hz hl
    cases hf
  | succ n ih =>
    intro x1 x2 x3 g H locs ls hf hz hl
    rw [f6_year_b66] at hf
    refine lv_iload_n hx hb dX6_year_66 rfl (lv_at hl 3 rfl) ?_
    refine lv_aload_n hx hb dX6_year_67 rfl (lv_at hl 0 rfl) ?_
    refine g_RX6_13_model C hz dX6_year_68 ?_
    refine lv_iconst (v := (1 : Int32)) hx hb dX6_year_71 (by decide) ?_
    refine z_ialdL C hz a_m_many (vpl (n := 1) (by decide) (by decide)) (k := 1) (by decide) dX6_year_72 ?_
    refine lv_icmp_ge (tgt := 155) hx hb dX6_year_73 (by decide) (fun c8 => ?_) (fun c8 => ?_)
    · have hf := ite_t hf c8
      refine lv_aload_n hx hb dX6_year_155 rfl (lv_at hl 0 rfl) ?_
      refine g_RX6_46_model C hz dX6_year_156 ?_
      refine lv_iconst (v := (0 : Int32)) hx hb dX6_year_159 (by decide) ?_
      refine lv_dup2_11 hx hb dX6_year_160 rfl rfl ?_
      refine z_ialdL C hz a_m_s (vpl (n := 0) (by decide) (by decide)) (k := 0) (by decide) dX6_year_161 ?_
      refine lv_iconst (v := (1 : Int32)) hx hb dX6_year_162 (by decide) ?_
      refine lv_iadd hx hb dX6_year_163 ?_
      obtain ⟨g9, eg9, hf⟩ := nx_elim hf
      refine z_iastL C hz a_m_s (vpl (n := 0) (by decide) (by decide)) (k := 0) (by decide) eg9 dX6_year_164 (fun H locs hz => ?_)
      refine lv_iload_n hx hb dX6_year_165 rfl (lv_at hl 2 rfl) ?_
      exact hR _ _ _ _ _ _ (Option.some.inj hf) hz dX6_year_166
    · have hf := ite_f hf c8
      refine lv_aload_n hx hb dX6_year_76 rfl (lv_at hl 0 rfl) ?_
      refine g_RX6_46_model C hz dX6_year_77 ?_
      refine lv_bipush (v := (13 : Int32)) hx hb dX6_year_80 (by decide) ?_
      refine lv_iload_n hx hb dX6_year_82 rfl (lv_at hl 3 rfl) ?_
      refine lv_iadd hx hb dX6_year_83 ?_
      obtain ⟨c10, hf⟩ := ix_elim hf
      refine z_iald C hz a_m_s c10 dX6_year_84 ?_
      refine lv_if_ne (tgt := 106) hx hb dX6_year_85 (by decide) (fun c11 => ?_) (fun c11 => ?_)
      · have hf := ite_f hf c11
        exact w6_year_b106 C hR ih _ _ _ _ _ _ _ hf hz (lv_sub hl [0, 1, 2, 3] rfl)
      · have hf := ite_t hf c11
        refine lv_iload_n hx hb dX6_year_88 rfl (lv_at hl 1 rfl) ?_
        refine lv_aload_n hx hb dX6_year_89 rfl (lv_at hl 0 rfl) ?_
        refine g_RX6_25_model C hz dX6_year_90 ?_
        refine lv_iload_n hx hb dX6_year_93 rfl (lv_at hl 3 rfl) ?_
        obtain ⟨c12, hf⟩ := ix_elim hf
        refine z_iald C hz a_m_where c12 dX6_year_94 ?_
        refine lv_ishr hx hb dX6_year_95 ?_
        refine lv_iconst (v := (1 : Int32)) hx hb dX6_year_96 (by decide) ?_
        refine lv_iand hx hb dX6_year_97 ?_
        refine lv_iconst (v := (1 : Int32)) hx hb dX6_year_98 (by decide) ?_
        refine lv_icmp_ne (tgt := 106) hx hb dX6_year_99 (by decide) (fun c13 => ?_) (fun c13 => ?_)
        · have hf := ite_f hf c13
          exact w6_year_b106 C hR ih _ _ _ _ _ _ _ hf hz (lv_sub hl [0, 1, 2, 3] rfl)
        · have hf := ite_t hf c13
          refine lv_iconst (v := (1 : Int32)) hx hb dX6_year_102 (by decide) ?_
          refine lv_goto (tgt := 107) hx hb dX6_year_103 (by decide) ?_
          exact w6_year_b107 C hR ih _ _ _ _ _ _ _ _ hf hz (lv_sub hl [0, 1, 2, 3] rfl)
set_option maxHeartbeats 4000000 in
set_option maxRecDepth 100000 in
theorem w6_year_b37 {res : Int32 × Sg} (C : Cx p m c cX6_year 5 s args RX6 D (tyL cI cZ cB)) (hR : EndI p l e rm6_year s m args below meth c Q D (wM cI cZ h) A cX6_year res) : ∀ n : Nat, ∀ (x1 : Int32) (x2 : Int32) (x3 : Int32) (g : Sg) (H : Heap) (locs : List Loc) (ls : Array Slot), f6_year_b37 n x1 x2 x3 g = some res → Zs D (wM cI cZ h) A s.heap H locs g → lv_has ls 5 [(0, .ref (h 0)), (1, .int x1), (2, .int x2), (3, .int x3)] → W p l e rm6_year s m args below meth c H locs 0 0 Q (F0 m 37 ls []) := by
  have hx := C.1.1
  have hb := C.1.2.1
  intro n
  induction n with
  | zero =>
    intro x1 x2 x3 g H locs ls hf hz hl
    cases hf
  | succ n ih =>
    intro x1 x2 x3 g H locs ls hf hz hl
    rw [f6_year_b37] at hf
    refine lv_iload_n hx hb dX6_year_37 rfl (lv_at hl 3 rfl) ?_
    refine lv_bipush (v := (6 : Int32)) hx hb dX6_year_38 (by decide) ?_
    refine lv_icmp_ge (tgt := 64) hx hb dX6_year_40 (by decide) (fun c14 => ?_) (fun c14 => ?_)
    · have hf := ite_t hf c14
      refine lv_iconst (v := (0 : Int32)) hx hb dX6_year_64 (by decide) ?_
      refine lv_istore_n (lv' := [(3, .int (0 : Int32)), (0, .ref (h 0)), (1, .int x1), (2, .int x2)]) hx hb dX6_year_65 rfl hl (by decide) rfl (fun ls hl => ?_)
      exact w6_year_b66 C hR 1000 _ _ _ _ _ _ _ hf hz (lv_sub hl [1, 2, 3, 0] rfl)
    · have hf := ite_f hf c14
      refine lv_aload_n hx hb dX6_year_43 rfl (lv_at hl 0 rfl) ?_
      refine g_RX6_46_model C hz dX6_year_44 ?_
      refine lv_bipush (v := (7 : Int32)) hx hb dX6_year_47 (by decide) ?_
      refine lv_iload_n hx hb dX6_year_49 rfl (lv_at hl 3 rfl) ?_
      refine lv_iadd hx hb dX6_year_50 ?_
      refine lv_aload_n hx hb dX6_year_51 rfl (lv_at hl 0 rfl) ?_
      refine g_RX6_62_model C hz dX6_year_52 ?_
      refine lv_iload_n hx hb dX6_year_55 rfl (lv_at hl 3 rfl) ?_
      obtain ⟨c15, hf⟩ := ix_elim hf
      refine z_iald C hz a_m_wet c15 dX6_year_56 ?_
      obtain ⟨c16, hf⟩ := ix_elim hf
      obtain ⟨g17, eg17, hf⟩ := nx_elim hf
      refine z_iast C hz a_m_s c16 eg17 dX6_year_57 (fun H locs hz => ?_)
      obtain ⟨v18, ev18, hf⟩ := nx_elim hf
      refine lv_iinc (v := v18) (lv' := [(3, .int v18), (0, .ref (h 0)), (1, .int x1), (2, .int x2)]) hx hb dX6_year_58 hl (k := 3) rfl (by rw [ev18]; rfl) (by decide) rfl (fun ls hl => ?_)
      refine lv_goto (tgt := 37) hx hb dX6_year_61 (by decide) ?_
      exact ih _ _ _ _ _ _ _ hf hz (lv_sub hl [1, 2, 3, 0] rfl)
set_option maxHeartbeats 4000000 in
set_option maxRecDepth 100000 in
theorem w6_year_b0 {res : Int32 × Sg} (C : Cx p m c cX6_year 5 s args RX6 D (tyL cI cZ cB)) (hR : EndI p l e rm6_year s m args below meth c Q D (wM cI cZ h) A cX6_year res) : ∀ (g : Sg) (H : Heap) (locs : List Loc) (ls : Array Slot), f6_year g = some res → Zs D (wM cI cZ h) A s.heap H locs g → lv_has ls 5 [(0, .ref (h 0))] → W p l e rm6_year s m args below meth c H locs 0 0 Q (F0 m 0 ls []) := by
  have hx := C.1.1
  have hb := C.1.2.1
  intro g H locs ls hf hz hl
  unfold f6_year at hf
  refine lv_aload_n hx hb dX6_year_0 rfl (lv_at hl 0 rfl) ?_
  refine lv_iconst (v := (0 : Int32)) hx hb dX6_year_1 (by decide) ?_
  obtain ⟨g19, eg19, hf⟩ := nx_elim hf
  refine p_RX6_74_model C hz eg19 dX6_year_2 (fun H locs hz => ?_)
  refine lv_aload_n hx hb dX6_year_5 rfl (lv_at hl 0 rfl) ?_
  refine g_RX6_46_model C hz dX6_year_6 ?_
  refine lv_iconst (v := (0 : Int32)) hx hb dX6_year_9 (by decide) ?_
  refine z_ialdL C hz a_m_s (vpl (n := 0) (by decide) (by decide)) (k := 0) (by decide) dX6_year_10 ?_
  refine lv_sipush (v := (999 : Int32)) hx hb dX6_year_11 (by decide) ?_
  refine lv_icmp_ne (tgt := 20) hx hb dX6_year_14 (by decide) (fun c20 => ?_) (fun c20 => ?_)
  · have hf := ite_f hf c20
    refine lv_aload_n hx hb dX6_year_20 rfl (lv_at hl 0 rfl) ?_
    obtain ⟨g22, hc21, hf⟩ := bd_elim hf
    refine z_VV (As := []) (rest := []) C (c6_notes hc21) lk_RX6_173 ⟨rfl, rfl, Nat.le_of_ble_eq_true rfl, Nat.le_of_ble_eq_true rfl⟩ ⟨Nat.zero_le _, Nat.zero_le _⟩ o_model rfl rfl (Nat.le_of_ble_eq_true rfl) rfl hl.1 dX6_year_21 hz (fun H locs hz => ?_)
    refine lv_aload_n hx hb dX6_year_24 rfl (lv_at hl 0 rfl) ?_
    obtain ⟨g24, hc23, hf⟩ := bd_elim hf
    refine z_VV (As := []) (rest := []) C (c6_wetNow hc23) lk_RX6_154 ⟨rfl, rfl, Nat.le_of_ble_eq_true rfl, Nat.le_of_ble_eq_true rfl⟩ ⟨Nat.zero_le _, Nat.zero_le _⟩ o_model rfl rfl (Nat.le_of_ble_eq_true rfl) rfl hl.1 dX6_year_25 hz (fun H locs hz => ?_)
    refine lv_aload_n hx hb dX6_year_28 rfl (lv_at hl 0 rfl) ?_
    obtain ⟨r27, g26, hc25, hf⟩ := bd2_elim hf
    refine z_VI (As := []) (rest := []) C (c6_slidesOf hc25) lk_RX6_157 ⟨rfl, rfl, Nat.le_of_ble_eq_true rfl, Nat.le_of_ble_eq_true rfl⟩ ⟨Nat.zero_le _, Nat.zero_le _⟩ o_model rfl rfl (Nat.le_of_ble_eq_true rfl) rfl hl.1 dX6_year_29 hz (fun H locs hz => ?_)
    refine lv_istore_n (lv' := [(1, .int r27), (0, .ref (h 0))]) hx hb dX6_year_32 rfl hl (by decide) rfl (fun ls hl => ?_)
    refine lv_iconst (v := (0 : Int32)) hx hb dX6_year_33 (by decide) ?_
    refine lv_istore_n (lv' := [(2, .int (0 : Int32)), (1, .int r27), (0, .ref (h 0))]) hx hb dX6_year_34 rfl hl (by decide) rfl (fun ls hl => ?_)
    refine lv_iconst (v := (0 : Int32)) hx hb dX6_year_35 (by decide) ?_
    refine lv_istore_n (lv' := [(3, .int (0 : Int32)), (2, .int (0 : Int32)), (1, .int r27), (0, .ref (h 0))]) hx hb dX6_year_36 rfl hl (by decide) rfl (fun ls hl => ?_)
    exact w6_year_b37 C hR 1000 _ _ _ _ _ _ _ hf hz (lv_sub hl [3, 2, 1, 0] rfl)
  · have hf := ite_t hf c20
    refine lv_bipush (v := (-2 : Int32)) hx hb dX6_year_17 (by decide) ?_
    exact hR _ _ _ _ _ _ (Option.some.inj hf) hz dX6_year_19
set_option maxHeartbeats 4000000 in
set_option maxRecDepth 100000 in
theorem c6_year {l : Launch} {D : va_G} {cI cZ cB : ClassId} {h : Nat → Nat} {g : Sg} {r : Int32} {g1 : Sg} (hf : f6_year g = some (r, g1)) : KI l D (tyL cI cZ cB) (wM cI cZ h) yX6_year cX6_year 5 (some .int) rm6_year [.ref (h 0)] g r g1 := by
  refine KI_mk (own := RX6) (by decide +kernel) rfl (Nat.le_of_ble_eq_true rfl) ?_
  intro p e s m below meth c A Q ls C hR hz hl
  have hl : lv_has ls 5 [(0, .ref (h 0))] := hl
  exact w6_year_b0 C hR _ _ _ _ hf hz hl
abbrev rm6_undo : Room := { frames := 0, cells := 0, slots := 0, locals := 0 }
set_option maxHeartbeats 4000000 in
set_option maxRecDepth 100000 in
theorem w6_undo_b27 {res : Int32 × Sg} (C : Cx p m c cX6_undo 2 s args RX6 D (tyL cI cZ cB)) (hR : EndI p l e rm6_undo s m args below meth c Q D (wM cI cZ h) A cX6_undo res) : ∀ n : Nat, ∀ (x1 : Int32) (g : Sg) (H : Heap) (locs : List Loc) (ls : Array Slot), f6_undo_b27 n x1 g = some res → Zs D (wM cI cZ h) A s.heap H locs g → lv_has ls 2 [(0, .ref (h 0)), (1, .int x1)] → W p l e rm6_undo s m args below meth c H locs 0 0 Q (F0 m 27 ls []) := by
  have hx := C.1.1
  have hb := C.1.2.1
  intro n
  induction n with
  | zero =>
    intro x1 g H locs ls hf hz hl
    cases hf
  | succ n ih =>
    intro x1 g H locs ls hf hz hl
    rw [f6_undo_b27] at hf
    refine lv_iload_n hx hb dX6_undo_27 rfl (lv_at hl 1 rfl) ?_
    refine lv_bipush (v := (37 : Int32)) hx hb dX6_undo_28 (by decide) ?_
    refine lv_icmp_ge (tgt := 59) hx hb dX6_undo_30 (by decide) (fun c1 => ?_) (fun c1 => ?_)
    · have hf := ite_t hf c1
      refine lv_aload_n hx hb dX6_undo_59 rfl (lv_at hl 0 rfl) ?_
      refine g_RX6_142_model C hz dX6_undo_60 ?_
      exact hR _ _ _ _ _ _ (Option.some.inj hf) hz dX6_undo_63
    · have hf := ite_f hf c1
      refine lv_aload_n hx hb dX6_undo_33 rfl (lv_at hl 0 rfl) ?_
      refine g_RX6_46_model C hz dX6_undo_34 ?_
      refine lv_iload_n hx hb dX6_undo_37 rfl (lv_at hl 1 rfl) ?_
      refine lv_aload_n hx hb dX6_undo_38 rfl (lv_at hl 0 rfl) ?_
      refine g_RX6_56_model C hz dX6_undo_39 ?_
      refine lv_bipush (v := (37 : Int32)) hx hb dX6_undo_42 (by decide) ?_
      refine lv_aload_n hx hb dX6_undo_44 rfl (lv_at hl 0 rfl) ?_
      refine g_RX6_142_model C hz dX6_undo_45 ?_
      refine lv_imul hx hb dX6_undo_48 ?_
      refine lv_iload_n hx hb dX6_undo_49 rfl (lv_at hl 1 rfl) ?_
      refine lv_iadd hx hb dX6_undo_50 ?_
      obtain ⟨c2, hf⟩ := ix_elim hf
      refine z_iald C hz a_m_undos c2 dX6_undo_51 ?_
      obtain ⟨c3, hf⟩ := ix_elim hf
      obtain ⟨g4, eg4, hf⟩ := nx_elim hf
      refine z_iast C hz a_m_s c3 eg4 dX6_undo_52 (fun H locs hz => ?_)
      obtain ⟨v5, ev5, hf⟩ := nx_elim hf
      refine lv_iinc (v := v5) (lv' := [(1, .int v5), (0, .ref (h 0))]) hx hb dX6_undo_53 hl (k := 1) rfl (by rw [ev5]; rfl) (by decide) rfl (fun ls hl => ?_)
      refine lv_goto (tgt := 27) hx hb dX6_undo_56 (by decide) ?_
      exact ih _ _ _ _ _ hf hz (lv_sub hl [1, 0] rfl)
set_option maxHeartbeats 4000000 in
set_option maxRecDepth 100000 in
theorem w6_undo_b0 {res : Int32 × Sg} (C : Cx p m c cX6_undo 2 s args RX6 D (tyL cI cZ cB)) (hR : EndI p l e rm6_undo s m args below meth c Q D (wM cI cZ h) A cX6_undo res) : ∀ (g : Sg) (H : Heap) (locs : List Loc) (ls : Array Slot), f6_undo g = some res → Zs D (wM cI cZ h) A s.heap H locs g → lv_has ls 2 [(0, .ref (h 0))] → W p l e rm6_undo s m args below meth c H locs 0 0 Q (F0 m 0 ls []) := by
  have hx := C.1.1
  have hb := C.1.2.1
  intro g H locs ls hf hz hl
  unfold f6_undo at hf
  refine lv_aload_n hx hb dX6_undo_0 rfl (lv_at hl 0 rfl) ?_
  refine lv_iconst (v := (0 : Int32)) hx hb dX6_undo_1 (by decide) ?_
  obtain ⟨g6, eg6, hf⟩ := nx_elim hf
  refine p_RX6_74_model C hz eg6 dX6_undo_2 (fun H locs hz => ?_)
  refine lv_aload_n hx hb dX6_undo_5 rfl (lv_at hl 0 rfl) ?_
  refine g_RX6_142_model C hz dX6_undo_6 ?_
  refine lv_if_ne (tgt := 15) hx hb dX6_undo_9 (by decide) (fun c7 => ?_) (fun c7 => ?_)
  · have hf := ite_f hf c7
    refine lv_aload_n hx hb dX6_undo_15 rfl (lv_at hl 0 rfl) ?_
    refine lv_dup hx hb dX6_undo_16 rfl ?_
    refine g_RX6_142_model C hz dX6_undo_17 ?_
    refine lv_iconst (v := (1 : Int32)) hx hb dX6_undo_20 (by decide) ?_
    refine lv_isub hx hb dX6_undo_21 ?_
    obtain ⟨g8, eg8, hf⟩ := nx_elim hf
    refine p_RX6_142_model C hz eg8 dX6_undo_22 (fun H locs hz => ?_)
    refine lv_iconst (v := (0 : Int32)) hx hb dX6_undo_25 (by decide) ?_
    refine lv_istore_n (lv' := [(1, .int (0 : Int32)), (0, .ref (h 0))]) hx hb dX6_undo_26 rfl hl (by decide) rfl (fun ls hl => ?_)
    exact w6_undo_b27 C hR 1000 _ _ _ _ _ hf hz (lv_sub hl [1, 0] rfl)
  · have hf := ite_t hf c7
    refine lv_bipush (v := (-2 : Int32)) hx hb dX6_undo_12 (by decide) ?_
    exact hR _ _ _ _ _ _ (Option.some.inj hf) hz dX6_undo_14
set_option maxHeartbeats 4000000 in
set_option maxRecDepth 100000 in
theorem c6_undo {l : Launch} {D : va_G} {cI cZ cB : ClassId} {h : Nat → Nat} {g : Sg} {r : Int32} {g1 : Sg} (hf : f6_undo g = some (r, g1)) : KI l D (tyL cI cZ cB) (wM cI cZ h) yX6_undo cX6_undo 2 (some .int) rm6_undo [.ref (h 0)] g r g1 := by
  refine KI_mk (own := RX6) (by decide +kernel) rfl (Nat.le_of_ble_eq_true rfl) ?_
  intro p e s m below meth c A Q ls C hR hz hl
  have hl : lv_has ls 2 [(0, .ref (h 0))] := hl
  exact w6_undo_b0 C hR _ _ _ _ hf hz hl
abbrev rm6_left : Room := { frames := 2, cells := 0, slots := 0, locals := 43 }
set_option maxHeartbeats 4000000 in
set_option maxRecDepth 100000 in
theorem w6_left_b0 {res : Int32 × Sg} (C : Cx p m c cX6_left 3 s args RX6 D (tyL cI cZ cB)) (hR : EndI p l e rm6_left s m args below meth c Q D (wM cI cZ h) A cX6_left res) : ∀ (x1 : Int32) (x2 : Int32) (g : Sg) (H : Heap) (locs : List Loc) (ls : Array Slot), f6_left x1 x2 g = some res → Zs D (wM cI cZ h) A s.heap H locs g → lv_has ls 3 [(0, .ref (h 0)), (1, .int x1), (2, .int x2)] → W p l e rm6_left s m args below meth c H locs 0 0 Q (F0 m 0 ls []) := by
  have hx := C.1.1
  have hb := C.1.2.1
  intro x1 x2 g H locs ls hf hz hl
  unfold f6_left at hf
  refine lv_aload_n hx hb dX6_left_0 rfl (lv_at hl 0 rfl) ?_
  refine lv_iconst (v := (0 : Int32)) hx hb dX6_left_1 (by decide) ?_
  obtain ⟨g1, eg1, hf⟩ := nx_elim hf
  refine p_RX6_74_model C hz eg1 dX6_left_2 (fun H locs hz => ?_)
  refine lv_aload_n hx hb dX6_left_5 rfl (lv_at hl 0 rfl) ?_
  refine lv_iload_n hx hb dX6_left_6 rfl (lv_at hl 1 rfl) ?_
  obtain ⟨r4, g3, hc2, hf⟩ := bd2_elim hf
  refine z_VI (As := [.int x1]) (rest := []) C (c6_isPromise hc2) lk_RX6_148 ⟨rfl, rfl, Nat.le_of_ble_eq_true rfl, Nat.le_of_ble_eq_true rfl⟩ ⟨Nat.zero_le _, Nat.zero_le _⟩ o_model rfl rfl (Nat.le_of_ble_eq_true rfl) rfl hl.1 dX6_left_7 hz (fun H locs hz => ?_)
  refine lv_if_eq (tgt := 39) hx hb dX6_left_10 (by decide) (fun c5 => ?_) (fun c5 => ?_)
  · have hf := ite_t hf c5
    refine lv_iconst (v := (-1 : Int32)) hx hb dX6_left_39 (by decide) ?_
    exact hR _ _ _ _ _ _ (Option.some.inj hf) hz dX6_left_40
  · have hf := ite_f hf c5
    refine lv_iload_n hx hb dX6_left_13 rfl (lv_at hl 2 rfl) ?_
    refine lv_iconst (v := (0 : Int32)) hx hb dX6_left_14 (by decide) ?_
    refine lv_bipush (v := (99 : Int32)) hx hb dX6_left_15 (by decide) ?_
    obtain ⟨r8, g7, hc6, hf⟩ := bd2_elim hf
    refine z_SI (As := [.int x2, .int (0 : Int32), .int (99 : Int32)]) (rest := []) C (c6_in hc6) lk_RX6_78 ⟨rfl, rfl, Nat.le_of_ble_eq_true rfl, Nat.le_of_ble_eq_true rfl⟩ ⟨Nat.zero_le _, Nat.zero_le _⟩ rfl (Nat.le_of_ble_eq_true rfl) rfl hl.1 dX6_left_17 hz (fun H locs hz => ?_)
    refine lv_if_eq (tgt := 39) hx hb dX6_left_20 (by decide) (fun c9 => ?_) (fun c9 => ?_)
    · have hf := ite_t hf c9
      refine lv_iconst (v := (-1 : Int32)) hx hb dX6_left_39 (by decide) ?_
      exact hR _ _ _ _ _ _ (Option.some.inj hf) hz dX6_left_40
    · have hf := ite_f hf c9
      refine lv_aload_n hx hb dX6_left_23 rfl (lv_at hl 0 rfl) ?_
      refine lv_iload_n hx hb dX6_left_24 rfl (lv_at hl 1 rfl) ?_
      refine lv_aload_n hx hb dX6_left_25 rfl (lv_at hl 0 rfl) ?_
      refine g_RX6_46_model C hz dX6_left_26 ?_
      refine lv_iconst (v := (0 : Int32)) hx hb dX6_left_29 (by decide) ?_
      refine z_ialdL C hz a_m_s (vpl (n := 0) (by decide) (by decide)) (k := 0) (by decide) dX6_left_30 ?_
      refine lv_iload_n hx hb dX6_left_31 rfl (lv_at hl 2 rfl) ?_
      refine lv_iadd hx hb dX6_left_32 ?_
      obtain ⟨r12, g11, hc10, hf⟩ := bd2_elim hf
      refine z_VI (As := [.int x1, .int ((g7.1 21 0) + x2)]) (rest := []) C (c6_leftIn hc10) lk_RX6_145 ⟨rfl, rfl, Nat.le_of_ble_eq_true rfl, Nat.le_of_ble_eq_true rfl⟩ ⟨Nat.zero_le _, Nat.zero_le _⟩ o_model rfl rfl (Nat.le_of_ble_eq_true rfl) rfl hl.1 dX6_left_33 hz (fun H locs hz => ?_)
      refine lv_goto (tgt := 40) hx hb dX6_left_36 (by decide) ?_
      exact hR _ _ _ _ _ _ (Option.some.inj hf) hz dX6_left_40
set_option maxHeartbeats 4000000 in
set_option maxRecDepth 100000 in
theorem c6_left {l : Launch} {D : va_G} {cI cZ cB : ClassId} {h : Nat → Nat} {x1 : Int32} {x2 : Int32} {g : Sg} {r : Int32} {g1 : Sg} (hf : f6_left x1 x2 g = some (r, g1)) : KI l D (tyL cI cZ cB) (wM cI cZ h) yX6_left cX6_left 3 (some .int) rm6_left [.ref (h 0), .int x1, .int x2] g r g1 := by
  refine KI_mk (own := RX6) (by decide +kernel) rfl (Nat.le_of_ble_eq_true rfl) ?_
  intro p e s m below meth c A Q ls C hR hz hl
  have hl : lv_has ls 3 [(0, .ref (h 0)), (1, .int x1), (2, .int x2)] := hl
  exact w6_left_b0 C hR _ _ _ _ _ _ hf hz hl
abbrev rm6_lasts : Room := { frames := 1, cells := 0, slots := 0, locals := 22 }
set_option maxHeartbeats 4000000 in
set_option maxRecDepth 100000 in
theorem w6_lasts_b89 {res : Int32 × Sg} {k42 : Int32 → Int32 → Int32 → Int32 → Int32 → Sg → Option (Int32 × Sg)} (C : Cx p m c cX6_lasts 7 s args RX6 D (tyL cI cZ cB)) (hR : EndI p l e rm6_lasts s m args below meth c Q D (wM cI cZ h) A cX6_lasts res) (hk42 : ∀ (x1 : Int32) (x2 : Int32) (x3 : Int32) (x4 : Int32) (x5 : Int32) (g : Sg) (H : Heap) (locs : List Loc) (ls : Array Slot), k42 x1 x2 x3 x4 x5 g = some res → Zs D (wM cI cZ h) A s.heap H locs g → lv_has ls 7 [(0, .ref (h 0)), (1, .int x1), (2, .int x2), (3, .int x3), (4, .int x4), (5, .int x5)] → W p l e rm6_lasts s m args below meth c H locs 0 0 Q (F0 m 42 ls [])) : ∀ (x1 : Int32) (x2 : Int32) (x3 : Int32) (x5 : Int32) (y0 : Int32) (g : Sg) (H : Heap) (locs : List Loc) (ls : Array Slot), f6_lasts_b89 k42 x1 x2 x3 x5 y0 g = some res → Zs D (wM cI cZ h) A s.heap H locs g → lv_has ls 7 [(0, .ref (h 0)), (1, .int x1), (2, .int x2), (3, .int x3), (5, .int x5)] → W p l e rm6_lasts s m args below meth c H locs 0 0 Q (F0 m 89 ls [.int y0]) := by
  have hx := C.1.1
  have hb := C.1.2.1
  intro x1 x2 x3 x5 y0 g H locs ls hf hz hl
  unfold f6_lasts_b89 at hf
  refine lv_istore (lv' := [(4, .int y0), (0, .ref (h 0)), (1, .int x1), (2, .int x2), (3, .int x3), (5, .int x5)]) hx hb dX6_lasts_89 hl (by decide) rfl (fun ls hl => ?_)
  obtain ⟨v1, ev1, hf⟩ := nx_elim hf
  refine lv_iinc (v := v1) (lv' := [(5, .int v1), (4, .int y0), (0, .ref (h 0)), (1, .int x1), (2, .int x2), (3, .int x3)]) hx hb dX6_lasts_91 hl (k := 5) rfl (by rw [ev1]; rfl) (by decide) rfl (fun ls hl => ?_)
  refine lv_goto (tgt := 42) hx hb dX6_lasts_94 (by decide) ?_
  exact hk42 _ _ _ _ _ _ _ _ _ hf hz (lv_sub hl [2, 3, 4, 5, 1, 0] rfl)
set_option maxHeartbeats 4000000 in
set_option maxRecDepth 100000 in
theorem w6_lasts_b78 {res : Int32 × Sg} {k42 : Int32 → Int32 → Int32 → Int32 → Int32 → Sg → Option (Int32 × Sg)} (C : Cx p m c cX6_lasts 7 s args RX6 D (tyL cI cZ cB)) (hR : EndI p l e rm6_lasts s m args below meth c Q D (wM cI cZ h) A cX6_lasts res) (hk42 : ∀ (x1 : Int32) (x2 : Int32) (x3 : Int32) (x4 : Int32) (x5 : Int32) (g : Sg) (H : Heap) (locs : List Loc) (ls : Array Slot), k42 x1 x2 x3 x4 x5 g = some res → Zs D (wM cI cZ h) A s.heap H locs g → lv_has ls 7 [(0, .ref (h 0)), (1, .int x1), (2, .int x2), (3, .int x3), (4, .int x4), (5, .int x5)] → W p l e rm6_lasts s m args below meth c H locs 0 0 Q (F0 m 42 ls [])) : ∀ (x1 : Int32) (x2 : Int32) (x3 : Int32) (x4 : Int32) (x5 : Int32) (y0 : Int32) (g : Sg) (H : Heap) (locs : List Loc) (ls : Array Slot), f6_lasts_b78 k42 x1 x2 x3 x4 x5 y0 g = some res → Zs D (wM cI cZ h) A s.heap H locs g → lv_has ls 7 [(0, .ref (h 0)), (1, .int x1), (2, .int x2), (3, .int x3), (4, .int x4), (5, .int x5)] → W p l e rm6_lasts s m args below meth c H locs 0 0 Q (F0 m 78 ls [.int y0]) := by
  have hx := C.1.1
  have hb := C.1.2.1
  intro x1 x2 x3 x4 x5 y0 g H locs ls hf hz hl
  unfold f6_lasts_b78 at hf
  refine lv_iload_n hx hb dX6_lasts_78 rfl (lv_at hl 2 rfl) ?_
  refine lv_icmp_lt (tgt := 87) hx hb dX6_lasts_79 (by decide) (fun c2 => ?_) (fun c2 => ?_)
  · have hf := ite_t hf c2
    refine lv_iload hx hb dX6_lasts_87 (lv_at hl 4 rfl) ?_
    exact w6_lasts_b89 C hR hk42 _ _ _ _ _ _ _ _ _ hf hz (lv_sub hl [0, 1, 2, 3, 5] rfl)
  · have hf := ite_f hf c2
    refine lv_iload hx hb dX6_lasts_82 (lv_at hl 5 rfl) ?_
    refine lv_goto (tgt := 89) hx hb dX6_lasts_84 (by decide) ?_
    exact w6_lasts_b89 C hR hk42 _ _ _ _ _ _ _ _ _ hf hz (lv_sub hl [0, 1, 2, 3, 5] rfl)
set_option maxHeartbeats 4000000 in
set_option maxRecDepth 100000 in
theorem w6_lasts_b42 {res : Int32 × Sg} (C : Cx p m c cX6_lasts 7 s args RX6 D (tyL cI cZ cB)) (hR : EndI p l e rm6_lasts s m args below meth c Q D (wM cI cZ h) A cX6_lasts res) : ∀ n : Nat, ∀ (x1 : Int32) (x2 : Int32) (x3 : Int32) (x4 : Int32) (x5 : Int32) (g : Sg) (H : Heap) (locs : List Loc) (ls : Array Slot), f6_lasts_b42 n x1 x2 x3 x4 x5 g = some res → Zs D (wM cI cZ h) A s.heap H locs g → lv_has ls 7 [(0, .ref (h 0)), (1, .int x1), (2, .int x2), (3, .int x3), (4, .int x4), (5, .int x5)] → W p l e rm6_lasts s m args below meth c H locs 0 0 Q (F0 m 42 ls []) := by
  have hx := C.1.1
  have hb := C.1.2.1
  intro n
  induction n with
  | zero =>
    intro x1 x2 x3 x4 x5 g H locs ls hf hz hl
    cases hf
  | succ n ih =>
    intro x1 x2 x3 x4 x5 g H locs ls hf hz hl
    rw [f6_lasts_b42] at hf
    refine lv_iload hx hb dX6_lasts_42 (lv_at hl 5 rfl) ?_
    refine lv_bipush (v := (6 : Int32)) hx hb dX6_lasts_44 (by decide) ?_
    refine lv_icmp_ge (tgt := 97) hx hb dX6_lasts_46 (by decide) (fun c3 => ?_) (fun c3 => ?_)
    · have hf := ite_t hf c3
      refine lv_iload hx hb dX6_lasts_97 (lv_at hl 4 rfl) ?_
      exact hR _ _ _ _ _ _ (Option.some.inj hf) hz dX6_lasts_99
    · have hf := ite_f hf c3
      refine lv_iload_n hx hb dX6_lasts_49 rfl (lv_at hl 1 rfl) ?_
      refine lv_iload_n hx hb dX6_lasts_50 rfl (lv_at hl 3 rfl) ?_
      refine lv_iload hx hb dX6_lasts_51 (lv_at hl 5 rfl) ?_
      refine lv_iconst (v := (1 : Int32)) hx hb dX6_lasts_53 (by decide) ?_
      refine lv_iadd hx hb dX6_lasts_54 ?_
      refine lv_imul hx hb dX6_lasts_55 ?_
      refine lv_aload_n hx hb dX6_lasts_56 rfl (lv_at hl 0 rfl) ?_
      refine g_RX6_13_model C hz dX6_lasts_57 ?_
      refine lv_iconst (v := (2 : Int32)) hx hb dX6_lasts_60 (by decide) ?_
      refine z_ialdL C hz a_m_many (vpl (n := 2) (by decide) (by decide)) (k := 2) (by decide) dX6_lasts_61 ?_
      obtain ⟨c4, hf⟩ := nz_elim hf
      refine lv_idiv hx hb dX6_lasts_62 c4 ?_
      refine lv_isub hx hb dX6_lasts_63 ?_
      obtain ⟨v5, ev5, hf⟩ := nx_elim hf
      refine z_nm ev5 ?_
      refine lv_istore (lv' := [(6, .int v5), (0, .ref (h 0)), (1, .int x1), (2, .int x2), (3, .int x3), (4, .int x4), (5, .int x5)]) hx hb dX6_lasts_64 hl (by decide) rfl (fun ls hl => ?_)
      refine lv_iload hx hb dX6_lasts_66 (lv_at hl 0 rfl) ?_
      refine lv_iconst (v := (1 : Int32)) hx hb dX6_lasts_68 (by decide) ?_
      refine lv_icmp_ge (tgt := 76) hx hb dX6_lasts_69 (by decide) (fun c6 => ?_) (fun c6 => ?_)
      · have hf := ite_t hf c6
        refine lv_iload hx hb dX6_lasts_76 (lv_at hl 0 rfl) ?_
        exact w6_lasts_b78 C hR ih _ _ _ _ _ _ _ _ _ _ hf hz (lv_sub hl [1, 2, 3, 4, 5, 6] rfl)
      · have hf := ite_f hf c6
        refine lv_iconst (v := (1 : Int32)) hx hb dX6_lasts_72 (by decide) ?_
        refine lv_goto (tgt := 78) hx hb dX6_lasts_73 (by decide) ?_
        exact w6_lasts_b78 C hR ih _ _ _ _ _ _ _ _ _ _ hf hz (lv_sub hl [1, 2, 3, 4, 5, 6] rfl)
set_option maxHeartbeats 4000000 in
set_option maxRecDepth 100000 in
theorem w6_lasts_b0 {res : Int32 × Sg} (C : Cx p m c cX6_lasts 7 s args RX6 D (tyL cI cZ cB)) (hR : EndI p l e rm6_lasts s m args below meth c Q D (wM cI cZ h) A cX6_lasts res) : ∀ (x1 : Int32) (x2 : Int32) (x3 : Int32) (g : Sg) (H : Heap) (locs : List Loc) (ls : Array Slot), f6_lasts x1 x2 x3 g = some res → Zs D (wM cI cZ h) A s.heap H locs g → lv_has ls 7 [(0, .ref (h 0)), (1, .int x1), (2, .int x2), (3, .int x3)] → W p l e rm6_lasts s m args below meth c H locs 0 0 Q (F0 m 0 ls []) := by
  have hx := C.1.1
  have hb := C.1.2.1
  intro x1 x2 x3 g H locs ls hf hz hl
  unfold f6_lasts at hf
  refine lv_aload_n hx hb dX6_lasts_0 rfl (lv_at hl 0 rfl) ?_
  refine lv_iconst (v := (0 : Int32)) hx hb dX6_lasts_1 (by decide) ?_
  obtain ⟨g7, eg7, hf⟩ := nx_elim hf
  refine p_RX6_74_model C hz eg7 dX6_lasts_2 (fun H locs hz => ?_)
  refine lv_iload_n hx hb dX6_lasts_5 rfl (lv_at hl 1 rfl) ?_
  refine lv_iconst (v := (1 : Int32)) hx hb dX6_lasts_6 (by decide) ?_
  refine lv_iconst (v := (4 : Int32)) hx hb dX6_lasts_7 (by decide) ?_
  obtain ⟨r10, g9, hc8, hf⟩ := bd2_elim hf
  refine z_SI (As := [.int x1, .int (1 : Int32), .int (4 : Int32)]) (rest := []) C (c6_in hc8) lk_RX6_78 ⟨rfl, rfl, Nat.le_of_ble_eq_true rfl, Nat.le_of_ble_eq_true rfl⟩ ⟨Nat.zero_le _, Nat.zero_le _⟩ rfl (Nat.le_of_ble_eq_true rfl) rfl hl.1 dX6_lasts_8 hz (fun H locs hz => ?_)
  refine lv_if_eq (tgt := 33) hx hb dX6_lasts_11 (by decide) (fun c11 => ?_) (fun c11 => ?_)
  · have hf := ite_t hf c11
    refine lv_iconst (v := (-1 : Int32)) hx hb dX6_lasts_33 (by decide) ?_
    exact hR _ _ _ _ _ _ (Option.some.inj hf) hz dX6_lasts_34
  · have hf := ite_f hf c11
    refine lv_iload_n hx hb dX6_lasts_14 rfl (lv_at hl 2 rfl) ?_
    refine lv_iconst (v := (1 : Int32)) hx hb dX6_lasts_15 (by decide) ?_
    refine lv_iconst (v := (4 : Int32)) hx hb dX6_lasts_16 (by decide) ?_
    obtain ⟨r14, g13, hc12, hf⟩ := bd2_elim hf
    refine z_SI (As := [.int x2, .int (1 : Int32), .int (4 : Int32)]) (rest := []) C (c6_in hc12) lk_RX6_78 ⟨rfl, rfl, Nat.le_of_ble_eq_true rfl, Nat.le_of_ble_eq_true rfl⟩ ⟨Nat.zero_le _, Nat.zero_le _⟩ rfl (Nat.le_of_ble_eq_true rfl) rfl hl.1 dX6_lasts_17 hz (fun H locs hz => ?_)
    refine lv_if_eq (tgt := 33) hx hb dX6_lasts_20 (by decide) (fun c15 => ?_) (fun c15 => ?_)
    · have hf := ite_t hf c15
      refine lv_iconst (v := (-1 : Int32)) hx hb dX6_lasts_33 (by decide) ?_
      exact hR _ _ _ _ _ _ (Option.some.inj hf) hz dX6_lasts_34
    · have hf := ite_f hf c15
      refine lv_iload_n hx hb dX6_lasts_23 rfl (lv_at hl 3 rfl) ?_
      refine lv_iconst (v := (0 : Int32)) hx hb dX6_lasts_24 (by decide) ?_
      refine lv_bipush (v := (99 : Int32)) hx hb dX6_lasts_25 (by decide) ?_
      obtain ⟨r18, g17, hc16, hf⟩ := bd2_elim hf
      refine z_SI (As := [.int x3, .int (0 : Int32), .int (99 : Int32)]) (rest := []) C (c6_in hc16) lk_RX6_78 ⟨rfl, rfl, Nat.le_of_ble_eq_true rfl, Nat.le_of_ble_eq_true rfl⟩ ⟨Nat.zero_le _, Nat.zero_le _⟩ rfl (Nat.le_of_ble_eq_true rfl) rfl hl.1 dX6_lasts_27 hz (fun H locs hz => ?_)
      refine lv_if_ne (tgt := 35) hx hb dX6_lasts_30 (by decide) (fun c19 => ?_) (fun c19 => ?_)
      · have hf := ite_f hf c19
        refine lv_bipush (v := (-9 : Int32)) hx hb dX6_lasts_35 (by decide) ?_
        refine lv_istore (lv' := [(4, .int (-9 : Int32)), (0, .ref (h 0)), (1, .int x1), (2, .int x2), (3, .int x3)]) hx hb dX6_lasts_37 hl (by decide) rfl (fun ls hl => ?_)
        refine lv_iconst (v := (0 : Int32)) hx hb dX6_lasts_39 (by decide) ?_
        refine lv_istore (lv' := [(5, .int (0 : Int32)), (4, .int (-9 : Int32)), (0, .ref (h 0)), (1, .int x1), (2, .int x2), (3, .int x3)]) hx hb dX6_lasts_40 hl (by decide) rfl (fun ls hl => ?_)
        exact w6_lasts_b42 C hR 1000 _ _ _ _ _ _ _ _ _ hf hz (lv_sub hl [2, 3, 4, 5, 1, 0] rfl)
      · have hf := ite_t hf c19
        refine lv_iconst (v := (-1 : Int32)) hx hb dX6_lasts_33 (by decide) ?_
        exact hR _ _ _ _ _ _ (Option.some.inj hf) hz dX6_lasts_34
set_option maxHeartbeats 4000000 in
set_option maxRecDepth 100000 in
theorem c6_lasts {l : Launch} {D : va_G} {cI cZ cB : ClassId} {h : Nat → Nat} {x1 : Int32} {x2 : Int32} {x3 : Int32} {g : Sg} {r : Int32} {g1 : Sg} (hf : f6_lasts x1 x2 x3 g = some (r, g1)) : KI l D (tyL cI cZ cB) (wM cI cZ h) yX6_lasts cX6_lasts 7 (some .int) rm6_lasts [.ref (h 0), .int x1, .int x2, .int x3] g r g1 := by
  refine KI_mk (own := RX6) (by decide +kernel) rfl (Nat.le_of_ble_eq_true rfl) ?_
  intro p e s m below meth c A Q ls C hR hz hl
  have hl : lv_has ls 7 [(0, .ref (h 0)), (1, .int x1), (2, .int x2), (3, .int x3)] := hl
  exact w6_lasts_b0 C hR _ _ _ _ _ _ _ hf hz hl
abbrev rm6_duty : Room := { frames := 2, cells := 0, slots := 0, locals := 43 }
set_option maxHeartbeats 4000000 in
set_option maxRecDepth 100000 in
theorem w6_duty_b32 {res : Int32 × Sg} (C : Cx p m c cX6_duty 4 s args RX6 D (tyL cI cZ cB)) (hR : EndI p l e rm6_duty s m args below meth c Q D (wM cI cZ h) A cX6_duty res) : ∀ n : Nat, ∀ (x2 : Int32) (x3 : Int32) (g : Sg) (H : Heap) (locs : List Loc) (ls : Array Slot), f6_duty_b32 n x2 x3 g = some res → Zs D (wM cI cZ h) A s.heap H locs g → lv_has ls 4 [(0, .ref (h 0)), (2, .int x2), (3, .int x3)] → W p l e rm6_duty s m args below meth c H locs 0 0 Q (F0 m 32 ls []) := by
  have hx := C.1.1
  have hb := C.1.2.1
  intro n
  induction n with
  | zero =>
    intro x2 x3 g H locs ls hf hz hl
    cases hf
  | succ n ih =>
    intro x2 x3 g H locs ls hf hz hl
    rw [f6_duty_b32] at hf
    refine lv_iload_n hx hb dX6_duty_32 rfl (lv_at hl 2 rfl) ?_
    refine lv_bipush (v := (-9 : Int32)) hx hb dX6_duty_33 (by decide) ?_
    refine lv_icmp_eq (tgt := 65) hx hb dX6_duty_35 (by decide) (fun c1 => ?_) (fun c1 => ?_)
    · have hf := ite_t hf c1
      refine lv_iload_n hx hb dX6_duty_65 rfl (lv_at hl 2 rfl) ?_
      exact hR _ _ _ _ _ _ (Option.some.inj hf) hz dX6_duty_66
    · have hf := ite_f hf c1
      refine lv_aload_n hx hb dX6_duty_38 rfl (lv_at hl 0 rfl) ?_
      refine g_RX6_16_model C hz dX6_duty_39 ?_
      refine lv_iload_n hx hb dX6_duty_42 rfl (lv_at hl 2 rfl) ?_
      obtain ⟨c2, hf⟩ := ix_elim hf
      refine z_iald C hz a_m_dies c2 dX6_duty_43 ?_
      refine lv_aload_n hx hb dX6_duty_44 rfl (lv_at hl 0 rfl) ?_
      refine g_RX6_46_model C hz dX6_duty_45 ?_
      refine lv_iconst (v := (0 : Int32)) hx hb dX6_duty_48 (by decide) ?_
      refine z_ialdL C hz a_m_s (vpl (n := 0) (by decide) (by decide)) (k := 0) (by decide) dX6_duty_49 ?_
      refine lv_iload_n hx hb dX6_duty_50 rfl (lv_at hl 1 rfl) ?_
      refine lv_iadd hx hb dX6_duty_51 ?_
      refine lv_icmp_gt (tgt := 65) hx hb dX6_duty_52 (by decide) (fun c3 => ?_) (fun c3 => ?_)
      · have hf := ite_t hf c3
        refine lv_iload_n hx hb dX6_duty_65 rfl (lv_at hl 2 rfl) ?_
        exact hR _ _ _ _ _ _ (Option.some.inj hf) hz dX6_duty_66
      · have hf := ite_f hf c3
        refine lv_aload_n hx hb dX6_duty_55 rfl (lv_at hl 0 rfl) ?_
        refine g_RX6_19_model C hz dX6_duty_56 ?_
        refine lv_iload_n hx hb dX6_duty_59 rfl (lv_at hl 2 rfl) ?_
        obtain ⟨c4, hf⟩ := ix_elim hf
        refine z_iald C hz a_m_heir c4 dX6_duty_60 ?_
        obtain ⟨v5, ev5, hf⟩ := nx_elim hf
        refine z_nm ev5 ?_
        refine lv_istore_n (lv' := [(3, .int v5), (0, .ref (h 0)), (2, .int x2)]) hx hb dX6_duty_61 rfl hl (by decide) rfl (fun ls hl => ?_)
        refine lv_goto (tgt := 32) hx hb dX6_duty_62 (by decide) ?_
        exact ih _ _ _ _ _ _ hf hz (lv_sub hl [1, 2, 0] rfl)
set_option maxHeartbeats 4000000 in
set_option maxRecDepth 100000 in
theorem w6_duty_b0 {res : Int32 × Sg} (C : Cx p m c cX6_duty 4 s args RX6 D (tyL cI cZ cB)) (hR : EndI p l e rm6_duty s m args below meth c Q D (wM cI cZ h) A cX6_duty res) : ∀ (x1 : Int32) (x2 : Int32) (g : Sg) (H : Heap) (locs : List Loc) (ls : Array Slot), f6_duty x1 x2 g = some res → Zs D (wM cI cZ h) A s.heap H locs g → lv_has ls 4 [(0, .ref (h 0)), (1, .int x1), (2, .int x2)] → W p l e rm6_duty s m args below meth c H locs 0 0 Q (F0 m 0 ls []) := by
  have hx := C.1.1
  have hb := C.1.2.1
  intro x1 x2 g H locs ls hf hz hl
  unfold f6_duty at hf
  refine lv_aload_n hx hb dX6_duty_0 rfl (lv_at hl 0 rfl) ?_
  refine lv_iconst (v := (0 : Int32)) hx hb dX6_duty_1 (by decide) ?_
  obtain ⟨g6, eg6, hf⟩ := nx_elim hf
  refine p_RX6_74_model C hz eg6 dX6_duty_2 (fun H locs hz => ?_)
  refine lv_aload_n hx hb dX6_duty_5 rfl (lv_at hl 0 rfl) ?_
  refine lv_iload_n hx hb dX6_duty_6 rfl (lv_at hl 1 rfl) ?_
  obtain ⟨r9, g8, hc7, hf⟩ := bd2_elim hf
  refine z_VI (As := [.int x1]) (rest := []) C (c6_isPromise hc7) lk_RX6_148 ⟨rfl, rfl, Nat.le_of_ble_eq_true rfl, Nat.le_of_ble_eq_true rfl⟩ ⟨Nat.zero_le _, Nat.zero_le _⟩ o_model rfl rfl (Nat.le_of_ble_eq_true rfl) rfl hl.1 dX6_duty_7 hz (fun H locs hz => ?_)
  refine lv_if_eq (tgt := 23) hx hb dX6_duty_10 (by decide) (fun c10 => ?_) (fun c10 => ?_)
  · have hf := ite_t hf c10
    refine lv_iconst (v := (-1 : Int32)) hx hb dX6_duty_23 (by decide) ?_
    exact hR _ _ _ _ _ _ (Option.some.inj hf) hz dX6_duty_24
  · have hf := ite_f hf c10
    refine lv_iload_n hx hb dX6_duty_13 rfl (lv_at hl 2 rfl) ?_
    refine lv_iconst (v := (0 : Int32)) hx hb dX6_duty_14 (by decide) ?_
    refine lv_bipush (v := (99 : Int32)) hx hb dX6_duty_15 (by decide) ?_
    obtain ⟨r13, g12, hc11, hf⟩ := bd2_elim hf
    refine z_SI (As := [.int x2, .int (0 : Int32), .int (99 : Int32)]) (rest := []) C (c6_in hc11) lk_RX6_78 ⟨rfl, rfl, Nat.le_of_ble_eq_true rfl, Nat.le_of_ble_eq_true rfl⟩ ⟨Nat.zero_le _, Nat.zero_le _⟩ rfl (Nat.le_of_ble_eq_true rfl) rfl hl.1 dX6_duty_17 hz (fun H locs hz => ?_)
    refine lv_if_ne (tgt := 25) hx hb dX6_duty_20 (by decide) (fun c14 => ?_) (fun c14 => ?_)
    · have hf := ite_f hf c14
      refine lv_aload_n hx hb dX6_duty_25 rfl (lv_at hl 0 rfl) ?_
      refine g_RX6_22_model C hz dX6_duty_26 ?_
      refine lv_iload_n hx hb dX6_duty_29 rfl (lv_at hl 1 rfl) ?_
      obtain ⟨c15, hf⟩ := ix_elim hf
      refine z_iald C hz a_m_who c15 dX6_duty_30 ?_
      obtain ⟨v16, ev16, hf⟩ := nx_elim hf
      refine z_nm ev16 ?_
      refine lv_istore_n (lv' := [(3, .int v16), (0, .ref (h 0)), (1, .int x1), (2, .int x2)]) hx hb dX6_duty_31 rfl hl (by decide) rfl (fun ls hl => ?_)
      exact w6_duty_b32 C hR 1000 _ _ _ _ _ _ hf hz (lv_sub hl [1, 3, 0] rfl)
    · have hf := ite_t hf c14
      refine lv_iconst (v := (-1 : Int32)) hx hb dX6_duty_23 (by decide) ?_
      exact hR _ _ _ _ _ _ (Option.some.inj hf) hz dX6_duty_24
set_option maxHeartbeats 4000000 in
set_option maxRecDepth 100000 in
theorem c6_duty {l : Launch} {D : va_G} {cI cZ cB : ClassId} {h : Nat → Nat} {x1 : Int32} {x2 : Int32} {g : Sg} {r : Int32} {g1 : Sg} (hf : f6_duty x1 x2 g = some (r, g1)) : KI l D (tyL cI cZ cB) (wM cI cZ h) yX6_duty cX6_duty 4 (some .int) rm6_duty [.ref (h 0), .int x1, .int x2] g r g1 := by
  refine KI_mk (own := RX6) (by decide +kernel) rfl (Nat.le_of_ble_eq_true rfl) ?_
  intro p e s m below meth c A Q ls C hR hz hl
  have hl : lv_has ls 4 [(0, .ref (h 0)), (1, .int x1), (2, .int x2)] := hl
  exact w6_duty_b0 C hR _ _ _ _ _ _ hf hz hl
abbrev rm6_sees : Room := { frames := 1, cells := 0, slots := 0, locals := 22 }
set_option maxHeartbeats 4000000 in
set_option maxRecDepth 100000 in
theorem w6_sees_b0 {res : Int32 × Sg} (C : Cx p m c cX6_sees 2 s args RX6 D (tyL cI cZ cB)) (hR : EndI p l e rm6_sees s m args below meth c Q D (wM cI cZ h) A cX6_sees res) : ∀ (x1 : Int32) (g : Sg) (H : Heap) (locs : List Loc) (ls : Array Slot), f6_sees x1 g = some res → Zs D (wM cI cZ h) A s.heap H locs g → lv_has ls 2 [(0, .ref (h 0)), (1, .int x1)] → W p l e rm6_sees s m args below meth c H locs 0 0 Q (F0 m 0 ls []) := by
  have hx := C.1.1
  have hb := C.1.2.1
  intro x1 g H locs ls hf hz hl
  unfold f6_sees at hf
  refine lv_aload_n hx hb dX6_sees_0 rfl (lv_at hl 0 rfl) ?_
  refine lv_iconst (v := (0 : Int32)) hx hb dX6_sees_1 (by decide) ?_
  obtain ⟨g1, eg1, hf⟩ := nx_elim hf
  refine p_RX6_74_model C hz eg1 dX6_sees_2 (fun H locs hz => ?_)
  refine lv_iload_n hx hb dX6_sees_5 rfl (lv_at hl 1 rfl) ?_
  refine lv_iconst (v := (0 : Int32)) hx hb dX6_sees_6 (by decide) ?_
  refine lv_bipush (v := (9 : Int32)) hx hb dX6_sees_7 (by decide) ?_
  obtain ⟨r4, g3, hc2, hf⟩ := bd2_elim hf
  refine z_SI (As := [.int x1, .int (0 : Int32), .int (9 : Int32)]) (rest := []) C (c6_in hc2) lk_RX6_78 ⟨rfl, rfl, Nat.le_of_ble_eq_true rfl, Nat.le_of_ble_eq_true rfl⟩ ⟨Nat.zero_le _, Nat.zero_le _⟩ rfl (Nat.le_of_ble_eq_true rfl) rfl hl.1 dX6_sees_9 hz (fun H locs hz => ?_)
  refine lv_if_ne (tgt := 17) hx hb dX6_sees_12 (by decide) (fun c5 => ?_) (fun c5 => ?_)
  · have hf := ite_f hf c5
    refine lv_aload_n hx hb dX6_sees_17 rfl (lv_at hl 0 rfl) ?_
    refine g_RX6_139_model C hz dX6_sees_18 ?_
    refine lv_iconst (v := (4 : Int32)) hx hb dX6_sees_21 (by decide) ?_
    refine lv_icmp_ne (tgt := 28) hx hb dX6_sees_22 (by decide) (fun c6 => ?_) (fun c6 => ?_)
    · have hf := ite_f hf c6
      refine lv_aload_n hx hb dX6_sees_28 rfl (lv_at hl 0 rfl) ?_
      refine g_RX6_59_model C hz dX6_sees_29 ?_
      refine lv_aload_n hx hb dX6_sees_32 rfl (lv_at hl 0 rfl) ?_
      refine g_RX6_139_model C hz dX6_sees_33 ?_
      refine lv_iload_n hx hb dX6_sees_36 rfl (lv_at hl 1 rfl) ?_
      obtain ⟨c7, hf⟩ := ix_elim hf
      obtain ⟨g8, eg8, hf⟩ := nx_elim hf
      refine z_iast C hz a_m_seen c7 eg8 dX6_sees_37 (fun H locs hz => ?_)
      refine lv_aload_n hx hb dX6_sees_38 rfl (lv_at hl 0 rfl) ?_
      refine lv_dup hx hb dX6_sees_39 rfl ?_
      refine g_RX6_139_model C hz dX6_sees_40 ?_
      refine lv_iconst (v := (1 : Int32)) hx hb dX6_sees_43 (by decide) ?_
      refine lv_iadd hx hb dX6_sees_44 ?_
      obtain ⟨g9, eg9, hf⟩ := nx_elim hf
      refine p_RX6_139_model C hz eg9 dX6_sees_45 (fun H locs hz => ?_)
      refine lv_aload_n hx hb dX6_sees_48 rfl (lv_at hl 0 rfl) ?_
      refine g_RX6_139_model C hz dX6_sees_49 ?_
      exact hR _ _ _ _ _ _ (Option.some.inj hf) hz dX6_sees_52
    · have hf := ite_t hf c6
      refine lv_bipush (v := (-3 : Int32)) hx hb dX6_sees_25 (by decide) ?_
      exact hR _ _ _ _ _ _ (Option.some.inj hf) hz dX6_sees_27
  · have hf := ite_t hf c5
    refine lv_iconst (v := (-1 : Int32)) hx hb dX6_sees_15 (by decide) ?_
    exact hR _ _ _ _ _ _ (Option.some.inj hf) hz dX6_sees_16
set_option maxHeartbeats 4000000 in
set_option maxRecDepth 100000 in
theorem c6_sees {l : Launch} {D : va_G} {cI cZ cB : ClassId} {h : Nat → Nat} {x1 : Int32} {g : Sg} {r : Int32} {g1 : Sg} (hf : f6_sees x1 g = some (r, g1)) : KI l D (tyL cI cZ cB) (wM cI cZ h) yX6_sees cX6_sees 2 (some .int) rm6_sees [.ref (h 0), .int x1] g r g1 := by
  refine KI_mk (own := RX6) (by decide +kernel) rfl (Nat.le_of_ble_eq_true rfl) ?_
  intro p e s m below meth c A Q ls C hR hz hl
  have hl : lv_has ls 2 [(0, .ref (h 0)), (1, .int x1)] := hl
  exact w6_sees_b0 C hR _ _ _ _ _ hf hz hl
abbrev rm6_forget : Room := { frames := 0, cells := 0, slots := 0, locals := 0 }
set_option maxHeartbeats 4000000 in
set_option maxRecDepth 100000 in
theorem w6_forget_b0 {res : Int32 × Sg} (C : Cx p m c cX6_forget 2 s args RX6 D (tyL cI cZ cB)) (hR : EndI p l e rm6_forget s m args below meth c Q D (wM cI cZ h) A cX6_forget res) : ∀ (g : Sg) (H : Heap) (locs : List Loc) (ls : Array Slot), f6_forget g = some res → Zs D (wM cI cZ h) A s.heap H locs g → lv_has ls 2 [(0, .ref (h 0))] → W p l e rm6_forget s m args below meth c H locs 0 0 Q (F0 m 0 ls []) := by
  have hx := C.1.1
  have hb := C.1.2.1
  intro g H locs ls hf hz hl
  unfold f6_forget at hf
  refine lv_aload_n hx hb dX6_forget_0 rfl (lv_at hl 0 rfl) ?_
  refine lv_iconst (v := (0 : Int32)) hx hb dX6_forget_1 (by decide) ?_
  obtain ⟨g1, eg1, hf⟩ := nx_elim hf
  refine p_RX6_74_model C hz eg1 dX6_forget_2 (fun H locs hz => ?_)
  refine lv_aload_n hx hb dX6_forget_5 rfl (lv_at hl 0 rfl) ?_
  refine g_RX6_139_model C hz dX6_forget_6 ?_
  obtain ⟨v2, ev2, hf⟩ := nx_elim hf
  refine z_nm ev2 ?_
  refine lv_istore_n (lv' := [(1, .int v2), (0, .ref (h 0))]) hx hb dX6_forget_9 rfl hl (by decide) rfl (fun ls hl => ?_)
  refine lv_aload_n hx hb dX6_forget_10 rfl (lv_at hl 1 rfl) ?_
  refine lv_iconst (v := (0 : Int32)) hx hb dX6_forget_11 (by decide) ?_
  obtain ⟨g3, eg3, hf⟩ := nx_elim hf
  refine p_RX6_139_model C hz eg3 dX6_forget_12 (fun H locs hz => ?_)
  refine lv_iload_n hx hb dX6_forget_15 rfl (lv_at hl 0 rfl) ?_
  exact hR _ _ _ _ _ _ (Option.some.inj hf) hz dX6_forget_16
set_option maxHeartbeats 4000000 in
set_option maxRecDepth 100000 in
theorem c6_forget {l : Launch} {D : va_G} {cI cZ cB : ClassId} {h : Nat → Nat} {g : Sg} {r : Int32} {g1 : Sg} (hf : f6_forget g = some (r, g1)) : KI l D (tyL cI cZ cB) (wM cI cZ h) yX6_forget cX6_forget 2 (some .int) rm6_forget [.ref (h 0)] g r g1 := by
  refine KI_mk (own := RX6) (by decide +kernel) rfl (Nat.le_of_ble_eq_true rfl) ?_
  intro p e s m below meth c A Q ls C hR hz hl
  have hl : lv_has ls 2 [(0, .ref (h 0))] := hl
  exact w6_forget_b0 C hR _ _ _ _ hf hz hl
abbrev rm6_canBe : Room := { frames := 2, cells := 0, slots := 0, locals := 44 }
set_option maxHeartbeats 4000000 in
set_option maxRecDepth 100000 in
theorem w6_canBe_b68 {res : Int32 × Sg} {k32 : Int32 → Int32 → Int32 → Sg → Option (Int32 × Sg)} (C : Cx p m c cX6_canBe 4 s args RX6 D (tyL cI cZ cB)) (hR : EndZ p l e rm6_canBe s m args below meth c Q D (wM cI cZ h) A cX6_canBe res) (hk32 : ∀ (x1 : Int32) (x2 : Int32) (x3 : Int32) (g : Sg) (H : Heap) (locs : List Loc) (ls : Array Slot), k32 x1 x2 x3 g = some res → Zs D (wM cI cZ h) A s.heap H locs g → lv_has ls 4 [(0, .ref (h 0)), (1, .int x1), (2, .int x2), (3, .int x3)] → W p l e rm6_canBe s m args below meth c H locs 0 0 Q (F0 m 32 ls [])) : ∀ (x1 : Int32) (x3 : Int32) (y0 : Int32) (g : Sg) (H : Heap) (locs : List Loc) (ls : Array Slot), f6_canBe_b68 k32 x1 x3 y0 g = some res → Zs D (wM cI cZ h) A s.heap H locs g → lv_has ls 4 [(0, .ref (h 0)), (1, .int x1), (3, .int x3)] → W p l e rm6_canBe s m args below meth c H locs 0 0 Q (F0 m 68 ls [.int y0]) := by
  have hx := C.1.1
  have hb := C.1.2.1
  intro x1 x3 y0 g H locs ls hf hz hl
  unfold f6_canBe_b68 at hf
  refine lv_istore_n (lv' := [(2, .int y0), (0, .ref (h 0)), (1, .int x1), (3, .int x3)]) hx hb dX6_canBe_68 rfl hl (by decide) rfl (fun ls hl => ?_)
  obtain ⟨v1, ev1, hf⟩ := nx_elim hf
  refine lv_iinc (v := v1) (lv' := [(3, .int v1), (2, .int y0), (0, .ref (h 0)), (1, .int x1)]) hx hb dX6_canBe_69 hl (k := 3) rfl (by rw [ev1]; rfl) (by decide) rfl (fun ls hl => ?_)
  refine lv_goto (tgt := 32) hx hb dX6_canBe_72 (by decide) ?_
  exact hk32 _ _ _ _ _ _ _ hf hz (lv_sub hl [2, 3, 1, 0] rfl)
set_option maxHeartbeats 4000000 in
set_option maxRecDepth 100000 in
theorem w6_canBe_b67 {res : Int32 × Sg} {k32 : Int32 → Int32 → Int32 → Sg → Option (Int32 × Sg)} (C : Cx p m c cX6_canBe 4 s args RX6 D (tyL cI cZ cB)) (hR : EndZ p l e rm6_canBe s m args below meth c Q D (wM cI cZ h) A cX6_canBe res) (hk32 : ∀ (x1 : Int32) (x2 : Int32) (x3 : Int32) (g : Sg) (H : Heap) (locs : List Loc) (ls : Array Slot), k32 x1 x2 x3 g = some res → Zs D (wM cI cZ h) A s.heap H locs g → lv_has ls 4 [(0, .ref (h 0)), (1, .int x1), (2, .int x2), (3, .int x3)] → W p l e rm6_canBe s m args below meth c H locs 0 0 Q (F0 m 32 ls [])) : ∀ (x1 : Int32) (x3 : Int32) (g : Sg) (H : Heap) (locs : List Loc) (ls : Array Slot), f6_canBe_b67 k32 x1 x3 g = some res → Zs D (wM cI cZ h) A s.heap H locs g → lv_has ls 4 [(0, .ref (h 0)), (1, .int x1), (3, .int x3)] → W p l e rm6_canBe s m args below meth c H locs 0 0 Q (F0 m 67 ls []) := by
  have hx := C.1.1
  have hb := C.1.2.1
  intro x1 x3 g H locs ls hf hz hl
  unfold f6_canBe_b67 at hf
  refine lv_iconst (v := (0 : Int32)) hx hb dX6_canBe_67 (by decide) ?_
  exact w6_canBe_b68 C hR hk32 _ _ _ _ _ _ _ hf hz (lv_sub hl [0, 1, 2] rfl)
set_option maxHeartbeats 4000000 in
set_option maxRecDepth 100000 in
theorem w6_canBe_b32 {res : Int32 × Sg} (C : Cx p m c cX6_canBe 4 s args RX6 D (tyL cI cZ cB)) (hR : EndZ p l e rm6_canBe s m args below meth c Q D (wM cI cZ h) A cX6_canBe res) : ∀ n : Nat, ∀ (x1 : Int32) (x2 : Int32) (x3 : Int32) (g : Sg) (H : Heap) (locs : List Loc) (ls : Array Slot), f6_canBe_b32 n x1 x2 x3 g = some res → Zs D (wM cI cZ h) A s.heap H locs g → lv_has ls 4 [(0, .ref (h 0)), (1, .int x1), (2, .int x2), (3, .int x3)] → W p l e rm6_canBe s m args below meth c H locs 0 0 Q (F0 m 32 ls []) := by
  have hx := C.1.1
  have hb := C.1.2.1
  intro n
  induction n with
  | zero =>
    intro x1 x2 x3 g H locs ls hf hz hl
    cases hf
  | succ n ih =>
    intro x1 x2 x3 g H locs ls hf hz hl
    rw [f6_canBe_b32] at hf
    refine lv_iload_n hx hb dX6_canBe_32 rfl (lv_at hl 3 rfl) ?_
    refine lv_aload_n hx hb dX6_canBe_33 rfl (lv_at hl 0 rfl) ?_
    refine g_RX6_139_model C hz dX6_canBe_34 ?_
    refine lv_icmp_ge (tgt := 75) hx hb dX6_canBe_37 (by decide) (fun c2 => ?_) (fun c2 => ?_)
    · have hf := ite_t hf c2
      refine lv_iload_n hx hb dX6_canBe_75 rfl (lv_at hl 2 rfl) ?_
      exact hR _ _ _ _ _ _ hf hz dX6_canBe_76
    · have hf := ite_f hf c2
      refine lv_iload_n hx hb dX6_canBe_40 rfl (lv_at hl 2 rfl) ?_
      refine lv_if_eq (tgt := 67) hx hb dX6_canBe_41 (by decide) (fun c3 => ?_) (fun c3 => ?_)
      · have hf := ite_t hf c3
        exact w6_canBe_b67 C hR ih _ _ _ _ _ _ hf hz (lv_sub hl [0, 1, 3] rfl)
      · have hf := ite_f hf c3
        refine lv_aload_n hx hb dX6_canBe_44 rfl (lv_at hl 0 rfl) ?_
        refine g_RX6_40_model C hz dX6_canBe_45 ?_
        refine lv_iconst (v := (4 : Int32)) hx hb dX6_canBe_48 (by decide) ?_
        refine lv_iload_n hx hb dX6_canBe_49 rfl (lv_at hl 1 rfl) ?_
        refine lv_imul hx hb dX6_canBe_50 ?_
        refine lv_iload_n hx hb dX6_canBe_51 rfl (lv_at hl 3 rfl) ?_
        refine lv_iadd hx hb dX6_canBe_52 ?_
        obtain ⟨c4, hf⟩ := ix_elim hf
        refine z_iald C hz a_m_wordOf c4 dX6_canBe_53 ?_
        refine lv_aload_n hx hb dX6_canBe_54 rfl (lv_at hl 0 rfl) ?_
        refine g_RX6_59_model C hz dX6_canBe_55 ?_
        refine lv_iload_n hx hb dX6_canBe_58 rfl (lv_at hl 3 rfl) ?_
        obtain ⟨c5, hf⟩ := ix_elim hf
        refine z_iald C hz a_m_seen c5 dX6_canBe_59 ?_
        refine lv_icmp_ne (tgt := 67) hx hb dX6_canBe_60 (by decide) (fun c6 => ?_) (fun c6 => ?_)
        · have hf := ite_f hf c6
          exact w6_canBe_b67 C hR ih _ _ _ _ _ _ hf hz (lv_sub hl [0, 1, 3] rfl)
        · have hf := ite_t hf c6
          refine lv_iconst (v := (1 : Int32)) hx hb dX6_canBe_63 (by decide) ?_
          refine lv_goto (tgt := 68) hx hb dX6_canBe_64 (by decide) ?_
          exact w6_canBe_b68 C hR ih _ _ _ _ _ _ _ hf hz (lv_sub hl [0, 1, 3] rfl)
set_option maxHeartbeats 4000000 in
set_option maxRecDepth 100000 in
theorem w6_canBe_b29 {res : Int32 × Sg} (C : Cx p m c cX6_canBe 4 s args RX6 D (tyL cI cZ cB)) (hR : EndZ p l e rm6_canBe s m args below meth c Q D (wM cI cZ h) A cX6_canBe res) : ∀ (x1 : Int32) (y0 : Int32) (g : Sg) (H : Heap) (locs : List Loc) (ls : Array Slot), f6_canBe_b29 x1 y0 g = some res → Zs D (wM cI cZ h) A s.heap H locs g → lv_has ls 4 [(0, .ref (h 0)), (1, .int x1)] → W p l e rm6_canBe s m args below meth c H locs 0 0 Q (F0 m 29 ls [.int y0]) := by
  have hx := C.1.1
  have hb := C.1.2.1
  intro x1 y0 g H locs ls hf hz hl
  unfold f6_canBe_b29 at hf
  refine lv_istore_n (lv' := [(2, .int y0), (0, .ref (h 0)), (1, .int x1)]) hx hb dX6_canBe_29 rfl hl (by decide) rfl (fun ls hl => ?_)
  refine lv_iconst (v := (0 : Int32)) hx hb dX6_canBe_30 (by decide) ?_
  refine lv_istore_n (lv' := [(3, .int (0 : Int32)), (2, .int y0), (0, .ref (h 0)), (1, .int x1)]) hx hb dX6_canBe_31 rfl hl (by decide) rfl (fun ls hl => ?_)
  exact w6_canBe_b32 C hR 1000 _ _ _ _ _ _ _ hf hz (lv_sub hl [2, 3, 1, 0] rfl)
set_option maxHeartbeats 4000000 in
set_option maxRecDepth 100000 in
theorem w6_canBe_b28 {res : Int32 × Sg} (C : Cx p m c cX6_canBe 4 s args RX6 D (tyL cI cZ cB)) (hR : EndZ p l e rm6_canBe s m args below meth c Q D (wM cI cZ h) A cX6_canBe res) : ∀ (x1 : Int32) (g : Sg) (H : Heap) (locs : List Loc) (ls : Array Slot), f6_canBe_b28 x1 g = some res → Zs D (wM cI cZ h) A s.heap H locs g → lv_has ls 4 [(0, .ref (h 0)), (1, .int x1)] → W p l e rm6_canBe s m args below meth c H locs 0 0 Q (F0 m 28 ls []) := by
  have hx := C.1.1
  have hb := C.1.2.1
  intro x1 g H locs ls hf hz hl
  unfold f6_canBe_b28 at hf
  refine lv_iconst (v := (0 : Int32)) hx hb dX6_canBe_28 (by decide) ?_
  exact w6_canBe_b29 C hR _ _ _ _ _ _ hf hz (lv_sub hl [0, 1] rfl)
set_option maxHeartbeats 4000000 in
set_option maxRecDepth 100000 in
theorem w6_canBe_b0 {res : Int32 × Sg} (C : Cx p m c cX6_canBe 4 s args RX6 D (tyL cI cZ cB)) (hR : EndZ p l e rm6_canBe s m args below meth c Q D (wM cI cZ h) A cX6_canBe res) : ∀ (x1 : Int32) (g : Sg) (H : Heap) (locs : List Loc) (ls : Array Slot), f6_canBe x1 g = some res → Zs D (wM cI cZ h) A s.heap H locs g → lv_has ls 4 [(0, .ref (h 0)), (1, .int x1)] → W p l e rm6_canBe s m args below meth c H locs 0 0 Q (F0 m 0 ls []) := by
  have hx := C.1.1
  have hb := C.1.2.1
  intro x1 g H locs ls hf hz hl
  unfold f6_canBe at hf
  refine lv_aload_n hx hb dX6_canBe_0 rfl (lv_at hl 0 rfl) ?_
  refine g_RX6_46_model C hz dX6_canBe_1 ?_
  refine lv_bipush (v := (13 : Int32)) hx hb dX6_canBe_4 (by decide) ?_
  refine lv_iload_n hx hb dX6_canBe_6 rfl (lv_at hl 1 rfl) ?_
  refine lv_iadd hx hb dX6_canBe_7 ?_
  obtain ⟨c7, hf⟩ := ix_elim hf
  refine z_iald C hz a_m_s c7 dX6_canBe_8 ?_
  refine lv_if_ne (tgt := 28) hx hb dX6_canBe_9 (by decide) (fun c8 => ?_) (fun c8 => ?_)
  · have hf := ite_f hf c8
    exact w6_canBe_b28 C hR _ _ _ _ _ hf hz (lv_sub hl [0, 1] rfl)
  · have hf := ite_t hf c8
    refine lv_aload_n hx hb dX6_canBe_12 rfl (lv_at hl 0 rfl) ?_
    refine lv_iload_n hx hb dX6_canBe_13 rfl (lv_at hl 1 rfl) ?_
    obtain ⟨r11, g10, hc9, hf⟩ := bd2_elim hf
    refine z_VI (As := [.int x1]) (rest := []) C (c6_leftNow hc9) lk_RX6_151 ⟨rfl, rfl, Nat.le_of_ble_eq_true rfl, Nat.le_of_ble_eq_true rfl⟩ ⟨Nat.zero_le _, Nat.zero_le _⟩ o_model rfl rfl (Nat.le_of_ble_eq_true rfl) rfl hl.1 dX6_canBe_14 hz (fun H locs hz => ?_)
    refine lv_aload_n hx hb dX6_canBe_17 rfl (lv_at hl 0 rfl) ?_
    refine g_RX6_139_model C hz dX6_canBe_18 ?_
    refine lv_icmp_lt (tgt := 28) hx hb dX6_canBe_21 (by decide) (fun c12 => ?_) (fun c12 => ?_)
    · have hf := ite_t hf c12
      exact w6_canBe_b28 C hR _ _ _ _ _ hf hz (lv_sub hl [0, 1] rfl)
    · have hf := ite_f hf c12
      refine lv_iconst (v := (1 : Int32)) hx hb dX6_canBe_24 (by decide) ?_
      refine lv_goto (tgt := 29) hx hb dX6_canBe_25 (by decide) ?_
      exact w6_canBe_b29 C hR _ _ _ _ _ _ hf hz (lv_sub hl [0, 1] rfl)
set_option maxHeartbeats 4000000 in
set_option maxRecDepth 100000 in
theorem c6_canBe {l : Launch} {D : va_G} {cI cZ cB : ClassId} {h : Nat → Nat} {x1 : Int32} {g : Sg} {r : Int32} {g1 : Sg} (hf : f6_canBe x1 g = some (r, g1)) : KI l D (tyL cI cZ cB) (wM cI cZ h) yX6_canBe cX6_canBe 4 (some .boolean) rm6_canBe [.ref (h 0), .int x1] g r g1 := by
  refine KZ_mk (own := RX6) (by decide +kernel) rfl (Nat.le_of_ble_eq_true rfl) ?_
  intro p e s m below meth c A Q ls C hR hz hl
  have hl : lv_has ls 4 [(0, .ref (h 0)), (1, .int x1)] := hl
  exact w6_canBe_b0 C hR _ _ _ _ _ hf hz hl
abbrev rm6_fits : Room := { frames := 3, cells := 0, slots := 0, locals := 67 }
set_option maxHeartbeats 4000000 in
set_option maxRecDepth 100000 in
theorem w6_fits_b35 {res : Int32 × Sg} {k9 : Int32 → Int32 → Sg → Option (Int32 × Sg)} (C : Cx p m c cX6_fits 3 s args RX6 D (tyL cI cZ cB)) (hR : EndI p l e rm6_fits s m args below meth c Q D (wM cI cZ h) A cX6_fits res) (hk9 : ∀ (x1 : Int32) (x2 : Int32) (g : Sg) (H : Heap) (locs : List Loc) (ls : Array Slot), k9 x1 x2 g = some res → Zs D (wM cI cZ h) A s.heap H locs g → lv_has ls 3 [(0, .ref (h 0)), (1, .int x1), (2, .int x2)] → W p l e rm6_fits s m args below meth c H locs 0 0 Q (F0 m 9 ls [])) : ∀ (x2 : Int32) (y0 : Int32) (y1 : Int32) (g : Sg) (H : Heap) (locs : List Loc) (ls : Array Slot), f6_fits_b35 k9 x2 y0 y1 g = some res → Zs D (wM cI cZ h) A s.heap H locs g → lv_has ls 3 [(0, .ref (h 0)), (2, .int x2)] → W p l e rm6_fits s m args below meth c H locs 0 0 Q (F0 m 35 ls [.int y0, .int y1]) := by
  have hx := C.1.1
  have hb := C.1.2.1
  intro x2 y0 y1 g H locs ls hf hz hl
  unfold f6_fits_b35 at hf
  refine lv_ior hx hb dX6_fits_35 ?_
  obtain ⟨v1, ev1, hf⟩ := nx_elim hf
  refine z_nm ev1 ?_
  refine lv_istore_n (lv' := [(1, .int v1), (0, .ref (h 0)), (2, .int x2)]) hx hb dX6_fits_36 rfl hl (by decide) rfl (fun ls hl => ?_)
  obtain ⟨v2, ev2, hf⟩ := nx_elim hf
  refine lv_iinc (v := v2) (lv' := [(2, .int v2), (1, .int v1), (0, .ref (h 0))]) hx hb dX6_fits_37 hl (k := 2) rfl (by rw [ev2]; rfl) (by decide) rfl (fun ls hl => ?_)
  refine lv_goto (tgt := 9) hx hb dX6_fits_40 (by decide) ?_
  exact hk9 _ _ _ _ _ _ hf hz (lv_sub hl [2, 1, 0] rfl)
set_option maxHeartbeats 4000000 in
set_option maxRecDepth 100000 in
theorem w6_fits_b9 {res : Int32 × Sg} (C : Cx p m c cX6_fits 3 s args RX6 D (tyL cI cZ cB)) (hR : EndI p l e rm6_fits s m args below meth c Q D (wM cI cZ h) A cX6_fits res) : ∀ n : Nat, ∀ (x1 : Int32) (x2 : Int32) (g : Sg) (H : Heap) (locs : List Loc) (ls : Array Slot), f6_fits_b9 n x1 x2 g = some res → Zs D (wM cI cZ h) A s.heap H locs g → lv_has ls 3 [(0, .ref (h 0)), (1, .int x1), (2, .int x2)] → W p l e rm6_fits s m args below meth c H locs 0 0 Q (F0 m 9 ls []) := by
  have hx := C.1.1
  have hb := C.1.2.1
  intro n
  induction n with
  | zero =>
    intro x1 x2 g H locs ls hf hz hl
    cases hf
  | succ n ih =>
    intro x1 x2 g H locs ls hf hz hl
    rw [f6_fits_b9] at hf
    refine lv_iload_n hx hb dX6_fits_9 rfl (lv_at hl 2 rfl) ?_
    refine lv_aload_n hx hb dX6_fits_10 rfl (lv_at hl 0 rfl) ?_
    refine g_RX6_13_model C hz dX6_fits_11 ?_
    refine lv_iconst (v := (1 : Int32)) hx hb dX6_fits_14 (by decide) ?_
    refine z_ialdL C hz a_m_many (vpl (n := 1) (by decide) (by decide)) (k := 1) (by decide) dX6_fits_15 ?_
    refine lv_icmp_ge (tgt := 43) hx hb dX6_fits_16 (by decide) (fun c3 => ?_) (fun c3 => ?_)
    · have hf := ite_t hf c3
      refine lv_iload_n hx hb dX6_fits_43 rfl (lv_at hl 1 rfl) ?_
      exact hR _ _ _ _ _ _ (Option.some.inj hf) hz dX6_fits_44
    · have hf := ite_f hf c3
      refine lv_iload_n hx hb dX6_fits_19 rfl (lv_at hl 1 rfl) ?_
      refine lv_aload_n hx hb dX6_fits_20 rfl (lv_at hl 0 rfl) ?_
      refine lv_iload_n hx hb dX6_fits_21 rfl (lv_at hl 2 rfl) ?_
      obtain ⟨r6, g5, hc4, hf⟩ := bd2_elim hf
      refine z_VI (As := [.int x2]) (rest := [.int x1]) C (c6_canBe hc4) lk_RX6_179 ⟨rfl, rfl, Nat.le_of_ble_eq_true rfl, Nat.le_of_ble_eq_true rfl⟩ ⟨Nat.zero_le _, Nat.zero_le _⟩ o_model rfl rfl (Nat.le_of_ble_eq_true rfl) rfl hl.1 dX6_fits_22 hz (fun H locs hz => ?_)
      refine lv_if_eq (tgt := 34) hx hb dX6_fits_25 (by decide) (fun c7 => ?_) (fun c7 => ?_)
      · have hf := ite_t hf c7
        refine lv_iconst (v := (0 : Int32)) hx hb dX6_fits_34 (by decide) ?_
        exact w6_fits_b35 C hR ih _ _ _ _ _ _ _ hf hz (lv_sub hl [0, 2] rfl)
      · have hf := ite_f hf c7
        refine lv_iconst (v := (1 : Int32)) hx hb dX6_fits_28 (by decide) ?_
        refine lv_iload_n hx hb dX6_fits_29 rfl (lv_at hl 2 rfl) ?_
        refine lv_ishl hx hb dX6_fits_30 ?_
        refine lv_goto (tgt := 35) hx hb dX6_fits_31 (by decide) ?_
        exact w6_fits_b35 C hR ih _ _ _ _ _ _ _ hf hz (lv_sub hl [0, 2] rfl)
set_option maxHeartbeats 4000000 in
set_option maxRecDepth 100000 in
theorem w6_fits_b0 {res : Int32 × Sg} (C : Cx p m c cX6_fits 3 s args RX6 D (tyL cI cZ cB)) (hR : EndI p l e rm6_fits s m args below meth c Q D (wM cI cZ h) A cX6_fits res) : ∀ (g : Sg) (H : Heap) (locs : List Loc) (ls : Array Slot), f6_fits g = some res → Zs D (wM cI cZ h) A s.heap H locs g → lv_has ls 3 [(0, .ref (h 0))] → W p l e rm6_fits s m args below meth c H locs 0 0 Q (F0 m 0 ls []) := by
  have hx := C.1.1
  have hb := C.1.2.1
  intro g H locs ls hf hz hl
  unfold f6_fits at hf
  refine lv_aload_n hx hb dX6_fits_0 rfl (lv_at hl 0 rfl) ?_
  refine lv_iconst (v := (0 : Int32)) hx hb dX6_fits_1 (by decide) ?_
  obtain ⟨g8, eg8, hf⟩ := nx_elim hf
  refine p_RX6_74_model C hz eg8 dX6_fits_2 (fun H locs hz => ?_)
  refine lv_iconst (v := (0 : Int32)) hx hb dX6_fits_5 (by decide) ?_
  refine lv_istore_n (lv' := [(1, .int (0 : Int32)), (0, .ref (h 0))]) hx hb dX6_fits_6 rfl hl (by decide) rfl (fun ls hl => ?_)
  refine lv_iconst (v := (0 : Int32)) hx hb dX6_fits_7 (by decide) ?_
  refine lv_istore_n (lv' := [(2, .int (0 : Int32)), (1, .int (0 : Int32)), (0, .ref (h 0))]) hx hb dX6_fits_8 rfl hl (by decide) rfl (fun ls hl => ?_)
  exact w6_fits_b9 C hR 1000 _ _ _ _ _ _ hf hz (lv_sub hl [2, 1, 0] rfl)
set_option maxHeartbeats 4000000 in
set_option maxRecDepth 100000 in
theorem c6_fits {l : Launch} {D : va_G} {cI cZ cB : ClassId} {h : Nat → Nat} {g : Sg} {r : Int32} {g1 : Sg} (hf : f6_fits g = some (r, g1)) : KI l D (tyL cI cZ cB) (wM cI cZ h) yX6_fits cX6_fits 3 (some .int) rm6_fits [.ref (h 0)] g r g1 := by
  refine KI_mk (own := RX6) (by decide +kernel) rfl (Nat.le_of_ble_eq_true rfl) ?_
  intro p e s m below meth c A Q ls C hR hz hl
  have hl : lv_has ls 3 [(0, .ref (h 0))] := hl
  exact w6_fits_b0 C hR _ _ _ _ hf hz hl
abbrev rm6_likely : Room := { frames := 3, cells := 0, slots := 0, locals := 67 }
set_option maxHeartbeats 4000000 in
set_option maxRecDepth 100000 in
theorem w6_likely_b135 {res : Int32 × Sg} {k93 : Int32 → Int32 → Int32 → Sg → Option (Int32 × Sg)} (C : Cx p m c cX6_likely 4 s args RX6 D (tyL cI cZ cB)) (hR : EndI p l e rm6_likely s m args below meth c Q D (wM cI cZ h) A cX6_likely res) (hk93 : ∀ (x1 : Int32) (x2 : Int32) (x3 : Int32) (g : Sg) (H : Heap) (locs : List Loc) (ls : Array Slot), k93 x1 x2 x3 g = some res → Zs D (wM cI cZ h) A s.heap H locs g → lv_has ls 4 [(0, .ref (h 0)), (1, .int x1), (2, .int x2), (3, .int x3)] → W p l e rm6_likely s m args below meth c H locs 0 0 Q (F0 m 93 ls [])) : ∀ (x1 : Int32) (x3 : Int32) (y0 : Int32) (g : Sg) (H : Heap) (locs : List Loc) (ls : Array Slot), f6_likely_b135 k93 x1 x3 y0 g = some res → Zs D (wM cI cZ h) A s.heap H locs g → lv_has ls 4 [(0, .ref (h 0)), (1, .int x1), (3, .int x3)] → W p l e rm6_likely s m args below meth c H locs 0 0 Q (F0 m 135 ls [.int y0]) := by
  have hx := C.1.1
  have hb := C.1.2.1
  intro x1 x3 y0 g H locs ls hf hz hl
  unfold f6_likely_b135 at hf
  refine lv_istore_n (lv' := [(2, .int y0), (0, .ref (h 0)), (1, .int x1), (3, .int x3)]) hx hb dX6_likely_135 rfl hl (by decide) rfl (fun ls hl => ?_)
  obtain ⟨v1, ev1, hf⟩ := nx_elim hf
  refine lv_iinc (v := v1) (lv' := [(3, .int v1), (2, .int y0), (0, .ref (h 0)), (1, .int x1)]) hx hb dX6_likely_136 hl (k := 3) rfl (by rw [ev1]; rfl) (by decide) rfl (fun ls hl => ?_)
  refine lv_goto (tgt := 93) hx hb dX6_likely_139 (by decide) ?_
  exact hk93 _ _ _ _ _ _ _ hf hz (lv_sub hl [2, 3, 1, 0] rfl)
set_option maxHeartbeats 4000000 in
set_option maxRecDepth 100000 in
theorem w6_likely_b114 {res : Int32 × Sg} {k93 : Int32 → Int32 → Int32 → Sg → Option (Int32 × Sg)} (C : Cx p m c cX6_likely 4 s args RX6 D (tyL cI cZ cB)) (hR : EndI p l e rm6_likely s m args below meth c Q D (wM cI cZ h) A cX6_likely res) (hk93 : ∀ (x1 : Int32) (x2 : Int32) (x3 : Int32) (g : Sg) (H : Heap) (locs : List Loc) (ls : Array Slot), k93 x1 x2 x3 g = some res → Zs D (wM cI cZ h) A s.heap H locs g → lv_has ls 4 [(0, .ref (h 0)), (1, .int x1), (2, .int x2), (3, .int x3)] → W p l e rm6_likely s m args below meth c H locs 0 0 Q (F0 m 93 ls [])) : ∀ (x2 : Int32) (x3 : Int32) (y0 : Int32) (g : Sg) (H : Heap) (locs : List Loc) (ls : Array Slot), f6_likely_b114 k93 x2 x3 y0 g = some res → Zs D (wM cI cZ h) A s.heap H locs g → lv_has ls 4 [(0, .ref (h 0)), (2, .int x2), (3, .int x3)] → W p l e rm6_likely s m args below meth c H locs 0 0 Q (F0 m 114 ls [.int y0]) := by
  have hx := C.1.1
  have hb := C.1.2.1
  intro x2 x3 y0 g H locs ls hf hz hl
  unfold f6_likely_b114 at hf
  refine lv_istore_n (lv' := [(1, .int y0), (0, .ref (h 0)), (2, .int x2), (3, .int x3)]) hx hb dX6_likely_114 rfl hl (by decide) rfl (fun ls hl => ?_)
  refine lv_aload_n hx hb dX6_likely_115 rfl (lv_at hl 1 rfl) ?_
  refine g_RX6_65_model C hz dX6_likely_116 ?_
  refine lv_iload_n hx hb dX6_likely_119 rfl (lv_at hl 3 rfl) ?_
  obtain ⟨c2, hf⟩ := ix_elim hf
  refine z_iald C hz a_m_by c2 dX6_likely_120 ?_
  refine lv_iload_n hx hb dX6_likely_121 rfl (lv_at hl 2 rfl) ?_
  refine lv_icmp_le (tgt := 134) hx hb dX6_likely_122 (by decide) (fun c3 => ?_) (fun c3 => ?_)
  · have hf := ite_t hf c3
    refine lv_iload_n hx hb dX6_likely_134 rfl (lv_at hl 2 rfl) ?_
    exact w6_likely_b135 C hR hk93 _ _ _ _ _ _ _ hf hz (lv_sub hl [1, 0, 3] rfl)
  · have hf := ite_f hf c3
    refine lv_aload_n hx hb dX6_likely_125 rfl (lv_at hl 1 rfl) ?_
    refine g_RX6_65_model C hz dX6_likely_126 ?_
    refine lv_iload_n hx hb dX6_likely_129 rfl (lv_at hl 3 rfl) ?_
    obtain ⟨c4, hf⟩ := ix_elim hf
    refine z_iald C hz a_m_by c4 dX6_likely_130 ?_
    refine lv_goto (tgt := 135) hx hb dX6_likely_131 (by decide) ?_
    exact w6_likely_b135 C hR hk93 _ _ _ _ _ _ _ hf hz (lv_sub hl [1, 0, 3] rfl)
set_option maxHeartbeats 4000000 in
set_option maxRecDepth 100000 in
theorem w6_likely_b93 {res : Int32 × Sg} (C : Cx p m c cX6_likely 4 s args RX6 D (tyL cI cZ cB)) (hR : EndI p l e rm6_likely s m args below meth c Q D (wM cI cZ h) A cX6_likely res) : ∀ n : Nat, ∀ (x1 : Int32) (x2 : Int32) (x3 : Int32) (g : Sg) (H : Heap) (locs : List Loc) (ls : Array Slot), f6_likely_b93 n x1 x2 x3 g = some res → Zs D (wM cI cZ h) A s.heap H locs g → lv_has ls 4 [(0, .ref (h 0)), (1, .int x1), (2, .int x2), (3, .int x3)] → W p l e rm6_likely s m args below meth c H locs 0 0 Q (F0 m 93 ls []) := by
  have hx := C.1.1
  have hb := C.1.2.1
  intro n
  induction n with
  | zero =>
    intro x1 x2 x3 g H locs ls hf hz hl
    cases hf
  | succ n ih =>
    intro x1 x2 x3 g H locs ls hf hz hl
    rw [f6_likely_b93] at hf
    refine lv_iload_n hx hb dX6_likely_93 rfl (lv_at hl 3 rfl) ?_
    refine lv_bipush (v := (10 : Int32)) hx hb dX6_likely_94 (by decide) ?_
    refine lv_icmp_ge (tgt := 142) hx hb dX6_likely_96 (by decide) (fun c5 => ?_) (fun c5 => ?_)
    · have hf := ite_t hf c5
      refine lv_iload_n hx hb dX6_likely_142 rfl (lv_at hl 1 rfl) ?_
      exact hR _ _ _ _ _ _ (Option.some.inj hf) hz dX6_likely_143
    · have hf := ite_f hf c5
      refine lv_aload_n hx hb dX6_likely_99 rfl (lv_at hl 0 rfl) ?_
      refine g_RX6_65_model C hz dX6_likely_100 ?_
      refine lv_iload_n hx hb dX6_likely_103 rfl (lv_at hl 3 rfl) ?_
      obtain ⟨c6, hf⟩ := ix_elim hf
      refine z_iald C hz a_m_by c6 dX6_likely_104 ?_
      refine lv_iload_n hx hb dX6_likely_105 rfl (lv_at hl 2 rfl) ?_
      refine lv_icmp_le (tgt := 113) hx hb dX6_likely_106 (by decide) (fun c7 => ?_) (fun c7 => ?_)
      · have hf := ite_t hf c7
        refine lv_iload_n hx hb dX6_likely_113 rfl (lv_at hl 1 rfl) ?_
        exact w6_likely_b114 C hR ih _ _ _ _ _ _ _ hf hz (lv_sub hl [0, 2, 3] rfl)
      · have hf := ite_f hf c7
        refine lv_iload_n hx hb dX6_likely_109 rfl (lv_at hl 3 rfl) ?_
        refine lv_goto (tgt := 114) hx hb dX6_likely_110 (by decide) ?_
        exact w6_likely_b114 C hR ih _ _ _ _ _ _ _ hf hz (lv_sub hl [0, 2, 3] rfl)
set_option maxHeartbeats 4000000 in
set_option maxRecDepth 100000 in
theorem w6_likely_b80 {res : Int32 × Sg} {k28 : Int32 → Sg → Option (Int32 × Sg)} (C : Cx p m c cX6_likely 4 s args RX6 D (tyL cI cZ cB)) (hR : EndI p l e rm6_likely s m args below meth c Q D (wM cI cZ h) A cX6_likely res) (hk28 : ∀ (x1 : Int32) (g : Sg) (H : Heap) (locs : List Loc) (ls : Array Slot), k28 x1 g = some res → Zs D (wM cI cZ h) A s.heap H locs g → lv_has ls 4 [(0, .ref (h 0)), (1, .int x1)] → W p l e rm6_likely s m args below meth c H locs 0 0 Q (F0 m 28 ls [])) : ∀ (x1 : Int32) (g : Sg) (H : Heap) (locs : List Loc) (ls : Array Slot), f6_likely_b80 k28 x1 g = some res → Zs D (wM cI cZ h) A s.heap H locs g → lv_has ls 4 [(0, .ref (h 0)), (1, .int x1)] → W p l e rm6_likely s m args below meth c H locs 0 0 Q (F0 m 80 ls []) := by
  have hx := C.1.1
  have hb := C.1.2.1
  intro x1 g H locs ls hf hz hl
  unfold f6_likely_b80 at hf
  obtain ⟨v8, ev8, hf⟩ := nx_elim hf
  refine lv_iinc (v := v8) (lv' := [(1, .int v8), (0, .ref (h 0))]) hx hb dX6_likely_80 hl (k := 1) rfl (by rw [ev8]; rfl) (by decide) rfl (fun ls hl => ?_)
  refine lv_goto (tgt := 28) hx hb dX6_likely_83 (by decide) ?_
  exact hk28 _ _ _ _ _ hf hz (lv_sub hl [1, 0] rfl)
set_option maxHeartbeats 4000000 in
set_option maxRecDepth 100000 in
theorem w6_likely_b28 {res : Int32 × Sg} (C : Cx p m c cX6_likely 4 s args RX6 D (tyL cI cZ cB)) (hR : EndI p l e rm6_likely s m args below meth c Q D (wM cI cZ h) A cX6_likely res) : ∀ n : Nat, ∀ (x1 : Int32) (g : Sg) (H : Heap) (locs : List Loc) (ls : Array Slot), f6_likely_b28 n x1 g = some res → Zs D (wM cI cZ h) A s.heap H locs g → lv_has ls 4 [(0, .ref (h 0)), (1, .int x1)] → W p l e rm6_likely s m args below meth c H locs 0 0 Q (F0 m 28 ls []) := by
  have hx := C.1.1
  have hb := C.1.2.1
  intro n
  induction n with
  | zero =>
    intro x1 g H locs ls hf hz hl
    cases hf
  | succ n ih =>
    intro x1 g H locs ls hf hz hl
    rw [f6_likely_b28] at hf
    refine lv_iload_n hx hb dX6_likely_28 rfl (lv_at hl 1 rfl) ?_
    refine lv_aload_n hx hb dX6_likely_29 rfl (lv_at hl 0 rfl) ?_
    refine g_RX6_13_model C hz dX6_likely_30 ?_
    refine lv_iconst (v := (1 : Int32)) hx hb dX6_likely_33 (by decide) ?_
    refine z_ialdL C hz a_m_many (vpl (n := 1) (by decide) (by decide)) (k := 1) (by decide) dX6_likely_34 ?_
    refine lv_icmp_ge (tgt := 86) hx hb dX6_likely_35 (by decide) (fun c9 => ?_) (fun c9 => ?_)
    · have hf := ite_t hf c9
      refine lv_bipush (v := (-9 : Int32)) hx hb dX6_likely_86 (by decide) ?_
      refine lv_istore_n (lv' := [(1, .int (-9 : Int32)), (0, .ref (h 0))]) hx hb dX6_likely_88 rfl hl (by decide) rfl (fun ls hl => ?_)
      refine lv_iconst (v := (0 : Int32)) hx hb dX6_likely_89 (by decide) ?_
      refine lv_istore_n (lv' := [(2, .int (0 : Int32)), (1, .int (-9 : Int32)), (0, .ref (h 0))]) hx hb dX6_likely_90 rfl hl (by decide) rfl (fun ls hl => ?_)
      refine lv_iconst (v := (0 : Int32)) hx hb dX6_likely_91 (by decide) ?_
      refine lv_istore_n (lv' := [(3, .int (0 : Int32)), (2, .int (0 : Int32)), (1, .int (-9 : Int32)), (0, .ref (h 0))]) hx hb dX6_likely_92 rfl hl (by decide) rfl (fun ls hl => ?_)
      exact w6_likely_b93 C hR 1000 _ _ _ _ _ _ _ hf hz (lv_sub hl [3, 2, 1, 0] rfl)
    · have hf := ite_f hf c9
      refine lv_aload_n hx hb dX6_likely_38 rfl (lv_at hl 0 rfl) ?_
      refine lv_iload_n hx hb dX6_likely_39 rfl (lv_at hl 1 rfl) ?_
      obtain ⟨r12, g11, hc10, hf⟩ := bd2_elim hf
      refine z_VI (As := [.int x1]) (rest := []) C (c6_canBe hc10) lk_RX6_179 ⟨rfl, rfl, Nat.le_of_ble_eq_true rfl, Nat.le_of_ble_eq_true rfl⟩ ⟨Nat.zero_le _, Nat.zero_le _⟩ o_model rfl rfl (Nat.le_of_ble_eq_true rfl) rfl hl.1 dX6_likely_40 hz (fun H locs hz => ?_)
      refine lv_if_eq (tgt := 80) hx hb dX6_likely_43 (by decide) (fun c13 => ?_) (fun c13 => ?_)
      · have hf := ite_t hf c13
        exact w6_likely_b80 C hR ih _ _ _ _ _ hf hz (lv_sub hl [0, 1] rfl)
      · have hf := ite_f hf c13
        refine lv_aload_n hx hb dX6_likely_46 rfl (lv_at hl 0 rfl) ?_
        refine lv_iload_n hx hb dX6_likely_47 rfl (lv_at hl 1 rfl) ?_
        obtain ⟨r16, g15, hc14, hf⟩ := bd2_elim hf
        refine z_VI (As := [.int x1]) (rest := []) C (c6_leftNow hc14) lk_RX6_151 ⟨rfl, rfl, Nat.le_of_ble_eq_true rfl, Nat.le_of_ble_eq_true rfl⟩ ⟨Nat.zero_le _, Nat.zero_le _⟩ o_model rfl rfl (Nat.le_of_ble_eq_true rfl) rfl hl.1 dX6_likely_48 hz (fun H locs hz => ?_)
        refine lv_aload_n hx hb dX6_likely_51 rfl (lv_at hl 0 rfl) ?_
        refine g_RX6_139_model C hz dX6_likely_52 ?_
        refine lv_icmp_le (tgt := 80) hx hb dX6_likely_55 (by decide) (fun c17 => ?_) (fun c17 => ?_)
        · have hf := ite_t hf c17
          exact w6_likely_b80 C hR ih _ _ _ _ _ hf hz (lv_sub hl [0, 1] rfl)
        · have hf := ite_f hf c17
          refine lv_aload_n hx hb dX6_likely_58 rfl (lv_at hl 0 rfl) ?_
          refine g_RX6_65_model C hz dX6_likely_59 ?_
          refine lv_aload_n hx hb dX6_likely_62 rfl (lv_at hl 0 rfl) ?_
          refine g_RX6_40_model C hz dX6_likely_63 ?_
          refine lv_iconst (v := (4 : Int32)) hx hb dX6_likely_66 (by decide) ?_
          refine lv_iload_n hx hb dX6_likely_67 rfl (lv_at hl 1 rfl) ?_
          refine lv_imul hx hb dX6_likely_68 ?_
          refine lv_aload_n hx hb dX6_likely_69 rfl (lv_at hl 0 rfl) ?_
          refine g_RX6_139_model C hz dX6_likely_70 ?_
          refine lv_iadd hx hb dX6_likely_73 ?_
          obtain ⟨c18, hf⟩ := ix_elim hf
          refine z_iald C hz a_m_wordOf c18 dX6_likely_74 ?_
          refine lv_dup2_11 hx hb dX6_likely_75 rfl rfl ?_
          obtain ⟨c19, hf⟩ := ix_elim hf
          refine z_iald C hz a_m_by c19 dX6_likely_76 ?_
          refine lv_iconst (v := (1 : Int32)) hx hb dX6_likely_77 (by decide) ?_
          refine lv_iadd hx hb dX6_likely_78 ?_
          obtain ⟨c20, hf⟩ := ix_elim hf
          obtain ⟨g21, eg21, hf⟩ := nx_elim hf
          refine z_iast C hz a_m_by c20 eg21 dX6_likely_79 (fun H locs hz => ?_)
          exact w6_likely_b80 C hR ih _ _ _ _ _ hf hz (lv_sub hl [0, 1] rfl)
set_option maxHeartbeats 4000000 in
set_option maxRecDepth 100000 in
theorem w6_likely_b7 {res : Int32 × Sg} (C : Cx p m c cX6_likely 4 s args RX6 D (tyL cI cZ cB)) (hR : EndI p l e rm6_likely s m args below meth c Q D (wM cI cZ h) A cX6_likely res) : ∀ n : Nat, ∀ (x1 : Int32) (g : Sg) (H : Heap) (locs : List Loc) (ls : Array Slot), f6_likely_b7 n x1 g = some res → Zs D (wM cI cZ h) A s.heap H locs g → lv_has ls 4 [(0, .ref (h 0)), (1, .int x1)] → W p l e rm6_likely s m args below meth c H locs 0 0 Q (F0 m 7 ls []) := by
  have hx := C.1.1
  have hb := C.1.2.1
  intro n
  induction n with
  | zero =>
    intro x1 g H locs ls hf hz hl
    cases hf
  | succ n ih =>
    intro x1 g H locs ls hf hz hl
    rw [f6_likely_b7] at hf
    refine lv_iload_n hx hb dX6_likely_7 rfl (lv_at hl 1 rfl) ?_
    refine lv_bipush (v := (10 : Int32)) hx hb dX6_likely_8 (by decide) ?_
    refine lv_icmp_ge (tgt := 26) hx hb dX6_likely_10 (by decide) (fun c22 => ?_) (fun c22 => ?_)
    · have hf := ite_t hf c22
      refine lv_iconst (v := (0 : Int32)) hx hb dX6_likely_26 (by decide) ?_
      refine lv_istore_n (lv' := [(1, .int (0 : Int32)), (0, .ref (h 0))]) hx hb dX6_likely_27 rfl hl (by decide) rfl (fun ls hl => ?_)
      exact w6_likely_b28 C hR 1000 _ _ _ _ _ hf hz (lv_sub hl [1, 0] rfl)
    · have hf := ite_f hf c22
      refine lv_aload_n hx hb dX6_likely_13 rfl (lv_at hl 0 rfl) ?_
      refine g_RX6_65_model C hz dX6_likely_14 ?_
      refine lv_iload_n hx hb dX6_likely_17 rfl (lv_at hl 1 rfl) ?_
      refine lv_iconst (v := (0 : Int32)) hx hb dX6_likely_18 (by decide) ?_
      obtain ⟨c23, hf⟩ := ix_elim hf
      obtain ⟨g24, eg24, hf⟩ := nx_elim hf
      refine z_iast C hz a_m_by c23 eg24 dX6_likely_19 (fun H locs hz => ?_)
      obtain ⟨v25, ev25, hf⟩ := nx_elim hf
      refine lv_iinc (v := v25) (lv' := [(1, .int v25), (0, .ref (h 0))]) hx hb dX6_likely_20 hl (k := 1) rfl (by rw [ev25]; rfl) (by decide) rfl (fun ls hl => ?_)
      refine lv_goto (tgt := 7) hx hb dX6_likely_23 (by decide) ?_
      exact ih _ _ _ _ _ hf hz (lv_sub hl [1, 0] rfl)
set_option maxHeartbeats 4000000 in
set_option maxRecDepth 100000 in
theorem w6_likely_b0 {res : Int32 × Sg} (C : Cx p m c cX6_likely 4 s args RX6 D (tyL cI cZ cB)) (hR : EndI p l e rm6_likely s m args below meth c Q D (wM cI cZ h) A cX6_likely res) : ∀ (g : Sg) (H : Heap) (locs : List Loc) (ls : Array Slot), f6_likely g = some res → Zs D (wM cI cZ h) A s.heap H locs g → lv_has ls 4 [(0, .ref (h 0))] → W p l e rm6_likely s m args below meth c H locs 0 0 Q (F0 m 0 ls []) := by
  have hx := C.1.1
  have hb := C.1.2.1
  intro g H locs ls hf hz hl
  unfold f6_likely at hf
  refine lv_aload_n hx hb dX6_likely_0 rfl (lv_at hl 0 rfl) ?_
  refine lv_iconst (v := (0 : Int32)) hx hb dX6_likely_1 (by decide) ?_
  obtain ⟨g26, eg26, hf⟩ := nx_elim hf
  refine p_RX6_74_model C hz eg26 dX6_likely_2 (fun H locs hz => ?_)
  refine lv_iconst (v := (0 : Int32)) hx hb dX6_likely_5 (by decide) ?_
  refine lv_istore_n (lv' := [(1, .int (0 : Int32)), (0, .ref (h 0))]) hx hb dX6_likely_6 rfl hl (by decide) rfl (fun ls hl => ?_)
  exact w6_likely_b7 C hR 1000 _ _ _ _ _ hf hz (lv_sub hl [1, 0] rfl)
set_option maxHeartbeats 4000000 in
set_option maxRecDepth 100000 in
theorem c6_likely {l : Launch} {D : va_G} {cI cZ cB : ClassId} {h : Nat → Nat} {g : Sg} {r : Int32} {g1 : Sg} (hf : f6_likely g = some (r, g1)) : KI l D (tyL cI cZ cB) (wM cI cZ h) yX6_likely cX6_likely 4 (some .int) rm6_likely [.ref (h 0)] g r g1 := by
  refine KI_mk (own := RX6) (by decide +kernel) rfl (Nat.le_of_ble_eq_true rfl) ?_
  intro p e s m below meth c A Q ls C hR hz hl
  have hl : lv_has ls 4 [(0, .ref (h 0))] := hl
  exact w6_likely_b0 C hR _ _ _ _ hf hz hl
abbrev rm6_wordsOf : Room := { frames := 2, cells := 0, slots := 0, locals := 44 }
set_option maxHeartbeats 4000000 in
set_option maxRecDepth 100000 in
theorem w6_wordsOf_b33 {res : Int32 × Sg} {k4 : Int32 → Int32 → Int32 → Sg → Option (Int32 × Sg)} (C : Cx p m c cX6_wordsOf 4 s args RX6 D (tyL cI cZ cB)) (hR : EndI p l e rm6_wordsOf s m args below meth c Q D (wM cI cZ h) A cX6_wordsOf res) (hk4 : ∀ (x1 : Int32) (x2 : Int32) (x3 : Int32) (g : Sg) (H : Heap) (locs : List Loc) (ls : Array Slot), k4 x1 x2 x3 g = some res → Zs D (wM cI cZ h) A s.heap H locs g → lv_has ls 4 [(0, .ref (h 0)), (1, .int x1), (2, .int x2), (3, .int x3)] → W p l e rm6_wordsOf s m args below meth c H locs 0 0 Q (F0 m 4 ls [])) : ∀ (x1 : Int32) (x3 : Int32) (y0 : Int32) (y1 : Int32) (g : Sg) (H : Heap) (locs : List Loc) (ls : Array Slot), f6_wordsOf_b33 k4 x1 x3 y0 y1 g = some res → Zs D (wM cI cZ h) A s.heap H locs g → lv_has ls 4 [(0, .ref (h 0)), (1, .int x1), (3, .int x3)] → W p l e rm6_wordsOf s m args below meth c H locs 0 0 Q (F0 m 33 ls [.int y0, .int y1]) := by
  have hx := C.1.1
  have hb := C.1.2.1
  intro x1 x3 y0 y1 g H locs ls hf hz hl
  unfold f6_wordsOf_b33 at hf
  refine lv_iadd hx hb dX6_wordsOf_33 ?_
  obtain ⟨v1, ev1, hf⟩ := nx_elim hf
  refine z_nm ev1 ?_
  refine lv_istore_n (lv' := [(2, .int v1), (0, .ref (h 0)), (1, .int x1), (3, .int x3)]) hx hb dX6_wordsOf_34 rfl hl (by decide) rfl (fun ls hl => ?_)
  obtain ⟨v2, ev2, hf⟩ := nx_elim hf
  refine lv_iinc (v := v2) (lv' := [(3, .int v2), (2, .int v1), (0, .ref (h 0)), (1, .int x1)]) hx hb dX6_wordsOf_35 hl (k := 3) rfl (by rw [ev2]; rfl) (by decide) rfl (fun ls hl => ?_)
  refine lv_goto (tgt := 4) hx hb dX6_wordsOf_38 (by decide) ?_
  exact hk4 _ _ _ _ _ _ _ hf hz (lv_sub hl [2, 3, 1, 0] rfl)
set_option maxHeartbeats 4000000 in
set_option maxRecDepth 100000 in
theorem w6_wordsOf_b4 {res : Int32 × Sg} (C : Cx p m c cX6_wordsOf 4 s args RX6 D (tyL cI cZ cB)) (hR : EndI p l e rm6_wordsOf s m args below meth c Q D (wM cI cZ h) A cX6_wordsOf res) : ∀ n : Nat, ∀ (x1 : Int32) (x2 : Int32) (x3 : Int32) (g : Sg) (H : Heap) (locs : List Loc) (ls : Array Slot), f6_wordsOf_b4 n x1 x2 x3 g = some res → Zs D (wM cI cZ h) A s.heap H locs g → lv_has ls 4 [(0, .ref (h 0)), (1, .int x1), (2, .int x2), (3, .int x3)] → W p l e rm6_wordsOf s m args below meth c H locs 0 0 Q (F0 m 4 ls []) := by
  have hx := C.1.1
  have hb := C.1.2.1
  intro n
  induction n with
  | zero =>
    intro x1 x2 x3 g H locs ls hf hz hl
    cases hf
  | succ n ih =>
    intro x1 x2 x3 g H locs ls hf hz hl
    rw [f6_wordsOf_b4] at hf
    refine lv_iload_n hx hb dX6_wordsOf_4 rfl (lv_at hl 3 rfl) ?_
    refine lv_aload_n hx hb dX6_wordsOf_5 rfl (lv_at hl 0 rfl) ?_
    refine g_RX6_13_model C hz dX6_wordsOf_6 ?_
    refine lv_iconst (v := (1 : Int32)) hx hb dX6_wordsOf_9 (by decide) ?_
    refine z_ialdL C hz a_m_many (vpl (n := 1) (by decide) (by decide)) (k := 1) (by decide) dX6_wordsOf_10 ?_
    refine lv_icmp_ge (tgt := 41) hx hb dX6_wordsOf_11 (by decide) (fun c3 => ?_) (fun c3 => ?_)
    · have hf := ite_t hf c3
      refine lv_iload_n hx hb dX6_wordsOf_41 rfl (lv_at hl 2 rfl) ?_
      exact hR _ _ _ _ _ _ (Option.some.inj hf) hz dX6_wordsOf_42
    · have hf := ite_f hf c3
      refine lv_iload_n hx hb dX6_wordsOf_14 rfl (lv_at hl 2 rfl) ?_
      refine lv_iload_n hx hb dX6_wordsOf_15 rfl (lv_at hl 1 rfl) ?_
      refine lv_iload_n hx hb dX6_wordsOf_16 rfl (lv_at hl 3 rfl) ?_
      refine lv_ishr hx hb dX6_wordsOf_17 ?_
      refine lv_iconst (v := (1 : Int32)) hx hb dX6_wordsOf_18 (by decide) ?_
      refine lv_iand hx hb dX6_wordsOf_19 ?_
      refine lv_iconst (v := (1 : Int32)) hx hb dX6_wordsOf_20 (by decide) ?_
      refine lv_icmp_ne (tgt := 32) hx hb dX6_wordsOf_21 (by decide) (fun c4 => ?_) (fun c4 => ?_)
      · have hf := ite_f hf c4
        refine lv_iconst (v := (0 : Int32)) hx hb dX6_wordsOf_32 (by decide) ?_
        exact w6_wordsOf_b33 C hR ih _ _ _ _ _ _ _ _ hf hz (lv_sub hl [0, 1, 3] rfl)
      · have hf := ite_t hf c4
        refine lv_aload_n hx hb dX6_wordsOf_24 rfl (lv_at hl 0 rfl) ?_
        refine lv_iload_n hx hb dX6_wordsOf_25 rfl (lv_at hl 3 rfl) ?_
        obtain ⟨r7, g6, hc5, hf⟩ := bd2_elim hf
        refine z_VI (As := [.int x3]) (rest := [.int x2]) C (c6_leftNow hc5) lk_RX6_151 ⟨rfl, rfl, Nat.le_of_ble_eq_true rfl, Nat.le_of_ble_eq_true rfl⟩ ⟨Nat.zero_le _, Nat.zero_le _⟩ o_model rfl rfl (Nat.le_of_ble_eq_true rfl) rfl hl.1 dX6_wordsOf_26 hz (fun H locs hz => ?_)
        refine lv_goto (tgt := 33) hx hb dX6_wordsOf_29 (by decide) ?_
        exact w6_wordsOf_b33 C hR ih _ _ _ _ _ _ _ _ hf hz (lv_sub hl [0, 1, 3] rfl)
set_option maxHeartbeats 4000000 in
set_option maxRecDepth 100000 in
theorem w6_wordsOf_b0 {res : Int32 × Sg} (C : Cx p m c cX6_wordsOf 4 s args RX6 D (tyL cI cZ cB)) (hR : EndI p l e rm6_wordsOf s m args below meth c Q D (wM cI cZ h) A cX6_wordsOf res) : ∀ (x1 : Int32) (g : Sg) (H : Heap) (locs : List Loc) (ls : Array Slot), f6_wordsOf x1 g = some res → Zs D (wM cI cZ h) A s.heap H locs g → lv_has ls 4 [(0, .ref (h 0)), (1, .int x1)] → W p l e rm6_wordsOf s m args below meth c H locs 0 0 Q (F0 m 0 ls []) := by
  have hx := C.1.1
  have hb := C.1.2.1
  intro x1 g H locs ls hf hz hl
  unfold f6_wordsOf at hf
  refine lv_iconst (v := (0 : Int32)) hx hb dX6_wordsOf_0 (by decide) ?_
  refine lv_istore_n (lv' := [(2, .int (0 : Int32)), (0, .ref (h 0)), (1, .int x1)]) hx hb dX6_wordsOf_1 rfl hl (by decide) rfl (fun ls hl => ?_)
  refine lv_iconst (v := (0 : Int32)) hx hb dX6_wordsOf_2 (by decide) ?_
  refine lv_istore_n (lv' := [(3, .int (0 : Int32)), (2, .int (0 : Int32)), (0, .ref (h 0)), (1, .int x1)]) hx hb dX6_wordsOf_3 rfl hl (by decide) rfl (fun ls hl => ?_)
  exact w6_wordsOf_b4 C hR 1000 _ _ _ _ _ _ _ hf hz (lv_sub hl [2, 3, 1, 0] rfl)
set_option maxHeartbeats 4000000 in
set_option maxRecDepth 100000 in
theorem c6_wordsOf {l : Launch} {D : va_G} {cI cZ cB : ClassId} {h : Nat → Nat} {x1 : Int32} {g : Sg} {r : Int32} {g1 : Sg} (hf : f6_wordsOf x1 g = some (r, g1)) : KI l D (tyL cI cZ cB) (wM cI cZ h) yX6_wordsOf cX6_wordsOf 4 (some .int) rm6_wordsOf [.ref (h 0), .int x1] g r g1 := by
  refine KI_mk (own := RX6) (by decide +kernel) rfl (Nat.le_of_ble_eq_true rfl) ?_
  intro p e s m below meth c A Q ls C hR hz hl
  have hl : lv_has ls 4 [(0, .ref (h 0)), (1, .int x1)] := hl
  exact w6_wordsOf_b0 C hR _ _ _ _ _ hf hz hl
abbrev rm6_agree : Room := { frames := 1, cells := 0, slots := 0, locals := 23 }
set_option maxHeartbeats 4000000 in
set_option maxRecDepth 100000 in
theorem w6_agree_b48 {res : Int32 × Sg} {k4 : Int32 → Int32 → Int32 → Sg → Option (Int32 × Sg)} (C : Cx p m c cX6_agree 4 s args RX6 D (tyL cI cZ cB)) (hR : EndZ p l e rm6_agree s m args below meth c Q D (wM cI cZ h) A cX6_agree res) (hk4 : ∀ (x1 : Int32) (x2 : Int32) (x3 : Int32) (g : Sg) (H : Heap) (locs : List Loc) (ls : Array Slot), k4 x1 x2 x3 g = some res → Zs D (wM cI cZ h) A s.heap H locs g → lv_has ls 4 [(0, .ref (h 0)), (1, .int x1), (2, .int x2), (3, .int x3)] → W p l e rm6_agree s m args below meth c H locs 0 0 Q (F0 m 4 ls [])) : ∀ (x1 : Int32) (x3 : Int32) (y0 : Int32) (g : Sg) (H : Heap) (locs : List Loc) (ls : Array Slot), f6_agree_b48 k4 x1 x3 y0 g = some res → Zs D (wM cI cZ h) A s.heap H locs g → lv_has ls 4 [(0, .ref (h 0)), (1, .int x1), (3, .int x3)] → W p l e rm6_agree s m args below meth c H locs 0 0 Q (F0 m 48 ls [.int y0]) := by
  have hx := C.1.1
  have hb := C.1.2.1
  intro x1 x3 y0 g H locs ls hf hz hl
  unfold f6_agree_b48 at hf
  refine lv_istore_n (lv' := [(2, .int y0), (0, .ref (h 0)), (1, .int x1), (3, .int x3)]) hx hb dX6_agree_48 rfl hl (by decide) rfl (fun ls hl => ?_)
  obtain ⟨v1, ev1, hf⟩ := nx_elim hf
  refine lv_iinc (v := v1) (lv' := [(3, .int v1), (2, .int y0), (0, .ref (h 0)), (1, .int x1)]) hx hb dX6_agree_49 hl (k := 3) rfl (by rw [ev1]; rfl) (by decide) rfl (fun ls hl => ?_)
  refine lv_goto (tgt := 4) hx hb dX6_agree_52 (by decide) ?_
  exact hk4 _ _ _ _ _ _ _ hf hz (lv_sub hl [2, 3, 1, 0] rfl)
set_option maxHeartbeats 4000000 in
set_option maxRecDepth 100000 in
theorem w6_agree_b47 {res : Int32 × Sg} {k4 : Int32 → Int32 → Int32 → Sg → Option (Int32 × Sg)} (C : Cx p m c cX6_agree 4 s args RX6 D (tyL cI cZ cB)) (hR : EndZ p l e rm6_agree s m args below meth c Q D (wM cI cZ h) A cX6_agree res) (hk4 : ∀ (x1 : Int32) (x2 : Int32) (x3 : Int32) (g : Sg) (H : Heap) (locs : List Loc) (ls : Array Slot), k4 x1 x2 x3 g = some res → Zs D (wM cI cZ h) A s.heap H locs g → lv_has ls 4 [(0, .ref (h 0)), (1, .int x1), (2, .int x2), (3, .int x3)] → W p l e rm6_agree s m args below meth c H locs 0 0 Q (F0 m 4 ls [])) : ∀ (x1 : Int32) (x3 : Int32) (g : Sg) (H : Heap) (locs : List Loc) (ls : Array Slot), f6_agree_b47 k4 x1 x3 g = some res → Zs D (wM cI cZ h) A s.heap H locs g → lv_has ls 4 [(0, .ref (h 0)), (1, .int x1), (3, .int x3)] → W p l e rm6_agree s m args below meth c H locs 0 0 Q (F0 m 47 ls []) := by
  have hx := C.1.1
  have hb := C.1.2.1
  intro x1 x3 g H locs ls hf hz hl
  unfold f6_agree_b47 at hf
  refine lv_iconst (v := (0 : Int32)) hx hb dX6_agree_47 (by decide) ?_
  exact w6_agree_b48 C hR hk4 _ _ _ _ _ _ _ hf hz (lv_sub hl [0, 1, 2] rfl)
set_option maxHeartbeats 4000000 in
set_option maxRecDepth 100000 in
theorem w6_agree_b43 {res : Int32 × Sg} {k4 : Int32 → Int32 → Int32 → Sg → Option (Int32 × Sg)} (C : Cx p m c cX6_agree 4 s args RX6 D (tyL cI cZ cB)) (hR : EndZ p l e rm6_agree s m args below meth c Q D (wM cI cZ h) A cX6_agree res) (hk4 : ∀ (x1 : Int32) (x2 : Int32) (x3 : Int32) (g : Sg) (H : Heap) (locs : List Loc) (ls : Array Slot), k4 x1 x2 x3 g = some res → Zs D (wM cI cZ h) A s.heap H locs g → lv_has ls 4 [(0, .ref (h 0)), (1, .int x1), (2, .int x2), (3, .int x3)] → W p l e rm6_agree s m args below meth c H locs 0 0 Q (F0 m 4 ls [])) : ∀ (x1 : Int32) (x3 : Int32) (g : Sg) (H : Heap) (locs : List Loc) (ls : Array Slot), f6_agree_b43 k4 x1 x3 g = some res → Zs D (wM cI cZ h) A s.heap H locs g → lv_has ls 4 [(0, .ref (h 0)), (1, .int x1), (3, .int x3)] → W p l e rm6_agree s m args below meth c H locs 0 0 Q (F0 m 43 ls []) := by
  have hx := C.1.1
  have hb := C.1.2.1
  intro x1 x3 g H locs ls hf hz hl
  unfold f6_agree_b43 at hf
  refine lv_iconst (v := (1 : Int32)) hx hb dX6_agree_43 (by decide) ?_
  refine lv_goto (tgt := 48) hx hb dX6_agree_44 (by decide) ?_
  exact w6_agree_b48 C hR hk4 _ _ _ _ _ _ _ hf hz (lv_sub hl [0, 1, 2] rfl)
set_option maxHeartbeats 4000000 in
set_option maxRecDepth 100000 in
theorem w6_agree_b4 {res : Int32 × Sg} (C : Cx p m c cX6_agree 4 s args RX6 D (tyL cI cZ cB)) (hR : EndZ p l e rm6_agree s m args below meth c Q D (wM cI cZ h) A cX6_agree res) : ∀ n : Nat, ∀ (x1 : Int32) (x2 : Int32) (x3 : Int32) (g : Sg) (H : Heap) (locs : List Loc) (ls : Array Slot), f6_agree_b4 n x1 x2 x3 g = some res → Zs D (wM cI cZ h) A s.heap H locs g → lv_has ls 4 [(0, .ref (h 0)), (1, .int x1), (2, .int x2), (3, .int x3)] → W p l e rm6_agree s m args below meth c H locs 0 0 Q (F0 m 4 ls []) := by
  have hx := C.1.1
  have hb := C.1.2.1
  intro n
  induction n with
  | zero =>
    intro x1 x2 x3 g H locs ls hf hz hl
    cases hf
  | succ n ih =>
    intro x1 x2 x3 g H locs ls hf hz hl
    rw [f6_agree_b4] at hf
    refine lv_iload_n hx hb dX6_agree_4 rfl (lv_at hl 3 rfl) ?_
    refine lv_aload_n hx hb dX6_agree_5 rfl (lv_at hl 0 rfl) ?_
    refine g_RX6_13_model C hz dX6_agree_6 ?_
    refine lv_iconst (v := (1 : Int32)) hx hb dX6_agree_9 (by decide) ?_
    refine z_ialdL C hz a_m_many (vpl (n := 1) (by decide) (by decide)) (k := 1) (by decide) dX6_agree_10 ?_
    refine lv_icmp_ge (tgt := 55) hx hb dX6_agree_11 (by decide) (fun c2 => ?_) (fun c2 => ?_)
    · have hf := ite_t hf c2
      refine lv_iload_n hx hb dX6_agree_55 rfl (lv_at hl 2 rfl) ?_
      exact hR _ _ _ _ _ _ hf hz dX6_agree_56
    · have hf := ite_f hf c2
      refine lv_iload_n hx hb dX6_agree_14 rfl (lv_at hl 2 rfl) ?_
      refine lv_if_eq (tgt := 47) hx hb dX6_agree_15 (by decide) (fun c3 => ?_) (fun c3 => ?_)
      · have hf := ite_t hf c3
        exact w6_agree_b47 C hR ih _ _ _ _ _ _ hf hz (lv_sub hl [0, 1, 3] rfl)
      · have hf := ite_f hf c3
        refine lv_iload_n hx hb dX6_agree_18 rfl (lv_at hl 1 rfl) ?_
        refine lv_iload_n hx hb dX6_agree_19 rfl (lv_at hl 3 rfl) ?_
        refine lv_ishr hx hb dX6_agree_20 ?_
        refine lv_iconst (v := (1 : Int32)) hx hb dX6_agree_21 (by decide) ?_
        refine lv_iand hx hb dX6_agree_22 ?_
        refine lv_if_eq (tgt := 43) hx hb dX6_agree_23 (by decide) (fun c4 => ?_) (fun c4 => ?_)
        · have hf := ite_t hf c4
          exact w6_agree_b43 C hR ih _ _ _ _ _ _ hf hz (lv_sub hl [0, 1, 3] rfl)
        · have hf := ite_f hf c4
          refine lv_aload_n hx hb dX6_agree_26 rfl (lv_at hl 0 rfl) ?_
          refine g_RX6_43_model C hz dX6_agree_27 ?_
          refine lv_iload_n hx hb dX6_agree_30 rfl (lv_at hl 3 rfl) ?_
          obtain ⟨c5, hf⟩ := ix_elim hf
          refine z_iald C hz a_m_clash c5 dX6_agree_31 ?_
          refine lv_iload_n hx hb dX6_agree_32 rfl (lv_at hl 1 rfl) ?_
          refine lv_aload_n hx hb dX6_agree_33 rfl (lv_at hl 0 rfl) ?_
          refine lv_iconst (v := (2 : Int32)) hx hb dX6_agree_34 (by decide) ?_
          obtain ⟨r8, g7, hc6, hf⟩ := bd2_elim hf
          refine z_VI (As := [.int (2 : Int32)]) (rest := [.int x1, .int (g.1 20 (x3.toNatClampNeg))]) C (c6_those hc6) lk_RX6_170 ⟨rfl, rfl, Nat.le_of_ble_eq_true rfl, Nat.le_of_ble_eq_true rfl⟩ ⟨Nat.zero_le _, Nat.zero_le _⟩ o_model rfl rfl (Nat.le_of_ble_eq_true rfl) rfl hl.1 dX6_agree_35 hz (fun H locs hz => ?_)
          refine lv_ior hx hb dX6_agree_38 ?_
          refine lv_iand hx hb dX6_agree_39 ?_
          refine lv_if_ne (tgt := 47) hx hb dX6_agree_40 (by decide) (fun c9 => ?_) (fun c9 => ?_)
          · have hf := ite_f hf c9
            exact w6_agree_b47 C hR ih _ _ _ _ _ _ hf hz (lv_sub hl [0, 1, 3] rfl)
          · have hf := ite_t hf c9
            exact w6_agree_b43 C hR ih _ _ _ _ _ _ hf hz (lv_sub hl [0, 1, 3] rfl)
set_option maxHeartbeats 4000000 in
set_option maxRecDepth 100000 in
theorem w6_agree_b0 {res : Int32 × Sg} (C : Cx p m c cX6_agree 4 s args RX6 D (tyL cI cZ cB)) (hR : EndZ p l e rm6_agree s m args below meth c Q D (wM cI cZ h) A cX6_agree res) : ∀ (x1 : Int32) (g : Sg) (H : Heap) (locs : List Loc) (ls : Array Slot), f6_agree x1 g = some res → Zs D (wM cI cZ h) A s.heap H locs g → lv_has ls 4 [(0, .ref (h 0)), (1, .int x1)] → W p l e rm6_agree s m args below meth c H locs 0 0 Q (F0 m 0 ls []) := by
  have hx := C.1.1
  have hb := C.1.2.1
  intro x1 g H locs ls hf hz hl
  unfold f6_agree at hf
  refine lv_iconst (v := (1 : Int32)) hx hb dX6_agree_0 (by decide) ?_
  refine lv_istore_n (lv' := [(2, .int (1 : Int32)), (0, .ref (h 0)), (1, .int x1)]) hx hb dX6_agree_1 rfl hl (by decide) rfl (fun ls hl => ?_)
  refine lv_iconst (v := (0 : Int32)) hx hb dX6_agree_2 (by decide) ?_
  refine lv_istore_n (lv' := [(3, .int (0 : Int32)), (2, .int (1 : Int32)), (0, .ref (h 0)), (1, .int x1)]) hx hb dX6_agree_3 rfl hl (by decide) rfl (fun ls hl => ?_)
  exact w6_agree_b4 C hR 1000 _ _ _ _ _ _ _ hf hz (lv_sub hl [2, 3, 1, 0] rfl)
set_option maxHeartbeats 4000000 in
set_option maxRecDepth 100000 in
theorem c6_agree {l : Launch} {D : va_G} {cI cZ cB : ClassId} {h : Nat → Nat} {x1 : Int32} {g : Sg} {r : Int32} {g1 : Sg} (hf : f6_agree x1 g = some (r, g1)) : KI l D (tyL cI cZ cB) (wM cI cZ h) yX6_agree cX6_agree 4 (some .boolean) rm6_agree [.ref (h 0), .int x1] g r g1 := by
  refine KZ_mk (own := RX6) (by decide +kernel) rfl (Nat.le_of_ble_eq_true rfl) ?_
  intro p e s m below meth c A Q ls C hR hz hl
  have hl : lv_has ls 4 [(0, .ref (h 0)), (1, .int x1)] := hl
  exact w6_agree_b0 C hR _ _ _ _ _ hf hz hl
abbrev rm6_kept : Room := { frames := 3, cells := 0, slots := 0, locals := 67 }
set_option maxHeartbeats 4000000 in
set_option maxRecDepth 100000 in
theorem w6_kept_b65 {res : Int32 × Sg} {k20 : Int32 → Int32 → Int32 → Sg → Option (Int32 × Sg)} (C : Cx p m c cX6_kept 4 s args RX6 D (tyL cI cZ cB)) (hR : EndI p l e rm6_kept s m args below meth c Q D (wM cI cZ h) A cX6_kept res) (hk20 : ∀ (x1 : Int32) (x2 : Int32) (x3 : Int32) (g : Sg) (H : Heap) (locs : List Loc) (ls : Array Slot), k20 x1 x2 x3 g = some res → Zs D (wM cI cZ h) A s.heap H locs g → lv_has ls 4 [(0, .ref (h 0)), (1, .int x1), (2, .int x2), (3, .int x3)] → W p l e rm6_kept s m args below meth c H locs 0 0 Q (F0 m 20 ls [])) : ∀ (x1 : Int32) (x3 : Int32) (y0 : Int32) (g : Sg) (H : Heap) (locs : List Loc) (ls : Array Slot), f6_kept_b65 k20 x1 x3 y0 g = some res → Zs D (wM cI cZ h) A s.heap H locs g → lv_has ls 4 [(0, .ref (h 0)), (1, .int x1), (3, .int x3)] → W p l e rm6_kept s m args below meth c H locs 0 0 Q (F0 m 65 ls [.int y0]) := by
  have hx := C.1.1
  have hb := C.1.2.1
  intro x1 x3 y0 g H locs ls hf hz hl
  unfold f6_kept_b65 at hf
  refine lv_istore_n (lv' := [(2, .int y0), (0, .ref (h 0)), (1, .int x1), (3, .int x3)]) hx hb dX6_kept_65 rfl hl (by decide) rfl (fun ls hl => ?_)
  obtain ⟨v1, ev1, hf⟩ := nx_elim hf
  refine lv_iinc (v := v1) (lv' := [(3, .int v1), (2, .int y0), (0, .ref (h 0)), (1, .int x1)]) hx hb dX6_kept_66 hl (k := 3) rfl (by rw [ev1]; rfl) (by decide) rfl (fun ls hl => ?_)
  refine lv_goto (tgt := 20) hx hb dX6_kept_69 (by decide) ?_
  exact hk20 _ _ _ _ _ _ _ hf hz (lv_sub hl [2, 3, 1, 0] rfl)
set_option maxHeartbeats 4000000 in
set_option maxRecDepth 100000 in
theorem w6_kept_b64 {res : Int32 × Sg} {k20 : Int32 → Int32 → Int32 → Sg → Option (Int32 × Sg)} (C : Cx p m c cX6_kept 4 s args RX6 D (tyL cI cZ cB)) (hR : EndI p l e rm6_kept s m args below meth c Q D (wM cI cZ h) A cX6_kept res) (hk20 : ∀ (x1 : Int32) (x2 : Int32) (x3 : Int32) (g : Sg) (H : Heap) (locs : List Loc) (ls : Array Slot), k20 x1 x2 x3 g = some res → Zs D (wM cI cZ h) A s.heap H locs g → lv_has ls 4 [(0, .ref (h 0)), (1, .int x1), (2, .int x2), (3, .int x3)] → W p l e rm6_kept s m args below meth c H locs 0 0 Q (F0 m 20 ls [])) : ∀ (x1 : Int32) (x2 : Int32) (x3 : Int32) (g : Sg) (H : Heap) (locs : List Loc) (ls : Array Slot), f6_kept_b64 k20 x1 x2 x3 g = some res → Zs D (wM cI cZ h) A s.heap H locs g → lv_has ls 4 [(0, .ref (h 0)), (1, .int x1), (2, .int x2), (3, .int x3)] → W p l e rm6_kept s m args below meth c H locs 0 0 Q (F0 m 64 ls []) := by
  have hx := C.1.1
  have hb := C.1.2.1
  intro x1 x2 x3 g H locs ls hf hz hl
  unfold f6_kept_b64 at hf
  refine lv_iload_n hx hb dX6_kept_64 rfl (lv_at hl 2 rfl) ?_
  exact w6_kept_b65 C hR hk20 _ _ _ _ _ _ _ hf hz (lv_sub hl [0, 1, 3] rfl)
set_option maxHeartbeats 4000000 in
set_option maxRecDepth 100000 in
theorem w6_kept_b20 {res : Int32 × Sg} (C : Cx p m c cX6_kept 4 s args RX6 D (tyL cI cZ cB)) (hR : EndI p l e rm6_kept s m args below meth c Q D (wM cI cZ h) A cX6_kept res) : ∀ n : Nat, ∀ (x1 : Int32) (x2 : Int32) (x3 : Int32) (g : Sg) (H : Heap) (locs : List Loc) (ls : Array Slot), f6_kept_b20 n x1 x2 x3 g = some res → Zs D (wM cI cZ h) A s.heap H locs g → lv_has ls 4 [(0, .ref (h 0)), (1, .int x1), (2, .int x2), (3, .int x3)] → W p l e rm6_kept s m args below meth c H locs 0 0 Q (F0 m 20 ls []) := by
  have hx := C.1.1
  have hb := C.1.2.1
  intro n
  induction n with
  | zero =>
    intro x1 x2 x3 g H locs ls hf hz hl
    cases hf
  | succ n ih =>
    intro x1 x2 x3 g H locs ls hf hz hl
    rw [f6_kept_b20] at hf
    refine lv_iload_n hx hb dX6_kept_20 rfl (lv_at hl 3 rfl) ?_
    refine lv_sipush (v := (256 : Int32)) hx hb dX6_kept_21 (by decide) ?_
    refine lv_icmp_ge (tgt := 72) hx hb dX6_kept_24 (by decide) (fun c2 => ?_) (fun c2 => ?_)
    · have hf := ite_t hf c2
      refine lv_iload_n hx hb dX6_kept_72 rfl (lv_at hl 1 rfl) ?_
      refine lv_if_ne (tgt := 80) hx hb dX6_kept_73 (by decide) (fun c3 => ?_) (fun c3 => ?_)
      · have hf := ite_f hf c3
        refine lv_aload_n hx hb dX6_kept_80 rfl (lv_at hl 0 rfl) ?_
        refine lv_iload_n hx hb dX6_kept_81 rfl (lv_at hl 2 rfl) ?_
        obtain ⟨r6, g5, hc4, hf⟩ := bd2_elim hf
        refine z_VI (As := [.int x2]) (rest := []) C (c6_wordsOf hc4) lk_RX6_182 ⟨rfl, rfl, Nat.le_of_ble_eq_true rfl, Nat.le_of_ble_eq_true rfl⟩ ⟨Nat.zero_le _, Nat.zero_le _⟩ o_model rfl rfl (Nat.le_of_ble_eq_true rfl) rfl hl.1 dX6_kept_82 hz (fun H locs hz => ?_)
        exact hR _ _ _ _ _ _ (Option.some.inj hf) hz dX6_kept_85
      · have hf := ite_t hf c3
        refine lv_iload_n hx hb dX6_kept_76 rfl (lv_at hl 2 rfl) ?_
        refine lv_goto (tgt := 85) hx hb dX6_kept_77 (by decide) ?_
        exact hR _ _ _ _ _ _ (Option.some.inj hf) hz dX6_kept_85
    · have hf := ite_f hf c2
      refine lv_iload_n hx hb dX6_kept_27 rfl (lv_at hl 3 rfl) ?_
      refine lv_aload_n hx hb dX6_kept_28 rfl (lv_at hl 0 rfl) ?_
      refine lv_iconst (v := (1 : Int32)) hx hb dX6_kept_29 (by decide) ?_
      obtain ⟨r9, g8, hc7, hf⟩ := bd2_elim hf
      refine z_VI (As := [.int (1 : Int32)]) (rest := [.int x3]) C (c6_those hc7) lk_RX6_170 ⟨rfl, rfl, Nat.le_of_ble_eq_true rfl, Nat.le_of_ble_eq_true rfl⟩ ⟨Nat.zero_le _, Nat.zero_le _⟩ o_model rfl rfl (Nat.le_of_ble_eq_true rfl) rfl hl.1 dX6_kept_30 hz (fun H locs hz => ?_)
      refine lv_iconst (v := (-1 : Int32)) hx hb dX6_kept_33 (by decide) ?_
      refine lv_ixor hx hb dX6_kept_34 ?_
      refine lv_iand hx hb dX6_kept_35 ?_
      refine lv_if_ne (tgt := 64) hx hb dX6_kept_36 (by decide) (fun c10 => ?_) (fun c10 => ?_)
      · have hf := ite_f hf c10
        exact w6_kept_b64 C hR ih _ _ _ _ _ _ _ hf hz (lv_sub hl [0, 1, 2, 3] rfl)
      · have hf := ite_t hf c10
        refine lv_aload_n hx hb dX6_kept_39 rfl (lv_at hl 0 rfl) ?_
        refine lv_iload_n hx hb dX6_kept_40 rfl (lv_at hl 3 rfl) ?_
        obtain ⟨r13, g12, hc11, hf⟩ := bd2_elim hf
        refine z_VI (As := [.int x3]) (rest := []) C (c6_wordsOf hc11) lk_RX6_182 ⟨rfl, rfl, Nat.le_of_ble_eq_true rfl, Nat.le_of_ble_eq_true rfl⟩ ⟨Nat.zero_le _, Nat.zero_le _⟩ o_model rfl rfl (Nat.le_of_ble_eq_true rfl) rfl hl.1 dX6_kept_41 hz (fun H locs hz => ?_)
        refine lv_aload_n hx hb dX6_kept_44 rfl (lv_at hl 0 rfl) ?_
        refine lv_iload_n hx hb dX6_kept_45 rfl (lv_at hl 2 rfl) ?_
        obtain ⟨r16, g15, hc14, hf⟩ := bd2_elim hf
        refine z_VI (As := [.int x2]) (rest := [.int r13]) C (c6_wordsOf hc14) lk_RX6_182 ⟨rfl, rfl, Nat.le_of_ble_eq_true rfl, Nat.le_of_ble_eq_true rfl⟩ ⟨Nat.zero_le _, Nat.zero_le _⟩ o_model rfl rfl (Nat.le_of_ble_eq_true rfl) rfl hl.1 dX6_kept_46 hz (fun H locs hz => ?_)
        refine lv_icmp_le (tgt := 64) hx hb dX6_kept_49 (by decide) (fun c17 => ?_) (fun c17 => ?_)
        · have hf := ite_t hf c17
          exact w6_kept_b64 C hR ih _ _ _ _ _ _ _ hf hz (lv_sub hl [0, 1, 2, 3] rfl)
        · have hf := ite_f hf c17
          refine lv_aload_n hx hb dX6_kept_52 rfl (lv_at hl 0 rfl) ?_
          refine lv_iload_n hx hb dX6_kept_53 rfl (lv_at hl 3 rfl) ?_
          obtain ⟨r20, g19, hc18, hf⟩ := bd2_elim hf
          refine z_VI (As := [.int x3]) (rest := []) C (c6_agree hc18) lk_RX6_185 ⟨rfl, rfl, Nat.le_of_ble_eq_true rfl, Nat.le_of_ble_eq_true rfl⟩ ⟨Nat.zero_le _, Nat.zero_le _⟩ o_model rfl rfl (Nat.le_of_ble_eq_true rfl) rfl hl.1 dX6_kept_54 hz (fun H locs hz => ?_)
          refine lv_if_eq (tgt := 64) hx hb dX6_kept_57 (by decide) (fun c21 => ?_) (fun c21 => ?_)
          · have hf := ite_t hf c21
            exact w6_kept_b64 C hR ih _ _ _ _ _ _ _ hf hz (lv_sub hl [0, 1, 2, 3] rfl)
          · have hf := ite_f hf c21
            refine lv_iload_n hx hb dX6_kept_60 rfl (lv_at hl 3 rfl) ?_
            refine lv_goto (tgt := 65) hx hb dX6_kept_61 (by decide) ?_
            exact w6_kept_b65 C hR ih _ _ _ _ _ _ _ hf hz (lv_sub hl [0, 1, 3] rfl)
set_option maxHeartbeats 4000000 in
set_option maxRecDepth 100000 in
theorem w6_kept_b0 {res : Int32 × Sg} (C : Cx p m c cX6_kept 4 s args RX6 D (tyL cI cZ cB)) (hR : EndI p l e rm6_kept s m args below meth c Q D (wM cI cZ h) A cX6_kept res) : ∀ (x1 : Int32) (g : Sg) (H : Heap) (locs : List Loc) (ls : Array Slot), f6_kept x1 g = some res → Zs D (wM cI cZ h) A s.heap H locs g → lv_has ls 4 [(0, .ref (h 0)), (1, .int x1)] → W p l e rm6_kept s m args below meth c H locs 0 0 Q (F0 m 0 ls []) := by
  have hx := C.1.1
  have hb := C.1.2.1
  intro x1 g H locs ls hf hz hl
  unfold f6_kept at hf
  refine lv_aload_n hx hb dX6_kept_0 rfl (lv_at hl 0 rfl) ?_
  refine lv_iconst (v := (0 : Int32)) hx hb dX6_kept_1 (by decide) ?_
  obtain ⟨g22, eg22, hf⟩ := nx_elim hf
  refine p_RX6_74_model C hz eg22 dX6_kept_2 (fun H locs hz => ?_)
  refine lv_iload_n hx hb dX6_kept_5 rfl (lv_at hl 1 rfl) ?_
  refine lv_iconst (v := (0 : Int32)) hx hb dX6_kept_6 (by decide) ?_
  refine lv_iconst (v := (1 : Int32)) hx hb dX6_kept_7 (by decide) ?_
  obtain ⟨r25, g24, hc23, hf⟩ := bd2_elim hf
  refine z_SI (As := [.int x1, .int (0 : Int32), .int (1 : Int32)]) (rest := []) C (c6_in hc23) lk_RX6_78 ⟨rfl, rfl, Nat.le_of_ble_eq_true rfl, Nat.le_of_ble_eq_true rfl⟩ ⟨Nat.zero_le _, Nat.zero_le _⟩ rfl (Nat.le_of_ble_eq_true rfl) rfl hl.1 dX6_kept_8 hz (fun H locs hz => ?_)
  refine lv_if_ne (tgt := 16) hx hb dX6_kept_11 (by decide) (fun c26 => ?_) (fun c26 => ?_)
  · have hf := ite_f hf c26
    refine lv_iconst (v := (0 : Int32)) hx hb dX6_kept_16 (by decide) ?_
    refine lv_istore_n (lv' := [(2, .int (0 : Int32)), (0, .ref (h 0)), (1, .int x1)]) hx hb dX6_kept_17 rfl hl (by decide) rfl (fun ls hl => ?_)
    refine lv_iconst (v := (0 : Int32)) hx hb dX6_kept_18 (by decide) ?_
    refine lv_istore_n (lv' := [(3, .int (0 : Int32)), (2, .int (0 : Int32)), (0, .ref (h 0)), (1, .int x1)]) hx hb dX6_kept_19 rfl hl (by decide) rfl (fun ls hl => ?_)
    exact w6_kept_b20 C hR 1000 _ _ _ _ _ _ _ hf hz (lv_sub hl [2, 3, 1, 0] rfl)
  · have hf := ite_t hf c26
    refine lv_iconst (v := (-1 : Int32)) hx hb dX6_kept_14 (by decide) ?_
    exact hR _ _ _ _ _ _ (Option.some.inj hf) hz dX6_kept_15
set_option maxHeartbeats 4000000 in
set_option maxRecDepth 100000 in
theorem c6_kept {l : Launch} {D : va_G} {cI cZ cB : ClassId} {h : Nat → Nat} {x1 : Int32} {g : Sg} {r : Int32} {g1 : Sg} (hf : f6_kept x1 g = some (r, g1)) : KI l D (tyL cI cZ cB) (wM cI cZ h) yX6_kept cX6_kept 4 (some .int) rm6_kept [.ref (h 0), .int x1] g r g1 := by
  refine KI_mk (own := RX6) (by decide +kernel) rfl (Nat.le_of_ble_eq_true rfl) ?_
  intro p e s m below meth c A Q ls C hR hz hl
  have hl : lv_has ls 4 [(0, .ref (h 0)), (1, .int x1)] := hl
  exact w6_kept_b0 C hR _ _ _ _ _ hf hz hl
end WK
