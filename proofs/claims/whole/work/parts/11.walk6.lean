section WK
variable {p : Program} {l : Launch} {e : Env} {s : State} {m : MethodId} {args : Array Value} {below : List Frame} {meth : Method} {c : Code} {Q : State → Prop} {D : va_G} {cI cZ cB : ClassId} {A : Nat → Prop} {h : Nat → Nat}
abbrev rm6_moss : Room := { frames := 6, cells := 0, slots := 0, locals := 133 }
set_option maxHeartbeats 4000000 in
set_option maxRecDepth 100000 in
theorem w6_moss_b100 {res : Int32 × Sg} (C : Cx p m c cX6_moss 3 s args RX6 D (tyL cI cZ cB)) (hR : EndI p l e rm6_moss s m args below meth c Q D (wM cI cZ h) A cX6_moss res) : ∀ (x1 : Int32) (g : Sg) (H : Heap) (locs : List Loc) (ls : Array Slot), f6_moss_b100 x1 g = some res → Zs D (wM cI cZ h) A s.heap H locs g → lv_has ls 3 [(0, .ref (h 0)), (1, .int x1)] → W p l e rm6_moss s m args below meth c H locs 0 0 Q (F0 m 100 ls []) := by
  have hx := C.1.1
  have hb := C.1.2.1
  intro x1 g H locs ls hf hz hl
  unfold f6_moss_b100 at hf
  refine lv_aload_n hx hb dX6_moss_100 rfl (lv_at hl 0 rfl) ?_
  obtain ⟨r3, g2, hc1, hf⟩ := bd2_elim hf
  refine z_VI (As := []) (rest := []) C (c6_isWell hc1) lk_RX6_108 ⟨rfl, rfl, Nat.le_of_ble_eq_true rfl, Nat.le_of_ble_eq_true rfl⟩ ⟨Nat.zero_le _, Nat.zero_le _⟩ o_model rfl rfl (Nat.le_of_ble_eq_true rfl) rfl hl.1 dX6_moss_101 hz (fun H locs hz => ?_)
  refine lv_if_ne (tgt := 115) hx hb dX6_moss_104 (by decide) (fun c4 => ?_) (fun c4 => ?_)
  · have hf := ite_f hf c4
    refine lv_aload_n hx hb dX6_moss_115 rfl (lv_at hl 0 rfl) ?_
    obtain ⟨g6, hc5, hf⟩ := bd_elim hf
    refine z_VV (As := []) (rest := []) C (c6_settles hc5) lk_RX6_71 ⟨rfl, rfl, Nat.le_of_ble_eq_true rfl, Nat.le_of_ble_eq_true rfl⟩ ⟨Nat.zero_le _, Nat.zero_le _⟩ o_model rfl rfl (Nat.le_of_ble_eq_true rfl) rfl hl.1 dX6_moss_116 hz (fun H locs hz => ?_)
    refine lv_iload_n hx hb dX6_moss_119 rfl (lv_at hl 1 rfl) ?_
    exact hR _ _ _ _ _ _ (Option.some.inj hf) hz dX6_moss_120
  · have hf := ite_t hf c4
    refine lv_bipush (v := (-10 : Int32)) hx hb dX6_moss_107 (by decide) ?_
    refine lv_aload_n hx hb dX6_moss_109 rfl (lv_at hl 0 rfl) ?_
    refine g_RX6_105_model C hz dX6_moss_110 ?_
    refine lv_isub hx hb dX6_moss_113 ?_
    exact hR _ _ _ _ _ _ (Option.some.inj hf) hz dX6_moss_114
set_option maxHeartbeats 4000000 in
set_option maxRecDepth 100000 in
theorem w6_moss_b90 {res : Int32 × Sg} {k25 : Int32 → Sg → Option (Int32 × Sg)} (C : Cx p m c cX6_moss 3 s args RX6 D (tyL cI cZ cB)) (hR : EndI p l e rm6_moss s m args below meth c Q D (wM cI cZ h) A cX6_moss res) (hk25 : ∀ (x1 : Int32) (g : Sg) (H : Heap) (locs : List Loc) (ls : Array Slot), k25 x1 g = some res → Zs D (wM cI cZ h) A s.heap H locs g → lv_has ls 3 [(0, .ref (h 0)), (1, .int x1)] → W p l e rm6_moss s m args below meth c H locs 0 0 Q (F0 m 25 ls [])) : ∀ (x1 : Int32) (y0 : Int32) (g : Sg) (H : Heap) (locs : List Loc) (ls : Array Slot), f6_moss_b90 k25 x1 y0 g = some res → Zs D (wM cI cZ h) A s.heap H locs g → lv_has ls 3 [(0, .ref (h 0)), (1, .int x1)] → W p l e rm6_moss s m args below meth c H locs 0 0 Q (F0 m 90 ls [.int y0, .ref (h 0)]) := by
  have hx := C.1.1
  have hb := C.1.2.1
  intro x1 y0 g H locs ls hf hz hl
  unfold f6_moss_b90 at hf
  obtain ⟨r9, g8, hc7, hf⟩ := bd2_elim hf
  refine z_VI (As := [.int y0]) (rest := []) C (c6_takes hc7) lk_RX6_115 ⟨rfl, rfl, Nat.le_of_ble_eq_true rfl, Nat.le_of_ble_eq_true rfl⟩ ⟨Nat.zero_le _, Nat.zero_le _⟩ o_model rfl rfl (Nat.le_of_ble_eq_true rfl) rfl hl.1 dX6_moss_90 hz (fun H locs hz => ?_)
  refine lv_pop hx hb dX6_moss_93 rfl ?_
  obtain ⟨v10, ev10, hf⟩ := nx_elim hf
  refine lv_iinc (v := v10) (lv' := [(1, .int v10), (0, .ref (h 0))]) hx hb dX6_moss_94 hl (k := 1) rfl (by rw [ev10]; rfl) (by decide) rfl (fun ls hl => ?_)
  refine lv_goto (tgt := 25) hx hb dX6_moss_97 (by decide) ?_
  exact hk25 _ _ _ _ _ hf hz (lv_sub hl [1, 0] rfl)
set_option maxHeartbeats 4000000 in
set_option maxRecDepth 100000 in
theorem w6_moss_b76 {res : Int32 × Sg} {k25 : Int32 → Sg → Option (Int32 × Sg)} (C : Cx p m c cX6_moss 3 s args RX6 D (tyL cI cZ cB)) (hR : EndI p l e rm6_moss s m args below meth c Q D (wM cI cZ h) A cX6_moss res) (hk25 : ∀ (x1 : Int32) (g : Sg) (H : Heap) (locs : List Loc) (ls : Array Slot), k25 x1 g = some res → Zs D (wM cI cZ h) A s.heap H locs g → lv_has ls 3 [(0, .ref (h 0)), (1, .int x1)] → W p l e rm6_moss s m args below meth c H locs 0 0 Q (F0 m 25 ls [])) : ∀ (x1 : Int32) (g : Sg) (H : Heap) (locs : List Loc) (ls : Array Slot), f6_moss_b76 k25 x1 g = some res → Zs D (wM cI cZ h) A s.heap H locs g → lv_has ls 3 [(0, .ref (h 0)), (1, .int x1)] → W p l e rm6_moss s m args below meth c H locs 0 0 Q (F0 m 76 ls []) := by
  have hx := C.1.1
  have hb := C.1.2.1
  intro x1 g H locs ls hf hz hl
  unfold f6_moss_b76 at hf
  refine lv_aload_n hx hb dX6_moss_76 rfl (lv_at hl 0 rfl) ?_
  refine lv_aload_n hx hb dX6_moss_77 rfl (lv_at hl 0 rfl) ?_
  refine g_RX6_95_model C hz dX6_moss_78 ?_
  refine lv_iconst (v := (3 : Int32)) hx hb dX6_moss_81 (by decide) ?_
  refine lv_icmp_ne (tgt := 89) hx hb dX6_moss_82 (by decide) (fun c11 => ?_) (fun c11 => ?_)
  · have hf := ite_f hf c11
    refine lv_iconst (v := (0 : Int32)) hx hb dX6_moss_89 (by decide) ?_
    exact w6_moss_b90 C hR hk25 _ _ _ _ _ _ hf hz (lv_sub hl [0, 1] rfl)
  · have hf := ite_t hf c11
    refine lv_iconst (v := (1 : Int32)) hx hb dX6_moss_85 (by decide) ?_
    refine lv_goto (tgt := 90) hx hb dX6_moss_86 (by decide) ?_
    exact w6_moss_b90 C hR hk25 _ _ _ _ _ _ hf hz (lv_sub hl [0, 1] rfl)
set_option maxHeartbeats 4000000 in
set_option maxRecDepth 100000 in
theorem w6_moss_b60 {res : Int32 × Sg} {k25 : Int32 → Sg → Option (Int32 × Sg)} (C : Cx p m c cX6_moss 3 s args RX6 D (tyL cI cZ cB)) (hR : EndI p l e rm6_moss s m args below meth c Q D (wM cI cZ h) A cX6_moss res) (hk25 : ∀ (x1 : Int32) (g : Sg) (H : Heap) (locs : List Loc) (ls : Array Slot), k25 x1 g = some res → Zs D (wM cI cZ h) A s.heap H locs g → lv_has ls 3 [(0, .ref (h 0)), (1, .int x1)] → W p l e rm6_moss s m args below meth c H locs 0 0 Q (F0 m 25 ls [])) : ∀ (x1 : Int32) (y0 : Int32) (g : Sg) (H : Heap) (locs : List Loc) (ls : Array Slot), f6_moss_b60 k25 x1 y0 g = some res → Zs D (wM cI cZ h) A s.heap H locs g → lv_has ls 3 [(0, .ref (h 0)), (1, .int x1)] → W p l e rm6_moss s m args below meth c H locs 0 0 Q (F0 m 60 ls [.int y0, .ref (h 0)]) := by
  have hx := C.1.1
  have hb := C.1.2.1
  intro x1 y0 g H locs ls hf hz hl
  unfold f6_moss_b60 at hf
  obtain ⟨r14, g13, hc12, hf⟩ := bd2_elim hf
  refine z_VI (As := [.int y0]) (rest := []) C (c6_takes hc12) lk_RX6_115 ⟨rfl, rfl, Nat.le_of_ble_eq_true rfl, Nat.le_of_ble_eq_true rfl⟩ ⟨Nat.zero_le _, Nat.zero_le _⟩ o_model rfl rfl (Nat.le_of_ble_eq_true rfl) rfl hl.1 dX6_moss_60 hz (fun H locs hz => ?_)
  refine lv_istore_n (lv' := [(2, .int r14), (0, .ref (h 0)), (1, .int x1)]) hx hb dX6_moss_63 rfl hl (by decide) rfl (fun ls hl => ?_)
  refine lv_aload_n hx hb dX6_moss_64 rfl (lv_at hl 1 rfl) ?_
  obtain ⟨r17, g16, hc15, hf⟩ := bd2_elim hf
  refine z_VI (As := []) (rest := []) C (c6_isWell hc15) lk_RX6_108 ⟨rfl, rfl, Nat.le_of_ble_eq_true rfl, Nat.le_of_ble_eq_true rfl⟩ ⟨Nat.zero_le _, Nat.zero_le _⟩ o_model rfl rfl (Nat.le_of_ble_eq_true rfl) rfl hl.1 dX6_moss_65 hz (fun H locs hz => ?_)
  refine lv_if_eq (tgt := 76) hx hb dX6_moss_68 (by decide) (fun c18 => ?_) (fun c18 => ?_)
  · have hf := ite_t hf c18
    exact w6_moss_b76 C hR hk25 _ _ _ _ _ hf hz (lv_sub hl [1, 2] rfl)
  · have hf := ite_f hf c18
    refine lv_aload_n hx hb dX6_moss_71 rfl (lv_at hl 1 rfl) ?_
    refine lv_iload_n hx hb dX6_moss_72 rfl (lv_at hl 0 rfl) ?_
    obtain ⟨g20, hc19, hf⟩ := bd_elim hf
    refine z_VV (As := [.int r14]) (rest := []) C (c6_readsItem hc19) lk_RX6_135 ⟨rfl, rfl, Nat.le_of_ble_eq_true rfl, Nat.le_of_ble_eq_true rfl⟩ ⟨Nat.zero_le _, Nat.zero_le _⟩ o_model rfl rfl (Nat.le_of_ble_eq_true rfl) rfl hl.1 dX6_moss_73 hz (fun H locs hz => ?_)
    exact w6_moss_b76 C hR hk25 _ _ _ _ _ hf hz (lv_sub hl [1, 2] rfl)
set_option maxHeartbeats 4000000 in
set_option maxRecDepth 100000 in
theorem w6_moss_b59 {res : Int32 × Sg} {k25 : Int32 → Sg → Option (Int32 × Sg)} (C : Cx p m c cX6_moss 3 s args RX6 D (tyL cI cZ cB)) (hR : EndI p l e rm6_moss s m args below meth c Q D (wM cI cZ h) A cX6_moss res) (hk25 : ∀ (x1 : Int32) (g : Sg) (H : Heap) (locs : List Loc) (ls : Array Slot), k25 x1 g = some res → Zs D (wM cI cZ h) A s.heap H locs g → lv_has ls 3 [(0, .ref (h 0)), (1, .int x1)] → W p l e rm6_moss s m args below meth c H locs 0 0 Q (F0 m 25 ls [])) : ∀ (x1 : Int32) (g : Sg) (H : Heap) (locs : List Loc) (ls : Array Slot), f6_moss_b59 k25 x1 g = some res → Zs D (wM cI cZ h) A s.heap H locs g → lv_has ls 3 [(0, .ref (h 0)), (1, .int x1)] → W p l e rm6_moss s m args below meth c H locs 0 0 Q (F0 m 59 ls [.ref (h 0)]) := by
  have hx := C.1.1
  have hb := C.1.2.1
  intro x1 g H locs ls hf hz hl
  unfold f6_moss_b59 at hf
  refine lv_iconst (v := (0 : Int32)) hx hb dX6_moss_59 (by decide) ?_
  exact w6_moss_b60 C hR hk25 _ _ _ _ _ _ hf hz (lv_sub hl [0, 1] rfl)
set_option maxHeartbeats 4000000 in
set_option maxRecDepth 100000 in
theorem w6_moss_b25 {res : Int32 × Sg} (C : Cx p m c cX6_moss 3 s args RX6 D (tyL cI cZ cB)) (hR : EndI p l e rm6_moss s m args below meth c Q D (wM cI cZ h) A cX6_moss res) : ∀ n : Nat, ∀ (x1 : Int32) (g : Sg) (H : Heap) (locs : List Loc) (ls : Array Slot), f6_moss_b25 n x1 g = some res → Zs D (wM cI cZ h) A s.heap H locs g → lv_has ls 3 [(0, .ref (h 0)), (1, .int x1)] → W p l e rm6_moss s m args below meth c H locs 0 0 Q (F0 m 25 ls []) := by
  have hx := C.1.1
  have hb := C.1.2.1
  intro n
  induction n with
  | zero =>
    intro x1 g H locs ls hf hz hl
    cases hf
  | succ n ih =>
    intro x1 g H locs ls hf hz hl
    rw [f6_moss_b25] at hf
    refine lv_aload_n hx hb dX6_moss_25 rfl (lv_at hl 0 rfl) ?_
    obtain ⟨r23, g22, hc21, hf⟩ := bd2_elim hf
    refine z_VI (As := []) (rest := []) C (c6_isWell hc21) lk_RX6_108 ⟨rfl, rfl, Nat.le_of_ble_eq_true rfl, Nat.le_of_ble_eq_true rfl⟩ ⟨Nat.zero_le _, Nat.zero_le _⟩ o_model rfl rfl (Nat.le_of_ble_eq_true rfl) rfl hl.1 dX6_moss_26 hz (fun H locs hz => ?_)
    refine lv_if_eq (tgt := 100) hx hb dX6_moss_29 (by decide) (fun c24 => ?_) (fun c24 => ?_)
    · have hf := ite_t hf c24
      exact w6_moss_b100 C hR _ _ _ _ _ hf hz (lv_sub hl [0, 1] rfl)
    · have hf := ite_f hf c24
      refine lv_aload_n hx hb dX6_moss_32 rfl (lv_at hl 0 rfl) ?_
      refine g_RX6_95_model C hz dX6_moss_33 ?_
      refine lv_if_eq (tgt := 100) hx hb dX6_moss_36 (by decide) (fun c25 => ?_) (fun c25 => ?_)
      · have hf := ite_t hf c25
        exact w6_moss_b100 C hR _ _ _ _ _ hf hz (lv_sub hl [0, 1] rfl)
      · have hf := ite_f hf c25
        refine lv_aload_n hx hb dX6_moss_39 rfl (lv_at hl 0 rfl) ?_
        refine lv_aload_n hx hb dX6_moss_40 rfl (lv_at hl 0 rfl) ?_
        refine g_RX6_95_model C hz dX6_moss_41 ?_
        refine lv_iconst (v := (1 : Int32)) hx hb dX6_moss_44 (by decide) ?_
        refine lv_icmp_ne (tgt := 59) hx hb dX6_moss_45 (by decide) (fun c26 => ?_) (fun c26 => ?_)
        · have hf := ite_f hf c26
          exact w6_moss_b59 C hR ih _ _ _ _ _ hf hz (lv_sub hl [0, 1] rfl)
        · have hf := ite_t hf c26
          refine lv_aload_n hx hb dX6_moss_48 rfl (lv_at hl 0 rfl) ?_
          obtain ⟨r29, g28, hc27, hf⟩ := bd2_elim hf
          refine z_VI (As := []) (rest := [.ref (h 0)]) C (c6_mayBegin hc27) lk_RX6_132 ⟨rfl, rfl, Nat.le_of_ble_eq_true rfl, Nat.le_of_ble_eq_true rfl⟩ ⟨Nat.zero_le _, Nat.zero_le _⟩ o_model rfl rfl (Nat.le_of_ble_eq_true rfl) rfl hl.1 dX6_moss_49 hz (fun H locs hz => ?_)
          refine lv_if_eq (tgt := 59) hx hb dX6_moss_52 (by decide) (fun c30 => ?_) (fun c30 => ?_)
          · have hf := ite_t hf c30
            exact w6_moss_b59 C hR ih _ _ _ _ _ hf hz (lv_sub hl [0, 1] rfl)
          · have hf := ite_f hf c30
            refine lv_iconst (v := (1 : Int32)) hx hb dX6_moss_55 (by decide) ?_
            refine lv_goto (tgt := 60) hx hb dX6_moss_56 (by decide) ?_
            exact w6_moss_b60 C hR ih _ _ _ _ _ _ hf hz (lv_sub hl [0, 1] rfl)
set_option maxHeartbeats 4000000 in
set_option maxRecDepth 100000 in
theorem w6_moss_b0 {res : Int32 × Sg} (C : Cx p m c cX6_moss 3 s args RX6 D (tyL cI cZ cB)) (hR : EndI p l e rm6_moss s m args below meth c Q D (wM cI cZ h) A cX6_moss res) : ∀ (g : Sg) (H : Heap) (locs : List Loc) (ls : Array Slot), f6_moss g = some res → Zs D (wM cI cZ h) A s.heap H locs g → lv_has ls 3 [(0, .ref (h 0))] → W p l e rm6_moss s m args below meth c H locs 0 0 Q (F0 m 0 ls []) := by
  have hx := C.1.1
  have hb := C.1.2.1
  intro g H locs ls hf hz hl
  unfold f6_moss at hf
  refine lv_aload_n hx hb dX6_moss_0 rfl (lv_at hl 0 rfl) ?_
  refine lv_iconst (v := (0 : Int32)) hx hb dX6_moss_1 (by decide) ?_
  obtain ⟨g31, eg31, hf⟩ := nx_elim hf
  refine p_RX6_74_model C hz eg31 dX6_moss_2 (fun H locs hz => ?_)
  refine lv_aload_n hx hb dX6_moss_5 rfl (lv_at hl 0 rfl) ?_
  refine lv_iconst (v := (-1 : Int32)) hx hb dX6_moss_6 (by decide) ?_
  obtain ⟨g32, eg32, hf⟩ := nx_elim hf
  refine p_RX6_105_model C hz eg32 dX6_moss_7 (fun H locs hz => ?_)
  refine lv_aload_n hx hb dX6_moss_10 rfl (lv_at hl 0 rfl) ?_
  refine lv_iconst (v := (0 : Int32)) hx hb dX6_moss_11 (by decide) ?_
  obtain ⟨g33, eg33, hf⟩ := nx_elim hf
  refine p_RX6_85_model C hz eg33 dX6_moss_12 (fun H locs hz => ?_)
  refine lv_aload_n hx hb dX6_moss_15 rfl (lv_at hl 0 rfl) ?_
  obtain ⟨g35, hc34, hf⟩ := bd_elim hf
  refine z_VV (As := []) (rest := []) C (c6_begins hc34) lk_RX6_68 ⟨rfl, rfl, Nat.le_of_ble_eq_true rfl, Nat.le_of_ble_eq_true rfl⟩ ⟨Nat.zero_le _, Nat.zero_le _⟩ o_model rfl rfl (Nat.le_of_ble_eq_true rfl) rfl hl.1 dX6_moss_16 hz (fun H locs hz => ?_)
  refine lv_iconst (v := (0 : Int32)) hx hb dX6_moss_19 (by decide) ?_
  refine lv_istore_n (lv' := [(1, .int (0 : Int32)), (0, .ref (h 0))]) hx hb dX6_moss_20 rfl hl (by decide) rfl (fun ls hl => ?_)
  refine lv_aload_n hx hb dX6_moss_21 rfl (lv_at hl 1 rfl) ?_
  obtain ⟨g37, hc36, hf⟩ := bd_elim hf
  refine z_VV (As := []) (rest := []) C (c6_advances hc36) lk_RX6_112 ⟨rfl, rfl, Nat.le_of_ble_eq_true rfl, Nat.le_of_ble_eq_true rfl⟩ ⟨Nat.zero_le _, Nat.zero_le _⟩ o_model rfl rfl (Nat.le_of_ble_eq_true rfl) rfl hl.1 dX6_moss_22 hz (fun H locs hz => ?_)
  exact w6_moss_b25 C hR 1000 _ _ _ _ _ hf hz (lv_sub hl [1, 0] rfl)
set_option maxHeartbeats 4000000 in
set_option maxRecDepth 100000 in
theorem c6_moss {l : Launch} {D : va_G} {cI cZ cB : ClassId} {h : Nat → Nat} {g : Sg} {r : Int32} {g1 : Sg} (hf : f6_moss g = some (r, g1)) : KI l D (tyL cI cZ cB) (wM cI cZ h) yX6_moss cX6_moss 3 (some .int) rm6_moss [.ref (h 0)] g r g1 := by
  refine KI_mk (own := RX6) (by decide +kernel) rfl (Nat.le_of_ble_eq_true rfl) ?_
  intro p e s m below meth c A Q ls C hR hz hl
  have hl : lv_has ls 3 [(0, .ref (h 0))] := hl
  exact w6_moss_b0 C hR _ _ _ _ hf hz hl
abbrev rm6_isPromise : Room := { frames := 1, cells := 0, slots := 0, locals := 22 }
set_option maxHeartbeats 4000000 in
set_option maxRecDepth 100000 in
theorem w6_isPromise_b0 {res : Int32 × Sg} (C : Cx p m c cX6_isPromise 2 s args RX6 D (tyL cI cZ cB)) (hR : EndZ p l e rm6_isPromise s m args below meth c Q D (wM cI cZ h) A cX6_isPromise res) : ∀ (x1 : Int32) (g : Sg) (H : Heap) (locs : List Loc) (ls : Array Slot), f6_isPromise x1 g = some res → Zs D (wM cI cZ h) A s.heap H locs g → lv_has ls 2 [(0, .ref (h 0)), (1, .int x1)] → W p l e rm6_isPromise s m args below meth c H locs 0 0 Q (F0 m 0 ls []) := by
  have hx := C.1.1
  have hb := C.1.2.1
  intro x1 g H locs ls hf hz hl
  unfold f6_isPromise at hf
  refine lv_iload_n hx hb dX6_isPromise_0 rfl (lv_at hl 1 rfl) ?_
  refine lv_iconst (v := (0 : Int32)) hx hb dX6_isPromise_1 (by decide) ?_
  refine lv_aload_n hx hb dX6_isPromise_2 rfl (lv_at hl 0 rfl) ?_
  refine g_RX6_13_model C hz dX6_isPromise_3 ?_
  refine lv_iconst (v := (1 : Int32)) hx hb dX6_isPromise_6 (by decide) ?_
  refine z_ialdL C hz a_m_many (vpl (n := 1) (by decide) (by decide)) (k := 1) (by decide) dX6_isPromise_7 ?_
  refine lv_iconst (v := (1 : Int32)) hx hb dX6_isPromise_8 (by decide) ?_
  refine lv_isub hx hb dX6_isPromise_9 ?_
  obtain ⟨r3, g2, hc1, hf⟩ := bd2_elim hf
  refine z_SI (As := [.int x1, .int (0 : Int32), .int ((g.1 9 1) - (1 : Int32))]) (rest := []) C (c6_in hc1) lk_RX6_78 ⟨rfl, rfl, Nat.le_of_ble_eq_true rfl, Nat.le_of_ble_eq_true rfl⟩ ⟨Nat.zero_le _, Nat.zero_le _⟩ rfl (Nat.le_of_ble_eq_true rfl) rfl hl.1 dX6_isPromise_10 hz (fun H locs hz => ?_)
  exact hR _ _ _ _ _ _ hf hz dX6_isPromise_13
set_option maxHeartbeats 4000000 in
set_option maxRecDepth 100000 in
theorem c6_isPromise {l : Launch} {D : va_G} {cI cZ cB : ClassId} {h : Nat → Nat} {x1 : Int32} {g : Sg} {r : Int32} {g1 : Sg} (hf : f6_isPromise x1 g = some (r, g1)) : KI l D (tyL cI cZ cB) (wM cI cZ h) yX6_isPromise cX6_isPromise 2 (some .boolean) rm6_isPromise [.ref (h 0), .int x1] g r g1 := by
  refine KZ_mk (own := RX6) (by decide +kernel) rfl (Nat.le_of_ble_eq_true rfl) ?_
  intro p e s m below meth c A Q ls C hR hz hl
  have hl : lv_has ls 2 [(0, .ref (h 0)), (1, .int x1)] := hl
  exact w6_isPromise_b0 C hR _ _ _ _ _ hf hz hl
abbrev rm6_isCell : Room := { frames := 1, cells := 0, slots := 0, locals := 22 }
set_option maxHeartbeats 4000000 in
set_option maxRecDepth 100000 in
theorem w6_isCell_b0 {res : Int32 × Sg} (C : Cx p m c cX6_isCell 1 s args RX6 D (tyL cI cZ cB)) (hR : EndZ p l e rm6_isCell s m args below meth c Q D (wM cI cZ h) A cX6_isCell res) : ∀ (x0 : Int32) (g : Sg) (H : Heap) (locs : List Loc) (ls : Array Slot), f6_isCell x0 g = some res → Zs D (wM cI cZ h) A s.heap H locs g → lv_has ls 1 [(0, .int x0)] → W p l e rm6_isCell s m args below meth c H locs 0 0 Q (F0 m 0 ls []) := by
  have hx := C.1.1
  have hb := C.1.2.1
  intro x0 g H locs ls hf hz hl
  unfold f6_isCell at hf
  refine lv_iload_n hx hb dX6_isCell_0 rfl (lv_at hl 0 rfl) ?_
  refine lv_iconst (v := (0 : Int32)) hx hb dX6_isCell_1 (by decide) ?_
  refine lv_iconst (v := (5 : Int32)) hx hb dX6_isCell_2 (by decide) ?_
  obtain ⟨r3, g2, hc1, hf⟩ := bd2_elim hf
  refine z_SI (As := [.int x0, .int (0 : Int32), .int (5 : Int32)]) (rest := []) C (c6_in hc1) lk_RX6_78 ⟨rfl, rfl, Nat.le_of_ble_eq_true rfl, Nat.le_of_ble_eq_true rfl⟩ ⟨Nat.zero_le _, Nat.zero_le _⟩ rfl (Nat.le_of_ble_eq_true rfl) rfl hl.1 dX6_isCell_3 hz (fun H locs hz => ?_)
  exact hR _ _ _ _ _ _ hf hz dX6_isCell_6
set_option maxHeartbeats 4000000 in
set_option maxRecDepth 100000 in
theorem c6_isCell {l : Launch} {D : va_G} {cI cZ cB : ClassId} {h : Nat → Nat} {x0 : Int32} {g : Sg} {r : Int32} {g1 : Sg} (hf : f6_isCell x0 g = some (r, g1)) : KI l D (tyL cI cZ cB) (wM cI cZ h) yX6_isCell cX6_isCell 1 (some .boolean) rm6_isCell [.int x0] g r g1 := by
  refine KZ_mk (own := RX6) (by decide +kernel) rfl (Nat.le_of_ble_eq_true rfl) ?_
  intro p e s m below meth c A Q ls C hR hz hl
  have hl : lv_has ls 1 [(0, .int x0)] := hl
  exact w6_isCell_b0 C hR _ _ _ _ _ hf hz hl
abbrev rm6_those : Room := { frames := 0, cells := 0, slots := 0, locals := 0 }
set_option maxHeartbeats 4000000 in
set_option maxRecDepth 100000 in
theorem w6_those_b35 {res : Int32 × Sg} {k4 : Int32 → Int32 → Int32 → Sg → Option (Int32 × Sg)} (C : Cx p m c cX6_those 4 s args RX6 D (tyL cI cZ cB)) (hR : EndI p l e rm6_those s m args below meth c Q D (wM cI cZ h) A cX6_those res) (hk4 : ∀ (x1 : Int32) (x2 : Int32) (x3 : Int32) (g : Sg) (H : Heap) (locs : List Loc) (ls : Array Slot), k4 x1 x2 x3 g = some res → Zs D (wM cI cZ h) A s.heap H locs g → lv_has ls 4 [(0, .ref (h 0)), (1, .int x1), (2, .int x2), (3, .int x3)] → W p l e rm6_those s m args below meth c H locs 0 0 Q (F0 m 4 ls [])) : ∀ (x1 : Int32) (x3 : Int32) (y0 : Int32) (y1 : Int32) (g : Sg) (H : Heap) (locs : List Loc) (ls : Array Slot), f6_those_b35 k4 x1 x3 y0 y1 g = some res → Zs D (wM cI cZ h) A s.heap H locs g → lv_has ls 4 [(0, .ref (h 0)), (1, .int x1), (3, .int x3)] → W p l e rm6_those s m args below meth c H locs 0 0 Q (F0 m 35 ls [.int y0, .int y1]) := by
  have hx := C.1.1
  have hb := C.1.2.1
  intro x1 x3 y0 y1 g H locs ls hf hz hl
  unfold f6_those_b35 at hf
  refine lv_ior hx hb dX6_those_35 ?_
  obtain ⟨v1, ev1, hf⟩ := nx_elim hf
  refine z_nm ev1 ?_
  refine lv_istore_n (lv' := [(2, .int v1), (0, .ref (h 0)), (1, .int x1), (3, .int x3)]) hx hb dX6_those_36 rfl hl (by decide) rfl (fun ls hl => ?_)
  obtain ⟨v2, ev2, hf⟩ := nx_elim hf
  refine lv_iinc (v := v2) (lv' := [(3, .int v2), (2, .int v1), (0, .ref (h 0)), (1, .int x1)]) hx hb dX6_those_37 hl (k := 3) rfl (by rw [ev2]; rfl) (by decide) rfl (fun ls hl => ?_)
  refine lv_goto (tgt := 4) hx hb dX6_those_40 (by decide) ?_
  exact hk4 _ _ _ _ _ _ _ hf hz (lv_sub hl [2, 3, 1, 0] rfl)
set_option maxHeartbeats 4000000 in
set_option maxRecDepth 100000 in
theorem w6_those_b4 {res : Int32 × Sg} (C : Cx p m c cX6_those 4 s args RX6 D (tyL cI cZ cB)) (hR : EndI p l e rm6_those s m args below meth c Q D (wM cI cZ h) A cX6_those res) : ∀ n : Nat, ∀ (x1 : Int32) (x2 : Int32) (x3 : Int32) (g : Sg) (H : Heap) (locs : List Loc) (ls : Array Slot), f6_those_b4 n x1 x2 x3 g = some res → Zs D (wM cI cZ h) A s.heap H locs g → lv_has ls 4 [(0, .ref (h 0)), (1, .int x1), (2, .int x2), (3, .int x3)] → W p l e rm6_those s m args below meth c H locs 0 0 Q (F0 m 4 ls []) := by
  have hx := C.1.1
  have hb := C.1.2.1
  intro n
  induction n with
  | zero =>
    intro x1 x2 x3 g H locs ls hf hz hl
    cases hf
  | succ n ih =>
    intro x1 x2 x3 g H locs ls hf hz hl
    rw [f6_those_b4] at hf
    refine lv_iload_n hx hb dX6_those_4 rfl (lv_at hl 3 rfl) ?_
    refine lv_aload_n hx hb dX6_those_5 rfl (lv_at hl 0 rfl) ?_
    refine g_RX6_13_model C hz dX6_those_6 ?_
    refine lv_iconst (v := (1 : Int32)) hx hb dX6_those_9 (by decide) ?_
    refine z_ialdL C hz a_m_many (vpl (n := 1) (by decide) (by decide)) (k := 1) (by decide) dX6_those_10 ?_
    refine lv_icmp_ge (tgt := 43) hx hb dX6_those_11 (by decide) (fun c3 => ?_) (fun c3 => ?_)
    · have hf := ite_t hf c3
      refine lv_iload_n hx hb dX6_those_43 rfl (lv_at hl 2 rfl) ?_
      exact hR _ _ _ _ _ _ (Option.some.inj hf) hz dX6_those_44
    · have hf := ite_f hf c3
      refine lv_iload_n hx hb dX6_those_14 rfl (lv_at hl 2 rfl) ?_
      refine lv_aload_n hx hb dX6_those_15 rfl (lv_at hl 0 rfl) ?_
      refine g_RX6_46_model C hz dX6_those_16 ?_
      refine lv_bipush (v := (13 : Int32)) hx hb dX6_those_19 (by decide) ?_
      refine lv_iload_n hx hb dX6_those_21 rfl (lv_at hl 3 rfl) ?_
      refine lv_iadd hx hb dX6_those_22 ?_
      obtain ⟨c4, hf⟩ := ix_elim hf
      refine z_iald C hz a_m_s c4 dX6_those_23 ?_
      refine lv_iload_n hx hb dX6_those_24 rfl (lv_at hl 1 rfl) ?_
      refine lv_icmp_ne (tgt := 34) hx hb dX6_those_25 (by decide) (fun c5 => ?_) (fun c5 => ?_)
      · have hf := ite_f hf c5
        refine lv_iconst (v := (0 : Int32)) hx hb dX6_those_34 (by decide) ?_
        exact w6_those_b35 C hR ih _ _ _ _ _ _ _ _ hf hz (lv_sub hl [0, 1, 3] rfl)
      · have hf := ite_t hf c5
        refine lv_iconst (v := (1 : Int32)) hx hb dX6_those_28 (by decide) ?_
        refine lv_iload_n hx hb dX6_those_29 rfl (lv_at hl 3 rfl) ?_
        refine lv_ishl hx hb dX6_those_30 ?_
        refine lv_goto (tgt := 35) hx hb dX6_those_31 (by decide) ?_
        exact w6_those_b35 C hR ih _ _ _ _ _ _ _ _ hf hz (lv_sub hl [0, 1, 3] rfl)
set_option maxHeartbeats 4000000 in
set_option maxRecDepth 100000 in
theorem w6_those_b0 {res : Int32 × Sg} (C : Cx p m c cX6_those 4 s args RX6 D (tyL cI cZ cB)) (hR : EndI p l e rm6_those s m args below meth c Q D (wM cI cZ h) A cX6_those res) : ∀ (x1 : Int32) (g : Sg) (H : Heap) (locs : List Loc) (ls : Array Slot), f6_those x1 g = some res → Zs D (wM cI cZ h) A s.heap H locs g → lv_has ls 4 [(0, .ref (h 0)), (1, .int x1)] → W p l e rm6_those s m args below meth c H locs 0 0 Q (F0 m 0 ls []) := by
  have hx := C.1.1
  have hb := C.1.2.1
  intro x1 g H locs ls hf hz hl
  unfold f6_those at hf
  refine lv_iconst (v := (0 : Int32)) hx hb dX6_those_0 (by decide) ?_
  refine lv_istore_n (lv' := [(2, .int (0 : Int32)), (0, .ref (h 0)), (1, .int x1)]) hx hb dX6_those_1 rfl hl (by decide) rfl (fun ls hl => ?_)
  refine lv_iconst (v := (0 : Int32)) hx hb dX6_those_2 (by decide) ?_
  refine lv_istore_n (lv' := [(3, .int (0 : Int32)), (2, .int (0 : Int32)), (0, .ref (h 0)), (1, .int x1)]) hx hb dX6_those_3 rfl hl (by decide) rfl (fun ls hl => ?_)
  exact w6_those_b4 C hR 1000 _ _ _ _ _ _ _ hf hz (lv_sub hl [2, 3, 1, 0] rfl)
set_option maxHeartbeats 4000000 in
set_option maxRecDepth 100000 in
theorem c6_those {l : Launch} {D : va_G} {cI cZ cB : ClassId} {h : Nat → Nat} {x1 : Int32} {g : Sg} {r : Int32} {g1 : Sg} (hf : f6_those x1 g = some (r, g1)) : KI l D (tyL cI cZ cB) (wM cI cZ h) yX6_those cX6_those 4 (some .int) rm6_those [.ref (h 0), .int x1] g r g1 := by
  refine KI_mk (own := RX6) (by decide +kernel) rfl (Nat.le_of_ble_eq_true rfl) ?_
  intro p e s m below meth c A Q ls C hR hz hl
  have hl : lv_has ls 4 [(0, .ref (h 0)), (1, .int x1)] := hl
  exact w6_those_b0 C hR _ _ _ _ _ hf hz hl
abbrev rm6_lyingIn : Room := { frames := 0, cells := 0, slots := 0, locals := 0 }
set_option maxHeartbeats 4000000 in
set_option maxRecDepth 100000 in
theorem w6_lyingIn_b44 {res : Int32 × Sg} {k4 : Int32 → Int32 → Int32 → Sg → Option (Int32 × Sg)} (C : Cx p m c cX6_lyingIn 4 s args RX6 D (tyL cI cZ cB)) (hR : EndI p l e rm6_lyingIn s m args below meth c Q D (wM cI cZ h) A cX6_lyingIn res) (hk4 : ∀ (x1 : Int32) (x2 : Int32) (x3 : Int32) (g : Sg) (H : Heap) (locs : List Loc) (ls : Array Slot), k4 x1 x2 x3 g = some res → Zs D (wM cI cZ h) A s.heap H locs g → lv_has ls 4 [(0, .ref (h 0)), (1, .int x1), (2, .int x2), (3, .int x3)] → W p l e rm6_lyingIn s m args below meth c H locs 0 0 Q (F0 m 4 ls [])) : ∀ (x1 : Int32) (x3 : Int32) (y0 : Int32) (y1 : Int32) (g : Sg) (H : Heap) (locs : List Loc) (ls : Array Slot), f6_lyingIn_b44 k4 x1 x3 y0 y1 g = some res → Zs D (wM cI cZ h) A s.heap H locs g → lv_has ls 4 [(0, .ref (h 0)), (1, .int x1), (3, .int x3)] → W p l e rm6_lyingIn s m args below meth c H locs 0 0 Q (F0 m 44 ls [.int y0, .int y1]) := by
  have hx := C.1.1
  have hb := C.1.2.1
  intro x1 x3 y0 y1 g H locs ls hf hz hl
  unfold f6_lyingIn_b44 at hf
  refine lv_ior hx hb dX6_lyingIn_44 ?_
  obtain ⟨v1, ev1, hf⟩ := nx_elim hf
  refine z_nm ev1 ?_
  refine lv_istore_n (lv' := [(2, .int v1), (0, .ref (h 0)), (1, .int x1), (3, .int x3)]) hx hb dX6_lyingIn_45 rfl hl (by decide) rfl (fun ls hl => ?_)
  obtain ⟨v2, ev2, hf⟩ := nx_elim hf
  refine lv_iinc (v := v2) (lv' := [(3, .int v2), (2, .int v1), (0, .ref (h 0)), (1, .int x1)]) hx hb dX6_lyingIn_46 hl (k := 3) rfl (by rw [ev2]; rfl) (by decide) rfl (fun ls hl => ?_)
  refine lv_goto (tgt := 4) hx hb dX6_lyingIn_49 (by decide) ?_
  exact hk4 _ _ _ _ _ _ _ hf hz (lv_sub hl [2, 3, 1, 0] rfl)
set_option maxHeartbeats 4000000 in
set_option maxRecDepth 100000 in
theorem w6_lyingIn_b43 {res : Int32 × Sg} {k4 : Int32 → Int32 → Int32 → Sg → Option (Int32 × Sg)} (C : Cx p m c cX6_lyingIn 4 s args RX6 D (tyL cI cZ cB)) (hR : EndI p l e rm6_lyingIn s m args below meth c Q D (wM cI cZ h) A cX6_lyingIn res) (hk4 : ∀ (x1 : Int32) (x2 : Int32) (x3 : Int32) (g : Sg) (H : Heap) (locs : List Loc) (ls : Array Slot), k4 x1 x2 x3 g = some res → Zs D (wM cI cZ h) A s.heap H locs g → lv_has ls 4 [(0, .ref (h 0)), (1, .int x1), (2, .int x2), (3, .int x3)] → W p l e rm6_lyingIn s m args below meth c H locs 0 0 Q (F0 m 4 ls [])) : ∀ (x1 : Int32) (x3 : Int32) (y0 : Int32) (g : Sg) (H : Heap) (locs : List Loc) (ls : Array Slot), f6_lyingIn_b43 k4 x1 x3 y0 g = some res → Zs D (wM cI cZ h) A s.heap H locs g → lv_has ls 4 [(0, .ref (h 0)), (1, .int x1), (3, .int x3)] → W p l e rm6_lyingIn s m args below meth c H locs 0 0 Q (F0 m 43 ls [.int y0]) := by
  have hx := C.1.1
  have hb := C.1.2.1
  intro x1 x3 y0 g H locs ls hf hz hl
  unfold f6_lyingIn_b43 at hf
  refine lv_iconst (v := (0 : Int32)) hx hb dX6_lyingIn_43 (by decide) ?_
  exact w6_lyingIn_b44 C hR hk4 _ _ _ _ _ _ _ _ hf hz (lv_sub hl [0, 1, 2] rfl)
set_option maxHeartbeats 4000000 in
set_option maxRecDepth 100000 in
theorem w6_lyingIn_b4 {res : Int32 × Sg} (C : Cx p m c cX6_lyingIn 4 s args RX6 D (tyL cI cZ cB)) (hR : EndI p l e rm6_lyingIn s m args below meth c Q D (wM cI cZ h) A cX6_lyingIn res) : ∀ n : Nat, ∀ (x1 : Int32) (x2 : Int32) (x3 : Int32) (g : Sg) (H : Heap) (locs : List Loc) (ls : Array Slot), f6_lyingIn_b4 n x1 x2 x3 g = some res → Zs D (wM cI cZ h) A s.heap H locs g → lv_has ls 4 [(0, .ref (h 0)), (1, .int x1), (2, .int x2), (3, .int x3)] → W p l e rm6_lyingIn s m args below meth c H locs 0 0 Q (F0 m 4 ls []) := by
  have hx := C.1.1
  have hb := C.1.2.1
  intro n
  induction n with
  | zero =>
    intro x1 x2 x3 g H locs ls hf hz hl
    cases hf
  | succ n ih =>
    intro x1 x2 x3 g H locs ls hf hz hl
    rw [f6_lyingIn_b4] at hf
    refine lv_iload_n hx hb dX6_lyingIn_4 rfl (lv_at hl 3 rfl) ?_
    refine lv_aload_n hx hb dX6_lyingIn_5 rfl (lv_at hl 0 rfl) ?_
    refine g_RX6_13_model C hz dX6_lyingIn_6 ?_
    refine lv_iconst (v := (1 : Int32)) hx hb dX6_lyingIn_9 (by decide) ?_
    refine z_ialdL C hz a_m_many (vpl (n := 1) (by decide) (by decide)) (k := 1) (by decide) dX6_lyingIn_10 ?_
    refine lv_icmp_ge (tgt := 52) hx hb dX6_lyingIn_11 (by decide) (fun c3 => ?_) (fun c3 => ?_)
    · have hf := ite_t hf c3
      refine lv_iload_n hx hb dX6_lyingIn_52 rfl (lv_at hl 2 rfl) ?_
      exact hR _ _ _ _ _ _ (Option.some.inj hf) hz dX6_lyingIn_53
    · have hf := ite_f hf c3
      refine lv_iload_n hx hb dX6_lyingIn_14 rfl (lv_at hl 2 rfl) ?_
      refine lv_aload_n hx hb dX6_lyingIn_15 rfl (lv_at hl 0 rfl) ?_
      refine g_RX6_46_model C hz dX6_lyingIn_16 ?_
      refine lv_bipush (v := (13 : Int32)) hx hb dX6_lyingIn_19 (by decide) ?_
      refine lv_iload_n hx hb dX6_lyingIn_21 rfl (lv_at hl 3 rfl) ?_
      refine lv_iadd hx hb dX6_lyingIn_22 ?_
      obtain ⟨c4, hf⟩ := ix_elim hf
      refine z_iald C hz a_m_s c4 dX6_lyingIn_23 ?_
      refine lv_if_ne (tgt := 43) hx hb dX6_lyingIn_24 (by decide) (fun c5 => ?_) (fun c5 => ?_)
      · have hf := ite_f hf c5
        exact w6_lyingIn_b43 C hR ih _ _ _ _ _ _ _ hf hz (lv_sub hl [0, 1, 3] rfl)
      · have hf := ite_t hf c5
        refine lv_aload_n hx hb dX6_lyingIn_27 rfl (lv_at hl 0 rfl) ?_
        refine g_RX6_25_model C hz dX6_lyingIn_28 ?_
        refine lv_iload_n hx hb dX6_lyingIn_31 rfl (lv_at hl 3 rfl) ?_
        obtain ⟨c6, hf⟩ := ix_elim hf
        refine z_iald C hz a_m_where c6 dX6_lyingIn_32 ?_
        refine lv_iload_n hx hb dX6_lyingIn_33 rfl (lv_at hl 1 rfl) ?_
        refine lv_icmp_ne (tgt := 43) hx hb dX6_lyingIn_34 (by decide) (fun c7 => ?_) (fun c7 => ?_)
        · have hf := ite_f hf c7
          exact w6_lyingIn_b43 C hR ih _ _ _ _ _ _ _ hf hz (lv_sub hl [0, 1, 3] rfl)
        · have hf := ite_t hf c7
          refine lv_iconst (v := (1 : Int32)) hx hb dX6_lyingIn_37 (by decide) ?_
          refine lv_iload_n hx hb dX6_lyingIn_38 rfl (lv_at hl 3 rfl) ?_
          refine lv_ishl hx hb dX6_lyingIn_39 ?_
          refine lv_goto (tgt := 44) hx hb dX6_lyingIn_40 (by decide) ?_
          exact w6_lyingIn_b44 C hR ih _ _ _ _ _ _ _ _ hf hz (lv_sub hl [0, 1, 3] rfl)
set_option maxHeartbeats 4000000 in
set_option maxRecDepth 100000 in
theorem w6_lyingIn_b0 {res : Int32 × Sg} (C : Cx p m c cX6_lyingIn 4 s args RX6 D (tyL cI cZ cB)) (hR : EndI p l e rm6_lyingIn s m args below meth c Q D (wM cI cZ h) A cX6_lyingIn res) : ∀ (x1 : Int32) (g : Sg) (H : Heap) (locs : List Loc) (ls : Array Slot), f6_lyingIn x1 g = some res → Zs D (wM cI cZ h) A s.heap H locs g → lv_has ls 4 [(0, .ref (h 0)), (1, .int x1)] → W p l e rm6_lyingIn s m args below meth c H locs 0 0 Q (F0 m 0 ls []) := by
  have hx := C.1.1
  have hb := C.1.2.1
  intro x1 g H locs ls hf hz hl
  unfold f6_lyingIn at hf
  refine lv_iconst (v := (0 : Int32)) hx hb dX6_lyingIn_0 (by decide) ?_
  refine lv_istore_n (lv' := [(2, .int (0 : Int32)), (0, .ref (h 0)), (1, .int x1)]) hx hb dX6_lyingIn_1 rfl hl (by decide) rfl (fun ls hl => ?_)
  refine lv_iconst (v := (0 : Int32)) hx hb dX6_lyingIn_2 (by decide) ?_
  refine lv_istore_n (lv' := [(3, .int (0 : Int32)), (2, .int (0 : Int32)), (0, .ref (h 0)), (1, .int x1)]) hx hb dX6_lyingIn_3 rfl hl (by decide) rfl (fun ls hl => ?_)
  exact w6_lyingIn_b4 C hR 1000 _ _ _ _ _ _ _ hf hz (lv_sub hl [2, 3, 1, 0] rfl)
set_option maxHeartbeats 4000000 in
set_option maxRecDepth 100000 in
theorem c6_lyingIn {l : Launch} {D : va_G} {cI cZ cB : ClassId} {h : Nat → Nat} {x1 : Int32} {g : Sg} {r : Int32} {g1 : Sg} (hf : f6_lyingIn x1 g = some (r, g1)) : KI l D (tyL cI cZ cB) (wM cI cZ h) yX6_lyingIn cX6_lyingIn 4 (some .int) rm6_lyingIn [.ref (h 0), .int x1] g r g1 := by
  refine KI_mk (own := RX6) (by decide +kernel) rfl (Nat.le_of_ble_eq_true rfl) ?_
  intro p e s m below meth c A Q ls C hR hz hl
  have hl : lv_has ls 4 [(0, .ref (h 0)), (1, .int x1)] := hl
  exact w6_lyingIn_b0 C hR _ _ _ _ _ hf hz hl
abbrev rm6_leftIn : Room := { frames := 0, cells := 0, slots := 0, locals := 0 }
set_option maxHeartbeats 4000000 in
set_option maxRecDepth 100000 in
theorem w6_leftIn_b0 {res : Int32 × Sg} (C : Cx p m c cX6_leftIn 4 s args RX6 D (tyL cI cZ cB)) (hR : EndI p l e rm6_leftIn s m args below meth c Q D (wM cI cZ h) A cX6_leftIn res) : ∀ (x1 : Int32) (x2 : Int32) (g : Sg) (H : Heap) (locs : List Loc) (ls : Array Slot), f6_leftIn x1 x2 g = some res → Zs D (wM cI cZ h) A s.heap H locs g → lv_has ls 4 [(0, .ref (h 0)), (1, .int x1), (2, .int x2)] → W p l e rm6_leftIn s m args below meth c H locs 0 0 Q (F0 m 0 ls []) := by
  have hx := C.1.1
  have hb := C.1.2.1
  intro x1 x2 g H locs ls hf hz hl
  unfold f6_leftIn at hf
  refine lv_aload_n hx hb dX6_leftIn_0 rfl (lv_at hl 0 rfl) ?_
  refine g_RX6_46_model C hz dX6_leftIn_1 ?_
  refine lv_bipush (v := (13 : Int32)) hx hb dX6_leftIn_4 (by decide) ?_
  refine lv_iload_n hx hb dX6_leftIn_6 rfl (lv_at hl 1 rfl) ?_
  refine lv_iadd hx hb dX6_leftIn_7 ?_
  obtain ⟨c1, hf⟩ := ix_elim hf
  refine z_iald C hz a_m_s c1 dX6_leftIn_8 ?_
  refine lv_if_eq (tgt := 39) hx hb dX6_leftIn_9 (by decide) (fun c2 => ?_) (fun c2 => ?_)
  · have hf := ite_t hf c2
    refine lv_aload_n hx hb dX6_leftIn_39 rfl (lv_at hl 0 rfl) ?_
    refine g_RX6_37_model C hz dX6_leftIn_40 ?_
    refine lv_iload_n hx hb dX6_leftIn_43 rfl (lv_at hl 1 rfl) ?_
    obtain ⟨c3, hf⟩ := ix_elim hf
    refine z_iald C hz a_m_words c3 dX6_leftIn_44 ?_
    refine lv_iload_n hx hb dX6_leftIn_45 rfl (lv_at hl 2 rfl) ?_
    refine lv_aload_n hx hb dX6_leftIn_46 rfl (lv_at hl 0 rfl) ?_
    refine g_RX6_28_model C hz dX6_leftIn_47 ?_
    refine lv_iload_n hx hb dX6_leftIn_50 rfl (lv_at hl 1 rfl) ?_
    obtain ⟨c4, hf⟩ := ix_elim hf
    refine z_iald C hz a_m_depth c4 dX6_leftIn_51 ?_
    refine lv_iconst (v := (1 : Int32)) hx hb dX6_leftIn_52 (by decide) ?_
    refine lv_iadd hx hb dX6_leftIn_53 ?_
    refine lv_imul hx hb dX6_leftIn_54 ?_
    refine lv_aload_n hx hb dX6_leftIn_55 rfl (lv_at hl 0 rfl) ?_
    refine g_RX6_13_model C hz dX6_leftIn_56 ?_
    refine lv_iconst (v := (2 : Int32)) hx hb dX6_leftIn_59 (by decide) ?_
    refine z_ialdL C hz a_m_many (vpl (n := 2) (by decide) (by decide)) (k := 2) (by decide) dX6_leftIn_60 ?_
    obtain ⟨c5, hf⟩ := nz_elim hf
    refine lv_idiv hx hb dX6_leftIn_61 c5 ?_
    refine lv_isub hx hb dX6_leftIn_62 ?_
    refine lv_aload_n hx hb dX6_leftIn_63 rfl (lv_at hl 0 rfl) ?_
    refine g_RX6_46_model C hz dX6_leftIn_64 ?_
    refine lv_bipush (v := (29 : Int32)) hx hb dX6_leftIn_67 (by decide) ?_
    refine lv_iload_n hx hb dX6_leftIn_69 rfl (lv_at hl 1 rfl) ?_
    refine lv_iadd hx hb dX6_leftIn_70 ?_
    obtain ⟨c6, hf⟩ := ix_elim hf
    refine z_iald C hz a_m_s c6 dX6_leftIn_71 ?_
    refine lv_isub hx hb dX6_leftIn_72 ?_
    obtain ⟨v7, ev7, hf⟩ := nx_elim hf
    refine z_nm ev7 ?_
    refine lv_istore_n (lv' := [(3, .int v7), (0, .ref (h 0)), (1, .int x1), (2, .int x2)]) hx hb dX6_leftIn_73 rfl hl (by decide) rfl (fun ls hl => ?_)
    refine lv_iload_n hx hb dX6_leftIn_74 rfl (lv_at hl 0 rfl) ?_
    refine lv_iconst (v := (1 : Int32)) hx hb dX6_leftIn_75 (by decide) ?_
    refine lv_icmp_ge (tgt := 83) hx hb dX6_leftIn_76 (by decide) (fun c8 => ?_) (fun c8 => ?_)
    · have hf := ite_t hf c8
      refine lv_iload_n hx hb dX6_leftIn_83 rfl (lv_at hl 0 rfl) ?_
      exact hR _ _ _ _ _ _ (Option.some.inj hf) hz dX6_leftIn_84
    · have hf := ite_f hf c8
      refine lv_iconst (v := (1 : Int32)) hx hb dX6_leftIn_79 (by decide) ?_
      refine lv_goto (tgt := 84) hx hb dX6_leftIn_80 (by decide) ?_
      exact hR _ _ _ _ _ _ (Option.some.inj hf) hz dX6_leftIn_84
  · have hf := ite_f hf c2
    refine lv_aload_n hx hb dX6_leftIn_12 rfl (lv_at hl 0 rfl) ?_
    refine g_RX6_46_model C hz dX6_leftIn_13 ?_
    refine lv_bipush (v := (13 : Int32)) hx hb dX6_leftIn_16 (by decide) ?_
    refine lv_iload_n hx hb dX6_leftIn_18 rfl (lv_at hl 1 rfl) ?_
    refine lv_iadd hx hb dX6_leftIn_19 ?_
    obtain ⟨c9, hf⟩ := ix_elim hf
    refine z_iald C hz a_m_s c9 dX6_leftIn_20 ?_
    refine lv_iconst (v := (3 : Int32)) hx hb dX6_leftIn_21 (by decide) ?_
    refine lv_icmp_ne (tgt := 29) hx hb dX6_leftIn_22 (by decide) (fun c10 => ?_) (fun c10 => ?_)
    · have hf := ite_f hf c10
      refine lv_aload_n hx hb dX6_leftIn_29 rfl (lv_at hl 0 rfl) ?_
      refine g_RX6_46_model C hz dX6_leftIn_30 ?_
      refine lv_bipush (v := (21 : Int32)) hx hb dX6_leftIn_33 (by decide) ?_
      refine lv_iload_n hx hb dX6_leftIn_35 rfl (lv_at hl 1 rfl) ?_
      refine lv_iadd hx hb dX6_leftIn_36 ?_
      obtain ⟨c11, hf⟩ := ix_elim hf
      refine z_iald C hz a_m_s c11 dX6_leftIn_37 ?_
      exact hR _ _ _ _ _ _ (Option.some.inj hf) hz dX6_leftIn_38
    · have hf := ite_t hf c10
      refine lv_iconst (v := (0 : Int32)) hx hb dX6_leftIn_25 (by decide) ?_
      refine lv_goto (tgt := 38) hx hb dX6_leftIn_26 (by decide) ?_
      exact hR _ _ _ _ _ _ (Option.some.inj hf) hz dX6_leftIn_38
set_option maxHeartbeats 4000000 in
set_option maxRecDepth 100000 in
theorem c6_leftIn {l : Launch} {D : va_G} {cI cZ cB : ClassId} {h : Nat → Nat} {x1 : Int32} {x2 : Int32} {g : Sg} {r : Int32} {g1 : Sg} (hf : f6_leftIn x1 x2 g = some (r, g1)) : KI l D (tyL cI cZ cB) (wM cI cZ h) yX6_leftIn cX6_leftIn 4 (some .int) rm6_leftIn [.ref (h 0), .int x1, .int x2] g r g1 := by
  refine KI_mk (own := RX6) (by decide +kernel) rfl (Nat.le_of_ble_eq_true rfl) ?_
  intro p e s m below meth c A Q ls C hR hz hl
  have hl : lv_has ls 4 [(0, .ref (h 0)), (1, .int x1), (2, .int x2)] := hl
  exact w6_leftIn_b0 C hR _ _ _ _ _ _ hf hz hl
abbrev rm6_leftNow : Room := { frames := 1, cells := 0, slots := 0, locals := 23 }
set_option maxHeartbeats 4000000 in
set_option maxRecDepth 100000 in
theorem w6_leftNow_b0 {res : Int32 × Sg} (C : Cx p m c cX6_leftNow 2 s args RX6 D (tyL cI cZ cB)) (hR : EndI p l e rm6_leftNow s m args below meth c Q D (wM cI cZ h) A cX6_leftNow res) : ∀ (x1 : Int32) (g : Sg) (H : Heap) (locs : List Loc) (ls : Array Slot), f6_leftNow x1 g = some res → Zs D (wM cI cZ h) A s.heap H locs g → lv_has ls 2 [(0, .ref (h 0)), (1, .int x1)] → W p l e rm6_leftNow s m args below meth c H locs 0 0 Q (F0 m 0 ls []) := by
  have hx := C.1.1
  have hb := C.1.2.1
  intro x1 g H locs ls hf hz hl
  unfold f6_leftNow at hf
  refine lv_aload_n hx hb dX6_leftNow_0 rfl (lv_at hl 0 rfl) ?_
  refine lv_iload_n hx hb dX6_leftNow_1 rfl (lv_at hl 1 rfl) ?_
  refine lv_aload_n hx hb dX6_leftNow_2 rfl (lv_at hl 0 rfl) ?_
  refine g_RX6_46_model C hz dX6_leftNow_3 ?_
  refine lv_iconst (v := (0 : Int32)) hx hb dX6_leftNow_6 (by decide) ?_
  refine z_ialdL C hz a_m_s (vpl (n := 0) (by decide) (by decide)) (k := 0) (by decide) dX6_leftNow_7 ?_
  obtain ⟨r3, g2, hc1, hf⟩ := bd2_elim hf
  refine z_VI (As := [.int x1, .int (g.1 21 0)]) (rest := []) C (c6_leftIn hc1) lk_RX6_145 ⟨rfl, rfl, Nat.le_of_ble_eq_true rfl, Nat.le_of_ble_eq_true rfl⟩ ⟨Nat.zero_le _, Nat.zero_le _⟩ o_model rfl rfl (Nat.le_of_ble_eq_true rfl) rfl hl.1 dX6_leftNow_8 hz (fun H locs hz => ?_)
  exact hR _ _ _ _ _ _ (Option.some.inj hf) hz dX6_leftNow_11
set_option maxHeartbeats 4000000 in
set_option maxRecDepth 100000 in
theorem c6_leftNow {l : Launch} {D : va_G} {cI cZ cB : ClassId} {h : Nat → Nat} {x1 : Int32} {g : Sg} {r : Int32} {g1 : Sg} (hf : f6_leftNow x1 g = some (r, g1)) : KI l D (tyL cI cZ cB) (wM cI cZ h) yX6_leftNow cX6_leftNow 2 (some .int) rm6_leftNow [.ref (h 0), .int x1] g r g1 := by
  refine KI_mk (own := RX6) (by decide +kernel) rfl (Nat.le_of_ble_eq_true rfl) ?_
  intro p e s m below meth c A Q ls C hR hz hl
  have hl : lv_has ls 2 [(0, .ref (h 0)), (1, .int x1)] := hl
  exact w6_leftNow_b0 C hR _ _ _ _ _ hf hz hl
abbrev rm6_person : Room := { frames := 1, cells := 0, slots := 0, locals := 22 }
set_option maxHeartbeats 4000000 in
set_option maxRecDepth 100000 in
theorem w6_person_b0 {res : Int32 × Sg} (C : Cx p m c cX6_person 3 s args RX6 D (tyL cI cZ cB)) (hR : EndI p l e rm6_person s m args below meth c Q D (wM cI cZ h) A cX6_person res) : ∀ (x1 : Int32) (x2 : Int32) (g : Sg) (H : Heap) (locs : List Loc) (ls : Array Slot), f6_person x1 x2 g = some res → Zs D (wM cI cZ h) A s.heap H locs g → lv_has ls 3 [(0, .ref (h 0)), (1, .int x1), (2, .int x2)] → W p l e rm6_person s m args below meth c H locs 0 0 Q (F0 m 0 ls []) := by
  have hx := C.1.1
  have hb := C.1.2.1
  intro x1 x2 g H locs ls hf hz hl
  unfold f6_person at hf
  refine lv_aload_n hx hb dX6_person_0 rfl (lv_at hl 0 rfl) ?_
  refine lv_iconst (v := (0 : Int32)) hx hb dX6_person_1 (by decide) ?_
  obtain ⟨g1, eg1, hf⟩ := nx_elim hf
  refine p_RX6_74_model C hz eg1 dX6_person_2 (fun H locs hz => ?_)
  refine lv_iload_n hx hb dX6_person_5 rfl (lv_at hl 1 rfl) ?_
  refine lv_iconst (v := (0 : Int32)) hx hb dX6_person_6 (by decide) ?_
  refine lv_aload_n hx hb dX6_person_7 rfl (lv_at hl 0 rfl) ?_
  refine g_RX6_13_model C hz dX6_person_8 ?_
  refine lv_iconst (v := (0 : Int32)) hx hb dX6_person_11 (by decide) ?_
  refine z_ialdL C hz a_m_many (vpl (n := 0) (by decide) (by decide)) (k := 0) (by decide) dX6_person_12 ?_
  refine lv_iconst (v := (1 : Int32)) hx hb dX6_person_13 (by decide) ?_
  refine lv_isub hx hb dX6_person_14 ?_
  obtain ⟨r4, g3, hc2, hf⟩ := bd2_elim hf
  refine z_SI (As := [.int x1, .int (0 : Int32), .int ((g1.1 9 0) - (1 : Int32))]) (rest := []) C (c6_in hc2) lk_RX6_78 ⟨rfl, rfl, Nat.le_of_ble_eq_true rfl, Nat.le_of_ble_eq_true rfl⟩ ⟨Nat.zero_le _, Nat.zero_le _⟩ rfl (Nat.le_of_ble_eq_true rfl) rfl hl.1 dX6_person_15 hz (fun H locs hz => ?_)
  refine lv_if_eq (tgt := 30) hx hb dX6_person_18 (by decide) (fun c5 => ?_) (fun c5 => ?_)
  · have hf := ite_t hf c5
    refine lv_iconst (v := (-1 : Int32)) hx hb dX6_person_30 (by decide) ?_
    exact hR _ _ _ _ _ _ (Option.some.inj hf) hz dX6_person_31
  · have hf := ite_f hf c5
    refine lv_iload_n hx hb dX6_person_21 rfl (lv_at hl 2 rfl) ?_
    refine lv_iconst (v := (0 : Int32)) hx hb dX6_person_22 (by decide) ?_
    refine lv_iconst (v := (1 : Int32)) hx hb dX6_person_23 (by decide) ?_
    obtain ⟨r8, g7, hc6, hf⟩ := bd2_elim hf
    refine z_SI (As := [.int x2, .int (0 : Int32), .int (1 : Int32)]) (rest := []) C (c6_in hc6) lk_RX6_78 ⟨rfl, rfl, Nat.le_of_ble_eq_true rfl, Nat.le_of_ble_eq_true rfl⟩ ⟨Nat.zero_le _, Nat.zero_le _⟩ rfl (Nat.le_of_ble_eq_true rfl) rfl hl.1 dX6_person_24 hz (fun H locs hz => ?_)
    refine lv_if_ne (tgt := 32) hx hb dX6_person_27 (by decide) (fun c9 => ?_) (fun c9 => ?_)
    · have hf := ite_f hf c9
      refine lv_iload_n hx hb dX6_person_32 rfl (lv_at hl 2 rfl) ?_
      refine lv_if_ne (tgt := 45) hx hb dX6_person_33 (by decide) (fun c10 => ?_) (fun c10 => ?_)
      · have hf := ite_f hf c10
        refine lv_aload_n hx hb dX6_person_45 rfl (lv_at hl 0 rfl) ?_
        refine g_RX6_19_model C hz dX6_person_46 ?_
        refine lv_iload_n hx hb dX6_person_49 rfl (lv_at hl 1 rfl) ?_
        obtain ⟨c11, hf⟩ := ix_elim hf
        refine z_iald C hz a_m_heir c11 dX6_person_50 ?_
        exact hR _ _ _ _ _ _ (Option.some.inj hf) hz dX6_person_51
      · have hf := ite_t hf c10
        refine lv_aload_n hx hb dX6_person_36 rfl (lv_at hl 0 rfl) ?_
        refine g_RX6_16_model C hz dX6_person_37 ?_
        refine lv_iload_n hx hb dX6_person_40 rfl (lv_at hl 1 rfl) ?_
        obtain ⟨c12, hf⟩ := ix_elim hf
        refine z_iald C hz a_m_dies c12 dX6_person_41 ?_
        refine lv_goto (tgt := 51) hx hb dX6_person_42 (by decide) ?_
        exact hR _ _ _ _ _ _ (Option.some.inj hf) hz dX6_person_51
    · have hf := ite_t hf c9
      refine lv_iconst (v := (-1 : Int32)) hx hb dX6_person_30 (by decide) ?_
      exact hR _ _ _ _ _ _ (Option.some.inj hf) hz dX6_person_31
set_option maxHeartbeats 4000000 in
set_option maxRecDepth 100000 in
theorem c6_person {l : Launch} {D : va_G} {cI cZ cB : ClassId} {h : Nat → Nat} {x1 : Int32} {x2 : Int32} {g : Sg} {r : Int32} {g1 : Sg} (hf : f6_person x1 x2 g = some (r, g1)) : KI l D (tyL cI cZ cB) (wM cI cZ h) yX6_person cX6_person 3 (some .int) rm6_person [.ref (h 0), .int x1, .int x2] g r g1 := by
  refine KI_mk (own := RX6) (by decide +kernel) rfl (Nat.le_of_ble_eq_true rfl) ?_
  intro p e s m below meth c A Q ls C hR hz hl
  have hl : lv_has ls 3 [(0, .ref (h 0)), (1, .int x1), (2, .int x2)] := hl
  exact w6_person_b0 C hR _ _ _ _ _ _ hf hz hl
abbrev rm6_promise : Room := { frames := 2, cells := 0, slots := 0, locals := 43 }
set_option maxHeartbeats 4000000 in
set_option maxRecDepth 100000 in
theorem w6_promise_b0 {res : Int32 × Sg} (C : Cx p m c cX6_promise 3 s args RX6 D (tyL cI cZ cB)) (hR : EndI p l e rm6_promise s m args below meth c Q D (wM cI cZ h) A cX6_promise res) : ∀ (x1 : Int32) (x2 : Int32) (g : Sg) (H : Heap) (locs : List Loc) (ls : Array Slot), f6_promise x1 x2 g = some res → Zs D (wM cI cZ h) A s.heap H locs g → lv_has ls 3 [(0, .ref (h 0)), (1, .int x1), (2, .int x2)] → W p l e rm6_promise s m args below meth c H locs 0 0 Q (F0 m 0 ls []) := by
  have hx := C.1.1
  have hb := C.1.2.1
  intro x1 x2 g H locs ls hf hz hl
  unfold f6_promise at hf
  refine lv_aload_n hx hb dX6_promise_0 rfl (lv_at hl 0 rfl) ?_
  refine lv_iconst (v := (0 : Int32)) hx hb dX6_promise_1 (by decide) ?_
  obtain ⟨g1, eg1, hf⟩ := nx_elim hf
  refine p_RX6_74_model C hz eg1 dX6_promise_2 (fun H locs hz => ?_)
  refine lv_aload_n hx hb dX6_promise_5 rfl (lv_at hl 0 rfl) ?_
  refine lv_iload_n hx hb dX6_promise_6 rfl (lv_at hl 1 rfl) ?_
  obtain ⟨r4, g3, hc2, hf⟩ := bd2_elim hf
  refine z_VI (As := [.int x1]) (rest := []) C (c6_isPromise hc2) lk_RX6_148 ⟨rfl, rfl, Nat.le_of_ble_eq_true rfl, Nat.le_of_ble_eq_true rfl⟩ ⟨Nat.zero_le _, Nat.zero_le _⟩ o_model rfl rfl (Nat.le_of_ble_eq_true rfl) rfl hl.1 dX6_promise_7 hz (fun H locs hz => ?_)
  refine lv_if_eq (tgt := 23) hx hb dX6_promise_10 (by decide) (fun c5 => ?_) (fun c5 => ?_)
  · have hf := ite_t hf c5
    refine lv_iconst (v := (-1 : Int32)) hx hb dX6_promise_23 (by decide) ?_
    exact hR _ _ _ _ _ _ (Option.some.inj hf) hz dX6_promise_24
  · have hf := ite_f hf c5
    refine lv_iload_n hx hb dX6_promise_13 rfl (lv_at hl 2 rfl) ?_
    refine lv_iconst (v := (0 : Int32)) hx hb dX6_promise_14 (by decide) ?_
    refine lv_bipush (v := (7 : Int32)) hx hb dX6_promise_15 (by decide) ?_
    obtain ⟨r8, g7, hc6, hf⟩ := bd2_elim hf
    refine z_SI (As := [.int x2, .int (0 : Int32), .int (7 : Int32)]) (rest := []) C (c6_in hc6) lk_RX6_78 ⟨rfl, rfl, Nat.le_of_ble_eq_true rfl, Nat.le_of_ble_eq_true rfl⟩ ⟨Nat.zero_le _, Nat.zero_le _⟩ rfl (Nat.le_of_ble_eq_true rfl) rfl hl.1 dX6_promise_17 hz (fun H locs hz => ?_)
    refine lv_if_ne (tgt := 25) hx hb dX6_promise_20 (by decide) (fun c9 => ?_) (fun c9 => ?_)
    · have hf := ite_f hf c9
      refine lv_iload_n hx hb dX6_promise_25 rfl (lv_at hl 2 rfl) ?_
      refine lv_iconst (v := (4 : Int32)) hx hb dX6_promise_26 (by decide) ?_
      refine lv_icmp_ge (tgt := 78) hx hb dX6_promise_27 (by decide) (fun c10 => ?_) (fun c10 => ?_)
      · have hf := ite_t hf c10
        refine lv_iload_n hx hb dX6_promise_78 rfl (lv_at hl 2 rfl) ?_
        refine lv_iconst (v := (4 : Int32)) hx hb dX6_promise_79 (by decide) ?_
        refine lv_icmp_ne (tgt := 92) hx hb dX6_promise_80 (by decide) (fun c11 => ?_) (fun c11 => ?_)
        · have hf := ite_f hf c11
          refine lv_iload_n hx hb dX6_promise_92 rfl (lv_at hl 2 rfl) ?_
          refine lv_iconst (v := (5 : Int32)) hx hb dX6_promise_93 (by decide) ?_
          refine lv_icmp_ne (tgt := 106) hx hb dX6_promise_94 (by decide) (fun c12 => ?_) (fun c12 => ?_)
          · have hf := ite_f hf c12
            refine lv_iload_n hx hb dX6_promise_106 rfl (lv_at hl 2 rfl) ?_
            refine lv_bipush (v := (6 : Int32)) hx hb dX6_promise_107 (by decide) ?_
            refine lv_icmp_ne (tgt := 121) hx hb dX6_promise_109 (by decide) (fun c13 => ?_) (fun c13 => ?_)
            · have hf := ite_f hf c13
              refine lv_aload_n hx hb dX6_promise_121 rfl (lv_at hl 0 rfl) ?_
              refine g_RX6_46_model C hz dX6_promise_122 ?_
              refine lv_bipush (v := (13 : Int32)) hx hb dX6_promise_125 (by decide) ?_
              refine lv_iload_n hx hb dX6_promise_127 rfl (lv_at hl 1 rfl) ?_
              refine lv_iadd hx hb dX6_promise_128 ?_
              obtain ⟨c14, hf⟩ := ix_elim hf
              refine z_iald C hz a_m_s c14 dX6_promise_129 ?_
              exact hR _ _ _ _ _ _ (Option.some.inj hf) hz dX6_promise_130
            · have hf := ite_t hf c13
              refine lv_aload_n hx hb dX6_promise_112 rfl (lv_at hl 0 rfl) ?_
              refine g_RX6_43_model C hz dX6_promise_113 ?_
              refine lv_iload_n hx hb dX6_promise_116 rfl (lv_at hl 1 rfl) ?_
              obtain ⟨c15, hf⟩ := ix_elim hf
              refine z_iald C hz a_m_clash c15 dX6_promise_117 ?_
              refine lv_goto (tgt := 130) hx hb dX6_promise_118 (by decide) ?_
              exact hR _ _ _ _ _ _ (Option.some.inj hf) hz dX6_promise_130
          · have hf := ite_t hf c12
            refine lv_aload_n hx hb dX6_promise_97 rfl (lv_at hl 0 rfl) ?_
            refine g_RX6_37_model C hz dX6_promise_98 ?_
            refine lv_iload_n hx hb dX6_promise_101 rfl (lv_at hl 1 rfl) ?_
            obtain ⟨c16, hf⟩ := ix_elim hf
            refine z_iald C hz a_m_words c16 dX6_promise_102 ?_
            refine lv_goto (tgt := 130) hx hb dX6_promise_103 (by decide) ?_
            exact hR _ _ _ _ _ _ (Option.some.inj hf) hz dX6_promise_130
        · have hf := ite_t hf c11
          refine lv_aload_n hx hb dX6_promise_83 rfl (lv_at hl 0 rfl) ?_
          refine g_RX6_34_model C hz dX6_promise_84 ?_
          refine lv_iload_n hx hb dX6_promise_87 rfl (lv_at hl 1 rfl) ?_
          obtain ⟨c17, hf⟩ := ix_elim hf
          refine z_iald C hz a_m_due c17 dX6_promise_88 ?_
          refine lv_goto (tgt := 130) hx hb dX6_promise_89 (by decide) ?_
          exact hR _ _ _ _ _ _ (Option.some.inj hf) hz dX6_promise_130
      · have hf := ite_f hf c10
        refine lv_iload_n hx hb dX6_promise_30 rfl (lv_at hl 2 rfl) ?_
        refine lv_if_ne (tgt := 43) hx hb dX6_promise_31 (by decide) (fun c18 => ?_) (fun c18 => ?_)
        · have hf := ite_f hf c18
          refine lv_iload_n hx hb dX6_promise_43 rfl (lv_at hl 2 rfl) ?_
          refine lv_iconst (v := (1 : Int32)) hx hb dX6_promise_44 (by decide) ?_
          refine lv_icmp_ne (tgt := 57) hx hb dX6_promise_45 (by decide) (fun c19 => ?_) (fun c19 => ?_)
          · have hf := ite_f hf c19
            refine lv_iload_n hx hb dX6_promise_57 rfl (lv_at hl 2 rfl) ?_
            refine lv_iconst (v := (2 : Int32)) hx hb dX6_promise_58 (by decide) ?_
            refine lv_icmp_ne (tgt := 71) hx hb dX6_promise_59 (by decide) (fun c20 => ?_) (fun c20 => ?_)
            · have hf := ite_f hf c20
              refine lv_aload_n hx hb dX6_promise_71 rfl (lv_at hl 0 rfl) ?_
              refine g_RX6_31_model C hz dX6_promise_72 ?_
              refine lv_iload_n hx hb dX6_promise_75 rfl (lv_at hl 1 rfl) ?_
              obtain ⟨c21, hf⟩ := ix_elim hf
              refine z_iald C hz a_m_span c21 dX6_promise_76 ?_
              exact hR _ _ _ _ _ _ (Option.some.inj hf) hz dX6_promise_77
            · have hf := ite_t hf c20
              refine lv_aload_n hx hb dX6_promise_62 rfl (lv_at hl 0 rfl) ?_
              refine g_RX6_28_model C hz dX6_promise_63 ?_
              refine lv_iload_n hx hb dX6_promise_66 rfl (lv_at hl 1 rfl) ?_
              obtain ⟨c22, hf⟩ := ix_elim hf
              refine z_iald C hz a_m_depth c22 dX6_promise_67 ?_
              refine lv_goto (tgt := 77) hx hb dX6_promise_68 (by decide) ?_
              exact hR _ _ _ _ _ _ (Option.some.inj hf) hz dX6_promise_77
          · have hf := ite_t hf c19
            refine lv_aload_n hx hb dX6_promise_48 rfl (lv_at hl 0 rfl) ?_
            refine g_RX6_25_model C hz dX6_promise_49 ?_
            refine lv_iload_n hx hb dX6_promise_52 rfl (lv_at hl 1 rfl) ?_
            obtain ⟨c23, hf⟩ := ix_elim hf
            refine z_iald C hz a_m_where c23 dX6_promise_53 ?_
            refine lv_goto (tgt := 77) hx hb dX6_promise_54 (by decide) ?_
            exact hR _ _ _ _ _ _ (Option.some.inj hf) hz dX6_promise_77
        · have hf := ite_t hf c18
          refine lv_aload_n hx hb dX6_promise_34 rfl (lv_at hl 0 rfl) ?_
          refine g_RX6_22_model C hz dX6_promise_35 ?_
          refine lv_iload_n hx hb dX6_promise_38 rfl (lv_at hl 1 rfl) ?_
          obtain ⟨c24, hf⟩ := ix_elim hf
          refine z_iald C hz a_m_who c24 dX6_promise_39 ?_
          refine lv_goto (tgt := 77) hx hb dX6_promise_40 (by decide) ?_
          exact hR _ _ _ _ _ _ (Option.some.inj hf) hz dX6_promise_77
    · have hf := ite_t hf c9
      refine lv_iconst (v := (-1 : Int32)) hx hb dX6_promise_23 (by decide) ?_
      exact hR _ _ _ _ _ _ (Option.some.inj hf) hz dX6_promise_24
set_option maxHeartbeats 4000000 in
set_option maxRecDepth 100000 in
theorem c6_promise {l : Launch} {D : va_G} {cI cZ cB : ClassId} {h : Nat → Nat} {x1 : Int32} {x2 : Int32} {g : Sg} {r : Int32} {g1 : Sg} (hf : f6_promise x1 x2 g = some (r, g1)) : KI l D (tyL cI cZ cB) (wM cI cZ h) yX6_promise cX6_promise 3 (some .int) rm6_promise [.ref (h 0), .int x1, .int x2] g r g1 := by
  refine KI_mk (own := RX6) (by decide +kernel) rfl (Nat.le_of_ble_eq_true rfl) ?_
  intro p e s m below meth c A Q ls C hR hz hl
  have hl : lv_has ls 3 [(0, .ref (h 0)), (1, .int x1), (2, .int x2)] := hl
  exact w6_promise_b0 C hR _ _ _ _ _ _ hf hz hl
abbrev rm6_word : Room := { frames := 2, cells := 0, slots := 0, locals := 44 }
set_option maxHeartbeats 4000000 in
set_option maxRecDepth 100000 in
theorem w6_word_b0 {res : Int32 × Sg} (C : Cx p m c cX6_word 3 s args RX6 D (tyL cI cZ cB)) (hR : EndI p l e rm6_word s m args below meth c Q D (wM cI cZ h) A cX6_word res) : ∀ (x1 : Int32) (x2 : Int32) (g : Sg) (H : Heap) (locs : List Loc) (ls : Array Slot), f6_word x1 x2 g = some res → Zs D (wM cI cZ h) A s.heap H locs g → lv_has ls 3 [(0, .ref (h 0)), (1, .int x1), (2, .int x2)] → W p l e rm6_word s m args below meth c H locs 0 0 Q (F0 m 0 ls []) := by
  have hx := C.1.1
  have hb := C.1.2.1
  intro x1 x2 g H locs ls hf hz hl
  unfold f6_word at hf
  refine lv_aload_n hx hb dX6_word_0 rfl (lv_at hl 0 rfl) ?_
  refine lv_iconst (v := (0 : Int32)) hx hb dX6_word_1 (by decide) ?_
  obtain ⟨g1, eg1, hf⟩ := nx_elim hf
  refine p_RX6_74_model C hz eg1 dX6_word_2 (fun H locs hz => ?_)
  refine lv_aload_n hx hb dX6_word_5 rfl (lv_at hl 0 rfl) ?_
  refine lv_iload_n hx hb dX6_word_6 rfl (lv_at hl 1 rfl) ?_
  obtain ⟨r4, g3, hc2, hf⟩ := bd2_elim hf
  refine z_VI (As := [.int x1]) (rest := []) C (c6_isPromise hc2) lk_RX6_148 ⟨rfl, rfl, Nat.le_of_ble_eq_true rfl, Nat.le_of_ble_eq_true rfl⟩ ⟨Nat.zero_le _, Nat.zero_le _⟩ o_model rfl rfl (Nat.le_of_ble_eq_true rfl) rfl hl.1 dX6_word_7 hz (fun H locs hz => ?_)
  refine lv_if_eq (tgt := 22) hx hb dX6_word_10 (by decide) (fun c5 => ?_) (fun c5 => ?_)
  · have hf := ite_t hf c5
    refine lv_iconst (v := (-1 : Int32)) hx hb dX6_word_22 (by decide) ?_
    exact hR _ _ _ _ _ _ (Option.some.inj hf) hz dX6_word_23
  · have hf := ite_f hf c5
    refine lv_iload_n hx hb dX6_word_13 rfl (lv_at hl 2 rfl) ?_
    refine lv_iconst (v := (0 : Int32)) hx hb dX6_word_14 (by decide) ?_
    refine lv_iconst (v := (3 : Int32)) hx hb dX6_word_15 (by decide) ?_
    obtain ⟨r8, g7, hc6, hf⟩ := bd2_elim hf
    refine z_SI (As := [.int x2, .int (0 : Int32), .int (3 : Int32)]) (rest := []) C (c6_in hc6) lk_RX6_78 ⟨rfl, rfl, Nat.le_of_ble_eq_true rfl, Nat.le_of_ble_eq_true rfl⟩ ⟨Nat.zero_le _, Nat.zero_le _⟩ rfl (Nat.le_of_ble_eq_true rfl) rfl hl.1 dX6_word_16 hz (fun H locs hz => ?_)
    refine lv_if_ne (tgt := 24) hx hb dX6_word_19 (by decide) (fun c9 => ?_) (fun c9 => ?_)
    · have hf := ite_f hf c9
      refine lv_iload_n hx hb dX6_word_24 rfl (lv_at hl 2 rfl) ?_
      refine lv_aload_n hx hb dX6_word_25 rfl (lv_at hl 0 rfl) ?_
      refine lv_iload_n hx hb dX6_word_26 rfl (lv_at hl 1 rfl) ?_
      obtain ⟨r12, g11, hc10, hf⟩ := bd2_elim hf
      refine z_VI (As := [.int x1]) (rest := [.int x2]) C (c6_leftNow hc10) lk_RX6_151 ⟨rfl, rfl, Nat.le_of_ble_eq_true rfl, Nat.le_of_ble_eq_true rfl⟩ ⟨Nat.zero_le _, Nat.zero_le _⟩ o_model rfl rfl (Nat.le_of_ble_eq_true rfl) rfl hl.1 dX6_word_27 hz (fun H locs hz => ?_)
      refine lv_icmp_ge (tgt := 46) hx hb dX6_word_30 (by decide) (fun c13 => ?_) (fun c13 => ?_)
      · have hf := ite_t hf c13
        refine lv_bipush (v := (-9 : Int32)) hx hb dX6_word_46 (by decide) ?_
        exact hR _ _ _ _ _ _ (Option.some.inj hf) hz dX6_word_48
      · have hf := ite_f hf c13
        refine lv_aload_n hx hb dX6_word_33 rfl (lv_at hl 0 rfl) ?_
        refine g_RX6_40_model C hz dX6_word_34 ?_
        refine lv_iconst (v := (4 : Int32)) hx hb dX6_word_37 (by decide) ?_
        refine lv_iload_n hx hb dX6_word_38 rfl (lv_at hl 1 rfl) ?_
        refine lv_imul hx hb dX6_word_39 ?_
        refine lv_iload_n hx hb dX6_word_40 rfl (lv_at hl 2 rfl) ?_
        refine lv_iadd hx hb dX6_word_41 ?_
        obtain ⟨c14, hf⟩ := ix_elim hf
        refine z_iald C hz a_m_wordOf c14 dX6_word_42 ?_
        refine lv_goto (tgt := 48) hx hb dX6_word_43 (by decide) ?_
        exact hR _ _ _ _ _ _ (Option.some.inj hf) hz dX6_word_48
    · have hf := ite_t hf c9
      refine lv_iconst (v := (-1 : Int32)) hx hb dX6_word_22 (by decide) ?_
      exact hR _ _ _ _ _ _ (Option.some.inj hf) hz dX6_word_23
set_option maxHeartbeats 4000000 in
set_option maxRecDepth 100000 in
theorem c6_word {l : Launch} {D : va_G} {cI cZ cB : ClassId} {h : Nat → Nat} {x1 : Int32} {x2 : Int32} {g : Sg} {r : Int32} {g1 : Sg} (hf : f6_word x1 x2 g = some (r, g1)) : KI l D (tyL cI cZ cB) (wM cI cZ h) yX6_word cX6_word 3 (some .int) rm6_word [.ref (h 0), .int x1, .int x2] g r g1 := by
  refine KI_mk (own := RX6) (by decide +kernel) rfl (Nat.le_of_ble_eq_true rfl) ?_
  intro p e s m below meth c A Q ls C hR hz hl
  have hl : lv_has ls 3 [(0, .ref (h 0)), (1, .int x1), (2, .int x2)] := hl
  exact w6_word_b0 C hR _ _ _ _ _ _ hf hz hl
abbrev rm6_slidesOf : Room := { frames := 0, cells := 0, slots := 0, locals := 0 }
set_option maxHeartbeats 4000000 in
set_option maxRecDepth 100000 in
theorem w6_slidesOf_b154 {res : Int32 × Sg} {k124 : Int32 → Int32 → Sg → Option (Int32 × Sg)} (C : Cx p m c cX6_slidesOf 4 s args RX6 D (tyL cI cZ cB)) (hR : EndI p l e rm6_slidesOf s m args below meth c Q D (wM cI cZ h) A cX6_slidesOf res) (hk124 : ∀ (x1 : Int32) (x2 : Int32) (g : Sg) (H : Heap) (locs : List Loc) (ls : Array Slot), k124 x1 x2 g = some res → Zs D (wM cI cZ h) A s.heap H locs g → lv_has ls 4 [(0, .ref (h 0)), (1, .int x1), (2, .int x2)] → W p l e rm6_slidesOf s m args below meth c H locs 0 0 Q (F0 m 124 ls [])) : ∀ (x1 : Int32) (x2 : Int32) (y0 : Int32) (y1 : Int32) (g : Sg) (H : Heap) (locs : List Loc) (ls : Array Slot), f6_slidesOf_b154 k124 x1 x2 y0 y1 g = some res → Zs D (wM cI cZ h) A s.heap H locs g → lv_has ls 4 [(0, .ref (h 0)), (1, .int x1), (2, .int x2)] → W p l e rm6_slidesOf s m args below meth c H locs 0 0 Q (F0 m 154 ls [.int y0, .int y1, .ref (h 28)]) := by
  have hx := C.1.1
  have hb := C.1.2.1
  intro x1 x2 y0 y1 g H locs ls hf hz hl
  unfold f6_slidesOf_b154 at hf
  obtain ⟨c1, hf⟩ := ix_elim hf
  obtain ⟨g2, eg2, hf⟩ := nx_elim hf
  refine z_iast C hz a_m_wet c1 eg2 dX6_slidesOf_154 (fun H locs hz => ?_)
  obtain ⟨v3, ev3, hf⟩ := nx_elim hf
  refine lv_iinc (v := v3) (lv' := [(2, .int v3), (0, .ref (h 0)), (1, .int x1)]) hx hb dX6_slidesOf_155 hl (k := 2) rfl (by rw [ev3]; rfl) (by decide) rfl (fun ls hl => ?_)
  refine lv_goto (tgt := 124) hx hb dX6_slidesOf_158 (by decide) ?_
  exact hk124 _ _ _ _ _ _ hf hz (lv_sub hl [1, 2, 0] rfl)
set_option maxHeartbeats 4000000 in
set_option maxRecDepth 100000 in
theorem w6_slidesOf_b124 {res : Int32 × Sg} (C : Cx p m c cX6_slidesOf 4 s args RX6 D (tyL cI cZ cB)) (hR : EndI p l e rm6_slidesOf s m args below meth c Q D (wM cI cZ h) A cX6_slidesOf res) : ∀ n : Nat, ∀ (x1 : Int32) (x2 : Int32) (g : Sg) (H : Heap) (locs : List Loc) (ls : Array Slot), f6_slidesOf_b124 n x1 x2 g = some res → Zs D (wM cI cZ h) A s.heap H locs g → lv_has ls 4 [(0, .ref (h 0)), (1, .int x1), (2, .int x2)] → W p l e rm6_slidesOf s m args below meth c H locs 0 0 Q (F0 m 124 ls []) := by
  have hx := C.1.1
  have hb := C.1.2.1
  intro n
  induction n with
  | zero =>
    intro x1 x2 g H locs ls hf hz hl
    cases hf
  | succ n ih =>
    intro x1 x2 g H locs ls hf hz hl
    rw [f6_slidesOf_b124] at hf
    refine lv_iload_n hx hb dX6_slidesOf_124 rfl (lv_at hl 2 rfl) ?_
    refine lv_bipush (v := (6 : Int32)) hx hb dX6_slidesOf_125 (by decide) ?_
    refine lv_icmp_ge (tgt := 161) hx hb dX6_slidesOf_127 (by decide) (fun c4 => ?_) (fun c4 => ?_)
    · have hf := ite_t hf c4
      refine lv_iload_n hx hb dX6_slidesOf_161 rfl (lv_at hl 1 rfl) ?_
      exact hR _ _ _ _ _ _ (Option.some.inj hf) hz dX6_slidesOf_162
    · have hf := ite_f hf c4
      refine lv_aload_n hx hb dX6_slidesOf_130 rfl (lv_at hl 0 rfl) ?_
      refine g_RX6_62_model C hz dX6_slidesOf_131 ?_
      refine lv_iload_n hx hb dX6_slidesOf_134 rfl (lv_at hl 2 rfl) ?_
      refine lv_iload_n hx hb dX6_slidesOf_135 rfl (lv_at hl 1 rfl) ?_
      refine lv_iload_n hx hb dX6_slidesOf_136 rfl (lv_at hl 2 rfl) ?_
      refine lv_ishr hx hb dX6_slidesOf_137 ?_
      refine lv_iconst (v := (1 : Int32)) hx hb dX6_slidesOf_138 (by decide) ?_
      refine lv_iand hx hb dX6_slidesOf_139 ?_
      refine lv_iconst (v := (1 : Int32)) hx hb dX6_slidesOf_140 (by decide) ?_
      refine lv_icmp_ne (tgt := 148) hx hb dX6_slidesOf_141 (by decide) (fun c5 => ?_) (fun c5 => ?_)
      · have hf := ite_f hf c5
        refine lv_aload_n hx hb dX6_slidesOf_148 rfl (lv_at hl 0 rfl) ?_
        refine g_RX6_62_model C hz dX6_slidesOf_149 ?_
        refine lv_iload_n hx hb dX6_slidesOf_152 rfl (lv_at hl 2 rfl) ?_
        obtain ⟨c6, hf⟩ := ix_elim hf
        refine z_iald C hz a_m_wet c6 dX6_slidesOf_153 ?_
        exact w6_slidesOf_b154 C hR ih _ _ _ _ _ _ _ _ hf hz (lv_sub hl [0, 1, 2] rfl)
      · have hf := ite_t hf c5
        refine lv_iconst (v := (0 : Int32)) hx hb dX6_slidesOf_144 (by decide) ?_
        refine lv_goto (tgt := 154) hx hb dX6_slidesOf_145 (by decide) ?_
        exact w6_slidesOf_b154 C hR ih _ _ _ _ _ _ _ _ hf hz (lv_sub hl [0, 1, 2] rfl)
set_option maxHeartbeats 4000000 in
set_option maxRecDepth 100000 in
theorem w6_slidesOf_b114 {res : Int32 × Sg} {k48 : Int32 → Int32 → Sg → Option (Int32 × Sg)} (C : Cx p m c cX6_slidesOf 4 s args RX6 D (tyL cI cZ cB)) (hR : EndI p l e rm6_slidesOf s m args below meth c Q D (wM cI cZ h) A cX6_slidesOf res) (hk48 : ∀ (x1 : Int32) (x2 : Int32) (g : Sg) (H : Heap) (locs : List Loc) (ls : Array Slot), k48 x1 x2 g = some res → Zs D (wM cI cZ h) A s.heap H locs g → lv_has ls 4 [(0, .ref (h 0)), (1, .int x1), (2, .int x2)] → W p l e rm6_slidesOf s m args below meth c H locs 0 0 Q (F0 m 48 ls [])) : ∀ (x2 : Int32) (y0 : Int32) (y1 : Int32) (g : Sg) (H : Heap) (locs : List Loc) (ls : Array Slot), f6_slidesOf_b114 k48 x2 y0 y1 g = some res → Zs D (wM cI cZ h) A s.heap H locs g → lv_has ls 4 [(0, .ref (h 0)), (2, .int x2)] → W p l e rm6_slidesOf s m args below meth c H locs 0 0 Q (F0 m 114 ls [.int y0, .int y1]) := by
  have hx := C.1.1
  have hb := C.1.2.1
  intro x2 y0 y1 g H locs ls hf hz hl
  unfold f6_slidesOf_b114 at hf
  refine lv_ior hx hb dX6_slidesOf_114 ?_
  obtain ⟨v7, ev7, hf⟩ := nx_elim hf
  refine z_nm ev7 ?_
  refine lv_istore_n (lv' := [(1, .int v7), (0, .ref (h 0)), (2, .int x2)]) hx hb dX6_slidesOf_115 rfl hl (by decide) rfl (fun ls hl => ?_)
  obtain ⟨v8, ev8, hf⟩ := nx_elim hf
  refine lv_iinc (v := v8) (lv' := [(2, .int v8), (1, .int v7), (0, .ref (h 0))]) hx hb dX6_slidesOf_116 hl (k := 2) rfl (by rw [ev8]; rfl) (by decide) rfl (fun ls hl => ?_)
  refine lv_goto (tgt := 48) hx hb dX6_slidesOf_119 (by decide) ?_
  exact hk48 _ _ _ _ _ _ hf hz (lv_sub hl [2, 1, 0] rfl)
set_option maxHeartbeats 4000000 in
set_option maxRecDepth 100000 in
theorem w6_slidesOf_b94 {res : Int32 × Sg} {k48 : Int32 → Int32 → Sg → Option (Int32 × Sg)} (C : Cx p m c cX6_slidesOf 4 s args RX6 D (tyL cI cZ cB)) (hR : EndI p l e rm6_slidesOf s m args below meth c Q D (wM cI cZ h) A cX6_slidesOf res) (hk48 : ∀ (x1 : Int32) (x2 : Int32) (g : Sg) (H : Heap) (locs : List Loc) (ls : Array Slot), k48 x1 x2 g = some res → Zs D (wM cI cZ h) A s.heap H locs g → lv_has ls 4 [(0, .ref (h 0)), (1, .int x1), (2, .int x2)] → W p l e rm6_slidesOf s m args below meth c H locs 0 0 Q (F0 m 48 ls [])) : ∀ (x1 : Int32) (x2 : Int32) (y0 : Int32) (y1 : Int32) (g : Sg) (H : Heap) (locs : List Loc) (ls : Array Slot), f6_slidesOf_b94 k48 x1 x2 y0 y1 g = some res → Zs D (wM cI cZ h) A s.heap H locs g → lv_has ls 4 [(0, .ref (h 0)), (1, .int x1), (2, .int x2)] → W p l e rm6_slidesOf s m args below meth c H locs 0 0 Q (F0 m 94 ls [.int y0, .int y1]) := by
  have hx := C.1.1
  have hb := C.1.2.1
  intro x1 x2 y0 y1 g H locs ls hf hz hl
  unfold f6_slidesOf_b94 at hf
  refine lv_iadd hx hb dX6_slidesOf_94 ?_
  obtain ⟨v9, ev9, hf⟩ := nx_elim hf
  refine z_nm ev9 ?_
  refine lv_istore_n (lv' := [(3, .int v9), (0, .ref (h 0)), (1, .int x1), (2, .int x2)]) hx hb dX6_slidesOf_95 rfl hl (by decide) rfl (fun ls hl => ?_)
  refine lv_iload_n hx hb dX6_slidesOf_96 rfl (lv_at hl 2 rfl) ?_
  refine lv_iload_n hx hb dX6_slidesOf_97 rfl (lv_at hl 0 rfl) ?_
  refine lv_aload_n hx hb dX6_slidesOf_98 rfl (lv_at hl 1 rfl) ?_
  refine g_RX6_13_model C hz dX6_slidesOf_99 ?_
  refine lv_iconst (v := (3 : Int32)) hx hb dX6_slidesOf_102 (by decide) ?_
  refine z_ialdL C hz a_m_many (vpl (n := 3) (by decide) (by decide)) (k := 3) (by decide) dX6_slidesOf_103 ?_
  refine lv_icmp_lt (tgt := 113) hx hb dX6_slidesOf_104 (by decide) (fun c10 => ?_) (fun c10 => ?_)
  · have hf := ite_t hf c10
    refine lv_iconst (v := (0 : Int32)) hx hb dX6_slidesOf_113 (by decide) ?_
    exact w6_slidesOf_b114 C hR hk48 _ _ _ _ _ _ _ hf hz (lv_sub hl [1, 3] rfl)
  · have hf := ite_f hf c10
    refine lv_iconst (v := (1 : Int32)) hx hb dX6_slidesOf_107 (by decide) ?_
    refine lv_iload_n hx hb dX6_slidesOf_108 rfl (lv_at hl 3 rfl) ?_
    refine lv_ishl hx hb dX6_slidesOf_109 ?_
    refine lv_goto (tgt := 114) hx hb dX6_slidesOf_110 (by decide) ?_
    exact w6_slidesOf_b114 C hR hk48 _ _ _ _ _ _ _ hf hz (lv_sub hl [1, 3] rfl)
set_option maxHeartbeats 4000000 in
set_option maxRecDepth 100000 in
theorem w6_slidesOf_b76 {res : Int32 × Sg} {k48 : Int32 → Int32 → Sg → Option (Int32 × Sg)} (C : Cx p m c cX6_slidesOf 4 s args RX6 D (tyL cI cZ cB)) (hR : EndI p l e rm6_slidesOf s m args below meth c Q D (wM cI cZ h) A cX6_slidesOf res) (hk48 : ∀ (x1 : Int32) (x2 : Int32) (g : Sg) (H : Heap) (locs : List Loc) (ls : Array Slot), k48 x1 x2 g = some res → Zs D (wM cI cZ h) A s.heap H locs g → lv_has ls 4 [(0, .ref (h 0)), (1, .int x1), (2, .int x2)] → W p l e rm6_slidesOf s m args below meth c H locs 0 0 Q (F0 m 48 ls [])) : ∀ (x1 : Int32) (x2 : Int32) (y0 : Int32) (y1 : Int32) (g : Sg) (H : Heap) (locs : List Loc) (ls : Array Slot), f6_slidesOf_b76 k48 x1 x2 y0 y1 g = some res → Zs D (wM cI cZ h) A s.heap H locs g → lv_has ls 4 [(0, .ref (h 0)), (1, .int x1), (2, .int x2)] → W p l e rm6_slidesOf s m args below meth c H locs 0 0 Q (F0 m 76 ls [.int y0, .int y1]) := by
  have hx := C.1.1
  have hb := C.1.2.1
  intro x1 x2 y0 y1 g H locs ls hf hz hl
  unfold f6_slidesOf_b76 at hf
  refine lv_iadd hx hb dX6_slidesOf_76 ?_
  refine lv_iload_n hx hb dX6_slidesOf_77 rfl (lv_at hl 2 rfl) ?_
  refine lv_iconst (v := (5 : Int32)) hx hb dX6_slidesOf_78 (by decide) ?_
  refine lv_icmp_ge (tgt := 93) hx hb dX6_slidesOf_79 (by decide) (fun c11 => ?_) (fun c11 => ?_)
  · have hf := ite_t hf c11
    refine lv_iconst (v := (0 : Int32)) hx hb dX6_slidesOf_93 (by decide) ?_
    exact w6_slidesOf_b94 C hR hk48 _ _ _ _ _ _ _ _ hf hz (lv_sub hl [0, 1, 2] rfl)
  · have hf := ite_f hf c11
    refine lv_aload_n hx hb dX6_slidesOf_82 rfl (lv_at hl 0 rfl) ?_
    refine g_RX6_62_model C hz dX6_slidesOf_83 ?_
    refine lv_iload_n hx hb dX6_slidesOf_86 rfl (lv_at hl 2 rfl) ?_
    refine lv_iconst (v := (1 : Int32)) hx hb dX6_slidesOf_87 (by decide) ?_
    refine lv_iadd hx hb dX6_slidesOf_88 ?_
    obtain ⟨c12, hf⟩ := ix_elim hf
    refine z_iald C hz a_m_wet c12 dX6_slidesOf_89 ?_
    refine lv_goto (tgt := 94) hx hb dX6_slidesOf_90 (by decide) ?_
    exact w6_slidesOf_b94 C hR hk48 _ _ _ _ _ _ _ _ hf hz (lv_sub hl [0, 1, 2] rfl)
set_option maxHeartbeats 4000000 in
set_option maxRecDepth 100000 in
theorem w6_slidesOf_b48 {res : Int32 × Sg} (C : Cx p m c cX6_slidesOf 4 s args RX6 D (tyL cI cZ cB)) (hR : EndI p l e rm6_slidesOf s m args below meth c Q D (wM cI cZ h) A cX6_slidesOf res) : ∀ n : Nat, ∀ (x1 : Int32) (x2 : Int32) (g : Sg) (H : Heap) (locs : List Loc) (ls : Array Slot), f6_slidesOf_b48 n x1 x2 g = some res → Zs D (wM cI cZ h) A s.heap H locs g → lv_has ls 4 [(0, .ref (h 0)), (1, .int x1), (2, .int x2)] → W p l e rm6_slidesOf s m args below meth c H locs 0 0 Q (F0 m 48 ls []) := by
  have hx := C.1.1
  have hb := C.1.2.1
  intro n
  induction n with
  | zero =>
    intro x1 x2 g H locs ls hf hz hl
    cases hf
  | succ n ih =>
    intro x1 x2 g H locs ls hf hz hl
    rw [f6_slidesOf_b48] at hf
    refine lv_iload_n hx hb dX6_slidesOf_48 rfl (lv_at hl 2 rfl) ?_
    refine lv_bipush (v := (6 : Int32)) hx hb dX6_slidesOf_49 (by decide) ?_
    refine lv_icmp_ge (tgt := 122) hx hb dX6_slidesOf_51 (by decide) (fun c13 => ?_) (fun c13 => ?_)
    · have hf := ite_t hf c13
      refine lv_iconst (v := (0 : Int32)) hx hb dX6_slidesOf_122 (by decide) ?_
      refine lv_istore_n (lv' := [(2, .int (0 : Int32)), (0, .ref (h 0)), (1, .int x1)]) hx hb dX6_slidesOf_123 rfl hl (by decide) rfl (fun ls hl => ?_)
      exact w6_slidesOf_b124 C hR 1000 _ _ _ _ _ _ hf hz (lv_sub hl [1, 2, 0] rfl)
    · have hf := ite_f hf c13
      refine lv_aload_n hx hb dX6_slidesOf_54 rfl (lv_at hl 0 rfl) ?_
      refine g_RX6_62_model C hz dX6_slidesOf_55 ?_
      refine lv_iload_n hx hb dX6_slidesOf_58 rfl (lv_at hl 2 rfl) ?_
      obtain ⟨c14, hf⟩ := ix_elim hf
      refine z_iald C hz a_m_wet c14 dX6_slidesOf_59 ?_
      refine lv_iload_n hx hb dX6_slidesOf_60 rfl (lv_at hl 2 rfl) ?_
      refine lv_if_le (tgt := 75) hx hb dX6_slidesOf_61 (by decide) (fun c15 => ?_) (fun c15 => ?_)
      · have hf := ite_t hf c15
        refine lv_iconst (v := (0 : Int32)) hx hb dX6_slidesOf_75 (by decide) ?_
        exact w6_slidesOf_b76 C hR ih _ _ _ _ _ _ _ _ hf hz (lv_sub hl [0, 1, 2] rfl)
      · have hf := ite_f hf c15
        refine lv_aload_n hx hb dX6_slidesOf_64 rfl (lv_at hl 0 rfl) ?_
        refine g_RX6_62_model C hz dX6_slidesOf_65 ?_
        refine lv_iload_n hx hb dX6_slidesOf_68 rfl (lv_at hl 2 rfl) ?_
        refine lv_iconst (v := (1 : Int32)) hx hb dX6_slidesOf_69 (by decide) ?_
        refine lv_isub hx hb dX6_slidesOf_70 ?_
        obtain ⟨c16, hf⟩ := ix_elim hf
        refine z_iald C hz a_m_wet c16 dX6_slidesOf_71 ?_
        refine lv_goto (tgt := 76) hx hb dX6_slidesOf_72 (by decide) ?_
        exact w6_slidesOf_b76 C hR ih _ _ _ _ _ _ _ _ hf hz (lv_sub hl [0, 1, 2] rfl)
set_option maxHeartbeats 4000000 in
set_option maxRecDepth 100000 in
theorem w6_slidesOf_b39 {res : Int32 × Sg} {k4 : Int32 → Int32 → Sg → Option (Int32 × Sg)} (C : Cx p m c cX6_slidesOf 4 s args RX6 D (tyL cI cZ cB)) (hR : EndI p l e rm6_slidesOf s m args below meth c Q D (wM cI cZ h) A cX6_slidesOf res) (hk4 : ∀ (x1 : Int32) (x2 : Int32) (g : Sg) (H : Heap) (locs : List Loc) (ls : Array Slot), k4 x1 x2 g = some res → Zs D (wM cI cZ h) A s.heap H locs g → lv_has ls 4 [(0, .ref (h 0)), (1, .int x1), (2, .int x2)] → W p l e rm6_slidesOf s m args below meth c H locs 0 0 Q (F0 m 4 ls [])) : ∀ (x1 : Int32) (x2 : Int32) (y0 : Int32) (y1 : Int32) (g : Sg) (H : Heap) (locs : List Loc) (ls : Array Slot), f6_slidesOf_b39 k4 x1 x2 y0 y1 g = some res → Zs D (wM cI cZ h) A s.heap H locs g → lv_has ls 4 [(0, .ref (h 0)), (1, .int x1), (2, .int x2)] → W p l e rm6_slidesOf s m args below meth c H locs 0 0 Q (F0 m 39 ls [.int y0, .int y1, .ref (h 28)]) := by
  have hx := C.1.1
  have hb := C.1.2.1
  intro x1 x2 y0 y1 g H locs ls hf hz hl
  unfold f6_slidesOf_b39 at hf
  obtain ⟨c17, hf⟩ := ix_elim hf
  obtain ⟨g18, eg18, hf⟩ := nx_elim hf
  refine z_iast C hz a_m_wet c17 eg18 dX6_slidesOf_39 (fun H locs hz => ?_)
  obtain ⟨v19, ev19, hf⟩ := nx_elim hf
  refine lv_iinc (v := v19) (lv' := [(2, .int v19), (0, .ref (h 0)), (1, .int x1)]) hx hb dX6_slidesOf_40 hl (k := 2) rfl (by rw [ev19]; rfl) (by decide) rfl (fun ls hl => ?_)
  refine lv_goto (tgt := 4) hx hb dX6_slidesOf_43 (by decide) ?_
  exact hk4 _ _ _ _ _ _ hf hz (lv_sub hl [1, 2, 0] rfl)
set_option maxHeartbeats 4000000 in
set_option maxRecDepth 100000 in
theorem w6_slidesOf_b4 {res : Int32 × Sg} (C : Cx p m c cX6_slidesOf 4 s args RX6 D (tyL cI cZ cB)) (hR : EndI p l e rm6_slidesOf s m args below meth c Q D (wM cI cZ h) A cX6_slidesOf res) : ∀ n : Nat, ∀ (x1 : Int32) (x2 : Int32) (g : Sg) (H : Heap) (locs : List Loc) (ls : Array Slot), f6_slidesOf_b4 n x1 x2 g = some res → Zs D (wM cI cZ h) A s.heap H locs g → lv_has ls 4 [(0, .ref (h 0)), (1, .int x1), (2, .int x2)] → W p l e rm6_slidesOf s m args below meth c H locs 0 0 Q (F0 m 4 ls []) := by
  have hx := C.1.1
  have hb := C.1.2.1
  intro n
  induction n with
  | zero =>
    intro x1 x2 g H locs ls hf hz hl
    cases hf
  | succ n ih =>
    intro x1 x2 g H locs ls hf hz hl
    rw [f6_slidesOf_b4] at hf
    refine lv_iload_n hx hb dX6_slidesOf_4 rfl (lv_at hl 2 rfl) ?_
    refine lv_bipush (v := (6 : Int32)) hx hb dX6_slidesOf_5 (by decide) ?_
    refine lv_icmp_ge (tgt := 46) hx hb dX6_slidesOf_7 (by decide) (fun c20 => ?_) (fun c20 => ?_)
    · have hf := ite_t hf c20
      refine lv_iconst (v := (0 : Int32)) hx hb dX6_slidesOf_46 (by decide) ?_
      refine lv_istore_n (lv' := [(2, .int (0 : Int32)), (0, .ref (h 0)), (1, .int x1)]) hx hb dX6_slidesOf_47 rfl hl (by decide) rfl (fun ls hl => ?_)
      exact w6_slidesOf_b48 C hR 1000 _ _ _ _ _ _ hf hz (lv_sub hl [1, 2, 0] rfl)
    · have hf := ite_f hf c20
      refine lv_aload_n hx hb dX6_slidesOf_10 rfl (lv_at hl 0 rfl) ?_
      refine g_RX6_62_model C hz dX6_slidesOf_11 ?_
      refine lv_iload_n hx hb dX6_slidesOf_14 rfl (lv_at hl 2 rfl) ?_
      refine lv_aload_n hx hb dX6_slidesOf_15 rfl (lv_at hl 0 rfl) ?_
      refine g_RX6_62_model C hz dX6_slidesOf_16 ?_
      refine lv_iload_n hx hb dX6_slidesOf_19 rfl (lv_at hl 2 rfl) ?_
      obtain ⟨c21, hf⟩ := ix_elim hf
      refine z_iald C hz a_m_wet c21 dX6_slidesOf_20 ?_
      refine lv_bipush (v := (9 : Int32)) hx hb dX6_slidesOf_21 (by decide) ?_
      refine lv_icmp_ge (tgt := 37) hx hb dX6_slidesOf_23 (by decide) (fun c22 => ?_) (fun c22 => ?_)
      · have hf := ite_t hf c22
        refine lv_bipush (v := (9 : Int32)) hx hb dX6_slidesOf_37 (by decide) ?_
        exact w6_slidesOf_b39 C hR ih _ _ _ _ _ _ _ _ hf hz (lv_sub hl [0, 1, 2] rfl)
      · have hf := ite_f hf c22
        refine lv_aload_n hx hb dX6_slidesOf_26 rfl (lv_at hl 0 rfl) ?_
        refine g_RX6_62_model C hz dX6_slidesOf_27 ?_
        refine lv_iload_n hx hb dX6_slidesOf_30 rfl (lv_at hl 2 rfl) ?_
        obtain ⟨c23, hf⟩ := ix_elim hf
        refine z_iald C hz a_m_wet c23 dX6_slidesOf_31 ?_
        refine lv_iconst (v := (1 : Int32)) hx hb dX6_slidesOf_32 (by decide) ?_
        refine lv_iadd hx hb dX6_slidesOf_33 ?_
        refine lv_goto (tgt := 39) hx hb dX6_slidesOf_34 (by decide) ?_
        exact w6_slidesOf_b39 C hR ih _ _ _ _ _ _ _ _ hf hz (lv_sub hl [0, 1, 2] rfl)
set_option maxHeartbeats 4000000 in
set_option maxRecDepth 100000 in
theorem w6_slidesOf_b0 {res : Int32 × Sg} (C : Cx p m c cX6_slidesOf 4 s args RX6 D (tyL cI cZ cB)) (hR : EndI p l e rm6_slidesOf s m args below meth c Q D (wM cI cZ h) A cX6_slidesOf res) : ∀ (g : Sg) (H : Heap) (locs : List Loc) (ls : Array Slot), f6_slidesOf g = some res → Zs D (wM cI cZ h) A s.heap H locs g → lv_has ls 4 [(0, .ref (h 0))] → W p l e rm6_slidesOf s m args below meth c H locs 0 0 Q (F0 m 0 ls []) := by
  have hx := C.1.1
  have hb := C.1.2.1
  intro g H locs ls hf hz hl
  unfold f6_slidesOf at hf
  refine lv_iconst (v := (0 : Int32)) hx hb dX6_slidesOf_0 (by decide) ?_
  refine lv_istore_n (lv' := [(1, .int (0 : Int32)), (0, .ref (h 0))]) hx hb dX6_slidesOf_1 rfl hl (by decide) rfl (fun ls hl => ?_)
  refine lv_iconst (v := (0 : Int32)) hx hb dX6_slidesOf_2 (by decide) ?_
  refine lv_istore_n (lv' := [(2, .int (0 : Int32)), (1, .int (0 : Int32)), (0, .ref (h 0))]) hx hb dX6_slidesOf_3 rfl hl (by decide) rfl (fun ls hl => ?_)
  exact w6_slidesOf_b4 C hR 1000 _ _ _ _ _ _ hf hz (lv_sub hl [2, 1, 0] rfl)
set_option maxHeartbeats 4000000 in
set_option maxRecDepth 100000 in
theorem c6_slidesOf {l : Launch} {D : va_G} {cI cZ cB : ClassId} {h : Nat → Nat} {g : Sg} {r : Int32} {g1 : Sg} (hf : f6_slidesOf g = some (r, g1)) : KI l D (tyL cI cZ cB) (wM cI cZ h) yX6_slidesOf cX6_slidesOf 4 (some .int) rm6_slidesOf [.ref (h 0)] g r g1 := by
  refine KI_mk (own := RX6) (by decide +kernel) rfl (Nat.le_of_ble_eq_true rfl) ?_
  intro p e s m below meth c A Q ls C hR hz hl
  have hl : lv_has ls 4 [(0, .ref (h 0))] := hl
  exact w6_slidesOf_b0 C hR _ _ _ _ hf hz hl
abbrev rm6_wetNow : Room := { frames := 0, cells := 0, slots := 0, locals := 0 }
set_option maxHeartbeats 4000000 in
set_option maxRecDepth 100000 in
theorem w6_wetNow_b2 {res : Sg} (C : Cx p m c cX6_wetNow 2 s args RX6 D (tyL cI cZ cB)) (hR : EndV p l e rm6_wetNow s m args below meth c Q D (wM cI cZ h) A cX6_wetNow res) : ∀ n : Nat, ∀ (x1 : Int32) (g : Sg) (H : Heap) (locs : List Loc) (ls : Array Slot), f6_wetNow_b2 n x1 g = some res → Zs D (wM cI cZ h) A s.heap H locs g → lv_has ls 2 [(0, .ref (h 0)), (1, .int x1)] → W p l e rm6_wetNow s m args below meth c H locs 0 0 Q (F0 m 2 ls []) := by
  have hx := C.1.1
  have hb := C.1.2.1
  intro n
  induction n with
  | zero =>
    intro x1 g H locs ls hf hz hl
    cases hf
  | succ n ih =>
    intro x1 g H locs ls hf hz hl
    rw [f6_wetNow_b2] at hf
    refine lv_iload_n hx hb dX6_wetNow_2 rfl (lv_at hl 1 rfl) ?_
    refine lv_bipush (v := (6 : Int32)) hx hb dX6_wetNow_3 (by decide) ?_
    refine lv_icmp_ge (tgt := 29) hx hb dX6_wetNow_5 (by decide) (fun c1 => ?_) (fun c1 => ?_)
    · have hf := ite_t hf c1
      exact hR _ _ _ _ _ (Option.some.inj hf) hz dX6_wetNow_29
    · have hf := ite_f hf c1
      refine lv_aload_n hx hb dX6_wetNow_8 rfl (lv_at hl 0 rfl) ?_
      refine g_RX6_62_model C hz dX6_wetNow_9 ?_
      refine lv_iload_n hx hb dX6_wetNow_12 rfl (lv_at hl 1 rfl) ?_
      refine lv_aload_n hx hb dX6_wetNow_13 rfl (lv_at hl 0 rfl) ?_
      refine g_RX6_46_model C hz dX6_wetNow_14 ?_
      refine lv_bipush (v := (7 : Int32)) hx hb dX6_wetNow_17 (by decide) ?_
      refine lv_iload_n hx hb dX6_wetNow_19 rfl (lv_at hl 1 rfl) ?_
      refine lv_iadd hx hb dX6_wetNow_20 ?_
      obtain ⟨c2, hf⟩ := ix_elim hf
      refine z_iald C hz a_m_s c2 dX6_wetNow_21 ?_
      obtain ⟨c3, hf⟩ := ix_elim hf
      obtain ⟨g4, eg4, hf⟩ := nx_elim hf
      refine z_iast C hz a_m_wet c3 eg4 dX6_wetNow_22 (fun H locs hz => ?_)
      obtain ⟨v5, ev5, hf⟩ := nx_elim hf
      refine lv_iinc (v := v5) (lv' := [(1, .int v5), (0, .ref (h 0))]) hx hb dX6_wetNow_23 hl (k := 1) rfl (by rw [ev5]; rfl) (by decide) rfl (fun ls hl => ?_)
      refine lv_goto (tgt := 2) hx hb dX6_wetNow_26 (by decide) ?_
      exact ih _ _ _ _ _ hf hz (lv_sub hl [1, 0] rfl)
set_option maxHeartbeats 4000000 in
set_option maxRecDepth 100000 in
theorem w6_wetNow_b0 {res : Sg} (C : Cx p m c cX6_wetNow 2 s args RX6 D (tyL cI cZ cB)) (hR : EndV p l e rm6_wetNow s m args below meth c Q D (wM cI cZ h) A cX6_wetNow res) : ∀ (g : Sg) (H : Heap) (locs : List Loc) (ls : Array Slot), f6_wetNow g = some res → Zs D (wM cI cZ h) A s.heap H locs g → lv_has ls 2 [(0, .ref (h 0))] → W p l e rm6_wetNow s m args below meth c H locs 0 0 Q (F0 m 0 ls []) := by
  have hx := C.1.1
  have hb := C.1.2.1
  intro g H locs ls hf hz hl
  unfold f6_wetNow at hf
  refine lv_iconst (v := (0 : Int32)) hx hb dX6_wetNow_0 (by decide) ?_
  refine lv_istore_n (lv' := [(1, .int (0 : Int32)), (0, .ref (h 0))]) hx hb dX6_wetNow_1 rfl hl (by decide) rfl (fun ls hl => ?_)
  exact w6_wetNow_b2 C hR 1000 _ _ _ _ _ hf hz (lv_sub hl [1, 0] rfl)
set_option maxHeartbeats 4000000 in
set_option maxRecDepth 100000 in
theorem c6_wetNow {l : Launch} {D : va_G} {cI cZ cB : ClassId} {h : Nat → Nat} {g : Sg} {g1 : Sg} (hf : f6_wetNow g = some g1) : KV l D (tyL cI cZ cB) (wM cI cZ h) yX6_wetNow cX6_wetNow 2 none rm6_wetNow [.ref (h 0)] g g1 := by
  refine KV_mk (own := RX6) (by decide +kernel) rfl (Nat.le_of_ble_eq_true rfl) ?_
  intro p e s m below meth c A Q ls C hR hz hl
  have hl : lv_has ls 2 [(0, .ref (h 0))] := hl
  exact w6_wetNow_b0 C hR _ _ _ _ hf hz hl
abbrev rm6_slides : Room := { frames := 1, cells := 0, slots := 0, locals := 23 }
set_option maxHeartbeats 4000000 in
set_option maxRecDepth 100000 in
theorem w6_slides_b6 {res : Int32 × Sg} (C : Cx p m c cX6_slides 3 s args RX6 D (tyL cI cZ cB)) (hR : EndI p l e rm6_slides s m args below meth c Q D (wM cI cZ h) A cX6_slides res) : ∀ n : Nat, ∀ (x1 : Int32) (x2 : Int32) (g : Sg) (H : Heap) (locs : List Loc) (ls : Array Slot), f6_slides_b6 n x1 x2 g = some res → Zs D (wM cI cZ h) A s.heap H locs g → lv_has ls 3 [(0, .ref (h 0)), (1, .int x1), (2, .int x2)] → W p l e rm6_slides s m args below meth c H locs 0 0 Q (F0 m 6 ls []) := by
  have hx := C.1.1
  have hb := C.1.2.1
  intro n
  induction n with
  | zero =>
    intro x1 x2 g H locs ls hf hz hl
    cases hf
  | succ n ih =>
    intro x1 x2 g H locs ls hf hz hl
    rw [f6_slides_b6] at hf
    refine lv_iload_n hx hb dX6_slides_6 rfl (lv_at hl 2 rfl) ?_
    refine lv_bipush (v := (50 : Int32)) hx hb dX6_slides_7 (by decide) ?_
    refine lv_icmp_gt (tgt := 32) hx hb dX6_slides_9 (by decide) (fun c1 => ?_) (fun c1 => ?_)
    · have hf := ite_t hf c1
      refine lv_bipush (v := (-9 : Int32)) hx hb dX6_slides_32 (by decide) ?_
      exact hR _ _ _ _ _ _ (Option.some.inj hf) hz dX6_slides_34
    · have hf := ite_f hf c1
      refine lv_aload_n hx hb dX6_slides_12 rfl (lv_at hl 0 rfl) ?_
      obtain ⟨r4, g3, hc2, hf⟩ := bd2_elim hf
      refine z_VI (As := []) (rest := []) C (c6_slidesOf hc2) lk_RX6_157 ⟨rfl, rfl, Nat.le_of_ble_eq_true rfl, Nat.le_of_ble_eq_true rfl⟩ ⟨Nat.zero_le _, Nat.zero_le _⟩ o_model rfl rfl (Nat.le_of_ble_eq_true rfl) rfl hl.1 dX6_slides_13 hz (fun H locs hz => ?_)
      refine lv_iload_n hx hb dX6_slides_16 rfl (lv_at hl 1 rfl) ?_
      refine lv_ishr hx hb dX6_slides_17 ?_
      refine lv_iconst (v := (1 : Int32)) hx hb dX6_slides_18 (by decide) ?_
      refine lv_iand hx hb dX6_slides_19 ?_
      refine lv_iconst (v := (1 : Int32)) hx hb dX6_slides_20 (by decide) ?_
      refine lv_icmp_ne (tgt := 26) hx hb dX6_slides_21 (by decide) (fun c5 => ?_) (fun c5 => ?_)
      · have hf := ite_f hf c5
        obtain ⟨v6, ev6, hf⟩ := nx_elim hf
        refine lv_iinc (v := v6) (lv' := [(2, .int v6), (0, .ref (h 0)), (1, .int x1)]) hx hb dX6_slides_26 hl (k := 2) rfl (by rw [ev6]; rfl) (by decide) rfl (fun ls hl => ?_)
        refine lv_goto (tgt := 6) hx hb dX6_slides_29 (by decide) ?_
        exact ih _ _ _ _ _ _ hf hz (lv_sub hl [1, 2, 0] rfl)
      · have hf := ite_t hf c5
        refine lv_iload_n hx hb dX6_slides_24 rfl (lv_at hl 2 rfl) ?_
        exact hR _ _ _ _ _ _ (Option.some.inj hf) hz dX6_slides_25
set_option maxHeartbeats 4000000 in
set_option maxRecDepth 100000 in
theorem w6_slides_b0 {res : Int32 × Sg} (C : Cx p m c cX6_slides 3 s args RX6 D (tyL cI cZ cB)) (hR : EndI p l e rm6_slides s m args below meth c Q D (wM cI cZ h) A cX6_slides res) : ∀ (x1 : Int32) (g : Sg) (H : Heap) (locs : List Loc) (ls : Array Slot), f6_slides x1 g = some res → Zs D (wM cI cZ h) A s.heap H locs g → lv_has ls 3 [(0, .ref (h 0)), (1, .int x1)] → W p l e rm6_slides s m args below meth c H locs 0 0 Q (F0 m 0 ls []) := by
  have hx := C.1.1
  have hb := C.1.2.1
  intro x1 g H locs ls hf hz hl
  unfold f6_slides at hf
  refine lv_aload_n hx hb dX6_slides_0 rfl (lv_at hl 0 rfl) ?_
  obtain ⟨g8, hc7, hf⟩ := bd_elim hf
  refine z_VV (As := []) (rest := []) C (c6_wetNow hc7) lk_RX6_154 ⟨rfl, rfl, Nat.le_of_ble_eq_true rfl, Nat.le_of_ble_eq_true rfl⟩ ⟨Nat.zero_le _, Nat.zero_le _⟩ o_model rfl rfl (Nat.le_of_ble_eq_true rfl) rfl hl.1 dX6_slides_1 hz (fun H locs hz => ?_)
  refine lv_iconst (v := (1 : Int32)) hx hb dX6_slides_4 (by decide) ?_
  refine lv_istore_n (lv' := [(2, .int (1 : Int32)), (0, .ref (h 0)), (1, .int x1)]) hx hb dX6_slides_5 rfl hl (by decide) rfl (fun ls hl => ?_)
  exact w6_slides_b6 C hR 1000 _ _ _ _ _ _ hf hz (lv_sub hl [1, 2, 0] rfl)
set_option maxHeartbeats 4000000 in
set_option maxRecDepth 100000 in
theorem c6_slides {l : Launch} {D : va_G} {cI cZ cB : ClassId} {h : Nat → Nat} {x1 : Int32} {g : Sg} {r : Int32} {g1 : Sg} (hf : f6_slides x1 g = some (r, g1)) : KI l D (tyL cI cZ cB) (wM cI cZ h) yX6_slides cX6_slides 3 (some .int) rm6_slides [.ref (h 0), .int x1] g r g1 := by
  refine KI_mk (own := RX6) (by decide +kernel) rfl (Nat.le_of_ble_eq_true rfl) ?_
  intro p e s m below meth c A Q ls C hR hz hl
  have hl : lv_has ls 3 [(0, .ref (h 0)), (1, .int x1)] := hl
  exact w6_slides_b0 C hR _ _ _ _ _ hf hz hl
abbrev rm6_cell : Room := { frames := 2, cells := 0, slots := 0, locals := 45 }
set_option maxHeartbeats 4000000 in
set_option maxRecDepth 100000 in
theorem w6_cell_b0 {res : Int32 × Sg} (C : Cx p m c cX6_cell 3 s args RX6 D (tyL cI cZ cB)) (hR : EndI p l e rm6_cell s m args below meth c Q D (wM cI cZ h) A cX6_cell res) : ∀ (x1 : Int32) (x2 : Int32) (g : Sg) (H : Heap) (locs : List Loc) (ls : Array Slot), f6_cell x1 x2 g = some res → Zs D (wM cI cZ h) A s.heap H locs g → lv_has ls 3 [(0, .ref (h 0)), (1, .int x1), (2, .int x2)] → W p l e rm6_cell s m args below meth c H locs 0 0 Q (F0 m 0 ls []) := by
  have hx := C.1.1
  have hb := C.1.2.1
  intro x1 x2 g H locs ls hf hz hl
  unfold f6_cell at hf
  refine lv_aload_n hx hb dX6_cell_0 rfl (lv_at hl 0 rfl) ?_
  refine lv_iconst (v := (0 : Int32)) hx hb dX6_cell_1 (by decide) ?_
  obtain ⟨g1, eg1, hf⟩ := nx_elim hf
  refine p_RX6_74_model C hz eg1 dX6_cell_2 (fun H locs hz => ?_)
  refine lv_iload_n hx hb dX6_cell_5 rfl (lv_at hl 1 rfl) ?_
  obtain ⟨r4, g3, hc2, hf⟩ := bd2_elim hf
  refine z_SI (As := [.int x1]) (rest := []) C (c6_isCell hc2) lk_RX6_161 ⟨rfl, rfl, Nat.le_of_ble_eq_true rfl, Nat.le_of_ble_eq_true rfl⟩ ⟨Nat.zero_le _, Nat.zero_le _⟩ rfl (Nat.le_of_ble_eq_true rfl) rfl hl.1 dX6_cell_6 hz (fun H locs hz => ?_)
  refine lv_if_eq (tgt := 21) hx hb dX6_cell_9 (by decide) (fun c5 => ?_) (fun c5 => ?_)
  · have hf := ite_t hf c5
    refine lv_iconst (v := (-1 : Int32)) hx hb dX6_cell_21 (by decide) ?_
    exact hR _ _ _ _ _ _ (Option.some.inj hf) hz dX6_cell_22
  · have hf := ite_f hf c5
    refine lv_iload_n hx hb dX6_cell_12 rfl (lv_at hl 2 rfl) ?_
    refine lv_iconst (v := (0 : Int32)) hx hb dX6_cell_13 (by decide) ?_
    refine lv_iconst (v := (3 : Int32)) hx hb dX6_cell_14 (by decide) ?_
    obtain ⟨r8, g7, hc6, hf⟩ := bd2_elim hf
    refine z_SI (As := [.int x2, .int (0 : Int32), .int (3 : Int32)]) (rest := []) C (c6_in hc6) lk_RX6_78 ⟨rfl, rfl, Nat.le_of_ble_eq_true rfl, Nat.le_of_ble_eq_true rfl⟩ ⟨Nat.zero_le _, Nat.zero_le _⟩ rfl (Nat.le_of_ble_eq_true rfl) rfl hl.1 dX6_cell_15 hz (fun H locs hz => ?_)
    refine lv_if_ne (tgt := 23) hx hb dX6_cell_18 (by decide) (fun c9 => ?_) (fun c9 => ?_)
    · have hf := ite_f hf c9
      refine lv_iload_n hx hb dX6_cell_23 rfl (lv_at hl 2 rfl) ?_
      refine lv_if_ne (tgt := 38) hx hb dX6_cell_24 (by decide) (fun c10 => ?_) (fun c10 => ?_)
      · have hf := ite_f hf c10
        refine lv_iload_n hx hb dX6_cell_38 rfl (lv_at hl 2 rfl) ?_
        refine lv_iconst (v := (1 : Int32)) hx hb dX6_cell_39 (by decide) ?_
        refine lv_icmp_ne (tgt := 55) hx hb dX6_cell_40 (by decide) (fun c11 => ?_) (fun c11 => ?_)
        · have hf := ite_f hf c11
          refine lv_iload_n hx hb dX6_cell_55 rfl (lv_at hl 2 rfl) ?_
          refine lv_iconst (v := (2 : Int32)) hx hb dX6_cell_56 (by decide) ?_
          refine lv_icmp_ne (tgt := 68) hx hb dX6_cell_57 (by decide) (fun c12 => ?_) (fun c12 => ?_)
          · have hf := ite_f hf c12
            refine lv_aload_n hx hb dX6_cell_68 rfl (lv_at hl 0 rfl) ?_
            refine lv_iload_n hx hb dX6_cell_69 rfl (lv_at hl 1 rfl) ?_
            obtain ⟨r15, g14, hc13, hf⟩ := bd2_elim hf
            refine z_VI (As := [.int x1]) (rest := []) C (c6_slides hc13) lk_RX6_167 ⟨rfl, rfl, Nat.le_of_ble_eq_true rfl, Nat.le_of_ble_eq_true rfl⟩ ⟨Nat.zero_le _, Nat.zero_le _⟩ o_model rfl rfl (Nat.le_of_ble_eq_true rfl) rfl hl.1 dX6_cell_70 hz (fun H locs hz => ?_)
            exact hR _ _ _ _ _ _ (Option.some.inj hf) hz dX6_cell_73
          · have hf := ite_t hf c12
            refine lv_aload_n hx hb dX6_cell_60 rfl (lv_at hl 0 rfl) ?_
            refine lv_iload_n hx hb dX6_cell_61 rfl (lv_at hl 1 rfl) ?_
            obtain ⟨r18, g17, hc16, hf⟩ := bd2_elim hf
            refine z_VI (As := [.int x1]) (rest := []) C (c6_lyingIn hc16) lk_RX6_164 ⟨rfl, rfl, Nat.le_of_ble_eq_true rfl, Nat.le_of_ble_eq_true rfl⟩ ⟨Nat.zero_le _, Nat.zero_le _⟩ o_model rfl rfl (Nat.le_of_ble_eq_true rfl) rfl hl.1 dX6_cell_62 hz (fun H locs hz => ?_)
            refine lv_goto (tgt := 73) hx hb dX6_cell_65 (by decide) ?_
            exact hR _ _ _ _ _ _ (Option.some.inj hf) hz dX6_cell_73
        · have hf := ite_t hf c11
          refine lv_aload_n hx hb dX6_cell_43 rfl (lv_at hl 0 rfl) ?_
          refine g_RX6_46_model C hz dX6_cell_44 ?_
          refine lv_bipush (v := (7 : Int32)) hx hb dX6_cell_47 (by decide) ?_
          refine lv_iload_n hx hb dX6_cell_49 rfl (lv_at hl 1 rfl) ?_
          refine lv_iadd hx hb dX6_cell_50 ?_
          obtain ⟨c19, hf⟩ := ix_elim hf
          refine z_iald C hz a_m_s c19 dX6_cell_51 ?_
          refine lv_goto (tgt := 73) hx hb dX6_cell_52 (by decide) ?_
          exact hR _ _ _ _ _ _ (Option.some.inj hf) hz dX6_cell_73
      · have hf := ite_t hf c10
        refine lv_aload_n hx hb dX6_cell_27 rfl (lv_at hl 0 rfl) ?_
        refine g_RX6_46_model C hz dX6_cell_28 ?_
        refine lv_iconst (v := (1 : Int32)) hx hb dX6_cell_31 (by decide) ?_
        refine lv_iload_n hx hb dX6_cell_32 rfl (lv_at hl 1 rfl) ?_
        refine lv_iadd hx hb dX6_cell_33 ?_
        obtain ⟨c20, hf⟩ := ix_elim hf
        refine z_iald C hz a_m_s c20 dX6_cell_34 ?_
        refine lv_goto (tgt := 73) hx hb dX6_cell_35 (by decide) ?_
        exact hR _ _ _ _ _ _ (Option.some.inj hf) hz dX6_cell_73
    · have hf := ite_t hf c9
      refine lv_iconst (v := (-1 : Int32)) hx hb dX6_cell_21 (by decide) ?_
      exact hR _ _ _ _ _ _ (Option.some.inj hf) hz dX6_cell_22
set_option maxHeartbeats 4000000 in
set_option maxRecDepth 100000 in
theorem c6_cell {l : Launch} {D : va_G} {cI cZ cB : ClassId} {h : Nat → Nat} {x1 : Int32} {x2 : Int32} {g : Sg} {r : Int32} {g1 : Sg} (hf : f6_cell x1 x2 g = some (r, g1)) : KI l D (tyL cI cZ cB) (wM cI cZ h) yX6_cell cX6_cell 3 (some .int) rm6_cell [.ref (h 0), .int x1, .int x2] g r g1 := by
  refine KI_mk (own := RX6) (by decide +kernel) rfl (Nat.le_of_ble_eq_true rfl) ?_
  intro p e s m below meth c A Q ls C hR hz hl
  have hl : lv_has ls 3 [(0, .ref (h 0)), (1, .int x1), (2, .int x2)] := hl
  exact w6_cell_b0 C hR _ _ _ _ _ _ hf hz hl
abbrev rm6_now : Room := { frames := 1, cells := 0, slots := 0, locals := 23 }
set_option maxHeartbeats 4000000 in
set_option maxRecDepth 100000 in
theorem w6_now_b0 {res : Int32 × Sg} (C : Cx p m c cX6_now 2 s args RX6 D (tyL cI cZ cB)) (hR : EndI p l e rm6_now s m args below meth c Q D (wM cI cZ h) A cX6_now res) : ∀ (x1 : Int32) (g : Sg) (H : Heap) (locs : List Loc) (ls : Array Slot), f6_now x1 g = some res → Zs D (wM cI cZ h) A s.heap H locs g → lv_has ls 2 [(0, .ref (h 0)), (1, .int x1)] → W p l e rm6_now s m args below meth c H locs 0 0 Q (F0 m 0 ls []) := by
  have hx := C.1.1
  have hb := C.1.2.1
  intro x1 g H locs ls hf hz hl
  unfold f6_now at hf
  refine lv_aload_n hx hb dX6_now_0 rfl (lv_at hl 0 rfl) ?_
  refine lv_iconst (v := (0 : Int32)) hx hb dX6_now_1 (by decide) ?_
  obtain ⟨g1, eg1, hf⟩ := nx_elim hf
  refine p_RX6_74_model C hz eg1 dX6_now_2 (fun H locs hz => ?_)
  refine lv_iload_n hx hb dX6_now_5 rfl (lv_at hl 1 rfl) ?_
  refine lv_iconst (v := (0 : Int32)) hx hb dX6_now_6 (by decide) ?_
  refine lv_iconst (v := (5 : Int32)) hx hb dX6_now_7 (by decide) ?_
  obtain ⟨r4, g3, hc2, hf⟩ := bd2_elim hf
  refine z_SI (As := [.int x1, .int (0 : Int32), .int (5 : Int32)]) (rest := []) C (c6_in hc2) lk_RX6_78 ⟨rfl, rfl, Nat.le_of_ble_eq_true rfl, Nat.le_of_ble_eq_true rfl⟩ ⟨Nat.zero_le _, Nat.zero_le _⟩ rfl (Nat.le_of_ble_eq_true rfl) rfl hl.1 dX6_now_8 hz (fun H locs hz => ?_)
  refine lv_if_ne (tgt := 16) hx hb dX6_now_11 (by decide) (fun c5 => ?_) (fun c5 => ?_)
  · have hf := ite_f hf c5
    refine lv_iload_n hx hb dX6_now_16 rfl (lv_at hl 1 rfl) ?_
    refine lv_if_ne (tgt := 29) hx hb dX6_now_17 (by decide) (fun c6 => ?_) (fun c6 => ?_)
    · have hf := ite_f hf c6
      refine lv_iload_n hx hb dX6_now_29 rfl (lv_at hl 1 rfl) ?_
      refine lv_iconst (v := (5 : Int32)) hx hb dX6_now_30 (by decide) ?_
      refine lv_icmp_ne (tgt := 41) hx hb dX6_now_31 (by decide) (fun c7 => ?_) (fun c7 => ?_)
      · have hf := ite_f hf c7
        refine lv_aload_n hx hb dX6_now_41 rfl (lv_at hl 0 rfl) ?_
        refine lv_iload_n hx hb dX6_now_42 rfl (lv_at hl 1 rfl) ?_
        refine lv_iconst (v := (1 : Int32)) hx hb dX6_now_43 (by decide) ?_
        refine lv_isub hx hb dX6_now_44 ?_
        obtain ⟨r10, g9, hc8, hf⟩ := bd2_elim hf
        refine z_VI (As := [.int (x1 - (1 : Int32))]) (rest := []) C (c6_those hc8) lk_RX6_170 ⟨rfl, rfl, Nat.le_of_ble_eq_true rfl, Nat.le_of_ble_eq_true rfl⟩ ⟨Nat.zero_le _, Nat.zero_le _⟩ o_model rfl rfl (Nat.le_of_ble_eq_true rfl) rfl hl.1 dX6_now_45 hz (fun H locs hz => ?_)
        exact hR _ _ _ _ _ _ (Option.some.inj hf) hz dX6_now_48
      · have hf := ite_t hf c7
        refine lv_aload_n hx hb dX6_now_34 rfl (lv_at hl 0 rfl) ?_
        refine g_RX6_142_model C hz dX6_now_35 ?_
        refine lv_goto (tgt := 48) hx hb dX6_now_38 (by decide) ?_
        exact hR _ _ _ _ _ _ (Option.some.inj hf) hz dX6_now_48
    · have hf := ite_t hf c6
      refine lv_aload_n hx hb dX6_now_20 rfl (lv_at hl 0 rfl) ?_
      refine g_RX6_46_model C hz dX6_now_21 ?_
      refine lv_iconst (v := (0 : Int32)) hx hb dX6_now_24 (by decide) ?_
      refine z_ialdL C hz a_m_s (vpl (n := 0) (by decide) (by decide)) (k := 0) (by decide) dX6_now_25 ?_
      refine lv_goto (tgt := 48) hx hb dX6_now_26 (by decide) ?_
      exact hR _ _ _ _ _ _ (Option.some.inj hf) hz dX6_now_48
  · have hf := ite_t hf c5
    refine lv_iconst (v := (-1 : Int32)) hx hb dX6_now_14 (by decide) ?_
    exact hR _ _ _ _ _ _ (Option.some.inj hf) hz dX6_now_15
set_option maxHeartbeats 4000000 in
set_option maxRecDepth 100000 in
theorem c6_now {l : Launch} {D : va_G} {cI cZ cB : ClassId} {h : Nat → Nat} {x1 : Int32} {g : Sg} {r : Int32} {g1 : Sg} (hf : f6_now x1 g = some (r, g1)) : KI l D (tyL cI cZ cB) (wM cI cZ h) yX6_now cX6_now 2 (some .int) rm6_now [.ref (h 0), .int x1] g r g1 := by
  refine KI_mk (own := RX6) (by decide +kernel) rfl (Nat.le_of_ble_eq_true rfl) ?_
  intro p e s m below meth c A Q ls C hR hz hl
  have hl : lv_has ls 2 [(0, .ref (h 0)), (1, .int x1)] := hl
  exact w6_now_b0 C hR _ _ _ _ _ hf hz hl
abbrev rm6_notes : Room := { frames := 0, cells := 0, slots := 0, locals := 0 }
set_option maxHeartbeats 4000000 in
set_option maxRecDepth 100000 in
theorem w6_notes_b47 {res : Sg} (C : Cx p m c cX6_notes 2 s args RX6 D (tyL cI cZ cB)) (hR : EndV p l e rm6_notes s m args below meth c Q D (wM cI cZ h) A cX6_notes res) : ∀ n : Nat, ∀ (x1 : Int32) (g : Sg) (H : Heap) (locs : List Loc) (ls : Array Slot), f6_notes_b47 n x1 g = some res → Zs D (wM cI cZ h) A s.heap H locs g → lv_has ls 2 [(0, .ref (h 0)), (1, .int x1)] → W p l e rm6_notes s m args below meth c H locs 0 0 Q (F0 m 47 ls []) := by
  have hx := C.1.1
  have hb := C.1.2.1
  intro n
  induction n with
  | zero =>
    intro x1 g H locs ls hf hz hl
    cases hf
  | succ n ih =>
    intro x1 g H locs ls hf hz hl
    rw [f6_notes_b47] at hf
    refine lv_iload_n hx hb dX6_notes_47 rfl (lv_at hl 1 rfl) ?_
    refine lv_bipush (v := (37 : Int32)) hx hb dX6_notes_48 (by decide) ?_
    refine lv_icmp_ge (tgt := 79) hx hb dX6_notes_50 (by decide) (fun c1 => ?_) (fun c1 => ?_)
    · have hf := ite_t hf c1
      refine lv_aload_n hx hb dX6_notes_79 rfl (lv_at hl 0 rfl) ?_
      refine lv_dup hx hb dX6_notes_80 rfl ?_
      refine g_RX6_142_model C hz dX6_notes_81 ?_
      refine lv_iconst (v := (1 : Int32)) hx hb dX6_notes_84 (by decide) ?_
      refine lv_iadd hx hb dX6_notes_85 ?_
      obtain ⟨g2, eg2, hf⟩ := nx_elim hf
      refine p_RX6_142_model C hz eg2 dX6_notes_86 (fun H locs hz => ?_)
      exact hR _ _ _ _ _ (Option.some.inj hf) hz dX6_notes_89
    · have hf := ite_f hf c1
      refine lv_aload_n hx hb dX6_notes_53 rfl (lv_at hl 0 rfl) ?_
      refine g_RX6_56_model C hz dX6_notes_54 ?_
      refine lv_bipush (v := (37 : Int32)) hx hb dX6_notes_57 (by decide) ?_
      refine lv_aload_n hx hb dX6_notes_59 rfl (lv_at hl 0 rfl) ?_
      refine g_RX6_142_model C hz dX6_notes_60 ?_
      refine lv_imul hx hb dX6_notes_63 ?_
      refine lv_iload_n hx hb dX6_notes_64 rfl (lv_at hl 1 rfl) ?_
      refine lv_iadd hx hb dX6_notes_65 ?_
      refine lv_aload_n hx hb dX6_notes_66 rfl (lv_at hl 0 rfl) ?_
      refine g_RX6_46_model C hz dX6_notes_67 ?_
      refine lv_iload_n hx hb dX6_notes_70 rfl (lv_at hl 1 rfl) ?_
      obtain ⟨c3, hf⟩ := ix_elim hf
      refine z_iald C hz a_m_s c3 dX6_notes_71 ?_
      obtain ⟨c4, hf⟩ := ix_elim hf
      obtain ⟨g5, eg5, hf⟩ := nx_elim hf
      refine z_iast C hz a_m_undos c4 eg5 dX6_notes_72 (fun H locs hz => ?_)
      obtain ⟨v6, ev6, hf⟩ := nx_elim hf
      refine lv_iinc (v := v6) (lv' := [(1, .int v6), (0, .ref (h 0))]) hx hb dX6_notes_73 hl (k := 1) rfl (by rw [ev6]; rfl) (by decide) rfl (fun ls hl => ?_)
      refine lv_goto (tgt := 47) hx hb dX6_notes_76 (by decide) ?_
      exact ih _ _ _ _ _ hf hz (lv_sub hl [1, 0] rfl)
set_option maxHeartbeats 4000000 in
set_option maxRecDepth 100000 in
theorem w6_notes_b45 {res : Sg} (C : Cx p m c cX6_notes 2 s args RX6 D (tyL cI cZ cB)) (hR : EndV p l e rm6_notes s m args below meth c Q D (wM cI cZ h) A cX6_notes res) : ∀ (g : Sg) (H : Heap) (locs : List Loc) (ls : Array Slot), f6_notes_b45 g = some res → Zs D (wM cI cZ h) A s.heap H locs g → lv_has ls 2 [(0, .ref (h 0))] → W p l e rm6_notes s m args below meth c H locs 0 0 Q (F0 m 45 ls []) := by
  have hx := C.1.1
  have hb := C.1.2.1
  intro g H locs ls hf hz hl
  unfold f6_notes_b45 at hf
  refine lv_iconst (v := (0 : Int32)) hx hb dX6_notes_45 (by decide) ?_
  refine lv_istore_n (lv' := [(1, .int (0 : Int32)), (0, .ref (h 0))]) hx hb dX6_notes_46 rfl hl (by decide) rfl (fun ls hl => ?_)
  exact w6_notes_b47 C hR 1000 _ _ _ _ _ hf hz (lv_sub hl [1, 0] rfl)
set_option maxHeartbeats 4000000 in
set_option maxRecDepth 100000 in
theorem w6_notes_b11 {res : Sg} (C : Cx p m c cX6_notes 2 s args RX6 D (tyL cI cZ cB)) (hR : EndV p l e rm6_notes s m args below meth c Q D (wM cI cZ h) A cX6_notes res) : ∀ n : Nat, ∀ (x1 : Int32) (g : Sg) (H : Heap) (locs : List Loc) (ls : Array Slot), f6_notes_b11 n x1 g = some res → Zs D (wM cI cZ h) A s.heap H locs g → lv_has ls 2 [(0, .ref (h 0)), (1, .int x1)] → W p l e rm6_notes s m args below meth c H locs 0 0 Q (F0 m 11 ls []) := by
  have hx := C.1.1
  have hb := C.1.2.1
  intro n
  induction n with
  | zero =>
    intro x1 g H locs ls hf hz hl
    cases hf
  | succ n ih =>
    intro x1 g H locs ls hf hz hl
    rw [f6_notes_b11] at hf
    refine lv_iload_n hx hb dX6_notes_11 rfl (lv_at hl 1 rfl) ?_
    refine lv_sipush (v := (333 : Int32)) hx hb dX6_notes_12 (by decide) ?_
    refine lv_icmp_ge (tgt := 39) hx hb dX6_notes_15 (by decide) (fun c7 => ?_) (fun c7 => ?_)
    · have hf := ite_t hf c7
      refine lv_aload_n hx hb dX6_notes_39 rfl (lv_at hl 0 rfl) ?_
      refine lv_bipush (v := (9 : Int32)) hx hb dX6_notes_40 (by decide) ?_
      obtain ⟨g8, eg8, hf⟩ := nx_elim hf
      refine p_RX6_142_model C hz eg8 dX6_notes_42 (fun H locs hz => ?_)
      exact w6_notes_b45 C hR _ _ _ _ hf hz (lv_sub hl [0] rfl)
    · have hf := ite_f hf c7
      refine lv_aload_n hx hb dX6_notes_18 rfl (lv_at hl 0 rfl) ?_
      refine g_RX6_56_model C hz dX6_notes_19 ?_
      refine lv_iload_n hx hb dX6_notes_22 rfl (lv_at hl 1 rfl) ?_
      refine lv_aload_n hx hb dX6_notes_23 rfl (lv_at hl 0 rfl) ?_
      refine g_RX6_56_model C hz dX6_notes_24 ?_
      refine lv_iload_n hx hb dX6_notes_27 rfl (lv_at hl 1 rfl) ?_
      refine lv_bipush (v := (37 : Int32)) hx hb dX6_notes_28 (by decide) ?_
      refine lv_iadd hx hb dX6_notes_30 ?_
      obtain ⟨c9, hf⟩ := ix_elim hf
      refine z_iald C hz a_m_undos c9 dX6_notes_31 ?_
      obtain ⟨c10, hf⟩ := ix_elim hf
      obtain ⟨g11, eg11, hf⟩ := nx_elim hf
      refine z_iast C hz a_m_undos c10 eg11 dX6_notes_32 (fun H locs hz => ?_)
      obtain ⟨v12, ev12, hf⟩ := nx_elim hf
      refine lv_iinc (v := v12) (lv' := [(1, .int v12), (0, .ref (h 0))]) hx hb dX6_notes_33 hl (k := 1) rfl (by rw [ev12]; rfl) (by decide) rfl (fun ls hl => ?_)
      refine lv_goto (tgt := 11) hx hb dX6_notes_36 (by decide) ?_
      exact ih _ _ _ _ _ hf hz (lv_sub hl [1, 0] rfl)
set_option maxHeartbeats 4000000 in
set_option maxRecDepth 100000 in
theorem w6_notes_b0 {res : Sg} (C : Cx p m c cX6_notes 2 s args RX6 D (tyL cI cZ cB)) (hR : EndV p l e rm6_notes s m args below meth c Q D (wM cI cZ h) A cX6_notes res) : ∀ (g : Sg) (H : Heap) (locs : List Loc) (ls : Array Slot), f6_notes g = some res → Zs D (wM cI cZ h) A s.heap H locs g → lv_has ls 2 [(0, .ref (h 0))] → W p l e rm6_notes s m args below meth c H locs 0 0 Q (F0 m 0 ls []) := by
  have hx := C.1.1
  have hb := C.1.2.1
  intro g H locs ls hf hz hl
  unfold f6_notes at hf
  refine lv_aload_n hx hb dX6_notes_0 rfl (lv_at hl 0 rfl) ?_
  refine g_RX6_142_model C hz dX6_notes_1 ?_
  refine lv_bipush (v := (10 : Int32)) hx hb dX6_notes_4 (by decide) ?_
  refine lv_icmp_ne (tgt := 45) hx hb dX6_notes_6 (by decide) (fun c13 => ?_) (fun c13 => ?_)
  · have hf := ite_f hf c13
    exact w6_notes_b45 C hR _ _ _ _ hf hz (lv_sub hl [0] rfl)
  · have hf := ite_t hf c13
    refine lv_iconst (v := (0 : Int32)) hx hb dX6_notes_9 (by decide) ?_
    refine lv_istore_n (lv' := [(1, .int (0 : Int32)), (0, .ref (h 0))]) hx hb dX6_notes_10 rfl hl (by decide) rfl (fun ls hl => ?_)
    exact w6_notes_b11 C hR 1000 _ _ _ _ _ hf hz (lv_sub hl [1, 0] rfl)
set_option maxHeartbeats 4000000 in
set_option maxRecDepth 100000 in
theorem c6_notes {l : Launch} {D : va_G} {cI cZ cB : ClassId} {h : Nat → Nat} {g : Sg} {g1 : Sg} (hf : f6_notes g = some g1) : KV l D (tyL cI cZ cB) (wM cI cZ h) yX6_notes cX6_notes 2 none rm6_notes [.ref (h 0)] g g1 := by
  refine KV_mk (own := RX6) (by decide +kernel) rfl (Nat.le_of_ble_eq_true rfl) ?_
  intro p e s m below meth c A Q ls C hR hz hl
  have hl : lv_has ls 2 [(0, .ref (h 0))] := hl
  exact w6_notes_b0 C hR _ _ _ _ hf hz hl
abbrev rm6_cuts : Room := { frames := 2, cells := 0, slots := 0, locals := 44 }
set_option maxHeartbeats 4000000 in
set_option maxRecDepth 100000 in
theorem w6_cuts_b114 {res : Int32 × Sg} {k45 : Int32 → Int32 → Int32 → Int32 → Sg → Option (Int32 × Sg)} (C : Cx p m c cX6_cuts 5 s args RX6 D (tyL cI cZ cB)) (hR : EndI p l e rm6_cuts s m args below meth c Q D (wM cI cZ h) A cX6_cuts res) (hk45 : ∀ (x1 : Int32) (x2 : Int32) (x3 : Int32) (x4 : Int32) (g : Sg) (H : Heap) (locs : List Loc) (ls : Array Slot), k45 x1 x2 x3 x4 g = some res → Zs D (wM cI cZ h) A s.heap H locs g → lv_has ls 5 [(0, .ref (h 0)), (1, .int x1), (2, .int x2), (3, .int x3), (4, .int x4)] → W p l e rm6_cuts s m args below meth c H locs 0 0 Q (F0 m 45 ls [])) : ∀ (x1 : Int32) (x2 : Int32) (x3 : Int32) (x4 : Int32) (g : Sg) (H : Heap) (locs : List Loc) (ls : Array Slot), f6_cuts_b114 k45 x1 x2 x3 x4 g = some res → Zs D (wM cI cZ h) A s.heap H locs g → lv_has ls 5 [(0, .ref (h 0)), (1, .int x1), (2, .int x2), (3, .int x3), (4, .int x4)] → W p l e rm6_cuts s m args below meth c H locs 0 0 Q (F0 m 114 ls []) := by
  have hx := C.1.1
  have hb := C.1.2.1
  intro x1 x2 x3 x4 g H locs ls hf hz hl
  unfold f6_cuts_b114 at hf
  obtain ⟨v1, ev1, hf⟩ := nx_elim hf
  refine lv_iinc (v := v1) (lv' := [(4, .int v1), (0, .ref (h 0)), (1, .int x1), (2, .int x2), (3, .int x3)]) hx hb dX6_cuts_114 hl (k := 4) rfl (by rw [ev1]; rfl) (by decide) rfl (fun ls hl => ?_)
  refine lv_goto (tgt := 45) hx hb dX6_cuts_117 (by decide) ?_
  exact hk45 _ _ _ _ _ _ _ _ hf hz (lv_sub hl [1, 2, 3, 4, 0] rfl)
set_option maxHeartbeats 4000000 in
set_option maxRecDepth 100000 in
theorem w6_cuts_b45 {res : Int32 × Sg} (C : Cx p m c cX6_cuts 5 s args RX6 D (tyL cI cZ cB)) (hR : EndI p l e rm6_cuts s m args below meth c Q D (wM cI cZ h) A cX6_cuts res) : ∀ n : Nat, ∀ (x1 : Int32) (x2 : Int32) (x3 : Int32) (x4 : Int32) (g : Sg) (H : Heap) (locs : List Loc) (ls : Array Slot), f6_cuts_b45 n x1 x2 x3 x4 g = some res → Zs D (wM cI cZ h) A s.heap H locs g → lv_has ls 5 [(0, .ref (h 0)), (1, .int x1), (2, .int x2), (3, .int x3), (4, .int x4)] → W p l e rm6_cuts s m args below meth c H locs 0 0 Q (F0 m 45 ls []) := by
  have hx := C.1.1
  have hb := C.1.2.1
  intro n
  induction n with
  | zero =>
    intro x1 x2 x3 x4 g H locs ls hf hz hl
    cases hf
  | succ n ih =>
    intro x1 x2 x3 x4 g H locs ls hf hz hl
    rw [f6_cuts_b45] at hf
    refine lv_iload hx hb dX6_cuts_45 (lv_at hl 4 rfl) ?_
    refine lv_aload_n hx hb dX6_cuts_47 rfl (lv_at hl 0 rfl) ?_
    refine g_RX6_13_model C hz dX6_cuts_48 ?_
    refine lv_iconst (v := (1 : Int32)) hx hb dX6_cuts_51 (by decide) ?_
    refine z_ialdL C hz a_m_many (vpl (n := 1) (by decide) (by decide)) (k := 1) (by decide) dX6_cuts_52 ?_
    refine lv_icmp_ge (tgt := 120) hx hb dX6_cuts_53 (by decide) (fun c2 => ?_) (fun c2 => ?_)
    · have hf := ite_t hf c2
      refine lv_aload_n hx hb dX6_cuts_120 rfl (lv_at hl 0 rfl) ?_
      refine g_RX6_46_model C hz dX6_cuts_121 ?_
      refine lv_iconst (v := (1 : Int32)) hx hb dX6_cuts_124 (by decide) ?_
      refine lv_iload_n hx hb dX6_cuts_125 rfl (lv_at hl 1 rfl) ?_
      refine lv_iadd hx hb dX6_cuts_126 ?_
      refine lv_dup2_11 hx hb dX6_cuts_127 rfl rfl ?_
      obtain ⟨c3, hf⟩ := ix_elim hf
      refine z_iald C hz a_m_s c3 dX6_cuts_128 ?_
      refine lv_iconst (v := (1 : Int32)) hx hb dX6_cuts_129 (by decide) ?_
      refine lv_iadd hx hb dX6_cuts_130 ?_
      obtain ⟨c4, hf⟩ := ix_elim hf
      obtain ⟨g5, eg5, hf⟩ := nx_elim hf
      refine z_iast C hz a_m_s c4 eg5 dX6_cuts_131 (fun H locs hz => ?_)
      refine lv_iload_n hx hb dX6_cuts_132 rfl (lv_at hl 2 rfl) ?_
      exact hR _ _ _ _ _ _ (Option.some.inj hf) hz dX6_cuts_133
    · have hf := ite_f hf c2
      refine lv_iload_n hx hb dX6_cuts_56 rfl (lv_at hl 3 rfl) ?_
      refine lv_iload hx hb dX6_cuts_57 (lv_at hl 4 rfl) ?_
      refine lv_ishr hx hb dX6_cuts_59 ?_
      refine lv_iconst (v := (1 : Int32)) hx hb dX6_cuts_60 (by decide) ?_
      refine lv_iand hx hb dX6_cuts_61 ?_
      refine lv_iconst (v := (1 : Int32)) hx hb dX6_cuts_62 (by decide) ?_
      refine lv_icmp_ne (tgt := 114) hx hb dX6_cuts_63 (by decide) (fun c6 => ?_) (fun c6 => ?_)
      · have hf := ite_f hf c6
        exact w6_cuts_b114 C hR ih _ _ _ _ _ _ _ _ hf hz (lv_sub hl [0, 1, 2, 3, 4] rfl)
      · have hf := ite_t hf c6
        refine lv_aload_n hx hb dX6_cuts_66 rfl (lv_at hl 0 rfl) ?_
        refine g_RX6_28_model C hz dX6_cuts_67 ?_
        refine lv_iload hx hb dX6_cuts_70 (lv_at hl 4 rfl) ?_
        obtain ⟨c7, hf⟩ := ix_elim hf
        refine z_iald C hz a_m_depth c7 dX6_cuts_72 ?_
        refine lv_aload_n hx hb dX6_cuts_73 rfl (lv_at hl 0 rfl) ?_
        refine g_RX6_46_model C hz dX6_cuts_74 ?_
        refine lv_iconst (v := (1 : Int32)) hx hb dX6_cuts_77 (by decide) ?_
        refine lv_iload_n hx hb dX6_cuts_78 rfl (lv_at hl 1 rfl) ?_
        refine lv_iadd hx hb dX6_cuts_79 ?_
        obtain ⟨c8, hf⟩ := ix_elim hf
        refine z_iald C hz a_m_s c8 dX6_cuts_80 ?_
        refine lv_icmp_ne (tgt := 114) hx hb dX6_cuts_81 (by decide) (fun c9 => ?_) (fun c9 => ?_)
        · have hf := ite_f hf c9
          exact w6_cuts_b114 C hR ih _ _ _ _ _ _ _ _ hf hz (lv_sub hl [0, 1, 2, 3, 4] rfl)
        · have hf := ite_t hf c9
          refine lv_aload_n hx hb dX6_cuts_84 rfl (lv_at hl 0 rfl) ?_
          refine g_RX6_46_model C hz dX6_cuts_85 ?_
          refine lv_bipush (v := (21 : Int32)) hx hb dX6_cuts_88 (by decide) ?_
          refine lv_iload hx hb dX6_cuts_90 (lv_at hl 4 rfl) ?_
          refine lv_iadd hx hb dX6_cuts_92 ?_
          refine lv_aload_n hx hb dX6_cuts_93 rfl (lv_at hl 0 rfl) ?_
          refine lv_iload hx hb dX6_cuts_94 (lv_at hl 4 rfl) ?_
          obtain ⟨r12, g11, hc10, hf⟩ := bd2_elim hf
          refine z_VI (As := [.int x4]) (rest := [.int ((21 : Int32) + x4), .ref (h 21)]) C (c6_leftNow hc10) lk_RX6_151 ⟨rfl, rfl, Nat.le_of_ble_eq_true rfl, Nat.le_of_ble_eq_true rfl⟩ ⟨Nat.zero_le _, Nat.zero_le _⟩ o_model rfl rfl (Nat.le_of_ble_eq_true rfl) rfl hl.1 dX6_cuts_96 hz (fun H locs hz => ?_)
          obtain ⟨c13, hf⟩ := ix_elim hf
          obtain ⟨g14, eg14, hf⟩ := nx_elim hf
          refine z_iast C hz a_m_s c13 eg14 dX6_cuts_99 (fun H locs hz => ?_)
          refine lv_aload_n hx hb dX6_cuts_100 rfl (lv_at hl 0 rfl) ?_
          refine g_RX6_46_model C hz dX6_cuts_101 ?_
          refine lv_bipush (v := (13 : Int32)) hx hb dX6_cuts_104 (by decide) ?_
          refine lv_iload hx hb dX6_cuts_106 (lv_at hl 4 rfl) ?_
          refine lv_iadd hx hb dX6_cuts_108 ?_
          refine lv_iconst (v := (1 : Int32)) hx hb dX6_cuts_109 (by decide) ?_
          obtain ⟨c15, hf⟩ := ix_elim hf
          obtain ⟨g16, eg16, hf⟩ := nx_elim hf
          refine z_iast C hz a_m_s c15 eg16 dX6_cuts_110 (fun H locs hz => ?_)
          obtain ⟨v17, ev17, hf⟩ := nx_elim hf
          refine lv_iinc (v := v17) (lv' := [(2, .int v17), (0, .ref (h 0)), (1, .int x1), (3, .int x3), (4, .int x4)]) hx hb dX6_cuts_111 hl (k := 2) rfl (by rw [ev17]; rfl) (by decide) rfl (fun ls hl => ?_)
          exact w6_cuts_b114 C hR ih _ _ _ _ _ _ _ _ hf hz (lv_sub hl [1, 2, 0, 3, 4] rfl)
set_option maxHeartbeats 4000000 in
set_option maxRecDepth 100000 in
theorem w6_cuts_b0 {res : Int32 × Sg} (C : Cx p m c cX6_cuts 5 s args RX6 D (tyL cI cZ cB)) (hR : EndI p l e rm6_cuts s m args below meth c Q D (wM cI cZ h) A cX6_cuts res) : ∀ (x1 : Int32) (g : Sg) (H : Heap) (locs : List Loc) (ls : Array Slot), f6_cuts x1 g = some res → Zs D (wM cI cZ h) A s.heap H locs g → lv_has ls 5 [(0, .ref (h 0)), (1, .int x1)] → W p l e rm6_cuts s m args below meth c H locs 0 0 Q (F0 m 0 ls []) := by
  have hx := C.1.1
  have hb := C.1.2.1
  intro x1 g H locs ls hf hz hl
  unfold f6_cuts at hf
  refine lv_aload_n hx hb dX6_cuts_0 rfl (lv_at hl 0 rfl) ?_
  refine lv_iconst (v := (0 : Int32)) hx hb dX6_cuts_1 (by decide) ?_
  obtain ⟨g18, eg18, hf⟩ := nx_elim hf
  refine p_RX6_74_model C hz eg18 dX6_cuts_2 (fun H locs hz => ?_)
  refine lv_iload_n hx hb dX6_cuts_5 rfl (lv_at hl 1 rfl) ?_
  obtain ⟨r21, g20, hc19, hf⟩ := bd2_elim hf
  refine z_SI (As := [.int x1]) (rest := []) C (c6_isCell hc19) lk_RX6_161 ⟨rfl, rfl, Nat.le_of_ble_eq_true rfl, Nat.le_of_ble_eq_true rfl⟩ ⟨Nat.zero_le _, Nat.zero_le _⟩ rfl (Nat.le_of_ble_eq_true rfl) rfl hl.1 dX6_cuts_6 hz (fun H locs hz => ?_)
  refine lv_if_ne (tgt := 14) hx hb dX6_cuts_9 (by decide) (fun c22 => ?_) (fun c22 => ?_)
  · have hf := ite_f hf c22
    refine lv_aload_n hx hb dX6_cuts_14 rfl (lv_at hl 0 rfl) ?_
    refine g_RX6_46_model C hz dX6_cuts_15 ?_
    refine lv_iconst (v := (1 : Int32)) hx hb dX6_cuts_18 (by decide) ?_
    refine lv_iload_n hx hb dX6_cuts_19 rfl (lv_at hl 1 rfl) ?_
    refine lv_iadd hx hb dX6_cuts_20 ?_
    obtain ⟨c23, hf⟩ := ix_elim hf
    refine z_iald C hz a_m_s c23 dX6_cuts_21 ?_
    refine lv_bipush (v := (6 : Int32)) hx hb dX6_cuts_22 (by decide) ?_
    refine lv_icmp_ne (tgt := 30) hx hb dX6_cuts_24 (by decide) (fun c24 => ?_) (fun c24 => ?_)
    · have hf := ite_f hf c24
      refine lv_aload_n hx hb dX6_cuts_30 rfl (lv_at hl 0 rfl) ?_
      obtain ⟨g26, hc25, hf⟩ := bd_elim hf
      refine z_VV (As := []) (rest := []) C (c6_notes hc25) lk_RX6_173 ⟨rfl, rfl, Nat.le_of_ble_eq_true rfl, Nat.le_of_ble_eq_true rfl⟩ ⟨Nat.zero_le _, Nat.zero_le _⟩ o_model rfl rfl (Nat.le_of_ble_eq_true rfl) rfl hl.1 dX6_cuts_31 hz (fun H locs hz => ?_)
      refine lv_iconst (v := (0 : Int32)) hx hb dX6_cuts_34 (by decide) ?_
      refine lv_istore_n (lv' := [(2, .int (0 : Int32)), (0, .ref (h 0)), (1, .int x1)]) hx hb dX6_cuts_35 rfl hl (by decide) rfl (fun ls hl => ?_)
      refine lv_aload_n hx hb dX6_cuts_36 rfl (lv_at hl 1 rfl) ?_
      refine lv_iload_n hx hb dX6_cuts_37 rfl (lv_at hl 2 rfl) ?_
      obtain ⟨r29, g28, hc27, hf⟩ := bd2_elim hf
      refine z_VI (As := [.int x1]) (rest := []) C (c6_lyingIn hc27) lk_RX6_164 ⟨rfl, rfl, Nat.le_of_ble_eq_true rfl, Nat.le_of_ble_eq_true rfl⟩ ⟨Nat.zero_le _, Nat.zero_le _⟩ o_model rfl rfl (Nat.le_of_ble_eq_true rfl) rfl hl.1 dX6_cuts_38 hz (fun H locs hz => ?_)
      refine lv_istore_n (lv' := [(3, .int r29), (2, .int (0 : Int32)), (0, .ref (h 0)), (1, .int x1)]) hx hb dX6_cuts_41 rfl hl (by decide) rfl (fun ls hl => ?_)
      refine lv_iconst (v := (0 : Int32)) hx hb dX6_cuts_42 (by decide) ?_
      refine lv_istore (lv' := [(4, .int (0 : Int32)), (3, .int r29), (2, .int (0 : Int32)), (0, .ref (h 0)), (1, .int x1)]) hx hb dX6_cuts_43 hl (by decide) rfl (fun ls hl => ?_)
      exact w6_cuts_b45 C hR 1000 _ _ _ _ _ _ _ _ hf hz (lv_sub hl [3, 4, 2, 1, 0] rfl)
    · have hf := ite_t hf c24
      refine lv_bipush (v := (-2 : Int32)) hx hb dX6_cuts_27 (by decide) ?_
      exact hR _ _ _ _ _ _ (Option.some.inj hf) hz dX6_cuts_29
  · have hf := ite_t hf c22
    refine lv_iconst (v := (-1 : Int32)) hx hb dX6_cuts_12 (by decide) ?_
    exact hR _ _ _ _ _ _ (Option.some.inj hf) hz dX6_cuts_13
set_option maxHeartbeats 4000000 in
set_option maxRecDepth 100000 in
theorem c6_cuts {l : Launch} {D : va_G} {cI cZ cB : ClassId} {h : Nat → Nat} {x1 : Int32} {g : Sg} {r : Int32} {g1 : Sg} (hf : f6_cuts x1 g = some (r, g1)) : KI l D (tyL cI cZ cB) (wM cI cZ h) yX6_cuts cX6_cuts 5 (some .int) rm6_cuts [.ref (h 0), .int x1] g r g1 := by
  refine KI_mk (own := RX6) (by decide +kernel) rfl (Nat.le_of_ble_eq_true rfl) ?_
  intro p e s m below meth c A Q ls C hR hz hl
  have hl : lv_has ls 5 [(0, .ref (h 0)), (1, .int x1)] := hl
  exact w6_cuts_b0 C hR _ _ _ _ _ hf hz hl
end WK
