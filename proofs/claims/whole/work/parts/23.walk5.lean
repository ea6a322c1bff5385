section WK
variable {p : Program} {l : Launch} {e : Env} {s : State} {m : MethodId} {args : Array Value} {below : List Frame} {meth : Method} {c : Code} {Q : State → Prop} {D : va_G} {cI cZ cB : ClassId} {A : Nat → Prop} {h : Nat → Nat}
abbrev rm5_wordsLeftOf : Room := { frames := 3, cells := 0, slots := 0, locals := 68 }
set_option maxHeartbeats 4000000 in
set_option maxRecDepth 100000 in
theorem w5_wordsLeftOf_b27 {res : Int32 × Sg} {k4 : Int32 → Int32 → Int32 → Sg → Option (Int32 × Sg)} (C : Cx p m c cX5_wordsLeftOf 4 s args RX5 D (tyL cI cZ cB)) (hR : EndI p l e rm5_wordsLeftOf s m args below meth c Q D (wX cI cZ cB h) A cX5_wordsLeftOf res) (hk4 : ∀ (x1 : Int32) (x2 : Int32) (x3 : Int32) (g : Sg) (H : Heap) (locs : List Loc) (ls : Array Slot), k4 x1 x2 x3 g = some res → Zs D (wX cI cZ cB h) A s.heap H locs g → lv_has ls 4 [(0, .ref (h 134)), (1, .int x1), (2, .int x2), (3, .int x3)] → W p l e rm5_wordsLeftOf s m args below meth c H locs 0 0 Q (F0 m 4 ls [])) : ∀ (x1 : Int32) (x2 : Int32) (x3 : Int32) (g : Sg) (H : Heap) (locs : List Loc) (ls : Array Slot), f5_wordsLeftOf_b27 k4 x1 x2 x3 g = some res → Zs D (wX cI cZ cB h) A s.heap H locs g → lv_has ls 4 [(0, .ref (h 134)), (1, .int x1), (2, .int x2), (3, .int x3)] → W p l e rm5_wordsLeftOf s m args below meth c H locs 0 0 Q (F0 m 27 ls []) := by
  have hx := C.1.1
  have hb := C.1.2.1
  intro x1 x2 x3 g H locs ls hf hz hl
  unfold f5_wordsLeftOf_b27 at hf
  obtain ⟨v1, ev1, hf⟩ := nx_elim hf
  refine lv_iinc (v := v1) (lv' := [(3, .int v1), (0, .ref (h 134)), (1, .int x1), (2, .int x2)]) hx hb dX5_wordsLeftOf_27 hl (k := 3) rfl (by rw [ev1]; rfl) (by decide) rfl (fun ls hl => ?_)
  refine lv_goto (tgt := 4) hx hb dX5_wordsLeftOf_30 (by decide) ?_
  exact hk4 _ _ _ _ _ _ _ hf hz (lv_sub hl [1, 2, 3, 0] rfl)
set_option maxHeartbeats 4000000 in
set_option maxRecDepth 100000 in
theorem w5_wordsLeftOf_b4 {res : Int32 × Sg} (C : Cx p m c cX5_wordsLeftOf 4 s args RX5 D (tyL cI cZ cB)) (hR : EndI p l e rm5_wordsLeftOf s m args below meth c Q D (wX cI cZ cB h) A cX5_wordsLeftOf res) : ∀ n : Nat, ∀ (x1 : Int32) (x2 : Int32) (x3 : Int32) (g : Sg) (H : Heap) (locs : List Loc) (ls : Array Slot), f5_wordsLeftOf_b4 n x1 x2 x3 g = some res → Zs D (wX cI cZ cB h) A s.heap H locs g → lv_has ls 4 [(0, .ref (h 134)), (1, .int x1), (2, .int x2), (3, .int x3)] → W p l e rm5_wordsLeftOf s m args below meth c H locs 0 0 Q (F0 m 4 ls []) := by
  have hx := C.1.1
  have hb := C.1.2.1
  intro n
  induction n with
  | zero =>
    intro x1 x2 x3 g H locs ls hf hz hl
    cases hf
  | succ n ih =>
    intro x1 x2 x3 g H locs ls hf hz hl
    rw [f5_wordsLeftOf_b4] at hf
    refine lv_iload_n hx hb dX5_wordsLeftOf_4 rfl (lv_at hl 3 rfl) ?_
    refine lv_bipush (v := (8 : Int32)) hx hb dX5_wordsLeftOf_5 (by decide) ?_
    refine lv_icmp_ge (tgt := 33) hx hb dX5_wordsLeftOf_7 (by decide) (fun c2 => ?_) (fun c2 => ?_)
    · have hf := ite_t hf c2
      refine lv_iload_n hx hb dX5_wordsLeftOf_33 rfl (lv_at hl 2 rfl) ?_
      exact hR _ _ _ _ _ _ (Option.some.inj hf) hz dX5_wordsLeftOf_34
    · have hf := ite_f hf c2
      refine lv_iload_n hx hb dX5_wordsLeftOf_10 rfl (lv_at hl 1 rfl) ?_
      refine lv_iload_n hx hb dX5_wordsLeftOf_11 rfl (lv_at hl 3 rfl) ?_
      obtain ⟨r5, g4, hc3, hf⟩ := bd2_elim hf
      refine z_SI (As := [.int x1, .int x3]) (rest := []) C (c5_holds hc3) lk_RX5_193 ⟨rfl, rfl, Nat.le_of_ble_eq_true rfl, Nat.le_of_ble_eq_true rfl⟩ ⟨Nat.zero_le _, Nat.zero_le _⟩ rfl (Nat.le_of_ble_eq_true rfl) rfl hl.1 dX5_wordsLeftOf_12 hz (fun H locs hz => ?_)
      refine lv_if_eq (tgt := 27) hx hb dX5_wordsLeftOf_15 (by decide) (fun c6 => ?_) (fun c6 => ?_)
      · have hf := ite_t hf c6
        exact w5_wordsLeftOf_b27 C hR ih _ _ _ _ _ _ _ hf hz (lv_sub hl [0, 1, 2, 3] rfl)
      · have hf := ite_f hf c6
        refine lv_iload_n hx hb dX5_wordsLeftOf_18 rfl (lv_at hl 2 rfl) ?_
        refine lv_aload_n hx hb dX5_wordsLeftOf_19 rfl (lv_at hl 0 rfl) ?_
        refine lv_iload_n hx hb dX5_wordsLeftOf_20 rfl (lv_at hl 3 rfl) ?_
        refine lv_iconst (v := (0 : Int32)) hx hb dX5_wordsLeftOf_21 (by decide) ?_
        obtain ⟨r9, g8, hc7, hf⟩ := bd2_elim hf
        refine z_VI (As := [.int x3, .int (0 : Int32)]) (rest := [.int x2]) C (c5_leftIn hc7) lk_RX5_127 ⟨rfl, rfl, Nat.le_of_ble_eq_true rfl, Nat.le_of_ble_eq_true rfl⟩ ⟨Nat.zero_le _, Nat.zero_le _⟩ o_moss rfl rfl (Nat.le_of_ble_eq_true rfl) rfl hl.1 dX5_wordsLeftOf_22 hz (fun H locs hz => ?_)
        refine lv_iadd hx hb dX5_wordsLeftOf_25 ?_
        obtain ⟨v10, ev10, hf⟩ := nx_elim hf
        refine z_nm ev10 ?_
        refine lv_istore_n (lv' := [(2, .int v10), (0, .ref (h 134)), (1, .int x1), (3, .int x3)]) hx hb dX5_wordsLeftOf_26 rfl hl (by decide) rfl (fun ls hl => ?_)
        exact w5_wordsLeftOf_b27 C hR ih _ _ _ _ _ _ _ hf hz (lv_sub hl [1, 2, 0, 3] rfl)
set_option maxHeartbeats 4000000 in
set_option maxRecDepth 100000 in
theorem w5_wordsLeftOf_b0 {res : Int32 × Sg} (C : Cx p m c cX5_wordsLeftOf 4 s args RX5 D (tyL cI cZ cB)) (hR : EndI p l e rm5_wordsLeftOf s m args below meth c Q D (wX cI cZ cB h) A cX5_wordsLeftOf res) : ∀ (x1 : Int32) (g : Sg) (H : Heap) (locs : List Loc) (ls : Array Slot), f5_wordsLeftOf x1 g = some res → Zs D (wX cI cZ cB h) A s.heap H locs g → lv_has ls 4 [(0, .ref (h 134)), (1, .int x1)] → W p l e rm5_wordsLeftOf s m args below meth c H locs 0 0 Q (F0 m 0 ls []) := by
  have hx := C.1.1
  have hb := C.1.2.1
  intro x1 g H locs ls hf hz hl
  unfold f5_wordsLeftOf at hf
  refine lv_iconst (v := (0 : Int32)) hx hb dX5_wordsLeftOf_0 (by decide) ?_
  refine lv_istore_n (lv' := [(2, .int (0 : Int32)), (0, .ref (h 134)), (1, .int x1)]) hx hb dX5_wordsLeftOf_1 rfl hl (by decide) rfl (fun ls hl => ?_)
  refine lv_iconst (v := (0 : Int32)) hx hb dX5_wordsLeftOf_2 (by decide) ?_
  refine lv_istore_n (lv' := [(3, .int (0 : Int32)), (2, .int (0 : Int32)), (0, .ref (h 134)), (1, .int x1)]) hx hb dX5_wordsLeftOf_3 rfl hl (by decide) rfl (fun ls hl => ?_)
  exact w5_wordsLeftOf_b4 C hR 1000 _ _ _ _ _ _ _ hf hz (lv_sub hl [2, 3, 1, 0] rfl)
set_option maxHeartbeats 4000000 in
set_option maxRecDepth 100000 in
theorem c5_wordsLeftOf {l : Launch} {D : va_G} {cI cZ cB : ClassId} {h : Nat → Nat} {x1 : Int32} {g : Sg} {r : Int32} {g1 : Sg} (hf : f5_wordsLeftOf x1 g = some (r, g1)) : KI l D (tyL cI cZ cB) (wX cI cZ cB h) yX5_wordsLeftOf cX5_wordsLeftOf 4 (some .int) rm5_wordsLeftOf [.ref (h 134), .int x1] g r g1 := by
  refine KI_mk (own := RX5) (by decide +kernel) rfl (Nat.le_of_ble_eq_true rfl) ?_
  intro p e s m below meth c A Q ls C hR hz hl
  have hl : lv_has ls 4 [(0, .ref (h 134)), (1, .int x1)] := hl
  exact w5_wordsLeftOf_b0 C hR _ _ _ _ _ hf hz hl
abbrev rm5_bestKept : Room := { frames := 4, cells := 0, slots := 0, locals := 91 }
set_option maxHeartbeats 4000000 in
set_option maxRecDepth 100000 in
theorem w5_bestKept_b93 {res : Int32 × Sg} {k45 : Int32 → Int32 → Int32 → Int32 → Sg → Option (Int32 × Sg)} (C : Cx p m c cX5_bestKept 6 s args RX5 D (tyL cI cZ cB)) (hR : EndI p l e rm5_bestKept s m args below meth c Q D (wX cI cZ cB h) A cX5_bestKept res) (hk45 : ∀ (x2 : Int32) (x3 : Int32) (x4 : Int32) (x5 : Int32) (g : Sg) (H : Heap) (locs : List Loc) (ls : Array Slot), k45 x2 x3 x4 x5 g = some res → Zs D (wX cI cZ cB h) A s.heap H locs g → lv_has ls 6 [(0, .ref (h 134)), (2, .int x2), (3, .int x3), (4, .int x4), (5, .int x5)] → W p l e rm5_bestKept s m args below meth c H locs 0 0 Q (F0 m 45 ls [])) : ∀ (x2 : Int32) (x3 : Int32) (x4 : Int32) (x5 : Int32) (g : Sg) (H : Heap) (locs : List Loc) (ls : Array Slot), f5_bestKept_b93 k45 x2 x3 x4 x5 g = some res → Zs D (wX cI cZ cB h) A s.heap H locs g → lv_has ls 6 [(0, .ref (h 134)), (2, .int x2), (3, .int x3), (4, .int x4), (5, .int x5)] → W p l e rm5_bestKept s m args below meth c H locs 0 0 Q (F0 m 93 ls []) := by
  have hx := C.1.1
  have hb := C.1.2.1
  intro x2 x3 x4 x5 g H locs ls hf hz hl
  unfold f5_bestKept_b93 at hf
  obtain ⟨v1, ev1, hf⟩ := nx_elim hf
  refine lv_iinc (v := v1) (lv' := [(5, .int v1), (0, .ref (h 134)), (2, .int x2), (3, .int x3), (4, .int x4)]) hx hb dX5_bestKept_93 hl (k := 4) rfl (by rw [ev1]; rfl) (by decide) rfl (fun ls hl => ?_)
  refine lv_goto (tgt := 45) hx hb dX5_bestKept_96 (by decide) ?_
  exact hk45 _ _ _ _ _ _ _ _ hf hz (lv_sub hl [1, 2, 3, 4, 0] rfl)
set_option maxHeartbeats 4000000 in
set_option maxRecDepth 100000 in
theorem w5_bestKept_b45 {res : Int32 × Sg} (C : Cx p m c cX5_bestKept 6 s args RX5 D (tyL cI cZ cB)) (hR : EndI p l e rm5_bestKept s m args below meth c Q D (wX cI cZ cB h) A cX5_bestKept res) : ∀ n : Nat, ∀ (x2 : Int32) (x3 : Int32) (x4 : Int32) (x5 : Int32) (g : Sg) (H : Heap) (locs : List Loc) (ls : Array Slot), f5_bestKept_b45 n x2 x3 x4 x5 g = some res → Zs D (wX cI cZ cB h) A s.heap H locs g → lv_has ls 6 [(0, .ref (h 134)), (2, .int x2), (3, .int x3), (4, .int x4), (5, .int x5)] → W p l e rm5_bestKept s m args below meth c H locs 0 0 Q (F0 m 45 ls []) := by
  have hx := C.1.1
  have hb := C.1.2.1
  intro n
  induction n with
  | zero =>
    intro x2 x3 x4 x5 g H locs ls hf hz hl
    cases hf
  | succ n ih =>
    intro x2 x3 x4 x5 g H locs ls hf hz hl
    rw [f5_bestKept_b45] at hf
    refine lv_iload hx hb dX5_bestKept_45 (lv_at hl 4 rfl) ?_
    refine lv_sipush (v := (256 : Int32)) hx hb dX5_bestKept_47 (by decide) ?_
    refine lv_icmp_ge (tgt := 99) hx hb dX5_bestKept_50 (by decide) (fun c2 => ?_) (fun c2 => ?_)
    · have hf := ite_t hf c2
      refine lv_iload_n hx hb dX5_bestKept_99 rfl (lv_at hl 2 rfl) ?_
      exact hR _ _ _ _ _ _ (Option.some.inj hf) hz dX5_bestKept_100
    · have hf := ite_f hf c2
      refine lv_iload hx hb dX5_bestKept_53 (lv_at hl 4 rfl) ?_
      refine lv_iload_n hx hb dX5_bestKept_55 rfl (lv_at hl 1 rfl) ?_
      refine lv_iconst (v := (-1 : Int32)) hx hb dX5_bestKept_56 (by decide) ?_
      refine lv_ixor hx hb dX5_bestKept_57 ?_
      refine lv_iand hx hb dX5_bestKept_58 ?_
      refine lv_if_ne (tgt := 93) hx hb dX5_bestKept_59 (by decide) (fun c3 => ?_) (fun c3 => ?_)
      · have hf := ite_f hf c3
        exact w5_bestKept_b93 C hR ih _ _ _ _ _ _ _ _ hf hz (lv_sub hl [0, 1, 2, 3, 4] rfl)
      · have hf := ite_t hf c3
        refine lv_aload_n hx hb dX5_bestKept_62 rfl (lv_at hl 0 rfl) ?_
        refine lv_iload hx hb dX5_bestKept_63 (lv_at hl 4 rfl) ?_
        obtain ⟨r6, g5, hc4, hf⟩ := bd2_elim hf
        refine z_VI (As := [.int x5]) (rest := []) C (c5_clashesWithin hc4) lk_RX5_280 ⟨rfl, rfl, Nat.le_of_ble_eq_true rfl, Nat.le_of_ble_eq_true rfl⟩ ⟨Nat.zero_le _, Nat.zero_le _⟩ o_moss rfl rfl (Nat.le_of_ble_eq_true rfl) rfl hl.1 dX5_bestKept_65 hz (fun H locs hz => ?_)
        refine lv_if_ne (tgt := 93) hx hb dX5_bestKept_68 (by decide) (fun c7 => ?_) (fun c7 => ?_)
        · have hf := ite_f hf c7
          exact w5_bestKept_b93 C hR ih _ _ _ _ _ _ _ _ hf hz (lv_sub hl [0, 1, 2, 3, 4] rfl)
        · have hf := ite_t hf c7
          refine lv_aload_n hx hb dX5_bestKept_71 rfl (lv_at hl 0 rfl) ?_
          refine lv_iload hx hb dX5_bestKept_72 (lv_at hl 4 rfl) ?_
          obtain ⟨r10, g9, hc8, hf⟩ := bd2_elim hf
          refine z_VI (As := [.int x5]) (rest := []) C (c5_wordsLeftOf hc8) lk_RX5_212 ⟨rfl, rfl, Nat.le_of_ble_eq_true rfl, Nat.le_of_ble_eq_true rfl⟩ ⟨Nat.zero_le _, Nat.zero_le _⟩ o_moss rfl rfl (Nat.le_of_ble_eq_true rfl) rfl hl.1 dX5_bestKept_74 hz (fun H locs hz => ?_)
          refine lv_iload hx hb dX5_bestKept_77 (lv_at hl 3 rfl) ?_
          refine lv_icmp_le (tgt := 93) hx hb dX5_bestKept_79 (by decide) (fun c11 => ?_) (fun c11 => ?_)
          · have hf := ite_t hf c11
            exact w5_bestKept_b93 C hR ih _ _ _ _ _ _ _ _ hf hz (lv_sub hl [0, 1, 2, 3, 4] rfl)
          · have hf := ite_f hf c11
            refine lv_iload hx hb dX5_bestKept_82 (lv_at hl 4 rfl) ?_
            refine lv_istore_n (lv' := [(3, .int x5), (0, .ref (h 134)), (2, .int x2), (4, .int x4), (5, .int x5)]) hx hb dX5_bestKept_84 rfl hl (by decide) rfl (fun ls hl => ?_)
            refine lv_aload_n hx hb dX5_bestKept_85 rfl (lv_at hl 1 rfl) ?_
            refine lv_iload hx hb dX5_bestKept_86 (lv_at hl 4 rfl) ?_
            obtain ⟨r14, g13, hc12, hf⟩ := bd2_elim hf
            refine z_VI (As := [.int x5]) (rest := []) C (c5_wordsLeftOf hc12) lk_RX5_212 ⟨rfl, rfl, Nat.le_of_ble_eq_true rfl, Nat.le_of_ble_eq_true rfl⟩ ⟨Nat.zero_le _, Nat.zero_le _⟩ o_moss rfl rfl (Nat.le_of_ble_eq_true rfl) rfl hl.1 dX5_bestKept_88 hz (fun H locs hz => ?_)
            refine lv_istore (lv' := [(4, .int r14), (3, .int x5), (0, .ref (h 134)), (2, .int x2), (5, .int x5)]) hx hb dX5_bestKept_91 hl (by decide) rfl (fun ls hl => ?_)
            exact w5_bestKept_b93 C hR ih _ _ _ _ _ _ _ _ hf hz (lv_sub hl [2, 3, 1, 0, 4] rfl)
set_option maxHeartbeats 4000000 in
set_option maxRecDepth 100000 in
theorem w5_bestKept_b31 {res : Int32 × Sg} {k10 : Int32 → Int32 → Int32 → Sg → Option (Int32 × Sg)} (C : Cx p m c cX5_bestKept 6 s args RX5 D (tyL cI cZ cB)) (hR : EndI p l e rm5_bestKept s m args below meth c Q D (wX cI cZ cB h) A cX5_bestKept res) (hk10 : ∀ (x1 : Int32) (x2 : Int32) (x3 : Int32) (g : Sg) (H : Heap) (locs : List Loc) (ls : Array Slot), k10 x1 x2 x3 g = some res → Zs D (wX cI cZ cB h) A s.heap H locs g → lv_has ls 6 [(0, .ref (h 134)), (1, .int x1), (2, .int x2), (3, .int x3)] → W p l e rm5_bestKept s m args below meth c H locs 0 0 Q (F0 m 10 ls [])) : ∀ (x1 : Int32) (x2 : Int32) (x3 : Int32) (g : Sg) (H : Heap) (locs : List Loc) (ls : Array Slot), f5_bestKept_b31 k10 x1 x2 x3 g = some res → Zs D (wX cI cZ cB h) A s.heap H locs g → lv_has ls 6 [(0, .ref (h 134)), (1, .int x1), (2, .int x2), (3, .int x3)] → W p l e rm5_bestKept s m args below meth c H locs 0 0 Q (F0 m 31 ls []) := by
  have hx := C.1.1
  have hb := C.1.2.1
  intro x1 x2 x3 g H locs ls hf hz hl
  unfold f5_bestKept_b31 at hf
  obtain ⟨v15, ev15, hf⟩ := nx_elim hf
  refine lv_iinc (v := v15) (lv' := [(3, .int v15), (0, .ref (h 134)), (1, .int x1), (2, .int x2)]) hx hb dX5_bestKept_31 hl (k := 3) rfl (by rw [ev15]; rfl) (by decide) rfl (fun ls hl => ?_)
  refine lv_goto (tgt := 10) hx hb dX5_bestKept_34 (by decide) ?_
  exact hk10 _ _ _ _ _ _ _ hf hz (lv_sub hl [1, 2, 3, 0] rfl)
set_option maxHeartbeats 4000000 in
set_option maxRecDepth 100000 in
theorem w5_bestKept_b10 {res : Int32 × Sg} (C : Cx p m c cX5_bestKept 6 s args RX5 D (tyL cI cZ cB)) (hR : EndI p l e rm5_bestKept s m args below meth c Q D (wX cI cZ cB h) A cX5_bestKept res) : ∀ n : Nat, ∀ (x1 : Int32) (x2 : Int32) (x3 : Int32) (g : Sg) (H : Heap) (locs : List Loc) (ls : Array Slot), f5_bestKept_b10 n x1 x2 x3 g = some res → Zs D (wX cI cZ cB h) A s.heap H locs g → lv_has ls 6 [(0, .ref (h 134)), (1, .int x1), (2, .int x2), (3, .int x3)] → W p l e rm5_bestKept s m args below meth c H locs 0 0 Q (F0 m 10 ls []) := by
  have hx := C.1.1
  have hb := C.1.2.1
  intro n
  induction n with
  | zero =>
    intro x1 x2 x3 g H locs ls hf hz hl
    cases hf
  | succ n ih =>
    intro x1 x2 x3 g H locs ls hf hz hl
    rw [f5_bestKept_b10] at hf
    refine lv_iload_n hx hb dX5_bestKept_10 rfl (lv_at hl 3 rfl) ?_
    refine lv_bipush (v := (8 : Int32)) hx hb dX5_bestKept_11 (by decide) ?_
    refine lv_icmp_ge (tgt := 37) hx hb dX5_bestKept_13 (by decide) (fun c16 => ?_) (fun c16 => ?_)
    · have hf := ite_t hf c16
      refine lv_iconst (v := (0 : Int32)) hx hb dX5_bestKept_37 (by decide) ?_
      refine lv_istore_n (lv' := [(3, .int (0 : Int32)), (0, .ref (h 134)), (1, .int x1), (2, .int x2)]) hx hb dX5_bestKept_38 rfl hl (by decide) rfl (fun ls hl => ?_)
      refine lv_iconst (v := (0 : Int32)) hx hb dX5_bestKept_39 (by decide) ?_
      refine lv_istore (lv' := [(4, .int (0 : Int32)), (3, .int (0 : Int32)), (0, .ref (h 134)), (1, .int x1), (2, .int x2)]) hx hb dX5_bestKept_40 hl (by decide) rfl (fun ls hl => ?_)
      refine lv_iconst (v := (0 : Int32)) hx hb dX5_bestKept_42 (by decide) ?_
      refine lv_istore (lv' := [(5, .int (0 : Int32)), (4, .int (0 : Int32)), (3, .int (0 : Int32)), (0, .ref (h 134)), (1, .int x1), (2, .int x2)]) hx hb dX5_bestKept_43 hl (by decide) rfl (fun ls hl => ?_)
      exact w5_bestKept_b45 C hR 1000 _ _ _ _ _ _ _ _ hf hz (lv_sub hl [3, 5, 2, 1, 0] rfl)
    · have hf := ite_f hf c16
      refine lv_aload_n hx hb dX5_bestKept_16 rfl (lv_at hl 0 rfl) ?_
      refine lv_iload_n hx hb dX5_bestKept_17 rfl (lv_at hl 3 rfl) ?_
      refine lv_iload_n hx hb dX5_bestKept_18 rfl (lv_at hl 1 rfl) ?_
      obtain ⟨r19, g18, hc17, hf⟩ := bd2_elim hf
      refine z_VI (As := [.int x3, .int x1]) (rest := []) C (c5_mayBeDone hc17) lk_RX5_178 ⟨rfl, rfl, Nat.le_of_ble_eq_true rfl, Nat.le_of_ble_eq_true rfl⟩ ⟨Nat.zero_le _, Nat.zero_le _⟩ o_moss rfl rfl (Nat.le_of_ble_eq_true rfl) rfl hl.1 dX5_bestKept_19 hz (fun H locs hz => ?_)
      refine lv_if_eq (tgt := 31) hx hb dX5_bestKept_22 (by decide) (fun c20 => ?_) (fun c20 => ?_)
      · have hf := ite_t hf c20
        exact w5_bestKept_b31 C hR ih _ _ _ _ _ _ _ hf hz (lv_sub hl [0, 1, 2, 3] rfl)
      · have hf := ite_f hf c20
        refine lv_iload_n hx hb dX5_bestKept_25 rfl (lv_at hl 2 rfl) ?_
        refine lv_iconst (v := (1 : Int32)) hx hb dX5_bestKept_26 (by decide) ?_
        refine lv_iload_n hx hb dX5_bestKept_27 rfl (lv_at hl 3 rfl) ?_
        refine lv_ishl hx hb dX5_bestKept_28 ?_
        refine lv_ior hx hb dX5_bestKept_29 ?_
        obtain ⟨v21, ev21, hf⟩ := nx_elim hf
        refine z_nm ev21 ?_
        refine lv_istore_n (lv' := [(2, .int v21), (0, .ref (h 134)), (1, .int x1), (3, .int x3)]) hx hb dX5_bestKept_30 rfl hl (by decide) rfl (fun ls hl => ?_)
        exact w5_bestKept_b31 C hR ih _ _ _ _ _ _ _ hf hz (lv_sub hl [1, 2, 0, 3] rfl)
set_option maxHeartbeats 4000000 in
set_option maxRecDepth 100000 in
theorem w5_bestKept_b0 {res : Int32 × Sg} (C : Cx p m c cX5_bestKept 6 s args RX5 D (tyL cI cZ cB)) (hR : EndI p l e rm5_bestKept s m args below meth c Q D (wX cI cZ cB h) A cX5_bestKept res) : ∀ (g : Sg) (H : Heap) (locs : List Loc) (ls : Array Slot), f5_bestKept g = some res → Zs D (wX cI cZ cB h) A s.heap H locs g → lv_has ls 6 [(0, .ref (h 134))] → W p l e rm5_bestKept s m args below meth c H locs 0 0 Q (F0 m 0 ls []) := by
  have hx := C.1.1
  have hb := C.1.2.1
  intro g H locs ls hf hz hl
  unfold f5_bestKept at hf
  refine lv_aload_n hx hb dX5_bestKept_0 rfl (lv_at hl 0 rfl) ?_
  refine lv_iconst (v := (2 : Int32)) hx hb dX5_bestKept_1 (by decide) ?_
  obtain ⟨r24, g23, hc22, hf⟩ := bd2_elim hf
  refine z_VI (As := [.int (2 : Int32)]) (rest := []) C (c5_thoseThatAre hc22) lk_RX5_153 ⟨rfl, rfl, Nat.le_of_ble_eq_true rfl, Nat.le_of_ble_eq_true rfl⟩ ⟨Nat.zero_le _, Nat.zero_le _⟩ o_moss rfl rfl (Nat.le_of_ble_eq_true rfl) rfl hl.1 dX5_bestKept_2 hz (fun H locs hz => ?_)
  refine lv_istore_n (lv' := [(1, .int r24), (0, .ref (h 134))]) hx hb dX5_bestKept_5 rfl hl (by decide) rfl (fun ls hl => ?_)
  refine lv_iconst (v := (0 : Int32)) hx hb dX5_bestKept_6 (by decide) ?_
  refine lv_istore_n (lv' := [(2, .int (0 : Int32)), (1, .int r24), (0, .ref (h 134))]) hx hb dX5_bestKept_7 rfl hl (by decide) rfl (fun ls hl => ?_)
  refine lv_iconst (v := (0 : Int32)) hx hb dX5_bestKept_8 (by decide) ?_
  refine lv_istore_n (lv' := [(3, .int (0 : Int32)), (2, .int (0 : Int32)), (1, .int r24), (0, .ref (h 134))]) hx hb dX5_bestKept_9 rfl hl (by decide) rfl (fun ls hl => ?_)
  exact w5_bestKept_b10 C hR 1000 _ _ _ _ _ _ _ hf hz (lv_sub hl [3, 2, 1, 0] rfl)
set_option maxHeartbeats 4000000 in
set_option maxRecDepth 100000 in
theorem c5_bestKept {l : Launch} {D : va_G} {cI cZ cB : ClassId} {h : Nat → Nat} {g : Sg} {r : Int32} {g1 : Sg} (hf : f5_bestKept g = some (r, g1)) : KI l D (tyL cI cZ cB) (wX cI cZ cB h) yX5_bestKept cX5_bestKept 6 (some .int) rm5_bestKept [.ref (h 134)] g r g1 := by
  refine KI_mk (own := RX5) (by decide +kernel) rfl (Nat.le_of_ble_eq_true rfl) ?_
  intro p e s m below meth c A Q ls C hR hz hl
  have hl : lv_has ls 6 [(0, .ref (h 134))] := hl
  exact w5_bestKept_b0 C hR _ _ _ _ hf hz hl
abbrev rm5_kept : Room := { frames := 5, cells := 0, slots := 0, locals := 116 }
set_option maxHeartbeats 4000000 in
set_option maxRecDepth 100000 in
theorem w5_kept_b0 {res : Int32 × Sg} (C : Cx p m c cX5_kept 2 s args RX5 D (tyL cI cZ cB)) (hR : EndI p l e rm5_kept s m args below meth c Q D (wX cI cZ cB h) A cX5_kept res) : ∀ (x1 : Int32) (g : Sg) (H : Heap) (locs : List Loc) (ls : Array Slot), f5_kept x1 g = some res → Zs D (wX cI cZ cB h) A s.heap H locs g → lv_has ls 2 [(0, .ref (h 134)), (1, .int x1)] → W p l e rm5_kept s m args below meth c H locs 0 0 Q (F0 m 0 ls []) := by
  have hx := C.1.1
  have hb := C.1.2.1
  intro x1 g H locs ls hf hz hl
  unfold f5_kept at hf
  refine lv_iload_n hx hb dX5_kept_0 rfl (lv_at hl 1 rfl) ?_
  by_cases c1 : x1 = (0 : Int32)
  · have hf := ite_t hf c1
    refine lv_lookup (off := 27) (tgt := 28) hx hb dX5_kept_1 (by decide) (by rw [c1]; decide) (by decide) ?_
    refine lv_aload_n hx hb dX5_kept_28 rfl (lv_at hl 0 rfl) ?_
    obtain ⟨r4, g3, hc2, hf⟩ := bd2_elim hf
    refine z_VI (As := []) (rest := []) C (c5_bestKept hc2) lk_RX5_209 ⟨rfl, rfl, Nat.le_of_ble_eq_true rfl, Nat.le_of_ble_eq_true rfl⟩ ⟨Nat.zero_le _, Nat.zero_le _⟩ o_moss rfl rfl (Nat.le_of_ble_eq_true rfl) rfl hl.1 dX5_kept_29 hz (fun H locs hz => ?_)
    exact hR _ _ _ _ _ _ (Option.some.inj hf) hz dX5_kept_32
  have hf := ite_f hf c1
  by_cases c5 : x1 = (1 : Int32)
  · have hf := ite_t hf c5
    refine lv_lookup (off := 32) (tgt := 33) hx hb dX5_kept_1 (by decide) (by rw [c5]; decide) (by decide) ?_
    refine lv_aload_n hx hb dX5_kept_33 rfl (lv_at hl 0 rfl) ?_
    refine lv_aload_n hx hb dX5_kept_34 rfl (lv_at hl 0 rfl) ?_
    obtain ⟨r8, g7, hc6, hf⟩ := bd2_elim hf
    refine z_VI (As := []) (rest := [.ref (h 134)]) C (c5_bestKept hc6) lk_RX5_209 ⟨rfl, rfl, Nat.le_of_ble_eq_true rfl, Nat.le_of_ble_eq_true rfl⟩ ⟨Nat.zero_le _, Nat.zero_le _⟩ o_moss rfl rfl (Nat.le_of_ble_eq_true rfl) rfl hl.1 dX5_kept_35 hz (fun H locs hz => ?_)
    obtain ⟨r11, g10, hc9, hf⟩ := bd2_elim hf
    refine z_VI (As := [.int r8]) (rest := []) C (c5_wordsLeftOf hc9) lk_RX5_212 ⟨rfl, rfl, Nat.le_of_ble_eq_true rfl, Nat.le_of_ble_eq_true rfl⟩ ⟨Nat.zero_le _, Nat.zero_le _⟩ o_moss rfl rfl (Nat.le_of_ble_eq_true rfl) rfl hl.1 dX5_kept_38 hz (fun H locs hz => ?_)
    exact hR _ _ _ _ _ _ (Option.some.inj hf) hz dX5_kept_41
  have hf := ite_f hf c5
  refine lv_lookup (off := 41) (tgt := 42) hx hb dX5_kept_1 (by decide) (by show Op.lookupswitch.offset [(0, 27), (1, 32)] 41 _ = _; rw [lv_osw (a := 0) c1 rfl, lv_osw (a := 1) c5 rfl]; rfl) (by decide) ?_
  refine lv_iconst (v := (-1 : Int32)) hx hb dX5_kept_42 (by decide) ?_
  exact hR _ _ _ _ _ _ (Option.some.inj hf) hz dX5_kept_43
set_option maxHeartbeats 4000000 in
set_option maxRecDepth 100000 in
theorem c5_kept {l : Launch} {D : va_G} {cI cZ cB : ClassId} {h : Nat → Nat} {x1 : Int32} {g : Sg} {r : Int32} {g1 : Sg} (hf : f5_kept x1 g = some (r, g1)) : KI l D (tyL cI cZ cB) (wX cI cZ cB h) yX5_kept cX5_kept 2 (some .int) rm5_kept [.ref (h 134), .int x1] g r g1 := by
  refine KI_mk (own := RX5) (by decide +kernel) rfl (Nat.le_of_ble_eq_true rfl) ?_
  intro p e s m below meth c A Q ls C hR hz hl
  have hl : lv_has ls 2 [(0, .ref (h 134)), (1, .int x1)] := hl
  exact w5_kept_b0 C hR _ _ _ _ _ hf hz hl
abbrev rm5_earliestDue : Room := { frames := 1, cells := 0, slots := 0, locals := 21 }
set_option maxHeartbeats 4000000 in
set_option maxRecDepth 100000 in
theorem w5_earliestDue_b53 {res : Int32 × Sg} {k9 : Int32 → Int32 → Int32 → Int32 → Sg → Option (Int32 × Sg)} (C : Cx p m c cX5_earliestDue 5 s args RX5 D (tyL cI cZ cB)) (hR : EndI p l e rm5_earliestDue s m args below meth c Q D (wX cI cZ cB h) A cX5_earliestDue res) (hk9 : ∀ (x1 : Int32) (x2 : Int32) (x3 : Int32) (x4 : Int32) (g : Sg) (H : Heap) (locs : List Loc) (ls : Array Slot), k9 x1 x2 x3 x4 g = some res → Zs D (wX cI cZ cB h) A s.heap H locs g → lv_has ls 5 [(0, .ref (h 134)), (1, .int x1), (2, .int x2), (3, .int x3), (4, .int x4)] → W p l e rm5_earliestDue s m args below meth c H locs 0 0 Q (F0 m 9 ls [])) : ∀ (x1 : Int32) (x2 : Int32) (x3 : Int32) (x4 : Int32) (g : Sg) (H : Heap) (locs : List Loc) (ls : Array Slot), f5_earliestDue_b53 k9 x1 x2 x3 x4 g = some res → Zs D (wX cI cZ cB h) A s.heap H locs g → lv_has ls 5 [(0, .ref (h 134)), (1, .int x1), (2, .int x2), (3, .int x3), (4, .int x4)] → W p l e rm5_earliestDue s m args below meth c H locs 0 0 Q (F0 m 53 ls []) := by
  have hx := C.1.1
  have hb := C.1.2.1
  intro x1 x2 x3 x4 g H locs ls hf hz hl
  unfold f5_earliestDue_b53 at hf
  obtain ⟨v1, ev1, hf⟩ := nx_elim hf
  refine lv_iinc (v := v1) (lv' := [(4, .int v1), (0, .ref (h 134)), (1, .int x1), (2, .int x2), (3, .int x3)]) hx hb dX5_earliestDue_53 hl (k := 4) rfl (by rw [ev1]; rfl) (by decide) rfl (fun ls hl => ?_)
  refine lv_goto (tgt := 9) hx hb dX5_earliestDue_56 (by decide) ?_
  exact hk9 _ _ _ _ _ _ _ _ hf hz (lv_sub hl [1, 2, 3, 4, 0] rfl)
set_option maxHeartbeats 4000000 in
set_option maxRecDepth 100000 in
theorem w5_earliestDue_b9 {res : Int32 × Sg} (C : Cx p m c cX5_earliestDue 5 s args RX5 D (tyL cI cZ cB)) (hR : EndI p l e rm5_earliestDue s m args below meth c Q D (wX cI cZ cB h) A cX5_earliestDue res) : ∀ n : Nat, ∀ (x1 : Int32) (x2 : Int32) (x3 : Int32) (x4 : Int32) (g : Sg) (H : Heap) (locs : List Loc) (ls : Array Slot), f5_earliestDue_b9 n x1 x2 x3 x4 g = some res → Zs D (wX cI cZ cB h) A s.heap H locs g → lv_has ls 5 [(0, .ref (h 134)), (1, .int x1), (2, .int x2), (3, .int x3), (4, .int x4)] → W p l e rm5_earliestDue s m args below meth c H locs 0 0 Q (F0 m 9 ls []) := by
  have hx := C.1.1
  have hb := C.1.2.1
  intro n
  induction n with
  | zero =>
    intro x1 x2 x3 x4 g H locs ls hf hz hl
    cases hf
  | succ n ih =>
    intro x1 x2 x3 x4 g H locs ls hf hz hl
    rw [f5_earliestDue_b9] at hf
    refine lv_iload hx hb dX5_earliestDue_9 (lv_at hl 4 rfl) ?_
    refine lv_bipush (v := (8 : Int32)) hx hb dX5_earliestDue_11 (by decide) ?_
    refine lv_icmp_ge (tgt := 59) hx hb dX5_earliestDue_13 (by decide) (fun c2 => ?_) (fun c2 => ?_)
    · have hf := ite_t hf c2
      refine lv_iload_n hx hb dX5_earliestDue_59 rfl (lv_at hl 2 rfl) ?_
      exact hR _ _ _ _ _ _ (Option.some.inj hf) hz dX5_earliestDue_60
    · have hf := ite_f hf c2
      refine lv_iload_n hx hb dX5_earliestDue_16 rfl (lv_at hl 1 rfl) ?_
      refine lv_iload hx hb dX5_earliestDue_17 (lv_at hl 4 rfl) ?_
      obtain ⟨r5, g4, hc3, hf⟩ := bd2_elim hf
      refine z_SI (As := [.int x1, .int x4]) (rest := []) C (c5_holds hc3) lk_RX5_193 ⟨rfl, rfl, Nat.le_of_ble_eq_true rfl, Nat.le_of_ble_eq_true rfl⟩ ⟨Nat.zero_le _, Nat.zero_le _⟩ rfl (Nat.le_of_ble_eq_true rfl) rfl hl.1 dX5_earliestDue_19 hz (fun H locs hz => ?_)
      refine lv_if_eq (tgt := 53) hx hb dX5_earliestDue_22 (by decide) (fun c6 => ?_) (fun c6 => ?_)
      · have hf := ite_t hf c6
        exact w5_earliestDue_b53 C hR ih _ _ _ _ _ _ _ _ hf hz (lv_sub hl [0, 1, 2, 3, 4] rfl)
      · have hf := ite_f hf c6
        refine lv_aload_n hx hb dX5_earliestDue_25 rfl (lv_at hl 0 rfl) ?_
        refine g_RX5_19_moss C hz dX5_earliestDue_26 ?_
        refine g_RX5_115_told C hz dX5_earliestDue_29 ?_
        refine lv_iload hx hb dX5_earliestDue_32 (lv_at hl 4 rfl) ?_
        obtain ⟨c7, hf⟩ := ix_elim hf
        refine z_iald C hz a_told_due c7 dX5_earliestDue_34 ?_
        refine lv_iload_n hx hb dX5_earliestDue_35 rfl (lv_at hl 3 rfl) ?_
        refine lv_icmp_ge (tgt := 53) hx hb dX5_earliestDue_36 (by decide) (fun c8 => ?_) (fun c8 => ?_)
        · have hf := ite_t hf c8
          exact w5_earliestDue_b53 C hR ih _ _ _ _ _ _ _ _ hf hz (lv_sub hl [0, 1, 2, 3, 4] rfl)
        · have hf := ite_f hf c8
          refine lv_iload hx hb dX5_earliestDue_39 (lv_at hl 4 rfl) ?_
          refine lv_istore_n (lv' := [(2, .int x4), (0, .ref (h 134)), (1, .int x1), (3, .int x3), (4, .int x4)]) hx hb dX5_earliestDue_41 rfl hl (by decide) rfl (fun ls hl => ?_)
          refine lv_aload_n hx hb dX5_earliestDue_42 rfl (lv_at hl 1 rfl) ?_
          refine g_RX5_19_moss C hz dX5_earliestDue_43 ?_
          refine g_RX5_115_told C hz dX5_earliestDue_46 ?_
          refine lv_iload hx hb dX5_earliestDue_49 (lv_at hl 4 rfl) ?_
          obtain ⟨c9, hf⟩ := ix_elim hf
          refine z_iald C hz a_told_due c9 dX5_earliestDue_51 ?_
          obtain ⟨v10, ev10, hf⟩ := nx_elim hf
          refine z_nm ev10 ?_
          refine lv_istore_n (lv' := [(3, .int v10), (2, .int x4), (0, .ref (h 134)), (1, .int x1), (4, .int x4)]) hx hb dX5_earliestDue_52 rfl hl (by decide) rfl (fun ls hl => ?_)
          exact w5_earliestDue_b53 C hR ih _ _ _ _ _ _ _ _ hf hz (lv_sub hl [2, 3, 1, 0, 4] rfl)
set_option maxHeartbeats 4000000 in
set_option maxRecDepth 100000 in
theorem w5_earliestDue_b0 {res : Int32 × Sg} (C : Cx p m c cX5_earliestDue 5 s args RX5 D (tyL cI cZ cB)) (hR : EndI p l e rm5_earliestDue s m args below meth c Q D (wX cI cZ cB h) A cX5_earliestDue res) : ∀ (x1 : Int32) (g : Sg) (H : Heap) (locs : List Loc) (ls : Array Slot), f5_earliestDue x1 g = some res → Zs D (wX cI cZ cB h) A s.heap H locs g → lv_has ls 5 [(0, .ref (h 134)), (1, .int x1)] → W p l e rm5_earliestDue s m args below meth c H locs 0 0 Q (F0 m 0 ls []) := by
  have hx := C.1.1
  have hb := C.1.2.1
  intro x1 g H locs ls hf hz hl
  unfold f5_earliestDue at hf
  refine lv_bipush (v := (-9 : Int32)) hx hb dX5_earliestDue_0 (by decide) ?_
  refine lv_istore_n (lv' := [(2, .int (-9 : Int32)), (0, .ref (h 134)), (1, .int x1)]) hx hb dX5_earliestDue_2 rfl hl (by decide) rfl (fun ls hl => ?_)
  refine lv_bipush (v := (100 : Int32)) hx hb dX5_earliestDue_3 (by decide) ?_
  refine lv_istore_n (lv' := [(3, .int (100 : Int32)), (2, .int (-9 : Int32)), (0, .ref (h 134)), (1, .int x1)]) hx hb dX5_earliestDue_5 rfl hl (by decide) rfl (fun ls hl => ?_)
  refine lv_iconst (v := (0 : Int32)) hx hb dX5_earliestDue_6 (by decide) ?_
  refine lv_istore (lv' := [(4, .int (0 : Int32)), (3, .int (100 : Int32)), (2, .int (-9 : Int32)), (0, .ref (h 134)), (1, .int x1)]) hx hb dX5_earliestDue_7 hl (by decide) rfl (fun ls hl => ?_)
  exact w5_earliestDue_b9 C hR 1000 _ _ _ _ _ _ _ _ hf hz (lv_sub hl [3, 4, 2, 1, 0] rfl)
set_option maxHeartbeats 4000000 in
set_option maxRecDepth 100000 in
theorem c5_earliestDue {l : Launch} {D : va_G} {cI cZ cB : ClassId} {h : Nat → Nat} {x1 : Int32} {g : Sg} {r : Int32} {g1 : Sg} (hf : f5_earliestDue x1 g = some (r, g1)) : KI l D (tyL cI cZ cB) (wX cI cZ cB h) yX5_earliestDue cX5_earliestDue 5 (some .int) rm5_earliestDue [.ref (h 134), .int x1] g r g1 := by
  refine KI_mk (own := RX5) (by decide +kernel) rfl (Nat.le_of_ble_eq_true rfl) ?_
  intro p e s m below meth c A Q ls C hR hz hl
  have hl : lv_has ls 5 [(0, .ref (h 134)), (1, .int x1)] := hl
  exact w5_earliestDue_b0 C hR _ _ _ _ _ hf hz hl
abbrev rm5_without : Room := { frames := 0, cells := 0, slots := 0, locals := 0 }
set_option maxHeartbeats 4000000 in
set_option maxRecDepth 100000 in
theorem w5_without_b0 {res : Int32 × Sg} (C : Cx p m c cX5_without 2 s args RX5 D (tyL cI cZ cB)) (hR : EndI p l e rm5_without s m args below meth c Q D (wX cI cZ cB h) A cX5_without res) : ∀ (x0 : Int32) (x1 : Int32) (g : Sg) (H : Heap) (locs : List Loc) (ls : Array Slot), f5_without x0 x1 g = some res → Zs D (wX cI cZ cB h) A s.heap H locs g → lv_has ls 2 [(0, .int x0), (1, .int x1)] → W p l e rm5_without s m args below meth c H locs 0 0 Q (F0 m 0 ls []) := by
  have hx := C.1.1
  have hb := C.1.2.1
  intro x0 x1 g H locs ls hf hz hl
  unfold f5_without at hf
  refine lv_iload_n hx hb dX5_without_0 rfl (lv_at hl 1 rfl) ?_
  refine lv_if_ge (tgt := 8) hx hb dX5_without_1 (by decide) (fun c1 => ?_) (fun c1 => ?_)
  · have hf := ite_t hf c1
    refine lv_iload_n hx hb dX5_without_8 rfl (lv_at hl 0 rfl) ?_
    refine lv_iconst (v := (1 : Int32)) hx hb dX5_without_9 (by decide) ?_
    refine lv_iload_n hx hb dX5_without_10 rfl (lv_at hl 1 rfl) ?_
    refine lv_ishl hx hb dX5_without_11 ?_
    refine lv_iconst (v := (-1 : Int32)) hx hb dX5_without_12 (by decide) ?_
    refine lv_ixor hx hb dX5_without_13 ?_
    refine lv_iand hx hb dX5_without_14 ?_
    exact hR _ _ _ _ _ _ (Option.some.inj hf) hz dX5_without_15
  · have hf := ite_f hf c1
    refine lv_iload_n hx hb dX5_without_4 rfl (lv_at hl 0 rfl) ?_
    refine lv_goto (tgt := 15) hx hb dX5_without_5 (by decide) ?_
    exact hR _ _ _ _ _ _ (Option.some.inj hf) hz dX5_without_15
set_option maxHeartbeats 4000000 in
set_option maxRecDepth 100000 in
theorem c5_without {l : Launch} {D : va_G} {cI cZ cB : ClassId} {h : Nat → Nat} {x0 : Int32} {x1 : Int32} {g : Sg} {r : Int32} {g1 : Sg} (hf : f5_without x0 x1 g = some (r, g1)) : KI l D (tyL cI cZ cB) (wX cI cZ cB h) yX5_without cX5_without 2 (some .int) rm5_without [.int x0, .int x1] g r g1 := by
  refine KI_mk (own := RX5) (by decide +kernel) rfl (Nat.le_of_ble_eq_true rfl) ?_
  intro p e s m below meth c A Q ls C hR hz hl
  have hl : lv_has ls 2 [(0, .int x0), (1, .int x1)] := hl
  exact w5_without_b0 C hR _ _ _ _ _ _ hf hz hl
abbrev rm5_endsByDue : Room := { frames := 2, cells := 0, slots := 0, locals := 45 }
set_option maxHeartbeats 4000000 in
set_option maxRecDepth 100000 in
theorem w5_endsByDue_b13 {res : Int32 × Sg} (C : Cx p m c cX5_endsByDue 6 s args RX5 D (tyL cI cZ cB)) (hR : EndZ p l e rm5_endsByDue s m args below meth c Q D (wX cI cZ cB h) A cX5_endsByDue res) : ∀ n : Nat, ∀ (x2 : Int32) (x3 : Int32) (x4 : Int32) (g : Sg) (H : Heap) (locs : List Loc) (ls : Array Slot), f5_endsByDue_b13 n x2 x3 x4 g = some res → Zs D (wX cI cZ cB h) A s.heap H locs g → lv_has ls 6 [(0, .ref (h 134)), (2, .int x2), (3, .int x3), (4, .int x4)] → W p l e rm5_endsByDue s m args below meth c H locs 0 0 Q (F0 m 13 ls []) := by
  have hx := C.1.1
  have hb := C.1.2.1
  intro n
  induction n with
  | zero =>
    intro x2 x3 x4 g H locs ls hf hz hl
    cases hf
  | succ n ih =>
    intro x2 x3 x4 g H locs ls hf hz hl
    rw [f5_endsByDue_b13] at hf
    refine lv_iload hx hb dX5_endsByDue_13 (lv_at hl 3 rfl) ?_
    refine lv_bipush (v := (8 : Int32)) hx hb dX5_endsByDue_15 (by decide) ?_
    refine lv_icmp_ge (tgt := 83) hx hb dX5_endsByDue_17 (by decide) (fun c1 => ?_) (fun c1 => ?_)
    · have hf := ite_t hf c1
      refine lv_iconst (v := (1 : Int32)) hx hb dX5_endsByDue_83 (by decide) ?_
      exact hR _ _ _ _ _ _ hf hz dX5_endsByDue_84
    · have hf := ite_f hf c1
      refine lv_aload_n hx hb dX5_endsByDue_20 rfl (lv_at hl 0 rfl) ?_
      refine lv_iload_n hx hb dX5_endsByDue_21 rfl (lv_at hl 2 rfl) ?_
      obtain ⟨r4, g3, hc2, hf⟩ := bd2_elim hf
      refine z_VI (As := [.int x3]) (rest := []) C (c5_earliestDue hc2) lk_RX5_218 ⟨rfl, rfl, Nat.le_of_ble_eq_true rfl, Nat.le_of_ble_eq_true rfl⟩ ⟨Nat.zero_le _, Nat.zero_le _⟩ o_moss rfl rfl (Nat.le_of_ble_eq_true rfl) rfl hl.1 dX5_endsByDue_22 hz (fun H locs hz => ?_)
      refine lv_istore (lv' := [(5, .int r4), (0, .ref (h 134)), (2, .int x2), (3, .int x3), (4, .int x4)]) hx hb dX5_endsByDue_25 hl (by decide) rfl (fun ls hl => ?_)
      refine lv_aload_n hx hb dX5_endsByDue_27 rfl (lv_at hl 1 rfl) ?_
      refine g_RX5_19_moss C hz dX5_endsByDue_28 ?_
      refine lv_iload hx hb dX5_endsByDue_31 (lv_at hl 0 rfl) ?_
      obtain ⟨r7, g6, hc5, hf⟩ := bd2_elim hf
      refine z_VI (As := [.int r4]) (rest := []) C (c4_hasPromise hc5) lk_RX5_100 ⟨rfl, rfl, Nat.le_of_ble_eq_true rfl, Nat.le_of_ble_eq_true rfl⟩ ⟨Nat.zero_le _, Nat.zero_le _⟩ o_told rfl rfl (Nat.le_of_ble_eq_true rfl) rfl hl.1 dX5_endsByDue_33 hz (fun H locs hz => ?_)
      refine lv_if_ne (tgt := 41) hx hb dX5_endsByDue_36 (by decide) (fun c8 => ?_) (fun c8 => ?_)
      · have hf := ite_f hf c8
        refine lv_iload_n hx hb dX5_endsByDue_41 rfl (lv_at hl 2 rfl) ?_
        refine lv_aload_n hx hb dX5_endsByDue_42 rfl (lv_at hl 1 rfl) ?_
        refine g_RX5_19_moss C hz dX5_endsByDue_43 ?_
        refine g_RX5_112_told C hz dX5_endsByDue_46 ?_
        refine lv_iload hx hb dX5_endsByDue_49 (lv_at hl 0 rfl) ?_
        obtain ⟨c9, hf⟩ := ix_elim hf
        refine z_iald C hz a_told_span c9 dX5_endsByDue_51 ?_
        refine lv_iadd hx hb dX5_endsByDue_52 ?_
        obtain ⟨v10, ev10, hf⟩ := nx_elim hf
        refine z_nm ev10 ?_
        refine lv_istore_n (lv' := [(2, .int v10), (5, .int r4), (0, .ref (h 134)), (3, .int x3), (4, .int x4)]) hx hb dX5_endsByDue_53 rfl hl (by decide) rfl (fun ls hl => ?_)
        refine lv_iload_n hx hb dX5_endsByDue_54 rfl (lv_at hl 0 rfl) ?_
        refine lv_aload_n hx hb dX5_endsByDue_55 rfl (lv_at hl 2 rfl) ?_
        refine g_RX5_19_moss C hz dX5_endsByDue_56 ?_
        refine g_RX5_115_told C hz dX5_endsByDue_59 ?_
        refine lv_iload hx hb dX5_endsByDue_62 (lv_at hl 1 rfl) ?_
        obtain ⟨c11, hf⟩ := ix_elim hf
        refine z_iald C hz a_told_due c11 dX5_endsByDue_64 ?_
        refine lv_icmp_le (tgt := 70) hx hb dX5_endsByDue_65 (by decide) (fun c12 => ?_) (fun c12 => ?_)
        · have hf := ite_t hf c12
          refine lv_iload_n hx hb dX5_endsByDue_70 rfl (lv_at hl 3 rfl) ?_
          refine lv_iload hx hb dX5_endsByDue_71 (lv_at hl 1 rfl) ?_
          obtain ⟨r15, g14, hc13, hf⟩ := bd2_elim hf
          refine z_SI (As := [.int x3, .int r4]) (rest := []) C (c5_without hc13) lk_RX5_221 ⟨rfl, rfl, Nat.le_of_ble_eq_true rfl, Nat.le_of_ble_eq_true rfl⟩ ⟨Nat.zero_le _, Nat.zero_le _⟩ rfl (Nat.le_of_ble_eq_true rfl) rfl hl.1 dX5_endsByDue_73 hz (fun H locs hz => ?_)
          refine lv_istore_n (lv' := [(3, .int r15), (2, .int v10), (5, .int r4), (0, .ref (h 134)), (4, .int x4)]) hx hb dX5_endsByDue_76 rfl hl (by decide) rfl (fun ls hl => ?_)
          obtain ⟨v16, ev16, hf⟩ := nx_elim hf
          refine lv_iinc (v := v16) (lv' := [(4, .int v16), (3, .int r15), (2, .int v10), (5, .int r4), (0, .ref (h 134))]) hx hb dX5_endsByDue_77 hl (k := 4) rfl (by rw [ev16]; rfl) (by decide) rfl (fun ls hl => ?_)
          refine lv_goto (tgt := 13) hx hb dX5_endsByDue_80 (by decide) ?_
          exact ih _ _ _ _ _ _ _ hf hz (lv_sub hl [4, 2, 1, 0] rfl)
        · have hf := ite_f hf c12
          refine lv_iconst (v := (0 : Int32)) hx hb dX5_endsByDue_68 (by decide) ?_
          exact hR _ _ _ _ _ _ hf hz dX5_endsByDue_69
      · have hf := ite_t hf c8
        refine lv_iconst (v := (1 : Int32)) hx hb dX5_endsByDue_39 (by decide) ?_
        exact hR _ _ _ _ _ _ hf hz dX5_endsByDue_40
set_option maxHeartbeats 4000000 in
set_option maxRecDepth 100000 in
theorem w5_endsByDue_b0 {res : Int32 × Sg} (C : Cx p m c cX5_endsByDue 6 s args RX5 D (tyL cI cZ cB)) (hR : EndZ p l e rm5_endsByDue s m args below meth c Q D (wX cI cZ cB h) A cX5_endsByDue res) : ∀ (x1 : Int32) (g : Sg) (H : Heap) (locs : List Loc) (ls : Array Slot), f5_endsByDue x1 g = some res → Zs D (wX cI cZ cB h) A s.heap H locs g → lv_has ls 6 [(0, .ref (h 134)), (1, .int x1)] → W p l e rm5_endsByDue s m args below meth c H locs 0 0 Q (F0 m 0 ls []) := by
  have hx := C.1.1
  have hb := C.1.2.1
  intro x1 g H locs ls hf hz hl
  unfold f5_endsByDue at hf
  refine lv_aload_n hx hb dX5_endsByDue_0 rfl (lv_at hl 0 rfl) ?_
  refine g_RX5_26_moss C hz dX5_endsByDue_1 ?_
  refine g_RX5_150_bog0 C hz dX5_endsByDue_4 ?_
  obtain ⟨v17, ev17, hf⟩ := nx_elim hf
  refine z_nm ev17 ?_
  refine lv_istore_n (lv' := [(2, .int v17), (0, .ref (h 134)), (1, .int x1)]) hx hb dX5_endsByDue_7 rfl hl (by decide) rfl (fun ls hl => ?_)
  refine lv_iload_n hx hb dX5_endsByDue_8 rfl (lv_at hl 2 rfl) ?_
  refine lv_istore_n (lv' := [(3, .int x1), (2, .int v17), (0, .ref (h 134)), (1, .int x1)]) hx hb dX5_endsByDue_9 rfl hl (by decide) rfl (fun ls hl => ?_)
  refine lv_iconst (v := (0 : Int32)) hx hb dX5_endsByDue_10 (by decide) ?_
  refine lv_istore (lv' := [(4, .int (0 : Int32)), (3, .int x1), (2, .int v17), (0, .ref (h 134)), (1, .int x1)]) hx hb dX5_endsByDue_11 hl (by decide) rfl (fun ls hl => ?_)
  exact w5_endsByDue_b13 C hR 1000 _ _ _ _ _ _ _ hf hz (lv_sub hl [3, 2, 1, 0] rfl)
set_option maxHeartbeats 4000000 in
set_option maxRecDepth 100000 in
theorem c5_endsByDue {l : Launch} {D : va_G} {cI cZ cB : ClassId} {h : Nat → Nat} {x1 : Int32} {g : Sg} {r : Int32} {g1 : Sg} (hf : f5_endsByDue x1 g = some (r, g1)) : KI l D (tyL cI cZ cB) (wX cI cZ cB h) yX5_endsByDue cX5_endsByDue 6 (some .boolean) rm5_endsByDue [.ref (h 134), .int x1] g r g1 := by
  refine KZ_mk (own := RX5) (by decide +kernel) rfl (Nat.le_of_ble_eq_true rfl) ?_
  intro p e s m below meth c A Q ls C hR hz hl
  have hl : lv_has ls 6 [(0, .ref (h 134)), (1, .int x1)] := hl
  exact w5_endsByDue_b0 C hR _ _ _ _ _ hf hz hl
abbrev rm5_bestOrdered : Room := { frames := 3, cells := 0, slots := 0, locals := 70 }
set_option maxHeartbeats 4000000 in
set_option maxRecDepth 100000 in
theorem w5_bestOrdered_b46 {res : Int32 × Sg} {k10 : Int32 → Int32 → Int32 → Sg → Option (Int32 × Sg)} (C : Cx p m c cX5_bestOrdered 4 s args RX5 D (tyL cI cZ cB)) (hR : EndI p l e rm5_bestOrdered s m args below meth c Q D (wX cI cZ cB h) A cX5_bestOrdered res) (hk10 : ∀ (x1 : Int32) (x2 : Int32) (x3 : Int32) (g : Sg) (H : Heap) (locs : List Loc) (ls : Array Slot), k10 x1 x2 x3 g = some res → Zs D (wX cI cZ cB h) A s.heap H locs g → lv_has ls 4 [(0, .ref (h 134)), (1, .int x1), (2, .int x2), (3, .int x3)] → W p l e rm5_bestOrdered s m args below meth c H locs 0 0 Q (F0 m 10 ls [])) : ∀ (x1 : Int32) (x2 : Int32) (x3 : Int32) (g : Sg) (H : Heap) (locs : List Loc) (ls : Array Slot), f5_bestOrdered_b46 k10 x1 x2 x3 g = some res → Zs D (wX cI cZ cB h) A s.heap H locs g → lv_has ls 4 [(0, .ref (h 134)), (1, .int x1), (2, .int x2), (3, .int x3)] → W p l e rm5_bestOrdered s m args below meth c H locs 0 0 Q (F0 m 46 ls []) := by
  have hx := C.1.1
  have hb := C.1.2.1
  intro x1 x2 x3 g H locs ls hf hz hl
  unfold f5_bestOrdered_b46 at hf
  obtain ⟨v1, ev1, hf⟩ := nx_elim hf
  refine lv_iinc (v := v1) (lv' := [(3, .int v1), (0, .ref (h 134)), (1, .int x1), (2, .int x2)]) hx hb dX5_bestOrdered_46 hl (k := 3) rfl (by rw [ev1]; rfl) (by decide) rfl (fun ls hl => ?_)
  refine lv_goto (tgt := 10) hx hb dX5_bestOrdered_49 (by decide) ?_
  exact hk10 _ _ _ _ _ _ _ hf hz (lv_sub hl [1, 2, 3, 0] rfl)
set_option maxHeartbeats 4000000 in
set_option maxRecDepth 100000 in
theorem w5_bestOrdered_b10 {res : Int32 × Sg} (C : Cx p m c cX5_bestOrdered 4 s args RX5 D (tyL cI cZ cB)) (hR : EndI p l e rm5_bestOrdered s m args below meth c Q D (wX cI cZ cB h) A cX5_bestOrdered res) : ∀ n : Nat, ∀ (x1 : Int32) (x2 : Int32) (x3 : Int32) (g : Sg) (H : Heap) (locs : List Loc) (ls : Array Slot), f5_bestOrdered_b10 n x1 x2 x3 g = some res → Zs D (wX cI cZ cB h) A s.heap H locs g → lv_has ls 4 [(0, .ref (h 134)), (1, .int x1), (2, .int x2), (3, .int x3)] → W p l e rm5_bestOrdered s m args below meth c H locs 0 0 Q (F0 m 10 ls []) := by
  have hx := C.1.1
  have hb := C.1.2.1
  intro n
  induction n with
  | zero =>
    intro x1 x2 x3 g H locs ls hf hz hl
    cases hf
  | succ n ih =>
    intro x1 x2 x3 g H locs ls hf hz hl
    rw [f5_bestOrdered_b10] at hf
    refine lv_iload_n hx hb dX5_bestOrdered_10 rfl (lv_at hl 3 rfl) ?_
    refine lv_sipush (v := (256 : Int32)) hx hb dX5_bestOrdered_11 (by decide) ?_
    refine lv_icmp_ge (tgt := 52) hx hb dX5_bestOrdered_14 (by decide) (fun c2 => ?_) (fun c2 => ?_)
    · have hf := ite_t hf c2
      refine lv_iload_n hx hb dX5_bestOrdered_52 rfl (lv_at hl 2 rfl) ?_
      exact hR _ _ _ _ _ _ (Option.some.inj hf) hz dX5_bestOrdered_53
    · have hf := ite_f hf c2
      refine lv_iload_n hx hb dX5_bestOrdered_17 rfl (lv_at hl 3 rfl) ?_
      refine lv_iload_n hx hb dX5_bestOrdered_18 rfl (lv_at hl 1 rfl) ?_
      refine lv_iconst (v := (-1 : Int32)) hx hb dX5_bestOrdered_19 (by decide) ?_
      refine lv_ixor hx hb dX5_bestOrdered_20 ?_
      refine lv_iand hx hb dX5_bestOrdered_21 ?_
      refine lv_if_ne (tgt := 46) hx hb dX5_bestOrdered_22 (by decide) (fun c3 => ?_) (fun c3 => ?_)
      · have hf := ite_f hf c3
        exact w5_bestOrdered_b46 C hR ih _ _ _ _ _ _ _ hf hz (lv_sub hl [0, 1, 2, 3] rfl)
      · have hf := ite_t hf c3
        refine lv_iload_n hx hb dX5_bestOrdered_25 rfl (lv_at hl 3 rfl) ?_
        obtain ⟨r6, g5, hc4, hf⟩ := bd2_elim hf
        refine z_SI (As := [.int x3]) (rest := []) C (c9_bitCount hc4) lk_RX5_181 ⟨rfl, rfl, Nat.le_of_ble_eq_true rfl, Nat.le_of_ble_eq_true rfl⟩ ⟨Nat.zero_le _, Nat.zero_le _⟩ rfl (Nat.le_of_ble_eq_true rfl) rfl hl.1 dX5_bestOrdered_26 hz (fun H locs hz => ?_)
        refine lv_iload_n hx hb dX5_bestOrdered_29 rfl (lv_at hl 2 rfl) ?_
        obtain ⟨r9, g8, hc7, hf⟩ := bd2_elim hf
        refine z_SI (As := [.int x2]) (rest := [.int r6]) C (c9_bitCount hc7) lk_RX5_181 ⟨rfl, rfl, Nat.le_of_ble_eq_true rfl, Nat.le_of_ble_eq_true rfl⟩ ⟨Nat.zero_le _, Nat.zero_le _⟩ rfl (Nat.le_of_ble_eq_true rfl) rfl hl.1 dX5_bestOrdered_30 hz (fun H locs hz => ?_)
        refine lv_icmp_le (tgt := 46) hx hb dX5_bestOrdered_33 (by decide) (fun c10 => ?_) (fun c10 => ?_)
        · have hf := ite_t hf c10
          exact w5_bestOrdered_b46 C hR ih _ _ _ _ _ _ _ hf hz (lv_sub hl [0, 1, 2, 3] rfl)
        · have hf := ite_f hf c10
          refine lv_aload_n hx hb dX5_bestOrdered_36 rfl (lv_at hl 0 rfl) ?_
          refine lv_iload_n hx hb dX5_bestOrdered_37 rfl (lv_at hl 3 rfl) ?_
          obtain ⟨r13, g12, hc11, hf⟩ := bd2_elim hf
          refine z_VI (As := [.int x3]) (rest := []) C (c5_endsByDue hc11) lk_RX5_283 ⟨rfl, rfl, Nat.le_of_ble_eq_true rfl, Nat.le_of_ble_eq_true rfl⟩ ⟨Nat.zero_le _, Nat.zero_le _⟩ o_moss rfl rfl (Nat.le_of_ble_eq_true rfl) rfl hl.1 dX5_bestOrdered_38 hz (fun H locs hz => ?_)
          refine lv_if_eq (tgt := 46) hx hb dX5_bestOrdered_41 (by decide) (fun c14 => ?_) (fun c14 => ?_)
          · have hf := ite_t hf c14
            exact w5_bestOrdered_b46 C hR ih _ _ _ _ _ _ _ hf hz (lv_sub hl [0, 1, 2, 3] rfl)
          · have hf := ite_f hf c14
            refine lv_iload_n hx hb dX5_bestOrdered_44 rfl (lv_at hl 3 rfl) ?_
            refine lv_istore_n (lv' := [(2, .int x3), (0, .ref (h 134)), (1, .int x1), (3, .int x3)]) hx hb dX5_bestOrdered_45 rfl hl (by decide) rfl (fun ls hl => ?_)
            exact w5_bestOrdered_b46 C hR ih _ _ _ _ _ _ _ hf hz (lv_sub hl [1, 2, 0, 3] rfl)
set_option maxHeartbeats 4000000 in
set_option maxRecDepth 100000 in
theorem w5_bestOrdered_b0 {res : Int32 × Sg} (C : Cx p m c cX5_bestOrdered 4 s args RX5 D (tyL cI cZ cB)) (hR : EndI p l e rm5_bestOrdered s m args below meth c Q D (wX cI cZ cB h) A cX5_bestOrdered res) : ∀ (g : Sg) (H : Heap) (locs : List Loc) (ls : Array Slot), f5_bestOrdered g = some res → Zs D (wX cI cZ cB h) A s.heap H locs g → lv_has ls 4 [(0, .ref (h 134))] → W p l e rm5_bestOrdered s m args below meth c H locs 0 0 Q (F0 m 0 ls []) := by
  have hx := C.1.1
  have hb := C.1.2.1
  intro g H locs ls hf hz hl
  unfold f5_bestOrdered at hf
  refine lv_aload_n hx hb dX5_bestOrdered_0 rfl (lv_at hl 0 rfl) ?_
  refine lv_iconst (v := (1 : Int32)) hx hb dX5_bestOrdered_1 (by decide) ?_
  obtain ⟨r17, g16, hc15, hf⟩ := bd2_elim hf
  refine z_VI (As := [.int (1 : Int32)]) (rest := []) C (c5_thoseThatAre hc15) lk_RX5_153 ⟨rfl, rfl, Nat.le_of_ble_eq_true rfl, Nat.le_of_ble_eq_true rfl⟩ ⟨Nat.zero_le _, Nat.zero_le _⟩ o_moss rfl rfl (Nat.le_of_ble_eq_true rfl) rfl hl.1 dX5_bestOrdered_2 hz (fun H locs hz => ?_)
  refine lv_istore_n (lv' := [(1, .int r17), (0, .ref (h 134))]) hx hb dX5_bestOrdered_5 rfl hl (by decide) rfl (fun ls hl => ?_)
  refine lv_iconst (v := (0 : Int32)) hx hb dX5_bestOrdered_6 (by decide) ?_
  refine lv_istore_n (lv' := [(2, .int (0 : Int32)), (1, .int r17), (0, .ref (h 134))]) hx hb dX5_bestOrdered_7 rfl hl (by decide) rfl (fun ls hl => ?_)
  refine lv_iconst (v := (0 : Int32)) hx hb dX5_bestOrdered_8 (by decide) ?_
  refine lv_istore_n (lv' := [(3, .int (0 : Int32)), (2, .int (0 : Int32)), (1, .int r17), (0, .ref (h 134))]) hx hb dX5_bestOrdered_9 rfl hl (by decide) rfl (fun ls hl => ?_)
  exact w5_bestOrdered_b10 C hR 1000 _ _ _ _ _ _ _ hf hz (lv_sub hl [3, 2, 1, 0] rfl)
set_option maxHeartbeats 4000000 in
set_option maxRecDepth 100000 in
theorem c5_bestOrdered {l : Launch} {D : va_G} {cI cZ cB : ClassId} {h : Nat → Nat} {g : Sg} {r : Int32} {g1 : Sg} (hf : f5_bestOrdered g = some (r, g1)) : KI l D (tyL cI cZ cB) (wX cI cZ cB h) yX5_bestOrdered cX5_bestOrdered 4 (some .int) rm5_bestOrdered [.ref (h 134)] g r g1 := by
  refine KI_mk (own := RX5) (by decide +kernel) rfl (Nat.le_of_ble_eq_true rfl) ?_
  intro p e s m below meth c A Q ls C hR hz hl
  have hl : lv_has ls 4 [(0, .ref (h 134))] := hl
  exact w5_bestOrdered_b0 C hR _ _ _ _ hf hz hl
abbrev rm5_order : Room := { frames := 4, cells := 0, slots := 0, locals := 93 }
set_option maxHeartbeats 4000000 in
set_option maxRecDepth 100000 in
theorem w5_order_b30 {res : Int32 × Sg} (C : Cx p m c cX5_order 4 s args RX5 D (tyL cI cZ cB)) (hR : EndI p l e rm5_order s m args below meth c Q D (wX cI cZ cB h) A cX5_order res) : ∀ n : Nat, ∀ (x1 : Int32) (x2 : Int32) (x3 : Int32) (g : Sg) (H : Heap) (locs : List Loc) (ls : Array Slot), f5_order_b30 n x1 x2 x3 g = some res → Zs D (wX cI cZ cB h) A s.heap H locs g → lv_has ls 4 [(0, .ref (h 134)), (1, .int x1), (2, .int x2), (3, .int x3)] → W p l e rm5_order s m args below meth c H locs 0 0 Q (F0 m 30 ls []) := by
  have hx := C.1.1
  have hb := C.1.2.1
  intro n
  induction n with
  | zero =>
    intro x1 x2 x3 g H locs ls hf hz hl
    cases hf
  | succ n ih =>
    intro x1 x2 x3 g H locs ls hf hz hl
    rw [f5_order_b30] at hf
    refine lv_iload_n hx hb dX5_order_30 rfl (lv_at hl 3 rfl) ?_
    refine lv_iload_n hx hb dX5_order_31 rfl (lv_at hl 1 rfl) ?_
    refine lv_icmp_ge (tgt := 51) hx hb dX5_order_32 (by decide) (fun c1 => ?_) (fun c1 => ?_)
    · have hf := ite_t hf c1
      refine lv_aload_n hx hb dX5_order_51 rfl (lv_at hl 0 rfl) ?_
      refine lv_iload_n hx hb dX5_order_52 rfl (lv_at hl 2 rfl) ?_
      obtain ⟨r4, g3, hc2, hf⟩ := bd2_elim hf
      refine z_VI (As := [.int x2]) (rest := []) C (c5_earliestDue hc2) lk_RX5_218 ⟨rfl, rfl, Nat.le_of_ble_eq_true rfl, Nat.le_of_ble_eq_true rfl⟩ ⟨Nat.zero_le _, Nat.zero_le _⟩ o_moss rfl rfl (Nat.le_of_ble_eq_true rfl) rfl hl.1 dX5_order_53 hz (fun H locs hz => ?_)
      exact hR _ _ _ _ _ _ (Option.some.inj hf) hz dX5_order_56
    · have hf := ite_f hf c1
      refine lv_iload_n hx hb dX5_order_35 rfl (lv_at hl 2 rfl) ?_
      refine lv_aload_n hx hb dX5_order_36 rfl (lv_at hl 0 rfl) ?_
      refine lv_iload_n hx hb dX5_order_37 rfl (lv_at hl 2 rfl) ?_
      obtain ⟨r7, g6, hc5, hf⟩ := bd2_elim hf
      refine z_VI (As := [.int x2]) (rest := [.int x2]) C (c5_earliestDue hc5) lk_RX5_218 ⟨rfl, rfl, Nat.le_of_ble_eq_true rfl, Nat.le_of_ble_eq_true rfl⟩ ⟨Nat.zero_le _, Nat.zero_le _⟩ o_moss rfl rfl (Nat.le_of_ble_eq_true rfl) rfl hl.1 dX5_order_38 hz (fun H locs hz => ?_)
      obtain ⟨r10, g9, hc8, hf⟩ := bd2_elim hf
      refine z_SI (As := [.int x2, .int r7]) (rest := []) C (c5_without hc8) lk_RX5_221 ⟨rfl, rfl, Nat.le_of_ble_eq_true rfl, Nat.le_of_ble_eq_true rfl⟩ ⟨Nat.zero_le _, Nat.zero_le _⟩ rfl (Nat.le_of_ble_eq_true rfl) rfl hl.1 dX5_order_41 hz (fun H locs hz => ?_)
      refine lv_istore_n (lv' := [(2, .int r10), (0, .ref (h 134)), (1, .int x1), (3, .int x3)]) hx hb dX5_order_44 rfl hl (by decide) rfl (fun ls hl => ?_)
      obtain ⟨v11, ev11, hf⟩ := nx_elim hf
      refine lv_iinc (v := v11) (lv' := [(3, .int v11), (2, .int r10), (0, .ref (h 134)), (1, .int x1)]) hx hb dX5_order_45 hl (k := 3) rfl (by rw [ev11]; rfl) (by decide) rfl (fun ls hl => ?_)
      refine lv_goto (tgt := 30) hx hb dX5_order_48 (by decide) ?_
      exact ih _ _ _ _ _ _ _ hf hz (lv_sub hl [2, 3, 1, 0] rfl)
set_option maxHeartbeats 4000000 in
set_option maxRecDepth 100000 in
theorem w5_order_b0 {res : Int32 × Sg} (C : Cx p m c cX5_order 4 s args RX5 D (tyL cI cZ cB)) (hR : EndI p l e rm5_order s m args below meth c Q D (wX cI cZ cB h) A cX5_order res) : ∀ (x1 : Int32) (g : Sg) (H : Heap) (locs : List Loc) (ls : Array Slot), f5_order x1 g = some res → Zs D (wX cI cZ cB h) A s.heap H locs g → lv_has ls 4 [(0, .ref (h 134)), (1, .int x1)] → W p l e rm5_order s m args below meth c H locs 0 0 Q (F0 m 0 ls []) := by
  have hx := C.1.1
  have hb := C.1.2.1
  intro x1 g H locs ls hf hz hl
  unfold f5_order at hf
  refine lv_iload_n hx hb dX5_order_0 rfl (lv_at hl 1 rfl) ?_
  refine lv_iconst (v := (-1 : Int32)) hx hb dX5_order_1 (by decide) ?_
  refine lv_icmp_lt (tgt := 11) hx hb dX5_order_2 (by decide) (fun c12 => ?_) (fun c12 => ?_)
  · have hf := ite_t hf c12
    refine lv_iconst (v := (-1 : Int32)) hx hb dX5_order_11 (by decide) ?_
    exact hR _ _ _ _ _ _ (Option.some.inj hf) hz dX5_order_12
  · have hf := ite_f hf c12
    refine lv_iload_n hx hb dX5_order_5 rfl (lv_at hl 1 rfl) ?_
    refine lv_bipush (v := (8 : Int32)) hx hb dX5_order_6 (by decide) ?_
    refine lv_icmp_lt (tgt := 13) hx hb dX5_order_8 (by decide) (fun c13 => ?_) (fun c13 => ?_)
    · have hf := ite_t hf c13
      refine lv_aload_n hx hb dX5_order_13 rfl (lv_at hl 0 rfl) ?_
      obtain ⟨r16, g15, hc14, hf⟩ := bd2_elim hf
      refine z_VI (As := []) (rest := []) C (c5_bestOrdered hc14) lk_RX5_215 ⟨rfl, rfl, Nat.le_of_ble_eq_true rfl, Nat.le_of_ble_eq_true rfl⟩ ⟨Nat.zero_le _, Nat.zero_le _⟩ o_moss rfl rfl (Nat.le_of_ble_eq_true rfl) rfl hl.1 dX5_order_14 hz (fun H locs hz => ?_)
      refine lv_istore_n (lv' := [(2, .int r16), (0, .ref (h 134)), (1, .int x1)]) hx hb dX5_order_17 rfl hl (by decide) rfl (fun ls hl => ?_)
      refine lv_iload_n hx hb dX5_order_18 rfl (lv_at hl 2 rfl) ?_
      refine lv_iconst (v := (-1 : Int32)) hx hb dX5_order_19 (by decide) ?_
      refine lv_icmp_ne (tgt := 28) hx hb dX5_order_20 (by decide) (fun c17 => ?_) (fun c17 => ?_)
      · have hf := ite_f hf c17
        refine lv_iconst (v := (0 : Int32)) hx hb dX5_order_28 (by decide) ?_
        refine lv_istore_n (lv' := [(3, .int (0 : Int32)), (2, .int r16), (0, .ref (h 134)), (1, .int x1)]) hx hb dX5_order_29 rfl hl (by decide) rfl (fun ls hl => ?_)
        exact w5_order_b30 C hR 1000 _ _ _ _ _ _ _ hf hz (lv_sub hl [2, 3, 1, 0] rfl)
      · have hf := ite_t hf c17
        refine lv_iload_n hx hb dX5_order_23 rfl (lv_at hl 0 rfl) ?_
        obtain ⟨r20, g19, hc18, hf⟩ := bd2_elim hf
        refine z_SI (As := [.int r16]) (rest := []) C (c9_bitCount hc18) lk_RX5_181 ⟨rfl, rfl, Nat.le_of_ble_eq_true rfl, Nat.le_of_ble_eq_true rfl⟩ ⟨Nat.zero_le _, Nat.zero_le _⟩ rfl (Nat.le_of_ble_eq_true rfl) rfl hl.1 dX5_order_24 hz (fun H locs hz => ?_)
        exact hR _ _ _ _ _ _ (Option.some.inj hf) hz dX5_order_27
    · have hf := ite_f hf c13
      refine lv_iconst (v := (-1 : Int32)) hx hb dX5_order_11 (by decide) ?_
      exact hR _ _ _ _ _ _ (Option.some.inj hf) hz dX5_order_12
set_option maxHeartbeats 4000000 in
set_option maxRecDepth 100000 in
theorem c5_order {l : Launch} {D : va_G} {cI cZ cB : ClassId} {h : Nat → Nat} {x1 : Int32} {g : Sg} {r : Int32} {g1 : Sg} (hf : f5_order x1 g = some (r, g1)) : KI l D (tyL cI cZ cB) (wX cI cZ cB h) yX5_order cX5_order 4 (some .int) rm5_order [.ref (h 134), .int x1] g r g1 := by
  refine KI_mk (own := RX5) (by decide +kernel) rfl (Nat.le_of_ble_eq_true rfl) ?_
  intro p e s m below meth c A Q ls C hR hz hl
  have hl : lv_has ls 4 [(0, .ref (h 134)), (1, .int x1)] := hl
  exact w5_order_b0 C hR _ _ _ _ _ hf hz hl
abbrev rm5_staysIfDry : Room := { frames := 3, cells := 0, slots := 0, locals := 67 }
set_option maxHeartbeats 4000000 in
set_option maxRecDepth 100000 in
theorem w5_staysIfDry_b7 {res : Int32 × Sg} (C : Cx p m c cX5_staysIfDry 4 s args RX5 D (tyL cI cZ cB)) (hR : EndZ p l e rm5_staysIfDry s m args below meth c Q D (wX cI cZ cB h) A cX5_staysIfDry res) : ∀ n : Nat, ∀ (x2 : Int32) (x3 : Int32) (g : Sg) (H : Heap) (locs : List Loc) (ls : Array Slot), f5_staysIfDry_b7 n x2 x3 g = some res → Zs D (wX cI cZ cB h) A s.heap H locs g → lv_has ls 4 [(0, .ref (h 134)), (2, .int x2), (3, .int x3)] → W p l e rm5_staysIfDry s m args below meth c H locs 0 0 Q (F0 m 7 ls []) := by
  have hx := C.1.1
  have hb := C.1.2.1
  intro n
  induction n with
  | zero =>
    intro x2 x3 g H locs ls hf hz hl
    cases hf
  | succ n ih =>
    intro x2 x3 g H locs ls hf hz hl
    rw [f5_staysIfDry_b7] at hf
    refine lv_iload_n hx hb dX5_staysIfDry_7 rfl (lv_at hl 2 rfl) ?_
    refine lv_iload_n hx hb dX5_staysIfDry_8 rfl (lv_at hl 1 rfl) ?_
    refine lv_icmp_ge (tgt := 31) hx hb dX5_staysIfDry_9 (by decide) (fun c1 => ?_) (fun c1 => ?_)
    · have hf := ite_t hf c1
      refine lv_iconst (v := (1 : Int32)) hx hb dX5_staysIfDry_31 (by decide) ?_
      exact hR _ _ _ _ _ _ hf hz dX5_staysIfDry_32
    · have hf := ite_f hf c1
      refine lv_aload_n hx hb dX5_staysIfDry_12 rfl (lv_at hl 0 rfl) ?_
      refine lv_aload_n hx hb dX5_staysIfDry_13 rfl (lv_at hl 0 rfl) ?_
      refine g_RX5_49_moss C hz dX5_staysIfDry_14 ?_
      obtain ⟨r4, g3, hc2, hf⟩ := bd2_elim hf
      refine z_VI (As := [.ref (h 131)]) (rest := []) C (c5_letYearPass a_x_wetThen hc2) lk_RX5_186 ⟨rfl, rfl, Nat.le_of_ble_eq_true rfl, Nat.le_of_ble_eq_true rfl⟩ ⟨Nat.zero_le _, Nat.zero_le _⟩ o_moss rfl rfl (Nat.le_of_ble_eq_true rfl) rfl hl.1 dX5_staysIfDry_17 hz (fun H locs hz => ?_)
      refine lv_if_eq (tgt := 25) hx hb dX5_staysIfDry_20 (by decide) (fun c5 => ?_) (fun c5 => ?_)
      · have hf := ite_t hf c5
        obtain ⟨v6, ev6, hf⟩ := nx_elim hf
        refine lv_iinc (v := v6) (lv' := [(3, .int v6), (0, .ref (h 134)), (2, .int x2)]) hx hb dX5_staysIfDry_25 hl (k := 2) rfl (by rw [ev6]; rfl) (by decide) rfl (fun ls hl => ?_)
        refine lv_goto (tgt := 7) hx hb dX5_staysIfDry_28 (by decide) ?_
        exact ih _ _ _ _ _ _ hf hz (lv_sub hl [1, 2, 0] rfl)
      · have hf := ite_f hf c5
        refine lv_iconst (v := (0 : Int32)) hx hb dX5_staysIfDry_23 (by decide) ?_
        exact hR _ _ _ _ _ _ hf hz dX5_staysIfDry_24
set_option maxHeartbeats 4000000 in
set_option maxRecDepth 100000 in
theorem w5_staysIfDry_b0 {res : Int32 × Sg} (C : Cx p m c cX5_staysIfDry 4 s args RX5 D (tyL cI cZ cB)) (hR : EndZ p l e rm5_staysIfDry s m args below meth c Q D (wX cI cZ cB h) A cX5_staysIfDry res) : ∀ (x1 : Int32) (x2 : Int32) (g : Sg) (H : Heap) (locs : List Loc) (ls : Array Slot), f5_staysIfDry x1 x2 g = some res → Zs D (wX cI cZ cB h) A s.heap H locs g → lv_has ls 4 [(0, .ref (h 134)), (1, .int x1), (2, .int x2)] → W p l e rm5_staysIfDry s m args below meth c H locs 0 0 Q (F0 m 0 ls []) := by
  have hx := C.1.1
  have hb := C.1.2.1
  intro x1 x2 g H locs ls hf hz hl
  unfold f5_staysIfDry at hf
  refine lv_aload_n hx hb dX5_staysIfDry_0 rfl (lv_at hl 0 rfl) ?_
  refine lv_iload_n hx hb dX5_staysIfDry_1 rfl (lv_at hl 1 rfl) ?_
  obtain ⟨g8, hc7, hf⟩ := bd_elim hf
  refine z_VV (As := [.int x1]) (rest := []) C (c5_beginWetThen hc7) lk_RX5_276 ⟨rfl, rfl, Nat.le_of_ble_eq_true rfl, Nat.le_of_ble_eq_true rfl⟩ ⟨Nat.zero_le _, Nat.zero_le _⟩ o_moss rfl rfl (Nat.le_of_ble_eq_true rfl) rfl hl.1 dX5_staysIfDry_2 hz (fun H locs hz => ?_)
  refine lv_iconst (v := (0 : Int32)) hx hb dX5_staysIfDry_5 (by decide) ?_
  refine lv_istore_n (lv' := [(3, .int (0 : Int32)), (0, .ref (h 134)), (1, .int x1), (2, .int x2)]) hx hb dX5_staysIfDry_6 rfl hl (by decide) rfl (fun ls hl => ?_)
  exact w5_staysIfDry_b7 C hR 1000 _ _ _ _ _ _ hf hz (lv_sub hl [1, 3, 0] rfl)
set_option maxHeartbeats 4000000 in
set_option maxRecDepth 100000 in
theorem c5_staysIfDry {l : Launch} {D : va_G} {cI cZ cB : ClassId} {h : Nat → Nat} {x1 : Int32} {x2 : Int32} {g : Sg} {r : Int32} {g1 : Sg} (hf : f5_staysIfDry x1 x2 g = some (r, g1)) : KI l D (tyL cI cZ cB) (wX cI cZ cB h) yX5_staysIfDry cX5_staysIfDry 4 (some .boolean) rm5_staysIfDry [.ref (h 134), .int x1, .int x2] g r g1 := by
  refine KZ_mk (own := RX5) (by decide +kernel) rfl (Nat.le_of_ble_eq_true rfl) ?_
  intro p e s m below meth c A Q ls C hR hz hl
  have hl : lv_has ls 4 [(0, .ref (h 134)), (1, .int x1), (2, .int x2)] := hl
  exact w5_staysIfDry_b0 C hR _ _ _ _ _ _ hf hz hl
abbrev rm5_drain : Room := { frames := 4, cells := 0, slots := 0, locals := 90 }
set_option maxHeartbeats 4000000 in
set_option maxRecDepth 100000 in
theorem w5_drain_b56 {res : Int32 × Sg} {k21 : Int32 → Int32 → Int32 → Int32 → Sg → Option (Int32 × Sg)} (C : Cx p m c cX5_drain 5 s args RX5 D (tyL cI cZ cB)) (hR : EndI p l e rm5_drain s m args below meth c Q D (wX cI cZ cB h) A cX5_drain res) (hk21 : ∀ (x1 : Int32) (x2 : Int32) (x3 : Int32) (x4 : Int32) (g : Sg) (H : Heap) (locs : List Loc) (ls : Array Slot), k21 x1 x2 x3 x4 g = some res → Zs D (wX cI cZ cB h) A s.heap H locs g → lv_has ls 5 [(0, .ref (h 134)), (1, .int x1), (2, .int x2), (3, .int x3), (4, .int x4)] → W p l e rm5_drain s m args below meth c H locs 0 0 Q (F0 m 21 ls [])) : ∀ (x1 : Int32) (x2 : Int32) (x3 : Int32) (x4 : Int32) (g : Sg) (H : Heap) (locs : List Loc) (ls : Array Slot), f5_drain_b56 k21 x1 x2 x3 x4 g = some res → Zs D (wX cI cZ cB h) A s.heap H locs g → lv_has ls 5 [(0, .ref (h 134)), (1, .int x1), (2, .int x2), (3, .int x3), (4, .int x4)] → W p l e rm5_drain s m args below meth c H locs 0 0 Q (F0 m 56 ls []) := by
  have hx := C.1.1
  have hb := C.1.2.1
  intro x1 x2 x3 x4 g H locs ls hf hz hl
  unfold f5_drain_b56 at hf
  obtain ⟨v1, ev1, hf⟩ := nx_elim hf
  refine lv_iinc (v := v1) (lv' := [(4, .int v1), (0, .ref (h 134)), (1, .int x1), (2, .int x2), (3, .int x3)]) hx hb dX5_drain_56 hl (k := 4) rfl (by rw [ev1]; rfl) (by decide) rfl (fun ls hl => ?_)
  refine lv_goto (tgt := 21) hx hb dX5_drain_59 (by decide) ?_
  exact hk21 _ _ _ _ _ _ _ _ hf hz (lv_sub hl [1, 2, 3, 4, 0] rfl)
set_option maxHeartbeats 4000000 in
set_option maxRecDepth 100000 in
theorem w5_drain_b21 {res : Int32 × Sg} (C : Cx p m c cX5_drain 5 s args RX5 D (tyL cI cZ cB)) (hR : EndI p l e rm5_drain s m args below meth c Q D (wX cI cZ cB h) A cX5_drain res) : ∀ n : Nat, ∀ (x1 : Int32) (x2 : Int32) (x3 : Int32) (x4 : Int32) (g : Sg) (H : Heap) (locs : List Loc) (ls : Array Slot), f5_drain_b21 n x1 x2 x3 x4 g = some res → Zs D (wX cI cZ cB h) A s.heap H locs g → lv_has ls 5 [(0, .ref (h 134)), (1, .int x1), (2, .int x2), (3, .int x3), (4, .int x4)] → W p l e rm5_drain s m args below meth c H locs 0 0 Q (F0 m 21 ls []) := by
  have hx := C.1.1
  have hb := C.1.2.1
  intro n
  induction n with
  | zero =>
    intro x1 x2 x3 x4 g H locs ls hf hz hl
    cases hf
  | succ n ih =>
    intro x1 x2 x3 x4 g H locs ls hf hz hl
    rw [f5_drain_b21] at hf
    refine lv_iload hx hb dX5_drain_21 (lv_at hl 4 rfl) ?_
    refine lv_bipush (v := (64 : Int32)) hx hb dX5_drain_23 (by decide) ?_
    refine lv_icmp_ge (tgt := 62) hx hb dX5_drain_25 (by decide) (fun c2 => ?_) (fun c2 => ?_)
    · have hf := ite_t hf c2
      refine lv_iload_n hx hb dX5_drain_62 rfl (lv_at hl 2 rfl) ?_
      exact hR _ _ _ _ _ _ (Option.some.inj hf) hz dX5_drain_63
    · have hf := ite_f hf c2
      refine lv_iload hx hb dX5_drain_28 (lv_at hl 4 rfl) ?_
      obtain ⟨r5, g4, hc3, hf⟩ := bd2_elim hf
      refine z_SI (As := [.int x4]) (rest := []) C (c9_bitCount hc3) lk_RX5_181 ⟨rfl, rfl, Nat.le_of_ble_eq_true rfl, Nat.le_of_ble_eq_true rfl⟩ ⟨Nat.zero_le _, Nat.zero_le _⟩ rfl (Nat.le_of_ble_eq_true rfl) rfl hl.1 dX5_drain_30 hz (fun H locs hz => ?_)
      refine lv_iload_n hx hb dX5_drain_33 rfl (lv_at hl 3 rfl) ?_
      refine lv_icmp_ge (tgt := 56) hx hb dX5_drain_34 (by decide) (fun c6 => ?_) (fun c6 => ?_)
      · have hf := ite_t hf c6
        exact w5_drain_b56 C hR ih _ _ _ _ _ _ _ _ hf hz (lv_sub hl [0, 1, 2, 3, 4] rfl)
      · have hf := ite_f hf c6
        refine lv_aload_n hx hb dX5_drain_37 rfl (lv_at hl 0 rfl) ?_
        refine lv_iload hx hb dX5_drain_38 (lv_at hl 4 rfl) ?_
        refine lv_iload_n hx hb dX5_drain_40 rfl (lv_at hl 1 rfl) ?_
        obtain ⟨r9, g8, hc7, hf⟩ := bd2_elim hf
        refine z_VI (As := [.int x4, .int x1]) (rest := []) C (c5_staysIfDry hc7) lk_RX5_224 ⟨rfl, rfl, Nat.le_of_ble_eq_true rfl, Nat.le_of_ble_eq_true rfl⟩ ⟨Nat.zero_le _, Nat.zero_le _⟩ o_moss rfl rfl (Nat.le_of_ble_eq_true rfl) rfl hl.1 dX5_drain_41 hz (fun H locs hz => ?_)
        refine lv_if_eq (tgt := 56) hx hb dX5_drain_44 (by decide) (fun c10 => ?_) (fun c10 => ?_)
        · have hf := ite_t hf c10
          exact w5_drain_b56 C hR ih _ _ _ _ _ _ _ _ hf hz (lv_sub hl [0, 1, 2, 3, 4] rfl)
        · have hf := ite_f hf c10
          refine lv_iload hx hb dX5_drain_47 (lv_at hl 4 rfl) ?_
          refine lv_istore_n (lv' := [(2, .int x4), (0, .ref (h 134)), (1, .int x1), (3, .int x3), (4, .int x4)]) hx hb dX5_drain_49 rfl hl (by decide) rfl (fun ls hl => ?_)
          refine lv_iload hx hb dX5_drain_50 (lv_at hl 4 rfl) ?_
          obtain ⟨r13, g12, hc11, hf⟩ := bd2_elim hf
          refine z_SI (As := [.int x4]) (rest := []) C (c9_bitCount hc11) lk_RX5_181 ⟨rfl, rfl, Nat.le_of_ble_eq_true rfl, Nat.le_of_ble_eq_true rfl⟩ ⟨Nat.zero_le _, Nat.zero_le _⟩ rfl (Nat.le_of_ble_eq_true rfl) rfl hl.1 dX5_drain_52 hz (fun H locs hz => ?_)
          refine lv_istore_n (lv' := [(3, .int r13), (2, .int x4), (0, .ref (h 134)), (1, .int x1), (4, .int x4)]) hx hb dX5_drain_55 rfl hl (by decide) rfl (fun ls hl => ?_)
          exact w5_drain_b56 C hR ih _ _ _ _ _ _ _ _ hf hz (lv_sub hl [2, 3, 1, 0, 4] rfl)
set_option maxHeartbeats 4000000 in
set_option maxRecDepth 100000 in
theorem w5_drain_b0 {res : Int32 × Sg} (C : Cx p m c cX5_drain 5 s args RX5 D (tyL cI cZ cB)) (hR : EndI p l e rm5_drain s m args below meth c Q D (wX cI cZ cB h) A cX5_drain res) : ∀ (x1 : Int32) (g : Sg) (H : Heap) (locs : List Loc) (ls : Array Slot), f5_drain x1 g = some res → Zs D (wX cI cZ cB h) A s.heap H locs g → lv_has ls 5 [(0, .ref (h 134)), (1, .int x1)] → W p l e rm5_drain s m args below meth c H locs 0 0 Q (F0 m 0 ls []) := by
  have hx := C.1.1
  have hb := C.1.2.1
  intro x1 g H locs ls hf hz hl
  unfold f5_drain at hf
  refine lv_iload_n hx hb dX5_drain_0 rfl (lv_at hl 1 rfl) ?_
  refine lv_if_lt (tgt := 10) hx hb dX5_drain_1 (by decide) (fun c14 => ?_) (fun c14 => ?_)
  · have hf := ite_t hf c14
    refine lv_iconst (v := (-1 : Int32)) hx hb dX5_drain_10 (by decide) ?_
    exact hR _ _ _ _ _ _ (Option.some.inj hf) hz dX5_drain_11
  · have hf := ite_f hf c14
    refine lv_iload_n hx hb dX5_drain_4 rfl (lv_at hl 1 rfl) ?_
    refine lv_bipush (v := (20 : Int32)) hx hb dX5_drain_5 (by decide) ?_
    refine lv_icmp_le (tgt := 12) hx hb dX5_drain_7 (by decide) (fun c15 => ?_) (fun c15 => ?_)
    · have hf := ite_t hf c15
      refine lv_bipush (v := (-9 : Int32)) hx hb dX5_drain_12 (by decide) ?_
      refine lv_istore_n (lv' := [(2, .int (-9 : Int32)), (0, .ref (h 134)), (1, .int x1)]) hx hb dX5_drain_14 rfl hl (by decide) rfl (fun ls hl => ?_)
      refine lv_bipush (v := (7 : Int32)) hx hb dX5_drain_15 (by decide) ?_
      refine lv_istore_n (lv' := [(3, .int (7 : Int32)), (2, .int (-9 : Int32)), (0, .ref (h 134)), (1, .int x1)]) hx hb dX5_drain_17 rfl hl (by decide) rfl (fun ls hl => ?_)
      refine lv_iconst (v := (0 : Int32)) hx hb dX5_drain_18 (by decide) ?_
      refine lv_istore (lv' := [(4, .int (0 : Int32)), (3, .int (7 : Int32)), (2, .int (-9 : Int32)), (0, .ref (h 134)), (1, .int x1)]) hx hb dX5_drain_19 hl (by decide) rfl (fun ls hl => ?_)
      exact w5_drain_b21 C hR 1000 _ _ _ _ _ _ _ _ hf hz (lv_sub hl [3, 4, 2, 1, 0] rfl)
    · have hf := ite_f hf c15
      refine lv_iconst (v := (-1 : Int32)) hx hb dX5_drain_10 (by decide) ?_
      exact hR _ _ _ _ _ _ (Option.some.inj hf) hz dX5_drain_11
set_option maxHeartbeats 4000000 in
set_option maxRecDepth 100000 in
theorem c5_drain {l : Launch} {D : va_G} {cI cZ cB : ClassId} {h : Nat → Nat} {x1 : Int32} {g : Sg} {r : Int32} {g1 : Sg} (hf : f5_drain x1 g = some (r, g1)) : KI l D (tyL cI cZ cB) (wX cI cZ cB h) yX5_drain cX5_drain 5 (some .int) rm5_drain [.ref (h 134), .int x1] g r g1 := by
  refine KI_mk (own := RX5) (by decide +kernel) rfl (Nat.le_of_ble_eq_true rfl) ?_
  intro p e s m below meth c A Q ls C hR hz hl
  have hl : lv_has ls 5 [(0, .ref (h 134)), (1, .int x1)] := hl
  exact w5_drain_b0 C hR _ _ _ _ _ hf hz hl
abbrev rm5_choices : Room := { frames := 0, cells := 0, slots := 0, locals := 0 }
set_option maxHeartbeats 4000000 in
set_option maxRecDepth 100000 in
theorem w5_choices_b4 {res : Int32 × Sg} (C : Cx p m c cX5_choices 4 s args RX5 D (tyL cI cZ cB)) (hR : EndI p l e rm5_choices s m args below meth c Q D (wX cI cZ cB h) A cX5_choices res) : ∀ n : Nat, ∀ (x0 : Int32) (x1 : Int32) (x2 : Int32) (x3 : Int32) (g : Sg) (H : Heap) (locs : List Loc) (ls : Array Slot), f5_choices_b4 n x0 x1 x2 x3 g = some res → Zs D (wX cI cZ cB h) A s.heap H locs g → lv_has ls 4 [(0, .int x0), (1, .int x1), (2, .int x2), (3, .int x3)] → W p l e rm5_choices s m args below meth c H locs 0 0 Q (F0 m 4 ls []) := by
  have hx := C.1.1
  have hb := C.1.2.1
  intro n
  induction n with
  | zero =>
    intro x0 x1 x2 x3 g H locs ls hf hz hl
    cases hf
  | succ n ih =>
    intro x0 x1 x2 x3 g H locs ls hf hz hl
    rw [f5_choices_b4] at hf
    refine lv_iload_n hx hb dX5_choices_4 rfl (lv_at hl 3 rfl) ?_
    refine lv_iload_n hx hb dX5_choices_5 rfl (lv_at hl 1 rfl) ?_
    refine lv_icmp_gt (tgt := 25) hx hb dX5_choices_6 (by decide) (fun c1 => ?_) (fun c1 => ?_)
    · have hf := ite_t hf c1
      refine lv_iload_n hx hb dX5_choices_25 rfl (lv_at hl 2 rfl) ?_
      exact hR _ _ _ _ _ _ (Option.some.inj hf) hz dX5_choices_26
    · have hf := ite_f hf c1
      refine lv_iload_n hx hb dX5_choices_9 rfl (lv_at hl 2 rfl) ?_
      refine lv_iload_n hx hb dX5_choices_10 rfl (lv_at hl 0 rfl) ?_
      refine lv_iload_n hx hb dX5_choices_11 rfl (lv_at hl 3 rfl) ?_
      refine lv_isub hx hb dX5_choices_12 ?_
      refine lv_iconst (v := (1 : Int32)) hx hb dX5_choices_13 (by decide) ?_
      refine lv_iadd hx hb dX5_choices_14 ?_
      refine lv_imul hx hb dX5_choices_15 ?_
      refine lv_iload_n hx hb dX5_choices_16 rfl (lv_at hl 3 rfl) ?_
      obtain ⟨c2, hf⟩ := nz_elim hf
      refine lv_idiv hx hb dX5_choices_17 c2 ?_
      obtain ⟨v3, ev3, hf⟩ := nx_elim hf
      refine z_nm ev3 ?_
      refine lv_istore_n (lv' := [(2, .int v3), (0, .int x0), (1, .int x1), (3, .int x3)]) hx hb dX5_choices_18 rfl hl (by decide) rfl (fun ls hl => ?_)
      obtain ⟨v4, ev4, hf⟩ := nx_elim hf
      refine lv_iinc (v := v4) (lv' := [(3, .int v4), (2, .int v3), (0, .int x0), (1, .int x1)]) hx hb dX5_choices_19 hl (k := 3) rfl (by rw [ev4]; rfl) (by decide) rfl (fun ls hl => ?_)
      refine lv_goto (tgt := 4) hx hb dX5_choices_22 (by decide) ?_
      exact ih _ _ _ _ _ _ _ _ hf hz (lv_sub hl [2, 3, 1, 0] rfl)
set_option maxHeartbeats 4000000 in
set_option maxRecDepth 100000 in
theorem w5_choices_b0 {res : Int32 × Sg} (C : Cx p m c cX5_choices 4 s args RX5 D (tyL cI cZ cB)) (hR : EndI p l e rm5_choices s m args below meth c Q D (wX cI cZ cB h) A cX5_choices res) : ∀ (x0 : Int32) (x1 : Int32) (g : Sg) (H : Heap) (locs : List Loc) (ls : Array Slot), f5_choices x0 x1 g = some res → Zs D (wX cI cZ cB h) A s.heap H locs g → lv_has ls 4 [(0, .int x0), (1, .int x1)] → W p l e rm5_choices s m args below meth c H locs 0 0 Q (F0 m 0 ls []) := by
  have hx := C.1.1
  have hb := C.1.2.1
  intro x0 x1 g H locs ls hf hz hl
  unfold f5_choices at hf
  refine lv_iconst (v := (1 : Int32)) hx hb dX5_choices_0 (by decide) ?_
  refine lv_istore_n (lv' := [(2, .int (1 : Int32)), (0, .int x0), (1, .int x1)]) hx hb dX5_choices_1 rfl hl (by decide) rfl (fun ls hl => ?_)
  refine lv_iconst (v := (1 : Int32)) hx hb dX5_choices_2 (by decide) ?_
  refine lv_istore_n (lv' := [(3, .int (1 : Int32)), (2, .int (1 : Int32)), (0, .int x0), (1, .int x1)]) hx hb dX5_choices_3 rfl hl (by decide) rfl (fun ls hl => ?_)
  exact w5_choices_b4 C hR 1000 _ _ _ _ _ _ _ _ hf hz (lv_sub hl [2, 3, 1, 0] rfl)
set_option maxHeartbeats 4000000 in
set_option maxRecDepth 100000 in
theorem c5_choices {l : Launch} {D : va_G} {cI cZ cB : ClassId} {h : Nat → Nat} {x0 : Int32} {x1 : Int32} {g : Sg} {r : Int32} {g1 : Sg} (hf : f5_choices x0 x1 g = some (r, g1)) : KI l D (tyL cI cZ cB) (wX cI cZ cB h) yX5_choices cX5_choices 4 (some .int) rm5_choices [.int x0, .int x1] g r g1 := by
  refine KI_mk (own := RX5) (by decide +kernel) rfl (Nat.le_of_ble_eq_true rfl) ?_
  intro p e s m below meth c A Q ls C hR hz hl
  have hl : lv_has ls 4 [(0, .int x0), (1, .int x1)] := hl
  exact w5_choices_b0 C hR _ _ _ _ _ _ hf hz hl
abbrev rm5_power : Room := { frames := 0, cells := 0, slots := 0, locals := 0 }
set_option maxHeartbeats 4000000 in
set_option maxRecDepth 100000 in
theorem w5_power_b4 {res : Int32 × Sg} (C : Cx p m c cX5_power 4 s args RX5 D (tyL cI cZ cB)) (hR : EndI p l e rm5_power s m args below meth c Q D (wX cI cZ cB h) A cX5_power res) : ∀ n : Nat, ∀ (x0 : Int32) (x1 : Int32) (x2 : Int32) (x3 : Int32) (g : Sg) (H : Heap) (locs : List Loc) (ls : Array Slot), f5_power_b4 n x0 x1 x2 x3 g = some res → Zs D (wX cI cZ cB h) A s.heap H locs g → lv_has ls 4 [(0, .int x0), (1, .int x1), (2, .int x2), (3, .int x3)] → W p l e rm5_power s m args below meth c H locs 0 0 Q (F0 m 4 ls []) := by
  have hx := C.1.1
  have hb := C.1.2.1
  intro n
  induction n with
  | zero =>
    intro x0 x1 x2 x3 g H locs ls hf hz hl
    cases hf
  | succ n ih =>
    intro x0 x1 x2 x3 g H locs ls hf hz hl
    rw [f5_power_b4] at hf
    refine lv_iload_n hx hb dX5_power_4 rfl (lv_at hl 3 rfl) ?_
    refine lv_iload_n hx hb dX5_power_5 rfl (lv_at hl 1 rfl) ?_
    refine lv_icmp_ge (tgt := 19) hx hb dX5_power_6 (by decide) (fun c1 => ?_) (fun c1 => ?_)
    · have hf := ite_t hf c1
      refine lv_iload_n hx hb dX5_power_19 rfl (lv_at hl 2 rfl) ?_
      exact hR _ _ _ _ _ _ (Option.some.inj hf) hz dX5_power_20
    · have hf := ite_f hf c1
      refine lv_iload_n hx hb dX5_power_9 rfl (lv_at hl 2 rfl) ?_
      refine lv_iload_n hx hb dX5_power_10 rfl (lv_at hl 0 rfl) ?_
      refine lv_imul hx hb dX5_power_11 ?_
      obtain ⟨v2, ev2, hf⟩ := nx_elim hf
      refine z_nm ev2 ?_
      refine lv_istore_n (lv' := [(2, .int v2), (0, .int x0), (1, .int x1), (3, .int x3)]) hx hb dX5_power_12 rfl hl (by decide) rfl (fun ls hl => ?_)
      obtain ⟨v3, ev3, hf⟩ := nx_elim hf
      refine lv_iinc (v := v3) (lv' := [(3, .int v3), (2, .int v2), (0, .int x0), (1, .int x1)]) hx hb dX5_power_13 hl (k := 3) rfl (by rw [ev3]; rfl) (by decide) rfl (fun ls hl => ?_)
      refine lv_goto (tgt := 4) hx hb dX5_power_16 (by decide) ?_
      exact ih _ _ _ _ _ _ _ _ hf hz (lv_sub hl [2, 3, 1, 0] rfl)
set_option maxHeartbeats 4000000 in
set_option maxRecDepth 100000 in
theorem w5_power_b0 {res : Int32 × Sg} (C : Cx p m c cX5_power 4 s args RX5 D (tyL cI cZ cB)) (hR : EndI p l e rm5_power s m args below meth c Q D (wX cI cZ cB h) A cX5_power res) : ∀ (x0 : Int32) (x1 : Int32) (g : Sg) (H : Heap) (locs : List Loc) (ls : Array Slot), f5_power x0 x1 g = some res → Zs D (wX cI cZ cB h) A s.heap H locs g → lv_has ls 4 [(0, .int x0), (1, .int x1)] → W p l e rm5_power s m args below meth c H locs 0 0 Q (F0 m 0 ls []) := by
  have hx := C.1.1
  have hb := C.1.2.1
  intro x0 x1 g H locs ls hf hz hl
  unfold f5_power at hf
  refine lv_iconst (v := (1 : Int32)) hx hb dX5_power_0 (by decide) ?_
  refine lv_istore_n (lv' := [(2, .int (1 : Int32)), (0, .int x0), (1, .int x1)]) hx hb dX5_power_1 rfl hl (by decide) rfl (fun ls hl => ?_)
  refine lv_iconst (v := (0 : Int32)) hx hb dX5_power_2 (by decide) ?_
  refine lv_istore_n (lv' := [(3, .int (0 : Int32)), (2, .int (1 : Int32)), (0, .int x0), (1, .int x1)]) hx hb dX5_power_3 rfl hl (by decide) rfl (fun ls hl => ?_)
  exact w5_power_b4 C hR 1000 _ _ _ _ _ _ _ _ hf hz (lv_sub hl [2, 3, 1, 0] rfl)
set_option maxHeartbeats 4000000 in
set_option maxRecDepth 100000 in
theorem c5_power {l : Launch} {D : va_G} {cI cZ cB : ClassId} {h : Nat → Nat} {x0 : Int32} {x1 : Int32} {g : Sg} {r : Int32} {g1 : Sg} (hf : f5_power x0 x1 g = some (r, g1)) : KI l D (tyL cI cZ cB) (wX cI cZ cB h) yX5_power cX5_power 4 (some .int) rm5_power [.int x0, .int x1] g r g1 := by
  refine KI_mk (own := RX5) (by decide +kernel) rfl (Nat.le_of_ble_eq_true rfl) ?_
  intro p e s m below meth c A Q ls C hR hz hl
  have hl : lv_has ls 4 [(0, .int x0), (1, .int x1)] := hl
  exact w5_power_b0 C hR _ _ _ _ _ _ hf hz hl
abbrev rm5_commonDivisor : Room := { frames := 0, cells := 0, slots := 0, locals := 0 }
set_option maxHeartbeats 4000000 in
set_option maxRecDepth 100000 in
theorem w5_commonDivisor_b7 {res : Int32 × Sg} (C : Cx p m c cX5_commonDivisor 6 s args RX5 D (tyL cI cZ cB)) (hR : EndI p l e rm5_commonDivisor s m args below meth c Q D (wX cI cZ cB h) A cX5_commonDivisor res) : ∀ n : Nat, ∀ (x2 : Int32) (x3 : Int32) (x4 : Int32) (g : Sg) (H : Heap) (locs : List Loc) (ls : Array Slot), f5_commonDivisor_b7 n x2 x3 x4 g = some res → Zs D (wX cI cZ cB h) A s.heap H locs g → lv_has ls 6 [(2, .int x2), (3, .int x3), (4, .int x4)] → W p l e rm5_commonDivisor s m args below meth c H locs 0 0 Q (F0 m 7 ls []) := by
  have hx := C.1.1
  have hb := C.1.2.1
  intro n
  induction n with
  | zero =>
    intro x2 x3 x4 g H locs ls hf hz hl
    cases hf
  | succ n ih =>
    intro x2 x3 x4 g H locs ls hf hz hl
    rw [f5_commonDivisor_b7] at hf
    refine lv_iload hx hb dX5_commonDivisor_7 (lv_at hl 2 rfl) ?_
    refine lv_bipush (v := (64 : Int32)) hx hb dX5_commonDivisor_9 (by decide) ?_
    refine lv_icmp_ge (tgt := 34) hx hb dX5_commonDivisor_11 (by decide) (fun c1 => ?_) (fun c1 => ?_)
    · have hf := ite_t hf c1
      refine lv_iload_n hx hb dX5_commonDivisor_34 rfl (lv_at hl 0 rfl) ?_
      exact hR _ _ _ _ _ _ (Option.some.inj hf) hz dX5_commonDivisor_35
    · have hf := ite_f hf c1
      refine lv_iload_n hx hb dX5_commonDivisor_14 rfl (lv_at hl 1 rfl) ?_
      refine lv_if_eq (tgt := 34) hx hb dX5_commonDivisor_15 (by decide) (fun c2 => ?_) (fun c2 => ?_)
      · have hf := ite_t hf c2
        refine lv_iload_n hx hb dX5_commonDivisor_34 rfl (lv_at hl 0 rfl) ?_
        exact hR _ _ _ _ _ _ (Option.some.inj hf) hz dX5_commonDivisor_35
      · have hf := ite_f hf c2
        refine lv_iload_n hx hb dX5_commonDivisor_18 rfl (lv_at hl 0 rfl) ?_
        refine lv_iload_n hx hb dX5_commonDivisor_19 rfl (lv_at hl 1 rfl) ?_
        obtain ⟨c3, hf⟩ := nz_elim hf
        refine lv_irem hx hb dX5_commonDivisor_20 c3 ?_
        obtain ⟨v4, ev4, hf⟩ := nx_elim hf
        refine z_nm ev4 ?_
        refine lv_istore (lv' := [(5, .int v4), (2, .int x2), (3, .int x3), (4, .int x4)]) hx hb dX5_commonDivisor_21 hl (by decide) rfl (fun ls hl => ?_)
        refine lv_iload_n hx hb dX5_commonDivisor_23 rfl (lv_at hl 2 rfl) ?_
        refine lv_istore_n (lv' := [(2, .int x3), (5, .int v4), (3, .int x3), (4, .int x4)]) hx hb dX5_commonDivisor_24 rfl hl (by decide) rfl (fun ls hl => ?_)
        refine lv_iload hx hb dX5_commonDivisor_25 (lv_at hl 1 rfl) ?_
        refine lv_istore_n (lv' := [(3, .int v4), (2, .int x3), (5, .int v4), (4, .int x4)]) hx hb dX5_commonDivisor_27 rfl hl (by decide) rfl (fun ls hl => ?_)
        obtain ⟨v5, ev5, hf⟩ := nx_elim hf
        refine lv_iinc (v := v5) (lv' := [(4, .int v5), (3, .int v4), (2, .int x3), (5, .int v4)]) hx hb dX5_commonDivisor_28 hl (k := 3) rfl (by rw [ev5]; rfl) (by decide) rfl (fun ls hl => ?_)
        refine lv_goto (tgt := 7) hx hb dX5_commonDivisor_31 (by decide) ?_
        exact ih _ _ _ _ _ _ _ hf hz (lv_sub hl [2, 1, 0] rfl)
set_option maxHeartbeats 4000000 in
set_option maxRecDepth 100000 in
theorem w5_commonDivisor_b0 {res : Int32 × Sg} (C : Cx p m c cX5_commonDivisor 6 s args RX5 D (tyL cI cZ cB)) (hR : EndI p l e rm5_commonDivisor s m args below meth c Q D (wX cI cZ cB h) A cX5_commonDivisor res) : ∀ (x0 : Int32) (x1 : Int32) (g : Sg) (H : Heap) (locs : List Loc) (ls : Array Slot), f5_commonDivisor x0 x1 g = some res → Zs D (wX cI cZ cB h) A s.heap H locs g → lv_has ls 6 [(0, .int x0), (1, .int x1)] → W p l e rm5_commonDivisor s m args below meth c H locs 0 0 Q (F0 m 0 ls []) := by
  have hx := C.1.1
  have hb := C.1.2.1
  intro x0 x1 g H locs ls hf hz hl
  unfold f5_commonDivisor at hf
  refine lv_iload_n hx hb dX5_commonDivisor_0 rfl (lv_at hl 0 rfl) ?_
  refine lv_istore_n (lv' := [(2, .int x0), (0, .int x0), (1, .int x1)]) hx hb dX5_commonDivisor_1 rfl hl (by decide) rfl (fun ls hl => ?_)
  refine lv_iload_n hx hb dX5_commonDivisor_2 rfl (lv_at hl 2 rfl) ?_
  refine lv_istore_n (lv' := [(3, .int x1), (2, .int x0), (0, .int x0), (1, .int x1)]) hx hb dX5_commonDivisor_3 rfl hl (by decide) rfl (fun ls hl => ?_)
  refine lv_iconst (v := (0 : Int32)) hx hb dX5_commonDivisor_4 (by decide) ?_
  refine lv_istore (lv' := [(4, .int (0 : Int32)), (3, .int x1), (2, .int x0), (0, .int x0), (1, .int x1)]) hx hb dX5_commonDivisor_5 hl (by decide) rfl (fun ls hl => ?_)
  exact w5_commonDivisor_b7 C hR 1000 _ _ _ _ _ _ _ hf hz (lv_sub hl [2, 1, 0] rfl)
set_option maxHeartbeats 4000000 in
set_option maxRecDepth 100000 in
theorem c5_commonDivisor {l : Launch} {D : va_G} {cI cZ cB : ClassId} {h : Nat → Nat} {x0 : Int32} {x1 : Int32} {g : Sg} {r : Int32} {g1 : Sg} (hf : f5_commonDivisor x0 x1 g = some (r, g1)) : KI l D (tyL cI cZ cB) (wX cI cZ cB h) yX5_commonDivisor cX5_commonDivisor 6 (some .int) rm5_commonDivisor [.int x0, .int x1] g r g1 := by
  refine KI_mk (own := RX5) (by decide +kernel) rfl (Nat.le_of_ble_eq_true rfl) ?_
  intro p e s m below meth c A Q ls C hR hz hl
  have hl : lv_has ls 6 [(0, .int x0), (1, .int x1)] := hl
  exact w5_commonDivisor_b0 C hR _ _ _ _ _ _ hf hz hl
abbrev rm5_odds : Room := { frames := 1, cells := 0, slots := 0, locals := 25 }
set_option maxHeartbeats 4000000 in
set_option maxRecDepth 100000 in
theorem w5_odds_b49 {res : Int32 × Sg} (C : Cx p m c cX5_odds 8 s args RX5 D (tyL cI cZ cB)) (hR : EndI p l e rm5_odds s m args below meth c Q D (wX cI cZ cB h) A cX5_odds res) : ∀ n : Nat, ∀ (x1 : Int32) (x2 : Int32) (x4 : Int32) (x5 : Int32) (x6 : Int32) (g : Sg) (H : Heap) (locs : List Loc) (ls : Array Slot), f5_odds_b49 n x1 x2 x4 x5 x6 g = some res → Zs D (wX cI cZ cB h) A s.heap H locs g → lv_has ls 8 [(1, .int x1), (2, .int x2), (4, .int x4), (5, .int x5), (6, .int x6)] → W p l e rm5_odds s m args below meth c H locs 0 0 Q (F0 m 49 ls []) := by
  have hx := C.1.1
  have hb := C.1.2.1
  intro n
  induction n with
  | zero =>
    intro x1 x2 x4 x5 x6 g H locs ls hf hz hl
    cases hf
  | succ n ih =>
    intro x1 x2 x4 x5 x6 g H locs ls hf hz hl
    rw [f5_odds_b49] at hf
    refine lv_iload hx hb dX5_odds_49 (lv_at hl 4 rfl) ?_
    refine lv_iload_n hx hb dX5_odds_51 rfl (lv_at hl 1 rfl) ?_
    refine lv_icmp_gt (tgt := 91) hx hb dX5_odds_52 (by decide) (fun c1 => ?_) (fun c1 => ?_)
    · have hf := ite_t hf c1
      refine lv_bipush (v := (10 : Int32)) hx hb dX5_odds_91 (by decide) ?_
      refine lv_iload_n hx hb dX5_odds_93 rfl (lv_at hl 1 rfl) ?_
      obtain ⟨r4, g3, hc2, hf⟩ := bd2_elim hf
      refine z_SI (As := [.int (10 : Int32), .int x2]) (rest := []) C (c5_power hc2) lk_RX5_230 ⟨rfl, rfl, Nat.le_of_ble_eq_true rfl, Nat.le_of_ble_eq_true rfl⟩ ⟨Nat.zero_le _, Nat.zero_le _⟩ rfl (Nat.le_of_ble_eq_true rfl) rfl hl.1 dX5_odds_94 hz (fun H locs hz => ?_)
      refine lv_istore (lv' := [(6, .int r4), (1, .int x1), (2, .int x2), (4, .int x4), (5, .int x5)]) hx hb dX5_odds_97 hl (by decide) rfl (fun ls hl => ?_)
      refine lv_iload hx hb dX5_odds_99 (lv_at hl 4 rfl) ?_
      refine lv_iload hx hb dX5_odds_101 (lv_at hl 0 rfl) ?_
      obtain ⟨r7, g6, hc5, hf⟩ := bd2_elim hf
      refine z_SI (As := [.int x5, .int r4]) (rest := []) C (c5_commonDivisor hc5) lk_RX5_233 ⟨rfl, rfl, Nat.le_of_ble_eq_true rfl, Nat.le_of_ble_eq_true rfl⟩ ⟨Nat.zero_le _, Nat.zero_le _⟩ rfl (Nat.le_of_ble_eq_true rfl) rfl hl.1 dX5_odds_103 hz (fun H locs hz => ?_)
      refine lv_istore (lv' := [(7, .int r7), (6, .int r4), (1, .int x1), (2, .int x2), (4, .int x4), (5, .int x5)]) hx hb dX5_odds_106 hl (by decide) rfl (fun ls hl => ?_)
      refine lv_iload hx hb dX5_odds_108 (lv_at hl 0 rfl) ?_
      refine lv_iconst (v := (1 : Int32)) hx hb dX5_odds_110 (by decide) ?_
      refine lv_icmp_ge (tgt := 116) hx hb dX5_odds_111 (by decide) (fun c8 => ?_) (fun c8 => ?_)
      · have hf := ite_t hf c8
        refine lv_iload hx hb dX5_odds_116 (lv_at hl 4 rfl) ?_
        refine lv_if_ne (tgt := 129) hx hb dX5_odds_118 (by decide) (fun c9 => ?_) (fun c9 => ?_)
        · have hf := ite_f hf c9
          refine lv_iload hx hb dX5_odds_129 (lv_at hl 1 rfl) ?_
          refine lv_iload hx hb dX5_odds_131 (lv_at hl 0 rfl) ?_
          obtain ⟨c10, hf⟩ := nz_elim hf
          refine lv_idiv hx hb dX5_odds_133 c10 ?_
          exact hR _ _ _ _ _ _ (Option.some.inj hf) hz dX5_odds_134
        · have hf := ite_t hf c9
          refine lv_iload hx hb dX5_odds_121 (lv_at hl 5 rfl) ?_
          refine lv_iload hx hb dX5_odds_123 (lv_at hl 0 rfl) ?_
          obtain ⟨c11, hf⟩ := nz_elim hf
          refine lv_idiv hx hb dX5_odds_125 c11 ?_
          refine lv_goto (tgt := 134) hx hb dX5_odds_126 (by decide) ?_
          exact hR _ _ _ _ _ _ (Option.some.inj hf) hz dX5_odds_134
      · have hf := ite_f hf c8
        refine lv_iconst (v := (-1 : Int32)) hx hb dX5_odds_114 (by decide) ?_
        exact hR _ _ _ _ _ _ (Option.some.inj hf) hz dX5_odds_115
    · have hf := ite_f hf c1
      refine lv_iload hx hb dX5_odds_55 (lv_at hl 3 rfl) ?_
      refine lv_iload_n hx hb dX5_odds_57 rfl (lv_at hl 1 rfl) ?_
      refine lv_iload hx hb dX5_odds_58 (lv_at hl 4 rfl) ?_
      obtain ⟨r14, g13, hc12, hf⟩ := bd2_elim hf
      refine z_SI (As := [.int x2, .int x6]) (rest := [.int x5]) C (c5_choices hc12) lk_RX5_227 ⟨rfl, rfl, Nat.le_of_ble_eq_true rfl, Nat.le_of_ble_eq_true rfl⟩ ⟨Nat.zero_le _, Nat.zero_le _⟩ rfl (Nat.le_of_ble_eq_true rfl) rfl hl.1 dX5_odds_60 hz (fun H locs hz => ?_)
      refine lv_iload_n hx hb dX5_odds_63 rfl (lv_at hl 0 rfl) ?_
      refine lv_iload hx hb dX5_odds_64 (lv_at hl 4 rfl) ?_
      obtain ⟨r17, g16, hc15, hf⟩ := bd2_elim hf
      refine z_SI (As := [.int x1, .int x6]) (rest := [.int r14, .int x5]) C (c5_power hc15) lk_RX5_230 ⟨rfl, rfl, Nat.le_of_ble_eq_true rfl, Nat.le_of_ble_eq_true rfl⟩ ⟨Nat.zero_le _, Nat.zero_le _⟩ rfl (Nat.le_of_ble_eq_true rfl) rfl hl.1 dX5_odds_66 hz (fun H locs hz => ?_)
      refine lv_imul hx hb dX5_odds_69 ?_
      refine lv_bipush (v := (10 : Int32)) hx hb dX5_odds_70 (by decide) ?_
      refine lv_iload_n hx hb dX5_odds_72 rfl (lv_at hl 0 rfl) ?_
      refine lv_isub hx hb dX5_odds_73 ?_
      refine lv_iload_n hx hb dX5_odds_74 rfl (lv_at hl 1 rfl) ?_
      refine lv_iload hx hb dX5_odds_75 (lv_at hl 4 rfl) ?_
      refine lv_isub hx hb dX5_odds_77 ?_
      obtain ⟨r20, g19, hc18, hf⟩ := bd2_elim hf
      refine z_SI (As := [.int ((10 : Int32) - x1), .int (x2 - x6)]) (rest := [.int (r14 * r17), .int x5]) C (c5_power hc18) lk_RX5_230 ⟨rfl, rfl, Nat.le_of_ble_eq_true rfl, Nat.le_of_ble_eq_true rfl⟩ ⟨Nat.zero_le _, Nat.zero_le _⟩ rfl (Nat.le_of_ble_eq_true rfl) rfl hl.1 dX5_odds_78 hz (fun H locs hz => ?_)
      refine lv_imul hx hb dX5_odds_81 ?_
      refine lv_iadd hx hb dX5_odds_82 ?_
      obtain ⟨v21, ev21, hf⟩ := nx_elim hf
      refine z_nm ev21 ?_
      refine lv_istore (lv' := [(5, .int v21), (1, .int x1), (2, .int x2), (4, .int x4), (6, .int x6)]) hx hb dX5_odds_83 hl (by decide) rfl (fun ls hl => ?_)
      obtain ⟨v22, ev22, hf⟩ := nx_elim hf
      refine lv_iinc (v := v22) (lv' := [(6, .int v22), (5, .int v21), (1, .int x1), (2, .int x2), (4, .int x4)]) hx hb dX5_odds_85 hl (k := 4) rfl (by rw [ev22]; rfl) (by decide) rfl (fun ls hl => ?_)
      refine lv_goto (tgt := 49) hx hb dX5_odds_88 (by decide) ?_
      exact ih _ _ _ _ _ _ _ _ _ hf hz (lv_sub hl [2, 3, 4, 1, 0] rfl)
set_option maxHeartbeats 4000000 in
set_option maxRecDepth 100000 in
theorem w5_odds_b0 {res : Int32 × Sg} (C : Cx p m c cX5_odds 8 s args RX5 D (tyL cI cZ cB)) (hR : EndI p l e rm5_odds s m args below meth c Q D (wX cI cZ cB h) A cX5_odds res) : ∀ (x1 : Int32) (x2 : Int32) (x3 : Int32) (x4 : Int32) (g : Sg) (H : Heap) (locs : List Loc) (ls : Array Slot), f5_odds x1 x2 x3 x4 g = some res → Zs D (wX cI cZ cB h) A s.heap H locs g → lv_has ls 8 [(0, .ref (h 134)), (1, .int x1), (2, .int x2), (3, .int x3), (4, .int x4)] → W p l e rm5_odds s m args below meth c H locs 0 0 Q (F0 m 0 ls []) := by
  have hx := C.1.1
  have hb := C.1.2.1
  intro x1 x2 x3 x4 g H locs ls hf hz hl
  unfold f5_odds at hf
  refine lv_iload_n hx hb dX5_odds_0 rfl (lv_at hl 1 rfl) ?_
  refine lv_if_lt (tgt := 41) hx hb dX5_odds_1 (by decide) (fun c23 => ?_) (fun c23 => ?_)
  · have hf := ite_t hf c23
    refine lv_iconst (v := (-1 : Int32)) hx hb dX5_odds_41 (by decide) ?_
    exact hR _ _ _ _ _ _ (Option.some.inj hf) hz dX5_odds_42
  · have hf := ite_f hf c23
    refine lv_iload_n hx hb dX5_odds_4 rfl (lv_at hl 1 rfl) ?_
    refine lv_bipush (v := (10 : Int32)) hx hb dX5_odds_5 (by decide) ?_
    refine lv_icmp_gt (tgt := 41) hx hb dX5_odds_7 (by decide) (fun c24 => ?_) (fun c24 => ?_)
    · have hf := ite_t hf c24
      refine lv_iconst (v := (-1 : Int32)) hx hb dX5_odds_41 (by decide) ?_
      exact hR _ _ _ _ _ _ (Option.some.inj hf) hz dX5_odds_42
    · have hf := ite_f hf c24
      refine lv_iload_n hx hb dX5_odds_10 rfl (lv_at hl 2 rfl) ?_
      refine lv_if_lt (tgt := 41) hx hb dX5_odds_11 (by decide) (fun c25 => ?_) (fun c25 => ?_)
      · have hf := ite_t hf c25
        refine lv_iconst (v := (-1 : Int32)) hx hb dX5_odds_41 (by decide) ?_
        exact hR _ _ _ _ _ _ (Option.some.inj hf) hz dX5_odds_42
      · have hf := ite_f hf c25
        refine lv_iload_n hx hb dX5_odds_14 rfl (lv_at hl 2 rfl) ?_
        refine lv_bipush (v := (6 : Int32)) hx hb dX5_odds_15 (by decide) ?_
        refine lv_icmp_gt (tgt := 41) hx hb dX5_odds_17 (by decide) (fun c26 => ?_) (fun c26 => ?_)
        · have hf := ite_t hf c26
          refine lv_iconst (v := (-1 : Int32)) hx hb dX5_odds_41 (by decide) ?_
          exact hR _ _ _ _ _ _ (Option.some.inj hf) hz dX5_odds_42
        · have hf := ite_f hf c26
          refine lv_iload_n hx hb dX5_odds_20 rfl (lv_at hl 3 rfl) ?_
          refine lv_if_lt (tgt := 41) hx hb dX5_odds_21 (by decide) (fun c27 => ?_) (fun c27 => ?_)
          · have hf := ite_t hf c27
            refine lv_iconst (v := (-1 : Int32)) hx hb dX5_odds_41 (by decide) ?_
            exact hR _ _ _ _ _ _ (Option.some.inj hf) hz dX5_odds_42
          · have hf := ite_f hf c27
            refine lv_iload_n hx hb dX5_odds_24 rfl (lv_at hl 3 rfl) ?_
            refine lv_bipush (v := (6 : Int32)) hx hb dX5_odds_25 (by decide) ?_
            refine lv_icmp_gt (tgt := 41) hx hb dX5_odds_27 (by decide) (fun c28 => ?_) (fun c28 => ?_)
            · have hf := ite_t hf c28
              refine lv_iconst (v := (-1 : Int32)) hx hb dX5_odds_41 (by decide) ?_
              exact hR _ _ _ _ _ _ (Option.some.inj hf) hz dX5_odds_42
            · have hf := ite_f hf c28
              refine lv_iload hx hb dX5_odds_30 (lv_at hl 4 rfl) ?_
              refine lv_if_lt (tgt := 41) hx hb dX5_odds_32 (by decide) (fun c29 => ?_) (fun c29 => ?_)
              · have hf := ite_t hf c29
                refine lv_iconst (v := (-1 : Int32)) hx hb dX5_odds_41 (by decide) ?_
                exact hR _ _ _ _ _ _ (Option.some.inj hf) hz dX5_odds_42
              · have hf := ite_f hf c29
                refine lv_iload hx hb dX5_odds_35 (lv_at hl 4 rfl) ?_
                refine lv_iconst (v := (1 : Int32)) hx hb dX5_odds_37 (by decide) ?_
                refine lv_icmp_le (tgt := 43) hx hb dX5_odds_38 (by decide) (fun c30 => ?_) (fun c30 => ?_)
                · have hf := ite_t hf c30
                  refine lv_iconst (v := (0 : Int32)) hx hb dX5_odds_43 (by decide) ?_
                  refine lv_istore (lv' := [(5, .int (0 : Int32)), (0, .ref (h 134)), (1, .int x1), (2, .int x2), (3, .int x3), (4, .int x4)]) hx hb dX5_odds_44 hl (by decide) rfl (fun ls hl => ?_)
                  refine lv_iload_n hx hb dX5_odds_46 rfl (lv_at hl 4 rfl) ?_
                  refine lv_istore (lv' := [(6, .int x3), (5, .int (0 : Int32)), (0, .ref (h 134)), (1, .int x1), (2, .int x2), (3, .int x3), (4, .int x4)]) hx hb dX5_odds_47 hl (by decide) rfl (fun ls hl => ?_)
                  exact w5_odds_b49 C hR 1000 _ _ _ _ _ _ _ _ _ hf hz (lv_sub hl [3, 4, 6, 1, 0] rfl)
                · have hf := ite_f hf c30
                  refine lv_iconst (v := (-1 : Int32)) hx hb dX5_odds_41 (by decide) ?_
                  exact hR _ _ _ _ _ _ (Option.some.inj hf) hz dX5_odds_42
set_option maxHeartbeats 4000000 in
set_option maxRecDepth 100000 in
theorem c5_odds {l : Launch} {D : va_G} {cI cZ cB : ClassId} {h : Nat → Nat} {x1 : Int32} {x2 : Int32} {x3 : Int32} {x4 : Int32} {g : Sg} {r : Int32} {g1 : Sg} (hf : f5_odds x1 x2 x3 x4 g = some (r, g1)) : KI l D (tyL cI cZ cB) (wX cI cZ cB h) yX5_odds cX5_odds 8 (some .int) rm5_odds [.ref (h 134), .int x1, .int x2, .int x3, .int x4] g r g1 := by
  refine KI_mk (own := RX5) (by decide +kernel) rfl (Nat.le_of_ble_eq_true rfl) ?_
  intro p e s m below meth c A Q ls C hR hz hl
  have hl : lv_has ls 8 [(0, .ref (h 134)), (1, .int x1), (2, .int x2), (3, .int x3), (4, .int x4)] := hl
  exact w5_odds_b0 C hR _ _ _ _ _ _ _ _ hf hz hl
abbrev rm5_asWord : Room := { frames := 3, cells := 0, slots := 0, locals := 68 }
set_option maxHeartbeats 4000000 in
set_option maxRecDepth 100000 in
theorem w5_asWord_b0 {res : Int32 × Sg} (C : Cx p m c cX5_asWord 2 s args RX5 D (tyL cI cZ cB)) (hR : EndI p l e rm5_asWord s m args below meth c Q D (wX cI cZ cB h) A cX5_asWord res) : ∀ (x1 : Int32) (g : Sg) (H : Heap) (locs : List Loc) (ls : Array Slot), f5_asWord x1 g = some res → Zs D (wX cI cZ cB h) A s.heap H locs g → lv_has ls 2 [(0, .ref (h 134)), (1, .int x1)] → W p l e rm5_asWord s m args below meth c H locs 0 0 Q (F0 m 0 ls []) := by
  have hx := C.1.1
  have hb := C.1.2.1
  intro x1 g H locs ls hf hz hl
  unfold f5_asWord at hf
  refine lv_aload_n hx hb dX5_asWord_0 rfl (lv_at hl 0 rfl) ?_
  refine lv_dup hx hb dX5_asWord_1 rfl ?_
  refine g_RX5_59_moss C hz dX5_asWord_2 ?_
  refine lv_lconst (v := (1 : Int64)) hx hb dX5_asWord_5 rfl ?_
  refine lv_ladd hx hb dX5_asWord_6 ?_
  obtain ⟨g1, eg1, hf⟩ := nx_elim hf
  refine p_RX5_59_moss C hz eg1 dX5_asWord_7 (fun H locs hz => ?_)
  refine lv_aload_n hx hb dX5_asWord_10 rfl (lv_at hl 0 rfl) ?_
  refine lv_iload_n hx hb dX5_asWord_11 rfl (lv_at hl 1 rfl) ?_
  refine lv_iconst (v := (0 : Int32)) hx hb dX5_asWord_12 (by decide) ?_
  obtain ⟨r4, g3, hc2, hf⟩ := bd2_elim hf
  refine z_VI (As := [.int x1, .int (0 : Int32)]) (rest := []) C (c5_leftIn hc2) lk_RX5_127 ⟨rfl, rfl, Nat.le_of_ble_eq_true rfl, Nat.le_of_ble_eq_true rfl⟩ ⟨Nat.zero_le _, Nat.zero_le _⟩ o_moss rfl rfl (Nat.le_of_ble_eq_true rfl) rfl hl.1 dX5_asWord_13 hz (fun H locs hz => ?_)
  exact hR _ _ _ _ _ _ (Option.some.inj hf) hz dX5_asWord_16
set_option maxHeartbeats 4000000 in
set_option maxRecDepth 100000 in
theorem c5_asWord {l : Launch} {D : va_G} {cI cZ cB : ClassId} {h : Nat → Nat} {x1 : Int32} {g : Sg} {r : Int32} {g1 : Sg} (hf : f5_asWord x1 g = some (r, g1)) : KI l D (tyL cI cZ cB) (wX cI cZ cB h) yX5_asWord cX5_asWord 2 (some .int) rm5_asWord [.ref (h 134), .int x1] g r g1 := by
  refine KI_mk (own := RX5) (by decide +kernel) rfl (Nat.le_of_ble_eq_true rfl) ?_
  intro p e s m below meth c A Q ls C hR hz hl
  have hl : lv_has ls 2 [(0, .ref (h 134)), (1, .int x1)] := hl
  exact w5_asWord_b0 C hR _ _ _ _ _ hf hz hl
abbrev rm5_asVow : Room := { frames := 4, cells := 0, slots := 0, locals := 89 }
set_option maxHeartbeats 4000000 in
set_option maxRecDepth 100000 in
theorem w5_asVow_b0 {res : Int32 × Sg} (C : Cx p m c cX5_asVow 2 s args RX5 D (tyL cI cZ cB)) (hR : EndI p l e rm5_asVow s m args below meth c Q D (wX cI cZ cB h) A cX5_asVow res) : ∀ (x1 : Int32) (g : Sg) (H : Heap) (locs : List Loc) (ls : Array Slot), f5_asVow x1 g = some res → Zs D (wX cI cZ cB h) A s.heap H locs g → lv_has ls 2 [(0, .ref (h 134)), (1, .int x1)] → W p l e rm5_asVow s m args below meth c H locs 0 0 Q (F0 m 0 ls []) := by
  have hx := C.1.1
  have hb := C.1.2.1
  intro x1 g H locs ls hf hz hl
  unfold f5_asVow at hf
  refine lv_aload_n hx hb dX5_asVow_0 rfl (lv_at hl 0 rfl) ?_
  refine lv_dup hx hb dX5_asVow_1 rfl ?_
  refine g_RX5_59_moss C hz dX5_asVow_2 ?_
  refine z_ldc2 C wd_118 dX5_asVow_5 ?_
  refine lv_ladd hx hb dX5_asVow_8 ?_
  obtain ⟨g1, eg1, hf⟩ := nx_elim hf
  refine p_RX5_59_moss C hz eg1 dX5_asVow_9 (fun H locs hz => ?_)
  refine lv_aload_n hx hb dX5_asVow_12 rfl (lv_at hl 0 rfl) ?_
  refine lv_iload_n hx hb dX5_asVow_13 rfl (lv_at hl 1 rfl) ?_
  obtain ⟨r4, g3, hc2, hf⟩ := bd2_elim hf
  refine z_VI (As := [.int x1]) (rest := []) C (c5_asWord hc2) lk_RX5_237 ⟨rfl, rfl, Nat.le_of_ble_eq_true rfl, Nat.le_of_ble_eq_true rfl⟩ ⟨Nat.zero_le _, Nat.zero_le _⟩ o_moss rfl rfl (Nat.le_of_ble_eq_true rfl) rfl hl.1 dX5_asVow_14 hz (fun H locs hz => ?_)
  refine lv_aload_n hx hb dX5_asVow_17 rfl (lv_at hl 0 rfl) ?_
  refine g_RX5_19_moss C hz dX5_asVow_18 ?_
  refine g_RX5_109_told C hz dX5_asVow_21 ?_
  refine lv_iload_n hx hb dX5_asVow_24 rfl (lv_at hl 1 rfl) ?_
  obtain ⟨c5, hf⟩ := ix_elim hf
  refine z_iald C hz a_told_depth c5 dX5_asVow_25 ?_
  refine lv_iadd hx hb dX5_asVow_26 ?_
  exact hR _ _ _ _ _ _ (Option.some.inj hf) hz dX5_asVow_27
set_option maxHeartbeats 4000000 in
set_option maxRecDepth 100000 in
theorem c5_asVow {l : Launch} {D : va_G} {cI cZ cB : ClassId} {h : Nat → Nat} {x1 : Int32} {g : Sg} {r : Int32} {g1 : Sg} (hf : f5_asVow x1 g = some (r, g1)) : KI l D (tyL cI cZ cB) (wX cI cZ cB h) yX5_asVow cX5_asVow 2 (some .int) rm5_asVow [.ref (h 134), .int x1] g r g1 := by
  refine KI_mk (own := RX5) (by decide +kernel) rfl (Nat.le_of_ble_eq_true rfl) ?_
  intro p e s m below meth c A Q ls C hR hz hl
  have hl : lv_has ls 2 [(0, .ref (h 134)), (1, .int x1)] := hl
  exact w5_asVow_b0 C hR _ _ _ _ _ hf hz hl
abbrev rm5_asLoan : Room := { frames := 4, cells := 0, slots := 0, locals := 89 }
set_option maxHeartbeats 4000000 in
set_option maxRecDepth 100000 in
theorem w5_asLoan_b0 {res : Int32 × Sg} (C : Cx p m c cX5_asLoan 2 s args RX5 D (tyL cI cZ cB)) (hR : EndI p l e rm5_asLoan s m args below meth c Q D (wX cI cZ cB h) A cX5_asLoan res) : ∀ (x1 : Int32) (g : Sg) (H : Heap) (locs : List Loc) (ls : Array Slot), f5_asLoan x1 g = some res → Zs D (wX cI cZ cB h) A s.heap H locs g → lv_has ls 2 [(0, .ref (h 134)), (1, .int x1)] → W p l e rm5_asLoan s m args below meth c H locs 0 0 Q (F0 m 0 ls []) := by
  have hx := C.1.1
  have hb := C.1.2.1
  intro x1 g H locs ls hf hz hl
  unfold f5_asLoan at hf
  refine lv_aload_n hx hb dX5_asLoan_0 rfl (lv_at hl 0 rfl) ?_
  refine lv_dup hx hb dX5_asLoan_1 rfl ?_
  refine g_RX5_59_moss C hz dX5_asLoan_2 ?_
  refine z_ldc2 C wd_119 dX5_asLoan_5 ?_
  refine lv_ladd hx hb dX5_asLoan_8 ?_
  obtain ⟨g1, eg1, hf⟩ := nx_elim hf
  refine p_RX5_59_moss C hz eg1 dX5_asLoan_9 (fun H locs hz => ?_)
  refine lv_aload_n hx hb dX5_asLoan_12 rfl (lv_at hl 0 rfl) ?_
  refine lv_iload_n hx hb dX5_asLoan_13 rfl (lv_at hl 1 rfl) ?_
  obtain ⟨r4, g3, hc2, hf⟩ := bd2_elim hf
  refine z_VI (As := [.int x1]) (rest := []) C (c5_asWord hc2) lk_RX5_237 ⟨rfl, rfl, Nat.le_of_ble_eq_true rfl, Nat.le_of_ble_eq_true rfl⟩ ⟨Nat.zero_le _, Nat.zero_le _⟩ o_moss rfl rfl (Nat.le_of_ble_eq_true rfl) rfl hl.1 dX5_asLoan_14 hz (fun H locs hz => ?_)
  refine lv_aload_n hx hb dX5_asLoan_17 rfl (lv_at hl 0 rfl) ?_
  refine g_RX5_19_moss C hz dX5_asLoan_18 ?_
  refine g_RX5_112_told C hz dX5_asLoan_21 ?_
  refine lv_iload_n hx hb dX5_asLoan_24 rfl (lv_at hl 1 rfl) ?_
  obtain ⟨c5, hf⟩ := ix_elim hf
  refine z_iald C hz a_told_span c5 dX5_asLoan_25 ?_
  refine lv_isub hx hb dX5_asLoan_26 ?_
  exact hR _ _ _ _ _ _ (Option.some.inj hf) hz dX5_asLoan_27
set_option maxHeartbeats 4000000 in
set_option maxRecDepth 100000 in
theorem c5_asLoan {l : Launch} {D : va_G} {cI cZ cB : ClassId} {h : Nat → Nat} {x1 : Int32} {g : Sg} {r : Int32} {g1 : Sg} (hf : f5_asLoan x1 g = some (r, g1)) : KI l D (tyL cI cZ cB) (wX cI cZ cB h) yX5_asLoan cX5_asLoan 2 (some .int) rm5_asLoan [.ref (h 134), .int x1] g r g1 := by
  refine KI_mk (own := RX5) (by decide +kernel) rfl (Nat.le_of_ble_eq_true rfl) ?_
  intro p e s m below meth c A Q ls C hR hz hl
  have hl : lv_has ls 2 [(0, .ref (h 134)), (1, .int x1)] := hl
  exact w5_asLoan_b0 C hR _ _ _ _ _ hf hz hl
abbrev rm5_asBride : Room := { frames := 5, cells := 0, slots := 0, locals := 110 }
set_option maxHeartbeats 4000000 in
set_option maxRecDepth 100000 in
theorem w5_asBride_b0 {res : Int32 × Sg} (C : Cx p m c cX5_asBride 2 s args RX5 D (tyL cI cZ cB)) (hR : EndI p l e rm5_asBride s m args below meth c Q D (wX cI cZ cB h) A cX5_asBride res) : ∀ (x1 : Int32) (g : Sg) (H : Heap) (locs : List Loc) (ls : Array Slot), f5_asBride x1 g = some res → Zs D (wX cI cZ cB h) A s.heap H locs g → lv_has ls 2 [(0, .ref (h 134)), (1, .int x1)] → W p l e rm5_asBride s m args below meth c H locs 0 0 Q (F0 m 0 ls []) := by
  have hx := C.1.1
  have hb := C.1.2.1
  intro x1 g H locs ls hf hz hl
  unfold f5_asBride at hf
  refine lv_aload_n hx hb dX5_asBride_0 rfl (lv_at hl 0 rfl) ?_
  refine lv_dup hx hb dX5_asBride_1 rfl ?_
  refine g_RX5_59_moss C hz dX5_asBride_2 ?_
  refine z_ldc2 C wd_120 dX5_asBride_5 ?_
  refine lv_ladd hx hb dX5_asBride_8 ?_
  obtain ⟨g1, eg1, hf⟩ := nx_elim hf
  refine p_RX5_59_moss C hz eg1 dX5_asBride_9 (fun H locs hz => ?_)
  refine lv_iconst (v := (2 : Int32)) hx hb dX5_asBride_12 (by decide) ?_
  refine lv_aload_n hx hb dX5_asBride_13 rfl (lv_at hl 0 rfl) ?_
  refine lv_iload_n hx hb dX5_asBride_14 rfl (lv_at hl 1 rfl) ?_
  obtain ⟨r4, g3, hc2, hf⟩ := bd2_elim hf
  refine z_VI (As := [.int x1]) (rest := [.int (2 : Int32)]) C (c5_asVow hc2) lk_RX5_240 ⟨rfl, rfl, Nat.le_of_ble_eq_true rfl, Nat.le_of_ble_eq_true rfl⟩ ⟨Nat.zero_le _, Nat.zero_le _⟩ o_moss rfl rfl (Nat.le_of_ble_eq_true rfl) rfl hl.1 dX5_asBride_15 hz (fun H locs hz => ?_)
  refine lv_imul hx hb dX5_asBride_18 ?_
  exact hR _ _ _ _ _ _ (Option.some.inj hf) hz dX5_asBride_19
set_option maxHeartbeats 4000000 in
set_option maxRecDepth 100000 in
theorem c5_asBride {l : Launch} {D : va_G} {cI cZ cB : ClassId} {h : Nat → Nat} {x1 : Int32} {g : Sg} {r : Int32} {g1 : Sg} (hf : f5_asBride x1 g = some (r, g1)) : KI l D (tyL cI cZ cB) (wX cI cZ cB h) yX5_asBride cX5_asBride 2 (some .int) rm5_asBride [.ref (h 134), .int x1] g r g1 := by
  refine KI_mk (own := RX5) (by decide +kernel) rfl (Nat.le_of_ble_eq_true rfl) ?_
  intro p e s m below meth c A Q ls C hR hz hl
  have hl : lv_has ls 2 [(0, .ref (h 134)), (1, .int x1)] := hl
  exact w5_asBride_b0 C hR _ _ _ _ _ hf hz hl
abbrev rm5_asOak : Room := { frames := 5, cells := 0, slots := 0, locals := 110 }
set_option maxHeartbeats 4000000 in
set_option maxRecDepth 100000 in
theorem w5_asOak_b0 {res : Int32 × Sg} (C : Cx p m c cX5_asOak 2 s args RX5 D (tyL cI cZ cB)) (hR : EndI p l e rm5_asOak s m args below meth c Q D (wX cI cZ cB h) A cX5_asOak res) : ∀ (x1 : Int32) (g : Sg) (H : Heap) (locs : List Loc) (ls : Array Slot), f5_asOak x1 g = some res → Zs D (wX cI cZ cB h) A s.heap H locs g → lv_has ls 2 [(0, .ref (h 134)), (1, .int x1)] → W p l e rm5_asOak s m args below meth c H locs 0 0 Q (F0 m 0 ls []) := by
  have hx := C.1.1
  have hb := C.1.2.1
  intro x1 g H locs ls hf hz hl
  unfold f5_asOak at hf
  refine lv_aload_n hx hb dX5_asOak_0 rfl (lv_at hl 0 rfl) ?_
  refine lv_dup hx hb dX5_asOak_1 rfl ?_
  refine g_RX5_59_moss C hz dX5_asOak_2 ?_
  refine z_ldc2 C wd_121 dX5_asOak_5 ?_
  refine lv_ladd hx hb dX5_asOak_8 ?_
  obtain ⟨g1, eg1, hf⟩ := nx_elim hf
  refine p_RX5_59_moss C hz eg1 dX5_asOak_9 (fun H locs hz => ?_)
  refine lv_aload_n hx hb dX5_asOak_12 rfl (lv_at hl 0 rfl) ?_
  refine lv_iload_n hx hb dX5_asOak_13 rfl (lv_at hl 1 rfl) ?_
  obtain ⟨r4, g3, hc2, hf⟩ := bd2_elim hf
  refine z_VI (As := [.int x1]) (rest := []) C (c5_asLoan hc2) lk_RX5_243 ⟨rfl, rfl, Nat.le_of_ble_eq_true rfl, Nat.le_of_ble_eq_true rfl⟩ ⟨Nat.zero_le _, Nat.zero_le _⟩ o_moss rfl rfl (Nat.le_of_ble_eq_true rfl) rfl hl.1 dX5_asOak_14 hz (fun H locs hz => ?_)
  refine lv_iload_n hx hb dX5_asOak_17 rfl (lv_at hl 1 rfl) ?_
  refine lv_iadd hx hb dX5_asOak_18 ?_
  exact hR _ _ _ _ _ _ (Option.some.inj hf) hz dX5_asOak_19
set_option maxHeartbeats 4000000 in
set_option maxRecDepth 100000 in
theorem c5_asOak {l : Launch} {D : va_G} {cI cZ cB : ClassId} {h : Nat → Nat} {x1 : Int32} {g : Sg} {r : Int32} {g1 : Sg} (hf : f5_asOak x1 g = some (r, g1)) : KI l D (tyL cI cZ cB) (wX cI cZ cB h) yX5_asOak cX5_asOak 2 (some .int) rm5_asOak [.ref (h 134), .int x1] g r g1 := by
  refine KI_mk (own := RX5) (by decide +kernel) rfl (Nat.le_of_ble_eq_true rfl) ?_
  intro p e s m below meth c A Q ls C hR hz hl
  have hl : lv_has ls 2 [(0, .ref (h 134)), (1, .int x1)] := hl
  exact w5_asOak_b0 C hR _ _ _ _ _ hf hz hl
abbrev rm5_asThumb : Room := { frames := 4, cells := 0, slots := 0, locals := 89 }
set_option maxHeartbeats 4000000 in
set_option maxRecDepth 100000 in
theorem w5_asThumb_b0 {res : Int32 × Sg} (C : Cx p m c cX5_asThumb 2 s args RX5 D (tyL cI cZ cB)) (hR : EndI p l e rm5_asThumb s m args below meth c Q D (wX cI cZ cB h) A cX5_asThumb res) : ∀ (x1 : Int32) (g : Sg) (H : Heap) (locs : List Loc) (ls : Array Slot), f5_asThumb x1 g = some res → Zs D (wX cI cZ cB h) A s.heap H locs g → lv_has ls 2 [(0, .ref (h 134)), (1, .int x1)] → W p l e rm5_asThumb s m args below meth c H locs 0 0 Q (F0 m 0 ls []) := by
  have hx := C.1.1
  have hb := C.1.2.1
  intro x1 g H locs ls hf hz hl
  unfold f5_asThumb at hf
  refine lv_aload_n hx hb dX5_asThumb_0 rfl (lv_at hl 0 rfl) ?_
  refine lv_dup hx hb dX5_asThumb_1 rfl ?_
  refine g_RX5_59_moss C hz dX5_asThumb_2 ?_
  refine z_ldc2 C wd_122 dX5_asThumb_5 ?_
  refine lv_ladd hx hb dX5_asThumb_8 ?_
  obtain ⟨g1, eg1, hf⟩ := nx_elim hf
  refine p_RX5_59_moss C hz eg1 dX5_asThumb_9 (fun H locs hz => ?_)
  refine lv_aload_n hx hb dX5_asThumb_12 rfl (lv_at hl 0 rfl) ?_
  refine lv_iload_n hx hb dX5_asThumb_13 rfl (lv_at hl 1 rfl) ?_
  obtain ⟨r4, g3, hc2, hf⟩ := bd2_elim hf
  refine z_VI (As := [.int x1]) (rest := []) C (c5_asWord hc2) lk_RX5_237 ⟨rfl, rfl, Nat.le_of_ble_eq_true rfl, Nat.le_of_ble_eq_true rfl⟩ ⟨Nat.zero_le _, Nat.zero_le _⟩ o_moss rfl rfl (Nat.le_of_ble_eq_true rfl) rfl hl.1 dX5_asThumb_14 hz (fun H locs hz => ?_)
  refine lv_aload_n hx hb dX5_asThumb_17 rfl (lv_at hl 0 rfl) ?_
  refine g_RX5_26_moss C hz dX5_asThumb_18 ?_
  refine g_RX5_150_bog0 C hz dX5_asThumb_21 ?_
  refine lv_iadd hx hb dX5_asThumb_24 ?_
  exact hR _ _ _ _ _ _ (Option.some.inj hf) hz dX5_asThumb_25
set_option maxHeartbeats 4000000 in
set_option maxRecDepth 100000 in
theorem c5_asThumb {l : Launch} {D : va_G} {cI cZ cB : ClassId} {h : Nat → Nat} {x1 : Int32} {g : Sg} {r : Int32} {g1 : Sg} (hf : f5_asThumb x1 g = some (r, g1)) : KI l D (tyL cI cZ cB) (wX cI cZ cB h) yX5_asThumb cX5_asThumb 2 (some .int) rm5_asThumb [.ref (h 134), .int x1] g r g1 := by
  refine KI_mk (own := RX5) (by decide +kernel) rfl (Nat.le_of_ble_eq_true rfl) ?_
  intro p e s m below meth c A Q ls C hR hz hl
  have hl : lv_has ls 2 [(0, .ref (h 134)), (1, .int x1)] := hl
  exact w5_asThumb_b0 C hR _ _ _ _ _ hf hz hl
abbrev rm5_rate : Room := { frames := 6, cells := 0, slots := 0, locals := 131 }
set_option maxHeartbeats 4000000 in
set_option maxRecDepth 100000 in
theorem w5_rate_b0 {res : Int32 × Sg} (C : Cx p m c cX5_rate 3 s args RX5 D (tyL cI cZ cB)) (hR : EndI p l e rm5_rate s m args below meth c Q D (wX cI cZ cB h) A cX5_rate res) : ∀ (x1 : Int32) (x2 : Int32) (g : Sg) (H : Heap) (locs : List Loc) (ls : Array Slot), f5_rate x1 x2 g = some res → Zs D (wX cI cZ cB h) A s.heap H locs g → lv_has ls 3 [(0, .ref (h 134)), (1, .int x1), (2, .int x2)] → W p l e rm5_rate s m args below meth c H locs 0 0 Q (F0 m 0 ls []) := by
  have hx := C.1.1
  have hb := C.1.2.1
  intro x1 x2 g H locs ls hf hz hl
  unfold f5_rate at hf
  refine lv_aload_n hx hb dX5_rate_0 rfl (lv_at hl 0 rfl) ?_
  refine g_RX5_19_moss C hz dX5_rate_1 ?_
  refine lv_iload_n hx hb dX5_rate_4 rfl (lv_at hl 2 rfl) ?_
  obtain ⟨r3, g2, hc1, hf⟩ := bd2_elim hf
  refine z_VI (As := [.int x2]) (rest := []) C (c4_hasPromise hc1) lk_RX5_100 ⟨rfl, rfl, Nat.le_of_ble_eq_true rfl, Nat.le_of_ble_eq_true rfl⟩ ⟨Nat.zero_le _, Nat.zero_le _⟩ o_told rfl rfl (Nat.le_of_ble_eq_true rfl) rfl hl.1 dX5_rate_5 hz (fun H locs hz => ?_)
  refine lv_if_ne (tgt := 14) hx hb dX5_rate_8 (by decide) (fun c4 => ?_) (fun c4 => ?_)
  · have hf := ite_f hf c4
    refine lv_iload_n hx hb dX5_rate_14 rfl (lv_at hl 1 rfl) ?_
    by_cases c5 : x1 = (0 : Int32)
    · have hf := ite_t hf c5
      refine lv_tableIn (off := 37) (tgt := 52) hx hb dX5_rate_15 (by rw [c5]; decide) (by rw [c5]; decide) (by rw [c5]; decide) (by decide) ?_
      refine lv_aload_n hx hb dX5_rate_52 rfl (lv_at hl 0 rfl) ?_
      refine lv_iload_n hx hb dX5_rate_53 rfl (lv_at hl 2 rfl) ?_
      obtain ⟨r8, g7, hc6, hf⟩ := bd2_elim hf
      refine z_VI (As := [.int x2]) (rest := []) C (c5_asWord hc6) lk_RX5_237 ⟨rfl, rfl, Nat.le_of_ble_eq_true rfl, Nat.le_of_ble_eq_true rfl⟩ ⟨Nat.zero_le _, Nat.zero_le _⟩ o_moss rfl rfl (Nat.le_of_ble_eq_true rfl) rfl hl.1 dX5_rate_54 hz (fun H locs hz => ?_)
      exact hR _ _ _ _ _ _ (Option.some.inj hf) hz dX5_rate_57
    have hf := ite_f hf c5
    by_cases c9 : x1 = (1 : Int32)
    · have hf := ite_t hf c9
      refine lv_tableIn (off := 43) (tgt := 58) hx hb dX5_rate_15 (by rw [c9]; decide) (by rw [c9]; decide) (by rw [c9]; decide) (by decide) ?_
      refine lv_aload_n hx hb dX5_rate_58 rfl (lv_at hl 0 rfl) ?_
      refine lv_iload_n hx hb dX5_rate_59 rfl (lv_at hl 2 rfl) ?_
      obtain ⟨r12, g11, hc10, hf⟩ := bd2_elim hf
      refine z_VI (As := [.int x2]) (rest := []) C (c5_asVow hc10) lk_RX5_240 ⟨rfl, rfl, Nat.le_of_ble_eq_true rfl, Nat.le_of_ble_eq_true rfl⟩ ⟨Nat.zero_le _, Nat.zero_le _⟩ o_moss rfl rfl (Nat.le_of_ble_eq_true rfl) rfl hl.1 dX5_rate_60 hz (fun H locs hz => ?_)
      exact hR _ _ _ _ _ _ (Option.some.inj hf) hz dX5_rate_63
    have hf := ite_f hf c9
    by_cases c13 : x1 = (2 : Int32)
    · have hf := ite_t hf c13
      refine lv_tableIn (off := 49) (tgt := 64) hx hb dX5_rate_15 (by rw [c13]; decide) (by rw [c13]; decide) (by rw [c13]; decide) (by decide) ?_
      refine lv_aload_n hx hb dX5_rate_64 rfl (lv_at hl 0 rfl) ?_
      refine lv_iload_n hx hb dX5_rate_65 rfl (lv_at hl 2 rfl) ?_
      obtain ⟨r16, g15, hc14, hf⟩ := bd2_elim hf
      refine z_VI (As := [.int x2]) (rest := []) C (c5_asLoan hc14) lk_RX5_243 ⟨rfl, rfl, Nat.le_of_ble_eq_true rfl, Nat.le_of_ble_eq_true rfl⟩ ⟨Nat.zero_le _, Nat.zero_le _⟩ o_moss rfl rfl (Nat.le_of_ble_eq_true rfl) rfl hl.1 dX5_rate_66 hz (fun H locs hz => ?_)
      exact hR _ _ _ _ _ _ (Option.some.inj hf) hz dX5_rate_69
    have hf := ite_f hf c13
    by_cases c17 : x1 = (3 : Int32)
    · have hf := ite_t hf c17
      refine lv_tableIn (off := 55) (tgt := 70) hx hb dX5_rate_15 (by rw [c17]; decide) (by rw [c17]; decide) (by rw [c17]; decide) (by decide) ?_
      refine lv_aload_n hx hb dX5_rate_70 rfl (lv_at hl 0 rfl) ?_
      refine lv_iload_n hx hb dX5_rate_71 rfl (lv_at hl 2 rfl) ?_
      obtain ⟨r20, g19, hc18, hf⟩ := bd2_elim hf
      refine z_VI (As := [.int x2]) (rest := []) C (c5_asBride hc18) lk_RX5_246 ⟨rfl, rfl, Nat.le_of_ble_eq_true rfl, Nat.le_of_ble_eq_true rfl⟩ ⟨Nat.zero_le _, Nat.zero_le _⟩ o_moss rfl rfl (Nat.le_of_ble_eq_true rfl) rfl hl.1 dX5_rate_72 hz (fun H locs hz => ?_)
      exact hR _ _ _ _ _ _ (Option.some.inj hf) hz dX5_rate_75
    have hf := ite_f hf c17
    by_cases c21 : x1 = (4 : Int32)
    · have hf := ite_t hf c21
      refine lv_tableIn (off := 61) (tgt := 76) hx hb dX5_rate_15 (by rw [c21]; decide) (by rw [c21]; decide) (by rw [c21]; decide) (by decide) ?_
      refine lv_aload_n hx hb dX5_rate_76 rfl (lv_at hl 0 rfl) ?_
      refine lv_iload_n hx hb dX5_rate_77 rfl (lv_at hl 2 rfl) ?_
      obtain ⟨r24, g23, hc22, hf⟩ := bd2_elim hf
      refine z_VI (As := [.int x2]) (rest := []) C (c5_asOak hc22) lk_RX5_249 ⟨rfl, rfl, Nat.le_of_ble_eq_true rfl, Nat.le_of_ble_eq_true rfl⟩ ⟨Nat.zero_le _, Nat.zero_le _⟩ o_moss rfl rfl (Nat.le_of_ble_eq_true rfl) rfl hl.1 dX5_rate_78 hz (fun H locs hz => ?_)
      exact hR _ _ _ _ _ _ (Option.some.inj hf) hz dX5_rate_81
    have hf := ite_f hf c21
    by_cases c25 : x1 = (5 : Int32)
    · have hf := ite_t hf c25
      refine lv_tableIn (off := 67) (tgt := 82) hx hb dX5_rate_15 (by rw [c25]; decide) (by rw [c25]; decide) (by rw [c25]; decide) (by decide) ?_
      refine lv_aload_n hx hb dX5_rate_82 rfl (lv_at hl 0 rfl) ?_
      refine lv_iload_n hx hb dX5_rate_83 rfl (lv_at hl 2 rfl) ?_
      obtain ⟨r28, g27, hc26, hf⟩ := bd2_elim hf
      refine z_VI (As := [.int x2]) (rest := []) C (c5_asThumb hc26) lk_RX5_252 ⟨rfl, rfl, Nat.le_of_ble_eq_true rfl, Nat.le_of_ble_eq_true rfl⟩ ⟨Nat.zero_le _, Nat.zero_le _⟩ o_moss rfl rfl (Nat.le_of_ble_eq_true rfl) rfl hl.1 dX5_rate_84 hz (fun H locs hz => ?_)
      exact hR _ _ _ _ _ _ (Option.some.inj hf) hz dX5_rate_87
    have hf := ite_f hf c25
    refine lv_tableOut (tgt := 88) hx hb dX5_rate_15 (by have hc5 := lv_neT c5 (a := 0) rfl; have hc9 := lv_neT c9 (a := 1) rfl; have hc13 := lv_neT c13 (a := 2) rfl; have hc17 := lv_neT c17 (a := 3) rfl; have hc21 := lv_neT c21 (a := 4) rfl; have hc25 := lv_neT c25 (a := 5) rfl; omega) (by decide) ?_
    refine z_ldc C wd_117 dX5_rate_88 ?_
    exact hR _ _ _ _ _ _ (Option.some.inj hf) hz dX5_rate_90
  · have hf := ite_t hf c4
    refine z_ldc C wd_117 dX5_rate_11 ?_
    exact hR _ _ _ _ _ _ (Option.some.inj hf) hz dX5_rate_13
set_option maxHeartbeats 4000000 in
set_option maxRecDepth 100000 in
theorem c5_rate {l : Launch} {D : va_G} {cI cZ cB : ClassId} {h : Nat → Nat} {x1 : Int32} {x2 : Int32} {g : Sg} {r : Int32} {g1 : Sg} (hf : f5_rate x1 x2 g = some (r, g1)) : KI l D (tyL cI cZ cB) (wX cI cZ cB h) yX5_rate cX5_rate 3 (some .int) rm5_rate [.ref (h 134), .int x1, .int x2] g r g1 := by
  refine KI_mk (own := RX5) (by decide +kernel) rfl (Nat.le_of_ble_eq_true rfl) ?_
  intro p e s m below meth c A Q ls C hR hz hl
  have hl : lv_has ls 3 [(0, .ref (h 134)), (1, .int x1), (2, .int x2)] := hl
  exact w5_rate_b0 C hR _ _ _ _ _ _ hf hz hl
abbrev rm5_keep : Room := { frames := 2, cells := 0, slots := 0, locals := 47 }
set_option maxHeartbeats 4000000 in
set_option maxRecDepth 100000 in
theorem w5_keep_b0 {res : Int32 × Sg} (C : Cx p m c cX5_keep 2 s args RX5 D (tyL cI cZ cB)) (hR : EndI p l e rm5_keep s m args below meth c Q D (wX cI cZ cB h) A cX5_keep res) : ∀ (x1 : Int32) (g : Sg) (H : Heap) (locs : List Loc) (ls : Array Slot), f5_keep x1 g = some res → Zs D (wX cI cZ cB h) A s.heap H locs g → lv_has ls 2 [(0, .ref (h 134)), (1, .int x1)] → W p l e rm5_keep s m args below meth c H locs 0 0 Q (F0 m 0 ls []) := by
  have hx := C.1.1
  have hb := C.1.2.1
  intro x1 g H locs ls hf hz hl
  unfold f5_keep at hf
  refine lv_iload_n hx hb dX5_keep_0 rfl (lv_at hl 1 rfl) ?_
  refine lv_if_lt (tgt := 18) hx hb dX5_keep_1 (by decide) (fun c1 => ?_) (fun c1 => ?_)
  · have hf := ite_t hf c1
    refine lv_iconst (v := (-1 : Int32)) hx hb dX5_keep_18 (by decide) ?_
    exact hR _ _ _ _ _ _ (Option.some.inj hf) hz dX5_keep_19
  · have hf := ite_f hf c1
    refine lv_iload_n hx hb dX5_keep_4 rfl (lv_at hl 1 rfl) ?_
    refine lv_iconst (v := (2 : Int32)) hx hb dX5_keep_5 (by decide) ?_
    refine lv_icmp_ge (tgt := 18) hx hb dX5_keep_6 (by decide) (fun c2 => ?_) (fun c2 => ?_)
    · have hf := ite_t hf c2
      refine lv_iconst (v := (-1 : Int32)) hx hb dX5_keep_18 (by decide) ?_
      exact hR _ _ _ _ _ _ (Option.some.inj hf) hz dX5_keep_19
    · have hf := ite_f hf c2
      refine lv_aload_n hx hb dX5_keep_9 rfl (lv_at hl 0 rfl) ?_
      refine g_RX5_37_moss C hz dX5_keep_10 ?_
      refine lv_iload_n hx hb dX5_keep_13 rfl (lv_at hl 1 rfl) ?_
      obtain ⟨c3, hf⟩ := ix_elim hf
      refine z_aald C hz a_x_images c3 dX5_keep_14 ?_
      refine lv_ifnonnull (tgt := 20) hx hb dX5_keep_15 (by decide) ?_
      refine lv_aload_n hx hb dX5_keep_20 rfl (lv_at hl 0 rfl) ?_
      refine g_RX5_37_moss C hz dX5_keep_21 ?_
      refine lv_iload_n hx hb dX5_keep_24 rfl (lv_at hl 1 rfl) ?_
      obtain ⟨c4, hf⟩ := ix_elim hf
      refine z_aald C hz a_x_images c4 dX5_keep_25 ?_
      refine lv_aload_n hx hb dX5_keep_26 rfl (lv_at hl 0 rfl) ?_
      refine g_RX5_26_moss C hz dX5_keep_27 ?_
      obtain ⟨g6, hc5, hf⟩ := bd_elim hf
      refine z_VV (As := [.ref (h 5)]) (rest := []) C (c0_become (bogI c4) (by decide) hc5) lk_RX5_255 ⟨rfl, rfl, Nat.le_of_ble_eq_true rfl, Nat.le_of_ble_eq_true rfl⟩ ⟨Nat.zero_le _, Nat.zero_le _⟩ (f_bog_year _ (bogI c4)).o rfl rfl (Nat.le_of_ble_eq_true rfl) rfl hl.1 dX5_keep_30 hz (fun H locs hz => ?_)
      refine lv_aload_n hx hb dX5_keep_33 rfl (lv_at hl 0 rfl) ?_
      refine g_RX5_41_moss C hz dX5_keep_34 ?_
      refine lv_iload_n hx hb dX5_keep_37 rfl (lv_at hl 1 rfl) ?_
      refine lv_iconst (v := (1 : Int32)) hx hb dX5_keep_38 (by decide) ?_
      obtain ⟨c7, hf⟩ := ix_elim hf
      obtain ⟨g8, eg8, hf⟩ := nx_elim hf
      refine z_zast C hz a_x_imageKept c7 rfl eg8 dX5_keep_39 (fun H locs hz => ?_)
      refine lv_aload_n hx hb dX5_keep_40 rfl (lv_at hl 0 rfl) ?_
      refine g_RX5_26_moss C hz dX5_keep_41 ?_
      refine g_RX5_150_bog0 C hz dX5_keep_44 ?_
      exact hR _ _ _ _ _ _ (Option.some.inj hf) hz dX5_keep_47
set_option maxHeartbeats 4000000 in
set_option maxRecDepth 100000 in
theorem c5_keep {l : Launch} {D : va_G} {cI cZ cB : ClassId} {h : Nat → Nat} {x1 : Int32} {g : Sg} {r : Int32} {g1 : Sg} (hf : f5_keep x1 g = some (r, g1)) : KI l D (tyL cI cZ cB) (wX cI cZ cB h) yX5_keep cX5_keep 2 (some .int) rm5_keep [.ref (h 134), .int x1] g r g1 := by
  refine KI_mk (own := RX5) (by decide +kernel) rfl (Nat.le_of_ble_eq_true rfl) ?_
  intro p e s m below meth c A Q ls C hR hz hl
  have hl : lv_has ls 2 [(0, .ref (h 134)), (1, .int x1)] := hl
  exact w5_keep_b0 C hR _ _ _ _ _ hf hz hl
abbrev rm5_back : Room := { frames := 2, cells := 0, slots := 0, locals := 47 }
set_option maxHeartbeats 4000000 in
set_option maxRecDepth 100000 in
theorem w5_back_b0 {res : Int32 × Sg} (C : Cx p m c cX5_back 2 s args RX5 D (tyL cI cZ cB)) (hR : EndI p l e rm5_back s m args below meth c Q D (wX cI cZ cB h) A cX5_back res) : ∀ (x1 : Int32) (g : Sg) (H : Heap) (locs : List Loc) (ls : Array Slot), f5_back x1 g = some res → Zs D (wX cI cZ cB h) A s.heap H locs g → lv_has ls 2 [(0, .ref (h 134)), (1, .int x1)] → W p l e rm5_back s m args below meth c H locs 0 0 Q (F0 m 0 ls []) := by
  have hx := C.1.1
  have hb := C.1.2.1
  intro x1 g H locs ls hf hz hl
  unfold f5_back at hf
  refine lv_iload_n hx hb dX5_back_0 rfl (lv_at hl 1 rfl) ?_
  refine lv_if_lt (tgt := 18) hx hb dX5_back_1 (by decide) (fun c1 => ?_) (fun c1 => ?_)
  · have hf := ite_t hf c1
    refine lv_iconst (v := (-1 : Int32)) hx hb dX5_back_18 (by decide) ?_
    exact hR _ _ _ _ _ _ (Option.some.inj hf) hz dX5_back_19
  · have hf := ite_f hf c1
    refine lv_iload_n hx hb dX5_back_4 rfl (lv_at hl 1 rfl) ?_
    refine lv_iconst (v := (2 : Int32)) hx hb dX5_back_5 (by decide) ?_
    refine lv_icmp_ge (tgt := 18) hx hb dX5_back_6 (by decide) (fun c2 => ?_) (fun c2 => ?_)
    · have hf := ite_t hf c2
      refine lv_iconst (v := (-1 : Int32)) hx hb dX5_back_18 (by decide) ?_
      exact hR _ _ _ _ _ _ (Option.some.inj hf) hz dX5_back_19
    · have hf := ite_f hf c2
      refine lv_aload_n hx hb dX5_back_9 rfl (lv_at hl 0 rfl) ?_
      refine g_RX5_37_moss C hz dX5_back_10 ?_
      refine lv_iload_n hx hb dX5_back_13 rfl (lv_at hl 1 rfl) ?_
      obtain ⟨c3, hf⟩ := ix_elim hf
      refine z_aald C hz a_x_images c3 dX5_back_14 ?_
      refine lv_ifnonnull (tgt := 20) hx hb dX5_back_15 (by decide) ?_
      refine lv_aload_n hx hb dX5_back_20 rfl (lv_at hl 0 rfl) ?_
      refine g_RX5_41_moss C hz dX5_back_21 ?_
      refine lv_iload_n hx hb dX5_back_24 rfl (lv_at hl 1 rfl) ?_
      obtain ⟨c4, hf⟩ := ix_elim hf
      refine z_zald C hz a_x_imageKept c4 dX5_back_25 ?_
      refine lv_if_ne (tgt := 32) hx hb dX5_back_26 (by decide) (fun c5 => ?_) (fun c5 => ?_)
      · have hf := ite_f hf c5
        refine lv_aload_n hx hb dX5_back_32 rfl (lv_at hl 0 rfl) ?_
        refine g_RX5_26_moss C hz dX5_back_33 ?_
        refine lv_aload_n hx hb dX5_back_36 rfl (lv_at hl 0 rfl) ?_
        refine g_RX5_37_moss C hz dX5_back_37 ?_
        refine lv_iload_n hx hb dX5_back_40 rfl (lv_at hl 1 rfl) ?_
        obtain ⟨c6, hf⟩ := ix_elim hf
        refine z_aald C hz a_x_images c6 dX5_back_41 ?_
        obtain ⟨g8, hc7, hf⟩ := bd_elim hf
        refine z_VV (As := [.ref (h (6 * (x1.toNatClampNeg + 1) + 5))]) (rest := []) C (c0_become (by decide) (bogI c6) hc7) lk_RX5_255 ⟨rfl, rfl, Nat.le_of_ble_eq_true rfl, Nat.le_of_ble_eq_true rfl⟩ ⟨Nat.zero_le _, Nat.zero_le _⟩ o_bog0 rfl rfl (Nat.le_of_ble_eq_true rfl) rfl hl.1 dX5_back_42 hz (fun H locs hz => ?_)
        refine lv_aload_n hx hb dX5_back_45 rfl (lv_at hl 0 rfl) ?_
        refine g_RX5_33_moss C hz dX5_back_46 ?_
        obtain ⟨g10, hc9, hf⟩ := bd_elim hf
        refine z_VV (As := []) (rest := []) C (c1_empty hc9) lk_RX5_88 ⟨rfl, rfl, Nat.le_of_ble_eq_true rfl, Nat.le_of_ble_eq_true rfl⟩ ⟨Nat.zero_le _, Nat.zero_le _⟩ o_past rfl rfl (Nat.le_of_ble_eq_true rfl) rfl hl.1 dX5_back_49 hz (fun H locs hz => ?_)
        refine lv_aload_n hx hb dX5_back_52 rfl (lv_at hl 0 rfl) ?_
        refine g_RX5_26_moss C hz dX5_back_53 ?_
        refine g_RX5_150_bog0 C hz dX5_back_56 ?_
        exact hR _ _ _ _ _ _ (Option.some.inj hf) hz dX5_back_59
      · have hf := ite_t hf c5
        refine lv_bipush (v := (-2 : Int32)) hx hb dX5_back_29 (by decide) ?_
        exact hR _ _ _ _ _ _ (Option.some.inj hf) hz dX5_back_31
set_option maxHeartbeats 4000000 in
set_option maxRecDepth 100000 in
theorem c5_back {l : Launch} {D : va_G} {cI cZ cB : ClassId} {h : Nat → Nat} {x1 : Int32} {g : Sg} {r : Int32} {g1 : Sg} (hf : f5_back x1 g = some (r, g1)) : KI l D (tyL cI cZ cB) (wX cI cZ cB h) yX5_back cX5_back 2 (some .int) rm5_back [.ref (h 134), .int x1] g r g1 := by
  refine KI_mk (own := RX5) (by decide +kernel) rfl (Nat.le_of_ble_eq_true rfl) ?_
  intro p e s m below meth c A Q ls C hR hz hl
  have hl : lv_has ls 2 [(0, .ref (h 134)), (1, .int x1)] := hl
  exact w5_back_b0 C hR _ _ _ _ _ hf hz hl
abbrev rm5_count : Room := { frames := 0, cells := 0, slots := 0, locals := 0 }
set_option maxHeartbeats 4000000 in
set_option maxRecDepth 100000 in
theorem w5_count_b0 {res : Int32 × Sg} (C : Cx p m c cX5_count 2 s args RX5 D (tyL cI cZ cB)) (hR : EndI p l e rm5_count s m args below meth c Q D (wX cI cZ cB h) A cX5_count res) : ∀ (x1 : Int32) (g : Sg) (H : Heap) (locs : List Loc) (ls : Array Slot), f5_count x1 g = some res → Zs D (wX cI cZ cB h) A s.heap H locs g → lv_has ls 2 [(0, .ref (h 134)), (1, .int x1)] → W p l e rm5_count s m args below meth c H locs 0 0 Q (F0 m 0 ls []) := by
  have hx := C.1.1
  have hb := C.1.2.1
  intro x1 g H locs ls hf hz hl
  unfold f5_count at hf
  refine lv_iload_n hx hb dX5_count_0 rfl (lv_at hl 1 rfl) ?_
  by_cases c1 : x1 = (0 : Int32)
  · have hf := ite_t hf c1
    refine lv_tableIn (off := 39) (tgt := 40) hx hb dX5_count_1 (by rw [c1]; decide) (by rw [c1]; decide) (by rw [c1]; decide) (by decide) ?_
    refine lv_aload_n hx hb dX5_count_40 rfl (lv_at hl 0 rfl) ?_
    refine g_RX5_19_moss C hz dX5_count_41 ?_
    refine g_RX5_257_told C hz dX5_count_44 ?_
    exact hR _ _ _ _ _ _ (Option.some.inj hf) hz dX5_count_47
  have hf := ite_f hf c1
  by_cases c2 : x1 = (1 : Int32)
  · have hf := ite_t hf c2
    refine lv_tableIn (off := 47) (tgt := 48) hx hb dX5_count_1 (by rw [c2]; decide) (by rw [c2]; decide) (by rw [c2]; decide) (by decide) ?_
    refine lv_aload_n hx hb dX5_count_48 rfl (lv_at hl 0 rfl) ?_
    refine g_RX5_19_moss C hz dX5_count_49 ?_
    refine g_RX5_260_told C hz dX5_count_52 ?_
    exact hR _ _ _ _ _ _ (Option.some.inj hf) hz dX5_count_55
  have hf := ite_f hf c2
  by_cases c3 : x1 = (2 : Int32)
  · have hf := ite_t hf c3
    refine lv_tableIn (off := 55) (tgt := 56) hx hb dX5_count_1 (by rw [c3]; decide) (by rw [c3]; decide) (by rw [c3]; decide) (by decide) ?_
    refine lv_aload_n hx hb dX5_count_56 rfl (lv_at hl 0 rfl) ?_
    refine g_RX5_19_moss C hz dX5_count_57 ?_
    refine g_RX5_263_told C hz dX5_count_60 ?_
    exact hR _ _ _ _ _ _ (Option.some.inj hf) hz dX5_count_63
  have hf := ite_f hf c3
  by_cases c4 : x1 = (3 : Int32)
  · have hf := ite_t hf c4
    refine lv_tableIn (off := 63) (tgt := 64) hx hb dX5_count_1 (by rw [c4]; decide) (by rw [c4]; decide) (by rw [c4]; decide) (by decide) ?_
    refine lv_aload_n hx hb dX5_count_64 rfl (lv_at hl 0 rfl) ?_
    refine g_RX5_19_moss C hz dX5_count_65 ?_
    refine g_RX5_266_told C hz dX5_count_68 ?_
    exact hR _ _ _ _ _ _ (Option.some.inj hf) hz dX5_count_71
  have hf := ite_f hf c4
  by_cases c5 : x1 = (4 : Int32)
  · have hf := ite_t hf c5
    refine lv_tableIn (off := 71) (tgt := 72) hx hb dX5_count_1 (by rw [c5]; decide) (by rw [c5]; decide) (by rw [c5]; decide) (by decide) ?_
    refine lv_aload_n hx hb dX5_count_72 rfl (lv_at hl 0 rfl) ?_
    refine g_RX5_55_moss C hz dX5_count_73 ?_
    exact hR _ _ _ _ _ _ (Option.some.inj hf) hz dX5_count_76
  have hf := ite_f hf c5
  by_cases c6 : x1 = (5 : Int32)
  · have hf := ite_t hf c6
    refine lv_tableIn (off := 76) (tgt := 77) hx hb dX5_count_1 (by rw [c6]; decide) (by rw [c6]; decide) (by rw [c6]; decide) (by decide) ?_
    refine lv_aload_n hx hb dX5_count_77 rfl (lv_at hl 0 rfl) ?_
    refine g_RX5_10_moss C hz dX5_count_78 ?_
    refine g_RX5_63_reader C hz dX5_count_81 ?_
    refine g_RX5_73_text C hz dX5_count_84 ?_
    exact hR _ _ _ _ _ _ (Option.some.inj hf) hz dX5_count_87
  have hf := ite_f hf c6
  refine lv_tableOut (tgt := 88) hx hb dX5_count_1 (by have hc1 := lv_neT c1 (a := 0) rfl; have hc2 := lv_neT c2 (a := 1) rfl; have hc3 := lv_neT c3 (a := 2) rfl; have hc4 := lv_neT c4 (a := 3) rfl; have hc5 := lv_neT c5 (a := 4) rfl; have hc6 := lv_neT c6 (a := 5) rfl; omega) (by decide) ?_
  refine lv_iconst (v := (-1 : Int32)) hx hb dX5_count_88 (by decide) ?_
  exact hR _ _ _ _ _ _ (Option.some.inj hf) hz dX5_count_89
set_option maxHeartbeats 4000000 in
set_option maxRecDepth 100000 in
theorem c5_count {l : Launch} {D : va_G} {cI cZ cB : ClassId} {h : Nat → Nat} {x1 : Int32} {g : Sg} {r : Int32} {g1 : Sg} (hf : f5_count x1 g = some (r, g1)) : KI l D (tyL cI cZ cB) (wX cI cZ cB h) yX5_count cX5_count 2 (some .int) rm5_count [.ref (h 134), .int x1] g r g1 := by
  refine KI_mk (own := RX5) (by decide +kernel) rfl (Nat.le_of_ble_eq_true rfl) ?_
  intro p e s m below meth c A Q ls C hR hz hl
  have hl : lv_has ls 2 [(0, .ref (h 134)), (1, .int x1)] := hl
  exact w5_count_b0 C hR _ _ _ _ _ hf hz hl
abbrev rm5_trace : Room := { frames := 0, cells := 0, slots := 0, locals := 0 }
set_option maxHeartbeats 4000000 in
set_option maxRecDepth 100000 in
theorem w5_trace_b0 {res : Int64 × Sg} (C : Cx p m c cX5_trace 1 s args RX5 D (tyL cI cZ cB)) (hR : EndL p l e rm5_trace s m args below meth c Q D (wX cI cZ cB h) A cX5_trace res) : ∀ (g : Sg) (H : Heap) (locs : List Loc) (ls : Array Slot), f5_trace g = some res → Zs D (wX cI cZ cB h) A s.heap H locs g → lv_has ls 1 [(0, .ref (h 134))] → W p l e rm5_trace s m args below meth c H locs 0 0 Q (F0 m 0 ls []) := by
  have hx := C.1.1
  have hb := C.1.2.1
  intro g H locs ls hf hz hl
  unfold f5_trace at hf
  refine lv_aload_n hx hb dX5_trace_0 rfl (lv_at hl 0 rfl) ?_
  refine g_RX5_59_moss C hz dX5_trace_1 ?_
  exact hR _ _ _ _ _ _ (Option.some.inj hf) hz dX5_trace_4
set_option maxHeartbeats 4000000 in
set_option maxRecDepth 100000 in
theorem c5_trace {l : Launch} {D : va_G} {cI cZ cB : ClassId} {h : Nat → Nat} {g : Sg} {r : Int64} {g1 : Sg} (hf : f5_trace g = some (r, g1)) : KL l D (tyL cI cZ cB) (wX cI cZ cB h) yX5_trace cX5_trace 1 (some .long) rm5_trace [.ref (h 134)] g r g1 := by
  refine KL_mk (own := RX5) (by decide +kernel) rfl (Nat.le_of_ble_eq_true rfl) ?_
  intro p e s m below meth c A Q ls C hR hz hl
  have hl : lv_has ls 1 [(0, .ref (h 134))] := hl
  exact w5_trace_b0 C hR _ _ _ _ hf hz hl
end WK
