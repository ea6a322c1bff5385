section LAW
variable {p : Program} {l : Launch} {e : Env} {s : State} {m : MethodId} {below : List Frame} {meth : Method} {c : Code} {Q : State → Prop} {D : va_G} {cI cZ cB : ClassId} {hX hM : Nat → Nat} {b L : Nat} {xs : Nat → Int32} {Rel : Sg → Sg → Prop}
set_option maxHeartbeats 4000000 in
theorem law_type (hst : ∀ a0 : Int32, St Rel (f5_type a0) (f6_type a0)) (C : Cx p m c cL_law 4 s #[Value.ref b] RL D (tyL cI cZ cB)) (hXs : va_X b L xs s s.heap) (hbl : b < s.heap.size) {x3 : Int32} (hi1 : vp_in (x3 + 1) L)
    (kk : ∀ (gx gm : Sg) (H : Heap) (locs : List Loc) (ls : Array Slot), Rel gx gm → Z2 D (wX cI cZ cB hX) (wM cI cZ hM) (fun q : Nat => s.heap.size ≤ q) s.heap H locs gx gm → lv_has ls 4 [(3, .int x3), (2, .ref (hM 0)), (1, .ref (hX 134)), (0, .ref b)] → W p l e room_1 s m #[Value.ref b] below meth c H locs 131 1973 Q (F0 m 872 ls [])) :
    ∀ (gx gm : Sg) (H : Heap) (locs : List Loc) (ls : Array Slot), Rel gx gm → Z2 D (wX cI cZ cB hX) (wM cI cZ hM) (fun q : Nat => s.heap.size ≤ q) s.heap H locs gx gm → lv_has ls 4 [(3, .int x3), (2, .ref (hM 0)), (1, .ref (hX 134)), (0, .ref b)] → W p l e room_1 s m #[Value.ref b] below meth c H locs 131 1973 Q (F0 m 164 ls []) := by
  intro gx gm H locs ls hr hz hl
  have hx := C.1.1
  have hb := C.1.2.1
  have hbA : ¬ (fun q : Nat => s.heap.size ≤ q) b := Nat.not_le.mpr hbl
  obtain ⟨r, gx1, gm1, h1, h2, hr1⟩ := hst (xs (x3 + 1).toNatClampNeg) gx gm hr
  refine lv_aload_n hx hb dL_law_164 rfl (lv_at hl 2 rfl) ?_
  refine lv_aload_n hx hb dL_law_165 rfl (lv_at hl 3 rfl) ?_
  refine lv_iload_n hx hb dL_law_166 rfl (lv_at hl 0 rfl) ?_
  refine lv_iconst (v := 1) hx hb dL_law_167 (by decide) ?_
  refine lv_iadd hx hb dL_law_168 ?_
  refine va_sld hx hb hXs hbl hbA hz.2.2.2.1 hi1 dL_law_169 ?_
  refine z2_xI (As := [.int (xs (x3 + 1).toNatClampNeg)]) (rest := []) C (c5_type h1) lk_RL_13 ⟨rfl, rfl, Nat.le_of_ble_eq_true rfl, Nat.le_of_ble_eq_true rfl⟩ ⟨Nat.le_of_ble_eq_true rfl, Nat.le_of_ble_eq_true rfl⟩ o_moss rfl rfl (Nat.le_of_ble_eq_true rfl) rfl hl.1 dL_law_170 hz (fun H locs hz => ?_)
  refine lv_aload_n hx hb dL_law_173 rfl (lv_at hl 1 rfl) ?_
  refine lv_aload_n hx hb dL_law_174 rfl (lv_at hl 3 rfl) ?_
  refine lv_iload_n hx hb dL_law_175 rfl (lv_at hl 0 rfl) ?_
  refine lv_iconst (v := 1) hx hb dL_law_176 (by decide) ?_
  refine lv_iadd hx hb dL_law_177 ?_
  refine va_sld hx hb hXs hbl hbA hz.2.2.2.1 hi1 dL_law_178 ?_
  refine z2_mI (As := [.int (xs (x3 + 1).toNatClampNeg)]) (rest := [.int r]) C (c6_type h2) lk_RL_17 ⟨rfl, rfl, Nat.le_of_ble_eq_true rfl, Nat.le_of_ble_eq_true rfl⟩ ⟨Nat.le_of_ble_eq_true rfl, Nat.le_of_ble_eq_true rfl⟩ o_model rfl rfl (Nat.le_of_ble_eq_true rfl) rfl hl.1 dL_law_179 hz (fun H locs hz => ?_)
  refine lv_icmp_eq (tgt := 872) hx hb dL_law_182 (by decide) (fun _ => ?_) (fun cn => absurd rfl cn)
  exact kk _ _ _ _ _ hr1 hz hl
set_option maxHeartbeats 4000000 in
theorem law_clear (hst : St Rel (f5_clear) (f6_clear)) (C : Cx p m c cL_law 4 s #[Value.ref b] RL D (tyL cI cZ cB)) (hXs : va_X b L xs s s.heap) (hbl : b < s.heap.size) {x3 : Int32}
    (kk : ∀ (gx gm : Sg) (H : Heap) (locs : List Loc) (ls : Array Slot), Rel gx gm → Z2 D (wX cI cZ cB hX) (wM cI cZ hM) (fun q : Nat => s.heap.size ≤ q) s.heap H locs gx gm → lv_has ls 4 [(3, .int x3), (2, .ref (hM 0)), (1, .ref (hX 134)), (0, .ref b)] → W p l e room_1 s m #[Value.ref b] below meth c H locs 131 1973 Q (F0 m 872 ls [])) :
    ∀ (gx gm : Sg) (H : Heap) (locs : List Loc) (ls : Array Slot), Rel gx gm → Z2 D (wX cI cZ cB hX) (wM cI cZ hM) (fun q : Nat => s.heap.size ≤ q) s.heap H locs gx gm → lv_has ls 4 [(3, .int x3), (2, .ref (hM 0)), (1, .ref (hX 134)), (0, .ref b)] → W p l e room_1 s m #[Value.ref b] below meth c H locs 131 1973 Q (F0 m 187 ls []) := by
  intro gx gm H locs ls hr hz hl
  have hx := C.1.1
  have hb := C.1.2.1
  have hbA : ¬ (fun q : Nat => s.heap.size ≤ q) b := Nat.not_le.mpr hbl
  obtain ⟨r, gx1, gm1, h1, h2, hr1⟩ := hst gx gm hr
  refine lv_aload_n hx hb dL_law_187 rfl (lv_at hl 2 rfl) ?_
  refine z2_xI (As := []) (rest := []) C (c5_clear h1) lk_RL_18 ⟨rfl, rfl, Nat.le_of_ble_eq_true rfl, Nat.le_of_ble_eq_true rfl⟩ ⟨Nat.le_of_ble_eq_true rfl, Nat.le_of_ble_eq_true rfl⟩ o_moss rfl rfl (Nat.le_of_ble_eq_true rfl) rfl hl.1 dL_law_188 hz (fun H locs hz => ?_)
  refine lv_aload_n hx hb dL_law_191 rfl (lv_at hl 1 rfl) ?_
  refine z2_mI (As := []) (rest := [.int r]) C (c6_clear h2) lk_RL_22 ⟨rfl, rfl, Nat.le_of_ble_eq_true rfl, Nat.le_of_ble_eq_true rfl⟩ ⟨Nat.le_of_ble_eq_true rfl, Nat.le_of_ble_eq_true rfl⟩ o_model rfl rfl (Nat.le_of_ble_eq_true rfl) rfl hl.1 dL_law_192 hz (fun H locs hz => ?_)
  refine lv_icmp_eq (tgt := 872) hx hb dL_law_195 (by decide) (fun _ => ?_) (fun cn => absurd rfl cn)
  exact kk _ _ _ _ _ hr1 hz hl
set_option maxHeartbeats 4000000 in
theorem law_moss (hst : St Rel (f5_moss) (f6_moss)) (C : Cx p m c cL_law 4 s #[Value.ref b] RL D (tyL cI cZ cB)) (hXs : va_X b L xs s s.heap) (hbl : b < s.heap.size) {x3 : Int32}
    (kk : ∀ (gx gm : Sg) (H : Heap) (locs : List Loc) (ls : Array Slot), Rel gx gm → Z2 D (wX cI cZ cB hX) (wM cI cZ hM) (fun q : Nat => s.heap.size ≤ q) s.heap H locs gx gm → lv_has ls 4 [(3, .int x3), (2, .ref (hM 0)), (1, .ref (hX 134)), (0, .ref b)] → W p l e room_1 s m #[Value.ref b] below meth c H locs 131 1973 Q (F0 m 872 ls [])) :
    ∀ (gx gm : Sg) (H : Heap) (locs : List Loc) (ls : Array Slot), Rel gx gm → Z2 D (wX cI cZ cB hX) (wM cI cZ hM) (fun q : Nat => s.heap.size ≤ q) s.heap H locs gx gm → lv_has ls 4 [(3, .int x3), (2, .ref (hM 0)), (1, .ref (hX 134)), (0, .ref b)] → W p l e room_1 s m #[Value.ref b] below meth c H locs 131 1973 Q (F0 m 200 ls []) := by
  intro gx gm H locs ls hr hz hl
  have hx := C.1.1
  have hb := C.1.2.1
  have hbA : ¬ (fun q : Nat => s.heap.size ≤ q) b := Nat.not_le.mpr hbl
  obtain ⟨r, gx1, gm1, h1, h2, hr1⟩ := hst gx gm hr
  refine lv_aload_n hx hb dL_law_200 rfl (lv_at hl 2 rfl) ?_
  refine z2_xI (As := []) (rest := []) C (c5_moss h1) lk_RL_23 ⟨rfl, rfl, Nat.le_of_ble_eq_true rfl, Nat.le_of_ble_eq_true rfl⟩ ⟨Nat.le_of_ble_eq_true rfl, Nat.le_of_ble_eq_true rfl⟩ o_moss rfl rfl (Nat.le_of_ble_eq_true rfl) rfl hl.1 dL_law_201 hz (fun H locs hz => ?_)
  refine lv_aload_n hx hb dL_law_204 rfl (lv_at hl 1 rfl) ?_
  refine z2_mI (As := []) (rest := [.int r]) C (c6_moss h2) lk_RL_26 ⟨rfl, rfl, Nat.le_of_ble_eq_true rfl, Nat.le_of_ble_eq_true rfl⟩ ⟨Nat.le_of_ble_eq_true rfl, Nat.le_of_ble_eq_true rfl⟩ o_model rfl rfl (Nat.le_of_ble_eq_true rfl) rfl hl.1 dL_law_205 hz (fun H locs hz => ?_)
  refine lv_icmp_eq (tgt := 872) hx hb dL_law_208 (by decide) (fun _ => ?_) (fun cn => absurd rfl cn)
  exact kk _ _ _ _ _ hr1 hz hl
set_option maxHeartbeats 4000000 in
theorem law_person (hst : ∀ a0 a1 : Int32, St Rel (f5_person a0 a1) (f6_person a0 a1)) (C : Cx p m c cL_law 4 s #[Value.ref b] RL D (tyL cI cZ cB)) (hXs : va_X b L xs s s.heap) (hbl : b < s.heap.size) {x3 : Int32} (hi1 : vp_in (x3 + 1) L) (hi2 : vp_in (x3 + 2) L)
    (kk : ∀ (gx gm : Sg) (H : Heap) (locs : List Loc) (ls : Array Slot), Rel gx gm → Z2 D (wX cI cZ cB hX) (wM cI cZ hM) (fun q : Nat => s.heap.size ≤ q) s.heap H locs gx gm → lv_has ls 4 [(3, .int x3), (2, .ref (hM 0)), (1, .ref (hX 134)), (0, .ref b)] → W p l e room_1 s m #[Value.ref b] below meth c H locs 131 1973 Q (F0 m 872 ls [])) :
    ∀ (gx gm : Sg) (H : Heap) (locs : List Loc) (ls : Array Slot), Rel gx gm → Z2 D (wX cI cZ cB hX) (wM cI cZ hM) (fun q : Nat => s.heap.size ≤ q) s.heap H locs gx gm → lv_has ls 4 [(3, .int x3), (2, .ref (hM 0)), (1, .ref (hX 134)), (0, .ref b)] → W p l e room_1 s m #[Value.ref b] below meth c H locs 131 1973 Q (F0 m 213 ls []) := by
  intro gx gm H locs ls hr hz hl
  have hx := C.1.1
  have hb := C.1.2.1
  have hbA : ¬ (fun q : Nat => s.heap.size ≤ q) b := Nat.not_le.mpr hbl
  obtain ⟨r, gx1, gm1, h1, h2, hr1⟩ := hst (xs (x3 + 1).toNatClampNeg) (xs (x3 + 2).toNatClampNeg) gx gm hr
  refine lv_aload_n hx hb dL_law_213 rfl (lv_at hl 2 rfl) ?_
  refine lv_aload_n hx hb dL_law_214 rfl (lv_at hl 3 rfl) ?_
  refine lv_iload_n hx hb dL_law_215 rfl (lv_at hl 0 rfl) ?_
  refine lv_iconst (v := 1) hx hb dL_law_216 (by decide) ?_
  refine lv_iadd hx hb dL_law_217 ?_
  refine va_sld hx hb hXs hbl hbA hz.2.2.2.1 hi1 dL_law_218 ?_
  refine lv_aload_n hx hb dL_law_219 rfl (lv_at hl 3 rfl) ?_
  refine lv_iload_n hx hb dL_law_220 rfl (lv_at hl 0 rfl) ?_
  refine lv_iconst (v := 2) hx hb dL_law_221 (by decide) ?_
  refine lv_iadd hx hb dL_law_222 ?_
  refine va_sld hx hb hXs hbl hbA hz.2.2.2.1 hi2 dL_law_223 ?_
  refine z2_xI (As := [.int (xs (x3 + 1).toNatClampNeg), .int (xs (x3 + 2).toNatClampNeg)]) (rest := []) C (c5_person h1) lk_RL_27 ⟨rfl, rfl, Nat.le_of_ble_eq_true rfl, Nat.le_of_ble_eq_true rfl⟩ ⟨Nat.le_of_ble_eq_true rfl, Nat.le_of_ble_eq_true rfl⟩ o_moss rfl rfl (Nat.le_of_ble_eq_true rfl) rfl hl.1 dL_law_224 hz (fun H locs hz => ?_)
  refine lv_aload_n hx hb dL_law_227 rfl (lv_at hl 1 rfl) ?_
  refine lv_aload_n hx hb dL_law_228 rfl (lv_at hl 3 rfl) ?_
  refine lv_iload_n hx hb dL_law_229 rfl (lv_at hl 0 rfl) ?_
  refine lv_iconst (v := 1) hx hb dL_law_230 (by decide) ?_
  refine lv_iadd hx hb dL_law_231 ?_
  refine va_sld hx hb hXs hbl hbA hz.2.2.2.1 hi1 dL_law_232 ?_
  refine lv_aload_n hx hb dL_law_233 rfl (lv_at hl 3 rfl) ?_
  refine lv_iload_n hx hb dL_law_234 rfl (lv_at hl 0 rfl) ?_
  refine lv_iconst (v := 2) hx hb dL_law_235 (by decide) ?_
  refine lv_iadd hx hb dL_law_236 ?_
  refine va_sld hx hb hXs hbl hbA hz.2.2.2.1 hi2 dL_law_237 ?_
  refine z2_mI (As := [.int (xs (x3 + 1).toNatClampNeg), .int (xs (x3 + 2).toNatClampNeg)]) (rest := [.int r]) C (c6_person h2) lk_RL_31 ⟨rfl, rfl, Nat.le_of_ble_eq_true rfl, Nat.le_of_ble_eq_true rfl⟩ ⟨Nat.le_of_ble_eq_true rfl, Nat.le_of_ble_eq_true rfl⟩ o_model rfl rfl (Nat.le_of_ble_eq_true rfl) rfl hl.1 dL_law_238 hz (fun H locs hz => ?_)
  refine lv_icmp_eq (tgt := 872) hx hb dL_law_241 (by decide) (fun _ => ?_) (fun cn => absurd rfl cn)
  exact kk _ _ _ _ _ hr1 hz hl
set_option maxHeartbeats 4000000 in
theorem law_promise (hst : ∀ a0 a1 : Int32, St Rel (f5_promise a0 a1) (f6_promise a0 a1)) (C : Cx p m c cL_law 4 s #[Value.ref b] RL D (tyL cI cZ cB)) (hXs : va_X b L xs s s.heap) (hbl : b < s.heap.size) {x3 : Int32} (hi1 : vp_in (x3 + 1) L) (hi2 : vp_in (x3 + 2) L)
    (kk : ∀ (gx gm : Sg) (H : Heap) (locs : List Loc) (ls : Array Slot), Rel gx gm → Z2 D (wX cI cZ cB hX) (wM cI cZ hM) (fun q : Nat => s.heap.size ≤ q) s.heap H locs gx gm → lv_has ls 4 [(3, .int x3), (2, .ref (hM 0)), (1, .ref (hX 134)), (0, .ref b)] → W p l e room_1 s m #[Value.ref b] below meth c H locs 131 1973 Q (F0 m 872 ls [])) :
    ∀ (gx gm : Sg) (H : Heap) (locs : List Loc) (ls : Array Slot), Rel gx gm → Z2 D (wX cI cZ cB hX) (wM cI cZ hM) (fun q : Nat => s.heap.size ≤ q) s.heap H locs gx gm → lv_has ls 4 [(3, .int x3), (2, .ref (hM 0)), (1, .ref (hX 134)), (0, .ref b)] → W p l e room_1 s m #[Value.ref b] below meth c H locs 131 1973 Q (F0 m 246 ls []) := by
  intro gx gm H locs ls hr hz hl
  have hx := C.1.1
  have hb := C.1.2.1
  have hbA : ¬ (fun q : Nat => s.heap.size ≤ q) b := Nat.not_le.mpr hbl
  obtain ⟨r, gx1, gm1, h1, h2, hr1⟩ := hst (xs (x3 + 1).toNatClampNeg) (xs (x3 + 2).toNatClampNeg) gx gm hr
  refine lv_aload_n hx hb dL_law_246 rfl (lv_at hl 2 rfl) ?_
  refine lv_aload_n hx hb dL_law_247 rfl (lv_at hl 3 rfl) ?_
  refine lv_iload_n hx hb dL_law_248 rfl (lv_at hl 0 rfl) ?_
  refine lv_iconst (v := 1) hx hb dL_law_249 (by decide) ?_
  refine lv_iadd hx hb dL_law_250 ?_
  refine va_sld hx hb hXs hbl hbA hz.2.2.2.1 hi1 dL_law_251 ?_
  refine lv_aload_n hx hb dL_law_252 rfl (lv_at hl 3 rfl) ?_
  refine lv_iload_n hx hb dL_law_253 rfl (lv_at hl 0 rfl) ?_
  refine lv_iconst (v := 2) hx hb dL_law_254 (by decide) ?_
  refine lv_iadd hx hb dL_law_255 ?_
  refine va_sld hx hb hXs hbl hbA hz.2.2.2.1 hi2 dL_law_256 ?_
  refine z2_xI (As := [.int (xs (x3 + 1).toNatClampNeg), .int (xs (x3 + 2).toNatClampNeg)]) (rest := []) C (c5_promise h1) lk_RL_32 ⟨rfl, rfl, Nat.le_of_ble_eq_true rfl, Nat.le_of_ble_eq_true rfl⟩ ⟨Nat.le_of_ble_eq_true rfl, Nat.le_of_ble_eq_true rfl⟩ o_moss rfl rfl (Nat.le_of_ble_eq_true rfl) rfl hl.1 dL_law_257 hz (fun H locs hz => ?_)
  refine lv_aload_n hx hb dL_law_260 rfl (lv_at hl 1 rfl) ?_
  refine lv_aload_n hx hb dL_law_261 rfl (lv_at hl 3 rfl) ?_
  refine lv_iload_n hx hb dL_law_262 rfl (lv_at hl 0 rfl) ?_
  refine lv_iconst (v := 1) hx hb dL_law_263 (by decide) ?_
  refine lv_iadd hx hb dL_law_264 ?_
  refine va_sld hx hb hXs hbl hbA hz.2.2.2.1 hi1 dL_law_265 ?_
  refine lv_aload_n hx hb dL_law_266 rfl (lv_at hl 3 rfl) ?_
  refine lv_iload_n hx hb dL_law_267 rfl (lv_at hl 0 rfl) ?_
  refine lv_iconst (v := 2) hx hb dL_law_268 (by decide) ?_
  refine lv_iadd hx hb dL_law_269 ?_
  refine va_sld hx hb hXs hbl hbA hz.2.2.2.1 hi2 dL_law_270 ?_
  refine z2_mI (As := [.int (xs (x3 + 1).toNatClampNeg), .int (xs (x3 + 2).toNatClampNeg)]) (rest := [.int r]) C (c6_promise h2) lk_RL_35 ⟨rfl, rfl, Nat.le_of_ble_eq_true rfl, Nat.le_of_ble_eq_true rfl⟩ ⟨Nat.le_of_ble_eq_true rfl, Nat.le_of_ble_eq_true rfl⟩ o_model rfl rfl (Nat.le_of_ble_eq_true rfl) rfl hl.1 dL_law_271 hz (fun H locs hz => ?_)
  refine lv_icmp_eq (tgt := 872) hx hb dL_law_274 (by decide) (fun _ => ?_) (fun cn => absurd rfl cn)
  exact kk _ _ _ _ _ hr1 hz hl
set_option maxHeartbeats 4000000 in
theorem law_word (hst : ∀ a0 a1 : Int32, St Rel (f5_word a0 a1) (f6_word a0 a1)) (C : Cx p m c cL_law 4 s #[Value.ref b] RL D (tyL cI cZ cB)) (hXs : va_X b L xs s s.heap) (hbl : b < s.heap.size) {x3 : Int32} (hi1 : vp_in (x3 + 1) L) (hi2 : vp_in (x3 + 2) L)
    (kk : ∀ (gx gm : Sg) (H : Heap) (locs : List Loc) (ls : Array Slot), Rel gx gm → Z2 D (wX cI cZ cB hX) (wM cI cZ hM) (fun q : Nat => s.heap.size ≤ q) s.heap H locs gx gm → lv_has ls 4 [(3, .int x3), (2, .ref (hM 0)), (1, .ref (hX 134)), (0, .ref b)] → W p l e room_1 s m #[Value.ref b] below meth c H locs 131 1973 Q (F0 m 872 ls [])) :
    ∀ (gx gm : Sg) (H : Heap) (locs : List Loc) (ls : Array Slot), Rel gx gm → Z2 D (wX cI cZ cB hX) (wM cI cZ hM) (fun q : Nat => s.heap.size ≤ q) s.heap H locs gx gm → lv_has ls 4 [(3, .int x3), (2, .ref (hM 0)), (1, .ref (hX 134)), (0, .ref b)] → W p l e room_1 s m #[Value.ref b] below meth c H locs 131 1973 Q (F0 m 279 ls []) := by
  intro gx gm H locs ls hr hz hl
  have hx := C.1.1
  have hb := C.1.2.1
  have hbA : ¬ (fun q : Nat => s.heap.size ≤ q) b := Nat.not_le.mpr hbl
  obtain ⟨r, gx1, gm1, h1, h2, hr1⟩ := hst (xs (x3 + 1).toNatClampNeg) (xs (x3 + 2).toNatClampNeg) gx gm hr
  refine lv_aload_n hx hb dL_law_279 rfl (lv_at hl 2 rfl) ?_
  refine lv_aload_n hx hb dL_law_280 rfl (lv_at hl 3 rfl) ?_
  refine lv_iload_n hx hb dL_law_281 rfl (lv_at hl 0 rfl) ?_
  refine lv_iconst (v := 1) hx hb dL_law_282 (by decide) ?_
  refine lv_iadd hx hb dL_law_283 ?_
  refine va_sld hx hb hXs hbl hbA hz.2.2.2.1 hi1 dL_law_284 ?_
  refine lv_aload_n hx hb dL_law_285 rfl (lv_at hl 3 rfl) ?_
  refine lv_iload_n hx hb dL_law_286 rfl (lv_at hl 0 rfl) ?_
  refine lv_iconst (v := 2) hx hb dL_law_287 (by decide) ?_
  refine lv_iadd hx hb dL_law_288 ?_
  refine va_sld hx hb hXs hbl hbA hz.2.2.2.1 hi2 dL_law_289 ?_
  refine z2_xI (As := [.int (xs (x3 + 1).toNatClampNeg), .int (xs (x3 + 2).toNatClampNeg)]) (rest := []) C (c5_word h1) lk_RL_36 ⟨rfl, rfl, Nat.le_of_ble_eq_true rfl, Nat.le_of_ble_eq_true rfl⟩ ⟨Nat.le_of_ble_eq_true rfl, Nat.le_of_ble_eq_true rfl⟩ o_moss rfl rfl (Nat.le_of_ble_eq_true rfl) rfl hl.1 dL_law_290 hz (fun H locs hz => ?_)
  refine lv_aload_n hx hb dL_law_293 rfl (lv_at hl 1 rfl) ?_
  refine lv_aload_n hx hb dL_law_294 rfl (lv_at hl 3 rfl) ?_
  refine lv_iload_n hx hb dL_law_295 rfl (lv_at hl 0 rfl) ?_
  refine lv_iconst (v := 1) hx hb dL_law_296 (by decide) ?_
  refine lv_iadd hx hb dL_law_297 ?_
  refine va_sld hx hb hXs hbl hbA hz.2.2.2.1 hi1 dL_law_298 ?_
  refine lv_aload_n hx hb dL_law_299 rfl (lv_at hl 3 rfl) ?_
  refine lv_iload_n hx hb dL_law_300 rfl (lv_at hl 0 rfl) ?_
  refine lv_iconst (v := 2) hx hb dL_law_301 (by decide) ?_
  refine lv_iadd hx hb dL_law_302 ?_
  refine va_sld hx hb hXs hbl hbA hz.2.2.2.1 hi2 dL_law_303 ?_
  refine z2_mI (As := [.int (xs (x3 + 1).toNatClampNeg), .int (xs (x3 + 2).toNatClampNeg)]) (rest := [.int r]) C (c6_word h2) lk_RL_39 ⟨rfl, rfl, Nat.le_of_ble_eq_true rfl, Nat.le_of_ble_eq_true rfl⟩ ⟨Nat.le_of_ble_eq_true rfl, Nat.le_of_ble_eq_true rfl⟩ o_model rfl rfl (Nat.le_of_ble_eq_true rfl) rfl hl.1 dL_law_304 hz (fun H locs hz => ?_)
  refine lv_icmp_eq (tgt := 872) hx hb dL_law_307 (by decide) (fun _ => ?_) (fun cn => absurd rfl cn)
  exact kk _ _ _ _ _ hr1 hz hl
set_option maxHeartbeats 4000000 in
theorem law_cell (hst : ∀ a0 a1 : Int32, St Rel (f5_cell a0 a1) (f6_cell a0 a1)) (C : Cx p m c cL_law 4 s #[Value.ref b] RL D (tyL cI cZ cB)) (hXs : va_X b L xs s s.heap) (hbl : b < s.heap.size) {x3 : Int32} (hi1 : vp_in (x3 + 1) L) (hi2 : vp_in (x3 + 2) L)
    (kk : ∀ (gx gm : Sg) (H : Heap) (locs : List Loc) (ls : Array Slot), Rel gx gm → Z2 D (wX cI cZ cB hX) (wM cI cZ hM) (fun q : Nat => s.heap.size ≤ q) s.heap H locs gx gm → lv_has ls 4 [(3, .int x3), (2, .ref (hM 0)), (1, .ref (hX 134)), (0, .ref b)] → W p l e room_1 s m #[Value.ref b] below meth c H locs 131 1973 Q (F0 m 872 ls [])) :
    ∀ (gx gm : Sg) (H : Heap) (locs : List Loc) (ls : Array Slot), Rel gx gm → Z2 D (wX cI cZ cB hX) (wM cI cZ hM) (fun q : Nat => s.heap.size ≤ q) s.heap H locs gx gm → lv_has ls 4 [(3, .int x3), (2, .ref (hM 0)), (1, .ref (hX 134)), (0, .ref b)] → W p l e room_1 s m #[Value.ref b] below meth c H locs 131 1973 Q (F0 m 312 ls []) := by
  intro gx gm H locs ls hr hz hl
  have hx := C.1.1
  have hb := C.1.2.1
  have hbA : ¬ (fun q : Nat => s.heap.size ≤ q) b := Nat.not_le.mpr hbl
  obtain ⟨r, gx1, gm1, h1, h2, hr1⟩ := hst (xs (x3 + 1).toNatClampNeg) (xs (x3 + 2).toNatClampNeg) gx gm hr
  refine lv_aload_n hx hb dL_law_312 rfl (lv_at hl 2 rfl) ?_
  refine lv_aload_n hx hb dL_law_313 rfl (lv_at hl 3 rfl) ?_
  refine lv_iload_n hx hb dL_law_314 rfl (lv_at hl 0 rfl) ?_
  refine lv_iconst (v := 1) hx hb dL_law_315 (by decide) ?_
  refine lv_iadd hx hb dL_law_316 ?_
  refine va_sld hx hb hXs hbl hbA hz.2.2.2.1 hi1 dL_law_317 ?_
  refine lv_aload_n hx hb dL_law_318 rfl (lv_at hl 3 rfl) ?_
  refine lv_iload_n hx hb dL_law_319 rfl (lv_at hl 0 rfl) ?_
  refine lv_iconst (v := 2) hx hb dL_law_320 (by decide) ?_
  refine lv_iadd hx hb dL_law_321 ?_
  refine va_sld hx hb hXs hbl hbA hz.2.2.2.1 hi2 dL_law_322 ?_
  refine z2_xI (As := [.int (xs (x3 + 1).toNatClampNeg), .int (xs (x3 + 2).toNatClampNeg)]) (rest := []) C (c5_cell h1) lk_RL_40 ⟨rfl, rfl, Nat.le_of_ble_eq_true rfl, Nat.le_of_ble_eq_true rfl⟩ ⟨Nat.le_of_ble_eq_true rfl, Nat.le_of_ble_eq_true rfl⟩ o_moss rfl rfl (Nat.le_of_ble_eq_true rfl) rfl hl.1 dL_law_323 hz (fun H locs hz => ?_)
  refine lv_aload_n hx hb dL_law_326 rfl (lv_at hl 1 rfl) ?_
  refine lv_aload_n hx hb dL_law_327 rfl (lv_at hl 3 rfl) ?_
  refine lv_iload_n hx hb dL_law_328 rfl (lv_at hl 0 rfl) ?_
  refine lv_iconst (v := 1) hx hb dL_law_329 (by decide) ?_
  refine lv_iadd hx hb dL_law_330 ?_
  refine va_sld hx hb hXs hbl hbA hz.2.2.2.1 hi1 dL_law_331 ?_
  refine lv_aload_n hx hb dL_law_332 rfl (lv_at hl 3 rfl) ?_
  refine lv_iload_n hx hb dL_law_333 rfl (lv_at hl 0 rfl) ?_
  refine lv_iconst (v := 2) hx hb dL_law_334 (by decide) ?_
  refine lv_iadd hx hb dL_law_335 ?_
  refine va_sld hx hb hXs hbl hbA hz.2.2.2.1 hi2 dL_law_336 ?_
  refine z2_mI (As := [.int (xs (x3 + 1).toNatClampNeg), .int (xs (x3 + 2).toNatClampNeg)]) (rest := [.int r]) C (c6_cell h2) lk_RL_43 ⟨rfl, rfl, Nat.le_of_ble_eq_true rfl, Nat.le_of_ble_eq_true rfl⟩ ⟨Nat.le_of_ble_eq_true rfl, Nat.le_of_ble_eq_true rfl⟩ o_model rfl rfl (Nat.le_of_ble_eq_true rfl) rfl hl.1 dL_law_337 hz (fun H locs hz => ?_)
  refine lv_icmp_eq (tgt := 872) hx hb dL_law_340 (by decide) (fun _ => ?_) (fun cn => absurd rfl cn)
  exact kk _ _ _ _ _ hr1 hz hl
set_option maxHeartbeats 4000000 in
theorem law_now (hst : ∀ a0 : Int32, St Rel (f5_now a0) (f6_now a0)) (C : Cx p m c cL_law 4 s #[Value.ref b] RL D (tyL cI cZ cB)) (hXs : va_X b L xs s s.heap) (hbl : b < s.heap.size) {x3 : Int32} (hi1 : vp_in (x3 + 1) L)
    (kk : ∀ (gx gm : Sg) (H : Heap) (locs : List Loc) (ls : Array Slot), Rel gx gm → Z2 D (wX cI cZ cB hX) (wM cI cZ hM) (fun q : Nat => s.heap.size ≤ q) s.heap H locs gx gm → lv_has ls 4 [(3, .int x3), (2, .ref (hM 0)), (1, .ref (hX 134)), (0, .ref b)] → W p l e room_1 s m #[Value.ref b] below meth c H locs 131 1973 Q (F0 m 872 ls [])) :
    ∀ (gx gm : Sg) (H : Heap) (locs : List Loc) (ls : Array Slot), Rel gx gm → Z2 D (wX cI cZ cB hX) (wM cI cZ hM) (fun q : Nat => s.heap.size ≤ q) s.heap H locs gx gm → lv_has ls 4 [(3, .int x3), (2, .ref (hM 0)), (1, .ref (hX 134)), (0, .ref b)] → W p l e room_1 s m #[Value.ref b] below meth c H locs 131 1973 Q (F0 m 345 ls []) := by
  intro gx gm H locs ls hr hz hl
  have hx := C.1.1
  have hb := C.1.2.1
  have hbA : ¬ (fun q : Nat => s.heap.size ≤ q) b := Nat.not_le.mpr hbl
  obtain ⟨r, gx1, gm1, h1, h2, hr1⟩ := hst (xs (x3 + 1).toNatClampNeg) gx gm hr
  refine lv_aload_n hx hb dL_law_345 rfl (lv_at hl 2 rfl) ?_
  refine lv_aload_n hx hb dL_law_346 rfl (lv_at hl 3 rfl) ?_
  refine lv_iload_n hx hb dL_law_347 rfl (lv_at hl 0 rfl) ?_
  refine lv_iconst (v := 1) hx hb dL_law_348 (by decide) ?_
  refine lv_iadd hx hb dL_law_349 ?_
  refine va_sld hx hb hXs hbl hbA hz.2.2.2.1 hi1 dL_law_350 ?_
  refine z2_xI (As := [.int (xs (x3 + 1).toNatClampNeg)]) (rest := []) C (c5_now h1) lk_RL_44 ⟨rfl, rfl, Nat.le_of_ble_eq_true rfl, Nat.le_of_ble_eq_true rfl⟩ ⟨Nat.le_of_ble_eq_true rfl, Nat.le_of_ble_eq_true rfl⟩ o_moss rfl rfl (Nat.le_of_ble_eq_true rfl) rfl hl.1 dL_law_351 hz (fun H locs hz => ?_)
  refine lv_aload_n hx hb dL_law_354 rfl (lv_at hl 1 rfl) ?_
  refine lv_aload_n hx hb dL_law_355 rfl (lv_at hl 3 rfl) ?_
  refine lv_iload_n hx hb dL_law_356 rfl (lv_at hl 0 rfl) ?_
  refine lv_iconst (v := 1) hx hb dL_law_357 (by decide) ?_
  refine lv_iadd hx hb dL_law_358 ?_
  refine va_sld hx hb hXs hbl hbA hz.2.2.2.1 hi1 dL_law_359 ?_
  refine z2_mI (As := [.int (xs (x3 + 1).toNatClampNeg)]) (rest := [.int r]) C (c6_now h2) lk_RL_47 ⟨rfl, rfl, Nat.le_of_ble_eq_true rfl, Nat.le_of_ble_eq_true rfl⟩ ⟨Nat.le_of_ble_eq_true rfl, Nat.le_of_ble_eq_true rfl⟩ o_model rfl rfl (Nat.le_of_ble_eq_true rfl) rfl hl.1 dL_law_360 hz (fun H locs hz => ?_)
  refine lv_icmp_eq (tgt := 872) hx hb dL_law_363 (by decide) (fun _ => ?_) (fun cn => absurd rfl cn)
  exact kk _ _ _ _ _ hr1 hz hl
set_option maxHeartbeats 4000000 in
theorem law_cuts (hst : ∀ a0 : Int32, St Rel (f5_cuts a0) (f6_cuts a0)) (C : Cx p m c cL_law 4 s #[Value.ref b] RL D (tyL cI cZ cB)) (hXs : va_X b L xs s s.heap) (hbl : b < s.heap.size) {x3 : Int32} (hi1 : vp_in (x3 + 1) L)
    (kk : ∀ (gx gm : Sg) (H : Heap) (locs : List Loc) (ls : Array Slot), Rel gx gm → Z2 D (wX cI cZ cB hX) (wM cI cZ hM) (fun q : Nat => s.heap.size ≤ q) s.heap H locs gx gm → lv_has ls 4 [(3, .int x3), (2, .ref (hM 0)), (1, .ref (hX 134)), (0, .ref b)] → W p l e room_1 s m #[Value.ref b] below meth c H locs 131 1973 Q (F0 m 872 ls [])) :
    ∀ (gx gm : Sg) (H : Heap) (locs : List Loc) (ls : Array Slot), Rel gx gm → Z2 D (wX cI cZ cB hX) (wM cI cZ hM) (fun q : Nat => s.heap.size ≤ q) s.heap H locs gx gm → lv_has ls 4 [(3, .int x3), (2, .ref (hM 0)), (1, .ref (hX 134)), (0, .ref b)] → W p l e room_1 s m #[Value.ref b] below meth c H locs 131 1973 Q (F0 m 368 ls []) := by
  intro gx gm H locs ls hr hz hl
  have hx := C.1.1
  have hb := C.1.2.1
  have hbA : ¬ (fun q : Nat => s.heap.size ≤ q) b := Nat.not_le.mpr hbl
  obtain ⟨r, gx1, gm1, h1, h2, hr1⟩ := hst (xs (x3 + 1).toNatClampNeg) gx gm hr
  refine lv_aload_n hx hb dL_law_368 rfl (lv_at hl 2 rfl) ?_
  refine lv_aload_n hx hb dL_law_369 rfl (lv_at hl 3 rfl) ?_
  refine lv_iload_n hx hb dL_law_370 rfl (lv_at hl 0 rfl) ?_
  refine lv_iconst (v := 1) hx hb dL_law_371 (by decide) ?_
  refine lv_iadd hx hb dL_law_372 ?_
  refine va_sld hx hb hXs hbl hbA hz.2.2.2.1 hi1 dL_law_373 ?_
  refine z2_xI (As := [.int (xs (x3 + 1).toNatClampNeg)]) (rest := []) C (c5_cuts h1) lk_RL_48 ⟨rfl, rfl, Nat.le_of_ble_eq_true rfl, Nat.le_of_ble_eq_true rfl⟩ ⟨Nat.le_of_ble_eq_true rfl, Nat.le_of_ble_eq_true rfl⟩ o_moss rfl rfl (Nat.le_of_ble_eq_true rfl) rfl hl.1 dL_law_374 hz (fun H locs hz => ?_)
  refine lv_aload_n hx hb dL_law_377 rfl (lv_at hl 1 rfl) ?_
  refine lv_aload_n hx hb dL_law_378 rfl (lv_at hl 3 rfl) ?_
  refine lv_iload_n hx hb dL_law_379 rfl (lv_at hl 0 rfl) ?_
  refine lv_iconst (v := 1) hx hb dL_law_380 (by decide) ?_
  refine lv_iadd hx hb dL_law_381 ?_
  refine va_sld hx hb hXs hbl hbA hz.2.2.2.1 hi1 dL_law_382 ?_
  refine z2_mI (As := [.int (xs (x3 + 1).toNatClampNeg)]) (rest := [.int r]) C (c6_cuts h2) lk_RL_51 ⟨rfl, rfl, Nat.le_of_ble_eq_true rfl, Nat.le_of_ble_eq_true rfl⟩ ⟨Nat.le_of_ble_eq_true rfl, Nat.le_of_ble_eq_true rfl⟩ o_model rfl rfl (Nat.le_of_ble_eq_true rfl) rfl hl.1 dL_law_383 hz (fun H locs hz => ?_)
  refine lv_icmp_eq (tgt := 872) hx hb dL_law_386 (by decide) (fun _ => ?_) (fun cn => absurd rfl cn)
  exact kk _ _ _ _ _ hr1 hz hl
set_option maxHeartbeats 4000000 in
theorem law_drains (hst : ∀ a0 : Int32, St Rel (f5_drains a0) (f6_drains a0)) (C : Cx p m c cL_law 4 s #[Value.ref b] RL D (tyL cI cZ cB)) (hXs : va_X b L xs s s.heap) (hbl : b < s.heap.size) {x3 : Int32} (hi1 : vp_in (x3 + 1) L)
    (kk : ∀ (gx gm : Sg) (H : Heap) (locs : List Loc) (ls : Array Slot), Rel gx gm → Z2 D (wX cI cZ cB hX) (wM cI cZ hM) (fun q : Nat => s.heap.size ≤ q) s.heap H locs gx gm → lv_has ls 4 [(3, .int x3), (2, .ref (hM 0)), (1, .ref (hX 134)), (0, .ref b)] → W p l e room_1 s m #[Value.ref b] below meth c H locs 131 1973 Q (F0 m 872 ls [])) :
    ∀ (gx gm : Sg) (H : Heap) (locs : List Loc) (ls : Array Slot), Rel gx gm → Z2 D (wX cI cZ cB hX) (wM cI cZ hM) (fun q : Nat => s.heap.size ≤ q) s.heap H locs gx gm → lv_has ls 4 [(3, .int x3), (2, .ref (hM 0)), (1, .ref (hX 134)), (0, .ref b)] → W p l e room_1 s m #[Value.ref b] below meth c H locs 131 1973 Q (F0 m 391 ls []) := by
  intro gx gm H locs ls hr hz hl
  have hx := C.1.1
  have hb := C.1.2.1
  have hbA : ¬ (fun q : Nat => s.heap.size ≤ q) b := Nat.not_le.mpr hbl
  obtain ⟨r, gx1, gm1, h1, h2, hr1⟩ := hst (xs (x3 + 1).toNatClampNeg) gx gm hr
  refine lv_aload_n hx hb dL_law_391 rfl (lv_at hl 2 rfl) ?_
  refine lv_aload_n hx hb dL_law_392 rfl (lv_at hl 3 rfl) ?_
  refine lv_iload_n hx hb dL_law_393 rfl (lv_at hl 0 rfl) ?_
  refine lv_iconst (v := 1) hx hb dL_law_394 (by decide) ?_
  refine lv_iadd hx hb dL_law_395 ?_
  refine va_sld hx hb hXs hbl hbA hz.2.2.2.1 hi1 dL_law_396 ?_
  refine z2_xI (As := [.int (xs (x3 + 1).toNatClampNeg)]) (rest := []) C (c5_drains h1) lk_RL_52 ⟨rfl, rfl, Nat.le_of_ble_eq_true rfl, Nat.le_of_ble_eq_true rfl⟩ ⟨Nat.le_of_ble_eq_true rfl, Nat.le_of_ble_eq_true rfl⟩ o_moss rfl rfl (Nat.le_of_ble_eq_true rfl) rfl hl.1 dL_law_397 hz (fun H locs hz => ?_)
  refine lv_aload_n hx hb dL_law_400 rfl (lv_at hl 1 rfl) ?_
  refine lv_aload_n hx hb dL_law_401 rfl (lv_at hl 3 rfl) ?_
  refine lv_iload_n hx hb dL_law_402 rfl (lv_at hl 0 rfl) ?_
  refine lv_iconst (v := 1) hx hb dL_law_403 (by decide) ?_
  refine lv_iadd hx hb dL_law_404 ?_
  refine va_sld hx hb hXs hbl hbA hz.2.2.2.1 hi1 dL_law_405 ?_
  refine z2_mI (As := [.int (xs (x3 + 1).toNatClampNeg)]) (rest := [.int r]) C (c6_drains h2) lk_RL_55 ⟨rfl, rfl, Nat.le_of_ble_eq_true rfl, Nat.le_of_ble_eq_true rfl⟩ ⟨Nat.le_of_ble_eq_true rfl, Nat.le_of_ble_eq_true rfl⟩ o_model rfl rfl (Nat.le_of_ble_eq_true rfl) rfl hl.1 dL_law_406 hz (fun H locs hz => ?_)
  refine lv_icmp_eq (tgt := 872) hx hb dL_law_409 (by decide) (fun _ => ?_) (fun cn => absurd rfl cn)
  exact kk _ _ _ _ _ hr1 hz hl
set_option maxHeartbeats 4000000 in
theorem law_does (hst : ∀ a0 : Int32, St Rel (f5_does a0) (f6_does a0)) (C : Cx p m c cL_law 4 s #[Value.ref b] RL D (tyL cI cZ cB)) (hXs : va_X b L xs s s.heap) (hbl : b < s.heap.size) {x3 : Int32} (hi1 : vp_in (x3 + 1) L)
    (kk : ∀ (gx gm : Sg) (H : Heap) (locs : List Loc) (ls : Array Slot), Rel gx gm → Z2 D (wX cI cZ cB hX) (wM cI cZ hM) (fun q : Nat => s.heap.size ≤ q) s.heap H locs gx gm → lv_has ls 4 [(3, .int x3), (2, .ref (hM 0)), (1, .ref (hX 134)), (0, .ref b)] → W p l e room_1 s m #[Value.ref b] below meth c H locs 131 1973 Q (F0 m 872 ls [])) :
    ∀ (gx gm : Sg) (H : Heap) (locs : List Loc) (ls : Array Slot), Rel gx gm → Z2 D (wX cI cZ cB hX) (wM cI cZ hM) (fun q : Nat => s.heap.size ≤ q) s.heap H locs gx gm → lv_has ls 4 [(3, .int x3), (2, .ref (hM 0)), (1, .ref (hX 134)), (0, .ref b)] → W p l e room_1 s m #[Value.ref b] below meth c H locs 131 1973 Q (F0 m 414 ls []) := by
  intro gx gm H locs ls hr hz hl
  have hx := C.1.1
  have hb := C.1.2.1
  have hbA : ¬ (fun q : Nat => s.heap.size ≤ q) b := Nat.not_le.mpr hbl
  obtain ⟨r, gx1, gm1, h1, h2, hr1⟩ := hst (xs (x3 + 1).toNatClampNeg) gx gm hr
  refine lv_aload_n hx hb dL_law_414 rfl (lv_at hl 2 rfl) ?_
  refine lv_aload_n hx hb dL_law_415 rfl (lv_at hl 3 rfl) ?_
  refine lv_iload_n hx hb dL_law_416 rfl (lv_at hl 0 rfl) ?_
  refine lv_iconst (v := 1) hx hb dL_law_417 (by decide) ?_
  refine lv_iadd hx hb dL_law_418 ?_
  refine va_sld hx hb hXs hbl hbA hz.2.2.2.1 hi1 dL_law_419 ?_
  refine z2_xI (As := [.int (xs (x3 + 1).toNatClampNeg)]) (rest := []) C (c5_does h1) lk_RL_56 ⟨rfl, rfl, Nat.le_of_ble_eq_true rfl, Nat.le_of_ble_eq_true rfl⟩ ⟨Nat.le_of_ble_eq_true rfl, Nat.le_of_ble_eq_true rfl⟩ o_moss rfl rfl (Nat.le_of_ble_eq_true rfl) rfl hl.1 dL_law_420 hz (fun H locs hz => ?_)
  refine lv_aload_n hx hb dL_law_423 rfl (lv_at hl 1 rfl) ?_
  refine lv_aload_n hx hb dL_law_424 rfl (lv_at hl 3 rfl) ?_
  refine lv_iload_n hx hb dL_law_425 rfl (lv_at hl 0 rfl) ?_
  refine lv_iconst (v := 1) hx hb dL_law_426 (by decide) ?_
  refine lv_iadd hx hb dL_law_427 ?_
  refine va_sld hx hb hXs hbl hbA hz.2.2.2.1 hi1 dL_law_428 ?_
  refine z2_mI (As := [.int (xs (x3 + 1).toNatClampNeg)]) (rest := [.int r]) C (c6_does h2) lk_RL_59 ⟨rfl, rfl, Nat.le_of_ble_eq_true rfl, Nat.le_of_ble_eq_true rfl⟩ ⟨Nat.le_of_ble_eq_true rfl, Nat.le_of_ble_eq_true rfl⟩ o_model rfl rfl (Nat.le_of_ble_eq_true rfl) rfl hl.1 dL_law_429 hz (fun H locs hz => ?_)
  refine lv_icmp_eq (tgt := 872) hx hb dL_law_432 (by decide) (fun _ => ?_) (fun cn => absurd rfl cn)
  exact kk _ _ _ _ _ hr1 hz hl
set_option maxHeartbeats 4000000 in
theorem law_year (hst : St Rel (f5_year) (f6_year)) (C : Cx p m c cL_law 4 s #[Value.ref b] RL D (tyL cI cZ cB)) (hXs : va_X b L xs s s.heap) (hbl : b < s.heap.size) {x3 : Int32}
    (kk : ∀ (gx gm : Sg) (H : Heap) (locs : List Loc) (ls : Array Slot), Rel gx gm → Z2 D (wX cI cZ cB hX) (wM cI cZ hM) (fun q : Nat => s.heap.size ≤ q) s.heap H locs gx gm → lv_has ls 4 [(3, .int x3), (2, .ref (hM 0)), (1, .ref (hX 134)), (0, .ref b)] → W p l e room_1 s m #[Value.ref b] below meth c H locs 131 1973 Q (F0 m 872 ls [])) :
    ∀ (gx gm : Sg) (H : Heap) (locs : List Loc) (ls : Array Slot), Rel gx gm → Z2 D (wX cI cZ cB hX) (wM cI cZ hM) (fun q : Nat => s.heap.size ≤ q) s.heap H locs gx gm → lv_has ls 4 [(3, .int x3), (2, .ref (hM 0)), (1, .ref (hX 134)), (0, .ref b)] → W p l e room_1 s m #[Value.ref b] below meth c H locs 131 1973 Q (F0 m 437 ls []) := by
  intro gx gm H locs ls hr hz hl
  have hx := C.1.1
  have hb := C.1.2.1
  have hbA : ¬ (fun q : Nat => s.heap.size ≤ q) b := Nat.not_le.mpr hbl
  obtain ⟨r, gx1, gm1, h1, h2, hr1⟩ := hst gx gm hr
  refine lv_aload_n hx hb dL_law_437 rfl (lv_at hl 2 rfl) ?_
  refine z2_xI (As := []) (rest := []) C (c5_year h1) lk_RL_60 ⟨rfl, rfl, Nat.le_of_ble_eq_true rfl, Nat.le_of_ble_eq_true rfl⟩ ⟨Nat.le_of_ble_eq_true rfl, Nat.le_of_ble_eq_true rfl⟩ o_moss rfl rfl (Nat.le_of_ble_eq_true rfl) rfl hl.1 dL_law_438 hz (fun H locs hz => ?_)
  refine lv_aload_n hx hb dL_law_441 rfl (lv_at hl 1 rfl) ?_
  refine z2_mI (As := []) (rest := [.int r]) C (c6_year h2) lk_RL_63 ⟨rfl, rfl, Nat.le_of_ble_eq_true rfl, Nat.le_of_ble_eq_true rfl⟩ ⟨Nat.le_of_ble_eq_true rfl, Nat.le_of_ble_eq_true rfl⟩ o_model rfl rfl (Nat.le_of_ble_eq_true rfl) rfl hl.1 dL_law_442 hz (fun H locs hz => ?_)
  refine lv_icmp_eq (tgt := 872) hx hb dL_law_445 (by decide) (fun _ => ?_) (fun cn => absurd rfl cn)
  exact kk _ _ _ _ _ hr1 hz hl
set_option maxHeartbeats 4000000 in
theorem law_undo (hst : St Rel (f5_undo) (f6_undo)) (C : Cx p m c cL_law 4 s #[Value.ref b] RL D (tyL cI cZ cB)) (hXs : va_X b L xs s s.heap) (hbl : b < s.heap.size) {x3 : Int32}
    (kk : ∀ (gx gm : Sg) (H : Heap) (locs : List Loc) (ls : Array Slot), Rel gx gm → Z2 D (wX cI cZ cB hX) (wM cI cZ hM) (fun q : Nat => s.heap.size ≤ q) s.heap H locs gx gm → lv_has ls 4 [(3, .int x3), (2, .ref (hM 0)), (1, .ref (hX 134)), (0, .ref b)] → W p l e room_1 s m #[Value.ref b] below meth c H locs 131 1973 Q (F0 m 872 ls [])) :
    ∀ (gx gm : Sg) (H : Heap) (locs : List Loc) (ls : Array Slot), Rel gx gm → Z2 D (wX cI cZ cB hX) (wM cI cZ hM) (fun q : Nat => s.heap.size ≤ q) s.heap H locs gx gm → lv_has ls 4 [(3, .int x3), (2, .ref (hM 0)), (1, .ref (hX 134)), (0, .ref b)] → W p l e room_1 s m #[Value.ref b] below meth c H locs 131 1973 Q (F0 m 450 ls []) := by
  intro gx gm H locs ls hr hz hl
  have hx := C.1.1
  have hb := C.1.2.1
  have hbA : ¬ (fun q : Nat => s.heap.size ≤ q) b := Nat.not_le.mpr hbl
  obtain ⟨r, gx1, gm1, h1, h2, hr1⟩ := hst gx gm hr
  refine lv_aload_n hx hb dL_law_450 rfl (lv_at hl 2 rfl) ?_
  refine z2_xI (As := []) (rest := []) C (c5_undo h1) lk_RL_64 ⟨rfl, rfl, Nat.le_of_ble_eq_true rfl, Nat.le_of_ble_eq_true rfl⟩ ⟨Nat.le_of_ble_eq_true rfl, Nat.le_of_ble_eq_true rfl⟩ o_moss rfl rfl (Nat.le_of_ble_eq_true rfl) rfl hl.1 dL_law_451 hz (fun H locs hz => ?_)
  refine lv_aload_n hx hb dL_law_454 rfl (lv_at hl 1 rfl) ?_
  refine z2_mI (As := []) (rest := [.int r]) C (c6_undo h2) lk_RL_67 ⟨rfl, rfl, Nat.le_of_ble_eq_true rfl, Nat.le_of_ble_eq_true rfl⟩ ⟨Nat.le_of_ble_eq_true rfl, Nat.le_of_ble_eq_true rfl⟩ o_model rfl rfl (Nat.le_of_ble_eq_true rfl) rfl hl.1 dL_law_455 hz (fun H locs hz => ?_)
  refine lv_icmp_eq (tgt := 872) hx hb dL_law_458 (by decide) (fun _ => ?_) (fun cn => absurd rfl cn)
  exact kk _ _ _ _ _ hr1 hz hl
set_option maxHeartbeats 4000000 in
theorem law_left (hst : ∀ a0 a1 : Int32, St Rel (f5_left a0 a1) (f6_left a0 a1)) (C : Cx p m c cL_law 4 s #[Value.ref b] RL D (tyL cI cZ cB)) (hXs : va_X b L xs s s.heap) (hbl : b < s.heap.size) {x3 : Int32} (hi1 : vp_in (x3 + 1) L) (hi2 : vp_in (x3 + 2) L)
    (kk : ∀ (gx gm : Sg) (H : Heap) (locs : List Loc) (ls : Array Slot), Rel gx gm → Z2 D (wX cI cZ cB hX) (wM cI cZ hM) (fun q : Nat => s.heap.size ≤ q) s.heap H locs gx gm → lv_has ls 4 [(3, .int x3), (2, .ref (hM 0)), (1, .ref (hX 134)), (0, .ref b)] → W p l e room_1 s m #[Value.ref b] below meth c H locs 131 1973 Q (F0 m 872 ls [])) :
    ∀ (gx gm : Sg) (H : Heap) (locs : List Loc) (ls : Array Slot), Rel gx gm → Z2 D (wX cI cZ cB hX) (wM cI cZ hM) (fun q : Nat => s.heap.size ≤ q) s.heap H locs gx gm → lv_has ls 4 [(3, .int x3), (2, .ref (hM 0)), (1, .ref (hX 134)), (0, .ref b)] → W p l e room_1 s m #[Value.ref b] below meth c H locs 131 1973 Q (F0 m 463 ls []) := by
  intro gx gm H locs ls hr hz hl
  have hx := C.1.1
  have hb := C.1.2.1
  have hbA : ¬ (fun q : Nat => s.heap.size ≤ q) b := Nat.not_le.mpr hbl
  obtain ⟨r, gx1, gm1, h1, h2, hr1⟩ := hst (xs (x3 + 1).toNatClampNeg) (xs (x3 + 2).toNatClampNeg) gx gm hr
  refine lv_aload_n hx hb dL_law_463 rfl (lv_at hl 2 rfl) ?_
  refine lv_aload_n hx hb dL_law_464 rfl (lv_at hl 3 rfl) ?_
  refine lv_iload_n hx hb dL_law_465 rfl (lv_at hl 0 rfl) ?_
  refine lv_iconst (v := 1) hx hb dL_law_466 (by decide) ?_
  refine lv_iadd hx hb dL_law_467 ?_
  refine va_sld hx hb hXs hbl hbA hz.2.2.2.1 hi1 dL_law_468 ?_
  refine lv_aload_n hx hb dL_law_469 rfl (lv_at hl 3 rfl) ?_
  refine lv_iload_n hx hb dL_law_470 rfl (lv_at hl 0 rfl) ?_
  refine lv_iconst (v := 2) hx hb dL_law_471 (by decide) ?_
  refine lv_iadd hx hb dL_law_472 ?_
  refine va_sld hx hb hXs hbl hbA hz.2.2.2.1 hi2 dL_law_473 ?_
  refine z2_xI (As := [.int (xs (x3 + 1).toNatClampNeg), .int (xs (x3 + 2).toNatClampNeg)]) (rest := []) C (c5_left h1) lk_RL_68 ⟨rfl, rfl, Nat.le_of_ble_eq_true rfl, Nat.le_of_ble_eq_true rfl⟩ ⟨Nat.le_of_ble_eq_true rfl, Nat.le_of_ble_eq_true rfl⟩ o_moss rfl rfl (Nat.le_of_ble_eq_true rfl) rfl hl.1 dL_law_474 hz (fun H locs hz => ?_)
  refine lv_aload_n hx hb dL_law_477 rfl (lv_at hl 1 rfl) ?_
  refine lv_aload_n hx hb dL_law_478 rfl (lv_at hl 3 rfl) ?_
  refine lv_iload_n hx hb dL_law_479 rfl (lv_at hl 0 rfl) ?_
  refine lv_iconst (v := 1) hx hb dL_law_480 (by decide) ?_
  refine lv_iadd hx hb dL_law_481 ?_
  refine va_sld hx hb hXs hbl hbA hz.2.2.2.1 hi1 dL_law_482 ?_
  refine lv_aload_n hx hb dL_law_483 rfl (lv_at hl 3 rfl) ?_
  refine lv_iload_n hx hb dL_law_484 rfl (lv_at hl 0 rfl) ?_
  refine lv_iconst (v := 2) hx hb dL_law_485 (by decide) ?_
  refine lv_iadd hx hb dL_law_486 ?_
  refine va_sld hx hb hXs hbl hbA hz.2.2.2.1 hi2 dL_law_487 ?_
  refine z2_mI (As := [.int (xs (x3 + 1).toNatClampNeg), .int (xs (x3 + 2).toNatClampNeg)]) (rest := [.int r]) C (c6_left h2) lk_RL_71 ⟨rfl, rfl, Nat.le_of_ble_eq_true rfl, Nat.le_of_ble_eq_true rfl⟩ ⟨Nat.le_of_ble_eq_true rfl, Nat.le_of_ble_eq_true rfl⟩ o_model rfl rfl (Nat.le_of_ble_eq_true rfl) rfl hl.1 dL_law_488 hz (fun H locs hz => ?_)
  refine lv_icmp_eq (tgt := 872) hx hb dL_law_491 (by decide) (fun _ => ?_) (fun cn => absurd rfl cn)
  exact kk _ _ _ _ _ hr1 hz hl
set_option maxHeartbeats 4000000 in
theorem law_lasts (hst : ∀ a0 a1 a2 : Int32, St Rel (f5_lasts a0 a1 a2) (f6_lasts a0 a1 a2)) (C : Cx p m c cL_law 4 s #[Value.ref b] RL D (tyL cI cZ cB)) (hXs : va_X b L xs s s.heap) (hbl : b < s.heap.size) {x3 : Int32} (hi1 : vp_in (x3 + 1) L) (hi2 : vp_in (x3 + 2) L) (hi3 : vp_in (x3 + 3) L)
    (kk : ∀ (gx gm : Sg) (H : Heap) (locs : List Loc) (ls : Array Slot), Rel gx gm → Z2 D (wX cI cZ cB hX) (wM cI cZ hM) (fun q : Nat => s.heap.size ≤ q) s.heap H locs gx gm → lv_has ls 4 [(3, .int x3), (2, .ref (hM 0)), (1, .ref (hX 134)), (0, .ref b)] → W p l e room_1 s m #[Value.ref b] below meth c H locs 131 1973 Q (F0 m 872 ls [])) :
    ∀ (gx gm : Sg) (H : Heap) (locs : List Loc) (ls : Array Slot), Rel gx gm → Z2 D (wX cI cZ cB hX) (wM cI cZ hM) (fun q : Nat => s.heap.size ≤ q) s.heap H locs gx gm → lv_has ls 4 [(3, .int x3), (2, .ref (hM 0)), (1, .ref (hX 134)), (0, .ref b)] → W p l e room_1 s m #[Value.ref b] below meth c H locs 131 1973 Q (F0 m 496 ls []) := by
  intro gx gm H locs ls hr hz hl
  have hx := C.1.1
  have hb := C.1.2.1
  have hbA : ¬ (fun q : Nat => s.heap.size ≤ q) b := Nat.not_le.mpr hbl
  obtain ⟨r, gx1, gm1, h1, h2, hr1⟩ := hst (xs (x3 + 1).toNatClampNeg) (xs (x3 + 2).toNatClampNeg) (xs (x3 + 3).toNatClampNeg) gx gm hr
  refine lv_aload_n hx hb dL_law_496 rfl (lv_at hl 2 rfl) ?_
  refine lv_aload_n hx hb dL_law_497 rfl (lv_at hl 3 rfl) ?_
  refine lv_iload_n hx hb dL_law_498 rfl (lv_at hl 0 rfl) ?_
  refine lv_iconst (v := 1) hx hb dL_law_499 (by decide) ?_
  refine lv_iadd hx hb dL_law_500 ?_
  refine va_sld hx hb hXs hbl hbA hz.2.2.2.1 hi1 dL_law_501 ?_
  refine lv_aload_n hx hb dL_law_502 rfl (lv_at hl 3 rfl) ?_
  refine lv_iload_n hx hb dL_law_503 rfl (lv_at hl 0 rfl) ?_
  refine lv_iconst (v := 2) hx hb dL_law_504 (by decide) ?_
  refine lv_iadd hx hb dL_law_505 ?_
  refine va_sld hx hb hXs hbl hbA hz.2.2.2.1 hi2 dL_law_506 ?_
  refine lv_aload_n hx hb dL_law_507 rfl (lv_at hl 3 rfl) ?_
  refine lv_iload_n hx hb dL_law_508 rfl (lv_at hl 0 rfl) ?_
  refine lv_iconst (v := 3) hx hb dL_law_509 (by decide) ?_
  refine lv_iadd hx hb dL_law_510 ?_
  refine va_sld hx hb hXs hbl hbA hz.2.2.2.1 hi3 dL_law_511 ?_
  refine z2_xI (As := [.int (xs (x3 + 1).toNatClampNeg), .int (xs (x3 + 2).toNatClampNeg), .int (xs (x3 + 3).toNatClampNeg)]) (rest := []) C (c5_lasts h1) lk_RL_72 ⟨rfl, rfl, Nat.le_of_ble_eq_true rfl, Nat.le_of_ble_eq_true rfl⟩ ⟨Nat.le_of_ble_eq_true rfl, Nat.le_of_ble_eq_true rfl⟩ o_moss rfl rfl (Nat.le_of_ble_eq_true rfl) rfl hl.1 dL_law_512 hz (fun H locs hz => ?_)
  refine lv_aload_n hx hb dL_law_515 rfl (lv_at hl 1 rfl) ?_
  refine lv_aload_n hx hb dL_law_516 rfl (lv_at hl 3 rfl) ?_
  refine lv_iload_n hx hb dL_law_517 rfl (lv_at hl 0 rfl) ?_
  refine lv_iconst (v := 1) hx hb dL_law_518 (by decide) ?_
  refine lv_iadd hx hb dL_law_519 ?_
  refine va_sld hx hb hXs hbl hbA hz.2.2.2.1 hi1 dL_law_520 ?_
  refine lv_aload_n hx hb dL_law_521 rfl (lv_at hl 3 rfl) ?_
  refine lv_iload_n hx hb dL_law_522 rfl (lv_at hl 0 rfl) ?_
  refine lv_iconst (v := 2) hx hb dL_law_523 (by decide) ?_
  refine lv_iadd hx hb dL_law_524 ?_
  refine va_sld hx hb hXs hbl hbA hz.2.2.2.1 hi2 dL_law_525 ?_
  refine lv_aload_n hx hb dL_law_526 rfl (lv_at hl 3 rfl) ?_
  refine lv_iload_n hx hb dL_law_527 rfl (lv_at hl 0 rfl) ?_
  refine lv_iconst (v := 3) hx hb dL_law_528 (by decide) ?_
  refine lv_iadd hx hb dL_law_529 ?_
  refine va_sld hx hb hXs hbl hbA hz.2.2.2.1 hi3 dL_law_530 ?_
  refine z2_mI (As := [.int (xs (x3 + 1).toNatClampNeg), .int (xs (x3 + 2).toNatClampNeg), .int (xs (x3 + 3).toNatClampNeg)]) (rest := [.int r]) C (c6_lasts h2) lk_RL_76 ⟨rfl, rfl, Nat.le_of_ble_eq_true rfl, Nat.le_of_ble_eq_true rfl⟩ ⟨Nat.le_of_ble_eq_true rfl, Nat.le_of_ble_eq_true rfl⟩ o_model rfl rfl (Nat.le_of_ble_eq_true rfl) rfl hl.1 dL_law_531 hz (fun H locs hz => ?_)
  refine lv_icmp_eq (tgt := 872) hx hb dL_law_534 (by decide) (fun _ => ?_) (fun cn => absurd rfl cn)
  exact kk _ _ _ _ _ hr1 hz hl
set_option maxHeartbeats 4000000 in
theorem law_duty (hst : ∀ a0 a1 : Int32, St Rel (f5_duty a0 a1) (f6_duty a0 a1)) (C : Cx p m c cL_law 4 s #[Value.ref b] RL D (tyL cI cZ cB)) (hXs : va_X b L xs s s.heap) (hbl : b < s.heap.size) {x3 : Int32} (hi1 : vp_in (x3 + 1) L) (hi2 : vp_in (x3 + 2) L)
    (kk : ∀ (gx gm : Sg) (H : Heap) (locs : List Loc) (ls : Array Slot), Rel gx gm → Z2 D (wX cI cZ cB hX) (wM cI cZ hM) (fun q : Nat => s.heap.size ≤ q) s.heap H locs gx gm → lv_has ls 4 [(3, .int x3), (2, .ref (hM 0)), (1, .ref (hX 134)), (0, .ref b)] → W p l e room_1 s m #[Value.ref b] below meth c H locs 131 1973 Q (F0 m 872 ls [])) :
    ∀ (gx gm : Sg) (H : Heap) (locs : List Loc) (ls : Array Slot), Rel gx gm → Z2 D (wX cI cZ cB hX) (wM cI cZ hM) (fun q : Nat => s.heap.size ≤ q) s.heap H locs gx gm → lv_has ls 4 [(3, .int x3), (2, .ref (hM 0)), (1, .ref (hX 134)), (0, .ref b)] → W p l e room_1 s m #[Value.ref b] below meth c H locs 131 1973 Q (F0 m 539 ls []) := by
  intro gx gm H locs ls hr hz hl
  have hx := C.1.1
  have hb := C.1.2.1
  have hbA : ¬ (fun q : Nat => s.heap.size ≤ q) b := Nat.not_le.mpr hbl
  obtain ⟨r, gx1, gm1, h1, h2, hr1⟩ := hst (xs (x3 + 1).toNatClampNeg) (xs (x3 + 2).toNatClampNeg) gx gm hr
  refine lv_aload_n hx hb dL_law_539 rfl (lv_at hl 2 rfl) ?_
  refine lv_aload_n hx hb dL_law_540 rfl (lv_at hl 3 rfl) ?_
  refine lv_iload_n hx hb dL_law_541 rfl (lv_at hl 0 rfl) ?_
  refine lv_iconst (v := 1) hx hb dL_law_542 (by decide) ?_
  refine lv_iadd hx hb dL_law_543 ?_
  refine va_sld hx hb hXs hbl hbA hz.2.2.2.1 hi1 dL_law_544 ?_
  refine lv_aload_n hx hb dL_law_545 rfl (lv_at hl 3 rfl) ?_
  refine lv_iload_n hx hb dL_law_546 rfl (lv_at hl 0 rfl) ?_
  refine lv_iconst (v := 2) hx hb dL_law_547 (by decide) ?_
  refine lv_iadd hx hb dL_law_548 ?_
  refine va_sld hx hb hXs hbl hbA hz.2.2.2.1 hi2 dL_law_549 ?_
  refine z2_xI (As := [.int (xs (x3 + 1).toNatClampNeg), .int (xs (x3 + 2).toNatClampNeg)]) (rest := []) C (c5_duty h1) lk_RL_77 ⟨rfl, rfl, Nat.le_of_ble_eq_true rfl, Nat.le_of_ble_eq_true rfl⟩ ⟨Nat.le_of_ble_eq_true rfl, Nat.le_of_ble_eq_true rfl⟩ o_moss rfl rfl (Nat.le_of_ble_eq_true rfl) rfl hl.1 dL_law_550 hz (fun H locs hz => ?_)
  refine lv_aload_n hx hb dL_law_553 rfl (lv_at hl 1 rfl) ?_
  refine lv_aload_n hx hb dL_law_554 rfl (lv_at hl 3 rfl) ?_
  refine lv_iload_n hx hb dL_law_555 rfl (lv_at hl 0 rfl) ?_
  refine lv_iconst (v := 1) hx hb dL_law_556 (by decide) ?_
  refine lv_iadd hx hb dL_law_557 ?_
  refine va_sld hx hb hXs hbl hbA hz.2.2.2.1 hi1 dL_law_558 ?_
  refine lv_aload_n hx hb dL_law_559 rfl (lv_at hl 3 rfl) ?_
  refine lv_iload_n hx hb dL_law_560 rfl (lv_at hl 0 rfl) ?_
  refine lv_iconst (v := 2) hx hb dL_law_561 (by decide) ?_
  refine lv_iadd hx hb dL_law_562 ?_
  refine va_sld hx hb hXs hbl hbA hz.2.2.2.1 hi2 dL_law_563 ?_
  refine z2_mI (As := [.int (xs (x3 + 1).toNatClampNeg), .int (xs (x3 + 2).toNatClampNeg)]) (rest := [.int r]) C (c6_duty h2) lk_RL_80 ⟨rfl, rfl, Nat.le_of_ble_eq_true rfl, Nat.le_of_ble_eq_true rfl⟩ ⟨Nat.le_of_ble_eq_true rfl, Nat.le_of_ble_eq_true rfl⟩ o_model rfl rfl (Nat.le_of_ble_eq_true rfl) rfl hl.1 dL_law_564 hz (fun H locs hz => ?_)
  refine lv_icmp_eq (tgt := 872) hx hb dL_law_567 (by decide) (fun _ => ?_) (fun cn => absurd rfl cn)
  exact kk _ _ _ _ _ hr1 hz hl
set_option maxHeartbeats 4000000 in
theorem law_sees (hst : ∀ a0 : Int32, St Rel (f5_sees a0) (f6_sees a0)) (C : Cx p m c cL_law 4 s #[Value.ref b] RL D (tyL cI cZ cB)) (hXs : va_X b L xs s s.heap) (hbl : b < s.heap.size) {x3 : Int32} (hi1 : vp_in (x3 + 1) L)
    (kk : ∀ (gx gm : Sg) (H : Heap) (locs : List Loc) (ls : Array Slot), Rel gx gm → Z2 D (wX cI cZ cB hX) (wM cI cZ hM) (fun q : Nat => s.heap.size ≤ q) s.heap H locs gx gm → lv_has ls 4 [(3, .int x3), (2, .ref (hM 0)), (1, .ref (hX 134)), (0, .ref b)] → W p l e room_1 s m #[Value.ref b] below meth c H locs 131 1973 Q (F0 m 872 ls [])) :
    ∀ (gx gm : Sg) (H : Heap) (locs : List Loc) (ls : Array Slot), Rel gx gm → Z2 D (wX cI cZ cB hX) (wM cI cZ hM) (fun q : Nat => s.heap.size ≤ q) s.heap H locs gx gm → lv_has ls 4 [(3, .int x3), (2, .ref (hM 0)), (1, .ref (hX 134)), (0, .ref b)] → W p l e room_1 s m #[Value.ref b] below meth c H locs 131 1973 Q (F0 m 572 ls []) := by
  intro gx gm H locs ls hr hz hl
  have hx := C.1.1
  have hb := C.1.2.1
  have hbA : ¬ (fun q : Nat => s.heap.size ≤ q) b := Nat.not_le.mpr hbl
  obtain ⟨r, gx1, gm1, h1, h2, hr1⟩ := hst (xs (x3 + 1).toNatClampNeg) gx gm hr
  refine lv_aload_n hx hb dL_law_572 rfl (lv_at hl 2 rfl) ?_
  refine lv_aload_n hx hb dL_law_573 rfl (lv_at hl 3 rfl) ?_
  refine lv_iload_n hx hb dL_law_574 rfl (lv_at hl 0 rfl) ?_
  refine lv_iconst (v := 1) hx hb dL_law_575 (by decide) ?_
  refine lv_iadd hx hb dL_law_576 ?_
  refine va_sld hx hb hXs hbl hbA hz.2.2.2.1 hi1 dL_law_577 ?_
  refine z2_xI (As := [.int (xs (x3 + 1).toNatClampNeg)]) (rest := []) C (c5_sees h1) lk_RL_81 ⟨rfl, rfl, Nat.le_of_ble_eq_true rfl, Nat.le_of_ble_eq_true rfl⟩ ⟨Nat.le_of_ble_eq_true rfl, Nat.le_of_ble_eq_true rfl⟩ o_moss rfl rfl (Nat.le_of_ble_eq_true rfl) rfl hl.1 dL_law_578 hz (fun H locs hz => ?_)
  refine lv_aload_n hx hb dL_law_581 rfl (lv_at hl 1 rfl) ?_
  refine lv_aload_n hx hb dL_law_582 rfl (lv_at hl 3 rfl) ?_
  refine lv_iload_n hx hb dL_law_583 rfl (lv_at hl 0 rfl) ?_
  refine lv_iconst (v := 1) hx hb dL_law_584 (by decide) ?_
  refine lv_iadd hx hb dL_law_585 ?_
  refine va_sld hx hb hXs hbl hbA hz.2.2.2.1 hi1 dL_law_586 ?_
  refine z2_mI (As := [.int (xs (x3 + 1).toNatClampNeg)]) (rest := [.int r]) C (c6_sees h2) lk_RL_84 ⟨rfl, rfl, Nat.le_of_ble_eq_true rfl, Nat.le_of_ble_eq_true rfl⟩ ⟨Nat.le_of_ble_eq_true rfl, Nat.le_of_ble_eq_true rfl⟩ o_model rfl rfl (Nat.le_of_ble_eq_true rfl) rfl hl.1 dL_law_587 hz (fun H locs hz => ?_)
  refine lv_icmp_eq (tgt := 872) hx hb dL_law_590 (by decide) (fun _ => ?_) (fun cn => absurd rfl cn)
  exact kk _ _ _ _ _ hr1 hz hl
set_option maxHeartbeats 4000000 in
theorem law_forget (hst : St Rel (f5_forget) (f6_forget)) (C : Cx p m c cL_law 4 s #[Value.ref b] RL D (tyL cI cZ cB)) (hXs : va_X b L xs s s.heap) (hbl : b < s.heap.size) {x3 : Int32}
    (kk : ∀ (gx gm : Sg) (H : Heap) (locs : List Loc) (ls : Array Slot), Rel gx gm → Z2 D (wX cI cZ cB hX) (wM cI cZ hM) (fun q : Nat => s.heap.size ≤ q) s.heap H locs gx gm → lv_has ls 4 [(3, .int x3), (2, .ref (hM 0)), (1, .ref (hX 134)), (0, .ref b)] → W p l e room_1 s m #[Value.ref b] below meth c H locs 131 1973 Q (F0 m 872 ls [])) :
    ∀ (gx gm : Sg) (H : Heap) (locs : List Loc) (ls : Array Slot), Rel gx gm → Z2 D (wX cI cZ cB hX) (wM cI cZ hM) (fun q : Nat => s.heap.size ≤ q) s.heap H locs gx gm → lv_has ls 4 [(3, .int x3), (2, .ref (hM 0)), (1, .ref (hX 134)), (0, .ref b)] → W p l e room_1 s m #[Value.ref b] below meth c H locs 131 1973 Q (F0 m 595 ls []) := by
  intro gx gm H locs ls hr hz hl
  have hx := C.1.1
  have hb := C.1.2.1
  have hbA : ¬ (fun q : Nat => s.heap.size ≤ q) b := Nat.not_le.mpr hbl
  obtain ⟨r, gx1, gm1, h1, h2, hr1⟩ := hst gx gm hr
  refine lv_aload_n hx hb dL_law_595 rfl (lv_at hl 2 rfl) ?_
  refine z2_xI (As := []) (rest := []) C (c5_forget h1) lk_RL_85 ⟨rfl, rfl, Nat.le_of_ble_eq_true rfl, Nat.le_of_ble_eq_true rfl⟩ ⟨Nat.le_of_ble_eq_true rfl, Nat.le_of_ble_eq_true rfl⟩ o_moss rfl rfl (Nat.le_of_ble_eq_true rfl) rfl hl.1 dL_law_596 hz (fun H locs hz => ?_)
  refine lv_aload_n hx hb dL_law_599 rfl (lv_at hl 1 rfl) ?_
  refine z2_mI (As := []) (rest := [.int r]) C (c6_forget h2) lk_RL_88 ⟨rfl, rfl, Nat.le_of_ble_eq_true rfl, Nat.le_of_ble_eq_true rfl⟩ ⟨Nat.le_of_ble_eq_true rfl, Nat.le_of_ble_eq_true rfl⟩ o_model rfl rfl (Nat.le_of_ble_eq_true rfl) rfl hl.1 dL_law_600 hz (fun H locs hz => ?_)
  refine lv_icmp_eq (tgt := 872) hx hb dL_law_603 (by decide) (fun _ => ?_) (fun cn => absurd rfl cn)
  exact kk _ _ _ _ _ hr1 hz hl
set_option maxHeartbeats 4000000 in
theorem law_fits (hst : St Rel (f5_fits) (f6_fits)) (C : Cx p m c cL_law 4 s #[Value.ref b] RL D (tyL cI cZ cB)) (hXs : va_X b L xs s s.heap) (hbl : b < s.heap.size) {x3 : Int32}
    (kk : ∀ (gx gm : Sg) (H : Heap) (locs : List Loc) (ls : Array Slot), Rel gx gm → Z2 D (wX cI cZ cB hX) (wM cI cZ hM) (fun q : Nat => s.heap.size ≤ q) s.heap H locs gx gm → lv_has ls 4 [(3, .int x3), (2, .ref (hM 0)), (1, .ref (hX 134)), (0, .ref b)] → W p l e room_1 s m #[Value.ref b] below meth c H locs 131 1973 Q (F0 m 872 ls [])) :
    ∀ (gx gm : Sg) (H : Heap) (locs : List Loc) (ls : Array Slot), Rel gx gm → Z2 D (wX cI cZ cB hX) (wM cI cZ hM) (fun q : Nat => s.heap.size ≤ q) s.heap H locs gx gm → lv_has ls 4 [(3, .int x3), (2, .ref (hM 0)), (1, .ref (hX 134)), (0, .ref b)] → W p l e room_1 s m #[Value.ref b] below meth c H locs 131 1973 Q (F0 m 608 ls []) := by
  intro gx gm H locs ls hr hz hl
  have hx := C.1.1
  have hb := C.1.2.1
  have hbA : ¬ (fun q : Nat => s.heap.size ≤ q) b := Nat.not_le.mpr hbl
  obtain ⟨r, gx1, gm1, h1, h2, hr1⟩ := hst gx gm hr
  refine lv_aload_n hx hb dL_law_608 rfl (lv_at hl 2 rfl) ?_
  refine z2_xI (As := []) (rest := []) C (c5_fits h1) lk_RL_89 ⟨rfl, rfl, Nat.le_of_ble_eq_true rfl, Nat.le_of_ble_eq_true rfl⟩ ⟨Nat.le_of_ble_eq_true rfl, Nat.le_of_ble_eq_true rfl⟩ o_moss rfl rfl (Nat.le_of_ble_eq_true rfl) rfl hl.1 dL_law_609 hz (fun H locs hz => ?_)
  refine lv_aload_n hx hb dL_law_612 rfl (lv_at hl 1 rfl) ?_
  refine z2_mI (As := []) (rest := [.int r]) C (c6_fits h2) lk_RL_92 ⟨rfl, rfl, Nat.le_of_ble_eq_true rfl, Nat.le_of_ble_eq_true rfl⟩ ⟨Nat.le_of_ble_eq_true rfl, Nat.le_of_ble_eq_true rfl⟩ o_model rfl rfl (Nat.le_of_ble_eq_true rfl) rfl hl.1 dL_law_613 hz (fun H locs hz => ?_)
  refine lv_icmp_eq (tgt := 872) hx hb dL_law_616 (by decide) (fun _ => ?_) (fun cn => absurd rfl cn)
  exact kk _ _ _ _ _ hr1 hz hl
set_option maxHeartbeats 4000000 in
theorem law_likely (hst : St Rel (f5_likely) (f6_likely)) (C : Cx p m c cL_law 4 s #[Value.ref b] RL D (tyL cI cZ cB)) (hXs : va_X b L xs s s.heap) (hbl : b < s.heap.size) {x3 : Int32}
    (kk : ∀ (gx gm : Sg) (H : Heap) (locs : List Loc) (ls : Array Slot), Rel gx gm → Z2 D (wX cI cZ cB hX) (wM cI cZ hM) (fun q : Nat => s.heap.size ≤ q) s.heap H locs gx gm → lv_has ls 4 [(3, .int x3), (2, .ref (hM 0)), (1, .ref (hX 134)), (0, .ref b)] → W p l e room_1 s m #[Value.ref b] below meth c H locs 131 1973 Q (F0 m 872 ls [])) :
    ∀ (gx gm : Sg) (H : Heap) (locs : List Loc) (ls : Array Slot), Rel gx gm → Z2 D (wX cI cZ cB hX) (wM cI cZ hM) (fun q : Nat => s.heap.size ≤ q) s.heap H locs gx gm → lv_has ls 4 [(3, .int x3), (2, .ref (hM 0)), (1, .ref (hX 134)), (0, .ref b)] → W p l e room_1 s m #[Value.ref b] below meth c H locs 131 1973 Q (F0 m 621 ls []) := by
  intro gx gm H locs ls hr hz hl
  have hx := C.1.1
  have hb := C.1.2.1
  have hbA : ¬ (fun q : Nat => s.heap.size ≤ q) b := Nat.not_le.mpr hbl
  obtain ⟨r, gx1, gm1, h1, h2, hr1⟩ := hst gx gm hr
  refine lv_aload_n hx hb dL_law_621 rfl (lv_at hl 2 rfl) ?_
  refine z2_xI (As := []) (rest := []) C (c5_likely h1) lk_RL_93 ⟨rfl, rfl, Nat.le_of_ble_eq_true rfl, Nat.le_of_ble_eq_true rfl⟩ ⟨Nat.le_of_ble_eq_true rfl, Nat.le_of_ble_eq_true rfl⟩ o_moss rfl rfl (Nat.le_of_ble_eq_true rfl) rfl hl.1 dL_law_622 hz (fun H locs hz => ?_)
  refine lv_aload_n hx hb dL_law_625 rfl (lv_at hl 1 rfl) ?_
  refine z2_mI (As := []) (rest := [.int r]) C (c6_likely h2) lk_RL_96 ⟨rfl, rfl, Nat.le_of_ble_eq_true rfl, Nat.le_of_ble_eq_true rfl⟩ ⟨Nat.le_of_ble_eq_true rfl, Nat.le_of_ble_eq_true rfl⟩ o_model rfl rfl (Nat.le_of_ble_eq_true rfl) rfl hl.1 dL_law_626 hz (fun H locs hz => ?_)
  refine lv_icmp_eq (tgt := 872) hx hb dL_law_629 (by decide) (fun _ => ?_) (fun cn => absurd rfl cn)
  exact kk _ _ _ _ _ hr1 hz hl
set_option maxHeartbeats 4000000 in
theorem law_kept (hst : ∀ a0 : Int32, St Rel (f5_kept a0) (f6_kept a0)) (C : Cx p m c cL_law 4 s #[Value.ref b] RL D (tyL cI cZ cB)) (hXs : va_X b L xs s s.heap) (hbl : b < s.heap.size) {x3 : Int32} (hi1 : vp_in (x3 + 1) L)
    (kk : ∀ (gx gm : Sg) (H : Heap) (locs : List Loc) (ls : Array Slot), Rel gx gm → Z2 D (wX cI cZ cB hX) (wM cI cZ hM) (fun q : Nat => s.heap.size ≤ q) s.heap H locs gx gm → lv_has ls 4 [(3, .int x3), (2, .ref (hM 0)), (1, .ref (hX 134)), (0, .ref b)] → W p l e room_1 s m #[Value.ref b] below meth c H locs 131 1973 Q (F0 m 872 ls [])) :
    ∀ (gx gm : Sg) (H : Heap) (locs : List Loc) (ls : Array Slot), Rel gx gm → Z2 D (wX cI cZ cB hX) (wM cI cZ hM) (fun q : Nat => s.heap.size ≤ q) s.heap H locs gx gm → lv_has ls 4 [(3, .int x3), (2, .ref (hM 0)), (1, .ref (hX 134)), (0, .ref b)] → W p l e room_1 s m #[Value.ref b] below meth c H locs 131 1973 Q (F0 m 634 ls []) := by
  intro gx gm H locs ls hr hz hl
  have hx := C.1.1
  have hb := C.1.2.1
  have hbA : ¬ (fun q : Nat => s.heap.size ≤ q) b := Nat.not_le.mpr hbl
  obtain ⟨r, gx1, gm1, h1, h2, hr1⟩ := hst (xs (x3 + 1).toNatClampNeg) gx gm hr
  refine lv_aload_n hx hb dL_law_634 rfl (lv_at hl 2 rfl) ?_
  refine lv_aload_n hx hb dL_law_635 rfl (lv_at hl 3 rfl) ?_
  refine lv_iload_n hx hb dL_law_636 rfl (lv_at hl 0 rfl) ?_
  refine lv_iconst (v := 1) hx hb dL_law_637 (by decide) ?_
  refine lv_iadd hx hb dL_law_638 ?_
  refine va_sld hx hb hXs hbl hbA hz.2.2.2.1 hi1 dL_law_639 ?_
  refine z2_xI (As := [.int (xs (x3 + 1).toNatClampNeg)]) (rest := []) C (c5_kept h1) lk_RL_97 ⟨rfl, rfl, Nat.le_of_ble_eq_true rfl, Nat.le_of_ble_eq_true rfl⟩ ⟨Nat.le_of_ble_eq_true rfl, Nat.le_of_ble_eq_true rfl⟩ o_moss rfl rfl (Nat.le_of_ble_eq_true rfl) rfl hl.1 dL_law_640 hz (fun H locs hz => ?_)
  refine lv_aload_n hx hb dL_law_643 rfl (lv_at hl 1 rfl) ?_
  refine lv_aload_n hx hb dL_law_644 rfl (lv_at hl 3 rfl) ?_
  refine lv_iload_n hx hb dL_law_645 rfl (lv_at hl 0 rfl) ?_
  refine lv_iconst (v := 1) hx hb dL_law_646 (by decide) ?_
  refine lv_iadd hx hb dL_law_647 ?_
  refine va_sld hx hb hXs hbl hbA hz.2.2.2.1 hi1 dL_law_648 ?_
  refine z2_mI (As := [.int (xs (x3 + 1).toNatClampNeg)]) (rest := [.int r]) C (c6_kept h2) lk_RL_100 ⟨rfl, rfl, Nat.le_of_ble_eq_true rfl, Nat.le_of_ble_eq_true rfl⟩ ⟨Nat.le_of_ble_eq_true rfl, Nat.le_of_ble_eq_true rfl⟩ o_model rfl rfl (Nat.le_of_ble_eq_true rfl) rfl hl.1 dL_law_649 hz (fun H locs hz => ?_)
  refine lv_icmp_eq (tgt := 872) hx hb dL_law_652 (by decide) (fun _ => ?_) (fun cn => absurd rfl cn)
  exact kk _ _ _ _ _ hr1 hz hl
set_option maxHeartbeats 4000000 in
theorem law_order (hst : ∀ a0 : Int32, St Rel (f5_order a0) (f6_order a0)) (C : Cx p m c cL_law 4 s #[Value.ref b] RL D (tyL cI cZ cB)) (hXs : va_X b L xs s s.heap) (hbl : b < s.heap.size) {x3 : Int32} (hi1 : vp_in (x3 + 1) L)
    (kk : ∀ (gx gm : Sg) (H : Heap) (locs : List Loc) (ls : Array Slot), Rel gx gm → Z2 D (wX cI cZ cB hX) (wM cI cZ hM) (fun q : Nat => s.heap.size ≤ q) s.heap H locs gx gm → lv_has ls 4 [(3, .int x3), (2, .ref (hM 0)), (1, .ref (hX 134)), (0, .ref b)] → W p l e room_1 s m #[Value.ref b] below meth c H locs 131 1973 Q (F0 m 872 ls [])) :
    ∀ (gx gm : Sg) (H : Heap) (locs : List Loc) (ls : Array Slot), Rel gx gm → Z2 D (wX cI cZ cB hX) (wM cI cZ hM) (fun q : Nat => s.heap.size ≤ q) s.heap H locs gx gm → lv_has ls 4 [(3, .int x3), (2, .ref (hM 0)), (1, .ref (hX 134)), (0, .ref b)] → W p l e room_1 s m #[Value.ref b] below meth c H locs 131 1973 Q (F0 m 657 ls []) := by
  intro gx gm H locs ls hr hz hl
  have hx := C.1.1
  have hb := C.1.2.1
  have hbA : ¬ (fun q : Nat => s.heap.size ≤ q) b := Nat.not_le.mpr hbl
  obtain ⟨r, gx1, gm1, h1, h2, hr1⟩ := hst (xs (x3 + 1).toNatClampNeg) gx gm hr
  refine lv_aload_n hx hb dL_law_657 rfl (lv_at hl 2 rfl) ?_
  refine lv_aload_n hx hb dL_law_658 rfl (lv_at hl 3 rfl) ?_
  refine lv_iload_n hx hb dL_law_659 rfl (lv_at hl 0 rfl) ?_
  refine lv_iconst (v := 1) hx hb dL_law_660 (by decide) ?_
  refine lv_iadd hx hb dL_law_661 ?_
  refine va_sld hx hb hXs hbl hbA hz.2.2.2.1 hi1 dL_law_662 ?_
  refine z2_xI (As := [.int (xs (x3 + 1).toNatClampNeg)]) (rest := []) C (c5_order h1) lk_RL_101 ⟨rfl, rfl, Nat.le_of_ble_eq_true rfl, Nat.le_of_ble_eq_true rfl⟩ ⟨Nat.le_of_ble_eq_true rfl, Nat.le_of_ble_eq_true rfl⟩ o_moss rfl rfl (Nat.le_of_ble_eq_true rfl) rfl hl.1 dL_law_663 hz (fun H locs hz => ?_)
  refine lv_aload_n hx hb dL_law_666 rfl (lv_at hl 1 rfl) ?_
  refine lv_aload_n hx hb dL_law_667 rfl (lv_at hl 3 rfl) ?_
  refine lv_iload_n hx hb dL_law_668 rfl (lv_at hl 0 rfl) ?_
  refine lv_iconst (v := 1) hx hb dL_law_669 (by decide) ?_
  refine lv_iadd hx hb dL_law_670 ?_
  refine va_sld hx hb hXs hbl hbA hz.2.2.2.1 hi1 dL_law_671 ?_
  refine z2_mI (As := [.int (xs (x3 + 1).toNatClampNeg)]) (rest := [.int r]) C (c6_order h2) lk_RL_104 ⟨rfl, rfl, Nat.le_of_ble_eq_true rfl, Nat.le_of_ble_eq_true rfl⟩ ⟨Nat.le_of_ble_eq_true rfl, Nat.le_of_ble_eq_true rfl⟩ o_model rfl rfl (Nat.le_of_ble_eq_true rfl) rfl hl.1 dL_law_672 hz (fun H locs hz => ?_)
  refine lv_icmp_eq (tgt := 872) hx hb dL_law_675 (by decide) (fun _ => ?_) (fun cn => absurd rfl cn)
  exact kk _ _ _ _ _ hr1 hz hl
set_option maxHeartbeats 4000000 in
theorem law_drain (hst : ∀ a0 : Int32, St Rel (f5_drain a0) (f6_drain a0)) (C : Cx p m c cL_law 4 s #[Value.ref b] RL D (tyL cI cZ cB)) (hXs : va_X b L xs s s.heap) (hbl : b < s.heap.size) {x3 : Int32} (hi1 : vp_in (x3 + 1) L)
    (kk : ∀ (gx gm : Sg) (H : Heap) (locs : List Loc) (ls : Array Slot), Rel gx gm → Z2 D (wX cI cZ cB hX) (wM cI cZ hM) (fun q : Nat => s.heap.size ≤ q) s.heap H locs gx gm → lv_has ls 4 [(3, .int x3), (2, .ref (hM 0)), (1, .ref (hX 134)), (0, .ref b)] → W p l e room_1 s m #[Value.ref b] below meth c H locs 131 1973 Q (F0 m 872 ls [])) :
    ∀ (gx gm : Sg) (H : Heap) (locs : List Loc) (ls : Array Slot), Rel gx gm → Z2 D (wX cI cZ cB hX) (wM cI cZ hM) (fun q : Nat => s.heap.size ≤ q) s.heap H locs gx gm → lv_has ls 4 [(3, .int x3), (2, .ref (hM 0)), (1, .ref (hX 134)), (0, .ref b)] → W p l e room_1 s m #[Value.ref b] below meth c H locs 131 1973 Q (F0 m 680 ls []) := by
  intro gx gm H locs ls hr hz hl
  have hx := C.1.1
  have hb := C.1.2.1
  have hbA : ¬ (fun q : Nat => s.heap.size ≤ q) b := Nat.not_le.mpr hbl
  obtain ⟨r, gx1, gm1, h1, h2, hr1⟩ := hst (xs (x3 + 1).toNatClampNeg) gx gm hr
  refine lv_aload_n hx hb dL_law_680 rfl (lv_at hl 2 rfl) ?_
  refine lv_aload_n hx hb dL_law_681 rfl (lv_at hl 3 rfl) ?_
  refine lv_iload_n hx hb dL_law_682 rfl (lv_at hl 0 rfl) ?_
  refine lv_iconst (v := 1) hx hb dL_law_683 (by decide) ?_
  refine lv_iadd hx hb dL_law_684 ?_
  refine va_sld hx hb hXs hbl hbA hz.2.2.2.1 hi1 dL_law_685 ?_
  refine z2_xI (As := [.int (xs (x3 + 1).toNatClampNeg)]) (rest := []) C (c5_drain h1) lk_RL_105 ⟨rfl, rfl, Nat.le_of_ble_eq_true rfl, Nat.le_of_ble_eq_true rfl⟩ ⟨Nat.le_of_ble_eq_true rfl, Nat.le_of_ble_eq_true rfl⟩ o_moss rfl rfl (Nat.le_of_ble_eq_true rfl) rfl hl.1 dL_law_686 hz (fun H locs hz => ?_)
  refine lv_aload_n hx hb dL_law_689 rfl (lv_at hl 1 rfl) ?_
  refine lv_aload_n hx hb dL_law_690 rfl (lv_at hl 3 rfl) ?_
  refine lv_iload_n hx hb dL_law_691 rfl (lv_at hl 0 rfl) ?_
  refine lv_iconst (v := 1) hx hb dL_law_692 (by decide) ?_
  refine lv_iadd hx hb dL_law_693 ?_
  refine va_sld hx hb hXs hbl hbA hz.2.2.2.1 hi1 dL_law_694 ?_
  refine z2_mI (As := [.int (xs (x3 + 1).toNatClampNeg)]) (rest := [.int r]) C (c6_drain h2) lk_RL_108 ⟨rfl, rfl, Nat.le_of_ble_eq_true rfl, Nat.le_of_ble_eq_true rfl⟩ ⟨Nat.le_of_ble_eq_true rfl, Nat.le_of_ble_eq_true rfl⟩ o_model rfl rfl (Nat.le_of_ble_eq_true rfl) rfl hl.1 dL_law_695 hz (fun H locs hz => ?_)
  refine lv_icmp_eq (tgt := 872) hx hb dL_law_698 (by decide) (fun _ => ?_) (fun cn => absurd rfl cn)
  exact kk _ _ _ _ _ hr1 hz hl
set_option maxHeartbeats 4000000 in
theorem law_odds (hst : ∀ a0 a1 a2 a3 : Int32, St Rel (f5_odds a0 a1 a2 a3) (f6_odds a0 a1 a2 a3)) (C : Cx p m c cL_law 4 s #[Value.ref b] RL D (tyL cI cZ cB)) (hXs : va_X b L xs s s.heap) (hbl : b < s.heap.size) {x3 : Int32} (hi1 : vp_in (x3 + 1) L) (hi2 : vp_in (x3 + 2) L) (hi3 : vp_in (x3 + 3) L) (hi4 : vp_in (x3 + 4) L)
    (kk : ∀ (gx gm : Sg) (H : Heap) (locs : List Loc) (ls : Array Slot), Rel gx gm → Z2 D (wX cI cZ cB hX) (wM cI cZ hM) (fun q : Nat => s.heap.size ≤ q) s.heap H locs gx gm → lv_has ls 4 [(3, .int x3), (2, .ref (hM 0)), (1, .ref (hX 134)), (0, .ref b)] → W p l e room_1 s m #[Value.ref b] below meth c H locs 131 1973 Q (F0 m 872 ls [])) :
    ∀ (gx gm : Sg) (H : Heap) (locs : List Loc) (ls : Array Slot), Rel gx gm → Z2 D (wX cI cZ cB hX) (wM cI cZ hM) (fun q : Nat => s.heap.size ≤ q) s.heap H locs gx gm → lv_has ls 4 [(3, .int x3), (2, .ref (hM 0)), (1, .ref (hX 134)), (0, .ref b)] → W p l e room_1 s m #[Value.ref b] below meth c H locs 131 1973 Q (F0 m 703 ls []) := by
  intro gx gm H locs ls hr hz hl
  have hx := C.1.1
  have hb := C.1.2.1
  have hbA : ¬ (fun q : Nat => s.heap.size ≤ q) b := Nat.not_le.mpr hbl
  obtain ⟨r, gx1, gm1, h1, h2, hr1⟩ := hst (xs (x3 + 1).toNatClampNeg) (xs (x3 + 2).toNatClampNeg) (xs (x3 + 3).toNatClampNeg) (xs (x3 + 4).toNatClampNeg) gx gm hr
  refine lv_aload_n hx hb dL_law_703 rfl (lv_at hl 2 rfl) ?_
  refine lv_aload_n hx hb dL_law_704 rfl (lv_at hl 3 rfl) ?_
  refine lv_iload_n hx hb dL_law_705 rfl (lv_at hl 0 rfl) ?_
  refine lv_iconst (v := 1) hx hb dL_law_706 (by decide) ?_
  refine lv_iadd hx hb dL_law_707 ?_
  refine va_sld hx hb hXs hbl hbA hz.2.2.2.1 hi1 dL_law_708 ?_
  refine lv_aload_n hx hb dL_law_709 rfl (lv_at hl 3 rfl) ?_
  refine lv_iload_n hx hb dL_law_710 rfl (lv_at hl 0 rfl) ?_
  refine lv_iconst (v := 2) hx hb dL_law_711 (by decide) ?_
  refine lv_iadd hx hb dL_law_712 ?_
  refine va_sld hx hb hXs hbl hbA hz.2.2.2.1 hi2 dL_law_713 ?_
  refine lv_aload_n hx hb dL_law_714 rfl (lv_at hl 3 rfl) ?_
  refine lv_iload_n hx hb dL_law_715 rfl (lv_at hl 0 rfl) ?_
  refine lv_iconst (v := 3) hx hb dL_law_716 (by decide) ?_
  refine lv_iadd hx hb dL_law_717 ?_
  refine va_sld hx hb hXs hbl hbA hz.2.2.2.1 hi3 dL_law_718 ?_
  refine lv_aload_n hx hb dL_law_719 rfl (lv_at hl 3 rfl) ?_
  refine lv_iload_n hx hb dL_law_720 rfl (lv_at hl 0 rfl) ?_
  refine lv_iconst (v := 4) hx hb dL_law_721 (by decide) ?_
  refine lv_iadd hx hb dL_law_722 ?_
  refine va_sld hx hb hXs hbl hbA hz.2.2.2.1 hi4 dL_law_723 ?_
  refine z2_xI (As := [.int (xs (x3 + 1).toNatClampNeg), .int (xs (x3 + 2).toNatClampNeg), .int (xs (x3 + 3).toNatClampNeg), .int (xs (x3 + 4).toNatClampNeg)]) (rest := []) C (c5_odds h1) lk_RL_109 ⟨rfl, rfl, Nat.le_of_ble_eq_true rfl, Nat.le_of_ble_eq_true rfl⟩ ⟨Nat.le_of_ble_eq_true rfl, Nat.le_of_ble_eq_true rfl⟩ o_moss rfl rfl (Nat.le_of_ble_eq_true rfl) rfl hl.1 dL_law_724 hz (fun H locs hz => ?_)
  refine lv_aload_n hx hb dL_law_727 rfl (lv_at hl 1 rfl) ?_
  refine lv_aload_n hx hb dL_law_728 rfl (lv_at hl 3 rfl) ?_
  refine lv_iload_n hx hb dL_law_729 rfl (lv_at hl 0 rfl) ?_
  refine lv_iconst (v := 1) hx hb dL_law_730 (by decide) ?_
  refine lv_iadd hx hb dL_law_731 ?_
  refine va_sld hx hb hXs hbl hbA hz.2.2.2.1 hi1 dL_law_732 ?_
  refine lv_aload_n hx hb dL_law_733 rfl (lv_at hl 3 rfl) ?_
  refine lv_iload_n hx hb dL_law_734 rfl (lv_at hl 0 rfl) ?_
  refine lv_iconst (v := 2) hx hb dL_law_735 (by decide) ?_
  refine lv_iadd hx hb dL_law_736 ?_
  refine va_sld hx hb hXs hbl hbA hz.2.2.2.1 hi2 dL_law_737 ?_
  refine lv_aload_n hx hb dL_law_738 rfl (lv_at hl 3 rfl) ?_
  refine lv_iload_n hx hb dL_law_739 rfl (lv_at hl 0 rfl) ?_
  refine lv_iconst (v := 3) hx hb dL_law_740 (by decide) ?_
  refine lv_iadd hx hb dL_law_741 ?_
  refine va_sld hx hb hXs hbl hbA hz.2.2.2.1 hi3 dL_law_742 ?_
  refine lv_aload_n hx hb dL_law_743 rfl (lv_at hl 3 rfl) ?_
  refine lv_iload_n hx hb dL_law_744 rfl (lv_at hl 0 rfl) ?_
  refine lv_iconst (v := 4) hx hb dL_law_745 (by decide) ?_
  refine lv_iadd hx hb dL_law_746 ?_
  refine va_sld hx hb hXs hbl hbA hz.2.2.2.1 hi4 dL_law_747 ?_
  refine z2_mI (As := [.int (xs (x3 + 1).toNatClampNeg), .int (xs (x3 + 2).toNatClampNeg), .int (xs (x3 + 3).toNatClampNeg), .int (xs (x3 + 4).toNatClampNeg)]) (rest := [.int r]) C (c6_odds h2) lk_RL_113 ⟨rfl, rfl, Nat.le_of_ble_eq_true rfl, Nat.le_of_ble_eq_true rfl⟩ ⟨Nat.le_of_ble_eq_true rfl, Nat.le_of_ble_eq_true rfl⟩ o_model rfl rfl (Nat.le_of_ble_eq_true rfl) rfl hl.1 dL_law_748 hz (fun H locs hz => ?_)
  refine lv_icmp_eq (tgt := 872) hx hb dL_law_751 (by decide) (fun _ => ?_) (fun cn => absurd rfl cn)
  exact kk _ _ _ _ _ hr1 hz hl
set_option maxHeartbeats 4000000 in
theorem law_rate (hst : ∀ a0 a1 : Int32, St Rel (f5_rate a0 a1) (f6_rate a0 a1)) (C : Cx p m c cL_law 4 s #[Value.ref b] RL D (tyL cI cZ cB)) (hXs : va_X b L xs s s.heap) (hbl : b < s.heap.size) {x3 : Int32} (hi1 : vp_in (x3 + 1) L) (hi2 : vp_in (x3 + 2) L)
    (kk : ∀ (gx gm : Sg) (H : Heap) (locs : List Loc) (ls : Array Slot), Rel gx gm → Z2 D (wX cI cZ cB hX) (wM cI cZ hM) (fun q : Nat => s.heap.size ≤ q) s.heap H locs gx gm → lv_has ls 4 [(3, .int x3), (2, .ref (hM 0)), (1, .ref (hX 134)), (0, .ref b)] → W p l e room_1 s m #[Value.ref b] below meth c H locs 131 1973 Q (F0 m 872 ls [])) :
    ∀ (gx gm : Sg) (H : Heap) (locs : List Loc) (ls : Array Slot), Rel gx gm → Z2 D (wX cI cZ cB hX) (wM cI cZ hM) (fun q : Nat => s.heap.size ≤ q) s.heap H locs gx gm → lv_has ls 4 [(3, .int x3), (2, .ref (hM 0)), (1, .ref (hX 134)), (0, .ref b)] → W p l e room_1 s m #[Value.ref b] below meth c H locs 131 1973 Q (F0 m 756 ls []) := by
  intro gx gm H locs ls hr hz hl
  have hx := C.1.1
  have hb := C.1.2.1
  have hbA : ¬ (fun q : Nat => s.heap.size ≤ q) b := Nat.not_le.mpr hbl
  obtain ⟨r, gx1, gm1, h1, h2, hr1⟩ := hst (xs (x3 + 1).toNatClampNeg) (xs (x3 + 2).toNatClampNeg) gx gm hr
  refine lv_aload_n hx hb dL_law_756 rfl (lv_at hl 2 rfl) ?_
  refine lv_aload_n hx hb dL_law_757 rfl (lv_at hl 3 rfl) ?_
  refine lv_iload_n hx hb dL_law_758 rfl (lv_at hl 0 rfl) ?_
  refine lv_iconst (v := 1) hx hb dL_law_759 (by decide) ?_
  refine lv_iadd hx hb dL_law_760 ?_
  refine va_sld hx hb hXs hbl hbA hz.2.2.2.1 hi1 dL_law_761 ?_
  refine lv_aload_n hx hb dL_law_762 rfl (lv_at hl 3 rfl) ?_
  refine lv_iload_n hx hb dL_law_763 rfl (lv_at hl 0 rfl) ?_
  refine lv_iconst (v := 2) hx hb dL_law_764 (by decide) ?_
  refine lv_iadd hx hb dL_law_765 ?_
  refine va_sld hx hb hXs hbl hbA hz.2.2.2.1 hi2 dL_law_766 ?_
  refine z2_xI (As := [.int (xs (x3 + 1).toNatClampNeg), .int (xs (x3 + 2).toNatClampNeg)]) (rest := []) C (c5_rate h1) lk_RL_114 ⟨rfl, rfl, Nat.le_of_ble_eq_true rfl, Nat.le_of_ble_eq_true rfl⟩ ⟨Nat.le_of_ble_eq_true rfl, Nat.le_of_ble_eq_true rfl⟩ o_moss rfl rfl (Nat.le_of_ble_eq_true rfl) rfl hl.1 dL_law_767 hz (fun H locs hz => ?_)
  refine lv_aload_n hx hb dL_law_770 rfl (lv_at hl 1 rfl) ?_
  refine lv_aload_n hx hb dL_law_771 rfl (lv_at hl 3 rfl) ?_
  refine lv_iload_n hx hb dL_law_772 rfl (lv_at hl 0 rfl) ?_
  refine lv_iconst (v := 1) hx hb dL_law_773 (by decide) ?_
  refine lv_iadd hx hb dL_law_774 ?_
  refine va_sld hx hb hXs hbl hbA hz.2.2.2.1 hi1 dL_law_775 ?_
  refine lv_aload_n hx hb dL_law_776 rfl (lv_at hl 3 rfl) ?_
  refine lv_iload_n hx hb dL_law_777 rfl (lv_at hl 0 rfl) ?_
  refine lv_iconst (v := 2) hx hb dL_law_778 (by decide) ?_
  refine lv_iadd hx hb dL_law_779 ?_
  refine va_sld hx hb hXs hbl hbA hz.2.2.2.1 hi2 dL_law_780 ?_
  refine z2_mI (As := [.int (xs (x3 + 1).toNatClampNeg), .int (xs (x3 + 2).toNatClampNeg)]) (rest := [.int r]) C (c6_rate h2) lk_RL_117 ⟨rfl, rfl, Nat.le_of_ble_eq_true rfl, Nat.le_of_ble_eq_true rfl⟩ ⟨Nat.le_of_ble_eq_true rfl, Nat.le_of_ble_eq_true rfl⟩ o_model rfl rfl (Nat.le_of_ble_eq_true rfl) rfl hl.1 dL_law_781 hz (fun H locs hz => ?_)
  refine lv_icmp_eq (tgt := 872) hx hb dL_law_784 (by decide) (fun _ => ?_) (fun cn => absurd rfl cn)
  exact kk _ _ _ _ _ hr1 hz hl
set_option maxHeartbeats 4000000 in
theorem law_keep (hst : ∀ a0 : Int32, St Rel (f5_keep a0) (f6_keep a0)) (C : Cx p m c cL_law 4 s #[Value.ref b] RL D (tyL cI cZ cB)) (hXs : va_X b L xs s s.heap) (hbl : b < s.heap.size) {x3 : Int32} (hi1 : vp_in (x3 + 1) L)
    (kk : ∀ (gx gm : Sg) (H : Heap) (locs : List Loc) (ls : Array Slot), Rel gx gm → Z2 D (wX cI cZ cB hX) (wM cI cZ hM) (fun q : Nat => s.heap.size ≤ q) s.heap H locs gx gm → lv_has ls 4 [(3, .int x3), (2, .ref (hM 0)), (1, .ref (hX 134)), (0, .ref b)] → W p l e room_1 s m #[Value.ref b] below meth c H locs 131 1973 Q (F0 m 872 ls [])) :
    ∀ (gx gm : Sg) (H : Heap) (locs : List Loc) (ls : Array Slot), Rel gx gm → Z2 D (wX cI cZ cB hX) (wM cI cZ hM) (fun q : Nat => s.heap.size ≤ q) s.heap H locs gx gm → lv_has ls 4 [(3, .int x3), (2, .ref (hM 0)), (1, .ref (hX 134)), (0, .ref b)] → W p l e room_1 s m #[Value.ref b] below meth c H locs 131 1973 Q (F0 m 789 ls []) := by
  intro gx gm H locs ls hr hz hl
  have hx := C.1.1
  have hb := C.1.2.1
  have hbA : ¬ (fun q : Nat => s.heap.size ≤ q) b := Nat.not_le.mpr hbl
  obtain ⟨r, gx1, gm1, h1, h2, hr1⟩ := hst (xs (x3 + 1).toNatClampNeg) gx gm hr
  refine lv_aload_n hx hb dL_law_789 rfl (lv_at hl 2 rfl) ?_
  refine lv_aload_n hx hb dL_law_790 rfl (lv_at hl 3 rfl) ?_
  refine lv_iload_n hx hb dL_law_791 rfl (lv_at hl 0 rfl) ?_
  refine lv_iconst (v := 1) hx hb dL_law_792 (by decide) ?_
  refine lv_iadd hx hb dL_law_793 ?_
  refine va_sld hx hb hXs hbl hbA hz.2.2.2.1 hi1 dL_law_794 ?_
  refine z2_xI (As := [.int (xs (x3 + 1).toNatClampNeg)]) (rest := []) C (c5_keep h1) lk_RL_118 ⟨rfl, rfl, Nat.le_of_ble_eq_true rfl, Nat.le_of_ble_eq_true rfl⟩ ⟨Nat.le_of_ble_eq_true rfl, Nat.le_of_ble_eq_true rfl⟩ o_moss rfl rfl (Nat.le_of_ble_eq_true rfl) rfl hl.1 dL_law_795 hz (fun H locs hz => ?_)
  refine lv_aload_n hx hb dL_law_798 rfl (lv_at hl 1 rfl) ?_
  refine lv_aload_n hx hb dL_law_799 rfl (lv_at hl 3 rfl) ?_
  refine lv_iload_n hx hb dL_law_800 rfl (lv_at hl 0 rfl) ?_
  refine lv_iconst (v := 1) hx hb dL_law_801 (by decide) ?_
  refine lv_iadd hx hb dL_law_802 ?_
  refine va_sld hx hb hXs hbl hbA hz.2.2.2.1 hi1 dL_law_803 ?_
  refine z2_mI (As := [.int (xs (x3 + 1).toNatClampNeg)]) (rest := [.int r]) C (c6_keep h2) lk_RL_121 ⟨rfl, rfl, Nat.le_of_ble_eq_true rfl, Nat.le_of_ble_eq_true rfl⟩ ⟨Nat.le_of_ble_eq_true rfl, Nat.le_of_ble_eq_true rfl⟩ o_model rfl rfl (Nat.le_of_ble_eq_true rfl) rfl hl.1 dL_law_804 hz (fun H locs hz => ?_)
  refine lv_icmp_eq (tgt := 872) hx hb dL_law_807 (by decide) (fun _ => ?_) (fun cn => absurd rfl cn)
  exact kk _ _ _ _ _ hr1 hz hl
set_option maxHeartbeats 4000000 in
theorem law_back (hst : ∀ a0 : Int32, St Rel (f5_back a0) (f6_back a0)) (C : Cx p m c cL_law 4 s #[Value.ref b] RL D (tyL cI cZ cB)) (hXs : va_X b L xs s s.heap) (hbl : b < s.heap.size) {x3 : Int32} (hi1 : vp_in (x3 + 1) L)
    (kk : ∀ (gx gm : Sg) (H : Heap) (locs : List Loc) (ls : Array Slot), Rel gx gm → Z2 D (wX cI cZ cB hX) (wM cI cZ hM) (fun q : Nat => s.heap.size ≤ q) s.heap H locs gx gm → lv_has ls 4 [(3, .int x3), (2, .ref (hM 0)), (1, .ref (hX 134)), (0, .ref b)] → W p l e room_1 s m #[Value.ref b] below meth c H locs 131 1973 Q (F0 m 872 ls [])) :
    ∀ (gx gm : Sg) (H : Heap) (locs : List Loc) (ls : Array Slot), Rel gx gm → Z2 D (wX cI cZ cB hX) (wM cI cZ hM) (fun q : Nat => s.heap.size ≤ q) s.heap H locs gx gm → lv_has ls 4 [(3, .int x3), (2, .ref (hM 0)), (1, .ref (hX 134)), (0, .ref b)] → W p l e room_1 s m #[Value.ref b] below meth c H locs 131 1973 Q (F0 m 812 ls []) := by
  intro gx gm H locs ls hr hz hl
  have hx := C.1.1
  have hb := C.1.2.1
  have hbA : ¬ (fun q : Nat => s.heap.size ≤ q) b := Nat.not_le.mpr hbl
  obtain ⟨r, gx1, gm1, h1, h2, hr1⟩ := hst (xs (x3 + 1).toNatClampNeg) gx gm hr
  refine lv_aload_n hx hb dL_law_812 rfl (lv_at hl 2 rfl) ?_
  refine lv_aload_n hx hb dL_law_813 rfl (lv_at hl 3 rfl) ?_
  refine lv_iload_n hx hb dL_law_814 rfl (lv_at hl 0 rfl) ?_
  refine lv_iconst (v := 1) hx hb dL_law_815 (by decide) ?_
  refine lv_iadd hx hb dL_law_816 ?_
  refine va_sld hx hb hXs hbl hbA hz.2.2.2.1 hi1 dL_law_817 ?_
  refine z2_xI (As := [.int (xs (x3 + 1).toNatClampNeg)]) (rest := []) C (c5_back h1) lk_RL_122 ⟨rfl, rfl, Nat.le_of_ble_eq_true rfl, Nat.le_of_ble_eq_true rfl⟩ ⟨Nat.le_of_ble_eq_true rfl, Nat.le_of_ble_eq_true rfl⟩ o_moss rfl rfl (Nat.le_of_ble_eq_true rfl) rfl hl.1 dL_law_818 hz (fun H locs hz => ?_)
  refine lv_aload_n hx hb dL_law_821 rfl (lv_at hl 1 rfl) ?_
  refine lv_aload_n hx hb dL_law_822 rfl (lv_at hl 3 rfl) ?_
  refine lv_iload_n hx hb dL_law_823 rfl (lv_at hl 0 rfl) ?_
  refine lv_iconst (v := 1) hx hb dL_law_824 (by decide) ?_
  refine lv_iadd hx hb dL_law_825 ?_
  refine va_sld hx hb hXs hbl hbA hz.2.2.2.1 hi1 dL_law_826 ?_
  refine z2_mI (As := [.int (xs (x3 + 1).toNatClampNeg)]) (rest := [.int r]) C (c6_back h2) lk_RL_125 ⟨rfl, rfl, Nat.le_of_ble_eq_true rfl, Nat.le_of_ble_eq_true rfl⟩ ⟨Nat.le_of_ble_eq_true rfl, Nat.le_of_ble_eq_true rfl⟩ o_model rfl rfl (Nat.le_of_ble_eq_true rfl) rfl hl.1 dL_law_827 hz (fun H locs hz => ?_)
  refine lv_icmp_eq (tgt := 872) hx hb dL_law_830 (by decide) (fun _ => ?_) (fun cn => absurd rfl cn)
  exact kk _ _ _ _ _ hr1 hz hl
set_option maxHeartbeats 4000000 in
theorem law_count (hst : ∀ a0 : Int32, St Rel (f5_count a0) (f6_count a0)) (C : Cx p m c cL_law 4 s #[Value.ref b] RL D (tyL cI cZ cB)) (hXs : va_X b L xs s s.heap) (hbl : b < s.heap.size) {x3 : Int32} (hi1 : vp_in (x3 + 1) L)
    (kk : ∀ (gx gm : Sg) (H : Heap) (locs : List Loc) (ls : Array Slot), Rel gx gm → Z2 D (wX cI cZ cB hX) (wM cI cZ hM) (fun q : Nat => s.heap.size ≤ q) s.heap H locs gx gm → lv_has ls 4 [(3, .int x3), (2, .ref (hM 0)), (1, .ref (hX 134)), (0, .ref b)] → W p l e room_1 s m #[Value.ref b] below meth c H locs 131 1973 Q (F0 m 872 ls [])) :
    ∀ (gx gm : Sg) (H : Heap) (locs : List Loc) (ls : Array Slot), Rel gx gm → Z2 D (wX cI cZ cB hX) (wM cI cZ hM) (fun q : Nat => s.heap.size ≤ q) s.heap H locs gx gm → lv_has ls 4 [(3, .int x3), (2, .ref (hM 0)), (1, .ref (hX 134)), (0, .ref b)] → W p l e room_1 s m #[Value.ref b] below meth c H locs 131 1973 Q (F0 m 835 ls []) := by
  intro gx gm H locs ls hr hz hl
  have hx := C.1.1
  have hb := C.1.2.1
  have hbA : ¬ (fun q : Nat => s.heap.size ≤ q) b := Nat.not_le.mpr hbl
  obtain ⟨r, gx1, gm1, h1, h2, hr1⟩ := hst (xs (x3 + 1).toNatClampNeg) gx gm hr
  refine lv_aload_n hx hb dL_law_835 rfl (lv_at hl 2 rfl) ?_
  refine lv_aload_n hx hb dL_law_836 rfl (lv_at hl 3 rfl) ?_
  refine lv_iload_n hx hb dL_law_837 rfl (lv_at hl 0 rfl) ?_
  refine lv_iconst (v := 1) hx hb dL_law_838 (by decide) ?_
  refine lv_iadd hx hb dL_law_839 ?_
  refine va_sld hx hb hXs hbl hbA hz.2.2.2.1 hi1 dL_law_840 ?_
  refine z2_xI (As := [.int (xs (x3 + 1).toNatClampNeg)]) (rest := []) C (c5_count h1) lk_RL_126 ⟨rfl, rfl, Nat.le_of_ble_eq_true rfl, Nat.le_of_ble_eq_true rfl⟩ ⟨Nat.le_of_ble_eq_true rfl, Nat.le_of_ble_eq_true rfl⟩ o_moss rfl rfl (Nat.le_of_ble_eq_true rfl) rfl hl.1 dL_law_841 hz (fun H locs hz => ?_)
  refine lv_aload_n hx hb dL_law_844 rfl (lv_at hl 1 rfl) ?_
  refine lv_aload_n hx hb dL_law_845 rfl (lv_at hl 3 rfl) ?_
  refine lv_iload_n hx hb dL_law_846 rfl (lv_at hl 0 rfl) ?_
  refine lv_iconst (v := 1) hx hb dL_law_847 (by decide) ?_
  refine lv_iadd hx hb dL_law_848 ?_
  refine va_sld hx hb hXs hbl hbA hz.2.2.2.1 hi1 dL_law_849 ?_
  refine z2_mI (As := [.int (xs (x3 + 1).toNatClampNeg)]) (rest := [.int r]) C (c6_count h2) lk_RL_129 ⟨rfl, rfl, Nat.le_of_ble_eq_true rfl, Nat.le_of_ble_eq_true rfl⟩ ⟨Nat.le_of_ble_eq_true rfl, Nat.le_of_ble_eq_true rfl⟩ o_model rfl rfl (Nat.le_of_ble_eq_true rfl) rfl hl.1 dL_law_850 hz (fun H locs hz => ?_)
  refine lv_icmp_eq (tgt := 872) hx hb dL_law_853 (by decide) (fun _ => ?_) (fun cn => absurd rfl cn)
  exact kk _ _ _ _ _ hr1 hz hl
set_option maxHeartbeats 4000000 in
theorem law_trace (hst : StL Rel (f5_trace) (f6_trace)) (C : Cx p m c cL_law 4 s #[Value.ref b] RL D (tyL cI cZ cB)) (hXs : va_X b L xs s s.heap) (hbl : b < s.heap.size) {x3 : Int32}
    (kk : ∀ (gx gm : Sg) (H : Heap) (locs : List Loc) (ls : Array Slot), Rel gx gm → Z2 D (wX cI cZ cB hX) (wM cI cZ hM) (fun q : Nat => s.heap.size ≤ q) s.heap H locs gx gm → lv_has ls 4 [(3, .int x3), (2, .ref (hM 0)), (1, .ref (hX 134)), (0, .ref b)] → W p l e room_1 s m #[Value.ref b] below meth c H locs 131 1973 Q (F0 m 872 ls [])) :
    ∀ (gx gm : Sg) (H : Heap) (locs : List Loc) (ls : Array Slot), Rel gx gm → Z2 D (wX cI cZ cB hX) (wM cI cZ hM) (fun q : Nat => s.heap.size ≤ q) s.heap H locs gx gm → lv_has ls 4 [(3, .int x3), (2, .ref (hM 0)), (1, .ref (hX 134)), (0, .ref b)] → W p l e room_1 s m #[Value.ref b] below meth c H locs 131 1973 Q (F0 m 858 ls []) := by
  intro gx gm H locs ls hr hz hl
  have hx := C.1.1
  have hb := C.1.2.1
  have hbA : ¬ (fun q : Nat => s.heap.size ≤ q) b := Nat.not_le.mpr hbl
  obtain ⟨r, gx1, gm1, h1, h2, hr1⟩ := hst gx gm hr
  refine lv_aload_n hx hb dL_law_858 rfl (lv_at hl 2 rfl) ?_
  refine z2_xL (As := []) (rest := []) C (c5_trace h1) lk_RL_130 ⟨rfl, rfl, Nat.le_of_ble_eq_true rfl, Nat.le_of_ble_eq_true rfl⟩ ⟨Nat.le_of_ble_eq_true rfl, Nat.le_of_ble_eq_true rfl⟩ o_moss rfl rfl (Nat.le_of_ble_eq_true rfl) rfl hl.1 dL_law_859 hz (fun H locs hz => ?_)
  refine lv_aload_n hx hb dL_law_862 rfl (lv_at hl 1 rfl) ?_
  refine z2_mL (As := []) (rest := [.long r]) C (c6_trace h2) lk_RL_134 ⟨rfl, rfl, Nat.le_of_ble_eq_true rfl, Nat.le_of_ble_eq_true rfl⟩ ⟨Nat.le_of_ble_eq_true rfl, Nat.le_of_ble_eq_true rfl⟩ o_model rfl rfl (Nat.le_of_ble_eq_true rfl) rfl hl.1 dL_law_863 hz (fun H locs hz => ?_)
  refine W.lcmp hx hb dL_law_866 ?_
  refine lv_if_eq (tgt := 872) hx hb dL_law_867 (by decide) (fun _ => ?_) (fun cn => absurd (lcmp_self _) cn)
  exact kk _ _ _ _ _ hr1 hz hl
set_option maxHeartbeats 4000000 in
theorem law_loop (hR : RelOk Rel) (C : Cx p m c cL_law 4 s #[Value.ref b] RL D (tyL cI cZ cB)) (hXs : va_X b L xs s s.heap) (hbl : b < s.heap.size) (hL : L ≤ 2560)
    (hend : ∀ (H : Heap) (locs : List Loc) (ls : Array Slot), va_S (fun q : Nat => s.heap.size ≤ q) s.heap H locs → W p l e room_1 s m #[Value.ref b] below meth c H locs 131 1973 Q (F0 m 878 ls [])) :
    ∀ (n i : Nat) (x3 : Int32), L + 1 ≤ n + i → x3 = nI i → i ≤ 2560 + 5 → ∀ (gx gm : Sg) (H : Heap) (locs : List Loc) (ls : Array Slot), Rel gx gm → Z2 D (wX cI cZ cB hX) (wM cI cZ hM) (fun q : Nat => s.heap.size ≤ q) s.heap H locs gx gm → lv_has ls 4 [(3, .int x3), (2, .ref (hM 0)), (1, .ref (hX 134)), (0, .ref b)] → W p l e room_1 s m #[Value.ref b] below meth c H locs 131 1973 Q (F0 m 18 ls []) := by
  have hx := C.1.1
  have hb := C.1.2.1
  have hbA : ¬ (fun q : Nat => s.heap.size ≤ q) b := Nat.not_le.mpr hbl
  intro n
  induction n with
  | zero =>
    intro i x3 hn ex3 hi gx gm H locs ls hr hz hl
    refine lv_iload_n hx hb dL_law_18 rfl (lv_at hl 0 rfl) ?_
    refine lv_aload_n hx hb dL_law_19 rfl (lv_at hl 3 rfl) ?_
    refine va_slen hx hb hXs hbl hbA hz.2.2.2.1 dL_law_20 ?_
    refine lv_iconst (v := 5) hx hb dL_law_21 (by decide) ?_
    refine lv_isub hx hb dL_law_22 ?_
    refine lv_icmp_gt (tgt := 878) hx hb dL_law_23 (by decide) (fun cn => hend _ _ _ hz.2.2.2.1) (fun cn => ?_)
    exact absurd (by rw [ex3]; exact lt_sub5 hL hi (by omega)) cn
  | succ n ih =>
    intro i x3 hn ex3 hi gx gm H locs ls hr hz hl
    refine lv_iload_n hx hb dL_law_18 rfl (lv_at hl 0 rfl) ?_
    refine lv_aload_n hx hb dL_law_19 rfl (lv_at hl 3 rfl) ?_
    refine va_slen hx hb hXs hbl hbA hz.2.2.2.1 dL_law_20 ?_
    refine lv_iconst (v := 5) hx hb dL_law_21 (by decide) ?_
    refine lv_isub hx hb dL_law_22 ?_
    refine lv_icmp_gt (tgt := 878) hx hb dL_law_23 (by decide) (fun cn => hend _ _ _ hz.2.2.2.1) (fun cn => ?_)
    have hlt : i + 5 ≤ L := by
      rcases Nat.lt_or_ge L (i + 5) with q | q
      · exact absurd (by rw [ex3]; exact lt_sub5 hL hi q) cn
      · exact q
    have hi0 : vp_in x3 L := by rw [ex3]; exact vp_in_nI (by omega) (by omega)
    have hi1 : vp_in (x3 + 1) L := by rw [ex3, show (nI i + 1 : Int32) = nI (i + 1) from nI_add i 1]; exact vp_in_nI (by omega) (by omega)
    have hi2 : vp_in (x3 + 2) L := by rw [ex3, show (nI i + 2 : Int32) = nI (i + 2) from nI_add i 2]; exact vp_in_nI (by omega) (by omega)
    have hi3 : vp_in (x3 + 3) L := by rw [ex3, show (nI i + 3 : Int32) = nI (i + 3) from nI_add i 3]; exact vp_in_nI (by omega) (by omega)
    have hi4 : vp_in (x3 + 4) L := by rw [ex3, show (nI i + 4 : Int32) = nI (i + 4) from nI_add i 4]; exact vp_in_nI (by omega) (by omega)
    have hnext : ∀ (gx gm : Sg) (H : Heap) (locs : List Loc) (ls : Array Slot), Rel gx gm → Z2 D (wX cI cZ cB hX) (wM cI cZ hM) (fun q : Nat => s.heap.size ≤ q) s.heap H locs gx gm → lv_has ls 4 [(3, .int x3), (2, .ref (hM 0)), (1, .ref (hX 134)), (0, .ref b)] → W p l e room_1 s m #[Value.ref b] below meth c H locs 131 1973 Q (F0 m 872 ls []) := by
      intro gx gm H locs ls hr hz hl
      obtain ⟨y3, ey3⟩ : ∃ y3 : Int32, y3 = x3 + 5 := ⟨_, rfl⟩
      refine lv_iinc (v := y3) (lv' := [(3, .int y3), (2, .ref (hM 0)), (1, .ref (hX 134)), (0, .ref b)]) hx hb dL_law_872 hl (k := 0) rfl (by rw [ey3]; rfl) (by decide) rfl (fun ls hl => ?_)
      refine lv_goto (tgt := 18) hx hb dL_law_875 (by decide) ?_
      exact ih (i + 5) y3 (by omega) (by rw [ey3, ex3]; exact nI_add i 5) (by omega) gx gm H locs ls hr hz hl
    refine lv_aload_n hx hb dL_law_26 rfl (lv_at hl 3 rfl) ?_
    refine lv_iload_n hx hb dL_law_27 rfl (lv_at hl 0 rfl) ?_
    refine va_sld hx hb hXs hbl hbA hz.2.2.2.1 hi0 dL_law_28 ?_
    refine lv_bipush (v := 31) hx hb dL_law_29 (by decide) ?_
    refine lv_iand hx hb dL_law_31 ?_
    refine lv_topi (fun w ew => ?_)
    by_cases c0 : w = (0 : Int32)
    · refine lv_tableIn (off := 132) (tgt := 164) hx hb dL_law_32 (by rw [c0]; decide) (by rw [c0]; decide) (by rw [c0]; decide) (by decide) ?_
      exact law_type hR.1 C hXs hbl hi1 hnext gx gm H locs ls hr hz hl
    by_cases c1 : w = (1 : Int32)
    · refine lv_tableIn (off := 155) (tgt := 187) hx hb dL_law_32 (by rw [c1]; decide) (by rw [c1]; decide) (by rw [c1]; decide) (by decide) ?_
      exact law_clear hR.2.1 C hXs hbl hnext gx gm H locs ls hr hz hl
    by_cases c2 : w = (2 : Int32)
    · refine lv_tableIn (off := 168) (tgt := 200) hx hb dL_law_32 (by rw [c2]; decide) (by rw [c2]; decide) (by rw [c2]; decide) (by decide) ?_
      exact law_moss hR.2.2.1 C hXs hbl hnext gx gm H locs ls hr hz hl
    by_cases c3 : w = (3 : Int32)
    · refine lv_tableIn (off := 181) (tgt := 213) hx hb dL_law_32 (by rw [c3]; decide) (by rw [c3]; decide) (by rw [c3]; decide) (by decide) ?_
      exact law_person hR.2.2.2.1 C hXs hbl hi1 hi2 hnext gx gm H locs ls hr hz hl
    by_cases c4 : w = (4 : Int32)
    · refine lv_tableIn (off := 214) (tgt := 246) hx hb dL_law_32 (by rw [c4]; decide) (by rw [c4]; decide) (by rw [c4]; decide) (by decide) ?_
      exact law_promise hR.2.2.2.2.1 C hXs hbl hi1 hi2 hnext gx gm H locs ls hr hz hl
    by_cases c5 : w = (5 : Int32)
    · refine lv_tableIn (off := 247) (tgt := 279) hx hb dL_law_32 (by rw [c5]; decide) (by rw [c5]; decide) (by rw [c5]; decide) (by decide) ?_
      exact law_word hR.2.2.2.2.2.1 C hXs hbl hi1 hi2 hnext gx gm H locs ls hr hz hl
    by_cases c6 : w = (6 : Int32)
    · refine lv_tableIn (off := 280) (tgt := 312) hx hb dL_law_32 (by rw [c6]; decide) (by rw [c6]; decide) (by rw [c6]; decide) (by decide) ?_
      exact law_cell hR.2.2.2.2.2.2.1 C hXs hbl hi1 hi2 hnext gx gm H locs ls hr hz hl
    by_cases c7 : w = (7 : Int32)
    · refine lv_tableIn (off := 313) (tgt := 345) hx hb dL_law_32 (by rw [c7]; decide) (by rw [c7]; decide) (by rw [c7]; decide) (by decide) ?_
      exact law_now hR.2.2.2.2.2.2.2.1 C hXs hbl hi1 hnext gx gm H locs ls hr hz hl
    by_cases c8 : w = (8 : Int32)
    · refine lv_tableIn (off := 336) (tgt := 368) hx hb dL_law_32 (by rw [c8]; decide) (by rw [c8]; decide) (by rw [c8]; decide) (by decide) ?_
      exact law_cuts hR.2.2.2.2.2.2.2.2.1 C hXs hbl hi1 hnext gx gm H locs ls hr hz hl
    by_cases c9 : w = (9 : Int32)
    · refine lv_tableIn (off := 359) (tgt := 391) hx hb dL_law_32 (by rw [c9]; decide) (by rw [c9]; decide) (by rw [c9]; decide) (by decide) ?_
      exact law_drains hR.2.2.2.2.2.2.2.2.2.1 C hXs hbl hi1 hnext gx gm H locs ls hr hz hl
    by_cases c10 : w = (10 : Int32)
    · refine lv_tableIn (off := 382) (tgt := 414) hx hb dL_law_32 (by rw [c10]; decide) (by rw [c10]; decide) (by rw [c10]; decide) (by decide) ?_
      exact law_does hR.2.2.2.2.2.2.2.2.2.2.1 C hXs hbl hi1 hnext gx gm H locs ls hr hz hl
    by_cases c11 : w = (11 : Int32)
    · refine lv_tableIn (off := 405) (tgt := 437) hx hb dL_law_32 (by rw [c11]; decide) (by rw [c11]; decide) (by rw [c11]; decide) (by decide) ?_
      exact law_year hR.2.2.2.2.2.2.2.2.2.2.2.1 C hXs hbl hnext gx gm H locs ls hr hz hl
    by_cases c12 : w = (12 : Int32)
    · refine lv_tableIn (off := 418) (tgt := 450) hx hb dL_law_32 (by rw [c12]; decide) (by rw [c12]; decide) (by rw [c12]; decide) (by decide) ?_
      exact law_undo hR.2.2.2.2.2.2.2.2.2.2.2.2.1 C hXs hbl hnext gx gm H locs ls hr hz hl
    by_cases c13 : w = (13 : Int32)
    · refine lv_tableIn (off := 431) (tgt := 463) hx hb dL_law_32 (by rw [c13]; decide) (by rw [c13]; decide) (by rw [c13]; decide) (by decide) ?_
      exact law_left hR.2.2.2.2.2.2.2.2.2.2.2.2.2.1 C hXs hbl hi1 hi2 hnext gx gm H locs ls hr hz hl
    by_cases c14 : w = (14 : Int32)
    · refine lv_tableIn (off := 464) (tgt := 496) hx hb dL_law_32 (by rw [c14]; decide) (by rw [c14]; decide) (by rw [c14]; decide) (by decide) ?_
      exact law_lasts hR.2.2.2.2.2.2.2.2.2.2.2.2.2.2.1 C hXs hbl hi1 hi2 hi3 hnext gx gm H locs ls hr hz hl
    by_cases c15 : w = (15 : Int32)
    · refine lv_tableIn (off := 507) (tgt := 539) hx hb dL_law_32 (by rw [c15]; decide) (by rw [c15]; decide) (by rw [c15]; decide) (by decide) ?_
      exact law_duty hR.2.2.2.2.2.2.2.2.2.2.2.2.2.2.2.1 C hXs hbl hi1 hi2 hnext gx gm H locs ls hr hz hl
    by_cases c16 : w = (16 : Int32)
    · refine lv_tableIn (off := 540) (tgt := 572) hx hb dL_law_32 (by rw [c16]; decide) (by rw [c16]; decide) (by rw [c16]; decide) (by decide) ?_
      exact law_sees hR.2.2.2.2.2.2.2.2.2.2.2.2.2.2.2.2.1 C hXs hbl hi1 hnext gx gm H locs ls hr hz hl
    by_cases c17 : w = (17 : Int32)
    · refine lv_tableIn (off := 563) (tgt := 595) hx hb dL_law_32 (by rw [c17]; decide) (by rw [c17]; decide) (by rw [c17]; decide) (by decide) ?_
      exact law_forget hR.2.2.2.2.2.2.2.2.2.2.2.2.2.2.2.2.2.1 C hXs hbl hnext gx gm H locs ls hr hz hl
    by_cases c18 : w = (18 : Int32)
    · refine lv_tableIn (off := 576) (tgt := 608) hx hb dL_law_32 (by rw [c18]; decide) (by rw [c18]; decide) (by rw [c18]; decide) (by decide) ?_
      exact law_fits hR.2.2.2.2.2.2.2.2.2.2.2.2.2.2.2.2.2.2.1 C hXs hbl hnext gx gm H locs ls hr hz hl
    by_cases c19 : w = (19 : Int32)
    · refine lv_tableIn (off := 589) (tgt := 621) hx hb dL_law_32 (by rw [c19]; decide) (by rw [c19]; decide) (by rw [c19]; decide) (by decide) ?_
      exact law_likely hR.2.2.2.2.2.2.2.2.2.2.2.2.2.2.2.2.2.2.2.1 C hXs hbl hnext gx gm H locs ls hr hz hl
    by_cases c20 : w = (20 : Int32)
    · refine lv_tableIn (off := 602) (tgt := 634) hx hb dL_law_32 (by rw [c20]; decide) (by rw [c20]; decide) (by rw [c20]; decide) (by decide) ?_
      exact law_kept hR.2.2.2.2.2.2.2.2.2.2.2.2.2.2.2.2.2.2.2.2.1 C hXs hbl hi1 hnext gx gm H locs ls hr hz hl
    by_cases c21 : w = (21 : Int32)
    · refine lv_tableIn (off := 625) (tgt := 657) hx hb dL_law_32 (by rw [c21]; decide) (by rw [c21]; decide) (by rw [c21]; decide) (by decide) ?_
      exact law_order hR.2.2.2.2.2.2.2.2.2.2.2.2.2.2.2.2.2.2.2.2.2.1 C hXs hbl hi1 hnext gx gm H locs ls hr hz hl
    by_cases c22 : w = (22 : Int32)
    · refine lv_tableIn (off := 648) (tgt := 680) hx hb dL_law_32 (by rw [c22]; decide) (by rw [c22]; decide) (by rw [c22]; decide) (by decide) ?_
      exact law_drain hR.2.2.2.2.2.2.2.2.2.2.2.2.2.2.2.2.2.2.2.2.2.2.1 C hXs hbl hi1 hnext gx gm H locs ls hr hz hl
    by_cases c23 : w = (23 : Int32)
    · refine lv_tableIn (off := 671) (tgt := 703) hx hb dL_law_32 (by rw [c23]; decide) (by rw [c23]; decide) (by rw [c23]; decide) (by decide) ?_
      exact law_odds hR.2.2.2.2.2.2.2.2.2.2.2.2.2.2.2.2.2.2.2.2.2.2.2.1 C hXs hbl hi1 hi2 hi3 hi4 hnext gx gm H locs ls hr hz hl
    by_cases c24 : w = (24 : Int32)
    · refine lv_tableIn (off := 724) (tgt := 756) hx hb dL_law_32 (by rw [c24]; decide) (by rw [c24]; decide) (by rw [c24]; decide) (by decide) ?_
      exact law_rate hR.2.2.2.2.2.2.2.2.2.2.2.2.2.2.2.2.2.2.2.2.2.2.2.2.1 C hXs hbl hi1 hi2 hnext gx gm H locs ls hr hz hl
    by_cases c25 : w = (25 : Int32)
    · refine lv_tableIn (off := 757) (tgt := 789) hx hb dL_law_32 (by rw [c25]; decide) (by rw [c25]; decide) (by rw [c25]; decide) (by decide) ?_
      exact law_keep hR.2.2.2.2.2.2.2.2.2.2.2.2.2.2.2.2.2.2.2.2.2.2.2.2.2.1 C hXs hbl hi1 hnext gx gm H locs ls hr hz hl
    by_cases c26 : w = (26 : Int32)
    · refine lv_tableIn (off := 780) (tgt := 812) hx hb dL_law_32 (by rw [c26]; decide) (by rw [c26]; decide) (by rw [c26]; decide) (by decide) ?_
      exact law_back hR.2.2.2.2.2.2.2.2.2.2.2.2.2.2.2.2.2.2.2.2.2.2.2.2.2.2.1 C hXs hbl hi1 hnext gx gm H locs ls hr hz hl
    by_cases c27 : w = (27 : Int32)
    · refine lv_tableIn (off := 803) (tgt := 835) hx hb dL_law_32 (by rw [c27]; decide) (by rw [c27]; decide) (by rw [c27]; decide) (by decide) ?_
      exact law_count hR.2.2.2.2.2.2.2.2.2.2.2.2.2.2.2.2.2.2.2.2.2.2.2.2.2.2.2.1 C hXs hbl hi1 hnext gx gm H locs ls hr hz hl
    by_cases c28 : w = (28 : Int32)
    · refine lv_tableIn (off := 826) (tgt := 858) hx hb dL_law_32 (by rw [c28]; decide) (by rw [c28]; decide) (by rw [c28]; decide) (by decide) ?_
      exact law_trace hR.2.2.2.2.2.2.2.2.2.2.2.2.2.2.2.2.2.2.2.2.2.2.2.2.2.2.2.2 C hXs hbl hnext gx gm H locs ls hr hz hl
    refine lv_tableOut (tgt := 872) hx hb dL_law_32 (by have h0 := lv_neT c0 (a := 0) rfl; have h1 := lv_neT c1 (a := 1) rfl; have h2 := lv_neT c2 (a := 2) rfl; have h3 := lv_neT c3 (a := 3) rfl; have h4 := lv_neT c4 (a := 4) rfl; have h5 := lv_neT c5 (a := 5) rfl; have h6 := lv_neT c6 (a := 6) rfl; have h7 := lv_neT c7 (a := 7) rfl; have h8 := lv_neT c8 (a := 8) rfl; have h9 := lv_neT c9 (a := 9) rfl; have h10 := lv_neT c10 (a := 10) rfl; have h11 := lv_neT c11 (a := 11) rfl; have h12 := lv_neT c12 (a := 12) rfl; have h13 := lv_neT c13 (a := 13) rfl; have h14 := lv_neT c14 (a := 14) rfl; have h15 := lv_neT c15 (a := 15) rfl; have h16 := lv_neT c16 (a := 16) rfl; have h17 := lv_neT c17 (a := 17) rfl; have h18 := lv_neT c18 (a := 18) rfl; have h19 := lv_neT c19 (a := 19) rfl; have h20 := lv_neT c20 (a := 20) rfl; have h21 := lv_neT c21 (a := 21) rfl; have h22 := lv_neT c22 (a := 22) rfl; have h23 := lv_neT c23 (a := 23) rfl; have h24 := lv_neT c24 (a := 24) rfl; have h25 := lv_neT c25 (a := 25) rfl; have h26 := lv_neT c26 (a := 26) rfl; have h27 := lv_neT c27 (a := 27) rfl; have h28 := lv_neT c28 (a := 28) rfl; omega) (by decide) ?_
    exact hnext gx gm H locs ls hr hz hl
end LAW
