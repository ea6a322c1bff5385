/-! ===== CONSTRUCTORS ===== -/
def NW (U : State) : Prop := va_Nw (.methodLinkNest RX5 9 yX2_init RX5) U ∧ va_Nw (.methodLinkNest RX2 11 yX3_init RX5) U ∧ va_Nw (.methodLinkNest RX2 20 yX4_init RX5) U ∧ va_Nw (.methodLinkNest RX5 18 yX4_init RX5) U ∧ va_Nw (.methodLinkNest RX5 25 yX0_init RX5) U ∧ va_Nw (.methodLinkNest RX1 24 yX0_init RX5) U ∧ va_AO RX0 U
theorem NW.warm {s U : State} (hW : s.WarmedH U.vm) (h : NW s) : NW U := ⟨va_Nw.warmM hW h.1, va_Nw.warmM hW h.2.1, va_Nw.warmM hW h.2.2.1, va_Nw.warmM hW h.2.2.2.1, va_Nw.warmM hW h.2.2.2.2.1, va_Nw.warmM hW h.2.2.2.2.2.1, va_AO.moved hW.alike h.2.2.2.2.2.2⟩
theorem NW.same {s U : State} (e : s.vm = U.vm) (h : NW s) : NW U := ⟨va_Nw.same rfl e h.1, va_Nw.same rfl e h.2.1, va_Nw.same rfl e h.2.2.1, va_Nw.same rfl e h.2.2.2.1, va_Nw.same rfl e h.2.2.2.2.1, va_Nw.same rfl e h.2.2.2.2.2.1, va_AO.moved (by rw [e]; exact Vm.Alike.refl _) h.2.2.2.2.2.2⟩
/-- a constructor's contract: from a blank object (class ci, fields fs0) at h0 to the world post h0 a -/
def KCp (D : va_G) (tys : List (ClassId × FieldType)) (ci : Nat) (fs0 : List Value) (h0 sz : Nat) : State → Prop := fun U => U.heap.size = sz ∧ va_P D vwCl [(h0, .inr (ci, fs0))] U.heap ∧ va_K D vwCl tys U ∧ va_D (fun _ => True) [(h0, .inr (ci, fs0))] ∧ NW U
def KC {S : Type} (l : Launch) (D : va_G) (tys : List (ClassId × FieldType)) (y : MethodName) (cc : ByteArray) (nL : Nat) (rm : Room) (ci : Nat) (fs0 : List Value) (ok : Nat → S → Prop) (post : Nat → S → va_W) (mc ms : Nat) : Prop :=
  ∀ h0 sz : Nat, Met l y (Cond.code y cc nL none :: wsA) rm (va_Pc [.ref h0] (KCp D tys ci fs0 h0 sz)) (va_Qv (fun a => ok h0 a) (fun a t => va_P D vwCl (post h0 a) t.heap ∧ va_K D vwCl tys t ∧ va_D (va_A [(h0, .inr (ci, fs0))] sz) (post h0 a)) (va_A [(h0, .inr (ci, fs0))] sz)) mc ms (va_A [(h0, .inr (ci, fs0))] sz)
theorem KCp_blind {D : va_G} {tys : List (ClassId × FieldType)} {ci : Nat} {fs0 : List Value} {h0 sz : Nat} {av : List Value} : FrameBlind (va_Pc av (KCp D tys ci fs0 h0 sz)) := fun a U gg mk q => by
  obtain ⟨q0, q1, qP, qK, qD, qN⟩ := q
  exact ⟨q0, q1, qP, va_K.moved (u := U) (U := U.calling gg mk a) (Vm.Alike.refl U.vm) qK, qD, qN.same rfl⟩
/-- behind a call: what stood ahead of the callee's cells still stands -/
theorem grow {A0 : Nat → Prop} {D : va_G} {cl : List vw_C} {ws wc w1 : va_W} {H H1 : Heap} (hP : va_P D cl ws H) (hD : va_D A0 (ws ++ wc))
    (hk : ∀ q : Nat, q < H.size → ¬ va_A wc H.size q → H1[q]? = H[q]?) (hF : ∀ q, va_A wc H.size q → A0 q) (hP1 : va_P D cl w1 H1) (hD1 : va_D (va_A wc H.size) w1) : va_P D cl ws H1 ∧ va_P D cl (ws ++ w1) H1 ∧ va_D A0 (ws ++ w1) := by
  have apart : ∀ (k : Nat) (q : Nat × va_E), ws[k]? = some q → q.1 < H.size ∧ ¬ va_A wc H.size q.1 := by
    intro k q hq
    have hl := (hP k q hq).lt
    refine ⟨hl, fun h => ?_⟩
    have hkl : k < ws.length := (List.getElem?_eq_some_iff.mp hq).1
    have hq' : (ws ++ wc)[k]? = some q := by rw [List.getElem?_append_left hkl]; exact hq
    rcases h with ⟨k2, e, h⟩ | h
    · have h2 : (ws ++ wc)[ws.length + k2]? = some (q.1, e) := by
        rw [List.getElem?_append_right (by omega), Nat.add_sub_cancel_left]; exact h
      have hij := hD.1 k (ws.length + k2) q (q.1, e) hq' h2 rfl
      omega
    · omega
  have hPw : va_P D cl ws H1 := hP.kept (fun k q hq => hk q.1 (apart k q hq).1 (apart k q hq).2)
  have hDw : va_D A0 ws := ⟨fun i j p q hi hj he => hD.1 i j p q (by rw [List.getElem?_append_left (List.getElem?_eq_some_iff.mp hi).1]; exact hi) (by rw [List.getElem?_append_left (List.getElem?_eq_some_iff.mp hj).1]; exact hj) he, fun k q hq => hD.2 k q (by rw [List.getElem?_append_left (List.getElem?_eq_some_iff.mp hq).1]; exact hq)⟩
  refine ⟨hPw, hPw.app hP1, hDw.app (hD1.weaken (fun k q _ h => hF q.1 h)) (fun i j x y hx hy hxy => ?_)⟩
  exact (apart i x hx).2 (by rw [hxy]; exact hD1.2 j y hy)
theorem D_free {A0 : Nat → Prop} {ws wc : va_W} {H0 H : Heap} {locs : List Loc} (hD : va_D A0 (ws ++ wc)) (hS : va_S A0 H0 H locs) (hA : ∀ q, H0.size ≤ q → A0 q) : ∀ q, va_A wc H.size q → A0 q := by
  intro q h
  rcases h with ⟨k, e, h⟩ | h
  · refine hD.2 (ws.length + k) (q, e) ?_
    rw [List.getElem?_append_right (by omega), Nat.add_sub_cancel_left]; exact h
  · exact hA q (Nat.le_trans hS.1 h)
theorem P_one {D : va_G} {cl : List vw_C} {ws wc : va_W} {H : Heap} (h : va_P D cl (ws ++ wc) H) : va_P D cl wc H := fun k q hk => h (ws.length + k) q (by rw [List.getElem?_append_right (by omega), Nat.add_sub_cancel_left]; exact hk)
theorem P_left {D : va_G} {cl : List vw_C} {ws wc : va_W} {H : Heap} (h : va_P D cl (ws ++ wc) H) : va_P D cl ws H := fun k q hk => h k q (by rw [List.getElem?_append_left (List.getElem?_eq_some_iff.mp hk).1]; exact hk)
theorem D_right {A : Nat → Prop} {ws wc : va_W} (h : va_D A (ws ++ wc)) : va_D A wc := by
  have e : ∀ k : Nat, (ws ++ wc)[ws.length + k]? = wc[k]? := fun k => by rw [List.getElem?_append_right (by omega), Nat.add_sub_cancel_left]
  refine ⟨fun i j p q hi hj he => ?_, fun k q hk => h.2 (ws.length + k) q (by rw [e]; exact hk)⟩
  have := h.1 (ws.length + i) (ws.length + j) p q (by rw [e]; exact hi) (by rw [e]; exact hj) he
  omega
theorem D_left {A : Nat → Prop} {ws wc : va_W} (h : va_D A (ws ++ wc)) : va_D A ws := by
  have e : ∀ (k : Nat) (q : Nat × va_E), ws[k]? = some q → (ws ++ wc)[k]? = some q := fun k q hk => by rw [List.getElem?_append_left (List.getElem?_eq_some_iff.mp hk).1]; exact hk
  exact ⟨fun i j p q hi hj he => h.1 i j p q (e i p hi) (e j q hj) he, fun k q hk => h.2 k q (e k q hk)⟩
theorem D_swap {A : Nat → Prop} {ws wc : va_W} (h : va_D A (ws ++ wc)) : va_D A (wc ++ ws) := by
  refine (D_right h).app (D_left h) (fun i j x y hx hy hxy => ?_)
  have h1 : (ws ++ wc)[ws.length + i]? = some x := by rw [List.getElem?_append_right (by omega), Nat.add_sub_cancel_left]; exact hx
  have hj := (List.getElem?_eq_some_iff.mp hy).1
  have h2 : (ws ++ wc)[j]? = some y := by rw [List.getElem?_append_left hj]; exact hy
  have := h.1 _ _ x y h1 h2 hxy
  omega
section CT
variable {p : Program} {l : Launch} {e : Env} {R : Room} {s : State} {m : MethodId} {args : Array Value} {below : List Frame} {meth : Method} {c : Code} {H : Heap} {locs : List Loc} {cells slots : Nat} {Q : State → Prop}
variable {cc : ByteArray} {nL : Nat} {own : String} {D : va_G} {cI cZ cB : ClassId} {A : Nat → Prop} {H0 : Heap} {pc : Nat} {ls : Array Slot} {rest : List Value} {ws : va_W}
/-- new C; dup; C() of a nest mate, private -/
theorem z_mkN {S : Type} {y : MethodName} {bytes : ByteArray} {maxL i1 i2 ci N mc ms c2 s2 : Nat} {rm : Room} {Cn host : String} {T : u_T} {ty : Nat → FieldType} {fs0 : List Value} {ok : Nat → S → Prop} {post : Nat → S → va_W} (C : Cx p m c cc nL s args own D (tyL cI cZ cB)) (hN : NW s) (hM : KC l D (tyL cI cZ cB) y bytes maxL rm ci fs0 ok post mc ms) (hc : vwCl[ci]? = some (Cn, T, N)) (hin : ∀ x ∈ u_ws Cn T N, x ∈ wsA) (hty : ∀ k, k < N → parseFieldDescriptor (T k).2.2.1 = some (ty k)) (hcl : Cond.classLink own i1 Cn ∈ wsA) (hins : Cond.instantiable Cn N ∈ wsA) (hini : Cond.initialized Cn ∈ wsA) (hfs : ∀ j, j < N → defaultValue (ty j) = vp_V fs0 j) (hcode : Cond.code y bytes maxL none ∈ wsA) (hinm : Cond.instanceMethod y ∈ wsA) (hnest : va_Nw (.methodLinkNest own i2 y host) s) (hy : y.cls = Cn ∧ y.name = "<init>" ∧ y.cls ≠ "java/lang/invoke/MethodHandle" ∧ y.cls ≠ "java/lang/invoke/VarHandle" ∧ (parseMethodDescriptor y.desc).map (fun d => d.parameters.length) = some 0) (hrm : rm.cells = mc ∧ rm.slots = ms ∧ rm.frames + 1 ≤ R.frames ∧ 8 + (maxL + 11) + rm.locals ≤ R.locals)
    (h2 : cells + 1 + mc ≤ c2 ∧ slots + N + ms ≤ s2) (hR : c2 ≤ R.cells ∧ s2 ≤ R.slots) (hcap : (rest.map fun v => v.category).sum ≤ 7) (hsz : ls.size = nL) (hP : va_P D vwCl ws H) (hD : va_D A ws) (hS : va_S A s.heap H locs) (hA : ∀ q, s.heap.size ≤ q → A q)
    (hd1 : decode cc pc = .ok (.new i1, 3)) (hd2 : decode cc (pc + 3) = .ok (.dup, 1)) (hd3 : decode cc (pc + 4) = .ok (.invokespecial i2, 3))
    (kk : ∀ (q : Nat) (a : S) (H1 : Heap) (locs1 : List Loc), ok q a → va_P D vwCl (ws ++ post q a) H1 → va_D A (ws ++ post q a) → va_S A s.heap H1 locs1 → W p l e R s m args below meth c H1 locs1 c2 s2 Q (F0 m (pc + 7) ls (.ref q :: rest))) : W p l e R s m args below meth c H locs cells slots Q (F0 m pc ls rest) := by
  have hts := C.1.2.2.2.2
  refine va_new C.1.1 C.1.2.1 hts hin ty hty C.1.2.2.2.1 (hts _ hcl) (hts _ hins) (hts _ hini) C.2 hP hD hS hA hc hfs (by omega) (by omega) hd1 (fun q H hP hD hS => ?_)
  refine lv_dup C.1.1 C.1.2.1 hd2 rfl ?_
  have hPc : va_P D vwCl [(q, .inr (ci, fs0))] H := P_one hP
  have hDc : va_D A [(q, .inr (ci, fs0))] := D_right hD
  have hF := D_free hD hS hA
  refine va_callv (va_runIN (As := []) (rest := .ref q :: rest) C.1 (hM q H.size) ⟨va_cnB 0 hts (goodCons hcode) rfl hrm.1 hrm.2.1 hnest (by rw [hy.1]; exact hts _ hini) hy.2.2 hrm.2.2, hy.2.1, hts _ hinm⟩ ⟨KCp_blind, fun U hU hW => ⟨rfl, by rw [hU], by rw [hU]; exact hPc, va_K.moved hW.alike C.2, hDc.weaken (fun _ _ _ _ => trivial), hN.warm hW⟩⟩ rfl rfl hsz rfl (lv_room (by simp only [List.map_cons, List.sum_cons]; have hq1 : (Value.ref q).category = 1 := rfl; omega)) hd3 ⟨by omega, by omega⟩) hS (fun q _ h => hF q h) hF (fun a t H1 locs1 ht hvm hw hB hz1 hk1 hS => ?_)
  obtain ⟨hP1, hK1, hD1⟩ := hB
  rw [ht] at hP1
  obtain ⟨-, g1, g2⟩ := grow (P_left hP) hD hk1 hF hP1 hD1
  exact W.widen h2.1 h2.2 (kk q a H1 locs1 hw g1 g2 hS)
/-- new C; dup; C(), not private -/
theorem z_mkI {S : Type} {y : MethodName} {bytes : ByteArray} {maxL i1 i2 ci N mc ms c2 s2 : Nat} {rm : Room} {Cn : String} {T : u_T} {ty : Nat → FieldType} {fs0 : List Value} {ok : Nat → S → Prop} {post : Nat → S → va_W} (C : Cx p m c cc nL s args own D (tyL cI cZ cB)) (hN : NW s) (hM : KC l D (tyL cI cZ cB) y bytes maxL rm ci fs0 ok post mc ms) (hc : vwCl[ci]? = some (Cn, T, N)) (hin : ∀ x ∈ u_ws Cn T N, x ∈ wsA) (hty : ∀ k, k < N → parseFieldDescriptor (T k).2.2.1 = some (ty k)) (hcl : Cond.classLink own i1 Cn ∈ wsA) (hins : Cond.instantiable Cn N ∈ wsA) (hini : Cond.initialized Cn ∈ wsA) (hfs : ∀ j, j < N → defaultValue (ty j) = vp_V fs0 j) (hcode : Cond.code y bytes maxL none ∈ wsA) (hinm : Cond.instanceMethod y ∈ wsA) (hml : Cond.methodLink own i2 y ∈ wsA) (hy : y.cls = Cn ∧ y.name = "<init>" ∧ y.cls ≠ "java/lang/invoke/MethodHandle" ∧ y.cls ≠ "java/lang/invoke/VarHandle" ∧ (parseMethodDescriptor y.desc).map (fun d => d.parameters.length) = some 0) (hrm : rm.cells = mc ∧ rm.slots = ms ∧ rm.frames + 1 ≤ R.frames ∧ 8 + (maxL + 11) + rm.locals ≤ R.locals)
    (h2 : cells + 1 + mc ≤ c2 ∧ slots + N + ms ≤ s2) (hR : c2 ≤ R.cells ∧ s2 ≤ R.slots) (hcap : (rest.map fun v => v.category).sum ≤ 7) (hsz : ls.size = nL) (hP : va_P D vwCl ws H) (hD : va_D A ws) (hS : va_S A s.heap H locs) (hA : ∀ q, s.heap.size ≤ q → A q)
    (hd1 : decode cc pc = .ok (.new i1, 3)) (hd2 : decode cc (pc + 3) = .ok (.dup, 1)) (hd3 : decode cc (pc + 4) = .ok (.invokespecial i2, 3))
    (kk : ∀ (q : Nat) (a : S) (H1 : Heap) (locs1 : List Loc), ok q a → va_P D vwCl (ws ++ post q a) H1 → va_D A (ws ++ post q a) → va_S A s.heap H1 locs1 → W p l e R s m args below meth c H1 locs1 c2 s2 Q (F0 m (pc + 7) ls (.ref q :: rest))) : W p l e R s m args below meth c H locs cells slots Q (F0 m pc ls rest) := by
  have hts := C.1.2.2.2.2
  refine va_new C.1.1 C.1.2.1 hts hin ty hty C.1.2.2.2.1 (hts _ hcl) (hts _ hins) (hts _ hini) C.2 hP hD hS hA hc hfs (by omega) (by omega) hd1 (fun q H hP hD hS => ?_)
  refine lv_dup C.1.1 C.1.2.1 hd2 rfl ?_
  have hPc : va_P D vwCl [(q, .inr (ci, fs0))] H := P_one hP
  have hDc : va_D A [(q, .inr (ci, fs0))] := D_right hD
  have hF := D_free hD hS hA
  refine va_callv (va_runI (As := []) (rest := .ref q :: rest) C.1 (hM q H.size) (cwI 0 hts (goodCons hcode) rfl hrm.1 hrm.2.1 (by rw [hy.1]; exact hts _ hini) (hts _ hml) (hts _ hinm) hy.2.1 hy.2.2 hrm.2.2) ⟨KCp_blind, fun U hU hW => ⟨rfl, by rw [hU], by rw [hU]; exact hPc, va_K.moved hW.alike C.2, hDc.weaken (fun _ _ _ _ => trivial), hN.warm hW⟩⟩ rfl rfl hsz rfl (lv_room (by simp only [List.map_cons, List.sum_cons]; have hq1 : (Value.ref q).category = 1 := rfl; omega)) hd3 ⟨by omega, by omega⟩) hS (fun q _ h => hF q h) hF (fun a t H1 locs1 ht hvm hw hB hz1 hk1 hS => ?_)
  obtain ⟨hP1, hK1, hD1⟩ := hB
  rw [ht] at hP1
  obtain ⟨-, g1, g2⟩ := grow (P_left hP) hD hk1 hF hP1 hD1
  exact W.widen h2.1 h2.2 (kk q a H1 locs1 hw g1 g2 hS)
theorem y_newI {n : Int32} {N c2 s2 : Nat} (C : Cx p m c cc nL s args own D (tyL cI cZ cB)) (harr : Cond.arrayClass .int ∈ wsA) (hn : ¬ n < 0) (hN : n.toNatClampNeg = N) (hb4 : N * 4 ≤ 536870912) (h2 : cells + 1 ≤ c2 ∧ slots + N ≤ s2) (hR : c2 ≤ R.cells ∧ s2 ≤ R.slots) (hP : va_P D vwCl ws H) (hD : va_D A ws) (hS : va_S A s.heap H locs) (hA : ∀ q, s.heap.size ≤ q → A q) (hdg : decode cc pc = .ok (.newarray .int, 2))
    (kk : ∀ (q : Nat) (H1 : Heap), va_P D vwCl (ws ++ [(q, .inl (cI, N, .inl (fun _ => 0)))]) H1 → va_D A (ws ++ [(q, .inl (cI, N, .inl (fun _ => 0)))]) → va_S A s.heap H1 locs → W p l e R s m args below meth c H1 locs c2 s2 Q (F0 m (pc + 2) ls (.ref q :: rest))) : W p l e R s m args below meth c H locs cells slots Q (F0 m pc ls (.int n :: rest)) := by
  refine va_newa (atype := .int) (ty := .int) (a0 := (N, .inl (fun _ => 0))) C.1.1 C.1.2.1 (C.1.2.2.2.2 _ harr) rfl C.2 hP hD hS hA (fun cA => rfl) hn hN hb4 (by omega) (by omega) hdg (fun q cA H1 hK1 hP hD hS => ?_)
  have e1 : s.vm.findClass ("[" ++ FieldType.int.toString) = some cA := (hK1.2 3 (cA, .int) rfl).2
  have e2 : s.vm.findClass ("[" ++ FieldType.int.toString) = some cI := (C.2.2 0 (cI, .int) rfl).2
  cases e1.symm.trans e2
  exact W.widen h2.1 h2.2 (kk q H1 hP hD hS)
theorem y_newZ {n : Int32} {N c2 s2 : Nat} (C : Cx p m c cc nL s args own D (tyL cI cZ cB)) (harr : Cond.arrayClass .boolean ∈ wsA) (hn : ¬ n < 0) (hN : n.toNatClampNeg = N) (hb4 : N * 1 ≤ 536870912) (h2 : cells + 1 ≤ c2 ∧ slots + N ≤ s2) (hR : c2 ≤ R.cells ∧ s2 ≤ R.slots) (hP : va_P D vwCl ws H) (hD : va_D A ws) (hS : va_S A s.heap H locs) (hA : ∀ q, s.heap.size ≤ q → A q) (hdg : decode cc pc = .ok (.newarray .boolean, 2))
    (kk : ∀ (q : Nat) (H1 : Heap), va_P D vwCl (ws ++ [(q, .inl (cZ, N, .inl (fun _ => 0)))]) H1 → va_D A (ws ++ [(q, .inl (cZ, N, .inl (fun _ => 0)))]) → va_S A s.heap H1 locs → W p l e R s m args below meth c H1 locs c2 s2 Q (F0 m (pc + 2) ls (.ref q :: rest))) : W p l e R s m args below meth c H locs cells slots Q (F0 m pc ls (.int n :: rest)) := by
  refine va_newa (atype := .boolean) (ty := .boolean) (a0 := (N, .inl (fun _ => 0))) C.1.1 C.1.2.1 (C.1.2.2.2.2 _ harr) rfl C.2 hP hD hS hA (fun cA => rfl) hn hN hb4 (by omega) (by omega) hdg (fun q cA H1 hK1 hP hD hS => ?_)
  have e1 : s.vm.findClass ("[" ++ FieldType.boolean.toString) = some cA := (hK1.2 3 (cA, .boolean) rfl).2
  have e2 : s.vm.findClass ("[" ++ FieldType.boolean.toString) = some cZ := (C.2.2 1 (cZ, .boolean) rfl).2
  cases e1.symm.trans e2
  exact W.widen h2.1 h2.2 (kk q H1 hP hD hS)
theorem y_newQ {n : Int32} {N c2 s2 index : Nat} (C : Cx p m c cc nL s args own D (tyL cI cZ cB)) (hN' : NW s) (hcl : Cond.classLink own index RX0 ∈ wsA) (hn : ¬ n < 0) (hN : n.toNatClampNeg = N) (hb4 : N * 4 ≤ 536870912) (h2 : cells + 1 ≤ c2 ∧ slots + N ≤ s2) (hR : c2 ≤ R.cells ∧ s2 ≤ R.slots) (hP : va_P D vwCl ws H) (hD : va_D A ws) (hS : va_S A s.heap H locs) (hA : ∀ q, s.heap.size ≤ q → A q) (hdg : decode cc pc = .ok (.anewarray index, 3))
    (kk : ∀ (q : Nat) (H1 : Heap), va_P D vwCl (ws ++ [(q, .inl (cB, N, .inr (.inr (.inr (.inr (fun _ => none))))))]) H1 → va_D A (ws ++ [(q, .inl (cB, N, .inr (.inr (.inr (.inr (fun _ => none))))))]) → va_S A s.heap H1 locs → W p l e R s m args below meth c H1 locs c2 s2 Q (F0 m (pc + 3) ls (.ref q :: rest))) : W p l e R s m args below meth c H locs cells slots Q (F0 m pc ls (.int n :: rest)) := by
  refine va_newq C.1.1 C.1.2.1 C.1.2.2.2.1 (C.1.2.2.2.2 _ hcl) hN'.2.2.2.2.2.2 C.2 hP hD hS hA hn hN hb4 (by omega) (by omega) hdg (fun q cA H1 hK1 hP hD hS => ?_)
  obtain ⟨kA, comp, -, -, -, e1⟩ := (hK1.2 3 (cA, .object RX0) rfl).2
  obtain ⟨kA2, comp2, -, -, -, e2⟩ := (C.2.2 2 (cB, .object RX0) rfl).2
  cases e1.symm.trans e2
  exact W.widen h2.1 h2.2 (kk q H1 hP hD hS)
/-- putfield, final or not, in the constructor: the object is the world's first cell -/
theorem y_putF {ci k N ad index : Nat} {Cn : String} {T : u_T} {ty0 : Nat → FieldType} {v : Value} {fs : List Value} {tl : va_W} (C : Cx p m c cc nL s args own D (tyL cI cZ cB)) (hi : meth.name = "<init>") (hc : vwCl[ci]? = some (Cn, T, N)) (hin : ∀ x ∈ u_ws Cn T N, x ∈ wsA) (hty : ∀ k, k < N → parseFieldDescriptor (T k).2.2.1 = some (ty0 k)) (hnm : ∀ a, a < N → ∀ b, b < N → a ≠ b → (T a).2.1 ≠ (T b).2.1) (hk : k < N) (hl : Cond.fieldLink own index (T k).1 (T k).2.1 (T k).2.2.1 ∈ wsA) (hfin : (T k).2.2.2 = true) (hdecl : (T k).1 = own) (hn : narrow (ty0 k) v = v) (hfit : Jvm.fits (ty0 k) v = true) (hkl : k < fs.length) (hP : va_P D vwCl ((ad, .inr (ci, fs)) :: tl) H) (hD : va_D A ((ad, .inr (ci, fs)) :: tl)) (hS : va_S A s.heap H locs) (hdg : decode cc pc = .ok (.putfield index, 3))
    (kk : ∀ (H1 : Heap) (locs1 : List Loc), va_P D vwCl ((ad, .inr (ci, fs.set k v)) :: tl) H1 → va_D A ((ad, .inr (ci, fs.set k v)) :: tl) → va_S A s.heap H1 locs1 → W p l e R s m args below meth c H1 locs1 cells slots Q (F0 m (pc + 3) ls rest)) : W p l e R s m args below meth c H locs cells slots Q (F0 m pc ls (v :: .ref ad :: rest)) :=
  va_putF C.1.1 C.1.2.1 C.1.2.2.2.2 hin ty0 hty hnm C.1.2.2.2.1 C.2 hP hD hS 0 rfl hc k hk (C.1.2.2.2.2 _ hl) (fun _ h => h) hfin hi hdecl (hty k hk) hn hfit hkl hdg kk
theorem y_put {ci k N ad index : Nat} {Cn : String} {T : u_T} {ty0 : Nat → FieldType} {v : Value} {fs : List Value} {tl : va_W} (C : Cx p m c cc nL s args own D (tyL cI cZ cB)) (hc : vwCl[ci]? = some (Cn, T, N)) (hin : ∀ x ∈ u_ws Cn T N, x ∈ wsA) (hty : ∀ k, k < N → parseFieldDescriptor (T k).2.2.1 = some (ty0 k)) (hnm : ∀ a, a < N → ∀ b, b < N → a ≠ b → (T a).2.1 ≠ (T b).2.1) (hk : k < N) (hl : Cond.fieldLink own index (T k).1 (T k).2.1 (T k).2.2.1 ∈ wsA) (hfin : (T k).2.2.2 = false) (hn : narrow (ty0 k) v = v) (hfit : Jvm.fits (ty0 k) v = true) (hkl : k < fs.length) (hP : va_P D vwCl ((ad, .inr (ci, fs)) :: tl) H) (hD : va_D A ((ad, .inr (ci, fs)) :: tl)) (hS : va_S A s.heap H locs) (hdg : decode cc pc = .ok (.putfield index, 3))
    (kk : ∀ (H1 : Heap) (locs1 : List Loc), va_P D vwCl ((ad, .inr (ci, fs.set k v)) :: tl) H1 → va_D A ((ad, .inr (ci, fs.set k v)) :: tl) → va_S A s.heap H1 locs1 → W p l e R s m args below meth c H1 locs1 cells slots Q (F0 m (pc + 3) ls rest)) : W p l e R s m args below meth c H locs cells slots Q (F0 m pc ls (v :: .ref ad :: rest)) :=
  va_put C.1.1 C.1.2.1 C.1.2.2.2.2 hin ty0 hty hnm C.1.2.2.2.1 C.2 hP hD hS 0 rfl hc k hk (C.1.2.2.2.2 _ hl) (fun _ h => h) hfin (hty k hk) hn hfit hkl hdg kk
theorem y_get {ci k N ad index : Nat} {Cn : String} {T : u_T} {v : Value} {fs : List Value} {tl : va_W} (C : Cx p m c cc nL s args own D (tyL cI cZ cB)) (hc : vwCl[ci]? = some (Cn, T, N)) (hin : ∀ x ∈ u_ws Cn T N, x ∈ wsA) (hk : k < N) (hl : Cond.fieldLink own index (T k).1 (T k).2.1 (T k).2.2.1 ∈ wsA) (hP : va_P D vwCl ((ad, .inr (ci, fs)) :: tl) H) (hv : fs[k]? = some v) (hdg : decode cc pc = .ok (.getfield index, 3))
    (kk : W p l e R s m args below meth c H locs cells slots Q (F0 m (pc + 3) ls (v :: rest))) : W p l e R s m args below meth c H locs cells slots Q (F0 m pc ls (.ref ad :: rest)) :=
  va_get C.1.1 C.1.2.1 C.1.2.2.2.2 hin C.1.2.2.2.1 C.2 hP 0 rfl hc k hk (C.1.2.2.2.2 _ hl) (fun _ h => h) hv hdg kk
theorem y_obj {ad idx : Nat} (C : Cx p m c cc nL s args own D (tyL cI cZ cB)) (hl : Cond.methodLink own idx Lib.objectInit ∈ wsA) (hin : Cond.instanceMethod Lib.objectInit ∈ wsA) (hcode : Cond.code Lib.objectInit ⟨#[0xb1]⟩ 1 none ∈ wsA) (hsz : ls.size = nL) (hfr : 1 ≤ R.frames) (hlo : 12 ≤ R.locals) (hdg : decode cc pc = .ok (.invokespecial idx, 3))
    (kk : W p l e R s m args below meth c H locs cells slots Q (F0 m (pc + 3) ls [])) : W p l e R s m args below meth c H locs cells slots Q (F0 m pc ls [.ref ad]) :=
  W.objInit C.1.1 C.1.2.1 C.1.2.2.2.1 (C.1.2.2.2.2 _ hl) (C.1.2.2.2.2 _ hin) (C.1.2.2.2.2 _ hcode) rfl (hsz.trans C.1.2.2.1.symm) rfl hdg hfr hlo kk
end CT
/-- the head of a constructor -/
theorem KC_mk {S : Type} {l : Launch} {D : va_G} {tys : List (ClassId × FieldType)} {y : MethodName} {cc : ByteArray} {nL : Nat} {rm : Room} {ci : Nat} {fs0 : List Value} {ok : Nat → S → Prop} {post : Nat → S → va_W} {mc ms : Nat} {own : String} (hy : plainName y.cls = true) (ho : y.cls = own) (hi : y.name = "<init>") (hlen : 1 ≤ nL)
    (body : ∀ (p : Program) (e : Env) (s : State) (m : MethodId) (below : List Frame) (meth : Method) (c : Code) (A : Nat → Prop) (Q : State → Prop) (ls : Array Slot) (h0 : Nat), Cx p m c cc nL s #[Value.ref h0] own D tys → NW s → meth.name = "<init>" → (∀ q, s.heap.size ≤ q → A q) → (∀ (a : S) (H : Heap) (locs : List Loc) (pc : Nat) (ls : Array Slot), ok h0 a → va_P D vwCl (post h0 a) H → va_D A (post h0 a) → va_S A s.heap H locs → decode cc pc = .ok (.return_, 1) → W p l e rm s m #[Value.ref h0] below meth c H locs mc ms Q (F0 m pc ls [])) → va_P D vwCl [(h0, .inr (ci, fs0))] s.heap → va_D A [(h0, .inr (ci, fs0))] → va_S A s.heap s.heap [] → lv_has ls nL [(0, .ref h0)] → W p l e rm s m #[Value.ref h0] below meth c s.heap [] 0 0 Q (F0 m 0 ls [])) : KC l D tys y cc nL rm ci fs0 ok post mc ms := by
  intro h0 sz
  refine Met.ofW (cc := cc) (maxL := nL) (ret := none) hy rfl ?_
  intro p e s m args below meth c s₁ B hml hv
  obtain ⟨rfl, hsz, hP, hK, hD0, hN⟩ := hv
  have hts := atoms_spec (ws := Cond.code y cc nL none :: wsA) B.pre
  have hown' : s.vm.findClass own = some m.cls := ho ▸ findClass_of_methodNamed B.named
  have hin : meth.name = "<init>" := hi ▸ (name_of_methodNamed B.named B.method).1
  subst hsz
  have hl := lv_entry [.ref h0] (n := nL) hlen
  rw [lg_entry_eq]
  refine body p e s m below meth c (va_A [(h0, .inr (ci, fs0))] s.heap.size) _ _ h0 ⟨⟨B.exec, B.bytes, hml, hown', fun x hx => hts x (List.mem_cons_of_mem _ hx)⟩, hK⟩ hN hin (fun q h => Or.inr h) ?_ hP hD0.self va_S.rf hl
  intro a H locs pc ls hok hP1 hD1 hS1 hdg
  exact W.vret B.exec B.bytes B.returns (fun t ht hW => ⟨⟨a, rfl, hok, by rw [ht]; exact hP1, va_K.moved hW.alike hK, hD1⟩, hS1.F ht⟩) hS1.2.2 hdg B.notSynchronized
