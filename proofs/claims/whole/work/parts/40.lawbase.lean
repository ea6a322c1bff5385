/-! ===== THE LAW: two worlds side by side ===== -/
def Z2 (D : va_G) (wx wm : Sg → va_W) (A : Nat → Prop) (H0 H : Heap) (locs : List Loc) (gx gm : Sg) : Prop := va_P D vwCl (wx gx) H ∧ va_P D vwCl (wm gm) H ∧ va_D A (wx gx ++ wm gm) ∧ va_S A H0 H locs ∧ ∀ q, H0.size ≤ q → A q
theorem Z2.x {D : va_G} {wx wm : Sg → va_W} {A : Nat → Prop} {H0 H : Heap} {locs : List Loc} {gx gm : Sg} (h : Z2 D wx wm A H0 H locs gx gm) : Zs D wx A H0 H locs gx := ⟨h.1, D_left h.2.2.1, h.2.2.2.1, h.2.2.2.2⟩
theorem Z2.m {D : va_G} {wx wm : Sg → va_W} {A : Nat → Prop} {H0 H : Heap} {locs : List Loc} {gx gm : Sg} (h : Z2 D wx wm A H0 H locs gx gm) : Zs D wm A H0 H locs gm := ⟨h.2.1, D_right h.2.2.1, h.2.2.2.1, h.2.2.2.2⟩
section R2
variable {p : Program} {l : Launch} {e : Env} {R : Room} {s : State} {m : MethodId} {args : Array Value} {below : List Frame} {meth : Method} {c : Code} {H : Heap} {locs : List Loc} {cells slots : Nat} {Q : State → Prop}
variable {cc : ByteArray} {nL : Nat} {own : String} {D : va_G} {wx wm : Sg → va_W} {A : Nat → Prop} {gx gm : Sg} {pc : Nat} {ls : Array Slot} {rest : List Value} {tys : List (ClassId × FieldType)}
theorem z2_xI {y : MethodName} {bytes : ByteArray} {maxL n index : Nat} {ret : Option FieldType} {rm : Room} {Cn : String} {b pos ci : Nat} {As stk : List Value} {r : Int32} {g1 : Sg} (C : Cx p m c cc nL s args own D tys) (hM : KI l D tys wx y bytes maxL ret rm (.ref b :: As) gx r g1) (lk : lkV own index y Cn bytes maxL ret n) (hrm : rm.cells = 0 ∧ rm.slots = 0 ∧ rm.frames + 1 ≤ R.frames ∧ 8 + (maxL + 11) + rm.locals ≤ R.locals) (hcl : cells ≤ R.cells ∧ slots ≤ R.slots) (ho : oB wx pos b ci) (hc : (vwCl[ci]?).map (fun q => q.1) = some Cn) (hn : As.length = n) (hcap : (rest.map fun v => v.category).sum ≤ 8) (hst : stk = As.reverse ++ .ref b :: rest) (hsz : ls.size = nL) (hdg : decode cc pc = .ok (.invokevirtual index, 3)) (hz : Z2 D wx wm A s.heap H locs gx gm)
    (kk : ∀ (H1 : Heap) (locs1 : List Loc), Z2 D wx wm A s.heap H1 locs1 g1 gm → W p l e R s m args below meth c H1 locs1 cells slots Q (F0 m (pc + 3) ls (.int r :: rest))) : W p l e R s m args below meth c H locs cells slots Q (F0 m pc ls stk) := by
  subst hst
  have hD' := D_swap hz.2.2.1
  have hF := D_free hD' hz.2.2.2.1 hz.2.2.2.2
  refine va_calli (va_runV (As := As) (rest := rest) C.1 (hM H.size) (cwV n C.1.2.2.2.2 lk.good rfl hrm.1 hrm.2.1 lk.2.2.2.2.2 hrm.2.2) ⟨KP_blind, z_recv C hz.x ho hc, z_pre C hz.x⟩ rfl hn hsz rfl (lv_room hcap) hdg hcl) hz.2.2.2.1 (fun q _ h => hF q h) hF (fun x v t H1 locs1 ht hvm hw hB hz1 hk1 hS => ?_)
  obtain ⟨rfl, rfl⟩ := hw
  obtain ⟨a1, -, a3⟩ := grow hz.2.1 hD' hk1 hF (ht ▸ hB.1) hB.2.2
  exact kk H1 locs1 ⟨ht ▸ hB.1, a1, D_swap a3, hS, hz.2.2.2.2⟩
theorem z2_xL {y : MethodName} {bytes : ByteArray} {maxL n index : Nat} {ret : Option FieldType} {rm : Room} {Cn : String} {b pos ci : Nat} {As stk : List Value} {r : Int64} {g1 : Sg} (C : Cx p m c cc nL s args own D tys) (hM : KL l D tys wx y bytes maxL ret rm (.ref b :: As) gx r g1) (lk : lkV own index y Cn bytes maxL ret n) (hrm : rm.cells = 0 ∧ rm.slots = 0 ∧ rm.frames + 1 ≤ R.frames ∧ 8 + (maxL + 11) + rm.locals ≤ R.locals) (hcl : cells ≤ R.cells ∧ slots ≤ R.slots) (ho : oB wx pos b ci) (hc : (vwCl[ci]?).map (fun q => q.1) = some Cn) (hn : As.length = n) (hcap : (rest.map fun v => v.category).sum ≤ 8) (hst : stk = As.reverse ++ .ref b :: rest) (hsz : ls.size = nL) (hdg : decode cc pc = .ok (.invokevirtual index, 3)) (hz : Z2 D wx wm A s.heap H locs gx gm)
    (kk : ∀ (H1 : Heap) (locs1 : List Loc), Z2 D wx wm A s.heap H1 locs1 g1 gm → W p l e R s m args below meth c H1 locs1 cells slots Q (F0 m (pc + 3) ls (.long r :: rest))) : W p l e R s m args below meth c H locs cells slots Q (F0 m pc ls stk) := by
  subst hst
  have hD' := D_swap hz.2.2.1
  have hF := D_free hD' hz.2.2.2.1 hz.2.2.2.2
  refine va_calll (va_runV (As := As) (rest := rest) C.1 (hM H.size) (cwV n C.1.2.2.2.2 lk.good rfl hrm.1 hrm.2.1 lk.2.2.2.2.2 hrm.2.2) ⟨KP_blind, z_recv C hz.x ho hc, z_pre C hz.x⟩ rfl hn hsz rfl (lv_room hcap) hdg hcl) hz.2.2.2.1 (fun q _ h => hF q h) hF (fun x v t H1 locs1 ht hvm hw hB hz1 hk1 hS => ?_)
  obtain ⟨rfl, rfl⟩ := hw
  obtain ⟨a1, -, a3⟩ := grow hz.2.1 hD' hk1 hF (ht ▸ hB.1) hB.2.2
  exact kk H1 locs1 ⟨ht ▸ hB.1, a1, D_swap a3, hS, hz.2.2.2.2⟩
theorem z2_mI {y : MethodName} {bytes : ByteArray} {maxL n index : Nat} {ret : Option FieldType} {rm : Room} {Cn : String} {b pos ci : Nat} {As stk : List Value} {r : Int32} {g1 : Sg} (C : Cx p m c cc nL s args own D tys) (hM : KI l D tys wm y bytes maxL ret rm (.ref b :: As) gm r g1) (lk : lkV own index y Cn bytes maxL ret n) (hrm : rm.cells = 0 ∧ rm.slots = 0 ∧ rm.frames + 1 ≤ R.frames ∧ 8 + (maxL + 11) + rm.locals ≤ R.locals) (hcl : cells ≤ R.cells ∧ slots ≤ R.slots) (ho : oB wm pos b ci) (hc : (vwCl[ci]?).map (fun q => q.1) = some Cn) (hn : As.length = n) (hcap : (rest.map fun v => v.category).sum ≤ 8) (hst : stk = As.reverse ++ .ref b :: rest) (hsz : ls.size = nL) (hdg : decode cc pc = .ok (.invokevirtual index, 3)) (hz : Z2 D wx wm A s.heap H locs gx gm)
    (kk : ∀ (H1 : Heap) (locs1 : List Loc), Z2 D wx wm A s.heap H1 locs1 gx g1 → W p l e R s m args below meth c H1 locs1 cells slots Q (F0 m (pc + 3) ls (.int r :: rest))) : W p l e R s m args below meth c H locs cells slots Q (F0 m pc ls stk) := by
  subst hst
  have hF := D_free hz.2.2.1 hz.2.2.2.1 hz.2.2.2.2
  refine va_calli (va_runV (As := As) (rest := rest) C.1 (hM H.size) (cwV n C.1.2.2.2.2 lk.good rfl hrm.1 hrm.2.1 lk.2.2.2.2.2 hrm.2.2) ⟨KP_blind, z_recv C hz.m ho hc, z_pre C hz.m⟩ rfl hn hsz rfl (lv_room hcap) hdg hcl) hz.2.2.2.1 (fun q _ h => hF q h) hF (fun x v t H1 locs1 ht hvm hw hB hz1 hk1 hS => ?_)
  obtain ⟨rfl, rfl⟩ := hw
  obtain ⟨a1, -, a3⟩ := grow hz.1 hz.2.2.1 hk1 hF (ht ▸ hB.1) hB.2.2
  exact kk H1 locs1 ⟨a1, ht ▸ hB.1, a3, hS, hz.2.2.2.2⟩
theorem z2_mL {y : MethodName} {bytes : ByteArray} {maxL n index : Nat} {ret : Option FieldType} {rm : Room} {Cn : String} {b pos ci : Nat} {As stk : List Value} {r : Int64} {g1 : Sg} (C : Cx p m c cc nL s args own D tys) (hM : KL l D tys wm y bytes maxL ret rm (.ref b :: As) gm r g1) (lk : lkV own index y Cn bytes maxL ret n) (hrm : rm.cells = 0 ∧ rm.slots = 0 ∧ rm.frames + 1 ≤ R.frames ∧ 8 + (maxL + 11) + rm.locals ≤ R.locals) (hcl : cells ≤ R.cells ∧ slots ≤ R.slots) (ho : oB wm pos b ci) (hc : (vwCl[ci]?).map (fun q => q.1) = some Cn) (hn : As.length = n) (hcap : (rest.map fun v => v.category).sum ≤ 8) (hst : stk = As.reverse ++ .ref b :: rest) (hsz : ls.size = nL) (hdg : decode cc pc = .ok (.invokevirtual index, 3)) (hz : Z2 D wx wm A s.heap H locs gx gm)
    (kk : ∀ (H1 : Heap) (locs1 : List Loc), Z2 D wx wm A s.heap H1 locs1 gx g1 → W p l e R s m args below meth c H1 locs1 cells slots Q (F0 m (pc + 3) ls (.long r :: rest))) : W p l e R s m args below meth c H locs cells slots Q (F0 m pc ls stk) := by
  subst hst
  have hF := D_free hz.2.2.1 hz.2.2.2.1 hz.2.2.2.2
  refine va_calll (va_runV (As := As) (rest := rest) C.1 (hM H.size) (cwV n C.1.2.2.2.2 lk.good rfl hrm.1 hrm.2.1 lk.2.2.2.2.2 hrm.2.2) ⟨KP_blind, z_recv C hz.m ho hc, z_pre C hz.m⟩ rfl hn hsz rfl (lv_room hcap) hdg hcl) hz.2.2.2.1 (fun q _ h => hF q h) hF (fun x v t H1 locs1 ht hvm hw hB hz1 hk1 hS => ?_)
  obtain ⟨rfl, rfl⟩ := hw
  obtain ⟨a1, -, a3⟩ := grow hz.1 hz.2.2.1 hk1 hF (ht ▸ hB.1) hB.2.2
  exact kk H1 locs1 ⟨a1, ht ▸ hB.1, a3, hS, hz.2.2.2.2⟩
end R2
/-- one call on both: the answers are one, and the relation holds behind it -/
def St (Rel : Sg → Sg → Prop) (F G : Sg → Option (Int32 × Sg)) : Prop := ∀ gx gm, Rel gx gm → ∃ r gx1 gm1, F gx = some (r, gx1) ∧ G gm = some (r, gm1) ∧ Rel gx1 gm1
def StL (Rel : Sg → Sg → Prop) (F G : Sg → Option (Int64 × Sg)) : Prop := ∀ gx gm, Rel gx gm → ∃ r gx1 gm1, F gx = some (r, gx1) ∧ G gm = some (r, gm1) ∧ Rel gx1 gm1
theorem lt_sub5 {L i : Nat} (hL : L ≤ 2560) (hi : i ≤ 2565) (h : L < i + 5) : Int32.ofNat L - 5 < nI i := by
  rw [Int32.lt_iff_toInt_lt]
  have h1 : (Int32.ofNat L - 5 : Int32).toInt = (L : Int) - 5 := pk_sub_toInt (a := L) (b := 5) (by omega) (by omega)
  rw [h1, nI_toInt (by omega)]
  omega
theorem lcmp_self (r : Int64) : lg_cmp r r = 0 := by
  have h : ¬ r < r := fun h => by rw [Int64.lt_iff_toInt_lt] at h; omega
  simp [lg_cmp, h]
def RelOk (Rel : Sg → Sg → Prop) : Prop := (∀ a0 : Int32, St Rel (f5_type a0) (f6_type a0)) ∧ (St Rel (f5_clear) (f6_clear)) ∧ (St Rel (f5_moss) (f6_moss)) ∧ (∀ a0 a1 : Int32, St Rel (f5_person a0 a1) (f6_person a0 a1)) ∧ (∀ a0 a1 : Int32, St Rel (f5_promise a0 a1) (f6_promise a0 a1)) ∧ (∀ a0 a1 : Int32, St Rel (f5_word a0 a1) (f6_word a0 a1)) ∧ (∀ a0 a1 : Int32, St Rel (f5_cell a0 a1) (f6_cell a0 a1)) ∧ (∀ a0 : Int32, St Rel (f5_now a0) (f6_now a0)) ∧ (∀ a0 : Int32, St Rel (f5_cuts a0) (f6_cuts a0)) ∧ (∀ a0 : Int32, St Rel (f5_drains a0) (f6_drains a0)) ∧ (∀ a0 : Int32, St Rel (f5_does a0) (f6_does a0)) ∧ (St Rel (f5_year) (f6_year)) ∧ (St Rel (f5_undo) (f6_undo)) ∧ (∀ a0 a1 : Int32, St Rel (f5_left a0 a1) (f6_left a0 a1)) ∧ (∀ a0 a1 a2 : Int32, St Rel (f5_lasts a0 a1 a2) (f6_lasts a0 a1 a2)) ∧ (∀ a0 a1 : Int32, St Rel (f5_duty a0 a1) (f6_duty a0 a1)) ∧ (∀ a0 : Int32, St Rel (f5_sees a0) (f6_sees a0)) ∧ (St Rel (f5_forget) (f6_forget)) ∧ (St Rel (f5_fits) (f6_fits)) ∧ (St Rel (f5_likely) (f6_likely)) ∧ (∀ a0 : Int32, St Rel (f5_kept a0) (f6_kept a0)) ∧ (∀ a0 : Int32, St Rel (f5_order a0) (f6_order a0)) ∧ (∀ a0 : Int32, St Rel (f5_drain a0) (f6_drain a0)) ∧ (∀ a0 a1 a2 a3 : Int32, St Rel (f5_odds a0 a1 a2 a3) (f6_odds a0 a1 a2 a3)) ∧ (∀ a0 a1 : Int32, St Rel (f5_rate a0 a1) (f6_rate a0 a1)) ∧ (∀ a0 : Int32, St Rel (f5_keep a0) (f6_keep a0)) ∧ (∀ a0 : Int32, St Rel (f5_back a0) (f6_back a0)) ∧ (∀ a0 : Int32, St Rel (f5_count a0) (f6_count a0)) ∧ (StL Rel (f5_trace) (f6_trace))
