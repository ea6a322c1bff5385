/-! ===== BASE: the state of a world as rows of numbers; contracts as 'a function's value'; one row an access ===== -/
/-- a world's numbers: row i, place j; and one long -/
abbrev Sg : Type := (Nat → Nat → Int32) × Int64
def pr (g : Sg) (i : Nat) (f : Nat → Int32) : Sg := (fun a => if a = i then f else g.1 a, g.2)
def pu (g : Sg) (i j : Nat) (v : Int32) : Sg := pr g i (upd (g.1 i) j v)
def pl (g : Sg) (t : Int64) : Sg := (g.1, t)
/-! the functions' own words -/
def ix {β : Type} (i : Int32) (n : Nat) (k : Option β) : Option β := if i < 0 ∨ n ≤ i.toNatClampNeg then none else k
def nz {β : Type} (y : Int32) (k : Option β) : Option β := if y = 0 then none else k
def bd {α β : Type} (v : Option α) (k : α → Option β) : Option β := match v with
  | none => none
  | some a => k a
def bd2 {α γ β : Type} (v : Option (α × γ)) (k : α → γ → Option β) : Option β := match v with
  | none => none
  | some a => k a.1 a.2
def nx {α β : Type} (v : α) (k : α → Option β) : Option β := k v
theorem ix_elim {β : Type} {i : Int32} {n : Nat} {k : Option β} {r : β} (h : ix i n k = some r) : vp_in i n ∧ k = some r := by
  unfold ix at h
  split at h
  · cases h
  · exact ⟨by assumption, h⟩
theorem nz_elim {β : Type} {y : Int32} {k : Option β} {r : β} (h : nz y k = some r) : ¬ y = 0 ∧ k = some r := by
  unfold nz at h
  split at h
  · cases h
  · exact ⟨by assumption, h⟩
theorem bd_elim {α β : Type} {v : Option α} {k : α → Option β} {r : β} (h : bd v k = some r) : ∃ a, v = some a ∧ k a = some r := by
  cases v with
  | none => cases h
  | some a => exact ⟨a, rfl, h⟩
theorem bd2_elim {α γ β : Type} {v : Option (α × γ)} {k : α → γ → Option β} {r : β} (h : bd2 v k = some r) : ∃ a c, v = some (a, c) ∧ k a c = some r := by
  cases v with
  | none => cases h
  | some a => exact ⟨a.1, a.2, rfl, h⟩
theorem nx_elim {α β : Type} {v : α} {k : α → Option β} {r : β} (h : nx v k = some r) : ∃ z, z = v ∧ k z = some r := ⟨v, rfl, h⟩
theorem ite_t {α : Type} {c : Prop} [Decidable c] {a b r : α} (h : (if c then a else b) = r) (hc : c) : a = r := (if_pos hc).symm.trans h
theorem ite_f {α : Type} {c : Prop} [Decidable c] {a b r : α} (h : (if c then a else b) = r) (hc : ¬ c) : b = r := (if_neg hc).symm.trans h
def rz (x : Int32) (g : Sg) : Option (Int32 × Sg) := if x = 0 ∨ x = 1 then some (x, g) else none
theorem rz_spec {x : Int32} {g : Sg} {res : Int32 × Sg} (h : rz x g = some res) : (x = 0 ∨ x = 1) ∧ (x, g) = res := by
  unfold rz at h
  split at h
  · exact ⟨by assumption, Option.some.inj h⟩
  · cases h
abbrev tyL (cI cZ cB : ClassId) : List (ClassId × FieldType) := [(cI, .int), (cZ, .boolean), (cB, .object RX0)]
/-! what stands where in a world -/
def oB (w : Sg → va_W) (pos ad ci : Nat) : Prop := ∀ g, ∃ fs, (w g)[pos]? = some (ad, .inr (ci, fs))
def fI (w : Sg → va_W) (pos ad ci k r j : Nat) : Prop := ∀ g, ∃ fs, (w g)[pos]? = some (ad, .inr (ci, fs)) ∧ fs[k]? = some (.int (g.1 r j)) ∧ k < fs.length ∧ ∀ v, (w g).set pos (ad, .inr (ci, fs.set k (.int v))) = w (pu g r j v)
def fL (w : Sg → va_W) (pos ad ci k : Nat) : Prop := ∀ g, ∃ fs, (w g)[pos]? = some (ad, .inr (ci, fs)) ∧ fs[k]? = some (.long g.2) ∧ k < fs.length ∧ ∀ v, (w g).set pos (ad, .inr (ci, fs.set k (.long v))) = w (pl g v)
def fR (w : Sg → va_W) (pos ad ci k ad2 : Nat) : Prop := ∀ g, ∃ fs, (w g)[pos]? = some (ad, .inr (ci, fs)) ∧ fs[k]? = some (.ref ad2)
def aI (w : Sg → va_W) (cA : ClassId) (pos ad n a : Nat) : Prop := ∀ g, (w g)[pos]? = some (ad, .inl (cA, n, .inl (g.1 a))) ∧ ∀ f, (w g).set pos (ad, .inl (cA, n, .inl f)) = w (pr g a f)
def aQ (w : Sg → va_W) (cB : ClassId) (pos ad n : Nat) (f : Nat → Nat) : Prop := ∀ g, (w g)[pos]? = some (ad, .inl (cB, n, .inr (.inr (.inr (.inr (fun i => some (f i)))))))
theorem fI.o {w : Sg → va_W} {pos ad ci k r j : Nat} (h : fI w pos ad ci k r j) : oB w pos ad ci := fun g => by
  obtain ⟨fs, h1, -⟩ := h g
  exact ⟨fs, h1⟩
theorem fR.o {w : Sg → va_W} {pos ad ci k ad2 : Nat} (h : fR w pos ad ci k ad2) : oB w pos ad ci := fun g => by
  obtain ⟨fs, h1, -⟩ := h g
  exact ⟨fs, h1⟩
/-- a world in a heap, in a walk -/
def Zs (D : va_G) (w : Sg → va_W) (A : Nat → Prop) (H0 H : Heap) (locs : List Loc) (g : Sg) : Prop := va_P D vwCl (w g) H ∧ va_D A (w g) ∧ va_S A H0 H locs ∧ ∀ q, H0.size ≤ q → A q
def Cx (p : Program) (m : MethodId) (c : Code) (cc : ByteArray) (nL : Nat) (s : State) (args : Array Value) (own : String) (D : va_G) (tys : List (ClassId × FieldType)) : Prop := CallFix p m c cc nL s args wsA own ∧ va_K D vwCl tys s
/-! contracts: the answer r and the new numbers g1 are what the function says -/
def KP (D : va_G) (tys : List (ClassId × FieldType)) (w : Sg → va_W) (sz : Nat) (g : Sg) : State → Prop := fun U => U.heap.size = sz ∧ va_P D vwCl (w g) U.heap ∧ va_K D vwCl tys U ∧ va_D (fun _ => True) (w g)
def KB (D : va_G) (tys : List (ClassId × FieldType)) (w : Sg → va_W) (sz : Nat) (g : Sg) : Sg → State → Prop := fun v t => va_P D vwCl (w v) t.heap ∧ va_K D vwCl tys t ∧ va_D (va_A (w g) sz) (w v)
def KI (l : Launch) (D : va_G) (tys : List (ClassId × FieldType)) (w : Sg → va_W) (y : MethodName) (cc : ByteArray) (nL : Nat) (ret : Option FieldType) (rm : Room) (av : List Value) (g : Sg) (r : Int32) (g1 : Sg) : Prop :=
  ∀ sz, Met l y (Cond.code y cc nL ret :: wsA) rm (va_Pc av (KP D tys w sz g)) (va_Qi (fun x v => x = r ∧ v = g1) (KB D tys w sz g) (va_A (w g) sz)) 0 0 (va_A (w g) sz)
def KL (l : Launch) (D : va_G) (tys : List (ClassId × FieldType)) (w : Sg → va_W) (y : MethodName) (cc : ByteArray) (nL : Nat) (ret : Option FieldType) (rm : Room) (av : List Value) (g : Sg) (r : Int64) (g1 : Sg) : Prop :=
  ∀ sz, Met l y (Cond.code y cc nL ret :: wsA) rm (va_Pc av (KP D tys w sz g)) (va_Ql (fun x v => x = r ∧ v = g1) (KB D tys w sz g) (va_A (w g) sz)) 0 0 (va_A (w g) sz)
def KV (l : Launch) (D : va_G) (tys : List (ClassId × FieldType)) (w : Sg → va_W) (y : MethodName) (cc : ByteArray) (nL : Nat) (ret : Option FieldType) (rm : Room) (av : List Value) (g : Sg) (g1 : Sg) : Prop :=
  ∀ sz, Met l y (Cond.code y cc nL ret :: wsA) rm (va_Pc av (KP D tys w sz g)) (va_Qv (fun v => v = g1) (KB D tys w sz g) (va_A (w g) sz)) 0 0 (va_A (w g) sz)
/-! the ends of a method -/
def EndI (p : Program) (l : Launch) (e : Env) (R : Room) (s : State) (m : MethodId) (args : Array Value) (below : List Frame) (meth : Method) (c : Code) (Q : State → Prop) (D : va_G) (w : Sg → va_W) (A : Nat → Prop) (cc : ByteArray) (res : Int32 × Sg) : Prop :=
  ∀ (x : Int32) (g : Sg) (H : Heap) (locs : List Loc) (pc : Nat) (ls : Array Slot), (x, g) = res → Zs D w A s.heap H locs g → decode cc pc = .ok (.ireturn, 1) → W p l e R s m args below meth c H locs 0 0 Q (F0 m pc ls [.int x])
def EndZ (p : Program) (l : Launch) (e : Env) (R : Room) (s : State) (m : MethodId) (args : Array Value) (below : List Frame) (meth : Method) (c : Code) (Q : State → Prop) (D : va_G) (w : Sg → va_W) (A : Nat → Prop) (cc : ByteArray) (res : Int32 × Sg) : Prop :=
  ∀ (x : Int32) (g : Sg) (H : Heap) (locs : List Loc) (pc : Nat) (ls : Array Slot), rz x g = some res → Zs D w A s.heap H locs g → decode cc pc = .ok (.ireturn, 1) → W p l e R s m args below meth c H locs 0 0 Q (F0 m pc ls [.int x])
def EndL (p : Program) (l : Launch) (e : Env) (R : Room) (s : State) (m : MethodId) (args : Array Value) (below : List Frame) (meth : Method) (c : Code) (Q : State → Prop) (D : va_G) (w : Sg → va_W) (A : Nat → Prop) (cc : ByteArray) (res : Int64 × Sg) : Prop :=
  ∀ (x : Int64) (g : Sg) (H : Heap) (locs : List Loc) (pc : Nat) (ls : Array Slot), (x, g) = res → Zs D w A s.heap H locs g → decode cc pc = .ok (.lreturn, 1) → W p l e R s m args below meth c H locs 0 0 Q (F0 m pc ls [.long x])
def EndV (p : Program) (l : Launch) (e : Env) (R : Room) (s : State) (m : MethodId) (args : Array Value) (below : List Frame) (meth : Method) (c : Code) (Q : State → Prop) (D : va_G) (w : Sg → va_W) (A : Nat → Prop) (cc : ByteArray) (res : Sg) : Prop :=
  ∀ (g : Sg) (H : Heap) (locs : List Loc) (pc : Nat) (ls : Array Slot), g = res → Zs D w A s.heap H locs g → decode cc pc = .ok (.return_, 1) → W p l e R s m args below meth c H locs 0 0 Q (F0 m pc ls [])
section RZ
variable {p : Program} {l : Launch} {e : Env} {R : Room} {s : State} {m : MethodId} {args : Array Value} {below : List Frame} {meth : Method} {c : Code} {H : Heap} {locs : List Loc} {cells slots : Nat} {Q : State → Prop}
variable {cc : ByteArray} {nL : Nat} {own : String} {D : va_G} {cI cZ cB : ClassId} {w : Sg → va_W} {A : Nat → Prop} {H0 : Heap} {g : Sg} {pc : Nat} {ls : Array Slot} {rest : List Value} {tys : List (ClassId × FieldType)}
theorem z_getI {ci k r j N pos ad index : Nat} {Cn : String} {T : u_T} (C : Cx p m c cc nL s args own D tys) (hz : Zs D w A H0 H locs g) (hf : fI w pos ad ci k r j) (hc : vwCl[ci]? = some (Cn, T, N)) (hin : ∀ x ∈ u_ws Cn T N, x ∈ wsA) (hk : k < N) (hl : Cond.fieldLink own index (T k).1 (T k).2.1 (T k).2.2.1 ∈ wsA) (hdg : decode cc pc = .ok (.getfield index, 3))
    (kk : W p l e R s m args below meth c H locs cells slots Q (F0 m (pc + 3) ls (.int (g.1 r j) :: rest))) : W p l e R s m args below meth c H locs cells slots Q (F0 m pc ls (.ref ad :: rest)) := by
  obtain ⟨fs, h1, h2, -⟩ := hf g
  exact va_get C.1.1 C.1.2.1 C.1.2.2.2.2 hin C.1.2.2.2.1 C.2 hz.1 pos h1 hc k hk (C.1.2.2.2.2 _ hl) (fun _ h => h) h2 hdg kk
theorem z_getL {ci k N pos ad index : Nat} {Cn : String} {T : u_T} (C : Cx p m c cc nL s args own D tys) (hz : Zs D w A H0 H locs g) (hf : fL w pos ad ci k) (hc : vwCl[ci]? = some (Cn, T, N)) (hin : ∀ x ∈ u_ws Cn T N, x ∈ wsA) (hk : k < N) (hl : Cond.fieldLink own index (T k).1 (T k).2.1 (T k).2.2.1 ∈ wsA) (hdg : decode cc pc = .ok (.getfield index, 3))
    (kk : W p l e R s m args below meth c H locs cells slots Q (F0 m (pc + 3) ls (.long g.2 :: rest))) : W p l e R s m args below meth c H locs cells slots Q (F0 m pc ls (.ref ad :: rest)) := by
  obtain ⟨fs, h1, h2, -⟩ := hf g
  exact va_get C.1.1 C.1.2.1 C.1.2.2.2.2 hin C.1.2.2.2.1 C.2 hz.1 pos h1 hc k hk (C.1.2.2.2.2 _ hl) (fun _ h => h) h2 hdg kk
theorem z_getR {ci k N pos ad ad2 index : Nat} {Cn : String} {T : u_T} (C : Cx p m c cc nL s args own D tys) (hz : Zs D w A H0 H locs g) (hf : fR w pos ad ci k ad2) (hc : vwCl[ci]? = some (Cn, T, N)) (hin : ∀ x ∈ u_ws Cn T N, x ∈ wsA) (hk : k < N) (hl : Cond.fieldLink own index (T k).1 (T k).2.1 (T k).2.2.1 ∈ wsA) (hdg : decode cc pc = .ok (.getfield index, 3))
    (kk : W p l e R s m args below meth c H locs cells slots Q (F0 m (pc + 3) ls (.ref ad2 :: rest))) : W p l e R s m args below meth c H locs cells slots Q (F0 m pc ls (.ref ad :: rest)) := by
  obtain ⟨fs, h1, h2⟩ := hf g
  exact va_get C.1.1 C.1.2.1 C.1.2.2.2.2 hin C.1.2.2.2.1 C.2 hz.1 pos h1 hc k hk (C.1.2.2.2.2 _ hl) (fun _ h => h) h2 hdg kk
theorem z_putI {ci k r j N pos ad index : Nat} {Cn : String} {T : u_T} {ty0 : Nat → FieldType} {v : Int32} {g1 : Sg} (C : Cx p m c cc nL s args own D tys) (hz : Zs D w A H0 H locs g) (hf : fI w pos ad ci k r j) (hc : vwCl[ci]? = some (Cn, T, N)) (hin : ∀ x ∈ u_ws Cn T N, x ∈ wsA) (hty : ∀ k, k < N → parseFieldDescriptor (T k).2.2.1 = some (ty0 k)) (hnm : ∀ a, a < N → ∀ b, b < N → a ≠ b → (T a).2.1 ≠ (T b).2.1) (hk : k < N) (hl : Cond.fieldLink own index (T k).1 (T k).2.1 (T k).2.2.1 ∈ wsA) (hfin : (T k).2.2.2 = false) (hn : narrow (ty0 k) (.int v) = .int v) (hfit : Jvm.fits (ty0 k) (.int v) = true) (e1 : g1 = pu g r j v) (hdg : decode cc pc = .ok (.putfield index, 3))
    (kk : ∀ (H1 : Heap) (locs1 : List Loc), Zs D w A H0 H1 locs1 g1 → W p l e R s m args below meth c H1 locs1 cells slots Q (F0 m (pc + 3) ls rest)) : W p l e R s m args below meth c H locs cells slots Q (F0 m pc ls (.int v :: .ref ad :: rest)) := by
  obtain ⟨fs, h1, h2, h3, h4⟩ := hf g
  refine va_put C.1.1 C.1.2.1 C.1.2.2.2.2 hin ty0 hty hnm C.1.2.2.2.1 C.2 hz.1 hz.2.1 hz.2.2.1 pos h1 hc k hk (C.1.2.2.2.2 _ hl) (fun _ h => h) hfin (hty k hk) hn hfit h3 hdg (fun H1 locs1 hP hD hS => ?_)
  rw [h4, ← e1] at hP hD
  exact kk H1 locs1 ⟨hP, hD, hS, hz.2.2.2⟩
theorem z_putL {ci k N pos ad index : Nat} {Cn : String} {T : u_T} {ty0 : Nat → FieldType} {v : Int64} {g1 : Sg} (C : Cx p m c cc nL s args own D tys) (hz : Zs D w A H0 H locs g) (hf : fL w pos ad ci k) (hc : vwCl[ci]? = some (Cn, T, N)) (hin : ∀ x ∈ u_ws Cn T N, x ∈ wsA) (hty : ∀ k, k < N → parseFieldDescriptor (T k).2.2.1 = some (ty0 k)) (hnm : ∀ a, a < N → ∀ b, b < N → a ≠ b → (T a).2.1 ≠ (T b).2.1) (hk : k < N) (hl : Cond.fieldLink own index (T k).1 (T k).2.1 (T k).2.2.1 ∈ wsA) (hfin : (T k).2.2.2 = false) (hn : narrow (ty0 k) (.long v) = .long v) (hfit : Jvm.fits (ty0 k) (.long v) = true) (e1 : g1 = pl g v) (hdg : decode cc pc = .ok (.putfield index, 3))
    (kk : ∀ (H1 : Heap) (locs1 : List Loc), Zs D w A H0 H1 locs1 g1 → W p l e R s m args below meth c H1 locs1 cells slots Q (F0 m (pc + 3) ls rest)) : W p l e R s m args below meth c H locs cells slots Q (F0 m pc ls (.long v :: .ref ad :: rest)) := by
  obtain ⟨fs, h1, h2, h3, h4⟩ := hf g
  refine va_put C.1.1 C.1.2.1 C.1.2.2.2.2 hin ty0 hty hnm C.1.2.2.2.1 C.2 hz.1 hz.2.1 hz.2.2.1 pos h1 hc k hk (C.1.2.2.2.2 _ hl) (fun _ h => h) hfin (hty k hk) hn hfit h3 hdg (fun H1 locs1 hP hD hS => ?_)
  rw [h4, ← e1] at hP hD
  exact kk H1 locs1 ⟨hP, hD, hS, hz.2.2.2⟩
theorem z_iald {pos ad n a : Nat} {i : Int32} (C : Cx p m c cc nL s args own D (tyL cI cZ cB)) (hz : Zs D w A H0 H locs g) (hf : aI w cI pos ad n a) (hin : vp_in i n) (hdg : decode cc pc = .ok (.iaload, 1))
    (kk : W p l e R s m args below meth c H locs cells slots Q (F0 m (pc + 1) ls (.int (g.1 a i.toNatClampNeg) :: rest))) : W p l e R s m args below meth c H locs cells slots Q (F0 m pc ls (.int i :: .ref ad :: rest)) :=
  va_iald C.1.1 C.1.2.1 C.2 hz.1 pos 0 (hf g).1 rfl hin hdg kk
theorem z_zald {pos ad n a : Nat} {i : Int32} (C : Cx p m c cc nL s args own D (tyL cI cZ cB)) (hz : Zs D w A H0 H locs g) (hf : aI w cZ pos ad n a) (hin : vp_in i n) (hdg : decode cc pc = .ok (.baload, 1))
    (kk : W p l e R s m args below meth c H locs cells slots Q (F0 m (pc + 1) ls (.int (g.1 a i.toNatClampNeg) :: rest))) : W p l e R s m args below meth c H locs cells slots Q (F0 m pc ls (.int i :: .ref ad :: rest)) :=
  va_zald C.1.1 C.1.2.1 C.2 hz.1 pos 1 (hf g).1 rfl hin hdg kk
theorem z_aald {pos ad n : Nat} {f : Nat → Nat} {i : Int32} (C : Cx p m c cc nL s args own D (tyL cI cZ cB)) (hz : Zs D w A H0 H locs g) (hf : aQ w cB pos ad n f) (hin : vp_in i n) (hdg : decode cc pc = .ok (.aaload, 1))
    (kk : W p l e R s m args below meth c H locs cells slots Q (F0 m (pc + 1) ls (.ref (f i.toNatClampNeg) :: rest))) : W p l e R s m args below meth c H locs cells slots Q (F0 m pc ls (.int i :: .ref ad :: rest)) :=
  va_aldq C.1.1 C.1.2.1 C.2 hz.1 pos 2 (hf g) rfl hin hdg kk
theorem z_iast {pos ad n a : Nat} {i v : Int32} {g1 : Sg} (C : Cx p m c cc nL s args own D (tyL cI cZ cB)) (hz : Zs D w A H0 H locs g) (hf : aI w cI pos ad n a) (hin : vp_in i n) (e1 : g1 = pu g a i.toNatClampNeg v) (hdg : decode cc pc = .ok (.iastore, 1))
    (kk : ∀ (H1 : Heap) (locs1 : List Loc), Zs D w A H0 H1 locs1 g1 → W p l e R s m args below meth c H1 locs1 cells slots Q (F0 m (pc + 1) ls rest)) : W p l e R s m args below meth c H locs cells slots Q (F0 m pc ls (.int v :: .int i :: .ref ad :: rest)) := by
  refine va_iast C.1.1 C.1.2.1 C.2 hz.1 hz.2.1 hz.2.2.1 pos 0 (hf g).1 rfl hin hdg (fun H1 locs1 hP hD hS => ?_)
  rw [(hf g).2] at hP hD
  have e2 : g1 = pr g a (upd (g.1 a) i.toNatClampNeg v) := e1
  rw [← e2] at hP hD
  exact kk H1 locs1 ⟨hP, hD, hS, hz.2.2.2⟩
theorem z_zast {pos ad n a : Nat} {i v : Int32} {g1 : Sg} (C : Cx p m c cc nL s args own D (tyL cI cZ cB)) (hz : Zs D w A H0 H locs g) (hf : aI w cZ pos ad n a) (hin : vp_in i n) (hv : vp_nar .boolean v = v) (e1 : g1 = pu g a i.toNatClampNeg v) (hdg : decode cc pc = .ok (.bastore, 1))
    (kk : ∀ (H1 : Heap) (locs1 : List Loc), Zs D w A H0 H1 locs1 g1 → W p l e R s m args below meth c H1 locs1 cells slots Q (F0 m (pc + 1) ls rest)) : W p l e R s m args below meth c H locs cells slots Q (F0 m pc ls (.int v :: .int i :: .ref ad :: rest)) := by
  refine va_zast C.1.1 C.1.2.1 C.2 hz.1 hz.2.1 hz.2.2.1 pos 1 (hf g).1 rfl hin hdg (fun H1 locs1 hP hD hS => ?_)
  rw [(hf g).2, hv] at hP hD
  have e2 : g1 = pr g a (upd (g.1 a) i.toNatClampNeg v) := e1
  rw [← e2] at hP hD
  exact kk H1 locs1 ⟨hP, hD, hS, hz.2.2.2⟩
theorem z_alen {pos ad n a : Nat} {v : Int32} (C : Cx p m c cc nL s args own D (tyL cI cZ cB)) (hz : Zs D w A H0 H locs g) (hf : aI w cI pos ad n a) (hv : Int32.ofNat n = v) (hdg : decode cc pc = .ok (.arraylength, 1))
    (kk : W p l e R s m args below meth c H locs cells slots Q (F0 m (pc + 1) ls (.int v :: rest))) : W p l e R s m args below meth c H locs cells slots Q (F0 m pc ls (.ref ad :: rest)) :=
  va_alen C.1.1 C.1.2.1 C.2 hz.1 pos 0 (hf g).1 rfl hv hdg kk
theorem z_copy {pos0 pos1 ad0 ad1 n0 n1 a0 a1 N index : Nat} {n : Int32} {g1 : Sg} (C : Cx p m c cc nL s args own D (tyL cI cZ cB)) (hz : Zs D w A H0 H locs g) (hf0 : aI w cI pos0 ad0 n0 a0) (hf1 : aI w cI pos1 ad1 n1 a1) (hsz : ls.size = nL) (hl : Cond.methodLink own index arraycopyName ∈ wsA) (hnat : Cond.native arraycopyName ∈ wsA) (hstat : Cond.static arraycopyName ∈ wsA) (hini : Cond.initialized "java/lang/System" ∈ wsA) (hN : n.toNatClampNeg = N) (h3 : ¬ n < 0) (h4 : N ≤ n0) (h5 : N ≤ n1) (hframes : 1 ≤ R.frames) (hlocals : (rest.map fun v => v.category).sum + (nativeFrameWords "java/lang/System" "arraycopy" 5 + 11) ≤ R.locals) (e1 : g1 = pr g a1 (va_cpy (g.1 a0) (g.1 a1) 0 0 N)) (hdg : decode cc pc = .ok (.invokestatic index, 3))
    (kk : ∀ (H1 : Heap) (locs1 : List Loc), Zs D w A H0 H1 locs1 g1 → W p l e R s m args below meth c H1 locs1 cells slots Q (F0 m (pc + 3) ls rest)) : W p l e R s m args below meth c H locs cells slots Q (F0 m pc ls (.int n :: .int 0 :: .ref ad1 :: .int 0 :: .ref ad0 :: rest)) := by
  have hts := C.1.2.2.2.2
  refine va_copyi C.1.1 C.1.2.1 (C.1.2.2.1.trans hsz.symm) C.1.2.2.2.1 (hts _ hl) (hts _ hnat) (hts _ hstat) (hts _ hini) C.2 hz.1 hz.2.1 hz.2.2.1 pos0 pos1 0 0 (hf0 g).1 (hf1 g).1 rfl rfl rfl (by decide) (by decide) h3 (by rw [hN]; show 0 + N ≤ n0; omega) (by rw [hN]; show 0 + N ≤ n1; omega) (fun i _ => rfl) hframes hlocals hdg (fun H1 locs1 hP hD hS => ?_)
  rw [(hf1 g).2, hN] at hP hD
  have e2 : g1 = pr g a1 (va_cpy (g.1 a0) (g.1 a1) (0 : Int32).toNatClampNeg (0 : Int32).toNatClampNeg N) := e1
  rw [← e2] at hP hD
  exact kk H1 locs1 ⟨hP, hD, hS, hz.2.2.2⟩
theorem z_max {index : Nat} {x y : Int32} (C : Cx p m c cc nL s args own D tys) (hsz : ls.size = nL) (hl : Cond.methodLink own index Lib.Math.max.name ∈ wsA) (hstat : Cond.static Lib.Math.max.name ∈ wsA) (hini : Cond.initialized "java/lang/Math" ∈ wsA) (hcode : Cond.code Lib.Math.max.name Lib.Math.max.code 2 (some .int) ∈ wsA) (hframes : 1 ≤ R.frames) (hlocals : (rest.map fun v => v.category).sum + 13 ≤ R.locals) (hc : cells ≤ R.cells) (hs : slots ≤ R.slots) (hdg : decode cc pc = .ok (.invokestatic index, 3))
    (kk : W p l e R s m args below meth c H locs cells slots Q (F0 m (pc + 3) ls (.int (if x < y then y else x) :: rest))) : W p l e R s m args below meth c H locs cells slots Q (F0 m pc ls (.int y :: .int x :: rest)) :=
  va_mmax C.1.1 C.1.2.1 (C.1.2.2.1.trans hsz.symm) C.1.2.2.2.1 (C.1.2.2.2.2 _ hl) (C.1.2.2.2.2 _ hstat) (C.1.2.2.2.2 _ hini) (C.1.2.2.2.2 _ hcode) hframes hlocals hc hs hdg kk
theorem z_min {index : Nat} {x y : Int32} (C : Cx p m c cc nL s args own D tys) (hsz : ls.size = nL) (hl : Cond.methodLink own index Lib.Math.min.name ∈ wsA) (hstat : Cond.static Lib.Math.min.name ∈ wsA) (hini : Cond.initialized "java/lang/Math" ∈ wsA) (hcode : Cond.code Lib.Math.min.name Lib.Math.min.code 2 (some .int) ∈ wsA) (hframes : 1 ≤ R.frames) (hlocals : (rest.map fun v => v.category).sum + 13 ≤ R.locals) (hc : cells ≤ R.cells) (hs : slots ≤ R.slots) (hdg : decode cc pc = .ok (.invokestatic index, 3))
    (kk : W p l e R s m args below meth c H locs cells slots Q (F0 m (pc + 3) ls (.int (if y < x then y else x) :: rest))) : W p l e R s m args below meth c H locs cells slots Q (F0 m pc ls (.int y :: .int x :: rest)) :=
  va_mmin C.1.1 C.1.2.1 (C.1.2.2.1.trans hsz.symm) C.1.2.2.2.1 (C.1.2.2.2.2 _ hl) (C.1.2.2.2.2 _ hstat) (C.1.2.2.2.2 _ hini) (C.1.2.2.2.2 _ hcode) hframes hlocals hc hs hdg kk
theorem z_ldc {index : Nat} {v : Int32} (C : Cx p m c cc nL s args own D tys) (hl : Cond.constant own index v ∈ wsA) (hdg : decode cc pc = .ok (.ldc index, 2))
    (kk : W p l e R s m args below meth c H locs cells slots Q (F0 m (pc + 2) ls (.int v :: rest))) : W p l e R s m args below meth c H locs cells slots Q (F0 m pc ls rest) :=
  lv_ldc C.1.1 C.1.2.1 C.1.2.2.2.1 (C.1.2.2.2.2 _ hl) hdg kk
theorem z_ldcw {index : Nat} {v : Int32} (C : Cx p m c cc nL s args own D tys) (hl : Cond.constant own index v ∈ wsA) (hdg : decode cc pc = .ok (.ldc_w index, 3))
    (kk : W p l e R s m args below meth c H locs cells slots Q (F0 m (pc + 3) ls (.int v :: rest))) : W p l e R s m args below meth c H locs cells slots Q (F0 m pc ls rest) :=
  lv_ldcw C.1.1 C.1.2.1 C.1.2.2.2.1 (C.1.2.2.2.2 _ hl) hdg kk
theorem z_ldc2 {index : Nat} {v : Int64} (C : Cx p m c cc nL s args own D tys) (hl : Cond.constantLong own index v ∈ wsA) (hdg : decode cc pc = .ok (.ldc2_w index, 3))
    (kk : W p l e R s m args below meth c H locs cells slots Q (F0 m (pc + 3) ls (.long v :: rest))) : W p l e R s m args below meth c H locs cells slots Q (F0 m pc ls rest) :=
  lv_ldc2 C.1.1 C.1.2.1 C.1.2.2.2.1 (C.1.2.2.2.2 _ hl) hdg kk
end RZ
theorem vpl {n N : Nat} {i : Int32} (hi : i = nI n) (h : n < N ∧ N < 2147483648) : vp_in i N := hi ▸ vp_in_nI h.1 h.2
section RY
variable {p : Program} {l : Launch} {e : Env} {R : Room} {s : State} {m : MethodId} {args : Array Value} {below : List Frame} {meth : Method} {c : Code} {H : Heap} {locs : List Loc} {cells slots : Nat} {Q : State → Prop}
variable {cc : ByteArray} {nL : Nat} {own : String} {D : va_G} {cI cZ cB : ClassId} {w : Sg → va_W} {A : Nat → Prop} {H0 : Heap} {g : Sg} {pc : Nat} {ls : Array Slot} {rest : List Value}
theorem z_nm {y x : Int32} (e1 : y = x) (kk : W p l e R s m args below meth c H locs cells slots Q (F0 m pc ls (.int y :: rest))) : W p l e R s m args below meth c H locs cells slots Q (F0 m pc ls (.int x :: rest)) := e1 ▸ kk
theorem z_ialdL {pos ad n a k : Nat} {i : Int32} (C : Cx p m c cc nL s args own D (tyL cI cZ cB)) (hz : Zs D w A H0 H locs g) (hf : aI w cI pos ad n a) (hin : vp_in i n) (hk : i.toNatClampNeg = k) (hdg : decode cc pc = .ok (.iaload, 1))
    (kk : W p l e R s m args below meth c H locs cells slots Q (F0 m (pc + 1) ls (.int (g.1 a k) :: rest))) : W p l e R s m args below meth c H locs cells slots Q (F0 m pc ls (.int i :: .ref ad :: rest)) := by
  subst hk
  exact z_iald C hz hf hin hdg kk
theorem z_zaldL {pos ad n a k : Nat} {i : Int32} (C : Cx p m c cc nL s args own D (tyL cI cZ cB)) (hz : Zs D w A H0 H locs g) (hf : aI w cZ pos ad n a) (hin : vp_in i n) (hk : i.toNatClampNeg = k) (hdg : decode cc pc = .ok (.baload, 1))
    (kk : W p l e R s m args below meth c H locs cells slots Q (F0 m (pc + 1) ls (.int (g.1 a k) :: rest))) : W p l e R s m args below meth c H locs cells slots Q (F0 m pc ls (.int i :: .ref ad :: rest)) := by
  subst hk
  exact z_zald C hz hf hin hdg kk
theorem z_iastL {pos ad n a k : Nat} {i v : Int32} {g1 : Sg} (C : Cx p m c cc nL s args own D (tyL cI cZ cB)) (hz : Zs D w A H0 H locs g) (hf : aI w cI pos ad n a) (hin : vp_in i n) (hk : i.toNatClampNeg = k) (e1 : g1 = pu g a k v) (hdg : decode cc pc = .ok (.iastore, 1))
    (kk : ∀ (H1 : Heap) (locs1 : List Loc), Zs D w A H0 H1 locs1 g1 → W p l e R s m args below meth c H1 locs1 cells slots Q (F0 m (pc + 1) ls rest)) : W p l e R s m args below meth c H locs cells slots Q (F0 m pc ls (.int v :: .int i :: .ref ad :: rest)) := by
  subst hk
  exact z_iast C hz hf hin e1 hdg kk
theorem z_zastL {pos ad n a k : Nat} {i v : Int32} {g1 : Sg} (C : Cx p m c cc nL s args own D (tyL cI cZ cB)) (hz : Zs D w A H0 H locs g) (hf : aI w cZ pos ad n a) (hin : vp_in i n) (hk : i.toNatClampNeg = k) (hv : vp_nar .boolean v = v) (e1 : g1 = pu g a k v) (hdg : decode cc pc = .ok (.bastore, 1))
    (kk : ∀ (H1 : Heap) (locs1 : List Loc), Zs D w A H0 H1 locs1 g1 → W p l e R s m args below meth c H1 locs1 cells slots Q (F0 m (pc + 1) ls rest)) : W p l e R s m args below meth c H locs cells slots Q (F0 m pc ls (.int v :: .int i :: .ref ad :: rest)) := by
  subst hk
  exact z_zast C hz hf hin hv e1 hdg kk
end RY
/-! ===== CALLS and HEADS ===== -/
theorem goodOf {x : Cond} (h : x ∈ wsA) : x ∈ wsA ∧ ((x.onTables && x.keeps) = true ∨ ∃ ty, x = .arrayClass ty) := ⟨h, good_of_word (wsA_good h)⟩
theorem goodCons {c0 : Cond} (h : c0 ∈ wsA) : GoodIn wsA (c0 :: wsA) := fun x hx => goodOf ((List.mem_cons.mp hx).elim (fun e => e ▸ h) id)
theorem lkV.good {own : String} {index : Nat} {y : MethodName} {Cn : String} {bytes : ByteArray} {maxL : Nat} {ret : Option FieldType} {n : Nat} (h : lkV own index y Cn bytes maxL ret n) : GoodIn wsA (wsV own index Cn y (Cond.code y bytes maxL ret :: wsA)) := by
  intro x hx
  unfold wsV at hx
  rcases List.mem_append.mp hx with h1 | h1
  · simp only [List.mem_cons, List.not_mem_nil, or_false] at h1
    rcases h1 with rfl | rfl | rfl | rfl
    · exact goodOf h.2.1
    · exact goodOf h.2.2.1
    · exact goodOf h.2.2.2.1
    · exact goodOf h.2.2.2.2.1
  · exact goodCons h.1 x h1
theorem lkS.good {own : String} {index : Nat} {y : MethodName} {bytes : ByteArray} {maxL : Nat} {ret : Option FieldType} {n : Nat} (h : lkS own index y bytes maxL ret n) : GoodIn wsA (va_wsS own index y (Cond.code y bytes maxL ret :: wsA)) := by
  intro x hx
  unfold va_wsS at hx
  rcases List.mem_append.mp hx with h1 | h1
  · simp only [List.mem_cons, List.not_mem_nil, or_false] at h1
    rcases h1 with rfl | rfl | rfl
    · exact goodOf h.2.1
    · exact goodOf h.2.2.1
    · exact goodOf h.2.2.2.1
  · exact goodCons h.1 x h1
theorem KP_blind {D : va_G} {tys : List (ClassId × FieldType)} {w : Sg → va_W} {sz : Nat} {g : Sg} {av : List Value} : FrameBlind (va_Pc av (KP D tys w sz g)) := fun a U gg mk q => by
  obtain ⟨q0, q1, qP, qK, qD⟩ := q
  exact ⟨q0, q1, qP, va_K.moved (u := U) (U := U.calling gg mk a) (Vm.Alike.refl U.vm) qK, qD⟩
theorem Zs.free {D : va_G} {w : Sg → va_W} {A : Nat → Prop} {H0 H : Heap} {locs : List Loc} {g : Sg} (hz : Zs D w A H0 H locs g) : ∀ q, va_A (w g) H.size q → A q := by
  intro q h
  rcases h with ⟨k, e, h⟩ | h
  · exact hz.2.1.2 k _ h
  · exact hz.2.2.2 q (Nat.le_trans hz.2.2.1.1 h)
section RC
variable {p : Program} {l : Launch} {e : Env} {R : Room} {s : State} {m : MethodId} {args : Array Value} {below : List Frame} {meth : Method} {c : Code} {H : Heap} {locs : List Loc} {cells slots : Nat} {Q : State → Prop}
variable {cc : ByteArray} {nL : Nat} {own : String} {D : va_G} {w : Sg → va_W} {A : Nat → Prop} {g : Sg} {pc : Nat} {ls : Array Slot} {rest : List Value} {tys : List (ClassId × FieldType)}
theorem z_pre {av : List Value} (C : Cx p m c cc nL s args own D tys) (hz : Zs D w A s.heap H locs g) : ∀ U : State, U.heap = H → s.WarmedH U.vm → va_Pc av (KP D tys w H.size g) av.toArray U := fun U hU hW => ⟨rfl, by rw [hU], by rw [hU]; exact hz.1, va_K.moved hW.alike C.2, hz.2.1.weaken (fun _ _ _ _ => trivial)⟩
theorem z_recv {b pos ci : Nat} {Cn : String} (C : Cx p m c cc nL s args own D tys) (hz : Zs D w A s.heap H locs g) (ho : oB w pos b ci) (hc : (vwCl[ci]?).map (fun q => q.1) = some Cn) : ∃ cellB : Cell, H[b]? = some cellB ∧ cellB.vm.isStatics = false ∧ s.vm.findClass Cn = some cellB.cls := by
  obtain ⟨fs, h1⟩ := ho g
  cases hq : vwCl[ci]? with
  | none => rw [hq] at hc; cases hc
  | some q =>
    rw [hq] at hc
    cases hc
    exact va_recv C.2 hz.1 hq h1
theorem z_VI {y : MethodName} {bytes : ByteArray} {maxL n index : Nat} {ret : Option FieldType} {rm : Room} {Cn : String} {b pos ci : Nat} {As stk : List Value} {r : Int32} {g1 : Sg} (C : Cx p m c cc nL s args own D tys) (hM : KI l D tys w y bytes maxL ret rm (.ref b :: As) g r g1) (lk : lkV own index y Cn bytes maxL ret n) (hrm : rm.cells = 0 ∧ rm.slots = 0 ∧ rm.frames + 1 ≤ R.frames ∧ 8 + (maxL + 11) + rm.locals ≤ R.locals) (hcl : cells ≤ R.cells ∧ slots ≤ R.slots) (ho : oB w pos b ci) (hc : (vwCl[ci]?).map (fun q => q.1) = some Cn) (hn : As.length = n) (hcap : (rest.map fun v => v.category).sum ≤ 8) (hst : stk = As.reverse ++ .ref b :: rest) (hsz : ls.size = nL) (hdg : decode cc pc = .ok (.invokevirtual index, 3)) (hz : Zs D w A s.heap H locs g)
    (kk : ∀ (H1 : Heap) (locs1 : List Loc), Zs D w A s.heap H1 locs1 g1 → W p l e R s m args below meth c H1 locs1 cells slots Q (F0 m (pc + 3) ls (.int r :: rest))) : W p l e R s m args below meth c H locs cells slots Q (F0 m pc ls stk) := by
  subst hst
  have hF := hz.free
  refine va_calli (va_runV (As := As) (rest := rest) C.1 (hM H.size) (cwV n C.1.2.2.2.2 lk.good rfl hrm.1 hrm.2.1 lk.2.2.2.2.2 hrm.2.2) ⟨KP_blind, z_recv C hz ho hc, z_pre C hz⟩ rfl hn hsz rfl (lv_room hcap) hdg hcl) hz.2.2.1 (fun q _ h => hF q h) hF (fun x v t H1 locs1 ht hvm hw hB hz1 hk1 hS => ?_)
  obtain ⟨rfl, rfl⟩ := hw
  exact kk H1 locs1 ⟨ht ▸ hB.1, hB.2.2.weaken (fun _ q _ h => hF q.1 h), hS, hz.2.2.2⟩
theorem z_VL {y : MethodName} {bytes : ByteArray} {maxL n index : Nat} {ret : Option FieldType} {rm : Room} {Cn : String} {b pos ci : Nat} {As stk : List Value} {r : Int64} {g1 : Sg} (C : Cx p m c cc nL s args own D tys) (hM : KL l D tys w y bytes maxL ret rm (.ref b :: As) g r g1) (lk : lkV own index y Cn bytes maxL ret n) (hrm : rm.cells = 0 ∧ rm.slots = 0 ∧ rm.frames + 1 ≤ R.frames ∧ 8 + (maxL + 11) + rm.locals ≤ R.locals) (hcl : cells ≤ R.cells ∧ slots ≤ R.slots) (ho : oB w pos b ci) (hc : (vwCl[ci]?).map (fun q => q.1) = some Cn) (hn : As.length = n) (hcap : (rest.map fun v => v.category).sum ≤ 8) (hst : stk = As.reverse ++ .ref b :: rest) (hsz : ls.size = nL) (hdg : decode cc pc = .ok (.invokevirtual index, 3)) (hz : Zs D w A s.heap H locs g)
    (kk : ∀ (H1 : Heap) (locs1 : List Loc), Zs D w A s.heap H1 locs1 g1 → W p l e R s m args below meth c H1 locs1 cells slots Q (F0 m (pc + 3) ls (.long r :: rest))) : W p l e R s m args below meth c H locs cells slots Q (F0 m pc ls stk) := by
  subst hst
  have hF := hz.free
  refine va_calll (va_runV (As := As) (rest := rest) C.1 (hM H.size) (cwV n C.1.2.2.2.2 lk.good rfl hrm.1 hrm.2.1 lk.2.2.2.2.2 hrm.2.2) ⟨KP_blind, z_recv C hz ho hc, z_pre C hz⟩ rfl hn hsz rfl (lv_room hcap) hdg hcl) hz.2.2.1 (fun q _ h => hF q h) hF (fun x v t H1 locs1 ht hvm hw hB hz1 hk1 hS => ?_)
  obtain ⟨rfl, rfl⟩ := hw
  exact kk H1 locs1 ⟨ht ▸ hB.1, hB.2.2.weaken (fun _ q _ h => hF q.1 h), hS, hz.2.2.2⟩
theorem z_VV {y : MethodName} {bytes : ByteArray} {maxL n index : Nat} {ret : Option FieldType} {rm : Room} {Cn : String} {b pos ci : Nat} {As stk : List Value} {g1 : Sg} (C : Cx p m c cc nL s args own D tys) (hM : KV l D tys w y bytes maxL ret rm (.ref b :: As) g g1) (lk : lkV own index y Cn bytes maxL ret n) (hrm : rm.cells = 0 ∧ rm.slots = 0 ∧ rm.frames + 1 ≤ R.frames ∧ 8 + (maxL + 11) + rm.locals ≤ R.locals) (hcl : cells ≤ R.cells ∧ slots ≤ R.slots) (ho : oB w pos b ci) (hc : (vwCl[ci]?).map (fun q => q.1) = some Cn) (hn : As.length = n) (hcap : (rest.map fun v => v.category).sum ≤ 8) (hst : stk = As.reverse ++ .ref b :: rest) (hsz : ls.size = nL) (hdg : decode cc pc = .ok (.invokevirtual index, 3)) (hz : Zs D w A s.heap H locs g)
    (kk : ∀ (H1 : Heap) (locs1 : List Loc), Zs D w A s.heap H1 locs1 g1 → W p l e R s m args below meth c H1 locs1 cells slots Q (F0 m (pc + 3) ls rest)) : W p l e R s m args below meth c H locs cells slots Q (F0 m pc ls stk) := by
  subst hst
  have hF := hz.free
  refine va_callv (va_runV (As := As) (rest := rest) C.1 (hM H.size) (cwV n C.1.2.2.2.2 lk.good rfl hrm.1 hrm.2.1 lk.2.2.2.2.2 hrm.2.2) ⟨KP_blind, z_recv C hz ho hc, z_pre C hz⟩ rfl hn hsz rfl (lv_room hcap) hdg hcl) hz.2.2.1 (fun q _ h => hF q h) hF (fun v t H1 locs1 ht hvm hw hB hz1 hk1 hS => ?_)
  subst hw
  exact kk H1 locs1 ⟨ht ▸ hB.1, hB.2.2.weaken (fun _ q _ h => hF q.1 h), hS, hz.2.2.2⟩
theorem z_SI {y : MethodName} {bytes : ByteArray} {maxL n index : Nat} {ret : Option FieldType} {rm : Room} {As stk : List Value} {r : Int32} {g1 : Sg} (C : Cx p m c cc nL s args own D tys) (hM : KI l D tys w y bytes maxL ret rm As g r g1) (lk : lkS own index y bytes maxL ret n) (hrm : rm.cells = 0 ∧ rm.slots = 0 ∧ rm.frames + 1 ≤ R.frames ∧ 8 + (maxL + 11) + rm.locals ≤ R.locals) (hcl : cells ≤ R.cells ∧ slots ≤ R.slots) (hn : As.length = n) (hcap : (rest.map fun v => v.category).sum ≤ 8) (hst : stk = As.reverse ++ rest) (hsz : ls.size = nL) (hdg : decode cc pc = .ok (.invokestatic index, 3)) (hz : Zs D w A s.heap H locs g)
    (kk : ∀ (H1 : Heap) (locs1 : List Loc), Zs D w A s.heap H1 locs1 g1 → W p l e R s m args below meth c H1 locs1 cells slots Q (F0 m (pc + 3) ls (.int r :: rest))) : W p l e R s m args below meth c H locs cells slots Q (F0 m pc ls stk) := by
  subst hst
  have hF := hz.free
  refine va_calli (va_runS (As := As) (rest := rest) C.1 (hM H.size) (va_cwS n C.1.2.2.2.2 lk.good rfl hrm.1 hrm.2.1 lk.2.2.2.2 hrm.2.2) ⟨KP_blind, z_pre C hz⟩ rfl hn hsz rfl (lv_room hcap) hdg hcl) hz.2.2.1 (fun q _ h => hF q h) hF (fun x v t H1 locs1 ht hvm hw hB hz1 hk1 hS => ?_)
  obtain ⟨rfl, rfl⟩ := hw
  exact kk H1 locs1 ⟨ht ▸ hB.1, hB.2.2.weaken (fun _ q _ h => hF q.1 h), hS, hz.2.2.2⟩
end RC
section HEADS
variable {l : Launch} {D : va_G} {tys : List (ClassId × FieldType)} {w : Sg → va_W} {y : MethodName} {cc : ByteArray} {nL : Nat} {rm : Room} {av : List Value} {g g1 : Sg} {own : String}
theorem KI_mk {r : Int32} (hy : plainName y.cls = true) (ho : y.cls = own) (hlen : (lg_sl av).length ≤ nL)
    (body : ∀ (p : Program) (e : Env) (s : State) (m : MethodId) (below : List Frame) (meth : Method) (c : Code) (A : Nat → Prop) (Q : State → Prop) (ls : Array Slot), Cx p m c cc nL s av.toArray own D tys → EndI p l e rm s m av.toArray below meth c Q D w A cc (r, g1) → Zs D w A s.heap s.heap [] g → lv_has ls nL (lv_args 0 av) → W p l e rm s m av.toArray below meth c s.heap [] 0 0 Q (F0 m 0 ls [])) : KI l D tys w y cc nL (some .int) rm av g r g1 := by
  intro sz
  refine Met.ofW (cc := cc) (maxL := nL) (ret := some .int) hy rfl ?_
  intro p e s m args below meth c s₁ B hml hv
  obtain ⟨rfl, hsz, hP, hK, hD0⟩ := hv
  have hts := atoms_spec (ws := Cond.code y cc nL (some .int) :: wsA) B.pre
  have hown' : s.vm.findClass own = some m.cls := ho ▸ findClass_of_methodNamed B.named
  subst hsz
  have hl := lv_entry av (n := nL) hlen
  rw [lg_entry_eq]
  refine body p e s m below meth c (va_A (w g) s.heap.size) _ _ ⟨⟨B.exec, B.bytes, hml, hown', fun x hx => hts x (List.mem_cons_of_mem _ hx)⟩, hK⟩ ?_ ⟨hP, hD0.self, va_S.rf, fun q h => Or.inr h⟩ hl
  intro x g2 H locs pc ls he hz hdg
  cases he
  exact W.iret (v := r) B.exec B.bytes B.returns (fun t ht hW => ⟨⟨r, g1, rfl, ⟨rfl, rfl⟩, by rw [ht]; exact hz.1, va_K.moved hW.alike hK, hz.2.1⟩, hz.2.2.1.F ht⟩) hz.2.2.1.2.2 hdg B.notSynchronized
theorem KZ_mk {r : Int32} (hy : plainName y.cls = true) (ho : y.cls = own) (hlen : (lg_sl av).length ≤ nL)
    (body : ∀ (p : Program) (e : Env) (s : State) (m : MethodId) (below : List Frame) (meth : Method) (c : Code) (A : Nat → Prop) (Q : State → Prop) (ls : Array Slot), Cx p m c cc nL s av.toArray own D tys → EndZ p l e rm s m av.toArray below meth c Q D w A cc (r, g1) → Zs D w A s.heap s.heap [] g → lv_has ls nL (lv_args 0 av) → W p l e rm s m av.toArray below meth c s.heap [] 0 0 Q (F0 m 0 ls [])) : KI l D tys w y cc nL (some .boolean) rm av g r g1 := by
  intro sz
  refine Met.ofW (cc := cc) (maxL := nL) (ret := some .boolean) hy rfl ?_
  intro p e s m args below meth c s₁ B hml hv
  obtain ⟨rfl, hsz, hP, hK, hD0⟩ := hv
  have hts := atoms_spec (ws := Cond.code y cc nL (some .boolean) :: wsA) B.pre
  have hown' : s.vm.findClass own = some m.cls := ho ▸ findClass_of_methodNamed B.named
  subst hsz
  have hl := lv_entry av (n := nL) hlen
  rw [lg_entry_eq]
  refine body p e s m below meth c (va_A (w g) s.heap.size) _ _ ⟨⟨B.exec, B.bytes, hml, hown', fun x hx => hts x (List.mem_cons_of_mem _ hx)⟩, hK⟩ ?_ ⟨hP, hD0.self, va_S.rf, fun q h => Or.inr h⟩ hl
  intro x g2 H locs pc ls he hz hdg
  obtain ⟨hx01, he⟩ := rz_spec he
  cases he
  exact W.zret (v := r) (ty := .boolean) B.exec B.bytes B.returns (by rcases hx01 with rfl | rfl <;> rfl) (fun t ht hW => ⟨⟨r, g1, rfl, ⟨rfl, rfl⟩, by rw [ht]; exact hz.1, va_K.moved hW.alike hK, hz.2.1⟩, hz.2.2.1.F ht⟩) hz.2.2.1.2.2 hdg B.notSynchronized
theorem KL_mk {r : Int64} (hy : plainName y.cls = true) (ho : y.cls = own) (hlen : (lg_sl av).length ≤ nL)
    (body : ∀ (p : Program) (e : Env) (s : State) (m : MethodId) (below : List Frame) (meth : Method) (c : Code) (A : Nat → Prop) (Q : State → Prop) (ls : Array Slot), Cx p m c cc nL s av.toArray own D tys → EndL p l e rm s m av.toArray below meth c Q D w A cc (r, g1) → Zs D w A s.heap s.heap [] g → lv_has ls nL (lv_args 0 av) → W p l e rm s m av.toArray below meth c s.heap [] 0 0 Q (F0 m 0 ls [])) : KL l D tys w y cc nL (some .long) rm av g r g1 := by
  intro sz
  refine Met.ofW (cc := cc) (maxL := nL) (ret := some .long) hy rfl ?_
  intro p e s m args below meth c s₁ B hml hv
  obtain ⟨rfl, hsz, hP, hK, hD0⟩ := hv
  have hts := atoms_spec (ws := Cond.code y cc nL (some .long) :: wsA) B.pre
  have hown' : s.vm.findClass own = some m.cls := ho ▸ findClass_of_methodNamed B.named
  subst hsz
  have hl := lv_entry av (n := nL) hlen
  rw [lg_entry_eq]
  refine body p e s m below meth c (va_A (w g) s.heap.size) _ _ ⟨⟨B.exec, B.bytes, hml, hown', fun x hx => hts x (List.mem_cons_of_mem _ hx)⟩, hK⟩ ?_ ⟨hP, hD0.self, va_S.rf, fun q h => Or.inr h⟩ hl
  intro x g2 H locs pc ls he hz hdg
  cases he
  exact W.lret (v := r) B.exec B.bytes B.returns (fun t ht hW => ⟨⟨r, g1, rfl, ⟨rfl, rfl⟩, by rw [ht]; exact hz.1, va_K.moved hW.alike hK, hz.2.1⟩, hz.2.2.1.F ht⟩) hz.2.2.1.2.2 hdg B.notSynchronized
theorem KV_mk (hy : plainName y.cls = true) (ho : y.cls = own) (hlen : (lg_sl av).length ≤ nL)
    (body : ∀ (p : Program) (e : Env) (s : State) (m : MethodId) (below : List Frame) (meth : Method) (c : Code) (A : Nat → Prop) (Q : State → Prop) (ls : Array Slot), Cx p m c cc nL s av.toArray own D tys → EndV p l e rm s m av.toArray below meth c Q D w A cc g1 → Zs D w A s.heap s.heap [] g → lv_has ls nL (lv_args 0 av) → W p l e rm s m av.toArray below meth c s.heap [] 0 0 Q (F0 m 0 ls [])) : KV l D tys w y cc nL none rm av g g1 := by
  intro sz
  refine Met.ofW (cc := cc) (maxL := nL) (ret := none) hy rfl ?_
  intro p e s m args below meth c s₁ B hml hv
  obtain ⟨rfl, hsz, hP, hK, hD0⟩ := hv
  have hts := atoms_spec (ws := Cond.code y cc nL none :: wsA) B.pre
  have hown' : s.vm.findClass own = some m.cls := ho ▸ findClass_of_methodNamed B.named
  subst hsz
  have hl := lv_entry av (n := nL) hlen
  rw [lg_entry_eq]
  refine body p e s m below meth c (va_A (w g) s.heap.size) _ _ ⟨⟨B.exec, B.bytes, hml, hown', fun x hx => hts x (List.mem_cons_of_mem _ hx)⟩, hK⟩ ?_ ⟨hP, hD0.self, va_S.rf, fun q h => Or.inr h⟩ hl
  intro g2 H locs pc ls he hz hdg
  subst he
  exact W.vret B.exec B.bytes B.returns (fun t ht hW => ⟨⟨g2, rfl, rfl, by rw [ht]; exact hz.1, va_K.moved hW.alike hK, hz.2.1⟩, hz.2.2.1.F ht⟩) hz.2.2.1.2.2 hdg B.notSynchronized
end HEADS
