/-! ===== order ===== -/
def pick (due : Nat → Nat) (k : Nat) (o : Option Nat) : Option Nat := match o with
  | none => some k
  | some j => if due j ≤ due k then some j else some k
def soon (due : Nat → Nat) (s : Nat) : Nat → Nat → Option Nat → Option Nat
  | 0, _, o => o
  | n + 1, k, o => soon due s n (k + 1) (if s.testBit k = true then pick due k o else o)
def oD (due : Nat → Nat) (o : Option Nat) : Int32 := match o with
  | none => 100
  | some j => nI (due j)
theorem soon_off {due : Nat → Nat} {s Q : Nat} (hb : ∀ i, s.testBit i = true → i < Q) : ∀ n k o, Q ≤ k → soon due s n k o = o
  | 0, _, _, _ => rfl
  | n + 1, k, o, h => by
    rw [soon, if_neg (fun z => by have := hb k z; omega)]
    exact soon_off hb n (k + 1) o (by omega)
theorem soon_cut {due : Nat → Nat} {s Q : Nat} (hb : ∀ i, s.testBit i = true → i < Q) : ∀ n m k o, k + n = Q → soon due s (n + m) k o = soon due s n k o
  | 0, m, k, o, h => by rw [Nat.zero_add]; exact soon_off hb m k o (by omega)
  | n + 1, m, k, o, h => by
    rw [show n + 1 + m = (n + m) + 1 by omega, soon, soon, soon_cut hb n m (k + 1) _ (by omega)]
theorem soon_in {due : Nat → Nat} {s : Nat} : ∀ (n k : Nat) (o : Option Nat) (j : Nat), (∀ j, o = some j → s.testBit j = true) → soon due s n k o = some j → s.testBit j = true
  | 0, _, _, j, ho, h => ho j h
  | n + 1, k, o, j, ho, h => by
    rw [soon] at h
    refine soon_in n (k + 1) _ j (fun i hi => ?_) h
    by_cases e : s.testBit k = true
    · rw [if_pos e] at hi
      cases o with
      | none => exact Option.some.inj hi ▸ e
      | some q =>
        by_cases l : due q ≤ due k
        · have hi' : (if due q ≤ due k then some q else some k) = some i := hi
          rw [if_pos l] at hi'
          exact ho i hi'
        · have hi' : (if due q ≤ due k then some q else some k) = some i := hi
          rw [if_neg l] at hi'
          exact Option.some.inj hi' ▸ e
    · rw [if_neg e] at hi
      exact ho i hi
theorem soon_some {due : Nat → Nat} {s : Nat} : ∀ (n k : Nat) (o : Option Nat), (o ≠ none ∨ ∃ i, k ≤ i ∧ i < k + n ∧ s.testBit i = true) → soon due s n k o ≠ none
  | 0, k, o, h => by
    rcases h with h | ⟨i, h1, h2, -⟩
    · exact h
    · omega
  | n + 1, k, o, h => by
    rw [soon]
    refine soon_some n (k + 1) _ ?_
    by_cases e : s.testBit k = true
    · rw [if_pos e]
      left
      cases o with
      | none =>
        intro z
        have z' : some k = none := z
        cases z'
      | some q =>
        show (if due q ≤ due k then some q else some k) ≠ none
        split <;> exact fun z => absurd z (by simp)
    · rw [if_neg e]
      rcases h with h | ⟨i, h1, h2, h3⟩
      · exact Or.inl h
      · refine Or.inr ⟨i, ?_, by omega, h3⟩
        have : i ≠ k := fun q => e (q ▸ h3)
        omega
theorem soon_x {gx : Sg} {s Q : Nat} {due : Nat → Nat} (hs : s < 256) (hb : ∀ i, s.testBit i = true → i < Q) (hd : ∀ q, due q ≤ 99) (h : ∀ q, q < Q → gx.1 86 q = nI (due q)) : ∀ (n k f : Nat) (o : Option Nat), k + n = 8 → n < f → f5_earliestDue_b9 f (nI s) (oI o) (oD due o) (nI k) gx = some (oI (soon due s n k o), gx)
  | 0, k, f + 1, o, hk, _ => by
    obtain rfl : k = 8 := by omega
    rfl
  | n + 1, k, f + 1, o, hk, hf => by
    have ih := fun o => soon_x hs hb hd h n (k + 1) f o (by omega) (by omega)
    have dk := hd k
    unfold f5_earliestDue_b9
    rw [if_neg (show ¬ (8 : Int32) ≤ nI k from nI_ge (b := 8) (by omega) (by omega)), soon]
    have go : ∀ a b : Int32, f5_earliestDue_b53 (f5_earliestDue_b9 f) (nI s) a b (nI k) gx = f5_earliestDue_b9 f (nI s) a b (nI (k + 1)) gx := fun a b => by
      unfold f5_earliestDue_b53
      rw [nx_eq, nI_1]
    by_cases e : s.testBit k = true
    · rw [holds_y hs (by omega) e, bd2_some, if_neg one_ne0.mp, ix_ok (by omega) (by omega), cl (by omega), h k (hb k e), ix_ok (by omega) (by omega), nx_eq, go, go, if_pos e]
      cases o with
      | none =>
        rw [if_neg (show ¬ oD due none ≤ nI (due k) from nI_ge (b := 100) (by omega) (by omega))]
        exact ih (some k)
      | some j =>
        have dj := hd j
        by_cases l : due j ≤ due k
        · rw [if_pos (show oD due (some j) ≤ nI (due k) from nI_le l (by omega))]
          show _ = some (oI (soon due s n (k + 1) (if due j ≤ due k then some j else some k)), gx)
          rw [if_pos l]
          exact ih (some j)
        · rw [if_neg (show ¬ oD due (some j) ≤ nI (due k) from nI_ge (by omega) (by omega))]
          show _ = some (oI (soon due s n (k + 1) (if due j ≤ due k then some j else some k)), gx)
          rw [if_neg l]
          exact ih (some k)
    · rw [holds_n hs (by omega) (Bool.not_eq_true _ ▸ e), bd2_some, if_pos rfl, go, if_neg e]
      exact ih o
theorem soon_m {gm : Sg} {s Q : Nat} {due : Nat → Nat} (hQ : Q ≤ 8) (hm : gm.1 9 1 = nI Q) (hs : s < 256) (hd : ∀ q, due q ≤ 99) (h : ∀ q, q < Q → gm.1 17 q = nI (due q)) : ∀ (n k f : Nat) (o : Option Nat), k + n = Q → n < f → (∀ j, o = some j → j < Q) → f6_soonest_b5 f (nI s) (oI o) (nI k) gm = some (oI (soon due s n k o), gm)
  | 0, k, f + 1, o, hk, _, _ => by
    obtain rfl : k = Q := by omega
    unfold f6_soonest_b5
    simp (disch := omega) only [ix_ok, cl, lit_add, add_lit, lit_mul, mul_lit, nI_add, sub_lit, le_nn, lt_nn, eq_nn, le_ln, lt_ln, le_nl, lt_nl, eq_nl, eq_ln, ne_m9, ne_m1, bd_some, bd2_some, ↓nx_eq, rz0, rz1, one_ne0, ↓reduceIte, if_pos, if_neg, hm]
    rfl
  | n + 1, k, f + 1, o, hk, hf, ho => by
    have ih := fun o => soon_m hQ hm hs hd h n (k + 1) f o (by omega) (by omega)
    have dk := hd k
    unfold f6_soonest_b5
    rw [hm, if_neg (nI_ge (by omega) (by omega)), soon]
    have g50 : ∀ a : Int32, f6_soonest_b50 (f6_soonest_b5 f) (nI s) (nI k) a gm = f6_soonest_b5 f (nI s) a (nI (k + 1)) gm := fun a => by
      unfold f6_soonest_b50
      rw [nx_eq, nI_1]
    unfold f6_soonest_b45 f6_soonest_b49
    rw [g50, g50]
    by_cases e : s.testBit k = true
    · rw [if_pos ((tb_N s hs k (by omega)).2 e), if_pos e]
      cases o with
      | none =>
        rw [if_pos (show oI none = -9 from rfl)]
        exact ih (some k) (fun j hj => by obtain rfl := Option.some.inj hj; omega)
      | some j =>
        have dj := hd j
        have hj := ho j rfl
        rw [if_neg (show ¬ oI (some j) = -9 from (ne_m9 (by omega)).mp), show oI (some j) = nI j from rfl, ix_ok (by omega) (by omega), ix_ok (by omega) (by omega), cl (by omega), cl (by omega), h j hj, h k (by omega)]
        by_cases l : due j ≤ due k
        · rw [if_pos (nI_le l (by omega))]
          show _ = some (oI (soon due s n (k + 1) (if due j ≤ due k then some j else some k)), gm)
          rw [if_pos l]
          exact ih (some j) ho
        · rw [if_neg (nI_ge (by omega) (by omega))]
          show _ = some (oI (soon due s n (k + 1) (if due j ≤ due k then some j else some k)), gm)
          rw [if_neg l]
          exact ih (some k) (fun j hj => by obtain rfl := Option.some.inj hj; omega)
    · rw [if_neg (fun z => e ((tb_N s hs k (by omega)).1 z)), if_neg e]
      exact ih o ho
def sn (due : Nat → Nat) (Q s : Nat) : Option Nat := soon due s Q 0 none
theorem sn_in {due : Nat → Nat} {Q s j : Nat} (h : sn due Q s = some j) : s.testBit j = true := soon_in Q 0 none j (fun j hj => absurd hj (by simp)) h
theorem sn_some {due : Nat → Nat} {Q s i : Nat} (hi : i < Q) (h : s.testBit i = true) : sn due Q s ≠ none := soon_some Q 0 none (Or.inr ⟨i, Nat.zero_le _, by omega, h⟩)
theorem sn_0 {due : Nat → Nat} {Q : Nat} : sn due Q 0 = none := by
  cases e : sn due Q 0 with
  | none => rfl
  | some j =>
    have := sn_in e
    rw [Nat.zero_testBit] at this
    exact absurd this (by decide)
theorem snX {gx : Sg} {s Q : Nat} {due : Nat → Nat} (hQ : Q ≤ 8) (hs : s < 256) (hb : ∀ i, s.testBit i = true → i < Q) (hd : ∀ q, due q ≤ 99) (h : ∀ q, q < Q → gx.1 86 q = nI (due q)) : f5_earliestDue (nI s) gx = some (oI (sn due Q s), gx) := by
  have e := soon_x hs hb hd h 8 0 1000 none (by omega) (by omega)
  have e2 := soon_cut (due := due) hb Q (8 - Q) 0 none (by omega)
  rw [show Q + (8 - Q) = 8 by omega] at e2
  rw [e2] at e
  unfold f5_earliestDue
  exact e
theorem snM {gm : Sg} {s Q : Nat} {due : Nat → Nat} (hQ : Q ≤ 8) (hm : gm.1 9 1 = nI Q) (hs : s < 256) (hd : ∀ q, due q ≤ 99) (h : ∀ q, q < Q → gm.1 17 q = nI (due q)) : f6_soonest (nI s) gm = some (oI (sn due Q s), gm) := by
  unfold f6_soonest
  exact soon_m hQ hm hs hd h Q 0 1000 none (by omega) (by omega) (fun j hj => absurd hj (by simp))
def wo (s r : Nat) : Nat := s &&& (255 - 2 ^ r)
theorem wo_lt {s r : Nat} (h : s < 256) : wo s r < 256 := Nat.lt_of_le_of_lt Nat.and_le_left h
theorem wo_bit {s r i : Nat} (h : (wo s r).testBit i = true) : s.testBit i = true := by
  unfold wo at h
  rw [Nat.testBit_and, Bool.and_eq_true] at h
  exact h.1
theorem wo_N : ∀ s, s < 256 → ∀ r, r < 8 → (nI s &&& (((1 : Int32) <<< (nI r &&& 31)) ^^^ (-1 : Int32))) = nI (wo s r) := by decide +kernel
theorem wo_pc : ∀ s, s < 256 → ∀ r, r < 8 → s.testBit r = true → pc (wo s r) + 1 = pc s := by decide +kernel
theorem pc_0 : ∀ s, s < 256 → (pc s = 0 ↔ s = 0) := by decide +kernel
theorem pc_ex : ∀ s, s < 256 → s ≠ 0 → ∃ i, i < 8 ∧ s.testBit i = true := by decide +kernel
/-- can all of them be done by their due -/
def okD (due spa : Nat → Nat) (Q : Nat) : Nat → Nat → Nat → Bool
  | 0, _, _ => true
  | n + 1, t, s => (sn due Q s).elim true (fun j => if t + spa j ≤ due j then okD due spa Q n (t + spa j) (wo s j) else false)
section OD
variable {gx gm : Sg} {Q : Nat} {due spa : Nat → Nat}
theorem okX (hQ : Q ≤ 8) (hx : gx.1 90 1 = nI Q) (hd : ∀ q, due q ≤ 99) (hp : ∀ q, spa q ≤ 9) (h : ∀ q, q < Q → gx.1 86 q = nI (due q) ∧ gx.1 85 q = nI (spa q)) : ∀ (n t s c f : Nat), s < 256 → (∀ i, s.testBit i = true → i < Q) → pc s = n → c + n ≤ 8 → n < f → t + 9 * n ≤ 2000 → f5_endsByDue_b13 f (nI t) (nI s) (nI c) gx = some (if okD due spa Q n t s then 1 else 0, gx)
  | 0, t, s, c, f + 1, hs, hb, hpc, hc, _, _ => by
    obtain rfl := (pc_0 s hs).1 hpc
    unfold f5_endsByDue_b13
    rw [snX hQ hs hb hd (fun q hq => (h q hq).1), sn_0, bd2_some, show f4_hasPromise (oI none) gx = some (0, gx) from rfl, bd2_some, if_pos rfl]
    split <;> rfl
  | n + 1, t, s, c, f + 1, hs, hb, hpc, hc, hf, ht => by
    have hs0 : s ≠ 0 := fun e => by
      have := (pc_0 s hs).2 e
      omega
    obtain ⟨i, -, hi⟩ := pc_ex s hs hs0
    unfold f5_endsByDue_b13
    rw [if_neg (show ¬ (8 : Int32) ≤ nI c from nI_ge (b := 8) (by omega) (by omega)), snX hQ hs hb hd (fun q hq => (h q hq).1), bd2_some, okD]
    cases e : sn due Q s with
    | none => exact absurd e (sn_some (hb i hi) hi)
    | some j =>
      have hj := sn_in e
      have hjQ := hb j hj
      have dj := hd j
      have pj := hp j
      have w1 := wo_pc s hs j (by omega) hj
      rw [show oI (some j) = nI j from rfl, hasP_y hx hQ hjQ, bd2_some, if_neg one_ne0.mp, ix_ok (by omega) (by omega), cl (by omega), (h j hjQ).2, nI_add, nx_eq, ix_ok (by omega) (by omega), (h j hjQ).1]
      show _ = some (if (if t + spa j ≤ due j then okD due spa Q n (t + spa j) (wo s j) else false) = true then 1 else 0, gx)
      by_cases l : t + spa j ≤ due j
      · rw [if_pos (nI_le l (by omega)), if_pos l]
        unfold f5_without
        rw [if_pos (nI_pos' (by omega)), bd2_some, wo_N s hs j (by omega), nI_1, nx_eq]
        exact okX hQ hx hd hp h n (t + spa j) (wo s j) (c + 1) f (wo_lt hs) (fun i hi => hb i (wo_bit hi)) (by omega) (by omega) (by omega) (by omega)
      · rw [if_neg (nI_ge (by omega) (by omega)), if_neg l]
        rfl
theorem okM0 (hQ : Q ≤ 8) (hm : gm.1 9 1 = nI Q) (hd : ∀ q, due q ≤ 99) (h : ∀ q, q < Q → gm.1 17 q = nI (due q) ∧ gm.1 16 q = nI (spa q)) : ∀ (n s f : Nat) (t : Int32), s < 256 → (∀ i, s.testBit i = true → i < Q) → pc s = n → n < f → f6_canOrder_b12 f t 0 (nI s) gm = some (0, gm)
  | 0, s, f + 1, t, hs, hb, hpc, _ => by
    obtain rfl := (pc_0 s hs).1 hpc
    rfl
  | n + 1, s, f + 1, t, hs, hb, hpc, hf => by
    have hs0 : s ≠ 0 := fun e => by
      have := (pc_0 s hs).2 e
      omega
    obtain ⟨i, -, hi⟩ := pc_ex s hs hs0
    unfold f6_canOrder_b12
    rw [if_neg (fun z => hs0 ((nI_eq (by omega) (by omega)).1 (z.trans nI_0.symm))), snM hQ hm hs hd (fun q hq => (h q hq).1), bd2_some]
    cases e : sn due Q s with
    | none => exact absurd e (sn_some (hb i hi) hi)
    | some j =>
      have hj := sn_in e
      have hjQ := hb j hj
      have w1 := wo_pc s hs j (by omega) hj
      rw [show oI (some j) = nI j from rfl, wo_N s hs j (by omega), nx_eq, ix_ok (by omega) (by omega), nx_eq, if_pos rfl]
      unfold f6_canOrder_b65 f6_canOrder_b66
      exact okM0 hQ hm hd h n (wo s j) f _ (wo_lt hs) (fun i hi => hb i (wo_bit hi)) (by omega) (by omega)
theorem okM (hQ : Q ≤ 8) (hm : gm.1 9 1 = nI Q) (hd : ∀ q, due q ≤ 99) (hp : ∀ q, spa q ≤ 9) (h : ∀ q, q < Q → gm.1 17 q = nI (due q) ∧ gm.1 16 q = nI (spa q)) : ∀ (n t s f : Nat), s < 256 → (∀ i, s.testBit i = true → i < Q) → pc s = n → n < f → t + 9 * n ≤ 2000 → f6_canOrder_b12 f (nI t) 1 (nI s) gm = some (if okD due spa Q n t s then 1 else 0, gm)
  | 0, t, s, f + 1, hs, hb, hpc, _, _ => by
    obtain rfl := (pc_0 s hs).1 hpc
    rfl
  | n + 1, t, s, f + 1, hs, hb, hpc, hf, ht => by
    have hs0 : s ≠ 0 := fun e => by
      have := (pc_0 s hs).2 e
      omega
    obtain ⟨i, -, hi⟩ := pc_ex s hs hs0
    unfold f6_canOrder_b12
    rw [if_neg (fun z => hs0 ((nI_eq (by omega) (by omega)).1 (z.trans nI_0.symm))), snM hQ hm hs hd (fun q hq => (h q hq).1), bd2_some, okD]
    cases e : sn due Q s with
    | none => exact absurd e (sn_some (hb i hi) hi)
    | some j =>
      have hj := sn_in e
      have hjQ := hb j hj
      have dj := hd j
      have pj := hp j
      have w1 := wo_pc s hs j (by omega) hj
      rw [show oI (some j) = nI j from rfl, wo_N s hs j (by omega), nx_eq, ix_ok (by omega) (by omega), cl (by omega), (h j hjQ).2, nI_add, nx_eq, if_neg one_ne0.mp, ix_ok (by omega) (by omega), (h j hjQ).1]
      show _ = some (if (if t + spa j ≤ due j then okD due spa Q n (t + spa j) (wo s j) else false) = true then 1 else 0, gm)
      unfold f6_canOrder_b65 f6_canOrder_b66
      by_cases l : t + spa j ≤ due j
      · rw [if_neg (nI_nlt l (by omega)), if_pos l]
        exact okM hQ hm hd hp h n (t + spa j) (wo s j) f (wo_lt hs) (fun i hi => hb i (wo_bit hi)) (by omega) (by omega) (by omega)
      · rw [if_pos (nI_lt (by omega) (by omega)), if_neg l]
        exact okM0 hQ hm hd h n (wo s j) f _ (wo_lt hs) (fun i hi => hb i (wo_bit hi)) (by omega) (by omega)
end OD
theorem RelX.dues {x m : Nat → Nat → Int32} {P Q A S : Nat} (h : RelX x m P Q A S) : ∃ due : Nat → Nat, (∀ q, due q ≤ 99) ∧ ∀ q, q < Q → x 86 q = nI (due q) ∧ m 17 q = nI (due q) := by
  have k : ∀ q, ∃ v, v ≤ 99 ∧ (q < Q → x 86 q = nI v ∧ m 17 q = nI v) := fun q => by
    by_cases hq : q < Q
    · obtain ⟨e1, v, v9, e2⟩ := h.due hq
      exact ⟨v, by omega, fun _ => ⟨e2, e1.trans e2⟩⟩
    · exact ⟨0, by omega, fun z => absurd z hq⟩
  exact ⟨fun q => (k q).choose, fun q => (k q).choose_spec.1, fun q hq => (k q).choose_spec.2 hq⟩
theorem RelX.spas {x m : Nat → Nat → Int32} {P Q A S : Nat} (h : RelX x m P Q A S) : ∃ spa : Nat → Nat, (∀ q, spa q ≤ 9) ∧ ∀ q, q < Q → x 85 q = nI (spa q) ∧ m 16 q = nI (spa q) := by
  have k : ∀ q, ∃ v, v ≤ 9 ∧ (q < Q → x 85 q = nI v ∧ m 16 q = nI v) := fun q => by
    by_cases hq : q < Q
    · obtain ⟨e1, v, v9, e2⟩ := h.spa hq
      exact ⟨v, by omega, fun _ => ⟨e2, e1.trans e2⟩⟩
    · exact ⟨0, by omega, fun z => absurd z hq⟩
  exact ⟨fun q => (k q).choose, fun q => (k q).choose_spec.1, fun q hq => (k q).choose_spec.2 hq⟩
section OR
variable {gx gm : Sg} {P Q A S : Nat} {due spa : Nat → Nat}
theorem order_go (h : RelX gx.1 gm.1 P Q A S) (hd : ∀ q, due q ≤ 99) (hp : ∀ q, spa q ≤ 9) (hdx : ∀ q, q < Q → gx.1 86 q = nI (due q) ∧ gm.1 17 q = nI (due q)) (hpx : ∀ q, q < Q → gx.1 85 q = nI (spa q) ∧ gm.1 16 q = nI (spa q)) (X : Int32) : ∀ (n k f1 f2 b : Nat), k + n = 256 → n < f1 → n < f2 → b < 256 → b &&& setIs gx.1 1 Q = b → ∃ b', b' < 256 ∧ b' &&& setIs gx.1 1 Q = b' ∧ f5_bestOrdered_b10 f1 (nI (setIs gx.1 1 Q)) (nI b) (nI k) gx = some (nI b', gx) ∧ f6_order_b21 f2 X (nI b) (nI k) gm = (if X = -1 then some (nI (pc b'), gm) else f6_order_b86 1000 X (nI b') 0 gm)
  | 0, k, f1 + 1, f2 + 1, b, hk, _, _, hb, hbs => by
    obtain rfl : k = 256 := by omega
    refine ⟨b, hb, hbs, ?_, ?_⟩
    · unfold f5_bestOrdered_b10
      simp (disch := omega) only [ix_ok, cl, lit_add, add_lit, lit_mul, mul_lit, nI_add, sub_lit, le_nn, lt_nn, eq_nn, le_ln, lt_ln, le_nl, lt_nl, eq_nl, eq_ln, ne_m9, ne_m1, bd_some, bd2_some, ↓nx_eq, rz0, rz1, one_ne0, ↓reduceIte, if_pos, if_neg]
    · unfold f6_order_b21
      rw [if_pos (show (256 : Int32) ≤ nI 256 from by decide), pcM hb, bd2_some]
  | n + 1, k, f1 + 1, f2 + 1, b, hk, h1, h2, hb, hbs => by
    obtain ⟨hx, hm, hQ⟩ := h.Q_
    obtain ⟨y, hy, y1, y2⟩ := h.yr
    have hNlt := setIs_lt (x := gx.1) (c := 1) hQ
    have skip := order_go h hd hp hdx hpx X n (k + 1) f1 f2 b (by omega) (by omega) (by omega) hb hbs
    have take := order_go h hd hp hdx hpx X n (k + 1) f1 f2 k (by omega) (by omega) (by omega) (by omega)
    have pb := pc_le b hb
    have pk := pc_le k (by omega)
    have x46 : ∀ b : Nat, f5_bestOrdered_b46 (f5_bestOrdered_b10 f1) (nI (setIs gx.1 1 Q)) (nI b) (nI k) gx = f5_bestOrdered_b10 f1 (nI (setIs gx.1 1 Q)) (nI b) (nI (k + 1)) gx := fun b => by
      unfold f5_bestOrdered_b46
      rw [nx_eq, nI_1]
    have m64 : ∀ b : Nat, f6_order_b64 (f6_order_b21 f2) X (nI k) (nI b) gm = f6_order_b21 f2 X (nI b) (nI (k + 1)) gm := fun b => by
      unfold f6_order_b64
      rw [nx_eq, nI_1]
    have sx : f5_bestOrdered_b10 (f1 + 1) (nI (setIs gx.1 1 Q)) (nI b) (nI k) gx = if k &&& setIs gx.1 1 Q = k ∧ pc b < pc k ∧ okD due spa Q (pc k) y k = true then f5_bestOrdered_b10 f1 (nI (setIs gx.1 1 Q)) (nI k) (nI (k + 1)) gx else f5_bestOrdered_b10 f1 (nI (setIs gx.1 1 Q)) (nI b) (nI (k + 1)) gx := by
      rw [f5_bestOrdered_b10, if_neg (show ¬ (256 : Int32) ≤ nI k from nI_ge (b := 256) (by omega) (by omega)), x46]
      by_cases q1 : k &&& setIs gx.1 1 Q = k
      · have hkb : ∀ i, k.testBit i = true → i < Q := fun i hi => by
          have := sub_iff.1 q1 i hi
          rw [setIs_bit] at this
          exact (of_decide_eq_true this).1
        rw [if_pos ((tb_lo k (by omega) _ hNlt).2 q1), pcX (by omega), bd2_some, pcX hb, bd2_some]
        by_cases q3 : pc b < pc k
        · have ok : f5_endsByDue (nI k) gx = some (if okD due spa Q (pc k) y k then 1 else 0, gx) := by
            unfold f5_endsByDue
            rw [y1, nx_eq]
            exact okX hQ hx hd hp (fun q hq => ⟨(hdx q hq).1, (hpx q hq).1⟩) (pc k) y k 0 1000 (by omega) hkb rfl (by omega) (by omega) (by omega)
          rw [if_neg (nI_ge q3 (by omega)), ok, bd2_some, x46, x46]
          by_cases q2 : okD due spa Q (pc k) y k = true
          · rw [if_pos q2, if_neg one_ne0.mp, if_pos ⟨q1, q3, q2⟩]
          · rw [if_neg q2, if_pos rfl, if_neg (fun z => q2 z.2.2)]
        · rw [if_pos (nI_le (by omega) (by omega)), if_neg (fun z => q3 z.2.1)]
          exact x46 b
      · rw [if_neg (fun z => q1 ((tb_lo k (by omega) _ hNlt).1 z)), if_neg (fun z => q1 z.1)]
    have sm : f6_order_b21 (f2 + 1) X (nI b) (nI k) gm = if k &&& setIs gx.1 1 Q = k ∧ pc b < pc k ∧ okD due spa Q (pc k) y k = true then f6_order_b21 f2 X (nI k) (nI (k + 1)) gm else f6_order_b21 f2 X (nI b) (nI (k + 1)) gm := by
      rw [f6_order_b21, if_neg (show ¬ (256 : Int32) ≤ nI k from nI_ge (b := 256) (by omega) (by omega)), thoseM h, bd2_some]
      unfold f6_order_b63
      by_cases q1 : k &&& setIs gx.1 1 Q = k
      · have hkb : ∀ i, k.testBit i = true → i < Q := fun i hi => by
          have := sub_iff.1 q1 i hi
          rw [setIs_bit] at this
          exact (of_decide_eq_true this).1
        rw [if_pos ((tb_lo k (by omega) _ hNlt).2 q1), pcM (by omega), bd2_some, pcM hb, bd2_some, m64]
        by_cases q3 : pc b < pc k
        · have ok : f6_canOrder (nI k) gm = some (if okD due spa Q (pc k) y k then 1 else 0, gm) := by
            unfold f6_canOrder
            rw [y2, nx_eq]
            exact okM hQ hm hd hp (fun q hq => ⟨(hdx q hq).2, (hpx q hq).2⟩) (pc k) y k 1000 (by omega) hkb rfl (by omega) (by omega)
          rw [if_neg (nI_ge q3 (by omega)), ok, bd2_some, m64, m64]
          by_cases q2 : okD due spa Q (pc k) y k = true
          · rw [if_pos q2, if_neg one_ne0.mp, if_pos ⟨q1, q3, q2⟩]
          · rw [if_neg q2, if_pos rfl, if_neg (fun z => q2 z.2.2)]
        · rw [if_pos (nI_le (by omega) (by omega)), if_neg (fun z => q3 z.2.1)]
      · rw [if_neg (fun z => q1 ((tb_lo k (by omega) _ hNlt).1 z)), m64, if_neg (fun z => q1 z.1)]
    by_cases q : k &&& setIs gx.1 1 Q = k ∧ pc b < pc k ∧ okD due spa Q (pc k) y k = true
    · obtain ⟨b', b1, b2, b3, b4⟩ := take q.1
      refine ⟨b', b1, b2, ?_, ?_⟩
      · rw [sx, if_pos q]
        exact b3
      · rw [sm, if_pos q]
        exact b4
    · obtain ⟨b', b1, b2, b3, b4⟩ := skip
      refine ⟨b', b1, b2, ?_, ?_⟩
      · rw [sx, if_neg q]
        exact b3
      · rw [sm, if_neg q]
        exact b4
/-- the one at a place of the order -/
theorem nth_0 (h : RelX gx.1 gm.1 P Q A S) (hd : ∀ q, due q ≤ 99) (hdx : ∀ q, q < Q → gx.1 86 q = nI (due q) ∧ gm.1 17 q = nI (due q)) {N : Nat} (hN : N ≤ 7) : ∀ (n t f : Nat), t + n = N → n < f → f5_order_b30 f (nI N) (nI 0) (nI t) gx = some (-9, gx)
  | 0, t, f + 1, ht, _ => by
    obtain ⟨hx, hm, hQ⟩ := h.Q_
    obtain rfl : t = N := by omega
    unfold f5_order_b30
    rw [if_pos (nI_le (Nat.le_refl _) (by omega)), snX hQ (by omega) (fun i hi => by rw [Nat.zero_testBit] at hi; exact absurd hi (by decide)) hd (fun q hq => (hdx q hq).1), sn_0, bd2_some]
    rfl
  | n + 1, t, f + 1, ht, hf => by
    obtain ⟨hx, hm, hQ⟩ := h.Q_
    unfold f5_order_b30
    rw [if_neg (nI_ge (by omega) (by omega)), snX hQ (by omega) (fun i hi => by rw [Nat.zero_testBit] at hi; exact absurd hi (by decide)) hd (fun q hq => (hdx q hq).1), sn_0, bd2_some, show f5_without (nI 0) (oI none) gx = some (nI 0, gx) from rfl, bd2_some, nI_1, nx_eq]
    exact nth_0 h hd hdx hN n (t + 1) f (by omega) (by omega)
theorem nth_go (h : RelX gx.1 gm.1 P Q A S) (hd : ∀ q, due q ≤ 99) (hdx : ∀ q, q < Q → gx.1 86 q = nI (due q) ∧ gm.1 17 q = nI (due q)) {N : Nat} (hN : N ≤ 7) : ∀ (n t f1 f2 s : Nat), t + n = N → n < f1 → n < f2 → s < 256 → (∀ i, s.testBit i = true → i < Q) → ∃ r, f5_order_b30 f1 (nI N) (nI s) (nI t) gx = some (r, gx) ∧ f6_order_b86 f2 (nI N) (nI s) (nI t) gm = some (r, gm)
  | 0, t, f1 + 1, f2 + 1, s, ht, _, _, hs, hb => by
    obtain ⟨hx, hm, hQ⟩ := h.Q_
    obtain rfl : t = N := by omega
    unfold f5_order_b30 f6_order_b86 f6_order_b114
    rw [if_pos (nI_le (Nat.le_refl _) (by omega)), if_pos (nI_le (Nat.le_refl _) (by omega)), snX hQ hs hb hd (fun q hq => (hdx q hq).1), snM hQ hm hs hd (fun q hq => (hdx q hq).2), bd2_some, bd2_some]
    exact ⟨_, rfl, rfl⟩
  | n + 1, t, f1 + 1, f2 + 1, s, ht, h1, h2, hs, hb => by
    obtain ⟨hx, hm, hQ⟩ := h.Q_
    by_cases hs0 : s = 0
    · subst hs0
      refine ⟨-9, nth_0 h hd hdx hN (n + 1) t (f1 + 1) ht (by omega), ?_⟩
      unfold f6_order_b86 f6_order_b114
      rw [if_neg (nI_ge (by omega) (by omega)), if_pos nI_0, snM hQ hm hs hd (fun q hq => (hdx q hq).2), sn_0, bd2_some]
      rfl
    · obtain ⟨i, -, hi⟩ := pc_ex s hs hs0
      unfold f5_order_b30 f6_order_b86
      rw [if_neg (nI_ge (by omega) (by omega)), if_neg (nI_ge (by omega) (by omega)), if_neg (fun z => hs0 ((nI_eq (by omega) (by omega)).1 (z.trans nI_0.symm))), snX hQ hs hb hd (fun q hq => (hdx q hq).1), snM hQ hm hs hd (fun q hq => (hdx q hq).2), bd2_some, bd2_some]
      cases e : sn due Q s with
      | none => exact absurd e (sn_some (hb i hi) hi)
      | some j =>
        have hj := sn_in e
        have hjQ := hb j hj
        unfold f5_without
        rw [show oI (some j) = nI j from rfl, if_pos (nI_pos' (by omega)), wo_N s hs j (by omega), bd2_some, nI_1, nx_eq, nx_eq, nx_eq]
        exact nth_go h hd hdx hN n (t + 1) f1 f2 (wo s j) (by omega) (by omega) (by omega) (wo_lt hs) (fun i hi => hb i (wo_bit hi))
end OR
theorem s_order (a : Int32) : St Rel (f5_order a) (f6_order a) := by
  refine St.ro (fun gx gm P Q A S h _ => ?_)
  obtain ⟨hx, hm, hQ⟩ := h.t.Q_
  obtain ⟨due, hd, hdx⟩ := h.t.dues
  obtain ⟨spa, hp, hpx⟩ := h.t.spas
  have best : ∀ X : Int32, ∃ b', b' < 256 ∧ (∀ i, b'.testBit i = true → i < Q) ∧ f5_bestOrdered gx = some (nI b', gx) ∧ f6_order_b21 1000 X 0 0 (t0 gm) = (if X = -1 then some (nI (pc b'), t0 gm) else f6_order_b86 1000 X (nI b') 0 (t0 gm)) := by
    intro X
    obtain ⟨b', b1, b2, b3, b4⟩ := order_go h.t hd hp hdx hpx X 256 0 1000 1000 0 (by omega) (by omega) (by omega) (by omega) (Nat.zero_and _)
    refine ⟨b', b1, fun i hi => ?_, ?_, ?_⟩
    · have := sub_iff.1 b2 i hi
      rw [setIs_bit] at this
      exact (of_decide_eq_true this).1
    · unfold f5_bestOrdered
      rw [thoseX hx hQ, bd2_some]
      rw [nI_0] at b3
      exact b3
    · rw [nI_0] at b4
      exact b4
  unfold f5_order f6_order
  rw [nx_eq]
  by_cases hm1 : a = -1
  · subst hm1
    obtain ⟨b', b1, b2, b3, b4⟩ := best (-1)
    have ea : f6_in (-1) (-1) 7 (t0 gm) = some (1, t0 gm) := rfl
    rw [ea, bd2_some, if_neg one_ne0.mp, b4, if_pos rfl, if_neg (show ¬ (-1 : Int32) < -1 by decide), if_pos (show (-1 : Int32) < 8 by decide), b3, bd2_some, if_pos rfl, pcX b1, bd2_some]
    exact ⟨_, rfl, rfl⟩
  · rcases tri a (n := 8) (by omega) with ⟨k, hk, rfl⟩ | q
    · have l1 : ¬ nI k < -1 := fun z => by
        rw [Int32.lt_iff_toInt_lt, nI_toInt (by omega), m1_toInt] at z
        omega
      have ea : f6_in (nI k) (-1) 7 (t0 gm) = some (1, t0 gm) := in_t l1 (nI_nlt (a := 7) (by omega) (by omega))
      obtain ⟨b', b1, b2, b3, b4⟩ := best (nI k)
      obtain ⟨r, r1, r2⟩ := nth_go h.t hd hdx (N := k) (by omega) k 0 1000 1000 b' (by omega) (by omega) (by omega) b1 b2
      rw [nI_0] at r1 r2
      rw [ea, bd2_some, if_neg one_ne0.mp, b4, if_neg hm1, if_neg l1, if_pos (show nI k < (8 : Int32) from nI_lt (b := 8) (by omega) (by omega)), b3, bd2_some, if_neg hm1, r1, r2]
      exact ⟨_, rfl, rfl⟩
    · have hlo : a < -1 ∨ (7 : Int32) < a := by
        rcases q with q | q
        · left
          rw [Int32.lt_iff_toInt_lt] at q ⊢
          rw [m1_toInt]
          have n1 : a.toInt ≠ -1 := fun z => hm1 (Int32.toInt_inj.1 (z.trans m1_toInt.symm))
          have z0 : (0 : Int32).toInt = 0 := by decide
          omega
        · exact Or.inr (lt_of_le6 (n := 7) (by omega) q)
      have ea : f6_in a (-1) 7 (t0 gm) = some (0, t0 gm) := in_n hlo
      rw [ea, bd2_some, if_pos rfl]
      refine ⟨-1, ?_, rfl⟩
      rcases hlo with z | z
      · rw [if_pos z]
      · rw [if_neg (show ¬ a < (8 : Int32) from fun e => by
          rw [Int32.lt_iff_toInt_lt] at e z
          have e7 : (7 : Int32).toInt = 7 := by decide
          have e8 : (8 : Int32).toInt = 8 := by decide
          omega)]
        split <;> rfl
