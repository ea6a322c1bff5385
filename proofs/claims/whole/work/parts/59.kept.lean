/-! ===== kept, order ===== -/
theorem and_N (a b : Nat) : nI a &&& nI b = nI (a &&& b) := by
  apply Int32.toBitVec_inj.1
  show BitVec.ofNat 32 a &&& BitVec.ofNat 32 b = BitVec.ofNat 32 (a &&& b)
  apply BitVec.eq_of_getLsbD_eq
  intro i hi
  simp [hi]
theorem and0 {a b : Nat} (ha : a < 256) (hb : b < 256) : (nI a &&& nI b = 0) ↔ a &&& b = 0 := by
  rw [and_N, ← nI_0, nI_eq (Nat.lt_of_le_of_lt Nat.and_le_left (by omega)) (by omega)]
theorem sub_iff {s j : Nat} : s &&& j = s ↔ ∀ i, s.testBit i = true → j.testBit i = true := by
  constructor
  · intro h i hi
    rw [← h, Nat.testBit_and, Bool.and_eq_true] at hi
    exact hi.2
  · intro h
    apply Nat.eq_of_testBit_eq
    intro i
    rw [Nat.testBit_and]
    cases hs : s.testBit i
    · rfl
    · rw [h i hs]; rfl
theorem dis_iff {s j : Nat} : s &&& j = 0 ↔ ∀ i, s.testBit i = true → j.testBit i = false := by
  constructor
  · intro h i hi
    have e : (s &&& j).testBit i = false := by rw [h, Nat.zero_testBit]
    rw [Nat.testBit_and, hi, Bool.true_and] at e
    exact e
  · intro h
    apply Nat.eq_of_testBit_eq
    intro i
    rw [Nat.testBit_and, Nat.zero_testBit]
    cases hs : s.testBit i
    · rfl
    · rw [h i hs]; rfl
/-- clash of a promise, as a number -/
theorem RelX.clas {x m : Nat → Nat → Int32} {P Q A S : Nat} (h : RelX x m P Q A S) : ∃ c : Nat → Nat, (∀ q, c q < 256) ∧ ∀ q, q < Q → x 89 q = nI (c q) ∧ m 20 q = nI (c q) := by
  have k : ∀ q, ∃ v, v < 256 ∧ (q < Q → x 89 q = nI v ∧ m 20 q = nI v) := fun q => by
    by_cases hq : q < Q
    · obtain ⟨e1, v, v9, e2⟩ := h.cla hq
      exact ⟨v, by omega, fun _ => ⟨e2, e1.trans e2⟩⟩
    · exact ⟨0, by omega, fun z => absurd z hq⟩
  exact ⟨fun q => (k q).choose, fun q => (k q).choose_spec.1, fun q hq => (k q).choose_spec.2 hq⟩
theorem RelX.lefs {gx gm : Sg} {P Q A S : Nat} (h : RelX gx.1 gm.1 P Q A S) : ∃ l : Nat → Nat, (∀ q, l q ≤ 4) ∧ ∀ q, q < Q → f5_leftIn (nI q) 0 gx = some (nI (l q), gx) ∧ f6_leftNow (nI q) gm = some (nI (l q), gm) := by
  have k : ∀ q, ∃ v, v ≤ 4 ∧ (q < Q → f5_leftIn (nI q) 0 gx = some (nI v, gx) ∧ f6_leftNow (nI q) gm = some (nI v, gm)) := fun q => by
    by_cases hq : q < Q
    · obtain ⟨l, n, -, e2, e3, e4, e5⟩ := leftNow_ok h hq
      exact ⟨l, by omega, fun _ => ⟨e4, e5⟩⟩
    · exact ⟨0, by omega, fun z => absurd z hq⟩
  exact ⟨fun q => (k q).choose, fun q => (k q).choose_spec.1, fun q hq => (k q).choose_spec.2 hq⟩
/-! the words of a set -/
def wsum (l : Nat → Nat) (s : Nat) : Nat → Nat → Nat
  | 0, _ => 0
  | n + 1, k => (if s.testBit k then l k else 0) + wsum l s n (k + 1)
theorem wsum_le {l : Nat → Nat} {s : Nat} (hl : ∀ q, l q ≤ 4) : ∀ n k, wsum l s n k ≤ 4 * n
  | 0, _ => Nat.le_refl _
  | n + 1, k => by
    have h1 := hl k
    have h2 := wsum_le hl n (k + 1) (s := s)
    rw [wsum]
    split <;> omega
theorem words_x {gx : Sg} {Q s : Nat} {l : Nat → Nat} (hQ : Q ≤ 8) (hs : s < 256) (hb : ∀ i, s.testBit i = true → i < Q) (hl : ∀ q, l q ≤ 4) (h : ∀ q, q < Q → f5_leftIn (nI q) 0 gx = some (nI (l q), gx)) : ∀ (n k f a : Nat), k + n = 8 → n < f → a ≤ 4 * k → f5_wordsLeftOf_b4 f (nI s) (nI a) (nI k) gx = some (nI (a + wsum l s n k), gx)
  | 0, k, f + 1, a, hk, _, _ => by
    obtain rfl : k = 8 := by omega
    rfl
  | n + 1, k, f + 1, a, hk, hf, ha => by
    have lk := hl k
    unfold f5_wordsLeftOf_b4
    rw [wsum]
    cases e : s.testBit k
    · rw [holds_n hs (by omega) e]
      simp (disch := omega) only [ix_ok, cl, lit_add, add_lit, lit_mul, mul_lit, nI_add, sub_lit, le_nn, lt_nn, eq_nn, le_ln, lt_ln, le_nl, lt_nl, eq_nl, eq_ln, ne_m9, ne_m1, bd_some, bd2_some, ↓nx_eq, rz0, rz1, one_ne0, ↓reduceIte, if_pos, if_neg, f5_wordsLeftOf_b27]
      rw [words_x hQ hs hb hl h n (k + 1) f a (by omega) (by omega) (by omega)]
      simp
    · rw [holds_y hs (by omega) e]
      simp (disch := omega) only [ix_ok, cl, lit_add, add_lit, lit_mul, mul_lit, nI_add, sub_lit, le_nn, lt_nn, eq_nn, le_ln, lt_ln, le_nl, lt_nl, eq_nl, eq_ln, ne_m9, ne_m1, bd_some, bd2_some, ↓nx_eq, rz0, rz1, one_ne0, ↓reduceIte, if_pos, if_neg, f5_wordsLeftOf_b27, h k (hb k e)]
      rw [words_x hQ hs hb hl h n (k + 1) f _ (by omega) (by omega) (by omega), Nat.add_assoc]
theorem words_m {gm : Sg} {Q s : Nat} {l : Nat → Nat} (hQ : Q ≤ 8) (hm : gm.1 9 1 = nI Q) (hs : s < 256) (hl : ∀ q, l q ≤ 4) (h : ∀ q, q < Q → f6_leftNow (nI q) gm = some (nI (l q), gm)) : ∀ (n k f a : Nat), k + n = Q → n < f → a ≤ 4 * k → f6_wordsOf_b4 f (nI s) (nI a) (nI k) gm = some (nI (a + wsum l s n k), gm)
  | 0, k, f + 1, a, hk, _, _ => by
    obtain rfl : k = Q := by omega
    unfold f6_wordsOf_b4
    simp (disch := omega) only [ix_ok, cl, lit_add, add_lit, lit_mul, mul_lit, nI_add, sub_lit, le_nn, lt_nn, eq_nn, le_ln, lt_ln, le_nl, lt_nl, eq_nl, eq_ln, ne_m9, ne_m1, bd_some, bd2_some, ↓nx_eq, rz0, rz1, one_ne0, ↓reduceIte, if_pos, if_neg, hm]
    rfl
  | n + 1, k, f + 1, a, hk, hf, ha => by
    have lk := hl k
    unfold f6_wordsOf_b4
    rw [wsum, hm, if_neg (nI_ge (by omega) (by omega))]
    cases e : s.testBit k
    · rw [if_neg (fun z => by rw [(tb_N s hs k (by omega)).1 z] at e; exact absurd e (by decide))]
      simp (disch := omega) only [ix_ok, cl, lit_add, add_lit, lit_mul, mul_lit, nI_add, sub_lit, le_nn, lt_nn, eq_nn, le_ln, lt_ln, le_nl, lt_nl, eq_nl, eq_ln, ne_m9, ne_m1, bd_some, bd2_some, ↓nx_eq, rz0, rz1, one_ne0, ↓reduceIte, if_pos, if_neg, f6_wordsOf_b33]
      rw [Nat.add_zero, words_m hQ hm hs hl h n (k + 1) f a (by omega) (by omega) (by omega)]
      simp
    · rw [if_pos ((tb_N s hs k (by omega)).2 e), h k (by omega)]
      simp (disch := omega) only [ix_ok, cl, lit_add, add_lit, lit_mul, mul_lit, nI_add, sub_lit, le_nn, lt_nn, eq_nn, le_ln, lt_ln, le_nl, lt_nl, eq_nl, eq_ln, ne_m9, ne_m1, bd_some, bd2_some, ↓nx_eq, rz0, rz1, one_ne0, ↓reduceIte, if_pos, if_neg, f6_wordsOf_b33]
      rw [words_m hQ hm hs hl h n (k + 1) f _ (by omega) (by omega) (by omega), Nat.add_assoc]
theorem wsum_off {l : Nat → Nat} {s Q : Nat} (hb : ∀ i, s.testBit i = true → i < Q) : ∀ n k, Q ≤ k → wsum l s n k = 0
  | 0, _, _ => rfl
  | n + 1, k, h => by
    rw [wsum, wsum_off hb n (k + 1) (by omega), if_neg (fun z => by have := hb k z; omega)]
theorem wsum_cut {l : Nat → Nat} {s Q : Nat} (hb : ∀ i, s.testBit i = true → i < Q) : ∀ n m k, k + n = Q → wsum l s (n + m) k = wsum l s n k
  | 0, m, k, h => by rw [Nat.zero_add]; exact wsum_off hb m k (by omega)
  | n + 1, m, k, h => by
    rw [show n + 1 + m = (n + m) + 1 by omega, wsum, wsum, wsum_cut hb n m (k + 1) (by omega)]
def wrd (l : Nat → Nat) (s Q : Nat) : Nat := wsum l s Q 0
theorem wrd_le {l : Nat → Nat} {s Q : Nat} (hQ : Q ≤ 8) (hl : ∀ q, l q ≤ 4) : wrd l s Q ≤ 32 := by
  have := wsum_le hl Q 0 (s := s)
  unfold wrd
  omega
theorem wordsX {gx : Sg} {Q s : Nat} {l : Nat → Nat} (hQ : Q ≤ 8) (hs : s < 256) (hb : ∀ i, s.testBit i = true → i < Q) (hl : ∀ q, l q ≤ 4) (h : ∀ q, q < Q → f5_leftIn (nI q) 0 gx = some (nI (l q), gx)) : f5_wordsLeftOf (nI s) gx = some (nI (wrd l s Q), gx) := by
  have e := words_x hQ hs hb hl h 8 0 1000 0 (by omega) (by omega) (by omega)
  have e2 := wsum_cut (l := l) hb Q (8 - Q) 0 (by omega)
  rw [show Q + (8 - Q) = 8 by omega] at e2
  rw [e2, Nat.zero_add] at e
  unfold f5_wordsLeftOf
  exact e
theorem wordsM {gm : Sg} {Q s : Nat} {l : Nat → Nat} (hQ : Q ≤ 8) (hm : gm.1 9 1 = nI Q) (hs : s < 256) (hl : ∀ q, l q ≤ 4) (h : ∀ q, q < Q → f6_leftNow (nI q) gm = some (nI (l q), gm)) : f6_wordsOf (nI s) gm = some (nI (wrd l s Q), gm) := by
  have e := words_m hQ hm hs hl h Q 0 1000 0 (by omega) (by omega) (by omega)
  rw [Nat.zero_add] at e
  unfold f6_wordsOf
  exact e
/-! do they agree -/
def agr (c : Nat → Nat) (s d : Nat) : Nat → Nat → Bool
  | 0, _ => true
  | n + 1, k => if s.testBit k = true ∧ ¬ c k &&& (s ||| d) = 0 then false else agr c s d n (k + 1)
theorem agr_m0 {gm : Sg} {Q s : Nat} (hQ : Q ≤ 8) (hm : gm.1 9 1 = nI Q) : ∀ (n k f : Nat), k + n = Q → n < f → f6_agree_b4 f (nI s) 0 (nI k) gm = some (0, gm)
  | 0, k, f + 1, hk, _ => by
    obtain rfl : k = Q := by omega
    unfold f6_agree_b4
    simp (disch := omega) only [ix_ok, cl, lit_add, add_lit, lit_mul, mul_lit, nI_add, sub_lit, le_nn, lt_nn, eq_nn, le_ln, lt_ln, le_nl, lt_nl, eq_nl, eq_ln, ne_m9, ne_m1, bd_some, bd2_some, ↓nx_eq, rz0, rz1, one_ne0, ↓reduceIte, if_pos, if_neg, hm]
  | n + 1, k, f + 1, hk, hf => by
    unfold f6_agree_b4
    simp (disch := omega) only [ix_ok, cl, lit_add, add_lit, lit_mul, mul_lit, nI_add, sub_lit, le_nn, lt_nn, eq_nn, le_ln, lt_ln, le_nl, lt_nl, eq_nl, eq_ln, ne_m9, ne_m1, bd_some, bd2_some, ↓nx_eq, rz0, rz1, one_ne0, ↓reduceIte, if_pos, if_neg, hm, f6_agree_b47, f6_agree_b48]
    exact agr_m0 hQ hm n (k + 1) f (by omega) (by omega)
theorem agr_m {gm : Sg} {Q s d : Nat} {c : Nat → Nat} (hQ : Q ≤ 8) (hm : gm.1 9 1 = nI Q) (hs : s < 256) (hd : d < 256) (ht : f6_those 2 gm = some (nI d, gm)) (hc : ∀ q, c q < 256) (h : ∀ q, q < Q → gm.1 20 q = nI (c q)) : ∀ (n k f : Nat), k + n = Q → n < f → f6_agree_b4 f (nI s) 1 (nI k) gm = some (if agr c s d n k then 1 else 0, gm)
  | 0, k, f + 1, hk, _ => by
    obtain rfl : k = Q := by omega
    unfold f6_agree_b4
    simp (disch := omega) only [ix_ok, cl, lit_add, add_lit, lit_mul, mul_lit, nI_add, sub_lit, le_nn, lt_nn, eq_nn, le_ln, lt_ln, le_nl, lt_nl, eq_nl, eq_ln, ne_m9, ne_m1, bd_some, bd2_some, ↓nx_eq, rz0, rz1, one_ne0, ↓reduceIte, if_pos, if_neg, hm]
    rfl
  | n + 1, k, f + 1, hk, hf => by
    have lsd : s ||| d < 256 := Nat.or_lt_two_pow (n := 8) hs hd
    have ih := agr_m hQ hm hs hd ht hc h n (k + 1) f (by omega) (by omega)
    have ih0 := agr_m0 (s := s) hQ hm n (k + 1) f (by omega) (by omega)
    unfold f6_agree_b4
    rw [hm, if_neg (nI_ge (by omega) (by omega)), if_neg one_ne0.mp]
    unfold f6_agree_b43 f6_agree_b47 f6_agree_b48
    rw [nx_eq, show nI k + 1 = nI (k + 1) from nI_1 k, ix_ok (by omega) (by omega), cl (by omega), ht, bd2_some, h k (by omega), fa_or', nx_eq, nx_eq, ih, ih0]
    by_cases e : s.testBit k = true
    · rw [if_neg (fun z => by rw [(tb_N0 s hs k (by omega)).1 z] at e; exact absurd e (by decide))]
      by_cases l : c k &&& (s ||| d) = 0
      · have a1 : agr c s d (n + 1) k = agr c s d n (k + 1) := if_neg (fun z => z.2 l)
        rw [if_pos ((and0 (hc k) lsd).2 l), a1]
      · have a1 : agr c s d (n + 1) k = false := if_pos ⟨e, l⟩
        rw [if_neg (fun z => l ((and0 (hc k) lsd).1 z)), a1]
        rfl
    · have a1 : agr c s d (n + 1) k = agr c s d n (k + 1) := if_neg (fun z => e z.1)
      rw [if_pos ((tb_N0 s hs k (by omega)).2 (Bool.not_eq_true _ ▸ e)), a1]
theorem agr_iff {c : Nat → Nat} {s d : Nat} : ∀ (n k : Nat), agr c s d n k = true ↔ ∀ i, k ≤ i → i < k + n → s.testBit i = true → c i &&& (s ||| d) = 0
  | 0, k => by
    constructor
    · intro _ i h1 h2
      omega
    · intro _
      rfl
  | n + 1, k => by
    rw [agr]
    by_cases q : s.testBit k = true ∧ ¬ c k &&& (s ||| d) = 0
    · rw [if_pos q]
      constructor
      · intro z
        exact absurd z (by decide)
      · intro z
        exact absurd (z k (Nat.le_refl k) (by omega) q.1) q.2
    · rw [if_neg q, agr_iff n (k + 1)]
      constructor
      · intro z i h1 h2 h3
        by_cases e : i = k
        · subst e
          exact Decidable.byContradiction (fun y => q ⟨h3, y⟩)
        · exact z i (by omega) (by omega) h3
      · intro z i h1 h2 h3
        exact z i (by omega) (by omega) h3
theorem agrM {gm : Sg} {Q s d : Nat} {c : Nat → Nat} (hQ : Q ≤ 8) (hm : gm.1 9 1 = nI Q) (hs : s < 256) (hd : d < 256) (ht : f6_those 2 gm = some (nI d, gm)) (hc : ∀ q, c q < 256) (h : ∀ q, q < Q → gm.1 20 q = nI (c q)) : f6_agree (nI s) gm = some (if agr c s d Q 0 then 1 else 0, gm) := by
  unfold f6_agree
  exact agr_m hQ hm hs hd ht hc h Q 0 1000 (by omega) (by omega)
/-- no clash within -/
def cwi (c : Nat → Nat) (s : Nat) : Nat → Nat → Bool
  | 0, _ => true
  | n + 1, k => if s.testBit k = true ∧ ¬ c k &&& s = 0 then false else cwi c s n (k + 1)
theorem cwi_iff {c : Nat → Nat} {s : Nat} : ∀ (n k : Nat), cwi c s n k = true ↔ ∀ i, k ≤ i → i < k + n → s.testBit i = true → c i &&& s = 0
  | 0, k => by
    constructor
    · intro _ i h1 h2
      omega
    · intro _
      rfl
  | n + 1, k => by
    rw [cwi]
    by_cases q : s.testBit k = true ∧ ¬ c k &&& s = 0
    · rw [if_pos q]
      constructor
      · intro z
        exact absurd z (by decide)
      · intro z
        exact absurd (z k (Nat.le_refl k) (by omega) q.1) q.2
    · rw [if_neg q, cwi_iff n (k + 1)]
      constructor
      · intro z i h1 h2 h3
        by_cases e : i = k
        · subst e
          exact Decidable.byContradiction (fun y => q ⟨h3, y⟩)
        · exact z i (by omega) (by omega) h3
      · intro z i h1 h2 h3
        exact z i (by omega) (by omega) h3
theorem cwi_x {gx : Sg} {Q s : Nat} {c : Nat → Nat} (hs : s < 256) (hb : ∀ i, s.testBit i = true → i < Q) (hc : ∀ q, c q < 256) (h : ∀ q, q < Q → gx.1 89 q = nI (c q)) : ∀ (n k f : Nat), k + n = 8 → n < f → f5_clashesWithin_b2 f (nI s) (nI k) gx = some (if cwi c s n k then 0 else 1, gx)
  | 0, k, f + 1, hk, _ => by
    obtain rfl : k = 8 := by omega
    rfl
  | n + 1, k, f + 1, hk, hf => by
    have ih := cwi_x hs hb hc h n (k + 1) f (by omega) (by omega)
    unfold f5_clashesWithin_b2
    rw [if_neg (show ¬ (8 : Int32) ≤ nI k from nI_ge (b := 8) (by omega) (by omega))]
    unfold f5_clashesWithin_b32
    by_cases e : s.testBit k = true
    · rw [holds_y hs (by omega) e, bd2_some, if_neg one_ne0.mp, ix_ok (by omega) (by omega), cl (by omega), h k (hb k e), nx_eq, show nI k + 1 = nI (k + 1) from nI_1 k, ih]
      by_cases l : c k &&& s = 0
      · have a1 : cwi c s (n + 1) k = cwi c s n (k + 1) := if_neg (fun z => z.2 l)
        rw [if_pos ((and0 (hc k) hs).2 l), a1]
      · have a1 : cwi c s (n + 1) k = false := if_pos ⟨e, l⟩
        rw [if_neg (fun z => l ((and0 (hc k) hs).1 z)), a1]
        rfl
    · have a1 : cwi c s (n + 1) k = cwi c s n (k + 1) := if_neg (fun z => e z.1)
      rw [holds_n hs (by omega) (Bool.not_eq_true _ ▸ e), bd2_some, if_pos rfl, nx_eq, show nI k + 1 = nI (k + 1) from nI_1 k, ih, a1]
theorem cwiX {gx : Sg} {Q s : Nat} {c : Nat → Nat} (hs : s < 256) (hb : ∀ i, s.testBit i = true → i < Q) (hc : ∀ q, c q < 256) (h : ∀ q, q < Q → gx.1 89 q = nI (c q)) : f5_clashesWithin (nI s) gx = some (if cwi c s 8 0 then 0 else 1, gx) := by
  unfold f5_clashesWithin
  exact cwi_x hs hb hc h 8 0 1000 (by omega) (by omega)
/-! the choosers: those that may be done -/
def pMay (x : Nat → Nat → Int32) (c : Nat → Nat) (d Q : Nat) (j : Nat) : Bool := decide (j < Q ∧ x 2 j = 1 ∧ c j &&& d = 0)
theorem may_x {gx : Sg} {Q d : Nat} {c : Nat → Nat} (hx : gx.1 90 1 = nI Q) (hQ : Q ≤ 8) (hd : d < 256) (hc : ∀ q, c q < 256) (h : ∀ q, q < Q → gx.1 89 q = nI (c q)) {k : Nat} (hk : k < 8) : f5_mayBeDone (nI k) (nI d) gx = some (if pMay gx.1 c d Q k then 1 else 0, gx) := by
  unfold f5_mayBeDone
  by_cases hi : k < Q ∧ gx.1 2 k = 1
  · rw [isNow_y hx hQ hi.1 hi.2, bd2_some, if_neg one_ne0.mp, ix_ok (by omega) (by omega), cl (by omega), h k hi.1]
    by_cases l : c k &&& d = 0
    · rw [if_pos ((and0 (hc k) hd).2 l), show pMay gx.1 c d Q k = true from decide_eq_true ⟨hi.1, hi.2, l⟩]
      rfl
    · rw [if_neg (fun z => l ((and0 (hc k) hd).1 z)), show pMay gx.1 c d Q k = false from decide_eq_false (fun z => l z.2.2)]
      rfl
  · rw [isNow_n hx hQ hk hi, bd2_some, if_pos rfl, show pMay gx.1 c d Q k = false from decide_eq_false (fun z => hi ⟨z.1, z.2.1⟩)]
    rfl
theorem maySet_x {gx : Sg} {Q d : Nat} {c : Nat → Nat} (hx : gx.1 90 1 = nI Q) (hQ : Q ≤ 8) (hd : d < 256) (hc : ∀ q, c q < 256) (h : ∀ q, q < Q → gx.1 89 q = nI (c q)) : ∀ (n k f : Nat) (s : Int32), k + n = 8 → n < f → f5_bestKept_b10 f (nI d) s (nI k) gx = f5_bestKept_b45 1000 (bitsF (pMay gx.1 c d Q) n k s) 0 0 0 gx
  | 0, k, f + 1, s, hk, _ => by
    obtain rfl : k = 8 := by omega
    unfold f5_bestKept_b10
    simp (disch := omega) only [ix_ok, cl, lit_add, add_lit, lit_mul, mul_lit, nI_add, sub_lit, le_nn, lt_nn, eq_nn, le_ln, lt_ln, le_nl, lt_nl, eq_nl, eq_ln, ne_m9, ne_m1, bd_some, bd2_some, ↓nx_eq, rz0, rz1, one_ne0, ↓reduceIte, if_pos, if_neg]
    rfl
  | n + 1, k, f + 1, s, hk, hf => by
    unfold f5_bestKept_b10
    rw [may_x hx hQ hd hc h (show k < 8 by omega), bitsF]
    by_cases l : pMay gx.1 c d Q k = true
    · rw [if_pos l, if_pos l]
      simp (disch := omega) only [ix_ok, cl, lit_add, add_lit, lit_mul, mul_lit, nI_add, sub_lit, le_nn, lt_nn, eq_nn, le_ln, lt_ln, le_nl, lt_nl, eq_nl, eq_ln, ne_m9, ne_m1, bd_some, bd2_some, ↓nx_eq, rz0, rz1, one_ne0, ↓reduceIte, if_pos, if_neg, f5_bestKept_b31]
      exact maySet_x hx hQ hd hc h n (k + 1) f _ (by omega) (by omega)
    · rw [if_neg l, if_neg l]
      simp (disch := omega) only [ix_ok, cl, lit_add, add_lit, lit_mul, mul_lit, nI_add, sub_lit, le_nn, lt_nn, eq_nn, le_ln, lt_ln, le_nl, lt_nl, eq_nl, eq_ln, ne_m9, ne_m1, bd_some, bd2_some, ↓nx_eq, rz0, rz1, one_ne0, ↓reduceIte, if_pos, if_neg, f5_bestKept_b31]
      exact maySet_x hx hQ hd hc h n (k + 1) f _ (by omega) (by omega)
def mayN (x : Nat → Nat → Int32) (c : Nat → Nat) (d Q : Nat) : Nat := bitsN (pMay x c d Q) 8 0 0
theorem mayN_bit {x : Nat → Nat → Int32} {c : Nat → Nat} {d Q : Nat} (hQ : Q ≤ 8) (i : Nat) : (mayN x c d Q).testBit i = pMay x c d Q i := by
  unfold mayN
  rw [bitsN_bit, Nat.zero_testBit, Bool.false_or, Nat.zero_add]
  by_cases h : i < 8
  · rw [show decide (0 ≤ i ∧ i < 8) = true from decide_eq_true ⟨Nat.zero_le _, h⟩, Bool.true_and]
  · rw [show decide (0 ≤ i ∧ i < 8) = false from decide_eq_false (fun q => h q.2), show pMay x c d Q i = false from decide_eq_false (fun q => by omega)]
    rfl
/-- the two ways to say which sets may be kept are one -/
theorem keep_iff {x : Nat → Nat → Int32} {c : Nat → Nat} {d Q s : Nat} (hQ : Q ≤ 8) : (s &&& mayN x c d Q = s ∧ cwi c s 8 0 = true) ↔ (s &&& setIs x 1 Q = s ∧ agr c s d Q 0 = true) := by
  rw [sub_iff, sub_iff, cwi_iff, agr_iff]
  have bx : ∀ i, (setIs x 1 Q).testBit i = true ↔ i < Q ∧ x 2 i = 1 := fun i => by
    rw [setIs_bit]
    exact decide_eq_true_iff
  have bm : ∀ i, (mayN x c d Q).testBit i = true ↔ i < Q ∧ x 2 i = 1 ∧ c i &&& d = 0 := fun i => by
    rw [mayN_bit hQ]
    exact decide_eq_true_iff
  have ao : ∀ i, c i &&& (s ||| d) = 0 ↔ c i &&& s = 0 ∧ c i &&& d = 0 := fun i => by
    rw [Nat.and_or_distrib_left, Nat.or_eq_zero_iff]
  constructor
  · intro ⟨h1, h2⟩
    refine ⟨fun i hi => (bx i).2 ⟨((bm i).1 (h1 i hi)).1, ((bm i).1 (h1 i hi)).2.1⟩, fun i _ hi2 hi => (ao i).2 ⟨h2 i (Nat.zero_le _) (by omega) hi, ((bm i).1 (h1 i hi)).2.2⟩⟩
  · intro ⟨h1, h2⟩
    have q : ∀ i, s.testBit i = true → i < Q := fun i hi => ((bx i).1 (h1 i hi)).1
    refine ⟨fun i hi => (bm i).2 ⟨q i hi, ((bx i).1 (h1 i hi)).2, ((ao i).1 (h2 i (Nat.zero_le _) (by have := q i hi; omega) hi)).2⟩, fun i _ _ hi => ((ao i).1 (h2 i (Nat.zero_le _) (by have := q i hi; omega) hi)).1⟩
section KP
variable {gx gm : Sg} {P Q A S d : Nat} {c l : Nat → Nat}
theorem kept_go (h : RelX gx.1 gm.1 P Q A S) (hd : d < 256) (ht : f6_those 2 gm = some (nI d, gm)) (hc : ∀ q, c q < 256) (hcx : ∀ q, q < Q → gx.1 89 q = nI (c q) ∧ gm.1 20 q = nI (c q)) (hl : ∀ q, l q ≤ 4) (hlx : ∀ q, q < Q → f5_leftIn (nI q) 0 gx = some (nI (l q), gx) ∧ f6_leftNow (nI q) gm = some (nI (l q), gm)) (X : Int32) : ∀ (n k f1 f2 b : Nat), k + n = 256 → n < f1 → n < f2 → b < 256 → b &&& setIs gx.1 1 Q = b → ∃ b', b' < 256 ∧ b' &&& setIs gx.1 1 Q = b' ∧ f5_bestKept_b45 f1 (nI (mayN gx.1 c d Q)) (nI b) (nI (wrd l b Q)) (nI k) gx = some (nI b', gx) ∧ f6_kept_b20 f2 X (nI b) (nI k) gm = (if X = 0 then some (nI b', gm) else some (nI (wrd l b' Q), gm))
  | 0, k, f1 + 1, f2 + 1, b, hk, _, _, hb, hbs => by
    obtain ⟨hx, hm, hQ⟩ := h.Q_
    obtain rfl : k = 256 := by omega
    refine ⟨b, hb, hbs, ?_, ?_⟩
    · unfold f5_bestKept_b45
      simp (disch := omega) only [ix_ok, cl, lit_add, add_lit, lit_mul, mul_lit, nI_add, sub_lit, le_nn, lt_nn, eq_nn, le_ln, lt_ln, le_nl, lt_nl, eq_nl, eq_ln, ne_m9, ne_m1, bd_some, bd2_some, ↓nx_eq, rz0, rz1, one_ne0, ↓reduceIte, if_pos, if_neg]
    · unfold f6_kept_b20
      rw [if_pos (show (256 : Int32) ≤ nI 256 from by decide), wordsM hQ hm hb hl (fun q hq => (hlx q hq).2), bd2_some]
  | n + 1, k, f1 + 1, f2 + 1, b, hk, h1, h2, hb, hbs => by
    obtain ⟨hx, hm, hQ⟩ := h.Q_
    have bx : ∀ s, s &&& setIs gx.1 1 Q = s → ∀ i, s.testBit i = true → i < Q := fun s hs i hi => by
      have := sub_iff.1 hs i hi
      rw [setIs_bit] at this
      exact (of_decide_eq_true this).1
    have hNlt := setIs_lt (x := gx.1) (c := 1) hQ
    have hMlt : mayN gx.1 c d Q < 256 := bitsN_lt 8 0 0 (by omega) (by omega)
    have ki := keep_iff (x := gx.1) (c := c) (d := d) (s := k) hQ
    have wb := wrd_le (l := l) (s := b) hQ hl
    have wk := wrd_le (l := l) (s := k) hQ hl
    have skip := kept_go h hd ht hc hcx hl hlx X n (k + 1) f1 f2 b (by omega) (by omega) (by omega) hb hbs
    have take := kept_go h hd ht hc hcx hl hlx X n (k + 1) f1 f2 k (by omega) (by omega) (by omega) (by omega)
    have x93 : ∀ b w : Nat, f5_bestKept_b93 (f5_bestKept_b45 f1) (nI (mayN gx.1 c d Q)) (nI b) (nI w) (nI k) gx = f5_bestKept_b45 f1 (nI (mayN gx.1 c d Q)) (nI b) (nI w) (nI (k + 1)) gx := fun b w => by
      unfold f5_bestKept_b93
      rw [nx_eq, nI_1]
    have m65 : ∀ b : Nat, f6_kept_b65 (f6_kept_b20 f2) X (nI k) (nI b) gm = f6_kept_b20 f2 X (nI b) (nI (k + 1)) gm := fun b => by
      unfold f6_kept_b65
      rw [nx_eq, nI_1]
    -- the class's step
    have sx : f5_bestKept_b45 (f1 + 1) (nI (mayN gx.1 c d Q)) (nI b) (nI (wrd l b Q)) (nI k) gx = if (k &&& mayN gx.1 c d Q = k ∧ cwi c k 8 0 = true) ∧ wrd l b Q < wrd l k Q then f5_bestKept_b45 f1 (nI (mayN gx.1 c d Q)) (nI k) (nI (wrd l k Q)) (nI (k + 1)) gx else f5_bestKept_b45 f1 (nI (mayN gx.1 c d Q)) (nI b) (nI (wrd l b Q)) (nI (k + 1)) gx := by
      rw [f5_bestKept_b45, if_neg (show ¬ (256 : Int32) ≤ nI k from nI_ge (b := 256) (by omega) (by omega))]
      by_cases q1 : k &&& mayN gx.1 c d Q = k
      · have hkb : ∀ i, k.testBit i = true → i < Q := fun i hi => by
          have := sub_iff.1 q1 i hi
          rw [mayN_bit hQ] at this
          exact (of_decide_eq_true this).1
        rw [if_pos ((tb_lo k (by omega) _ hMlt).2 q1), cwiX (by omega) hkb hc (fun q hq => (hcx q hq).1), bd2_some]
        by_cases q2 : cwi c k 8 0 = true
        · rw [if_pos q2, if_pos rfl, wordsX hQ (by omega) hkb hl (fun q hq => (hlx q hq).1), bd2_some, wordsX hQ (by omega) hkb hl (fun q hq => (hlx q hq).1), bd2_some, x93, x93]
          by_cases q3 : wrd l b Q < wrd l k Q
          · rw [if_neg (nI_ge q3 (by omega)), if_pos ⟨⟨q1, q2⟩, q3⟩]
          · rw [if_pos (nI_le (by omega) (by omega)), if_neg (fun z => q3 z.2)]
        · rw [if_neg q2, if_neg one_ne0.mp, x93, if_neg (fun z => q2 z.1.2)]
      · rw [if_neg (fun z => q1 ((tb_lo k (by omega) _ hMlt).1 z)), x93, if_neg (fun z => q1 z.1.1)]
    have sm : f6_kept_b20 (f2 + 1) X (nI b) (nI k) gm = if (k &&& setIs gx.1 1 Q = k ∧ agr c k d Q 0 = true) ∧ wrd l b Q < wrd l k Q then f6_kept_b20 f2 X (nI k) (nI (k + 1)) gm else f6_kept_b20 f2 X (nI b) (nI (k + 1)) gm := by
      rw [f6_kept_b20, if_neg (show ¬ (256 : Int32) ≤ nI k from nI_ge (b := 256) (by omega) (by omega)), thoseM h, bd2_some]
      by_cases q1 : k &&& setIs gx.1 1 Q = k
      · rw [if_pos ((tb_lo k (by omega) _ hNlt).2 q1), wordsM hQ hm (by omega) hl (fun q hq => (hlx q hq).2), bd2_some, wordsM hQ hm hb hl (fun q hq => (hlx q hq).2), bd2_some]
        by_cases q3 : wrd l b Q < wrd l k Q
        · rw [if_neg (nI_ge q3 (by omega)), agrM hQ hm (by omega) hd ht hc (fun q hq => (hcx q hq).2), bd2_some]
          by_cases q2 : agr c k d Q 0 = true
          · rw [if_pos q2, if_neg one_ne0.mp, m65, if_pos ⟨⟨q1, q2⟩, q3⟩]
          · rw [if_neg q2, if_pos rfl, f6_kept_b64, m65, if_neg (fun z => q2 z.1.2)]
        · rw [if_pos (nI_le (by omega) (by omega)), f6_kept_b64, m65, if_neg (fun z => q3 z.2)]
      · rw [if_neg (fun z => q1 ((tb_lo k (by omega) _ hNlt).1 z)), f6_kept_b64, m65, if_neg (fun z => q1 z.1.1)]
    by_cases q : (k &&& setIs gx.1 1 Q = k ∧ agr c k d Q 0 = true) ∧ wrd l b Q < wrd l k Q
    · obtain ⟨b', b1, b2, b3, b4⟩ := take q.1.1
      refine ⟨b', b1, b2, ?_, ?_⟩
      · rw [sx, if_pos ⟨ki.2 q.1, q.2⟩]
        exact b3
      · rw [sm, if_pos q]
        exact b4
    · obtain ⟨b', b1, b2, b3, b4⟩ := skip
      refine ⟨b', b1, b2, ?_, ?_⟩
      · rw [sx, if_neg (fun z => q ⟨ki.1 z.1, z.2⟩)]
        exact b3
      · rw [sm, if_neg q]
        exact b4
end KP
theorem s_kept (a : Int32) : St Rel (f5_kept a) (f6_kept a) := by
  refine St.ro (fun gx gm P Q A S h _ => ?_)
  obtain ⟨hx, hm, hQ⟩ := h.t.Q_
  obtain ⟨c, hc, hcx⟩ := h.t.clas
  obtain ⟨l, hl, hlx⟩ := h.t.lefs
  have hd := setIs_lt (x := gx.1) (c := 2) hQ
  have ht := thoseM (c := 2) h.t
  have best : ∀ X : Int32, ∃ b', b' < 256 ∧ (∀ i, b'.testBit i = true → i < Q) ∧ f5_bestKept gx = some (nI b', gx) ∧ f6_kept_b20 1000 X 0 0 (t0 gm) = (if X = 0 then some (nI b', t0 gm) else some (nI (wrd l b' Q), t0 gm)) := by
    intro X
    have z0 : 0 &&& setIs gx.1 1 Q = 0 := Nat.zero_and _
    obtain ⟨b', b1, b2, b3, b4⟩ := kept_go h.t hd ht hc hcx hl hlx X 256 0 1000 1000 0 (by omega) (by omega) (by omega) (by omega) z0
    refine ⟨b', b1, fun i hi => ?_, ?_, ?_⟩
    · have := sub_iff.1 b2 i hi
      rw [setIs_bit] at this
      exact (of_decide_eq_true this).1
    · have w0 : ∀ n k, wsum l 0 n k = 0 := fun n => by
        induction n with
        | zero => intro k; rfl
        | succ n ih =>
          intro k
          rw [wsum, ih, Nat.zero_testBit]
          rfl
      have m := maySet_x hx hQ hd hc (fun q hq => (hcx q hq).1) 8 0 1000 0 (by omega) (by omega)
      unfold f5_bestKept
      rw [thoseX hx hQ, bd2_some, show f5_bestKept_b10 1000 (nI (setIs gx.1 2 Q)) 0 0 gx = f5_bestKept_b10 1000 (nI (setIs gx.1 2 Q)) 0 (nI 0) gx from rfl, m, show bitsF (pMay gx.1 c (setIs gx.1 2 Q) Q) 8 0 0 = nI (mayN gx.1 c (setIs gx.1 2 Q) Q) from bitsF_N 8 0 0 (by omega)]
      rw [show wrd l 0 Q = 0 from w0 Q 0, nI_0] at b3
      exact b3
    · rw [nI_0] at b4
      exact b4
  unfold f5_kept f6_kept
  rw [nx_eq]
  rcases tri a (n := 2) (by omega) with ⟨k, hk, rfl⟩ | q
  · have ea : f6_in (nI k) 0 1 (t0 gm) = some (1, t0 gm) := in_ok (lo := 0) (hi := 1) (by omega) (by omega) (by omega)
    obtain ⟨b', b1, b2, b3, b4⟩ := best (nI k)
    rw [ea, bd2_some, if_neg one_ne0.mp, b4, b3, bd2_some, bd2_some, wordsX hQ b1 b2 hl (fun q hq => (hlx q hq).1), bd2_some]
    rcases (show k = 0 ∨ k = 1 by omega) with rfl | rfl
    · exact ⟨_, rfl, rfl⟩
    · exact ⟨_, rfl, rfl⟩
  · have hb : f6_in a 0 1 (t0 gm) = some (0, t0 gm) := in_no (hi := 1) (by omega) q
    have b0 : ¬ a = 0 := fun e => by subst e; exact absurd q (by decide)
    have b1 : ¬ a = 1 := fun e => by subst e; exact absurd q (by decide)
    rw [if_neg b0, if_neg b1, hb, bd2_some, if_pos rfl]
    exact ⟨_, rfl, rfl⟩
